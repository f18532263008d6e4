theorem dX9_duePaid_0 : decode cX9_duePaid 0 = .ok (.iconst 0, 1) := by decide +kernel
theorem dX9_duePaid_1 : decode cX9_duePaid 1 = .ok (.istore_n 1, 1) := by decide +kernel
theorem dX9_duePaid_2 : decode cX9_duePaid 2 = .ok (.iconst 0, 1) := by decide +kernel
theorem dX9_duePaid_3 : decode cX9_duePaid 3 = .ok (.istore_n 2, 1) := by decide +kernel
theorem dX9_duePaid_4 : decode cX9_duePaid 4 = .ok (.iload_n 2, 1) := by decide +kernel
theorem dX9_duePaid_5 : decode cX9_duePaid 5 = .ok (.aload_n 0, 1) := by decide +kernel
theorem dX9_duePaid_6 : decode cX9_duePaid 6 = .ok (.getfield 19, 3) := by decide +kernel
theorem dX9_duePaid_9 : decode cX9_duePaid 9 = .ok (.if_icmp .ge 21, 3) := by decide +kernel
theorem dX9_duePaid_12 : decode cX9_duePaid 12 = .ok (.iload_n 1, 1) := by decide +kernel
theorem dX9_duePaid_13 : decode cX9_duePaid 13 = .ok (.aload_n 0, 1) := by decide +kernel
theorem dX9_duePaid_14 : decode cX9_duePaid 14 = .ok (.getfield 11, 3) := by decide +kernel
theorem dX9_duePaid_17 : decode cX9_duePaid 17 = .ok (.bipush 25, 2) := by decide +kernel
theorem dX9_duePaid_19 : decode cX9_duePaid 19 = .ok (.iload_n 2, 1) := by decide +kernel
theorem dX9_duePaid_20 : decode cX9_duePaid 20 = .ok (.iadd, 1) := by decide +kernel
theorem dX9_duePaid_21 : decode cX9_duePaid 21 = .ok (.iaload, 1) := by decide +kernel
theorem dX9_duePaid_22 : decode cX9_duePaid 22 = .ok (.iadd, 1) := by decide +kernel
theorem dX9_duePaid_23 : decode cX9_duePaid 23 = .ok (.istore_n 1, 1) := by decide +kernel
theorem dX9_duePaid_24 : decode cX9_duePaid 24 = .ok (.iinc 2 1, 3) := by decide +kernel
theorem dX9_duePaid_27 : decode cX9_duePaid 27 = .ok (.goto (-23), 3) := by decide +kernel
theorem dX9_duePaid_30 : decode cX9_duePaid 30 = .ok (.iload_n 1, 1) := by decide +kernel
theorem dX9_duePaid_31 : decode cX9_duePaid 31 = .ok (.ireturn, 1) := by decide +kernel
set_option maxHeartbeats 4000000 in
set_option maxRecDepth 100000 in
theorem B_X9_duePaid_0 {d : Nat} {ro : Nat → Nat} {J : JT} {Z : Option Value → Hp → Prop} (g : xCtx RX9 cX9_duePaid 3 d 0 0 yX9_duePaid.name ro J) (hr : xRet cX9_duePaid (some .int) 0 0 Z J) {μ : Hp} {a0 : Nat} 
    (h : J μ 0 0 4 [(0, .ref a0), (1, .int 0), (2, .int 0)] []) :
    J μ 0 0 0 [(0, .ref a0)] [] := by
  refine r_iconst g 0 dX9_duePaid_0 (by decide) ?_
  refine r_istore_n g [(1, .int 0), (0, .ref a0)] dX9_duePaid_1 (by decide) rfl ?_
  refine r_iconst g 0 dX9_duePaid_2 (by decide) ?_
  refine r_istore_n g [(2, .int 0), (1, .int 0), (0, .ref a0)] dX9_duePaid_3 (by decide) rfl ?_
  refine r_sub g (lv' := [(0, .ref a0), (1, .int 0), (2, .int 0)]) (⟨rfl, rfl, rfl, trivial⟩) ?_
  exact h
set_option maxHeartbeats 4000000 in
set_option maxRecDepth 100000 in
theorem B_X9_duePaid_4 {d : Nat} {ro : Nat → Nat} {J : JT} {Z : Option Value → Hp → Prop} (g : xCtx RX9 cX9_duePaid 3 d 0 0 yX9_duePaid.name ro J) (hr : xRet cX9_duePaid (some .int) 0 0 Z J) {μ : Hp} {a0 : Nat} {x1 : Int32} {x2 : Int32} {a0_row : Nat} {N_a0_row : Nat} (hs_a0 : hS μ a0 = some (13, 5)) (hr_a0_row : hR μ a0 0 = some a0_row) (hs_a0_row : hS μ a0_row = some (0, N_a0_row))
    (h : (((hI μ a0 2) ≤ x2 → Z (some (.int x1)) μ) ∧ (¬ (hI μ a0 2) ≤ x2 → vp_in (25 + x2) N_a0_row ∧ J μ 0 0 4 [(0, .ref a0), (1, .int (x1 + (hI μ a0_row ((25 + x2).toNatClampNeg)))), (2, .int (x2 + 1))] []))) :
    J μ 0 0 4 [(0, .ref a0), (1, .int x1), (2, .int x2)] [] := by
  refine r_iload_n g dX9_duePaid_4 rfl ?_
  refine r_aload_n g dX9_duePaid_5 rfl ?_
  refine r_getI g fX9_19 rfl hs_a0 dX9_duePaid_6 ?_
  refine r_icmp_ge g 30 dX9_duePaid_9 (by decide) (fun c1 => ?_) (fun c1 => ?_)
  · replace h := h.1 c1
    refine r_iload_n g dX9_duePaid_30 rfl ?_
    exact hr.2.1 _ rfl _ _ _ _ _ _ dX9_duePaid_31 rfl (Nat.le_refl 0) (Nat.le_refl 0) h
  · replace h := h.2 c1
    refine r_iload_n g dX9_duePaid_12 rfl ?_
    refine r_aload_n g dX9_duePaid_13 rfl ?_
    refine r_getR g fX9_11 rfl hs_a0 hr_a0_row dX9_duePaid_14 ?_
    refine r_bipush g 25 dX9_duePaid_17 (by decide) ?_
    refine r_iload_n g dX9_duePaid_19 rfl ?_
    refine r_iadd g dX9_duePaid_20 ?_
    obtain ⟨hi2, h⟩ := h
    refine r_iaload g hs_a0_row hi2 dX9_duePaid_21 ?_
    refine r_iadd g dX9_duePaid_22 ?_
    refine r_istore_n g [(1, .int (x1 + (hI μ a0_row ((25 + x2).toNatClampNeg)))), (0, .ref a0), (2, .int x2)] dX9_duePaid_23 (by decide) rfl ?_
    refine r_iinc g (x2 + 1) [(2, .int (x2 + 1)), (1, .int (x1 + (hI μ a0_row ((25 + x2).toNatClampNeg)))), (0, .ref a0)] dX9_duePaid_24 rfl rfl (by decide) rfl ?_
    refine r_goto g 4 dX9_duePaid_27 (by decide) ?_
    refine r_sub g (lv' := [(0, .ref a0), (1, .int (x1 + (hI μ a0_row ((25 + x2).toNatClampNeg)))), (2, .int (x2 + 1))]) (⟨rfl, rfl, rfl, trivial⟩) ?_
    exact h
theorem I_X9_duePaid {d : Nat} {ro : Nat → Nat} {Z : Option Value → Hp → Prop} {μ : Hp} {a0 : Nat} (h : ∀ J, xCtx RX9 cX9_duePaid 3 d 0 0 yX9_duePaid.name ro J → xRet cX9_duePaid (some .int) 0 0 Z J → J μ 0 0 0 [(0, .ref a0)] []) : xC d yX9_duePaid cX9_duePaid 3 (some .int) 0 0 [.ref a0] μ ro Z :=
  xC_intro (own := RX9) (lv := [(0, .ref a0)]) (by decide) rfl (Nat.le_of_ble_eq_true rfl) rfl (fun J g hr => r_sub g (lv' := [(0, .ref a0)]) (⟨rfl, trivial⟩) (h J g hr))
theorem dX9_takenBy_0 : decode cX9_takenBy 0 = .ok (.iconst 0, 1) := by decide +kernel
theorem dX9_takenBy_1 : decode cX9_takenBy 1 = .ok (.istore_n 3, 1) := by decide +kernel
theorem dX9_takenBy_2 : decode cX9_takenBy 2 = .ok (.aload_n 0, 1) := by decide +kernel
theorem dX9_takenBy_3 : decode cX9_takenBy 3 = .ok (.getfield 15, 3) := by decide +kernel
theorem dX9_takenBy_6 : decode cX9_takenBy 6 = .ok (.istore 4, 2) := by decide +kernel
theorem dX9_takenBy_8 : decode cX9_takenBy 8 = .ok (.iconst 0, 1) := by decide +kernel
theorem dX9_takenBy_9 : decode cX9_takenBy 9 = .ok (.istore 5, 2) := by decide +kernel
theorem dX9_takenBy_11 : decode cX9_takenBy 11 = .ok (.iload 5, 2) := by decide +kernel
theorem dX9_takenBy_13 : decode cX9_takenBy 13 = .ok (.aload_n 0, 1) := by decide +kernel
theorem dX9_takenBy_14 : decode cX9_takenBy 14 = .ok (.getfield 19, 3) := by decide +kernel
theorem dX9_takenBy_17 : decode cX9_takenBy 17 = .ok (.if_icmp .ge 80, 3) := by decide +kernel
theorem dX9_takenBy_20 : decode cX9_takenBy 20 = .ok (.aload_n 0, 1) := by decide +kernel
theorem dX9_takenBy_21 : decode cX9_takenBy 21 = .ok (.getfield 11, 3) := by decide +kernel
theorem dX9_takenBy_24 : decode cX9_takenBy 24 = .ok (.iconst 0, 1) := by decide +kernel
theorem dX9_takenBy_25 : decode cX9_takenBy 25 = .ok (.iload 5, 2) := by decide +kernel
theorem dX9_takenBy_27 : decode cX9_takenBy 27 = .ok (.iadd, 1) := by decide +kernel
theorem dX9_takenBy_28 : decode cX9_takenBy 28 = .ok (.iaload, 1) := by decide +kernel
theorem dX9_takenBy_29 : decode cX9_takenBy 29 = .ok (.istore 6, 2) := by decide +kernel
theorem dX9_takenBy_31 : decode cX9_takenBy 31 = .ok (.iload_n 3, 1) := by decide +kernel
theorem dX9_takenBy_32 : decode cX9_takenBy 32 = .ok (.aload_n 1, 1) := by decide +kernel
theorem dX9_takenBy_33 : decode cX9_takenBy 33 = .ok (.getfield 28, 3) := by decide +kernel
theorem dX9_takenBy_36 : decode cX9_takenBy 36 = .ok (.iload 4, 2) := by decide +kernel
theorem dX9_takenBy_38 : decode cX9_takenBy 38 = .ok (.iaload, 1) := by decide +kernel
theorem dX9_takenBy_39 : decode cX9_takenBy 39 = .ok (.iload_n 2, 1) := by decide +kernel
theorem dX9_takenBy_40 : decode cX9_takenBy 40 = .ok (.if_icmp .ne 16, 3) := by decide +kernel
theorem dX9_takenBy_43 : decode cX9_takenBy 43 = .ok (.aload_n 0, 1) := by decide +kernel
theorem dX9_takenBy_44 : decode cX9_takenBy 44 = .ok (.getfield 11, 3) := by decide +kernel
theorem dX9_takenBy_47 : decode cX9_takenBy 47 = .ok (.bipush 20, 2) := by decide +kernel
theorem dX9_takenBy_49 : decode cX9_takenBy 49 = .ok (.iload 5, 2) := by decide +kernel
theorem dX9_takenBy_51 : decode cX9_takenBy 51 = .ok (.iadd, 1) := by decide +kernel
theorem dX9_takenBy_52 : decode cX9_takenBy 52 = .ok (.iaload, 1) := by decide +kernel
theorem dX9_takenBy_53 : decode cX9_takenBy 53 = .ok (.goto 4, 3) := by decide +kernel
theorem dX9_takenBy_56 : decode cX9_takenBy 56 = .ok (.iconst 0, 1) := by decide +kernel
theorem dX9_takenBy_57 : decode cX9_takenBy 57 = .ok (.iadd, 1) := by decide +kernel
theorem dX9_takenBy_58 : decode cX9_takenBy 58 = .ok (.istore_n 3, 1) := by decide +kernel
theorem dX9_takenBy_59 : decode cX9_takenBy 59 = .ok (.iload_n 3, 1) := by decide +kernel
theorem dX9_takenBy_60 : decode cX9_takenBy 60 = .ok (.aload_n 1, 1) := by decide +kernel
theorem dX9_takenBy_61 : decode cX9_takenBy 61 = .ok (.getfield 28, 3) := by decide +kernel
theorem dX9_takenBy_64 : decode cX9_takenBy 64 = .ok (.iload 6, 2) := by decide +kernel
theorem dX9_takenBy_66 : decode cX9_takenBy 66 = .ok (.iaload, 1) := by decide +kernel
theorem dX9_takenBy_67 : decode cX9_takenBy 67 = .ok (.iload_n 2, 1) := by decide +kernel
theorem dX9_takenBy_68 : decode cX9_takenBy 68 = .ok (.if_icmp .ne 16, 3) := by decide +kernel
theorem dX9_takenBy_71 : decode cX9_takenBy 71 = .ok (.aload_n 0, 1) := by decide +kernel
theorem dX9_takenBy_72 : decode cX9_takenBy 72 = .ok (.getfield 11, 3) := by decide +kernel
theorem dX9_takenBy_75 : decode cX9_takenBy 75 = .ok (.bipush 25, 2) := by decide +kernel
theorem dX9_takenBy_77 : decode cX9_takenBy 77 = .ok (.iload 5, 2) := by decide +kernel
theorem dX9_takenBy_79 : decode cX9_takenBy 79 = .ok (.iadd, 1) := by decide +kernel
theorem dX9_takenBy_80 : decode cX9_takenBy 80 = .ok (.iaload, 1) := by decide +kernel
theorem dX9_takenBy_81 : decode cX9_takenBy 81 = .ok (.goto 4, 3) := by decide +kernel
theorem dX9_takenBy_84 : decode cX9_takenBy 84 = .ok (.iconst 0, 1) := by decide +kernel
theorem dX9_takenBy_85 : decode cX9_takenBy 85 = .ok (.iadd, 1) := by decide +kernel
theorem dX9_takenBy_86 : decode cX9_takenBy 86 = .ok (.istore_n 3, 1) := by decide +kernel
theorem dX9_takenBy_87 : decode cX9_takenBy 87 = .ok (.iload 6, 2) := by decide +kernel
theorem dX9_takenBy_89 : decode cX9_takenBy 89 = .ok (.istore 4, 2) := by decide +kernel
theorem dX9_takenBy_91 : decode cX9_takenBy 91 = .ok (.iinc 5 1, 3) := by decide +kernel
theorem dX9_takenBy_94 : decode cX9_takenBy 94 = .ok (.goto (-83), 3) := by decide +kernel
theorem dX9_takenBy_97 : decode cX9_takenBy 97 = .ok (.iload_n 3, 1) := by decide +kernel
theorem dX9_takenBy_98 : decode cX9_takenBy 98 = .ok (.ireturn, 1) := by decide +kernel
set_option maxHeartbeats 4000000 in
set_option maxRecDepth 100000 in
theorem B_X9_takenBy_0 {d : Nat} {ro : Nat → Nat} {J : JT} {Z : Option Value → Hp → Prop} (g : xCtx RX9 cX9_takenBy 7 d 0 0 yX9_takenBy.name ro J) (hr : xRet cX9_takenBy (some .int) 0 0 Z J) {μ : Hp} {a0 : Nat} {a1 : Nat} {x2 : Int32} (hs_a0 : hS μ a0 = some (13, 5))
    (h : J μ 0 0 11 [(0, .ref a0), (1, .ref a1), (2, .int x2), (3, .int 0), (4, .int (hI μ a0 1)), (5, .int 0)] []) :
    J μ 0 0 0 [(0, .ref a0), (1, .ref a1), (2, .int x2)] [] := by
  refine r_iconst g 0 dX9_takenBy_0 (by decide) ?_
  refine r_istore_n g [(3, .int 0), (0, .ref a0), (1, .ref a1), (2, .int x2)] dX9_takenBy_1 (by decide) rfl ?_
  refine r_aload_n g dX9_takenBy_2 rfl ?_
  refine r_getI g fX9_15 rfl hs_a0 dX9_takenBy_3 ?_
  refine r_istore g [(4, .int (hI μ a0 1)), (3, .int 0), (0, .ref a0), (1, .ref a1), (2, .int x2)] dX9_takenBy_6 (by decide) rfl ?_
  refine r_iconst g 0 dX9_takenBy_8 (by decide) ?_
  refine r_istore g [(5, .int 0), (4, .int (hI μ a0 1)), (3, .int 0), (0, .ref a0), (1, .ref a1), (2, .int x2)] dX9_takenBy_9 (by decide) rfl ?_
  refine r_sub g (lv' := [(0, .ref a0), (1, .ref a1), (2, .int x2), (3, .int 0), (4, .int (hI μ a0 1)), (5, .int 0)]) (⟨rfl, rfl, rfl, rfl, rfl, rfl, trivial⟩) ?_
  exact h
set_option maxHeartbeats 4000000 in
set_option maxRecDepth 100000 in
theorem B_X9_takenBy_11 {d : Nat} {ro : Nat → Nat} {J : JT} {Z : Option Value → Hp → Prop} (g : xCtx RX9 cX9_takenBy 7 d 0 0 yX9_takenBy.name ro J) (hr : xRet cX9_takenBy (some .int) 0 0 Z J) {μ : Hp} {a0 : Nat} {a1 : Nat} {x2 : Int32} {x3 : Int32} {x4 : Int32} {x5 : Int32} {a0_row : Nat} {N_a0_row : Nat} {a1_landOf : Nat} {N_a1_landOf : Nat} (hs_a0 : hS μ a0 = some (13, 5)) (hr_a0_row : hR μ a0 0 = some a0_row) (hs_a0_row : hS μ a0_row = some (0, N_a0_row)) (hs_a1 : hS μ a1 = some (6, 9)) (hr_a1_landOf : hR μ a1 3 = some a1_landOf) (hs_a1_landOf : hS μ a1_landOf = some (0, N_a1_landOf))
    (h : (((hI μ a0 2) ≤ x5 → Z (some (.int x3)) μ) ∧ (¬ (hI μ a0 2) ≤ x5 → vp_in (0 + x5) N_a0_row ∧ vp_in x4 N_a1_landOf ∧ ((¬ (hI μ a1_landOf x4.toNatClampNeg) = x2 → vp_in (hI μ a0_row ((0 + x5).toNatClampNeg)) N_a1_landOf ∧ (∀ v6 : Int32, v6 = (hI μ a1_landOf ((hI μ a0_row ((0 + x5).toNatClampNeg)).toNatClampNeg)) → ((¬ v6 = x2 → J μ 0 0 11 [(0, .ref a0), (1, .ref a1), (2, .int x2), (3, .int ((x3 + 0) + 0)), (4, .int (hI μ a0_row ((0 + x5).toNatClampNeg))), (5, .int (x5 + 1))] []) ∧ (v6 = x2 → vp_in (25 + x5) N_a0_row ∧ J μ 0 0 11 [(0, .ref a0), (1, .ref a1), (2, .int x2), (3, .int ((x3 + 0) + (hI μ a0_row ((25 + x5).toNatClampNeg)))), (4, .int (hI μ a0_row ((0 + x5).toNatClampNeg))), (5, .int (x5 + 1))] [])))) ∧ ((hI μ a1_landOf x4.toNatClampNeg) = x2 → vp_in (20 + x5) N_a0_row ∧ vp_in (hI μ a0_row ((0 + x5).toNatClampNeg)) N_a1_landOf ∧ (∀ v11 : Int32, v11 = (hI μ a1_landOf ((hI μ a0_row ((0 + x5).toNatClampNeg)).toNatClampNeg)) → ((¬ v11 = x2 → J μ 0 0 11 [(0, .ref a0), (1, .ref a1), (2, .int x2), (3, .int ((x3 + (hI μ a0_row ((20 + x5).toNatClampNeg))) + 0)), (4, .int (hI μ a0_row ((0 + x5).toNatClampNeg))), (5, .int (x5 + 1))] []) ∧ (v11 = x2 → vp_in (25 + x5) N_a0_row ∧ (∀ v14 : Int32, v14 = ((x3 + (hI μ a0_row ((20 + x5).toNatClampNeg))) + (hI μ a0_row ((25 + x5).toNatClampNeg))) → J μ 0 0 11 [(0, .ref a0), (1, .ref a1), (2, .int x2), (3, .int v14), (4, .int (hI μ a0_row ((0 + x5).toNatClampNeg))), (5, .int (x5 + 1))] []))))))))) :
    J μ 0 0 11 [(0, .ref a0), (1, .ref a1), (2, .int x2), (3, .int x3), (4, .int x4), (5, .int x5)] [] := by
  refine r_iload g dX9_takenBy_11 rfl ?_
  refine r_aload_n g dX9_takenBy_13 rfl ?_
  refine r_getI g fX9_19 rfl hs_a0 dX9_takenBy_14 ?_
  refine r_icmp_ge g 97 dX9_takenBy_17 (by decide) (fun c1 => ?_) (fun c1 => ?_)
  · replace h := h.1 c1
    refine r_iload_n g dX9_takenBy_97 rfl ?_
    exact hr.2.1 _ rfl _ _ _ _ _ _ dX9_takenBy_98 rfl (Nat.le_refl 0) (Nat.le_refl 0) h
  · replace h := h.2 c1
    refine r_aload_n g dX9_takenBy_20 rfl ?_
    refine r_getR g fX9_11 rfl hs_a0 hr_a0_row dX9_takenBy_21 ?_
    refine r_iconst g 0 dX9_takenBy_24 (by decide) ?_
    refine r_iload g dX9_takenBy_25 rfl ?_
    refine r_iadd g dX9_takenBy_27 ?_
    obtain ⟨hi2, h⟩ := h
    refine r_iaload g hs_a0_row hi2 dX9_takenBy_28 ?_
    refine r_istore g [(6, .int (hI μ a0_row ((0 + x5).toNatClampNeg))), (0, .ref a0), (1, .ref a1), (2, .int x2), (3, .int x3), (4, .int x4), (5, .int x5)] dX9_takenBy_29 (by decide) rfl ?_
    refine r_iload_n g dX9_takenBy_31 rfl ?_
    refine r_aload_n g dX9_takenBy_32 rfl ?_
    refine r_getR g fX9_28 rfl hs_a1 hr_a1_landOf dX9_takenBy_33 ?_
    refine r_iload g dX9_takenBy_36 rfl ?_
    obtain ⟨hi3, h⟩ := h
    refine r_iaload g hs_a1_landOf hi3 dX9_takenBy_38 ?_
    refine r_iload_n g dX9_takenBy_39 rfl ?_
    refine r_icmp_ne g 56 dX9_takenBy_40 (by decide) (fun c4 => ?_) (fun c4 => ?_)
    · replace h := h.1 c4
      refine r_iconst g 0 dX9_takenBy_56 (by decide) ?_
      refine r_iadd g dX9_takenBy_57 ?_
      refine r_istore_n g [(3, .int (x3 + 0)), (6, .int (hI μ a0_row ((0 + x5).toNatClampNeg))), (0, .ref a0), (1, .ref a1), (2, .int x2), (4, .int x4), (5, .int x5)] dX9_takenBy_58 (by decide) rfl ?_
      refine r_iload_n g dX9_takenBy_59 rfl ?_
      refine r_aload_n g dX9_takenBy_60 rfl ?_
      refine r_getR g fX9_28 rfl hs_a1 hr_a1_landOf dX9_takenBy_61 ?_
      refine r_iload g dX9_takenBy_64 rfl ?_
      obtain ⟨hi5, h⟩ := h
      refine r_iaload g hs_a1_landOf hi5 dX9_takenBy_66 ?_
      refine r_nmI (fun v6 ev6 => ?_)
      replace h := h v6 ev6
      refine r_iload_n g dX9_takenBy_67 rfl ?_
      refine r_icmp_ne g 84 dX9_takenBy_68 (by decide) (fun c7 => ?_) (fun c7 => ?_)
      · replace h := h.1 c7
        refine r_iconst g 0 dX9_takenBy_84 (by decide) ?_
        refine r_iadd g dX9_takenBy_85 ?_
        refine r_istore_n g [(3, .int ((x3 + 0) + 0)), (6, .int (hI μ a0_row ((0 + x5).toNatClampNeg))), (0, .ref a0), (1, .ref a1), (2, .int x2), (4, .int x4), (5, .int x5)] dX9_takenBy_86 (by decide) rfl ?_
        refine r_iload g dX9_takenBy_87 rfl ?_
        refine r_istore g [(4, .int (hI μ a0_row ((0 + x5).toNatClampNeg))), (3, .int ((x3 + 0) + 0)), (6, .int (hI μ a0_row ((0 + x5).toNatClampNeg))), (0, .ref a0), (1, .ref a1), (2, .int x2), (5, .int x5)] dX9_takenBy_89 (by decide) rfl ?_
        refine r_iinc g (x5 + 1) [(5, .int (x5 + 1)), (4, .int (hI μ a0_row ((0 + x5).toNatClampNeg))), (3, .int ((x3 + 0) + 0)), (6, .int (hI μ a0_row ((0 + x5).toNatClampNeg))), (0, .ref a0), (1, .ref a1), (2, .int x2)] dX9_takenBy_91 rfl rfl (by decide) rfl ?_
        refine r_goto g 11 dX9_takenBy_94 (by decide) ?_
        refine r_sub g (lv' := [(0, .ref a0), (1, .ref a1), (2, .int x2), (3, .int ((x3 + 0) + 0)), (4, .int (hI μ a0_row ((0 + x5).toNatClampNeg))), (5, .int (x5 + 1))]) (⟨rfl, rfl, rfl, rfl, rfl, rfl, trivial⟩) ?_
        exact h
      · replace h := h.2 c7
        refine r_aload_n g dX9_takenBy_71 rfl ?_
        refine r_getR g fX9_11 rfl hs_a0 hr_a0_row dX9_takenBy_72 ?_
        refine r_bipush g 25 dX9_takenBy_75 (by decide) ?_
        refine r_iload g dX9_takenBy_77 rfl ?_
        refine r_iadd g dX9_takenBy_79 ?_
        obtain ⟨hi8, h⟩ := h
        refine r_iaload g hs_a0_row hi8 dX9_takenBy_80 ?_
        refine r_goto g 85 dX9_takenBy_81 (by decide) ?_
        refine r_iadd g dX9_takenBy_85 ?_
        refine r_istore_n g [(3, .int ((x3 + 0) + (hI μ a0_row ((25 + x5).toNatClampNeg)))), (6, .int (hI μ a0_row ((0 + x5).toNatClampNeg))), (0, .ref a0), (1, .ref a1), (2, .int x2), (4, .int x4), (5, .int x5)] dX9_takenBy_86 (by decide) rfl ?_
        refine r_iload g dX9_takenBy_87 rfl ?_
        refine r_istore g [(4, .int (hI μ a0_row ((0 + x5).toNatClampNeg))), (3, .int ((x3 + 0) + (hI μ a0_row ((25 + x5).toNatClampNeg)))), (6, .int (hI μ a0_row ((0 + x5).toNatClampNeg))), (0, .ref a0), (1, .ref a1), (2, .int x2), (5, .int x5)] dX9_takenBy_89 (by decide) rfl ?_
        refine r_iinc g (x5 + 1) [(5, .int (x5 + 1)), (4, .int (hI μ a0_row ((0 + x5).toNatClampNeg))), (3, .int ((x3 + 0) + (hI μ a0_row ((25 + x5).toNatClampNeg)))), (6, .int (hI μ a0_row ((0 + x5).toNatClampNeg))), (0, .ref a0), (1, .ref a1), (2, .int x2)] dX9_takenBy_91 rfl rfl (by decide) rfl ?_
        refine r_goto g 11 dX9_takenBy_94 (by decide) ?_
        refine r_sub g (lv' := [(0, .ref a0), (1, .ref a1), (2, .int x2), (3, .int ((x3 + 0) + (hI μ a0_row ((25 + x5).toNatClampNeg)))), (4, .int (hI μ a0_row ((0 + x5).toNatClampNeg))), (5, .int (x5 + 1))]) (⟨rfl, rfl, rfl, rfl, rfl, rfl, trivial⟩) ?_
        exact h
    · replace h := h.2 c4
      refine r_aload_n g dX9_takenBy_43 rfl ?_
      refine r_getR g fX9_11 rfl hs_a0 hr_a0_row dX9_takenBy_44 ?_
      refine r_bipush g 20 dX9_takenBy_47 (by decide) ?_
      refine r_iload g dX9_takenBy_49 rfl ?_
      refine r_iadd g dX9_takenBy_51 ?_
      obtain ⟨hi9, h⟩ := h
      refine r_iaload g hs_a0_row hi9 dX9_takenBy_52 ?_
      refine r_goto g 57 dX9_takenBy_53 (by decide) ?_
      refine r_iadd g dX9_takenBy_57 ?_
      refine r_istore_n g [(3, .int (x3 + (hI μ a0_row ((20 + x5).toNatClampNeg)))), (6, .int (hI μ a0_row ((0 + x5).toNatClampNeg))), (0, .ref a0), (1, .ref a1), (2, .int x2), (4, .int x4), (5, .int x5)] dX9_takenBy_58 (by decide) rfl ?_
      refine r_iload_n g dX9_takenBy_59 rfl ?_
      refine r_aload_n g dX9_takenBy_60 rfl ?_
      refine r_getR g fX9_28 rfl hs_a1 hr_a1_landOf dX9_takenBy_61 ?_
      refine r_iload g dX9_takenBy_64 rfl ?_
      obtain ⟨hi10, h⟩ := h
      refine r_iaload g hs_a1_landOf hi10 dX9_takenBy_66 ?_
      refine r_nmI (fun v11 ev11 => ?_)
      replace h := h v11 ev11
      refine r_iload_n g dX9_takenBy_67 rfl ?_
      refine r_icmp_ne g 84 dX9_takenBy_68 (by decide) (fun c12 => ?_) (fun c12 => ?_)
      · replace h := h.1 c12
        refine r_iconst g 0 dX9_takenBy_84 (by decide) ?_
        refine r_iadd g dX9_takenBy_85 ?_
        refine r_istore_n g [(3, .int ((x3 + (hI μ a0_row ((20 + x5).toNatClampNeg))) + 0)), (6, .int (hI μ a0_row ((0 + x5).toNatClampNeg))), (0, .ref a0), (1, .ref a1), (2, .int x2), (4, .int x4), (5, .int x5)] dX9_takenBy_86 (by decide) rfl ?_
        refine r_iload g dX9_takenBy_87 rfl ?_
        refine r_istore g [(4, .int (hI μ a0_row ((0 + x5).toNatClampNeg))), (3, .int ((x3 + (hI μ a0_row ((20 + x5).toNatClampNeg))) + 0)), (6, .int (hI μ a0_row ((0 + x5).toNatClampNeg))), (0, .ref a0), (1, .ref a1), (2, .int x2), (5, .int x5)] dX9_takenBy_89 (by decide) rfl ?_
        refine r_iinc g (x5 + 1) [(5, .int (x5 + 1)), (4, .int (hI μ a0_row ((0 + x5).toNatClampNeg))), (3, .int ((x3 + (hI μ a0_row ((20 + x5).toNatClampNeg))) + 0)), (6, .int (hI μ a0_row ((0 + x5).toNatClampNeg))), (0, .ref a0), (1, .ref a1), (2, .int x2)] dX9_takenBy_91 rfl rfl (by decide) rfl ?_
        refine r_goto g 11 dX9_takenBy_94 (by decide) ?_
        refine r_sub g (lv' := [(0, .ref a0), (1, .ref a1), (2, .int x2), (3, .int ((x3 + (hI μ a0_row ((20 + x5).toNatClampNeg))) + 0)), (4, .int (hI μ a0_row ((0 + x5).toNatClampNeg))), (5, .int (x5 + 1))]) (⟨rfl, rfl, rfl, rfl, rfl, rfl, trivial⟩) ?_
        exact h
      · replace h := h.2 c12
        refine r_aload_n g dX9_takenBy_71 rfl ?_
        refine r_getR g fX9_11 rfl hs_a0 hr_a0_row dX9_takenBy_72 ?_
        refine r_bipush g 25 dX9_takenBy_75 (by decide) ?_
        refine r_iload g dX9_takenBy_77 rfl ?_
        refine r_iadd g dX9_takenBy_79 ?_
        obtain ⟨hi13, h⟩ := h
        refine r_iaload g hs_a0_row hi13 dX9_takenBy_80 ?_
        refine r_goto g 85 dX9_takenBy_81 (by decide) ?_
        refine r_iadd g dX9_takenBy_85 ?_
        refine r_nmI (fun v14 ev14 => ?_)
        replace h := h v14 ev14
        refine r_istore_n g [(3, .int v14), (6, .int (hI μ a0_row ((0 + x5).toNatClampNeg))), (0, .ref a0), (1, .ref a1), (2, .int x2), (4, .int x4), (5, .int x5)] dX9_takenBy_86 (by decide) rfl ?_
        refine r_iload g dX9_takenBy_87 rfl ?_
        refine r_istore g [(4, .int (hI μ a0_row ((0 + x5).toNatClampNeg))), (3, .int v14), (6, .int (hI μ a0_row ((0 + x5).toNatClampNeg))), (0, .ref a0), (1, .ref a1), (2, .int x2), (5, .int x5)] dX9_takenBy_89 (by decide) rfl ?_
        refine r_iinc g (x5 + 1) [(5, .int (x5 + 1)), (4, .int (hI μ a0_row ((0 + x5).toNatClampNeg))), (3, .int v14), (6, .int (hI μ a0_row ((0 + x5).toNatClampNeg))), (0, .ref a0), (1, .ref a1), (2, .int x2)] dX9_takenBy_91 rfl rfl (by decide) rfl ?_
        refine r_goto g 11 dX9_takenBy_94 (by decide) ?_
        refine r_sub g (lv' := [(0, .ref a0), (1, .ref a1), (2, .int x2), (3, .int v14), (4, .int (hI μ a0_row ((0 + x5).toNatClampNeg))), (5, .int (x5 + 1))]) (⟨rfl, rfl, rfl, rfl, rfl, rfl, trivial⟩) ?_
        exact h
theorem I_X9_takenBy {d : Nat} {ro : Nat → Nat} {Z : Option Value → Hp → Prop} {μ : Hp} {a0 : Nat} {a1 : Nat} {x2 : Int32} (h : ∀ J, xCtx RX9 cX9_takenBy 7 d 0 0 yX9_takenBy.name ro J → xRet cX9_takenBy (some .int) 0 0 Z J → J μ 0 0 0 [(0, .ref a0), (1, .ref a1), (2, .int x2)] []) : xC d yX9_takenBy cX9_takenBy 7 (some .int) 0 0 [.ref a0, .ref a1, .int x2] μ ro Z :=
  xC_intro (own := RX9) (lv := [(0, .ref a0), (1, .ref a1), (2, .int x2)]) (by decide) rfl (Nat.le_of_ble_eq_true rfl) rfl (fun J g hr => r_sub g (lv' := [(0, .ref a0), (1, .ref a1), (2, .int x2)]) (⟨rfl, rfl, rfl, trivial⟩) (h J g hr))
theorem dX9_tell_0 : decode cX9_tell 0 = .ok (.aload_n 1, 1) := by decide +kernel
theorem dX9_tell_1 : decode cX9_tell 1 = .ok (.aload_n 2, 1) := by decide +kernel
theorem dX9_tell_2 : decode cX9_tell 2 = .ok (.getfield 33, 3) := by decide +kernel
theorem dX9_tell_5 : decode cX9_tell 5 = .ok (.aload_n 0, 1) := by decide +kernel
theorem dX9_tell_6 : decode cX9_tell 6 = .ok (.getfield 15, 3) := by decide +kernel
theorem dX9_tell_9 : decode cX9_tell 9 = .ok (.laload, 1) := by decide +kernel
theorem dX9_tell_10 : decode cX9_tell 10 = .ok (.invokestatic 37, 3) := by decide +kernel
theorem dX9_tell_13 : decode cX9_tell 13 = .ok (.iconst 0, 1) := by decide +kernel
theorem dX9_tell_14 : decode cX9_tell 14 = .ok (.istore_n 3, 1) := by decide +kernel
theorem dX9_tell_15 : decode cX9_tell 15 = .ok (.iload_n 3, 1) := by decide +kernel
theorem dX9_tell_16 : decode cX9_tell 16 = .ok (.aload_n 0, 1) := by decide +kernel
theorem dX9_tell_17 : decode cX9_tell 17 = .ok (.getfield 19, 3) := by decide +kernel
theorem dX9_tell_20 : decode cX9_tell 20 = .ok (.if_icmp .ge 119, 3) := by decide +kernel
theorem dX9_tell_23 : decode cX9_tell 23 = .ok (.aload_n 0, 1) := by decide +kernel
theorem dX9_tell_24 : decode cX9_tell 24 = .ok (.getfield 11, 3) := by decide +kernel
theorem dX9_tell_27 : decode cX9_tell 27 = .ok (.iconst 5, 1) := by decide +kernel
theorem dX9_tell_28 : decode cX9_tell 28 = .ok (.iload_n 3, 1) := by decide +kernel
theorem dX9_tell_29 : decode cX9_tell 29 = .ok (.iadd, 1) := by decide +kernel
theorem dX9_tell_30 : decode cX9_tell 30 = .ok (.iaload, 1) := by decide +kernel
theorem dX9_tell_31 : decode cX9_tell 31 = .ok (.istore 4, 2) := by decide +kernel
theorem dX9_tell_33 : decode cX9_tell 33 = .ok (.aload_n 1, 1) := by decide +kernel
theorem dX9_tell_34 : decode cX9_tell 34 = .ok (.ldc 41, 2) := by decide +kernel
theorem dX9_tell_36 : decode cX9_tell 36 = .ok (.invokevirtual 43, 3) := by decide +kernel
theorem dX9_tell_39 : decode cX9_tell 39 = .ok (.iload 4, 2) := by decide +kernel
theorem dX9_tell_41 : decode cX9_tell 41 = .ok (.bipush 10, 2) := by decide +kernel
theorem dX9_tell_43 : decode cX9_tell 43 = .ok (.idiv, 1) := by decide +kernel
theorem dX9_tell_44 : decode cX9_tell 44 = .ok (.invokevirtual 49, 3) := by decide +kernel
theorem dX9_tell_47 : decode cX9_tell 47 = .ok (.pop, 1) := by decide +kernel
theorem dX9_tell_48 : decode cX9_tell 48 = .ok (.iload 4, 2) := by decide +kernel
theorem dX9_tell_50 : decode cX9_tell 50 = .ok (.bipush 10, 2) := by decide +kernel
theorem dX9_tell_52 : decode cX9_tell 52 = .ok (.irem, 1) := by decide +kernel
theorem dX9_tell_53 : decode cX9_tell 53 = .ok (.ifCond .eq 18, 3) := by decide +kernel
theorem dX9_tell_56 : decode cX9_tell 56 = .ok (.aload_n 1, 1) := by decide +kernel
theorem dX9_tell_57 : decode cX9_tell 57 = .ok (.bipush 46, 2) := by decide +kernel
theorem dX9_tell_59 : decode cX9_tell 59 = .ok (.invokevirtual 52, 3) := by decide +kernel
theorem dX9_tell_62 : decode cX9_tell 62 = .ok (.iload 4, 2) := by decide +kernel
theorem dX9_tell_64 : decode cX9_tell 64 = .ok (.bipush 10, 2) := by decide +kernel
theorem dX9_tell_66 : decode cX9_tell 66 = .ok (.irem, 1) := by decide +kernel
theorem dX9_tell_67 : decode cX9_tell 67 = .ok (.invokevirtual 49, 3) := by decide +kernel
theorem dX9_tell_70 : decode cX9_tell 70 = .ok (.pop, 1) := by decide +kernel
theorem dX9_tell_71 : decode cX9_tell 71 = .ok (.aload_n 1, 1) := by decide +kernel
theorem dX9_tell_72 : decode cX9_tell 72 = .ok (.bipush 37, 2) := by decide +kernel
theorem dX9_tell_74 : decode cX9_tell 74 = .ok (.invokevirtual 52, 3) := by decide +kernel
theorem dX9_tell_77 : decode cX9_tell 77 = .ok (.pop, 1) := by decide +kernel
theorem dX9_tell_78 : decode cX9_tell 78 = .ok (.aload_n 0, 1) := by decide +kernel
theorem dX9_tell_79 : decode cX9_tell 79 = .ok (.getfield 11, 3) := by decide +kernel
theorem dX9_tell_82 : decode cX9_tell 82 = .ok (.bipush 10, 2) := by decide +kernel
theorem dX9_tell_84 : decode cX9_tell 84 = .ok (.iload_n 3, 1) := by decide +kernel
theorem dX9_tell_85 : decode cX9_tell 85 = .ok (.iadd, 1) := by decide +kernel
theorem dX9_tell_86 : decode cX9_tell 86 = .ok (.iaload, 1) := by decide +kernel
theorem dX9_tell_87 : decode cX9_tell 87 = .ok (.ifCond .eq 22, 3) := by decide +kernel
theorem dX9_tell_90 : decode cX9_tell 90 = .ok (.aload_n 1, 1) := by decide +kernel
theorem dX9_tell_91 : decode cX9_tell 91 = .ok (.bipush 33, 2) := by decide +kernel
theorem dX9_tell_93 : decode cX9_tell 93 = .ok (.invokevirtual 52, 3) := by decide +kernel
theorem dX9_tell_96 : decode cX9_tell 96 = .ok (.aload_n 0, 1) := by decide +kernel
theorem dX9_tell_97 : decode cX9_tell 97 = .ok (.getfield 11, 3) := by decide +kernel
theorem dX9_tell_100 : decode cX9_tell 100 = .ok (.bipush 10, 2) := by decide +kernel
theorem dX9_tell_102 : decode cX9_tell 102 = .ok (.iload_n 3, 1) := by decide +kernel
theorem dX9_tell_103 : decode cX9_tell 103 = .ok (.iadd, 1) := by decide +kernel
theorem dX9_tell_104 : decode cX9_tell 104 = .ok (.iaload, 1) := by decide +kernel
theorem dX9_tell_105 : decode cX9_tell 105 = .ok (.invokevirtual 49, 3) := by decide +kernel
theorem dX9_tell_108 : decode cX9_tell 108 = .ok (.pop, 1) := by decide +kernel
theorem dX9_tell_109 : decode cX9_tell 109 = .ok (.aload_n 1, 1) := by decide +kernel
theorem dX9_tell_110 : decode cX9_tell 110 = .ok (.bipush 32, 2) := by decide +kernel
theorem dX9_tell_112 : decode cX9_tell 112 = .ok (.invokevirtual 52, 3) := by decide +kernel
theorem dX9_tell_115 : decode cX9_tell 115 = .ok (.pop, 1) := by decide +kernel
theorem dX9_tell_116 : decode cX9_tell 116 = .ok (.aload_n 1, 1) := by decide +kernel
theorem dX9_tell_117 : decode cX9_tell 117 = .ok (.aload_n 2, 1) := by decide +kernel
theorem dX9_tell_118 : decode cX9_tell 118 = .ok (.getfield 33, 3) := by decide +kernel
theorem dX9_tell_121 : decode cX9_tell 121 = .ok (.aload_n 0, 1) := by decide +kernel
theorem dX9_tell_122 : decode cX9_tell 122 = .ok (.getfield 11, 3) := by decide +kernel
theorem dX9_tell_125 : decode cX9_tell 125 = .ok (.iconst 0, 1) := by decide +kernel
theorem dX9_tell_126 : decode cX9_tell 126 = .ok (.iload_n 3, 1) := by decide +kernel
theorem dX9_tell_127 : decode cX9_tell 127 = .ok (.iadd, 1) := by decide +kernel
theorem dX9_tell_128 : decode cX9_tell 128 = .ok (.iaload, 1) := by decide +kernel
theorem dX9_tell_129 : decode cX9_tell 129 = .ok (.laload, 1) := by decide +kernel
theorem dX9_tell_130 : decode cX9_tell 130 = .ok (.invokestatic 37, 3) := by decide +kernel
theorem dX9_tell_133 : decode cX9_tell 133 = .ok (.iinc 3 1, 3) := by decide +kernel
theorem dX9_tell_136 : decode cX9_tell 136 = .ok (.goto (-121), 3) := by decide +kernel
theorem dX9_tell_139 : decode cX9_tell 139 = .ok (.return_, 1) := by decide +kernel
set_option maxHeartbeats 4000000 in
set_option maxRecDepth 100000 in
theorem B_X9_tell_0 {d : Nat} {ro : Nat → Nat} {J : JT} {Z : Option Value → Hp → Prop} (g : xCtx RX9 cX9_tell 5 d 0 0 yX9_tell.name ro J) (hr : xRet cX9_tell none 0 0 Z J) {μ : Hp} {a0 : Nat} {a1 : Nat} {a2 : Nat} {a2_firmNames : Nat} {N_a2_firmNames : Nat} (hs_a2 : hS μ a2 = some (6, 9)) (hr_a2_firmNames : hR μ a2 1 = some a2_firmNames) (hs_a0 : hS μ a0 = some (13, 5)) (hs_a2_firmNames : hS μ a2_firmNames = some (2, N_a2_firmNames))
    (h : vp_in (hI μ a0 1) N_a2_firmNames ∧ xCall d yX9_putName cX9_putName 5 none [.ref a1, .long (hL μ a2_firmNames ((hI μ a0 1).toNatClampNeg))] μ ro (fun r2 μ3 => r2 = none ∧ J μ3 0 0 15 [(0, .ref a0), (1, .ref a1), (2, .ref a2), (3, .int 0)] [])) :
    J μ 0 0 0 [(0, .ref a0), (1, .ref a1), (2, .ref a2)] [] := by
  refine r_aload_n g dX9_tell_0 rfl ?_
  refine r_aload_n g dX9_tell_1 rfl ?_
  refine r_getR g fX9_33 rfl hs_a2 hr_a2_firmNames dX9_tell_2 ?_
  refine r_aload_n g dX9_tell_5 rfl ?_
  refine r_getI g fX9_15 rfl hs_a0 dX9_tell_6 ?_
  obtain ⟨hi1, h⟩ := h
  refine r_laload g hs_a2_firmNames hi1 dX9_tell_9 ?_
  obtain ⟨d1, Z1, hc1, hd1, h1⟩ := h
  refine r_callS (st := []) (As := [.ref a1, .long (hL μ a2_firmNames ((hI μ a0 1).toNatClampNeg))]) g sX9_37 iX9_putName rfl (Nat.le_of_ble_eq_true rfl) dX9_tell_10 hd1 (Nat.le_refl 0) (Nat.le_refl 0) hc1 (fun r2 μ3 hZ1 => ?_)
  replace h := h1 _ _ hZ1
  clear h1 hc1 hd1 hZ1 Z1 d1
  obtain ⟨rfl, h⟩ := h
  refine r_iconst g 0 dX9_tell_13 (by decide) ?_
  refine r_istore_n g [(3, .int 0), (0, .ref a0), (1, .ref a1), (2, .ref a2)] dX9_tell_14 (by decide) rfl ?_
  refine r_sub g (lv' := [(0, .ref a0), (1, .ref a1), (2, .ref a2), (3, .int 0)]) (⟨rfl, rfl, rfl, rfl, trivial⟩) ?_
  exact h
set_option maxHeartbeats 4000000 in
set_option maxRecDepth 100000 in
theorem B_X9_tell_15 {d : Nat} {ro : Nat → Nat} {J : JT} {Z : Option Value → Hp → Prop} (g : xCtx RX9 cX9_tell 5 d 0 0 yX9_tell.name ro J) (hr : xRet cX9_tell none 0 0 Z J) {μ : Hp} {a0 : Nat} {a1 : Nat} {a2 : Nat} {x3 : Int32} {a0_row : Nat} {N_a0_row : Nat} (hs_a0 : hS μ a0 = some (13, 5)) (hr_a0_row : hR μ a0 0 = some a0_row) (hs_a0_row : hS μ a0_row = some (0, N_a0_row)) (hs_a1 : hS μ a1 = some (4, 4))
    (h : (((hI μ a0 2) ≤ x3 → Z none μ) ∧ (¬ (hI μ a0 2) ≤ x3 → vp_in (5 + x3) N_a0_row ∧ xCall d yJ4_append_15ec4 cJ4_append_15ec4 2 (some (.object "java/lang/StringBuilder")) [.ref a1, .ref (ro 7)] μ ro (fun r3 μ4 => ∃ y5 : Nat, r3 = some (.ref y5) ∧ hS μ4 y5 = some (4, 4) ∧ xCall d yJ4_append_bf812 cJ4_append_bf812 2 (some (.object "java/lang/StringBuilder")) [.ref y5, .int ((hI μ a0_row ((5 + x3).toNatClampNeg)) / 10)] μ4 ro (fun r6 μ7 => ∃ y8 : Nat, r6 = some (.ref y8) ∧ (∀ v9 : Int32, v9 = ((hI μ a0_row ((5 + x3).toNatClampNeg)) - (hI μ a0_row ((5 + x3).toNatClampNeg)) / 10 * 10) → ((v9 = 0 → hS μ7 a1 = some (4, 4) ∧ xCall d yJ4_append_cf468 cJ4_append_cf468 2 (some (.object "java/lang/StringBuilder")) [.ref a1, .int 37] μ7 ro (fun r11 μ12 => ∃ y13 : Nat, r11 = some (.ref y13) ∧ hS μ12 a0 = some (13, 5) ∧ ∃ row_14 : Nat, hR μ12 a0 0 = some row_14 ∧ ∃ N15 : Nat, hS μ12 row_14 = some (0, N15) ∧ vp_in (10 + x3) N15 ∧ (((hI μ12 row_14 ((10 + x3).toNatClampNeg)) = 0 → hS μ12 a1 = some (4, 4) ∧ xCall d yJ4_append_cf468 cJ4_append_cf468 2 (some (.object "java/lang/StringBuilder")) [.ref a1, .int 32] μ12 ro (fun r18 μ19 => ∃ y20 : Nat, r18 = some (.ref y20) ∧ hS μ19 a2 = some (6, 9) ∧ ∃ firmNames_21 : Nat, hR μ19 a2 1 = some firmNames_21 ∧ hS μ19 a0 = some (13, 5) ∧ ∃ row_22 : Nat, hR μ19 a0 0 = some row_22 ∧ ∃ N23 : Nat, hS μ19 row_22 = some (0, N23) ∧ vp_in (0 + x3) N23 ∧ ∃ N25 : Nat, hS μ19 firmNames_21 = some (2, N25) ∧ vp_in (hI μ19 row_22 ((0 + x3).toNatClampNeg)) N25 ∧ (∀ v27 : Int64, v27 = (hL μ19 firmNames_21 ((hI μ19 row_22 ((0 + x3).toNatClampNeg)).toNatClampNeg)) → xCall d yX9_putName cX9_putName 5 none [.ref a1, .long v27] μ19 ro (fun r28 μ29 => r28 = none ∧ J μ29 0 0 15 [(0, .ref a0), (1, .ref a1), (2, .ref a2), (3, .int (x3 + 1))] [])))) ∧ (¬ (hI μ12 row_14 ((10 + x3).toNatClampNeg)) = 0 → hS μ12 a1 = some (4, 4) ∧ xCall d yJ4_append_cf468 cJ4_append_cf468 2 (some (.object "java/lang/StringBuilder")) [.ref a1, .int 33] μ12 ro (fun r30 μ31 => ∃ y32 : Nat, r30 = some (.ref y32) ∧ hS μ31 a0 = some (13, 5) ∧ ∃ row_33 : Nat, hR μ31 a0 0 = some row_33 ∧ ∃ N34 : Nat, hS μ31 row_33 = some (0, N34) ∧ vp_in (10 + x3) N34 ∧ hS μ31 y32 = some (4, 4) ∧ xCall d yJ4_append_bf812 cJ4_append_bf812 2 (some (.object "java/lang/StringBuilder")) [.ref y32, .int (hI μ31 row_33 ((10 + x3).toNatClampNeg))] μ31 ro (fun r36 μ37 => ∃ y38 : Nat, r36 = some (.ref y38) ∧ hS μ37 a1 = some (4, 4) ∧ xCall d yJ4_append_cf468 cJ4_append_cf468 2 (some (.object "java/lang/StringBuilder")) [.ref a1, .int 32] μ37 ro (fun r39 μ40 => ∃ y41 : Nat, r39 = some (.ref y41) ∧ hS μ40 a2 = some (6, 9) ∧ ∃ firmNames_42 : Nat, hR μ40 a2 1 = some firmNames_42 ∧ hS μ40 a0 = some (13, 5) ∧ ∃ row_43 : Nat, hR μ40 a0 0 = some row_43 ∧ ∃ N44 : Nat, hS μ40 row_43 = some (0, N44) ∧ vp_in (0 + x3) N44 ∧ ∃ N46 : Nat, hS μ40 firmNames_42 = some (2, N46) ∧ vp_in (hI μ40 row_43 ((0 + x3).toNatClampNeg)) N46 ∧ (∀ v48 : Int64, v48 = (hL μ40 firmNames_42 ((hI μ40 row_43 ((0 + x3).toNatClampNeg)).toNatClampNeg)) → xCall d yX9_putName cX9_putName 5 none [.ref a1, .long v48] μ40 ro (fun r49 μ50 => r49 = none ∧ J μ50 0 0 15 [(0, .ref a0), (1, .ref a1), (2, .ref a2), (3, .int (x3 + 1))] []))))))))) ∧ (¬ v9 = 0 → hS μ7 a1 = some (4, 4) ∧ xCall d yJ4_append_cf468 cJ4_append_cf468 2 (some (.object "java/lang/StringBuilder")) [.ref a1, .int 46] μ7 ro (fun r51 μ52 => ∃ y53 : Nat, r51 = some (.ref y53) ∧ (∀ v54 : Int32, v54 = ((hI μ a0_row ((5 + x3).toNatClampNeg)) - (hI μ a0_row ((5 + x3).toNatClampNeg)) / 10 * 10) → hS μ52 y53 = some (4, 4) ∧ xCall d yJ4_append_bf812 cJ4_append_bf812 2 (some (.object "java/lang/StringBuilder")) [.ref y53, .int v54] μ52 ro (fun r55 μ56 => ∃ y57 : Nat, r55 = some (.ref y57) ∧ hS μ56 a1 = some (4, 4) ∧ xCall d yJ4_append_cf468 cJ4_append_cf468 2 (some (.object "java/lang/StringBuilder")) [.ref a1, .int 37] μ56 ro (fun r58 μ59 => ∃ y60 : Nat, r58 = some (.ref y60) ∧ hS μ59 a0 = some (13, 5) ∧ ∃ row_61 : Nat, hR μ59 a0 0 = some row_61 ∧ ∃ N62 : Nat, hS μ59 row_61 = some (0, N62) ∧ vp_in (10 + x3) N62 ∧ (((hI μ59 row_61 ((10 + x3).toNatClampNeg)) = 0 → hS μ59 a1 = some (4, 4) ∧ xCall d yJ4_append_cf468 cJ4_append_cf468 2 (some (.object "java/lang/StringBuilder")) [.ref a1, .int 32] μ59 ro (fun r65 μ66 => ∃ y67 : Nat, r65 = some (.ref y67) ∧ hS μ66 a2 = some (6, 9) ∧ ∃ firmNames_68 : Nat, hR μ66 a2 1 = some firmNames_68 ∧ hS μ66 a0 = some (13, 5) ∧ ∃ row_69 : Nat, hR μ66 a0 0 = some row_69 ∧ ∃ N70 : Nat, hS μ66 row_69 = some (0, N70) ∧ vp_in (0 + x3) N70 ∧ ∃ N72 : Nat, hS μ66 firmNames_68 = some (2, N72) ∧ vp_in (hI μ66 row_69 ((0 + x3).toNatClampNeg)) N72 ∧ (∀ v74 : Int64, v74 = (hL μ66 firmNames_68 ((hI μ66 row_69 ((0 + x3).toNatClampNeg)).toNatClampNeg)) → xCall d yX9_putName cX9_putName 5 none [.ref a1, .long v74] μ66 ro (fun r75 μ76 => r75 = none ∧ J μ76 0 0 15 [(0, .ref a0), (1, .ref a1), (2, .ref a2), (3, .int (x3 + 1))] [])))) ∧ (¬ (hI μ59 row_61 ((10 + x3).toNatClampNeg)) = 0 → hS μ59 a1 = some (4, 4) ∧ xCall d yJ4_append_cf468 cJ4_append_cf468 2 (some (.object "java/lang/StringBuilder")) [.ref a1, .int 33] μ59 ro (fun r77 μ78 => ∃ y79 : Nat, r77 = some (.ref y79) ∧ hS μ78 a0 = some (13, 5) ∧ ∃ row_80 : Nat, hR μ78 a0 0 = some row_80 ∧ ∃ N81 : Nat, hS μ78 row_80 = some (0, N81) ∧ vp_in (10 + x3) N81 ∧ hS μ78 y79 = some (4, 4) ∧ xCall d yJ4_append_bf812 cJ4_append_bf812 2 (some (.object "java/lang/StringBuilder")) [.ref y79, .int (hI μ78 row_80 ((10 + x3).toNatClampNeg))] μ78 ro (fun r83 μ84 => ∃ y85 : Nat, r83 = some (.ref y85) ∧ hS μ84 a1 = some (4, 4) ∧ xCall d yJ4_append_cf468 cJ4_append_cf468 2 (some (.object "java/lang/StringBuilder")) [.ref a1, .int 32] μ84 ro (fun r86 μ87 => ∃ y88 : Nat, r86 = some (.ref y88) ∧ hS μ87 a2 = some (6, 9) ∧ ∃ firmNames_89 : Nat, hR μ87 a2 1 = some firmNames_89 ∧ hS μ87 a0 = some (13, 5) ∧ ∃ row_90 : Nat, hR μ87 a0 0 = some row_90 ∧ ∃ N91 : Nat, hS μ87 row_90 = some (0, N91) ∧ vp_in (0 + x3) N91 ∧ ∃ N93 : Nat, hS μ87 firmNames_89 = some (2, N93) ∧ vp_in (hI μ87 row_90 ((0 + x3).toNatClampNeg)) N93 ∧ (∀ v95 : Int64, v95 = (hL μ87 firmNames_89 ((hI μ87 row_90 ((0 + x3).toNatClampNeg)).toNatClampNeg)) → xCall d yX9_putName cX9_putName 5 none [.ref a1, .long v95] μ87 ro (fun r96 μ97 => r96 = none ∧ J μ97 0 0 15 [(0, .ref a0), (1, .ref a1), (2, .ref a2), (3, .int (x3 + 1))] []))))))))))))))))))) :
    J μ 0 0 15 [(0, .ref a0), (1, .ref a1), (2, .ref a2), (3, .int x3)] [] := by
  refine r_iload_n g dX9_tell_15 rfl ?_
  refine r_aload_n g dX9_tell_16 rfl ?_
  refine r_getI g fX9_19 rfl hs_a0 dX9_tell_17 ?_
  refine r_icmp_ge g 139 dX9_tell_20 (by decide) (fun c1 => ?_) (fun c1 => ?_)
  · replace h := h.1 c1
    exact hr.1 rfl _ _ _ _ _ dX9_tell_139 (Nat.le_refl 0) (Nat.le_refl 0) h
  · replace h := h.2 c1
    refine r_aload_n g dX9_tell_23 rfl ?_
    refine r_getR g fX9_11 rfl hs_a0 hr_a0_row dX9_tell_24 ?_
    refine r_iconst g 5 dX9_tell_27 (by decide) ?_
    refine r_iload_n g dX9_tell_28 rfl ?_
    refine r_iadd g dX9_tell_29 ?_
    obtain ⟨hi2, h⟩ := h
    refine r_iaload g hs_a0_row hi2 dX9_tell_30 ?_
    refine r_istore g [(4, .int (hI μ a0_row ((5 + x3).toNatClampNeg))), (0, .ref a0), (1, .ref a1), (2, .ref a2), (3, .int x3)] dX9_tell_31 (by decide) rfl ?_
    refine r_aload_n g dX9_tell_33 rfl ?_
    refine r_ldcS g (List.mem_of_getElem? (i := 1) rfl) dX9_tell_34 ?_
    obtain ⟨d1, Z1, hc1, hd1, h1⟩ := h
    refine r_callV (st := []) (As := [.ref (ro 7)]) g sX9_43 iJ4_append_15ec4 eJ4_append_15ec4 rfl hs_a1 rfl (Nat.le_of_ble_eq_true rfl) dX9_tell_36 hd1 (Nat.le_refl 0) (Nat.le_refl 0) hc1 (fun r3 μ4 hZ1 => ?_)
    replace h := h1 _ _ hZ1
    clear h1 hc1 hd1 hZ1 Z1 d1
    obtain ⟨y5, rfl, h⟩ := h
    refine r_iload g dX9_tell_39 rfl ?_
    refine r_bipush g 10 dX9_tell_41 (by decide) ?_
    refine r_idiv g (by decide) dX9_tell_43 ?_
    obtain ⟨hs_y5, h⟩ := h
    obtain ⟨d1, Z1, hc1, hd1, h1⟩ := h
    refine r_callV (st := []) (As := [.int ((hI μ a0_row ((5 + x3).toNatClampNeg)) / 10)]) g sX9_49 iJ4_append_bf812 eJ4_append_bf812 rfl hs_y5 rfl (Nat.le_of_ble_eq_true rfl) dX9_tell_44 hd1 (Nat.le_refl 0) (Nat.le_refl 0) hc1 (fun r6 μ7 hZ1 => ?_)
    replace h := h1 _ _ hZ1
    clear h1 hc1 hd1 hZ1 Z1 d1
    obtain ⟨y8, rfl, h⟩ := h
    refine r_pop g dX9_tell_47 rfl ?_
    refine r_iload g dX9_tell_48 rfl ?_
    refine r_bipush g 10 dX9_tell_50 (by decide) ?_
    refine r_irem g (by decide) dX9_tell_52 ?_
    refine r_nmI (fun v9 ev9 => ?_)
    replace h := h v9 ev9
    refine r_if_eq g 71 dX9_tell_53 (by decide) (fun c10 => ?_) (fun c10 => ?_)
    · replace h := h.1 c10
      refine r_aload_n g dX9_tell_71 rfl ?_
      refine r_bipush g 37 dX9_tell_72 (by decide) ?_
      obtain ⟨hs_a1_, h⟩ := h
      obtain ⟨d1, Z1, hc1, hd1, h1⟩ := h
      refine r_callV (st := []) (As := [.int 37]) g sX9_52 iJ4_append_cf468 eJ4_append_cf468 rfl hs_a1_ rfl (Nat.le_of_ble_eq_true rfl) dX9_tell_74 hd1 (Nat.le_refl 0) (Nat.le_refl 0) hc1 (fun r11 μ12 hZ1 => ?_)
      replace h := h1 _ _ hZ1
      clear h1 hc1 hd1 hZ1 Z1 d1
      obtain ⟨y13, rfl, h⟩ := h
      refine r_pop g dX9_tell_77 rfl ?_
      refine r_aload_n g dX9_tell_78 rfl ?_
      obtain ⟨hs_a0_, h⟩ := h
      obtain ⟨row_14, hr_row_14, h⟩ := h
      refine r_getR g fX9_11 rfl hs_a0_ hr_row_14 dX9_tell_79 ?_
      refine r_bipush g 10 dX9_tell_82 (by decide) ?_
      refine r_iload_n g dX9_tell_84 rfl ?_
      refine r_iadd g dX9_tell_85 ?_
      obtain ⟨N15, hs_row_14, h⟩ := h
      obtain ⟨hi16, h⟩ := h
      refine r_iaload g hs_row_14 hi16 dX9_tell_86 ?_
      refine r_if_eq g 109 dX9_tell_87 (by decide) (fun c17 => ?_) (fun c17 => ?_)
      · replace h := h.1 c17
        refine r_aload_n g dX9_tell_109 rfl ?_
        refine r_bipush g 32 dX9_tell_110 (by decide) ?_
        obtain ⟨hs_a1__, h⟩ := h
        obtain ⟨d1, Z1, hc1, hd1, h1⟩ := h
        refine r_callV (st := []) (As := [.int 32]) g sX9_52 iJ4_append_cf468 eJ4_append_cf468 rfl hs_a1__ rfl (Nat.le_of_ble_eq_true rfl) dX9_tell_112 hd1 (Nat.le_refl 0) (Nat.le_refl 0) hc1 (fun r18 μ19 hZ1 => ?_)
        replace h := h1 _ _ hZ1
        clear h1 hc1 hd1 hZ1 Z1 d1
        obtain ⟨y20, rfl, h⟩ := h
        refine r_pop g dX9_tell_115 rfl ?_
        refine r_aload_n g dX9_tell_116 rfl ?_
        refine r_aload_n g dX9_tell_117 rfl ?_
        obtain ⟨hs_a2, h⟩ := h
        obtain ⟨firmNames_21, hr_firmNames_21, h⟩ := h
        refine r_getR g fX9_33 rfl hs_a2 hr_firmNames_21 dX9_tell_118 ?_
        refine r_aload_n g dX9_tell_121 rfl ?_
        obtain ⟨hs_a0__, h⟩ := h
        obtain ⟨row_22, hr_row_22, h⟩ := h
        refine r_getR g fX9_11 rfl hs_a0__ hr_row_22 dX9_tell_122 ?_
        refine r_iconst g 0 dX9_tell_125 (by decide) ?_
        refine r_iload_n g dX9_tell_126 rfl ?_
        refine r_iadd g dX9_tell_127 ?_
        obtain ⟨N23, hs_row_22, h⟩ := h
        obtain ⟨hi24, h⟩ := h
        refine r_iaload g hs_row_22 hi24 dX9_tell_128 ?_
        obtain ⟨N25, hs_firmNames_21, h⟩ := h
        obtain ⟨hi26, h⟩ := h
        refine r_laload g hs_firmNames_21 hi26 dX9_tell_129 ?_
        refine r_nmL (fun v27 ev27 => ?_)
        replace h := h v27 ev27
        obtain ⟨d1, Z1, hc1, hd1, h1⟩ := h
        refine r_callS (st := []) (As := [.ref a1, .long v27]) g sX9_37 iX9_putName rfl (Nat.le_of_ble_eq_true rfl) dX9_tell_130 hd1 (Nat.le_refl 0) (Nat.le_refl 0) hc1 (fun r28 μ29 hZ1 => ?_)
        replace h := h1 _ _ hZ1
        clear h1 hc1 hd1 hZ1 Z1 d1
        obtain ⟨rfl, h⟩ := h
        refine r_iinc g (x3 + 1) [(3, .int (x3 + 1)), (4, .int (hI μ a0_row ((5 + x3).toNatClampNeg))), (0, .ref a0), (1, .ref a1), (2, .ref a2)] dX9_tell_133 rfl rfl (by decide) rfl ?_
        refine r_goto g 15 dX9_tell_136 (by decide) ?_
        refine r_sub g (lv' := [(0, .ref a0), (1, .ref a1), (2, .ref a2), (3, .int (x3 + 1))]) (⟨rfl, rfl, rfl, rfl, trivial⟩) ?_
        exact h
      · replace h := h.2 c17
        refine r_aload_n g dX9_tell_90 rfl ?_
        refine r_bipush g 33 dX9_tell_91 (by decide) ?_
        obtain ⟨hs_a1___, h⟩ := h
        obtain ⟨d1, Z1, hc1, hd1, h1⟩ := h
        refine r_callV (st := []) (As := [.int 33]) g sX9_52 iJ4_append_cf468 eJ4_append_cf468 rfl hs_a1___ rfl (Nat.le_of_ble_eq_true rfl) dX9_tell_93 hd1 (Nat.le_refl 0) (Nat.le_refl 0) hc1 (fun r30 μ31 hZ1 => ?_)
        replace h := h1 _ _ hZ1
        clear h1 hc1 hd1 hZ1 Z1 d1
        obtain ⟨y32, rfl, h⟩ := h
        refine r_aload_n g dX9_tell_96 rfl ?_
        obtain ⟨hs_a0___, h⟩ := h
        obtain ⟨row_33, hr_row_33, h⟩ := h
        refine r_getR g fX9_11 rfl hs_a0___ hr_row_33 dX9_tell_97 ?_
        refine r_bipush g 10 dX9_tell_100 (by decide) ?_
        refine r_iload_n g dX9_tell_102 rfl ?_
        refine r_iadd g dX9_tell_103 ?_
        obtain ⟨N34, hs_row_33, h⟩ := h
        obtain ⟨hi35, h⟩ := h
        refine r_iaload g hs_row_33 hi35 dX9_tell_104 ?_
        obtain ⟨hs_y32, h⟩ := h
        obtain ⟨d1, Z1, hc1, hd1, h1⟩ := h
        refine r_callV (st := []) (As := [.int (hI μ31 row_33 ((10 + x3).toNatClampNeg))]) g sX9_49 iJ4_append_bf812 eJ4_append_bf812 rfl hs_y32 rfl (Nat.le_of_ble_eq_true rfl) dX9_tell_105 hd1 (Nat.le_refl 0) (Nat.le_refl 0) hc1 (fun r36 μ37 hZ1 => ?_)
        replace h := h1 _ _ hZ1
        clear h1 hc1 hd1 hZ1 Z1 d1
        obtain ⟨y38, rfl, h⟩ := h
        refine r_pop g dX9_tell_108 rfl ?_
        refine r_aload_n g dX9_tell_109 rfl ?_
        refine r_bipush g 32 dX9_tell_110 (by decide) ?_
        obtain ⟨hs_a1____, h⟩ := h
        obtain ⟨d1, Z1, hc1, hd1, h1⟩ := h
        refine r_callV (st := []) (As := [.int 32]) g sX9_52 iJ4_append_cf468 eJ4_append_cf468 rfl hs_a1____ rfl (Nat.le_of_ble_eq_true rfl) dX9_tell_112 hd1 (Nat.le_refl 0) (Nat.le_refl 0) hc1 (fun r39 μ40 hZ1 => ?_)
        replace h := h1 _ _ hZ1
        clear h1 hc1 hd1 hZ1 Z1 d1
        obtain ⟨y41, rfl, h⟩ := h
        refine r_pop g dX9_tell_115 rfl ?_
        refine r_aload_n g dX9_tell_116 rfl ?_
        refine r_aload_n g dX9_tell_117 rfl ?_
        obtain ⟨hs_a2_, h⟩ := h
        obtain ⟨firmNames_42, hr_firmNames_42, h⟩ := h
        refine r_getR g fX9_33 rfl hs_a2_ hr_firmNames_42 dX9_tell_118 ?_
        refine r_aload_n g dX9_tell_121 rfl ?_
        obtain ⟨hs_a0____, h⟩ := h
        obtain ⟨row_43, hr_row_43, h⟩ := h
        refine r_getR g fX9_11 rfl hs_a0____ hr_row_43 dX9_tell_122 ?_
        refine r_iconst g 0 dX9_tell_125 (by decide) ?_
        refine r_iload_n g dX9_tell_126 rfl ?_
        refine r_iadd g dX9_tell_127 ?_
        obtain ⟨N44, hs_row_43, h⟩ := h
        obtain ⟨hi45, h⟩ := h
        refine r_iaload g hs_row_43 hi45 dX9_tell_128 ?_
        obtain ⟨N46, hs_firmNames_42, h⟩ := h
        obtain ⟨hi47, h⟩ := h
        refine r_laload g hs_firmNames_42 hi47 dX9_tell_129 ?_
        refine r_nmL (fun v48 ev48 => ?_)
        replace h := h v48 ev48
        obtain ⟨d1, Z1, hc1, hd1, h1⟩ := h
        refine r_callS (st := []) (As := [.ref a1, .long v48]) g sX9_37 iX9_putName rfl (Nat.le_of_ble_eq_true rfl) dX9_tell_130 hd1 (Nat.le_refl 0) (Nat.le_refl 0) hc1 (fun r49 μ50 hZ1 => ?_)
        replace h := h1 _ _ hZ1
        clear h1 hc1 hd1 hZ1 Z1 d1
        obtain ⟨rfl, h⟩ := h
        refine r_iinc g (x3 + 1) [(3, .int (x3 + 1)), (4, .int (hI μ a0_row ((5 + x3).toNatClampNeg))), (0, .ref a0), (1, .ref a1), (2, .ref a2)] dX9_tell_133 rfl rfl (by decide) rfl ?_
        refine r_goto g 15 dX9_tell_136 (by decide) ?_
        refine r_sub g (lv' := [(0, .ref a0), (1, .ref a1), (2, .ref a2), (3, .int (x3 + 1))]) (⟨rfl, rfl, rfl, rfl, trivial⟩) ?_
        exact h
    · replace h := h.2 c10
      refine r_aload_n g dX9_tell_56 rfl ?_
      refine r_bipush g 46 dX9_tell_57 (by decide) ?_
      obtain ⟨hs_a1_____, h⟩ := h
      obtain ⟨d1, Z1, hc1, hd1, h1⟩ := h
      refine r_callV (st := []) (As := [.int 46]) g sX9_52 iJ4_append_cf468 eJ4_append_cf468 rfl hs_a1_____ rfl (Nat.le_of_ble_eq_true rfl) dX9_tell_59 hd1 (Nat.le_refl 0) (Nat.le_refl 0) hc1 (fun r51 μ52 hZ1 => ?_)
      replace h := h1 _ _ hZ1
      clear h1 hc1 hd1 hZ1 Z1 d1
      obtain ⟨y53, rfl, h⟩ := h
      refine r_iload g dX9_tell_62 rfl ?_
      refine r_bipush g 10 dX9_tell_64 (by decide) ?_
      refine r_irem g (by decide) dX9_tell_66 ?_
      refine r_nmI (fun v54 ev54 => ?_)
      replace h := h v54 ev54
      obtain ⟨hs_y53, h⟩ := h
      obtain ⟨d1, Z1, hc1, hd1, h1⟩ := h
      refine r_callV (st := []) (As := [.int v54]) g sX9_49 iJ4_append_bf812 eJ4_append_bf812 rfl hs_y53 rfl (Nat.le_of_ble_eq_true rfl) dX9_tell_67 hd1 (Nat.le_refl 0) (Nat.le_refl 0) hc1 (fun r55 μ56 hZ1 => ?_)
      replace h := h1 _ _ hZ1
      clear h1 hc1 hd1 hZ1 Z1 d1
      obtain ⟨y57, rfl, h⟩ := h
      refine r_pop g dX9_tell_70 rfl ?_
      refine r_aload_n g dX9_tell_71 rfl ?_
      refine r_bipush g 37 dX9_tell_72 (by decide) ?_
      obtain ⟨hs_a1______, h⟩ := h
      obtain ⟨d1, Z1, hc1, hd1, h1⟩ := h
      refine r_callV (st := []) (As := [.int 37]) g sX9_52 iJ4_append_cf468 eJ4_append_cf468 rfl hs_a1______ rfl (Nat.le_of_ble_eq_true rfl) dX9_tell_74 hd1 (Nat.le_refl 0) (Nat.le_refl 0) hc1 (fun r58 μ59 hZ1 => ?_)
      replace h := h1 _ _ hZ1
      clear h1 hc1 hd1 hZ1 Z1 d1
      obtain ⟨y60, rfl, h⟩ := h
      refine r_pop g dX9_tell_77 rfl ?_
      refine r_aload_n g dX9_tell_78 rfl ?_
      obtain ⟨hs_a0_____, h⟩ := h
      obtain ⟨row_61, hr_row_61, h⟩ := h
      refine r_getR g fX9_11 rfl hs_a0_____ hr_row_61 dX9_tell_79 ?_
      refine r_bipush g 10 dX9_tell_82 (by decide) ?_
      refine r_iload_n g dX9_tell_84 rfl ?_
      refine r_iadd g dX9_tell_85 ?_
      obtain ⟨N62, hs_row_61, h⟩ := h
      obtain ⟨hi63, h⟩ := h
      refine r_iaload g hs_row_61 hi63 dX9_tell_86 ?_
      refine r_if_eq g 109 dX9_tell_87 (by decide) (fun c64 => ?_) (fun c64 => ?_)
      · replace h := h.1 c64
        refine r_aload_n g dX9_tell_109 rfl ?_
        refine r_bipush g 32 dX9_tell_110 (by decide) ?_
        obtain ⟨hs_a1_______, h⟩ := h
        obtain ⟨d1, Z1, hc1, hd1, h1⟩ := h
        refine r_callV (st := []) (As := [.int 32]) g sX9_52 iJ4_append_cf468 eJ4_append_cf468 rfl hs_a1_______ rfl (Nat.le_of_ble_eq_true rfl) dX9_tell_112 hd1 (Nat.le_refl 0) (Nat.le_refl 0) hc1 (fun r65 μ66 hZ1 => ?_)
        replace h := h1 _ _ hZ1
        clear h1 hc1 hd1 hZ1 Z1 d1
        obtain ⟨y67, rfl, h⟩ := h
        refine r_pop g dX9_tell_115 rfl ?_
        refine r_aload_n g dX9_tell_116 rfl ?_
        refine r_aload_n g dX9_tell_117 rfl ?_
        obtain ⟨hs_a2__, h⟩ := h
        obtain ⟨firmNames_68, hr_firmNames_68, h⟩ := h
        refine r_getR g fX9_33 rfl hs_a2__ hr_firmNames_68 dX9_tell_118 ?_
        refine r_aload_n g dX9_tell_121 rfl ?_
        obtain ⟨hs_a0______, h⟩ := h
        obtain ⟨row_69, hr_row_69, h⟩ := h
        refine r_getR g fX9_11 rfl hs_a0______ hr_row_69 dX9_tell_122 ?_
        refine r_iconst g 0 dX9_tell_125 (by decide) ?_
        refine r_iload_n g dX9_tell_126 rfl ?_
        refine r_iadd g dX9_tell_127 ?_
        obtain ⟨N70, hs_row_69, h⟩ := h
        obtain ⟨hi71, h⟩ := h
        refine r_iaload g hs_row_69 hi71 dX9_tell_128 ?_
        obtain ⟨N72, hs_firmNames_68, h⟩ := h
        obtain ⟨hi73, h⟩ := h
        refine r_laload g hs_firmNames_68 hi73 dX9_tell_129 ?_
        refine r_nmL (fun v74 ev74 => ?_)
        replace h := h v74 ev74
        obtain ⟨d1, Z1, hc1, hd1, h1⟩ := h
        refine r_callS (st := []) (As := [.ref a1, .long v74]) g sX9_37 iX9_putName rfl (Nat.le_of_ble_eq_true rfl) dX9_tell_130 hd1 (Nat.le_refl 0) (Nat.le_refl 0) hc1 (fun r75 μ76 hZ1 => ?_)
        replace h := h1 _ _ hZ1
        clear h1 hc1 hd1 hZ1 Z1 d1
        obtain ⟨rfl, h⟩ := h
        refine r_iinc g (x3 + 1) [(3, .int (x3 + 1)), (4, .int (hI μ a0_row ((5 + x3).toNatClampNeg))), (0, .ref a0), (1, .ref a1), (2, .ref a2)] dX9_tell_133 rfl rfl (by decide) rfl ?_
        refine r_goto g 15 dX9_tell_136 (by decide) ?_
        refine r_sub g (lv' := [(0, .ref a0), (1, .ref a1), (2, .ref a2), (3, .int (x3 + 1))]) (⟨rfl, rfl, rfl, rfl, trivial⟩) ?_
        exact h
      · replace h := h.2 c64
        refine r_aload_n g dX9_tell_90 rfl ?_
        refine r_bipush g 33 dX9_tell_91 (by decide) ?_
        obtain ⟨hs_a1________, h⟩ := h
        obtain ⟨d1, Z1, hc1, hd1, h1⟩ := h
        refine r_callV (st := []) (As := [.int 33]) g sX9_52 iJ4_append_cf468 eJ4_append_cf468 rfl hs_a1________ rfl (Nat.le_of_ble_eq_true rfl) dX9_tell_93 hd1 (Nat.le_refl 0) (Nat.le_refl 0) hc1 (fun r77 μ78 hZ1 => ?_)
        replace h := h1 _ _ hZ1
        clear h1 hc1 hd1 hZ1 Z1 d1
        obtain ⟨y79, rfl, h⟩ := h
        refine r_aload_n g dX9_tell_96 rfl ?_
        obtain ⟨hs_a0_______, h⟩ := h
        obtain ⟨row_80, hr_row_80, h⟩ := h
        refine r_getR g fX9_11 rfl hs_a0_______ hr_row_80 dX9_tell_97 ?_
        refine r_bipush g 10 dX9_tell_100 (by decide) ?_
        refine r_iload_n g dX9_tell_102 rfl ?_
        refine r_iadd g dX9_tell_103 ?_
        obtain ⟨N81, hs_row_80, h⟩ := h
        obtain ⟨hi82, h⟩ := h
        refine r_iaload g hs_row_80 hi82 dX9_tell_104 ?_
        obtain ⟨hs_y79, h⟩ := h
        obtain ⟨d1, Z1, hc1, hd1, h1⟩ := h
        refine r_callV (st := []) (As := [.int (hI μ78 row_80 ((10 + x3).toNatClampNeg))]) g sX9_49 iJ4_append_bf812 eJ4_append_bf812 rfl hs_y79 rfl (Nat.le_of_ble_eq_true rfl) dX9_tell_105 hd1 (Nat.le_refl 0) (Nat.le_refl 0) hc1 (fun r83 μ84 hZ1 => ?_)
        replace h := h1 _ _ hZ1
        clear h1 hc1 hd1 hZ1 Z1 d1
        obtain ⟨y85, rfl, h⟩ := h
        refine r_pop g dX9_tell_108 rfl ?_
        refine r_aload_n g dX9_tell_109 rfl ?_
        refine r_bipush g 32 dX9_tell_110 (by decide) ?_
        obtain ⟨hs_a1_________, h⟩ := h
        obtain ⟨d1, Z1, hc1, hd1, h1⟩ := h
        refine r_callV (st := []) (As := [.int 32]) g sX9_52 iJ4_append_cf468 eJ4_append_cf468 rfl hs_a1_________ rfl (Nat.le_of_ble_eq_true rfl) dX9_tell_112 hd1 (Nat.le_refl 0) (Nat.le_refl 0) hc1 (fun r86 μ87 hZ1 => ?_)
        replace h := h1 _ _ hZ1
        clear h1 hc1 hd1 hZ1 Z1 d1
        obtain ⟨y88, rfl, h⟩ := h
        refine r_pop g dX9_tell_115 rfl ?_
        refine r_aload_n g dX9_tell_116 rfl ?_
        refine r_aload_n g dX9_tell_117 rfl ?_
        obtain ⟨hs_a2___, h⟩ := h
        obtain ⟨firmNames_89, hr_firmNames_89, h⟩ := h
        refine r_getR g fX9_33 rfl hs_a2___ hr_firmNames_89 dX9_tell_118 ?_
        refine r_aload_n g dX9_tell_121 rfl ?_
        obtain ⟨hs_a0________, h⟩ := h
        obtain ⟨row_90, hr_row_90, h⟩ := h
        refine r_getR g fX9_11 rfl hs_a0________ hr_row_90 dX9_tell_122 ?_
        refine r_iconst g 0 dX9_tell_125 (by decide) ?_
        refine r_iload_n g dX9_tell_126 rfl ?_
        refine r_iadd g dX9_tell_127 ?_
        obtain ⟨N91, hs_row_90, h⟩ := h
        obtain ⟨hi92, h⟩ := h
        refine r_iaload g hs_row_90 hi92 dX9_tell_128 ?_
        obtain ⟨N93, hs_firmNames_89, h⟩ := h
        obtain ⟨hi94, h⟩ := h
        refine r_laload g hs_firmNames_89 hi94 dX9_tell_129 ?_
        refine r_nmL (fun v95 ev95 => ?_)
        replace h := h v95 ev95
        obtain ⟨d1, Z1, hc1, hd1, h1⟩ := h
        refine r_callS (st := []) (As := [.ref a1, .long v95]) g sX9_37 iX9_putName rfl (Nat.le_of_ble_eq_true rfl) dX9_tell_130 hd1 (Nat.le_refl 0) (Nat.le_refl 0) hc1 (fun r96 μ97 hZ1 => ?_)
        replace h := h1 _ _ hZ1
        clear h1 hc1 hd1 hZ1 Z1 d1
        obtain ⟨rfl, h⟩ := h
        refine r_iinc g (x3 + 1) [(3, .int (x3 + 1)), (4, .int (hI μ a0_row ((5 + x3).toNatClampNeg))), (0, .ref a0), (1, .ref a1), (2, .ref a2)] dX9_tell_133 rfl rfl (by decide) rfl ?_
        refine r_goto g 15 dX9_tell_136 (by decide) ?_
        refine r_sub g (lv' := [(0, .ref a0), (1, .ref a1), (2, .ref a2), (3, .int (x3 + 1))]) (⟨rfl, rfl, rfl, rfl, trivial⟩) ?_
        exact h
theorem I_X9_tell {d : Nat} {ro : Nat → Nat} {Z : Option Value → Hp → Prop} {μ : Hp} {a0 : Nat} {a1 : Nat} {a2 : Nat} (h : ∀ J, xCtx RX9 cX9_tell 5 d 0 0 yX9_tell.name ro J → xRet cX9_tell none 0 0 Z J → J μ 0 0 0 [(0, .ref a0), (1, .ref a1), (2, .ref a2)] []) : xC d yX9_tell cX9_tell 5 none 0 0 [.ref a0, .ref a1, .ref a2] μ ro Z :=
  xC_intro (own := RX9) (lv := [(0, .ref a0), (1, .ref a1), (2, .ref a2)]) (by decide) rfl (Nat.le_of_ble_eq_true rfl) rfl (fun J g hr => r_sub g (lv' := [(0, .ref a0), (1, .ref a1), (2, .ref a2)]) (⟨rfl, rfl, rfl, trivial⟩) (h J g hr))
theorem dX9_putName_0 : decode cX9_putName 0 = .ok (.iconst 0, 1) := by decide +kernel
theorem dX9_putName_1 : decode cX9_putName 1 = .ok (.istore_n 3, 1) := by decide +kernel
theorem dX9_putName_2 : decode cX9_putName 2 = .ok (.iload_n 3, 1) := by decide +kernel
theorem dX9_putName_3 : decode cX9_putName 3 = .ok (.bipush 8, 2) := by decide +kernel
theorem dX9_putName_5 : decode cX9_putName 5 = .ok (.if_icmp .ge 30, 3) := by decide +kernel
theorem dX9_putName_8 : decode cX9_putName 8 = .ok (.lload_n 1, 1) := by decide +kernel
theorem dX9_putName_9 : decode cX9_putName 9 = .ok (.iload_n 3, 1) := by decide +kernel
theorem dX9_putName_10 : decode cX9_putName 10 = .ok (.invokestatic 55, 3) := by decide +kernel
theorem dX9_putName_13 : decode cX9_putName 13 = .ok (.istore 4, 2) := by decide +kernel
theorem dX9_putName_15 : decode cX9_putName 15 = .ok (.iload 4, 2) := by decide +kernel
theorem dX9_putName_17 : decode cX9_putName 17 = .ok (.iconst (-1), 1) := by decide +kernel
theorem dX9_putName_18 : decode cX9_putName 18 = .ok (.if_icmp .eq 11, 3) := by decide +kernel
theorem dX9_putName_21 : decode cX9_putName 21 = .ok (.aload_n 0, 1) := by decide +kernel
theorem dX9_putName_22 : decode cX9_putName 22 = .ok (.iload 4, 2) := by decide +kernel
theorem dX9_putName_24 : decode cX9_putName 24 = .ok (.i2c, 1) := by decide +kernel
theorem dX9_putName_25 : decode cX9_putName 25 = .ok (.invokevirtual 52, 3) := by decide +kernel
theorem dX9_putName_28 : decode cX9_putName 28 = .ok (.pop, 1) := by decide +kernel
theorem dX9_putName_29 : decode cX9_putName 29 = .ok (.iinc 3 1, 3) := by decide +kernel
theorem dX9_putName_32 : decode cX9_putName 32 = .ok (.goto (-30), 3) := by decide +kernel
theorem dX9_putName_35 : decode cX9_putName 35 = .ok (.return_, 1) := by decide +kernel
set_option maxHeartbeats 4000000 in
set_option maxRecDepth 100000 in
theorem B_X9_putName_0 {d : Nat} {ro : Nat → Nat} {J : JT} {Z : Option Value → Hp → Prop} (g : xCtx RX9 cX9_putName 5 d 0 0 yX9_putName.name ro J) (hr : xRet cX9_putName none 0 0 Z J) {μ : Hp} {a0 : Nat} {x1 : Int64} 
    (h : J μ 0 0 2 [(0, .ref a0), (1, .long x1), (3, .int 0)] []) :
    J μ 0 0 0 [(0, .ref a0), (1, .long x1)] [] := by
  refine r_iconst g 0 dX9_putName_0 (by decide) ?_
  refine r_istore_n g [(3, .int 0), (0, .ref a0), (1, .long x1)] dX9_putName_1 (by decide) rfl ?_
  refine r_sub g (lv' := [(0, .ref a0), (1, .long x1), (3, .int 0)]) (⟨rfl, rfl, rfl, trivial⟩) ?_
  exact h
set_option maxHeartbeats 4000000 in
set_option maxRecDepth 100000 in
theorem B_X9_putName_2 {d : Nat} {ro : Nat → Nat} {J : JT} {Z : Option Value → Hp → Prop} (g : xCtx RX9 cX9_putName 5 d 0 0 yX9_putName.name ro J) (hr : xRet cX9_putName none 0 0 Z J) {μ : Hp} {a0 : Nat} {x1 : Int64} {x3 : Int32} 
    (h : ((8 ≤ x3 → Z none μ) ∧ (¬ 8 ≤ x3 → xCall d yX6_letterOf cX6_letterOf 4 (some .int) [.long x1, .int x3] μ ro (fun r2 μ3 => ∃ y4 : Int32, r2 = some (.int y4) ∧ ((y4 = (-1) → J μ3 0 0 2 [(0, .ref a0), (1, .long x1), (3, .int (x3 + 1))] []) ∧ (¬ y4 = (-1) → hS μ3 a0 = some (4, 4) ∧ xCall d yJ4_append_cf468 cJ4_append_cf468 2 (some (.object "java/lang/StringBuilder")) [.ref a0, .int (y4.toUInt32 % 65536).toInt32] μ3 ro (fun r6 μ7 => ∃ y8 : Nat, r6 = some (.ref y8) ∧ J μ7 0 0 2 [(0, .ref a0), (1, .long x1), (3, .int (x3 + 1))] []))))))) :
    J μ 0 0 2 [(0, .ref a0), (1, .long x1), (3, .int x3)] [] := by
  refine r_iload_n g dX9_putName_2 rfl ?_
  refine r_bipush g 8 dX9_putName_3 (by decide) ?_
  refine r_icmp_ge g 35 dX9_putName_5 (by decide) (fun c1 => ?_) (fun c1 => ?_)
  · replace h := h.1 c1
    exact hr.1 rfl _ _ _ _ _ dX9_putName_35 (Nat.le_refl 0) (Nat.le_refl 0) h
  · replace h := h.2 c1
    refine r_lload_n g dX9_putName_8 rfl ?_
    refine r_iload_n g dX9_putName_9 rfl ?_
    obtain ⟨d1, Z1, hc1, hd1, h1⟩ := h
    refine r_callS (st := []) (As := [.long x1, .int x3]) g sX9_55 iX6_letterOf rfl (Nat.le_of_ble_eq_true rfl) dX9_putName_10 hd1 (Nat.le_refl 0) (Nat.le_refl 0) hc1 (fun r2 μ3 hZ1 => ?_)
    replace h := h1 _ _ hZ1
    clear h1 hc1 hd1 hZ1 Z1 d1
    obtain ⟨y4, rfl, h⟩ := h
    refine r_istore g [(4, .int y4), (0, .ref a0), (1, .long x1), (3, .int x3)] dX9_putName_13 (by decide) rfl ?_
    refine r_iload g dX9_putName_15 rfl ?_
    refine r_iconst g (-1) dX9_putName_17 (by decide) ?_
    refine r_icmp_eq g 29 dX9_putName_18 (by decide) (fun c5 => ?_) (fun c5 => ?_)
    · replace h := h.1 c5
      refine r_iinc g (x3 + 1) [(3, .int (x3 + 1)), (4, .int y4), (0, .ref a0), (1, .long x1)] dX9_putName_29 rfl rfl (by decide) rfl ?_
      refine r_goto g 2 dX9_putName_32 (by decide) ?_
      refine r_sub g (lv' := [(0, .ref a0), (1, .long x1), (3, .int (x3 + 1))]) (⟨rfl, rfl, rfl, trivial⟩) ?_
      exact h
    · replace h := h.2 c5
      refine r_aload_n g dX9_putName_21 rfl ?_
      refine r_iload g dX9_putName_22 rfl ?_
      refine r_i2c g dX9_putName_24 ?_
      obtain ⟨hs_a0, h⟩ := h
      obtain ⟨d1, Z1, hc1, hd1, h1⟩ := h
      refine r_callV (st := []) (As := [.int (y4.toUInt32 % 65536).toInt32]) g sX9_52 iJ4_append_cf468 eJ4_append_cf468 rfl hs_a0 rfl (Nat.le_of_ble_eq_true rfl) dX9_putName_25 hd1 (Nat.le_refl 0) (Nat.le_refl 0) hc1 (fun r6 μ7 hZ1 => ?_)
      replace h := h1 _ _ hZ1
      clear h1 hc1 hd1 hZ1 Z1 d1
      obtain ⟨y8, rfl, h⟩ := h
      refine r_pop g dX9_putName_28 rfl ?_
      refine r_iinc g (x3 + 1) [(3, .int (x3 + 1)), (4, .int y4), (0, .ref a0), (1, .long x1)] dX9_putName_29 rfl rfl (by decide) rfl ?_
      refine r_goto g 2 dX9_putName_32 (by decide) ?_
      refine r_sub g (lv' := [(0, .ref a0), (1, .long x1), (3, .int (x3 + 1))]) (⟨rfl, rfl, rfl, trivial⟩) ?_
      exact h
theorem I_X9_putName {d : Nat} {ro : Nat → Nat} {Z : Option Value → Hp → Prop} {μ : Hp} {a0 : Nat} {x1 : Int64} (h : ∀ J, xCtx RX9 cX9_putName 5 d 0 0 yX9_putName.name ro J → xRet cX9_putName none 0 0 Z J → J μ 0 0 0 [(0, .ref a0), (1, .long x1)] []) : xC d yX9_putName cX9_putName 5 none 0 0 [.ref a0, .long x1] μ ro Z :=
  xC_intro (own := RX9) (lv := [(0, .ref a0), (1, .long x1)]) (by decide) rfl (Nat.le_of_ble_eq_true rfl) rfl (fun J g hr => r_sub g (lv' := [(0, .ref a0), (1, .long x1)]) (⟨rfl, rfl, trivial⟩) (h J g hr))
