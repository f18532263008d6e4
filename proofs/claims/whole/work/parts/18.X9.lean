theorem dX9_duePaid_0 : decode cX9_duePaid 0 = .ok (.iconst 0, 1) := by decide +kernel
theorem dX9_duePaid_1 : decode cX9_duePaid 1 = .ok (.istore_n 1, 1) := by decide +kernel
theorem dX9_duePaid_2 : decode cX9_duePaid 2 = .ok (.iconst 0, 1) := by decide +kernel
theorem dX9_duePaid_3 : decode cX9_duePaid 3 = .ok (.istore_n 2, 1) := by decide +kernel
theorem dX9_duePaid_4 : decode cX9_duePaid 4 = .ok (.iload_n 2, 1) := by decide +kernel
theorem dX9_duePaid_5 : decode cX9_duePaid 5 = .ok (.aload_n 0, 1) := by decide +kernel
theorem dX9_duePaid_6 : decode cX9_duePaid 6 = .ok (.getfield 19, 3) := by decide +kernel
theorem dX9_duePaid_9 : decode cX9_duePaid 9 = .ok (.if_icmp .ge 21, 3) := by decide +kernel
theorem dX9_duePaid_12 : decode cX9_duePaid 12 = .ok (.iload_n 1, 1) := by decide +kernel
theorem dX9_duePaid_13 : decode cX9_duePaid 13 = .ok (.aload_n 0, 1) := by decide +kernel
theorem dX9_duePaid_14 : decode cX9_duePaid 14 = .ok (.getfield 11, 3) := by decide +kernel
theorem dX9_duePaid_17 : decode cX9_duePaid 17 = .ok (.bipush 25, 2) := by decide +kernel
theorem dX9_duePaid_19 : decode cX9_duePaid 19 = .ok (.iload_n 2, 1) := by decide +kernel
theorem dX9_duePaid_20 : decode cX9_duePaid 20 = .ok (.iadd, 1) := by decide +kernel
theorem dX9_duePaid_21 : decode cX9_duePaid 21 = .ok (.iaload, 1) := by decide +kernel
theorem dX9_duePaid_22 : decode cX9_duePaid 22 = .ok (.iadd, 1) := by decide +kernel
theorem dX9_duePaid_23 : decode cX9_duePaid 23 = .ok (.istore_n 1, 1) := by decide +kernel
theorem dX9_duePaid_24 : decode cX9_duePaid 24 = .ok (.iinc 2 1, 3) := by decide +kernel
theorem dX9_duePaid_27 : decode cX9_duePaid 27 = .ok (.goto (-23), 3) := by decide +kernel
theorem dX9_duePaid_30 : decode cX9_duePaid 30 = .ok (.iload_n 1, 1) := by decide +kernel
theorem dX9_duePaid_31 : decode cX9_duePaid 31 = .ok (.ireturn, 1) := by decide +kernel
set_option maxHeartbeats 4000000 in
set_option maxRecDepth 100000 in
theorem B_X9_duePaid_0 {d : Nat} {ro : Nat → Nat} {J : JT} {Z : Option Value → Hp → Prop} (g : xCtx RX9 cX9_duePaid 3 d 0 0 yX9_duePaid.name ro J) (hr : xRet cX9_duePaid (some .int) 0 0 Z J) {μ : Hp} {a0 : Nat} 
    (h : J μ 0 0 4 [(0, .ref a0), (1, .int 0), (2, .int 0)] []) :
    J μ 0 0 0 [(0, .ref a0)] [] := by
  refine r_iconst g 0 dX9_duePaid_0 (by decide) ?_
  refine r_istore_n g [(1, .int 0), (0, .ref a0)] dX9_duePaid_1 (by decide) rfl ?_
  refine r_iconst g 0 dX9_duePaid_2 (by decide) ?_
  refine r_istore_n g [(2, .int 0), (1, .int 0), (0, .ref a0)] dX9_duePaid_3 (by decide) rfl ?_
  refine r_sub g (lv' := [(0, .ref a0), (1, .int 0), (2, .int 0)]) (⟨rfl, rfl, rfl, trivial⟩) ?_
  exact h
set_option maxHeartbeats 4000000 in
set_option maxRecDepth 100000 in
theorem B_X9_duePaid_4 {d : Nat} {ro : Nat → Nat} {J : JT} {Z : Option Value → Hp → Prop} (g : xCtx RX9 cX9_duePaid 3 d 0 0 yX9_duePaid.name ro J) (hr : xRet cX9_duePaid (some .int) 0 0 Z J) {μ : Hp} {a0 : Nat} {x1 : Int32} {x2 : Int32} {a0_row : Nat} {N_a0_row : Nat} (hs_a0 : hS μ a0 = some (13, 5)) (hr_a0_row : hR μ a0 0 = some a0_row) (hs_a0_row : hS μ a0_row = some (0, N_a0_row))
    (h : (((hI μ a0 2) ≤ x2 → Z (some (.int x1)) μ) ∧ (¬ (hI μ a0 2) ≤ x2 → vp_in (25 + x2) N_a0_row ∧ J μ 0 0 4 [(0, .ref a0), (1, .int (x1 + (hI μ a0_row ((25 + x2).toNatClampNeg)))), (2, .int (x2 + 1))] []))) :
    J μ 0 0 4 [(0, .ref a0), (1, .int x1), (2, .int x2)] [] := by
  refine r_iload_n g dX9_duePaid_4 rfl ?_
  refine r_aload_n g dX9_duePaid_5 rfl ?_
  refine r_getI g fX9_19 rfl hs_a0 dX9_duePaid_6 ?_
  refine r_icmp_ge g 30 dX9_duePaid_9 (by decide) (fun c1 => ?_) (fun c1 => ?_)
  · replace h := h.1 c1
    refine r_iload_n g dX9_duePaid_30 rfl ?_
    exact hr.2.1 _ rfl _ _ _ _ _ _ dX9_duePaid_31 rfl (Nat.le_refl 0) (Nat.le_refl 0) h
  · replace h := h.2 c1
    refine r_iload_n g dX9_duePaid_12 rfl ?_
    refine r_aload_n g dX9_duePaid_13 rfl ?_
    refine r_getR g fX9_11 rfl hs_a0 hr_a0_row dX9_duePaid_14 ?_
    refine r_bipush g 25 dX9_duePaid_17 (by decide) ?_
    refine r_iload_n g dX9_duePaid_19 rfl ?_
    refine r_iadd g dX9_duePaid_20 ?_
    obtain ⟨hi2, h⟩ := h
    refine r_iaload g hs_a0_row hi2 dX9_duePaid_21 ?_
    refine r_iadd g dX9_duePaid_22 ?_
    refine r_istore_n g [(1, .int (x1 + (hI μ a0_row ((25 + x2).toNatClampNeg)))), (0, .ref a0), (2, .int x2)] dX9_duePaid_23 (by decide) rfl ?_
    refine r_iinc g (x2 + 1) [(2, .int (x2 + 1)), (1, .int (x1 + (hI μ a0_row ((25 + x2).toNatClampNeg)))), (0, .ref a0)] dX9_duePaid_24 rfl rfl (by decide) rfl ?_
    refine r_goto g 4 dX9_duePaid_27 (by decide) ?_
    refine r_sub g (lv' := [(0, .ref a0), (1, .int (x1 + (hI μ a0_row ((25 + x2).toNatClampNeg)))), (2, .int (x2 + 1))]) (⟨rfl, rfl, rfl, trivial⟩) ?_
    exact h
theorem I_X9_duePaid {d : Nat} {ro : Nat → Nat} {Z : Option Value → Hp → Prop} {μ : Hp} {a0 : Nat} (h : ∀ J, xCtx RX9 cX9_duePaid 3 d 0 0 yX9_duePaid.name ro J → xRet cX9_duePaid (some .int) 0 0 Z J → J μ 0 0 0 [(0, .ref a0)] []) : xC d yX9_duePaid cX9_duePaid 3 (some .int) 0 0 [.ref a0] μ ro Z :=
  xC_intro (own := RX9) (lv := [(0, .ref a0)]) (by decide) rfl (Nat.le_of_ble_eq_true rfl) rfl (fun J g hr => r_sub g (lv' := [(0, .ref a0)]) (⟨rfl, trivial⟩) (h J g hr))
theorem dX9_takenBy_0 : decode cX9_takenBy 0 = .ok (.iconst 0, 1) := by decide +kernel
theorem dX9_takenBy_1 : decode cX9_takenBy 1 = .ok (.istore_n 3, 1) := by decide +kernel
theorem dX9_takenBy_2 : decode cX9_takenBy 2 = .ok (.aload_n 0, 1) := by decide +kernel
theorem dX9_takenBy_3 : decode cX9_takenBy 3 = .ok (.getfield 15, 3) := by decide +kernel
theorem dX9_takenBy_6 : decode cX9_takenBy 6 = .ok (.istore 4, 2) := by decide +kernel
theorem dX9_takenBy_8 : decode cX9_takenBy 8 = .ok (.iconst 0, 1) := by decide +kernel
theorem dX9_takenBy_9 : decode cX9_takenBy 9 = .ok (.istore 5, 2) := by decide +kernel
theorem dX9_takenBy_11 : decode cX9_takenBy 11 = .ok (.iload 5, 2) := by decide +kernel
theorem dX9_takenBy_13 : decode cX9_takenBy 13 = .ok (.aload_n 0, 1) := by decide +kernel
theorem dX9_takenBy_14 : decode cX9_takenBy 14 = .ok (.getfield 19, 3) := by decide +kernel
theorem dX9_takenBy_17 : decode cX9_takenBy 17 = .ok (.if_icmp .ge 80, 3) := by decide +kernel
theorem dX9_takenBy_20 : decode cX9_takenBy 20 = .ok (.aload_n 0, 1) := by decide +kernel
theorem dX9_takenBy_21 : decode cX9_takenBy 21 = .ok (.getfield 11, 3) := by decide +kernel
theorem dX9_takenBy_24 : decode cX9_takenBy 24 = .ok (.iconst 0, 1) := by decide +kernel
theorem dX9_takenBy_25 : decode cX9_takenBy 25 = .ok (.iload 5, 2) := by decide +kernel
theorem dX9_takenBy_27 : decode cX9_takenBy 27 = .ok (.iadd, 1) := by decide +kernel
theorem dX9_takenBy_28 : decode cX9_takenBy 28 = .ok (.iaload, 1) := by decide +kernel
theorem dX9_takenBy_29 : decode cX9_takenBy 29 = .ok (.istore 6, 2) := by decide +kernel
theorem dX9_takenBy_31 : decode cX9_takenBy 31 = .ok (.iload_n 3, 1) := by decide +kernel
theorem dX9_takenBy_32 : decode cX9_takenBy 32 = .ok (.aload_n 1, 1) := by decide +kernel
theorem dX9_takenBy_33 : decode cX9_takenBy 33 = .ok (.getfield 28, 3) := by decide +kernel
theorem dX9_takenBy_36 : decode cX9_takenBy 36 = .ok (.iload 4, 2) := by decide +kernel
theorem dX9_takenBy_38 : decode cX9_takenBy 38 = .ok (.iaload, 1) := by decide +kernel
theorem dX9_takenBy_39 : decode cX9_takenBy 39 = .ok (.iload_n 2, 1) := by decide +kernel
theorem dX9_takenBy_40 : decode cX9_takenBy 40 = .ok (.if_icmp .ne 16, 3) := by decide +kernel
theorem dX9_takenBy_43 : decode cX9_takenBy 43 = .ok (.aload_n 0, 1) := by decide +kernel
theorem dX9_takenBy_44 : decode cX9_takenBy 44 = .ok (.getfield 11, 3) := by decide +kernel
theorem dX9_takenBy_47 : decode cX9_takenBy 47 = .ok (.bipush 20, 2) := by decide +kernel
theorem dX9_takenBy_49 : decode cX9_takenBy 49 = .ok (.iload 5, 2) := by decide +kernel
theorem dX9_takenBy_51 : decode cX9_takenBy 51 = .ok (.iadd, 1) := by decide +kernel
theorem dX9_takenBy_52 : decode cX9_takenBy 52 = .ok (.iaload, 1) := by decide +kernel
theorem dX9_takenBy_53 : decode cX9_takenBy 53 = .ok (.goto 4, 3) := by decide +kernel
theorem dX9_takenBy_56 : decode cX9_takenBy 56 = .ok (.iconst 0, 1) := by decide +kernel
theorem dX9_takenBy_57 : decode cX9_takenBy 57 = .ok (.iadd, 1) := by decide +kernel
theorem dX9_takenBy_58 : decode cX9_takenBy 58 = .ok (.istore_n 3, 1) := by decide +kernel
theorem dX9_takenBy_59 : decode cX9_takenBy 59 = .ok (.iload_n 3, 1) := by decide +kernel
theorem dX9_takenBy_60 : decode cX9_takenBy 60 = .ok (.aload_n 1, 1) := by decide +kernel
theorem dX9_takenBy_61 : decode cX9_takenBy 61 = .ok (.getfield 28, 3) := by decide +kernel
theorem dX9_takenBy_64 : decode cX9_takenBy 64 = .ok (.iload 6, 2) := by decide +kernel
theorem dX9_takenBy_66 : decode cX9_takenBy 66 = .ok (.iaload, 1) := by decide +kernel
theorem dX9_takenBy_67 : decode cX9_takenBy 67 = .ok (.iload_n 2, 1) := by decide +kernel
theorem dX9_takenBy_68 : decode cX9_takenBy 68 = .ok (.if_icmp .ne 16, 3) := by decide +kernel
theorem dX9_takenBy_71 : decode cX9_takenBy 71 = .ok (.aload_n 0, 1) := by decide +kernel
theorem dX9_takenBy_72 : decode cX9_takenBy 72 = .ok (.getfield 11, 3) := by decide +kernel
theorem dX9_takenBy_75 : decode cX9_takenBy 75 = .ok (.bipush 25, 2) := by decide +kernel
theorem dX9_takenBy_77 : decode cX9_takenBy 77 = .ok (.iload 5, 2) := by decide +kernel
theorem dX9_takenBy_79 : decode cX9_takenBy 79 = .ok (.iadd, 1) := by decide +kernel
theorem dX9_takenBy_80 : decode cX9_takenBy 80 = .ok (.iaload, 1) := by decide +kernel
theorem dX9_takenBy_81 : decode cX9_takenBy 81 = .ok (.goto 4, 3) := by decide +kernel
theorem dX9_takenBy_84 : decode cX9_takenBy 84 = .ok (.iconst 0, 1) := by decide +kernel
theorem dX9_takenBy_85 : decode cX9_takenBy 85 = .ok (.iadd, 1) := by decide +kernel
theorem dX9_takenBy_86 : decode cX9_takenBy 86 = .ok (.istore_n 3, 1) := by decide +kernel
theorem dX9_takenBy_87 : decode cX9_takenBy 87 = .ok (.iload 6, 2) := by decide +kernel
theorem dX9_takenBy_89 : decode cX9_takenBy 89 = .ok (.istore 4, 2) := by decide +kernel
theorem dX9_takenBy_91 : decode cX9_takenBy 91 = .ok (.iinc 5 1, 3) := by decide +kernel
theorem dX9_takenBy_94 : decode cX9_takenBy 94 = .ok (.goto (-83), 3) := by decide +kernel
theorem dX9_takenBy_97 : decode cX9_takenBy 97 = .ok (.iload_n 3, 1) := by decide +kernel
theorem dX9_takenBy_98 : decode cX9_takenBy 98 = .ok (.ireturn, 1) := by decide +kernel
set_option maxHeartbeats 4000000 in
set_option maxRecDepth 100000 in
theorem B_X9_takenBy_0 {d : Nat} {ro : Nat → Nat} {J : JT} {Z : Option Value → Hp → Prop} (g : xCtx RX9 cX9_takenBy 7 d 0 0 yX9_takenBy.name ro J) (hr : xRet cX9_takenBy (some .int) 0 0 Z J) {μ : Hp} {a0 : Nat} {a1 : Nat} {x2 : Int32} (hs_a0 : hS μ a0 = some (13, 5))
    (h : J μ 0 0 11 [(0, .ref a0), (1, .ref a1), (2, .int x2), (3, .int 0), (4, .int (hI μ a0 1)), (5, .int 0)] []) :
    J μ 0 0 0 [(0, .ref a0), (1, .ref a1), (2, .int x2)] [] := by
  refine r_iconst g 0 dX9_takenBy_0 (by decide) ?_
  refine r_istore_n g [(3, .int 0), (0, .ref a0), (1, .ref a1), (2, .int x2)] dX9_takenBy_1 (by decide) rfl ?_
  refine r_aload_n g dX9_takenBy_2 rfl ?_
  refine r_getI g fX9_15 rfl hs_a0 dX9_takenBy_3 ?_
  refine r_istore g [(4, .int (hI μ a0 1)), (3, .int 0), (0, .ref a0), (1, .ref a1), (2, .int x2)] dX9_takenBy_6 (by decide) rfl ?_
  refine r_iconst g 0 dX9_takenBy_8 (by decide) ?_
  refine r_istore g [(5, .int 0), (4, .int (hI μ a0 1)), (3, .int 0), (0, .ref a0), (1, .ref a1), (2, .int x2)] dX9_takenBy_9 (by decide) rfl ?_
  refine r_sub g (lv' := [(0, .ref a0), (1, .ref a1), (2, .int x2), (3, .int 0), (4, .int (hI μ a0 1)), (5, .int 0)]) (⟨rfl, rfl, rfl, rfl, rfl, rfl, trivial⟩) ?_
  exact h
set_option maxHeartbeats 4000000 in
set_option maxRecDepth 100000 in
theorem B_X9_takenBy_11 {d : Nat} {ro : Nat → Nat} {J : JT} {Z : Option Value → Hp → Prop} (g : xCtx RX9 cX9_takenBy 7 d 0 0 yX9_takenBy.name ro J) (hr : xRet cX9_takenBy (some .int) 0 0 Z J) {μ : Hp} {a0 : Nat} {a1 : Nat} {x2 : Int32} {x3 : Int32} {x4 : Int32} {x5 : Int32} {a0_row : Nat} {N_a0_row : Nat} {a1_landOf : Nat} {N_a1_landOf : Nat} (hs_a0 : hS μ a0 = some (13, 5)) (hr_a0_row : hR μ a0 0 = some a0_row) (hs_a0_row : hS μ a0_row = some (0, N_a0_row)) (hs_a1 : hS μ a1 = some (6, 9)) (hr_a1_landOf : hR μ a1 3 = some a1_landOf) (hs_a1_landOf : hS μ a1_landOf = some (0, N_a1_landOf))
    (h : (((hI μ a0 2) ≤ x5 → Z (some (.int x3)) μ) ∧ (¬ (hI μ a0 2) ≤ x5 → vp_in (0 + x5) N_a0_row ∧ vp_in x4 N_a1_landOf ∧ ((¬ (hI μ a1_landOf x4.toNatClampNeg) = x2 → vp_in (hI μ a0_row ((0 + x5).toNatClampNeg)) N_a1_landOf ∧ (∀ v6 : Int32, v6 = (hI μ a1_landOf ((hI μ a0_row ((0 + x5).toNatClampNeg)).toNatClampNeg)) → ((¬ v6 = x2 → J μ 0 0 11 [(0, .ref a0), (1, .ref a1), (2, .int x2), (3, .int ((x3 + 0) + 0)), (4, .int (hI μ a0_row ((0 + x5).toNatClampNeg))), (5, .int (x5 + 1))] []) ∧ (v6 = x2 → vp_in (25 + x5) N_a0_row ∧ J μ 0 0 11 [(0, .ref a0), (1, .ref a1), (2, .int x2), (3, .int ((x3 + 0) + (hI μ a0_row ((25 + x5).toNatClampNeg)))), (4, .int (hI μ a0_row ((0 + x5).toNatClampNeg))), (5, .int (x5 + 1))] [])))) ∧ ((hI μ a1_landOf x4.toNatClampNeg) = x2 → vp_in (20 + x5) N_a0_row ∧ vp_in (hI μ a0_row ((0 + x5).toNatClampNeg)) N_a1_landOf ∧ (∀ v11 : Int32, v11 = (hI μ a1_landOf ((hI μ a0_row ((0 + x5).toNatClampNeg)).toNatClampNeg)) → ((¬ v11 = x2 → J μ 0 0 11 [(0, .ref a0), (1, .ref a1), (2, .int x2), (3, .int ((x3 + (hI μ a0_row ((20 + x5).toNatClampNeg))) + 0)), (4, .int (hI μ a0_row ((0 + x5).toNatClampNeg))), (5, .int (x5 + 1))] []) ∧ (v11 = x2 → vp_in (25 + x5) N_a0_row ∧ (∀ v14 : Int32, v14 = ((x3 + (hI μ a0_row ((20 + x5).toNatClampNeg))) + (hI μ a0_row ((25 + x5).toNatClampNeg))) → J μ 0 0 11 [(0, .ref a0), (1, .ref a1), (2, .int x2), (3, .int v14), (4, .int (hI μ a0_row ((0 + x5).toNatClampNeg))), (5, .int (x5 + 1))] []))))))))) :
    J μ 0 0 11 [(0, .ref a0), (1, .ref a1), (2, .int x2), (3, .int x3), (4, .int x4), (5, .int x5)] [] := by
  refine r_iload g dX9_takenBy_11 rfl ?_
  refine r_aload_n g dX9_takenBy_13 rfl ?_
  refine r_getI g fX9_19 rfl hs_a0 dX9_takenBy_14 ?_
  refine r_icmp_ge g 97 dX9_takenBy_17 (by decide) (fun c1 => ?_) (fun c1 => ?_)
  · replace h := h.1 c1
    refine r_iload_n g dX9_takenBy_97 rfl ?_
    exact hr.2.1 _ rfl _ _ _ _ _ _ dX9_takenBy_98 rfl (Nat.le_refl 0) (Nat.le_refl 0) h
  · replace h := h.2 c1
    refine r_aload_n g dX9_takenBy_20 rfl ?_
    refine r_getR g fX9_11 rfl hs_a0 hr_a0_row dX9_takenBy_21 ?_
    refine r_iconst g 0 dX9_takenBy_24 (by decide) ?_
    refine r_iload g dX9_takenBy_25 rfl ?_
    refine r_iadd g dX9_takenBy_27 ?_
    obtain ⟨hi2, h⟩ := h
    refine r_iaload g hs_a0_row hi2 dX9_takenBy_28 ?_
    refine r_istore g [(6, .int (hI μ a0_row ((0 + x5).toNatClampNeg))), (0, .ref a0), (1, .ref a1), (2, .int x2), (3, .int x3), (4, .int x4), (5, .int x5)] dX9_takenBy_29 (by decide) rfl ?_
    refine r_iload_n g dX9_takenBy_31 rfl ?_
    refine r_aload_n g dX9_takenBy_32 rfl ?_
    refine r_getR g fX9_28 rfl hs_a1 hr_a1_landOf dX9_takenBy_33 ?_
    refine r_iload g dX9_takenBy_36 rfl ?_
    obtain ⟨hi3, h⟩ := h
    refine r_iaload g hs_a1_landOf hi3 dX9_takenBy_38 ?_
    refine r_iload_n g dX9_takenBy_39 rfl ?_
    refine r_icmp_ne g 56 dX9_takenBy_40 (by decide) (fun c4 => ?_) (fun c4 => ?_)
    · replace h := h.1 c4
      refine r_iconst g 0 dX9_takenBy_56 (by decide) ?_
      refine r_iadd g dX9_takenBy_57 ?_
      refine r_istore_n g [(3, .int (x3 + 0)), (6, .int (hI μ a0_row ((0 + x5).toNatClampNeg))), (0, .ref a0), (1, .ref a1), (2, .int x2), (4, .int x4), (5, .int x5)] dX9_takenBy_58 (by decide) rfl ?_
      refine r_iload_n g dX9_takenBy_59 rfl ?_
      refine r_aload_n g dX9_takenBy_60 rfl ?_
      refine r_getR g fX9_28 rfl hs_a1 hr_a1_landOf dX9_takenBy_61 ?_
      refine r_iload g dX9_takenBy_64 rfl ?_
      obtain ⟨hi5, h⟩ := h
      refine r_iaload g hs_a1_landOf hi5 dX9_takenBy_66 ?_
      refine r_nmI (fun v6 ev6 => ?_)
      replace h := h v6 ev6
      refine r_iload_n g dX9_takenBy_67 rfl ?_
      refine r_icmp_ne g 84 dX9_takenBy_68 (by decide) (fun c7 => ?_) (fun c7 => ?_)
      · replace h := h.1 c7
        refine r_iconst g 0 dX9_takenBy_84 (by decide) ?_
        refine r_iadd g dX9_takenBy_85 ?_
        refine r_istore_n g [(3, .int ((x3 + 0) + 0)), (6, .int (hI μ a0_row ((0 + x5).toNatClampNeg))), (0, .ref a0), (1, .ref a1), (2, .int x2), (4, .int x4), (5, .int x5)] dX9_takenBy_86 (by decide) rfl ?_
        refine r_iload g dX9_takenBy_87 rfl ?_
        refine r_istore g [(4, .int (hI μ a0_row ((0 + x5).toNatClampNeg))), (3, .int ((x3 + 0) + 0)), (6, .int (hI μ a0_row ((0 + x5).toNatClampNeg))), (0, .ref a0), (1, .ref a1), (2, .int x2), (5, .int x5)] dX9_takenBy_89 (by decide) rfl ?_
        refine r_iinc g (x5 + 1) [(5, .int (x5 + 1)), (4, .int (hI μ a0_row ((0 + x5).toNatClampNeg))), (3, .int ((x3 + 0) + 0)), (6, .int (hI μ a0_row ((0 + x5).toNatClampNeg))), (0, .ref a0), (1, .ref a1), (2, .int x2)] dX9_takenBy_91 rfl rfl (by decide) rfl ?_
        refine r_goto g 11 dX9_takenBy_94 (by decide) ?_
        refine r_sub g (lv' := [(0, .ref a0), (1, .ref a1), (2, .int x2), (3, .int ((x3 + 0) + 0)), (4, .int (hI μ a0_row ((0 + x5).toNatClampNeg))), (5, .int (x5 + 1))]) (⟨rfl, rfl, rfl, rfl, rfl, rfl, trivial⟩) ?_
        exact h
      · replace h := h.2 c7
        refine r_aload_n g dX9_takenBy_71 rfl ?_
        refine r_getR g fX9_11 rfl hs_a0 hr_a0_row dX9_takenBy_72 ?_
        refine r_bipush g 25 dX9_takenBy_75 (by decide) ?_
        refine r_iload g dX9_takenBy_77 rfl ?_
        refine r_iadd g dX9_takenBy_79 ?_
        obtain ⟨hi8, h⟩ := h
        refine r_iaload g hs_a0_row hi8 dX9_takenBy_80 ?_
        refine r_goto g 85 dX9_takenBy_81 (by decide) ?_
        refine r_iadd g dX9_takenBy_85 ?_
        refine r_istore_n g [(3, .int ((x3 + 0) + (hI μ a0_row ((25 + x5).toNatClampNeg)))), (6, .int (hI μ a0_row ((0 + x5).toNatClampNeg))), (0, .ref a0), (1, .ref a1), (2, .int x2), (4, .int x4), (5, .int x5)] dX9_takenBy_86 (by decide) rfl ?_
        refine r_iload g dX9_takenBy_87 rfl ?_
        refine r_istore g [(4, .int (hI μ a0_row ((0 + x5).toNatClampNeg))), (3, .int ((x3 + 0) + (hI μ a0_row ((25 + x5).toNatClampNeg)))), (6, .int (hI μ a0_row ((0 + x5).toNatClampNeg))), (0, .ref a0), (1, .ref a1), (2, .int x2), (5, .int x5)] dX9_takenBy_89 (by decide) rfl ?_
        refine r_iinc g (x5 + 1) [(5, .int (x5 + 1)), (4, .int (hI μ a0_row ((0 + x5).toNatClampNeg))), (3, .int ((x3 + 0) + (hI μ a0_row ((25 + x5).toNatClampNeg)))), (6, .int (hI μ a0_row ((0 + x5).toNatClampNeg))), (0, .ref a0), (1, .ref a1), (2, .int x2)] dX9_takenBy_91 rfl rfl (by decide) rfl ?_
        refine r_goto g 11 dX9_takenBy_94 (by decide) ?_
        refine r_sub g (lv' := [(0, .ref a0), (1, .ref a1), (2, .int x2), (3, .int ((x3 + 0) + (hI μ a0_row ((25 + x5).toNatClampNeg)))), (4, .int (hI μ a0_row ((0 + x5).toNatClampNeg))), (5, .int (x5 + 1))]) (⟨rfl, rfl, rfl, rfl, rfl, rfl, trivial⟩) ?_
        exact h
    · replace h := h.2 c4
      refine r_aload_n g dX9_takenBy_43 rfl ?_
      refine r_getR g fX9_11 rfl hs_a0 hr_a0_row dX9_takenBy_44 ?_
      refine r_bipush g 20 dX9_takenBy_47 (by decide) ?_
      refine r_iload g dX9_takenBy_49 rfl ?_
      refine r_iadd g dX9_takenBy_51 ?_
      obtain ⟨hi9, h⟩ := h
      refine r_iaload g hs_a0_row hi9 dX9_takenBy_52 ?_
      refine r_goto g 57 dX9_takenBy_53 (by decide) ?_
      refine r_iadd g dX9_takenBy_57 ?_
      refine r_istore_n g [(3, .int (x3 + (hI μ a0_row ((20 + x5).toNatClampNeg)))), (6, .int (hI μ a0_row ((0 + x5).toNatClampNeg))), (0, .ref a0), (1, .ref a1), (2, .int x2), (4, .int x4), (5, .int x5)] dX9_takenBy_58 (by decide) rfl ?_
      refine r_iload_n g dX9_takenBy_59 rfl ?_
      refine r_aload_n g dX9_takenBy_60 rfl ?_
      refine r_getR g fX9_28 rfl hs_a1 hr_a1_landOf dX9_takenBy_61 ?_
      refine r_iload g dX9_takenBy_64 rfl ?_
      obtain ⟨hi10, h⟩ := h
      refine r_iaload g hs_a1_landOf hi10 dX9_takenBy_66 ?_
      refine r_nmI (fun v11 ev11 => ?_)
      replace h := h v11 ev11
      refine r_iload_n g dX9_takenBy_67 rfl ?_
      refine r_icmp_ne g 84 dX9_takenBy_68 (by decide) (fun c12 => ?_) (fun c12 => ?_)
      · replace h := h.1 c12
        refine r_iconst g 0 dX9_takenBy_84 (by decide) ?_
        refine r_iadd g dX9_takenBy_85 ?_
        refine r_istore_n g [(3, .int ((x3 + (hI μ a0_row ((20 + x5).toNatClampNeg))) + 0)), (6, .int (hI μ a0_row ((0 + x5).toNatClampNeg))), (0, .ref a0), (1, .ref a1), (2, .int x2), (4, .int x4), (5, .int x5)] dX9_takenBy_86 (by decide) rfl ?_
        refine r_iload g dX9_takenBy_87 rfl ?_
        refine r_istore g [(4, .int (hI μ a0_row ((0 + x5).toNatClampNeg))), (3, .int ((x3 + (hI μ a0_row ((20 + x5).toNatClampNeg))) + 0)), (6, .int (hI μ a0_row ((0 + x5).toNatClampNeg))), (0, .ref a0), (1, .ref a1), (2, .int x2), (5, .int x5)] dX9_takenBy_89 (by decide) rfl ?_
        refine r_iinc g (x5 + 1) [(5, .int (x5 + 1)), (4, .int (hI μ a0_row ((0 + x5).toNatClampNeg))), (3, .int ((x3 + (hI μ a0_row ((20 + x5).toNatClampNeg))) + 0)), (6, .int (hI μ a0_row ((0 + x5).toNatClampNeg))), (0, .ref a0), (1, .ref a1), (2, .int x2)] dX9_takenBy_91 rfl rfl (by decide) rfl ?_
        refine r_goto g 11 dX9_takenBy_94 (by decide) ?_
        refine r_sub g (lv' := [(0, .ref a0), (1, .ref a1), (2, .int x2), (3, .int ((x3 + (hI μ a0_row ((20 + x5).toNatClampNeg))) + 0)), (4, .int (hI μ a0_row ((0 + x5).toNatClampNeg))), (5, .int (x5 + 1))]) (⟨rfl, rfl, rfl, rfl, rfl, rfl, trivial⟩) ?_
        exact h
      · replace h := h.2 c12
        refine r_aload_n g dX9_takenBy_71 rfl ?_
        refine r_getR g fX9_11 rfl hs_a0 hr_a0_row dX9_takenBy_72 ?_
        refine r_bipush g 25 dX9_takenBy_75 (by decide) ?_
        refine r_iload g dX9_takenBy_77 rfl ?_
        refine r_iadd g dX9_takenBy_79 ?_
        obtain ⟨hi13, h⟩ := h
        refine r_iaload g hs_a0_row hi13 dX9_takenBy_80 ?_
        refine r_goto g 85 dX9_takenBy_81 (by decide) ?_
        refine r_iadd g dX9_takenBy_85 ?_
        refine r_nmI (fun v14 ev14 => ?_)
        replace h := h v14 ev14
        refine r_istore_n g [(3, .int v14), (6, .int (hI μ a0_row ((0 + x5).toNatClampNeg))), (0, .ref a0), (1, .ref a1), (2, .int x2), (4, .int x4), (5, .int x5)] dX9_takenBy_86 (by decide) rfl ?_
        refine r_iload g dX9_takenBy_87 rfl ?_
        refine r_istore g [(4, .int (hI μ a0_row ((0 + x5).toNatClampNeg))), (3, .int v14), (6, .int (hI μ a0_row ((0 + x5).toNatClampNeg))), (0, .ref a0), (1, .ref a1), (2, .int x2), (5, .int x5)] dX9_takenBy_89 (by decide) rfl ?_
        refine r_iinc g (x5 + 1) [(5, .int (x5 + 1)), (4, .int (hI μ a0_row ((0 + x5).toNatClampNeg))), (3, .int v14), (6, .int (hI μ a0_row ((0 + x5).toNatClampNeg))), (0, .ref a0), (1, .ref a1), (2, .int x2)] dX9_takenBy_91 rfl rfl (by decide) rfl ?_
        refine r_goto g 11 dX9_takenBy_94 (by decide) ?_
        refine r_sub g (lv' := [(0, .ref a0), (1, .ref a1), (2, .int x2), (3, .int v14), (4, .int (hI μ a0_row ((0 + x5).toNatClampNeg))), (5, .int (x5 + 1))]) (⟨rfl, rfl, rfl, rfl, rfl, rfl, trivial⟩) ?_
        exact h
theorem I_X9_takenBy {d : Nat} {ro : Nat → Nat} {Z : Option Value → Hp → Prop} {μ : Hp} {a0 : Nat} {a1 : Nat} {x2 : Int32} (h : ∀ J, xCtx RX9 cX9_takenBy 7 d 0 0 yX9_takenBy.name ro J → xRet cX9_takenBy (some .int) 0 0 Z J → J μ 0 0 0 [(0, .ref a0), (1, .ref a1), (2, .int x2)] []) : xC d yX9_takenBy cX9_takenBy 7 (some .int) 0 0 [.ref a0, .ref a1, .int x2] μ ro Z :=
  xC_intro (own := RX9) (lv := [(0, .ref a0), (1, .ref a1), (2, .int x2)]) (by decide) rfl (Nat.le_of_ble_eq_true rfl) rfl (fun J g hr => r_sub g (lv' := [(0, .ref a0), (1, .ref a1), (2, .int x2)]) (⟨rfl, rfl, rfl, trivial⟩) (h J g hr))
