theorem dX2_treatyOf_0 : decode cX2_treatyOf 0 = .ok (.iconst (-1), 1) := by decide +kernel
theorem dX2_treatyOf_1 : decode cX2_treatyOf 1 = .ok (.istore 4, 2) := by decide +kernel
theorem dX2_treatyOf_3 : decode cX2_treatyOf 3 = .ok (.iconst 0, 1) := by decide +kernel
theorem dX2_treatyOf_4 : decode cX2_treatyOf 4 = .ok (.istore 5, 2) := by decide +kernel
theorem dX2_treatyOf_6 : decode cX2_treatyOf 6 = .ok (.iload 5, 2) := by decide +kernel
theorem dX2_treatyOf_8 : decode cX2_treatyOf 8 = .ok (.aload_n 0, 1) := by decide +kernel
theorem dX2_treatyOf_9 : decode cX2_treatyOf 9 = .ok (.getfield 35, 3) := by decide +kernel
theorem dX2_treatyOf_12 : decode cX2_treatyOf 12 = .ok (.if_icmp .ge 110, 3) := by decide +kernel
theorem dX2_treatyOf_15 : decode cX2_treatyOf 15 = .ok (.aload_n 0, 1) := by decide +kernel
theorem dX2_treatyOf_16 : decode cX2_treatyOf 16 = .ok (.getfield 25, 3) := by decide +kernel
theorem dX2_treatyOf_19 : decode cX2_treatyOf 19 = .ok (.bipush 96, 2) := by decide +kernel
theorem dX2_treatyOf_21 : decode cX2_treatyOf 21 = .ok (.iload 5, 2) := by decide +kernel
theorem dX2_treatyOf_23 : decode cX2_treatyOf 23 = .ok (.iadd, 1) := by decide +kernel
theorem dX2_treatyOf_24 : decode cX2_treatyOf 24 = .ok (.iaload, 1) := by decide +kernel
theorem dX2_treatyOf_25 : decode cX2_treatyOf 25 = .ok (.istore 6, 2) := by decide +kernel
theorem dX2_treatyOf_27 : decode cX2_treatyOf 27 = .ok (.aload_n 0, 1) := by decide +kernel
theorem dX2_treatyOf_28 : decode cX2_treatyOf 28 = .ok (.getfield 25, 3) := by decide +kernel
theorem dX2_treatyOf_31 : decode cX2_treatyOf 31 = .ok (.bipush 108, 2) := by decide +kernel
theorem dX2_treatyOf_33 : decode cX2_treatyOf 33 = .ok (.iload 5, 2) := by decide +kernel
theorem dX2_treatyOf_35 : decode cX2_treatyOf 35 = .ok (.iadd, 1) := by decide +kernel
theorem dX2_treatyOf_36 : decode cX2_treatyOf 36 = .ok (.iaload, 1) := by decide +kernel
theorem dX2_treatyOf_37 : decode cX2_treatyOf 37 = .ok (.istore 7, 2) := by decide +kernel
theorem dX2_treatyOf_39 : decode cX2_treatyOf 39 = .ok (.aload_n 0, 1) := by decide +kernel
theorem dX2_treatyOf_40 : decode cX2_treatyOf 40 = .ok (.getfield 25, 3) := by decide +kernel
theorem dX2_treatyOf_43 : decode cX2_treatyOf 43 = .ok (.iconst 0, 1) := by decide +kernel
theorem dX2_treatyOf_44 : decode cX2_treatyOf 44 = .ok (.iload 5, 2) := by decide +kernel
theorem dX2_treatyOf_46 : decode cX2_treatyOf 46 = .ok (.iadd, 1) := by decide +kernel
theorem dX2_treatyOf_47 : decode cX2_treatyOf 47 = .ok (.iaload, 1) := by decide +kernel
theorem dX2_treatyOf_48 : decode cX2_treatyOf 48 = .ok (.istore 8, 2) := by decide +kernel
theorem dX2_treatyOf_50 : decode cX2_treatyOf 50 = .ok (.iload 6, 2) := by decide +kernel
theorem dX2_treatyOf_52 : decode cX2_treatyOf 52 = .ok (.iload_n 1, 1) := by decide +kernel
theorem dX2_treatyOf_53 : decode cX2_treatyOf 53 = .ok (.if_icmp .ne 9, 3) := by decide +kernel
theorem dX2_treatyOf_56 : decode cX2_treatyOf 56 = .ok (.iload 7, 2) := by decide +kernel
theorem dX2_treatyOf_58 : decode cX2_treatyOf 58 = .ok (.iload_n 2, 1) := by decide +kernel
theorem dX2_treatyOf_59 : decode cX2_treatyOf 59 = .ok (.if_icmp .eq 15, 3) := by decide +kernel
theorem dX2_treatyOf_62 : decode cX2_treatyOf 62 = .ok (.iload 6, 2) := by decide +kernel
theorem dX2_treatyOf_64 : decode cX2_treatyOf 64 = .ok (.iload_n 2, 1) := by decide +kernel
theorem dX2_treatyOf_65 : decode cX2_treatyOf 65 = .ok (.if_icmp .ne 13, 3) := by decide +kernel
theorem dX2_treatyOf_68 : decode cX2_treatyOf 68 = .ok (.iload 7, 2) := by decide +kernel
theorem dX2_treatyOf_70 : decode cX2_treatyOf 70 = .ok (.iload_n 1, 1) := by decide +kernel
theorem dX2_treatyOf_71 : decode cX2_treatyOf 71 = .ok (.if_icmp .ne 7, 3) := by decide +kernel
theorem dX2_treatyOf_74 : decode cX2_treatyOf 74 = .ok (.iconst 1, 1) := by decide +kernel
theorem dX2_treatyOf_75 : decode cX2_treatyOf 75 = .ok (.goto 4, 3) := by decide +kernel
theorem dX2_treatyOf_78 : decode cX2_treatyOf 78 = .ok (.iconst 0, 1) := by decide +kernel
theorem dX2_treatyOf_79 : decode cX2_treatyOf 79 = .ok (.istore 9, 2) := by decide +kernel
theorem dX2_treatyOf_81 : decode cX2_treatyOf 81 = .ok (.iload 9, 2) := by decide +kernel
theorem dX2_treatyOf_83 : decode cX2_treatyOf 83 = .ok (.ifCond .eq 33, 3) := by decide +kernel
theorem dX2_treatyOf_86 : decode cX2_treatyOf 86 = .ok (.iload 8, 2) := by decide +kernel
theorem dX2_treatyOf_88 : decode cX2_treatyOf 88 = .ok (.iload_n 3, 1) := by decide +kernel
theorem dX2_treatyOf_89 : decode cX2_treatyOf 89 = .ok (.if_icmp .gt 27, 3) := by decide +kernel
theorem dX2_treatyOf_92 : decode cX2_treatyOf 92 = .ok (.iload 4, 2) := by decide +kernel
theorem dX2_treatyOf_94 : decode cX2_treatyOf 94 = .ok (.iconst (-1), 1) := by decide +kernel
theorem dX2_treatyOf_95 : decode cX2_treatyOf 95 = .ok (.if_icmp .eq 17, 3) := by decide +kernel
theorem dX2_treatyOf_98 : decode cX2_treatyOf 98 = .ok (.iload 8, 2) := by decide +kernel
theorem dX2_treatyOf_100 : decode cX2_treatyOf 100 = .ok (.aload_n 0, 1) := by decide +kernel
theorem dX2_treatyOf_101 : decode cX2_treatyOf 101 = .ok (.getfield 25, 3) := by decide +kernel
theorem dX2_treatyOf_104 : decode cX2_treatyOf 104 = .ok (.iconst 0, 1) := by decide +kernel
theorem dX2_treatyOf_105 : decode cX2_treatyOf 105 = .ok (.iload 4, 2) := by decide +kernel
theorem dX2_treatyOf_107 : decode cX2_treatyOf 107 = .ok (.iadd, 1) := by decide +kernel
theorem dX2_treatyOf_108 : decode cX2_treatyOf 108 = .ok (.iaload, 1) := by decide +kernel
theorem dX2_treatyOf_109 : decode cX2_treatyOf 109 = .ok (.if_icmp .lt 7, 3) := by decide +kernel
theorem dX2_treatyOf_112 : decode cX2_treatyOf 112 = .ok (.iload 5, 2) := by decide +kernel
theorem dX2_treatyOf_114 : decode cX2_treatyOf 114 = .ok (.istore 4, 2) := by decide +kernel
theorem dX2_treatyOf_116 : decode cX2_treatyOf 116 = .ok (.iinc 5 1, 3) := by decide +kernel
theorem dX2_treatyOf_119 : decode cX2_treatyOf 119 = .ok (.goto (-113), 3) := by decide +kernel
theorem dX2_treatyOf_122 : decode cX2_treatyOf 122 = .ok (.iload 4, 2) := by decide +kernel
theorem dX2_treatyOf_124 : decode cX2_treatyOf 124 = .ok (.iconst (-1), 1) := by decide +kernel
theorem dX2_treatyOf_125 : decode cX2_treatyOf 125 = .ok (.if_icmp .eq 17, 3) := by decide +kernel
theorem dX2_treatyOf_128 : decode cX2_treatyOf 128 = .ok (.aload_n 0, 1) := by decide +kernel
theorem dX2_treatyOf_129 : decode cX2_treatyOf 129 = .ok (.getfield 25, 3) := by decide +kernel
theorem dX2_treatyOf_132 : decode cX2_treatyOf 132 = .ok (.bipush 120, 2) := by decide +kernel
theorem dX2_treatyOf_134 : decode cX2_treatyOf 134 = .ok (.iload 4, 2) := by decide +kernel
theorem dX2_treatyOf_136 : decode cX2_treatyOf 136 = .ok (.iadd, 1) := by decide +kernel
theorem dX2_treatyOf_137 : decode cX2_treatyOf 137 = .ok (.iaload, 1) := by decide +kernel
theorem dX2_treatyOf_138 : decode cX2_treatyOf 138 = .ok (.iconst 1, 1) := by decide +kernel
theorem dX2_treatyOf_139 : decode cX2_treatyOf 139 = .ok (.if_icmp .ne 7, 3) := by decide +kernel
theorem dX2_treatyOf_142 : decode cX2_treatyOf 142 = .ok (.iconst (-1), 1) := by decide +kernel
theorem dX2_treatyOf_143 : decode cX2_treatyOf 143 = .ok (.goto 5, 3) := by decide +kernel
theorem dX2_treatyOf_146 : decode cX2_treatyOf 146 = .ok (.iload 4, 2) := by decide +kernel
theorem dX2_treatyOf_148 : decode cX2_treatyOf 148 = .ok (.ireturn, 1) := by decide +kernel
set_option maxHeartbeats 4000000 in
set_option maxRecDepth 100000 in
theorem B_X2_treatyOf_0 {d : Nat} {ro : Nat → Nat} {J : JT} {Z : Option Value → Hp → Prop} (g : xCtx RX2 cX2_treatyOf 10 d 0 0 yX2_treatyOf.name ro J) (hr : xRet cX2_treatyOf (some .int) 0 0 Z J) {μ : Hp} {a0 : Nat} {x1 : Int32} {x2 : Int32} {x3 : Int32} 
    (h : J μ 0 0 6 [(0, .ref a0), (1, .int x1), (2, .int x2), (3, .int x3), (4, .int (-1)), (5, .int 0)] []) :
    J μ 0 0 0 [(0, .ref a0), (1, .int x1), (2, .int x2), (3, .int x3)] [] := by
  refine r_iconst g (-1) dX2_treatyOf_0 (by decide) ?_
  refine r_istore g [(4, .int (-1)), (0, .ref a0), (1, .int x1), (2, .int x2), (3, .int x3)] dX2_treatyOf_1 (by decide) rfl ?_
  refine r_iconst g 0 dX2_treatyOf_3 (by decide) ?_
  refine r_istore g [(5, .int 0), (4, .int (-1)), (0, .ref a0), (1, .int x1), (2, .int x2), (3, .int x3)] dX2_treatyOf_4 (by decide) rfl ?_
  refine r_sub g (lv' := [(0, .ref a0), (1, .int x1), (2, .int x2), (3, .int x3), (4, .int (-1)), (5, .int 0)]) (⟨rfl, rfl, rfl, rfl, rfl, rfl, trivial⟩) ?_
  exact h
set_option maxHeartbeats 4000000 in
set_option maxRecDepth 100000 in
theorem B_X2_treatyOf_6 {d : Nat} {ro : Nat → Nat} {J : JT} {Z : Option Value → Hp → Prop} (g : xCtx RX2 cX2_treatyOf 10 d 0 0 yX2_treatyOf.name ro J) (hr : xRet cX2_treatyOf (some .int) 0 0 Z J) {μ : Hp} {a0 : Nat} {x1 : Int32} {x2 : Int32} {x3 : Int32} {x4 : Int32} {x5 : Int32} {a0_treaties : Nat} {N_a0_treaties : Nat} (hs_a0 : hS μ a0 = some (6, 9)) (hr_a0_treaties : hR μ a0 4 = some a0_treaties) (hs_a0_treaties : hS μ a0_treaties = some (0, N_a0_treaties))
    (h : (((hI μ a0 7) ≤ x5 → ((x4 = (-1) → Z (some (.int (-1))) μ) ∧ (¬ x4 = (-1) → vp_in (120 + x4) N_a0_treaties ∧ ((¬ (hI μ a0_treaties ((120 + x4).toNatClampNeg)) = 1 → Z (some (.int x4)) μ) ∧ ((hI μ a0_treaties ((120 + x4).toNatClampNeg)) = 1 → Z (some (.int (-1))) μ))))) ∧ (¬ (hI μ a0 7) ≤ x5 → vp_in (96 + x5) N_a0_treaties ∧ vp_in (108 + x5) N_a0_treaties ∧ vp_in (0 + x5) N_a0_treaties ∧ ((¬ (hI μ a0_treaties ((96 + x5).toNatClampNeg)) = x1 → J μ 0 0 62 [(0, .ref a0), (1, .int x1), (2, .int x2), (3, .int x3), (4, .int x4), (5, .int x5), (6, .int (hI μ a0_treaties ((96 + x5).toNatClampNeg))), (7, .int (hI μ a0_treaties ((108 + x5).toNatClampNeg))), (8, .int (hI μ a0_treaties ((0 + x5).toNatClampNeg)))] []) ∧ ((hI μ a0_treaties ((96 + x5).toNatClampNeg)) = x1 → (((hI μ a0_treaties ((108 + x5).toNatClampNeg)) = x2 → ((x3 < (hI μ a0_treaties ((0 + x5).toNatClampNeg)) → J μ 0 0 116 [(0, .ref a0), (1, .int x1), (2, .int x2), (3, .int x3), (4, .int x4), (5, .int x5)] []) ∧ (¬ x3 < (hI μ a0_treaties ((0 + x5).toNatClampNeg)) → ((x4 = (-1) → J μ 0 0 116 [(0, .ref a0), (1, .int x1), (2, .int x2), (3, .int x3), (4, .int x5), (5, .int x5)] []) ∧ (¬ x4 = (-1) → vp_in (0 + x4) N_a0_treaties ∧ (((hI μ a0_treaties ((0 + x5).toNatClampNeg)) < (hI μ a0_treaties ((0 + x4).toNatClampNeg)) → J μ 0 0 116 [(0, .ref a0), (1, .int x1), (2, .int x2), (3, .int x3), (4, .int x4), (5, .int x5)] []) ∧ (¬ (hI μ a0_treaties ((0 + x5).toNatClampNeg)) < (hI μ a0_treaties ((0 + x4).toNatClampNeg)) → J μ 0 0 116 [(0, .ref a0), (1, .int x1), (2, .int x2), (3, .int x3), (4, .int x5), (5, .int x5)] []))))))) ∧ (¬ (hI μ a0_treaties ((108 + x5).toNatClampNeg)) = x2 → J μ 0 0 62 [(0, .ref a0), (1, .int x1), (2, .int x2), (3, .int x3), (4, .int x4), (5, .int x5), (6, .int (hI μ a0_treaties ((96 + x5).toNatClampNeg))), (7, .int (hI μ a0_treaties ((108 + x5).toNatClampNeg))), (8, .int (hI μ a0_treaties ((0 + x5).toNatClampNeg)))] []))))))) :
    J μ 0 0 6 [(0, .ref a0), (1, .int x1), (2, .int x2), (3, .int x3), (4, .int x4), (5, .int x5)] [] := by
  refine r_iload g dX2_treatyOf_6 rfl ?_
  refine r_aload_n g dX2_treatyOf_8 rfl ?_
  refine r_getI g fX2_35 rfl hs_a0 dX2_treatyOf_9 ?_
  refine r_icmp_ge g 122 dX2_treatyOf_12 (by decide) (fun c1 => ?_) (fun c1 => ?_)
  · replace h := h.1 c1
    refine r_iload g dX2_treatyOf_122 rfl ?_
    refine r_iconst g (-1) dX2_treatyOf_124 (by decide) ?_
    refine r_icmp_eq g 142 dX2_treatyOf_125 (by decide) (fun c2 => ?_) (fun c2 => ?_)
    · replace h := h.1 c2
      refine r_iconst g (-1) dX2_treatyOf_142 (by decide) ?_
      refine r_goto g 148 dX2_treatyOf_143 (by decide) ?_
      exact hr.2.1 _ rfl _ _ _ _ _ _ dX2_treatyOf_148 rfl (Nat.le_refl 0) (Nat.le_refl 0) h
    · replace h := h.2 c2
      refine r_aload_n g dX2_treatyOf_128 rfl ?_
      refine r_getR g fX2_25 rfl hs_a0 hr_a0_treaties dX2_treatyOf_129 ?_
      refine r_bipush g 120 dX2_treatyOf_132 (by decide) ?_
      refine r_iload g dX2_treatyOf_134 rfl ?_
      refine r_iadd g dX2_treatyOf_136 ?_
      obtain ⟨hi3, h⟩ := h
      refine r_iaload g hs_a0_treaties hi3 dX2_treatyOf_137 ?_
      refine r_iconst g 1 dX2_treatyOf_138 (by decide) ?_
      refine r_icmp_ne g 146 dX2_treatyOf_139 (by decide) (fun c4 => ?_) (fun c4 => ?_)
      · replace h := h.1 c4
        refine r_iload g dX2_treatyOf_146 rfl ?_
        exact hr.2.1 _ rfl _ _ _ _ _ _ dX2_treatyOf_148 rfl (Nat.le_refl 0) (Nat.le_refl 0) h
      · replace h := h.2 c4
        refine r_iconst g (-1) dX2_treatyOf_142 (by decide) ?_
        refine r_goto g 148 dX2_treatyOf_143 (by decide) ?_
        exact hr.2.1 _ rfl _ _ _ _ _ _ dX2_treatyOf_148 rfl (Nat.le_refl 0) (Nat.le_refl 0) h
  · replace h := h.2 c1
    refine r_aload_n g dX2_treatyOf_15 rfl ?_
    refine r_getR g fX2_25 rfl hs_a0 hr_a0_treaties dX2_treatyOf_16 ?_
    refine r_bipush g 96 dX2_treatyOf_19 (by decide) ?_
    refine r_iload g dX2_treatyOf_21 rfl ?_
    refine r_iadd g dX2_treatyOf_23 ?_
    obtain ⟨hi5, h⟩ := h
    refine r_iaload g hs_a0_treaties hi5 dX2_treatyOf_24 ?_
    refine r_istore g [(6, .int (hI μ a0_treaties ((96 + x5).toNatClampNeg))), (0, .ref a0), (1, .int x1), (2, .int x2), (3, .int x3), (4, .int x4), (5, .int x5)] dX2_treatyOf_25 (by decide) rfl ?_
    refine r_aload_n g dX2_treatyOf_27 rfl ?_
    refine r_getR g fX2_25 rfl hs_a0 hr_a0_treaties dX2_treatyOf_28 ?_
    refine r_bipush g 108 dX2_treatyOf_31 (by decide) ?_
    refine r_iload g dX2_treatyOf_33 rfl ?_
    refine r_iadd g dX2_treatyOf_35 ?_
    obtain ⟨hi6, h⟩ := h
    refine r_iaload g hs_a0_treaties hi6 dX2_treatyOf_36 ?_
    refine r_istore g [(7, .int (hI μ a0_treaties ((108 + x5).toNatClampNeg))), (6, .int (hI μ a0_treaties ((96 + x5).toNatClampNeg))), (0, .ref a0), (1, .int x1), (2, .int x2), (3, .int x3), (4, .int x4), (5, .int x5)] dX2_treatyOf_37 (by decide) rfl ?_
    refine r_aload_n g dX2_treatyOf_39 rfl ?_
    refine r_getR g fX2_25 rfl hs_a0 hr_a0_treaties dX2_treatyOf_40 ?_
    refine r_iconst g 0 dX2_treatyOf_43 (by decide) ?_
    refine r_iload g dX2_treatyOf_44 rfl ?_
    refine r_iadd g dX2_treatyOf_46 ?_
    obtain ⟨hi7, h⟩ := h
    refine r_iaload g hs_a0_treaties hi7 dX2_treatyOf_47 ?_
    refine r_istore g [(8, .int (hI μ a0_treaties ((0 + x5).toNatClampNeg))), (7, .int (hI μ a0_treaties ((108 + x5).toNatClampNeg))), (6, .int (hI μ a0_treaties ((96 + x5).toNatClampNeg))), (0, .ref a0), (1, .int x1), (2, .int x2), (3, .int x3), (4, .int x4), (5, .int x5)] dX2_treatyOf_48 (by decide) rfl ?_
    refine r_iload g dX2_treatyOf_50 rfl ?_
    refine r_iload_n g dX2_treatyOf_52 rfl ?_
    refine r_icmp_ne g 62 dX2_treatyOf_53 (by decide) (fun c8 => ?_) (fun c8 => ?_)
    · replace h := h.1 c8
      refine r_sub g (lv' := [(0, .ref a0), (1, .int x1), (2, .int x2), (3, .int x3), (4, .int x4), (5, .int x5), (6, .int (hI μ a0_treaties ((96 + x5).toNatClampNeg))), (7, .int (hI μ a0_treaties ((108 + x5).toNatClampNeg))), (8, .int (hI μ a0_treaties ((0 + x5).toNatClampNeg)))]) (⟨rfl, rfl, rfl, rfl, rfl, rfl, rfl, rfl, rfl, trivial⟩) ?_
      exact h
    · replace h := h.2 c8
      refine r_iload g dX2_treatyOf_56 rfl ?_
      refine r_iload_n g dX2_treatyOf_58 rfl ?_
      refine r_icmp_eq g 74 dX2_treatyOf_59 (by decide) (fun c9 => ?_) (fun c9 => ?_)
      · replace h := h.1 c9
        refine r_iconst g 1 dX2_treatyOf_74 (by decide) ?_
        refine r_goto g 79 dX2_treatyOf_75 (by decide) ?_
        refine r_istore g [(9, .int 1), (8, .int (hI μ a0_treaties ((0 + x5).toNatClampNeg))), (7, .int (hI μ a0_treaties ((108 + x5).toNatClampNeg))), (6, .int (hI μ a0_treaties ((96 + x5).toNatClampNeg))), (0, .ref a0), (1, .int x1), (2, .int x2), (3, .int x3), (4, .int x4), (5, .int x5)] dX2_treatyOf_79 (by decide) rfl ?_
        refine r_iload g dX2_treatyOf_81 rfl ?_
        refine r_if_eq g 116 dX2_treatyOf_83 (by decide) (fun hz => absurd hz (by decide)) (fun _ => ?_)
        refine r_iload g dX2_treatyOf_86 rfl ?_
        refine r_iload_n g dX2_treatyOf_88 rfl ?_
        refine r_icmp_gt g 116 dX2_treatyOf_89 (by decide) (fun c10 => ?_) (fun c10 => ?_)
        · replace h := h.1 c10
          refine r_sub g (lv' := [(0, .ref a0), (1, .int x1), (2, .int x2), (3, .int x3), (4, .int x4), (5, .int x5)]) (⟨rfl, rfl, rfl, rfl, rfl, rfl, trivial⟩) ?_
          exact h
        · replace h := h.2 c10
          refine r_iload g dX2_treatyOf_92 rfl ?_
          refine r_iconst g (-1) dX2_treatyOf_94 (by decide) ?_
          refine r_icmp_eq g 112 dX2_treatyOf_95 (by decide) (fun c11 => ?_) (fun c11 => ?_)
          · replace h := h.1 c11
            refine r_iload g dX2_treatyOf_112 rfl ?_
            refine r_istore g [(4, .int x5), (9, .int 1), (8, .int (hI μ a0_treaties ((0 + x5).toNatClampNeg))), (7, .int (hI μ a0_treaties ((108 + x5).toNatClampNeg))), (6, .int (hI μ a0_treaties ((96 + x5).toNatClampNeg))), (0, .ref a0), (1, .int x1), (2, .int x2), (3, .int x3), (5, .int x5)] dX2_treatyOf_114 (by decide) rfl ?_
            refine r_sub g (lv' := [(0, .ref a0), (1, .int x1), (2, .int x2), (3, .int x3), (4, .int x5), (5, .int x5)]) (⟨rfl, rfl, rfl, rfl, rfl, rfl, trivial⟩) ?_
            exact h
          · replace h := h.2 c11
            refine r_iload g dX2_treatyOf_98 rfl ?_
            refine r_aload_n g dX2_treatyOf_100 rfl ?_
            refine r_getR g fX2_25 rfl hs_a0 hr_a0_treaties dX2_treatyOf_101 ?_
            refine r_iconst g 0 dX2_treatyOf_104 (by decide) ?_
            refine r_iload g dX2_treatyOf_105 rfl ?_
            refine r_iadd g dX2_treatyOf_107 ?_
            obtain ⟨hi12, h⟩ := h
            refine r_iaload g hs_a0_treaties hi12 dX2_treatyOf_108 ?_
            refine r_icmp_lt g 116 dX2_treatyOf_109 (by decide) (fun c13 => ?_) (fun c13 => ?_)
            · replace h := h.1 c13
              refine r_sub g (lv' := [(0, .ref a0), (1, .int x1), (2, .int x2), (3, .int x3), (4, .int x4), (5, .int x5)]) (⟨rfl, rfl, rfl, rfl, rfl, rfl, trivial⟩) ?_
              exact h
            · replace h := h.2 c13
              refine r_iload g dX2_treatyOf_112 rfl ?_
              refine r_istore g [(4, .int x5), (9, .int 1), (8, .int (hI μ a0_treaties ((0 + x5).toNatClampNeg))), (7, .int (hI μ a0_treaties ((108 + x5).toNatClampNeg))), (6, .int (hI μ a0_treaties ((96 + x5).toNatClampNeg))), (0, .ref a0), (1, .int x1), (2, .int x2), (3, .int x3), (5, .int x5)] dX2_treatyOf_114 (by decide) rfl ?_
              refine r_sub g (lv' := [(0, .ref a0), (1, .int x1), (2, .int x2), (3, .int x3), (4, .int x5), (5, .int x5)]) (⟨rfl, rfl, rfl, rfl, rfl, rfl, trivial⟩) ?_
              exact h
      · replace h := h.2 c9
        refine r_sub g (lv' := [(0, .ref a0), (1, .int x1), (2, .int x2), (3, .int x3), (4, .int x4), (5, .int x5), (6, .int (hI μ a0_treaties ((96 + x5).toNatClampNeg))), (7, .int (hI μ a0_treaties ((108 + x5).toNatClampNeg))), (8, .int (hI μ a0_treaties ((0 + x5).toNatClampNeg)))]) (⟨rfl, rfl, rfl, rfl, rfl, rfl, rfl, rfl, rfl, trivial⟩) ?_
        exact h
set_option maxHeartbeats 4000000 in
set_option maxRecDepth 100000 in
theorem B_X2_treatyOf_62 {d : Nat} {ro : Nat → Nat} {J : JT} {Z : Option Value → Hp → Prop} (g : xCtx RX2 cX2_treatyOf 10 d 0 0 yX2_treatyOf.name ro J) (hr : xRet cX2_treatyOf (some .int) 0 0 Z J) {μ : Hp} {a0 : Nat} {x1 : Int32} {x2 : Int32} {x3 : Int32} {x4 : Int32} {x5 : Int32} {x6 : Int32} {x7 : Int32} {x8 : Int32} {a0_treaties : Nat} {N_a0_treaties : Nat} (hs_a0 : hS μ a0 = some (6, 9)) (hr_a0_treaties : hR μ a0 4 = some a0_treaties) (hs_a0_treaties : hS μ a0_treaties = some (0, N_a0_treaties))
    (h : ((¬ x6 = x2 → J μ 0 0 116 [(0, .ref a0), (1, .int x1), (2, .int x2), (3, .int x3), (4, .int x4), (5, .int x5)] []) ∧ (x6 = x2 → ((¬ x7 = x1 → J μ 0 0 116 [(0, .ref a0), (1, .int x1), (2, .int x2), (3, .int x3), (4, .int x4), (5, .int x5)] []) ∧ (x7 = x1 → ((x3 < x8 → J μ 0 0 116 [(0, .ref a0), (1, .int x1), (2, .int x2), (3, .int x3), (4, .int x4), (5, .int x5)] []) ∧ (¬ x3 < x8 → ((x4 = (-1) → J μ 0 0 116 [(0, .ref a0), (1, .int x1), (2, .int x2), (3, .int x3), (4, .int x5), (5, .int x5)] []) ∧ (¬ x4 = (-1) → vp_in (0 + x4) N_a0_treaties ∧ ((x8 < (hI μ a0_treaties ((0 + x4).toNatClampNeg)) → J μ 0 0 116 [(0, .ref a0), (1, .int x1), (2, .int x2), (3, .int x3), (4, .int x4), (5, .int x5)] []) ∧ (¬ x8 < (hI μ a0_treaties ((0 + x4).toNatClampNeg)) → J μ 0 0 116 [(0, .ref a0), (1, .int x1), (2, .int x2), (3, .int x3), (4, .int x5), (5, .int x5)] []))))))))))) :
    J μ 0 0 62 [(0, .ref a0), (1, .int x1), (2, .int x2), (3, .int x3), (4, .int x4), (5, .int x5), (6, .int x6), (7, .int x7), (8, .int x8)] [] := by
  refine r_iload g dX2_treatyOf_62 rfl ?_
  refine r_iload_n g dX2_treatyOf_64 rfl ?_
  refine r_icmp_ne g 78 dX2_treatyOf_65 (by decide) (fun c1 => ?_) (fun c1 => ?_)
  · replace h := h.1 c1
    refine r_iconst g 0 dX2_treatyOf_78 (by decide) ?_
    refine r_istore g [(9, .int 0), (0, .ref a0), (1, .int x1), (2, .int x2), (3, .int x3), (4, .int x4), (5, .int x5), (6, .int x6), (7, .int x7), (8, .int x8)] dX2_treatyOf_79 (by decide) rfl ?_
    refine r_iload g dX2_treatyOf_81 rfl ?_
    refine r_if_eq g 116 dX2_treatyOf_83 (by decide) (fun _ => ?_) (fun hz => absurd hz (by decide))
    refine r_sub g (lv' := [(0, .ref a0), (1, .int x1), (2, .int x2), (3, .int x3), (4, .int x4), (5, .int x5)]) (⟨rfl, rfl, rfl, rfl, rfl, rfl, trivial⟩) ?_
    exact h
  · replace h := h.2 c1
    refine r_iload g dX2_treatyOf_68 rfl ?_
    refine r_iload_n g dX2_treatyOf_70 rfl ?_
    refine r_icmp_ne g 78 dX2_treatyOf_71 (by decide) (fun c2 => ?_) (fun c2 => ?_)
    · replace h := h.1 c2
      refine r_iconst g 0 dX2_treatyOf_78 (by decide) ?_
      refine r_istore g [(9, .int 0), (0, .ref a0), (1, .int x1), (2, .int x2), (3, .int x3), (4, .int x4), (5, .int x5), (6, .int x6), (7, .int x7), (8, .int x8)] dX2_treatyOf_79 (by decide) rfl ?_
      refine r_iload g dX2_treatyOf_81 rfl ?_
      refine r_if_eq g 116 dX2_treatyOf_83 (by decide) (fun _ => ?_) (fun hz => absurd hz (by decide))
      refine r_sub g (lv' := [(0, .ref a0), (1, .int x1), (2, .int x2), (3, .int x3), (4, .int x4), (5, .int x5)]) (⟨rfl, rfl, rfl, rfl, rfl, rfl, trivial⟩) ?_
      exact h
    · replace h := h.2 c2
      refine r_iconst g 1 dX2_treatyOf_74 (by decide) ?_
      refine r_goto g 79 dX2_treatyOf_75 (by decide) ?_
      refine r_istore g [(9, .int 1), (0, .ref a0), (1, .int x1), (2, .int x2), (3, .int x3), (4, .int x4), (5, .int x5), (6, .int x6), (7, .int x7), (8, .int x8)] dX2_treatyOf_79 (by decide) rfl ?_
      refine r_iload g dX2_treatyOf_81 rfl ?_
      refine r_if_eq g 116 dX2_treatyOf_83 (by decide) (fun hz => absurd hz (by decide)) (fun _ => ?_)
      refine r_iload g dX2_treatyOf_86 rfl ?_
      refine r_iload_n g dX2_treatyOf_88 rfl ?_
      refine r_icmp_gt g 116 dX2_treatyOf_89 (by decide) (fun c3 => ?_) (fun c3 => ?_)
      · replace h := h.1 c3
        refine r_sub g (lv' := [(0, .ref a0), (1, .int x1), (2, .int x2), (3, .int x3), (4, .int x4), (5, .int x5)]) (⟨rfl, rfl, rfl, rfl, rfl, rfl, trivial⟩) ?_
        exact h
      · replace h := h.2 c3
        refine r_iload g dX2_treatyOf_92 rfl ?_
        refine r_iconst g (-1) dX2_treatyOf_94 (by decide) ?_
        refine r_icmp_eq g 112 dX2_treatyOf_95 (by decide) (fun c4 => ?_) (fun c4 => ?_)
        · replace h := h.1 c4
          refine r_iload g dX2_treatyOf_112 rfl ?_
          refine r_istore g [(4, .int x5), (9, .int 1), (0, .ref a0), (1, .int x1), (2, .int x2), (3, .int x3), (5, .int x5), (6, .int x6), (7, .int x7), (8, .int x8)] dX2_treatyOf_114 (by decide) rfl ?_
          refine r_sub g (lv' := [(0, .ref a0), (1, .int x1), (2, .int x2), (3, .int x3), (4, .int x5), (5, .int x5)]) (⟨rfl, rfl, rfl, rfl, rfl, rfl, trivial⟩) ?_
          exact h
        · replace h := h.2 c4
          refine r_iload g dX2_treatyOf_98 rfl ?_
          refine r_aload_n g dX2_treatyOf_100 rfl ?_
          refine r_getR g fX2_25 rfl hs_a0 hr_a0_treaties dX2_treatyOf_101 ?_
          refine r_iconst g 0 dX2_treatyOf_104 (by decide) ?_
          refine r_iload g dX2_treatyOf_105 rfl ?_
          refine r_iadd g dX2_treatyOf_107 ?_
          obtain ⟨hi5, h⟩ := h
          refine r_iaload g hs_a0_treaties hi5 dX2_treatyOf_108 ?_
          refine r_icmp_lt g 116 dX2_treatyOf_109 (by decide) (fun c6 => ?_) (fun c6 => ?_)
          · replace h := h.1 c6
            refine r_sub g (lv' := [(0, .ref a0), (1, .int x1), (2, .int x2), (3, .int x3), (4, .int x4), (5, .int x5)]) (⟨rfl, rfl, rfl, rfl, rfl, rfl, trivial⟩) ?_
            exact h
          · replace h := h.2 c6
            refine r_iload g dX2_treatyOf_112 rfl ?_
            refine r_istore g [(4, .int x5), (9, .int 1), (0, .ref a0), (1, .int x1), (2, .int x2), (3, .int x3), (5, .int x5), (6, .int x6), (7, .int x7), (8, .int x8)] dX2_treatyOf_114 (by decide) rfl ?_
            refine r_sub g (lv' := [(0, .ref a0), (1, .int x1), (2, .int x2), (3, .int x3), (4, .int x5), (5, .int x5)]) (⟨rfl, rfl, rfl, rfl, rfl, rfl, trivial⟩) ?_
            exact h
set_option maxHeartbeats 4000000 in
set_option maxRecDepth 100000 in
theorem B_X2_treatyOf_116 {d : Nat} {ro : Nat → Nat} {J : JT} {Z : Option Value → Hp → Prop} (g : xCtx RX2 cX2_treatyOf 10 d 0 0 yX2_treatyOf.name ro J) (hr : xRet cX2_treatyOf (some .int) 0 0 Z J) {μ : Hp} {a0 : Nat} {x1 : Int32} {x2 : Int32} {x3 : Int32} {x4 : Int32} {x5 : Int32} 
    (h : J μ 0 0 6 [(0, .ref a0), (1, .int x1), (2, .int x2), (3, .int x3), (4, .int x4), (5, .int (x5 + 1))] []) :
    J μ 0 0 116 [(0, .ref a0), (1, .int x1), (2, .int x2), (3, .int x3), (4, .int x4), (5, .int x5)] [] := by
  refine r_iinc g (x5 + 1) [(5, .int (x5 + 1)), (0, .ref a0), (1, .int x1), (2, .int x2), (3, .int x3), (4, .int x4)] dX2_treatyOf_116 rfl rfl (by decide) rfl ?_
  refine r_goto g 6 dX2_treatyOf_119 (by decide) ?_
  refine r_sub g (lv' := [(0, .ref a0), (1, .int x1), (2, .int x2), (3, .int x3), (4, .int x4), (5, .int (x5 + 1))]) (⟨rfl, rfl, rfl, rfl, rfl, rfl, trivial⟩) ?_
  exact h
theorem I_X2_treatyOf {d : Nat} {ro : Nat → Nat} {Z : Option Value → Hp → Prop} {μ : Hp} {a0 : Nat} {x1 : Int32} {x2 : Int32} {x3 : Int32} (h : ∀ J, xCtx RX2 cX2_treatyOf 10 d 0 0 yX2_treatyOf.name ro J → xRet cX2_treatyOf (some .int) 0 0 Z J → J μ 0 0 0 [(0, .ref a0), (1, .int x1), (2, .int x2), (3, .int x3)] []) : xC d yX2_treatyOf cX2_treatyOf 10 (some .int) 0 0 [.ref a0, .int x1, .int x2, .int x3] μ ro Z :=
  xC_intro (own := RX2) (lv := [(0, .ref a0), (1, .int x1), (2, .int x2), (3, .int x3)]) (by decide) rfl (Nat.le_of_ble_eq_true rfl) rfl (fun J g hr => r_sub g (lv' := [(0, .ref a0), (1, .int x1), (2, .int x2), (3, .int x3)]) (⟨rfl, rfl, rfl, rfl, trivial⟩) (h J g hr))
theorem dX2_treatiesIn_0 : decode cX2_treatiesIn 0 = .ok (.iconst 0, 1) := by decide +kernel
theorem dX2_treatiesIn_1 : decode cX2_treatiesIn 1 = .ok (.istore_n 2, 1) := by decide +kernel
theorem dX2_treatiesIn_2 : decode cX2_treatiesIn 2 = .ok (.iconst 0, 1) := by decide +kernel
theorem dX2_treatiesIn_3 : decode cX2_treatiesIn 3 = .ok (.istore_n 3, 1) := by decide +kernel
theorem dX2_treatiesIn_4 : decode cX2_treatiesIn 4 = .ok (.iload_n 3, 1) := by decide +kernel
theorem dX2_treatiesIn_5 : decode cX2_treatiesIn 5 = .ok (.aload_n 0, 1) := by decide +kernel
theorem dX2_treatiesIn_6 : decode cX2_treatiesIn 6 = .ok (.getfield 28, 3) := by decide +kernel
theorem dX2_treatiesIn_9 : decode cX2_treatiesIn 9 = .ok (.if_icmp .ge 49, 3) := by decide +kernel
theorem dX2_treatiesIn_12 : decode cX2_treatiesIn 12 = .ok (.iload_n 3, 1) := by decide +kernel
theorem dX2_treatiesIn_13 : decode cX2_treatiesIn 13 = .ok (.iconst 1, 1) := by decide +kernel
theorem dX2_treatiesIn_14 : decode cX2_treatiesIn 14 = .ok (.iadd, 1) := by decide +kernel
theorem dX2_treatiesIn_15 : decode cX2_treatiesIn 15 = .ok (.istore 4, 2) := by decide +kernel
theorem dX2_treatiesIn_17 : decode cX2_treatiesIn 17 = .ok (.iload 4, 2) := by decide +kernel
theorem dX2_treatiesIn_19 : decode cX2_treatiesIn 19 = .ok (.aload_n 0, 1) := by decide +kernel
theorem dX2_treatiesIn_20 : decode cX2_treatiesIn 20 = .ok (.getfield 28, 3) := by decide +kernel
theorem dX2_treatiesIn_23 : decode cX2_treatiesIn 23 = .ok (.if_icmp .ge 29, 3) := by decide +kernel
theorem dX2_treatiesIn_26 : decode cX2_treatiesIn 26 = .ok (.iload_n 2, 1) := by decide +kernel
theorem dX2_treatiesIn_27 : decode cX2_treatiesIn 27 = .ok (.aload_n 0, 1) := by decide +kernel
theorem dX2_treatiesIn_28 : decode cX2_treatiesIn 28 = .ok (.iload_n 3, 1) := by decide +kernel
theorem dX2_treatiesIn_29 : decode cX2_treatiesIn 29 = .ok (.iload 4, 2) := by decide +kernel
theorem dX2_treatiesIn_31 : decode cX2_treatiesIn 31 = .ok (.iload_n 1, 1) := by decide +kernel
theorem dX2_treatiesIn_32 : decode cX2_treatiesIn 32 = .ok (.invokevirtual 42, 3) := by decide +kernel
theorem dX2_treatiesIn_35 : decode cX2_treatiesIn 35 = .ok (.iconst (-1), 1) := by decide +kernel
theorem dX2_treatiesIn_36 : decode cX2_treatiesIn 36 = .ok (.if_icmp .ne 7, 3) := by decide +kernel
theorem dX2_treatiesIn_39 : decode cX2_treatiesIn 39 = .ok (.iconst 0, 1) := by decide +kernel
theorem dX2_treatiesIn_40 : decode cX2_treatiesIn 40 = .ok (.goto 4, 3) := by decide +kernel
theorem dX2_treatiesIn_43 : decode cX2_treatiesIn 43 = .ok (.iconst 1, 1) := by decide +kernel
theorem dX2_treatiesIn_44 : decode cX2_treatiesIn 44 = .ok (.iadd, 1) := by decide +kernel
theorem dX2_treatiesIn_45 : decode cX2_treatiesIn 45 = .ok (.istore_n 2, 1) := by decide +kernel
theorem dX2_treatiesIn_46 : decode cX2_treatiesIn 46 = .ok (.iinc 4 1, 3) := by decide +kernel
theorem dX2_treatiesIn_49 : decode cX2_treatiesIn 49 = .ok (.goto (-32), 3) := by decide +kernel
theorem dX2_treatiesIn_52 : decode cX2_treatiesIn 52 = .ok (.iinc 3 1, 3) := by decide +kernel
theorem dX2_treatiesIn_55 : decode cX2_treatiesIn 55 = .ok (.goto (-51), 3) := by decide +kernel
theorem dX2_treatiesIn_58 : decode cX2_treatiesIn 58 = .ok (.iload_n 2, 1) := by decide +kernel
theorem dX2_treatiesIn_59 : decode cX2_treatiesIn 59 = .ok (.ireturn, 1) := by decide +kernel
set_option maxHeartbeats 4000000 in
set_option maxRecDepth 100000 in
theorem B_X2_treatiesIn_0 {d : Nat} {ro : Nat → Nat} {J : JT} {Z : Option Value → Hp → Prop} (g : xCtx RX2 cX2_treatiesIn 5 d 0 0 yX2_treatiesIn.name ro J) (hr : xRet cX2_treatiesIn (some .int) 0 0 Z J) {μ : Hp} {a0 : Nat} {x1 : Int32} 
    (h : J μ 0 0 4 [(0, .ref a0), (1, .int x1), (2, .int 0), (3, .int 0)] []) :
    J μ 0 0 0 [(0, .ref a0), (1, .int x1)] [] := by
  refine r_iconst g 0 dX2_treatiesIn_0 (by decide) ?_
  refine r_istore_n g [(2, .int 0), (0, .ref a0), (1, .int x1)] dX2_treatiesIn_1 (by decide) rfl ?_
  refine r_iconst g 0 dX2_treatiesIn_2 (by decide) ?_
  refine r_istore_n g [(3, .int 0), (2, .int 0), (0, .ref a0), (1, .int x1)] dX2_treatiesIn_3 (by decide) rfl ?_
  refine r_sub g (lv' := [(0, .ref a0), (1, .int x1), (2, .int 0), (3, .int 0)]) (⟨rfl, rfl, rfl, rfl, trivial⟩) ?_
  exact h
set_option maxHeartbeats 4000000 in
set_option maxRecDepth 100000 in
theorem B_X2_treatiesIn_4 {d : Nat} {ro : Nat → Nat} {J : JT} {Z : Option Value → Hp → Prop} (g : xCtx RX2 cX2_treatiesIn 5 d 0 0 yX2_treatiesIn.name ro J) (hr : xRet cX2_treatiesIn (some .int) 0 0 Z J) {μ : Hp} {a0 : Nat} {x1 : Int32} {x2 : Int32} {x3 : Int32} (hs_a0 : hS μ a0 = some (6, 9))
    (h : (((hI μ a0 5) ≤ x3 → Z (some (.int x2)) μ) ∧ (¬ (hI μ a0 5) ≤ x3 → J μ 0 0 17 [(0, .ref a0), (1, .int x1), (2, .int x2), (3, .int x3), (4, .int (x3 + 1))] []))) :
    J μ 0 0 4 [(0, .ref a0), (1, .int x1), (2, .int x2), (3, .int x3)] [] := by
  refine r_iload_n g dX2_treatiesIn_4 rfl ?_
  refine r_aload_n g dX2_treatiesIn_5 rfl ?_
  refine r_getI g fX2_28 rfl hs_a0 dX2_treatiesIn_6 ?_
  refine r_icmp_ge g 58 dX2_treatiesIn_9 (by decide) (fun c1 => ?_) (fun c1 => ?_)
  · replace h := h.1 c1
    refine r_iload_n g dX2_treatiesIn_58 rfl ?_
    exact hr.2.1 _ rfl _ _ _ _ _ _ dX2_treatiesIn_59 rfl (Nat.le_refl 0) (Nat.le_refl 0) h
  · replace h := h.2 c1
    refine r_iload_n g dX2_treatiesIn_12 rfl ?_
    refine r_iconst g 1 dX2_treatiesIn_13 (by decide) ?_
    refine r_iadd g dX2_treatiesIn_14 ?_
    refine r_istore g [(4, .int (x3 + 1)), (0, .ref a0), (1, .int x1), (2, .int x2), (3, .int x3)] dX2_treatiesIn_15 (by decide) rfl ?_
    refine r_sub g (lv' := [(0, .ref a0), (1, .int x1), (2, .int x2), (3, .int x3), (4, .int (x3 + 1))]) (⟨rfl, rfl, rfl, rfl, rfl, trivial⟩) ?_
    exact h
set_option maxHeartbeats 4000000 in
set_option maxRecDepth 100000 in
theorem B_X2_treatiesIn_17 {d : Nat} {ro : Nat → Nat} {J : JT} {Z : Option Value → Hp → Prop} (g : xCtx RX2 cX2_treatiesIn 5 d 0 0 yX2_treatiesIn.name ro J) (hr : xRet cX2_treatiesIn (some .int) 0 0 Z J) {μ : Hp} {a0 : Nat} {x1 : Int32} {x2 : Int32} {x3 : Int32} {x4 : Int32} (hs_a0 : hS μ a0 = some (6, 9))
    (h : (((hI μ a0 5) ≤ x4 → J μ 0 0 4 [(0, .ref a0), (1, .int x1), (2, .int x2), (3, .int (x3 + 1))] []) ∧ (¬ (hI μ a0 5) ≤ x4 → xCall d yX2_treatyOf cX2_treatyOf 10 (some .int) [.ref a0, .int x3, .int x4, .int x1] μ ro (fun r2 μ3 => ∃ y4 : Int32, r2 = some (.int y4) ∧ ((¬ y4 = (-1) → J μ3 0 0 17 [(0, .ref a0), (1, .int x1), (2, .int (x2 + 1)), (3, .int x3), (4, .int (x4 + 1))] []) ∧ (y4 = (-1) → J μ3 0 0 17 [(0, .ref a0), (1, .int x1), (2, .int (x2 + 0)), (3, .int x3), (4, .int (x4 + 1))] [])))))) :
    J μ 0 0 17 [(0, .ref a0), (1, .int x1), (2, .int x2), (3, .int x3), (4, .int x4)] [] := by
  refine r_iload g dX2_treatiesIn_17 rfl ?_
  refine r_aload_n g dX2_treatiesIn_19 rfl ?_
  refine r_getI g fX2_28 rfl hs_a0 dX2_treatiesIn_20 ?_
  refine r_icmp_ge g 52 dX2_treatiesIn_23 (by decide) (fun c1 => ?_) (fun c1 => ?_)
  · replace h := h.1 c1
    refine r_iinc g (x3 + 1) [(3, .int (x3 + 1)), (0, .ref a0), (1, .int x1), (2, .int x2), (4, .int x4)] dX2_treatiesIn_52 rfl rfl (by decide) rfl ?_
    refine r_goto g 4 dX2_treatiesIn_55 (by decide) ?_
    refine r_sub g (lv' := [(0, .ref a0), (1, .int x1), (2, .int x2), (3, .int (x3 + 1))]) (⟨rfl, rfl, rfl, rfl, trivial⟩) ?_
    exact h
  · replace h := h.2 c1
    refine r_iload_n g dX2_treatiesIn_26 rfl ?_
    refine r_aload_n g dX2_treatiesIn_27 rfl ?_
    refine r_iload_n g dX2_treatiesIn_28 rfl ?_
    refine r_iload g dX2_treatiesIn_29 rfl ?_
    refine r_iload_n g dX2_treatiesIn_31 rfl ?_
    obtain ⟨d1, Z1, hc1, hd1, h1⟩ := h
    refine r_callV (st := [.int x2]) (As := [.int x3, .int x4, .int x1]) g sX2_42 iX2_treatyOf eX2_treatyOf rfl hs_a0 rfl (Nat.le_of_ble_eq_true rfl) dX2_treatiesIn_32 hd1 (Nat.le_refl 0) (Nat.le_refl 0) hc1 (fun r2 μ3 hZ1 => ?_)
    replace h := h1 _ _ hZ1
    clear h1 hc1 hd1 hZ1 Z1 d1
    obtain ⟨y4, rfl, h⟩ := h
    refine r_iconst g (-1) dX2_treatiesIn_35 (by decide) ?_
    refine r_icmp_ne g 43 dX2_treatiesIn_36 (by decide) (fun c5 => ?_) (fun c5 => ?_)
    · replace h := h.1 c5
      refine r_iconst g 1 dX2_treatiesIn_43 (by decide) ?_
      refine r_iadd g dX2_treatiesIn_44 ?_
      refine r_istore_n g [(2, .int (x2 + 1)), (0, .ref a0), (1, .int x1), (3, .int x3), (4, .int x4)] dX2_treatiesIn_45 (by decide) rfl ?_
      refine r_iinc g (x4 + 1) [(4, .int (x4 + 1)), (2, .int (x2 + 1)), (0, .ref a0), (1, .int x1), (3, .int x3)] dX2_treatiesIn_46 rfl rfl (by decide) rfl ?_
      refine r_goto g 17 dX2_treatiesIn_49 (by decide) ?_
      refine r_sub g (lv' := [(0, .ref a0), (1, .int x1), (2, .int (x2 + 1)), (3, .int x3), (4, .int (x4 + 1))]) (⟨rfl, rfl, rfl, rfl, rfl, trivial⟩) ?_
      exact h
    · replace h := h.2 c5
      refine r_iconst g 0 dX2_treatiesIn_39 (by decide) ?_
      refine r_goto g 44 dX2_treatiesIn_40 (by decide) ?_
      refine r_iadd g dX2_treatiesIn_44 ?_
      refine r_istore_n g [(2, .int (x2 + 0)), (0, .ref a0), (1, .int x1), (3, .int x3), (4, .int x4)] dX2_treatiesIn_45 (by decide) rfl ?_
      refine r_iinc g (x4 + 1) [(4, .int (x4 + 1)), (2, .int (x2 + 0)), (0, .ref a0), (1, .int x1), (3, .int x3)] dX2_treatiesIn_46 rfl rfl (by decide) rfl ?_
      refine r_goto g 17 dX2_treatiesIn_49 (by decide) ?_
      refine r_sub g (lv' := [(0, .ref a0), (1, .int x1), (2, .int (x2 + 0)), (3, .int x3), (4, .int (x4 + 1))]) (⟨rfl, rfl, rfl, rfl, rfl, trivial⟩) ?_
      exact h
theorem I_X2_treatiesIn {d : Nat} {ro : Nat → Nat} {Z : Option Value → Hp → Prop} {μ : Hp} {a0 : Nat} {x1 : Int32} (h : ∀ J, xCtx RX2 cX2_treatiesIn 5 d 0 0 yX2_treatiesIn.name ro J → xRet cX2_treatiesIn (some .int) 0 0 Z J → J μ 0 0 0 [(0, .ref a0), (1, .int x1)] []) : xC d yX2_treatiesIn cX2_treatiesIn 5 (some .int) 0 0 [.ref a0, .int x1] μ ro Z :=
  xC_intro (own := RX2) (lv := [(0, .ref a0), (1, .int x1)]) (by decide) rfl (Nat.le_of_ble_eq_true rfl) rfl (fun J g hr => r_sub g (lv' := [(0, .ref a0), (1, .int x1)]) (⟨rfl, rfl, trivial⟩) (h J g hr))
theorem dX2_asksForStaff_0 : decode cX2_asksForStaff 0 = .ok (.iconst 0, 1) := by decide +kernel
theorem dX2_asksForStaff_1 : decode cX2_asksForStaff 1 = .ok (.istore_n 2, 1) := by decide +kernel
theorem dX2_asksForStaff_2 : decode cX2_asksForStaff 2 = .ok (.iload_n 2, 1) := by decide +kernel
theorem dX2_asksForStaff_3 : decode cX2_asksForStaff 3 = .ok (.aload_n 0, 1) := by decide +kernel
theorem dX2_asksForStaff_4 : decode cX2_asksForStaff 4 = .ok (.getfield 35, 3) := by decide +kernel
theorem dX2_asksForStaff_7 : decode cX2_asksForStaff 7 = .ok (.if_icmp .ge 24, 3) := by decide +kernel
theorem dX2_asksForStaff_10 : decode cX2_asksForStaff 10 = .ok (.aload_n 0, 1) := by decide +kernel
theorem dX2_asksForStaff_11 : decode cX2_asksForStaff 11 = .ok (.getfield 25, 3) := by decide +kernel
theorem dX2_asksForStaff_14 : decode cX2_asksForStaff 14 = .ok (.bipush 72, 2) := by decide +kernel
theorem dX2_asksForStaff_16 : decode cX2_asksForStaff 16 = .ok (.iload_n 2, 1) := by decide +kernel
theorem dX2_asksForStaff_17 : decode cX2_asksForStaff 17 = .ok (.iadd, 1) := by decide +kernel
theorem dX2_asksForStaff_18 : decode cX2_asksForStaff 18 = .ok (.iaload, 1) := by decide +kernel
theorem dX2_asksForStaff_19 : decode cX2_asksForStaff 19 = .ok (.iload_n 1, 1) := by decide +kernel
theorem dX2_asksForStaff_20 : decode cX2_asksForStaff 20 = .ok (.if_icmp .ne 5, 3) := by decide +kernel
theorem dX2_asksForStaff_23 : decode cX2_asksForStaff 23 = .ok (.iconst 1, 1) := by decide +kernel
theorem dX2_asksForStaff_24 : decode cX2_asksForStaff 24 = .ok (.ireturn, 1) := by decide +kernel
theorem dX2_asksForStaff_25 : decode cX2_asksForStaff 25 = .ok (.iinc 2 1, 3) := by decide +kernel
theorem dX2_asksForStaff_28 : decode cX2_asksForStaff 28 = .ok (.goto (-26), 3) := by decide +kernel
theorem dX2_asksForStaff_31 : decode cX2_asksForStaff 31 = .ok (.iconst 0, 1) := by decide +kernel
theorem dX2_asksForStaff_32 : decode cX2_asksForStaff 32 = .ok (.ireturn, 1) := by decide +kernel
set_option maxHeartbeats 4000000 in
set_option maxRecDepth 100000 in
theorem B_X2_asksForStaff_0 {d : Nat} {ro : Nat → Nat} {J : JT} {Z : Option Value → Hp → Prop} (g : xCtx RX2 cX2_asksForStaff 3 d 0 0 yX2_asksForStaff.name ro J) (hr : xRet cX2_asksForStaff (some .boolean) 0 0 Z J) {μ : Hp} {a0 : Nat} {x1 : Int32} 
    (h : J μ 0 0 2 [(0, .ref a0), (1, .int x1), (2, .int 0)] []) :
    J μ 0 0 0 [(0, .ref a0), (1, .int x1)] [] := by
  refine r_iconst g 0 dX2_asksForStaff_0 (by decide) ?_
  refine r_istore_n g [(2, .int 0), (0, .ref a0), (1, .int x1)] dX2_asksForStaff_1 (by decide) rfl ?_
  refine r_sub g (lv' := [(0, .ref a0), (1, .int x1), (2, .int 0)]) (⟨rfl, rfl, rfl, trivial⟩) ?_
  exact h
set_option maxHeartbeats 4000000 in
set_option maxRecDepth 100000 in
theorem B_X2_asksForStaff_2 {d : Nat} {ro : Nat → Nat} {J : JT} {Z : Option Value → Hp → Prop} (g : xCtx RX2 cX2_asksForStaff 3 d 0 0 yX2_asksForStaff.name ro J) (hr : xRet cX2_asksForStaff (some .boolean) 0 0 Z J) {μ : Hp} {a0 : Nat} {x1 : Int32} {x2 : Int32} {a0_treaties : Nat} {N_a0_treaties : Nat} (hs_a0 : hS μ a0 = some (6, 9)) (hr_a0_treaties : hR μ a0 4 = some a0_treaties) (hs_a0_treaties : hS μ a0_treaties = some (0, N_a0_treaties))
    (h : (((hI μ a0 7) ≤ x2 → Z (some (.int 0)) μ) ∧ (¬ (hI μ a0 7) ≤ x2 → vp_in (72 + x2) N_a0_treaties ∧ ((¬ (hI μ a0_treaties ((72 + x2).toNatClampNeg)) = x1 → J μ 0 0 2 [(0, .ref a0), (1, .int x1), (2, .int (x2 + 1))] []) ∧ ((hI μ a0_treaties ((72 + x2).toNatClampNeg)) = x1 → Z (some (.int 1)) μ))))) :
    J μ 0 0 2 [(0, .ref a0), (1, .int x1), (2, .int x2)] [] := by
  refine r_iload_n g dX2_asksForStaff_2 rfl ?_
  refine r_aload_n g dX2_asksForStaff_3 rfl ?_
  refine r_getI g fX2_35 rfl hs_a0 dX2_asksForStaff_4 ?_
  refine r_icmp_ge g 31 dX2_asksForStaff_7 (by decide) (fun c1 => ?_) (fun c1 => ?_)
  · replace h := h.1 c1
    refine r_iconst g 0 dX2_asksForStaff_31 (by decide) ?_
    exact hr.2.1 _ rfl _ _ _ _ _ _ dX2_asksForStaff_32 (by decide) (Nat.le_refl 0) (Nat.le_refl 0) h
  · replace h := h.2 c1
    refine r_aload_n g dX2_asksForStaff_10 rfl ?_
    refine r_getR g fX2_25 rfl hs_a0 hr_a0_treaties dX2_asksForStaff_11 ?_
    refine r_bipush g 72 dX2_asksForStaff_14 (by decide) ?_
    refine r_iload_n g dX2_asksForStaff_16 rfl ?_
    refine r_iadd g dX2_asksForStaff_17 ?_
    obtain ⟨hi2, h⟩ := h
    refine r_iaload g hs_a0_treaties hi2 dX2_asksForStaff_18 ?_
    refine r_iload_n g dX2_asksForStaff_19 rfl ?_
    refine r_icmp_ne g 25 dX2_asksForStaff_20 (by decide) (fun c3 => ?_) (fun c3 => ?_)
    · replace h := h.1 c3
      refine r_iinc g (x2 + 1) [(2, .int (x2 + 1)), (0, .ref a0), (1, .int x1)] dX2_asksForStaff_25 rfl rfl (by decide) rfl ?_
      refine r_goto g 2 dX2_asksForStaff_28 (by decide) ?_
      refine r_sub g (lv' := [(0, .ref a0), (1, .int x1), (2, .int (x2 + 1))]) (⟨rfl, rfl, rfl, trivial⟩) ?_
      exact h
    · replace h := h.2 c3
      refine r_iconst g 1 dX2_asksForStaff_23 (by decide) ?_
      exact hr.2.1 _ rfl _ _ _ _ _ _ dX2_asksForStaff_24 (by decide) (Nat.le_refl 0) (Nat.le_refl 0) h
theorem I_X2_asksForStaff {d : Nat} {ro : Nat → Nat} {Z : Option Value → Hp → Prop} {μ : Hp} {a0 : Nat} {x1 : Int32} (h : ∀ J, xCtx RX2 cX2_asksForStaff 3 d 0 0 yX2_asksForStaff.name ro J → xRet cX2_asksForStaff (some .boolean) 0 0 Z J → J μ 0 0 0 [(0, .ref a0), (1, .int x1)] []) : xC d yX2_asksForStaff cX2_asksForStaff 3 (some .boolean) 0 0 [.ref a0, .int x1] μ ro Z :=
  xC_intro (own := RX2) (lv := [(0, .ref a0), (1, .int x1)]) (by decide) rfl (Nat.le_of_ble_eq_true rfl) rfl (fun J g hr => r_sub g (lv' := [(0, .ref a0), (1, .int x1)]) (⟨rfl, rfl, trivial⟩) (h J g hr))
theorem dX2_readFrom_0 : decode cX2_readFrom 0 = .ok (.aload_n 0, 1) := by decide +kernel
theorem dX2_readFrom_1 : decode cX2_readFrom 1 = .ok (.iconst 0, 1) := by decide +kernel
theorem dX2_readFrom_2 : decode cX2_readFrom 2 = .ok (.putfield 28, 3) := by decide +kernel
theorem dX2_readFrom_5 : decode cX2_readFrom 5 = .ok (.aload_n 0, 1) := by decide +kernel
theorem dX2_readFrom_6 : decode cX2_readFrom 6 = .ok (.iconst 0, 1) := by decide +kernel
theorem dX2_readFrom_7 : decode cX2_readFrom 7 = .ok (.putfield 32, 3) := by decide +kernel
theorem dX2_readFrom_10 : decode cX2_readFrom 10 = .ok (.aload_n 0, 1) := by decide +kernel
theorem dX2_readFrom_11 : decode cX2_readFrom 11 = .ok (.iconst 0, 1) := by decide +kernel
theorem dX2_readFrom_12 : decode cX2_readFrom 12 = .ok (.putfield 35, 3) := by decide +kernel
theorem dX2_readFrom_15 : decode cX2_readFrom 15 = .ok (.aload_n 0, 1) := by decide +kernel
theorem dX2_readFrom_16 : decode cX2_readFrom 16 = .ok (.iconst 0, 1) := by decide +kernel
theorem dX2_readFrom_17 : decode cX2_readFrom 17 = .ok (.putfield 38, 3) := by decide +kernel
theorem dX2_readFrom_20 : decode cX2_readFrom 20 = .ok (.aload_n 2, 1) := by decide +kernel
theorem dX2_readFrom_21 : decode cX2_readFrom 21 = .ok (.invokevirtual 46, 3) := by decide +kernel
theorem dX2_readFrom_24 : decode cX2_readFrom 24 = .ok (.aload_n 1, 1) := by decide +kernel
theorem dX2_readFrom_25 : decode cX2_readFrom 25 = .ok (.invokevirtual 51, 3) := by decide +kernel
theorem dX2_readFrom_28 : decode cX2_readFrom 28 = .ok (.iconst 1, 1) := by decide +kernel
theorem dX2_readFrom_29 : decode cX2_readFrom 29 = .ok (.istore_n 3, 1) := by decide +kernel
theorem dX2_readFrom_30 : decode cX2_readFrom 30 = .ok (.iconst 0, 1) := by decide +kernel
theorem dX2_readFrom_31 : decode cX2_readFrom 31 = .ok (.istore 4, 2) := by decide +kernel
theorem dX2_readFrom_33 : decode cX2_readFrom 33 = .ok (.iload_n 3, 1) := by decide +kernel
theorem dX2_readFrom_34 : decode cX2_readFrom 34 = .ok (.ifCond .eq 28, 3) := by decide +kernel
theorem dX2_readFrom_37 : decode cX2_readFrom 37 = .ok (.iload 4, 2) := by decide +kernel
theorem dX2_readFrom_39 : decode cX2_readFrom 39 = .ok (.sipush 400, 3) := by decide +kernel
theorem dX2_readFrom_42 : decode cX2_readFrom 42 = .ok (.if_icmp .gt 20, 3) := by decide +kernel
theorem dX2_readFrom_45 : decode cX2_readFrom 45 = .ok (.aload_n 0, 1) := by decide +kernel
theorem dX2_readFrom_46 : decode cX2_readFrom 46 = .ok (.aload_n 1, 1) := by decide +kernel
theorem dX2_readFrom_47 : decode cX2_readFrom 47 = .ok (.aload_n 2, 1) := by decide +kernel
theorem dX2_readFrom_48 : decode cX2_readFrom 48 = .ok (.invokevirtual 56, 3) := by decide +kernel
theorem dX2_readFrom_51 : decode cX2_readFrom 51 = .ok (.aload_n 1, 1) := by decide +kernel
theorem dX2_readFrom_52 : decode cX2_readFrom 52 = .ok (.invokevirtual 60, 3) := by decide +kernel
theorem dX2_readFrom_55 : decode cX2_readFrom 55 = .ok (.istore_n 3, 1) := by decide +kernel
theorem dX2_readFrom_56 : decode cX2_readFrom 56 = .ok (.iinc 4 1, 3) := by decide +kernel
theorem dX2_readFrom_59 : decode cX2_readFrom 59 = .ok (.goto (-26), 3) := by decide +kernel
theorem dX2_readFrom_62 : decode cX2_readFrom 62 = .ok (.aload_n 0, 1) := by decide +kernel
theorem dX2_readFrom_63 : decode cX2_readFrom 63 = .ok (.getfield 32, 3) := by decide +kernel
theorem dX2_readFrom_66 : decode cX2_readFrom 66 = .ok (.ifCond .ne 11, 3) := by decide +kernel
theorem dX2_readFrom_69 : decode cX2_readFrom 69 = .ok (.aload_n 1, 1) := by decide +kernel
theorem dX2_readFrom_70 : decode cX2_readFrom 70 = .ok (.aload_n 1, 1) := by decide +kernel
theorem dX2_readFrom_71 : decode cX2_readFrom 71 = .ok (.getfield 64, 3) := by decide +kernel
theorem dX2_readFrom_74 : decode cX2_readFrom 74 = .ok (.invokevirtual 67, 3) := by decide +kernel
theorem dX2_readFrom_77 : decode cX2_readFrom 77 = .ok (.return_, 1) := by decide +kernel
set_option maxHeartbeats 4000000 in
set_option maxRecDepth 100000 in
theorem B_X2_readFrom_0 {d : Nat} {ro : Nat → Nat} {J : JT} {Z : Option Value → Hp → Prop} (g : xCtx RX2 cX2_readFrom 5 d 0 0 yX2_readFrom.name ro J) (hr : xRet cX2_readFrom none 0 0 Z J) {μ : Hp} {a0 : Nat} {a1 : Nat} {a2 : Nat} (hs_a0 : hS μ a0 = some (6, 9)) (hs_a2 : hS μ a2 = some (12, 4))
    (h : xCall d yX8_clear cX8_clear 2 none [.ref a2] (wI (wI (wI (wI μ a0 5 0) a0 6 0) a0 7 0) a0 8 0) ro (fun r1 μ2 => r1 = none ∧ hS μ2 a1 = some (10, 5) ∧ xCall d yX6_begin cX6_begin 1 none [.ref a1] μ2 ro (fun r3 μ4 => r3 = none ∧ J μ4 0 0 33 [(0, .ref a0), (1, .ref a1), (2, .ref a2), (3, .int 1), (4, .int 0)] []))) :
    J μ 0 0 0 [(0, .ref a0), (1, .ref a1), (2, .ref a2)] [] := by
  refine r_aload_n g dX2_readFrom_0 rfl ?_
  refine r_iconst g 0 dX2_readFrom_1 (by decide) ?_
  refine r_putI g fX2_28 rfl hs_a0 rfl rfl dX2_readFrom_2 ?_
  refine r_aload_n g dX2_readFrom_5 rfl ?_
  refine r_iconst g 0 dX2_readFrom_6 (by decide) ?_
  refine r_putI g fX2_32 rfl hs_a0 rfl rfl dX2_readFrom_7 ?_
  refine r_aload_n g dX2_readFrom_10 rfl ?_
  refine r_iconst g 0 dX2_readFrom_11 (by decide) ?_
  refine r_putI g fX2_35 rfl hs_a0 rfl rfl dX2_readFrom_12 ?_
  refine r_aload_n g dX2_readFrom_15 rfl ?_
  refine r_iconst g 0 dX2_readFrom_16 (by decide) ?_
  refine r_putI g fX2_38 rfl hs_a0 (by decide) (by decide) dX2_readFrom_17 ?_
  refine r_aload_n g dX2_readFrom_20 rfl ?_
  obtain ⟨d1, Z1, hc1, hd1, h1⟩ := h
  refine r_callV (st := []) (As := []) g sX2_46 iX8_clear eX8_clear rfl hs_a2 rfl (Nat.le_of_ble_eq_true rfl) dX2_readFrom_21 hd1 (Nat.le_refl 0) (Nat.le_refl 0) hc1 (fun r1 μ2 hZ1 => ?_)
  replace h := h1 _ _ hZ1
  clear h1 hc1 hd1 hZ1 Z1 d1
  obtain ⟨rfl, h⟩ := h
  refine r_aload_n g dX2_readFrom_24 rfl ?_
  obtain ⟨hs_a1, h⟩ := h
  obtain ⟨d1, Z1, hc1, hd1, h1⟩ := h
  refine r_callV (st := []) (As := []) g sX2_51 iX6_begin eX6_begin rfl hs_a1 rfl (Nat.le_of_ble_eq_true rfl) dX2_readFrom_25 hd1 (Nat.le_refl 0) (Nat.le_refl 0) hc1 (fun r3 μ4 hZ1 => ?_)
  replace h := h1 _ _ hZ1
  clear h1 hc1 hd1 hZ1 Z1 d1
  obtain ⟨rfl, h⟩ := h
  refine r_iconst g 1 dX2_readFrom_28 (by decide) ?_
  refine r_istore_n g [(3, .int 1), (0, .ref a0), (1, .ref a1), (2, .ref a2)] dX2_readFrom_29 (by decide) rfl ?_
  refine r_iconst g 0 dX2_readFrom_30 (by decide) ?_
  refine r_istore g [(4, .int 0), (3, .int 1), (0, .ref a0), (1, .ref a1), (2, .ref a2)] dX2_readFrom_31 (by decide) rfl ?_
  refine r_sub g (lv' := [(0, .ref a0), (1, .ref a1), (2, .ref a2), (3, .int 1), (4, .int 0)]) (⟨rfl, rfl, rfl, rfl, rfl, trivial⟩) ?_
  exact h
set_option maxHeartbeats 4000000 in
set_option maxRecDepth 100000 in
theorem B_X2_readFrom_33 {d : Nat} {ro : Nat → Nat} {J : JT} {Z : Option Value → Hp → Prop} (g : xCtx RX2 cX2_readFrom 5 d 0 0 yX2_readFrom.name ro J) (hr : xRet cX2_readFrom none 0 0 Z J) {μ : Hp} {a0 : Nat} {a1 : Nat} {a2 : Nat} {x3 : Int32} {x4 : Int32} (hs_a0 : hS μ a0 = some (6, 9)) (hs_a1 : hS μ a1 = some (10, 5))
    (h : ((x3 = 0 → ((¬ (hI μ a0 6) = 0 → Z none μ) ∧ ((hI μ a0 6) = 0 → xCall d yX6_fail cX6_fail 2 none [.ref a1, .int (hI μ a1 0)] μ ro (fun r3 μ4 => r3 = none ∧ Z none μ4)))) ∧ (¬ x3 = 0 → ((400 < x4 → ((¬ (hI μ a0 6) = 0 → Z none μ) ∧ ((hI μ a0 6) = 0 → xCall d yX6_fail cX6_fail 2 none [.ref a1, .int (hI μ a1 0)] μ ro (fun r7 μ8 => r7 = none ∧ Z none μ8)))) ∧ (¬ 400 < x4 → xCall d yX2_readLine cX2_readLine 4 none [.ref a0, .ref a1, .ref a2] μ ro (fun r9 μ10 => r9 = none ∧ hS μ10 a1 = some (10, 5) ∧ xCall d yX6_goesOn cX6_goesOn 1 (some .boolean) [.ref a1] μ10 ro (fun r11 μ12 => ∃ y13 : Int32, r11 = some (.int y13) ∧ J μ12 0 0 33 [(0, .ref a0), (1, .ref a1), (2, .ref a2), (3, .int y13), (4, .int (x4 + 1))] []))))))) :
    J μ 0 0 33 [(0, .ref a0), (1, .ref a1), (2, .ref a2), (3, .int x3), (4, .int x4)] [] := by
  refine r_iload_n g dX2_readFrom_33 rfl ?_
  refine r_if_eq g 62 dX2_readFrom_34 (by decide) (fun c1 => ?_) (fun c1 => ?_)
  · replace h := h.1 c1
    refine r_aload_n g dX2_readFrom_62 rfl ?_
    refine r_getI g fX2_32 rfl hs_a0 dX2_readFrom_63 ?_
    refine r_if_ne g 77 dX2_readFrom_66 (by decide) (fun c2 => ?_) (fun c2 => ?_)
    · replace h := h.1 c2
      exact hr.1 rfl _ _ _ _ _ dX2_readFrom_77 (Nat.le_refl 0) (Nat.le_refl 0) h
    · replace h := h.2 c2
      refine r_aload_n g dX2_readFrom_69 rfl ?_
      refine r_aload_n g dX2_readFrom_70 rfl ?_
      refine r_getI g fX2_64 rfl hs_a1 dX2_readFrom_71 ?_
      obtain ⟨d1, Z1, hc1, hd1, h1⟩ := h
      refine r_callV (st := []) (As := [.int (hI μ a1 0)]) g sX2_67 iX6_fail eX6_fail rfl hs_a1 rfl (Nat.le_of_ble_eq_true rfl) dX2_readFrom_74 hd1 (Nat.le_refl 0) (Nat.le_refl 0) hc1 (fun r3 μ4 hZ1 => ?_)
      replace h := h1 _ _ hZ1
      clear h1 hc1 hd1 hZ1 Z1 d1
      obtain ⟨rfl, h⟩ := h
      exact hr.1 rfl _ _ _ _ _ dX2_readFrom_77 (Nat.le_refl 0) (Nat.le_refl 0) h
  · replace h := h.2 c1
    refine r_iload g dX2_readFrom_37 rfl ?_
    refine r_sipush g 400 dX2_readFrom_39 (by decide) ?_
    refine r_icmp_gt g 62 dX2_readFrom_42 (by decide) (fun c5 => ?_) (fun c5 => ?_)
    · replace h := h.1 c5
      refine r_aload_n g dX2_readFrom_62 rfl ?_
      refine r_getI g fX2_32 rfl hs_a0 dX2_readFrom_63 ?_
      refine r_if_ne g 77 dX2_readFrom_66 (by decide) (fun c6 => ?_) (fun c6 => ?_)
      · replace h := h.1 c6
        exact hr.1 rfl _ _ _ _ _ dX2_readFrom_77 (Nat.le_refl 0) (Nat.le_refl 0) h
      · replace h := h.2 c6
        refine r_aload_n g dX2_readFrom_69 rfl ?_
        refine r_aload_n g dX2_readFrom_70 rfl ?_
        refine r_getI g fX2_64 rfl hs_a1 dX2_readFrom_71 ?_
        obtain ⟨d1, Z1, hc1, hd1, h1⟩ := h
        refine r_callV (st := []) (As := [.int (hI μ a1 0)]) g sX2_67 iX6_fail eX6_fail rfl hs_a1 rfl (Nat.le_of_ble_eq_true rfl) dX2_readFrom_74 hd1 (Nat.le_refl 0) (Nat.le_refl 0) hc1 (fun r7 μ8 hZ1 => ?_)
        replace h := h1 _ _ hZ1
        clear h1 hc1 hd1 hZ1 Z1 d1
        obtain ⟨rfl, h⟩ := h
        exact hr.1 rfl _ _ _ _ _ dX2_readFrom_77 (Nat.le_refl 0) (Nat.le_refl 0) h
    · replace h := h.2 c5
      refine r_aload_n g dX2_readFrom_45 rfl ?_
      refine r_aload_n g dX2_readFrom_46 rfl ?_
      refine r_aload_n g dX2_readFrom_47 rfl ?_
      obtain ⟨d1, Z1, hc1, hd1, h1⟩ := h
      refine r_callV (st := []) (As := [.ref a1, .ref a2]) g sX2_56 iX2_readLine eX2_readLine rfl hs_a0 rfl (Nat.le_of_ble_eq_true rfl) dX2_readFrom_48 hd1 (Nat.le_refl 0) (Nat.le_refl 0) hc1 (fun r9 μ10 hZ1 => ?_)
      replace h := h1 _ _ hZ1
      clear h1 hc1 hd1 hZ1 Z1 d1
      obtain ⟨rfl, h⟩ := h
      refine r_aload_n g dX2_readFrom_51 rfl ?_
      obtain ⟨hs_a1__, h⟩ := h
      obtain ⟨d1, Z1, hc1, hd1, h1⟩ := h
      refine r_callV (st := []) (As := []) g sX2_60 iX6_goesOn eX6_goesOn rfl hs_a1__ rfl (Nat.le_of_ble_eq_true rfl) dX2_readFrom_52 hd1 (Nat.le_refl 0) (Nat.le_refl 0) hc1 (fun r11 μ12 hZ1 => ?_)
      replace h := h1 _ _ hZ1
      clear h1 hc1 hd1 hZ1 Z1 d1
      obtain ⟨y13, rfl, h⟩ := h
      refine r_istore_n g [(3, .int y13), (0, .ref a0), (1, .ref a1), (2, .ref a2), (4, .int x4)] dX2_readFrom_55 (by decide) rfl ?_
      refine r_iinc g (x4 + 1) [(4, .int (x4 + 1)), (3, .int y13), (0, .ref a0), (1, .ref a1), (2, .ref a2)] dX2_readFrom_56 rfl rfl (by decide) rfl ?_
      refine r_goto g 33 dX2_readFrom_59 (by decide) ?_
      refine r_sub g (lv' := [(0, .ref a0), (1, .ref a1), (2, .ref a2), (3, .int y13), (4, .int (x4 + 1))]) (⟨rfl, rfl, rfl, rfl, rfl, trivial⟩) ?_
      exact h
theorem I_X2_readFrom {d : Nat} {ro : Nat → Nat} {Z : Option Value → Hp → Prop} {μ : Hp} {a0 : Nat} {a1 : Nat} {a2 : Nat} (h : ∀ J, xCtx RX2 cX2_readFrom 5 d 0 0 yX2_readFrom.name ro J → xRet cX2_readFrom none 0 0 Z J → J μ 0 0 0 [(0, .ref a0), (1, .ref a1), (2, .ref a2)] []) : xC d yX2_readFrom cX2_readFrom 5 none 0 0 [.ref a0, .ref a1, .ref a2] μ ro Z :=
  xC_intro (own := RX2) (lv := [(0, .ref a0), (1, .ref a1), (2, .ref a2)]) (by decide) rfl (Nat.le_of_ble_eq_true rfl) rfl (fun J g hr => r_sub g (lv' := [(0, .ref a0), (1, .ref a1), (2, .ref a2)]) (⟨rfl, rfl, rfl, trivial⟩) (h J g hr))
theorem dX2_readLand_0 : decode cX2_readLand 0 = .ok (.aload_n 0, 1) := by decide +kernel
theorem dX2_readLand_1 : decode cX2_readLand 1 = .ok (.getfield 28, 3) := by decide +kernel
theorem dX2_readLand_4 : decode cX2_readLand 4 = .ok (.bipush 6, 2) := by decide +kernel
theorem dX2_readLand_6 : decode cX2_readLand 6 = .ok (.if_icmp .lt 12, 3) := by decide +kernel
theorem dX2_readLand_9 : decode cX2_readLand 9 = .ok (.aload_n 1, 1) := by decide +kernel
theorem dX2_readLand_10 : decode cX2_readLand 10 = .ok (.aload_n 1, 1) := by decide +kernel
theorem dX2_readLand_11 : decode cX2_readLand 11 = .ok (.getfield 81, 3) := by decide +kernel
theorem dX2_readLand_14 : decode cX2_readLand 14 = .ok (.invokevirtual 67, 3) := by decide +kernel
theorem dX2_readLand_17 : decode cX2_readLand 17 = .ok (.return_, 1) := by decide +kernel
theorem dX2_readLand_18 : decode cX2_readLand 18 = .ok (.aload_n 0, 1) := by decide +kernel
theorem dX2_readLand_19 : decode cX2_readLand 19 = .ok (.getfield 9, 3) := by decide +kernel
theorem dX2_readLand_22 : decode cX2_readLand 22 = .ok (.aload_n 0, 1) := by decide +kernel
theorem dX2_readLand_23 : decode cX2_readLand 23 = .ok (.getfield 28, 3) := by decide +kernel
theorem dX2_readLand_26 : decode cX2_readLand 26 = .ok (.aload_n 0, 1) := by decide +kernel
theorem dX2_readLand_27 : decode cX2_readLand 27 = .ok (.aload_n 1, 1) := by decide +kernel
theorem dX2_readLand_28 : decode cX2_readLand 28 = .ok (.invokevirtual 111, 3) := by decide +kernel
theorem dX2_readLand_31 : decode cX2_readLand 31 = .ok (.lastore, 1) := by decide +kernel
theorem dX2_readLand_32 : decode cX2_readLand 32 = .ok (.iconst 0, 1) := by decide +kernel
theorem dX2_readLand_33 : decode cX2_readLand 33 = .ok (.istore_n 2, 1) := by decide +kernel
theorem dX2_readLand_34 : decode cX2_readLand 34 = .ok (.iload_n 2, 1) := by decide +kernel
theorem dX2_readLand_35 : decode cX2_readLand 35 = .ok (.iconst 3, 1) := by decide +kernel
theorem dX2_readLand_36 : decode cX2_readLand 36 = .ok (.if_icmp .ge 31, 3) := by decide +kernel
theorem dX2_readLand_39 : decode cX2_readLand 39 = .ok (.aload_n 0, 1) := by decide +kernel
theorem dX2_readLand_40 : decode cX2_readLand 40 = .ok (.getfield 18, 3) := by decide +kernel
theorem dX2_readLand_43 : decode cX2_readLand 43 = .ok (.iload_n 2, 1) := by decide +kernel
theorem dX2_readLand_44 : decode cX2_readLand 44 = .ok (.bipush 6, 2) := by decide +kernel
theorem dX2_readLand_46 : decode cX2_readLand 46 = .ok (.imul, 1) := by decide +kernel
theorem dX2_readLand_47 : decode cX2_readLand 47 = .ok (.aload_n 0, 1) := by decide +kernel
theorem dX2_readLand_48 : decode cX2_readLand 48 = .ok (.getfield 28, 3) := by decide +kernel
theorem dX2_readLand_51 : decode cX2_readLand 51 = .ok (.iadd, 1) := by decide +kernel
theorem dX2_readLand_52 : decode cX2_readLand 52 = .ok (.aload_n 1, 1) := by decide +kernel
theorem dX2_readLand_53 : decode cX2_readLand 53 = .ok (.iconst 0, 1) := by decide +kernel
theorem dX2_readLand_54 : decode cX2_readLand 54 = .ok (.sipush 1000, 3) := by decide +kernel
theorem dX2_readLand_57 : decode cX2_readLand 57 = .ok (.invokevirtual 115, 3) := by decide +kernel
theorem dX2_readLand_60 : decode cX2_readLand 60 = .ok (.iastore, 1) := by decide +kernel
theorem dX2_readLand_61 : decode cX2_readLand 61 = .ok (.iinc 2 1, 3) := by decide +kernel
theorem dX2_readLand_64 : decode cX2_readLand 64 = .ok (.goto (-30), 3) := by decide +kernel
theorem dX2_readLand_67 : decode cX2_readLand 67 = .ok (.aload_n 1, 1) := by decide +kernel
theorem dX2_readLand_68 : decode cX2_readLand 68 = .ok (.getfield 119, 3) := by decide +kernel
theorem dX2_readLand_71 : decode cX2_readLand 71 = .ok (.iconst (-1), 1) := by decide +kernel
theorem dX2_readLand_72 : decode cX2_readLand 72 = .ok (.if_icmp .ne 13, 3) := by decide +kernel
theorem dX2_readLand_75 : decode cX2_readLand 75 = .ok (.aload_n 0, 1) := by decide +kernel
theorem dX2_readLand_76 : decode cX2_readLand 76 = .ok (.dup, 1) := by decide +kernel
theorem dX2_readLand_77 : decode cX2_readLand 77 = .ok (.getfield 28, 3) := by decide +kernel
theorem dX2_readLand_80 : decode cX2_readLand 80 = .ok (.iconst 1, 1) := by decide +kernel
theorem dX2_readLand_81 : decode cX2_readLand 81 = .ok (.iadd, 1) := by decide +kernel
theorem dX2_readLand_82 : decode cX2_readLand 82 = .ok (.putfield 28, 3) := by decide +kernel
theorem dX2_readLand_85 : decode cX2_readLand 85 = .ok (.return_, 1) := by decide +kernel
set_option maxHeartbeats 4000000 in
set_option maxRecDepth 100000 in
theorem B_X2_readLand_0 {d : Nat} {ro : Nat → Nat} {J : JT} {Z : Option Value → Hp → Prop} (g : xCtx RX2 cX2_readLand 3 d 0 0 yX2_readLand.name ro J) (hr : xRet cX2_readLand none 0 0 Z J) {μ : Hp} {a0 : Nat} {a1 : Nat} {a0_landNames : Nat} (hs_a0 : hS μ a0 = some (6, 9)) (hr_a0_landNames : hR μ a0 0 = some a0_landNames) (hs_a1 : hS μ a1 = some (10, 5))
    (h : (((hI μ a0 5) < 6 → xCall d yX2_newName cX2_newName 5 (some .long) [.ref a0, .ref a1] μ ro (fun r2 μ3 => ∃ y4 : Int64, r2 = some (.long y4) ∧ ∃ N5 : Nat, hS μ3 a0_landNames = some (2, N5) ∧ vp_in (hI μ a0 5) N5 ∧ J (wL μ3 a0_landNames ((hI μ a0 5).toNatClampNeg) y4) 0 0 34 [(0, .ref a0), (1, .ref a1), (2, .int 0)] [])) ∧ (¬ (hI μ a0 5) < 6 → xCall d yX6_fail cX6_fail 2 none [.ref a1, .int (hI μ a1 2)] μ ro (fun r7 μ8 => r7 = none ∧ Z none μ8)))) :
    J μ 0 0 0 [(0, .ref a0), (1, .ref a1)] [] := by
  refine r_aload_n g dX2_readLand_0 rfl ?_
  refine r_getI g fX2_28 rfl hs_a0 dX2_readLand_1 ?_
  refine r_bipush g 6 dX2_readLand_4 (by decide) ?_
  refine r_icmp_lt g 18 dX2_readLand_6 (by decide) (fun c1 => ?_) (fun c1 => ?_)
  · replace h := h.1 c1
    refine r_aload_n g dX2_readLand_18 rfl ?_
    refine r_getR g fX2_9 rfl hs_a0 hr_a0_landNames dX2_readLand_19 ?_
    refine r_aload_n g dX2_readLand_22 rfl ?_
    refine r_getI g fX2_28 rfl hs_a0 dX2_readLand_23 ?_
    refine r_aload_n g dX2_readLand_26 rfl ?_
    refine r_aload_n g dX2_readLand_27 rfl ?_
    obtain ⟨d1, Z1, hc1, hd1, h1⟩ := h
    refine r_callV (st := [.int (hI μ a0 5), .ref a0_landNames]) (As := [.ref a1]) g sX2_111 iX2_newName eX2_newName rfl hs_a0 rfl (Nat.le_of_ble_eq_true rfl) dX2_readLand_28 hd1 (Nat.le_refl 0) (Nat.le_refl 0) hc1 (fun r2 μ3 hZ1 => ?_)
    replace h := h1 _ _ hZ1
    clear h1 hc1 hd1 hZ1 Z1 d1
    obtain ⟨y4, rfl, h⟩ := h
    obtain ⟨N5, hs_a0_landNames, h⟩ := h
    obtain ⟨hi6, h⟩ := h
    refine r_lastore g hs_a0_landNames hi6 dX2_readLand_31 ?_
    refine r_iconst g 0 dX2_readLand_32 (by decide) ?_
    refine r_istore_n g [(2, .int 0), (0, .ref a0), (1, .ref a1)] dX2_readLand_33 (by decide) rfl ?_
    refine r_sub g (lv' := [(0, .ref a0), (1, .ref a1), (2, .int 0)]) (⟨rfl, rfl, rfl, trivial⟩) ?_
    exact h
  · replace h := h.2 c1
    refine r_aload_n g dX2_readLand_9 rfl ?_
    refine r_aload_n g dX2_readLand_10 rfl ?_
    refine r_getI g fX2_81 rfl hs_a1 dX2_readLand_11 ?_
    obtain ⟨d1, Z1, hc1, hd1, h1⟩ := h
    refine r_callV (st := []) (As := [.int (hI μ a1 2)]) g sX2_67 iX6_fail eX6_fail rfl hs_a1 rfl (Nat.le_of_ble_eq_true rfl) dX2_readLand_14 hd1 (Nat.le_refl 0) (Nat.le_refl 0) hc1 (fun r7 μ8 hZ1 => ?_)
    replace h := h1 _ _ hZ1
    clear h1 hc1 hd1 hZ1 Z1 d1
    obtain ⟨rfl, h⟩ := h
    exact hr.1 rfl _ _ _ _ _ dX2_readLand_17 (Nat.le_refl 0) (Nat.le_refl 0) h
set_option maxHeartbeats 4000000 in
set_option maxRecDepth 100000 in
theorem B_X2_readLand_34 {d : Nat} {ro : Nat → Nat} {J : JT} {Z : Option Value → Hp → Prop} (g : xCtx RX2 cX2_readLand 3 d 0 0 yX2_readLand.name ro J) (hr : xRet cX2_readLand none 0 0 Z J) {μ : Hp} {a0 : Nat} {a1 : Nat} {x2 : Int32} {a0_laws : Nat} (hs_a1 : hS μ a1 = some (10, 5)) (hs_a0 : hS μ a0 = some (6, 9)) (hr_a0_laws : hR μ a0 2 = some a0_laws)
    (h : ((3 ≤ x2 → ((¬ (hI μ a1 1) = (-1) → Z none μ) ∧ ((hI μ a1 1) = (-1) → Z none (wI μ a0 5 ((hI μ a0 5) + 1))))) ∧ (¬ 3 ≤ x2 → xCall d yX6_nextNumber cX6_nextNumber 4 (some .int) [.ref a1, .int 0, .int 1000] μ ro (fun r3 μ4 => ∃ y5 : Int32, r3 = some (.int y5) ∧ ∃ N6 : Nat, hS μ4 a0_laws = some (0, N6) ∧ vp_in ((x2 * 6) + (hI μ a0 5)) N6 ∧ J (wI μ4 a0_laws (((x2 * 6) + (hI μ a0 5)).toNatClampNeg) y5) 0 0 34 [(0, .ref a0), (1, .ref a1), (2, .int (x2 + 1))] [])))) :
    J μ 0 0 34 [(0, .ref a0), (1, .ref a1), (2, .int x2)] [] := by
  refine r_iload_n g dX2_readLand_34 rfl ?_
  refine r_iconst g 3 dX2_readLand_35 (by decide) ?_
  refine r_icmp_ge g 67 dX2_readLand_36 (by decide) (fun c1 => ?_) (fun c1 => ?_)
  · replace h := h.1 c1
    refine r_aload_n g dX2_readLand_67 rfl ?_
    refine r_getI g fX2_119 rfl hs_a1 dX2_readLand_68 ?_
    refine r_iconst g (-1) dX2_readLand_71 (by decide) ?_
    refine r_icmp_ne g 85 dX2_readLand_72 (by decide) (fun c2 => ?_) (fun c2 => ?_)
    · replace h := h.1 c2
      exact hr.1 rfl _ _ _ _ _ dX2_readLand_85 (Nat.le_refl 0) (Nat.le_refl 0) h
    · replace h := h.2 c2
      refine r_aload_n g dX2_readLand_75 rfl ?_
      refine r_dup g dX2_readLand_76 rfl ?_
      refine r_getI g fX2_28 rfl hs_a0 dX2_readLand_77 ?_
      refine r_iconst g 1 dX2_readLand_80 (by decide) ?_
      refine r_iadd g dX2_readLand_81 ?_
      refine r_putI g fX2_28 rfl hs_a0 rfl rfl dX2_readLand_82 ?_
      exact hr.1 rfl _ _ _ _ _ dX2_readLand_85 (Nat.le_refl 0) (Nat.le_refl 0) h
  · replace h := h.2 c1
    refine r_aload_n g dX2_readLand_39 rfl ?_
    refine r_getR g fX2_18 rfl hs_a0 hr_a0_laws dX2_readLand_40 ?_
    refine r_iload_n g dX2_readLand_43 rfl ?_
    refine r_bipush g 6 dX2_readLand_44 (by decide) ?_
    refine r_imul g dX2_readLand_46 ?_
    refine r_aload_n g dX2_readLand_47 rfl ?_
    refine r_getI g fX2_28 rfl hs_a0 dX2_readLand_48 ?_
    refine r_iadd g dX2_readLand_51 ?_
    refine r_aload_n g dX2_readLand_52 rfl ?_
    refine r_iconst g 0 dX2_readLand_53 (by decide) ?_
    refine r_sipush g 1000 dX2_readLand_54 (by decide) ?_
    obtain ⟨d1, Z1, hc1, hd1, h1⟩ := h
    refine r_callV (st := [.int ((x2 * 6) + (hI μ a0 5)), .ref a0_laws]) (As := [.int 0, .int 1000]) g sX2_115 iX6_nextNumber eX6_nextNumber rfl hs_a1 rfl (Nat.le_of_ble_eq_true rfl) dX2_readLand_57 hd1 (Nat.le_refl 0) (Nat.le_refl 0) hc1 (fun r3 μ4 hZ1 => ?_)
    replace h := h1 _ _ hZ1
    clear h1 hc1 hd1 hZ1 Z1 d1
    obtain ⟨y5, rfl, h⟩ := h
    obtain ⟨N6, hs_a0_laws, h⟩ := h
    obtain ⟨hi7, h⟩ := h
    refine r_iastore g hs_a0_laws hi7 dX2_readLand_60 ?_
    refine r_iinc g (x2 + 1) [(2, .int (x2 + 1)), (0, .ref a0), (1, .ref a1)] dX2_readLand_61 rfl rfl (by decide) rfl ?_
    refine r_goto g 34 dX2_readLand_64 (by decide) ?_
    refine r_sub g (lv' := [(0, .ref a0), (1, .ref a1), (2, .int (x2 + 1))]) (⟨rfl, rfl, rfl, trivial⟩) ?_
    exact h
theorem I_X2_readLand {d : Nat} {ro : Nat → Nat} {Z : Option Value → Hp → Prop} {μ : Hp} {a0 : Nat} {a1 : Nat} (h : ∀ J, xCtx RX2 cX2_readLand 3 d 0 0 yX2_readLand.name ro J → xRet cX2_readLand none 0 0 Z J → J μ 0 0 0 [(0, .ref a0), (1, .ref a1)] []) : xC d yX2_readLand cX2_readLand 3 none 0 0 [.ref a0, .ref a1] μ ro Z :=
  xC_intro (own := RX2) (lv := [(0, .ref a0), (1, .ref a1)]) (by decide) rfl (Nat.le_of_ble_eq_true rfl) rfl (fun J g hr => r_sub g (lv' := [(0, .ref a0), (1, .ref a1)]) (⟨rfl, rfl, trivial⟩) (h J g hr))
theorem dX2_readFirm_0 : decode cX2_readFirm 0 = .ok (.aload_n 0, 1) := by decide +kernel
theorem dX2_readFirm_1 : decode cX2_readFirm 1 = .ok (.getfield 32, 3) := by decide +kernel
theorem dX2_readFirm_4 : decode cX2_readFirm 4 = .ok (.bipush 8, 2) := by decide +kernel
theorem dX2_readFirm_6 : decode cX2_readFirm 6 = .ok (.if_icmp .lt 12, 3) := by decide +kernel
theorem dX2_readFirm_9 : decode cX2_readFirm 9 = .ok (.aload_n 1, 1) := by decide +kernel
theorem dX2_readFirm_10 : decode cX2_readFirm 10 = .ok (.aload_n 1, 1) := by decide +kernel
theorem dX2_readFirm_11 : decode cX2_readFirm 11 = .ok (.getfield 81, 3) := by decide +kernel
theorem dX2_readFirm_14 : decode cX2_readFirm 14 = .ok (.invokevirtual 67, 3) := by decide +kernel
theorem dX2_readFirm_17 : decode cX2_readFirm 17 = .ok (.return_, 1) := by decide +kernel
theorem dX2_readFirm_18 : decode cX2_readFirm 18 = .ok (.aload_n 0, 1) := by decide +kernel
theorem dX2_readFirm_19 : decode cX2_readFirm 19 = .ok (.getfield 15, 3) := by decide +kernel
theorem dX2_readFirm_22 : decode cX2_readFirm 22 = .ok (.aload_n 0, 1) := by decide +kernel
theorem dX2_readFirm_23 : decode cX2_readFirm 23 = .ok (.getfield 32, 3) := by decide +kernel
theorem dX2_readFirm_26 : decode cX2_readFirm 26 = .ok (.aload_n 0, 1) := by decide +kernel
theorem dX2_readFirm_27 : decode cX2_readFirm 27 = .ok (.aload_n 1, 1) := by decide +kernel
theorem dX2_readFirm_28 : decode cX2_readFirm 28 = .ok (.invokevirtual 111, 3) := by decide +kernel
theorem dX2_readFirm_31 : decode cX2_readFirm 31 = .ok (.lastore, 1) := by decide +kernel
theorem dX2_readFirm_32 : decode cX2_readFirm 32 = .ok (.aload_n 0, 1) := by decide +kernel
theorem dX2_readFirm_33 : decode cX2_readFirm 33 = .ok (.getfield 22, 3) := by decide +kernel
theorem dX2_readFirm_36 : decode cX2_readFirm 36 = .ok (.aload_n 0, 1) := by decide +kernel
theorem dX2_readFirm_37 : decode cX2_readFirm 37 = .ok (.getfield 32, 3) := by decide +kernel
theorem dX2_readFirm_40 : decode cX2_readFirm 40 = .ok (.aload_n 1, 1) := by decide +kernel
theorem dX2_readFirm_41 : decode cX2_readFirm 41 = .ok (.aload_n 0, 1) := by decide +kernel
theorem dX2_readFirm_42 : decode cX2_readFirm 42 = .ok (.getfield 9, 3) := by decide +kernel
theorem dX2_readFirm_45 : decode cX2_readFirm 45 = .ok (.aload_n 0, 1) := by decide +kernel
theorem dX2_readFirm_46 : decode cX2_readFirm 46 = .ok (.getfield 28, 3) := by decide +kernel
theorem dX2_readFirm_49 : decode cX2_readFirm 49 = .ok (.iconst (-1), 1) := by decide +kernel
theorem dX2_readFirm_50 : decode cX2_readFirm 50 = .ok (.invokestatic 122, 3) := by decide +kernel
theorem dX2_readFirm_53 : decode cX2_readFirm 53 = .ok (.iastore, 1) := by decide +kernel
theorem dX2_readFirm_54 : decode cX2_readFirm 54 = .ok (.aload_n 2, 1) := by decide +kernel
theorem dX2_readFirm_55 : decode cX2_readFirm 55 = .ok (.getfield 126, 3) := by decide +kernel
theorem dX2_readFirm_58 : decode cX2_readFirm 58 = .ok (.iconst 2, 1) := by decide +kernel
theorem dX2_readFirm_59 : decode cX2_readFirm 59 = .ok (.aload_n 0, 1) := by decide +kernel
theorem dX2_readFirm_60 : decode cX2_readFirm 60 = .ok (.getfield 32, 3) := by decide +kernel
theorem dX2_readFirm_63 : decode cX2_readFirm 63 = .ok (.iadd, 1) := by decide +kernel
theorem dX2_readFirm_64 : decode cX2_readFirm 64 = .ok (.aload_n 1, 1) := by decide +kernel
theorem dX2_readFirm_65 : decode cX2_readFirm 65 = .ok (.iconst 0, 1) := by decide +kernel
theorem dX2_readFirm_66 : decode cX2_readFirm 66 = .ok (.bipush 99, 2) := by decide +kernel
theorem dX2_readFirm_68 : decode cX2_readFirm 68 = .ok (.invokevirtual 115, 3) := by decide +kernel
theorem dX2_readFirm_71 : decode cX2_readFirm 71 = .ok (.iastore, 1) := by decide +kernel
theorem dX2_readFirm_72 : decode cX2_readFirm 72 = .ok (.aload_n 1, 1) := by decide +kernel
theorem dX2_readFirm_73 : decode cX2_readFirm 73 = .ok (.getfield 119, 3) := by decide +kernel
theorem dX2_readFirm_76 : decode cX2_readFirm 76 = .ok (.iconst (-1), 1) := by decide +kernel
theorem dX2_readFirm_77 : decode cX2_readFirm 77 = .ok (.if_icmp .ne 13, 3) := by decide +kernel
theorem dX2_readFirm_80 : decode cX2_readFirm 80 = .ok (.aload_n 0, 1) := by decide +kernel
theorem dX2_readFirm_81 : decode cX2_readFirm 81 = .ok (.dup, 1) := by decide +kernel
theorem dX2_readFirm_82 : decode cX2_readFirm 82 = .ok (.getfield 32, 3) := by decide +kernel
theorem dX2_readFirm_85 : decode cX2_readFirm 85 = .ok (.iconst 1, 1) := by decide +kernel
theorem dX2_readFirm_86 : decode cX2_readFirm 86 = .ok (.iadd, 1) := by decide +kernel
theorem dX2_readFirm_87 : decode cX2_readFirm 87 = .ok (.putfield 32, 3) := by decide +kernel
theorem dX2_readFirm_90 : decode cX2_readFirm 90 = .ok (.return_, 1) := by decide +kernel
set_option maxHeartbeats 4000000 in
set_option maxRecDepth 100000 in
theorem B_X2_readFirm_0 {d : Nat} {ro : Nat → Nat} {J : JT} {Z : Option Value → Hp → Prop} (g : xCtx RX2 cX2_readFirm 3 d 0 0 yX2_readFirm.name ro J) (hr : xRet cX2_readFirm none 0 0 Z J) {μ : Hp} {a0 : Nat} {a1 : Nat} {a2 : Nat} {a0_firmNames : Nat} (hs_a0 : hS μ a0 = some (6, 9)) (hr_a0_firmNames : hR μ a0 1 = some a0_firmNames) (hs_a1__ : hS μ a1 = some (10, 5))
    (h : (((hI μ a0 6) < 8 → xCall d yX2_newName cX2_newName 5 (some .long) [.ref a0, .ref a1] μ ro (fun r2 μ3 => ∃ y4 : Int64, r2 = some (.long y4) ∧ ∃ N5 : Nat, hS μ3 a0_firmNames = some (2, N5) ∧ vp_in (hI μ a0 6) N5 ∧ hS μ3 a0 = some (6, 9) ∧ ∃ landOf_7 : Nat, hR μ3 a0 3 = some landOf_7 ∧ ∃ landNames_8 : Nat, hR μ3 a0 0 = some landNames_8 ∧ xCall d yX2_toldName cX2_toldName 5 (some .int) [.ref a1, .ref landNames_8, .int (hI (wL μ3 a0_firmNames ((hI μ a0 6).toNatClampNeg) y4) a0 5), .int (-1)] (wL μ3 a0_firmNames ((hI μ a0 6).toNatClampNeg) y4) ro (fun r9 μ10 => ∃ y11 : Int32, r9 = some (.int y11) ∧ ∃ N12 : Nat, hS μ10 landOf_7 = some (0, N12) ∧ vp_in (hI (wL μ3 a0_firmNames ((hI μ a0 6).toNatClampNeg) y4) a0 6) N12 ∧ hS μ10 a2 = some (12, 4) ∧ ∃ row_14 : Nat, hR μ10 a2 0 = some row_14 ∧ hS μ10 a0 = some (6, 9) ∧ (∀ v15 : Int32, v15 = (hI (wI μ10 landOf_7 ((hI (wL μ3 a0_firmNames ((hI μ a0 6).toNatClampNeg) y4) a0 6).toNatClampNeg) y11) a0 6) → hS μ10 a1 = some (10, 5) ∧ xCall d yX6_nextNumber cX6_nextNumber 4 (some .int) [.ref a1, .int 0, .int 99] (wI μ10 landOf_7 ((hI (wL μ3 a0_firmNames ((hI μ a0 6).toNatClampNeg) y4) a0 6).toNatClampNeg) y11) ro (fun r16 μ17 => ∃ y18 : Int32, r16 = some (.int y18) ∧ ∃ N19 : Nat, hS μ17 row_14 = some (0, N19) ∧ vp_in (2 + v15) N19 ∧ hS μ17 a1 = some (10, 5) ∧ ((¬ (hI (wI μ17 row_14 ((2 + v15).toNatClampNeg) y18) a1 1) = (-1) → Z none (wI μ17 row_14 ((2 + v15).toNatClampNeg) y18)) ∧ ((hI (wI μ17 row_14 ((2 + v15).toNatClampNeg) y18) a1 1) = (-1) → hS μ17 a0 = some (6, 9) ∧ Z none (wI (wI μ17 row_14 ((2 + v15).toNatClampNeg) y18) a0 6 ((hI (wI μ17 row_14 ((2 + v15).toNatClampNeg) y18) a0 6) + 1))))))))) ∧ (¬ (hI μ a0 6) < 8 → xCall d yX6_fail cX6_fail 2 none [.ref a1, .int (hI μ a1 2)] μ ro (fun r22 μ23 => r22 = none ∧ Z none μ23)))) :
    J μ 0 0 0 [(0, .ref a0), (1, .ref a1), (2, .ref a2)] [] := by
  refine r_aload_n g dX2_readFirm_0 rfl ?_
  refine r_getI g fX2_32 rfl hs_a0 dX2_readFirm_1 ?_
  refine r_bipush g 8 dX2_readFirm_4 (by decide) ?_
  refine r_icmp_lt g 18 dX2_readFirm_6 (by decide) (fun c1 => ?_) (fun c1 => ?_)
  · replace h := h.1 c1
    refine r_aload_n g dX2_readFirm_18 rfl ?_
    refine r_getR g fX2_15 rfl hs_a0 hr_a0_firmNames dX2_readFirm_19 ?_
    refine r_aload_n g dX2_readFirm_22 rfl ?_
    refine r_getI g fX2_32 rfl hs_a0 dX2_readFirm_23 ?_
    refine r_aload_n g dX2_readFirm_26 rfl ?_
    refine r_aload_n g dX2_readFirm_27 rfl ?_
    obtain ⟨d1, Z1, hc1, hd1, h1⟩ := h
    refine r_callV (st := [.int (hI μ a0 6), .ref a0_firmNames]) (As := [.ref a1]) g sX2_111 iX2_newName eX2_newName rfl hs_a0 rfl (Nat.le_of_ble_eq_true rfl) dX2_readFirm_28 hd1 (Nat.le_refl 0) (Nat.le_refl 0) hc1 (fun r2 μ3 hZ1 => ?_)
    replace h := h1 _ _ hZ1
    clear h1 hc1 hd1 hZ1 Z1 d1
    obtain ⟨y4, rfl, h⟩ := h
    obtain ⟨N5, hs_a0_firmNames, h⟩ := h
    obtain ⟨hi6, h⟩ := h
    refine r_lastore g hs_a0_firmNames hi6 dX2_readFirm_31 ?_
    refine r_aload_n g dX2_readFirm_32 rfl ?_
    obtain ⟨hs_a0_, h⟩ := h
    obtain ⟨landOf_7, hr_landOf_7, h⟩ := h
    refine r_getR g fX2_22 rfl hs_a0_ hr_landOf_7 dX2_readFirm_33 ?_
    refine r_aload_n g dX2_readFirm_36 rfl ?_
    refine r_getI g fX2_32 rfl hs_a0_ dX2_readFirm_37 ?_
    refine r_aload_n g dX2_readFirm_40 rfl ?_
    refine r_aload_n g dX2_readFirm_41 rfl ?_
    obtain ⟨landNames_8, hr_landNames_8, h⟩ := h
    refine r_getR g fX2_9 rfl hs_a0_ hr_landNames_8 dX2_readFirm_42 ?_
    refine r_aload_n g dX2_readFirm_45 rfl ?_
    refine r_getI g fX2_28 rfl hs_a0_ dX2_readFirm_46 ?_
    refine r_iconst g (-1) dX2_readFirm_49 (by decide) ?_
    obtain ⟨d1, Z1, hc1, hd1, h1⟩ := h
    refine r_callS (st := [.int (hI (wL μ3 a0_firmNames ((hI μ a0 6).toNatClampNeg) y4) a0 6), .ref landOf_7]) (As := [.ref a1, .ref landNames_8, .int (hI (wL μ3 a0_firmNames ((hI μ a0 6).toNatClampNeg) y4) a0 5), .int (-1)]) g sX2_122 iX2_toldName rfl (Nat.le_of_ble_eq_true rfl) dX2_readFirm_50 hd1 (Nat.le_refl 0) (Nat.le_refl 0) hc1 (fun r9 μ10 hZ1 => ?_)
    replace h := h1 _ _ hZ1
    clear h1 hc1 hd1 hZ1 Z1 d1
    obtain ⟨y11, rfl, h⟩ := h
    obtain ⟨N12, hs_landOf_7, h⟩ := h
    obtain ⟨hi13, h⟩ := h
    refine r_iastore g hs_landOf_7 hi13 dX2_readFirm_53 ?_
    refine r_aload_n g dX2_readFirm_54 rfl ?_
    obtain ⟨hs_a2, h⟩ := h
    obtain ⟨row_14, hr_row_14, h⟩ := h
    refine r_getR g fX2_126 rfl hs_a2 hr_row_14 dX2_readFirm_55 ?_
    refine r_iconst g 2 dX2_readFirm_58 (by decide) ?_
    refine r_aload_n g dX2_readFirm_59 rfl ?_
    obtain ⟨hs_a0__, h⟩ := h
    refine r_getI g fX2_32 rfl hs_a0__ dX2_readFirm_60 ?_
    refine r_nmI (fun v15 ev15 => ?_)
    replace h := h v15 ev15
    refine r_iadd g dX2_readFirm_63 ?_
    refine r_aload_n g dX2_readFirm_64 rfl ?_
    refine r_iconst g 0 dX2_readFirm_65 (by decide) ?_
    refine r_bipush g 99 dX2_readFirm_66 (by decide) ?_
    obtain ⟨hs_a1, h⟩ := h
    obtain ⟨d1, Z1, hc1, hd1, h1⟩ := h
    refine r_callV (st := [.int (2 + v15), .ref row_14]) (As := [.int 0, .int 99]) g sX2_115 iX6_nextNumber eX6_nextNumber rfl hs_a1 rfl (Nat.le_of_ble_eq_true rfl) dX2_readFirm_68 hd1 (Nat.le_refl 0) (Nat.le_refl 0) hc1 (fun r16 μ17 hZ1 => ?_)
    replace h := h1 _ _ hZ1
    clear h1 hc1 hd1 hZ1 Z1 d1
    obtain ⟨y18, rfl, h⟩ := h
    obtain ⟨N19, hs_row_14, h⟩ := h
    obtain ⟨hi20, h⟩ := h
    refine r_iastore g hs_row_14 hi20 dX2_readFirm_71 ?_
    refine r_aload_n g dX2_readFirm_72 rfl ?_
    obtain ⟨hs_a1_, h⟩ := h
    refine r_getI g fX2_119 rfl hs_a1_ dX2_readFirm_73 ?_
    refine r_iconst g (-1) dX2_readFirm_76 (by decide) ?_
    refine r_icmp_ne g 90 dX2_readFirm_77 (by decide) (fun c21 => ?_) (fun c21 => ?_)
    · replace h := h.1 c21
      exact hr.1 rfl _ _ _ _ _ dX2_readFirm_90 (Nat.le_refl 0) (Nat.le_refl 0) h
    · replace h := h.2 c21
      refine r_aload_n g dX2_readFirm_80 rfl ?_
      refine r_dup g dX2_readFirm_81 rfl ?_
      obtain ⟨hs_a0___, h⟩ := h
      refine r_getI g fX2_32 rfl hs_a0___ dX2_readFirm_82 ?_
      refine r_iconst g 1 dX2_readFirm_85 (by decide) ?_
      refine r_iadd g dX2_readFirm_86 ?_
      refine r_putI g fX2_32 rfl hs_a0___ rfl rfl dX2_readFirm_87 ?_
      exact hr.1 rfl _ _ _ _ _ dX2_readFirm_90 (Nat.le_refl 0) (Nat.le_refl 0) h
  · replace h := h.2 c1
    refine r_aload_n g dX2_readFirm_9 rfl ?_
    refine r_aload_n g dX2_readFirm_10 rfl ?_
    refine r_getI g fX2_81 rfl hs_a1__ dX2_readFirm_11 ?_
    obtain ⟨d1, Z1, hc1, hd1, h1⟩ := h
    refine r_callV (st := []) (As := [.int (hI μ a1 2)]) g sX2_67 iX6_fail eX6_fail rfl hs_a1__ rfl (Nat.le_of_ble_eq_true rfl) dX2_readFirm_14 hd1 (Nat.le_refl 0) (Nat.le_refl 0) hc1 (fun r22 μ23 hZ1 => ?_)
    replace h := h1 _ _ hZ1
    clear h1 hc1 hd1 hZ1 Z1 d1
    obtain ⟨rfl, h⟩ := h
    exact hr.1 rfl _ _ _ _ _ dX2_readFirm_17 (Nat.le_refl 0) (Nat.le_refl 0) h
theorem I_X2_readFirm {d : Nat} {ro : Nat → Nat} {Z : Option Value → Hp → Prop} {μ : Hp} {a0 : Nat} {a1 : Nat} {a2 : Nat} (h : ∀ J, xCtx RX2 cX2_readFirm 3 d 0 0 yX2_readFirm.name ro J → xRet cX2_readFirm none 0 0 Z J → J μ 0 0 0 [(0, .ref a0), (1, .ref a1), (2, .ref a2)] []) : xC d yX2_readFirm cX2_readFirm 3 none 0 0 [.ref a0, .ref a1, .ref a2] μ ro Z :=
  xC_intro (own := RX2) (lv := [(0, .ref a0), (1, .ref a1), (2, .ref a2)]) (by decide) rfl (Nat.le_of_ble_eq_true rfl) rfl (fun J g hr => r_sub g (lv' := [(0, .ref a0), (1, .ref a1), (2, .ref a2)]) (⟨rfl, rfl, rfl, trivial⟩) (h J g hr))
theorem dX2_readLink_0 : decode cX2_readLink 0 = .ok (.aload_n 2, 1) := by decide +kernel
theorem dX2_readLink_1 : decode cX2_readLink 1 = .ok (.getfield 126, 3) := by decide +kernel
theorem dX2_readLink_4 : decode cX2_readLink 4 = .ok (.iconst 1, 1) := by decide +kernel
theorem dX2_readLink_5 : decode cX2_readLink 5 = .ok (.iaload, 1) := by decide +kernel
theorem dX2_readLink_6 : decode cX2_readLink 6 = .ok (.bipush 16, 2) := by decide +kernel
theorem dX2_readLink_8 : decode cX2_readLink 8 = .ok (.if_icmp .lt 12, 3) := by decide +kernel
theorem dX2_readLink_11 : decode cX2_readLink 11 = .ok (.aload_n 1, 1) := by decide +kernel
theorem dX2_readLink_12 : decode cX2_readLink 12 = .ok (.aload_n 1, 1) := by decide +kernel
theorem dX2_readLink_13 : decode cX2_readLink 13 = .ok (.getfield 81, 3) := by decide +kernel
theorem dX2_readLink_16 : decode cX2_readLink 16 = .ok (.invokevirtual 67, 3) := by decide +kernel
theorem dX2_readLink_19 : decode cX2_readLink 19 = .ok (.return_, 1) := by decide +kernel
theorem dX2_readLink_20 : decode cX2_readLink 20 = .ok (.aload_n 1, 1) := by decide +kernel
theorem dX2_readLink_21 : decode cX2_readLink 21 = .ok (.aload_n 0, 1) := by decide +kernel
theorem dX2_readLink_22 : decode cX2_readLink 22 = .ok (.getfield 15, 3) := by decide +kernel
theorem dX2_readLink_25 : decode cX2_readLink 25 = .ok (.aload_n 0, 1) := by decide +kernel
theorem dX2_readLink_26 : decode cX2_readLink 26 = .ok (.getfield 32, 3) := by decide +kernel
theorem dX2_readLink_29 : decode cX2_readLink 29 = .ok (.iconst (-1), 1) := by decide +kernel
theorem dX2_readLink_30 : decode cX2_readLink 30 = .ok (.invokestatic 122, 3) := by decide +kernel
theorem dX2_readLink_33 : decode cX2_readLink 33 = .ok (.istore 4, 2) := by decide +kernel
theorem dX2_readLink_35 : decode cX2_readLink 35 = .ok (.aload_n 1, 1) := by decide +kernel
theorem dX2_readLink_36 : decode cX2_readLink 36 = .ok (.aload_n 0, 1) := by decide +kernel
theorem dX2_readLink_37 : decode cX2_readLink 37 = .ok (.getfield 15, 3) := by decide +kernel
theorem dX2_readLink_40 : decode cX2_readLink 40 = .ok (.aload_n 0, 1) := by decide +kernel
theorem dX2_readLink_41 : decode cX2_readLink 41 = .ok (.getfield 32, 3) := by decide +kernel
theorem dX2_readLink_44 : decode cX2_readLink 44 = .ok (.iload 4, 2) := by decide +kernel
theorem dX2_readLink_46 : decode cX2_readLink 46 = .ok (.invokestatic 122, 3) := by decide +kernel
theorem dX2_readLink_49 : decode cX2_readLink 49 = .ok (.istore 5, 2) := by decide +kernel
theorem dX2_readLink_51 : decode cX2_readLink 51 = .ok (.aload_n 2, 1) := by decide +kernel
theorem dX2_readLink_52 : decode cX2_readLink 52 = .ok (.iload_n 3, 1) := by decide +kernel
theorem dX2_readLink_53 : decode cX2_readLink 53 = .ok (.iload 4, 2) := by decide +kernel
theorem dX2_readLink_55 : decode cX2_readLink 55 = .ok (.iload 5, 2) := by decide +kernel
theorem dX2_readLink_57 : decode cX2_readLink 57 = .ok (.invokevirtual 129, 3) := by decide +kernel
theorem dX2_readLink_60 : decode cX2_readLink 60 = .ok (.iconst (-1), 1) := by decide +kernel
theorem dX2_readLink_61 : decode cX2_readLink 61 = .ok (.if_icmp .eq 11, 3) := by decide +kernel
theorem dX2_readLink_64 : decode cX2_readLink 64 = .ok (.aload_n 1, 1) := by decide +kernel
theorem dX2_readLink_65 : decode cX2_readLink 65 = .ok (.aload_n 1, 1) := by decide +kernel
theorem dX2_readLink_66 : decode cX2_readLink 66 = .ok (.getfield 81, 3) := by decide +kernel
theorem dX2_readLink_69 : decode cX2_readLink 69 = .ok (.invokevirtual 67, 3) := by decide +kernel
theorem dX2_readLink_72 : decode cX2_readLink 72 = .ok (.iload_n 3, 1) := by decide +kernel
theorem dX2_readLink_73 : decode cX2_readLink 73 = .ok (.ifCond .ne 13, 3) := by decide +kernel
theorem dX2_readLink_76 : decode cX2_readLink 76 = .ok (.aload_n 1, 1) := by decide +kernel
theorem dX2_readLink_77 : decode cX2_readLink 77 = .ok (.iconst 1, 1) := by decide +kernel
theorem dX2_readLink_78 : decode cX2_readLink 78 = .ok (.bipush 100, 2) := by decide +kernel
theorem dX2_readLink_80 : decode cX2_readLink 80 = .ok (.invokevirtual 115, 3) := by decide +kernel
theorem dX2_readLink_83 : decode cX2_readLink 83 = .ok (.goto 4, 3) := by decide +kernel
theorem dX2_readLink_86 : decode cX2_readLink 86 = .ok (.iconst 0, 1) := by decide +kernel
theorem dX2_readLink_87 : decode cX2_readLink 87 = .ok (.istore 6, 2) := by decide +kernel
theorem dX2_readLink_89 : decode cX2_readLink 89 = .ok (.aload_n 1, 1) := by decide +kernel
theorem dX2_readLink_90 : decode cX2_readLink 90 = .ok (.iconst 0, 1) := by decide +kernel
theorem dX2_readLink_91 : decode cX2_readLink 91 = .ok (.bipush 99, 2) := by decide +kernel
theorem dX2_readLink_93 : decode cX2_readLink 93 = .ok (.invokevirtual 115, 3) := by decide +kernel
theorem dX2_readLink_96 : decode cX2_readLink 96 = .ok (.istore 7, 2) := by decide +kernel
theorem dX2_readLink_98 : decode cX2_readLink 98 = .ok (.aload_n 1, 1) := by decide +kernel
theorem dX2_readLink_99 : decode cX2_readLink 99 = .ok (.getfield 119, 3) := by decide +kernel
theorem dX2_readLink_102 : decode cX2_readLink 102 = .ok (.iconst (-1), 1) := by decide +kernel
theorem dX2_readLink_103 : decode cX2_readLink 103 = .ok (.if_icmp .ne 16, 3) := by decide +kernel
theorem dX2_readLink_106 : decode cX2_readLink 106 = .ok (.aload_n 2, 1) := by decide +kernel
theorem dX2_readLink_107 : decode cX2_readLink 107 = .ok (.iload_n 3, 1) := by decide +kernel
theorem dX2_readLink_108 : decode cX2_readLink 108 = .ok (.iload 4, 2) := by decide +kernel
theorem dX2_readLink_110 : decode cX2_readLink 110 = .ok (.iload 5, 2) := by decide +kernel
theorem dX2_readLink_112 : decode cX2_readLink 112 = .ok (.iload 6, 2) := by decide +kernel
theorem dX2_readLink_114 : decode cX2_readLink 114 = .ok (.iload 7, 2) := by decide +kernel
theorem dX2_readLink_116 : decode cX2_readLink 116 = .ok (.invokevirtual 132, 3) := by decide +kernel
theorem dX2_readLink_119 : decode cX2_readLink 119 = .ok (.return_, 1) := by decide +kernel
set_option maxHeartbeats 4000000 in
set_option maxRecDepth 100000 in
theorem B_X2_readLink_0 {d : Nat} {ro : Nat → Nat} {J : JT} {Z : Option Value → Hp → Prop} (g : xCtx RX2 cX2_readLink 8 d 0 0 yX2_readLink.name ro J) (hr : xRet cX2_readLink none 0 0 Z J) {μ : Hp} {a0 : Nat} {a1 : Nat} {a2 : Nat} {x3 : Int32} {a2_row : Nat} {N_a2_row : Nat} {a0_firmNames : Nat} (hs_a2 : hS μ a2 = some (12, 4)) (hr_a2_row : hR μ a2 0 = some a2_row) (hs_a2_row : hS μ a2_row = some (0, N_a2_row)) (hs_a0 : hS μ a0 = some (6, 9)) (hr_a0_firmNames : hR μ a0 1 = some a0_firmNames) (hs_a1_ : hS μ a1 = some (10, 5))
    (h : vp_in 1 N_a2_row ∧ (((hI μ a2_row 1) < 16 → xCall d yX2_toldName cX2_toldName 5 (some .int) [.ref a1, .ref a0_firmNames, .int (hI μ a0 6), .int (-1)] μ ro (fun r3 μ4 => ∃ y5 : Int32, r3 = some (.int y5) ∧ hS μ4 a0 = some (6, 9) ∧ ∃ firmNames_6 : Nat, hR μ4 a0 1 = some firmNames_6 ∧ xCall d yX2_toldName cX2_toldName 5 (some .int) [.ref a1, .ref firmNames_6, .int (hI μ4 a0 6), .int y5] μ4 ro (fun r7 μ8 => ∃ y9 : Int32, r7 = some (.int y9) ∧ hS μ8 a2 = some (12, 4) ∧ xCall d yX8_linkOf cX8_linkOf 5 (some .int) [.ref a2, .int x3, .int y5, .int y9] μ8 ro (fun r10 μ11 => ∃ y12 : Int32, r10 = some (.int y12) ∧ ((y12 = (-1) → J μ11 0 0 72 [(1, .ref a1), (2, .ref a2), (3, .int x3), (4, .int y5), (5, .int y9)] []) ∧ (¬ y12 = (-1) → hS μ11 a1 = some (10, 5) ∧ xCall d yX6_fail cX6_fail 2 none [.ref a1, .int (hI μ11 a1 2)] μ11 ro (fun r14 μ15 => r14 = none ∧ J μ15 0 0 72 [(1, .ref a1), (2, .ref a2), (3, .int x3), (4, .int y5), (5, .int y9)] []))))))) ∧ (¬ (hI μ a2_row 1) < 16 → xCall d yX6_fail cX6_fail 2 none [.ref a1, .int (hI μ a1 2)] μ ro (fun r16 μ17 => r16 = none ∧ Z none μ17)))) :
    J μ 0 0 0 [(0, .ref a0), (1, .ref a1), (2, .ref a2), (3, .int x3)] [] := by
  refine r_aload_n g dX2_readLink_0 rfl ?_
  refine r_getR g fX2_126 rfl hs_a2 hr_a2_row dX2_readLink_1 ?_
  refine r_iconst g 1 dX2_readLink_4 (by decide) ?_
  obtain ⟨hi1, h⟩ := h
  refine r_iaload g hs_a2_row hi1 dX2_readLink_5 ?_
  refine r_bipush g 16 dX2_readLink_6 (by decide) ?_
  refine r_icmp_lt g 20 dX2_readLink_8 (by decide) (fun c2 => ?_) (fun c2 => ?_)
  · replace h := h.1 c2
    refine r_aload_n g dX2_readLink_20 rfl ?_
    refine r_aload_n g dX2_readLink_21 rfl ?_
    refine r_getR g fX2_15 rfl hs_a0 hr_a0_firmNames dX2_readLink_22 ?_
    refine r_aload_n g dX2_readLink_25 rfl ?_
    refine r_getI g fX2_32 rfl hs_a0 dX2_readLink_26 ?_
    refine r_iconst g (-1) dX2_readLink_29 (by decide) ?_
    obtain ⟨d1, Z1, hc1, hd1, h1⟩ := h
    refine r_callS (st := []) (As := [.ref a1, .ref a0_firmNames, .int (hI μ a0 6), .int (-1)]) g sX2_122 iX2_toldName rfl (Nat.le_of_ble_eq_true rfl) dX2_readLink_30 hd1 (Nat.le_refl 0) (Nat.le_refl 0) hc1 (fun r3 μ4 hZ1 => ?_)
    replace h := h1 _ _ hZ1
    clear h1 hc1 hd1 hZ1 Z1 d1
    obtain ⟨y5, rfl, h⟩ := h
    refine r_istore g [(4, .int y5), (0, .ref a0), (1, .ref a1), (2, .ref a2), (3, .int x3)] dX2_readLink_33 (by decide) rfl ?_
    refine r_aload_n g dX2_readLink_35 rfl ?_
    refine r_aload_n g dX2_readLink_36 rfl ?_
    obtain ⟨hs_a0_, h⟩ := h
    obtain ⟨firmNames_6, hr_firmNames_6, h⟩ := h
    refine r_getR g fX2_15 rfl hs_a0_ hr_firmNames_6 dX2_readLink_37 ?_
    refine r_aload_n g dX2_readLink_40 rfl ?_
    refine r_getI g fX2_32 rfl hs_a0_ dX2_readLink_41 ?_
    refine r_iload g dX2_readLink_44 rfl ?_
    obtain ⟨d1, Z1, hc1, hd1, h1⟩ := h
    refine r_callS (st := []) (As := [.ref a1, .ref firmNames_6, .int (hI μ4 a0 6), .int y5]) g sX2_122 iX2_toldName rfl (Nat.le_of_ble_eq_true rfl) dX2_readLink_46 hd1 (Nat.le_refl 0) (Nat.le_refl 0) hc1 (fun r7 μ8 hZ1 => ?_)
    replace h := h1 _ _ hZ1
    clear h1 hc1 hd1 hZ1 Z1 d1
    obtain ⟨y9, rfl, h⟩ := h
    refine r_istore g [(5, .int y9), (4, .int y5), (0, .ref a0), (1, .ref a1), (2, .ref a2), (3, .int x3)] dX2_readLink_49 (by decide) rfl ?_
    refine r_aload_n g dX2_readLink_51 rfl ?_
    refine r_iload_n g dX2_readLink_52 rfl ?_
    refine r_iload g dX2_readLink_53 rfl ?_
    refine r_iload g dX2_readLink_55 rfl ?_
    obtain ⟨hs_a2_, h⟩ := h
    obtain ⟨d1, Z1, hc1, hd1, h1⟩ := h
    refine r_callV (st := []) (As := [.int x3, .int y5, .int y9]) g sX2_129 iX8_linkOf eX8_linkOf rfl hs_a2_ rfl (Nat.le_of_ble_eq_true rfl) dX2_readLink_57 hd1 (Nat.le_refl 0) (Nat.le_refl 0) hc1 (fun r10 μ11 hZ1 => ?_)
    replace h := h1 _ _ hZ1
    clear h1 hc1 hd1 hZ1 Z1 d1
    obtain ⟨y12, rfl, h⟩ := h
    refine r_iconst g (-1) dX2_readLink_60 (by decide) ?_
    refine r_icmp_eq g 72 dX2_readLink_61 (by decide) (fun c13 => ?_) (fun c13 => ?_)
    · replace h := h.1 c13
      refine r_sub g (lv' := [(1, .ref a1), (2, .ref a2), (3, .int x3), (4, .int y5), (5, .int y9)]) (⟨rfl, rfl, rfl, rfl, rfl, trivial⟩) ?_
      exact h
    · replace h := h.2 c13
      refine r_aload_n g dX2_readLink_64 rfl ?_
      refine r_aload_n g dX2_readLink_65 rfl ?_
      obtain ⟨hs_a1, h⟩ := h
      refine r_getI g fX2_81 rfl hs_a1 dX2_readLink_66 ?_
      obtain ⟨d1, Z1, hc1, hd1, h1⟩ := h
      refine r_callV (st := []) (As := [.int (hI μ11 a1 2)]) g sX2_67 iX6_fail eX6_fail rfl hs_a1 rfl (Nat.le_of_ble_eq_true rfl) dX2_readLink_69 hd1 (Nat.le_refl 0) (Nat.le_refl 0) hc1 (fun r14 μ15 hZ1 => ?_)
      replace h := h1 _ _ hZ1
      clear h1 hc1 hd1 hZ1 Z1 d1
      obtain ⟨rfl, h⟩ := h
      refine r_sub g (lv' := [(1, .ref a1), (2, .ref a2), (3, .int x3), (4, .int y5), (5, .int y9)]) (⟨rfl, rfl, rfl, rfl, rfl, trivial⟩) ?_
      exact h
  · replace h := h.2 c2
    refine r_aload_n g dX2_readLink_11 rfl ?_
    refine r_aload_n g dX2_readLink_12 rfl ?_
    refine r_getI g fX2_81 rfl hs_a1_ dX2_readLink_13 ?_
    obtain ⟨d1, Z1, hc1, hd1, h1⟩ := h
    refine r_callV (st := []) (As := [.int (hI μ a1 2)]) g sX2_67 iX6_fail eX6_fail rfl hs_a1_ rfl (Nat.le_of_ble_eq_true rfl) dX2_readLink_16 hd1 (Nat.le_refl 0) (Nat.le_refl 0) hc1 (fun r16 μ17 hZ1 => ?_)
    replace h := h1 _ _ hZ1
    clear h1 hc1 hd1 hZ1 Z1 d1
    obtain ⟨rfl, h⟩ := h
    exact hr.1 rfl _ _ _ _ _ dX2_readLink_19 (Nat.le_refl 0) (Nat.le_refl 0) h
set_option maxHeartbeats 4000000 in
set_option maxRecDepth 100000 in
theorem B_X2_readLink_72 {d : Nat} {ro : Nat → Nat} {J : JT} {Z : Option Value → Hp → Prop} (g : xCtx RX2 cX2_readLink 8 d 0 0 yX2_readLink.name ro J) (hr : xRet cX2_readLink none 0 0 Z J) {μ : Hp} {a1 : Nat} {a2 : Nat} {x3 : Int32} {x4 : Int32} {x5 : Int32} (hs_a1 : hS μ a1 = some (10, 5))
    (h : ((¬ x3 = 0 → xCall d yX6_nextNumber cX6_nextNumber 4 (some .int) [.ref a1, .int 0, .int 99] μ ro (fun r2 μ3 => ∃ y4 : Int32, r2 = some (.int y4) ∧ hS μ3 a1 = some (10, 5) ∧ ((¬ (hI μ3 a1 1) = (-1) → Z none μ3) ∧ ((hI μ3 a1 1) = (-1) → hS μ3 a2 = some (12, 4) ∧ xCall d yX8_addLink cX8_addLink 7 none [.ref a2, .int x3, .int x4, .int x5, .int 0, .int y4] μ3 ro (fun r6 μ7 => r6 = none ∧ Z none μ7))))) ∧ (x3 = 0 → xCall d yX6_nextNumber cX6_nextNumber 4 (some .int) [.ref a1, .int 1, .int 100] μ ro (fun r8 μ9 => ∃ y10 : Int32, r8 = some (.int y10) ∧ hS μ9 a1 = some (10, 5) ∧ xCall d yX6_nextNumber cX6_nextNumber 4 (some .int) [.ref a1, .int 0, .int 99] μ9 ro (fun r11 μ12 => ∃ y13 : Int32, r11 = some (.int y13) ∧ hS μ12 a1 = some (10, 5) ∧ ((¬ (hI μ12 a1 1) = (-1) → Z none μ12) ∧ ((hI μ12 a1 1) = (-1) → hS μ12 a2 = some (12, 4) ∧ xCall d yX8_addLink cX8_addLink 7 none [.ref a2, .int x3, .int x4, .int x5, .int y10, .int y13] μ12 ro (fun r15 μ16 => r15 = none ∧ Z none μ16)))))))) :
    J μ 0 0 72 [(1, .ref a1), (2, .ref a2), (3, .int x3), (4, .int x4), (5, .int x5)] [] := by
  refine r_iload_n g dX2_readLink_72 rfl ?_
  refine r_if_ne g 86 dX2_readLink_73 (by decide) (fun c1 => ?_) (fun c1 => ?_)
  · replace h := h.1 c1
    refine r_iconst g 0 dX2_readLink_86 (by decide) ?_
    refine r_istore g [(6, .int 0), (1, .ref a1), (2, .ref a2), (3, .int x3), (4, .int x4), (5, .int x5)] dX2_readLink_87 (by decide) rfl ?_
    refine r_aload_n g dX2_readLink_89 rfl ?_
    refine r_iconst g 0 dX2_readLink_90 (by decide) ?_
    refine r_bipush g 99 dX2_readLink_91 (by decide) ?_
    obtain ⟨d1, Z1, hc1, hd1, h1⟩ := h
    refine r_callV (st := []) (As := [.int 0, .int 99]) g sX2_115 iX6_nextNumber eX6_nextNumber rfl hs_a1 rfl (Nat.le_of_ble_eq_true rfl) dX2_readLink_93 hd1 (Nat.le_refl 0) (Nat.le_refl 0) hc1 (fun r2 μ3 hZ1 => ?_)
    replace h := h1 _ _ hZ1
    clear h1 hc1 hd1 hZ1 Z1 d1
    obtain ⟨y4, rfl, h⟩ := h
    refine r_istore g [(7, .int y4), (6, .int 0), (1, .ref a1), (2, .ref a2), (3, .int x3), (4, .int x4), (5, .int x5)] dX2_readLink_96 (by decide) rfl ?_
    refine r_aload_n g dX2_readLink_98 rfl ?_
    obtain ⟨hs_a1_, h⟩ := h
    refine r_getI g fX2_119 rfl hs_a1_ dX2_readLink_99 ?_
    refine r_iconst g (-1) dX2_readLink_102 (by decide) ?_
    refine r_icmp_ne g 119 dX2_readLink_103 (by decide) (fun c5 => ?_) (fun c5 => ?_)
    · replace h := h.1 c5
      exact hr.1 rfl _ _ _ _ _ dX2_readLink_119 (Nat.le_refl 0) (Nat.le_refl 0) h
    · replace h := h.2 c5
      refine r_aload_n g dX2_readLink_106 rfl ?_
      refine r_iload_n g dX2_readLink_107 rfl ?_
      refine r_iload g dX2_readLink_108 rfl ?_
      refine r_iload g dX2_readLink_110 rfl ?_
      refine r_iload g dX2_readLink_112 rfl ?_
      refine r_iload g dX2_readLink_114 rfl ?_
      obtain ⟨hs_a2, h⟩ := h
      obtain ⟨d1, Z1, hc1, hd1, h1⟩ := h
      refine r_callV (st := []) (As := [.int x3, .int x4, .int x5, .int 0, .int y4]) g sX2_132 iX8_addLink eX8_addLink rfl hs_a2 rfl (Nat.le_of_ble_eq_true rfl) dX2_readLink_116 hd1 (Nat.le_refl 0) (Nat.le_refl 0) hc1 (fun r6 μ7 hZ1 => ?_)
      replace h := h1 _ _ hZ1
      clear h1 hc1 hd1 hZ1 Z1 d1
      obtain ⟨rfl, h⟩ := h
      exact hr.1 rfl _ _ _ _ _ dX2_readLink_119 (Nat.le_refl 0) (Nat.le_refl 0) h
  · replace h := h.2 c1
    refine r_aload_n g dX2_readLink_76 rfl ?_
    refine r_iconst g 1 dX2_readLink_77 (by decide) ?_
    refine r_bipush g 100 dX2_readLink_78 (by decide) ?_
    obtain ⟨d1, Z1, hc1, hd1, h1⟩ := h
    refine r_callV (st := []) (As := [.int 1, .int 100]) g sX2_115 iX6_nextNumber eX6_nextNumber rfl hs_a1 rfl (Nat.le_of_ble_eq_true rfl) dX2_readLink_80 hd1 (Nat.le_refl 0) (Nat.le_refl 0) hc1 (fun r8 μ9 hZ1 => ?_)
    replace h := h1 _ _ hZ1
    clear h1 hc1 hd1 hZ1 Z1 d1
    obtain ⟨y10, rfl, h⟩ := h
    refine r_goto g 87 dX2_readLink_83 (by decide) ?_
    refine r_istore g [(6, .int y10), (1, .ref a1), (2, .ref a2), (3, .int x3), (4, .int x4), (5, .int x5)] dX2_readLink_87 (by decide) rfl ?_
    refine r_aload_n g dX2_readLink_89 rfl ?_
    refine r_iconst g 0 dX2_readLink_90 (by decide) ?_
    refine r_bipush g 99 dX2_readLink_91 (by decide) ?_
    obtain ⟨hs_a1___, h⟩ := h
    obtain ⟨d1, Z1, hc1, hd1, h1⟩ := h
    refine r_callV (st := []) (As := [.int 0, .int 99]) g sX2_115 iX6_nextNumber eX6_nextNumber rfl hs_a1___ rfl (Nat.le_of_ble_eq_true rfl) dX2_readLink_93 hd1 (Nat.le_refl 0) (Nat.le_refl 0) hc1 (fun r11 μ12 hZ1 => ?_)
    replace h := h1 _ _ hZ1
    clear h1 hc1 hd1 hZ1 Z1 d1
    obtain ⟨y13, rfl, h⟩ := h
    refine r_istore g [(7, .int y13), (6, .int y10), (1, .ref a1), (2, .ref a2), (3, .int x3), (4, .int x4), (5, .int x5)] dX2_readLink_96 (by decide) rfl ?_
    refine r_aload_n g dX2_readLink_98 rfl ?_
    obtain ⟨hs_a1____, h⟩ := h
    refine r_getI g fX2_119 rfl hs_a1____ dX2_readLink_99 ?_
    refine r_iconst g (-1) dX2_readLink_102 (by decide) ?_
    refine r_icmp_ne g 119 dX2_readLink_103 (by decide) (fun c14 => ?_) (fun c14 => ?_)
    · replace h := h.1 c14
      exact hr.1 rfl _ _ _ _ _ dX2_readLink_119 (Nat.le_refl 0) (Nat.le_refl 0) h
    · replace h := h.2 c14
      refine r_aload_n g dX2_readLink_106 rfl ?_
      refine r_iload_n g dX2_readLink_107 rfl ?_
      refine r_iload g dX2_readLink_108 rfl ?_
      refine r_iload g dX2_readLink_110 rfl ?_
      refine r_iload g dX2_readLink_112 rfl ?_
      refine r_iload g dX2_readLink_114 rfl ?_
      obtain ⟨hs_a2_, h⟩ := h
      obtain ⟨d1, Z1, hc1, hd1, h1⟩ := h
      refine r_callV (st := []) (As := [.int x3, .int x4, .int x5, .int y10, .int y13]) g sX2_132 iX8_addLink eX8_addLink rfl hs_a2_ rfl (Nat.le_of_ble_eq_true rfl) dX2_readLink_116 hd1 (Nat.le_refl 0) (Nat.le_refl 0) hc1 (fun r15 μ16 hZ1 => ?_)
      replace h := h1 _ _ hZ1
      clear h1 hc1 hd1 hZ1 Z1 d1
      obtain ⟨rfl, h⟩ := h
      exact hr.1 rfl _ _ _ _ _ dX2_readLink_119 (Nat.le_refl 0) (Nat.le_refl 0) h
theorem I_X2_readLink {d : Nat} {ro : Nat → Nat} {Z : Option Value → Hp → Prop} {μ : Hp} {a0 : Nat} {a1 : Nat} {a2 : Nat} {x3 : Int32} (h : ∀ J, xCtx RX2 cX2_readLink 8 d 0 0 yX2_readLink.name ro J → xRet cX2_readLink none 0 0 Z J → J μ 0 0 0 [(0, .ref a0), (1, .ref a1), (2, .ref a2), (3, .int x3)] []) : xC d yX2_readLink cX2_readLink 8 none 0 0 [.ref a0, .ref a1, .ref a2, .int x3] μ ro Z :=
  xC_intro (own := RX2) (lv := [(0, .ref a0), (1, .ref a1), (2, .ref a2), (3, .int x3)]) (by decide) rfl (Nat.le_of_ble_eq_true rfl) rfl (fun J g hr => r_sub g (lv' := [(0, .ref a0), (1, .ref a1), (2, .ref a2), (3, .int x3)]) (⟨rfl, rfl, rfl, rfl, trivial⟩) (h J g hr))
theorem dX2_readYear_0 : decode cX2_readYear 0 = .ok (.aload_n 0, 1) := by decide +kernel
theorem dX2_readYear_1 : decode cX2_readYear 1 = .ok (.getfield 38, 3) := by decide +kernel
theorem dX2_readYear_4 : decode cX2_readYear 4 = .ok (.ifCond .eq 11, 3) := by decide +kernel
theorem dX2_readYear_7 : decode cX2_readYear 7 = .ok (.aload_n 1, 1) := by decide +kernel
theorem dX2_readYear_8 : decode cX2_readYear 8 = .ok (.aload_n 1, 1) := by decide +kernel
theorem dX2_readYear_9 : decode cX2_readYear 9 = .ok (.getfield 81, 3) := by decide +kernel
theorem dX2_readYear_12 : decode cX2_readYear 12 = .ok (.invokevirtual 67, 3) := by decide +kernel
theorem dX2_readYear_15 : decode cX2_readYear 15 = .ok (.aload_n 0, 1) := by decide +kernel
theorem dX2_readYear_16 : decode cX2_readYear 16 = .ok (.iconst 1, 1) := by decide +kernel
theorem dX2_readYear_17 : decode cX2_readYear 17 = .ok (.putfield 38, 3) := by decide +kernel
theorem dX2_readYear_20 : decode cX2_readYear 20 = .ok (.aload_n 2, 1) := by decide +kernel
theorem dX2_readYear_21 : decode cX2_readYear 21 = .ok (.getfield 126, 3) := by decide +kernel
theorem dX2_readYear_24 : decode cX2_readYear 24 = .ok (.iconst 0, 1) := by decide +kernel
theorem dX2_readYear_25 : decode cX2_readYear 25 = .ok (.aload_n 1, 1) := by decide +kernel
theorem dX2_readYear_26 : decode cX2_readYear 26 = .ok (.iconst 0, 1) := by decide +kernel
theorem dX2_readYear_27 : decode cX2_readYear 27 = .ok (.bipush 99, 2) := by decide +kernel
theorem dX2_readYear_29 : decode cX2_readYear 29 = .ok (.invokevirtual 115, 3) := by decide +kernel
theorem dX2_readYear_32 : decode cX2_readYear 32 = .ok (.iastore, 1) := by decide +kernel
theorem dX2_readYear_33 : decode cX2_readYear 33 = .ok (.return_, 1) := by decide +kernel
set_option maxHeartbeats 4000000 in
set_option maxRecDepth 100000 in
theorem B_X2_readYear_0 {d : Nat} {ro : Nat → Nat} {J : JT} {Z : Option Value → Hp → Prop} (g : xCtx RX2 cX2_readYear 3 d 0 0 yX2_readYear.name ro J) (hr : xRet cX2_readYear none 0 0 Z J) {μ : Hp} {a0 : Nat} {a1 : Nat} {a2 : Nat} {a2_row : Nat} (hs_a0 : hS μ a0 = some (6, 9)) (hs_a2 : hS μ a2 = some (12, 4)) (hr_a2_row : hR μ a2 0 = some a2_row) (hs_a1 : hS μ a1 = some (10, 5))
    (h : (((hI μ a0 8) = 0 → xCall d yX6_nextNumber cX6_nextNumber 4 (some .int) [.ref a1, .int 0, .int 99] (wI μ a0 8 1) ro (fun r2 μ3 => ∃ y4 : Int32, r2 = some (.int y4) ∧ ∃ N5 : Nat, hS μ3 a2_row = some (0, N5) ∧ vp_in 0 N5 ∧ Z none (wI μ3 a2_row 0 y4))) ∧ (¬ (hI μ a0 8) = 0 → xCall d yX6_fail cX6_fail 2 none [.ref a1, .int (hI μ a1 2)] μ ro (fun r7 μ8 => r7 = none ∧ hS μ8 a0 = some (6, 9) ∧ hS μ8 a2 = some (12, 4) ∧ ∃ row_9 : Nat, hR μ8 a2 0 = some row_9 ∧ hS μ8 a1 = some (10, 5) ∧ xCall d yX6_nextNumber cX6_nextNumber 4 (some .int) [.ref a1, .int 0, .int 99] (wI μ8 a0 8 1) ro (fun r10 μ11 => ∃ y12 : Int32, r10 = some (.int y12) ∧ ∃ N13 : Nat, hS μ11 row_9 = some (0, N13) ∧ vp_in 0 N13 ∧ Z none (wI μ11 row_9 0 y12)))))) :
    J μ 0 0 0 [(0, .ref a0), (1, .ref a1), (2, .ref a2)] [] := by
  refine r_aload_n g dX2_readYear_0 rfl ?_
  refine r_getI g fX2_38 rfl hs_a0 dX2_readYear_1 ?_
  refine r_if_eq g 15 dX2_readYear_4 (by decide) (fun c1 => ?_) (fun c1 => ?_)
  · replace h := h.1 c1
    refine r_aload_n g dX2_readYear_15 rfl ?_
    refine r_iconst g 1 dX2_readYear_16 (by decide) ?_
    refine r_putI g fX2_38 rfl hs_a0 (by decide) (by decide) dX2_readYear_17 ?_
    refine r_aload_n g dX2_readYear_20 rfl ?_
    refine r_getR g fX2_126 rfl hs_a2 hr_a2_row dX2_readYear_21 ?_
    refine r_iconst g 0 dX2_readYear_24 (by decide) ?_
    refine r_aload_n g dX2_readYear_25 rfl ?_
    refine r_iconst g 0 dX2_readYear_26 (by decide) ?_
    refine r_bipush g 99 dX2_readYear_27 (by decide) ?_
    obtain ⟨d1, Z1, hc1, hd1, h1⟩ := h
    refine r_callV (st := [.int 0, .ref a2_row]) (As := [.int 0, .int 99]) g sX2_115 iX6_nextNumber eX6_nextNumber rfl hs_a1 rfl (Nat.le_of_ble_eq_true rfl) dX2_readYear_29 hd1 (Nat.le_refl 0) (Nat.le_refl 0) hc1 (fun r2 μ3 hZ1 => ?_)
    replace h := h1 _ _ hZ1
    clear h1 hc1 hd1 hZ1 Z1 d1
    obtain ⟨y4, rfl, h⟩ := h
    obtain ⟨N5, hs_a2_row, h⟩ := h
    obtain ⟨hi6, h⟩ := h
    refine r_iastore g hs_a2_row hi6 dX2_readYear_32 ?_
    exact hr.1 rfl _ _ _ _ _ dX2_readYear_33 (Nat.le_refl 0) (Nat.le_refl 0) h
  · replace h := h.2 c1
    refine r_aload_n g dX2_readYear_7 rfl ?_
    refine r_aload_n g dX2_readYear_8 rfl ?_
    refine r_getI g fX2_81 rfl hs_a1 dX2_readYear_9 ?_
    obtain ⟨d1, Z1, hc1, hd1, h1⟩ := h
    refine r_callV (st := []) (As := [.int (hI μ a1 2)]) g sX2_67 iX6_fail eX6_fail rfl hs_a1 rfl (Nat.le_of_ble_eq_true rfl) dX2_readYear_12 hd1 (Nat.le_refl 0) (Nat.le_refl 0) hc1 (fun r7 μ8 hZ1 => ?_)
    replace h := h1 _ _ hZ1
    clear h1 hc1 hd1 hZ1 Z1 d1
    obtain ⟨rfl, h⟩ := h
    refine r_aload_n g dX2_readYear_15 rfl ?_
    refine r_iconst g 1 dX2_readYear_16 (by decide) ?_
    obtain ⟨hs_a0_, h⟩ := h
    refine r_putI g fX2_38 rfl hs_a0_ (by decide) (by decide) dX2_readYear_17 ?_
    refine r_aload_n g dX2_readYear_20 rfl ?_
    obtain ⟨hs_a2_, h⟩ := h
    obtain ⟨row_9, hr_row_9, h⟩ := h
    refine r_getR g fX2_126 rfl hs_a2_ hr_row_9 dX2_readYear_21 ?_
    refine r_iconst g 0 dX2_readYear_24 (by decide) ?_
    refine r_aload_n g dX2_readYear_25 rfl ?_
    refine r_iconst g 0 dX2_readYear_26 (by decide) ?_
    refine r_bipush g 99 dX2_readYear_27 (by decide) ?_
    obtain ⟨hs_a1__, h⟩ := h
    obtain ⟨d1, Z1, hc1, hd1, h1⟩ := h
    refine r_callV (st := [.int 0, .ref row_9]) (As := [.int 0, .int 99]) g sX2_115 iX6_nextNumber eX6_nextNumber rfl hs_a1__ rfl (Nat.le_of_ble_eq_true rfl) dX2_readYear_29 hd1 (Nat.le_refl 0) (Nat.le_refl 0) hc1 (fun r10 μ11 hZ1 => ?_)
    replace h := h1 _ _ hZ1
    clear h1 hc1 hd1 hZ1 Z1 d1
    obtain ⟨y12, rfl, h⟩ := h
    obtain ⟨N13, hs_row_9, h⟩ := h
    obtain ⟨hi14, h⟩ := h
    refine r_iastore g hs_row_9 hi14 dX2_readYear_32 ?_
    exact hr.1 rfl _ _ _ _ _ dX2_readYear_33 (Nat.le_refl 0) (Nat.le_refl 0) h
theorem I_X2_readYear {d : Nat} {ro : Nat → Nat} {Z : Option Value → Hp → Prop} {μ : Hp} {a0 : Nat} {a1 : Nat} {a2 : Nat} (h : ∀ J, xCtx RX2 cX2_readYear 3 d 0 0 yX2_readYear.name ro J → xRet cX2_readYear none 0 0 Z J → J μ 0 0 0 [(0, .ref a0), (1, .ref a1), (2, .ref a2)] []) : xC d yX2_readYear cX2_readYear 3 none 0 0 [.ref a0, .ref a1, .ref a2] μ ro Z :=
  xC_intro (own := RX2) (lv := [(0, .ref a0), (1, .ref a1), (2, .ref a2)]) (by decide) rfl (Nat.le_of_ble_eq_true rfl) rfl (fun J g hr => r_sub g (lv' := [(0, .ref a0), (1, .ref a1), (2, .ref a2)]) (⟨rfl, rfl, rfl, trivial⟩) (h J g hr))
theorem dX2_toldName_0 : decode cX2_toldName 0 = .ok (.aload_n 0, 1) := by decide +kernel
theorem dX2_toldName_1 : decode cX2_toldName 1 = .ok (.invokevirtual 71, 3) := by decide +kernel
theorem dX2_toldName_4 : decode cX2_toldName 4 = .ok (.aload_n 1, 1) := by decide +kernel
theorem dX2_toldName_5 : decode cX2_toldName 5 = .ok (.iload_n 2, 1) := by decide +kernel
theorem dX2_toldName_6 : decode cX2_toldName 6 = .ok (.invokestatic 139, 3) := by decide +kernel
theorem dX2_toldName_9 : decode cX2_toldName 9 = .ok (.istore 4, 2) := by decide +kernel
theorem dX2_toldName_11 : decode cX2_toldName 11 = .ok (.iload 4, 2) := by decide +kernel
theorem dX2_toldName_13 : decode cX2_toldName 13 = .ok (.iconst (-1), 1) := by decide +kernel
theorem dX2_toldName_14 : decode cX2_toldName 14 = .ok (.if_icmp .eq 9, 3) := by decide +kernel
theorem dX2_toldName_17 : decode cX2_toldName 17 = .ok (.iload 4, 2) := by decide +kernel
theorem dX2_toldName_19 : decode cX2_toldName 19 = .ok (.iload_n 3, 1) := by decide +kernel
theorem dX2_toldName_20 : decode cX2_toldName 20 = .ok (.if_icmp .ne 11, 3) := by decide +kernel
theorem dX2_toldName_23 : decode cX2_toldName 23 = .ok (.aload_n 0, 1) := by decide +kernel
theorem dX2_toldName_24 : decode cX2_toldName 24 = .ok (.aload_n 0, 1) := by decide +kernel
theorem dX2_toldName_25 : decode cX2_toldName 25 = .ok (.getfield 81, 3) := by decide +kernel
theorem dX2_toldName_28 : decode cX2_toldName 28 = .ok (.invokevirtual 67, 3) := by decide +kernel
theorem dX2_toldName_31 : decode cX2_toldName 31 = .ok (.iload 4, 2) := by decide +kernel
theorem dX2_toldName_33 : decode cX2_toldName 33 = .ok (.ireturn, 1) := by decide +kernel
set_option maxHeartbeats 4000000 in
set_option maxRecDepth 100000 in
theorem B_X2_toldName_0 {d : Nat} {ro : Nat → Nat} {J : JT} {Z : Option Value → Hp → Prop} (g : xCtx RX2 cX2_toldName 5 d 0 0 yX2_toldName.name ro J) (hr : xRet cX2_toldName (some .int) 0 0 Z J) {μ : Hp} {a0 : Nat} {a1 : Nat} {x2 : Int32} {x3 : Int32} (hs_a0 : hS μ a0 = some (10, 5))
    (h : xCall d yX6_nextWord cX6_nextWord 3 (some .long) [.ref a0] μ ro (fun r1 μ2 => ∃ y3 : Int64, r1 = some (.long y3) ∧ xCall d yX2_numberOf cX2_numberOf 5 (some .int) [.long y3, .ref a1, .int x2] μ2 ro (fun r4 μ5 => ∃ y6 : Int32, r4 = some (.int y6) ∧ ((y6 = (-1) → hS μ5 a0 = some (10, 5) ∧ xCall d yX6_fail cX6_fail 2 none [.ref a0, .int (hI μ5 a0 2)] μ5 ro (fun r8 μ9 => r8 = none ∧ Z (some (.int y6)) μ9)) ∧ (¬ y6 = (-1) → ((¬ y6 = x3 → Z (some (.int y6)) μ5) ∧ (y6 = x3 → hS μ5 a0 = some (10, 5) ∧ xCall d yX6_fail cX6_fail 2 none [.ref a0, .int (hI μ5 a0 2)] μ5 ro (fun r11 μ12 => r11 = none ∧ Z (some (.int y6)) μ12)))))))) :
    J μ 0 0 0 [(0, .ref a0), (1, .ref a1), (2, .int x2), (3, .int x3)] [] := by
  refine r_aload_n g dX2_toldName_0 rfl ?_
  obtain ⟨d1, Z1, hc1, hd1, h1⟩ := h
  refine r_callV (st := []) (As := []) g sX2_71 iX6_nextWord eX6_nextWord rfl hs_a0 rfl (Nat.le_of_ble_eq_true rfl) dX2_toldName_1 hd1 (Nat.le_refl 0) (Nat.le_refl 0) hc1 (fun r1 μ2 hZ1 => ?_)
  replace h := h1 _ _ hZ1
  clear h1 hc1 hd1 hZ1 Z1 d1
  obtain ⟨y3, rfl, h⟩ := h
  refine r_aload_n g dX2_toldName_4 rfl ?_
  refine r_iload_n g dX2_toldName_5 rfl ?_
  obtain ⟨d1, Z1, hc1, hd1, h1⟩ := h
  refine r_callS (st := []) (As := [.long y3, .ref a1, .int x2]) g sX2_139 iX2_numberOf rfl (Nat.le_of_ble_eq_true rfl) dX2_toldName_6 hd1 (Nat.le_refl 0) (Nat.le_refl 0) hc1 (fun r4 μ5 hZ1 => ?_)
  replace h := h1 _ _ hZ1
  clear h1 hc1 hd1 hZ1 Z1 d1
  obtain ⟨y6, rfl, h⟩ := h
  refine r_istore g [(4, .int y6), (0, .ref a0), (1, .ref a1), (2, .int x2), (3, .int x3)] dX2_toldName_9 (by decide) rfl ?_
  refine r_iload g dX2_toldName_11 rfl ?_
  refine r_iconst g (-1) dX2_toldName_13 (by decide) ?_
  refine r_icmp_eq g 23 dX2_toldName_14 (by decide) (fun c7 => ?_) (fun c7 => ?_)
  · replace h := h.1 c7
    refine r_aload_n g dX2_toldName_23 rfl ?_
    refine r_aload_n g dX2_toldName_24 rfl ?_
    obtain ⟨hs_a0_, h⟩ := h
    refine r_getI g fX2_81 rfl hs_a0_ dX2_toldName_25 ?_
    obtain ⟨d1, Z1, hc1, hd1, h1⟩ := h
    refine r_callV (st := []) (As := [.int (hI μ5 a0 2)]) g sX2_67 iX6_fail eX6_fail rfl hs_a0_ rfl (Nat.le_of_ble_eq_true rfl) dX2_toldName_28 hd1 (Nat.le_refl 0) (Nat.le_refl 0) hc1 (fun r8 μ9 hZ1 => ?_)
    replace h := h1 _ _ hZ1
    clear h1 hc1 hd1 hZ1 Z1 d1
    obtain ⟨rfl, h⟩ := h
    refine r_iload g dX2_toldName_31 rfl ?_
    exact hr.2.1 _ rfl _ _ _ _ _ _ dX2_toldName_33 rfl (Nat.le_refl 0) (Nat.le_refl 0) h
  · replace h := h.2 c7
    refine r_iload g dX2_toldName_17 rfl ?_
    refine r_iload_n g dX2_toldName_19 rfl ?_
    refine r_icmp_ne g 31 dX2_toldName_20 (by decide) (fun c10 => ?_) (fun c10 => ?_)
    · replace h := h.1 c10
      refine r_iload g dX2_toldName_31 rfl ?_
      exact hr.2.1 _ rfl _ _ _ _ _ _ dX2_toldName_33 rfl (Nat.le_refl 0) (Nat.le_refl 0) h
    · replace h := h.2 c10
      refine r_aload_n g dX2_toldName_23 rfl ?_
      refine r_aload_n g dX2_toldName_24 rfl ?_
      obtain ⟨hs_a0__, h⟩ := h
      refine r_getI g fX2_81 rfl hs_a0__ dX2_toldName_25 ?_
      obtain ⟨d1, Z1, hc1, hd1, h1⟩ := h
      refine r_callV (st := []) (As := [.int (hI μ5 a0 2)]) g sX2_67 iX6_fail eX6_fail rfl hs_a0__ rfl (Nat.le_of_ble_eq_true rfl) dX2_toldName_28 hd1 (Nat.le_refl 0) (Nat.le_refl 0) hc1 (fun r11 μ12 hZ1 => ?_)
      replace h := h1 _ _ hZ1
      clear h1 hc1 hd1 hZ1 Z1 d1
      obtain ⟨rfl, h⟩ := h
      refine r_iload g dX2_toldName_31 rfl ?_
      exact hr.2.1 _ rfl _ _ _ _ _ _ dX2_toldName_33 rfl (Nat.le_refl 0) (Nat.le_refl 0) h
theorem I_X2_toldName {d : Nat} {ro : Nat → Nat} {Z : Option Value → Hp → Prop} {μ : Hp} {a0 : Nat} {a1 : Nat} {x2 : Int32} {x3 : Int32} (h : ∀ J, xCtx RX2 cX2_toldName 5 d 0 0 yX2_toldName.name ro J → xRet cX2_toldName (some .int) 0 0 Z J → J μ 0 0 0 [(0, .ref a0), (1, .ref a1), (2, .int x2), (3, .int x3)] []) : xC d yX2_toldName cX2_toldName 5 (some .int) 0 0 [.ref a0, .ref a1, .int x2, .int x3] μ ro Z :=
  xC_intro (own := RX2) (lv := [(0, .ref a0), (1, .ref a1), (2, .int x2), (3, .int x3)]) (by decide) rfl (Nat.le_of_ble_eq_true rfl) rfl (fun J g hr => r_sub g (lv' := [(0, .ref a0), (1, .ref a1), (2, .int x2), (3, .int x3)]) (⟨rfl, rfl, rfl, rfl, trivial⟩) (h J g hr))
theorem dX2_numberOf_0 : decode cX2_numberOf 0 = .ok (.iconst 0, 1) := by decide +kernel
theorem dX2_numberOf_1 : decode cX2_numberOf 1 = .ok (.istore 4, 2) := by decide +kernel
theorem dX2_numberOf_3 : decode cX2_numberOf 3 = .ok (.iload 4, 2) := by decide +kernel
theorem dX2_numberOf_5 : decode cX2_numberOf 5 = .ok (.iload_n 3, 1) := by decide +kernel
theorem dX2_numberOf_6 : decode cX2_numberOf 6 = .ok (.if_icmp .ge 21, 3) := by decide +kernel
theorem dX2_numberOf_9 : decode cX2_numberOf 9 = .ok (.aload_n 2, 1) := by decide +kernel
theorem dX2_numberOf_10 : decode cX2_numberOf 10 = .ok (.iload 4, 2) := by decide +kernel
theorem dX2_numberOf_12 : decode cX2_numberOf 12 = .ok (.laload, 1) := by decide +kernel
theorem dX2_numberOf_13 : decode cX2_numberOf 13 = .ok (.lload_n 0, 1) := by decide +kernel
theorem dX2_numberOf_14 : decode cX2_numberOf 14 = .ok (.lcmp, 1) := by decide +kernel
theorem dX2_numberOf_15 : decode cX2_numberOf 15 = .ok (.ifCond .ne 6, 3) := by decide +kernel
theorem dX2_numberOf_18 : decode cX2_numberOf 18 = .ok (.iload 4, 2) := by decide +kernel
theorem dX2_numberOf_20 : decode cX2_numberOf 20 = .ok (.ireturn, 1) := by decide +kernel
theorem dX2_numberOf_21 : decode cX2_numberOf 21 = .ok (.iinc 4 1, 3) := by decide +kernel
theorem dX2_numberOf_24 : decode cX2_numberOf 24 = .ok (.goto (-21), 3) := by decide +kernel
theorem dX2_numberOf_27 : decode cX2_numberOf 27 = .ok (.iconst (-1), 1) := by decide +kernel
theorem dX2_numberOf_28 : decode cX2_numberOf 28 = .ok (.ireturn, 1) := by decide +kernel
set_option maxHeartbeats 4000000 in
set_option maxRecDepth 100000 in
theorem B_X2_numberOf_0 {d : Nat} {ro : Nat → Nat} {J : JT} {Z : Option Value → Hp → Prop} (g : xCtx RX2 cX2_numberOf 5 d 0 0 yX2_numberOf.name ro J) (hr : xRet cX2_numberOf (some .int) 0 0 Z J) {μ : Hp} {x0 : Int64} {a2 : Nat} {x3 : Int32} 
    (h : J μ 0 0 3 [(0, .long x0), (2, .ref a2), (3, .int x3), (4, .int 0)] []) :
    J μ 0 0 0 [(0, .long x0), (2, .ref a2), (3, .int x3)] [] := by
  refine r_iconst g 0 dX2_numberOf_0 (by decide) ?_
  refine r_istore g [(4, .int 0), (0, .long x0), (2, .ref a2), (3, .int x3)] dX2_numberOf_1 (by decide) rfl ?_
  refine r_sub g (lv' := [(0, .long x0), (2, .ref a2), (3, .int x3), (4, .int 0)]) (⟨rfl, rfl, rfl, rfl, trivial⟩) ?_
  exact h
set_option maxHeartbeats 4000000 in
set_option maxRecDepth 100000 in
theorem B_X2_numberOf_3 {d : Nat} {ro : Nat → Nat} {J : JT} {Z : Option Value → Hp → Prop} (g : xCtx RX2 cX2_numberOf 5 d 0 0 yX2_numberOf.name ro J) (hr : xRet cX2_numberOf (some .int) 0 0 Z J) {μ : Hp} {x0 : Int64} {a2 : Nat} {x3 : Int32} {x4 : Int32} {N_a2 : Nat} (hs_a2 : hS μ a2 = some (2, N_a2))
    (h : ((x3 ≤ x4 → Z (some (.int (-1))) μ) ∧ (¬ x3 ≤ x4 → vp_in x4 N_a2 ∧ ((¬ (lg_cmp (hL μ a2 x4.toNatClampNeg) x0) = 0 → J μ 0 0 3 [(0, .long x0), (2, .ref a2), (3, .int x3), (4, .int (x4 + 1))] []) ∧ ((lg_cmp (hL μ a2 x4.toNatClampNeg) x0) = 0 → Z (some (.int x4)) μ))))) :
    J μ 0 0 3 [(0, .long x0), (2, .ref a2), (3, .int x3), (4, .int x4)] [] := by
  refine r_iload g dX2_numberOf_3 rfl ?_
  refine r_iload_n g dX2_numberOf_5 rfl ?_
  refine r_icmp_ge g 27 dX2_numberOf_6 (by decide) (fun c1 => ?_) (fun c1 => ?_)
  · replace h := h.1 c1
    refine r_iconst g (-1) dX2_numberOf_27 (by decide) ?_
    exact hr.2.1 _ rfl _ _ _ _ _ _ dX2_numberOf_28 rfl (Nat.le_refl 0) (Nat.le_refl 0) h
  · replace h := h.2 c1
    refine r_aload_n g dX2_numberOf_9 rfl ?_
    refine r_iload g dX2_numberOf_10 rfl ?_
    obtain ⟨hi2, h⟩ := h
    refine r_laload g hs_a2 hi2 dX2_numberOf_12 ?_
    refine r_lload_n g dX2_numberOf_13 rfl ?_
    refine r_lcmp g dX2_numberOf_14 ?_
    refine r_if_ne g 21 dX2_numberOf_15 (by decide) (fun c3 => ?_) (fun c3 => ?_)
    · replace h := h.1 c3
      refine r_iinc g (x4 + 1) [(4, .int (x4 + 1)), (0, .long x0), (2, .ref a2), (3, .int x3)] dX2_numberOf_21 rfl rfl (by decide) rfl ?_
      refine r_goto g 3 dX2_numberOf_24 (by decide) ?_
      refine r_sub g (lv' := [(0, .long x0), (2, .ref a2), (3, .int x3), (4, .int (x4 + 1))]) (⟨rfl, rfl, rfl, rfl, trivial⟩) ?_
      exact h
    · replace h := h.2 c3
      refine r_iload g dX2_numberOf_18 rfl ?_
      exact hr.2.1 _ rfl _ _ _ _ _ _ dX2_numberOf_20 rfl (Nat.le_refl 0) (Nat.le_refl 0) h
theorem I_X2_numberOf {d : Nat} {ro : Nat → Nat} {Z : Option Value → Hp → Prop} {μ : Hp} {x0 : Int64} {a2 : Nat} {x3 : Int32} (h : ∀ J, xCtx RX2 cX2_numberOf 5 d 0 0 yX2_numberOf.name ro J → xRet cX2_numberOf (some .int) 0 0 Z J → J μ 0 0 0 [(0, .long x0), (2, .ref a2), (3, .int x3)] []) : xC d yX2_numberOf cX2_numberOf 5 (some .int) 0 0 [.long x0, .ref a2, .int x3] μ ro Z :=
  xC_intro (own := RX2) (lv := [(0, .long x0), (2, .ref a2), (3, .int x3)]) (by decide) rfl (Nat.le_of_ble_eq_true rfl) rfl (fun J g hr => r_sub g (lv' := [(0, .long x0), (2, .ref a2), (3, .int x3)]) (⟨rfl, rfl, rfl, trivial⟩) (h J g hr))
