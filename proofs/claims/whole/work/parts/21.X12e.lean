theorem dX12_all_0 : decode cX12_all 0 = .ok (.aload_n 0, 1) := by decide +kernel
theorem dX12_all_1 : decode cX12_all 1 = .ok (.iconst 0, 1) := by decide +kernel
theorem dX12_all_2 : decode cX12_all 2 = .ok (.putfield 106, 3) := by decide +kernel
theorem dX12_all_5 : decode cX12_all 5 = .ok (.aload_n 0, 1) := by decide +kernel
theorem dX12_all_6 : decode cX12_all 6 = .ok (.getfield 245, 3) := by decide +kernel
theorem dX12_all_9 : decode cX12_all 9 = .ok (.ifCond .ne 7, 3) := by decide +kernel
theorem dX12_all_12 : decode cX12_all 12 = .ok (.ldc_w 448, 3) := by decide +kernel
theorem dX12_all_15 : decode cX12_all 15 = .ok (.ireturn, 1) := by decide +kernel
theorem dX12_all_16 : decode cX12_all 16 = .ok (.iload_n 1, 1) := by decide +kernel
theorem dX12_all_17 : decode cX12_all 17 = .ok (.tableswitch 119 0 8 #[51, 59, 65, 73, 80, 88, 93, 104, 114], 51) := by decide +kernel
theorem dX12_all_68 : decode cX12_all 68 = .ok (.aload_n 0, 1) := by decide +kernel
theorem dX12_all_69 : decode cX12_all 69 = .ok (.getfield 57, 3) := by decide +kernel
theorem dX12_all_72 : decode cX12_all 72 = .ok (.bipush 30, 2) := by decide +kernel
theorem dX12_all_74 : decode cX12_all 74 = .ok (.iaload, 1) := by decide +kernel
theorem dX12_all_75 : decode cX12_all 75 = .ok (.ireturn, 1) := by decide +kernel
theorem dX12_all_76 : decode cX12_all 76 = .ok (.aload_n 0, 1) := by decide +kernel
theorem dX12_all_77 : decode cX12_all 77 = .ok (.iconst 0, 1) := by decide +kernel
theorem dX12_all_78 : decode cX12_all 78 = .ok (.invokevirtual 505, 3) := by decide +kernel
theorem dX12_all_81 : decode cX12_all 81 = .ok (.ireturn, 1) := by decide +kernel
theorem dX12_all_82 : decode cX12_all 82 = .ok (.aload_n 0, 1) := by decide +kernel
theorem dX12_all_83 : decode cX12_all 83 = .ok (.getfield 57, 3) := by decide +kernel
theorem dX12_all_86 : decode cX12_all 86 = .ok (.invokestatic 501, 3) := by decide +kernel
theorem dX12_all_89 : decode cX12_all 89 = .ok (.ireturn, 1) := by decide +kernel
theorem dX12_all_90 : decode cX12_all 90 = .ok (.aload_n 0, 1) := by decide +kernel
theorem dX12_all_91 : decode cX12_all 91 = .ok (.bipush 16, 2) := by decide +kernel
theorem dX12_all_93 : decode cX12_all 93 = .ok (.invokevirtual 505, 3) := by decide +kernel
theorem dX12_all_96 : decode cX12_all 96 = .ok (.ireturn, 1) := by decide +kernel
theorem dX12_all_97 : decode cX12_all 97 = .ok (.aload_n 0, 1) := by decide +kernel
theorem dX12_all_98 : decode cX12_all 98 = .ok (.getfield 57, 3) := by decide +kernel
theorem dX12_all_101 : decode cX12_all 101 = .ok (.bipush 31, 2) := by decide +kernel
theorem dX12_all_103 : decode cX12_all 103 = .ok (.iaload, 1) := by decide +kernel
theorem dX12_all_104 : decode cX12_all 104 = .ok (.ireturn, 1) := by decide +kernel
theorem dX12_all_105 : decode cX12_all 105 = .ok (.aload_n 0, 1) := by decide +kernel
theorem dX12_all_106 : decode cX12_all 106 = .ok (.invokevirtual 508, 3) := by decide +kernel
theorem dX12_all_109 : decode cX12_all 109 = .ok (.ireturn, 1) := by decide +kernel
theorem dX12_all_110 : decode cX12_all 110 = .ok (.aload_n 0, 1) := by decide +kernel
theorem dX12_all_111 : decode cX12_all 111 = .ok (.bipush 8, 2) := by decide +kernel
theorem dX12_all_113 : decode cX12_all 113 = .ok (.aload_n 0, 1) := by decide +kernel
theorem dX12_all_114 : decode cX12_all 114 = .ok (.getfield 245, 3) := by decide +kernel
theorem dX12_all_117 : decode cX12_all 117 = .ok (.invokevirtual 511, 3) := by decide +kernel
theorem dX12_all_120 : decode cX12_all 120 = .ok (.ireturn, 1) := by decide +kernel
theorem dX12_all_121 : decode cX12_all 121 = .ok (.aload_n 0, 1) := by decide +kernel
theorem dX12_all_122 : decode cX12_all 122 = .ok (.iconst 0, 1) := by decide +kernel
theorem dX12_all_123 : decode cX12_all 123 = .ok (.aload_n 0, 1) := by decide +kernel
theorem dX12_all_124 : decode cX12_all 124 = .ok (.getfield 245, 3) := by decide +kernel
theorem dX12_all_127 : decode cX12_all 127 = .ok (.invokevirtual 511, 3) := by decide +kernel
theorem dX12_all_130 : decode cX12_all 130 = .ok (.ireturn, 1) := by decide +kernel
theorem dX12_all_131 : decode cX12_all 131 = .ok (.aload_n 0, 1) := by decide +kernel
theorem dX12_all_132 : decode cX12_all 132 = .ok (.invokevirtual 513, 3) := by decide +kernel
theorem dX12_all_135 : decode cX12_all 135 = .ok (.ireturn, 1) := by decide +kernel
theorem dX12_all_136 : decode cX12_all 136 = .ok (.ldc_w 448, 3) := by decide +kernel
theorem dX12_all_139 : decode cX12_all 139 = .ok (.ireturn, 1) := by decide +kernel
set_option maxHeartbeats 4000000 in
set_option maxRecDepth 100000 in
theorem B_X12_all_0 {d : Nat} {ro : Nat → Nat} {J : JT} {Z : Option Value → Hp → Prop} (g : xCtx RX12 cX12_all 2 d 0 0 yX12_all.name ro J) (hr : xRet cX12_all (some .int) 0 0 Z J) {μ : Hp} {a0 : Nat} {x1 : Int32} {a0_now : Nat} {N_a0_now : Nat} (hs_a0 : hS μ a0 = some (15, 65)) (hr_a0_now : hR μ a0 30 = some a0_now) (hs_a0_now : hS μ a0_now = some (0, N_a0_now))
    (h : ((¬ (hI (wI μ a0 0 0) a0 22) = 0 → (((x1).toInt < 0 ∨ 8 < (x1).toInt → Z (some (.int (-1000000))) (wI μ a0 0 0)) ∧ (x1 = 0 → vp_in 30 N_a0_now ∧ Z (some (.int (hI (wI μ a0 0 0) a0_now 30))) (wI μ a0 0 0)) ∧ (x1 = 1 → xCall d yX12_sumOf cX12_sumOf 4 (some .int) [.ref a0, .int 0] (wI μ a0 0 0) ro (fun r4 μ5 => ∃ y6 : Int32, r4 = some (.int y6) ∧ Z (some (.int y6)) μ5)) ∧ (x1 = 2 → xCall d yX12_takenOf cX12_takenOf 3 (some .int) [.ref a0_now] (wI μ a0 0 0) ro (fun r7 μ8 => ∃ y9 : Int32, r7 = some (.int y9) ∧ Z (some (.int y9)) μ8)) ∧ (x1 = 3 → xCall d yX12_sumOf cX12_sumOf 4 (some .int) [.ref a0, .int 16] (wI μ a0 0 0) ro (fun r10 μ11 => ∃ y12 : Int32, r10 = some (.int y12) ∧ Z (some (.int y12)) μ11)) ∧ (x1 = 4 → vp_in 31 N_a0_now ∧ Z (some (.int (hI (wI μ a0 0 0) a0_now 31))) (wI μ a0 0 0)) ∧ (x1 = 5 → xCall d yX12_inForce cX12_inForce 4 (some .int) [.ref a0] (wI μ a0 0 0) ro (fun r14 μ15 => ∃ y16 : Int32, r14 = some (.int y16) ∧ Z (some (.int y16)) μ15)) ∧ (x1 = 6 → xCall d yX12_mostOf_ cX12_mostOf_ 5 (some .int) [.ref a0, .int 8, .int (hI (wI μ a0 0 0) a0 22)] (wI μ a0 0 0) ro (fun r17 μ18 => ∃ y19 : Int32, r17 = some (.int y19) ∧ Z (some (.int y19)) μ18)) ∧ (x1 = 7 → xCall d yX12_mostOf_ cX12_mostOf_ 5 (some .int) [.ref a0, .int 0, .int (hI (wI μ a0 0 0) a0 22)] (wI μ a0 0 0) ro (fun r20 μ21 => ∃ y22 : Int32, r20 = some (.int y22) ∧ Z (some (.int y22)) μ21)) ∧ (x1 = 8 → xCall d yX12_later cX12_later 3 (some .int) [.ref a0] (wI μ a0 0 0) ro (fun r23 μ24 => ∃ y25 : Int32, r23 = some (.int y25) ∧ Z (some (.int y25)) μ24)))) ∧ ((hI (wI μ a0 0 0) a0 22) = 0 → Z (some (.int (-1000000))) (wI μ a0 0 0)))) :
    J μ 0 0 0 [(0, .ref a0), (1, .int x1)] [] := by
  refine r_aload_n g dX12_all_0 rfl ?_
  refine r_iconst g 0 dX12_all_1 (by decide) ?_
  refine r_putI g fX12_106 rfl hs_a0 rfl rfl dX12_all_2 ?_
  refine r_aload_n g dX12_all_5 rfl ?_
  refine r_getI g fX12_245 rfl hs_a0 dX12_all_6 ?_
  refine r_if_ne g 16 dX12_all_9 (by decide) (fun c1 => ?_) (fun c1 => ?_)
  · replace h := h.1 c1
    refine r_iload_n g dX12_all_16 rfl ?_
    rcases sw_cases (x := x1) 0 8 (by decide) (by decide) with c2 | ⟨z, hz1, hz2, c2⟩
    · refine r_tableOut g 136 dX12_all_17 c2 (by decide) ?_
      replace h := h.1 c2
      refine r_ldcw g (-1000000) kX12_448 dX12_all_136 ?_
      exact hr.2.1 _ rfl _ _ _ _ _ _ dX12_all_139 rfl (Nat.le_refl 0) (Nat.le_refl 0) h
    · have hz : z = 0 ∨ z = 1 ∨ z = 2 ∨ z = 3 ∨ z = 4 ∨ z = 5 ∨ z = 6 ∨ z = 7 ∨ z = 8 := by omega
      rcases hz with rfl | rfl | rfl | rfl | rfl | rfl | rfl | rfl | rfl
      · refine r_tableIn g 68 dX12_all_17 (by rw [c2]; decide) (by rw [c2]; decide) (off := 51) (by rw [c2]; decide) (by decide) ?_
        replace h := h.2.1 c2
        refine r_aload_n g dX12_all_68 rfl ?_
        refine r_getR g fX12_57 rfl hs_a0 hr_a0_now dX12_all_69 ?_
        refine r_bipush g 30 dX12_all_72 (by decide) ?_
        obtain ⟨hi3, h⟩ := h
        refine r_iaload g hs_a0_now hi3 dX12_all_74 ?_
        exact hr.2.1 _ rfl _ _ _ _ _ _ dX12_all_75 rfl (Nat.le_refl 0) (Nat.le_refl 0) h
      · refine r_tableIn g 76 dX12_all_17 (by rw [c2]; decide) (by rw [c2]; decide) (off := 59) (by rw [c2]; decide) (by decide) ?_
        replace h := h.2.2.1 c2
        refine r_aload_n g dX12_all_76 rfl ?_
        refine r_iconst g 0 dX12_all_77 (by decide) ?_
        obtain ⟨d1, Z1, hc1, hd1, h1⟩ := h
        refine r_callV (st := []) (As := [.int 0]) g sX12_505 iX12_sumOf eX12_sumOf rfl hs_a0 rfl (Nat.le_of_ble_eq_true rfl) dX12_all_78 hd1 (Nat.le_refl 0) (Nat.le_refl 0) hc1 (fun r4 μ5 hZ1 => ?_)
        replace h := h1 _ _ hZ1
        clear h1 hc1 hd1 hZ1 Z1 d1
        obtain ⟨y6, rfl, h⟩ := h
        exact hr.2.1 _ rfl _ _ _ _ _ _ dX12_all_81 rfl (Nat.le_refl 0) (Nat.le_refl 0) h
      · refine r_tableIn g 82 dX12_all_17 (by rw [c2]; decide) (by rw [c2]; decide) (off := 65) (by rw [c2]; decide) (by decide) ?_
        replace h := h.2.2.2.1 c2
        refine r_aload_n g dX12_all_82 rfl ?_
        refine r_getR g fX12_57 rfl hs_a0 hr_a0_now dX12_all_83 ?_
        obtain ⟨d1, Z1, hc1, hd1, h1⟩ := h
        refine r_callS (st := []) (As := [.ref a0_now]) g sX12_501 iX12_takenOf rfl (Nat.le_of_ble_eq_true rfl) dX12_all_86 hd1 (Nat.le_refl 0) (Nat.le_refl 0) hc1 (fun r7 μ8 hZ1 => ?_)
        replace h := h1 _ _ hZ1
        clear h1 hc1 hd1 hZ1 Z1 d1
        obtain ⟨y9, rfl, h⟩ := h
        exact hr.2.1 _ rfl _ _ _ _ _ _ dX12_all_89 rfl (Nat.le_refl 0) (Nat.le_refl 0) h
      · refine r_tableIn g 90 dX12_all_17 (by rw [c2]; decide) (by rw [c2]; decide) (off := 73) (by rw [c2]; decide) (by decide) ?_
        replace h := h.2.2.2.2.1 c2
        refine r_aload_n g dX12_all_90 rfl ?_
        refine r_bipush g 16 dX12_all_91 (by decide) ?_
        obtain ⟨d1, Z1, hc1, hd1, h1⟩ := h
        refine r_callV (st := []) (As := [.int 16]) g sX12_505 iX12_sumOf eX12_sumOf rfl hs_a0 rfl (Nat.le_of_ble_eq_true rfl) dX12_all_93 hd1 (Nat.le_refl 0) (Nat.le_refl 0) hc1 (fun r10 μ11 hZ1 => ?_)
        replace h := h1 _ _ hZ1
        clear h1 hc1 hd1 hZ1 Z1 d1
        obtain ⟨y12, rfl, h⟩ := h
        exact hr.2.1 _ rfl _ _ _ _ _ _ dX12_all_96 rfl (Nat.le_refl 0) (Nat.le_refl 0) h
      · refine r_tableIn g 97 dX12_all_17 (by rw [c2]; decide) (by rw [c2]; decide) (off := 80) (by rw [c2]; decide) (by decide) ?_
        replace h := h.2.2.2.2.2.1 c2
        refine r_aload_n g dX12_all_97 rfl ?_
        refine r_getR g fX12_57 rfl hs_a0 hr_a0_now dX12_all_98 ?_
        refine r_bipush g 31 dX12_all_101 (by decide) ?_
        obtain ⟨hi13, h⟩ := h
        refine r_iaload g hs_a0_now hi13 dX12_all_103 ?_
        exact hr.2.1 _ rfl _ _ _ _ _ _ dX12_all_104 rfl (Nat.le_refl 0) (Nat.le_refl 0) h
      · refine r_tableIn g 105 dX12_all_17 (by rw [c2]; decide) (by rw [c2]; decide) (off := 88) (by rw [c2]; decide) (by decide) ?_
        replace h := h.2.2.2.2.2.2.1 c2
        refine r_aload_n g dX12_all_105 rfl ?_
        obtain ⟨d1, Z1, hc1, hd1, h1⟩ := h
        refine r_callV (st := []) (As := []) g sX12_508 iX12_inForce eX12_inForce rfl hs_a0 rfl (Nat.le_of_ble_eq_true rfl) dX12_all_106 hd1 (Nat.le_refl 0) (Nat.le_refl 0) hc1 (fun r14 μ15 hZ1 => ?_)
        replace h := h1 _ _ hZ1
        clear h1 hc1 hd1 hZ1 Z1 d1
        obtain ⟨y16, rfl, h⟩ := h
        exact hr.2.1 _ rfl _ _ _ _ _ _ dX12_all_109 rfl (Nat.le_refl 0) (Nat.le_refl 0) h
      · refine r_tableIn g 110 dX12_all_17 (by rw [c2]; decide) (by rw [c2]; decide) (off := 93) (by rw [c2]; decide) (by decide) ?_
        replace h := h.2.2.2.2.2.2.2.1 c2
        refine r_aload_n g dX12_all_110 rfl ?_
        refine r_bipush g 8 dX12_all_111 (by decide) ?_
        refine r_aload_n g dX12_all_113 rfl ?_
        refine r_getI g fX12_245 rfl hs_a0 dX12_all_114 ?_
        obtain ⟨d1, Z1, hc1, hd1, h1⟩ := h
        refine r_callV (st := []) (As := [.int 8, .int (hI (wI μ a0 0 0) a0 22)]) g sX12_511 iX12_mostOf_ eX12_mostOf_ rfl hs_a0 rfl (Nat.le_of_ble_eq_true rfl) dX12_all_117 hd1 (Nat.le_refl 0) (Nat.le_refl 0) hc1 (fun r17 μ18 hZ1 => ?_)
        replace h := h1 _ _ hZ1
        clear h1 hc1 hd1 hZ1 Z1 d1
        obtain ⟨y19, rfl, h⟩ := h
        exact hr.2.1 _ rfl _ _ _ _ _ _ dX12_all_120 rfl (Nat.le_refl 0) (Nat.le_refl 0) h
      · refine r_tableIn g 121 dX12_all_17 (by rw [c2]; decide) (by rw [c2]; decide) (off := 104) (by rw [c2]; decide) (by decide) ?_
        replace h := h.2.2.2.2.2.2.2.2.1 c2
        refine r_aload_n g dX12_all_121 rfl ?_
        refine r_iconst g 0 dX12_all_122 (by decide) ?_
        refine r_aload_n g dX12_all_123 rfl ?_
        refine r_getI g fX12_245 rfl hs_a0 dX12_all_124 ?_
        obtain ⟨d1, Z1, hc1, hd1, h1⟩ := h
        refine r_callV (st := []) (As := [.int 0, .int (hI (wI μ a0 0 0) a0 22)]) g sX12_511 iX12_mostOf_ eX12_mostOf_ rfl hs_a0 rfl (Nat.le_of_ble_eq_true rfl) dX12_all_127 hd1 (Nat.le_refl 0) (Nat.le_refl 0) hc1 (fun r20 μ21 hZ1 => ?_)
        replace h := h1 _ _ hZ1
        clear h1 hc1 hd1 hZ1 Z1 d1
        obtain ⟨y22, rfl, h⟩ := h
        exact hr.2.1 _ rfl _ _ _ _ _ _ dX12_all_130 rfl (Nat.le_refl 0) (Nat.le_refl 0) h
      · refine r_tableIn g 131 dX12_all_17 (by rw [c2]; decide) (by rw [c2]; decide) (off := 114) (by rw [c2]; decide) (by decide) ?_
        replace h := h.2.2.2.2.2.2.2.2.2 c2
        refine r_aload_n g dX12_all_131 rfl ?_
        obtain ⟨d1, Z1, hc1, hd1, h1⟩ := h
        refine r_callV (st := []) (As := []) g sX12_513 iX12_later eX12_later rfl hs_a0 rfl (Nat.le_of_ble_eq_true rfl) dX12_all_132 hd1 (Nat.le_refl 0) (Nat.le_refl 0) hc1 (fun r23 μ24 hZ1 => ?_)
        replace h := h1 _ _ hZ1
        clear h1 hc1 hd1 hZ1 Z1 d1
        obtain ⟨y25, rfl, h⟩ := h
        exact hr.2.1 _ rfl _ _ _ _ _ _ dX12_all_135 rfl (Nat.le_refl 0) (Nat.le_refl 0) h
  · replace h := h.2 c1
    refine r_ldcw g (-1000000) kX12_448 dX12_all_12 ?_
    exact hr.2.1 _ rfl _ _ _ _ _ _ dX12_all_15 rfl (Nat.le_refl 0) (Nat.le_refl 0) h
theorem I_X12_all {d : Nat} {ro : Nat → Nat} {Z : Option Value → Hp → Prop} {μ : Hp} {a0 : Nat} {x1 : Int32} (h : ∀ J, xCtx RX12 cX12_all 2 d 0 0 yX12_all.name ro J → xRet cX12_all (some .int) 0 0 Z J → J μ 0 0 0 [(0, .ref a0), (1, .int x1)] []) : xC d yX12_all cX12_all 2 (some .int) 0 0 [.ref a0, .int x1] μ ro Z :=
  xC_intro (own := RX12) (lv := [(0, .ref a0), (1, .int x1)]) (by decide) rfl (Nat.le_of_ble_eq_true rfl) rfl (fun J g hr => r_sub g (lv' := [(0, .ref a0), (1, .int x1)]) (⟨rfl, rfl, trivial⟩) (h J g hr))
theorem dX12_count_0 : decode cX12_count 0 = .ok (.aload_n 0, 1) := by decide +kernel
theorem dX12_count_1 : decode cX12_count 1 = .ok (.iconst 0, 1) := by decide +kernel
theorem dX12_count_2 : decode cX12_count 2 = .ok (.putfield 106, 3) := by decide +kernel
theorem dX12_count_5 : decode cX12_count 5 = .ok (.iload_n 1, 1) := by decide +kernel
theorem dX12_count_6 : decode cX12_count 6 = .ok (.tableswitch 83 0 6 #[42, 47, 52, 57, 65, 70, 75], 42) := by decide +kernel
theorem dX12_count_48 : decode cX12_count 48 = .ok (.aload_n 0, 1) := by decide +kernel
theorem dX12_count_49 : decode cX12_count 49 = .ok (.getfield 245, 3) := by decide +kernel
theorem dX12_count_52 : decode cX12_count 52 = .ok (.ireturn, 1) := by decide +kernel
theorem dX12_count_53 : decode cX12_count 53 = .ok (.aload_n 0, 1) := by decide +kernel
theorem dX12_count_54 : decode cX12_count 54 = .ok (.getfield 258, 3) := by decide +kernel
theorem dX12_count_57 : decode cX12_count 57 = .ok (.ireturn, 1) := by decide +kernel
theorem dX12_count_58 : decode cX12_count 58 = .ok (.aload_n 0, 1) := by decide +kernel
theorem dX12_count_59 : decode cX12_count 59 = .ok (.getfield 109, 3) := by decide +kernel
theorem dX12_count_62 : decode cX12_count 62 = .ok (.ireturn, 1) := by decide +kernel
theorem dX12_count_63 : decode cX12_count 63 = .ok (.aload_n 0, 1) := by decide +kernel
theorem dX12_count_64 : decode cX12_count 64 = .ok (.getfield 57, 3) := by decide +kernel
theorem dX12_count_67 : decode cX12_count 67 = .ok (.bipush 112, 2) := by decide +kernel
theorem dX12_count_69 : decode cX12_count 69 = .ok (.iaload, 1) := by decide +kernel
theorem dX12_count_70 : decode cX12_count 70 = .ok (.ireturn, 1) := by decide +kernel
theorem dX12_count_71 : decode cX12_count 71 = .ok (.aload_n 0, 1) := by decide +kernel
theorem dX12_count_72 : decode cX12_count 72 = .ok (.getfield 251, 3) := by decide +kernel
theorem dX12_count_75 : decode cX12_count 75 = .ok (.ireturn, 1) := by decide +kernel
theorem dX12_count_76 : decode cX12_count 76 = .ok (.aload_n 0, 1) := by decide +kernel
theorem dX12_count_77 : decode cX12_count 77 = .ok (.getfield 242, 3) := by decide +kernel
theorem dX12_count_80 : decode cX12_count 80 = .ok (.ireturn, 1) := by decide +kernel
theorem dX12_count_81 : decode cX12_count 81 = .ok (.aload_n 0, 1) := by decide +kernel
theorem dX12_count_82 : decode cX12_count 82 = .ok (.getfield 57, 3) := by decide +kernel
theorem dX12_count_85 : decode cX12_count 85 = .ok (.bipush 31, 2) := by decide +kernel
theorem dX12_count_87 : decode cX12_count 87 = .ok (.iaload, 1) := by decide +kernel
theorem dX12_count_88 : decode cX12_count 88 = .ok (.ireturn, 1) := by decide +kernel
theorem dX12_count_89 : decode cX12_count 89 = .ok (.ldc_w 448, 3) := by decide +kernel
theorem dX12_count_92 : decode cX12_count 92 = .ok (.ireturn, 1) := by decide +kernel
set_option maxHeartbeats 4000000 in
set_option maxRecDepth 100000 in
theorem B_X12_count_0 {d : Nat} {ro : Nat → Nat} {J : JT} {Z : Option Value → Hp → Prop} (g : xCtx RX12 cX12_count 2 d 0 0 yX12_count.name ro J) (hr : xRet cX12_count (some .int) 0 0 Z J) {μ : Hp} {a0 : Nat} {x1 : Int32} {a0_now : Nat} {N_a0_now : Nat} (hs_a0 : hS μ a0 = some (15, 65)) (hr_a0_now : hR μ a0 30 = some a0_now) (hs_a0_now : hS μ a0_now = some (0, N_a0_now))
    (h : (((x1).toInt < 0 ∨ 6 < (x1).toInt → Z (some (.int (-1000000))) (wI μ a0 0 0)) ∧ (x1 = 0 → Z (some (.int (hI (wI μ a0 0 0) a0 22))) (wI μ a0 0 0)) ∧ (x1 = 1 → Z (some (.int (hI (wI μ a0 0 0) a0 27))) (wI μ a0 0 0)) ∧ (x1 = 2 → Z (some (.int (hI (wI μ a0 0 0) a0 2))) (wI μ a0 0 0)) ∧ (x1 = 3 → vp_in 112 N_a0_now ∧ Z (some (.int (hI (wI μ a0 0 0) a0_now 112))) (wI μ a0 0 0)) ∧ (x1 = 4 → Z (some (.int (hI (wI μ a0 0 0) a0 35))) (wI μ a0 0 0)) ∧ (x1 = 5 → Z (some (.int (hI (wI μ a0 0 0) a0 20))) (wI μ a0 0 0)) ∧ (x1 = 6 → vp_in 31 N_a0_now ∧ Z (some (.int (hI (wI μ a0 0 0) a0_now 31))) (wI μ a0 0 0)))) :
    J μ 0 0 0 [(0, .ref a0), (1, .int x1)] [] := by
  refine r_aload_n g dX12_count_0 rfl ?_
  refine r_iconst g 0 dX12_count_1 (by decide) ?_
  refine r_putI g fX12_106 rfl hs_a0 rfl rfl dX12_count_2 ?_
  refine r_iload_n g dX12_count_5 rfl ?_
  rcases sw_cases (x := x1) 0 6 (by decide) (by decide) with c1 | ⟨z, hz1, hz2, c1⟩
  · refine r_tableOut g 89 dX12_count_6 c1 (by decide) ?_
    replace h := h.1 c1
    refine r_ldcw g (-1000000) kX12_448 dX12_count_89 ?_
    exact hr.2.1 _ rfl _ _ _ _ _ _ dX12_count_92 rfl (Nat.le_refl 0) (Nat.le_refl 0) h
  · have hz : z = 0 ∨ z = 1 ∨ z = 2 ∨ z = 3 ∨ z = 4 ∨ z = 5 ∨ z = 6 := by omega
    rcases hz with rfl | rfl | rfl | rfl | rfl | rfl | rfl
    · refine r_tableIn g 48 dX12_count_6 (by rw [c1]; decide) (by rw [c1]; decide) (off := 42) (by rw [c1]; decide) (by decide) ?_
      replace h := h.2.1 c1
      refine r_aload_n g dX12_count_48 rfl ?_
      refine r_getI g fX12_245 rfl hs_a0 dX12_count_49 ?_
      exact hr.2.1 _ rfl _ _ _ _ _ _ dX12_count_52 rfl (Nat.le_refl 0) (Nat.le_refl 0) h
    · refine r_tableIn g 53 dX12_count_6 (by rw [c1]; decide) (by rw [c1]; decide) (off := 47) (by rw [c1]; decide) (by decide) ?_
      replace h := h.2.2.1 c1
      refine r_aload_n g dX12_count_53 rfl ?_
      refine r_getI g fX12_258 rfl hs_a0 dX12_count_54 ?_
      exact hr.2.1 _ rfl _ _ _ _ _ _ dX12_count_57 rfl (Nat.le_refl 0) (Nat.le_refl 0) h
    · refine r_tableIn g 58 dX12_count_6 (by rw [c1]; decide) (by rw [c1]; decide) (off := 52) (by rw [c1]; decide) (by decide) ?_
      replace h := h.2.2.2.1 c1
      refine r_aload_n g dX12_count_58 rfl ?_
      refine r_getI g fX12_109 rfl hs_a0 dX12_count_59 ?_
      exact hr.2.1 _ rfl _ _ _ _ _ _ dX12_count_62 rfl (Nat.le_refl 0) (Nat.le_refl 0) h
    · refine r_tableIn g 63 dX12_count_6 (by rw [c1]; decide) (by rw [c1]; decide) (off := 57) (by rw [c1]; decide) (by decide) ?_
      replace h := h.2.2.2.2.1 c1
      refine r_aload_n g dX12_count_63 rfl ?_
      refine r_getR g fX12_57 rfl hs_a0 hr_a0_now dX12_count_64 ?_
      refine r_bipush g 112 dX12_count_67 (by decide) ?_
      obtain ⟨hi2, h⟩ := h
      refine r_iaload g hs_a0_now hi2 dX12_count_69 ?_
      exact hr.2.1 _ rfl _ _ _ _ _ _ dX12_count_70 rfl (Nat.le_refl 0) (Nat.le_refl 0) h
    · refine r_tableIn g 71 dX12_count_6 (by rw [c1]; decide) (by rw [c1]; decide) (off := 65) (by rw [c1]; decide) (by decide) ?_
      replace h := h.2.2.2.2.2.1 c1
      refine r_aload_n g dX12_count_71 rfl ?_
      refine r_getI g fX12_251 rfl hs_a0 dX12_count_72 ?_
      exact hr.2.1 _ rfl _ _ _ _ _ _ dX12_count_75 rfl (Nat.le_refl 0) (Nat.le_refl 0) h
    · refine r_tableIn g 76 dX12_count_6 (by rw [c1]; decide) (by rw [c1]; decide) (off := 70) (by rw [c1]; decide) (by decide) ?_
      replace h := h.2.2.2.2.2.2.1 c1
      refine r_aload_n g dX12_count_76 rfl ?_
      refine r_getI g fX12_242 rfl hs_a0 dX12_count_77 ?_
      exact hr.2.1 _ rfl _ _ _ _ _ _ dX12_count_80 rfl (Nat.le_refl 0) (Nat.le_refl 0) h
    · refine r_tableIn g 81 dX12_count_6 (by rw [c1]; decide) (by rw [c1]; decide) (off := 75) (by rw [c1]; decide) (by decide) ?_
      replace h := h.2.2.2.2.2.2.2 c1
      refine r_aload_n g dX12_count_81 rfl ?_
      refine r_getR g fX12_57 rfl hs_a0 hr_a0_now dX12_count_82 ?_
      refine r_bipush g 31 dX12_count_85 (by decide) ?_
      obtain ⟨hi3, h⟩ := h
      refine r_iaload g hs_a0_now hi3 dX12_count_87 ?_
      exact hr.2.1 _ rfl _ _ _ _ _ _ dX12_count_88 rfl (Nat.le_refl 0) (Nat.le_refl 0) h
theorem I_X12_count {d : Nat} {ro : Nat → Nat} {Z : Option Value → Hp → Prop} {μ : Hp} {a0 : Nat} {x1 : Int32} (h : ∀ J, xCtx RX12 cX12_count 2 d 0 0 yX12_count.name ro J → xRet cX12_count (some .int) 0 0 Z J → J μ 0 0 0 [(0, .ref a0), (1, .int x1)] []) : xC d yX12_count cX12_count 2 (some .int) 0 0 [.ref a0, .int x1] μ ro Z :=
  xC_intro (own := RX12) (lv := [(0, .ref a0), (1, .int x1)]) (by decide) rfl (Nat.le_of_ble_eq_true rfl) rfl (fun J g hr => r_sub g (lv' := [(0, .ref a0), (1, .int x1)]) (⟨rfl, rfl, trivial⟩) (h J g hr))
