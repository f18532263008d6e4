theorem dX10_withCode_0 : decode cX10_withCode 0 = .ok (.getstatic 88, 3) := by decide +kernel
theorem dX10_withCode_3 : decode cX10_withCode 3 = .ok (.astore_n 2, 1) := by decide +kernel
theorem dX10_withCode_4 : decode cX10_withCode 4 = .ok (.aload_n 2, 1) := by decide +kernel
theorem dX10_withCode_5 : decode cX10_withCode 5 = .ok (.arraylength, 1) := by decide +kernel
theorem dX10_withCode_6 : decode cX10_withCode 6 = .ok (.istore_n 3, 1) := by decide +kernel
theorem dX10_withCode_7 : decode cX10_withCode 7 = .ok (.iconst 0, 1) := by decide +kernel
theorem dX10_withCode_8 : decode cX10_withCode 8 = .ok (.istore 4, 2) := by decide +kernel
theorem dX10_withCode_10 : decode cX10_withCode 10 = .ok (.iload 4, 2) := by decide +kernel
theorem dX10_withCode_12 : decode cX10_withCode 12 = .ok (.iload_n 3, 1) := by decide +kernel
theorem dX10_withCode_13 : decode cX10_withCode 13 = .ok (.if_icmp .ge 28, 3) := by decide +kernel
theorem dX10_withCode_16 : decode cX10_withCode 16 = .ok (.aload_n 2, 1) := by decide +kernel
theorem dX10_withCode_17 : decode cX10_withCode 17 = .ok (.iload 4, 2) := by decide +kernel
theorem dX10_withCode_19 : decode cX10_withCode 19 = .ok (.aaload, 1) := by decide +kernel
theorem dX10_withCode_20 : decode cX10_withCode 20 = .ok (.astore 5, 2) := by decide +kernel
theorem dX10_withCode_22 : decode cX10_withCode 22 = .ok (.aload 5, 2) := by decide +kernel
theorem dX10_withCode_24 : decode cX10_withCode 24 = .ok (.getfield 77, 3) := by decide +kernel
theorem dX10_withCode_27 : decode cX10_withCode 27 = .ok (.lload_n 0, 1) := by decide +kernel
theorem dX10_withCode_28 : decode cX10_withCode 28 = .ok (.lcmp, 1) := by decide +kernel
theorem dX10_withCode_29 : decode cX10_withCode 29 = .ok (.ifCond .ne 6, 3) := by decide +kernel
theorem dX10_withCode_32 : decode cX10_withCode 32 = .ok (.aload 5, 2) := by decide +kernel
theorem dX10_withCode_34 : decode cX10_withCode 34 = .ok (.areturn, 1) := by decide +kernel
theorem dX10_withCode_35 : decode cX10_withCode 35 = .ok (.iinc 4 1, 3) := by decide +kernel
theorem dX10_withCode_38 : decode cX10_withCode 38 = .ok (.goto (-28), 3) := by decide +kernel
theorem dX10_withCode_41 : decode cX10_withCode 41 = .ok (.aconst_null, 1) := by decide +kernel
theorem dX10_withCode_42 : decode cX10_withCode 42 = .ok (.areturn, 1) := by decide +kernel
set_option maxHeartbeats 4000000 in
set_option maxRecDepth 100000 in
theorem B_X10_withCode_0 {d : Nat} {ro : Nat → Nat} {J : JT} {Z : Option Value → Hp → Prop} (g : xCtx RX10 cX10_withCode 6 d 0 0 yX10_withCode.name ro J) (hr : xRet cX10_withCode (some (.object "TreatyRouter$Word")) 0 0 Z J) {μ : Hp} {x0 : Int64} 
    (h : J μ 0 0 10 [(0, .long x0), (2, .ref (ro 0)), (3, .int 12), (4, .int 0)] []) :
    J μ 0 0 0 [(0, .long x0)] [] := by
  refine r_getsWords g rfl dX10_withCode_0 ?_
  refine r_astore_n g [(2, .ref (ro 0)), (0, .long x0)] dX10_withCode_3 (by decide) rfl ?_
  refine r_aload_n g dX10_withCode_4 rfl ?_
  refine r_tabLen g (List.mem_of_getElem? (i := 2) rfl) dX10_withCode_5 ?_
  refine r_istore_n g [(3, .int 12), (2, .ref (ro 0)), (0, .long x0)] dX10_withCode_6 (by decide) rfl ?_
  refine r_iconst g 0 dX10_withCode_7 (by decide) ?_
  refine r_istore g [(4, .int 0), (3, .int 12), (2, .ref (ro 0)), (0, .long x0)] dX10_withCode_8 (by decide) rfl ?_
  refine r_sub g (lv' := [(0, .long x0), (2, .ref (ro 0)), (3, .int 12), (4, .int 0)]) (⟨rfl, rfl, rfl, rfl, trivial⟩) ?_
  exact h
set_option maxHeartbeats 4000000 in
set_option maxRecDepth 100000 in
theorem B_X10_withCode_10 {d : Nat} {ro : Nat → Nat} {J : JT} {Z : Option Value → Hp → Prop} (g : xCtx RX10 cX10_withCode 6 d 0 0 yX10_withCode.name ro J) (hr : xRet cX10_withCode (some (.object "TreatyRouter$Word")) 0 0 Z J) {μ : Hp} {x0 : Int64} {x3 : Int32} {x4 : Int32} 
    (h : ((x3 ≤ x4 → Z (some .null) μ) ∧ (¬ x3 ≤ x4 → vp_in x4 12 ∧ (∀ w3 : Nat, w3 = x4.toNatClampNeg → w3 < 12 → ((¬ (lg_cmp (roCode.getD w3 0) x0) = 0 → J μ 0 0 10 [(0, .long x0), (2, .ref (ro 0)), (3, .int x3), (4, .int (x4 + 1))] []) ∧ ((lg_cmp (roCode.getD w3 0) x0) = 0 → Z (some (.ref (ro (10 + w3)))) μ)))))) :
    J μ 0 0 10 [(0, .long x0), (2, .ref (ro 0)), (3, .int x3), (4, .int x4)] [] := by
  refine r_iload g dX10_withCode_10 rfl ?_
  refine r_iload_n g dX10_withCode_12 rfl ?_
  refine r_icmp_ge g 41 dX10_withCode_13 (by decide) (fun c1 => ?_) (fun c1 => ?_)
  · replace h := h.1 c1
    refine r_null g dX10_withCode_41 ?_
    exact hr.2.2.2 _ rfl (Or.inl ⟨_, rfl⟩) _ _ _ _ _ _ dX10_withCode_42 (Or.inl rfl) (Nat.le_refl 0) (Nat.le_refl 0) h
  · replace h := h.2 c1
    refine r_aload_n g dX10_withCode_16 rfl ?_
    refine r_iload g dX10_withCode_17 rfl ?_
    obtain ⟨hi2, h⟩ := h
    refine r_tabR g (List.mem_of_getElem? (i := 2) rfl) hi2 dX10_withCode_19 ?_
    obtain ⟨w3, ew3⟩ : ∃ z : Nat, z = x4.toNatClampNeg := ⟨_, rfl⟩
    have lw3 : w3 < 12 := by rw [ew3]; exact vp_lt hi2
    replace h := h w3 ew3 lw3
    refine r_nmV (.ref (ro (10 + w3))) (by rw [ew3]) ?_
    refine r_astore g [(5, .ref (ro (10 + w3))), (0, .long x0), (2, .ref (ro 0)), (3, .int x3), (4, .int x4)] dX10_withCode_20 (by decide) rfl ?_
    refine r_aload g dX10_withCode_22 rfl ?_
    refine r_fldRO g (roF_code lw3) zX10_77 dX10_withCode_24 ?_
    refine r_lload_n g dX10_withCode_27 rfl ?_
    refine r_lcmp g dX10_withCode_28 ?_
    refine r_if_ne g 35 dX10_withCode_29 (by decide) (fun c4 => ?_) (fun c4 => ?_)
    · replace h := h.1 c4
      refine r_iinc g (x4 + 1) [(4, .int (x4 + 1)), (5, .ref (ro (10 + w3))), (0, .long x0), (2, .ref (ro 0)), (3, .int x3)] dX10_withCode_35 rfl rfl (by decide) rfl ?_
      refine r_goto g 10 dX10_withCode_38 (by decide) ?_
      refine r_sub g (lv' := [(0, .long x0), (2, .ref (ro 0)), (3, .int x3), (4, .int (x4 + 1))]) (⟨rfl, rfl, rfl, rfl, trivial⟩) ?_
      exact h
    · replace h := h.2 c4
      refine r_aload g dX10_withCode_32 rfl ?_
      exact hr.2.2.2 _ rfl (Or.inl ⟨_, rfl⟩) _ _ _ _ _ _ dX10_withCode_34 (Or.inr ⟨_, rfl⟩) (Nat.le_refl 0) (Nat.le_refl 0) h
theorem I_X10_withCode {d : Nat} {ro : Nat → Nat} {Z : Option Value → Hp → Prop} {μ : Hp} {x0 : Int64} (h : ∀ J, xCtx RX10 cX10_withCode 6 d 0 0 yX10_withCode.name ro J → xRet cX10_withCode (some (.object "TreatyRouter$Word")) 0 0 Z J → J μ 0 0 0 [(0, .long x0)] []) : xC d yX10_withCode cX10_withCode 6 (some (.object "TreatyRouter$Word")) 0 0 [.long x0] μ ro Z :=
  xC_intro (own := RX10) (lv := [(0, .long x0)]) (by decide) rfl (Nat.le_of_ble_eq_true rfl) rfl (fun J g hr => r_sub g (lv' := [(0, .long x0)]) (⟨rfl, trivial⟩) (h J g hr))
theorem dX2_readLine_0 : decode cX2_readLine 0 = .ok (.aload_n 1, 1) := by decide +kernel
theorem dX2_readLine_1 : decode cX2_readLine 1 = .ok (.invokevirtual 71, 3) := by decide +kernel
theorem dX2_readLine_4 : decode cX2_readLine 4 = .ok (.invokestatic 75, 3) := by decide +kernel
theorem dX2_readLine_7 : decode cX2_readLine 7 = .ok (.astore_n 3, 1) := by decide +kernel
theorem dX2_readLine_8 : decode cX2_readLine 8 = .ok (.aload_n 3, 1) := by decide +kernel
theorem dX2_readLine_9 : decode cX2_readLine 9 = .ok (.ifnonnull 12, 3) := by decide +kernel
theorem dX2_readLine_12 : decode cX2_readLine 12 = .ok (.aload_n 1, 1) := by decide +kernel
theorem dX2_readLine_13 : decode cX2_readLine 13 = .ok (.aload_n 1, 1) := by decide +kernel
theorem dX2_readLine_14 : decode cX2_readLine 14 = .ok (.getfield 81, 3) := by decide +kernel
theorem dX2_readLine_17 : decode cX2_readLine 17 = .ok (.invokevirtual 67, 3) := by decide +kernel
theorem dX2_readLine_20 : decode cX2_readLine 20 = .ok (.return_, 1) := by decide +kernel
theorem dX2_readLine_21 : decode cX2_readLine 21 = .ok (.getstatic 84, 3) := by decide +kernel
theorem dX2_readLine_24 : decode cX2_readLine 24 = .ok (.aload_n 3, 1) := by decide +kernel
theorem dX2_readLine_25 : decode cX2_readLine 25 = .ok (.invokevirtual 89, 3) := by decide +kernel
theorem dX2_readLine_28 : decode cX2_readLine 28 = .ok (.iaload, 1) := by decide +kernel
theorem dX2_readLine_29 : decode cX2_readLine 29 = .ok (.tableswitch 110 1 7 #[43, 51, 60, 70, 80, 91, 101], 43) := by decide +kernel
theorem dX2_readLine_72 : decode cX2_readLine 72 = .ok (.aload_n 0, 1) := by decide +kernel
theorem dX2_readLine_73 : decode cX2_readLine 73 = .ok (.aload_n 1, 1) := by decide +kernel
theorem dX2_readLine_74 : decode cX2_readLine 74 = .ok (.invokevirtual 93, 3) := by decide +kernel
theorem dX2_readLine_77 : decode cX2_readLine 77 = .ok (.goto 70, 3) := by decide +kernel
theorem dX2_readLine_80 : decode cX2_readLine 80 = .ok (.aload_n 0, 1) := by decide +kernel
theorem dX2_readLine_81 : decode cX2_readLine 81 = .ok (.aload_n 1, 1) := by decide +kernel
theorem dX2_readLine_82 : decode cX2_readLine 82 = .ok (.aload_n 2, 1) := by decide +kernel
theorem dX2_readLine_83 : decode cX2_readLine 83 = .ok (.invokevirtual 97, 3) := by decide +kernel
theorem dX2_readLine_86 : decode cX2_readLine 86 = .ok (.goto 61, 3) := by decide +kernel
theorem dX2_readLine_89 : decode cX2_readLine 89 = .ok (.aload_n 0, 1) := by decide +kernel
theorem dX2_readLine_90 : decode cX2_readLine 90 = .ok (.aload_n 1, 1) := by decide +kernel
theorem dX2_readLine_91 : decode cX2_readLine 91 = .ok (.aload_n 2, 1) := by decide +kernel
theorem dX2_readLine_92 : decode cX2_readLine 92 = .ok (.iconst 0, 1) := by decide +kernel
theorem dX2_readLine_93 : decode cX2_readLine 93 = .ok (.invokevirtual 100, 3) := by decide +kernel
theorem dX2_readLine_96 : decode cX2_readLine 96 = .ok (.goto 51, 3) := by decide +kernel
theorem dX2_readLine_99 : decode cX2_readLine 99 = .ok (.aload_n 0, 1) := by decide +kernel
theorem dX2_readLine_100 : decode cX2_readLine 100 = .ok (.aload_n 1, 1) := by decide +kernel
theorem dX2_readLine_101 : decode cX2_readLine 101 = .ok (.aload_n 2, 1) := by decide +kernel
theorem dX2_readLine_102 : decode cX2_readLine 102 = .ok (.iconst 1, 1) := by decide +kernel
theorem dX2_readLine_103 : decode cX2_readLine 103 = .ok (.invokevirtual 100, 3) := by decide +kernel
theorem dX2_readLine_106 : decode cX2_readLine 106 = .ok (.goto 41, 3) := by decide +kernel
theorem dX2_readLine_109 : decode cX2_readLine 109 = .ok (.aload_n 0, 1) := by decide +kernel
theorem dX2_readLine_110 : decode cX2_readLine 110 = .ok (.aload_n 1, 1) := by decide +kernel
theorem dX2_readLine_111 : decode cX2_readLine 111 = .ok (.bipush 8, 2) := by decide +kernel
theorem dX2_readLine_113 : decode cX2_readLine 113 = .ok (.iconst 0, 1) := by decide +kernel
theorem dX2_readLine_114 : decode cX2_readLine 114 = .ok (.invokevirtual 104, 3) := by decide +kernel
theorem dX2_readLine_117 : decode cX2_readLine 117 = .ok (.goto 30, 3) := by decide +kernel
theorem dX2_readLine_120 : decode cX2_readLine 120 = .ok (.aload_n 0, 1) := by decide +kernel
theorem dX2_readLine_121 : decode cX2_readLine 121 = .ok (.aload_n 1, 1) := by decide +kernel
theorem dX2_readLine_122 : decode cX2_readLine 122 = .ok (.iconst 1, 1) := by decide +kernel
theorem dX2_readLine_123 : decode cX2_readLine 123 = .ok (.iconst 1, 1) := by decide +kernel
theorem dX2_readLine_124 : decode cX2_readLine 124 = .ok (.invokevirtual 104, 3) := by decide +kernel
theorem dX2_readLine_127 : decode cX2_readLine 127 = .ok (.goto 20, 3) := by decide +kernel
theorem dX2_readLine_130 : decode cX2_readLine 130 = .ok (.aload_n 0, 1) := by decide +kernel
theorem dX2_readLine_131 : decode cX2_readLine 131 = .ok (.aload_n 1, 1) := by decide +kernel
theorem dX2_readLine_132 : decode cX2_readLine 132 = .ok (.aload_n 2, 1) := by decide +kernel
theorem dX2_readLine_133 : decode cX2_readLine 133 = .ok (.invokevirtual 108, 3) := by decide +kernel
theorem dX2_readLine_136 : decode cX2_readLine 136 = .ok (.goto 11, 3) := by decide +kernel
theorem dX2_readLine_139 : decode cX2_readLine 139 = .ok (.aload_n 1, 1) := by decide +kernel
theorem dX2_readLine_140 : decode cX2_readLine 140 = .ok (.aload_n 1, 1) := by decide +kernel
theorem dX2_readLine_141 : decode cX2_readLine 141 = .ok (.getfield 81, 3) := by decide +kernel
theorem dX2_readLine_144 : decode cX2_readLine 144 = .ok (.invokevirtual 67, 3) := by decide +kernel
theorem dX2_readLine_147 : decode cX2_readLine 147 = .ok (.return_, 1) := by decide +kernel
set_option maxHeartbeats 4000000 in
set_option maxRecDepth 100000 in
theorem B_X2_readLine_0 {d : Nat} {ro : Nat → Nat} {J : JT} {Z : Option Value → Hp → Prop} (g : xCtx RX2 cX2_readLine 4 d 0 0 yX2_readLine.name ro J) (hr : xRet cX2_readLine none 0 0 Z J) {μ : Hp} {a0 : Nat} {a1 : Nat} {a2 : Nat} (hs_a1 : hS μ a1 = some (10, 5))
    (h : xCall d yX6_nextWord cX6_nextWord 3 (some .long) [.ref a1] μ ro (fun r1 μ2 => ∃ y3 : Int64, r1 = some (.long y3) ∧ xCall d yX10_withCode cX10_withCode 6 (some (.object "TreatyRouter$Word")) [.long y3] μ2 ro (fun r4 μ5 => ∃ w7 : Option Nat, r4 = some (wV ro w7) ∧ ((w7 = none → hS μ5 a1 = some (10, 5) ∧ xCall d yX6_fail cX6_fail 2 none [.ref a1, .int (hI μ5 a1 2)] μ5 ro (fun r9 μ10 => r9 = none ∧ Z none μ10)) ∧ (∀ i8 : Nat, w7 = some i8 → i8 < 12 ∧ xCall d yJx29ce0_ordinal_8abf5 cJx29ce0_ordinal_8abf5 1 (some .int) [.ref (ro (10 + i8))] μ5 ro (fun r11 μ12 => ∃ y13 : Int32, r11 = some (.int y13) ∧ vp_in y13 12 ∧ (∀ v15 : Int32, v15 = (([1, 2, 3, 4, 5, 6, 7, 0, 0, 0, 0, 0] : List Int32).getD y13.toNatClampNeg 0) → (((v15).toInt < 1 ∨ 7 < (v15).toInt → hS μ12 a1 = some (10, 5) ∧ xCall d yX6_fail cX6_fail 2 none [.ref a1, .int (hI μ12 a1 2)] μ12 ro (fun r17 μ18 => r17 = none ∧ Z none μ18)) ∧ (v15 = 1 → hS μ12 a0 = some (6, 9) ∧ xCall d yX2_readLand cX2_readLand 3 none [.ref a0, .ref a1] μ12 ro (fun r19 μ20 => r19 = none ∧ Z none μ20)) ∧ (v15 = 2 → hS μ12 a0 = some (6, 9) ∧ xCall d yX2_readFirm cX2_readFirm 3 none [.ref a0, .ref a1, .ref a2] μ12 ro (fun r21 μ22 => r21 = none ∧ Z none μ22)) ∧ (v15 = 3 → hS μ12 a0 = some (6, 9) ∧ xCall d yX2_readLink cX2_readLink 8 none [.ref a0, .ref a1, .ref a2, .int 0] μ12 ro (fun r23 μ24 => r23 = none ∧ Z none μ24)) ∧ (v15 = 4 → hS μ12 a0 = some (6, 9) ∧ xCall d yX2_readLink cX2_readLink 8 none [.ref a0, .ref a1, .ref a2, .int 1] μ12 ro (fun r25 μ26 => r25 = none ∧ Z none μ26)) ∧ (v15 = 5 → hS μ12 a0 = some (6, 9) ∧ xCall d yX2_readTreaty cX2_readTreaty 6 none [.ref a0, .ref a1, .int 8, .int 0] μ12 ro (fun r27 μ28 => r27 = none ∧ Z none μ28)) ∧ (v15 = 6 → hS μ12 a0 = some (6, 9) ∧ xCall d yX2_readTreaty cX2_readTreaty 6 none [.ref a0, .ref a1, .int 1, .int 1] μ12 ro (fun r29 μ30 => r29 = none ∧ Z none μ30)) ∧ (v15 = 7 → hS μ12 a0 = some (6, 9) ∧ xCall d yX2_readYear cX2_readYear 3 none [.ref a0, .ref a1, .ref a2] μ12 ro (fun r31 μ32 => r31 = none ∧ Z none μ32)))))))))) :
    J μ 0 0 0 [(0, .ref a0), (1, .ref a1), (2, .ref a2)] [] := by
  refine r_aload_n g dX2_readLine_0 rfl ?_
  obtain ⟨d1, Z1, hc1, hd1, h1⟩ := h
  refine r_callV (st := []) (As := []) g sX2_71 iX6_nextWord eX6_nextWord rfl hs_a1 rfl (Nat.le_of_ble_eq_true rfl) dX2_readLine_1 hd1 (Nat.le_refl 0) (Nat.le_refl 0) hc1 (fun r1 μ2 hZ1 => ?_)
  replace h := h1 _ _ hZ1
  clear h1 hc1 hd1 hZ1 Z1 d1
  obtain ⟨y3, rfl, h⟩ := h
  obtain ⟨d1, Z1, hc1, hd1, h1⟩ := h
  refine r_callS (st := []) (As := [.long y3]) g sX2_75 iX10_withCode rfl (Nat.le_of_ble_eq_true rfl) dX2_readLine_4 hd1 (Nat.le_refl 0) (Nat.le_refl 0) hc1 (fun r4 μ5 hZ1 => ?_)
  replace h := h1 _ _ hZ1
  clear h1 hc1 hd1 hZ1 Z1 d1
  obtain ⟨w7, rfl, h⟩ := h
  rcases w7 with _ | i8
  · replace h := h.1 rfl
    refine r_astore_nN g [(3, .null), (0, .ref a0), (1, .ref a1), (2, .ref a2)] dX2_readLine_7 (by decide) rfl ?_
    refine r_aload_nN g dX2_readLine_8 rfl ?_
    refine r_ifnonnullN g dX2_readLine_9 ?_
    refine r_aload_n g dX2_readLine_12 rfl ?_
    refine r_aload_n g dX2_readLine_13 rfl ?_
    obtain ⟨hs_a1_, h⟩ := h
    refine r_getI g fX2_81 rfl hs_a1_ dX2_readLine_14 ?_
    obtain ⟨d1, Z1, hc1, hd1, h1⟩ := h
    refine r_callV (st := []) (As := [.int (hI μ5 a1 2)]) g sX2_67 iX6_fail eX6_fail rfl hs_a1_ rfl (Nat.le_of_ble_eq_true rfl) dX2_readLine_17 hd1 (Nat.le_refl 0) (Nat.le_refl 0) hc1 (fun r9 μ10 hZ1 => ?_)
    replace h := h1 _ _ hZ1
    clear h1 hc1 hd1 hZ1 Z1 d1
    obtain ⟨rfl, h⟩ := h
    exact hr.1 rfl _ _ _ _ _ dX2_readLine_20 (Nat.le_refl 0) (Nat.le_refl 0) h
  · obtain ⟨li8, h⟩ := h.2 i8 rfl
    refine r_astore_n g [(3, .ref (ro (10 + i8))), (0, .ref a0), (1, .ref a1), (2, .ref a2)] dX2_readLine_7 (by decide) rfl ?_
    refine r_aload_n g dX2_readLine_8 rfl ?_
    refine r_ifnonnull g 21 dX2_readLine_9 (by decide) ?_
    refine r_getsRO g (List.mem_of_getElem? (i := 1) rfl) zX2_84 dX2_readLine_21 ?_
    refine r_aload_n g dX2_readLine_24 rfl ?_
    obtain ⟨d1, Z1, hc1, hd1, h1⟩ := h
    refine r_callUR (st := [.ref (ro 1)]) (As := []) g uX2_89 (roO_w li8) rfl (Nat.le_of_ble_eq_true rfl) dX2_readLine_25 hd1 (Nat.le_refl 0) (Nat.le_refl 0) hc1 (fun r11 μ12 hZ1 => ?_)
    replace h := h1 _ _ hZ1
    clear h1 hc1 hd1 hZ1 Z1 d1
    obtain ⟨y13, rfl, h⟩ := h
    obtain ⟨hi14, h⟩ := h
    refine r_tabI g (List.mem_of_getElem? (i := 1) rfl) hi14 dX2_readLine_28 ?_
    refine r_nmI (fun v15 ev15 => ?_)
    replace h := h v15 ev15
    rcases sw_cases (x := v15) 1 7 (by decide) (by decide) with c16 | ⟨z, hz1, hz2, c16⟩
    · refine r_tableOut g 139 dX2_readLine_29 c16 (by decide) ?_
      replace h := h.1 c16
      refine r_aload_n g dX2_readLine_139 rfl ?_
      refine r_aload_n g dX2_readLine_140 rfl ?_
      obtain ⟨hs_a1__, h⟩ := h
      refine r_getI g fX2_81 rfl hs_a1__ dX2_readLine_141 ?_
      obtain ⟨d1, Z1, hc1, hd1, h1⟩ := h
      refine r_callV (st := []) (As := [.int (hI μ12 a1 2)]) g sX2_67 iX6_fail eX6_fail rfl hs_a1__ rfl (Nat.le_of_ble_eq_true rfl) dX2_readLine_144 hd1 (Nat.le_refl 0) (Nat.le_refl 0) hc1 (fun r17 μ18 hZ1 => ?_)
      replace h := h1 _ _ hZ1
      clear h1 hc1 hd1 hZ1 Z1 d1
      obtain ⟨rfl, h⟩ := h
      exact hr.1 rfl _ _ _ _ _ dX2_readLine_147 (Nat.le_refl 0) (Nat.le_refl 0) h
    · have hz : z = 1 ∨ z = 2 ∨ z = 3 ∨ z = 4 ∨ z = 5 ∨ z = 6 ∨ z = 7 := by omega
      rcases hz with rfl | rfl | rfl | rfl | rfl | rfl | rfl
      · refine r_tableIn g 72 dX2_readLine_29 (by rw [c16]; decide) (by rw [c16]; decide) (off := 43) (by rw [c16]; decide) (by decide) ?_
        replace h := h.2.1 c16
        refine r_aload_n g dX2_readLine_72 rfl ?_
        refine r_aload_n g dX2_readLine_73 rfl ?_
        obtain ⟨hs_a0, h⟩ := h
        obtain ⟨d1, Z1, hc1, hd1, h1⟩ := h
        refine r_callV (st := []) (As := [.ref a1]) g sX2_93 iX2_readLand eX2_readLand rfl hs_a0 rfl (Nat.le_of_ble_eq_true rfl) dX2_readLine_74 hd1 (Nat.le_refl 0) (Nat.le_refl 0) hc1 (fun r19 μ20 hZ1 => ?_)
        replace h := h1 _ _ hZ1
        clear h1 hc1 hd1 hZ1 Z1 d1
        obtain ⟨rfl, h⟩ := h
        refine r_goto g 147 dX2_readLine_77 (by decide) ?_
        exact hr.1 rfl _ _ _ _ _ dX2_readLine_147 (Nat.le_refl 0) (Nat.le_refl 0) h
      · refine r_tableIn g 80 dX2_readLine_29 (by rw [c16]; decide) (by rw [c16]; decide) (off := 51) (by rw [c16]; decide) (by decide) ?_
        replace h := h.2.2.1 c16
        refine r_aload_n g dX2_readLine_80 rfl ?_
        refine r_aload_n g dX2_readLine_81 rfl ?_
        refine r_aload_n g dX2_readLine_82 rfl ?_
        obtain ⟨hs_a0_, h⟩ := h
        obtain ⟨d1, Z1, hc1, hd1, h1⟩ := h
        refine r_callV (st := []) (As := [.ref a1, .ref a2]) g sX2_97 iX2_readFirm eX2_readFirm rfl hs_a0_ rfl (Nat.le_of_ble_eq_true rfl) dX2_readLine_83 hd1 (Nat.le_refl 0) (Nat.le_refl 0) hc1 (fun r21 μ22 hZ1 => ?_)
        replace h := h1 _ _ hZ1
        clear h1 hc1 hd1 hZ1 Z1 d1
        obtain ⟨rfl, h⟩ := h
        refine r_goto g 147 dX2_readLine_86 (by decide) ?_
        exact hr.1 rfl _ _ _ _ _ dX2_readLine_147 (Nat.le_refl 0) (Nat.le_refl 0) h
      · refine r_tableIn g 89 dX2_readLine_29 (by rw [c16]; decide) (by rw [c16]; decide) (off := 60) (by rw [c16]; decide) (by decide) ?_
        replace h := h.2.2.2.1 c16
        refine r_aload_n g dX2_readLine_89 rfl ?_
        refine r_aload_n g dX2_readLine_90 rfl ?_
        refine r_aload_n g dX2_readLine_91 rfl ?_
        refine r_iconst g 0 dX2_readLine_92 (by decide) ?_
        obtain ⟨hs_a0__, h⟩ := h
        obtain ⟨d1, Z1, hc1, hd1, h1⟩ := h
        refine r_callV (st := []) (As := [.ref a1, .ref a2, .int 0]) g sX2_100 iX2_readLink eX2_readLink rfl hs_a0__ rfl (Nat.le_of_ble_eq_true rfl) dX2_readLine_93 hd1 (Nat.le_refl 0) (Nat.le_refl 0) hc1 (fun r23 μ24 hZ1 => ?_)
        replace h := h1 _ _ hZ1
        clear h1 hc1 hd1 hZ1 Z1 d1
        obtain ⟨rfl, h⟩ := h
        refine r_goto g 147 dX2_readLine_96 (by decide) ?_
        exact hr.1 rfl _ _ _ _ _ dX2_readLine_147 (Nat.le_refl 0) (Nat.le_refl 0) h
      · refine r_tableIn g 99 dX2_readLine_29 (by rw [c16]; decide) (by rw [c16]; decide) (off := 70) (by rw [c16]; decide) (by decide) ?_
        replace h := h.2.2.2.2.1 c16
        refine r_aload_n g dX2_readLine_99 rfl ?_
        refine r_aload_n g dX2_readLine_100 rfl ?_
        refine r_aload_n g dX2_readLine_101 rfl ?_
        refine r_iconst g 1 dX2_readLine_102 (by decide) ?_
        obtain ⟨hs_a0___, h⟩ := h
        obtain ⟨d1, Z1, hc1, hd1, h1⟩ := h
        refine r_callV (st := []) (As := [.ref a1, .ref a2, .int 1]) g sX2_100 iX2_readLink eX2_readLink rfl hs_a0___ rfl (Nat.le_of_ble_eq_true rfl) dX2_readLine_103 hd1 (Nat.le_refl 0) (Nat.le_refl 0) hc1 (fun r25 μ26 hZ1 => ?_)
        replace h := h1 _ _ hZ1
        clear h1 hc1 hd1 hZ1 Z1 d1
        obtain ⟨rfl, h⟩ := h
        refine r_goto g 147 dX2_readLine_106 (by decide) ?_
        exact hr.1 rfl _ _ _ _ _ dX2_readLine_147 (Nat.le_refl 0) (Nat.le_refl 0) h
      · refine r_tableIn g 109 dX2_readLine_29 (by rw [c16]; decide) (by rw [c16]; decide) (off := 80) (by rw [c16]; decide) (by decide) ?_
        replace h := h.2.2.2.2.2.1 c16
        refine r_aload_n g dX2_readLine_109 rfl ?_
        refine r_aload_n g dX2_readLine_110 rfl ?_
        refine r_bipush g 8 dX2_readLine_111 (by decide) ?_
        refine r_iconst g 0 dX2_readLine_113 (by decide) ?_
        obtain ⟨hs_a0____, h⟩ := h
        obtain ⟨d1, Z1, hc1, hd1, h1⟩ := h
        refine r_callV (st := []) (As := [.ref a1, .int 8, .int 0]) g sX2_104 iX2_readTreaty eX2_readTreaty rfl hs_a0____ rfl (Nat.le_of_ble_eq_true rfl) dX2_readLine_114 hd1 (Nat.le_refl 0) (Nat.le_refl 0) hc1 (fun r27 μ28 hZ1 => ?_)
        replace h := h1 _ _ hZ1
        clear h1 hc1 hd1 hZ1 Z1 d1
        obtain ⟨rfl, h⟩ := h
        refine r_goto g 147 dX2_readLine_117 (by decide) ?_
        exact hr.1 rfl _ _ _ _ _ dX2_readLine_147 (Nat.le_refl 0) (Nat.le_refl 0) h
      · refine r_tableIn g 120 dX2_readLine_29 (by rw [c16]; decide) (by rw [c16]; decide) (off := 91) (by rw [c16]; decide) (by decide) ?_
        replace h := h.2.2.2.2.2.2.1 c16
        refine r_aload_n g dX2_readLine_120 rfl ?_
        refine r_aload_n g dX2_readLine_121 rfl ?_
        refine r_iconst g 1 dX2_readLine_122 (by decide) ?_
        refine r_iconst g 1 dX2_readLine_123 (by decide) ?_
        obtain ⟨hs_a0_____, h⟩ := h
        obtain ⟨d1, Z1, hc1, hd1, h1⟩ := h
        refine r_callV (st := []) (As := [.ref a1, .int 1, .int 1]) g sX2_104 iX2_readTreaty eX2_readTreaty rfl hs_a0_____ rfl (Nat.le_of_ble_eq_true rfl) dX2_readLine_124 hd1 (Nat.le_refl 0) (Nat.le_refl 0) hc1 (fun r29 μ30 hZ1 => ?_)
        replace h := h1 _ _ hZ1
        clear h1 hc1 hd1 hZ1 Z1 d1
        obtain ⟨rfl, h⟩ := h
        refine r_goto g 147 dX2_readLine_127 (by decide) ?_
        exact hr.1 rfl _ _ _ _ _ dX2_readLine_147 (Nat.le_refl 0) (Nat.le_refl 0) h
      · refine r_tableIn g 130 dX2_readLine_29 (by rw [c16]; decide) (by rw [c16]; decide) (off := 101) (by rw [c16]; decide) (by decide) ?_
        replace h := h.2.2.2.2.2.2.2 c16
        refine r_aload_n g dX2_readLine_130 rfl ?_
        refine r_aload_n g dX2_readLine_131 rfl ?_
        refine r_aload_n g dX2_readLine_132 rfl ?_
        obtain ⟨hs_a0______, h⟩ := h
        obtain ⟨d1, Z1, hc1, hd1, h1⟩ := h
        refine r_callV (st := []) (As := [.ref a1, .ref a2]) g sX2_108 iX2_readYear eX2_readYear rfl hs_a0______ rfl (Nat.le_of_ble_eq_true rfl) dX2_readLine_133 hd1 (Nat.le_refl 0) (Nat.le_refl 0) hc1 (fun r31 μ32 hZ1 => ?_)
        replace h := h1 _ _ hZ1
        clear h1 hc1 hd1 hZ1 Z1 d1
        obtain ⟨rfl, h⟩ := h
        refine r_goto g 147 dX2_readLine_136 (by decide) ?_
        exact hr.1 rfl _ _ _ _ _ dX2_readLine_147 (Nat.le_refl 0) (Nat.le_refl 0) h
theorem I_X2_readLine {d : Nat} {ro : Nat → Nat} {Z : Option Value → Hp → Prop} {μ : Hp} {a0 : Nat} {a1 : Nat} {a2 : Nat} (h : ∀ J, xCtx RX2 cX2_readLine 4 d 0 0 yX2_readLine.name ro J → xRet cX2_readLine none 0 0 Z J → J μ 0 0 0 [(0, .ref a0), (1, .ref a1), (2, .ref a2)] []) : xC d yX2_readLine cX2_readLine 4 none 0 0 [.ref a0, .ref a1, .ref a2] μ ro Z :=
  xC_intro (own := RX2) (lv := [(0, .ref a0), (1, .ref a1), (2, .ref a2)]) (by decide) rfl (Nat.le_of_ble_eq_true rfl) rfl (fun J g hr => r_sub g (lv' := [(0, .ref a0), (1, .ref a1), (2, .ref a2)]) (⟨rfl, rfl, rfl, trivial⟩) (h J g hr))
theorem dX2_newName_0 : decode cX2_newName 0 = .ok (.aload_n 1, 1) := by decide +kernel
theorem dX2_newName_1 : decode cX2_newName 1 = .ok (.invokevirtual 71, 3) := by decide +kernel
theorem dX2_newName_4 : decode cX2_newName 4 = .ok (.lstore_n 2, 1) := by decide +kernel
theorem dX2_newName_5 : decode cX2_newName 5 = .ok (.lload_n 2, 1) := by decide +kernel
theorem dX2_newName_6 : decode cX2_newName 6 = .ok (.aload_n 0, 1) := by decide +kernel
theorem dX2_newName_7 : decode cX2_newName 7 = .ok (.getfield 9, 3) := by decide +kernel
theorem dX2_newName_10 : decode cX2_newName 10 = .ok (.aload_n 0, 1) := by decide +kernel
theorem dX2_newName_11 : decode cX2_newName 11 = .ok (.getfield 28, 3) := by decide +kernel
theorem dX2_newName_14 : decode cX2_newName 14 = .ok (.invokestatic 139, 3) := by decide +kernel
theorem dX2_newName_17 : decode cX2_newName 17 = .ok (.iconst (-1), 1) := by decide +kernel
theorem dX2_newName_18 : decode cX2_newName 18 = .ok (.if_icmp .ne 19, 3) := by decide +kernel
theorem dX2_newName_21 : decode cX2_newName 21 = .ok (.lload_n 2, 1) := by decide +kernel
theorem dX2_newName_22 : decode cX2_newName 22 = .ok (.aload_n 0, 1) := by decide +kernel
theorem dX2_newName_23 : decode cX2_newName 23 = .ok (.getfield 15, 3) := by decide +kernel
theorem dX2_newName_26 : decode cX2_newName 26 = .ok (.aload_n 0, 1) := by decide +kernel
theorem dX2_newName_27 : decode cX2_newName 27 = .ok (.getfield 32, 3) := by decide +kernel
theorem dX2_newName_30 : decode cX2_newName 30 = .ok (.invokestatic 139, 3) := by decide +kernel
theorem dX2_newName_33 : decode cX2_newName 33 = .ok (.iconst (-1), 1) := by decide +kernel
theorem dX2_newName_34 : decode cX2_newName 34 = .ok (.if_icmp .eq 7, 3) := by decide +kernel
theorem dX2_newName_37 : decode cX2_newName 37 = .ok (.iconst 1, 1) := by decide +kernel
theorem dX2_newName_38 : decode cX2_newName 38 = .ok (.goto 4, 3) := by decide +kernel
theorem dX2_newName_41 : decode cX2_newName 41 = .ok (.iconst 0, 1) := by decide +kernel
theorem dX2_newName_42 : decode cX2_newName 42 = .ok (.istore 4, 2) := by decide +kernel
theorem dX2_newName_44 : decode cX2_newName 44 = .ok (.iload 4, 2) := by decide +kernel
theorem dX2_newName_46 : decode cX2_newName 46 = .ok (.ifCond .ne 10, 3) := by decide +kernel
theorem dX2_newName_49 : decode cX2_newName 49 = .ok (.lload_n 2, 1) := by decide +kernel
theorem dX2_newName_50 : decode cX2_newName 50 = .ok (.invokestatic 75, 3) := by decide +kernel
theorem dX2_newName_53 : decode cX2_newName 53 = .ok (.ifnull 11, 3) := by decide +kernel
theorem dX2_newName_56 : decode cX2_newName 56 = .ok (.aload_n 1, 1) := by decide +kernel
theorem dX2_newName_57 : decode cX2_newName 57 = .ok (.aload_n 1, 1) := by decide +kernel
theorem dX2_newName_58 : decode cX2_newName 58 = .ok (.getfield 81, 3) := by decide +kernel
theorem dX2_newName_61 : decode cX2_newName 61 = .ok (.invokevirtual 67, 3) := by decide +kernel
theorem dX2_newName_64 : decode cX2_newName 64 = .ok (.lload_n 2, 1) := by decide +kernel
theorem dX2_newName_65 : decode cX2_newName 65 = .ok (.lreturn, 1) := by decide +kernel
set_option maxHeartbeats 4000000 in
set_option maxRecDepth 100000 in
theorem B_X2_newName_0 {d : Nat} {ro : Nat → Nat} {J : JT} {Z : Option Value → Hp → Prop} (g : xCtx RX2 cX2_newName 5 d 0 0 yX2_newName.name ro J) (hr : xRet cX2_newName (some .long) 0 0 Z J) {μ : Hp} {a0 : Nat} {a1 : Nat} (hs_a1 : hS μ a1 = some (10, 5))
    (h : xCall d yX6_nextWord cX6_nextWord 3 (some .long) [.ref a1] μ ro (fun r1 μ2 => ∃ y3 : Int64, r1 = some (.long y3) ∧ hS μ2 a0 = some (6, 9) ∧ ∃ landNames_4 : Nat, hR μ2 a0 0 = some landNames_4 ∧ xCall d yX2_numberOf cX2_numberOf 5 (some .int) [.long y3, .ref landNames_4, .int (hI μ2 a0 5)] μ2 ro (fun r5 μ6 => ∃ y7 : Int32, r5 = some (.int y7) ∧ ((¬ y7 = (-1) → J μ6 0 0 56 [(1, .ref a1), (2, .long y3)] []) ∧ (y7 = (-1) → hS μ6 a0 = some (6, 9) ∧ ∃ firmNames_9 : Nat, hR μ6 a0 1 = some firmNames_9 ∧ xCall d yX2_numberOf cX2_numberOf 5 (some .int) [.long y3, .ref firmNames_9, .int (hI μ6 a0 6)] μ6 ro (fun r10 μ11 => ∃ y12 : Int32, r10 = some (.int y12) ∧ ((y12 = (-1) → xCall d yX10_withCode cX10_withCode 6 (some (.object "TreatyRouter$Word")) [.long y3] μ11 ro (fun r14 μ15 => ∃ w17 : Option Nat, r14 = some (wV ro w17) ∧ ((w17 = none → Z (some (.long y3)) μ15) ∧ (∀ i18 : Nat, w17 = some i18 → i18 < 12 ∧ J μ15 0 0 56 [(1, .ref a1), (2, .long y3)] [])))) ∧ (¬ y12 = (-1) → J μ11 0 0 56 [(1, .ref a1), (2, .long y3)] [])))))))) :
    J μ 0 0 0 [(0, .ref a0), (1, .ref a1)] [] := by
  refine r_aload_n g dX2_newName_0 rfl ?_
  obtain ⟨d1, Z1, hc1, hd1, h1⟩ := h
  refine r_callV (st := []) (As := []) g sX2_71 iX6_nextWord eX6_nextWord rfl hs_a1 rfl (Nat.le_of_ble_eq_true rfl) dX2_newName_1 hd1 (Nat.le_refl 0) (Nat.le_refl 0) hc1 (fun r1 μ2 hZ1 => ?_)
  replace h := h1 _ _ hZ1
  clear h1 hc1 hd1 hZ1 Z1 d1
  obtain ⟨y3, rfl, h⟩ := h
  refine r_lstore_n g [(2, .long y3), (0, .ref a0), (1, .ref a1)] dX2_newName_4 (by decide) rfl ?_
  refine r_lload_n g dX2_newName_5 rfl ?_
  refine r_aload_n g dX2_newName_6 rfl ?_
  obtain ⟨hs_a0, h⟩ := h
  obtain ⟨landNames_4, hr_landNames_4, h⟩ := h
  refine r_getR g fX2_9 rfl hs_a0 hr_landNames_4 dX2_newName_7 ?_
  refine r_aload_n g dX2_newName_10 rfl ?_
  refine r_getI g fX2_28 rfl hs_a0 dX2_newName_11 ?_
  obtain ⟨d1, Z1, hc1, hd1, h1⟩ := h
  refine r_callS (st := []) (As := [.long y3, .ref landNames_4, .int (hI μ2 a0 5)]) g sX2_139 iX2_numberOf rfl (Nat.le_of_ble_eq_true rfl) dX2_newName_14 hd1 (Nat.le_refl 0) (Nat.le_refl 0) hc1 (fun r5 μ6 hZ1 => ?_)
  replace h := h1 _ _ hZ1
  clear h1 hc1 hd1 hZ1 Z1 d1
  obtain ⟨y7, rfl, h⟩ := h
  refine r_iconst g (-1) dX2_newName_17 (by decide) ?_
  refine r_icmp_ne g 37 dX2_newName_18 (by decide) (fun c8 => ?_) (fun c8 => ?_)
  · replace h := h.1 c8
    refine r_iconst g 1 dX2_newName_37 (by decide) ?_
    refine r_goto g 42 dX2_newName_38 (by decide) ?_
    refine r_istore g [(4, .int 1), (2, .long y3), (0, .ref a0), (1, .ref a1)] dX2_newName_42 (by decide) rfl ?_
    refine r_iload g dX2_newName_44 rfl ?_
    refine r_if_ne g 56 dX2_newName_46 (by decide) (fun _ => ?_) (fun hz => absurd hz (by decide))
    refine r_sub g (lv' := [(1, .ref a1), (2, .long y3)]) (⟨rfl, rfl, trivial⟩) ?_
    exact h
  · replace h := h.2 c8
    refine r_lload_n g dX2_newName_21 rfl ?_
    refine r_aload_n g dX2_newName_22 rfl ?_
    obtain ⟨hs_a0_, h⟩ := h
    obtain ⟨firmNames_9, hr_firmNames_9, h⟩ := h
    refine r_getR g fX2_15 rfl hs_a0_ hr_firmNames_9 dX2_newName_23 ?_
    refine r_aload_n g dX2_newName_26 rfl ?_
    refine r_getI g fX2_32 rfl hs_a0_ dX2_newName_27 ?_
    obtain ⟨d1, Z1, hc1, hd1, h1⟩ := h
    refine r_callS (st := []) (As := [.long y3, .ref firmNames_9, .int (hI μ6 a0 6)]) g sX2_139 iX2_numberOf rfl (Nat.le_of_ble_eq_true rfl) dX2_newName_30 hd1 (Nat.le_refl 0) (Nat.le_refl 0) hc1 (fun r10 μ11 hZ1 => ?_)
    replace h := h1 _ _ hZ1
    clear h1 hc1 hd1 hZ1 Z1 d1
    obtain ⟨y12, rfl, h⟩ := h
    refine r_iconst g (-1) dX2_newName_33 (by decide) ?_
    refine r_icmp_eq g 41 dX2_newName_34 (by decide) (fun c13 => ?_) (fun c13 => ?_)
    · replace h := h.1 c13
      refine r_iconst g 0 dX2_newName_41 (by decide) ?_
      refine r_istore g [(4, .int 0), (2, .long y3), (0, .ref a0), (1, .ref a1)] dX2_newName_42 (by decide) rfl ?_
      refine r_iload g dX2_newName_44 rfl ?_
      refine r_if_ne g 56 dX2_newName_46 (by decide) (fun hz => absurd hz (by decide)) (fun _ => ?_)
      refine r_lload_n g dX2_newName_49 rfl ?_
      obtain ⟨d1, Z1, hc1, hd1, h1⟩ := h
      refine r_callS (st := []) (As := [.long y3]) g sX2_75 iX10_withCode rfl (Nat.le_of_ble_eq_true rfl) dX2_newName_50 hd1 (Nat.le_refl 0) (Nat.le_refl 0) hc1 (fun r14 μ15 hZ1 => ?_)
      replace h := h1 _ _ hZ1
      clear h1 hc1 hd1 hZ1 Z1 d1
      obtain ⟨w17, rfl, h⟩ := h
      rcases w17 with _ | i18
      · replace h := h.1 rfl
        refine r_ifnullN g 64 dX2_newName_53 (by decide) ?_
        refine r_lload_n g dX2_newName_64 rfl ?_
        exact hr.2.2.1 rfl _ _ _ _ _ _ dX2_newName_65 (Nat.le_refl 0) (Nat.le_refl 0) h
      · obtain ⟨li18, h⟩ := h.2 i18 rfl
        refine r_ifnull g dX2_newName_53 ?_
        refine r_sub g (lv' := [(1, .ref a1), (2, .long y3)]) (⟨rfl, rfl, trivial⟩) ?_
        exact h
    · replace h := h.2 c13
      refine r_iconst g 1 dX2_newName_37 (by decide) ?_
      refine r_goto g 42 dX2_newName_38 (by decide) ?_
      refine r_istore g [(4, .int 1), (2, .long y3), (0, .ref a0), (1, .ref a1)] dX2_newName_42 (by decide) rfl ?_
      refine r_iload g dX2_newName_44 rfl ?_
      refine r_if_ne g 56 dX2_newName_46 (by decide) (fun _ => ?_) (fun hz => absurd hz (by decide))
      refine r_sub g (lv' := [(1, .ref a1), (2, .long y3)]) (⟨rfl, rfl, trivial⟩) ?_
      exact h
set_option maxHeartbeats 4000000 in
set_option maxRecDepth 100000 in
theorem B_X2_newName_56 {d : Nat} {ro : Nat → Nat} {J : JT} {Z : Option Value → Hp → Prop} (g : xCtx RX2 cX2_newName 5 d 0 0 yX2_newName.name ro J) (hr : xRet cX2_newName (some .long) 0 0 Z J) {μ : Hp} {a1 : Nat} {x2 : Int64} (hs_a1 : hS μ a1 = some (10, 5))
    (h : xCall d yX6_fail cX6_fail 2 none [.ref a1, .int (hI μ a1 2)] μ ro (fun r1 μ2 => r1 = none ∧ Z (some (.long x2)) μ2)) :
    J μ 0 0 56 [(1, .ref a1), (2, .long x2)] [] := by
  refine r_aload_n g dX2_newName_56 rfl ?_
  refine r_aload_n g dX2_newName_57 rfl ?_
  refine r_getI g fX2_81 rfl hs_a1 dX2_newName_58 ?_
  obtain ⟨d1, Z1, hc1, hd1, h1⟩ := h
  refine r_callV (st := []) (As := [.int (hI μ a1 2)]) g sX2_67 iX6_fail eX6_fail rfl hs_a1 rfl (Nat.le_of_ble_eq_true rfl) dX2_newName_61 hd1 (Nat.le_refl 0) (Nat.le_refl 0) hc1 (fun r1 μ2 hZ1 => ?_)
  replace h := h1 _ _ hZ1
  clear h1 hc1 hd1 hZ1 Z1 d1
  obtain ⟨rfl, h⟩ := h
  refine r_lload_n g dX2_newName_64 rfl ?_
  exact hr.2.2.1 rfl _ _ _ _ _ _ dX2_newName_65 (Nat.le_refl 0) (Nat.le_refl 0) h
theorem I_X2_newName {d : Nat} {ro : Nat → Nat} {Z : Option Value → Hp → Prop} {μ : Hp} {a0 : Nat} {a1 : Nat} (h : ∀ J, xCtx RX2 cX2_newName 5 d 0 0 yX2_newName.name ro J → xRet cX2_newName (some .long) 0 0 Z J → J μ 0 0 0 [(0, .ref a0), (1, .ref a1)] []) : xC d yX2_newName cX2_newName 5 (some .long) 0 0 [.ref a0, .ref a1] μ ro Z :=
  xC_intro (own := RX2) (lv := [(0, .ref a0), (1, .ref a1)]) (by decide) rfl (Nat.le_of_ble_eq_true rfl) rfl (fun J g hr => r_sub g (lv' := [(0, .ref a0), (1, .ref a1)]) (⟨rfl, rfl, trivial⟩) (h J g hr))
theorem dX2_readTreaty_0 : decode cX2_readTreaty 0 = .ok (.aload_n 0, 1) := by decide +kernel
theorem dX2_readTreaty_1 : decode cX2_readTreaty 1 = .ok (.getfield 35, 3) := by decide +kernel
theorem dX2_readTreaty_4 : decode cX2_readTreaty 4 = .ok (.bipush 12, 2) := by decide +kernel
theorem dX2_readTreaty_6 : decode cX2_readTreaty 6 = .ok (.if_icmp .lt 12, 3) := by decide +kernel
theorem dX2_readTreaty_9 : decode cX2_readTreaty 9 = .ok (.aload_n 1, 1) := by decide +kernel
theorem dX2_readTreaty_10 : decode cX2_readTreaty 10 = .ok (.aload_n 1, 1) := by decide +kernel
theorem dX2_readTreaty_11 : decode cX2_readTreaty 11 = .ok (.getfield 81, 3) := by decide +kernel
theorem dX2_readTreaty_14 : decode cX2_readTreaty 14 = .ok (.invokevirtual 67, 3) := by decide +kernel
theorem dX2_readTreaty_17 : decode cX2_readTreaty 17 = .ok (.return_, 1) := by decide +kernel
theorem dX2_readTreaty_18 : decode cX2_readTreaty 18 = .ok (.aload_n 1, 1) := by decide +kernel
theorem dX2_readTreaty_19 : decode cX2_readTreaty 19 = .ok (.aload_n 0, 1) := by decide +kernel
theorem dX2_readTreaty_20 : decode cX2_readTreaty 20 = .ok (.getfield 9, 3) := by decide +kernel
theorem dX2_readTreaty_23 : decode cX2_readTreaty 23 = .ok (.aload_n 0, 1) := by decide +kernel
theorem dX2_readTreaty_24 : decode cX2_readTreaty 24 = .ok (.getfield 28, 3) := by decide +kernel
theorem dX2_readTreaty_27 : decode cX2_readTreaty 27 = .ok (.iconst (-1), 1) := by decide +kernel
theorem dX2_readTreaty_28 : decode cX2_readTreaty 28 = .ok (.invokestatic 122, 3) := by decide +kernel
theorem dX2_readTreaty_31 : decode cX2_readTreaty 31 = .ok (.istore 4, 2) := by decide +kernel
theorem dX2_readTreaty_33 : decode cX2_readTreaty 33 = .ok (.aload_n 0, 1) := by decide +kernel
theorem dX2_readTreaty_34 : decode cX2_readTreaty 34 = .ok (.getfield 25, 3) := by decide +kernel
theorem dX2_readTreaty_37 : decode cX2_readTreaty 37 = .ok (.bipush 96, 2) := by decide +kernel
theorem dX2_readTreaty_39 : decode cX2_readTreaty 39 = .ok (.aload_n 0, 1) := by decide +kernel
theorem dX2_readTreaty_40 : decode cX2_readTreaty 40 = .ok (.getfield 35, 3) := by decide +kernel
theorem dX2_readTreaty_43 : decode cX2_readTreaty 43 = .ok (.iadd, 1) := by decide +kernel
theorem dX2_readTreaty_44 : decode cX2_readTreaty 44 = .ok (.iload 4, 2) := by decide +kernel
theorem dX2_readTreaty_46 : decode cX2_readTreaty 46 = .ok (.iastore, 1) := by decide +kernel
theorem dX2_readTreaty_47 : decode cX2_readTreaty 47 = .ok (.aload_n 0, 1) := by decide +kernel
theorem dX2_readTreaty_48 : decode cX2_readTreaty 48 = .ok (.getfield 25, 3) := by decide +kernel
theorem dX2_readTreaty_51 : decode cX2_readTreaty 51 = .ok (.bipush 108, 2) := by decide +kernel
theorem dX2_readTreaty_53 : decode cX2_readTreaty 53 = .ok (.aload_n 0, 1) := by decide +kernel
theorem dX2_readTreaty_54 : decode cX2_readTreaty 54 = .ok (.getfield 35, 3) := by decide +kernel
theorem dX2_readTreaty_57 : decode cX2_readTreaty 57 = .ok (.iadd, 1) := by decide +kernel
theorem dX2_readTreaty_58 : decode cX2_readTreaty 58 = .ok (.aload_n 1, 1) := by decide +kernel
theorem dX2_readTreaty_59 : decode cX2_readTreaty 59 = .ok (.aload_n 0, 1) := by decide +kernel
theorem dX2_readTreaty_60 : decode cX2_readTreaty 60 = .ok (.getfield 9, 3) := by decide +kernel
theorem dX2_readTreaty_63 : decode cX2_readTreaty 63 = .ok (.aload_n 0, 1) := by decide +kernel
theorem dX2_readTreaty_64 : decode cX2_readTreaty 64 = .ok (.getfield 28, 3) := by decide +kernel
theorem dX2_readTreaty_67 : decode cX2_readTreaty 67 = .ok (.iload 4, 2) := by decide +kernel
theorem dX2_readTreaty_69 : decode cX2_readTreaty 69 = .ok (.invokestatic 122, 3) := by decide +kernel
theorem dX2_readTreaty_72 : decode cX2_readTreaty 72 = .ok (.iastore, 1) := by decide +kernel
theorem dX2_readTreaty_73 : decode cX2_readTreaty 73 = .ok (.aload_n 0, 1) := by decide +kernel
theorem dX2_readTreaty_74 : decode cX2_readTreaty 74 = .ok (.getfield 25, 3) := by decide +kernel
theorem dX2_readTreaty_77 : decode cX2_readTreaty 77 = .ok (.bipush 120, 2) := by decide +kernel
theorem dX2_readTreaty_79 : decode cX2_readTreaty 79 = .ok (.aload_n 0, 1) := by decide +kernel
theorem dX2_readTreaty_80 : decode cX2_readTreaty 80 = .ok (.getfield 35, 3) := by decide +kernel
theorem dX2_readTreaty_83 : decode cX2_readTreaty 83 = .ok (.iadd, 1) := by decide +kernel
theorem dX2_readTreaty_84 : decode cX2_readTreaty 84 = .ok (.iload_n 3, 1) := by decide +kernel
theorem dX2_readTreaty_85 : decode cX2_readTreaty 85 = .ok (.iastore, 1) := by decide +kernel
theorem dX2_readTreaty_86 : decode cX2_readTreaty 86 = .ok (.iconst 0, 1) := by decide +kernel
theorem dX2_readTreaty_87 : decode cX2_readTreaty 87 = .ok (.istore 5, 2) := by decide +kernel
theorem dX2_readTreaty_89 : decode cX2_readTreaty 89 = .ok (.iload 5, 2) := by decide +kernel
theorem dX2_readTreaty_91 : decode cX2_readTreaty 91 = .ok (.bipush 8, 2) := by decide +kernel
theorem dX2_readTreaty_93 : decode cX2_readTreaty 93 = .ok (.if_icmp .ge 45, 3) := by decide +kernel
theorem dX2_readTreaty_96 : decode cX2_readTreaty 96 = .ok (.aload_n 0, 1) := by decide +kernel
theorem dX2_readTreaty_97 : decode cX2_readTreaty 97 = .ok (.getfield 25, 3) := by decide +kernel
theorem dX2_readTreaty_100 : decode cX2_readTreaty 100 = .ok (.iload 5, 2) := by decide +kernel
theorem dX2_readTreaty_102 : decode cX2_readTreaty 102 = .ok (.bipush 12, 2) := by decide +kernel
theorem dX2_readTreaty_104 : decode cX2_readTreaty 104 = .ok (.imul, 1) := by decide +kernel
theorem dX2_readTreaty_105 : decode cX2_readTreaty 105 = .ok (.aload_n 0, 1) := by decide +kernel
theorem dX2_readTreaty_106 : decode cX2_readTreaty 106 = .ok (.getfield 35, 3) := by decide +kernel
theorem dX2_readTreaty_109 : decode cX2_readTreaty 109 = .ok (.iadd, 1) := by decide +kernel
theorem dX2_readTreaty_110 : decode cX2_readTreaty 110 = .ok (.iload 5, 2) := by decide +kernel
theorem dX2_readTreaty_112 : decode cX2_readTreaty 112 = .ok (.iload_n 2, 1) := by decide +kernel
theorem dX2_readTreaty_113 : decode cX2_readTreaty 113 = .ok (.if_icmp .ge 17, 3) := by decide +kernel
theorem dX2_readTreaty_116 : decode cX2_readTreaty 116 = .ok (.aload_n 1, 1) := by decide +kernel
theorem dX2_readTreaty_117 : decode cX2_readTreaty 117 = .ok (.iconst 0, 1) := by decide +kernel
theorem dX2_readTreaty_118 : decode cX2_readTreaty 118 = .ok (.getstatic 136, 3) := by decide +kernel
theorem dX2_readTreaty_121 : decode cX2_readTreaty 121 = .ok (.iload 5, 2) := by decide +kernel
theorem dX2_readTreaty_123 : decode cX2_readTreaty 123 = .ok (.iaload, 1) := by decide +kernel
theorem dX2_readTreaty_124 : decode cX2_readTreaty 124 = .ok (.invokevirtual 115, 3) := by decide +kernel
theorem dX2_readTreaty_127 : decode cX2_readTreaty 127 = .ok (.goto 4, 3) := by decide +kernel
theorem dX2_readTreaty_130 : decode cX2_readTreaty 130 = .ok (.iconst 0, 1) := by decide +kernel
theorem dX2_readTreaty_131 : decode cX2_readTreaty 131 = .ok (.iastore, 1) := by decide +kernel
theorem dX2_readTreaty_132 : decode cX2_readTreaty 132 = .ok (.iinc 5 1, 3) := by decide +kernel
theorem dX2_readTreaty_135 : decode cX2_readTreaty 135 = .ok (.goto (-46), 3) := by decide +kernel
theorem dX2_readTreaty_138 : decode cX2_readTreaty 138 = .ok (.aload_n 1, 1) := by decide +kernel
theorem dX2_readTreaty_139 : decode cX2_readTreaty 139 = .ok (.getfield 119, 3) := by decide +kernel
theorem dX2_readTreaty_142 : decode cX2_readTreaty 142 = .ok (.iconst (-1), 1) := by decide +kernel
theorem dX2_readTreaty_143 : decode cX2_readTreaty 143 = .ok (.if_icmp .ne 13, 3) := by decide +kernel
theorem dX2_readTreaty_146 : decode cX2_readTreaty 146 = .ok (.aload_n 0, 1) := by decide +kernel
theorem dX2_readTreaty_147 : decode cX2_readTreaty 147 = .ok (.dup, 1) := by decide +kernel
theorem dX2_readTreaty_148 : decode cX2_readTreaty 148 = .ok (.getfield 35, 3) := by decide +kernel
theorem dX2_readTreaty_151 : decode cX2_readTreaty 151 = .ok (.iconst 1, 1) := by decide +kernel
theorem dX2_readTreaty_152 : decode cX2_readTreaty 152 = .ok (.iadd, 1) := by decide +kernel
theorem dX2_readTreaty_153 : decode cX2_readTreaty 153 = .ok (.putfield 35, 3) := by decide +kernel
theorem dX2_readTreaty_156 : decode cX2_readTreaty 156 = .ok (.return_, 1) := by decide +kernel
set_option maxHeartbeats 4000000 in
set_option maxRecDepth 100000 in
theorem B_X2_readTreaty_0 {d : Nat} {ro : Nat → Nat} {J : JT} {Z : Option Value → Hp → Prop} (g : xCtx RX2 cX2_readTreaty 6 d 0 0 yX2_readTreaty.name ro J) (hr : xRet cX2_readTreaty none 0 0 Z J) {μ : Hp} {a0 : Nat} {a1 : Nat} {x2 : Int32} {x3 : Int32} {a0_landNames : Nat} (hs_a0 : hS μ a0 = some (6, 9)) (hr_a0_landNames : hR μ a0 0 = some a0_landNames) (hs_a1 : hS μ a1 = some (10, 5))
    (h : (((hI μ a0 7) < 12 → xCall d yX2_toldName cX2_toldName 5 (some .int) [.ref a1, .ref a0_landNames, .int (hI μ a0 5), .int (-1)] μ ro (fun r2 μ3 => ∃ y4 : Int32, r2 = some (.int y4) ∧ hS μ3 a0 = some (6, 9) ∧ ∃ treaties_5 : Nat, hR μ3 a0 4 = some treaties_5 ∧ ∃ N6 : Nat, hS μ3 treaties_5 = some (0, N6) ∧ vp_in (96 + (hI μ3 a0 7)) N6 ∧ (∀ v8 : Int32, v8 = (hI (wI μ3 treaties_5 ((96 + (hI μ3 a0 7)).toNatClampNeg) y4) a0 7) → ∃ landNames_9 : Nat, hR μ3 a0 0 = some landNames_9 ∧ (∀ v10 : Int32, v10 = (hI (wI μ3 treaties_5 ((96 + (hI μ3 a0 7)).toNatClampNeg) y4) a0 5) → xCall d yX2_toldName cX2_toldName 5 (some .int) [.ref a1, .ref landNames_9, .int v10, .int y4] (wI μ3 treaties_5 ((96 + (hI μ3 a0 7)).toNatClampNeg) y4) ro (fun r11 μ12 => ∃ y13 : Int32, r11 = some (.int y13) ∧ ∃ N14 : Nat, hS μ12 treaties_5 = some (0, N14) ∧ vp_in (108 + v8) N14 ∧ hS μ12 a0 = some (6, 9) ∧ ∃ treaties_16 : Nat, hR μ12 a0 4 = some treaties_16 ∧ (∀ v17 : Int32, v17 = (120 + (hI (wI μ12 treaties_5 ((108 + v8).toNatClampNeg) y13) a0 7)) → ∃ N18 : Nat, hS μ12 treaties_16 = some (0, N18) ∧ vp_in v17 N18 ∧ J (wI (wI μ12 treaties_5 ((108 + v8).toNatClampNeg) y13) treaties_16 v17.toNatClampNeg x3) 0 0 89 [(0, .ref a0), (1, .ref a1), (2, .int x2), (5, .int 0)] [])))))) ∧ (¬ (hI μ a0 7) < 12 → xCall d yX6_fail cX6_fail 2 none [.ref a1, .int (hI μ a1 2)] μ ro (fun r20 μ21 => r20 = none ∧ Z none μ21)))) :
    J μ 0 0 0 [(0, .ref a0), (1, .ref a1), (2, .int x2), (3, .int x3)] [] := by
  refine r_aload_n g dX2_readTreaty_0 rfl ?_
  refine r_getI g fX2_35 rfl hs_a0 dX2_readTreaty_1 ?_
  refine r_bipush g 12 dX2_readTreaty_4 (by decide) ?_
  refine r_icmp_lt g 18 dX2_readTreaty_6 (by decide) (fun c1 => ?_) (fun c1 => ?_)
  · replace h := h.1 c1
    refine r_aload_n g dX2_readTreaty_18 rfl ?_
    refine r_aload_n g dX2_readTreaty_19 rfl ?_
    refine r_getR g fX2_9 rfl hs_a0 hr_a0_landNames dX2_readTreaty_20 ?_
    refine r_aload_n g dX2_readTreaty_23 rfl ?_
    refine r_getI g fX2_28 rfl hs_a0 dX2_readTreaty_24 ?_
    refine r_iconst g (-1) dX2_readTreaty_27 (by decide) ?_
    obtain ⟨d1, Z1, hc1, hd1, h1⟩ := h
    refine r_callS (st := []) (As := [.ref a1, .ref a0_landNames, .int (hI μ a0 5), .int (-1)]) g sX2_122 iX2_toldName rfl (Nat.le_of_ble_eq_true rfl) dX2_readTreaty_28 hd1 (Nat.le_refl 0) (Nat.le_refl 0) hc1 (fun r2 μ3 hZ1 => ?_)
    replace h := h1 _ _ hZ1
    clear h1 hc1 hd1 hZ1 Z1 d1
    obtain ⟨y4, rfl, h⟩ := h
    refine r_istore g [(4, .int y4), (0, .ref a0), (1, .ref a1), (2, .int x2), (3, .int x3)] dX2_readTreaty_31 (by decide) rfl ?_
    refine r_aload_n g dX2_readTreaty_33 rfl ?_
    obtain ⟨hs_a0_, h⟩ := h
    obtain ⟨treaties_5, hr_treaties_5, h⟩ := h
    refine r_getR g fX2_25 rfl hs_a0_ hr_treaties_5 dX2_readTreaty_34 ?_
    refine r_bipush g 96 dX2_readTreaty_37 (by decide) ?_
    refine r_aload_n g dX2_readTreaty_39 rfl ?_
    refine r_getI g fX2_35 rfl hs_a0_ dX2_readTreaty_40 ?_
    refine r_iadd g dX2_readTreaty_43 ?_
    refine r_iload g dX2_readTreaty_44 rfl ?_
    obtain ⟨N6, hs_treaties_5, h⟩ := h
    obtain ⟨hi7, h⟩ := h
    refine r_iastore g hs_treaties_5 hi7 dX2_readTreaty_46 ?_
    refine r_aload_n g dX2_readTreaty_47 rfl ?_
    refine r_getR g fX2_25 rfl hs_a0_ hr_treaties_5 dX2_readTreaty_48 ?_
    refine r_bipush g 108 dX2_readTreaty_51 (by decide) ?_
    refine r_aload_n g dX2_readTreaty_53 rfl ?_
    refine r_getI g fX2_35 rfl hs_a0_ dX2_readTreaty_54 ?_
    refine r_nmI (fun v8 ev8 => ?_)
    replace h := h v8 ev8
    refine r_iadd g dX2_readTreaty_57 ?_
    refine r_aload_n g dX2_readTreaty_58 rfl ?_
    refine r_aload_n g dX2_readTreaty_59 rfl ?_
    obtain ⟨landNames_9, hr_landNames_9, h⟩ := h
    refine r_getR g fX2_9 rfl hs_a0_ hr_landNames_9 dX2_readTreaty_60 ?_
    refine r_aload_n g dX2_readTreaty_63 rfl ?_
    refine r_getI g fX2_28 rfl hs_a0_ dX2_readTreaty_64 ?_
    refine r_nmI (fun v10 ev10 => ?_)
    replace h := h v10 ev10
    refine r_iload g dX2_readTreaty_67 rfl ?_
    obtain ⟨d1, Z1, hc1, hd1, h1⟩ := h
    refine r_callS (st := [.int (108 + v8), .ref treaties_5]) (As := [.ref a1, .ref landNames_9, .int v10, .int y4]) g sX2_122 iX2_toldName rfl (Nat.le_of_ble_eq_true rfl) dX2_readTreaty_69 hd1 (Nat.le_refl 0) (Nat.le_refl 0) hc1 (fun r11 μ12 hZ1 => ?_)
    replace h := h1 _ _ hZ1
    clear h1 hc1 hd1 hZ1 Z1 d1
    obtain ⟨y13, rfl, h⟩ := h
    obtain ⟨N14, hs_treaties_5_, h⟩ := h
    obtain ⟨hi15, h⟩ := h
    refine r_iastore g hs_treaties_5_ hi15 dX2_readTreaty_72 ?_
    refine r_aload_n g dX2_readTreaty_73 rfl ?_
    obtain ⟨hs_a0__, h⟩ := h
    obtain ⟨treaties_16, hr_treaties_16, h⟩ := h
    refine r_getR g fX2_25 rfl hs_a0__ hr_treaties_16 dX2_readTreaty_74 ?_
    refine r_bipush g 120 dX2_readTreaty_77 (by decide) ?_
    refine r_aload_n g dX2_readTreaty_79 rfl ?_
    refine r_getI g fX2_35 rfl hs_a0__ dX2_readTreaty_80 ?_
    refine r_iadd g dX2_readTreaty_83 ?_
    refine r_nmI (fun v17 ev17 => ?_)
    replace h := h v17 ev17
    refine r_iload_n g dX2_readTreaty_84 rfl ?_
    obtain ⟨N18, hs_treaties_16, h⟩ := h
    obtain ⟨hi19, h⟩ := h
    refine r_iastore g hs_treaties_16 hi19 dX2_readTreaty_85 ?_
    refine r_iconst g 0 dX2_readTreaty_86 (by decide) ?_
    refine r_istore g [(5, .int 0), (4, .int y4), (0, .ref a0), (1, .ref a1), (2, .int x2), (3, .int x3)] dX2_readTreaty_87 (by decide) rfl ?_
    refine r_sub g (lv' := [(0, .ref a0), (1, .ref a1), (2, .int x2), (5, .int 0)]) (⟨rfl, rfl, rfl, rfl, trivial⟩) ?_
    exact h
  · replace h := h.2 c1
    refine r_aload_n g dX2_readTreaty_9 rfl ?_
    refine r_aload_n g dX2_readTreaty_10 rfl ?_
    refine r_getI g fX2_81 rfl hs_a1 dX2_readTreaty_11 ?_
    obtain ⟨d1, Z1, hc1, hd1, h1⟩ := h
    refine r_callV (st := []) (As := [.int (hI μ a1 2)]) g sX2_67 iX6_fail eX6_fail rfl hs_a1 rfl (Nat.le_of_ble_eq_true rfl) dX2_readTreaty_14 hd1 (Nat.le_refl 0) (Nat.le_refl 0) hc1 (fun r20 μ21 hZ1 => ?_)
    replace h := h1 _ _ hZ1
    clear h1 hc1 hd1 hZ1 Z1 d1
    obtain ⟨rfl, h⟩ := h
    exact hr.1 rfl _ _ _ _ _ dX2_readTreaty_17 (Nat.le_refl 0) (Nat.le_refl 0) h
set_option maxHeartbeats 4000000 in
set_option maxRecDepth 100000 in
theorem B_X2_readTreaty_89 {d : Nat} {ro : Nat → Nat} {J : JT} {Z : Option Value → Hp → Prop} (g : xCtx RX2 cX2_readTreaty 6 d 0 0 yX2_readTreaty.name ro J) (hr : xRet cX2_readTreaty none 0 0 Z J) {μ : Hp} {a0 : Nat} {a1 : Nat} {x2 : Int32} {x5 : Int32} {a0_treaties : Nat} {N_a0_treaties : Nat} (hs_a1 : hS μ a1 = some (10, 5)) (hs_a0 : hS μ a0 = some (6, 9)) (hr_a0_treaties : hR μ a0 4 = some a0_treaties) (hs_a0_treaties : hS μ a0_treaties = some (0, N_a0_treaties))
    (h : ((8 ≤ x5 → ((¬ (hI μ a1 1) = (-1) → Z none μ) ∧ ((hI μ a1 1) = (-1) → Z none (wI μ a0 7 ((hI μ a0 7) + 1))))) ∧ (¬ 8 ≤ x5 → ((x2 ≤ x5 → vp_in ((x5 * 12) + (hI μ a0 7)) N_a0_treaties ∧ J (wI μ a0_treaties (((x5 * 12) + (hI μ a0 7)).toNatClampNeg) 0) 0 0 89 [(0, .ref a0), (1, .ref a1), (2, .int x2), (5, .int (x5 + 1))] []) ∧ (¬ x2 ≤ x5 → vp_in x5 8 ∧ xCall d yX6_nextNumber cX6_nextNumber 4 (some .int) [.ref a1, .int 0, .int (roB.getD x5.toNatClampNeg 0)] μ ro (fun r6 μ7 => ∃ y8 : Int32, r6 = some (.int y8) ∧ ∃ N9 : Nat, hS μ7 a0_treaties = some (0, N9) ∧ vp_in ((x5 * 12) + (hI μ a0 7)) N9 ∧ J (wI μ7 a0_treaties (((x5 * 12) + (hI μ a0 7)).toNatClampNeg) y8) 0 0 89 [(0, .ref a0), (1, .ref a1), (2, .int x2), (5, .int (x5 + 1))] [])))))) :
    J μ 0 0 89 [(0, .ref a0), (1, .ref a1), (2, .int x2), (5, .int x5)] [] := by
  refine r_iload g dX2_readTreaty_89 rfl ?_
  refine r_bipush g 8 dX2_readTreaty_91 (by decide) ?_
  refine r_icmp_ge g 138 dX2_readTreaty_93 (by decide) (fun c1 => ?_) (fun c1 => ?_)
  · replace h := h.1 c1
    refine r_aload_n g dX2_readTreaty_138 rfl ?_
    refine r_getI g fX2_119 rfl hs_a1 dX2_readTreaty_139 ?_
    refine r_iconst g (-1) dX2_readTreaty_142 (by decide) ?_
    refine r_icmp_ne g 156 dX2_readTreaty_143 (by decide) (fun c2 => ?_) (fun c2 => ?_)
    · replace h := h.1 c2
      exact hr.1 rfl _ _ _ _ _ dX2_readTreaty_156 (Nat.le_refl 0) (Nat.le_refl 0) h
    · replace h := h.2 c2
      refine r_aload_n g dX2_readTreaty_146 rfl ?_
      refine r_dup g dX2_readTreaty_147 rfl ?_
      refine r_getI g fX2_35 rfl hs_a0 dX2_readTreaty_148 ?_
      refine r_iconst g 1 dX2_readTreaty_151 (by decide) ?_
      refine r_iadd g dX2_readTreaty_152 ?_
      refine r_putI g fX2_35 rfl hs_a0 rfl rfl dX2_readTreaty_153 ?_
      exact hr.1 rfl _ _ _ _ _ dX2_readTreaty_156 (Nat.le_refl 0) (Nat.le_refl 0) h
  · replace h := h.2 c1
    refine r_aload_n g dX2_readTreaty_96 rfl ?_
    refine r_getR g fX2_25 rfl hs_a0 hr_a0_treaties dX2_readTreaty_97 ?_
    refine r_iload g dX2_readTreaty_100 rfl ?_
    refine r_bipush g 12 dX2_readTreaty_102 (by decide) ?_
    refine r_imul g dX2_readTreaty_104 ?_
    refine r_aload_n g dX2_readTreaty_105 rfl ?_
    refine r_getI g fX2_35 rfl hs_a0 dX2_readTreaty_106 ?_
    refine r_iadd g dX2_readTreaty_109 ?_
    refine r_iload g dX2_readTreaty_110 rfl ?_
    refine r_iload_n g dX2_readTreaty_112 rfl ?_
    refine r_icmp_ge g 130 dX2_readTreaty_113 (by decide) (fun c3 => ?_) (fun c3 => ?_)
    · replace h := h.1 c3
      refine r_iconst g 0 dX2_readTreaty_130 (by decide) ?_
      obtain ⟨hi4, h⟩ := h
      refine r_iastore g hs_a0_treaties hi4 dX2_readTreaty_131 ?_
      refine r_iinc g (x5 + 1) [(5, .int (x5 + 1)), (0, .ref a0), (1, .ref a1), (2, .int x2)] dX2_readTreaty_132 rfl rfl (by decide) rfl ?_
      refine r_goto g 89 dX2_readTreaty_135 (by decide) ?_
      refine r_sub g (lv' := [(0, .ref a0), (1, .ref a1), (2, .int x2), (5, .int (x5 + 1))]) (⟨rfl, rfl, rfl, rfl, trivial⟩) ?_
      exact h
    · replace h := h.2 c3
      refine r_aload_n g dX2_readTreaty_116 rfl ?_
      refine r_iconst g 0 dX2_readTreaty_117 (by decide) ?_
      refine r_getsRO g (List.mem_of_getElem? (i := 2) rfl) zX2_136 dX2_readTreaty_118 ?_
      refine r_iload g dX2_readTreaty_121 rfl ?_
      obtain ⟨hi5, h⟩ := h
      refine r_tabI g (List.mem_of_getElem? (i := 0) rfl) hi5 dX2_readTreaty_123 ?_
      obtain ⟨d1, Z1, hc1, hd1, h1⟩ := h
      refine r_callV (st := [.int ((x5 * 12) + (hI μ a0 7)), .ref a0_treaties]) (As := [.int 0, .int (roB.getD x5.toNatClampNeg 0)]) g sX2_115 iX6_nextNumber eX6_nextNumber rfl hs_a1 rfl (Nat.le_of_ble_eq_true rfl) dX2_readTreaty_124 hd1 (Nat.le_refl 0) (Nat.le_refl 0) hc1 (fun r6 μ7 hZ1 => ?_)
      replace h := h1 _ _ hZ1
      clear h1 hc1 hd1 hZ1 Z1 d1
      obtain ⟨y8, rfl, h⟩ := h
      refine r_goto g 131 dX2_readTreaty_127 (by decide) ?_
      obtain ⟨N9, hs_a0_treaties_, h⟩ := h
      obtain ⟨hi10, h⟩ := h
      refine r_iastore g hs_a0_treaties_ hi10 dX2_readTreaty_131 ?_
      refine r_iinc g (x5 + 1) [(5, .int (x5 + 1)), (0, .ref a0), (1, .ref a1), (2, .int x2)] dX2_readTreaty_132 rfl rfl (by decide) rfl ?_
      refine r_goto g 89 dX2_readTreaty_135 (by decide) ?_
      refine r_sub g (lv' := [(0, .ref a0), (1, .ref a1), (2, .int x2), (5, .int (x5 + 1))]) (⟨rfl, rfl, rfl, rfl, trivial⟩) ?_
      exact h
theorem I_X2_readTreaty {d : Nat} {ro : Nat → Nat} {Z : Option Value → Hp → Prop} {μ : Hp} {a0 : Nat} {a1 : Nat} {x2 : Int32} {x3 : Int32} (h : ∀ J, xCtx RX2 cX2_readTreaty 6 d 0 0 yX2_readTreaty.name ro J → xRet cX2_readTreaty none 0 0 Z J → J μ 0 0 0 [(0, .ref a0), (1, .ref a1), (2, .int x2), (3, .int x3)] []) : xC d yX2_readTreaty cX2_readTreaty 6 none 0 0 [.ref a0, .ref a1, .int x2, .int x3] μ ro Z :=
  xC_intro (own := RX2) (lv := [(0, .ref a0), (1, .ref a1), (2, .int x2), (3, .int x3)]) (by decide) rfl (Nat.le_of_ble_eq_true rfl) rfl (fun J g hr => r_sub g (lv' := [(0, .ref a0), (1, .ref a1), (2, .int x2), (3, .int x3)]) (⟨rfl, rfl, rfl, rfl, trivial⟩) (h J g hr))
theorem dX7_readStep_0 : decode cX7_readStep 0 = .ok (.aload_n 1, 1) := by decide +kernel
theorem dX7_readStep_1 : decode cX7_readStep 1 = .ok (.invokevirtual 39, 3) := by decide +kernel
theorem dX7_readStep_4 : decode cX7_readStep 4 = .ok (.invokestatic 43, 3) := by decide +kernel
theorem dX7_readStep_7 : decode cX7_readStep 7 = .ok (.astore_n 3, 1) := by decide +kernel
theorem dX7_readStep_8 : decode cX7_readStep 8 = .ok (.aload_n 3, 1) := by decide +kernel
theorem dX7_readStep_9 : decode cX7_readStep 9 = .ok (.ifnull 11, 3) := by decide +kernel
theorem dX7_readStep_12 : decode cX7_readStep 12 = .ok (.aload_n 3, 1) := by decide +kernel
theorem dX7_readStep_13 : decode cX7_readStep 13 = .ok (.getfield 49, 3) := by decide +kernel
theorem dX7_readStep_16 : decode cX7_readStep 16 = .ok (.iconst (-1), 1) := by decide +kernel
theorem dX7_readStep_17 : decode cX7_readStep 17 = .ok (.if_icmp .ne 12, 3) := by decide +kernel
theorem dX7_readStep_20 : decode cX7_readStep 20 = .ok (.aload_n 1, 1) := by decide +kernel
theorem dX7_readStep_21 : decode cX7_readStep 21 = .ok (.aload_n 1, 1) := by decide +kernel
theorem dX7_readStep_22 : decode cX7_readStep 22 = .ok (.getfield 32, 3) := by decide +kernel
theorem dX7_readStep_25 : decode cX7_readStep 25 = .ok (.invokevirtual 35, 3) := by decide +kernel
theorem dX7_readStep_28 : decode cX7_readStep 28 = .ok (.return_, 1) := by decide +kernel
theorem dX7_readStep_29 : decode cX7_readStep 29 = .ok (.aload_n 0, 1) := by decide +kernel
theorem dX7_readStep_30 : decode cX7_readStep 30 = .ok (.getfield 11, 3) := by decide +kernel
theorem dX7_readStep_33 : decode cX7_readStep 33 = .ok (.iload_n 2, 1) := by decide +kernel
theorem dX7_readStep_34 : decode cX7_readStep 34 = .ok (.aload_n 3, 1) := by decide +kernel
theorem dX7_readStep_35 : decode cX7_readStep 35 = .ok (.getfield 49, 3) := by decide +kernel
theorem dX7_readStep_38 : decode cX7_readStep 38 = .ok (.iastore, 1) := by decide +kernel
theorem dX7_readStep_39 : decode cX7_readStep 39 = .ok (.iconst 1, 1) := by decide +kernel
theorem dX7_readStep_40 : decode cX7_readStep 40 = .ok (.istore 4, 2) := by decide +kernel
theorem dX7_readStep_42 : decode cX7_readStep 42 = .ok (.iload 4, 2) := by decide +kernel
theorem dX7_readStep_44 : decode cX7_readStep 44 = .ok (.iconst 5, 1) := by decide +kernel
theorem dX7_readStep_45 : decode cX7_readStep 45 = .ok (.if_icmp .ge 39, 3) := by decide +kernel
theorem dX7_readStep_48 : decode cX7_readStep 48 = .ok (.aload_n 0, 1) := by decide +kernel
theorem dX7_readStep_49 : decode cX7_readStep 49 = .ok (.getfield 11, 3) := by decide +kernel
theorem dX7_readStep_52 : decode cX7_readStep 52 = .ok (.iload_n 2, 1) := by decide +kernel
theorem dX7_readStep_53 : decode cX7_readStep 53 = .ok (.iload 4, 2) := by decide +kernel
theorem dX7_readStep_55 : decode cX7_readStep 55 = .ok (.iadd, 1) := by decide +kernel
theorem dX7_readStep_56 : decode cX7_readStep 56 = .ok (.iload 4, 2) := by decide +kernel
theorem dX7_readStep_58 : decode cX7_readStep 58 = .ok (.aload_n 3, 1) := by decide +kernel
theorem dX7_readStep_59 : decode cX7_readStep 59 = .ok (.getfield 52, 3) := by decide +kernel
theorem dX7_readStep_62 : decode cX7_readStep 62 = .ok (.if_icmp .gt 14, 3) := by decide +kernel
theorem dX7_readStep_65 : decode cX7_readStep 65 = .ok (.aload_n 1, 1) := by decide +kernel
theorem dX7_readStep_66 : decode cX7_readStep 66 = .ok (.iconst 0, 1) := by decide +kernel
theorem dX7_readStep_67 : decode cX7_readStep 67 = .ok (.sipush 9999, 3) := by decide +kernel
theorem dX7_readStep_70 : decode cX7_readStep 70 = .ok (.invokevirtual 55, 3) := by decide +kernel
theorem dX7_readStep_73 : decode cX7_readStep 73 = .ok (.goto 4, 3) := by decide +kernel
theorem dX7_readStep_76 : decode cX7_readStep 76 = .ok (.iconst (-1), 1) := by decide +kernel
theorem dX7_readStep_77 : decode cX7_readStep 77 = .ok (.iastore, 1) := by decide +kernel
theorem dX7_readStep_78 : decode cX7_readStep 78 = .ok (.iinc 4 1, 3) := by decide +kernel
theorem dX7_readStep_81 : decode cX7_readStep 81 = .ok (.goto (-39), 3) := by decide +kernel
theorem dX7_readStep_84 : decode cX7_readStep 84 = .ok (.return_, 1) := by decide +kernel
set_option maxHeartbeats 4000000 in
set_option maxRecDepth 100000 in
theorem B_X7_readStep_0 {d : Nat} {ro : Nat → Nat} {J : JT} {Z : Option Value → Hp → Prop} (g : xCtx RX7 cX7_readStep 5 d 0 0 yX7_readStep.name ro J) (hr : xRet cX7_readStep none 0 0 Z J) {μ : Hp} {a0 : Nat} {a1 : Nat} {x2 : Int32} (hs_a1 : hS μ a1 = some (10, 5))
    (h : xCall d yX6_nextWord cX6_nextWord 3 (some .long) [.ref a1] μ ro (fun r1 μ2 => ∃ y3 : Int64, r1 = some (.long y3) ∧ xCall d yX10_withCode cX10_withCode 6 (some (.object "TreatyRouter$Word")) [.long y3] μ2 ro (fun r4 μ5 => ∃ w7 : Option Nat, r4 = some (wV ro w7) ∧ ((w7 = none → hS μ5 a1 = some (10, 5) ∧ xCall d yX6_fail cX6_fail 2 none [.ref a1, .int (hI μ5 a1 2)] μ5 ro (fun r9 μ10 => r9 = none ∧ Z none μ10)) ∧ (∀ i8 : Nat, w7 = some i8 → i8 < 12 ∧ ((¬ (roAct.getD i8 0) = (-1) → hS μ5 a0 = some (11, 2) ∧ ∃ row_12 : Nat, hR μ5 a0 0 = some row_12 ∧ ∃ N13 : Nat, hS μ5 row_12 = some (0, N13) ∧ vp_in x2 N13 ∧ J (wI μ5 row_12 x2.toNatClampNeg (roAct.getD i8 0)) 0 0 42 [(0, .ref a0), (1, .ref a1), (2, .int x2), (3, .ref (ro (10 + i8))), (4, .int 1)] []) ∧ ((roAct.getD i8 0) = (-1) → hS μ5 a1 = some (10, 5) ∧ xCall d yX6_fail cX6_fail 2 none [.ref a1, .int (hI μ5 a1 2)] μ5 ro (fun r15 μ16 => r15 = none ∧ Z none μ16)))))))) :
    J μ 0 0 0 [(0, .ref a0), (1, .ref a1), (2, .int x2)] [] := by
  refine r_aload_n g dX7_readStep_0 rfl ?_
  obtain ⟨d1, Z1, hc1, hd1, h1⟩ := h
  refine r_callV (st := []) (As := []) g sX7_39 iX6_nextWord eX6_nextWord rfl hs_a1 rfl (Nat.le_of_ble_eq_true rfl) dX7_readStep_1 hd1 (Nat.le_refl 0) (Nat.le_refl 0) hc1 (fun r1 μ2 hZ1 => ?_)
  replace h := h1 _ _ hZ1
  clear h1 hc1 hd1 hZ1 Z1 d1
  obtain ⟨y3, rfl, h⟩ := h
  obtain ⟨d1, Z1, hc1, hd1, h1⟩ := h
  refine r_callS (st := []) (As := [.long y3]) g sX7_43 iX10_withCode rfl (Nat.le_of_ble_eq_true rfl) dX7_readStep_4 hd1 (Nat.le_refl 0) (Nat.le_refl 0) hc1 (fun r4 μ5 hZ1 => ?_)
  replace h := h1 _ _ hZ1
  clear h1 hc1 hd1 hZ1 Z1 d1
  obtain ⟨w7, rfl, h⟩ := h
  rcases w7 with _ | i8
  · replace h := h.1 rfl
    refine r_astore_nN g [(3, .null), (0, .ref a0), (1, .ref a1), (2, .int x2)] dX7_readStep_7 (by decide) rfl ?_
    refine r_aload_nN g dX7_readStep_8 rfl ?_
    refine r_ifnullN g 20 dX7_readStep_9 (by decide) ?_
    refine r_aload_n g dX7_readStep_20 rfl ?_
    refine r_aload_n g dX7_readStep_21 rfl ?_
    obtain ⟨hs_a1_, h⟩ := h
    refine r_getI g fX7_32 rfl hs_a1_ dX7_readStep_22 ?_
    obtain ⟨d1, Z1, hc1, hd1, h1⟩ := h
    refine r_callV (st := []) (As := [.int (hI μ5 a1 2)]) g sX7_35 iX6_fail eX6_fail rfl hs_a1_ rfl (Nat.le_of_ble_eq_true rfl) dX7_readStep_25 hd1 (Nat.le_refl 0) (Nat.le_refl 0) hc1 (fun r9 μ10 hZ1 => ?_)
    replace h := h1 _ _ hZ1
    clear h1 hc1 hd1 hZ1 Z1 d1
    obtain ⟨rfl, h⟩ := h
    exact hr.1 rfl _ _ _ _ _ dX7_readStep_28 (Nat.le_refl 0) (Nat.le_refl 0) h
  · obtain ⟨li8, h⟩ := h.2 i8 rfl
    refine r_astore_n g [(3, .ref (ro (10 + i8))), (0, .ref a0), (1, .ref a1), (2, .int x2)] dX7_readStep_7 (by decide) rfl ?_
    refine r_aload_n g dX7_readStep_8 rfl ?_
    refine r_ifnull g dX7_readStep_9 ?_
    refine r_aload_n g dX7_readStep_12 rfl ?_
    refine r_fldRO g (roF_act li8) zX7_49 dX7_readStep_13 ?_
    refine r_iconst g (-1) dX7_readStep_16 (by decide) ?_
    refine r_icmp_ne g 29 dX7_readStep_17 (by decide) (fun c11 => ?_) (fun c11 => ?_)
    · replace h := h.1 c11
      refine r_aload_n g dX7_readStep_29 rfl ?_
      obtain ⟨hs_a0, h⟩ := h
      obtain ⟨row_12, hr_row_12, h⟩ := h
      refine r_getR g fX7_11 rfl hs_a0 hr_row_12 dX7_readStep_30 ?_
      refine r_iload_n g dX7_readStep_33 rfl ?_
      refine r_aload_n g dX7_readStep_34 rfl ?_
      refine r_fldRO g (roF_act li8) zX7_49 dX7_readStep_35 ?_
      obtain ⟨N13, hs_row_12, h⟩ := h
      obtain ⟨hi14, h⟩ := h
      refine r_iastore g hs_row_12 hi14 dX7_readStep_38 ?_
      refine r_iconst g 1 dX7_readStep_39 (by decide) ?_
      refine r_istore g [(4, .int 1), (3, .ref (ro (10 + i8))), (0, .ref a0), (1, .ref a1), (2, .int x2)] dX7_readStep_40 (by decide) rfl ?_
      refine r_sub g (lv' := [(0, .ref a0), (1, .ref a1), (2, .int x2), (3, .ref (ro (10 + i8))), (4, .int 1)]) (⟨rfl, rfl, rfl, rfl, rfl, trivial⟩) ?_
      exact h
    · replace h := h.2 c11
      refine r_aload_n g dX7_readStep_20 rfl ?_
      refine r_aload_n g dX7_readStep_21 rfl ?_
      obtain ⟨hs_a1__, h⟩ := h
      refine r_getI g fX7_32 rfl hs_a1__ dX7_readStep_22 ?_
      obtain ⟨d1, Z1, hc1, hd1, h1⟩ := h
      refine r_callV (st := []) (As := [.int (hI μ5 a1 2)]) g sX7_35 iX6_fail eX6_fail rfl hs_a1__ rfl (Nat.le_of_ble_eq_true rfl) dX7_readStep_25 hd1 (Nat.le_refl 0) (Nat.le_refl 0) hc1 (fun r15 μ16 hZ1 => ?_)
      replace h := h1 _ _ hZ1
      clear h1 hc1 hd1 hZ1 Z1 d1
      obtain ⟨rfl, h⟩ := h
      exact hr.1 rfl _ _ _ _ _ dX7_readStep_28 (Nat.le_refl 0) (Nat.le_refl 0) h
set_option maxHeartbeats 4000000 in
set_option maxRecDepth 100000 in
theorem B_X7_readStep_42 {d : Nat} {ro : Nat → Nat} {J : JT} {Z : Option Value → Hp → Prop} (g : xCtx RX7 cX7_readStep 5 d 0 0 yX7_readStep.name ro J) (hr : xRet cX7_readStep none 0 0 Z J) {μ : Hp} {a0 : Nat} {a1 : Nat} {x2 : Int32} {w9 : Nat} {x4 : Int32} {a0_row : Nat} {N_a0_row : Nat} (lw9 : w9 < 12) (hs_a0 : hS μ a0 = some (11, 2)) (hr_a0_row : hR μ a0 0 = some a0_row) (hs_a0_row : hS μ a0_row = some (0, N_a0_row)) (hs_a1 : hS μ a1 = some (10, 5))
    (h : ((5 ≤ x4 → Z none μ) ∧ (¬ 5 ≤ x4 → (((roNum.getD w9 0) < x4 → vp_in (x2 + x4) N_a0_row ∧ J (wI μ a0_row ((x2 + x4).toNatClampNeg) (-1)) 0 0 42 [(0, .ref a0), (1, .ref a1), (2, .int x2), (3, .ref (ro (10 + w9))), (4, .int (x4 + 1))] []) ∧ (¬ (roNum.getD w9 0) < x4 → xCall d yX6_nextNumber cX6_nextNumber 4 (some .int) [.ref a1, .int 0, .int 9999] μ ro (fun r4 μ5 => ∃ y6 : Int32, r4 = some (.int y6) ∧ ∃ N7 : Nat, hS μ5 a0_row = some (0, N7) ∧ vp_in (x2 + x4) N7 ∧ J (wI μ5 a0_row ((x2 + x4).toNatClampNeg) y6) 0 0 42 [(0, .ref a0), (1, .ref a1), (2, .int x2), (3, .ref (ro (10 + w9))), (4, .int (x4 + 1))] [])))))) :
    J μ 0 0 42 [(0, .ref a0), (1, .ref a1), (2, .int x2), (3, .ref (ro (10 + w9))), (4, .int x4)] [] := by
  refine r_iload g dX7_readStep_42 rfl ?_
  refine r_iconst g 5 dX7_readStep_44 (by decide) ?_
  refine r_icmp_ge g 84 dX7_readStep_45 (by decide) (fun c1 => ?_) (fun c1 => ?_)
  · replace h := h.1 c1
    exact hr.1 rfl _ _ _ _ _ dX7_readStep_84 (Nat.le_refl 0) (Nat.le_refl 0) h
  · replace h := h.2 c1
    refine r_aload_n g dX7_readStep_48 rfl ?_
    refine r_getR g fX7_11 rfl hs_a0 hr_a0_row dX7_readStep_49 ?_
    refine r_iload_n g dX7_readStep_52 rfl ?_
    refine r_iload g dX7_readStep_53 rfl ?_
    refine r_iadd g dX7_readStep_55 ?_
    refine r_iload g dX7_readStep_56 rfl ?_
    refine r_aload_n g dX7_readStep_58 rfl ?_
    refine r_fldRO g (roF_numbers lw9) zX7_52 dX7_readStep_59 ?_
    refine r_icmp_gt g 76 dX7_readStep_62 (by decide) (fun c2 => ?_) (fun c2 => ?_)
    · replace h := h.1 c2
      refine r_iconst g (-1) dX7_readStep_76 (by decide) ?_
      obtain ⟨hi3, h⟩ := h
      refine r_iastore g hs_a0_row hi3 dX7_readStep_77 ?_
      refine r_iinc g (x4 + 1) [(4, .int (x4 + 1)), (0, .ref a0), (1, .ref a1), (2, .int x2), (3, .ref (ro (10 + w9)))] dX7_readStep_78 rfl rfl (by decide) rfl ?_
      refine r_goto g 42 dX7_readStep_81 (by decide) ?_
      refine r_sub g (lv' := [(0, .ref a0), (1, .ref a1), (2, .int x2), (3, .ref (ro (10 + w9))), (4, .int (x4 + 1))]) (⟨rfl, rfl, rfl, rfl, rfl, trivial⟩) ?_
      exact h
    · replace h := h.2 c2
      refine r_aload_n g dX7_readStep_65 rfl ?_
      refine r_iconst g 0 dX7_readStep_66 (by decide) ?_
      refine r_sipush g 9999 dX7_readStep_67 (by decide) ?_
      obtain ⟨d1, Z1, hc1, hd1, h1⟩ := h
      refine r_callV (st := [.int (x2 + x4), .ref a0_row]) (As := [.int 0, .int 9999]) g sX7_55 iX6_nextNumber eX6_nextNumber rfl hs_a1 rfl (Nat.le_of_ble_eq_true rfl) dX7_readStep_70 hd1 (Nat.le_refl 0) (Nat.le_refl 0) hc1 (fun r4 μ5 hZ1 => ?_)
      replace h := h1 _ _ hZ1
      clear h1 hc1 hd1 hZ1 Z1 d1
      obtain ⟨y6, rfl, h⟩ := h
      refine r_goto g 77 dX7_readStep_73 (by decide) ?_
      obtain ⟨N7, hs_a0_row_, h⟩ := h
      obtain ⟨hi8, h⟩ := h
      refine r_iastore g hs_a0_row_ hi8 dX7_readStep_77 ?_
      refine r_iinc g (x4 + 1) [(4, .int (x4 + 1)), (0, .ref a0), (1, .ref a1), (2, .int x2), (3, .ref (ro (10 + w9)))] dX7_readStep_78 rfl rfl (by decide) rfl ?_
      refine r_goto g 42 dX7_readStep_81 (by decide) ?_
      refine r_sub g (lv' := [(0, .ref a0), (1, .ref a1), (2, .int x2), (3, .ref (ro (10 + w9))), (4, .int (x4 + 1))]) (⟨rfl, rfl, rfl, rfl, rfl, trivial⟩) ?_
      exact h
theorem I_X7_readStep {d : Nat} {ro : Nat → Nat} {Z : Option Value → Hp → Prop} {μ : Hp} {a0 : Nat} {a1 : Nat} {x2 : Int32} (h : ∀ J, xCtx RX7 cX7_readStep 5 d 0 0 yX7_readStep.name ro J → xRet cX7_readStep none 0 0 Z J → J μ 0 0 0 [(0, .ref a0), (1, .ref a1), (2, .int x2)] []) : xC d yX7_readStep cX7_readStep 5 none 0 0 [.ref a0, .ref a1, .int x2] μ ro Z :=
  xC_intro (own := RX7) (lv := [(0, .ref a0), (1, .ref a1), (2, .int x2)]) (by decide) rfl (Nat.le_of_ble_eq_true rfl) rfl (fun J g hr => r_sub g (lv' := [(0, .ref a0), (1, .ref a1), (2, .int x2)]) (⟨rfl, rfl, rfl, trivial⟩) (h J g hr))
theorem dX12_known_0 : decode cX12_known 0 = .ok (.iconst 0, 1) := by decide +kernel
theorem dX12_known_1 : decode cX12_known 1 = .ok (.istore_n 2, 1) := by decide +kernel
theorem dX12_known_2 : decode cX12_known 2 = .ok (.lconst 0, 1) := by decide +kernel
theorem dX12_known_3 : decode cX12_known 3 = .ok (.lstore_n 3, 1) := by decide +kernel
theorem dX12_known_4 : decode cX12_known 4 = .ok (.iconst 0, 1) := by decide +kernel
theorem dX12_known_5 : decode cX12_known 5 = .ok (.istore 5, 2) := by decide +kernel
theorem dX12_known_7 : decode cX12_known 7 = .ok (.iload 5, 2) := by decide +kernel
theorem dX12_known_9 : decode cX12_known 9 = .ok (.ldc 147, 2) := by decide +kernel
theorem dX12_known_11 : decode cX12_known 11 = .ok (.invokevirtual 149, 3) := by decide +kernel
theorem dX12_known_14 : decode cX12_known 14 = .ok (.if_icmp .ge 55, 3) := by decide +kernel
theorem dX12_known_17 : decode cX12_known 17 = .ok (.ldc 147, 2) := by decide +kernel
theorem dX12_known_19 : decode cX12_known 19 = .ok (.iload 5, 2) := by decide +kernel
theorem dX12_known_21 : decode cX12_known 21 = .ok (.invokevirtual 153, 3) := by decide +kernel
theorem dX12_known_24 : decode cX12_known 24 = .ok (.bipush 32, 2) := by decide +kernel
theorem dX12_known_26 : decode cX12_known 26 = .ok (.if_icmp .eq 24, 3) := by decide +kernel
theorem dX12_known_29 : decode cX12_known 29 = .ok (.lload_n 3, 1) := by decide +kernel
theorem dX12_known_30 : decode cX12_known 30 = .ok (.iconst 5, 1) := by decide +kernel
theorem dX12_known_31 : decode cX12_known 31 = .ok (.lshl, 1) := by decide +kernel
theorem dX12_known_32 : decode cX12_known 32 = .ok (.ldc 147, 2) := by decide +kernel
theorem dX12_known_34 : decode cX12_known 34 = .ok (.iload 5, 2) := by decide +kernel
theorem dX12_known_36 : decode cX12_known 36 = .ok (.invokevirtual 153, 3) := by decide +kernel
theorem dX12_known_39 : decode cX12_known 39 = .ok (.bipush 97, 2) := by decide +kernel
theorem dX12_known_41 : decode cX12_known 41 = .ok (.isub, 1) := by decide +kernel
theorem dX12_known_42 : decode cX12_known 42 = .ok (.iconst 1, 1) := by decide +kernel
theorem dX12_known_43 : decode cX12_known 43 = .ok (.iadd, 1) := by decide +kernel
theorem dX12_known_44 : decode cX12_known 44 = .ok (.i2l, 1) := by decide +kernel
theorem dX12_known_45 : decode cX12_known 45 = .ok (.lor, 1) := by decide +kernel
theorem dX12_known_46 : decode cX12_known 46 = .ok (.lstore_n 3, 1) := by decide +kernel
theorem dX12_known_47 : decode cX12_known 47 = .ok (.goto 16, 3) := by decide +kernel
theorem dX12_known_50 : decode cX12_known 50 = .ok (.lload_n 3, 1) := by decide +kernel
theorem dX12_known_51 : decode cX12_known 51 = .ok (.lload_n 0, 1) := by decide +kernel
theorem dX12_known_52 : decode cX12_known 52 = .ok (.lcmp, 1) := by decide +kernel
theorem dX12_known_53 : decode cX12_known 53 = .ok (.ifCond .ne 5, 3) := by decide +kernel
theorem dX12_known_56 : decode cX12_known 56 = .ok (.iload_n 2, 1) := by decide +kernel
theorem dX12_known_57 : decode cX12_known 57 = .ok (.ireturn, 1) := by decide +kernel
theorem dX12_known_58 : decode cX12_known 58 = .ok (.lconst 0, 1) := by decide +kernel
theorem dX12_known_59 : decode cX12_known 59 = .ok (.lstore_n 3, 1) := by decide +kernel
theorem dX12_known_60 : decode cX12_known 60 = .ok (.iinc 2 1, 3) := by decide +kernel
theorem dX12_known_63 : decode cX12_known 63 = .ok (.iinc 5 1, 3) := by decide +kernel
theorem dX12_known_66 : decode cX12_known 66 = .ok (.goto (-59), 3) := by decide +kernel
theorem dX12_known_69 : decode cX12_known 69 = .ok (.iconst (-1), 1) := by decide +kernel
theorem dX12_known_70 : decode cX12_known 70 = .ok (.ireturn, 1) := by decide +kernel
set_option maxHeartbeats 4000000 in
set_option maxRecDepth 100000 in
theorem B_X12_known_0 {d : Nat} {ro : Nat → Nat} {J : JT} {Z : Option Value → Hp → Prop} (g : xCtx RX12 cX12_known 6 d 0 0 yX12_known.name ro J) (hr : xRet cX12_known (some .int) 0 0 Z J) {μ : Hp} {x0 : Int64} 
    (h : J μ 0 0 7 [(0, .long x0), (2, .int 0), (3, .long 0), (5, .int 0)] []) :
    J μ 0 0 0 [(0, .long x0)] [] := by
  refine r_iconst g 0 dX12_known_0 (by decide) ?_
  refine r_istore_n g [(2, .int 0), (0, .long x0)] dX12_known_1 (by decide) rfl ?_
  refine r_lconst g 0 dX12_known_2 (by decide) ?_
  refine r_lstore_n g [(3, .long 0), (2, .int 0), (0, .long x0)] dX12_known_3 (by decide) rfl ?_
  refine r_iconst g 0 dX12_known_4 (by decide) ?_
  refine r_istore g [(5, .int 0), (3, .long 0), (2, .int 0), (0, .long x0)] dX12_known_5 (by decide) rfl ?_
  refine r_sub g (lv' := [(0, .long x0), (2, .int 0), (3, .long 0), (5, .int 0)]) (⟨rfl, rfl, rfl, rfl, trivial⟩) ?_
  exact h
set_option maxHeartbeats 4000000 in
set_option maxRecDepth 100000 in
theorem B_X12_known_7 {d : Nat} {ro : Nat → Nat} {J : JT} {Z : Option Value → Hp → Prop} (g : xCtx RX12 cX12_known 6 d 0 0 yX12_known.name ro J) (hr : xRet cX12_known (some .int) 0 0 Z J) {μ : Hp} {x0 : Int64} {x2 : Int32} {x3 : Int64} {x5 : Int32} 
    (h : xCall d yJ0_length_8abf5 cJ0_length_8abf5 1 (some .int) [.ref (ro 5)] μ ro (fun r1 μ2 => ∃ y3 : Int32, r1 = some (.int y3) ∧ ((y3 ≤ x5 → Z (some (.int (-1))) μ2) ∧ (¬ y3 ≤ x5 → xCall d yJ0_charAt_5068e cJ0_charAt_5068e 2 (some .char) [.ref (ro 5), .int x5] μ2 ro (fun r5 μ6 => ∃ y7 : Int32, r5 = some (.int y7) ∧ ((y7 = 32 → ((¬ (lg_cmp x3 x0) = 0 → J μ6 0 0 7 [(0, .long x0), (2, .int (x2 + 1)), (3, .long 0), (5, .int (x5 + 1))] []) ∧ ((lg_cmp x3 x0) = 0 → Z (some (.int x2)) μ6))) ∧ (¬ y7 = 32 → xCall d yJ0_charAt_5068e cJ0_charAt_5068e 2 (some .char) [.ref (ro 5), .int x5] μ6 ro (fun r10 μ11 => ∃ y12 : Int32, r10 = some (.int y12) ∧ (∀ v13 : Int64, v13 = ((x3 <<< ((5 : Int32).toInt64 &&& 63)) ||| ((y12 - 97) + 1).toInt64) → J μ11 0 0 7 [(0, .long x0), (2, .int x2), (3, .long v13), (5, .int (x5 + 1))] []))))))))) :
    J μ 0 0 7 [(0, .long x0), (2, .int x2), (3, .long x3), (5, .int x5)] [] := by
  refine r_iload g dX12_known_7 rfl ?_
  refine r_ldcS g (List.mem_of_getElem? (i := 0) rfl) dX12_known_9 ?_
  obtain ⟨d1, Z1, hc1, hd1, h1⟩ := h
  refine r_callVR (st := [.int x5]) (As := []) g sX12_149 iJ0_length_8abf5 eJ0_length_8abf5 (List.mem_of_getElem? (i := 0) rfl) rfl (Nat.le_of_ble_eq_true rfl) dX12_known_11 hd1 (Nat.le_refl 0) (Nat.le_refl 0) hc1 (fun r1 μ2 hZ1 => ?_)
  replace h := h1 _ _ hZ1
  clear h1 hc1 hd1 hZ1 Z1 d1
  obtain ⟨y3, rfl, h⟩ := h
  refine r_icmp_ge g 69 dX12_known_14 (by decide) (fun c4 => ?_) (fun c4 => ?_)
  · replace h := h.1 c4
    refine r_iconst g (-1) dX12_known_69 (by decide) ?_
    exact hr.2.1 _ rfl _ _ _ _ _ _ dX12_known_70 rfl (Nat.le_refl 0) (Nat.le_refl 0) h
  · replace h := h.2 c4
    refine r_ldcS g (List.mem_of_getElem? (i := 0) rfl) dX12_known_17 ?_
    refine r_iload g dX12_known_19 rfl ?_
    obtain ⟨d1, Z1, hc1, hd1, h1⟩ := h
    refine r_callVR (st := []) (As := [.int x5]) g sX12_153 iJ0_charAt_5068e eJ0_charAt_5068e (List.mem_of_getElem? (i := 0) rfl) rfl (Nat.le_of_ble_eq_true rfl) dX12_known_21 hd1 (Nat.le_refl 0) (Nat.le_refl 0) hc1 (fun r5 μ6 hZ1 => ?_)
    replace h := h1 _ _ hZ1
    clear h1 hc1 hd1 hZ1 Z1 d1
    obtain ⟨y7, rfl, h⟩ := h
    refine r_bipush g 32 dX12_known_24 (by decide) ?_
    refine r_icmp_eq g 50 dX12_known_26 (by decide) (fun c8 => ?_) (fun c8 => ?_)
    · replace h := h.1 c8
      refine r_lload_n g dX12_known_50 rfl ?_
      refine r_lload_n g dX12_known_51 rfl ?_
      refine r_lcmp g dX12_known_52 ?_
      refine r_if_ne g 58 dX12_known_53 (by decide) (fun c9 => ?_) (fun c9 => ?_)
      · replace h := h.1 c9
        refine r_lconst g 0 dX12_known_58 (by decide) ?_
        refine r_lstore_n g [(3, .long 0), (0, .long x0), (2, .int x2), (5, .int x5)] dX12_known_59 (by decide) rfl ?_
        refine r_iinc g (x2 + 1) [(2, .int (x2 + 1)), (3, .long 0), (0, .long x0), (5, .int x5)] dX12_known_60 rfl rfl (by decide) rfl ?_
        refine r_iinc g (x5 + 1) [(5, .int (x5 + 1)), (2, .int (x2 + 1)), (3, .long 0), (0, .long x0)] dX12_known_63 rfl rfl (by decide) rfl ?_
        refine r_goto g 7 dX12_known_66 (by decide) ?_
        refine r_sub g (lv' := [(0, .long x0), (2, .int (x2 + 1)), (3, .long 0), (5, .int (x5 + 1))]) (⟨rfl, rfl, rfl, rfl, trivial⟩) ?_
        exact h
      · replace h := h.2 c9
        refine r_iload_n g dX12_known_56 rfl ?_
        exact hr.2.1 _ rfl _ _ _ _ _ _ dX12_known_57 rfl (Nat.le_refl 0) (Nat.le_refl 0) h
    · replace h := h.2 c8
      refine r_lload_n g dX12_known_29 rfl ?_
      refine r_iconst g 5 dX12_known_30 (by decide) ?_
      refine r_lshl g dX12_known_31 ?_
      refine r_ldcS g (List.mem_of_getElem? (i := 0) rfl) dX12_known_32 ?_
      refine r_iload g dX12_known_34 rfl ?_
      obtain ⟨d1, Z1, hc1, hd1, h1⟩ := h
      refine r_callVR (st := [.long (x3 <<< ((5 : Int32).toInt64 &&& 63))]) (As := [.int x5]) g sX12_153 iJ0_charAt_5068e eJ0_charAt_5068e (List.mem_of_getElem? (i := 0) rfl) rfl (Nat.le_of_ble_eq_true rfl) dX12_known_36 hd1 (Nat.le_refl 0) (Nat.le_refl 0) hc1 (fun r10 μ11 hZ1 => ?_)
      replace h := h1 _ _ hZ1
      clear h1 hc1 hd1 hZ1 Z1 d1
      obtain ⟨y12, rfl, h⟩ := h
      refine r_bipush g 97 dX12_known_39 (by decide) ?_
      refine r_isub g dX12_known_41 ?_
      refine r_iconst g 1 dX12_known_42 (by decide) ?_
      refine r_iadd g dX12_known_43 ?_
      refine r_i2l g dX12_known_44 ?_
      refine r_lor g dX12_known_45 ?_
      refine r_nmL (fun v13 ev13 => ?_)
      replace h := h v13 ev13
      refine r_lstore_n g [(3, .long v13), (0, .long x0), (2, .int x2), (5, .int x5)] dX12_known_46 (by decide) rfl ?_
      refine r_goto g 63 dX12_known_47 (by decide) ?_
      refine r_iinc g (x5 + 1) [(5, .int (x5 + 1)), (3, .long v13), (0, .long x0), (2, .int x2)] dX12_known_63 rfl rfl (by decide) rfl ?_
      refine r_goto g 7 dX12_known_66 (by decide) ?_
      refine r_sub g (lv' := [(0, .long x0), (2, .int x2), (3, .long v13), (5, .int (x5 + 1))]) (⟨rfl, rfl, rfl, rfl, trivial⟩) ?_
      exact h
theorem I_X12_known {d : Nat} {ro : Nat → Nat} {Z : Option Value → Hp → Prop} {μ : Hp} {x0 : Int64} (h : ∀ J, xCtx RX12 cX12_known 6 d 0 0 yX12_known.name ro J → xRet cX12_known (some .int) 0 0 Z J → J μ 0 0 0 [(0, .long x0)] []) : xC d yX12_known cX12_known 6 (some .int) 0 0 [.long x0] μ ro Z :=
  xC_intro (own := RX12) (lv := [(0, .long x0)]) (by decide) rfl (Nat.le_of_ble_eq_true rfl) rfl (fun J g hr => r_sub g (lv' := [(0, .long x0)]) (⟨rfl, trivial⟩) (h J g hr))
