theorem dX12_unmakes_0 : decode cX12_unmakes 0 = .ok (.iload_n 1, 1) := by decide +kernel
theorem dX12_unmakes_1 : decode cX12_unmakes 1 = .ok (.invokestatic 270, 3) := by decide +kernel
theorem dX12_unmakes_4 : decode cX12_unmakes 4 = .ok (.istore_n 2, 1) := by decide +kernel
theorem dX12_unmakes_5 : decode cX12_unmakes 5 = .ok (.iload_n 2, 1) := by decide +kernel
theorem dX12_unmakes_6 : decode cX12_unmakes 6 = .ok (.aload_n 0, 1) := by decide +kernel
theorem dX12_unmakes_7 : decode cX12_unmakes 7 = .ok (.bipush 31, 2) := by decide +kernel
theorem dX12_unmakes_9 : decode cX12_unmakes 9 = .ok (.iaload, 1) := by decide +kernel
theorem dX12_unmakes_10 : decode cX12_unmakes 10 = .ok (.iconst 1, 1) := by decide +kernel
theorem dX12_unmakes_11 : decode cX12_unmakes 11 = .ok (.isub, 1) := by decide +kernel
theorem dX12_unmakes_12 : decode cX12_unmakes 12 = .ok (.invokestatic 270, 3) := by decide +kernel
theorem dX12_unmakes_15 : decode cX12_unmakes 15 = .ok (.if_icmp .ge 17, 3) := by decide +kernel
theorem dX12_unmakes_18 : decode cX12_unmakes 18 = .ok (.aload_n 0, 1) := by decide +kernel
theorem dX12_unmakes_19 : decode cX12_unmakes 19 = .ok (.iload_n 2, 1) := by decide +kernel
theorem dX12_unmakes_20 : decode cX12_unmakes 20 = .ok (.aload_n 0, 1) := by decide +kernel
theorem dX12_unmakes_21 : decode cX12_unmakes 21 = .ok (.iload_n 2, 1) := by decide +kernel
theorem dX12_unmakes_22 : decode cX12_unmakes 22 = .ok (.iconst 5, 1) := by decide +kernel
theorem dX12_unmakes_23 : decode cX12_unmakes 23 = .ok (.iadd, 1) := by decide +kernel
theorem dX12_unmakes_24 : decode cX12_unmakes 24 = .ok (.iaload, 1) := by decide +kernel
theorem dX12_unmakes_25 : decode cX12_unmakes 25 = .ok (.iastore, 1) := by decide +kernel
theorem dX12_unmakes_26 : decode cX12_unmakes 26 = .ok (.iinc 2 1, 3) := by decide +kernel
theorem dX12_unmakes_29 : decode cX12_unmakes 29 = .ok (.goto (-24), 3) := by decide +kernel
theorem dX12_unmakes_32 : decode cX12_unmakes 32 = .ok (.aload_n 0, 1) := by decide +kernel
theorem dX12_unmakes_33 : decode cX12_unmakes 33 = .ok (.bipush 31, 2) := by decide +kernel
theorem dX12_unmakes_35 : decode cX12_unmakes 35 = .ok (.dup2, 1) := by decide +kernel
theorem dX12_unmakes_36 : decode cX12_unmakes 36 = .ok (.iaload, 1) := by decide +kernel
theorem dX12_unmakes_37 : decode cX12_unmakes 37 = .ok (.iconst 1, 1) := by decide +kernel
theorem dX12_unmakes_38 : decode cX12_unmakes 38 = .ok (.isub, 1) := by decide +kernel
theorem dX12_unmakes_39 : decode cX12_unmakes 39 = .ok (.iastore, 1) := by decide +kernel
theorem dX12_unmakes_40 : decode cX12_unmakes 40 = .ok (.return_, 1) := by decide +kernel
set_option maxHeartbeats 4000000 in
set_option maxRecDepth 100000 in
theorem B_X12_unmakes_0 {d : Nat} {ro : Nat → Nat} {J : JT} {Z : Option Value → Hp → Prop} (g : xCtx RX12 cX12_unmakes 3 d 0 0 yX12_unmakes.name ro J) (hr : xRet cX12_unmakes none 0 0 Z J) {μ : Hp} {a0 : Nat} {x1 : Int32} 
    (h : xCall d yX12_linkRow cX12_linkRow 1 (some .int) [.int x1] μ ro (fun r1 μ2 => ∃ y3 : Int32, r1 = some (.int y3) ∧ J μ2 0 0 5 [(0, .ref a0), (2, .int y3)] [])) :
    J μ 0 0 0 [(0, .ref a0), (1, .int x1)] [] := by
  refine r_iload_n g dX12_unmakes_0 rfl ?_
  obtain ⟨d1, Z1, hc1, hd1, h1⟩ := h
  refine r_callS (st := []) (As := [.int x1]) g sX12_270 iX12_linkRow rfl (Nat.le_of_ble_eq_true rfl) dX12_unmakes_1 hd1 (Nat.le_refl 0) (Nat.le_refl 0) hc1 (fun r1 μ2 hZ1 => ?_)
  replace h := h1 _ _ hZ1
  clear h1 hc1 hd1 hZ1 Z1 d1
  obtain ⟨y3, rfl, h⟩ := h
  refine r_istore_n g [(2, .int y3), (0, .ref a0), (1, .int x1)] dX12_unmakes_4 (by decide) rfl ?_
  refine r_sub g (lv' := [(0, .ref a0), (2, .int y3)]) (⟨rfl, rfl, trivial⟩) ?_
  exact h
set_option maxHeartbeats 4000000 in
set_option maxRecDepth 100000 in
theorem B_X12_unmakes_5 {d : Nat} {ro : Nat → Nat} {J : JT} {Z : Option Value → Hp → Prop} (g : xCtx RX12 cX12_unmakes 3 d 0 0 yX12_unmakes.name ro J) (hr : xRet cX12_unmakes none 0 0 Z J) {μ : Hp} {a0 : Nat} {x2 : Int32} {N_a0 : Nat} (hs_a0 : hS μ a0 = some (0, N_a0))
    (h : vp_in 31 N_a0 ∧ xCall d yX12_linkRow cX12_linkRow 1 (some .int) [.int ((hI μ a0 31) - 1)] μ ro (fun r2 μ3 => ∃ y4 : Int32, r2 = some (.int y4) ∧ ((y4 ≤ x2 → ∃ N6 : Nat, hS μ3 a0 = some (0, N6) ∧ vp_in 31 N6 ∧ Z none (wI μ3 a0 31 ((hI μ3 a0 31) - 1))) ∧ (¬ y4 ≤ x2 → ∃ N8 : Nat, hS μ3 a0 = some (0, N8) ∧ vp_in (x2 + 5) N8 ∧ vp_in x2 N8 ∧ J (wI μ3 a0 x2.toNatClampNeg (hI μ3 a0 ((x2 + 5).toNatClampNeg))) 0 0 5 [(0, .ref a0), (2, .int (x2 + 1))] [])))) :
    J μ 0 0 5 [(0, .ref a0), (2, .int x2)] [] := by
  refine r_iload_n g dX12_unmakes_5 rfl ?_
  refine r_aload_n g dX12_unmakes_6 rfl ?_
  refine r_bipush g 31 dX12_unmakes_7 (by decide) ?_
  obtain ⟨hi1, h⟩ := h
  refine r_iaload g hs_a0 hi1 dX12_unmakes_9 ?_
  refine r_iconst g 1 dX12_unmakes_10 (by decide) ?_
  refine r_isub g dX12_unmakes_11 ?_
  obtain ⟨d1, Z1, hc1, hd1, h1⟩ := h
  refine r_callS (st := [.int x2]) (As := [.int ((hI μ a0 31) - 1)]) g sX12_270 iX12_linkRow rfl (Nat.le_of_ble_eq_true rfl) dX12_unmakes_12 hd1 (Nat.le_refl 0) (Nat.le_refl 0) hc1 (fun r2 μ3 hZ1 => ?_)
  replace h := h1 _ _ hZ1
  clear h1 hc1 hd1 hZ1 Z1 d1
  obtain ⟨y4, rfl, h⟩ := h
  refine r_icmp_ge g 32 dX12_unmakes_15 (by decide) (fun c5 => ?_) (fun c5 => ?_)
  · replace h := h.1 c5
    refine r_aload_n g dX12_unmakes_32 rfl ?_
    refine r_bipush g 31 dX12_unmakes_33 (by decide) ?_
    refine r_dup2_11 g dX12_unmakes_35 rfl rfl ?_
    obtain ⟨N6, hs_a0_, h⟩ := h
    obtain ⟨hi7, h⟩ := h
    refine r_iaload g hs_a0_ hi7 dX12_unmakes_36 ?_
    refine r_iconst g 1 dX12_unmakes_37 (by decide) ?_
    refine r_isub g dX12_unmakes_38 ?_
    refine r_iastore g hs_a0_ hi7 dX12_unmakes_39 ?_
    exact hr.1 rfl _ _ _ _ _ dX12_unmakes_40 (Nat.le_refl 0) (Nat.le_refl 0) h
  · replace h := h.2 c5
    refine r_aload_n g dX12_unmakes_18 rfl ?_
    refine r_iload_n g dX12_unmakes_19 rfl ?_
    refine r_aload_n g dX12_unmakes_20 rfl ?_
    refine r_iload_n g dX12_unmakes_21 rfl ?_
    refine r_iconst g 5 dX12_unmakes_22 (by decide) ?_
    refine r_iadd g dX12_unmakes_23 ?_
    obtain ⟨N8, hs_a0__, h⟩ := h
    obtain ⟨hi9, h⟩ := h
    refine r_iaload g hs_a0__ hi9 dX12_unmakes_24 ?_
    obtain ⟨hi10, h⟩ := h
    refine r_iastore g hs_a0__ hi10 dX12_unmakes_25 ?_
    refine r_iinc g (x2 + 1) [(2, .int (x2 + 1)), (0, .ref a0)] dX12_unmakes_26 rfl rfl (by decide) rfl ?_
    refine r_goto g 5 dX12_unmakes_29 (by decide) ?_
    refine r_sub g (lv' := [(0, .ref a0), (2, .int (x2 + 1))]) (⟨rfl, rfl, trivial⟩) ?_
    exact h
theorem I_X12_unmakes {d : Nat} {ro : Nat → Nat} {Z : Option Value → Hp → Prop} {μ : Hp} {a0 : Nat} {x1 : Int32} (h : ∀ J, xCtx RX12 cX12_unmakes 3 d 0 0 yX12_unmakes.name ro J → xRet cX12_unmakes none 0 0 Z J → J μ 0 0 0 [(0, .ref a0), (1, .int x1)] []) : xC d yX12_unmakes cX12_unmakes 3 none 0 0 [.ref a0, .int x1] μ ro Z :=
  xC_intro (own := RX12) (lv := [(0, .ref a0), (1, .int x1)]) (by decide) rfl (Nat.le_of_ble_eq_true rfl) rfl (fun J g hr => r_sub g (lv' := [(0, .ref a0), (1, .int x1)]) (⟨rfl, rfl, trivial⟩) (h J g hr))
theorem dX12_owns_0 : decode cX12_owns 0 = .ok (.aload_n 1, 1) := by decide +kernel
theorem dX12_owns_1 : decode cX12_owns 1 = .ok (.iconst 0, 1) := by decide +kernel
theorem dX12_owns_2 : decode cX12_owns 2 = .ok (.iload_n 2, 1) := by decide +kernel
theorem dX12_owns_3 : decode cX12_owns 3 = .ok (.iload_n 3, 1) := by decide +kernel
theorem dX12_owns_4 : decode cX12_owns 4 = .ok (.invokestatic 273, 3) := by decide +kernel
theorem dX12_owns_7 : decode cX12_owns 7 = .ok (.istore 5, 2) := by decide +kernel
theorem dX12_owns_9 : decode cX12_owns 9 = .ok (.aload_n 0, 1) := by decide +kernel
theorem dX12_owns_10 : decode cX12_owns 10 = .ok (.iload 5, 2) := by decide +kernel
theorem dX12_owns_12 : decode cX12_owns 12 = .ok (.iconst (-1), 1) := by decide +kernel
theorem dX12_owns_13 : decode cX12_owns 13 = .ok (.if_icmp .ne 7, 3) := by decide +kernel
theorem dX12_owns_16 : decode cX12_owns 16 = .ok (.iconst 0, 1) := by decide +kernel
theorem dX12_owns_17 : decode cX12_owns 17 = .ok (.goto 12, 3) := by decide +kernel
theorem dX12_owns_20 : decode cX12_owns 20 = .ok (.aload_n 1, 1) := by decide +kernel
theorem dX12_owns_21 : decode cX12_owns 21 = .ok (.iload 5, 2) := by decide +kernel
theorem dX12_owns_23 : decode cX12_owns 23 = .ok (.invokestatic 270, 3) := by decide +kernel
theorem dX12_owns_26 : decode cX12_owns 26 = .ok (.iconst 3, 1) := by decide +kernel
theorem dX12_owns_27 : decode cX12_owns 27 = .ok (.iadd, 1) := by decide +kernel
theorem dX12_owns_28 : decode cX12_owns 28 = .ok (.iaload, 1) := by decide +kernel
theorem dX12_owns_29 : decode cX12_owns 29 = .ok (.putfield 385, 3) := by decide +kernel
theorem dX12_owns_32 : decode cX12_owns 32 = .ok (.iload 5, 2) := by decide +kernel
theorem dX12_owns_34 : decode cX12_owns 34 = .ok (.iconst (-1), 1) := by decide +kernel
theorem dX12_owns_35 : decode cX12_owns 35 = .ok (.if_icmp .ne 15, 3) := by decide +kernel
theorem dX12_owns_38 : decode cX12_owns 38 = .ok (.aload_n 1, 1) := by decide +kernel
theorem dX12_owns_39 : decode cX12_owns 39 = .ok (.iconst 0, 1) := by decide +kernel
theorem dX12_owns_40 : decode cX12_owns 40 = .ok (.iload_n 2, 1) := by decide +kernel
theorem dX12_owns_41 : decode cX12_owns 41 = .ok (.iload_n 3, 1) := by decide +kernel
theorem dX12_owns_42 : decode cX12_owns 42 = .ok (.iload 4, 2) := by decide +kernel
theorem dX12_owns_44 : decode cX12_owns 44 = .ok (.invokestatic 398, 3) := by decide +kernel
theorem dX12_owns_47 : decode cX12_owns 47 = .ok (.goto 28, 3) := by decide +kernel
theorem dX12_owns_50 : decode cX12_owns 50 = .ok (.iload 4, 2) := by decide +kernel
theorem dX12_owns_52 : decode cX12_owns 52 = .ok (.ifCond .ne 12, 3) := by decide +kernel
theorem dX12_owns_55 : decode cX12_owns 55 = .ok (.aload_n 1, 1) := by decide +kernel
theorem dX12_owns_56 : decode cX12_owns 56 = .ok (.iload 5, 2) := by decide +kernel
theorem dX12_owns_58 : decode cX12_owns 58 = .ok (.invokestatic 401, 3) := by decide +kernel
theorem dX12_owns_61 : decode cX12_owns 61 = .ok (.goto 14, 3) := by decide +kernel
theorem dX12_owns_64 : decode cX12_owns 64 = .ok (.aload_n 1, 1) := by decide +kernel
theorem dX12_owns_65 : decode cX12_owns 65 = .ok (.iload 5, 2) := by decide +kernel
theorem dX12_owns_67 : decode cX12_owns 67 = .ok (.invokestatic 270, 3) := by decide +kernel
theorem dX12_owns_70 : decode cX12_owns 70 = .ok (.iconst 3, 1) := by decide +kernel
theorem dX12_owns_71 : decode cX12_owns 71 = .ok (.iadd, 1) := by decide +kernel
theorem dX12_owns_72 : decode cX12_owns 72 = .ok (.iload 4, 2) := by decide +kernel
theorem dX12_owns_74 : decode cX12_owns 74 = .ok (.iastore, 1) := by decide +kernel
theorem dX12_owns_75 : decode cX12_owns 75 = .ok (.return_, 1) := by decide +kernel
set_option maxHeartbeats 4000000 in
set_option maxRecDepth 100000 in
theorem B_X12_owns_0 {d : Nat} {ro : Nat → Nat} {J : JT} {Z : Option Value → Hp → Prop} (g : xCtx RX12 cX12_owns 6 d 0 0 yX12_owns.name ro J) (hr : xRet cX12_owns none 0 0 Z J) {μ : Hp} {a0 : Nat} {a1 : Nat} {x2 : Int32} {x3 : Int32} {x4 : Int32} 
    (h : xCall d yX12_linkOf cX12_linkOf 5 (some .int) [.ref a1, .int 0, .int x2, .int x3] μ ro (fun r1 μ2 => ∃ y3 : Int32, r1 = some (.int y3) ∧ ((¬ y3 = (-1) → xCall d yX12_linkRow cX12_linkRow 1 (some .int) [.int y3] μ2 ro (fun r5 μ6 => ∃ y7 : Int32, r5 = some (.int y7) ∧ ∃ N8 : Nat, hS μ6 a1 = some (0, N8) ∧ vp_in (y7 + 3) N8 ∧ hS μ6 a0 = some (15, 65) ∧ ((¬ y3 = (-1) → ((¬ x4 = 0 → xCall d yX12_linkRow cX12_linkRow 1 (some .int) [.int y3] (wI μ6 a0 59 (hI μ6 a1 ((y7 + 3).toNatClampNeg))) ro (fun r12 μ13 => ∃ y14 : Int32, r12 = some (.int y14) ∧ ∃ N15 : Nat, hS μ13 a1 = some (0, N15) ∧ vp_in (y14 + 3) N15 ∧ Z none (wI μ13 a1 ((y14 + 3).toNatClampNeg) x4))) ∧ (x4 = 0 → xCall d yX12_unmakes cX12_unmakes 3 none [.ref a1, .int y3] (wI μ6 a0 59 (hI μ6 a1 ((y7 + 3).toNatClampNeg))) ro (fun r17 μ18 => r17 = none ∧ Z none μ18)))) ∧ (y3 = (-1) → xCall d yX12_makes cX12_makes 6 none [.ref a1, .int 0, .int x2, .int x3, .int x4] (wI μ6 a0 59 (hI μ6 a1 ((y7 + 3).toNatClampNeg))) ro (fun r19 μ20 => r19 = none ∧ Z none μ20))))) ∧ (y3 = (-1) → hS μ2 a0 = some (15, 65) ∧ ((¬ y3 = (-1) → ((¬ x4 = 0 → xCall d yX12_linkRow cX12_linkRow 1 (some .int) [.int y3] (wI μ2 a0 59 0) ro (fun r23 μ24 => ∃ y25 : Int32, r23 = some (.int y25) ∧ ∃ N26 : Nat, hS μ24 a1 = some (0, N26) ∧ vp_in (y25 + 3) N26 ∧ Z none (wI μ24 a1 ((y25 + 3).toNatClampNeg) x4))) ∧ (x4 = 0 → xCall d yX12_unmakes cX12_unmakes 3 none [.ref a1, .int y3] (wI μ2 a0 59 0) ro (fun r28 μ29 => r28 = none ∧ Z none μ29)))) ∧ (y3 = (-1) → xCall d yX12_makes cX12_makes 6 none [.ref a1, .int 0, .int x2, .int x3, .int x4] (wI μ2 a0 59 0) ro (fun r30 μ31 => r30 = none ∧ Z none μ31))))))) :
    J μ 0 0 0 [(0, .ref a0), (1, .ref a1), (2, .int x2), (3, .int x3), (4, .int x4)] [] := by
  refine r_aload_n g dX12_owns_0 rfl ?_
  refine r_iconst g 0 dX12_owns_1 (by decide) ?_
  refine r_iload_n g dX12_owns_2 rfl ?_
  refine r_iload_n g dX12_owns_3 rfl ?_
  obtain ⟨d1, Z1, hc1, hd1, h1⟩ := h
  refine r_callS (st := []) (As := [.ref a1, .int 0, .int x2, .int x3]) g sX12_273 iX12_linkOf rfl (Nat.le_of_ble_eq_true rfl) dX12_owns_4 hd1 (Nat.le_refl 0) (Nat.le_refl 0) hc1 (fun r1 μ2 hZ1 => ?_)
  replace h := h1 _ _ hZ1
  clear h1 hc1 hd1 hZ1 Z1 d1
  obtain ⟨y3, rfl, h⟩ := h
  refine r_istore g [(5, .int y3), (0, .ref a0), (1, .ref a1), (2, .int x2), (3, .int x3), (4, .int x4)] dX12_owns_7 (by decide) rfl ?_
  refine r_aload_n g dX12_owns_9 rfl ?_
  refine r_iload g dX12_owns_10 rfl ?_
  refine r_iconst g (-1) dX12_owns_12 (by decide) ?_
  refine r_icmp_ne g 20 dX12_owns_13 (by decide) (fun c4 => ?_) (fun c4 => ?_)
  · replace h := h.1 c4
    refine r_aload_n g dX12_owns_20 rfl ?_
    refine r_iload g dX12_owns_21 rfl ?_
    obtain ⟨d1, Z1, hc1, hd1, h1⟩ := h
    refine r_callS (st := [.ref a1, .ref a0]) (As := [.int y3]) g sX12_270 iX12_linkRow rfl (Nat.le_of_ble_eq_true rfl) dX12_owns_23 hd1 (Nat.le_refl 0) (Nat.le_refl 0) hc1 (fun r5 μ6 hZ1 => ?_)
    replace h := h1 _ _ hZ1
    clear h1 hc1 hd1 hZ1 Z1 d1
    obtain ⟨y7, rfl, h⟩ := h
    refine r_iconst g 3 dX12_owns_26 (by decide) ?_
    refine r_iadd g dX12_owns_27 ?_
    obtain ⟨N8, hs_a1, h⟩ := h
    obtain ⟨hi9, h⟩ := h
    refine r_iaload g hs_a1 hi9 dX12_owns_28 ?_
    obtain ⟨hs_a0, h⟩ := h
    refine r_putI g fX12_385 rfl hs_a0 rfl rfl dX12_owns_29 ?_
    refine r_iload g dX12_owns_32 rfl ?_
    refine r_iconst g (-1) dX12_owns_34 (by decide) ?_
    refine r_icmp_ne g 50 dX12_owns_35 (by decide) (fun c10 => ?_) (fun c10 => ?_)
    · replace h := h.1 c10
      refine r_iload g dX12_owns_50 rfl ?_
      refine r_if_ne g 64 dX12_owns_52 (by decide) (fun c11 => ?_) (fun c11 => ?_)
      · replace h := h.1 c11
        refine r_aload_n g dX12_owns_64 rfl ?_
        refine r_iload g dX12_owns_65 rfl ?_
        obtain ⟨d1, Z1, hc1, hd1, h1⟩ := h
        refine r_callS (st := [.ref a1]) (As := [.int y3]) g sX12_270 iX12_linkRow rfl (Nat.le_of_ble_eq_true rfl) dX12_owns_67 hd1 (Nat.le_refl 0) (Nat.le_refl 0) hc1 (fun r12 μ13 hZ1 => ?_)
        replace h := h1 _ _ hZ1
        clear h1 hc1 hd1 hZ1 Z1 d1
        obtain ⟨y14, rfl, h⟩ := h
        refine r_iconst g 3 dX12_owns_70 (by decide) ?_
        refine r_iadd g dX12_owns_71 ?_
        refine r_iload g dX12_owns_72 rfl ?_
        obtain ⟨N15, hs_a1_, h⟩ := h
        obtain ⟨hi16, h⟩ := h
        refine r_iastore g hs_a1_ hi16 dX12_owns_74 ?_
        exact hr.1 rfl _ _ _ _ _ dX12_owns_75 (Nat.le_refl 0) (Nat.le_refl 0) h
      · replace h := h.2 c11
        refine r_aload_n g dX12_owns_55 rfl ?_
        refine r_iload g dX12_owns_56 rfl ?_
        obtain ⟨d1, Z1, hc1, hd1, h1⟩ := h
        refine r_callS (st := []) (As := [.ref a1, .int y3]) g sX12_401 iX12_unmakes rfl (Nat.le_of_ble_eq_true rfl) dX12_owns_58 hd1 (Nat.le_refl 0) (Nat.le_refl 0) hc1 (fun r17 μ18 hZ1 => ?_)
        replace h := h1 _ _ hZ1
        clear h1 hc1 hd1 hZ1 Z1 d1
        obtain ⟨rfl, h⟩ := h
        refine r_goto g 75 dX12_owns_61 (by decide) ?_
        exact hr.1 rfl _ _ _ _ _ dX12_owns_75 (Nat.le_refl 0) (Nat.le_refl 0) h
    · replace h := h.2 c10
      refine r_aload_n g dX12_owns_38 rfl ?_
      refine r_iconst g 0 dX12_owns_39 (by decide) ?_
      refine r_iload_n g dX12_owns_40 rfl ?_
      refine r_iload_n g dX12_owns_41 rfl ?_
      refine r_iload g dX12_owns_42 rfl ?_
      obtain ⟨d1, Z1, hc1, hd1, h1⟩ := h
      refine r_callS (st := []) (As := [.ref a1, .int 0, .int x2, .int x3, .int x4]) g sX12_398 iX12_makes rfl (Nat.le_of_ble_eq_true rfl) dX12_owns_44 hd1 (Nat.le_refl 0) (Nat.le_refl 0) hc1 (fun r19 μ20 hZ1 => ?_)
      replace h := h1 _ _ hZ1
      clear h1 hc1 hd1 hZ1 Z1 d1
      obtain ⟨rfl, h⟩ := h
      refine r_goto g 75 dX12_owns_47 (by decide) ?_
      exact hr.1 rfl _ _ _ _ _ dX12_owns_75 (Nat.le_refl 0) (Nat.le_refl 0) h
  · replace h := h.2 c4
    refine r_iconst g 0 dX12_owns_16 (by decide) ?_
    refine r_goto g 29 dX12_owns_17 (by decide) ?_
    obtain ⟨hs_a0_, h⟩ := h
    refine r_putI g fX12_385 rfl hs_a0_ rfl rfl dX12_owns_29 ?_
    refine r_iload g dX12_owns_32 rfl ?_
    refine r_iconst g (-1) dX12_owns_34 (by decide) ?_
    refine r_icmp_ne g 50 dX12_owns_35 (by decide) (fun c21 => ?_) (fun c21 => ?_)
    · replace h := h.1 c21
      refine r_iload g dX12_owns_50 rfl ?_
      refine r_if_ne g 64 dX12_owns_52 (by decide) (fun c22 => ?_) (fun c22 => ?_)
      · replace h := h.1 c22
        refine r_aload_n g dX12_owns_64 rfl ?_
        refine r_iload g dX12_owns_65 rfl ?_
        obtain ⟨d1, Z1, hc1, hd1, h1⟩ := h
        refine r_callS (st := [.ref a1]) (As := [.int y3]) g sX12_270 iX12_linkRow rfl (Nat.le_of_ble_eq_true rfl) dX12_owns_67 hd1 (Nat.le_refl 0) (Nat.le_refl 0) hc1 (fun r23 μ24 hZ1 => ?_)
        replace h := h1 _ _ hZ1
        clear h1 hc1 hd1 hZ1 Z1 d1
        obtain ⟨y25, rfl, h⟩ := h
        refine r_iconst g 3 dX12_owns_70 (by decide) ?_
        refine r_iadd g dX12_owns_71 ?_
        refine r_iload g dX12_owns_72 rfl ?_
        obtain ⟨N26, hs_a1__, h⟩ := h
        obtain ⟨hi27, h⟩ := h
        refine r_iastore g hs_a1__ hi27 dX12_owns_74 ?_
        exact hr.1 rfl _ _ _ _ _ dX12_owns_75 (Nat.le_refl 0) (Nat.le_refl 0) h
      · replace h := h.2 c22
        refine r_aload_n g dX12_owns_55 rfl ?_
        refine r_iload g dX12_owns_56 rfl ?_
        obtain ⟨d1, Z1, hc1, hd1, h1⟩ := h
        refine r_callS (st := []) (As := [.ref a1, .int y3]) g sX12_401 iX12_unmakes rfl (Nat.le_of_ble_eq_true rfl) dX12_owns_58 hd1 (Nat.le_refl 0) (Nat.le_refl 0) hc1 (fun r28 μ29 hZ1 => ?_)
        replace h := h1 _ _ hZ1
        clear h1 hc1 hd1 hZ1 Z1 d1
        obtain ⟨rfl, h⟩ := h
        refine r_goto g 75 dX12_owns_61 (by decide) ?_
        exact hr.1 rfl _ _ _ _ _ dX12_owns_75 (Nat.le_refl 0) (Nat.le_refl 0) h
    · replace h := h.2 c21
      refine r_aload_n g dX12_owns_38 rfl ?_
      refine r_iconst g 0 dX12_owns_39 (by decide) ?_
      refine r_iload_n g dX12_owns_40 rfl ?_
      refine r_iload_n g dX12_owns_41 rfl ?_
      refine r_iload g dX12_owns_42 rfl ?_
      obtain ⟨d1, Z1, hc1, hd1, h1⟩ := h
      refine r_callS (st := []) (As := [.ref a1, .int 0, .int x2, .int x3, .int x4]) g sX12_398 iX12_makes rfl (Nat.le_of_ble_eq_true rfl) dX12_owns_44 hd1 (Nat.le_refl 0) (Nat.le_refl 0) hc1 (fun r30 μ31 hZ1 => ?_)
      replace h := h1 _ _ hZ1
      clear h1 hc1 hd1 hZ1 Z1 d1
      obtain ⟨rfl, h⟩ := h
      refine r_goto g 75 dX12_owns_47 (by decide) ?_
      exact hr.1 rfl _ _ _ _ _ dX12_owns_75 (Nat.le_refl 0) (Nat.le_refl 0) h
theorem I_X12_owns {d : Nat} {ro : Nat → Nat} {Z : Option Value → Hp → Prop} {μ : Hp} {a0 : Nat} {a1 : Nat} {x2 : Int32} {x3 : Int32} {x4 : Int32} (h : ∀ J, xCtx RX12 cX12_owns 6 d 0 0 yX12_owns.name ro J → xRet cX12_owns none 0 0 Z J → J μ 0 0 0 [(0, .ref a0), (1, .ref a1), (2, .int x2), (3, .int x3), (4, .int x4)] []) : xC d yX12_owns cX12_owns 6 none 0 0 [.ref a0, .ref a1, .int x2, .int x3, .int x4] μ ro Z :=
  xC_intro (own := RX12) (lv := [(0, .ref a0), (1, .ref a1), (2, .int x2), (3, .int x3), (4, .int x4)]) (by decide) rfl (Nat.le_of_ble_eq_true rfl) rfl (fun J g hr => r_sub g (lv' := [(0, .ref a0), (1, .ref a1), (2, .int x2), (3, .int x3), (4, .int x4)]) (⟨rfl, rfl, rfl, rfl, rfl, trivial⟩) (h J g hr))
theorem dX12_lends_0 : decode cX12_lends 0 = .ok (.aload_n 1, 1) := by decide +kernel
theorem dX12_lends_1 : decode cX12_lends 1 = .ok (.iconst 1, 1) := by decide +kernel
theorem dX12_lends_2 : decode cX12_lends 2 = .ok (.iload_n 2, 1) := by decide +kernel
theorem dX12_lends_3 : decode cX12_lends 3 = .ok (.iload_n 3, 1) := by decide +kernel
theorem dX12_lends_4 : decode cX12_lends 4 = .ok (.invokestatic 273, 3) := by decide +kernel
theorem dX12_lends_7 : decode cX12_lends 7 = .ok (.istore 4, 2) := by decide +kernel
theorem dX12_lends_9 : decode cX12_lends 9 = .ok (.aload_n 0, 1) := by decide +kernel
theorem dX12_lends_10 : decode cX12_lends 10 = .ok (.iload 4, 2) := by decide +kernel
theorem dX12_lends_12 : decode cX12_lends 12 = .ok (.iconst (-1), 1) := by decide +kernel
theorem dX12_lends_13 : decode cX12_lends 13 = .ok (.if_icmp .ne 7, 3) := by decide +kernel
theorem dX12_lends_16 : decode cX12_lends 16 = .ok (.iconst 1, 1) := by decide +kernel
theorem dX12_lends_17 : decode cX12_lends 17 = .ok (.goto 4, 3) := by decide +kernel
theorem dX12_lends_20 : decode cX12_lends 20 = .ok (.iconst 0, 1) := by decide +kernel
theorem dX12_lends_21 : decode cX12_lends 21 = .ok (.putfield 385, 3) := by decide +kernel
theorem dX12_lends_24 : decode cX12_lends 24 = .ok (.iload 4, 2) := by decide +kernel
theorem dX12_lends_26 : decode cX12_lends 26 = .ok (.iconst (-1), 1) := by decide +kernel
theorem dX12_lends_27 : decode cX12_lends 27 = .ok (.if_icmp .ne 14, 3) := by decide +kernel
theorem dX12_lends_30 : decode cX12_lends 30 = .ok (.aload_n 1, 1) := by decide +kernel
theorem dX12_lends_31 : decode cX12_lends 31 = .ok (.iconst 1, 1) := by decide +kernel
theorem dX12_lends_32 : decode cX12_lends 32 = .ok (.iload_n 2, 1) := by decide +kernel
theorem dX12_lends_33 : decode cX12_lends 33 = .ok (.iload_n 3, 1) := by decide +kernel
theorem dX12_lends_34 : decode cX12_lends 34 = .ok (.iconst 0, 1) := by decide +kernel
theorem dX12_lends_35 : decode cX12_lends 35 = .ok (.invokestatic 398, 3) := by decide +kernel
theorem dX12_lends_38 : decode cX12_lends 38 = .ok (.goto 9, 3) := by decide +kernel
theorem dX12_lends_41 : decode cX12_lends 41 = .ok (.aload_n 1, 1) := by decide +kernel
theorem dX12_lends_42 : decode cX12_lends 42 = .ok (.iload 4, 2) := by decide +kernel
theorem dX12_lends_44 : decode cX12_lends 44 = .ok (.invokestatic 401, 3) := by decide +kernel
theorem dX12_lends_47 : decode cX12_lends 47 = .ok (.return_, 1) := by decide +kernel
set_option maxHeartbeats 4000000 in
set_option maxRecDepth 100000 in
theorem B_X12_lends_0 {d : Nat} {ro : Nat → Nat} {J : JT} {Z : Option Value → Hp → Prop} (g : xCtx RX12 cX12_lends 5 d 0 0 yX12_lends.name ro J) (hr : xRet cX12_lends none 0 0 Z J) {μ : Hp} {a0 : Nat} {a1 : Nat} {x2 : Int32} {x3 : Int32} 
    (h : xCall d yX12_linkOf cX12_linkOf 5 (some .int) [.ref a1, .int 1, .int x2, .int x3] μ ro (fun r1 μ2 => ∃ y3 : Int32, r1 = some (.int y3) ∧ ((¬ y3 = (-1) → hS μ2 a0 = some (15, 65) ∧ ((¬ y3 = (-1) → xCall d yX12_unmakes cX12_unmakes 3 none [.ref a1, .int y3] (wI μ2 a0 59 0) ro (fun r6 μ7 => r6 = none ∧ Z none μ7)) ∧ (y3 = (-1) → xCall d yX12_makes cX12_makes 6 none [.ref a1, .int 1, .int x2, .int x3, .int 0] (wI μ2 a0 59 0) ro (fun r8 μ9 => r8 = none ∧ Z none μ9)))) ∧ (y3 = (-1) → hS μ2 a0 = some (15, 65) ∧ ((¬ y3 = (-1) → xCall d yX12_unmakes cX12_unmakes 3 none [.ref a1, .int y3] (wI μ2 a0 59 1) ro (fun r11 μ12 => r11 = none ∧ Z none μ12)) ∧ (y3 = (-1) → xCall d yX12_makes cX12_makes 6 none [.ref a1, .int 1, .int x2, .int x3, .int 0] (wI μ2 a0 59 1) ro (fun r13 μ14 => r13 = none ∧ Z none μ14))))))) :
    J μ 0 0 0 [(0, .ref a0), (1, .ref a1), (2, .int x2), (3, .int x3)] [] := by
  refine r_aload_n g dX12_lends_0 rfl ?_
  refine r_iconst g 1 dX12_lends_1 (by decide) ?_
  refine r_iload_n g dX12_lends_2 rfl ?_
  refine r_iload_n g dX12_lends_3 rfl ?_
  obtain ⟨d1, Z1, hc1, hd1, h1⟩ := h
  refine r_callS (st := []) (As := [.ref a1, .int 1, .int x2, .int x3]) g sX12_273 iX12_linkOf rfl (Nat.le_of_ble_eq_true rfl) dX12_lends_4 hd1 (Nat.le_refl 0) (Nat.le_refl 0) hc1 (fun r1 μ2 hZ1 => ?_)
  replace h := h1 _ _ hZ1
  clear h1 hc1 hd1 hZ1 Z1 d1
  obtain ⟨y3, rfl, h⟩ := h
  refine r_istore g [(4, .int y3), (0, .ref a0), (1, .ref a1), (2, .int x2), (3, .int x3)] dX12_lends_7 (by decide) rfl ?_
  refine r_aload_n g dX12_lends_9 rfl ?_
  refine r_iload g dX12_lends_10 rfl ?_
  refine r_iconst g (-1) dX12_lends_12 (by decide) ?_
  refine r_icmp_ne g 20 dX12_lends_13 (by decide) (fun c4 => ?_) (fun c4 => ?_)
  · replace h := h.1 c4
    refine r_iconst g 0 dX12_lends_20 (by decide) ?_
    obtain ⟨hs_a0, h⟩ := h
    refine r_putI g fX12_385 rfl hs_a0 rfl rfl dX12_lends_21 ?_
    refine r_iload g dX12_lends_24 rfl ?_
    refine r_iconst g (-1) dX12_lends_26 (by decide) ?_
    refine r_icmp_ne g 41 dX12_lends_27 (by decide) (fun c5 => ?_) (fun c5 => ?_)
    · replace h := h.1 c5
      refine r_aload_n g dX12_lends_41 rfl ?_
      refine r_iload g dX12_lends_42 rfl ?_
      obtain ⟨d1, Z1, hc1, hd1, h1⟩ := h
      refine r_callS (st := []) (As := [.ref a1, .int y3]) g sX12_401 iX12_unmakes rfl (Nat.le_of_ble_eq_true rfl) dX12_lends_44 hd1 (Nat.le_refl 0) (Nat.le_refl 0) hc1 (fun r6 μ7 hZ1 => ?_)
      replace h := h1 _ _ hZ1
      clear h1 hc1 hd1 hZ1 Z1 d1
      obtain ⟨rfl, h⟩ := h
      exact hr.1 rfl _ _ _ _ _ dX12_lends_47 (Nat.le_refl 0) (Nat.le_refl 0) h
    · replace h := h.2 c5
      refine r_aload_n g dX12_lends_30 rfl ?_
      refine r_iconst g 1 dX12_lends_31 (by decide) ?_
      refine r_iload_n g dX12_lends_32 rfl ?_
      refine r_iload_n g dX12_lends_33 rfl ?_
      refine r_iconst g 0 dX12_lends_34 (by decide) ?_
      obtain ⟨d1, Z1, hc1, hd1, h1⟩ := h
      refine r_callS (st := []) (As := [.ref a1, .int 1, .int x2, .int x3, .int 0]) g sX12_398 iX12_makes rfl (Nat.le_of_ble_eq_true rfl) dX12_lends_35 hd1 (Nat.le_refl 0) (Nat.le_refl 0) hc1 (fun r8 μ9 hZ1 => ?_)
      replace h := h1 _ _ hZ1
      clear h1 hc1 hd1 hZ1 Z1 d1
      obtain ⟨rfl, h⟩ := h
      refine r_goto g 47 dX12_lends_38 (by decide) ?_
      exact hr.1 rfl _ _ _ _ _ dX12_lends_47 (Nat.le_refl 0) (Nat.le_refl 0) h
  · replace h := h.2 c4
    refine r_iconst g 1 dX12_lends_16 (by decide) ?_
    refine r_goto g 21 dX12_lends_17 (by decide) ?_
    obtain ⟨hs_a0_, h⟩ := h
    refine r_putI g fX12_385 rfl hs_a0_ rfl rfl dX12_lends_21 ?_
    refine r_iload g dX12_lends_24 rfl ?_
    refine r_iconst g (-1) dX12_lends_26 (by decide) ?_
    refine r_icmp_ne g 41 dX12_lends_27 (by decide) (fun c10 => ?_) (fun c10 => ?_)
    · replace h := h.1 c10
      refine r_aload_n g dX12_lends_41 rfl ?_
      refine r_iload g dX12_lends_42 rfl ?_
      obtain ⟨d1, Z1, hc1, hd1, h1⟩ := h
      refine r_callS (st := []) (As := [.ref a1, .int y3]) g sX12_401 iX12_unmakes rfl (Nat.le_of_ble_eq_true rfl) dX12_lends_44 hd1 (Nat.le_refl 0) (Nat.le_refl 0) hc1 (fun r11 μ12 hZ1 => ?_)
      replace h := h1 _ _ hZ1
      clear h1 hc1 hd1 hZ1 Z1 d1
      obtain ⟨rfl, h⟩ := h
      exact hr.1 rfl _ _ _ _ _ dX12_lends_47 (Nat.le_refl 0) (Nat.le_refl 0) h
    · replace h := h.2 c10
      refine r_aload_n g dX12_lends_30 rfl ?_
      refine r_iconst g 1 dX12_lends_31 (by decide) ?_
      refine r_iload_n g dX12_lends_32 rfl ?_
      refine r_iload_n g dX12_lends_33 rfl ?_
      refine r_iconst g 0 dX12_lends_34 (by decide) ?_
      obtain ⟨d1, Z1, hc1, hd1, h1⟩ := h
      refine r_callS (st := []) (As := [.ref a1, .int 1, .int x2, .int x3, .int 0]) g sX12_398 iX12_makes rfl (Nat.le_of_ble_eq_true rfl) dX12_lends_35 hd1 (Nat.le_refl 0) (Nat.le_refl 0) hc1 (fun r13 μ14 hZ1 => ?_)
      replace h := h1 _ _ hZ1
      clear h1 hc1 hd1 hZ1 Z1 d1
      obtain ⟨rfl, h⟩ := h
      refine r_goto g 47 dX12_lends_38 (by decide) ?_
      exact hr.1 rfl _ _ _ _ _ dX12_lends_47 (Nat.le_refl 0) (Nat.le_refl 0) h
theorem I_X12_lends {d : Nat} {ro : Nat → Nat} {Z : Option Value → Hp → Prop} {μ : Hp} {a0 : Nat} {a1 : Nat} {x2 : Int32} {x3 : Int32} (h : ∀ J, xCtx RX12 cX12_lends 5 d 0 0 yX12_lends.name ro J → xRet cX12_lends none 0 0 Z J → J μ 0 0 0 [(0, .ref a0), (1, .ref a1), (2, .int x2), (3, .int x3)] []) : xC d yX12_lends cX12_lends 5 none 0 0 [.ref a0, .ref a1, .int x2, .int x3] μ ro Z :=
  xC_intro (own := RX12) (lv := [(0, .ref a0), (1, .ref a1), (2, .int x2), (3, .int x3)]) (by decide) rfl (Nat.le_of_ble_eq_true rfl) rfl (fun J g hr => r_sub g (lv' := [(0, .ref a0), (1, .ref a1), (2, .int x2), (3, .int x3)]) (⟨rfl, rfl, rfl, rfl, trivial⟩) (h J g hr))
theorem dX12_remember_0 : decode cX12_remember 0 = .ok (.aload_n 0, 1) := by decide +kernel
theorem dX12_remember_1 : decode cX12_remember 1 = .ok (.getfield 251, 3) := by decide +kernel
theorem dX12_remember_4 : decode cX12_remember 4 = .ok (.bipush 40, 2) := by decide +kernel
theorem dX12_remember_6 : decode cX12_remember 6 = .ok (.if_icmp .ne 19, 3) := by decide +kernel
theorem dX12_remember_9 : decode cX12_remember 9 = .ok (.aload_n 0, 1) := by decide +kernel
theorem dX12_remember_10 : decode cX12_remember 10 = .ok (.aload_n 0, 1) := by decide +kernel
theorem dX12_remember_11 : decode cX12_remember 11 = .ok (.getfield 405, 3) := by decide +kernel
theorem dX12_remember_14 : decode cX12_remember 14 = .ok (.iconst 1, 1) := by decide +kernel
theorem dX12_remember_15 : decode cX12_remember 15 = .ok (.iadd, 1) := by decide +kernel
theorem dX12_remember_16 : decode cX12_remember 16 = .ok (.bipush 40, 2) := by decide +kernel
theorem dX12_remember_18 : decode cX12_remember 18 = .ok (.irem, 1) := by decide +kernel
theorem dX12_remember_19 : decode cX12_remember 19 = .ok (.putfield 405, 3) := by decide +kernel
theorem dX12_remember_22 : decode cX12_remember 22 = .ok (.goto 13, 3) := by decide +kernel
theorem dX12_remember_25 : decode cX12_remember 25 = .ok (.aload_n 0, 1) := by decide +kernel
theorem dX12_remember_26 : decode cX12_remember 26 = .ok (.dup, 1) := by decide +kernel
theorem dX12_remember_27 : decode cX12_remember 27 = .ok (.getfield 251, 3) := by decide +kernel
theorem dX12_remember_30 : decode cX12_remember 30 = .ok (.iconst 1, 1) := by decide +kernel
theorem dX12_remember_31 : decode cX12_remember 31 = .ok (.iadd, 1) := by decide +kernel
theorem dX12_remember_32 : decode cX12_remember 32 = .ok (.putfield 251, 3) := by decide +kernel
theorem dX12_remember_35 : decode cX12_remember 35 = .ok (.aload_n 0, 1) := by decide +kernel
theorem dX12_remember_36 : decode cX12_remember 36 = .ok (.getfield 57, 3) := by decide +kernel
theorem dX12_remember_39 : decode cX12_remember 39 = .ok (.iconst 0, 1) := by decide +kernel
theorem dX12_remember_40 : decode cX12_remember 40 = .ok (.aload_n 0, 1) := by decide +kernel
theorem dX12_remember_41 : decode cX12_remember 41 = .ok (.getfield 66, 3) := by decide +kernel
theorem dX12_remember_44 : decode cX12_remember 44 = .ok (.sipush 293, 3) := by decide +kernel
theorem dX12_remember_47 : decode cX12_remember 47 = .ok (.aload_n 0, 1) := by decide +kernel
theorem dX12_remember_48 : decode cX12_remember 48 = .ok (.getfield 405, 3) := by decide +kernel
theorem dX12_remember_51 : decode cX12_remember 51 = .ok (.aload_n 0, 1) := by decide +kernel
theorem dX12_remember_52 : decode cX12_remember 52 = .ok (.getfield 251, 3) := by decide +kernel
theorem dX12_remember_55 : decode cX12_remember 55 = .ok (.iadd, 1) := by decide +kernel
theorem dX12_remember_56 : decode cX12_remember 56 = .ok (.iconst 1, 1) := by decide +kernel
theorem dX12_remember_57 : decode cX12_remember 57 = .ok (.isub, 1) := by decide +kernel
theorem dX12_remember_58 : decode cX12_remember 58 = .ok (.bipush 40, 2) := by decide +kernel
theorem dX12_remember_60 : decode cX12_remember 60 = .ok (.irem, 1) := by decide +kernel
theorem dX12_remember_61 : decode cX12_remember 61 = .ok (.imul, 1) := by decide +kernel
theorem dX12_remember_62 : decode cX12_remember 62 = .ok (.invokestatic 408, 3) := by decide +kernel
theorem dX12_remember_65 : decode cX12_remember 65 = .ok (.return_, 1) := by decide +kernel
set_option maxHeartbeats 4000000 in
set_option maxRecDepth 100000 in
theorem B_X12_remember_0 {d : Nat} {ro : Nat → Nat} {J : JT} {Z : Option Value → Hp → Prop} (g : xCtx RX12 cX12_remember 1 d 0 0 yX12_remember.name ro J) (hr : xRet cX12_remember none 0 0 Z J) {μ : Hp} {a0 : Nat} {a0_now : Nat} {a0_kept : Nat} (hs_a0 : hS μ a0 = some (15, 65)) (hr_a0_now : hR μ a0 30 = some a0_now) (hr_a0_kept : hR μ a0 33 = some a0_kept)
    (h : ((¬ (hI μ a0 35) = 40 → (∀ v2 : Int32, v2 = ((hI (wI μ a0 35 ((hI μ a0 35) + 1)) a0 34) + (hI (wI μ a0 35 ((hI μ a0 35) + 1)) a0 35)) → xCall d yX12_copyRow cX12_copyRow 5 none [.ref a0_now, .int 0, .ref a0_kept, .int (293 * ((v2 - 1) - (v2 - 1) / 40 * 40))] (wI μ a0 35 ((hI μ a0 35) + 1)) ro (fun r3 μ4 => r3 = none ∧ Z none μ4))) ∧ ((hI μ a0 35) = 40 → (∀ v5 : Int32, v5 = (hI (wI μ a0 34 (((hI μ a0 34) + 1) - ((hI μ a0 34) + 1) / 40 * 40)) a0 34) → (∀ v6 : Int32, v6 = (hI (wI μ a0 34 (((hI μ a0 34) + 1) - ((hI μ a0 34) + 1) / 40 * 40)) a0 35) → xCall d yX12_copyRow cX12_copyRow 5 none [.ref a0_now, .int 0, .ref a0_kept, .int (293 * (((v5 + v6) - 1) - ((v5 + v6) - 1) / 40 * 40))] (wI μ a0 34 (((hI μ a0 34) + 1) - ((hI μ a0 34) + 1) / 40 * 40)) ro (fun r7 μ8 => r7 = none ∧ Z none μ8)))))) :
    J μ 0 0 0 [(0, .ref a0)] [] := by
  refine r_aload_n g dX12_remember_0 rfl ?_
  refine r_getI g fX12_251 rfl hs_a0 dX12_remember_1 ?_
  refine r_bipush g 40 dX12_remember_4 (by decide) ?_
  refine r_icmp_ne g 25 dX12_remember_6 (by decide) (fun c1 => ?_) (fun c1 => ?_)
  · replace h := h.1 c1
    refine r_aload_n g dX12_remember_25 rfl ?_
    refine r_dup g dX12_remember_26 rfl ?_
    refine r_getI g fX12_251 rfl hs_a0 dX12_remember_27 ?_
    refine r_iconst g 1 dX12_remember_30 (by decide) ?_
    refine r_iadd g dX12_remember_31 ?_
    refine r_putI g fX12_251 rfl hs_a0 rfl rfl dX12_remember_32 ?_
    refine r_aload_n g dX12_remember_35 rfl ?_
    refine r_getR g fX12_57 rfl hs_a0 hr_a0_now dX12_remember_36 ?_
    refine r_iconst g 0 dX12_remember_39 (by decide) ?_
    refine r_aload_n g dX12_remember_40 rfl ?_
    refine r_getR g fX12_66 rfl hs_a0 hr_a0_kept dX12_remember_41 ?_
    refine r_sipush g 293 dX12_remember_44 (by decide) ?_
    refine r_aload_n g dX12_remember_47 rfl ?_
    refine r_getI g fX12_405 rfl hs_a0 dX12_remember_48 ?_
    refine r_aload_n g dX12_remember_51 rfl ?_
    refine r_getI g fX12_251 rfl hs_a0 dX12_remember_52 ?_
    refine r_iadd g dX12_remember_55 ?_
    refine r_nmI (fun v2 ev2 => ?_)
    replace h := h v2 ev2
    refine r_iconst g 1 dX12_remember_56 (by decide) ?_
    refine r_isub g dX12_remember_57 ?_
    refine r_bipush g 40 dX12_remember_58 (by decide) ?_
    refine r_irem g (by decide) dX12_remember_60 ?_
    refine r_imul g dX12_remember_61 ?_
    obtain ⟨d1, Z1, hc1, hd1, h1⟩ := h
    refine r_callS (st := []) (As := [.ref a0_now, .int 0, .ref a0_kept, .int (293 * ((v2 - 1) - (v2 - 1) / 40 * 40))]) g sX12_408 iX12_copyRow rfl (Nat.le_of_ble_eq_true rfl) dX12_remember_62 hd1 (Nat.le_refl 0) (Nat.le_refl 0) hc1 (fun r3 μ4 hZ1 => ?_)
    replace h := h1 _ _ hZ1
    clear h1 hc1 hd1 hZ1 Z1 d1
    obtain ⟨rfl, h⟩ := h
    exact hr.1 rfl _ _ _ _ _ dX12_remember_65 (Nat.le_refl 0) (Nat.le_refl 0) h
  · replace h := h.2 c1
    refine r_aload_n g dX12_remember_9 rfl ?_
    refine r_aload_n g dX12_remember_10 rfl ?_
    refine r_getI g fX12_405 rfl hs_a0 dX12_remember_11 ?_
    refine r_iconst g 1 dX12_remember_14 (by decide) ?_
    refine r_iadd g dX12_remember_15 ?_
    refine r_bipush g 40 dX12_remember_16 (by decide) ?_
    refine r_irem g (by decide) dX12_remember_18 ?_
    refine r_putI g fX12_405 rfl hs_a0 rfl rfl dX12_remember_19 ?_
    refine r_goto g 35 dX12_remember_22 (by decide) ?_
    refine r_aload_n g dX12_remember_35 rfl ?_
    refine r_getR g fX12_57 rfl hs_a0 hr_a0_now dX12_remember_36 ?_
    refine r_iconst g 0 dX12_remember_39 (by decide) ?_
    refine r_aload_n g dX12_remember_40 rfl ?_
    refine r_getR g fX12_66 rfl hs_a0 hr_a0_kept dX12_remember_41 ?_
    refine r_sipush g 293 dX12_remember_44 (by decide) ?_
    refine r_aload_n g dX12_remember_47 rfl ?_
    refine r_getI g fX12_405 rfl hs_a0 dX12_remember_48 ?_
    refine r_nmI (fun v5 ev5 => ?_)
    replace h := h v5 ev5
    refine r_aload_n g dX12_remember_51 rfl ?_
    refine r_getI g fX12_251 rfl hs_a0 dX12_remember_52 ?_
    refine r_nmI (fun v6 ev6 => ?_)
    replace h := h v6 ev6
    refine r_iadd g dX12_remember_55 ?_
    refine r_iconst g 1 dX12_remember_56 (by decide) ?_
    refine r_isub g dX12_remember_57 ?_
    refine r_bipush g 40 dX12_remember_58 (by decide) ?_
    refine r_irem g (by decide) dX12_remember_60 ?_
    refine r_imul g dX12_remember_61 ?_
    obtain ⟨d1, Z1, hc1, hd1, h1⟩ := h
    refine r_callS (st := []) (As := [.ref a0_now, .int 0, .ref a0_kept, .int (293 * (((v5 + v6) - 1) - ((v5 + v6) - 1) / 40 * 40))]) g sX12_408 iX12_copyRow rfl (Nat.le_of_ble_eq_true rfl) dX12_remember_62 hd1 (Nat.le_refl 0) (Nat.le_refl 0) hc1 (fun r7 μ8 hZ1 => ?_)
    replace h := h1 _ _ hZ1
    clear h1 hc1 hd1 hZ1 Z1 d1
    obtain ⟨rfl, h⟩ := h
    exact hr.1 rfl _ _ _ _ _ dX12_remember_65 (Nat.le_refl 0) (Nat.le_refl 0) h
theorem I_X12_remember {d : Nat} {ro : Nat → Nat} {Z : Option Value → Hp → Prop} {μ : Hp} {a0 : Nat} (h : ∀ J, xCtx RX12 cX12_remember 1 d 0 0 yX12_remember.name ro J → xRet cX12_remember none 0 0 Z J → J μ 0 0 0 [(0, .ref a0)] []) : xC d yX12_remember cX12_remember 1 none 0 0 [.ref a0] μ ro Z :=
  xC_intro (own := RX12) (lv := [(0, .ref a0)]) (by decide) rfl (Nat.le_of_ble_eq_true rfl) rfl (fun J g hr => r_sub g (lv' := [(0, .ref a0)]) (⟨rfl, trivial⟩) (h J g hr))
theorem dX12_notes_0 : decode cX12_notes 0 = .ok (.aload_n 0, 1) := by decide +kernel
theorem dX12_notes_1 : decode cX12_notes 1 = .ok (.getfield 57, 3) := by decide +kernel
theorem dX12_notes_4 : decode cX12_notes 4 = .ok (.bipush 112, 2) := by decide +kernel
theorem dX12_notes_6 : decode cX12_notes 6 = .ok (.iaload, 1) := by decide +kernel
theorem dX12_notes_7 : decode cX12_notes 7 = .ok (.bipush 60, 2) := by decide +kernel
theorem dX12_notes_9 : decode cX12_notes 9 = .ok (.if_icmp .ne 49, 3) := by decide +kernel
theorem dX12_notes_12 : decode cX12_notes 12 = .ok (.iconst 1, 1) := by decide +kernel
theorem dX12_notes_13 : decode cX12_notes 13 = .ok (.istore_n 2, 1) := by decide +kernel
theorem dX12_notes_14 : decode cX12_notes 14 = .ok (.iload_n 2, 1) := by decide +kernel
theorem dX12_notes_15 : decode cX12_notes 15 = .ok (.sipush 177, 3) := by decide +kernel
theorem dX12_notes_18 : decode cX12_notes 18 = .ok (.if_icmp .gt 29, 3) := by decide +kernel
theorem dX12_notes_21 : decode cX12_notes 21 = .ok (.aload_n 0, 1) := by decide +kernel
theorem dX12_notes_22 : decode cX12_notes 22 = .ok (.getfield 57, 3) := by decide +kernel
theorem dX12_notes_25 : decode cX12_notes 25 = .ok (.bipush 112, 2) := by decide +kernel
theorem dX12_notes_27 : decode cX12_notes 27 = .ok (.iload_n 2, 1) := by decide +kernel
theorem dX12_notes_28 : decode cX12_notes 28 = .ok (.iadd, 1) := by decide +kernel
theorem dX12_notes_29 : decode cX12_notes 29 = .ok (.aload_n 0, 1) := by decide +kernel
theorem dX12_notes_30 : decode cX12_notes 30 = .ok (.getfield 57, 3) := by decide +kernel
theorem dX12_notes_33 : decode cX12_notes 33 = .ok (.bipush 112, 2) := by decide +kernel
theorem dX12_notes_35 : decode cX12_notes 35 = .ok (.iload_n 2, 1) := by decide +kernel
theorem dX12_notes_36 : decode cX12_notes 36 = .ok (.iadd, 1) := by decide +kernel
theorem dX12_notes_37 : decode cX12_notes 37 = .ok (.iconst 3, 1) := by decide +kernel
theorem dX12_notes_38 : decode cX12_notes 38 = .ok (.iadd, 1) := by decide +kernel
theorem dX12_notes_39 : decode cX12_notes 39 = .ok (.iaload, 1) := by decide +kernel
theorem dX12_notes_40 : decode cX12_notes 40 = .ok (.iastore, 1) := by decide +kernel
theorem dX12_notes_41 : decode cX12_notes 41 = .ok (.iinc 2 1, 3) := by decide +kernel
theorem dX12_notes_44 : decode cX12_notes 44 = .ok (.goto (-30), 3) := by decide +kernel
theorem dX12_notes_47 : decode cX12_notes 47 = .ok (.aload_n 0, 1) := by decide +kernel
theorem dX12_notes_48 : decode cX12_notes 48 = .ok (.getfield 57, 3) := by decide +kernel
theorem dX12_notes_51 : decode cX12_notes 51 = .ok (.bipush 112, 2) := by decide +kernel
theorem dX12_notes_53 : decode cX12_notes 53 = .ok (.dup2, 1) := by decide +kernel
theorem dX12_notes_54 : decode cX12_notes 54 = .ok (.iaload, 1) := by decide +kernel
theorem dX12_notes_55 : decode cX12_notes 55 = .ok (.iconst 1, 1) := by decide +kernel
theorem dX12_notes_56 : decode cX12_notes 56 = .ok (.isub, 1) := by decide +kernel
theorem dX12_notes_57 : decode cX12_notes 57 = .ok (.iastore, 1) := by decide +kernel
theorem dX12_notes_58 : decode cX12_notes 58 = .ok (.bipush 113, 2) := by decide +kernel
theorem dX12_notes_60 : decode cX12_notes 60 = .ok (.iconst 3, 1) := by decide +kernel
theorem dX12_notes_61 : decode cX12_notes 61 = .ok (.aload_n 0, 1) := by decide +kernel
theorem dX12_notes_62 : decode cX12_notes 62 = .ok (.getfield 57, 3) := by decide +kernel
theorem dX12_notes_65 : decode cX12_notes 65 = .ok (.bipush 112, 2) := by decide +kernel
theorem dX12_notes_67 : decode cX12_notes 67 = .ok (.iaload, 1) := by decide +kernel
theorem dX12_notes_68 : decode cX12_notes 68 = .ok (.imul, 1) := by decide +kernel
theorem dX12_notes_69 : decode cX12_notes 69 = .ok (.iadd, 1) := by decide +kernel
theorem dX12_notes_70 : decode cX12_notes 70 = .ok (.istore_n 2, 1) := by decide +kernel
theorem dX12_notes_71 : decode cX12_notes 71 = .ok (.aload_n 0, 1) := by decide +kernel
theorem dX12_notes_72 : decode cX12_notes 72 = .ok (.getfield 57, 3) := by decide +kernel
theorem dX12_notes_75 : decode cX12_notes 75 = .ok (.iload_n 2, 1) := by decide +kernel
theorem dX12_notes_76 : decode cX12_notes 76 = .ok (.iload_n 1, 1) := by decide +kernel
theorem dX12_notes_77 : decode cX12_notes 77 = .ok (.iastore, 1) := by decide +kernel
theorem dX12_notes_78 : decode cX12_notes 78 = .ok (.aload_n 0, 1) := by decide +kernel
theorem dX12_notes_79 : decode cX12_notes 79 = .ok (.getfield 57, 3) := by decide +kernel
theorem dX12_notes_82 : decode cX12_notes 82 = .ok (.iload_n 2, 1) := by decide +kernel
theorem dX12_notes_83 : decode cX12_notes 83 = .ok (.iconst 1, 1) := by decide +kernel
theorem dX12_notes_84 : decode cX12_notes 84 = .ok (.iadd, 1) := by decide +kernel
theorem dX12_notes_85 : decode cX12_notes 85 = .ok (.aload_n 0, 1) := by decide +kernel
theorem dX12_notes_86 : decode cX12_notes 86 = .ok (.getfield 388, 3) := by decide +kernel
theorem dX12_notes_89 : decode cX12_notes 89 = .ok (.iastore, 1) := by decide +kernel
theorem dX12_notes_90 : decode cX12_notes 90 = .ok (.aload_n 0, 1) := by decide +kernel
theorem dX12_notes_91 : decode cX12_notes 91 = .ok (.getfield 57, 3) := by decide +kernel
theorem dX12_notes_94 : decode cX12_notes 94 = .ok (.iload_n 2, 1) := by decide +kernel
theorem dX12_notes_95 : decode cX12_notes 95 = .ok (.iconst 2, 1) := by decide +kernel
theorem dX12_notes_96 : decode cX12_notes 96 = .ok (.iadd, 1) := by decide +kernel
theorem dX12_notes_97 : decode cX12_notes 97 = .ok (.aload_n 0, 1) := by decide +kernel
theorem dX12_notes_98 : decode cX12_notes 98 = .ok (.getfield 378, 3) := by decide +kernel
theorem dX12_notes_101 : decode cX12_notes 101 = .ok (.iastore, 1) := by decide +kernel
theorem dX12_notes_102 : decode cX12_notes 102 = .ok (.aload_n 0, 1) := by decide +kernel
theorem dX12_notes_103 : decode cX12_notes 103 = .ok (.getfield 57, 3) := by decide +kernel
theorem dX12_notes_106 : decode cX12_notes 106 = .ok (.bipush 112, 2) := by decide +kernel
theorem dX12_notes_108 : decode cX12_notes 108 = .ok (.dup2, 1) := by decide +kernel
theorem dX12_notes_109 : decode cX12_notes 109 = .ok (.iaload, 1) := by decide +kernel
theorem dX12_notes_110 : decode cX12_notes 110 = .ok (.iconst 1, 1) := by decide +kernel
theorem dX12_notes_111 : decode cX12_notes 111 = .ok (.iadd, 1) := by decide +kernel
theorem dX12_notes_112 : decode cX12_notes 112 = .ok (.iastore, 1) := by decide +kernel
theorem dX12_notes_113 : decode cX12_notes 113 = .ok (.return_, 1) := by decide +kernel
set_option maxHeartbeats 4000000 in
set_option maxRecDepth 100000 in
theorem B_X12_notes_0 {d : Nat} {ro : Nat → Nat} {J : JT} {Z : Option Value → Hp → Prop} (g : xCtx RX12 cX12_notes 3 d 0 0 yX12_notes.name ro J) (hr : xRet cX12_notes none 0 0 Z J) {μ : Hp} {a0 : Nat} {x1 : Int32} {a0_now : Nat} {N_a0_now : Nat} (hs_a0 : hS μ a0 = some (15, 65)) (hr_a0_now : hR μ a0 30 = some a0_now) (hs_a0_now : hS μ a0_now = some (0, N_a0_now))
    (h : vp_in 112 N_a0_now ∧ ((¬ (hI μ a0_now 112) = 60 → J μ 0 0 58 [(0, .ref a0), (1, .int x1)] []) ∧ ((hI μ a0_now 112) = 60 → J μ 0 0 14 [(0, .ref a0), (1, .int x1), (2, .int 1)] []))) :
    J μ 0 0 0 [(0, .ref a0), (1, .int x1)] [] := by
  refine r_aload_n g dX12_notes_0 rfl ?_
  refine r_getR g fX12_57 rfl hs_a0 hr_a0_now dX12_notes_1 ?_
  refine r_bipush g 112 dX12_notes_4 (by decide) ?_
  obtain ⟨hi1, h⟩ := h
  refine r_iaload g hs_a0_now hi1 dX12_notes_6 ?_
  refine r_bipush g 60 dX12_notes_7 (by decide) ?_
  refine r_icmp_ne g 58 dX12_notes_9 (by decide) (fun c2 => ?_) (fun c2 => ?_)
  · replace h := h.1 c2
    refine r_sub g (lv' := [(0, .ref a0), (1, .int x1)]) (⟨rfl, rfl, trivial⟩) ?_
    exact h
  · replace h := h.2 c2
    refine r_iconst g 1 dX12_notes_12 (by decide) ?_
    refine r_istore_n g [(2, .int 1), (0, .ref a0), (1, .int x1)] dX12_notes_13 (by decide) rfl ?_
    refine r_sub g (lv' := [(0, .ref a0), (1, .int x1), (2, .int 1)]) (⟨rfl, rfl, rfl, trivial⟩) ?_
    exact h
set_option maxHeartbeats 4000000 in
set_option maxRecDepth 100000 in
theorem B_X12_notes_14 {d : Nat} {ro : Nat → Nat} {J : JT} {Z : Option Value → Hp → Prop} (g : xCtx RX12 cX12_notes 3 d 0 0 yX12_notes.name ro J) (hr : xRet cX12_notes none 0 0 Z J) {μ : Hp} {a0 : Nat} {x1 : Int32} {x2 : Int32} {a0_now : Nat} {N_a0_now : Nat} (hs_a0 : hS μ a0 = some (15, 65)) (hr_a0_now : hR μ a0 30 = some a0_now) (hs_a0_now : hS μ a0_now = some (0, N_a0_now))
    (h : ((177 < x2 → vp_in 112 N_a0_now ∧ J (wI μ a0_now 112 ((hI μ a0_now 112) - 1)) 0 0 58 [(0, .ref a0), (1, .int x1)] []) ∧ (¬ 177 < x2 → vp_in ((112 + x2) + 3) N_a0_now ∧ vp_in (112 + x2) N_a0_now ∧ J (wI μ a0_now ((112 + x2).toNatClampNeg) (hI μ a0_now (((112 + x2) + 3).toNatClampNeg))) 0 0 14 [(0, .ref a0), (1, .int x1), (2, .int (x2 + 1))] []))) :
    J μ 0 0 14 [(0, .ref a0), (1, .int x1), (2, .int x2)] [] := by
  refine r_iload_n g dX12_notes_14 rfl ?_
  refine r_sipush g 177 dX12_notes_15 (by decide) ?_
  refine r_icmp_gt g 47 dX12_notes_18 (by decide) (fun c1 => ?_) (fun c1 => ?_)
  · replace h := h.1 c1
    refine r_aload_n g dX12_notes_47 rfl ?_
    refine r_getR g fX12_57 rfl hs_a0 hr_a0_now dX12_notes_48 ?_
    refine r_bipush g 112 dX12_notes_51 (by decide) ?_
    refine r_dup2_11 g dX12_notes_53 rfl rfl ?_
    obtain ⟨hi2, h⟩ := h
    refine r_iaload g hs_a0_now hi2 dX12_notes_54 ?_
    refine r_iconst g 1 dX12_notes_55 (by decide) ?_
    refine r_isub g dX12_notes_56 ?_
    refine r_iastore g hs_a0_now hi2 dX12_notes_57 ?_
    refine r_sub g (lv' := [(0, .ref a0), (1, .int x1)]) (⟨rfl, rfl, trivial⟩) ?_
    exact h
  · replace h := h.2 c1
    refine r_aload_n g dX12_notes_21 rfl ?_
    refine r_getR g fX12_57 rfl hs_a0 hr_a0_now dX12_notes_22 ?_
    refine r_bipush g 112 dX12_notes_25 (by decide) ?_
    refine r_iload_n g dX12_notes_27 rfl ?_
    refine r_iadd g dX12_notes_28 ?_
    refine r_aload_n g dX12_notes_29 rfl ?_
    refine r_getR g fX12_57 rfl hs_a0 hr_a0_now dX12_notes_30 ?_
    refine r_bipush g 112 dX12_notes_33 (by decide) ?_
    refine r_iload_n g dX12_notes_35 rfl ?_
    refine r_iadd g dX12_notes_36 ?_
    refine r_iconst g 3 dX12_notes_37 (by decide) ?_
    refine r_iadd g dX12_notes_38 ?_
    obtain ⟨hi3, h⟩ := h
    refine r_iaload g hs_a0_now hi3 dX12_notes_39 ?_
    obtain ⟨hi4, h⟩ := h
    refine r_iastore g hs_a0_now hi4 dX12_notes_40 ?_
    refine r_iinc g (x2 + 1) [(2, .int (x2 + 1)), (0, .ref a0), (1, .int x1)] dX12_notes_41 rfl rfl (by decide) rfl ?_
    refine r_goto g 14 dX12_notes_44 (by decide) ?_
    refine r_sub g (lv' := [(0, .ref a0), (1, .int x1), (2, .int (x2 + 1))]) (⟨rfl, rfl, rfl, trivial⟩) ?_
    exact h
set_option maxHeartbeats 4000000 in
set_option maxRecDepth 100000 in
theorem B_X12_notes_58 {d : Nat} {ro : Nat → Nat} {J : JT} {Z : Option Value → Hp → Prop} (g : xCtx RX12 cX12_notes 3 d 0 0 yX12_notes.name ro J) (hr : xRet cX12_notes none 0 0 Z J) {μ : Hp} {a0 : Nat} {x1 : Int32} {a0_now : Nat} {N_a0_now : Nat} (hs_a0 : hS μ a0 = some (15, 65)) (hr_a0_now : hR μ a0 30 = some a0_now) (hs_a0_now : hS μ a0_now = some (0, N_a0_now))
    (h : vp_in 112 N_a0_now ∧ vp_in (113 + (3 * (hI μ a0_now 112))) N_a0_now ∧ (∀ v3 : Int32, v3 = (hI (wI μ a0_now ((113 + (3 * (hI μ a0_now 112))).toNatClampNeg) x1) a0 60) → vp_in ((113 + (3 * (hI μ a0_now 112))) + 1) N_a0_now ∧ (∀ v5 : Int32, v5 = (hI (wI (wI μ a0_now ((113 + (3 * (hI μ a0_now 112))).toNatClampNeg) x1) a0_now (((113 + (3 * (hI μ a0_now 112))) + 1).toNatClampNeg) v3) a0 61) → vp_in ((113 + (3 * (hI μ a0_now 112))) + 2) N_a0_now ∧ (∀ v7 : Int32, v7 = (hI (wI (wI (wI μ a0_now ((113 + (3 * (hI μ a0_now 112))).toNatClampNeg) x1) a0_now (((113 + (3 * (hI μ a0_now 112))) + 1).toNatClampNeg) v3) a0_now (((113 + (3 * (hI μ a0_now 112))) + 2).toNatClampNeg) v5) a0_now 112) → Z none (wI (wI (wI (wI μ a0_now ((113 + (3 * (hI μ a0_now 112))).toNatClampNeg) x1) a0_now (((113 + (3 * (hI μ a0_now 112))) + 1).toNatClampNeg) v3) a0_now (((113 + (3 * (hI μ a0_now 112))) + 2).toNatClampNeg) v5) a0_now 112 (v7 + 1)))))) :
    J μ 0 0 58 [(0, .ref a0), (1, .int x1)] [] := by
  refine r_bipush g 113 dX12_notes_58 (by decide) ?_
  refine r_iconst g 3 dX12_notes_60 (by decide) ?_
  refine r_aload_n g dX12_notes_61 rfl ?_
  refine r_getR g fX12_57 rfl hs_a0 hr_a0_now dX12_notes_62 ?_
  refine r_bipush g 112 dX12_notes_65 (by decide) ?_
  obtain ⟨hi1, h⟩ := h
  refine r_iaload g hs_a0_now hi1 dX12_notes_67 ?_
  refine r_imul g dX12_notes_68 ?_
  refine r_iadd g dX12_notes_69 ?_
  refine r_istore_n g [(2, .int (113 + (3 * (hI μ a0_now 112)))), (0, .ref a0), (1, .int x1)] dX12_notes_70 (by decide) rfl ?_
  refine r_aload_n g dX12_notes_71 rfl ?_
  refine r_getR g fX12_57 rfl hs_a0 hr_a0_now dX12_notes_72 ?_
  refine r_iload_n g dX12_notes_75 rfl ?_
  refine r_iload_n g dX12_notes_76 rfl ?_
  obtain ⟨hi2, h⟩ := h
  refine r_iastore g hs_a0_now hi2 dX12_notes_77 ?_
  refine r_aload_n g dX12_notes_78 rfl ?_
  refine r_getR g fX12_57 rfl hs_a0 hr_a0_now dX12_notes_79 ?_
  refine r_iload_n g dX12_notes_82 rfl ?_
  refine r_iconst g 1 dX12_notes_83 (by decide) ?_
  refine r_iadd g dX12_notes_84 ?_
  refine r_aload_n g dX12_notes_85 rfl ?_
  refine r_getI g fX12_388 rfl hs_a0 dX12_notes_86 ?_
  refine r_nmI (fun v3 ev3 => ?_)
  replace h := h v3 ev3
  obtain ⟨hi4, h⟩ := h
  refine r_iastore g hs_a0_now hi4 dX12_notes_89 ?_
  refine r_aload_n g dX12_notes_90 rfl ?_
  refine r_getR g fX12_57 rfl hs_a0 hr_a0_now dX12_notes_91 ?_
  refine r_iload_n g dX12_notes_94 rfl ?_
  refine r_iconst g 2 dX12_notes_95 (by decide) ?_
  refine r_iadd g dX12_notes_96 ?_
  refine r_aload_n g dX12_notes_97 rfl ?_
  refine r_getI g fX12_378 rfl hs_a0 dX12_notes_98 ?_
  refine r_nmI (fun v5 ev5 => ?_)
  replace h := h v5 ev5
  obtain ⟨hi6, h⟩ := h
  refine r_iastore g hs_a0_now hi6 dX12_notes_101 ?_
  refine r_aload_n g dX12_notes_102 rfl ?_
  refine r_getR g fX12_57 rfl hs_a0 hr_a0_now dX12_notes_103 ?_
  refine r_bipush g 112 dX12_notes_106 (by decide) ?_
  refine r_dup2_11 g dX12_notes_108 rfl rfl ?_
  refine r_iaload g hs_a0_now hi1 dX12_notes_109 ?_
  refine r_nmI (fun v7 ev7 => ?_)
  replace h := h v7 ev7
  refine r_iconst g 1 dX12_notes_110 (by decide) ?_
  refine r_iadd g dX12_notes_111 ?_
  refine r_iastore g hs_a0_now hi1 dX12_notes_112 ?_
  exact hr.1 rfl _ _ _ _ _ dX12_notes_113 (Nat.le_refl 0) (Nat.le_refl 0) h
theorem I_X12_notes {d : Nat} {ro : Nat → Nat} {Z : Option Value → Hp → Prop} {μ : Hp} {a0 : Nat} {x1 : Int32} (h : ∀ J, xCtx RX12 cX12_notes 3 d 0 0 yX12_notes.name ro J → xRet cX12_notes none 0 0 Z J → J μ 0 0 0 [(0, .ref a0), (1, .int x1)] []) : xC d yX12_notes cX12_notes 3 none 0 0 [.ref a0, .int x1] μ ro Z :=
  xC_intro (own := RX12) (lv := [(0, .ref a0), (1, .int x1)]) (by decide) rfl (Nat.le_of_ble_eq_true rfl) rfl (fun J g hr => r_sub g (lv' := [(0, .ref a0), (1, .int x1)]) (⟨rfl, rfl, trivial⟩) (h J g hr))
theorem dX12_tries_0 : decode cX12_tries 0 = .ok (.aload_n 0, 1) := by decide +kernel
theorem dX12_tries_1 : decode cX12_tries 1 = .ok (.aload_n 0, 1) := by decide +kernel
theorem dX12_tries_2 : decode cX12_tries 2 = .ok (.getfield 57, 3) := by decide +kernel
theorem dX12_tries_5 : decode cX12_tries 5 = .ok (.iload_n 1, 1) := by decide +kernel
theorem dX12_tries_6 : decode cX12_tries 6 = .ok (.iload_n 2, 1) := by decide +kernel
theorem dX12_tries_7 : decode cX12_tries 7 = .ok (.iload_n 3, 1) := by decide +kernel
theorem dX12_tries_8 : decode cX12_tries 8 = .ok (.iload 4, 2) := by decide +kernel
theorem dX12_tries_10 : decode cX12_tries 10 = .ok (.iload 5, 2) := by decide +kernel
theorem dX12_tries_12 : decode cX12_tries 12 = .ok (.invokevirtual 412, 3) := by decide +kernel
theorem dX12_tries_15 : decode cX12_tries 15 = .ok (.istore 6, 2) := by decide +kernel
theorem dX12_tries_17 : decode cX12_tries 17 = .ok (.iload 6, 2) := by decide +kernel
theorem dX12_tries_19 : decode cX12_tries 19 = .ok (.iconst (-1), 1) := by decide +kernel
theorem dX12_tries_20 : decode cX12_tries 20 = .ok (.if_icmp .eq 6, 3) := by decide +kernel
theorem dX12_tries_23 : decode cX12_tries 23 = .ok (.iload 6, 2) := by decide +kernel
theorem dX12_tries_25 : decode cX12_tries 25 = .ok (.ireturn, 1) := by decide +kernel
theorem dX12_tries_26 : decode cX12_tries 26 = .ok (.aload_n 0, 1) := by decide +kernel
theorem dX12_tries_27 : decode cX12_tries 27 = .ok (.invokevirtual 415, 3) := by decide +kernel
theorem dX12_tries_30 : decode cX12_tries 30 = .ok (.aload_n 0, 1) := by decide +kernel
theorem dX12_tries_31 : decode cX12_tries 31 = .ok (.aload_n 0, 1) := by decide +kernel
theorem dX12_tries_32 : decode cX12_tries 32 = .ok (.getfield 57, 3) := by decide +kernel
theorem dX12_tries_35 : decode cX12_tries 35 = .ok (.iload_n 1, 1) := by decide +kernel
theorem dX12_tries_36 : decode cX12_tries 36 = .ok (.iload_n 2, 1) := by decide +kernel
theorem dX12_tries_37 : decode cX12_tries 37 = .ok (.iload_n 3, 1) := by decide +kernel
theorem dX12_tries_38 : decode cX12_tries 38 = .ok (.iload 4, 2) := by decide +kernel
theorem dX12_tries_40 : decode cX12_tries 40 = .ok (.iload 5, 2) := by decide +kernel
theorem dX12_tries_42 : decode cX12_tries 42 = .ok (.invokevirtual 418, 3) := by decide +kernel
theorem dX12_tries_45 : decode cX12_tries 45 = .ok (.aload_n 0, 1) := by decide +kernel
theorem dX12_tries_46 : decode cX12_tries 46 = .ok (.iload_n 1, 1) := by decide +kernel
theorem dX12_tries_47 : decode cX12_tries 47 = .ok (.invokevirtual 421, 3) := by decide +kernel
theorem dX12_tries_50 : decode cX12_tries 50 = .ok (.iconst (-1), 1) := by decide +kernel
theorem dX12_tries_51 : decode cX12_tries 51 = .ok (.ireturn, 1) := by decide +kernel
set_option maxHeartbeats 4000000 in
set_option maxRecDepth 100000 in
theorem B_X12_tries_0 {d : Nat} {ro : Nat → Nat} {J : JT} {Z : Option Value → Hp → Prop} (g : xCtx RX12 cX12_tries 7 d 0 0 yX12_tries.name ro J) (hr : xRet cX12_tries (some .int) 0 0 Z J) {μ : Hp} {a0 : Nat} {x1 : Int32} {x2 : Int32} {x3 : Int32} {x4 : Int32} {x5 : Int32} {a0_now : Nat} (hs_a0 : hS μ a0 = some (15, 65)) (hr_a0_now : hR μ a0 30 = some a0_now)
    (h : xCall d yX12_stops cX12_stops 7 (some .int) [.ref a0, .ref a0_now, .int x1, .int x2, .int x3, .int x4, .int x5] μ ro (fun r1 μ2 => ∃ y3 : Int32, r1 = some (.int y3) ∧ ((y3 = (-1) → hS μ2 a0 = some (15, 65) ∧ xCall d yX12_remember cX12_remember 1 none [.ref a0] μ2 ro (fun r5 μ6 => r5 = none ∧ hS μ6 a0 = some (15, 65) ∧ ∃ now_7 : Nat, hR μ6 a0 30 = some now_7 ∧ xCall d yX12_does cX12_does 7 none [.ref a0, .ref now_7, .int x1, .int x2, .int x3, .int x4, .int x5] μ6 ro (fun r8 μ9 => r8 = none ∧ hS μ9 a0 = some (15, 65) ∧ xCall d yX12_notes cX12_notes 3 none [.ref a0, .int x1] μ9 ro (fun r10 μ11 => r10 = none ∧ Z (some (.int (-1))) μ11)))) ∧ (¬ y3 = (-1) → Z (some (.int y3)) μ2)))) :
    J μ 0 0 0 [(0, .ref a0), (1, .int x1), (2, .int x2), (3, .int x3), (4, .int x4), (5, .int x5)] [] := by
  refine r_aload_n g dX12_tries_0 rfl ?_
  refine r_aload_n g dX12_tries_1 rfl ?_
  refine r_getR g fX12_57 rfl hs_a0 hr_a0_now dX12_tries_2 ?_
  refine r_iload_n g dX12_tries_5 rfl ?_
  refine r_iload_n g dX12_tries_6 rfl ?_
  refine r_iload_n g dX12_tries_7 rfl ?_
  refine r_iload g dX12_tries_8 rfl ?_
  refine r_iload g dX12_tries_10 rfl ?_
  obtain ⟨d1, Z1, hc1, hd1, h1⟩ := h
  refine r_callV (st := []) (As := [.ref a0_now, .int x1, .int x2, .int x3, .int x4, .int x5]) g sX12_412 iX12_stops eX12_stops rfl hs_a0 rfl (Nat.le_of_ble_eq_true rfl) dX12_tries_12 hd1 (Nat.le_refl 0) (Nat.le_refl 0) hc1 (fun r1 μ2 hZ1 => ?_)
  replace h := h1 _ _ hZ1
  clear h1 hc1 hd1 hZ1 Z1 d1
  obtain ⟨y3, rfl, h⟩ := h
  refine r_istore g [(6, .int y3), (0, .ref a0), (1, .int x1), (2, .int x2), (3, .int x3), (4, .int x4), (5, .int x5)] dX12_tries_15 (by decide) rfl ?_
  refine r_iload g dX12_tries_17 rfl ?_
  refine r_iconst g (-1) dX12_tries_19 (by decide) ?_
  refine r_icmp_eq g 26 dX12_tries_20 (by decide) (fun c4 => ?_) (fun c4 => ?_)
  · replace h := h.1 c4
    refine r_aload_n g dX12_tries_26 rfl ?_
    obtain ⟨hs_a0_, h⟩ := h
    obtain ⟨d1, Z1, hc1, hd1, h1⟩ := h
    refine r_callV (st := []) (As := []) g sX12_415 iX12_remember eX12_remember rfl hs_a0_ rfl (Nat.le_of_ble_eq_true rfl) dX12_tries_27 hd1 (Nat.le_refl 0) (Nat.le_refl 0) hc1 (fun r5 μ6 hZ1 => ?_)
    replace h := h1 _ _ hZ1
    clear h1 hc1 hd1 hZ1 Z1 d1
    obtain ⟨rfl, h⟩ := h
    refine r_aload_n g dX12_tries_30 rfl ?_
    refine r_aload_n g dX12_tries_31 rfl ?_
    obtain ⟨hs_a0__, h⟩ := h
    obtain ⟨now_7, hr_now_7, h⟩ := h
    refine r_getR g fX12_57 rfl hs_a0__ hr_now_7 dX12_tries_32 ?_
    refine r_iload_n g dX12_tries_35 rfl ?_
    refine r_iload_n g dX12_tries_36 rfl ?_
    refine r_iload_n g dX12_tries_37 rfl ?_
    refine r_iload g dX12_tries_38 rfl ?_
    refine r_iload g dX12_tries_40 rfl ?_
    obtain ⟨d1, Z1, hc1, hd1, h1⟩ := h
    refine r_callV (st := []) (As := [.ref now_7, .int x1, .int x2, .int x3, .int x4, .int x5]) g sX12_418 iX12_does eX12_does rfl hs_a0__ rfl (Nat.le_of_ble_eq_true rfl) dX12_tries_42 hd1 (Nat.le_refl 0) (Nat.le_refl 0) hc1 (fun r8 μ9 hZ1 => ?_)
    replace h := h1 _ _ hZ1
    clear h1 hc1 hd1 hZ1 Z1 d1
    obtain ⟨rfl, h⟩ := h
    refine r_aload_n g dX12_tries_45 rfl ?_
    refine r_iload_n g dX12_tries_46 rfl ?_
    obtain ⟨hs_a0___, h⟩ := h
    obtain ⟨d1, Z1, hc1, hd1, h1⟩ := h
    refine r_callV (st := []) (As := [.int x1]) g sX12_421 iX12_notes eX12_notes rfl hs_a0___ rfl (Nat.le_of_ble_eq_true rfl) dX12_tries_47 hd1 (Nat.le_refl 0) (Nat.le_refl 0) hc1 (fun r10 μ11 hZ1 => ?_)
    replace h := h1 _ _ hZ1
    clear h1 hc1 hd1 hZ1 Z1 d1
    obtain ⟨rfl, h⟩ := h
    refine r_iconst g (-1) dX12_tries_50 (by decide) ?_
    exact hr.2.1 _ rfl _ _ _ _ _ _ dX12_tries_51 rfl (Nat.le_refl 0) (Nat.le_refl 0) h
  · replace h := h.2 c4
    refine r_iload g dX12_tries_23 rfl ?_
    exact hr.2.1 _ rfl _ _ _ _ _ _ dX12_tries_25 rfl (Nat.le_refl 0) (Nat.le_refl 0) h
theorem I_X12_tries {d : Nat} {ro : Nat → Nat} {Z : Option Value → Hp → Prop} {μ : Hp} {a0 : Nat} {x1 : Int32} {x2 : Int32} {x3 : Int32} {x4 : Int32} {x5 : Int32} (h : ∀ J, xCtx RX12 cX12_tries 7 d 0 0 yX12_tries.name ro J → xRet cX12_tries (some .int) 0 0 Z J → J μ 0 0 0 [(0, .ref a0), (1, .int x1), (2, .int x2), (3, .int x3), (4, .int x4), (5, .int x5)] []) : xC d yX12_tries cX12_tries 7 (some .int) 0 0 [.ref a0, .int x1, .int x2, .int x3, .int x4, .int x5] μ ro Z :=
  xC_intro (own := RX12) (lv := [(0, .ref a0), (1, .int x1), (2, .int x2), (3, .int x3), (4, .int x4), (5, .int x5)]) (by decide) rfl (Nat.le_of_ble_eq_true rfl) rfl (fun J g hr => r_sub g (lv' := [(0, .ref a0), (1, .int x1), (2, .int x2), (3, .int x3), (4, .int x4), (5, .int x5)]) (⟨rfl, rfl, rfl, rfl, rfl, rfl, trivial⟩) (h J g hr))
theorem dX12_act_0 : decode cX12_act 0 = .ok (.aload_n 0, 1) := by decide +kernel
theorem dX12_act_1 : decode cX12_act 1 = .ok (.iconst 0, 1) := by decide +kernel
theorem dX12_act_2 : decode cX12_act 2 = .ok (.putfield 106, 3) := by decide +kernel
theorem dX12_act_5 : decode cX12_act 5 = .ok (.aload_n 0, 1) := by decide +kernel
theorem dX12_act_6 : decode cX12_act 6 = .ok (.iload_n 1, 1) := by decide +kernel
theorem dX12_act_7 : decode cX12_act 7 = .ok (.iload_n 2, 1) := by decide +kernel
theorem dX12_act_8 : decode cX12_act 8 = .ok (.iload_n 3, 1) := by decide +kernel
theorem dX12_act_9 : decode cX12_act 9 = .ok (.iload 4, 2) := by decide +kernel
theorem dX12_act_11 : decode cX12_act 11 = .ok (.iload 5, 2) := by decide +kernel
theorem dX12_act_13 : decode cX12_act 13 = .ok (.invokevirtual 424, 3) := by decide +kernel
theorem dX12_act_16 : decode cX12_act 16 = .ok (.istore 6, 2) := by decide +kernel
theorem dX12_act_18 : decode cX12_act 18 = .ok (.iload 6, 2) := by decide +kernel
theorem dX12_act_20 : decode cX12_act 20 = .ok (.iconst (-1), 1) := by decide +kernel
theorem dX12_act_21 : decode cX12_act 21 = .ok (.if_icmp .ne 8, 3) := by decide +kernel
theorem dX12_act_24 : decode cX12_act 24 = .ok (.aload_n 0, 1) := by decide +kernel
theorem dX12_act_25 : decode cX12_act 25 = .ok (.getfield 385, 3) := by decide +kernel
theorem dX12_act_28 : decode cX12_act 28 = .ok (.ireturn, 1) := by decide +kernel
theorem dX12_act_29 : decode cX12_act 29 = .ok (.aload_n 0, 1) := by decide +kernel
theorem dX12_act_30 : decode cX12_act 30 = .ok (.getfield 35, 3) := by decide +kernel
theorem dX12_act_33 : decode cX12_act 33 = .ok (.iload 6, 2) := by decide +kernel
theorem dX12_act_35 : decode cX12_act 35 = .ok (.dup2, 1) := by decide +kernel
theorem dX12_act_36 : decode cX12_act 36 = .ok (.iaload, 1) := by decide +kernel
theorem dX12_act_37 : decode cX12_act 37 = .ok (.iconst 1, 1) := by decide +kernel
theorem dX12_act_38 : decode cX12_act 38 = .ok (.iadd, 1) := by decide +kernel
theorem dX12_act_39 : decode cX12_act 39 = .ok (.iastore, 1) := by decide +kernel
theorem dX12_act_40 : decode cX12_act 40 = .ok (.iconst (-1), 1) := by decide +kernel
theorem dX12_act_41 : decode cX12_act 41 = .ok (.ireturn, 1) := by decide +kernel
set_option maxHeartbeats 4000000 in
set_option maxRecDepth 100000 in
theorem B_X12_act_0 {d : Nat} {ro : Nat → Nat} {J : JT} {Z : Option Value → Hp → Prop} (g : xCtx RX12 cX12_act 7 d 0 0 yX12_act.name ro J) (hr : xRet cX12_act (some .int) 0 0 Z J) {μ : Hp} {a0 : Nat} {x1 : Int32} {x2 : Int32} {x3 : Int32} {x4 : Int32} {x5 : Int32} (hs_a0 : hS μ a0 = some (15, 65))
    (h : xCall d yX12_tries cX12_tries 7 (some .int) [.ref a0, .int x1, .int x2, .int x3, .int x4, .int x5] (wI μ a0 0 0) ro (fun r1 μ2 => ∃ y3 : Int32, r1 = some (.int y3) ∧ ((¬ y3 = (-1) → hS μ2 a0 = some (15, 65) ∧ ∃ status_5 : Nat, hR μ2 a0 14 = some status_5 ∧ ∃ N6 : Nat, hS μ2 status_5 = some (0, N6) ∧ vp_in y3 N6 ∧ Z (some (.int (-1))) (wI μ2 status_5 y3.toNatClampNeg ((hI μ2 status_5 y3.toNatClampNeg) + 1))) ∧ (y3 = (-1) → hS μ2 a0 = some (15, 65) ∧ Z (some (.int (hI μ2 a0 59))) μ2)))) :
    J μ 0 0 0 [(0, .ref a0), (1, .int x1), (2, .int x2), (3, .int x3), (4, .int x4), (5, .int x5)] [] := by
  refine r_aload_n g dX12_act_0 rfl ?_
  refine r_iconst g 0 dX12_act_1 (by decide) ?_
  refine r_putI g fX12_106 rfl hs_a0 rfl rfl dX12_act_2 ?_
  refine r_aload_n g dX12_act_5 rfl ?_
  refine r_iload_n g dX12_act_6 rfl ?_
  refine r_iload_n g dX12_act_7 rfl ?_
  refine r_iload_n g dX12_act_8 rfl ?_
  refine r_iload g dX12_act_9 rfl ?_
  refine r_iload g dX12_act_11 rfl ?_
  obtain ⟨d1, Z1, hc1, hd1, h1⟩ := h
  refine r_callV (st := []) (As := [.int x1, .int x2, .int x3, .int x4, .int x5]) g sX12_424 iX12_tries eX12_tries rfl hs_a0 rfl (Nat.le_of_ble_eq_true rfl) dX12_act_13 hd1 (Nat.le_refl 0) (Nat.le_refl 0) hc1 (fun r1 μ2 hZ1 => ?_)
  replace h := h1 _ _ hZ1
  clear h1 hc1 hd1 hZ1 Z1 d1
  obtain ⟨y3, rfl, h⟩ := h
  refine r_istore g [(6, .int y3), (0, .ref a0), (1, .int x1), (2, .int x2), (3, .int x3), (4, .int x4), (5, .int x5)] dX12_act_16 (by decide) rfl ?_
  refine r_iload g dX12_act_18 rfl ?_
  refine r_iconst g (-1) dX12_act_20 (by decide) ?_
  refine r_icmp_ne g 29 dX12_act_21 (by decide) (fun c4 => ?_) (fun c4 => ?_)
  · replace h := h.1 c4
    refine r_aload_n g dX12_act_29 rfl ?_
    obtain ⟨hs_a0_, h⟩ := h
    obtain ⟨status_5, hr_status_5, h⟩ := h
    refine r_getR g fX12_35 rfl hs_a0_ hr_status_5 dX12_act_30 ?_
    refine r_iload g dX12_act_33 rfl ?_
    refine r_dup2_11 g dX12_act_35 rfl rfl ?_
    obtain ⟨N6, hs_status_5, h⟩ := h
    obtain ⟨hi7, h⟩ := h
    refine r_iaload g hs_status_5 hi7 dX12_act_36 ?_
    refine r_iconst g 1 dX12_act_37 (by decide) ?_
    refine r_iadd g dX12_act_38 ?_
    refine r_iastore g hs_status_5 hi7 dX12_act_39 ?_
    refine r_iconst g (-1) dX12_act_40 (by decide) ?_
    exact hr.2.1 _ rfl _ _ _ _ _ _ dX12_act_41 rfl (Nat.le_refl 0) (Nat.le_refl 0) h
  · replace h := h.2 c4
    refine r_aload_n g dX12_act_24 rfl ?_
    obtain ⟨hs_a0__, h⟩ := h
    refine r_getI g fX12_385 rfl hs_a0__ dX12_act_25 ?_
    exact hr.2.1 _ rfl _ _ _ _ _ _ dX12_act_28 rfl (Nat.le_refl 0) (Nat.le_refl 0) h
theorem I_X12_act {d : Nat} {ro : Nat → Nat} {Z : Option Value → Hp → Prop} {μ : Hp} {a0 : Nat} {x1 : Int32} {x2 : Int32} {x3 : Int32} {x4 : Int32} {x5 : Int32} (h : ∀ J, xCtx RX12 cX12_act 7 d 0 0 yX12_act.name ro J → xRet cX12_act (some .int) 0 0 Z J → J μ 0 0 0 [(0, .ref a0), (1, .int x1), (2, .int x2), (3, .int x3), (4, .int x4), (5, .int x5)] []) : xC d yX12_act cX12_act 7 (some .int) 0 0 [.ref a0, .int x1, .int x2, .int x3, .int x4, .int x5] μ ro Z :=
  xC_intro (own := RX12) (lv := [(0, .ref a0), (1, .int x1), (2, .int x2), (3, .int x3), (4, .int x4), (5, .int x5)]) (by decide) rfl (Nat.le_of_ble_eq_true rfl) rfl (fun J g hr => r_sub g (lv' := [(0, .ref a0), (1, .int x1), (2, .int x2), (3, .int x3), (4, .int x4), (5, .int x5)]) (⟨rfl, rfl, rfl, rfl, rfl, rfl, trivial⟩) (h J g hr))
theorem dX12_pay_0 : decode cX12_pay 0 = .ok (.aload_n 0, 1) := by decide +kernel
theorem dX12_pay_1 : decode cX12_pay 1 = .ok (.iconst 0, 1) := by decide +kernel
theorem dX12_pay_2 : decode cX12_pay 2 = .ok (.iload_n 1, 1) := by decide +kernel
theorem dX12_pay_3 : decode cX12_pay 3 = .ok (.iload_n 2, 1) := by decide +kernel
theorem dX12_pay_4 : decode cX12_pay 4 = .ok (.iload_n 3, 1) := by decide +kernel
theorem dX12_pay_5 : decode cX12_pay 5 = .ok (.iload 4, 2) := by decide +kernel
theorem dX12_pay_7 : decode cX12_pay 7 = .ok (.invokevirtual 428, 3) := by decide +kernel
theorem dX12_pay_10 : decode cX12_pay 10 = .ok (.ireturn, 1) := by decide +kernel
set_option maxHeartbeats 4000000 in
set_option maxRecDepth 100000 in
theorem B_X12_pay_0 {d : Nat} {ro : Nat → Nat} {J : JT} {Z : Option Value → Hp → Prop} (g : xCtx RX12 cX12_pay 5 d 0 0 yX12_pay.name ro J) (hr : xRet cX12_pay (some .int) 0 0 Z J) {μ : Hp} {a0 : Nat} {x1 : Int32} {x2 : Int32} {x3 : Int32} {x4 : Int32} (hs_a0 : hS μ a0 = some (15, 65))
    (h : xCall d yX12_act cX12_act 7 (some .int) [.ref a0, .int 0, .int x1, .int x2, .int x3, .int x4] μ ro (fun r1 μ2 => ∃ y3 : Int32, r1 = some (.int y3) ∧ Z (some (.int y3)) μ2)) :
    J μ 0 0 0 [(0, .ref a0), (1, .int x1), (2, .int x2), (3, .int x3), (4, .int x4)] [] := by
  refine r_aload_n g dX12_pay_0 rfl ?_
  refine r_iconst g 0 dX12_pay_1 (by decide) ?_
  refine r_iload_n g dX12_pay_2 rfl ?_
  refine r_iload_n g dX12_pay_3 rfl ?_
  refine r_iload_n g dX12_pay_4 rfl ?_
  refine r_iload g dX12_pay_5 rfl ?_
  obtain ⟨d1, Z1, hc1, hd1, h1⟩ := h
  refine r_callV (st := []) (As := [.int 0, .int x1, .int x2, .int x3, .int x4]) g sX12_428 iX12_act eX12_act rfl hs_a0 rfl (Nat.le_of_ble_eq_true rfl) dX12_pay_7 hd1 (Nat.le_refl 0) (Nat.le_refl 0) hc1 (fun r1 μ2 hZ1 => ?_)
  replace h := h1 _ _ hZ1
  clear h1 hc1 hd1 hZ1 Z1 d1
  obtain ⟨y3, rfl, h⟩ := h
  exact hr.2.1 _ rfl _ _ _ _ _ _ dX12_pay_10 rfl (Nat.le_refl 0) (Nat.le_refl 0) h
theorem I_X12_pay {d : Nat} {ro : Nat → Nat} {Z : Option Value → Hp → Prop} {μ : Hp} {a0 : Nat} {x1 : Int32} {x2 : Int32} {x3 : Int32} {x4 : Int32} (h : ∀ J, xCtx RX12 cX12_pay 5 d 0 0 yX12_pay.name ro J → xRet cX12_pay (some .int) 0 0 Z J → J μ 0 0 0 [(0, .ref a0), (1, .int x1), (2, .int x2), (3, .int x3), (4, .int x4)] []) : xC d yX12_pay cX12_pay 5 (some .int) 0 0 [.ref a0, .int x1, .int x2, .int x3, .int x4] μ ro Z :=
  xC_intro (own := RX12) (lv := [(0, .ref a0), (1, .int x1), (2, .int x2), (3, .int x3), (4, .int x4)]) (by decide) rfl (Nat.le_of_ble_eq_true rfl) rfl (fun J g hr => r_sub g (lv' := [(0, .ref a0), (1, .int x1), (2, .int x2), (3, .int x3), (4, .int x4)]) (⟨rfl, rfl, rfl, rfl, rfl, trivial⟩) (h J g hr))
theorem dX12_pass_0 : decode cX12_pass 0 = .ok (.aload_n 0, 1) := by decide +kernel
theorem dX12_pass_1 : decode cX12_pass 1 = .ok (.iconst 1, 1) := by decide +kernel
theorem dX12_pass_2 : decode cX12_pass 2 = .ok (.iload_n 1, 1) := by decide +kernel
theorem dX12_pass_3 : decode cX12_pass 3 = .ok (.iconst 0, 1) := by decide +kernel
theorem dX12_pass_4 : decode cX12_pass 4 = .ok (.iconst 0, 1) := by decide +kernel
theorem dX12_pass_5 : decode cX12_pass 5 = .ok (.iconst 0, 1) := by decide +kernel
theorem dX12_pass_6 : decode cX12_pass 6 = .ok (.invokevirtual 428, 3) := by decide +kernel
theorem dX12_pass_9 : decode cX12_pass 9 = .ok (.ireturn, 1) := by decide +kernel
set_option maxHeartbeats 4000000 in
set_option maxRecDepth 100000 in
theorem B_X12_pass_0 {d : Nat} {ro : Nat → Nat} {J : JT} {Z : Option Value → Hp → Prop} (g : xCtx RX12 cX12_pass 2 d 0 0 yX12_pass.name ro J) (hr : xRet cX12_pass (some .int) 0 0 Z J) {μ : Hp} {a0 : Nat} {x1 : Int32} (hs_a0 : hS μ a0 = some (15, 65))
    (h : xCall d yX12_act cX12_act 7 (some .int) [.ref a0, .int 1, .int x1, .int 0, .int 0, .int 0] μ ro (fun r1 μ2 => ∃ y3 : Int32, r1 = some (.int y3) ∧ Z (some (.int y3)) μ2)) :
    J μ 0 0 0 [(0, .ref a0), (1, .int x1)] [] := by
  refine r_aload_n g dX12_pass_0 rfl ?_
  refine r_iconst g 1 dX12_pass_1 (by decide) ?_
  refine r_iload_n g dX12_pass_2 rfl ?_
  refine r_iconst g 0 dX12_pass_3 (by decide) ?_
  refine r_iconst g 0 dX12_pass_4 (by decide) ?_
  refine r_iconst g 0 dX12_pass_5 (by decide) ?_
  obtain ⟨d1, Z1, hc1, hd1, h1⟩ := h
  refine r_callV (st := []) (As := [.int 1, .int x1, .int 0, .int 0, .int 0]) g sX12_428 iX12_act eX12_act rfl hs_a0 rfl (Nat.le_of_ble_eq_true rfl) dX12_pass_6 hd1 (Nat.le_refl 0) (Nat.le_refl 0) hc1 (fun r1 μ2 hZ1 => ?_)
  replace h := h1 _ _ hZ1
  clear h1 hc1 hd1 hZ1 Z1 d1
  obtain ⟨y3, rfl, h⟩ := h
  exact hr.2.1 _ rfl _ _ _ _ _ _ dX12_pass_9 rfl (Nat.le_refl 0) (Nat.le_refl 0) h
theorem I_X12_pass {d : Nat} {ro : Nat → Nat} {Z : Option Value → Hp → Prop} {μ : Hp} {a0 : Nat} {x1 : Int32} (h : ∀ J, xCtx RX12 cX12_pass 2 d 0 0 yX12_pass.name ro J → xRet cX12_pass (some .int) 0 0 Z J → J μ 0 0 0 [(0, .ref a0), (1, .int x1)] []) : xC d yX12_pass cX12_pass 2 (some .int) 0 0 [.ref a0, .int x1] μ ro Z :=
  xC_intro (own := RX12) (lv := [(0, .ref a0), (1, .int x1)]) (by decide) rfl (Nat.le_of_ble_eq_true rfl) rfl (fun J g hr => r_sub g (lv' := [(0, .ref a0), (1, .int x1)]) (⟨rfl, rfl, trivial⟩) (h J g hr))
theorem dX12_staff_0 : decode cX12_staff 0 = .ok (.aload_n 0, 1) := by decide +kernel
theorem dX12_staff_1 : decode cX12_staff 1 = .ok (.iconst 2, 1) := by decide +kernel
theorem dX12_staff_2 : decode cX12_staff 2 = .ok (.iload_n 1, 1) := by decide +kernel
theorem dX12_staff_3 : decode cX12_staff 3 = .ok (.iload_n 2, 1) := by decide +kernel
theorem dX12_staff_4 : decode cX12_staff 4 = .ok (.iconst 0, 1) := by decide +kernel
theorem dX12_staff_5 : decode cX12_staff 5 = .ok (.iconst 0, 1) := by decide +kernel
theorem dX12_staff_6 : decode cX12_staff 6 = .ok (.invokevirtual 428, 3) := by decide +kernel
theorem dX12_staff_9 : decode cX12_staff 9 = .ok (.ireturn, 1) := by decide +kernel
set_option maxHeartbeats 4000000 in
set_option maxRecDepth 100000 in
theorem B_X12_staff_0 {d : Nat} {ro : Nat → Nat} {J : JT} {Z : Option Value → Hp → Prop} (g : xCtx RX12 cX12_staff 3 d 0 0 yX12_staff.name ro J) (hr : xRet cX12_staff (some .int) 0 0 Z J) {μ : Hp} {a0 : Nat} {x1 : Int32} {x2 : Int32} (hs_a0 : hS μ a0 = some (15, 65))
    (h : xCall d yX12_act cX12_act 7 (some .int) [.ref a0, .int 2, .int x1, .int x2, .int 0, .int 0] μ ro (fun r1 μ2 => ∃ y3 : Int32, r1 = some (.int y3) ∧ Z (some (.int y3)) μ2)) :
    J μ 0 0 0 [(0, .ref a0), (1, .int x1), (2, .int x2)] [] := by
  refine r_aload_n g dX12_staff_0 rfl ?_
  refine r_iconst g 2 dX12_staff_1 (by decide) ?_
  refine r_iload_n g dX12_staff_2 rfl ?_
  refine r_iload_n g dX12_staff_3 rfl ?_
  refine r_iconst g 0 dX12_staff_4 (by decide) ?_
  refine r_iconst g 0 dX12_staff_5 (by decide) ?_
  obtain ⟨d1, Z1, hc1, hd1, h1⟩ := h
  refine r_callV (st := []) (As := [.int 2, .int x1, .int x2, .int 0, .int 0]) g sX12_428 iX12_act eX12_act rfl hs_a0 rfl (Nat.le_of_ble_eq_true rfl) dX12_staff_6 hd1 (Nat.le_refl 0) (Nat.le_refl 0) hc1 (fun r1 μ2 hZ1 => ?_)
  replace h := h1 _ _ hZ1
  clear h1 hc1 hd1 hZ1 Z1 d1
  obtain ⟨y3, rfl, h⟩ := h
  exact hr.2.1 _ rfl _ _ _ _ _ _ dX12_staff_9 rfl (Nat.le_refl 0) (Nat.le_refl 0) h
theorem I_X12_staff {d : Nat} {ro : Nat → Nat} {Z : Option Value → Hp → Prop} {μ : Hp} {a0 : Nat} {x1 : Int32} {x2 : Int32} (h : ∀ J, xCtx RX12 cX12_staff 3 d 0 0 yX12_staff.name ro J → xRet cX12_staff (some .int) 0 0 Z J → J μ 0 0 0 [(0, .ref a0), (1, .int x1), (2, .int x2)] []) : xC d yX12_staff cX12_staff 3 (some .int) 0 0 [.ref a0, .int x1, .int x2] μ ro Z :=
  xC_intro (own := RX12) (lv := [(0, .ref a0), (1, .int x1), (2, .int x2)]) (by decide) rfl (Nat.le_of_ble_eq_true rfl) rfl (fun J g hr => r_sub g (lv' := [(0, .ref a0), (1, .int x1), (2, .int x2)]) (⟨rfl, rfl, rfl, trivial⟩) (h J g hr))
theorem dX12_own_0 : decode cX12_own 0 = .ok (.aload_n 0, 1) := by decide +kernel
theorem dX12_own_1 : decode cX12_own 1 = .ok (.iconst 3, 1) := by decide +kernel
theorem dX12_own_2 : decode cX12_own 2 = .ok (.iload_n 1, 1) := by decide +kernel
theorem dX12_own_3 : decode cX12_own 3 = .ok (.iload_n 2, 1) := by decide +kernel
theorem dX12_own_4 : decode cX12_own 4 = .ok (.iload_n 3, 1) := by decide +kernel
theorem dX12_own_5 : decode cX12_own 5 = .ok (.iconst 0, 1) := by decide +kernel
theorem dX12_own_6 : decode cX12_own 6 = .ok (.invokevirtual 428, 3) := by decide +kernel
theorem dX12_own_9 : decode cX12_own 9 = .ok (.ireturn, 1) := by decide +kernel
set_option maxHeartbeats 4000000 in
set_option maxRecDepth 100000 in
theorem B_X12_own_0 {d : Nat} {ro : Nat → Nat} {J : JT} {Z : Option Value → Hp → Prop} (g : xCtx RX12 cX12_own 4 d 0 0 yX12_own.name ro J) (hr : xRet cX12_own (some .int) 0 0 Z J) {μ : Hp} {a0 : Nat} {x1 : Int32} {x2 : Int32} {x3 : Int32} (hs_a0 : hS μ a0 = some (15, 65))
    (h : xCall d yX12_act cX12_act 7 (some .int) [.ref a0, .int 3, .int x1, .int x2, .int x3, .int 0] μ ro (fun r1 μ2 => ∃ y3 : Int32, r1 = some (.int y3) ∧ Z (some (.int y3)) μ2)) :
    J μ 0 0 0 [(0, .ref a0), (1, .int x1), (2, .int x2), (3, .int x3)] [] := by
  refine r_aload_n g dX12_own_0 rfl ?_
  refine r_iconst g 3 dX12_own_1 (by decide) ?_
  refine r_iload_n g dX12_own_2 rfl ?_
  refine r_iload_n g dX12_own_3 rfl ?_
  refine r_iload_n g dX12_own_4 rfl ?_
  refine r_iconst g 0 dX12_own_5 (by decide) ?_
  obtain ⟨d1, Z1, hc1, hd1, h1⟩ := h
  refine r_callV (st := []) (As := [.int 3, .int x1, .int x2, .int x3, .int 0]) g sX12_428 iX12_act eX12_act rfl hs_a0 rfl (Nat.le_of_ble_eq_true rfl) dX12_own_6 hd1 (Nat.le_refl 0) (Nat.le_refl 0) hc1 (fun r1 μ2 hZ1 => ?_)
  replace h := h1 _ _ hZ1
  clear h1 hc1 hd1 hZ1 Z1 d1
  obtain ⟨y3, rfl, h⟩ := h
  exact hr.2.1 _ rfl _ _ _ _ _ _ dX12_own_9 rfl (Nat.le_refl 0) (Nat.le_refl 0) h
theorem I_X12_own {d : Nat} {ro : Nat → Nat} {Z : Option Value → Hp → Prop} {μ : Hp} {a0 : Nat} {x1 : Int32} {x2 : Int32} {x3 : Int32} (h : ∀ J, xCtx RX12 cX12_own 4 d 0 0 yX12_own.name ro J → xRet cX12_own (some .int) 0 0 Z J → J μ 0 0 0 [(0, .ref a0), (1, .int x1), (2, .int x2), (3, .int x3)] []) : xC d yX12_own cX12_own 4 (some .int) 0 0 [.ref a0, .int x1, .int x2, .int x3] μ ro Z :=
  xC_intro (own := RX12) (lv := [(0, .ref a0), (1, .int x1), (2, .int x2), (3, .int x3)]) (by decide) rfl (Nat.le_of_ble_eq_true rfl) rfl (fun J g hr => r_sub g (lv' := [(0, .ref a0), (1, .int x1), (2, .int x2), (3, .int x3)]) (⟨rfl, rfl, rfl, rfl, trivial⟩) (h J g hr))
theorem dX12_lend_0 : decode cX12_lend 0 = .ok (.aload_n 0, 1) := by decide +kernel
theorem dX12_lend_1 : decode cX12_lend 1 = .ok (.iconst 4, 1) := by decide +kernel
theorem dX12_lend_2 : decode cX12_lend 2 = .ok (.iload_n 1, 1) := by decide +kernel
theorem dX12_lend_3 : decode cX12_lend 3 = .ok (.iload_n 2, 1) := by decide +kernel
theorem dX12_lend_4 : decode cX12_lend 4 = .ok (.iconst 0, 1) := by decide +kernel
theorem dX12_lend_5 : decode cX12_lend 5 = .ok (.iconst 0, 1) := by decide +kernel
theorem dX12_lend_6 : decode cX12_lend 6 = .ok (.invokevirtual 428, 3) := by decide +kernel
theorem dX12_lend_9 : decode cX12_lend 9 = .ok (.ireturn, 1) := by decide +kernel
set_option maxHeartbeats 4000000 in
set_option maxRecDepth 100000 in
theorem B_X12_lend_0 {d : Nat} {ro : Nat → Nat} {J : JT} {Z : Option Value → Hp → Prop} (g : xCtx RX12 cX12_lend 3 d 0 0 yX12_lend.name ro J) (hr : xRet cX12_lend (some .int) 0 0 Z J) {μ : Hp} {a0 : Nat} {x1 : Int32} {x2 : Int32} (hs_a0 : hS μ a0 = some (15, 65))
    (h : xCall d yX12_act cX12_act 7 (some .int) [.ref a0, .int 4, .int x1, .int x2, .int 0, .int 0] μ ro (fun r1 μ2 => ∃ y3 : Int32, r1 = some (.int y3) ∧ Z (some (.int y3)) μ2)) :
    J μ 0 0 0 [(0, .ref a0), (1, .int x1), (2, .int x2)] [] := by
  refine r_aload_n g dX12_lend_0 rfl ?_
  refine r_iconst g 4 dX12_lend_1 (by decide) ?_
  refine r_iload_n g dX12_lend_2 rfl ?_
  refine r_iload_n g dX12_lend_3 rfl ?_
  refine r_iconst g 0 dX12_lend_4 (by decide) ?_
  refine r_iconst g 0 dX12_lend_5 (by decide) ?_
  obtain ⟨d1, Z1, hc1, hd1, h1⟩ := h
  refine r_callV (st := []) (As := [.int 4, .int x1, .int x2, .int 0, .int 0]) g sX12_428 iX12_act eX12_act rfl hs_a0 rfl (Nat.le_of_ble_eq_true rfl) dX12_lend_6 hd1 (Nat.le_refl 0) (Nat.le_refl 0) hc1 (fun r1 μ2 hZ1 => ?_)
  replace h := h1 _ _ hZ1
  clear h1 hc1 hd1 hZ1 Z1 d1
  obtain ⟨y3, rfl, h⟩ := h
  exact hr.2.1 _ rfl _ _ _ _ _ _ dX12_lend_9 rfl (Nat.le_refl 0) (Nat.le_refl 0) h
theorem I_X12_lend {d : Nat} {ro : Nat → Nat} {Z : Option Value → Hp → Prop} {μ : Hp} {a0 : Nat} {x1 : Int32} {x2 : Int32} (h : ∀ J, xCtx RX12 cX12_lend 3 d 0 0 yX12_lend.name ro J → xRet cX12_lend (some .int) 0 0 Z J → J μ 0 0 0 [(0, .ref a0), (1, .int x1), (2, .int x2)] []) : xC d yX12_lend cX12_lend 3 (some .int) 0 0 [.ref a0, .int x1, .int x2] μ ro Z :=
  xC_intro (own := RX12) (lv := [(0, .ref a0), (1, .int x1), (2, .int x2)]) (by decide) rfl (Nat.le_of_ble_eq_true rfl) rfl (fun J g hr => r_sub g (lv' := [(0, .ref a0), (1, .int x1), (2, .int x2)]) (⟨rfl, rfl, rfl, trivial⟩) (h J g hr))
theorem dX12_draw_0 : decode cX12_draw 0 = .ok (.aload_n 0, 1) := by decide +kernel
theorem dX12_draw_1 : decode cX12_draw 1 = .ok (.aload_n 0, 1) := by decide +kernel
theorem dX12_draw_2 : decode cX12_draw 2 = .ok (.getfield 431, 3) := by decide +kernel
theorem dX12_draw_5 : decode cX12_draw 5 = .ok (.ldc2_w 434, 3) := by decide +kernel
theorem dX12_draw_8 : decode cX12_draw 8 = .ok (.lmul, 1) := by decide +kernel
theorem dX12_draw_9 : decode cX12_draw 9 = .ok (.ldc2_w 436, 3) := by decide +kernel
theorem dX12_draw_12 : decode cX12_draw 12 = .ok (.ladd, 1) := by decide +kernel
theorem dX12_draw_13 : decode cX12_draw 13 = .ok (.putfield 431, 3) := by decide +kernel
theorem dX12_draw_16 : decode cX12_draw 16 = .ok (.aload_n 0, 1) := by decide +kernel
theorem dX12_draw_17 : decode cX12_draw 17 = .ok (.getfield 431, 3) := by decide +kernel
theorem dX12_draw_20 : decode cX12_draw 20 = .ok (.bipush 33, 2) := by decide +kernel
theorem dX12_draw_22 : decode cX12_draw 22 = .ok (.lushr, 1) := by decide +kernel
theorem dX12_draw_23 : decode cX12_draw 23 = .ok (.iload_n 1, 1) := by decide +kernel
theorem dX12_draw_24 : decode cX12_draw 24 = .ok (.i2l, 1) := by decide +kernel
theorem dX12_draw_25 : decode cX12_draw 25 = .ok (.lrem, 1) := by decide +kernel
theorem dX12_draw_26 : decode cX12_draw 26 = .ok (.l2i, 1) := by decide +kernel
theorem dX12_draw_27 : decode cX12_draw 27 = .ok (.ireturn, 1) := by decide +kernel
set_option maxHeartbeats 4000000 in
set_option maxRecDepth 100000 in
theorem B_X12_draw_0 {d : Nat} {ro : Nat → Nat} {J : JT} {Z : Option Value → Hp → Prop} (g : xCtx RX12 cX12_draw 2 d 0 0 yX12_draw.name ro J) (hr : xRet cX12_draw (some .int) 0 0 Z J) {μ : Hp} {a0 : Nat} {x1 : Int32} (hs_a0 : hS μ a0 = some (15, 65))
    (h : (∀ v1 : Int64, v1 = (hL (wL μ a0 62 (((hL μ a0 62) * 6364136223846793005) + 1442695040888963407)) a0 62) → (∀ v2 : Int64, v2 = (v1.toUInt64 >>> ((33 : Int32).toInt64.toUInt64 &&& Int64.toUInt64 63)).toInt64 → ¬ x1.toInt64 = 0 ∧ Z (some (.int (v2 - v2 / x1.toInt64 * x1.toInt64).toInt32)) (wL μ a0 62 (((hL μ a0 62) * 6364136223846793005) + 1442695040888963407))))) :
    J μ 0 0 0 [(0, .ref a0), (1, .int x1)] [] := by
  refine r_aload_n g dX12_draw_0 rfl ?_
  refine r_aload_n g dX12_draw_1 rfl ?_
  refine r_getL g fX12_431 rfl hs_a0 dX12_draw_2 ?_
  refine r_ldc2 g 6364136223846793005 kX12_434 dX12_draw_5 ?_
  refine r_lmul g dX12_draw_8 ?_
  refine r_ldc2 g 1442695040888963407 kX12_436 dX12_draw_9 ?_
  refine r_ladd g dX12_draw_12 ?_
  refine r_putL g fX12_431 rfl hs_a0 rfl rfl dX12_draw_13 ?_
  refine r_aload_n g dX12_draw_16 rfl ?_
  refine r_getL g fX12_431 rfl hs_a0 dX12_draw_17 ?_
  refine r_nmL (fun v1 ev1 => ?_)
  replace h := h v1 ev1
  refine r_bipush g 33 dX12_draw_20 (by decide) ?_
  refine r_lushr g dX12_draw_22 ?_
  refine r_nmL (fun v2 ev2 => ?_)
  replace h := h v2 ev2
  refine r_iload_n g dX12_draw_23 rfl ?_
  refine r_i2l g dX12_draw_24 ?_
  obtain ⟨hz3, h⟩ := h
  refine r_lrem g hz3 dX12_draw_25 ?_
  refine r_l2i g dX12_draw_26 ?_
  exact hr.2.1 _ rfl _ _ _ _ _ _ dX12_draw_27 rfl (Nat.le_refl 0) (Nat.le_refl 0) h
theorem I_X12_draw {d : Nat} {ro : Nat → Nat} {Z : Option Value → Hp → Prop} {μ : Hp} {a0 : Nat} {x1 : Int32} (h : ∀ J, xCtx RX12 cX12_draw 2 d 0 0 yX12_draw.name ro J → xRet cX12_draw (some .int) 0 0 Z J → J μ 0 0 0 [(0, .ref a0), (1, .int x1)] []) : xC d yX12_draw cX12_draw 2 (some .int) 0 0 [.ref a0, .int x1] μ ro Z :=
  xC_intro (own := RX12) (lv := [(0, .ref a0), (1, .int x1)]) (by decide) rfl (Nat.le_of_ble_eq_true rfl) rfl (fun J g hr => r_sub g (lv' := [(0, .ref a0), (1, .int x1)]) (⟨rfl, rfl, trivial⟩) (h J g hr))
theorem dX12_happens_0 : decode cX12_happens 0 = .ok (.aload_n 0, 1) := by decide +kernel
theorem dX12_happens_1 : decode cX12_happens 1 = .ok (.bipush 8, 2) := by decide +kernel
theorem dX12_happens_3 : decode cX12_happens 3 = .ok (.invokevirtual 438, 3) := by decide +kernel
theorem dX12_happens_6 : decode cX12_happens 6 = .ok (.istore_n 1, 1) := by decide +kernel
theorem dX12_happens_7 : decode cX12_happens 7 = .ok (.iload_n 1, 1) := by decide +kernel
theorem dX12_happens_8 : decode cX12_happens 8 = .ok (.iconst 4, 1) := by decide +kernel
theorem dX12_happens_9 : decode cX12_happens 9 = .ok (.if_icmp .ge 47, 3) := by decide +kernel
theorem dX12_happens_12 : decode cX12_happens 12 = .ok (.aload_n 0, 1) := by decide +kernel
theorem dX12_happens_13 : decode cX12_happens 13 = .ok (.iconst 2, 1) := by decide +kernel
theorem dX12_happens_14 : decode cX12_happens 14 = .ok (.invokevirtual 438, 3) := by decide +kernel
theorem dX12_happens_17 : decode cX12_happens 17 = .ok (.istore_n 2, 1) := by decide +kernel
theorem dX12_happens_18 : decode cX12_happens 18 = .ok (.aload_n 0, 1) := by decide +kernel
theorem dX12_happens_19 : decode cX12_happens 19 = .ok (.aload_n 0, 1) := by decide +kernel
theorem dX12_happens_20 : decode cX12_happens 20 = .ok (.getfield 245, 3) := by decide +kernel
theorem dX12_happens_23 : decode cX12_happens 23 = .ok (.invokevirtual 438, 3) := by decide +kernel
theorem dX12_happens_26 : decode cX12_happens 26 = .ok (.istore_n 3, 1) := by decide +kernel
theorem dX12_happens_27 : decode cX12_happens 27 = .ok (.aload_n 0, 1) := by decide +kernel
theorem dX12_happens_28 : decode cX12_happens 28 = .ok (.aload_n 0, 1) := by decide +kernel
theorem dX12_happens_29 : decode cX12_happens 29 = .ok (.getfield 245, 3) := by decide +kernel
theorem dX12_happens_32 : decode cX12_happens 32 = .ok (.invokevirtual 438, 3) := by decide +kernel
theorem dX12_happens_35 : decode cX12_happens 35 = .ok (.istore 4, 2) := by decide +kernel
theorem dX12_happens_37 : decode cX12_happens 37 = .ok (.aload_n 0, 1) := by decide +kernel
theorem dX12_happens_38 : decode cX12_happens 38 = .ok (.iconst 0, 1) := by decide +kernel
theorem dX12_happens_39 : decode cX12_happens 39 = .ok (.iload_n 2, 1) := by decide +kernel
theorem dX12_happens_40 : decode cX12_happens 40 = .ok (.iload_n 3, 1) := by decide +kernel
theorem dX12_happens_41 : decode cX12_happens 41 = .ok (.iload 4, 2) := by decide +kernel
theorem dX12_happens_43 : decode cX12_happens 43 = .ok (.aload_n 0, 1) := by decide +kernel
theorem dX12_happens_44 : decode cX12_happens 44 = .ok (.sipush 1000, 3) := by decide +kernel
theorem dX12_happens_47 : decode cX12_happens 47 = .ok (.invokevirtual 438, 3) := by decide +kernel
theorem dX12_happens_50 : decode cX12_happens 50 = .ok (.iconst 1, 1) := by decide +kernel
theorem dX12_happens_51 : decode cX12_happens 51 = .ok (.iadd, 1) := by decide +kernel
theorem dX12_happens_52 : decode cX12_happens 52 = .ok (.invokevirtual 424, 3) := by decide +kernel
theorem dX12_happens_55 : decode cX12_happens 55 = .ok (.ireturn, 1) := by decide +kernel
theorem dX12_happens_56 : decode cX12_happens 56 = .ok (.iload_n 1, 1) := by decide +kernel
theorem dX12_happens_57 : decode cX12_happens 57 = .ok (.iconst 4, 1) := by decide +kernel
theorem dX12_happens_58 : decode cX12_happens 58 = .ok (.if_icmp .ne 19, 3) := by decide +kernel
theorem dX12_happens_61 : decode cX12_happens 61 = .ok (.aload_n 0, 1) := by decide +kernel
theorem dX12_happens_62 : decode cX12_happens 62 = .ok (.iconst 1, 1) := by decide +kernel
theorem dX12_happens_63 : decode cX12_happens 63 = .ok (.aload_n 0, 1) := by decide +kernel
theorem dX12_happens_64 : decode cX12_happens 64 = .ok (.iconst 5, 1) := by decide +kernel
theorem dX12_happens_65 : decode cX12_happens 65 = .ok (.invokevirtual 438, 3) := by decide +kernel
theorem dX12_happens_68 : decode cX12_happens 68 = .ok (.iconst 1, 1) := by decide +kernel
theorem dX12_happens_69 : decode cX12_happens 69 = .ok (.iadd, 1) := by decide +kernel
theorem dX12_happens_70 : decode cX12_happens 70 = .ok (.iconst 0, 1) := by decide +kernel
theorem dX12_happens_71 : decode cX12_happens 71 = .ok (.iconst 0, 1) := by decide +kernel
theorem dX12_happens_72 : decode cX12_happens 72 = .ok (.iconst 0, 1) := by decide +kernel
theorem dX12_happens_73 : decode cX12_happens 73 = .ok (.invokevirtual 424, 3) := by decide +kernel
theorem dX12_happens_76 : decode cX12_happens 76 = .ok (.ireturn, 1) := by decide +kernel
theorem dX12_happens_77 : decode cX12_happens 77 = .ok (.aload_n 0, 1) := by decide +kernel
theorem dX12_happens_78 : decode cX12_happens 78 = .ok (.aload_n 0, 1) := by decide +kernel
theorem dX12_happens_79 : decode cX12_happens 79 = .ok (.getfield 245, 3) := by decide +kernel
theorem dX12_happens_82 : decode cX12_happens 82 = .ok (.invokevirtual 438, 3) := by decide +kernel
theorem dX12_happens_85 : decode cX12_happens 85 = .ok (.istore_n 2, 1) := by decide +kernel
theorem dX12_happens_86 : decode cX12_happens 86 = .ok (.iload_n 1, 1) := by decide +kernel
theorem dX12_happens_87 : decode cX12_happens 87 = .ok (.iconst 5, 1) := by decide +kernel
theorem dX12_happens_88 : decode cX12_happens 88 = .ok (.if_icmp .ne 18, 3) := by decide +kernel
theorem dX12_happens_91 : decode cX12_happens 91 = .ok (.aload_n 0, 1) := by decide +kernel
theorem dX12_happens_92 : decode cX12_happens 92 = .ok (.iconst 2, 1) := by decide +kernel
theorem dX12_happens_93 : decode cX12_happens 93 = .ok (.iload_n 2, 1) := by decide +kernel
theorem dX12_happens_94 : decode cX12_happens 94 = .ok (.aload_n 0, 1) := by decide +kernel
theorem dX12_happens_95 : decode cX12_happens 95 = .ok (.bipush 100, 2) := by decide +kernel
theorem dX12_happens_97 : decode cX12_happens 97 = .ok (.invokevirtual 438, 3) := by decide +kernel
theorem dX12_happens_100 : decode cX12_happens 100 = .ok (.iconst 0, 1) := by decide +kernel
theorem dX12_happens_101 : decode cX12_happens 101 = .ok (.iconst 0, 1) := by decide +kernel
theorem dX12_happens_102 : decode cX12_happens 102 = .ok (.invokevirtual 424, 3) := by decide +kernel
theorem dX12_happens_105 : decode cX12_happens 105 = .ok (.ireturn, 1) := by decide +kernel
theorem dX12_happens_106 : decode cX12_happens 106 = .ok (.aload_n 0, 1) := by decide +kernel
theorem dX12_happens_107 : decode cX12_happens 107 = .ok (.aload_n 0, 1) := by decide +kernel
theorem dX12_happens_108 : decode cX12_happens 108 = .ok (.getfield 245, 3) := by decide +kernel
theorem dX12_happens_111 : decode cX12_happens 111 = .ok (.invokevirtual 438, 3) := by decide +kernel
theorem dX12_happens_114 : decode cX12_happens 114 = .ok (.istore_n 3, 1) := by decide +kernel
theorem dX12_happens_115 : decode cX12_happens 115 = .ok (.iload_n 1, 1) := by decide +kernel
theorem dX12_happens_116 : decode cX12_happens 116 = .ok (.bipush 6, 2) := by decide +kernel
theorem dX12_happens_118 : decode cX12_happens 118 = .ok (.if_icmp .ne 20, 3) := by decide +kernel
theorem dX12_happens_121 : decode cX12_happens 121 = .ok (.aload_n 0, 1) := by decide +kernel
theorem dX12_happens_122 : decode cX12_happens 122 = .ok (.iconst 3, 1) := by decide +kernel
theorem dX12_happens_123 : decode cX12_happens 123 = .ok (.iload_n 2, 1) := by decide +kernel
theorem dX12_happens_124 : decode cX12_happens 124 = .ok (.iload_n 3, 1) := by decide +kernel
theorem dX12_happens_125 : decode cX12_happens 125 = .ok (.aload_n 0, 1) := by decide +kernel
theorem dX12_happens_126 : decode cX12_happens 126 = .ok (.bipush 101, 2) := by decide +kernel
theorem dX12_happens_128 : decode cX12_happens 128 = .ok (.invokevirtual 438, 3) := by decide +kernel
theorem dX12_happens_131 : decode cX12_happens 131 = .ok (.iconst 0, 1) := by decide +kernel
theorem dX12_happens_132 : decode cX12_happens 132 = .ok (.invokevirtual 424, 3) := by decide +kernel
theorem dX12_happens_135 : decode cX12_happens 135 = .ok (.goto 12, 3) := by decide +kernel
theorem dX12_happens_138 : decode cX12_happens 138 = .ok (.aload_n 0, 1) := by decide +kernel
theorem dX12_happens_139 : decode cX12_happens 139 = .ok (.iconst 4, 1) := by decide +kernel
theorem dX12_happens_140 : decode cX12_happens 140 = .ok (.iload_n 2, 1) := by decide +kernel
theorem dX12_happens_141 : decode cX12_happens 141 = .ok (.iload_n 3, 1) := by decide +kernel
theorem dX12_happens_142 : decode cX12_happens 142 = .ok (.iconst 0, 1) := by decide +kernel
theorem dX12_happens_143 : decode cX12_happens 143 = .ok (.iconst 0, 1) := by decide +kernel
theorem dX12_happens_144 : decode cX12_happens 144 = .ok (.invokevirtual 424, 3) := by decide +kernel
theorem dX12_happens_147 : decode cX12_happens 147 = .ok (.ireturn, 1) := by decide +kernel
set_option maxHeartbeats 4000000 in
set_option maxRecDepth 100000 in
theorem B_X12_happens_0 {d : Nat} {ro : Nat → Nat} {J : JT} {Z : Option Value → Hp → Prop} (g : xCtx RX12 cX12_happens 5 d 0 0 yX12_happens.name ro J) (hr : xRet cX12_happens (some .int) 0 0 Z J) {μ : Hp} {a0 : Nat} (hs_a0 : hS μ a0 = some (15, 65))
    (h : xCall d yX12_draw cX12_draw 2 (some .int) [.ref a0, .int 8] μ ro (fun r1 μ2 => ∃ y3 : Int32, r1 = some (.int y3) ∧ ((4 ≤ y3 → ((¬ y3 = 4 → hS μ2 a0 = some (15, 65) ∧ xCall d yX12_draw cX12_draw 2 (some .int) [.ref a0, .int (hI μ2 a0 22)] μ2 ro (fun r6 μ7 => ∃ y8 : Int32, r6 = some (.int y8) ∧ ((¬ y3 = 5 → hS μ7 a0 = some (15, 65) ∧ xCall d yX12_draw cX12_draw 2 (some .int) [.ref a0, .int (hI μ7 a0 22)] μ7 ro (fun r10 μ11 => ∃ y12 : Int32, r10 = some (.int y12) ∧ ((¬ y3 = 6 → hS μ11 a0 = some (15, 65) ∧ xCall d yX12_tries cX12_tries 7 (some .int) [.ref a0, .int 4, .int y8, .int y12, .int 0, .int 0] μ11 ro (fun r14 μ15 => ∃ y16 : Int32, r14 = some (.int y16) ∧ Z (some (.int y16)) μ15)) ∧ (y3 = 6 → hS μ11 a0 = some (15, 65) ∧ xCall d yX12_draw cX12_draw 2 (some .int) [.ref a0, .int 101] μ11 ro (fun r17 μ18 => ∃ y19 : Int32, r17 = some (.int y19) ∧ hS μ18 a0 = some (15, 65) ∧ xCall d yX12_tries cX12_tries 7 (some .int) [.ref a0, .int 3, .int y8, .int y12, .int y19, .int 0] μ18 ro (fun r20 μ21 => ∃ y22 : Int32, r20 = some (.int y22) ∧ Z (some (.int y22)) μ21)))))) ∧ (y3 = 5 → hS μ7 a0 = some (15, 65) ∧ xCall d yX12_draw cX12_draw 2 (some .int) [.ref a0, .int 100] μ7 ro (fun r23 μ24 => ∃ y25 : Int32, r23 = some (.int y25) ∧ hS μ24 a0 = some (15, 65) ∧ xCall d yX12_tries cX12_tries 7 (some .int) [.ref a0, .int 2, .int y8, .int y25, .int 0, .int 0] μ24 ro (fun r26 μ27 => ∃ y28 : Int32, r26 = some (.int y28) ∧ Z (some (.int y28)) μ27)))))) ∧ (y3 = 4 → hS μ2 a0 = some (15, 65) ∧ xCall d yX12_draw cX12_draw 2 (some .int) [.ref a0, .int 5] μ2 ro (fun r29 μ30 => ∃ y31 : Int32, r29 = some (.int y31) ∧ hS μ30 a0 = some (15, 65) ∧ xCall d yX12_tries cX12_tries 7 (some .int) [.ref a0, .int 1, .int (y31 + 1), .int 0, .int 0, .int 0] μ30 ro (fun r32 μ33 => ∃ y34 : Int32, r32 = some (.int y34) ∧ Z (some (.int y34)) μ33))))) ∧ (¬ 4 ≤ y3 → hS μ2 a0 = some (15, 65) ∧ xCall d yX12_draw cX12_draw 2 (some .int) [.ref a0, .int 2] μ2 ro (fun r35 μ36 => ∃ y37 : Int32, r35 = some (.int y37) ∧ hS μ36 a0 = some (15, 65) ∧ xCall d yX12_draw cX12_draw 2 (some .int) [.ref a0, .int (hI μ36 a0 22)] μ36 ro (fun r38 μ39 => ∃ y40 : Int32, r38 = some (.int y40) ∧ hS μ39 a0 = some (15, 65) ∧ xCall d yX12_draw cX12_draw 2 (some .int) [.ref a0, .int (hI μ39 a0 22)] μ39 ro (fun r41 μ42 => ∃ y43 : Int32, r41 = some (.int y43) ∧ hS μ42 a0 = some (15, 65) ∧ xCall d yX12_draw cX12_draw 2 (some .int) [.ref a0, .int 1000] μ42 ro (fun r44 μ45 => ∃ y46 : Int32, r44 = some (.int y46) ∧ hS μ45 a0 = some (15, 65) ∧ xCall d yX12_tries cX12_tries 7 (some .int) [.ref a0, .int 0, .int y37, .int y40, .int y43, .int (y46 + 1)] μ45 ro (fun r47 μ48 => ∃ y49 : Int32, r47 = some (.int y49) ∧ Z (some (.int y49)) μ48))))))))) :
    J μ 0 0 0 [(0, .ref a0)] [] := by
  refine r_aload_n g dX12_happens_0 rfl ?_
  refine r_bipush g 8 dX12_happens_1 (by decide) ?_
  obtain ⟨d1, Z1, hc1, hd1, h1⟩ := h
  refine r_callV (st := []) (As := [.int 8]) g sX12_438 iX12_draw eX12_draw rfl hs_a0 rfl (Nat.le_of_ble_eq_true rfl) dX12_happens_3 hd1 (Nat.le_refl 0) (Nat.le_refl 0) hc1 (fun r1 μ2 hZ1 => ?_)
  replace h := h1 _ _ hZ1
  clear h1 hc1 hd1 hZ1 Z1 d1
  obtain ⟨y3, rfl, h⟩ := h
  refine r_istore_n g [(1, .int y3), (0, .ref a0)] dX12_happens_6 (by decide) rfl ?_
  refine r_iload_n g dX12_happens_7 rfl ?_
  refine r_iconst g 4 dX12_happens_8 (by decide) ?_
  refine r_icmp_ge g 56 dX12_happens_9 (by decide) (fun c4 => ?_) (fun c4 => ?_)
  · replace h := h.1 c4
    refine r_iload_n g dX12_happens_56 rfl ?_
    refine r_iconst g 4 dX12_happens_57 (by decide) ?_
    refine r_icmp_ne g 77 dX12_happens_58 (by decide) (fun c5 => ?_) (fun c5 => ?_)
    · replace h := h.1 c5
      refine r_aload_n g dX12_happens_77 rfl ?_
      refine r_aload_n g dX12_happens_78 rfl ?_
      obtain ⟨hs_a0_, h⟩ := h
      refine r_getI g fX12_245 rfl hs_a0_ dX12_happens_79 ?_
      obtain ⟨d1, Z1, hc1, hd1, h1⟩ := h
      refine r_callV (st := []) (As := [.int (hI μ2 a0 22)]) g sX12_438 iX12_draw eX12_draw rfl hs_a0_ rfl (Nat.le_of_ble_eq_true rfl) dX12_happens_82 hd1 (Nat.le_refl 0) (Nat.le_refl 0) hc1 (fun r6 μ7 hZ1 => ?_)
      replace h := h1 _ _ hZ1
      clear h1 hc1 hd1 hZ1 Z1 d1
      obtain ⟨y8, rfl, h⟩ := h
      refine r_istore_n g [(2, .int y8), (1, .int y3), (0, .ref a0)] dX12_happens_85 (by decide) rfl ?_
      refine r_iload_n g dX12_happens_86 rfl ?_
      refine r_iconst g 5 dX12_happens_87 (by decide) ?_
      refine r_icmp_ne g 106 dX12_happens_88 (by decide) (fun c9 => ?_) (fun c9 => ?_)
      · replace h := h.1 c9
        refine r_aload_n g dX12_happens_106 rfl ?_
        refine r_aload_n g dX12_happens_107 rfl ?_
        obtain ⟨hs_a0__, h⟩ := h
        refine r_getI g fX12_245 rfl hs_a0__ dX12_happens_108 ?_
        obtain ⟨d1, Z1, hc1, hd1, h1⟩ := h
        refine r_callV (st := []) (As := [.int (hI μ7 a0 22)]) g sX12_438 iX12_draw eX12_draw rfl hs_a0__ rfl (Nat.le_of_ble_eq_true rfl) dX12_happens_111 hd1 (Nat.le_refl 0) (Nat.le_refl 0) hc1 (fun r10 μ11 hZ1 => ?_)
        replace h := h1 _ _ hZ1
        clear h1 hc1 hd1 hZ1 Z1 d1
        obtain ⟨y12, rfl, h⟩ := h
        refine r_istore_n g [(3, .int y12), (2, .int y8), (1, .int y3), (0, .ref a0)] dX12_happens_114 (by decide) rfl ?_
        refine r_iload_n g dX12_happens_115 rfl ?_
        refine r_bipush g 6 dX12_happens_116 (by decide) ?_
        refine r_icmp_ne g 138 dX12_happens_118 (by decide) (fun c13 => ?_) (fun c13 => ?_)
        · replace h := h.1 c13
          refine r_aload_n g dX12_happens_138 rfl ?_
          refine r_iconst g 4 dX12_happens_139 (by decide) ?_
          refine r_iload_n g dX12_happens_140 rfl ?_
          refine r_iload_n g dX12_happens_141 rfl ?_
          refine r_iconst g 0 dX12_happens_142 (by decide) ?_
          refine r_iconst g 0 dX12_happens_143 (by decide) ?_
          obtain ⟨hs_a0___, h⟩ := h
          obtain ⟨d1, Z1, hc1, hd1, h1⟩ := h
          refine r_callV (st := []) (As := [.int 4, .int y8, .int y12, .int 0, .int 0]) g sX12_424 iX12_tries eX12_tries rfl hs_a0___ rfl (Nat.le_of_ble_eq_true rfl) dX12_happens_144 hd1 (Nat.le_refl 0) (Nat.le_refl 0) hc1 (fun r14 μ15 hZ1 => ?_)
          replace h := h1 _ _ hZ1
          clear h1 hc1 hd1 hZ1 Z1 d1
          obtain ⟨y16, rfl, h⟩ := h
          exact hr.2.1 _ rfl _ _ _ _ _ _ dX12_happens_147 rfl (Nat.le_refl 0) (Nat.le_refl 0) h
        · replace h := h.2 c13
          refine r_aload_n g dX12_happens_121 rfl ?_
          refine r_iconst g 3 dX12_happens_122 (by decide) ?_
          refine r_iload_n g dX12_happens_123 rfl ?_
          refine r_iload_n g dX12_happens_124 rfl ?_
          refine r_aload_n g dX12_happens_125 rfl ?_
          refine r_bipush g 101 dX12_happens_126 (by decide) ?_
          obtain ⟨hs_a0____, h⟩ := h
          obtain ⟨d1, Z1, hc1, hd1, h1⟩ := h
          refine r_callV (st := [.int y12, .int y8, .int 3, .ref a0]) (As := [.int 101]) g sX12_438 iX12_draw eX12_draw rfl hs_a0____ rfl (Nat.le_of_ble_eq_true rfl) dX12_happens_128 hd1 (Nat.le_refl 0) (Nat.le_refl 0) hc1 (fun r17 μ18 hZ1 => ?_)
          replace h := h1 _ _ hZ1
          clear h1 hc1 hd1 hZ1 Z1 d1
          obtain ⟨y19, rfl, h⟩ := h
          refine r_iconst g 0 dX12_happens_131 (by decide) ?_
          obtain ⟨hs_a0_____, h⟩ := h
          obtain ⟨d1, Z1, hc1, hd1, h1⟩ := h
          refine r_callV (st := []) (As := [.int 3, .int y8, .int y12, .int y19, .int 0]) g sX12_424 iX12_tries eX12_tries rfl hs_a0_____ rfl (Nat.le_of_ble_eq_true rfl) dX12_happens_132 hd1 (Nat.le_refl 0) (Nat.le_refl 0) hc1 (fun r20 μ21 hZ1 => ?_)
          replace h := h1 _ _ hZ1
          clear h1 hc1 hd1 hZ1 Z1 d1
          obtain ⟨y22, rfl, h⟩ := h
          refine r_goto g 147 dX12_happens_135 (by decide) ?_
          exact hr.2.1 _ rfl _ _ _ _ _ _ dX12_happens_147 rfl (Nat.le_refl 0) (Nat.le_refl 0) h
      · replace h := h.2 c9
        refine r_aload_n g dX12_happens_91 rfl ?_
        refine r_iconst g 2 dX12_happens_92 (by decide) ?_
        refine r_iload_n g dX12_happens_93 rfl ?_
        refine r_aload_n g dX12_happens_94 rfl ?_
        refine r_bipush g 100 dX12_happens_95 (by decide) ?_
        obtain ⟨hs_a0______, h⟩ := h
        obtain ⟨d1, Z1, hc1, hd1, h1⟩ := h
        refine r_callV (st := [.int y8, .int 2, .ref a0]) (As := [.int 100]) g sX12_438 iX12_draw eX12_draw rfl hs_a0______ rfl (Nat.le_of_ble_eq_true rfl) dX12_happens_97 hd1 (Nat.le_refl 0) (Nat.le_refl 0) hc1 (fun r23 μ24 hZ1 => ?_)
        replace h := h1 _ _ hZ1
        clear h1 hc1 hd1 hZ1 Z1 d1
        obtain ⟨y25, rfl, h⟩ := h
        refine r_iconst g 0 dX12_happens_100 (by decide) ?_
        refine r_iconst g 0 dX12_happens_101 (by decide) ?_
        obtain ⟨hs_a0_______, h⟩ := h
        obtain ⟨d1, Z1, hc1, hd1, h1⟩ := h
        refine r_callV (st := []) (As := [.int 2, .int y8, .int y25, .int 0, .int 0]) g sX12_424 iX12_tries eX12_tries rfl hs_a0_______ rfl (Nat.le_of_ble_eq_true rfl) dX12_happens_102 hd1 (Nat.le_refl 0) (Nat.le_refl 0) hc1 (fun r26 μ27 hZ1 => ?_)
        replace h := h1 _ _ hZ1
        clear h1 hc1 hd1 hZ1 Z1 d1
        obtain ⟨y28, rfl, h⟩ := h
        exact hr.2.1 _ rfl _ _ _ _ _ _ dX12_happens_105 rfl (Nat.le_refl 0) (Nat.le_refl 0) h
    · replace h := h.2 c5
      refine r_aload_n g dX12_happens_61 rfl ?_
      refine r_iconst g 1 dX12_happens_62 (by decide) ?_
      refine r_aload_n g dX12_happens_63 rfl ?_
      refine r_iconst g 5 dX12_happens_64 (by decide) ?_
      obtain ⟨hs_a0________, h⟩ := h
      obtain ⟨d1, Z1, hc1, hd1, h1⟩ := h
      refine r_callV (st := [.int 1, .ref a0]) (As := [.int 5]) g sX12_438 iX12_draw eX12_draw rfl hs_a0________ rfl (Nat.le_of_ble_eq_true rfl) dX12_happens_65 hd1 (Nat.le_refl 0) (Nat.le_refl 0) hc1 (fun r29 μ30 hZ1 => ?_)
      replace h := h1 _ _ hZ1
      clear h1 hc1 hd1 hZ1 Z1 d1
      obtain ⟨y31, rfl, h⟩ := h
      refine r_iconst g 1 dX12_happens_68 (by decide) ?_
      refine r_iadd g dX12_happens_69 ?_
      refine r_iconst g 0 dX12_happens_70 (by decide) ?_
      refine r_iconst g 0 dX12_happens_71 (by decide) ?_
      refine r_iconst g 0 dX12_happens_72 (by decide) ?_
      obtain ⟨hs_a0_________, h⟩ := h
      obtain ⟨d1, Z1, hc1, hd1, h1⟩ := h
      refine r_callV (st := []) (As := [.int 1, .int (y31 + 1), .int 0, .int 0, .int 0]) g sX12_424 iX12_tries eX12_tries rfl hs_a0_________ rfl (Nat.le_of_ble_eq_true rfl) dX12_happens_73 hd1 (Nat.le_refl 0) (Nat.le_refl 0) hc1 (fun r32 μ33 hZ1 => ?_)
      replace h := h1 _ _ hZ1
      clear h1 hc1 hd1 hZ1 Z1 d1
      obtain ⟨y34, rfl, h⟩ := h
      exact hr.2.1 _ rfl _ _ _ _ _ _ dX12_happens_76 rfl (Nat.le_refl 0) (Nat.le_refl 0) h
  · replace h := h.2 c4
    refine r_aload_n g dX12_happens_12 rfl ?_
    refine r_iconst g 2 dX12_happens_13 (by decide) ?_
    obtain ⟨hs_a0__________, h⟩ := h
    obtain ⟨d1, Z1, hc1, hd1, h1⟩ := h
    refine r_callV (st := []) (As := [.int 2]) g sX12_438 iX12_draw eX12_draw rfl hs_a0__________ rfl (Nat.le_of_ble_eq_true rfl) dX12_happens_14 hd1 (Nat.le_refl 0) (Nat.le_refl 0) hc1 (fun r35 μ36 hZ1 => ?_)
    replace h := h1 _ _ hZ1
    clear h1 hc1 hd1 hZ1 Z1 d1
    obtain ⟨y37, rfl, h⟩ := h
    refine r_istore_n g [(2, .int y37), (1, .int y3), (0, .ref a0)] dX12_happens_17 (by decide) rfl ?_
    refine r_aload_n g dX12_happens_18 rfl ?_
    refine r_aload_n g dX12_happens_19 rfl ?_
    obtain ⟨hs_a0___________, h⟩ := h
    refine r_getI g fX12_245 rfl hs_a0___________ dX12_happens_20 ?_
    obtain ⟨d1, Z1, hc1, hd1, h1⟩ := h
    refine r_callV (st := []) (As := [.int (hI μ36 a0 22)]) g sX12_438 iX12_draw eX12_draw rfl hs_a0___________ rfl (Nat.le_of_ble_eq_true rfl) dX12_happens_23 hd1 (Nat.le_refl 0) (Nat.le_refl 0) hc1 (fun r38 μ39 hZ1 => ?_)
    replace h := h1 _ _ hZ1
    clear h1 hc1 hd1 hZ1 Z1 d1
    obtain ⟨y40, rfl, h⟩ := h
    refine r_istore_n g [(3, .int y40), (2, .int y37), (1, .int y3), (0, .ref a0)] dX12_happens_26 (by decide) rfl ?_
    refine r_aload_n g dX12_happens_27 rfl ?_
    refine r_aload_n g dX12_happens_28 rfl ?_
    obtain ⟨hs_a0____________, h⟩ := h
    refine r_getI g fX12_245 rfl hs_a0____________ dX12_happens_29 ?_
    obtain ⟨d1, Z1, hc1, hd1, h1⟩ := h
    refine r_callV (st := []) (As := [.int (hI μ39 a0 22)]) g sX12_438 iX12_draw eX12_draw rfl hs_a0____________ rfl (Nat.le_of_ble_eq_true rfl) dX12_happens_32 hd1 (Nat.le_refl 0) (Nat.le_refl 0) hc1 (fun r41 μ42 hZ1 => ?_)
    replace h := h1 _ _ hZ1
    clear h1 hc1 hd1 hZ1 Z1 d1
    obtain ⟨y43, rfl, h⟩ := h
    refine r_istore g [(4, .int y43), (3, .int y40), (2, .int y37), (1, .int y3), (0, .ref a0)] dX12_happens_35 (by decide) rfl ?_
    refine r_aload_n g dX12_happens_37 rfl ?_
    refine r_iconst g 0 dX12_happens_38 (by decide) ?_
    refine r_iload_n g dX12_happens_39 rfl ?_
    refine r_iload_n g dX12_happens_40 rfl ?_
    refine r_iload g dX12_happens_41 rfl ?_
    refine r_aload_n g dX12_happens_43 rfl ?_
    refine r_sipush g 1000 dX12_happens_44 (by decide) ?_
    obtain ⟨hs_a0_____________, h⟩ := h
    obtain ⟨d1, Z1, hc1, hd1, h1⟩ := h
    refine r_callV (st := [.int y43, .int y40, .int y37, .int 0, .ref a0]) (As := [.int 1000]) g sX12_438 iX12_draw eX12_draw rfl hs_a0_____________ rfl (Nat.le_of_ble_eq_true rfl) dX12_happens_47 hd1 (Nat.le_refl 0) (Nat.le_refl 0) hc1 (fun r44 μ45 hZ1 => ?_)
    replace h := h1 _ _ hZ1
    clear h1 hc1 hd1 hZ1 Z1 d1
    obtain ⟨y46, rfl, h⟩ := h
    refine r_iconst g 1 dX12_happens_50 (by decide) ?_
    refine r_iadd g dX12_happens_51 ?_
    obtain ⟨hs_a0______________, h⟩ := h
    obtain ⟨d1, Z1, hc1, hd1, h1⟩ := h
    refine r_callV (st := []) (As := [.int 0, .int y37, .int y40, .int y43, .int (y46 + 1)]) g sX12_424 iX12_tries eX12_tries rfl hs_a0______________ rfl (Nat.le_of_ble_eq_true rfl) dX12_happens_52 hd1 (Nat.le_refl 0) (Nat.le_refl 0) hc1 (fun r47 μ48 hZ1 => ?_)
    replace h := h1 _ _ hZ1
    clear h1 hc1 hd1 hZ1 Z1 d1
    obtain ⟨y49, rfl, h⟩ := h
    exact hr.2.1 _ rfl _ _ _ _ _ _ dX12_happens_55 rfl (Nat.le_refl 0) (Nat.le_refl 0) h
theorem I_X12_happens {d : Nat} {ro : Nat → Nat} {Z : Option Value → Hp → Prop} {μ : Hp} {a0 : Nat} (h : ∀ J, xCtx RX12 cX12_happens 5 d 0 0 yX12_happens.name ro J → xRet cX12_happens (some .int) 0 0 Z J → J μ 0 0 0 [(0, .ref a0)] []) : xC d yX12_happens cX12_happens 5 (some .int) 0 0 [.ref a0] μ ro Z :=
  xC_intro (own := RX12) (lv := [(0, .ref a0)]) (by decide) rfl (Nat.le_of_ble_eq_true rfl) rfl (fun J g hr => r_sub g (lv' := [(0, .ref a0)]) (⟨rfl, trivial⟩) (h J g hr))
theorem dX12_years_0 : decode cX12_years 0 = .ok (.aload_n 0, 1) := by decide +kernel
theorem dX12_years_1 : decode cX12_years 1 = .ok (.iconst 0, 1) := by decide +kernel
theorem dX12_years_2 : decode cX12_years 2 = .ok (.putfield 106, 3) := by decide +kernel
theorem dX12_years_5 : decode cX12_years 5 = .ok (.aload_n 0, 1) := by decide +kernel
theorem dX12_years_6 : decode cX12_years 6 = .ok (.getfield 245, 3) := by decide +kernel
theorem dX12_years_9 : decode cX12_years 9 = .ok (.ifCond .eq 15, 3) := by decide +kernel
theorem dX12_years_12 : decode cX12_years 12 = .ok (.iload_n 1, 1) := by decide +kernel
theorem dX12_years_13 : decode cX12_years 13 = .ok (.i2l, 1) := by decide +kernel
theorem dX12_years_14 : decode cX12_years 14 = .ok (.lconst 1, 1) := by decide +kernel
theorem dX12_years_15 : decode cX12_years 15 = .ok (.ldc2_w 441, 3) := by decide +kernel
theorem dX12_years_18 : decode cX12_years 18 = .ok (.invokestatic 161, 3) := by decide +kernel
theorem dX12_years_21 : decode cX12_years 21 = .ok (.ifCond .ne 5, 3) := by decide +kernel
theorem dX12_years_24 : decode cX12_years 24 = .ok (.iconst (-1), 1) := by decide +kernel
theorem dX12_years_25 : decode cX12_years 25 = .ok (.ireturn, 1) := by decide +kernel
theorem dX12_years_26 : decode cX12_years 26 = .ok (.aload_n 0, 1) := by decide +kernel
theorem dX12_years_27 : decode cX12_years 27 = .ok (.lload_n 2, 1) := by decide +kernel
theorem dX12_years_28 : decode cX12_years 28 = .ok (.putfield 431, 3) := by decide +kernel
theorem dX12_years_31 : decode cX12_years 31 = .ok (.iconst 0, 1) := by decide +kernel
theorem dX12_years_32 : decode cX12_years 32 = .ok (.istore 4, 2) := by decide +kernel
theorem dX12_years_34 : decode cX12_years 34 = .ok (.iload 4, 2) := by decide +kernel
theorem dX12_years_36 : decode cX12_years 36 = .ok (.iload_n 1, 1) := by decide +kernel
theorem dX12_years_37 : decode cX12_years 37 = .ok (.if_icmp .ge 15, 3) := by decide +kernel
theorem dX12_years_40 : decode cX12_years 40 = .ok (.aload_n 0, 1) := by decide +kernel
theorem dX12_years_41 : decode cX12_years 41 = .ok (.invokevirtual 443, 3) := by decide +kernel
theorem dX12_years_44 : decode cX12_years 44 = .ok (.istore 5, 2) := by decide +kernel
theorem dX12_years_46 : decode cX12_years 46 = .ok (.iinc 4 1, 3) := by decide +kernel
theorem dX12_years_49 : decode cX12_years 49 = .ok (.goto (-15), 3) := by decide +kernel
theorem dX12_years_52 : decode cX12_years 52 = .ok (.aload_n 0, 1) := by decide +kernel
theorem dX12_years_53 : decode cX12_years 53 = .ok (.getfield 57, 3) := by decide +kernel
theorem dX12_years_56 : decode cX12_years 56 = .ok (.bipush 30, 2) := by decide +kernel
theorem dX12_years_58 : decode cX12_years 58 = .ok (.iaload, 1) := by decide +kernel
theorem dX12_years_59 : decode cX12_years 59 = .ok (.ireturn, 1) := by decide +kernel
set_option maxHeartbeats 4000000 in
set_option maxRecDepth 100000 in
theorem B_X12_years_0 {d : Nat} {ro : Nat → Nat} {J : JT} {Z : Option Value → Hp → Prop} (g : xCtx RX12 cX12_years 6 d 0 0 yX12_years.name ro J) (hr : xRet cX12_years (some .int) 0 0 Z J) {μ : Hp} {a0 : Nat} {x1 : Int32} {x2 : Int64} (hs_a0 : hS μ a0 = some (15, 65))
    (h : (((hI (wI μ a0 0 0) a0 22) = 0 → Z (some (.int (-1))) (wI μ a0 0 0)) ∧ (¬ (hI (wI μ a0 0 0) a0 22) = 0 → xCall d yX12_isIn cX12_isIn 6 (some .boolean) [.long x1.toInt64, .long 1, .long 40] (wI μ a0 0 0) ro (fun r2 μ3 => ∃ y4 : Int32, r2 = some (.int y4) ∧ ((¬ y4 = 0 → hS μ3 a0 = some (15, 65) ∧ J (wL μ3 a0 62 x2) 0 0 34 [(0, .ref a0), (1, .int x1), (4, .int 0)] []) ∧ (y4 = 0 → Z (some (.int (-1))) μ3)))))) :
    J μ 0 0 0 [(0, .ref a0), (1, .int x1), (2, .long x2)] [] := by
  refine r_aload_n g dX12_years_0 rfl ?_
  refine r_iconst g 0 dX12_years_1 (by decide) ?_
  refine r_putI g fX12_106 rfl hs_a0 rfl rfl dX12_years_2 ?_
  refine r_aload_n g dX12_years_5 rfl ?_
  refine r_getI g fX12_245 rfl hs_a0 dX12_years_6 ?_
  refine r_if_eq g 24 dX12_years_9 (by decide) (fun c1 => ?_) (fun c1 => ?_)
  · replace h := h.1 c1
    refine r_iconst g (-1) dX12_years_24 (by decide) ?_
    exact hr.2.1 _ rfl _ _ _ _ _ _ dX12_years_25 rfl (Nat.le_refl 0) (Nat.le_refl 0) h
  · replace h := h.2 c1
    refine r_iload_n g dX12_years_12 rfl ?_
    refine r_i2l g dX12_years_13 ?_
    refine r_lconst g 1 dX12_years_14 (by decide) ?_
    refine r_ldc2 g 40 kX12_441 dX12_years_15 ?_
    obtain ⟨d1, Z1, hc1, hd1, h1⟩ := h
    refine r_callS (st := []) (As := [.long x1.toInt64, .long 1, .long 40]) g sX12_161 iX12_isIn rfl (Nat.le_of_ble_eq_true rfl) dX12_years_18 hd1 (Nat.le_refl 0) (Nat.le_refl 0) hc1 (fun r2 μ3 hZ1 => ?_)
    replace h := h1 _ _ hZ1
    clear h1 hc1 hd1 hZ1 Z1 d1
    obtain ⟨y4, rfl, h⟩ := h
    refine r_if_ne g 26 dX12_years_21 (by decide) (fun c5 => ?_) (fun c5 => ?_)
    · replace h := h.1 c5
      refine r_aload_n g dX12_years_26 rfl ?_
      refine r_lload_n g dX12_years_27 rfl ?_
      obtain ⟨hs_a0_, h⟩ := h
      refine r_putL g fX12_431 rfl hs_a0_ rfl rfl dX12_years_28 ?_
      refine r_iconst g 0 dX12_years_31 (by decide) ?_
      refine r_istore g [(4, .int 0), (0, .ref a0), (1, .int x1), (2, .long x2)] dX12_years_32 (by decide) rfl ?_
      refine r_sub g (lv' := [(0, .ref a0), (1, .int x1), (4, .int 0)]) (⟨rfl, rfl, rfl, trivial⟩) ?_
      exact h
    · replace h := h.2 c5
      refine r_iconst g (-1) dX12_years_24 (by decide) ?_
      exact hr.2.1 _ rfl _ _ _ _ _ _ dX12_years_25 rfl (Nat.le_refl 0) (Nat.le_refl 0) h
set_option maxHeartbeats 4000000 in
set_option maxRecDepth 100000 in
theorem B_X12_years_34 {d : Nat} {ro : Nat → Nat} {J : JT} {Z : Option Value → Hp → Prop} (g : xCtx RX12 cX12_years 6 d 0 0 yX12_years.name ro J) (hr : xRet cX12_years (some .int) 0 0 Z J) {μ : Hp} {a0 : Nat} {x1 : Int32} {x4 : Int32} {a0_now : Nat} {N_a0_now : Nat} (hs_a0 : hS μ a0 = some (15, 65)) (hr_a0_now : hR μ a0 30 = some a0_now) (hs_a0_now : hS μ a0_now = some (0, N_a0_now))
    (h : ((x1 ≤ x4 → vp_in 30 N_a0_now ∧ Z (some (.int (hI μ a0_now 30))) μ) ∧ (¬ x1 ≤ x4 → xCall d yX12_happens cX12_happens 5 (some .int) [.ref a0] μ ro (fun r3 μ4 => ∃ y5 : Int32, r3 = some (.int y5) ∧ J μ4 0 0 34 [(0, .ref a0), (1, .int x1), (4, .int (x4 + 1))] [])))) :
    J μ 0 0 34 [(0, .ref a0), (1, .int x1), (4, .int x4)] [] := by
  refine r_iload g dX12_years_34 rfl ?_
  refine r_iload_n g dX12_years_36 rfl ?_
  refine r_icmp_ge g 52 dX12_years_37 (by decide) (fun c1 => ?_) (fun c1 => ?_)
  · replace h := h.1 c1
    refine r_aload_n g dX12_years_52 rfl ?_
    refine r_getR g fX12_57 rfl hs_a0 hr_a0_now dX12_years_53 ?_
    refine r_bipush g 30 dX12_years_56 (by decide) ?_
    obtain ⟨hi2, h⟩ := h
    refine r_iaload g hs_a0_now hi2 dX12_years_58 ?_
    exact hr.2.1 _ rfl _ _ _ _ _ _ dX12_years_59 rfl (Nat.le_refl 0) (Nat.le_refl 0) h
  · replace h := h.2 c1
    refine r_aload_n g dX12_years_40 rfl ?_
    obtain ⟨d1, Z1, hc1, hd1, h1⟩ := h
    refine r_callV (st := []) (As := []) g sX12_443 iX12_happens eX12_happens rfl hs_a0 rfl (Nat.le_of_ble_eq_true rfl) dX12_years_41 hd1 (Nat.le_refl 0) (Nat.le_refl 0) hc1 (fun r3 μ4 hZ1 => ?_)
    replace h := h1 _ _ hZ1
    clear h1 hc1 hd1 hZ1 Z1 d1
    obtain ⟨y5, rfl, h⟩ := h
    refine r_istore g [(5, .int y5), (0, .ref a0), (1, .int x1), (4, .int x4)] dX12_years_44 (by decide) rfl ?_
    refine r_iinc g (x4 + 1) [(4, .int (x4 + 1)), (5, .int y5), (0, .ref a0), (1, .int x1)] dX12_years_46 rfl rfl (by decide) rfl ?_
    refine r_goto g 34 dX12_years_49 (by decide) ?_
    refine r_sub g (lv' := [(0, .ref a0), (1, .int x1), (4, .int (x4 + 1))]) (⟨rfl, rfl, rfl, trivial⟩) ?_
    exact h
theorem I_X12_years {d : Nat} {ro : Nat → Nat} {Z : Option Value → Hp → Prop} {μ : Hp} {a0 : Nat} {x1 : Int32} {x2 : Int64} (h : ∀ J, xCtx RX12 cX12_years 6 d 0 0 yX12_years.name ro J → xRet cX12_years (some .int) 0 0 Z J → J μ 0 0 0 [(0, .ref a0), (1, .int x1), (2, .long x2)] []) : xC d yX12_years cX12_years 6 (some .int) 0 0 [.ref a0, .int x1, .long x2] μ ro Z :=
  xC_intro (own := RX12) (lv := [(0, .ref a0), (1, .int x1), (2, .long x2)]) (by decide) rfl (Nat.le_of_ble_eq_true rfl) rfl (fun J g hr => r_sub g (lv' := [(0, .ref a0), (1, .int x1), (2, .long x2)]) (⟨rfl, rfl, rfl, trivial⟩) (h J g hr))
theorem dX12_status_0 : decode cX12_status 0 = .ok (.aload_n 0, 1) := by decide +kernel
theorem dX12_status_1 : decode cX12_status 1 = .ok (.iconst 0, 1) := by decide +kernel
theorem dX12_status_2 : decode cX12_status 2 = .ok (.putfield 106, 3) := by decide +kernel
theorem dX12_status_5 : decode cX12_status 5 = .ok (.iload_n 1, 1) := by decide +kernel
theorem dX12_status_6 : decode cX12_status 6 = .ok (.i2l, 1) := by decide +kernel
theorem dX12_status_7 : decode cX12_status 7 = .ok (.lconst 0, 1) := by decide +kernel
theorem dX12_status_8 : decode cX12_status 8 = .ok (.ldc2_w 297, 3) := by decide +kernel
theorem dX12_status_11 : decode cX12_status 11 = .ok (.invokestatic 161, 3) := by decide +kernel
theorem dX12_status_14 : decode cX12_status 14 = .ok (.ifCond .eq 12, 3) := by decide +kernel
theorem dX12_status_17 : decode cX12_status 17 = .ok (.aload_n 0, 1) := by decide +kernel
theorem dX12_status_18 : decode cX12_status 18 = .ok (.getfield 35, 3) := by decide +kernel
theorem dX12_status_21 : decode cX12_status 21 = .ok (.iload_n 1, 1) := by decide +kernel
theorem dX12_status_22 : decode cX12_status 22 = .ok (.iaload, 1) := by decide +kernel
theorem dX12_status_23 : decode cX12_status 23 = .ok (.goto 4, 3) := by decide +kernel
theorem dX12_status_26 : decode cX12_status 26 = .ok (.iconst (-1), 1) := by decide +kernel
theorem dX12_status_27 : decode cX12_status 27 = .ok (.ireturn, 1) := by decide +kernel
set_option maxHeartbeats 4000000 in
set_option maxRecDepth 100000 in
theorem B_X12_status_0 {d : Nat} {ro : Nat → Nat} {J : JT} {Z : Option Value → Hp → Prop} (g : xCtx RX12 cX12_status 2 d 0 0 yX12_status.name ro J) (hr : xRet cX12_status (some .int) 0 0 Z J) {μ : Hp} {a0 : Nat} {x1 : Int32} (hs_a0 : hS μ a0 = some (15, 65))
    (h : xCall d yX12_isIn cX12_isIn 6 (some .boolean) [.long x1.toInt64, .long 0, .long 3] (wI μ a0 0 0) ro (fun r1 μ2 => ∃ y3 : Int32, r1 = some (.int y3) ∧ ((y3 = 0 → Z (some (.int (-1))) μ2) ∧ (¬ y3 = 0 → hS μ2 a0 = some (15, 65) ∧ ∃ status_5 : Nat, hR μ2 a0 14 = some status_5 ∧ ∃ N6 : Nat, hS μ2 status_5 = some (0, N6) ∧ vp_in x1 N6 ∧ Z (some (.int (hI μ2 status_5 x1.toNatClampNeg))) μ2)))) :
    J μ 0 0 0 [(0, .ref a0), (1, .int x1)] [] := by
  refine r_aload_n g dX12_status_0 rfl ?_
  refine r_iconst g 0 dX12_status_1 (by decide) ?_
  refine r_putI g fX12_106 rfl hs_a0 rfl rfl dX12_status_2 ?_
  refine r_iload_n g dX12_status_5 rfl ?_
  refine r_i2l g dX12_status_6 ?_
  refine r_lconst g 0 dX12_status_7 (by decide) ?_
  refine r_ldc2 g 3 kX12_297 dX12_status_8 ?_
  obtain ⟨d1, Z1, hc1, hd1, h1⟩ := h
  refine r_callS (st := []) (As := [.long x1.toInt64, .long 0, .long 3]) g sX12_161 iX12_isIn rfl (Nat.le_of_ble_eq_true rfl) dX12_status_11 hd1 (Nat.le_refl 0) (Nat.le_refl 0) hc1 (fun r1 μ2 hZ1 => ?_)
  replace h := h1 _ _ hZ1
  clear h1 hc1 hd1 hZ1 Z1 d1
  obtain ⟨y3, rfl, h⟩ := h
  refine r_if_eq g 26 dX12_status_14 (by decide) (fun c4 => ?_) (fun c4 => ?_)
  · replace h := h.1 c4
    refine r_iconst g (-1) dX12_status_26 (by decide) ?_
    exact hr.2.1 _ rfl _ _ _ _ _ _ dX12_status_27 rfl (Nat.le_refl 0) (Nat.le_refl 0) h
  · replace h := h.2 c4
    refine r_aload_n g dX12_status_17 rfl ?_
    obtain ⟨hs_a0_, h⟩ := h
    obtain ⟨status_5, hr_status_5, h⟩ := h
    refine r_getR g fX12_35 rfl hs_a0_ hr_status_5 dX12_status_18 ?_
    refine r_iload_n g dX12_status_21 rfl ?_
    obtain ⟨N6, hs_status_5, h⟩ := h
    obtain ⟨hi7, h⟩ := h
    refine r_iaload g hs_status_5 hi7 dX12_status_22 ?_
    refine r_goto g 27 dX12_status_23 (by decide) ?_
    exact hr.2.1 _ rfl _ _ _ _ _ _ dX12_status_27 rfl (Nat.le_refl 0) (Nat.le_refl 0) h
theorem I_X12_status {d : Nat} {ro : Nat → Nat} {Z : Option Value → Hp → Prop} {μ : Hp} {a0 : Nat} {x1 : Int32} (h : ∀ J, xCtx RX12 cX12_status 2 d 0 0 yX12_status.name ro J → xRet cX12_status (some .int) 0 0 Z J → J μ 0 0 0 [(0, .ref a0), (1, .int x1)] []) : xC d yX12_status cX12_status 2 (some .int) 0 0 [.ref a0, .int x1] μ ro Z :=
  xC_intro (own := RX12) (lv := [(0, .ref a0), (1, .int x1)]) (by decide) rfl (Nat.le_of_ble_eq_true rfl) rfl (fun J g hr => r_sub g (lv' := [(0, .ref a0), (1, .int x1)]) (⟨rfl, rfl, trivial⟩) (h J g hr))
theorem dX12_undo_0 : decode cX12_undo 0 = .ok (.aload_n 0, 1) := by decide +kernel
theorem dX12_undo_1 : decode cX12_undo 1 = .ok (.iconst 0, 1) := by decide +kernel
theorem dX12_undo_2 : decode cX12_undo 2 = .ok (.putfield 106, 3) := by decide +kernel
theorem dX12_undo_5 : decode cX12_undo 5 = .ok (.aload_n 0, 1) := by decide +kernel
theorem dX12_undo_6 : decode cX12_undo 6 = .ok (.getfield 251, 3) := by decide +kernel
theorem dX12_undo_9 : decode cX12_undo 9 = .ok (.ifCond .ne 5, 3) := by decide +kernel
theorem dX12_undo_12 : decode cX12_undo 12 = .ok (.iconst (-1), 1) := by decide +kernel
theorem dX12_undo_13 : decode cX12_undo 13 = .ok (.ireturn, 1) := by decide +kernel
theorem dX12_undo_14 : decode cX12_undo 14 = .ok (.aload_n 0, 1) := by decide +kernel
theorem dX12_undo_15 : decode cX12_undo 15 = .ok (.dup, 1) := by decide +kernel
theorem dX12_undo_16 : decode cX12_undo 16 = .ok (.getfield 251, 3) := by decide +kernel
theorem dX12_undo_19 : decode cX12_undo 19 = .ok (.iconst 1, 1) := by decide +kernel
theorem dX12_undo_20 : decode cX12_undo 20 = .ok (.isub, 1) := by decide +kernel
theorem dX12_undo_21 : decode cX12_undo 21 = .ok (.putfield 251, 3) := by decide +kernel
theorem dX12_undo_24 : decode cX12_undo 24 = .ok (.aload_n 0, 1) := by decide +kernel
theorem dX12_undo_25 : decode cX12_undo 25 = .ok (.getfield 66, 3) := by decide +kernel
theorem dX12_undo_28 : decode cX12_undo 28 = .ok (.sipush 293, 3) := by decide +kernel
theorem dX12_undo_31 : decode cX12_undo 31 = .ok (.aload_n 0, 1) := by decide +kernel
theorem dX12_undo_32 : decode cX12_undo 32 = .ok (.getfield 405, 3) := by decide +kernel
theorem dX12_undo_35 : decode cX12_undo 35 = .ok (.aload_n 0, 1) := by decide +kernel
theorem dX12_undo_36 : decode cX12_undo 36 = .ok (.getfield 251, 3) := by decide +kernel
theorem dX12_undo_39 : decode cX12_undo 39 = .ok (.iadd, 1) := by decide +kernel
theorem dX12_undo_40 : decode cX12_undo 40 = .ok (.bipush 40, 2) := by decide +kernel
theorem dX12_undo_42 : decode cX12_undo 42 = .ok (.irem, 1) := by decide +kernel
theorem dX12_undo_43 : decode cX12_undo 43 = .ok (.imul, 1) := by decide +kernel
theorem dX12_undo_44 : decode cX12_undo 44 = .ok (.aload_n 0, 1) := by decide +kernel
theorem dX12_undo_45 : decode cX12_undo 45 = .ok (.getfield 57, 3) := by decide +kernel
theorem dX12_undo_48 : decode cX12_undo 48 = .ok (.iconst 0, 1) := by decide +kernel
theorem dX12_undo_49 : decode cX12_undo 49 = .ok (.invokestatic 408, 3) := by decide +kernel
theorem dX12_undo_52 : decode cX12_undo 52 = .ok (.aload_n 0, 1) := by decide +kernel
theorem dX12_undo_53 : decode cX12_undo 53 = .ok (.getfield 251, 3) := by decide +kernel
theorem dX12_undo_56 : decode cX12_undo 56 = .ok (.ireturn, 1) := by decide +kernel
set_option maxHeartbeats 4000000 in
set_option maxRecDepth 100000 in
theorem B_X12_undo_0 {d : Nat} {ro : Nat → Nat} {J : JT} {Z : Option Value → Hp → Prop} (g : xCtx RX12 cX12_undo 1 d 0 0 yX12_undo.name ro J) (hr : xRet cX12_undo (some .int) 0 0 Z J) {μ : Hp} {a0 : Nat} {a0_kept : Nat} {a0_now : Nat} (hs_a0 : hS μ a0 = some (15, 65)) (hr_a0_kept : hR μ a0 33 = some a0_kept) (hr_a0_now : hR μ a0 30 = some a0_now)
    (h : ((¬ (hI (wI μ a0 0 0) a0 35) = 0 → (∀ v2 : Int32, v2 = (hI (wI (wI μ a0 0 0) a0 35 ((hI (wI μ a0 0 0) a0 35) - 1)) a0 34) → (∀ v3 : Int32, v3 = (hI (wI (wI μ a0 0 0) a0 35 ((hI (wI μ a0 0 0) a0 35) - 1)) a0 35) → xCall d yX12_copyRow cX12_copyRow 5 none [.ref a0_kept, .int (293 * ((v2 + v3) - (v2 + v3) / 40 * 40)), .ref a0_now, .int 0] (wI (wI μ a0 0 0) a0 35 ((hI (wI μ a0 0 0) a0 35) - 1)) ro (fun r4 μ5 => r4 = none ∧ hS μ5 a0 = some (15, 65) ∧ Z (some (.int (hI μ5 a0 35))) μ5)))) ∧ ((hI (wI μ a0 0 0) a0 35) = 0 → Z (some (.int (-1))) (wI μ a0 0 0)))) :
    J μ 0 0 0 [(0, .ref a0)] [] := by
  refine r_aload_n g dX12_undo_0 rfl ?_
  refine r_iconst g 0 dX12_undo_1 (by decide) ?_
  refine r_putI g fX12_106 rfl hs_a0 rfl rfl dX12_undo_2 ?_
  refine r_aload_n g dX12_undo_5 rfl ?_
  refine r_getI g fX12_251 rfl hs_a0 dX12_undo_6 ?_
  refine r_if_ne g 14 dX12_undo_9 (by decide) (fun c1 => ?_) (fun c1 => ?_)
  · replace h := h.1 c1
    refine r_aload_n g dX12_undo_14 rfl ?_
    refine r_dup g dX12_undo_15 rfl ?_
    refine r_getI g fX12_251 rfl hs_a0 dX12_undo_16 ?_
    refine r_iconst g 1 dX12_undo_19 (by decide) ?_
    refine r_isub g dX12_undo_20 ?_
    refine r_putI g fX12_251 rfl hs_a0 rfl rfl dX12_undo_21 ?_
    refine r_aload_n g dX12_undo_24 rfl ?_
    refine r_getR g fX12_66 rfl hs_a0 hr_a0_kept dX12_undo_25 ?_
    refine r_sipush g 293 dX12_undo_28 (by decide) ?_
    refine r_aload_n g dX12_undo_31 rfl ?_
    refine r_getI g fX12_405 rfl hs_a0 dX12_undo_32 ?_
    refine r_nmI (fun v2 ev2 => ?_)
    replace h := h v2 ev2
    refine r_aload_n g dX12_undo_35 rfl ?_
    refine r_getI g fX12_251 rfl hs_a0 dX12_undo_36 ?_
    refine r_nmI (fun v3 ev3 => ?_)
    replace h := h v3 ev3
    refine r_iadd g dX12_undo_39 ?_
    refine r_bipush g 40 dX12_undo_40 (by decide) ?_
    refine r_irem g (by decide) dX12_undo_42 ?_
    refine r_imul g dX12_undo_43 ?_
    refine r_aload_n g dX12_undo_44 rfl ?_
    refine r_getR g fX12_57 rfl hs_a0 hr_a0_now dX12_undo_45 ?_
    refine r_iconst g 0 dX12_undo_48 (by decide) ?_
    obtain ⟨d1, Z1, hc1, hd1, h1⟩ := h
    refine r_callS (st := []) (As := [.ref a0_kept, .int (293 * ((v2 + v3) - (v2 + v3) / 40 * 40)), .ref a0_now, .int 0]) g sX12_408 iX12_copyRow rfl (Nat.le_of_ble_eq_true rfl) dX12_undo_49 hd1 (Nat.le_refl 0) (Nat.le_refl 0) hc1 (fun r4 μ5 hZ1 => ?_)
    replace h := h1 _ _ hZ1
    clear h1 hc1 hd1 hZ1 Z1 d1
    obtain ⟨rfl, h⟩ := h
    refine r_aload_n g dX12_undo_52 rfl ?_
    obtain ⟨hs_a0_, h⟩ := h
    refine r_getI g fX12_251 rfl hs_a0_ dX12_undo_53 ?_
    exact hr.2.1 _ rfl _ _ _ _ _ _ dX12_undo_56 rfl (Nat.le_refl 0) (Nat.le_refl 0) h
  · replace h := h.2 c1
    refine r_iconst g (-1) dX12_undo_12 (by decide) ?_
    exact hr.2.1 _ rfl _ _ _ _ _ _ dX12_undo_13 rfl (Nat.le_refl 0) (Nat.le_refl 0) h
theorem I_X12_undo {d : Nat} {ro : Nat → Nat} {Z : Option Value → Hp → Prop} {μ : Hp} {a0 : Nat} (h : ∀ J, xCtx RX12 cX12_undo 1 d 0 0 yX12_undo.name ro J → xRet cX12_undo (some .int) 0 0 Z J → J μ 0 0 0 [(0, .ref a0)] []) : xC d yX12_undo cX12_undo 1 (some .int) 0 0 [.ref a0] μ ro Z :=
  xC_intro (own := RX12) (lv := [(0, .ref a0)]) (by decide) rfl (Nat.le_of_ble_eq_true rfl) rfl (fun J g hr => r_sub g (lv' := [(0, .ref a0)]) (⟨rfl, trivial⟩) (h J g hr))
theorem dX12_log_0 : decode cX12_log 0 = .ok (.aload_n 0, 1) := by decide +kernel
theorem dX12_log_1 : decode cX12_log 1 = .ok (.iconst 0, 1) := by decide +kernel
theorem dX12_log_2 : decode cX12_log 2 = .ok (.putfield 106, 3) := by decide +kernel
theorem dX12_log_5 : decode cX12_log 5 = .ok (.iload_n 1, 1) := by decide +kernel
theorem dX12_log_6 : decode cX12_log 6 = .ok (.ifCond .lt 26, 3) := by decide +kernel
theorem dX12_log_9 : decode cX12_log 9 = .ok (.iload_n 1, 1) := by decide +kernel
theorem dX12_log_10 : decode cX12_log 10 = .ok (.aload_n 0, 1) := by decide +kernel
theorem dX12_log_11 : decode cX12_log 11 = .ok (.getfield 57, 3) := by decide +kernel
theorem dX12_log_14 : decode cX12_log 14 = .ok (.bipush 112, 2) := by decide +kernel
theorem dX12_log_16 : decode cX12_log 16 = .ok (.iaload, 1) := by decide +kernel
theorem dX12_log_17 : decode cX12_log 17 = .ok (.if_icmp .ge 15, 3) := by decide +kernel
theorem dX12_log_20 : decode cX12_log 20 = .ok (.iload_n 2, 1) := by decide +kernel
theorem dX12_log_21 : decode cX12_log 21 = .ok (.i2l, 1) := by decide +kernel
theorem dX12_log_22 : decode cX12_log 22 = .ok (.lconst 0, 1) := by decide +kernel
theorem dX12_log_23 : decode cX12_log 23 = .ok (.ldc2_w 446, 3) := by decide +kernel
theorem dX12_log_26 : decode cX12_log 26 = .ok (.invokestatic 161, 3) := by decide +kernel
theorem dX12_log_29 : decode cX12_log 29 = .ok (.ifCond .ne 7, 3) := by decide +kernel
theorem dX12_log_32 : decode cX12_log 32 = .ok (.ldc_w 448, 3) := by decide +kernel
theorem dX12_log_35 : decode cX12_log 35 = .ok (.ireturn, 1) := by decide +kernel
theorem dX12_log_36 : decode cX12_log 36 = .ok (.aload_n 0, 1) := by decide +kernel
theorem dX12_log_37 : decode cX12_log 37 = .ok (.getfield 57, 3) := by decide +kernel
theorem dX12_log_40 : decode cX12_log 40 = .ok (.bipush 113, 2) := by decide +kernel
theorem dX12_log_42 : decode cX12_log 42 = .ok (.iconst 3, 1) := by decide +kernel
theorem dX12_log_43 : decode cX12_log 43 = .ok (.aload_n 0, 1) := by decide +kernel
theorem dX12_log_44 : decode cX12_log 44 = .ok (.getfield 57, 3) := by decide +kernel
theorem dX12_log_47 : decode cX12_log 47 = .ok (.bipush 112, 2) := by decide +kernel
theorem dX12_log_49 : decode cX12_log 49 = .ok (.iaload, 1) := by decide +kernel
theorem dX12_log_50 : decode cX12_log 50 = .ok (.iconst 1, 1) := by decide +kernel
theorem dX12_log_51 : decode cX12_log 51 = .ok (.isub, 1) := by decide +kernel
theorem dX12_log_52 : decode cX12_log 52 = .ok (.iload_n 1, 1) := by decide +kernel
theorem dX12_log_53 : decode cX12_log 53 = .ok (.isub, 1) := by decide +kernel
theorem dX12_log_54 : decode cX12_log 54 = .ok (.imul, 1) := by decide +kernel
theorem dX12_log_55 : decode cX12_log 55 = .ok (.iadd, 1) := by decide +kernel
theorem dX12_log_56 : decode cX12_log 56 = .ok (.iload_n 2, 1) := by decide +kernel
theorem dX12_log_57 : decode cX12_log 57 = .ok (.iadd, 1) := by decide +kernel
theorem dX12_log_58 : decode cX12_log 58 = .ok (.iaload, 1) := by decide +kernel
theorem dX12_log_59 : decode cX12_log 59 = .ok (.ireturn, 1) := by decide +kernel
set_option maxHeartbeats 4000000 in
set_option maxRecDepth 100000 in
theorem B_X12_log_0 {d : Nat} {ro : Nat → Nat} {J : JT} {Z : Option Value → Hp → Prop} (g : xCtx RX12 cX12_log 3 d 0 0 yX12_log.name ro J) (hr : xRet cX12_log (some .int) 0 0 Z J) {μ : Hp} {a0 : Nat} {x1 : Int32} {x2 : Int32} {a0_now : Nat} {N_a0_now : Nat} (hs_a0 : hS μ a0 = some (15, 65)) (hr_a0_now : hR μ a0 30 = some a0_now) (hs_a0_now : hS μ a0_now = some (0, N_a0_now))
    (h : ((x1 < 0 → Z (some (.int (-1000000))) (wI μ a0 0 0)) ∧ (¬ x1 < 0 → vp_in 112 N_a0_now ∧ (((hI (wI μ a0 0 0) a0_now 112) ≤ x1 → Z (some (.int (-1000000))) (wI μ a0 0 0)) ∧ (¬ (hI (wI μ a0 0 0) a0_now 112) ≤ x1 → xCall d yX12_isIn cX12_isIn 6 (some .boolean) [.long x2.toInt64, .long 0, .long 2] (wI μ a0 0 0) ro (fun r4 μ5 => ∃ y6 : Int32, r4 = some (.int y6) ∧ ((¬ y6 = 0 → hS μ5 a0 = some (15, 65) ∧ ∃ now_8 : Nat, hR μ5 a0 30 = some now_8 ∧ ∃ N9 : Nat, hS μ5 now_8 = some (0, N9) ∧ vp_in 112 N9 ∧ vp_in ((113 + (3 * (((hI μ5 now_8 112) - 1) - x1))) + x2) N9 ∧ (∀ v12 : Int32, v12 = (hI μ5 now_8 (((113 + (3 * (((hI μ5 now_8 112) - 1) - x1))) + x2).toNatClampNeg)) → Z (some (.int v12)) μ5)) ∧ (y6 = 0 → Z (some (.int (-1000000))) μ5)))))))) :
    J μ 0 0 0 [(0, .ref a0), (1, .int x1), (2, .int x2)] [] := by
  refine r_aload_n g dX12_log_0 rfl ?_
  refine r_iconst g 0 dX12_log_1 (by decide) ?_
  refine r_putI g fX12_106 rfl hs_a0 rfl rfl dX12_log_2 ?_
  refine r_iload_n g dX12_log_5 rfl ?_
  refine r_if_lt g 32 dX12_log_6 (by decide) (fun c1 => ?_) (fun c1 => ?_)
  · replace h := h.1 c1
    refine r_ldcw g (-1000000) kX12_448 dX12_log_32 ?_
    exact hr.2.1 _ rfl _ _ _ _ _ _ dX12_log_35 rfl (Nat.le_refl 0) (Nat.le_refl 0) h
  · replace h := h.2 c1
    refine r_iload_n g dX12_log_9 rfl ?_
    refine r_aload_n g dX12_log_10 rfl ?_
    refine r_getR g fX12_57 rfl hs_a0 hr_a0_now dX12_log_11 ?_
    refine r_bipush g 112 dX12_log_14 (by decide) ?_
    obtain ⟨hi2, h⟩ := h
    refine r_iaload g hs_a0_now hi2 dX12_log_16 ?_
    refine r_icmp_ge g 32 dX12_log_17 (by decide) (fun c3 => ?_) (fun c3 => ?_)
    · replace h := h.1 c3
      refine r_ldcw g (-1000000) kX12_448 dX12_log_32 ?_
      exact hr.2.1 _ rfl _ _ _ _ _ _ dX12_log_35 rfl (Nat.le_refl 0) (Nat.le_refl 0) h
    · replace h := h.2 c3
      refine r_iload_n g dX12_log_20 rfl ?_
      refine r_i2l g dX12_log_21 ?_
      refine r_lconst g 0 dX12_log_22 (by decide) ?_
      refine r_ldc2 g 2 kX12_446 dX12_log_23 ?_
      obtain ⟨d1, Z1, hc1, hd1, h1⟩ := h
      refine r_callS (st := []) (As := [.long x2.toInt64, .long 0, .long 2]) g sX12_161 iX12_isIn rfl (Nat.le_of_ble_eq_true rfl) dX12_log_26 hd1 (Nat.le_refl 0) (Nat.le_refl 0) hc1 (fun r4 μ5 hZ1 => ?_)
      replace h := h1 _ _ hZ1
      clear h1 hc1 hd1 hZ1 Z1 d1
      obtain ⟨y6, rfl, h⟩ := h
      refine r_if_ne g 36 dX12_log_29 (by decide) (fun c7 => ?_) (fun c7 => ?_)
      · replace h := h.1 c7
        refine r_aload_n g dX12_log_36 rfl ?_
        obtain ⟨hs_a0_, h⟩ := h
        obtain ⟨now_8, hr_now_8, h⟩ := h
        refine r_getR g fX12_57 rfl hs_a0_ hr_now_8 dX12_log_37 ?_
        refine r_bipush g 113 dX12_log_40 (by decide) ?_
        refine r_iconst g 3 dX12_log_42 (by decide) ?_
        refine r_aload_n g dX12_log_43 rfl ?_
        refine r_getR g fX12_57 rfl hs_a0_ hr_now_8 dX12_log_44 ?_
        refine r_bipush g 112 dX12_log_47 (by decide) ?_
        obtain ⟨N9, hs_now_8, h⟩ := h
        obtain ⟨hi10, h⟩ := h
        refine r_iaload g hs_now_8 hi10 dX12_log_49 ?_
        refine r_iconst g 1 dX12_log_50 (by decide) ?_
        refine r_isub g dX12_log_51 ?_
        refine r_iload_n g dX12_log_52 rfl ?_
        refine r_isub g dX12_log_53 ?_
        refine r_imul g dX12_log_54 ?_
        refine r_iadd g dX12_log_55 ?_
        refine r_iload_n g dX12_log_56 rfl ?_
        refine r_iadd g dX12_log_57 ?_
        obtain ⟨hi11, h⟩ := h
        refine r_iaload g hs_now_8 hi11 dX12_log_58 ?_
        refine r_nmI (fun v12 ev12 => ?_)
        replace h := h v12 ev12
        exact hr.2.1 _ rfl _ _ _ _ _ _ dX12_log_59 rfl (Nat.le_refl 0) (Nat.le_refl 0) h
      · replace h := h.2 c7
        refine r_ldcw g (-1000000) kX12_448 dX12_log_32 ?_
        exact hr.2.1 _ rfl _ _ _ _ _ _ dX12_log_35 rfl (Nat.le_refl 0) (Nat.le_refl 0) h
theorem I_X12_log {d : Nat} {ro : Nat → Nat} {Z : Option Value → Hp → Prop} {μ : Hp} {a0 : Nat} {x1 : Int32} {x2 : Int32} (h : ∀ J, xCtx RX12 cX12_log 3 d 0 0 yX12_log.name ro J → xRet cX12_log (some .int) 0 0 Z J → J μ 0 0 0 [(0, .ref a0), (1, .int x1), (2, .int x2)] []) : xC d yX12_log cX12_log 3 (some .int) 0 0 [.ref a0, .int x1, .int x2] μ ro Z :=
  xC_intro (own := RX12) (lv := [(0, .ref a0), (1, .int x1), (2, .int x2)]) (by decide) rfl (Nat.le_of_ble_eq_true rfl) rfl (fun J g hr => r_sub g (lv' := [(0, .ref a0), (1, .int x1), (2, .int x2)]) (⟨rfl, rfl, rfl, trivial⟩) (h J g hr))
theorem dX12_image_0 : decode cX12_image 0 = .ok (.aload_n 0, 1) := by decide +kernel
theorem dX12_image_1 : decode cX12_image 1 = .ok (.iconst 0, 1) := by decide +kernel
theorem dX12_image_2 : decode cX12_image 2 = .ok (.putfield 106, 3) := by decide +kernel
theorem dX12_image_5 : decode cX12_image 5 = .ok (.aload_n 0, 1) := by decide +kernel
theorem dX12_image_6 : decode cX12_image 6 = .ok (.getfield 245, 3) := by decide +kernel
theorem dX12_image_9 : decode cX12_image 9 = .ok (.ifCond .ne 5, 3) := by decide +kernel
theorem dX12_image_12 : decode cX12_image 12 = .ok (.iconst (-1), 1) := by decide +kernel
theorem dX12_image_13 : decode cX12_image 13 = .ok (.ireturn, 1) := by decide +kernel
theorem dX12_image_14 : decode cX12_image 14 = .ok (.aload_n 0, 1) := by decide +kernel
theorem dX12_image_15 : decode cX12_image 15 = .ok (.getfield 57, 3) := by decide +kernel
theorem dX12_image_18 : decode cX12_image 18 = .ok (.iconst 0, 1) := by decide +kernel
theorem dX12_image_19 : decode cX12_image 19 = .ok (.aload_n 0, 1) := by decide +kernel
theorem dX12_image_20 : decode cX12_image 20 = .ok (.getfield 63, 3) := by decide +kernel
theorem dX12_image_23 : decode cX12_image 23 = .ok (.iconst 0, 1) := by decide +kernel
theorem dX12_image_24 : decode cX12_image 24 = .ok (.invokestatic 408, 3) := by decide +kernel
theorem dX12_image_27 : decode cX12_image 27 = .ok (.aload_n 0, 1) := by decide +kernel
theorem dX12_image_28 : decode cX12_image 28 = .ok (.iconst 1, 1) := by decide +kernel
theorem dX12_image_29 : decode cX12_image 29 = .ok (.putfield 254, 3) := by decide +kernel
theorem dX12_image_32 : decode cX12_image 32 = .ok (.aload_n 0, 1) := by decide +kernel
theorem dX12_image_33 : decode cX12_image 33 = .ok (.getfield 57, 3) := by decide +kernel
theorem dX12_image_36 : decode cX12_image 36 = .ok (.bipush 30, 2) := by decide +kernel
theorem dX12_image_38 : decode cX12_image 38 = .ok (.iaload, 1) := by decide +kernel
theorem dX12_image_39 : decode cX12_image 39 = .ok (.ireturn, 1) := by decide +kernel
set_option maxHeartbeats 4000000 in
set_option maxRecDepth 100000 in
theorem B_X12_image_0 {d : Nat} {ro : Nat → Nat} {J : JT} {Z : Option Value → Hp → Prop} (g : xCtx RX12 cX12_image 1 d 0 0 yX12_image.name ro J) (hr : xRet cX12_image (some .int) 0 0 Z J) {μ : Hp} {a0 : Nat} {a0_now : Nat} {a0_image : Nat} (hs_a0 : hS μ a0 = some (15, 65)) (hr_a0_now : hR μ a0 30 = some a0_now) (hr_a0_image : hR μ a0 32 = some a0_image)
    (h : ((¬ (hI (wI μ a0 0 0) a0 22) = 0 → xCall d yX12_copyRow cX12_copyRow 5 none [.ref a0_now, .int 0, .ref a0_image, .int 0] (wI μ a0 0 0) ro (fun r2 μ3 => r2 = none ∧ hS μ3 a0 = some (15, 65) ∧ ∃ now_4 : Nat, hR μ3 a0 30 = some now_4 ∧ ∃ N5 : Nat, hS μ3 now_4 = some (0, N5) ∧ vp_in 30 N5 ∧ Z (some (.int (hI (wI μ3 a0 36 1) now_4 30))) (wI μ3 a0 36 1))) ∧ ((hI (wI μ a0 0 0) a0 22) = 0 → Z (some (.int (-1))) (wI μ a0 0 0)))) :
    J μ 0 0 0 [(0, .ref a0)] [] := by
  refine r_aload_n g dX12_image_0 rfl ?_
  refine r_iconst g 0 dX12_image_1 (by decide) ?_
  refine r_putI g fX12_106 rfl hs_a0 rfl rfl dX12_image_2 ?_
  refine r_aload_n g dX12_image_5 rfl ?_
  refine r_getI g fX12_245 rfl hs_a0 dX12_image_6 ?_
  refine r_if_ne g 14 dX12_image_9 (by decide) (fun c1 => ?_) (fun c1 => ?_)
  · replace h := h.1 c1
    refine r_aload_n g dX12_image_14 rfl ?_
    refine r_getR g fX12_57 rfl hs_a0 hr_a0_now dX12_image_15 ?_
    refine r_iconst g 0 dX12_image_18 (by decide) ?_
    refine r_aload_n g dX12_image_19 rfl ?_
    refine r_getR g fX12_63 rfl hs_a0 hr_a0_image dX12_image_20 ?_
    refine r_iconst g 0 dX12_image_23 (by decide) ?_
    obtain ⟨d1, Z1, hc1, hd1, h1⟩ := h
    refine r_callS (st := []) (As := [.ref a0_now, .int 0, .ref a0_image, .int 0]) g sX12_408 iX12_copyRow rfl (Nat.le_of_ble_eq_true rfl) dX12_image_24 hd1 (Nat.le_refl 0) (Nat.le_refl 0) hc1 (fun r2 μ3 hZ1 => ?_)
    replace h := h1 _ _ hZ1
    clear h1 hc1 hd1 hZ1 Z1 d1
    obtain ⟨rfl, h⟩ := h
    refine r_aload_n g dX12_image_27 rfl ?_
    refine r_iconst g 1 dX12_image_28 (by decide) ?_
    obtain ⟨hs_a0_, h⟩ := h
    refine r_putI g fX12_254 rfl hs_a0_ (by decide) (by decide) dX12_image_29 ?_
    refine r_aload_n g dX12_image_32 rfl ?_
    obtain ⟨now_4, hr_now_4, h⟩ := h
    refine r_getR g fX12_57 rfl hs_a0_ hr_now_4 dX12_image_33 ?_
    refine r_bipush g 30 dX12_image_36 (by decide) ?_
    obtain ⟨N5, hs_now_4, h⟩ := h
    obtain ⟨hi6, h⟩ := h
    refine r_iaload g hs_now_4 hi6 dX12_image_38 ?_
    exact hr.2.1 _ rfl _ _ _ _ _ _ dX12_image_39 rfl (Nat.le_refl 0) (Nat.le_refl 0) h
  · replace h := h.2 c1
    refine r_iconst g (-1) dX12_image_12 (by decide) ?_
    exact hr.2.1 _ rfl _ _ _ _ _ _ dX12_image_13 rfl (Nat.le_refl 0) (Nat.le_refl 0) h
theorem I_X12_image {d : Nat} {ro : Nat → Nat} {Z : Option Value → Hp → Prop} {μ : Hp} {a0 : Nat} (h : ∀ J, xCtx RX12 cX12_image 1 d 0 0 yX12_image.name ro J → xRet cX12_image (some .int) 0 0 Z J → J μ 0 0 0 [(0, .ref a0)] []) : xC d yX12_image cX12_image 1 (some .int) 0 0 [.ref a0] μ ro Z :=
  xC_intro (own := RX12) (lv := [(0, .ref a0)]) (by decide) rfl (Nat.le_of_ble_eq_true rfl) rfl (fun J g hr => r_sub g (lv' := [(0, .ref a0)]) (⟨rfl, trivial⟩) (h J g hr))
theorem dX12_back_0 : decode cX12_back 0 = .ok (.aload_n 0, 1) := by decide +kernel
theorem dX12_back_1 : decode cX12_back 1 = .ok (.iconst 0, 1) := by decide +kernel
theorem dX12_back_2 : decode cX12_back 2 = .ok (.putfield 106, 3) := by decide +kernel
theorem dX12_back_5 : decode cX12_back 5 = .ok (.aload_n 0, 1) := by decide +kernel
theorem dX12_back_6 : decode cX12_back 6 = .ok (.getfield 254, 3) := by decide +kernel
theorem dX12_back_9 : decode cX12_back 9 = .ok (.ifCond .ne 5, 3) := by decide +kernel
theorem dX12_back_12 : decode cX12_back 12 = .ok (.iconst (-1), 1) := by decide +kernel
theorem dX12_back_13 : decode cX12_back 13 = .ok (.ireturn, 1) := by decide +kernel
theorem dX12_back_14 : decode cX12_back 14 = .ok (.aload_n 0, 1) := by decide +kernel
theorem dX12_back_15 : decode cX12_back 15 = .ok (.getfield 63, 3) := by decide +kernel
theorem dX12_back_18 : decode cX12_back 18 = .ok (.iconst 0, 1) := by decide +kernel
theorem dX12_back_19 : decode cX12_back 19 = .ok (.aload_n 0, 1) := by decide +kernel
theorem dX12_back_20 : decode cX12_back 20 = .ok (.getfield 57, 3) := by decide +kernel
theorem dX12_back_23 : decode cX12_back 23 = .ok (.iconst 0, 1) := by decide +kernel
theorem dX12_back_24 : decode cX12_back 24 = .ok (.invokestatic 408, 3) := by decide +kernel
theorem dX12_back_27 : decode cX12_back 27 = .ok (.aload_n 0, 1) := by decide +kernel
theorem dX12_back_28 : decode cX12_back 28 = .ok (.iconst 0, 1) := by decide +kernel
theorem dX12_back_29 : decode cX12_back 29 = .ok (.putfield 251, 3) := by decide +kernel
theorem dX12_back_32 : decode cX12_back 32 = .ok (.aload_n 0, 1) := by decide +kernel
theorem dX12_back_33 : decode cX12_back 33 = .ok (.getfield 57, 3) := by decide +kernel
theorem dX12_back_36 : decode cX12_back 36 = .ok (.bipush 30, 2) := by decide +kernel
theorem dX12_back_38 : decode cX12_back 38 = .ok (.iaload, 1) := by decide +kernel
theorem dX12_back_39 : decode cX12_back 39 = .ok (.ireturn, 1) := by decide +kernel
set_option maxHeartbeats 4000000 in
set_option maxRecDepth 100000 in
theorem B_X12_back_0 {d : Nat} {ro : Nat → Nat} {J : JT} {Z : Option Value → Hp → Prop} (g : xCtx RX12 cX12_back 1 d 0 0 yX12_back.name ro J) (hr : xRet cX12_back (some .int) 0 0 Z J) {μ : Hp} {a0 : Nat} {a0_image : Nat} {a0_now : Nat} (hs_a0 : hS μ a0 = some (15, 65)) (hr_a0_image : hR μ a0 32 = some a0_image) (hr_a0_now : hR μ a0 30 = some a0_now)
    (h : ((¬ (hI (wI μ a0 0 0) a0 36) = 0 → xCall d yX12_copyRow cX12_copyRow 5 none [.ref a0_image, .int 0, .ref a0_now, .int 0] (wI μ a0 0 0) ro (fun r2 μ3 => r2 = none ∧ hS μ3 a0 = some (15, 65) ∧ ∃ now_4 : Nat, hR μ3 a0 30 = some now_4 ∧ ∃ N5 : Nat, hS μ3 now_4 = some (0, N5) ∧ vp_in 30 N5 ∧ Z (some (.int (hI (wI μ3 a0 35 0) now_4 30))) (wI μ3 a0 35 0))) ∧ ((hI (wI μ a0 0 0) a0 36) = 0 → Z (some (.int (-1))) (wI μ a0 0 0)))) :
    J μ 0 0 0 [(0, .ref a0)] [] := by
  refine r_aload_n g dX12_back_0 rfl ?_
  refine r_iconst g 0 dX12_back_1 (by decide) ?_
  refine r_putI g fX12_106 rfl hs_a0 rfl rfl dX12_back_2 ?_
  refine r_aload_n g dX12_back_5 rfl ?_
  refine r_getI g fX12_254 rfl hs_a0 dX12_back_6 ?_
  refine r_if_ne g 14 dX12_back_9 (by decide) (fun c1 => ?_) (fun c1 => ?_)
  · replace h := h.1 c1
    refine r_aload_n g dX12_back_14 rfl ?_
    refine r_getR g fX12_63 rfl hs_a0 hr_a0_image dX12_back_15 ?_
    refine r_iconst g 0 dX12_back_18 (by decide) ?_
    refine r_aload_n g dX12_back_19 rfl ?_
    refine r_getR g fX12_57 rfl hs_a0 hr_a0_now dX12_back_20 ?_
    refine r_iconst g 0 dX12_back_23 (by decide) ?_
    obtain ⟨d1, Z1, hc1, hd1, h1⟩ := h
    refine r_callS (st := []) (As := [.ref a0_image, .int 0, .ref a0_now, .int 0]) g sX12_408 iX12_copyRow rfl (Nat.le_of_ble_eq_true rfl) dX12_back_24 hd1 (Nat.le_refl 0) (Nat.le_refl 0) hc1 (fun r2 μ3 hZ1 => ?_)
    replace h := h1 _ _ hZ1
    clear h1 hc1 hd1 hZ1 Z1 d1
    obtain ⟨rfl, h⟩ := h
    refine r_aload_n g dX12_back_27 rfl ?_
    refine r_iconst g 0 dX12_back_28 (by decide) ?_
    obtain ⟨hs_a0_, h⟩ := h
    refine r_putI g fX12_251 rfl hs_a0_ rfl rfl dX12_back_29 ?_
    refine r_aload_n g dX12_back_32 rfl ?_
    obtain ⟨now_4, hr_now_4, h⟩ := h
    refine r_getR g fX12_57 rfl hs_a0_ hr_now_4 dX12_back_33 ?_
    refine r_bipush g 30 dX12_back_36 (by decide) ?_
    obtain ⟨N5, hs_now_4, h⟩ := h
    obtain ⟨hi6, h⟩ := h
    refine r_iaload g hs_now_4 hi6 dX12_back_38 ?_
    exact hr.2.1 _ rfl _ _ _ _ _ _ dX12_back_39 rfl (Nat.le_refl 0) (Nat.le_refl 0) h
  · replace h := h.2 c1
    refine r_iconst g (-1) dX12_back_12 (by decide) ?_
    exact hr.2.1 _ rfl _ _ _ _ _ _ dX12_back_13 rfl (Nat.le_refl 0) (Nat.le_refl 0) h
theorem I_X12_back {d : Nat} {ro : Nat → Nat} {Z : Option Value → Hp → Prop} {μ : Hp} {a0 : Nat} (h : ∀ J, xCtx RX12 cX12_back 1 d 0 0 yX12_back.name ro J → xRet cX12_back (some .int) 0 0 Z J → J μ 0 0 0 [(0, .ref a0)] []) : xC d yX12_back cX12_back 1 (some .int) 0 0 [.ref a0] μ ro Z :=
  xC_intro (own := RX12) (lv := [(0, .ref a0)]) (by decide) rfl (Nat.le_of_ble_eq_true rfl) rfl (fun J g hr => r_sub g (lv' := [(0, .ref a0)]) (⟨rfl, trivial⟩) (h J g hr))
theorem dX12_land_0 : decode cX12_land 0 = .ok (.aload_n 0, 1) := by decide +kernel
theorem dX12_land_1 : decode cX12_land 1 = .ok (.iconst 0, 1) := by decide +kernel
theorem dX12_land_2 : decode cX12_land 2 = .ok (.putfield 106, 3) := by decide +kernel
theorem dX12_land_5 : decode cX12_land 5 = .ok (.aload_n 0, 1) := by decide +kernel
theorem dX12_land_6 : decode cX12_land 6 = .ok (.iload_n 1, 1) := by decide +kernel
theorem dX12_land_7 : decode cX12_land 7 = .ok (.invokevirtual 449, 3) := by decide +kernel
theorem dX12_land_10 : decode cX12_land 10 = .ok (.ifCond .eq 15, 3) := by decide +kernel
theorem dX12_land_13 : decode cX12_land 13 = .ok (.iload_n 2, 1) := by decide +kernel
theorem dX12_land_14 : decode cX12_land 14 = .ok (.i2l, 1) := by decide +kernel
theorem dX12_land_15 : decode cX12_land 15 = .ok (.lconst 0, 1) := by decide +kernel
theorem dX12_land_16 : decode cX12_land 16 = .ok (.ldc2_w 297, 3) := by decide +kernel
theorem dX12_land_19 : decode cX12_land 19 = .ok (.invokestatic 161, 3) := by decide +kernel
theorem dX12_land_22 : decode cX12_land 22 = .ok (.ifCond .ne 5, 3) := by decide +kernel
theorem dX12_land_25 : decode cX12_land 25 = .ok (.iconst (-1), 1) := by decide +kernel
theorem dX12_land_26 : decode cX12_land 26 = .ok (.ireturn, 1) := by decide +kernel
theorem dX12_land_27 : decode cX12_land 27 = .ok (.iload_n 2, 1) := by decide +kernel
theorem dX12_land_28 : decode cX12_land 28 = .ok (.iconst 3, 1) := by decide +kernel
theorem dX12_land_29 : decode cX12_land 29 = .ok (.if_icmp .ne 15, 3) := by decide +kernel
theorem dX12_land_32 : decode cX12_land 32 = .ok (.aload_n 0, 1) := by decide +kernel
theorem dX12_land_33 : decode cX12_land 33 = .ok (.getfield 57, 3) := by decide +kernel
theorem dX12_land_36 : decode cX12_land 36 = .ok (.bipush 24, 2) := by decide +kernel
theorem dX12_land_38 : decode cX12_land 38 = .ok (.iload_n 1, 1) := by decide +kernel
theorem dX12_land_39 : decode cX12_land 39 = .ok (.iadd, 1) := by decide +kernel
theorem dX12_land_40 : decode cX12_land 40 = .ok (.iaload, 1) := by decide +kernel
theorem dX12_land_41 : decode cX12_land 41 = .ok (.goto 13, 3) := by decide +kernel
theorem dX12_land_44 : decode cX12_land 44 = .ok (.aload_n 0, 1) := by decide +kernel
theorem dX12_land_45 : decode cX12_land 45 = .ok (.getfield 17, 3) := by decide +kernel
theorem dX12_land_48 : decode cX12_land 48 = .ok (.iconst 3, 1) := by decide +kernel
theorem dX12_land_49 : decode cX12_land 49 = .ok (.iload_n 1, 1) := by decide +kernel
theorem dX12_land_50 : decode cX12_land 50 = .ok (.imul, 1) := by decide +kernel
theorem dX12_land_51 : decode cX12_land 51 = .ok (.iload_n 2, 1) := by decide +kernel
theorem dX12_land_52 : decode cX12_land 52 = .ok (.iadd, 1) := by decide +kernel
theorem dX12_land_53 : decode cX12_land 53 = .ok (.iaload, 1) := by decide +kernel
theorem dX12_land_54 : decode cX12_land 54 = .ok (.ireturn, 1) := by decide +kernel
set_option maxHeartbeats 4000000 in
set_option maxRecDepth 100000 in
theorem B_X12_land_0 {d : Nat} {ro : Nat → Nat} {J : JT} {Z : Option Value → Hp → Prop} (g : xCtx RX12 cX12_land 3 d 0 0 yX12_land.name ro J) (hr : xRet cX12_land (some .int) 0 0 Z J) {μ : Hp} {a0 : Nat} {x1 : Int32} {x2 : Int32} (hs_a0 : hS μ a0 = some (15, 65))
    (h : xCall d yX12_isLand cX12_isLand 2 (some .boolean) [.ref a0, .int x1] (wI μ a0 0 0) ro (fun r1 μ2 => ∃ y3 : Int32, r1 = some (.int y3) ∧ ((y3 = 0 → Z (some (.int (-1))) μ2) ∧ (¬ y3 = 0 → xCall d yX12_isIn cX12_isIn 6 (some .boolean) [.long x2.toInt64, .long 0, .long 3] μ2 ro (fun r5 μ6 => ∃ y7 : Int32, r5 = some (.int y7) ∧ ((¬ y7 = 0 → ((¬ x2 = 3 → hS μ6 a0 = some (15, 65) ∧ ∃ land_10 : Nat, hR μ6 a0 8 = some land_10 ∧ ∃ N11 : Nat, hS μ6 land_10 = some (0, N11) ∧ vp_in ((3 * x1) + x2) N11 ∧ Z (some (.int (hI μ6 land_10 (((3 * x1) + x2).toNatClampNeg)))) μ6) ∧ (x2 = 3 → hS μ6 a0 = some (15, 65) ∧ ∃ now_13 : Nat, hR μ6 a0 30 = some now_13 ∧ ∃ N14 : Nat, hS μ6 now_13 = some (0, N14) ∧ vp_in (24 + x1) N14 ∧ Z (some (.int (hI μ6 now_13 ((24 + x1).toNatClampNeg)))) μ6))) ∧ (y7 = 0 → Z (some (.int (-1))) μ6))))))) :
    J μ 0 0 0 [(0, .ref a0), (1, .int x1), (2, .int x2)] [] := by
  refine r_aload_n g dX12_land_0 rfl ?_
  refine r_iconst g 0 dX12_land_1 (by decide) ?_
  refine r_putI g fX12_106 rfl hs_a0 rfl rfl dX12_land_2 ?_
  refine r_aload_n g dX12_land_5 rfl ?_
  refine r_iload_n g dX12_land_6 rfl ?_
  obtain ⟨d1, Z1, hc1, hd1, h1⟩ := h
  refine r_callV (st := []) (As := [.int x1]) g sX12_449 iX12_isLand eX12_isLand rfl hs_a0 rfl (Nat.le_of_ble_eq_true rfl) dX12_land_7 hd1 (Nat.le_refl 0) (Nat.le_refl 0) hc1 (fun r1 μ2 hZ1 => ?_)
  replace h := h1 _ _ hZ1
  clear h1 hc1 hd1 hZ1 Z1 d1
  obtain ⟨y3, rfl, h⟩ := h
  refine r_if_eq g 25 dX12_land_10 (by decide) (fun c4 => ?_) (fun c4 => ?_)
  · replace h := h.1 c4
    refine r_iconst g (-1) dX12_land_25 (by decide) ?_
    exact hr.2.1 _ rfl _ _ _ _ _ _ dX12_land_26 rfl (Nat.le_refl 0) (Nat.le_refl 0) h
  · replace h := h.2 c4
    refine r_iload_n g dX12_land_13 rfl ?_
    refine r_i2l g dX12_land_14 ?_
    refine r_lconst g 0 dX12_land_15 (by decide) ?_
    refine r_ldc2 g 3 kX12_297 dX12_land_16 ?_
    obtain ⟨d1, Z1, hc1, hd1, h1⟩ := h
    refine r_callS (st := []) (As := [.long x2.toInt64, .long 0, .long 3]) g sX12_161 iX12_isIn rfl (Nat.le_of_ble_eq_true rfl) dX12_land_19 hd1 (Nat.le_refl 0) (Nat.le_refl 0) hc1 (fun r5 μ6 hZ1 => ?_)
    replace h := h1 _ _ hZ1
    clear h1 hc1 hd1 hZ1 Z1 d1
    obtain ⟨y7, rfl, h⟩ := h
    refine r_if_ne g 27 dX12_land_22 (by decide) (fun c8 => ?_) (fun c8 => ?_)
    · replace h := h.1 c8
      refine r_iload_n g dX12_land_27 rfl ?_
      refine r_iconst g 3 dX12_land_28 (by decide) ?_
      refine r_icmp_ne g 44 dX12_land_29 (by decide) (fun c9 => ?_) (fun c9 => ?_)
      · replace h := h.1 c9
        refine r_aload_n g dX12_land_44 rfl ?_
        obtain ⟨hs_a0_, h⟩ := h
        obtain ⟨land_10, hr_land_10, h⟩ := h
        refine r_getR g fX12_17 rfl hs_a0_ hr_land_10 dX12_land_45 ?_
        refine r_iconst g 3 dX12_land_48 (by decide) ?_
        refine r_iload_n g dX12_land_49 rfl ?_
        refine r_imul g dX12_land_50 ?_
        refine r_iload_n g dX12_land_51 rfl ?_
        refine r_iadd g dX12_land_52 ?_
        obtain ⟨N11, hs_land_10, h⟩ := h
        obtain ⟨hi12, h⟩ := h
        refine r_iaload g hs_land_10 hi12 dX12_land_53 ?_
        exact hr.2.1 _ rfl _ _ _ _ _ _ dX12_land_54 rfl (Nat.le_refl 0) (Nat.le_refl 0) h
      · replace h := h.2 c9
        refine r_aload_n g dX12_land_32 rfl ?_
        obtain ⟨hs_a0__, h⟩ := h
        obtain ⟨now_13, hr_now_13, h⟩ := h
        refine r_getR g fX12_57 rfl hs_a0__ hr_now_13 dX12_land_33 ?_
        refine r_bipush g 24 dX12_land_36 (by decide) ?_
        refine r_iload_n g dX12_land_38 rfl ?_
        refine r_iadd g dX12_land_39 ?_
        obtain ⟨N14, hs_now_13, h⟩ := h
        obtain ⟨hi15, h⟩ := h
        refine r_iaload g hs_now_13 hi15 dX12_land_40 ?_
        refine r_goto g 54 dX12_land_41 (by decide) ?_
        exact hr.2.1 _ rfl _ _ _ _ _ _ dX12_land_54 rfl (Nat.le_refl 0) (Nat.le_refl 0) h
    · replace h := h.2 c8
      refine r_iconst g (-1) dX12_land_25 (by decide) ?_
      exact hr.2.1 _ rfl _ _ _ _ _ _ dX12_land_26 rfl (Nat.le_refl 0) (Nat.le_refl 0) h
theorem I_X12_land {d : Nat} {ro : Nat → Nat} {Z : Option Value → Hp → Prop} {μ : Hp} {a0 : Nat} {x1 : Int32} {x2 : Int32} (h : ∀ J, xCtx RX12 cX12_land 3 d 0 0 yX12_land.name ro J → xRet cX12_land (some .int) 0 0 Z J → J μ 0 0 0 [(0, .ref a0), (1, .int x1), (2, .int x2)] []) : xC d yX12_land cX12_land 3 (some .int) 0 0 [.ref a0, .int x1, .int x2] μ ro Z :=
  xC_intro (own := RX12) (lv := [(0, .ref a0), (1, .int x1), (2, .int x2)]) (by decide) rfl (Nat.le_of_ble_eq_true rfl) rfl (fun J g hr => r_sub g (lv' := [(0, .ref a0), (1, .int x1), (2, .int x2)]) (⟨rfl, rfl, rfl, trivial⟩) (h J g hr))
theorem dX12_linksOf_0 : decode cX12_linksOf 0 = .ok (.iconst 0, 1) := by decide +kernel
theorem dX12_linksOf_1 : decode cX12_linksOf 1 = .ok (.istore_n 2, 1) := by decide +kernel
theorem dX12_linksOf_2 : decode cX12_linksOf 2 = .ok (.iconst 0, 1) := by decide +kernel
theorem dX12_linksOf_3 : decode cX12_linksOf 3 = .ok (.istore_n 3, 1) := by decide +kernel
theorem dX12_linksOf_4 : decode cX12_linksOf 4 = .ok (.iload_n 3, 1) := by decide +kernel
theorem dX12_linksOf_5 : decode cX12_linksOf 5 = .ok (.aload_n 0, 1) := by decide +kernel
theorem dX12_linksOf_6 : decode cX12_linksOf 6 = .ok (.getfield 57, 3) := by decide +kernel
theorem dX12_linksOf_9 : decode cX12_linksOf 9 = .ok (.bipush 31, 2) := by decide +kernel
theorem dX12_linksOf_11 : decode cX12_linksOf 11 = .ok (.iaload, 1) := by decide +kernel
theorem dX12_linksOf_12 : decode cX12_linksOf 12 = .ok (.if_icmp .ge 47, 3) := by decide +kernel
theorem dX12_linksOf_15 : decode cX12_linksOf 15 = .ok (.iload_n 2, 1) := by decide +kernel
theorem dX12_linksOf_16 : decode cX12_linksOf 16 = .ok (.aload_n 0, 1) := by decide +kernel
theorem dX12_linksOf_17 : decode cX12_linksOf 17 = .ok (.getfield 57, 3) := by decide +kernel
theorem dX12_linksOf_20 : decode cX12_linksOf 20 = .ok (.iload_n 3, 1) := by decide +kernel
theorem dX12_linksOf_21 : decode cX12_linksOf 21 = .ok (.invokestatic 270, 3) := by decide +kernel
theorem dX12_linksOf_24 : decode cX12_linksOf 24 = .ok (.iconst 1, 1) := by decide +kernel
theorem dX12_linksOf_25 : decode cX12_linksOf 25 = .ok (.iadd, 1) := by decide +kernel
theorem dX12_linksOf_26 : decode cX12_linksOf 26 = .ok (.iaload, 1) := by decide +kernel
theorem dX12_linksOf_27 : decode cX12_linksOf 27 = .ok (.iload_n 1, 1) := by decide +kernel
theorem dX12_linksOf_28 : decode cX12_linksOf 28 = .ok (.if_icmp .eq 18, 3) := by decide +kernel
theorem dX12_linksOf_31 : decode cX12_linksOf 31 = .ok (.aload_n 0, 1) := by decide +kernel
theorem dX12_linksOf_32 : decode cX12_linksOf 32 = .ok (.getfield 57, 3) := by decide +kernel
theorem dX12_linksOf_35 : decode cX12_linksOf 35 = .ok (.iload_n 3, 1) := by decide +kernel
theorem dX12_linksOf_36 : decode cX12_linksOf 36 = .ok (.invokestatic 270, 3) := by decide +kernel
theorem dX12_linksOf_39 : decode cX12_linksOf 39 = .ok (.iconst 2, 1) := by decide +kernel
theorem dX12_linksOf_40 : decode cX12_linksOf 40 = .ok (.iadd, 1) := by decide +kernel
theorem dX12_linksOf_41 : decode cX12_linksOf 41 = .ok (.iaload, 1) := by decide +kernel
theorem dX12_linksOf_42 : decode cX12_linksOf 42 = .ok (.iload_n 1, 1) := by decide +kernel
theorem dX12_linksOf_43 : decode cX12_linksOf 43 = .ok (.if_icmp .ne 7, 3) := by decide +kernel
theorem dX12_linksOf_46 : decode cX12_linksOf 46 = .ok (.iconst 1, 1) := by decide +kernel
theorem dX12_linksOf_47 : decode cX12_linksOf 47 = .ok (.goto 4, 3) := by decide +kernel
theorem dX12_linksOf_50 : decode cX12_linksOf 50 = .ok (.iconst 0, 1) := by decide +kernel
theorem dX12_linksOf_51 : decode cX12_linksOf 51 = .ok (.iadd, 1) := by decide +kernel
theorem dX12_linksOf_52 : decode cX12_linksOf 52 = .ok (.istore_n 2, 1) := by decide +kernel
theorem dX12_linksOf_53 : decode cX12_linksOf 53 = .ok (.iinc 3 1, 3) := by decide +kernel
theorem dX12_linksOf_56 : decode cX12_linksOf 56 = .ok (.goto (-52), 3) := by decide +kernel
theorem dX12_linksOf_59 : decode cX12_linksOf 59 = .ok (.iload_n 2, 1) := by decide +kernel
theorem dX12_linksOf_60 : decode cX12_linksOf 60 = .ok (.ireturn, 1) := by decide +kernel
set_option maxHeartbeats 4000000 in
set_option maxRecDepth 100000 in
theorem B_X12_linksOf_0 {d : Nat} {ro : Nat → Nat} {J : JT} {Z : Option Value → Hp → Prop} (g : xCtx RX12 cX12_linksOf 4 d 0 0 yX12_linksOf.name ro J) (hr : xRet cX12_linksOf (some .int) 0 0 Z J) {μ : Hp} {a0 : Nat} {x1 : Int32} 
    (h : J μ 0 0 4 [(0, .ref a0), (1, .int x1), (2, .int 0), (3, .int 0)] []) :
    J μ 0 0 0 [(0, .ref a0), (1, .int x1)] [] := by
  refine r_iconst g 0 dX12_linksOf_0 (by decide) ?_
  refine r_istore_n g [(2, .int 0), (0, .ref a0), (1, .int x1)] dX12_linksOf_1 (by decide) rfl ?_
  refine r_iconst g 0 dX12_linksOf_2 (by decide) ?_
  refine r_istore_n g [(3, .int 0), (2, .int 0), (0, .ref a0), (1, .int x1)] dX12_linksOf_3 (by decide) rfl ?_
  refine r_sub g (lv' := [(0, .ref a0), (1, .int x1), (2, .int 0), (3, .int 0)]) (⟨rfl, rfl, rfl, rfl, trivial⟩) ?_
  exact h
set_option maxHeartbeats 4000000 in
set_option maxRecDepth 100000 in
theorem B_X12_linksOf_4 {d : Nat} {ro : Nat → Nat} {J : JT} {Z : Option Value → Hp → Prop} (g : xCtx RX12 cX12_linksOf 4 d 0 0 yX12_linksOf.name ro J) (hr : xRet cX12_linksOf (some .int) 0 0 Z J) {μ : Hp} {a0 : Nat} {x1 : Int32} {x2 : Int32} {x3 : Int32} {a0_now : Nat} {N_a0_now : Nat} (hs_a0 : hS μ a0 = some (15, 65)) (hr_a0_now : hR μ a0 30 = some a0_now) (hs_a0_now : hS μ a0_now = some (0, N_a0_now))
    (h : vp_in 31 N_a0_now ∧ (((hI μ a0_now 31) ≤ x3 → Z (some (.int x2)) μ) ∧ (¬ (hI μ a0_now 31) ≤ x3 → xCall d yX12_linkRow cX12_linkRow 1 (some .int) [.int x3] μ ro (fun r3 μ4 => ∃ y5 : Int32, r3 = some (.int y5) ∧ ∃ N6 : Nat, hS μ4 a0_now = some (0, N6) ∧ vp_in (y5 + 1) N6 ∧ (((hI μ4 a0_now ((y5 + 1).toNatClampNeg)) = x1 → J μ4 0 0 4 [(0, .ref a0), (1, .int x1), (2, .int (x2 + 1)), (3, .int (x3 + 1))] []) ∧ (¬ (hI μ4 a0_now ((y5 + 1).toNatClampNeg)) = x1 → hS μ4 a0 = some (15, 65) ∧ ∃ now_9 : Nat, hR μ4 a0 30 = some now_9 ∧ xCall d yX12_linkRow cX12_linkRow 1 (some .int) [.int x3] μ4 ro (fun r10 μ11 => ∃ y12 : Int32, r10 = some (.int y12) ∧ ∃ N13 : Nat, hS μ11 now_9 = some (0, N13) ∧ vp_in (y12 + 2) N13 ∧ ((¬ (hI μ11 now_9 ((y12 + 2).toNatClampNeg)) = x1 → J μ11 0 0 4 [(0, .ref a0), (1, .int x1), (2, .int (x2 + 0)), (3, .int (x3 + 1))] []) ∧ ((hI μ11 now_9 ((y12 + 2).toNatClampNeg)) = x1 → J μ11 0 0 4 [(0, .ref a0), (1, .int x1), (2, .int (x2 + 1)), (3, .int (x3 + 1))] []))))))))) :
    J μ 0 0 4 [(0, .ref a0), (1, .int x1), (2, .int x2), (3, .int x3)] [] := by
  refine r_iload_n g dX12_linksOf_4 rfl ?_
  refine r_aload_n g dX12_linksOf_5 rfl ?_
  refine r_getR g fX12_57 rfl hs_a0 hr_a0_now dX12_linksOf_6 ?_
  refine r_bipush g 31 dX12_linksOf_9 (by decide) ?_
  obtain ⟨hi1, h⟩ := h
  refine r_iaload g hs_a0_now hi1 dX12_linksOf_11 ?_
  refine r_icmp_ge g 59 dX12_linksOf_12 (by decide) (fun c2 => ?_) (fun c2 => ?_)
  · replace h := h.1 c2
    refine r_iload_n g dX12_linksOf_59 rfl ?_
    exact hr.2.1 _ rfl _ _ _ _ _ _ dX12_linksOf_60 rfl (Nat.le_refl 0) (Nat.le_refl 0) h
  · replace h := h.2 c2
    refine r_iload_n g dX12_linksOf_15 rfl ?_
    refine r_aload_n g dX12_linksOf_16 rfl ?_
    refine r_getR g fX12_57 rfl hs_a0 hr_a0_now dX12_linksOf_17 ?_
    refine r_iload_n g dX12_linksOf_20 rfl ?_
    obtain ⟨d1, Z1, hc1, hd1, h1⟩ := h
    refine r_callS (st := [.ref a0_now, .int x2]) (As := [.int x3]) g sX12_270 iX12_linkRow rfl (Nat.le_of_ble_eq_true rfl) dX12_linksOf_21 hd1 (Nat.le_refl 0) (Nat.le_refl 0) hc1 (fun r3 μ4 hZ1 => ?_)
    replace h := h1 _ _ hZ1
    clear h1 hc1 hd1 hZ1 Z1 d1
    obtain ⟨y5, rfl, h⟩ := h
    refine r_iconst g 1 dX12_linksOf_24 (by decide) ?_
    refine r_iadd g dX12_linksOf_25 ?_
    obtain ⟨N6, hs_a0_now_, h⟩ := h
    obtain ⟨hi7, h⟩ := h
    refine r_iaload g hs_a0_now_ hi7 dX12_linksOf_26 ?_
    refine r_iload_n g dX12_linksOf_27 rfl ?_
    refine r_icmp_eq g 46 dX12_linksOf_28 (by decide) (fun c8 => ?_) (fun c8 => ?_)
    · replace h := h.1 c8
      refine r_iconst g 1 dX12_linksOf_46 (by decide) ?_
      refine r_goto g 51 dX12_linksOf_47 (by decide) ?_
      refine r_iadd g dX12_linksOf_51 ?_
      refine r_istore_n g [(2, .int (x2 + 1)), (0, .ref a0), (1, .int x1), (3, .int x3)] dX12_linksOf_52 (by decide) rfl ?_
      refine r_iinc g (x3 + 1) [(3, .int (x3 + 1)), (2, .int (x2 + 1)), (0, .ref a0), (1, .int x1)] dX12_linksOf_53 rfl rfl (by decide) rfl ?_
      refine r_goto g 4 dX12_linksOf_56 (by decide) ?_
      refine r_sub g (lv' := [(0, .ref a0), (1, .int x1), (2, .int (x2 + 1)), (3, .int (x3 + 1))]) (⟨rfl, rfl, rfl, rfl, trivial⟩) ?_
      exact h
    · replace h := h.2 c8
      refine r_aload_n g dX12_linksOf_31 rfl ?_
      obtain ⟨hs_a0_, h⟩ := h
      obtain ⟨now_9, hr_now_9, h⟩ := h
      refine r_getR g fX12_57 rfl hs_a0_ hr_now_9 dX12_linksOf_32 ?_
      refine r_iload_n g dX12_linksOf_35 rfl ?_
      obtain ⟨d1, Z1, hc1, hd1, h1⟩ := h
      refine r_callS (st := [.ref now_9, .int x2]) (As := [.int x3]) g sX12_270 iX12_linkRow rfl (Nat.le_of_ble_eq_true rfl) dX12_linksOf_36 hd1 (Nat.le_refl 0) (Nat.le_refl 0) hc1 (fun r10 μ11 hZ1 => ?_)
      replace h := h1 _ _ hZ1
      clear h1 hc1 hd1 hZ1 Z1 d1
      obtain ⟨y12, rfl, h⟩ := h
      refine r_iconst g 2 dX12_linksOf_39 (by decide) ?_
      refine r_iadd g dX12_linksOf_40 ?_
      obtain ⟨N13, hs_now_9, h⟩ := h
      obtain ⟨hi14, h⟩ := h
      refine r_iaload g hs_now_9 hi14 dX12_linksOf_41 ?_
      refine r_iload_n g dX12_linksOf_42 rfl ?_
      refine r_icmp_ne g 50 dX12_linksOf_43 (by decide) (fun c15 => ?_) (fun c15 => ?_)
      · replace h := h.1 c15
        refine r_iconst g 0 dX12_linksOf_50 (by decide) ?_
        refine r_iadd g dX12_linksOf_51 ?_
        refine r_istore_n g [(2, .int (x2 + 0)), (0, .ref a0), (1, .int x1), (3, .int x3)] dX12_linksOf_52 (by decide) rfl ?_
        refine r_iinc g (x3 + 1) [(3, .int (x3 + 1)), (2, .int (x2 + 0)), (0, .ref a0), (1, .int x1)] dX12_linksOf_53 rfl rfl (by decide) rfl ?_
        refine r_goto g 4 dX12_linksOf_56 (by decide) ?_
        refine r_sub g (lv' := [(0, .ref a0), (1, .int x1), (2, .int (x2 + 0)), (3, .int (x3 + 1))]) (⟨rfl, rfl, rfl, rfl, trivial⟩) ?_
        exact h
      · replace h := h.2 c15
        refine r_iconst g 1 dX12_linksOf_46 (by decide) ?_
        refine r_goto g 51 dX12_linksOf_47 (by decide) ?_
        refine r_iadd g dX12_linksOf_51 ?_
        refine r_istore_n g [(2, .int (x2 + 1)), (0, .ref a0), (1, .int x1), (3, .int x3)] dX12_linksOf_52 (by decide) rfl ?_
        refine r_iinc g (x3 + 1) [(3, .int (x3 + 1)), (2, .int (x2 + 1)), (0, .ref a0), (1, .int x1)] dX12_linksOf_53 rfl rfl (by decide) rfl ?_
        refine r_goto g 4 dX12_linksOf_56 (by decide) ?_
        refine r_sub g (lv' := [(0, .ref a0), (1, .int x1), (2, .int (x2 + 1)), (3, .int (x3 + 1))]) (⟨rfl, rfl, rfl, rfl, trivial⟩) ?_
        exact h
theorem I_X12_linksOf {d : Nat} {ro : Nat → Nat} {Z : Option Value → Hp → Prop} {μ : Hp} {a0 : Nat} {x1 : Int32} (h : ∀ J, xCtx RX12 cX12_linksOf 4 d 0 0 yX12_linksOf.name ro J → xRet cX12_linksOf (some .int) 0 0 Z J → J μ 0 0 0 [(0, .ref a0), (1, .int x1)] []) : xC d yX12_linksOf cX12_linksOf 4 (some .int) 0 0 [.ref a0, .int x1] μ ro Z :=
  xC_intro (own := RX12) (lv := [(0, .ref a0), (1, .int x1)]) (by decide) rfl (Nat.le_of_ble_eq_true rfl) rfl (fun J g hr => r_sub g (lv' := [(0, .ref a0), (1, .int x1)]) (⟨rfl, rfl, trivial⟩) (h J g hr))
theorem dX12_firm_0 : decode cX12_firm 0 = .ok (.aload_n 0, 1) := by decide +kernel
theorem dX12_firm_1 : decode cX12_firm 1 = .ok (.iconst 0, 1) := by decide +kernel
theorem dX12_firm_2 : decode cX12_firm 2 = .ok (.putfield 106, 3) := by decide +kernel
theorem dX12_firm_5 : decode cX12_firm 5 = .ok (.aload_n 0, 1) := by decide +kernel
theorem dX12_firm_6 : decode cX12_firm 6 = .ok (.iload_n 1, 1) := by decide +kernel
theorem dX12_firm_7 : decode cX12_firm 7 = .ok (.invokevirtual 351, 3) := by decide +kernel
theorem dX12_firm_10 : decode cX12_firm 10 = .ok (.ifCond .eq 15, 3) := by decide +kernel
theorem dX12_firm_13 : decode cX12_firm 13 = .ok (.iload_n 2, 1) := by decide +kernel
theorem dX12_firm_14 : decode cX12_firm 14 = .ok (.i2l, 1) := by decide +kernel
theorem dX12_firm_15 : decode cX12_firm 15 = .ok (.lconst 0, 1) := by decide +kernel
theorem dX12_firm_16 : decode cX12_firm 16 = .ok (.ldc2_w 452, 3) := by decide +kernel
theorem dX12_firm_19 : decode cX12_firm 19 = .ok (.invokestatic 161, 3) := by decide +kernel
theorem dX12_firm_22 : decode cX12_firm 22 = .ok (.ifCond .ne 10, 3) := by decide +kernel
theorem dX12_firm_25 : decode cX12_firm 25 = .ok (.aload_n 0, 1) := by decide +kernel
theorem dX12_firm_26 : decode cX12_firm 26 = .ok (.iconst 1, 1) := by decide +kernel
theorem dX12_firm_27 : decode cX12_firm 27 = .ok (.putfield 106, 3) := by decide +kernel
theorem dX12_firm_30 : decode cX12_firm 30 = .ok (.iconst 0, 1) := by decide +kernel
theorem dX12_firm_31 : decode cX12_firm 31 = .ok (.ireturn, 1) := by decide +kernel
theorem dX12_firm_32 : decode cX12_firm 32 = .ok (.iload_n 2, 1) := by decide +kernel
theorem dX12_firm_33 : decode cX12_firm 33 = .ok (.tableswitch 66 0 3 #[31, 37, 47, 56], 31) := by decide +kernel
theorem dX12_firm_64 : decode cX12_firm 64 = .ok (.aload_n 0, 1) := by decide +kernel
theorem dX12_firm_65 : decode cX12_firm 65 = .ok (.iload_n 1, 1) := by decide +kernel
theorem dX12_firm_66 : decode cX12_firm 66 = .ok (.invokevirtual 280, 3) := by decide +kernel
theorem dX12_firm_69 : decode cX12_firm 69 = .ok (.ireturn, 1) := by decide +kernel
theorem dX12_firm_70 : decode cX12_firm 70 = .ok (.aload_n 0, 1) := by decide +kernel
theorem dX12_firm_71 : decode cX12_firm 71 = .ok (.getfield 57, 3) := by decide +kernel
theorem dX12_firm_74 : decode cX12_firm 74 = .ok (.bipush 8, 2) := by decide +kernel
theorem dX12_firm_76 : decode cX12_firm 76 = .ok (.iload_n 1, 1) := by decide +kernel
theorem dX12_firm_77 : decode cX12_firm 77 = .ok (.iadd, 1) := by decide +kernel
theorem dX12_firm_78 : decode cX12_firm 78 = .ok (.iaload, 1) := by decide +kernel
theorem dX12_firm_79 : decode cX12_firm 79 = .ok (.ireturn, 1) := by decide +kernel
theorem dX12_firm_80 : decode cX12_firm 80 = .ok (.aload_n 0, 1) := by decide +kernel
theorem dX12_firm_81 : decode cX12_firm 81 = .ok (.getfield 57, 3) := by decide +kernel
theorem dX12_firm_84 : decode cX12_firm 84 = .ok (.iconst 0, 1) := by decide +kernel
theorem dX12_firm_85 : decode cX12_firm 85 = .ok (.iload_n 1, 1) := by decide +kernel
theorem dX12_firm_86 : decode cX12_firm 86 = .ok (.iadd, 1) := by decide +kernel
theorem dX12_firm_87 : decode cX12_firm 87 = .ok (.iaload, 1) := by decide +kernel
theorem dX12_firm_88 : decode cX12_firm 88 = .ok (.ireturn, 1) := by decide +kernel
theorem dX12_firm_89 : decode cX12_firm 89 = .ok (.aload_n 0, 1) := by decide +kernel
theorem dX12_firm_90 : decode cX12_firm 90 = .ok (.getfield 57, 3) := by decide +kernel
theorem dX12_firm_93 : decode cX12_firm 93 = .ok (.bipush 16, 2) := by decide +kernel
theorem dX12_firm_95 : decode cX12_firm 95 = .ok (.iload_n 1, 1) := by decide +kernel
theorem dX12_firm_96 : decode cX12_firm 96 = .ok (.iadd, 1) := by decide +kernel
theorem dX12_firm_97 : decode cX12_firm 97 = .ok (.iaload, 1) := by decide +kernel
theorem dX12_firm_98 : decode cX12_firm 98 = .ok (.ireturn, 1) := by decide +kernel
theorem dX12_firm_99 : decode cX12_firm 99 = .ok (.aload_n 0, 1) := by decide +kernel
theorem dX12_firm_100 : decode cX12_firm 100 = .ok (.iload_n 1, 1) := by decide +kernel
theorem dX12_firm_101 : decode cX12_firm 101 = .ok (.invokevirtual 454, 3) := by decide +kernel
theorem dX12_firm_104 : decode cX12_firm 104 = .ok (.ireturn, 1) := by decide +kernel
set_option maxHeartbeats 4000000 in
set_option maxRecDepth 100000 in
theorem B_X12_firm_0 {d : Nat} {ro : Nat → Nat} {J : JT} {Z : Option Value → Hp → Prop} (g : xCtx RX12 cX12_firm 3 d 0 0 yX12_firm.name ro J) (hr : xRet cX12_firm (some .int) 0 0 Z J) {μ : Hp} {a0 : Nat} {x1 : Int32} {x2 : Int32} (hs_a0 : hS μ a0 = some (15, 65))
    (h : xCall d yX12_isFirm cX12_isFirm 2 (some .boolean) [.ref a0, .int x1] (wI μ a0 0 0) ro (fun r1 μ2 => ∃ y3 : Int32, r1 = some (.int y3) ∧ ((y3 = 0 → hS μ2 a0 = some (15, 65) ∧ Z (some (.int 0)) (wI μ2 a0 0 1)) ∧ (¬ y3 = 0 → xCall d yX12_isIn cX12_isIn 6 (some .boolean) [.long x2.toInt64, .long 0, .long 4] μ2 ro (fun r5 μ6 => ∃ y7 : Int32, r5 = some (.int y7) ∧ ((¬ y7 = 0 → (((x2).toInt < 0 ∨ 3 < (x2).toInt → hS μ6 a0 = some (15, 65) ∧ xCall d yX12_linksOf cX12_linksOf 4 (some .int) [.ref a0, .int x1] μ6 ro (fun r10 μ11 => ∃ y12 : Int32, r10 = some (.int y12) ∧ Z (some (.int y12)) μ11)) ∧ (x2 = 0 → hS μ6 a0 = some (15, 65) ∧ xCall d yX12_landOf cX12_landOf 2 (some .int) [.ref a0, .int x1] μ6 ro (fun r13 μ14 => ∃ y15 : Int32, r13 = some (.int y15) ∧ Z (some (.int y15)) μ14)) ∧ (x2 = 1 → hS μ6 a0 = some (15, 65) ∧ ∃ now_16 : Nat, hR μ6 a0 30 = some now_16 ∧ ∃ N17 : Nat, hS μ6 now_16 = some (0, N17) ∧ vp_in (8 + x1) N17 ∧ Z (some (.int (hI μ6 now_16 ((8 + x1).toNatClampNeg)))) μ6) ∧ (x2 = 2 → hS μ6 a0 = some (15, 65) ∧ ∃ now_19 : Nat, hR μ6 a0 30 = some now_19 ∧ ∃ N20 : Nat, hS μ6 now_19 = some (0, N20) ∧ vp_in (0 + x1) N20 ∧ Z (some (.int (hI μ6 now_19 ((0 + x1).toNatClampNeg)))) μ6) ∧ (x2 = 3 → hS μ6 a0 = some (15, 65) ∧ ∃ now_22 : Nat, hR μ6 a0 30 = some now_22 ∧ ∃ N23 : Nat, hS μ6 now_22 = some (0, N23) ∧ vp_in (16 + x1) N23 ∧ Z (some (.int (hI μ6 now_22 ((16 + x1).toNatClampNeg)))) μ6))) ∧ (y7 = 0 → hS μ6 a0 = some (15, 65) ∧ Z (some (.int 0)) (wI μ6 a0 0 1)))))))) :
    J μ 0 0 0 [(0, .ref a0), (1, .int x1), (2, .int x2)] [] := by
  refine r_aload_n g dX12_firm_0 rfl ?_
  refine r_iconst g 0 dX12_firm_1 (by decide) ?_
  refine r_putI g fX12_106 rfl hs_a0 rfl rfl dX12_firm_2 ?_
  refine r_aload_n g dX12_firm_5 rfl ?_
  refine r_iload_n g dX12_firm_6 rfl ?_
  obtain ⟨d1, Z1, hc1, hd1, h1⟩ := h
  refine r_callV (st := []) (As := [.int x1]) g sX12_351 iX12_isFirm eX12_isFirm rfl hs_a0 rfl (Nat.le_of_ble_eq_true rfl) dX12_firm_7 hd1 (Nat.le_refl 0) (Nat.le_refl 0) hc1 (fun r1 μ2 hZ1 => ?_)
  replace h := h1 _ _ hZ1
  clear h1 hc1 hd1 hZ1 Z1 d1
  obtain ⟨y3, rfl, h⟩ := h
  refine r_if_eq g 25 dX12_firm_10 (by decide) (fun c4 => ?_) (fun c4 => ?_)
  · replace h := h.1 c4
    refine r_aload_n g dX12_firm_25 rfl ?_
    refine r_iconst g 1 dX12_firm_26 (by decide) ?_
    obtain ⟨hs_a0_, h⟩ := h
    refine r_putI g fX12_106 rfl hs_a0_ rfl rfl dX12_firm_27 ?_
    refine r_iconst g 0 dX12_firm_30 (by decide) ?_
    exact hr.2.1 _ rfl _ _ _ _ _ _ dX12_firm_31 rfl (Nat.le_refl 0) (Nat.le_refl 0) h
  · replace h := h.2 c4
    refine r_iload_n g dX12_firm_13 rfl ?_
    refine r_i2l g dX12_firm_14 ?_
    refine r_lconst g 0 dX12_firm_15 (by decide) ?_
    refine r_ldc2 g 4 kX12_452 dX12_firm_16 ?_
    obtain ⟨d1, Z1, hc1, hd1, h1⟩ := h
    refine r_callS (st := []) (As := [.long x2.toInt64, .long 0, .long 4]) g sX12_161 iX12_isIn rfl (Nat.le_of_ble_eq_true rfl) dX12_firm_19 hd1 (Nat.le_refl 0) (Nat.le_refl 0) hc1 (fun r5 μ6 hZ1 => ?_)
    replace h := h1 _ _ hZ1
    clear h1 hc1 hd1 hZ1 Z1 d1
    obtain ⟨y7, rfl, h⟩ := h
    refine r_if_ne g 32 dX12_firm_22 (by decide) (fun c8 => ?_) (fun c8 => ?_)
    · replace h := h.1 c8
      refine r_iload_n g dX12_firm_32 rfl ?_
      rcases sw_cases (x := x2) 0 3 (by decide) (by decide) with c9 | ⟨z, hz1, hz2, c9⟩
      · refine r_tableOut g 99 dX12_firm_33 c9 (by decide) ?_
        replace h := h.1 c9
        refine r_aload_n g dX12_firm_99 rfl ?_
        refine r_iload_n g dX12_firm_100 rfl ?_
        obtain ⟨hs_a0__, h⟩ := h
        obtain ⟨d1, Z1, hc1, hd1, h1⟩ := h
        refine r_callV (st := []) (As := [.int x1]) g sX12_454 iX12_linksOf eX12_linksOf rfl hs_a0__ rfl (Nat.le_of_ble_eq_true rfl) dX12_firm_101 hd1 (Nat.le_refl 0) (Nat.le_refl 0) hc1 (fun r10 μ11 hZ1 => ?_)
        replace h := h1 _ _ hZ1
        clear h1 hc1 hd1 hZ1 Z1 d1
        obtain ⟨y12, rfl, h⟩ := h
        exact hr.2.1 _ rfl _ _ _ _ _ _ dX12_firm_104 rfl (Nat.le_refl 0) (Nat.le_refl 0) h
      · have hz : z = 0 ∨ z = 1 ∨ z = 2 ∨ z = 3 := by omega
        rcases hz with rfl | rfl | rfl | rfl
        · refine r_tableIn g 64 dX12_firm_33 (by rw [c9]; decide) (by rw [c9]; decide) (off := 31) (by rw [c9]; decide) (by decide) ?_
          replace h := h.2.1 c9
          refine r_aload_n g dX12_firm_64 rfl ?_
          refine r_iload_n g dX12_firm_65 rfl ?_
          obtain ⟨hs_a0___, h⟩ := h
          obtain ⟨d1, Z1, hc1, hd1, h1⟩ := h
          refine r_callV (st := []) (As := [.int x1]) g sX12_280 iX12_landOf eX12_landOf rfl hs_a0___ rfl (Nat.le_of_ble_eq_true rfl) dX12_firm_66 hd1 (Nat.le_refl 0) (Nat.le_refl 0) hc1 (fun r13 μ14 hZ1 => ?_)
          replace h := h1 _ _ hZ1
          clear h1 hc1 hd1 hZ1 Z1 d1
          obtain ⟨y15, rfl, h⟩ := h
          exact hr.2.1 _ rfl _ _ _ _ _ _ dX12_firm_69 rfl (Nat.le_refl 0) (Nat.le_refl 0) h
        · refine r_tableIn g 70 dX12_firm_33 (by rw [c9]; decide) (by rw [c9]; decide) (off := 37) (by rw [c9]; decide) (by decide) ?_
          replace h := h.2.2.1 c9
          refine r_aload_n g dX12_firm_70 rfl ?_
          obtain ⟨hs_a0____, h⟩ := h
          obtain ⟨now_16, hr_now_16, h⟩ := h
          refine r_getR g fX12_57 rfl hs_a0____ hr_now_16 dX12_firm_71 ?_
          refine r_bipush g 8 dX12_firm_74 (by decide) ?_
          refine r_iload_n g dX12_firm_76 rfl ?_
          refine r_iadd g dX12_firm_77 ?_
          obtain ⟨N17, hs_now_16, h⟩ := h
          obtain ⟨hi18, h⟩ := h
          refine r_iaload g hs_now_16 hi18 dX12_firm_78 ?_
          exact hr.2.1 _ rfl _ _ _ _ _ _ dX12_firm_79 rfl (Nat.le_refl 0) (Nat.le_refl 0) h
        · refine r_tableIn g 80 dX12_firm_33 (by rw [c9]; decide) (by rw [c9]; decide) (off := 47) (by rw [c9]; decide) (by decide) ?_
          replace h := h.2.2.2.1 c9
          refine r_aload_n g dX12_firm_80 rfl ?_
          obtain ⟨hs_a0_____, h⟩ := h
          obtain ⟨now_19, hr_now_19, h⟩ := h
          refine r_getR g fX12_57 rfl hs_a0_____ hr_now_19 dX12_firm_81 ?_
          refine r_iconst g 0 dX12_firm_84 (by decide) ?_
          refine r_iload_n g dX12_firm_85 rfl ?_
          refine r_iadd g dX12_firm_86 ?_
          obtain ⟨N20, hs_now_19, h⟩ := h
          obtain ⟨hi21, h⟩ := h
          refine r_iaload g hs_now_19 hi21 dX12_firm_87 ?_
          exact hr.2.1 _ rfl _ _ _ _ _ _ dX12_firm_88 rfl (Nat.le_refl 0) (Nat.le_refl 0) h
        · refine r_tableIn g 89 dX12_firm_33 (by rw [c9]; decide) (by rw [c9]; decide) (off := 56) (by rw [c9]; decide) (by decide) ?_
          replace h := h.2.2.2.2 c9
          refine r_aload_n g dX12_firm_89 rfl ?_
          obtain ⟨hs_a0______, h⟩ := h
          obtain ⟨now_22, hr_now_22, h⟩ := h
          refine r_getR g fX12_57 rfl hs_a0______ hr_now_22 dX12_firm_90 ?_
          refine r_bipush g 16 dX12_firm_93 (by decide) ?_
          refine r_iload_n g dX12_firm_95 rfl ?_
          refine r_iadd g dX12_firm_96 ?_
          obtain ⟨N23, hs_now_22, h⟩ := h
          obtain ⟨hi24, h⟩ := h
          refine r_iaload g hs_now_22 hi24 dX12_firm_97 ?_
          exact hr.2.1 _ rfl _ _ _ _ _ _ dX12_firm_98 rfl (Nat.le_refl 0) (Nat.le_refl 0) h
    · replace h := h.2 c8
      refine r_aload_n g dX12_firm_25 rfl ?_
      refine r_iconst g 1 dX12_firm_26 (by decide) ?_
      obtain ⟨hs_a0_______, h⟩ := h
      refine r_putI g fX12_106 rfl hs_a0_______ rfl rfl dX12_firm_27 ?_
      refine r_iconst g 0 dX12_firm_30 (by decide) ?_
      exact hr.2.1 _ rfl _ _ _ _ _ _ dX12_firm_31 rfl (Nat.le_refl 0) (Nat.le_refl 0) h
theorem I_X12_firm {d : Nat} {ro : Nat → Nat} {Z : Option Value → Hp → Prop} {μ : Hp} {a0 : Nat} {x1 : Int32} {x2 : Int32} (h : ∀ J, xCtx RX12 cX12_firm 3 d 0 0 yX12_firm.name ro J → xRet cX12_firm (some .int) 0 0 Z J → J μ 0 0 0 [(0, .ref a0), (1, .int x1), (2, .int x2)] []) : xC d yX12_firm cX12_firm 3 (some .int) 0 0 [.ref a0, .int x1, .int x2] μ ro Z :=
  xC_intro (own := RX12) (lv := [(0, .ref a0), (1, .int x1), (2, .int x2)]) (by decide) rfl (Nat.le_of_ble_eq_true rfl) rfl (fun J g hr => r_sub g (lv' := [(0, .ref a0), (1, .int x1), (2, .int x2)]) (⟨rfl, rfl, rfl, trivial⟩) (h J g hr))
theorem dX12_lettersOf_0 : decode cX12_lettersOf 0 = .ok (.iconst 0, 1) := by decide +kernel
theorem dX12_lettersOf_1 : decode cX12_lettersOf 1 = .ok (.istore_n 2, 1) := by decide +kernel
theorem dX12_lettersOf_2 : decode cX12_lettersOf 2 = .ok (.iload_n 2, 1) := by decide +kernel
theorem dX12_lettersOf_3 : decode cX12_lettersOf 3 = .ok (.bipush 8, 2) := by decide +kernel
theorem dX12_lettersOf_5 : decode cX12_lettersOf 5 = .ok (.if_icmp .ge 19, 3) := by decide +kernel
theorem dX12_lettersOf_8 : decode cX12_lettersOf 8 = .ok (.lload_n 0, 1) := by decide +kernel
theorem dX12_lettersOf_9 : decode cX12_lettersOf 9 = .ok (.iconst 5, 1) := by decide +kernel
theorem dX12_lettersOf_10 : decode cX12_lettersOf 10 = .ok (.iload_n 2, 1) := by decide +kernel
theorem dX12_lettersOf_11 : decode cX12_lettersOf 11 = .ok (.imul, 1) := by decide +kernel
theorem dX12_lettersOf_12 : decode cX12_lettersOf 12 = .ok (.lshr, 1) := by decide +kernel
theorem dX12_lettersOf_13 : decode cX12_lettersOf 13 = .ok (.lconst 0, 1) := by decide +kernel
theorem dX12_lettersOf_14 : decode cX12_lettersOf 14 = .ok (.lcmp, 1) := by decide +kernel
theorem dX12_lettersOf_15 : decode cX12_lettersOf 15 = .ok (.ifCond .eq 9, 3) := by decide +kernel
theorem dX12_lettersOf_18 : decode cX12_lettersOf 18 = .ok (.iinc 2 1, 3) := by decide +kernel
theorem dX12_lettersOf_21 : decode cX12_lettersOf 21 = .ok (.goto (-19), 3) := by decide +kernel
theorem dX12_lettersOf_24 : decode cX12_lettersOf 24 = .ok (.iload_n 2, 1) := by decide +kernel
theorem dX12_lettersOf_25 : decode cX12_lettersOf 25 = .ok (.ireturn, 1) := by decide +kernel
set_option maxHeartbeats 4000000 in
set_option maxRecDepth 100000 in
theorem B_X12_lettersOf_0 {d : Nat} {ro : Nat → Nat} {J : JT} {Z : Option Value → Hp → Prop} (g : xCtx RX12 cX12_lettersOf 3 d 0 0 yX12_lettersOf.name ro J) (hr : xRet cX12_lettersOf (some .int) 0 0 Z J) {μ : Hp} {x0 : Int64} 
    (h : J μ 0 0 2 [(0, .long x0), (2, .int 0)] []) :
    J μ 0 0 0 [(0, .long x0)] [] := by
  refine r_iconst g 0 dX12_lettersOf_0 (by decide) ?_
  refine r_istore_n g [(2, .int 0), (0, .long x0)] dX12_lettersOf_1 (by decide) rfl ?_
  refine r_sub g (lv' := [(0, .long x0), (2, .int 0)]) (⟨rfl, rfl, trivial⟩) ?_
  exact h
set_option maxHeartbeats 4000000 in
set_option maxRecDepth 100000 in
theorem B_X12_lettersOf_2 {d : Nat} {ro : Nat → Nat} {J : JT} {Z : Option Value → Hp → Prop} (g : xCtx RX12 cX12_lettersOf 3 d 0 0 yX12_lettersOf.name ro J) (hr : xRet cX12_lettersOf (some .int) 0 0 Z J) {μ : Hp} {x0 : Int64} {x2 : Int32} 
    (h : ((8 ≤ x2 → Z (some (.int x2)) μ) ∧ (¬ 8 ≤ x2 → (((lg_cmp (x0 >>> ((5 * x2).toInt64 &&& 63)) 0) = 0 → Z (some (.int x2)) μ) ∧ (¬ (lg_cmp (x0 >>> ((5 * x2).toInt64 &&& 63)) 0) = 0 → J μ 0 0 2 [(0, .long x0), (2, .int (x2 + 1))] []))))) :
    J μ 0 0 2 [(0, .long x0), (2, .int x2)] [] := by
  refine r_iload_n g dX12_lettersOf_2 rfl ?_
  refine r_bipush g 8 dX12_lettersOf_3 (by decide) ?_
  refine r_icmp_ge g 24 dX12_lettersOf_5 (by decide) (fun c1 => ?_) (fun c1 => ?_)
  · replace h := h.1 c1
    refine r_iload_n g dX12_lettersOf_24 rfl ?_
    exact hr.2.1 _ rfl _ _ _ _ _ _ dX12_lettersOf_25 rfl (Nat.le_refl 0) (Nat.le_refl 0) h
  · replace h := h.2 c1
    refine r_lload_n g dX12_lettersOf_8 rfl ?_
    refine r_iconst g 5 dX12_lettersOf_9 (by decide) ?_
    refine r_iload_n g dX12_lettersOf_10 rfl ?_
    refine r_imul g dX12_lettersOf_11 ?_
    refine r_lshr g dX12_lettersOf_12 ?_
    refine r_lconst g 0 dX12_lettersOf_13 (by decide) ?_
    refine r_lcmp g dX12_lettersOf_14 ?_
    refine r_if_eq g 24 dX12_lettersOf_15 (by decide) (fun c2 => ?_) (fun c2 => ?_)
    · replace h := h.1 c2
      refine r_iload_n g dX12_lettersOf_24 rfl ?_
      exact hr.2.1 _ rfl _ _ _ _ _ _ dX12_lettersOf_25 rfl (Nat.le_refl 0) (Nat.le_refl 0) h
    · replace h := h.2 c2
      refine r_iinc g (x2 + 1) [(2, .int (x2 + 1)), (0, .long x0)] dX12_lettersOf_18 rfl rfl (by decide) rfl ?_
      refine r_goto g 2 dX12_lettersOf_21 (by decide) ?_
      refine r_sub g (lv' := [(0, .long x0), (2, .int (x2 + 1))]) (⟨rfl, rfl, trivial⟩) ?_
      exact h
theorem I_X12_lettersOf {d : Nat} {ro : Nat → Nat} {Z : Option Value → Hp → Prop} {μ : Hp} {x0 : Int64} (h : ∀ J, xCtx RX12 cX12_lettersOf 3 d 0 0 yX12_lettersOf.name ro J → xRet cX12_lettersOf (some .int) 0 0 Z J → J μ 0 0 0 [(0, .long x0)] []) : xC d yX12_lettersOf cX12_lettersOf 3 (some .int) 0 0 [.long x0] μ ro Z :=
  xC_intro (own := RX12) (lv := [(0, .long x0)]) (by decide) rfl (Nat.le_of_ble_eq_true rfl) rfl (fun J g hr => r_sub g (lv' := [(0, .long x0)]) (⟨rfl, trivial⟩) (h J g hr))
theorem dX12_letterOf_0 : decode cX12_letterOf 0 = .ok (.bipush 96, 2) := by decide +kernel
theorem dX12_letterOf_2 : decode cX12_letterOf 2 = .ok (.lload_n 0, 1) := by decide +kernel
theorem dX12_letterOf_3 : decode cX12_letterOf 3 = .ok (.iconst 5, 1) := by decide +kernel
theorem dX12_letterOf_4 : decode cX12_letterOf 4 = .ok (.lload_n 0, 1) := by decide +kernel
theorem dX12_letterOf_5 : decode cX12_letterOf 5 = .ok (.invokestatic 457, 3) := by decide +kernel
theorem dX12_letterOf_8 : decode cX12_letterOf 8 = .ok (.iconst 1, 1) := by decide +kernel
theorem dX12_letterOf_9 : decode cX12_letterOf 9 = .ok (.isub, 1) := by decide +kernel
theorem dX12_letterOf_10 : decode cX12_letterOf 10 = .ok (.iload_n 2, 1) := by decide +kernel
theorem dX12_letterOf_11 : decode cX12_letterOf 11 = .ok (.isub, 1) := by decide +kernel
theorem dX12_letterOf_12 : decode cX12_letterOf 12 = .ok (.imul, 1) := by decide +kernel
theorem dX12_letterOf_13 : decode cX12_letterOf 13 = .ok (.lshr, 1) := by decide +kernel
theorem dX12_letterOf_14 : decode cX12_letterOf 14 = .ok (.ldc2_w 460, 3) := by decide +kernel
theorem dX12_letterOf_17 : decode cX12_letterOf 17 = .ok (.land, 1) := by decide +kernel
theorem dX12_letterOf_18 : decode cX12_letterOf 18 = .ok (.l2i, 1) := by decide +kernel
theorem dX12_letterOf_19 : decode cX12_letterOf 19 = .ok (.iadd, 1) := by decide +kernel
theorem dX12_letterOf_20 : decode cX12_letterOf 20 = .ok (.ireturn, 1) := by decide +kernel
set_option maxHeartbeats 4000000 in
set_option maxRecDepth 100000 in
theorem B_X12_letterOf_0 {d : Nat} {ro : Nat → Nat} {J : JT} {Z : Option Value → Hp → Prop} (g : xCtx RX12 cX12_letterOf 3 d 0 0 yX12_letterOf.name ro J) (hr : xRet cX12_letterOf (some .int) 0 0 Z J) {μ : Hp} {x0 : Int64} {x2 : Int32} 
    (h : xCall d yX12_lettersOf cX12_lettersOf 3 (some .int) [.long x0] μ ro (fun r1 μ2 => ∃ y3 : Int32, r1 = some (.int y3) ∧ (∀ v4 : Int32, v4 = (96 + ((x0 >>> ((5 * ((y3 - 1) - x2)).toInt64 &&& 63)) &&& 31).toInt32) → Z (some (.int v4)) μ2))) :
    J μ 0 0 0 [(0, .long x0), (2, .int x2)] [] := by
  refine r_bipush g 96 dX12_letterOf_0 (by decide) ?_
  refine r_lload_n g dX12_letterOf_2 rfl ?_
  refine r_iconst g 5 dX12_letterOf_3 (by decide) ?_
  refine r_lload_n g dX12_letterOf_4 rfl ?_
  obtain ⟨d1, Z1, hc1, hd1, h1⟩ := h
  refine r_callS (st := [.int 5, .long x0, .int 96]) (As := [.long x0]) g sX12_457 iX12_lettersOf rfl (Nat.le_of_ble_eq_true rfl) dX12_letterOf_5 hd1 (Nat.le_refl 0) (Nat.le_refl 0) hc1 (fun r1 μ2 hZ1 => ?_)
  replace h := h1 _ _ hZ1
  clear h1 hc1 hd1 hZ1 Z1 d1
  obtain ⟨y3, rfl, h⟩ := h
  refine r_iconst g 1 dX12_letterOf_8 (by decide) ?_
  refine r_isub g dX12_letterOf_9 ?_
  refine r_iload_n g dX12_letterOf_10 rfl ?_
  refine r_isub g dX12_letterOf_11 ?_
  refine r_imul g dX12_letterOf_12 ?_
  refine r_lshr g dX12_letterOf_13 ?_
  refine r_ldc2 g 31 kX12_460 dX12_letterOf_14 ?_
  refine r_land g dX12_letterOf_17 ?_
  refine r_l2i g dX12_letterOf_18 ?_
  refine r_iadd g dX12_letterOf_19 ?_
  refine r_nmI (fun v4 ev4 => ?_)
  replace h := h v4 ev4
  exact hr.2.1 _ rfl _ _ _ _ _ _ dX12_letterOf_20 rfl (Nat.le_refl 0) (Nat.le_refl 0) h
theorem I_X12_letterOf {d : Nat} {ro : Nat → Nat} {Z : Option Value → Hp → Prop} {μ : Hp} {x0 : Int64} {x2 : Int32} (h : ∀ J, xCtx RX12 cX12_letterOf 3 d 0 0 yX12_letterOf.name ro J → xRet cX12_letterOf (some .int) 0 0 Z J → J μ 0 0 0 [(0, .long x0), (2, .int x2)] []) : xC d yX12_letterOf cX12_letterOf 3 (some .int) 0 0 [.long x0, .int x2] μ ro Z :=
  xC_intro (own := RX12) (lv := [(0, .long x0), (2, .int x2)]) (by decide) rfl (Nat.le_of_ble_eq_true rfl) rfl (fun J g hr => r_sub g (lv' := [(0, .long x0), (2, .int x2)]) (⟨rfl, rfl, trivial⟩) (h J g hr))
theorem dX12_name_0 : decode cX12_name 0 = .ok (.aload_n 0, 1) := by decide +kernel
theorem dX12_name_1 : decode cX12_name 1 = .ok (.iconst 0, 1) := by decide +kernel
theorem dX12_name_2 : decode cX12_name 2 = .ok (.putfield 106, 3) := by decide +kernel
theorem dX12_name_5 : decode cX12_name 5 = .ok (.iload_n 1, 1) := by decide +kernel
theorem dX12_name_6 : decode cX12_name 6 = .ok (.i2l, 1) := by decide +kernel
theorem dX12_name_7 : decode cX12_name 7 = .ok (.lconst 0, 1) := by decide +kernel
theorem dX12_name_8 : decode cX12_name 8 = .ok (.lconst 1, 1) := by decide +kernel
theorem dX12_name_9 : decode cX12_name 9 = .ok (.invokestatic 161, 3) := by decide +kernel
theorem dX12_name_12 : decode cX12_name 12 = .ok (.ifCond .eq 26, 3) := by decide +kernel
theorem dX12_name_15 : decode cX12_name 15 = .ok (.iload_n 1, 1) := by decide +kernel
theorem dX12_name_16 : decode cX12_name 16 = .ok (.ifCond .ne 14, 3) := by decide +kernel
theorem dX12_name_19 : decode cX12_name 19 = .ok (.aload_n 0, 1) := by decide +kernel
theorem dX12_name_20 : decode cX12_name 20 = .ok (.iload_n 2, 1) := by decide +kernel
theorem dX12_name_21 : decode cX12_name 21 = .ok (.invokevirtual 449, 3) := by decide +kernel
theorem dX12_name_24 : decode cX12_name 24 = .ok (.ifCond .eq 14, 3) := by decide +kernel
theorem dX12_name_27 : decode cX12_name 27 = .ok (.goto 13, 3) := by decide +kernel
theorem dX12_name_30 : decode cX12_name 30 = .ok (.aload_n 0, 1) := by decide +kernel
theorem dX12_name_31 : decode cX12_name 31 = .ok (.iload_n 2, 1) := by decide +kernel
theorem dX12_name_32 : decode cX12_name 32 = .ok (.invokevirtual 351, 3) := by decide +kernel
theorem dX12_name_35 : decode cX12_name 35 = .ok (.ifCond .ne 5, 3) := by decide +kernel
theorem dX12_name_38 : decode cX12_name 38 = .ok (.iconst (-1), 1) := by decide +kernel
theorem dX12_name_39 : decode cX12_name 39 = .ok (.ireturn, 1) := by decide +kernel
theorem dX12_name_40 : decode cX12_name 40 = .ok (.iload_n 1, 1) := by decide +kernel
theorem dX12_name_41 : decode cX12_name 41 = .ok (.ifCond .ne 12, 3) := by decide +kernel
theorem dX12_name_44 : decode cX12_name 44 = .ok (.aload_n 0, 1) := by decide +kernel
theorem dX12_name_45 : decode cX12_name 45 = .ok (.getfield 42, 3) := by decide +kernel
theorem dX12_name_48 : decode cX12_name 48 = .ok (.iload_n 2, 1) := by decide +kernel
theorem dX12_name_49 : decode cX12_name 49 = .ok (.laload, 1) := by decide +kernel
theorem dX12_name_50 : decode cX12_name 50 = .ok (.goto 9, 3) := by decide +kernel
theorem dX12_name_53 : decode cX12_name 53 = .ok (.aload_n 0, 1) := by decide +kernel
theorem dX12_name_54 : decode cX12_name 54 = .ok (.getfield 48, 3) := by decide +kernel
theorem dX12_name_57 : decode cX12_name 57 = .ok (.iload_n 2, 1) := by decide +kernel
theorem dX12_name_58 : decode cX12_name 58 = .ok (.laload, 1) := by decide +kernel
theorem dX12_name_59 : decode cX12_name 59 = .ok (.lstore 4, 2) := by decide +kernel
theorem dX12_name_61 : decode cX12_name 61 = .ok (.iload_n 3, 1) := by decide +kernel
theorem dX12_name_62 : decode cX12_name 62 = .ok (.i2l, 1) := by decide +kernel
theorem dX12_name_63 : decode cX12_name 63 = .ok (.lconst 0, 1) := by decide +kernel
theorem dX12_name_64 : decode cX12_name 64 = .ok (.lload 4, 2) := by decide +kernel
theorem dX12_name_66 : decode cX12_name 66 = .ok (.invokestatic 457, 3) := by decide +kernel
theorem dX12_name_69 : decode cX12_name 69 = .ok (.iconst 1, 1) := by decide +kernel
theorem dX12_name_70 : decode cX12_name 70 = .ok (.isub, 1) := by decide +kernel
theorem dX12_name_71 : decode cX12_name 71 = .ok (.i2l, 1) := by decide +kernel
theorem dX12_name_72 : decode cX12_name 72 = .ok (.invokestatic 161, 3) := by decide +kernel
theorem dX12_name_75 : decode cX12_name 75 = .ok (.ifCond .eq 12, 3) := by decide +kernel
theorem dX12_name_78 : decode cX12_name 78 = .ok (.lload 4, 2) := by decide +kernel
theorem dX12_name_80 : decode cX12_name 80 = .ok (.iload_n 3, 1) := by decide +kernel
theorem dX12_name_81 : decode cX12_name 81 = .ok (.invokestatic 462, 3) := by decide +kernel
theorem dX12_name_84 : decode cX12_name 84 = .ok (.goto 4, 3) := by decide +kernel
theorem dX12_name_87 : decode cX12_name 87 = .ok (.iconst (-1), 1) := by decide +kernel
theorem dX12_name_88 : decode cX12_name 88 = .ok (.ireturn, 1) := by decide +kernel
set_option maxHeartbeats 4000000 in
set_option maxRecDepth 100000 in
theorem B_X12_name_0 {d : Nat} {ro : Nat → Nat} {J : JT} {Z : Option Value → Hp → Prop} (g : xCtx RX12 cX12_name 6 d 0 0 yX12_name.name ro J) (hr : xRet cX12_name (some .int) 0 0 Z J) {μ : Hp} {a0 : Nat} {x1 : Int32} {x2 : Int32} {x3 : Int32} (hs_a0 : hS μ a0 = some (15, 65))
    (h : xCall d yX12_isIn cX12_isIn 6 (some .boolean) [.long x1.toInt64, .long 0, .long 1] (wI μ a0 0 0) ro (fun r1 μ2 => ∃ y3 : Int32, r1 = some (.int y3) ∧ ((y3 = 0 → Z (some (.int (-1))) μ2) ∧ (¬ y3 = 0 → ((¬ x1 = 0 → hS μ2 a0 = some (15, 65) ∧ xCall d yX12_isFirm cX12_isFirm 2 (some .boolean) [.ref a0, .int x2] μ2 ro (fun r6 μ7 => ∃ y8 : Int32, r6 = some (.int y8) ∧ ((¬ y8 = 0 → J μ7 0 0 40 [(0, .ref a0), (1, .int x1), (2, .int x2), (3, .int x3)] []) ∧ (y8 = 0 → Z (some (.int (-1))) μ7)))) ∧ (x1 = 0 → hS μ2 a0 = some (15, 65) ∧ xCall d yX12_isLand cX12_isLand 2 (some .boolean) [.ref a0, .int x2] μ2 ro (fun r10 μ11 => ∃ y12 : Int32, r10 = some (.int y12) ∧ ((y12 = 0 → Z (some (.int (-1))) μ11) ∧ (¬ y12 = 0 → J μ11 0 0 40 [(0, .ref a0), (1, .int x1), (2, .int x2), (3, .int x3)] []))))))))) :
    J μ 0 0 0 [(0, .ref a0), (1, .int x1), (2, .int x2), (3, .int x3)] [] := by
  refine r_aload_n g dX12_name_0 rfl ?_
  refine r_iconst g 0 dX12_name_1 (by decide) ?_
  refine r_putI g fX12_106 rfl hs_a0 rfl rfl dX12_name_2 ?_
  refine r_iload_n g dX12_name_5 rfl ?_
  refine r_i2l g dX12_name_6 ?_
  refine r_lconst g 0 dX12_name_7 (by decide) ?_
  refine r_lconst g 1 dX12_name_8 (by decide) ?_
  obtain ⟨d1, Z1, hc1, hd1, h1⟩ := h
  refine r_callS (st := []) (As := [.long x1.toInt64, .long 0, .long 1]) g sX12_161 iX12_isIn rfl (Nat.le_of_ble_eq_true rfl) dX12_name_9 hd1 (Nat.le_refl 0) (Nat.le_refl 0) hc1 (fun r1 μ2 hZ1 => ?_)
  replace h := h1 _ _ hZ1
  clear h1 hc1 hd1 hZ1 Z1 d1
  obtain ⟨y3, rfl, h⟩ := h
  refine r_if_eq g 38 dX12_name_12 (by decide) (fun c4 => ?_) (fun c4 => ?_)
  · replace h := h.1 c4
    refine r_iconst g (-1) dX12_name_38 (by decide) ?_
    exact hr.2.1 _ rfl _ _ _ _ _ _ dX12_name_39 rfl (Nat.le_refl 0) (Nat.le_refl 0) h
  · replace h := h.2 c4
    refine r_iload_n g dX12_name_15 rfl ?_
    refine r_if_ne g 30 dX12_name_16 (by decide) (fun c5 => ?_) (fun c5 => ?_)
    · replace h := h.1 c5
      refine r_aload_n g dX12_name_30 rfl ?_
      refine r_iload_n g dX12_name_31 rfl ?_
      obtain ⟨hs_a0_, h⟩ := h
      obtain ⟨d1, Z1, hc1, hd1, h1⟩ := h
      refine r_callV (st := []) (As := [.int x2]) g sX12_351 iX12_isFirm eX12_isFirm rfl hs_a0_ rfl (Nat.le_of_ble_eq_true rfl) dX12_name_32 hd1 (Nat.le_refl 0) (Nat.le_refl 0) hc1 (fun r6 μ7 hZ1 => ?_)
      replace h := h1 _ _ hZ1
      clear h1 hc1 hd1 hZ1 Z1 d1
      obtain ⟨y8, rfl, h⟩ := h
      refine r_if_ne g 40 dX12_name_35 (by decide) (fun c9 => ?_) (fun c9 => ?_)
      · replace h := h.1 c9
        refine r_sub g (lv' := [(0, .ref a0), (1, .int x1), (2, .int x2), (3, .int x3)]) (⟨rfl, rfl, rfl, rfl, trivial⟩) ?_
        exact h
      · replace h := h.2 c9
        refine r_iconst g (-1) dX12_name_38 (by decide) ?_
        exact hr.2.1 _ rfl _ _ _ _ _ _ dX12_name_39 rfl (Nat.le_refl 0) (Nat.le_refl 0) h
    · replace h := h.2 c5
      refine r_aload_n g dX12_name_19 rfl ?_
      refine r_iload_n g dX12_name_20 rfl ?_
      obtain ⟨hs_a0__, h⟩ := h
      obtain ⟨d1, Z1, hc1, hd1, h1⟩ := h
      refine r_callV (st := []) (As := [.int x2]) g sX12_449 iX12_isLand eX12_isLand rfl hs_a0__ rfl (Nat.le_of_ble_eq_true rfl) dX12_name_21 hd1 (Nat.le_refl 0) (Nat.le_refl 0) hc1 (fun r10 μ11 hZ1 => ?_)
      replace h := h1 _ _ hZ1
      clear h1 hc1 hd1 hZ1 Z1 d1
      obtain ⟨y12, rfl, h⟩ := h
      refine r_if_eq g 38 dX12_name_24 (by decide) (fun c13 => ?_) (fun c13 => ?_)
      · replace h := h.1 c13
        refine r_iconst g (-1) dX12_name_38 (by decide) ?_
        exact hr.2.1 _ rfl _ _ _ _ _ _ dX12_name_39 rfl (Nat.le_refl 0) (Nat.le_refl 0) h
      · replace h := h.2 c13
        refine r_goto g 40 dX12_name_27 (by decide) ?_
        refine r_sub g (lv' := [(0, .ref a0), (1, .int x1), (2, .int x2), (3, .int x3)]) (⟨rfl, rfl, rfl, rfl, trivial⟩) ?_
        exact h
set_option maxHeartbeats 4000000 in
set_option maxRecDepth 100000 in
theorem B_X12_name_40 {d : Nat} {ro : Nat → Nat} {J : JT} {Z : Option Value → Hp → Prop} (g : xCtx RX12 cX12_name 6 d 0 0 yX12_name.name ro J) (hr : xRet cX12_name (some .int) 0 0 Z J) {μ : Hp} {a0 : Nat} {x1 : Int32} {x2 : Int32} {x3 : Int32} {a0_firmName : Nat} {N_a0_firmName : Nat} {a0_landName : Nat} {N_a0_landName : Nat} (hs_a0 : hS μ a0 = some (15, 65)) (hr_a0_firmName : hR μ a0 18 = some a0_firmName) (hs_a0_firmName : hS μ a0_firmName = some (2, N_a0_firmName)) (hr_a0_landName : hR μ a0 16 = some a0_landName) (hs_a0_landName : hS μ a0_landName = some (2, N_a0_landName))
    (h : ((¬ x1 = 0 → vp_in x2 N_a0_firmName ∧ xCall d yX12_lettersOf cX12_lettersOf 3 (some .int) [.long (hL μ a0_firmName x2.toNatClampNeg)] μ ro (fun r3 μ4 => ∃ y5 : Int32, r3 = some (.int y5) ∧ xCall d yX12_isIn cX12_isIn 6 (some .boolean) [.long x3.toInt64, .long 0, .long (y5 - 1).toInt64] μ4 ro (fun r6 μ7 => ∃ y8 : Int32, r6 = some (.int y8) ∧ ((y8 = 0 → Z (some (.int (-1))) μ7) ∧ (¬ y8 = 0 → xCall d yX12_letterOf cX12_letterOf 3 (some .int) [.long (hL μ a0_firmName x2.toNatClampNeg), .int x3] μ7 ro (fun r10 μ11 => ∃ y12 : Int32, r10 = some (.int y12) ∧ Z (some (.int y12)) μ11)))))) ∧ (x1 = 0 → vp_in x2 N_a0_landName ∧ xCall d yX12_lettersOf cX12_lettersOf 3 (some .int) [.long (hL μ a0_landName x2.toNatClampNeg)] μ ro (fun r14 μ15 => ∃ y16 : Int32, r14 = some (.int y16) ∧ xCall d yX12_isIn cX12_isIn 6 (some .boolean) [.long x3.toInt64, .long 0, .long (y16 - 1).toInt64] μ15 ro (fun r17 μ18 => ∃ y19 : Int32, r17 = some (.int y19) ∧ ((y19 = 0 → Z (some (.int (-1))) μ18) ∧ (¬ y19 = 0 → xCall d yX12_letterOf cX12_letterOf 3 (some .int) [.long (hL μ a0_landName x2.toNatClampNeg), .int x3] μ18 ro (fun r21 μ22 => ∃ y23 : Int32, r21 = some (.int y23) ∧ Z (some (.int y23)) μ22)))))))) :
    J μ 0 0 40 [(0, .ref a0), (1, .int x1), (2, .int x2), (3, .int x3)] [] := by
  refine r_iload_n g dX12_name_40 rfl ?_
  refine r_if_ne g 53 dX12_name_41 (by decide) (fun c1 => ?_) (fun c1 => ?_)
  · replace h := h.1 c1
    refine r_aload_n g dX12_name_53 rfl ?_
    refine r_getR g fX12_48 rfl hs_a0 hr_a0_firmName dX12_name_54 ?_
    refine r_iload_n g dX12_name_57 rfl ?_
    obtain ⟨hi2, h⟩ := h
    refine r_laload g hs_a0_firmName hi2 dX12_name_58 ?_
    refine r_lstore g [(4, .long (hL μ a0_firmName x2.toNatClampNeg)), (0, .ref a0), (1, .int x1), (2, .int x2), (3, .int x3)] dX12_name_59 (by decide) rfl ?_
    refine r_iload_n g dX12_name_61 rfl ?_
    refine r_i2l g dX12_name_62 ?_
    refine r_lconst g 0 dX12_name_63 (by decide) ?_
    refine r_lload g dX12_name_64 rfl ?_
    obtain ⟨d1, Z1, hc1, hd1, h1⟩ := h
    refine r_callS (st := [.long 0, .long x3.toInt64]) (As := [.long (hL μ a0_firmName x2.toNatClampNeg)]) g sX12_457 iX12_lettersOf rfl (Nat.le_of_ble_eq_true rfl) dX12_name_66 hd1 (Nat.le_refl 0) (Nat.le_refl 0) hc1 (fun r3 μ4 hZ1 => ?_)
    replace h := h1 _ _ hZ1
    clear h1 hc1 hd1 hZ1 Z1 d1
    obtain ⟨y5, rfl, h⟩ := h
    refine r_iconst g 1 dX12_name_69 (by decide) ?_
    refine r_isub g dX12_name_70 ?_
    refine r_i2l g dX12_name_71 ?_
    obtain ⟨d1, Z1, hc1, hd1, h1⟩ := h
    refine r_callS (st := []) (As := [.long x3.toInt64, .long 0, .long (y5 - 1).toInt64]) g sX12_161 iX12_isIn rfl (Nat.le_of_ble_eq_true rfl) dX12_name_72 hd1 (Nat.le_refl 0) (Nat.le_refl 0) hc1 (fun r6 μ7 hZ1 => ?_)
    replace h := h1 _ _ hZ1
    clear h1 hc1 hd1 hZ1 Z1 d1
    obtain ⟨y8, rfl, h⟩ := h
    refine r_if_eq g 87 dX12_name_75 (by decide) (fun c9 => ?_) (fun c9 => ?_)
    · replace h := h.1 c9
      refine r_iconst g (-1) dX12_name_87 (by decide) ?_
      exact hr.2.1 _ rfl _ _ _ _ _ _ dX12_name_88 rfl (Nat.le_refl 0) (Nat.le_refl 0) h
    · replace h := h.2 c9
      refine r_lload g dX12_name_78 rfl ?_
      refine r_iload_n g dX12_name_80 rfl ?_
      obtain ⟨d1, Z1, hc1, hd1, h1⟩ := h
      refine r_callS (st := []) (As := [.long (hL μ a0_firmName x2.toNatClampNeg), .int x3]) g sX12_462 iX12_letterOf rfl (Nat.le_of_ble_eq_true rfl) dX12_name_81 hd1 (Nat.le_refl 0) (Nat.le_refl 0) hc1 (fun r10 μ11 hZ1 => ?_)
      replace h := h1 _ _ hZ1
      clear h1 hc1 hd1 hZ1 Z1 d1
      obtain ⟨y12, rfl, h⟩ := h
      refine r_goto g 88 dX12_name_84 (by decide) ?_
      exact hr.2.1 _ rfl _ _ _ _ _ _ dX12_name_88 rfl (Nat.le_refl 0) (Nat.le_refl 0) h
  · replace h := h.2 c1
    refine r_aload_n g dX12_name_44 rfl ?_
    refine r_getR g fX12_42 rfl hs_a0 hr_a0_landName dX12_name_45 ?_
    refine r_iload_n g dX12_name_48 rfl ?_
    obtain ⟨hi13, h⟩ := h
    refine r_laload g hs_a0_landName hi13 dX12_name_49 ?_
    refine r_goto g 59 dX12_name_50 (by decide) ?_
    refine r_lstore g [(4, .long (hL μ a0_landName x2.toNatClampNeg)), (0, .ref a0), (1, .int x1), (2, .int x2), (3, .int x3)] dX12_name_59 (by decide) rfl ?_
    refine r_iload_n g dX12_name_61 rfl ?_
    refine r_i2l g dX12_name_62 ?_
    refine r_lconst g 0 dX12_name_63 (by decide) ?_
    refine r_lload g dX12_name_64 rfl ?_
    obtain ⟨d1, Z1, hc1, hd1, h1⟩ := h
    refine r_callS (st := [.long 0, .long x3.toInt64]) (As := [.long (hL μ a0_landName x2.toNatClampNeg)]) g sX12_457 iX12_lettersOf rfl (Nat.le_of_ble_eq_true rfl) dX12_name_66 hd1 (Nat.le_refl 0) (Nat.le_refl 0) hc1 (fun r14 μ15 hZ1 => ?_)
    replace h := h1 _ _ hZ1
    clear h1 hc1 hd1 hZ1 Z1 d1
    obtain ⟨y16, rfl, h⟩ := h
    refine r_iconst g 1 dX12_name_69 (by decide) ?_
    refine r_isub g dX12_name_70 ?_
    refine r_i2l g dX12_name_71 ?_
    obtain ⟨d1, Z1, hc1, hd1, h1⟩ := h
    refine r_callS (st := []) (As := [.long x3.toInt64, .long 0, .long (y16 - 1).toInt64]) g sX12_161 iX12_isIn rfl (Nat.le_of_ble_eq_true rfl) dX12_name_72 hd1 (Nat.le_refl 0) (Nat.le_refl 0) hc1 (fun r17 μ18 hZ1 => ?_)
    replace h := h1 _ _ hZ1
    clear h1 hc1 hd1 hZ1 Z1 d1
    obtain ⟨y19, rfl, h⟩ := h
    refine r_if_eq g 87 dX12_name_75 (by decide) (fun c20 => ?_) (fun c20 => ?_)
    · replace h := h.1 c20
      refine r_iconst g (-1) dX12_name_87 (by decide) ?_
      exact hr.2.1 _ rfl _ _ _ _ _ _ dX12_name_88 rfl (Nat.le_refl 0) (Nat.le_refl 0) h
    · replace h := h.2 c20
      refine r_lload g dX12_name_78 rfl ?_
      refine r_iload_n g dX12_name_80 rfl ?_
      obtain ⟨d1, Z1, hc1, hd1, h1⟩ := h
      refine r_callS (st := []) (As := [.long (hL μ a0_landName x2.toNatClampNeg), .int x3]) g sX12_462 iX12_letterOf rfl (Nat.le_of_ble_eq_true rfl) dX12_name_81 hd1 (Nat.le_refl 0) (Nat.le_refl 0) hc1 (fun r21 μ22 hZ1 => ?_)
      replace h := h1 _ _ hZ1
      clear h1 hc1 hd1 hZ1 Z1 d1
      obtain ⟨y23, rfl, h⟩ := h
      refine r_goto g 88 dX12_name_84 (by decide) ?_
      exact hr.2.1 _ rfl _ _ _ _ _ _ dX12_name_88 rfl (Nat.le_refl 0) (Nat.le_refl 0) h
theorem I_X12_name {d : Nat} {ro : Nat → Nat} {Z : Option Value → Hp → Prop} {μ : Hp} {a0 : Nat} {x1 : Int32} {x2 : Int32} {x3 : Int32} (h : ∀ J, xCtx RX12 cX12_name 6 d 0 0 yX12_name.name ro J → xRet cX12_name (some .int) 0 0 Z J → J μ 0 0 0 [(0, .ref a0), (1, .int x1), (2, .int x2), (3, .int x3)] []) : xC d yX12_name cX12_name 6 (some .int) 0 0 [.ref a0, .int x1, .int x2, .int x3] μ ro Z :=
  xC_intro (own := RX12) (lv := [(0, .ref a0), (1, .int x1), (2, .int x2), (3, .int x3)]) (by decide) rfl (Nat.le_of_ble_eq_true rfl) rfl (fun J g hr => r_sub g (lv' := [(0, .ref a0), (1, .int x1), (2, .int x2), (3, .int x3)]) (⟨rfl, rfl, rfl, rfl, trivial⟩) (h J g hr))
theorem dX12_link_0 : decode cX12_link 0 = .ok (.aload_n 0, 1) := by decide +kernel
theorem dX12_link_1 : decode cX12_link 1 = .ok (.iconst 0, 1) := by decide +kernel
theorem dX12_link_2 : decode cX12_link 2 = .ok (.putfield 106, 3) := by decide +kernel
theorem dX12_link_5 : decode cX12_link 5 = .ok (.iload_n 1, 1) := by decide +kernel
theorem dX12_link_6 : decode cX12_link 6 = .ok (.i2l, 1) := by decide +kernel
theorem dX12_link_7 : decode cX12_link 7 = .ok (.lconst 0, 1) := by decide +kernel
theorem dX12_link_8 : decode cX12_link 8 = .ok (.aload_n 0, 1) := by decide +kernel
theorem dX12_link_9 : decode cX12_link 9 = .ok (.getfield 57, 3) := by decide +kernel
theorem dX12_link_12 : decode cX12_link 12 = .ok (.bipush 31, 2) := by decide +kernel
theorem dX12_link_14 : decode cX12_link 14 = .ok (.iaload, 1) := by decide +kernel
theorem dX12_link_15 : decode cX12_link 15 = .ok (.iconst 1, 1) := by decide +kernel
theorem dX12_link_16 : decode cX12_link 16 = .ok (.isub, 1) := by decide +kernel
theorem dX12_link_17 : decode cX12_link 17 = .ok (.i2l, 1) := by decide +kernel
theorem dX12_link_18 : decode cX12_link 18 = .ok (.invokestatic 161, 3) := by decide +kernel
theorem dX12_link_21 : decode cX12_link 21 = .ok (.ifCond .eq 29, 3) := by decide +kernel
theorem dX12_link_24 : decode cX12_link 24 = .ok (.iload_n 2, 1) := by decide +kernel
theorem dX12_link_25 : decode cX12_link 25 = .ok (.i2l, 1) := by decide +kernel
theorem dX12_link_26 : decode cX12_link 26 = .ok (.lconst 0, 1) := by decide +kernel
theorem dX12_link_27 : decode cX12_link 27 = .ok (.ldc2_w 452, 3) := by decide +kernel
theorem dX12_link_30 : decode cX12_link 30 = .ok (.invokestatic 161, 3) := by decide +kernel
theorem dX12_link_33 : decode cX12_link 33 = .ok (.ifCond .eq 17, 3) := by decide +kernel
theorem dX12_link_36 : decode cX12_link 36 = .ok (.aload_n 0, 1) := by decide +kernel
theorem dX12_link_37 : decode cX12_link 37 = .ok (.getfield 57, 3) := by decide +kernel
theorem dX12_link_40 : decode cX12_link 40 = .ok (.iload_n 1, 1) := by decide +kernel
theorem dX12_link_41 : decode cX12_link 41 = .ok (.invokestatic 270, 3) := by decide +kernel
theorem dX12_link_44 : decode cX12_link 44 = .ok (.iload_n 2, 1) := by decide +kernel
theorem dX12_link_45 : decode cX12_link 45 = .ok (.iadd, 1) := by decide +kernel
theorem dX12_link_46 : decode cX12_link 46 = .ok (.iaload, 1) := by decide +kernel
theorem dX12_link_47 : decode cX12_link 47 = .ok (.goto 4, 3) := by decide +kernel
theorem dX12_link_50 : decode cX12_link 50 = .ok (.iconst (-1), 1) := by decide +kernel
theorem dX12_link_51 : decode cX12_link 51 = .ok (.ireturn, 1) := by decide +kernel
set_option maxHeartbeats 4000000 in
set_option maxRecDepth 100000 in
theorem B_X12_link_0 {d : Nat} {ro : Nat → Nat} {J : JT} {Z : Option Value → Hp → Prop} (g : xCtx RX12 cX12_link 3 d 0 0 yX12_link.name ro J) (hr : xRet cX12_link (some .int) 0 0 Z J) {μ : Hp} {a0 : Nat} {x1 : Int32} {x2 : Int32} {a0_now : Nat} {N_a0_now : Nat} (hs_a0 : hS μ a0 = some (15, 65)) (hr_a0_now : hR μ a0 30 = some a0_now) (hs_a0_now : hS μ a0_now = some (0, N_a0_now))
    (h : vp_in 31 N_a0_now ∧ xCall d yX12_isIn cX12_isIn 6 (some .boolean) [.long x1.toInt64, .long 0, .long ((hI (wI μ a0 0 0) a0_now 31) - 1).toInt64] (wI μ a0 0 0) ro (fun r2 μ3 => ∃ y4 : Int32, r2 = some (.int y4) ∧ ((y4 = 0 → Z (some (.int (-1))) μ3) ∧ (¬ y4 = 0 → xCall d yX12_isIn cX12_isIn 6 (some .boolean) [.long x2.toInt64, .long 0, .long 4] μ3 ro (fun r6 μ7 => ∃ y8 : Int32, r6 = some (.int y8) ∧ ((y8 = 0 → Z (some (.int (-1))) μ7) ∧ (¬ y8 = 0 → hS μ7 a0 = some (15, 65) ∧ ∃ now_10 : Nat, hR μ7 a0 30 = some now_10 ∧ xCall d yX12_linkRow cX12_linkRow 1 (some .int) [.int x1] μ7 ro (fun r11 μ12 => ∃ y13 : Int32, r11 = some (.int y13) ∧ ∃ N14 : Nat, hS μ12 now_10 = some (0, N14) ∧ vp_in (y13 + x2) N14 ∧ Z (some (.int (hI μ12 now_10 ((y13 + x2).toNatClampNeg)))) μ12)))))))) :
    J μ 0 0 0 [(0, .ref a0), (1, .int x1), (2, .int x2)] [] := by
  refine r_aload_n g dX12_link_0 rfl ?_
  refine r_iconst g 0 dX12_link_1 (by decide) ?_
  refine r_putI g fX12_106 rfl hs_a0 rfl rfl dX12_link_2 ?_
  refine r_iload_n g dX12_link_5 rfl ?_
  refine r_i2l g dX12_link_6 ?_
  refine r_lconst g 0 dX12_link_7 (by decide) ?_
  refine r_aload_n g dX12_link_8 rfl ?_
  refine r_getR g fX12_57 rfl hs_a0 hr_a0_now dX12_link_9 ?_
  refine r_bipush g 31 dX12_link_12 (by decide) ?_
  obtain ⟨hi1, h⟩ := h
  refine r_iaload g hs_a0_now hi1 dX12_link_14 ?_
  refine r_iconst g 1 dX12_link_15 (by decide) ?_
  refine r_isub g dX12_link_16 ?_
  refine r_i2l g dX12_link_17 ?_
  obtain ⟨d1, Z1, hc1, hd1, h1⟩ := h
  refine r_callS (st := []) (As := [.long x1.toInt64, .long 0, .long ((hI (wI μ a0 0 0) a0_now 31) - 1).toInt64]) g sX12_161 iX12_isIn rfl (Nat.le_of_ble_eq_true rfl) dX12_link_18 hd1 (Nat.le_refl 0) (Nat.le_refl 0) hc1 (fun r2 μ3 hZ1 => ?_)
  replace h := h1 _ _ hZ1
  clear h1 hc1 hd1 hZ1 Z1 d1
  obtain ⟨y4, rfl, h⟩ := h
  refine r_if_eq g 50 dX12_link_21 (by decide) (fun c5 => ?_) (fun c5 => ?_)
  · replace h := h.1 c5
    refine r_iconst g (-1) dX12_link_50 (by decide) ?_
    exact hr.2.1 _ rfl _ _ _ _ _ _ dX12_link_51 rfl (Nat.le_refl 0) (Nat.le_refl 0) h
  · replace h := h.2 c5
    refine r_iload_n g dX12_link_24 rfl ?_
    refine r_i2l g dX12_link_25 ?_
    refine r_lconst g 0 dX12_link_26 (by decide) ?_
    refine r_ldc2 g 4 kX12_452 dX12_link_27 ?_
    obtain ⟨d1, Z1, hc1, hd1, h1⟩ := h
    refine r_callS (st := []) (As := [.long x2.toInt64, .long 0, .long 4]) g sX12_161 iX12_isIn rfl (Nat.le_of_ble_eq_true rfl) dX12_link_30 hd1 (Nat.le_refl 0) (Nat.le_refl 0) hc1 (fun r6 μ7 hZ1 => ?_)
    replace h := h1 _ _ hZ1
    clear h1 hc1 hd1 hZ1 Z1 d1
    obtain ⟨y8, rfl, h⟩ := h
    refine r_if_eq g 50 dX12_link_33 (by decide) (fun c9 => ?_) (fun c9 => ?_)
    · replace h := h.1 c9
      refine r_iconst g (-1) dX12_link_50 (by decide) ?_
      exact hr.2.1 _ rfl _ _ _ _ _ _ dX12_link_51 rfl (Nat.le_refl 0) (Nat.le_refl 0) h
    · replace h := h.2 c9
      refine r_aload_n g dX12_link_36 rfl ?_
      obtain ⟨hs_a0_, h⟩ := h
      obtain ⟨now_10, hr_now_10, h⟩ := h
      refine r_getR g fX12_57 rfl hs_a0_ hr_now_10 dX12_link_37 ?_
      refine r_iload_n g dX12_link_40 rfl ?_
      obtain ⟨d1, Z1, hc1, hd1, h1⟩ := h
      refine r_callS (st := [.ref now_10]) (As := [.int x1]) g sX12_270 iX12_linkRow rfl (Nat.le_of_ble_eq_true rfl) dX12_link_41 hd1 (Nat.le_refl 0) (Nat.le_refl 0) hc1 (fun r11 μ12 hZ1 => ?_)
      replace h := h1 _ _ hZ1
      clear h1 hc1 hd1 hZ1 Z1 d1
      obtain ⟨y13, rfl, h⟩ := h
      refine r_iload_n g dX12_link_44 rfl ?_
      refine r_iadd g dX12_link_45 ?_
      obtain ⟨N14, hs_now_10, h⟩ := h
      obtain ⟨hi15, h⟩ := h
      refine r_iaload g hs_now_10 hi15 dX12_link_46 ?_
      refine r_goto g 51 dX12_link_47 (by decide) ?_
      exact hr.2.1 _ rfl _ _ _ _ _ _ dX12_link_51 rfl (Nat.le_refl 0) (Nat.le_refl 0) h
theorem I_X12_link {d : Nat} {ro : Nat → Nat} {Z : Option Value → Hp → Prop} {μ : Hp} {a0 : Nat} {x1 : Int32} {x2 : Int32} (h : ∀ J, xCtx RX12 cX12_link 3 d 0 0 yX12_link.name ro J → xRet cX12_link (some .int) 0 0 Z J → J μ 0 0 0 [(0, .ref a0), (1, .int x1), (2, .int x2)] []) : xC d yX12_link cX12_link 3 (some .int) 0 0 [.ref a0, .int x1, .int x2] μ ro Z :=
  xC_intro (own := RX12) (lv := [(0, .ref a0), (1, .int x1), (2, .int x2)]) (by decide) rfl (Nat.le_of_ble_eq_true rfl) rfl (fun J g hr => r_sub g (lv' := [(0, .ref a0), (1, .int x1), (2, .int x2)]) (⟨rfl, rfl, rfl, trivial⟩) (h J g hr))
theorem dX12_treaty_0 : decode cX12_treaty 0 = .ok (.aload_n 0, 1) := by decide +kernel
theorem dX12_treaty_1 : decode cX12_treaty 1 = .ok (.iconst 0, 1) := by decide +kernel
theorem dX12_treaty_2 : decode cX12_treaty 2 = .ok (.putfield 106, 3) := by decide +kernel
theorem dX12_treaty_5 : decode cX12_treaty 5 = .ok (.aload_n 0, 1) := by decide +kernel
theorem dX12_treaty_6 : decode cX12_treaty 6 = .ok (.iload_n 1, 1) := by decide +kernel
theorem dX12_treaty_7 : decode cX12_treaty 7 = .ok (.invokevirtual 449, 3) := by decide +kernel
theorem dX12_treaty_10 : decode cX12_treaty 10 = .ok (.ifCond .eq 36, 3) := by decide +kernel
theorem dX12_treaty_13 : decode cX12_treaty 13 = .ok (.aload_n 0, 1) := by decide +kernel
theorem dX12_treaty_14 : decode cX12_treaty 14 = .ok (.iload_n 2, 1) := by decide +kernel
theorem dX12_treaty_15 : decode cX12_treaty 15 = .ok (.invokevirtual 449, 3) := by decide +kernel
theorem dX12_treaty_18 : decode cX12_treaty 18 = .ok (.ifCond .eq 28, 3) := by decide +kernel
theorem dX12_treaty_21 : decode cX12_treaty 21 = .ok (.iload_n 3, 1) := by decide +kernel
theorem dX12_treaty_22 : decode cX12_treaty 22 = .ok (.i2l, 1) := by decide +kernel
theorem dX12_treaty_23 : decode cX12_treaty 23 = .ok (.lconst 0, 1) := by decide +kernel
theorem dX12_treaty_24 : decode cX12_treaty 24 = .ok (.ldc2_w 466, 3) := by decide +kernel
theorem dX12_treaty_27 : decode cX12_treaty 27 = .ok (.invokestatic 161, 3) := by decide +kernel
theorem dX12_treaty_30 : decode cX12_treaty 30 = .ok (.ifCond .eq 16, 3) := by decide +kernel
theorem dX12_treaty_33 : decode cX12_treaty 33 = .ok (.iload 4, 2) := by decide +kernel
theorem dX12_treaty_35 : decode cX12_treaty 35 = .ok (.i2l, 1) := by decide +kernel
theorem dX12_treaty_36 : decode cX12_treaty 36 = .ok (.lconst 0, 1) := by decide +kernel
theorem dX12_treaty_37 : decode cX12_treaty 37 = .ok (.ldc2_w 468, 3) := by decide +kernel
theorem dX12_treaty_40 : decode cX12_treaty 40 = .ok (.invokestatic 161, 3) := by decide +kernel
theorem dX12_treaty_43 : decode cX12_treaty 43 = .ok (.ifCond .ne 5, 3) := by decide +kernel
theorem dX12_treaty_46 : decode cX12_treaty 46 = .ok (.iconst (-1), 1) := by decide +kernel
theorem dX12_treaty_47 : decode cX12_treaty 47 = .ok (.ireturn, 1) := by decide +kernel
theorem dX12_treaty_48 : decode cX12_treaty 48 = .ok (.aload_n 0, 1) := by decide +kernel
theorem dX12_treaty_49 : decode cX12_treaty 49 = .ok (.iload_n 1, 1) := by decide +kernel
theorem dX12_treaty_50 : decode cX12_treaty 50 = .ok (.iload_n 2, 1) := by decide +kernel
theorem dX12_treaty_51 : decode cX12_treaty 51 = .ok (.iload_n 3, 1) := by decide +kernel
theorem dX12_treaty_52 : decode cX12_treaty 52 = .ok (.invokevirtual 283, 3) := by decide +kernel
theorem dX12_treaty_55 : decode cX12_treaty 55 = .ok (.istore 5, 2) := by decide +kernel
theorem dX12_treaty_57 : decode cX12_treaty 57 = .ok (.iload 5, 2) := by decide +kernel
theorem dX12_treaty_59 : decode cX12_treaty 59 = .ok (.iconst (-1), 1) := by decide +kernel
theorem dX12_treaty_60 : decode cX12_treaty 60 = .ok (.if_icmp .ne 7, 3) := by decide +kernel
theorem dX12_treaty_63 : decode cX12_treaty 63 = .ok (.iconst (-1), 1) := by decide +kernel
theorem dX12_treaty_64 : decode cX12_treaty 64 = .ok (.goto 15, 3) := by decide +kernel
theorem dX12_treaty_67 : decode cX12_treaty 67 = .ok (.aload_n 0, 1) := by decide +kernel
theorem dX12_treaty_68 : decode cX12_treaty 68 = .ok (.getfield 29, 3) := by decide +kernel
theorem dX12_treaty_71 : decode cX12_treaty 71 = .ok (.iload 5, 2) := by decide +kernel
theorem dX12_treaty_73 : decode cX12_treaty 73 = .ok (.iconst 2, 1) := by decide +kernel
theorem dX12_treaty_74 : decode cX12_treaty 74 = .ok (.iadd, 1) := by decide +kernel
theorem dX12_treaty_75 : decode cX12_treaty 75 = .ok (.iload 4, 2) := by decide +kernel
theorem dX12_treaty_77 : decode cX12_treaty 77 = .ok (.iadd, 1) := by decide +kernel
theorem dX12_treaty_78 : decode cX12_treaty 78 = .ok (.iaload, 1) := by decide +kernel
theorem dX12_treaty_79 : decode cX12_treaty 79 = .ok (.ireturn, 1) := by decide +kernel
set_option maxHeartbeats 4000000 in
set_option maxRecDepth 100000 in
theorem B_X12_treaty_0 {d : Nat} {ro : Nat → Nat} {J : JT} {Z : Option Value → Hp → Prop} (g : xCtx RX12 cX12_treaty 6 d 0 0 yX12_treaty.name ro J) (hr : xRet cX12_treaty (some .int) 0 0 Z J) {μ : Hp} {a0 : Nat} {x1 : Int32} {x2 : Int32} {x3 : Int32} {x4 : Int32} (hs_a0 : hS μ a0 = some (15, 65))
    (h : xCall d yX12_isLand cX12_isLand 2 (some .boolean) [.ref a0, .int x1] (wI μ a0 0 0) ro (fun r1 μ2 => ∃ y3 : Int32, r1 = some (.int y3) ∧ ((y3 = 0 → Z (some (.int (-1))) μ2) ∧ (¬ y3 = 0 → hS μ2 a0 = some (15, 65) ∧ xCall d yX12_isLand cX12_isLand 2 (some .boolean) [.ref a0, .int x2] μ2 ro (fun r5 μ6 => ∃ y7 : Int32, r5 = some (.int y7) ∧ ((y7 = 0 → Z (some (.int (-1))) μ6) ∧ (¬ y7 = 0 → xCall d yX12_isIn cX12_isIn 6 (some .boolean) [.long x3.toInt64, .long 0, .long 199] μ6 ro (fun r9 μ10 => ∃ y11 : Int32, r9 = some (.int y11) ∧ ((y11 = 0 → Z (some (.int (-1))) μ10) ∧ (¬ y11 = 0 → xCall d yX12_isIn cX12_isIn 6 (some .boolean) [.long x4.toInt64, .long 0, .long 7] μ10 ro (fun r13 μ14 => ∃ y15 : Int32, r13 = some (.int y15) ∧ ((¬ y15 = 0 → hS μ14 a0 = some (15, 65) ∧ xCall d yX12_treatyOf cX12_treatyOf 8 (some .int) [.ref a0, .int x1, .int x2, .int x3] μ14 ro (fun r17 μ18 => ∃ y19 : Int32, r17 = some (.int y19) ∧ ((¬ y19 = (-1) → hS μ18 a0 = some (15, 65) ∧ ∃ treaty_21 : Nat, hR μ18 a0 12 = some treaty_21 ∧ ∃ N22 : Nat, hS μ18 treaty_21 = some (0, N22) ∧ vp_in ((y19 + 2) + x4) N22 ∧ Z (some (.int (hI μ18 treaty_21 (((y19 + 2) + x4).toNatClampNeg)))) μ18) ∧ (y19 = (-1) → Z (some (.int (-1))) μ18)))) ∧ (y15 = 0 → Z (some (.int (-1))) μ14))))))))))))) :
    J μ 0 0 0 [(0, .ref a0), (1, .int x1), (2, .int x2), (3, .int x3), (4, .int x4)] [] := by
  refine r_aload_n g dX12_treaty_0 rfl ?_
  refine r_iconst g 0 dX12_treaty_1 (by decide) ?_
  refine r_putI g fX12_106 rfl hs_a0 rfl rfl dX12_treaty_2 ?_
  refine r_aload_n g dX12_treaty_5 rfl ?_
  refine r_iload_n g dX12_treaty_6 rfl ?_
  obtain ⟨d1, Z1, hc1, hd1, h1⟩ := h
  refine r_callV (st := []) (As := [.int x1]) g sX12_449 iX12_isLand eX12_isLand rfl hs_a0 rfl (Nat.le_of_ble_eq_true rfl) dX12_treaty_7 hd1 (Nat.le_refl 0) (Nat.le_refl 0) hc1 (fun r1 μ2 hZ1 => ?_)
  replace h := h1 _ _ hZ1
  clear h1 hc1 hd1 hZ1 Z1 d1
  obtain ⟨y3, rfl, h⟩ := h
  refine r_if_eq g 46 dX12_treaty_10 (by decide) (fun c4 => ?_) (fun c4 => ?_)
  · replace h := h.1 c4
    refine r_iconst g (-1) dX12_treaty_46 (by decide) ?_
    exact hr.2.1 _ rfl _ _ _ _ _ _ dX12_treaty_47 rfl (Nat.le_refl 0) (Nat.le_refl 0) h
  · replace h := h.2 c4
    refine r_aload_n g dX12_treaty_13 rfl ?_
    refine r_iload_n g dX12_treaty_14 rfl ?_
    obtain ⟨hs_a0_, h⟩ := h
    obtain ⟨d1, Z1, hc1, hd1, h1⟩ := h
    refine r_callV (st := []) (As := [.int x2]) g sX12_449 iX12_isLand eX12_isLand rfl hs_a0_ rfl (Nat.le_of_ble_eq_true rfl) dX12_treaty_15 hd1 (Nat.le_refl 0) (Nat.le_refl 0) hc1 (fun r5 μ6 hZ1 => ?_)
    replace h := h1 _ _ hZ1
    clear h1 hc1 hd1 hZ1 Z1 d1
    obtain ⟨y7, rfl, h⟩ := h
    refine r_if_eq g 46 dX12_treaty_18 (by decide) (fun c8 => ?_) (fun c8 => ?_)
    · replace h := h.1 c8
      refine r_iconst g (-1) dX12_treaty_46 (by decide) ?_
      exact hr.2.1 _ rfl _ _ _ _ _ _ dX12_treaty_47 rfl (Nat.le_refl 0) (Nat.le_refl 0) h
    · replace h := h.2 c8
      refine r_iload_n g dX12_treaty_21 rfl ?_
      refine r_i2l g dX12_treaty_22 ?_
      refine r_lconst g 0 dX12_treaty_23 (by decide) ?_
      refine r_ldc2 g 199 kX12_466 dX12_treaty_24 ?_
      obtain ⟨d1, Z1, hc1, hd1, h1⟩ := h
      refine r_callS (st := []) (As := [.long x3.toInt64, .long 0, .long 199]) g sX12_161 iX12_isIn rfl (Nat.le_of_ble_eq_true rfl) dX12_treaty_27 hd1 (Nat.le_refl 0) (Nat.le_refl 0) hc1 (fun r9 μ10 hZ1 => ?_)
      replace h := h1 _ _ hZ1
      clear h1 hc1 hd1 hZ1 Z1 d1
      obtain ⟨y11, rfl, h⟩ := h
      refine r_if_eq g 46 dX12_treaty_30 (by decide) (fun c12 => ?_) (fun c12 => ?_)
      · replace h := h.1 c12
        refine r_iconst g (-1) dX12_treaty_46 (by decide) ?_
        exact hr.2.1 _ rfl _ _ _ _ _ _ dX12_treaty_47 rfl (Nat.le_refl 0) (Nat.le_refl 0) h
      · replace h := h.2 c12
        refine r_iload g dX12_treaty_33 rfl ?_
        refine r_i2l g dX12_treaty_35 ?_
        refine r_lconst g 0 dX12_treaty_36 (by decide) ?_
        refine r_ldc2 g 7 kX12_468 dX12_treaty_37 ?_
        obtain ⟨d1, Z1, hc1, hd1, h1⟩ := h
        refine r_callS (st := []) (As := [.long x4.toInt64, .long 0, .long 7]) g sX12_161 iX12_isIn rfl (Nat.le_of_ble_eq_true rfl) dX12_treaty_40 hd1 (Nat.le_refl 0) (Nat.le_refl 0) hc1 (fun r13 μ14 hZ1 => ?_)
        replace h := h1 _ _ hZ1
        clear h1 hc1 hd1 hZ1 Z1 d1
        obtain ⟨y15, rfl, h⟩ := h
        refine r_if_ne g 48 dX12_treaty_43 (by decide) (fun c16 => ?_) (fun c16 => ?_)
        · replace h := h.1 c16
          refine r_aload_n g dX12_treaty_48 rfl ?_
          refine r_iload_n g dX12_treaty_49 rfl ?_
          refine r_iload_n g dX12_treaty_50 rfl ?_
          refine r_iload_n g dX12_treaty_51 rfl ?_
          obtain ⟨hs_a0__, h⟩ := h
          obtain ⟨d1, Z1, hc1, hd1, h1⟩ := h
          refine r_callV (st := []) (As := [.int x1, .int x2, .int x3]) g sX12_283 iX12_treatyOf eX12_treatyOf rfl hs_a0__ rfl (Nat.le_of_ble_eq_true rfl) dX12_treaty_52 hd1 (Nat.le_refl 0) (Nat.le_refl 0) hc1 (fun r17 μ18 hZ1 => ?_)
          replace h := h1 _ _ hZ1
          clear h1 hc1 hd1 hZ1 Z1 d1
          obtain ⟨y19, rfl, h⟩ := h
          refine r_istore g [(5, .int y19), (0, .ref a0), (1, .int x1), (2, .int x2), (3, .int x3), (4, .int x4)] dX12_treaty_55 (by decide) rfl ?_
          refine r_iload g dX12_treaty_57 rfl ?_
          refine r_iconst g (-1) dX12_treaty_59 (by decide) ?_
          refine r_icmp_ne g 67 dX12_treaty_60 (by decide) (fun c20 => ?_) (fun c20 => ?_)
          · replace h := h.1 c20
            refine r_aload_n g dX12_treaty_67 rfl ?_
            obtain ⟨hs_a0___, h⟩ := h
            obtain ⟨treaty_21, hr_treaty_21, h⟩ := h
            refine r_getR g fX12_29 rfl hs_a0___ hr_treaty_21 dX12_treaty_68 ?_
            refine r_iload g dX12_treaty_71 rfl ?_
            refine r_iconst g 2 dX12_treaty_73 (by decide) ?_
            refine r_iadd g dX12_treaty_74 ?_
            refine r_iload g dX12_treaty_75 rfl ?_
            refine r_iadd g dX12_treaty_77 ?_
            obtain ⟨N22, hs_treaty_21, h⟩ := h
            obtain ⟨hi23, h⟩ := h
            refine r_iaload g hs_treaty_21 hi23 dX12_treaty_78 ?_
            exact hr.2.1 _ rfl _ _ _ _ _ _ dX12_treaty_79 rfl (Nat.le_refl 0) (Nat.le_refl 0) h
          · replace h := h.2 c20
            refine r_iconst g (-1) dX12_treaty_63 (by decide) ?_
            refine r_goto g 79 dX12_treaty_64 (by decide) ?_
            exact hr.2.1 _ rfl _ _ _ _ _ _ dX12_treaty_79 rfl (Nat.le_refl 0) (Nat.le_refl 0) h
        · replace h := h.2 c16
          refine r_iconst g (-1) dX12_treaty_46 (by decide) ?_
          exact hr.2.1 _ rfl _ _ _ _ _ _ dX12_treaty_47 rfl (Nat.le_refl 0) (Nat.le_refl 0) h
theorem I_X12_treaty {d : Nat} {ro : Nat → Nat} {Z : Option Value → Hp → Prop} {μ : Hp} {a0 : Nat} {x1 : Int32} {x2 : Int32} {x3 : Int32} {x4 : Int32} (h : ∀ J, xCtx RX12 cX12_treaty 6 d 0 0 yX12_treaty.name ro J → xRet cX12_treaty (some .int) 0 0 Z J → J μ 0 0 0 [(0, .ref a0), (1, .int x1), (2, .int x2), (3, .int x3), (4, .int x4)] []) : xC d yX12_treaty cX12_treaty 6 (some .int) 0 0 [.ref a0, .int x1, .int x2, .int x3, .int x4] μ ro Z :=
  xC_intro (own := RX12) (lv := [(0, .ref a0), (1, .int x1), (2, .int x2), (3, .int x3), (4, .int x4)]) (by decide) rfl (Nat.le_of_ble_eq_true rfl) rfl (fun J g hr => r_sub g (lv' := [(0, .ref a0), (1, .int x1), (2, .int x2), (3, .int x3), (4, .int x4)]) (⟨rfl, rfl, rfl, rfl, rfl, trivial⟩) (h J g hr))
theorem dX12_hop_0 : decode cX12_hop 0 = .ok (.aload_n 0, 1) := by decide +kernel
theorem dX12_hop_1 : decode cX12_hop 1 = .ok (.iconst 0, 1) := by decide +kernel
theorem dX12_hop_2 : decode cX12_hop 2 = .ok (.putfield 106, 3) := by decide +kernel
theorem dX12_hop_5 : decode cX12_hop 5 = .ok (.aload_n 0, 1) := by decide +kernel
theorem dX12_hop_6 : decode cX12_hop 6 = .ok (.iload_n 2, 1) := by decide +kernel
theorem dX12_hop_7 : decode cX12_hop 7 = .ok (.invokevirtual 351, 3) := by decide +kernel
theorem dX12_hop_10 : decode cX12_hop 10 = .ok (.ifCond .eq 41, 3) := by decide +kernel
theorem dX12_hop_13 : decode cX12_hop 13 = .ok (.aload_n 0, 1) := by decide +kernel
theorem dX12_hop_14 : decode cX12_hop 14 = .ok (.iload_n 3, 1) := by decide +kernel
theorem dX12_hop_15 : decode cX12_hop 15 = .ok (.invokevirtual 351, 3) := by decide +kernel
theorem dX12_hop_18 : decode cX12_hop 18 = .ok (.ifCond .eq 33, 3) := by decide +kernel
theorem dX12_hop_21 : decode cX12_hop 21 = .ok (.aload_n 0, 1) := by decide +kernel
theorem dX12_hop_22 : decode cX12_hop 22 = .ok (.iload 4, 2) := by decide +kernel
theorem dX12_hop_24 : decode cX12_hop 24 = .ok (.invokevirtual 351, 3) := by decide +kernel
theorem dX12_hop_27 : decode cX12_hop 27 = .ok (.ifCond .eq 24, 3) := by decide +kernel
theorem dX12_hop_30 : decode cX12_hop 30 = .ok (.iload_n 1, 1) := by decide +kernel
theorem dX12_hop_31 : decode cX12_hop 31 = .ok (.i2l, 1) := by decide +kernel
theorem dX12_hop_32 : decode cX12_hop 32 = .ok (.lconst 0, 1) := by decide +kernel
theorem dX12_hop_33 : decode cX12_hop 33 = .ok (.lconst 1, 1) := by decide +kernel
theorem dX12_hop_34 : decode cX12_hop 34 = .ok (.invokestatic 161, 3) := by decide +kernel
theorem dX12_hop_37 : decode cX12_hop 37 = .ok (.ifCond .eq 14, 3) := by decide +kernel
theorem dX12_hop_40 : decode cX12_hop 40 = .ok (.iload 5, 2) := by decide +kernel
theorem dX12_hop_42 : decode cX12_hop 42 = .ok (.i2l, 1) := by decide +kernel
theorem dX12_hop_43 : decode cX12_hop 43 = .ok (.lconst 0, 1) := by decide +kernel
theorem dX12_hop_44 : decode cX12_hop 44 = .ok (.lconst 1, 1) := by decide +kernel
theorem dX12_hop_45 : decode cX12_hop 45 = .ok (.invokestatic 161, 3) := by decide +kernel
theorem dX12_hop_48 : decode cX12_hop 48 = .ok (.ifCond .ne 5, 3) := by decide +kernel
theorem dX12_hop_51 : decode cX12_hop 51 = .ok (.iconst (-1), 1) := by decide +kernel
theorem dX12_hop_52 : decode cX12_hop 52 = .ok (.ireturn, 1) := by decide +kernel
theorem dX12_hop_53 : decode cX12_hop 53 = .ok (.aload_n 0, 1) := by decide +kernel
theorem dX12_hop_54 : decode cX12_hop 54 = .ok (.aload_n 0, 1) := by decide +kernel
theorem dX12_hop_55 : decode cX12_hop 55 = .ok (.getfield 57, 3) := by decide +kernel
theorem dX12_hop_58 : decode cX12_hop 58 = .ok (.bipush 30, 2) := by decide +kernel
theorem dX12_hop_60 : decode cX12_hop 60 = .ok (.iaload, 1) := by decide +kernel
theorem dX12_hop_61 : decode cX12_hop 61 = .ok (.putfield 277, 3) := by decide +kernel
theorem dX12_hop_64 : decode cX12_hop 64 = .ok (.aload_n 0, 1) := by decide +kernel
theorem dX12_hop_65 : decode cX12_hop 65 = .ok (.aload_n 0, 1) := by decide +kernel
theorem dX12_hop_66 : decode cX12_hop 66 = .ok (.getfield 57, 3) := by decide +kernel
theorem dX12_hop_69 : decode cX12_hop 69 = .ok (.iload_n 1, 1) := by decide +kernel
theorem dX12_hop_70 : decode cX12_hop 70 = .ok (.iload_n 2, 1) := by decide +kernel
theorem dX12_hop_71 : decode cX12_hop 71 = .ok (.iload_n 3, 1) := by decide +kernel
theorem dX12_hop_72 : decode cX12_hop 72 = .ok (.invokevirtual 309, 3) := by decide +kernel
theorem dX12_hop_75 : decode cX12_hop 75 = .ok (.istore 6, 2) := by decide +kernel
theorem dX12_hop_77 : decode cX12_hop 77 = .ok (.iload 6, 2) := by decide +kernel
theorem dX12_hop_79 : decode cX12_hop 79 = .ok (.iconst (-1), 1) := by decide +kernel
theorem dX12_hop_80 : decode cX12_hop 80 = .ok (.if_icmp .ne 5, 3) := by decide +kernel
theorem dX12_hop_83 : decode cX12_hop 83 = .ok (.iconst (-1), 1) := by decide +kernel
theorem dX12_hop_84 : decode cX12_hop 84 = .ok (.ireturn, 1) := by decide +kernel
theorem dX12_hop_85 : decode cX12_hop 85 = .ok (.aload_n 0, 1) := by decide +kernel
theorem dX12_hop_86 : decode cX12_hop 86 = .ok (.aload_n 0, 1) := by decide +kernel
theorem dX12_hop_87 : decode cX12_hop 87 = .ok (.getfield 57, 3) := by decide +kernel
theorem dX12_hop_90 : decode cX12_hop 90 = .ok (.iload_n 1, 1) := by decide +kernel
theorem dX12_hop_91 : decode cX12_hop 91 = .ok (.iload_n 2, 1) := by decide +kernel
theorem dX12_hop_92 : decode cX12_hop 92 = .ok (.iload_n 3, 1) := by decide +kernel
theorem dX12_hop_93 : decode cX12_hop 93 = .ok (.iload 4, 2) := by decide +kernel
theorem dX12_hop_95 : decode cX12_hop 95 = .ok (.iload 6, 2) := by decide +kernel
theorem dX12_hop_97 : decode cX12_hop 97 = .ok (.invokevirtual 312, 3) := by decide +kernel
theorem dX12_hop_100 : decode cX12_hop 100 = .ok (.iload 5, 2) := by decide +kernel
theorem dX12_hop_102 : decode cX12_hop 102 = .ok (.ifCond .ne 10, 3) := by decide +kernel
theorem dX12_hop_105 : decode cX12_hop 105 = .ok (.aload_n 0, 1) := by decide +kernel
theorem dX12_hop_106 : decode cX12_hop 106 = .ok (.getfield 294, 3) := by decide +kernel
theorem dX12_hop_109 : decode cX12_hop 109 = .ok (.goto 7, 3) := by decide +kernel
theorem dX12_hop_112 : decode cX12_hop 112 = .ok (.aload_n 0, 1) := by decide +kernel
theorem dX12_hop_113 : decode cX12_hop 113 = .ok (.getfield 291, 3) := by decide +kernel
theorem dX12_hop_116 : decode cX12_hop 116 = .ok (.ireturn, 1) := by decide +kernel
set_option maxHeartbeats 4000000 in
set_option maxRecDepth 100000 in
theorem B_X12_hop_0 {d : Nat} {ro : Nat → Nat} {J : JT} {Z : Option Value → Hp → Prop} (g : xCtx RX12 cX12_hop 7 d 0 0 yX12_hop.name ro J) (hr : xRet cX12_hop (some .int) 0 0 Z J) {μ : Hp} {a0 : Nat} {x1 : Int32} {x2 : Int32} {x3 : Int32} {x4 : Int32} {x5 : Int32} (hs_a0 : hS μ a0 = some (15, 65))
    (h : xCall d yX12_isFirm cX12_isFirm 2 (some .boolean) [.ref a0, .int x2] (wI μ a0 0 0) ro (fun r1 μ2 => ∃ y3 : Int32, r1 = some (.int y3) ∧ ((y3 = 0 → Z (some (.int (-1))) μ2) ∧ (¬ y3 = 0 → hS μ2 a0 = some (15, 65) ∧ xCall d yX12_isFirm cX12_isFirm 2 (some .boolean) [.ref a0, .int x3] μ2 ro (fun r5 μ6 => ∃ y7 : Int32, r5 = some (.int y7) ∧ ((y7 = 0 → Z (some (.int (-1))) μ6) ∧ (¬ y7 = 0 → hS μ6 a0 = some (15, 65) ∧ xCall d yX12_isFirm cX12_isFirm 2 (some .boolean) [.ref a0, .int x4] μ6 ro (fun r9 μ10 => ∃ y11 : Int32, r9 = some (.int y11) ∧ ((y11 = 0 → Z (some (.int (-1))) μ10) ∧ (¬ y11 = 0 → xCall d yX12_isIn cX12_isIn 6 (some .boolean) [.long x1.toInt64, .long 0, .long 1] μ10 ro (fun r13 μ14 => ∃ y15 : Int32, r13 = some (.int y15) ∧ ((y15 = 0 → Z (some (.int (-1))) μ14) ∧ (¬ y15 = 0 → xCall d yX12_isIn cX12_isIn 6 (some .boolean) [.long x5.toInt64, .long 0, .long 1] μ14 ro (fun r17 μ18 => ∃ y19 : Int32, r17 = some (.int y19) ∧ ((¬ y19 = 0 → hS μ18 a0 = some (15, 65) ∧ ∃ now_21 : Nat, hR μ18 a0 30 = some now_21 ∧ ∃ N22 : Nat, hS μ18 now_21 = some (0, N22) ∧ vp_in 30 N22 ∧ xCall d yX12_hopOf cX12_hopOf 6 (some .int) [.ref a0, .ref now_21, .int x1, .int x2, .int x3] (wI μ18 a0 37 (hI μ18 now_21 30)) ro (fun r24 μ25 => ∃ y26 : Int32, r24 = some (.int y26) ∧ ((¬ y26 = (-1) → hS μ25 a0 = some (15, 65) ∧ ∃ now_28 : Nat, hR μ25 a0 30 = some now_28 ∧ xCall d yX12_laysHop cX12_laysHop 9 none [.ref a0, .ref now_28, .int x1, .int x2, .int x3, .int x4, .int y26] μ25 ro (fun r29 μ30 => r29 = none ∧ ((¬ x5 = 0 → hS μ30 a0 = some (15, 65) ∧ Z (some (.int (hI μ30 a0 42))) μ30) ∧ (x5 = 0 → hS μ30 a0 = some (15, 65) ∧ Z (some (.int (hI μ30 a0 41))) μ30)))) ∧ (y26 = (-1) → Z (some (.int (-1))) μ25)))) ∧ (y19 = 0 → Z (some (.int (-1))) μ18)))))))))))))))) :
    J μ 0 0 0 [(0, .ref a0), (1, .int x1), (2, .int x2), (3, .int x3), (4, .int x4), (5, .int x5)] [] := by
  refine r_aload_n g dX12_hop_0 rfl ?_
  refine r_iconst g 0 dX12_hop_1 (by decide) ?_
  refine r_putI g fX12_106 rfl hs_a0 rfl rfl dX12_hop_2 ?_
  refine r_aload_n g dX12_hop_5 rfl ?_
  refine r_iload_n g dX12_hop_6 rfl ?_
  obtain ⟨d1, Z1, hc1, hd1, h1⟩ := h
  refine r_callV (st := []) (As := [.int x2]) g sX12_351 iX12_isFirm eX12_isFirm rfl hs_a0 rfl (Nat.le_of_ble_eq_true rfl) dX12_hop_7 hd1 (Nat.le_refl 0) (Nat.le_refl 0) hc1 (fun r1 μ2 hZ1 => ?_)
  replace h := h1 _ _ hZ1
  clear h1 hc1 hd1 hZ1 Z1 d1
  obtain ⟨y3, rfl, h⟩ := h
  refine r_if_eq g 51 dX12_hop_10 (by decide) (fun c4 => ?_) (fun c4 => ?_)
  · replace h := h.1 c4
    refine r_iconst g (-1) dX12_hop_51 (by decide) ?_
    exact hr.2.1 _ rfl _ _ _ _ _ _ dX12_hop_52 rfl (Nat.le_refl 0) (Nat.le_refl 0) h
  · replace h := h.2 c4
    refine r_aload_n g dX12_hop_13 rfl ?_
    refine r_iload_n g dX12_hop_14 rfl ?_
    obtain ⟨hs_a0_, h⟩ := h
    obtain ⟨d1, Z1, hc1, hd1, h1⟩ := h
    refine r_callV (st := []) (As := [.int x3]) g sX12_351 iX12_isFirm eX12_isFirm rfl hs_a0_ rfl (Nat.le_of_ble_eq_true rfl) dX12_hop_15 hd1 (Nat.le_refl 0) (Nat.le_refl 0) hc1 (fun r5 μ6 hZ1 => ?_)
    replace h := h1 _ _ hZ1
    clear h1 hc1 hd1 hZ1 Z1 d1
    obtain ⟨y7, rfl, h⟩ := h
    refine r_if_eq g 51 dX12_hop_18 (by decide) (fun c8 => ?_) (fun c8 => ?_)
    · replace h := h.1 c8
      refine r_iconst g (-1) dX12_hop_51 (by decide) ?_
      exact hr.2.1 _ rfl _ _ _ _ _ _ dX12_hop_52 rfl (Nat.le_refl 0) (Nat.le_refl 0) h
    · replace h := h.2 c8
      refine r_aload_n g dX12_hop_21 rfl ?_
      refine r_iload g dX12_hop_22 rfl ?_
      obtain ⟨hs_a0__, h⟩ := h
      obtain ⟨d1, Z1, hc1, hd1, h1⟩ := h
      refine r_callV (st := []) (As := [.int x4]) g sX12_351 iX12_isFirm eX12_isFirm rfl hs_a0__ rfl (Nat.le_of_ble_eq_true rfl) dX12_hop_24 hd1 (Nat.le_refl 0) (Nat.le_refl 0) hc1 (fun r9 μ10 hZ1 => ?_)
      replace h := h1 _ _ hZ1
      clear h1 hc1 hd1 hZ1 Z1 d1
      obtain ⟨y11, rfl, h⟩ := h
      refine r_if_eq g 51 dX12_hop_27 (by decide) (fun c12 => ?_) (fun c12 => ?_)
      · replace h := h.1 c12
        refine r_iconst g (-1) dX12_hop_51 (by decide) ?_
        exact hr.2.1 _ rfl _ _ _ _ _ _ dX12_hop_52 rfl (Nat.le_refl 0) (Nat.le_refl 0) h
      · replace h := h.2 c12
        refine r_iload_n g dX12_hop_30 rfl ?_
        refine r_i2l g dX12_hop_31 ?_
        refine r_lconst g 0 dX12_hop_32 (by decide) ?_
        refine r_lconst g 1 dX12_hop_33 (by decide) ?_
        obtain ⟨d1, Z1, hc1, hd1, h1⟩ := h
        refine r_callS (st := []) (As := [.long x1.toInt64, .long 0, .long 1]) g sX12_161 iX12_isIn rfl (Nat.le_of_ble_eq_true rfl) dX12_hop_34 hd1 (Nat.le_refl 0) (Nat.le_refl 0) hc1 (fun r13 μ14 hZ1 => ?_)
        replace h := h1 _ _ hZ1
        clear h1 hc1 hd1 hZ1 Z1 d1
        obtain ⟨y15, rfl, h⟩ := h
        refine r_if_eq g 51 dX12_hop_37 (by decide) (fun c16 => ?_) (fun c16 => ?_)
        · replace h := h.1 c16
          refine r_iconst g (-1) dX12_hop_51 (by decide) ?_
          exact hr.2.1 _ rfl _ _ _ _ _ _ dX12_hop_52 rfl (Nat.le_refl 0) (Nat.le_refl 0) h
        · replace h := h.2 c16
          refine r_iload g dX12_hop_40 rfl ?_
          refine r_i2l g dX12_hop_42 ?_
          refine r_lconst g 0 dX12_hop_43 (by decide) ?_
          refine r_lconst g 1 dX12_hop_44 (by decide) ?_
          obtain ⟨d1, Z1, hc1, hd1, h1⟩ := h
          refine r_callS (st := []) (As := [.long x5.toInt64, .long 0, .long 1]) g sX12_161 iX12_isIn rfl (Nat.le_of_ble_eq_true rfl) dX12_hop_45 hd1 (Nat.le_refl 0) (Nat.le_refl 0) hc1 (fun r17 μ18 hZ1 => ?_)
          replace h := h1 _ _ hZ1
          clear h1 hc1 hd1 hZ1 Z1 d1
          obtain ⟨y19, rfl, h⟩ := h
          refine r_if_ne g 53 dX12_hop_48 (by decide) (fun c20 => ?_) (fun c20 => ?_)
          · replace h := h.1 c20
            refine r_aload_n g dX12_hop_53 rfl ?_
            refine r_aload_n g dX12_hop_54 rfl ?_
            obtain ⟨hs_a0___, h⟩ := h
            obtain ⟨now_21, hr_now_21, h⟩ := h
            refine r_getR g fX12_57 rfl hs_a0___ hr_now_21 dX12_hop_55 ?_
            refine r_bipush g 30 dX12_hop_58 (by decide) ?_
            obtain ⟨N22, hs_now_21, h⟩ := h
            obtain ⟨hi23, h⟩ := h
            refine r_iaload g hs_now_21 hi23 dX12_hop_60 ?_
            refine r_putI g fX12_277 rfl hs_a0___ rfl rfl dX12_hop_61 ?_
            refine r_aload_n g dX12_hop_64 rfl ?_
            refine r_aload_n g dX12_hop_65 rfl ?_
            refine r_getR g fX12_57 rfl hs_a0___ hr_now_21 dX12_hop_66 ?_
            refine r_iload_n g dX12_hop_69 rfl ?_
            refine r_iload_n g dX12_hop_70 rfl ?_
            refine r_iload_n g dX12_hop_71 rfl ?_
            obtain ⟨d1, Z1, hc1, hd1, h1⟩ := h
            refine r_callV (st := []) (As := [.ref now_21, .int x1, .int x2, .int x3]) g sX12_309 iX12_hopOf eX12_hopOf rfl hs_a0___ rfl (Nat.le_of_ble_eq_true rfl) dX12_hop_72 hd1 (Nat.le_refl 0) (Nat.le_refl 0) hc1 (fun r24 μ25 hZ1 => ?_)
            replace h := h1 _ _ hZ1
            clear h1 hc1 hd1 hZ1 Z1 d1
            obtain ⟨y26, rfl, h⟩ := h
            refine r_istore g [(6, .int y26), (0, .ref a0), (1, .int x1), (2, .int x2), (3, .int x3), (4, .int x4), (5, .int x5)] dX12_hop_75 (by decide) rfl ?_
            refine r_iload g dX12_hop_77 rfl ?_
            refine r_iconst g (-1) dX12_hop_79 (by decide) ?_
            refine r_icmp_ne g 85 dX12_hop_80 (by decide) (fun c27 => ?_) (fun c27 => ?_)
            · replace h := h.1 c27
              refine r_aload_n g dX12_hop_85 rfl ?_
              refine r_aload_n g dX12_hop_86 rfl ?_
              obtain ⟨hs_a0____, h⟩ := h
              obtain ⟨now_28, hr_now_28, h⟩ := h
              refine r_getR g fX12_57 rfl hs_a0____ hr_now_28 dX12_hop_87 ?_
              refine r_iload_n g dX12_hop_90 rfl ?_
              refine r_iload_n g dX12_hop_91 rfl ?_
              refine r_iload_n g dX12_hop_92 rfl ?_
              refine r_iload g dX12_hop_93 rfl ?_
              refine r_iload g dX12_hop_95 rfl ?_
              obtain ⟨d1, Z1, hc1, hd1, h1⟩ := h
              refine r_callV (st := []) (As := [.ref now_28, .int x1, .int x2, .int x3, .int x4, .int y26]) g sX12_312 iX12_laysHop eX12_laysHop rfl hs_a0____ rfl (Nat.le_of_ble_eq_true rfl) dX12_hop_97 hd1 (Nat.le_refl 0) (Nat.le_refl 0) hc1 (fun r29 μ30 hZ1 => ?_)
              replace h := h1 _ _ hZ1
              clear h1 hc1 hd1 hZ1 Z1 d1
              obtain ⟨rfl, h⟩ := h
              refine r_iload g dX12_hop_100 rfl ?_
              refine r_if_ne g 112 dX12_hop_102 (by decide) (fun c31 => ?_) (fun c31 => ?_)
              · replace h := h.1 c31
                refine r_aload_n g dX12_hop_112 rfl ?_
                obtain ⟨hs_a0_____, h⟩ := h
                refine r_getI g fX12_291 rfl hs_a0_____ dX12_hop_113 ?_
                exact hr.2.1 _ rfl _ _ _ _ _ _ dX12_hop_116 rfl (Nat.le_refl 0) (Nat.le_refl 0) h
              · replace h := h.2 c31
                refine r_aload_n g dX12_hop_105 rfl ?_
                obtain ⟨hs_a0______, h⟩ := h
                refine r_getI g fX12_294 rfl hs_a0______ dX12_hop_106 ?_
                refine r_goto g 116 dX12_hop_109 (by decide) ?_
                exact hr.2.1 _ rfl _ _ _ _ _ _ dX12_hop_116 rfl (Nat.le_refl 0) (Nat.le_refl 0) h
            · replace h := h.2 c27
              refine r_iconst g (-1) dX12_hop_83 (by decide) ?_
              exact hr.2.1 _ rfl _ _ _ _ _ _ dX12_hop_84 rfl (Nat.le_refl 0) (Nat.le_refl 0) h
          · replace h := h.2 c20
            refine r_iconst g (-1) dX12_hop_51 (by decide) ?_
            exact hr.2.1 _ rfl _ _ _ _ _ _ dX12_hop_52 rfl (Nat.le_refl 0) (Nat.le_refl 0) h
theorem I_X12_hop {d : Nat} {ro : Nat → Nat} {Z : Option Value → Hp → Prop} {μ : Hp} {a0 : Nat} {x1 : Int32} {x2 : Int32} {x3 : Int32} {x4 : Int32} {x5 : Int32} (h : ∀ J, xCtx RX12 cX12_hop 7 d 0 0 yX12_hop.name ro J → xRet cX12_hop (some .int) 0 0 Z J → J μ 0 0 0 [(0, .ref a0), (1, .int x1), (2, .int x2), (3, .int x3), (4, .int x4), (5, .int x5)] []) : xC d yX12_hop cX12_hop 7 (some .int) 0 0 [.ref a0, .int x1, .int x2, .int x3, .int x4, .int x5] μ ro Z :=
  xC_intro (own := RX12) (lv := [(0, .ref a0), (1, .int x1), (2, .int x2), (3, .int x3), (4, .int x4), (5, .int x5)]) (by decide) rfl (Nat.le_of_ble_eq_true rfl) rfl (fun J g hr => r_sub g (lv' := [(0, .ref a0), (1, .int x1), (2, .int x2), (3, .int x3), (4, .int x4), (5, .int x5)]) (⟨rfl, rfl, rfl, rfl, rfl, rfl, trivial⟩) (h J g hr))
theorem dX12_best_0 : decode cX12_best 0 = .ok (.aload_n 0, 1) := by decide +kernel
theorem dX12_best_1 : decode cX12_best 1 = .ok (.iconst 0, 1) := by decide +kernel
theorem dX12_best_2 : decode cX12_best 2 = .ok (.putfield 106, 3) := by decide +kernel
theorem dX12_best_5 : decode cX12_best 5 = .ok (.iload 5, 2) := by decide +kernel
theorem dX12_best_7 : decode cX12_best 7 = .ok (.i2l, 1) := by decide +kernel
theorem dX12_best_8 : decode cX12_best 8 = .ok (.lconst 0, 1) := by decide +kernel
theorem dX12_best_9 : decode cX12_best 9 = .ok (.ldc2_w 297, 3) := by decide +kernel
theorem dX12_best_12 : decode cX12_best 12 = .ok (.invokestatic 161, 3) := by decide +kernel
theorem dX12_best_15 : decode cX12_best 15 = .ok (.ifCond .eq 15, 3) := by decide +kernel
theorem dX12_best_18 : decode cX12_best 18 = .ok (.aload_n 0, 1) := by decide +kernel
theorem dX12_best_19 : decode cX12_best 19 = .ok (.iload_n 1, 1) := by decide +kernel
theorem dX12_best_20 : decode cX12_best 20 = .ok (.iload_n 2, 1) := by decide +kernel
theorem dX12_best_21 : decode cX12_best 21 = .ok (.iload_n 3, 1) := by decide +kernel
theorem dX12_best_22 : decode cX12_best 22 = .ok (.iload 4, 2) := by decide +kernel
theorem dX12_best_24 : decode cX12_best 24 = .ok (.invokevirtual 470, 3) := by decide +kernel
theorem dX12_best_27 : decode cX12_best 27 = .ok (.ifCond .ne 5, 3) := by decide +kernel
theorem dX12_best_30 : decode cX12_best 30 = .ok (.iconst (-1), 1) := by decide +kernel
theorem dX12_best_31 : decode cX12_best 31 = .ok (.ireturn, 1) := by decide +kernel
theorem dX12_best_32 : decode cX12_best 32 = .ok (.iload 5, 2) := by decide +kernel
theorem dX12_best_34 : decode cX12_best 34 = .ok (.ifCond .ne 10, 3) := by decide +kernel
theorem dX12_best_37 : decode cX12_best 37 = .ok (.aload_n 0, 1) := by decide +kernel
theorem dX12_best_38 : decode cX12_best 38 = .ok (.getfield 321, 3) := by decide +kernel
theorem dX12_best_41 : decode cX12_best 41 = .ok (.goto 33, 3) := by decide +kernel
theorem dX12_best_44 : decode cX12_best 44 = .ok (.iload 5, 2) := by decide +kernel
theorem dX12_best_46 : decode cX12_best 46 = .ok (.iconst 1, 1) := by decide +kernel
theorem dX12_best_47 : decode cX12_best 47 = .ok (.if_icmp .ne 10, 3) := by decide +kernel
theorem dX12_best_50 : decode cX12_best 50 = .ok (.aload_n 0, 1) := by decide +kernel
theorem dX12_best_51 : decode cX12_best 51 = .ok (.getfield 306, 3) := by decide +kernel
theorem dX12_best_54 : decode cX12_best 54 = .ok (.goto 20, 3) := by decide +kernel
theorem dX12_best_57 : decode cX12_best 57 = .ok (.iload 5, 2) := by decide +kernel
theorem dX12_best_59 : decode cX12_best 59 = .ok (.iconst 2, 1) := by decide +kernel
theorem dX12_best_60 : decode cX12_best 60 = .ok (.if_icmp .ne 10, 3) := by decide +kernel
theorem dX12_best_63 : decode cX12_best 63 = .ok (.aload_n 0, 1) := by decide +kernel
theorem dX12_best_64 : decode cX12_best 64 = .ok (.getfield 300, 3) := by decide +kernel
theorem dX12_best_67 : decode cX12_best 67 = .ok (.goto 7, 3) := by decide +kernel
theorem dX12_best_70 : decode cX12_best 70 = .ok (.aload_n 0, 1) := by decide +kernel
theorem dX12_best_71 : decode cX12_best 71 = .ok (.getfield 303, 3) := by decide +kernel
theorem dX12_best_74 : decode cX12_best 74 = .ok (.ireturn, 1) := by decide +kernel
set_option maxHeartbeats 4000000 in
set_option maxRecDepth 100000 in
theorem B_X12_best_0 {d : Nat} {ro : Nat → Nat} {J : JT} {Z : Option Value → Hp → Prop} (g : xCtx RX12 cX12_best 6 d 0 0 yX12_best.name ro J) (hr : xRet cX12_best (some .int) 0 0 Z J) {μ : Hp} {a0 : Nat} {x1 : Int32} {x2 : Int32} {x3 : Int32} {x4 : Int32} {x5 : Int32} (hs_a0 : hS μ a0 = some (15, 65))
    (h : xCall d yX12_isIn cX12_isIn 6 (some .boolean) [.long x5.toInt64, .long 0, .long 3] (wI μ a0 0 0) ro (fun r1 μ2 => ∃ y3 : Int32, r1 = some (.int y3) ∧ ((y3 = 0 → Z (some (.int (-1))) μ2) ∧ (¬ y3 = 0 → hS μ2 a0 = some (15, 65) ∧ xCall d yX12_finds cX12_finds 5 (some .boolean) [.ref a0, .int x1, .int x2, .int x3, .int x4] μ2 ro (fun r5 μ6 => ∃ y7 : Int32, r5 = some (.int y7) ∧ ((¬ y7 = 0 → ((¬ x5 = 0 → ((¬ x5 = 1 → ((¬ x5 = 2 → hS μ6 a0 = some (15, 65) ∧ Z (some (.int (hI μ6 a0 53))) μ6) ∧ (x5 = 2 → hS μ6 a0 = some (15, 65) ∧ Z (some (.int (hI μ6 a0 52))) μ6))) ∧ (x5 = 1 → hS μ6 a0 = some (15, 65) ∧ Z (some (.int (hI μ6 a0 50))) μ6))) ∧ (x5 = 0 → hS μ6 a0 = some (15, 65) ∧ Z (some (.int (hI μ6 a0 51))) μ6))) ∧ (y7 = 0 → Z (some (.int (-1))) μ6))))))) :
    J μ 0 0 0 [(0, .ref a0), (1, .int x1), (2, .int x2), (3, .int x3), (4, .int x4), (5, .int x5)] [] := by
  refine r_aload_n g dX12_best_0 rfl ?_
  refine r_iconst g 0 dX12_best_1 (by decide) ?_
  refine r_putI g fX12_106 rfl hs_a0 rfl rfl dX12_best_2 ?_
  refine r_iload g dX12_best_5 rfl ?_
  refine r_i2l g dX12_best_7 ?_
  refine r_lconst g 0 dX12_best_8 (by decide) ?_
  refine r_ldc2 g 3 kX12_297 dX12_best_9 ?_
  obtain ⟨d1, Z1, hc1, hd1, h1⟩ := h
  refine r_callS (st := []) (As := [.long x5.toInt64, .long 0, .long 3]) g sX12_161 iX12_isIn rfl (Nat.le_of_ble_eq_true rfl) dX12_best_12 hd1 (Nat.le_refl 0) (Nat.le_refl 0) hc1 (fun r1 μ2 hZ1 => ?_)
  replace h := h1 _ _ hZ1
  clear h1 hc1 hd1 hZ1 Z1 d1
  obtain ⟨y3, rfl, h⟩ := h
  refine r_if_eq g 30 dX12_best_15 (by decide) (fun c4 => ?_) (fun c4 => ?_)
  · replace h := h.1 c4
    refine r_iconst g (-1) dX12_best_30 (by decide) ?_
    exact hr.2.1 _ rfl _ _ _ _ _ _ dX12_best_31 rfl (Nat.le_refl 0) (Nat.le_refl 0) h
  · replace h := h.2 c4
    refine r_aload_n g dX12_best_18 rfl ?_
    refine r_iload_n g dX12_best_19 rfl ?_
    refine r_iload_n g dX12_best_20 rfl ?_
    refine r_iload_n g dX12_best_21 rfl ?_
    refine r_iload g dX12_best_22 rfl ?_
    obtain ⟨hs_a0_, h⟩ := h
    obtain ⟨d1, Z1, hc1, hd1, h1⟩ := h
    refine r_callV (st := []) (As := [.int x1, .int x2, .int x3, .int x4]) g sX12_470 iX12_finds eX12_finds rfl hs_a0_ rfl (Nat.le_of_ble_eq_true rfl) dX12_best_24 hd1 (Nat.le_refl 0) (Nat.le_refl 0) hc1 (fun r5 μ6 hZ1 => ?_)
    replace h := h1 _ _ hZ1
    clear h1 hc1 hd1 hZ1 Z1 d1
    obtain ⟨y7, rfl, h⟩ := h
    refine r_if_ne g 32 dX12_best_27 (by decide) (fun c8 => ?_) (fun c8 => ?_)
    · replace h := h.1 c8
      refine r_iload g dX12_best_32 rfl ?_
      refine r_if_ne g 44 dX12_best_34 (by decide) (fun c9 => ?_) (fun c9 => ?_)
      · replace h := h.1 c9
        refine r_iload g dX12_best_44 rfl ?_
        refine r_iconst g 1 dX12_best_46 (by decide) ?_
        refine r_icmp_ne g 57 dX12_best_47 (by decide) (fun c10 => ?_) (fun c10 => ?_)
        · replace h := h.1 c10
          refine r_iload g dX12_best_57 rfl ?_
          refine r_iconst g 2 dX12_best_59 (by decide) ?_
          refine r_icmp_ne g 70 dX12_best_60 (by decide) (fun c11 => ?_) (fun c11 => ?_)
          · replace h := h.1 c11
            refine r_aload_n g dX12_best_70 rfl ?_
            obtain ⟨hs_a0__, h⟩ := h
            refine r_getI g fX12_303 rfl hs_a0__ dX12_best_71 ?_
            exact hr.2.1 _ rfl _ _ _ _ _ _ dX12_best_74 rfl (Nat.le_refl 0) (Nat.le_refl 0) h
          · replace h := h.2 c11
            refine r_aload_n g dX12_best_63 rfl ?_
            obtain ⟨hs_a0___, h⟩ := h
            refine r_getI g fX12_300 rfl hs_a0___ dX12_best_64 ?_
            refine r_goto g 74 dX12_best_67 (by decide) ?_
            exact hr.2.1 _ rfl _ _ _ _ _ _ dX12_best_74 rfl (Nat.le_refl 0) (Nat.le_refl 0) h
        · replace h := h.2 c10
          refine r_aload_n g dX12_best_50 rfl ?_
          obtain ⟨hs_a0____, h⟩ := h
          refine r_getI g fX12_306 rfl hs_a0____ dX12_best_51 ?_
          refine r_goto g 74 dX12_best_54 (by decide) ?_
          exact hr.2.1 _ rfl _ _ _ _ _ _ dX12_best_74 rfl (Nat.le_refl 0) (Nat.le_refl 0) h
      · replace h := h.2 c9
        refine r_aload_n g dX12_best_37 rfl ?_
        obtain ⟨hs_a0_____, h⟩ := h
        refine r_getI g fX12_321 rfl hs_a0_____ dX12_best_38 ?_
        refine r_goto g 74 dX12_best_41 (by decide) ?_
        exact hr.2.1 _ rfl _ _ _ _ _ _ dX12_best_74 rfl (Nat.le_refl 0) (Nat.le_refl 0) h
    · replace h := h.2 c8
      refine r_iconst g (-1) dX12_best_30 (by decide) ?_
      exact hr.2.1 _ rfl _ _ _ _ _ _ dX12_best_31 rfl (Nat.le_refl 0) (Nat.le_refl 0) h
theorem I_X12_best {d : Nat} {ro : Nat → Nat} {Z : Option Value → Hp → Prop} {μ : Hp} {a0 : Nat} {x1 : Int32} {x2 : Int32} {x3 : Int32} {x4 : Int32} {x5 : Int32} (h : ∀ J, xCtx RX12 cX12_best 6 d 0 0 yX12_best.name ro J → xRet cX12_best (some .int) 0 0 Z J → J μ 0 0 0 [(0, .ref a0), (1, .int x1), (2, .int x2), (3, .int x3), (4, .int x4), (5, .int x5)] []) : xC d yX12_best cX12_best 6 (some .int) 0 0 [.ref a0, .int x1, .int x2, .int x3, .int x4, .int x5] μ ro Z :=
  xC_intro (own := RX12) (lv := [(0, .ref a0), (1, .int x1), (2, .int x2), (3, .int x3), (4, .int x4), (5, .int x5)]) (by decide) rfl (Nat.le_of_ble_eq_true rfl) rfl (fun J g hr => r_sub g (lv' := [(0, .ref a0), (1, .int x1), (2, .int x2), (3, .int x3), (4, .int x4), (5, .int x5)]) (⟨rfl, rfl, rfl, rfl, rfl, rfl, trivial⟩) (h J g hr))
theorem dX12_stop_0 : decode cX12_stop 0 = .ok (.aload_n 0, 1) := by decide +kernel
theorem dX12_stop_1 : decode cX12_stop 1 = .ok (.iconst 0, 1) := by decide +kernel
theorem dX12_stop_2 : decode cX12_stop 2 = .ok (.putfield 106, 3) := by decide +kernel
theorem dX12_stop_5 : decode cX12_stop 5 = .ok (.iload 6, 2) := by decide +kernel
theorem dX12_stop_7 : decode cX12_stop 7 = .ok (.i2l, 1) := by decide +kernel
theorem dX12_stop_8 : decode cX12_stop 8 = .ok (.lconst 0, 1) := by decide +kernel
theorem dX12_stop_9 : decode cX12_stop 9 = .ok (.ldc2_w 452, 3) := by decide +kernel
theorem dX12_stop_12 : decode cX12_stop 12 = .ok (.invokestatic 161, 3) := by decide +kernel
theorem dX12_stop_15 : decode cX12_stop 15 = .ok (.ifCond .eq 32, 3) := by decide +kernel
theorem dX12_stop_18 : decode cX12_stop 18 = .ok (.aload_n 0, 1) := by decide +kernel
theorem dX12_stop_19 : decode cX12_stop 19 = .ok (.iload_n 1, 1) := by decide +kernel
theorem dX12_stop_20 : decode cX12_stop 20 = .ok (.iload_n 2, 1) := by decide +kernel
theorem dX12_stop_21 : decode cX12_stop 21 = .ok (.iload_n 3, 1) := by decide +kernel
theorem dX12_stop_22 : decode cX12_stop 22 = .ok (.iload 4, 2) := by decide +kernel
theorem dX12_stop_24 : decode cX12_stop 24 = .ok (.invokevirtual 470, 3) := by decide +kernel
theorem dX12_stop_27 : decode cX12_stop 27 = .ok (.ifCond .eq 20, 3) := by decide +kernel
theorem dX12_stop_30 : decode cX12_stop 30 = .ok (.iload 5, 2) := by decide +kernel
theorem dX12_stop_32 : decode cX12_stop 32 = .ok (.i2l, 1) := by decide +kernel
theorem dX12_stop_33 : decode cX12_stop 33 = .ok (.lconst 0, 1) := by decide +kernel
theorem dX12_stop_34 : decode cX12_stop 34 = .ok (.aload_n 0, 1) := by decide +kernel
theorem dX12_stop_35 : decode cX12_stop 35 = .ok (.getfield 306, 3) := by decide +kernel
theorem dX12_stop_38 : decode cX12_stop 38 = .ok (.iconst 1, 1) := by decide +kernel
theorem dX12_stop_39 : decode cX12_stop 39 = .ok (.isub, 1) := by decide +kernel
theorem dX12_stop_40 : decode cX12_stop 40 = .ok (.i2l, 1) := by decide +kernel
theorem dX12_stop_41 : decode cX12_stop 41 = .ok (.invokestatic 161, 3) := by decide +kernel
theorem dX12_stop_44 : decode cX12_stop 44 = .ok (.ifCond .ne 5, 3) := by decide +kernel
theorem dX12_stop_47 : decode cX12_stop 47 = .ok (.iconst (-1), 1) := by decide +kernel
theorem dX12_stop_48 : decode cX12_stop 48 = .ok (.ireturn, 1) := by decide +kernel
theorem dX12_stop_49 : decode cX12_stop 49 = .ok (.iload 6, 2) := by decide +kernel
theorem dX12_stop_51 : decode cX12_stop 51 = .ok (.tableswitch 63 0 3 #[29, 39, 47, 55], 29) := by decide +kernel
theorem dX12_stop_80 : decode cX12_stop 80 = .ok (.aload_n 0, 1) := by decide +kernel
theorem dX12_stop_81 : decode cX12_stop 81 = .ok (.getfield 79, 3) := by decide +kernel
theorem dX12_stop_84 : decode cX12_stop 84 = .ok (.iload 5, 2) := by decide +kernel
theorem dX12_stop_86 : decode cX12_stop 86 = .ok (.iconst 1, 1) := by decide +kernel
theorem dX12_stop_87 : decode cX12_stop 87 = .ok (.iadd, 1) := by decide +kernel
theorem dX12_stop_88 : decode cX12_stop 88 = .ok (.iaload, 1) := by decide +kernel
theorem dX12_stop_89 : decode cX12_stop 89 = .ok (.ireturn, 1) := by decide +kernel
theorem dX12_stop_90 : decode cX12_stop 90 = .ok (.aload_n 0, 1) := by decide +kernel
theorem dX12_stop_91 : decode cX12_stop 91 = .ok (.getfield 82, 3) := by decide +kernel
theorem dX12_stop_94 : decode cX12_stop 94 = .ok (.iload 5, 2) := by decide +kernel
theorem dX12_stop_96 : decode cX12_stop 96 = .ok (.iaload, 1) := by decide +kernel
theorem dX12_stop_97 : decode cX12_stop 97 = .ok (.ireturn, 1) := by decide +kernel
theorem dX12_stop_98 : decode cX12_stop 98 = .ok (.aload_n 0, 1) := by decide +kernel
theorem dX12_stop_99 : decode cX12_stop 99 = .ok (.getfield 85, 3) := by decide +kernel
theorem dX12_stop_102 : decode cX12_stop 102 = .ok (.iload 5, 2) := by decide +kernel
theorem dX12_stop_104 : decode cX12_stop 104 = .ok (.iaload, 1) := by decide +kernel
theorem dX12_stop_105 : decode cX12_stop 105 = .ok (.ireturn, 1) := by decide +kernel
theorem dX12_stop_106 : decode cX12_stop 106 = .ok (.aload_n 0, 1) := by decide +kernel
theorem dX12_stop_107 : decode cX12_stop 107 = .ok (.getfield 88, 3) := by decide +kernel
theorem dX12_stop_110 : decode cX12_stop 110 = .ok (.iload 5, 2) := by decide +kernel
theorem dX12_stop_112 : decode cX12_stop 112 = .ok (.iaload, 1) := by decide +kernel
theorem dX12_stop_113 : decode cX12_stop 113 = .ok (.ireturn, 1) := by decide +kernel
theorem dX12_stop_114 : decode cX12_stop 114 = .ok (.aload_n 0, 1) := by decide +kernel
theorem dX12_stop_115 : decode cX12_stop 115 = .ok (.getfield 91, 3) := by decide +kernel
theorem dX12_stop_118 : decode cX12_stop 118 = .ok (.iload 5, 2) := by decide +kernel
theorem dX12_stop_120 : decode cX12_stop 120 = .ok (.iaload, 1) := by decide +kernel
theorem dX12_stop_121 : decode cX12_stop 121 = .ok (.ireturn, 1) := by decide +kernel
set_option maxHeartbeats 4000000 in
set_option maxRecDepth 100000 in
theorem B_X12_stop_0 {d : Nat} {ro : Nat → Nat} {J : JT} {Z : Option Value → Hp → Prop} (g : xCtx RX12 cX12_stop 7 d 0 0 yX12_stop.name ro J) (hr : xRet cX12_stop (some .int) 0 0 Z J) {μ : Hp} {a0 : Nat} {x1 : Int32} {x2 : Int32} {x3 : Int32} {x4 : Int32} {x5 : Int32} {x6 : Int32} (hs_a0 : hS μ a0 = some (15, 65))
    (h : xCall d yX12_isIn cX12_isIn 6 (some .boolean) [.long x6.toInt64, .long 0, .long 4] (wI μ a0 0 0) ro (fun r1 μ2 => ∃ y3 : Int32, r1 = some (.int y3) ∧ ((y3 = 0 → Z (some (.int (-1))) μ2) ∧ (¬ y3 = 0 → hS μ2 a0 = some (15, 65) ∧ xCall d yX12_finds cX12_finds 5 (some .boolean) [.ref a0, .int x1, .int x2, .int x3, .int x4] μ2 ro (fun r5 μ6 => ∃ y7 : Int32, r5 = some (.int y7) ∧ ((y7 = 0 → Z (some (.int (-1))) μ6) ∧ (¬ y7 = 0 → hS μ6 a0 = some (15, 65) ∧ xCall d yX12_isIn cX12_isIn 6 (some .boolean) [.long x5.toInt64, .long 0, .long ((hI μ6 a0 50) - 1).toInt64] μ6 ro (fun r9 μ10 => ∃ y11 : Int32, r9 = some (.int y11) ∧ ((¬ y11 = 0 → (((x6).toInt < 0 ∨ 3 < (x6).toInt → hS μ10 a0 = some (15, 65) ∧ ∃ held_14 : Nat, hR μ10 a0 47 = some held_14 ∧ ∃ N15 : Nat, hS μ10 held_14 = some (0, N15) ∧ vp_in x5 N15 ∧ Z (some (.int (hI μ10 held_14 x5.toNatClampNeg))) μ10) ∧ (x6 = 0 → hS μ10 a0 = some (15, 65) ∧ ∃ way_17 : Nat, hR μ10 a0 43 = some way_17 ∧ ∃ N18 : Nat, hS μ10 way_17 = some (0, N18) ∧ vp_in (x5 + 1) N18 ∧ Z (some (.int (hI μ10 way_17 ((x5 + 1).toNatClampNeg)))) μ10) ∧ (x6 = 1 → hS μ10 a0 = some (15, 65) ∧ ∃ rates_20 : Nat, hR μ10 a0 44 = some rates_20 ∧ ∃ N21 : Nat, hS μ10 rates_20 = some (0, N21) ∧ vp_in x5 N21 ∧ Z (some (.int (hI μ10 rates_20 x5.toNatClampNeg))) μ10) ∧ (x6 = 2 → hS μ10 a0 = some (15, 65) ∧ ∃ articles_23 : Nat, hR μ10 a0 45 = some articles_23 ∧ ∃ N24 : Nat, hS μ10 articles_23 = some (0, N24) ∧ vp_in x5 N24 ∧ Z (some (.int (hI μ10 articles_23 x5.toNatClampNeg))) μ10) ∧ (x6 = 3 → hS μ10 a0 = some (15, 65) ∧ ∃ paid_26 : Nat, hR μ10 a0 46 = some paid_26 ∧ ∃ N27 : Nat, hS μ10 paid_26 = some (0, N27) ∧ vp_in x5 N27 ∧ Z (some (.int (hI μ10 paid_26 x5.toNatClampNeg))) μ10))) ∧ (y11 = 0 → Z (some (.int (-1))) μ10)))))))))) :
    J μ 0 0 0 [(0, .ref a0), (1, .int x1), (2, .int x2), (3, .int x3), (4, .int x4), (5, .int x5), (6, .int x6)] [] := by
  refine r_aload_n g dX12_stop_0 rfl ?_
  refine r_iconst g 0 dX12_stop_1 (by decide) ?_
  refine r_putI g fX12_106 rfl hs_a0 rfl rfl dX12_stop_2 ?_
  refine r_iload g dX12_stop_5 rfl ?_
  refine r_i2l g dX12_stop_7 ?_
  refine r_lconst g 0 dX12_stop_8 (by decide) ?_
  refine r_ldc2 g 4 kX12_452 dX12_stop_9 ?_
  obtain ⟨d1, Z1, hc1, hd1, h1⟩ := h
  refine r_callS (st := []) (As := [.long x6.toInt64, .long 0, .long 4]) g sX12_161 iX12_isIn rfl (Nat.le_of_ble_eq_true rfl) dX12_stop_12 hd1 (Nat.le_refl 0) (Nat.le_refl 0) hc1 (fun r1 μ2 hZ1 => ?_)
  replace h := h1 _ _ hZ1
  clear h1 hc1 hd1 hZ1 Z1 d1
  obtain ⟨y3, rfl, h⟩ := h
  refine r_if_eq g 47 dX12_stop_15 (by decide) (fun c4 => ?_) (fun c4 => ?_)
  · replace h := h.1 c4
    refine r_iconst g (-1) dX12_stop_47 (by decide) ?_
    exact hr.2.1 _ rfl _ _ _ _ _ _ dX12_stop_48 rfl (Nat.le_refl 0) (Nat.le_refl 0) h
  · replace h := h.2 c4
    refine r_aload_n g dX12_stop_18 rfl ?_
    refine r_iload_n g dX12_stop_19 rfl ?_
    refine r_iload_n g dX12_stop_20 rfl ?_
    refine r_iload_n g dX12_stop_21 rfl ?_
    refine r_iload g dX12_stop_22 rfl ?_
    obtain ⟨hs_a0_, h⟩ := h
    obtain ⟨d1, Z1, hc1, hd1, h1⟩ := h
    refine r_callV (st := []) (As := [.int x1, .int x2, .int x3, .int x4]) g sX12_470 iX12_finds eX12_finds rfl hs_a0_ rfl (Nat.le_of_ble_eq_true rfl) dX12_stop_24 hd1 (Nat.le_refl 0) (Nat.le_refl 0) hc1 (fun r5 μ6 hZ1 => ?_)
    replace h := h1 _ _ hZ1
    clear h1 hc1 hd1 hZ1 Z1 d1
    obtain ⟨y7, rfl, h⟩ := h
    refine r_if_eq g 47 dX12_stop_27 (by decide) (fun c8 => ?_) (fun c8 => ?_)
    · replace h := h.1 c8
      refine r_iconst g (-1) dX12_stop_47 (by decide) ?_
      exact hr.2.1 _ rfl _ _ _ _ _ _ dX12_stop_48 rfl (Nat.le_refl 0) (Nat.le_refl 0) h
    · replace h := h.2 c8
      refine r_iload g dX12_stop_30 rfl ?_
      refine r_i2l g dX12_stop_32 ?_
      refine r_lconst g 0 dX12_stop_33 (by decide) ?_
      refine r_aload_n g dX12_stop_34 rfl ?_
      obtain ⟨hs_a0__, h⟩ := h
      refine r_getI g fX12_306 rfl hs_a0__ dX12_stop_35 ?_
      refine r_iconst g 1 dX12_stop_38 (by decide) ?_
      refine r_isub g dX12_stop_39 ?_
      refine r_i2l g dX12_stop_40 ?_
      obtain ⟨d1, Z1, hc1, hd1, h1⟩ := h
      refine r_callS (st := []) (As := [.long x5.toInt64, .long 0, .long ((hI μ6 a0 50) - 1).toInt64]) g sX12_161 iX12_isIn rfl (Nat.le_of_ble_eq_true rfl) dX12_stop_41 hd1 (Nat.le_refl 0) (Nat.le_refl 0) hc1 (fun r9 μ10 hZ1 => ?_)
      replace h := h1 _ _ hZ1
      clear h1 hc1 hd1 hZ1 Z1 d1
      obtain ⟨y11, rfl, h⟩ := h
      refine r_if_ne g 49 dX12_stop_44 (by decide) (fun c12 => ?_) (fun c12 => ?_)
      · replace h := h.1 c12
        refine r_iload g dX12_stop_49 rfl ?_
        rcases sw_cases (x := x6) 0 3 (by decide) (by decide) with c13 | ⟨z, hz1, hz2, c13⟩
        · refine r_tableOut g 114 dX12_stop_51 c13 (by decide) ?_
          replace h := h.1 c13
          refine r_aload_n g dX12_stop_114 rfl ?_
          obtain ⟨hs_a0___, h⟩ := h
          obtain ⟨held_14, hr_held_14, h⟩ := h
          refine r_getR g fX12_91 rfl hs_a0___ hr_held_14 dX12_stop_115 ?_
          refine r_iload g dX12_stop_118 rfl ?_
          obtain ⟨N15, hs_held_14, h⟩ := h
          obtain ⟨hi16, h⟩ := h
          refine r_iaload g hs_held_14 hi16 dX12_stop_120 ?_
          exact hr.2.1 _ rfl _ _ _ _ _ _ dX12_stop_121 rfl (Nat.le_refl 0) (Nat.le_refl 0) h
        · have hz : z = 0 ∨ z = 1 ∨ z = 2 ∨ z = 3 := by omega
          rcases hz with rfl | rfl | rfl | rfl
          · refine r_tableIn g 80 dX12_stop_51 (by rw [c13]; decide) (by rw [c13]; decide) (off := 29) (by rw [c13]; decide) (by decide) ?_
            replace h := h.2.1 c13
            refine r_aload_n g dX12_stop_80 rfl ?_
            obtain ⟨hs_a0____, h⟩ := h
            obtain ⟨way_17, hr_way_17, h⟩ := h
            refine r_getR g fX12_79 rfl hs_a0____ hr_way_17 dX12_stop_81 ?_
            refine r_iload g dX12_stop_84 rfl ?_
            refine r_iconst g 1 dX12_stop_86 (by decide) ?_
            refine r_iadd g dX12_stop_87 ?_
            obtain ⟨N18, hs_way_17, h⟩ := h
            obtain ⟨hi19, h⟩ := h
            refine r_iaload g hs_way_17 hi19 dX12_stop_88 ?_
            exact hr.2.1 _ rfl _ _ _ _ _ _ dX12_stop_89 rfl (Nat.le_refl 0) (Nat.le_refl 0) h
          · refine r_tableIn g 90 dX12_stop_51 (by rw [c13]; decide) (by rw [c13]; decide) (off := 39) (by rw [c13]; decide) (by decide) ?_
            replace h := h.2.2.1 c13
            refine r_aload_n g dX12_stop_90 rfl ?_
            obtain ⟨hs_a0_____, h⟩ := h
            obtain ⟨rates_20, hr_rates_20, h⟩ := h
            refine r_getR g fX12_82 rfl hs_a0_____ hr_rates_20 dX12_stop_91 ?_
            refine r_iload g dX12_stop_94 rfl ?_
            obtain ⟨N21, hs_rates_20, h⟩ := h
            obtain ⟨hi22, h⟩ := h
            refine r_iaload g hs_rates_20 hi22 dX12_stop_96 ?_
            exact hr.2.1 _ rfl _ _ _ _ _ _ dX12_stop_97 rfl (Nat.le_refl 0) (Nat.le_refl 0) h
          · refine r_tableIn g 98 dX12_stop_51 (by rw [c13]; decide) (by rw [c13]; decide) (off := 47) (by rw [c13]; decide) (by decide) ?_
            replace h := h.2.2.2.1 c13
            refine r_aload_n g dX12_stop_98 rfl ?_
            obtain ⟨hs_a0______, h⟩ := h
            obtain ⟨articles_23, hr_articles_23, h⟩ := h
            refine r_getR g fX12_85 rfl hs_a0______ hr_articles_23 dX12_stop_99 ?_
            refine r_iload g dX12_stop_102 rfl ?_
            obtain ⟨N24, hs_articles_23, h⟩ := h
            obtain ⟨hi25, h⟩ := h
            refine r_iaload g hs_articles_23 hi25 dX12_stop_104 ?_
            exact hr.2.1 _ rfl _ _ _ _ _ _ dX12_stop_105 rfl (Nat.le_refl 0) (Nat.le_refl 0) h
          · refine r_tableIn g 106 dX12_stop_51 (by rw [c13]; decide) (by rw [c13]; decide) (off := 55) (by rw [c13]; decide) (by decide) ?_
            replace h := h.2.2.2.2 c13
            refine r_aload_n g dX12_stop_106 rfl ?_
            obtain ⟨hs_a0_______, h⟩ := h
            obtain ⟨paid_26, hr_paid_26, h⟩ := h
            refine r_getR g fX12_88 rfl hs_a0_______ hr_paid_26 dX12_stop_107 ?_
            refine r_iload g dX12_stop_110 rfl ?_
            obtain ⟨N27, hs_paid_26, h⟩ := h
            obtain ⟨hi28, h⟩ := h
            refine r_iaload g hs_paid_26 hi28 dX12_stop_112 ?_
            exact hr.2.1 _ rfl _ _ _ _ _ _ dX12_stop_113 rfl (Nat.le_refl 0) (Nat.le_refl 0) h
      · replace h := h.2 c12
        refine r_iconst g (-1) dX12_stop_47 (by decide) ?_
        exact hr.2.1 _ rfl _ _ _ _ _ _ dX12_stop_48 rfl (Nat.le_refl 0) (Nat.le_refl 0) h
theorem I_X12_stop {d : Nat} {ro : Nat → Nat} {Z : Option Value → Hp → Prop} {μ : Hp} {a0 : Nat} {x1 : Int32} {x2 : Int32} {x3 : Int32} {x4 : Int32} {x5 : Int32} {x6 : Int32} (h : ∀ J, xCtx RX12 cX12_stop 7 d 0 0 yX12_stop.name ro J → xRet cX12_stop (some .int) 0 0 Z J → J μ 0 0 0 [(0, .ref a0), (1, .int x1), (2, .int x2), (3, .int x3), (4, .int x4), (5, .int x5), (6, .int x6)] []) : xC d yX12_stop cX12_stop 7 (some .int) 0 0 [.ref a0, .int x1, .int x2, .int x3, .int x4, .int x5, .int x6] μ ro Z :=
  xC_intro (own := RX12) (lv := [(0, .ref a0), (1, .int x1), (2, .int x2), (3, .int x3), (4, .int x4), (5, .int x5), (6, .int x6)]) (by decide) rfl (Nat.le_of_ble_eq_true rfl) rfl (fun J g hr => r_sub g (lv' := [(0, .ref a0), (1, .int x1), (2, .int x2), (3, .int x3), (4, .int x4), (5, .int x5), (6, .int x6)]) (⟨rfl, rfl, rfl, rfl, rfl, rfl, rfl, trivial⟩) (h J g hr))
theorem dX12_says_0 : decode cX12_says 0 = .ok (.aload_n 0, 1) := by decide +kernel
theorem dX12_says_1 : decode cX12_says 1 = .ok (.getfield 103, 3) := by decide +kernel
theorem dX12_says_4 : decode cX12_says 4 = .ok (.aload_n 0, 1) := by decide +kernel
theorem dX12_says_5 : decode cX12_says 5 = .ok (.getfield 473, 3) := by decide +kernel
theorem dX12_says_8 : decode cX12_says 8 = .ok (.iload_n 1, 1) := by decide +kernel
theorem dX12_says_9 : decode cX12_says 9 = .ok (.i2b, 1) := by decide +kernel
theorem dX12_says_10 : decode cX12_says 10 = .ok (.bastore, 1) := by decide +kernel
theorem dX12_says_11 : decode cX12_says 11 = .ok (.aload_n 0, 1) := by decide +kernel
theorem dX12_says_12 : decode cX12_says 12 = .ok (.dup, 1) := by decide +kernel
theorem dX12_says_13 : decode cX12_says 13 = .ok (.getfield 473, 3) := by decide +kernel
theorem dX12_says_16 : decode cX12_says 16 = .ok (.iconst 1, 1) := by decide +kernel
theorem dX12_says_17 : decode cX12_says 17 = .ok (.iadd, 1) := by decide +kernel
theorem dX12_says_18 : decode cX12_says 18 = .ok (.putfield 473, 3) := by decide +kernel
theorem dX12_says_21 : decode cX12_says 21 = .ok (.return_, 1) := by decide +kernel
set_option maxHeartbeats 4000000 in
set_option maxRecDepth 100000 in
theorem B_X12_says_0 {d : Nat} {ro : Nat → Nat} {J : JT} {Z : Option Value → Hp → Prop} (g : xCtx RX12 cX12_says 2 d 0 0 yX12_says.name ro J) (hr : xRet cX12_says none 0 0 Z J) {μ : Hp} {a0 : Nat} {x1 : Int32} {a0_spelled : Nat} {N_a0_spelled : Nat} (hs_a0 : hS μ a0 = some (15, 65)) (hr_a0_spelled : hR μ a0 63 = some a0_spelled) (hs_a0_spelled : hS μ a0_spelled = some (1, N_a0_spelled))
    (h : vp_in (hI μ a0 64) N_a0_spelled ∧ (∀ v2 : Int32, v2 = (hI (wI μ a0_spelled ((hI μ a0 64).toNatClampNeg) (vp_nar .byte x1.toInt8.toInt32)) a0 64) → Z none (wI (wI μ a0_spelled ((hI μ a0 64).toNatClampNeg) (vp_nar .byte x1.toInt8.toInt32)) a0 64 (v2 + 1)))) :
    J μ 0 0 0 [(0, .ref a0), (1, .int x1)] [] := by
  refine r_aload_n g dX12_says_0 rfl ?_
  refine r_getR g fX12_103 rfl hs_a0 hr_a0_spelled dX12_says_1 ?_
  refine r_aload_n g dX12_says_4 rfl ?_
  refine r_getI g fX12_473 rfl hs_a0 dX12_says_5 ?_
  refine r_iload_n g dX12_says_8 rfl ?_
  refine r_i2b g dX12_says_9 ?_
  obtain ⟨hi1, h⟩ := h
  refine r_bastore g hs_a0_spelled hi1 dX12_says_10 ?_
  refine r_aload_n g dX12_says_11 rfl ?_
  refine r_dup g dX12_says_12 rfl ?_
  refine r_getI g fX12_473 rfl hs_a0 dX12_says_13 ?_
  refine r_nmI (fun v2 ev2 => ?_)
  replace h := h v2 ev2
  refine r_iconst g 1 dX12_says_16 (by decide) ?_
  refine r_iadd g dX12_says_17 ?_
  refine r_putI g fX12_473 rfl hs_a0 rfl rfl dX12_says_18 ?_
  exact hr.1 rfl _ _ _ _ _ dX12_says_21 (Nat.le_refl 0) (Nat.le_refl 0) h
theorem I_X12_says {d : Nat} {ro : Nat → Nat} {Z : Option Value → Hp → Prop} {μ : Hp} {a0 : Nat} {x1 : Int32} (h : ∀ J, xCtx RX12 cX12_says 2 d 0 0 yX12_says.name ro J → xRet cX12_says none 0 0 Z J → J μ 0 0 0 [(0, .ref a0), (1, .int x1)] []) : xC d yX12_says cX12_says 2 none 0 0 [.ref a0, .int x1] μ ro Z :=
  xC_intro (own := RX12) (lv := [(0, .ref a0), (1, .int x1)]) (by decide) rfl (Nat.le_of_ble_eq_true rfl) rfl (fun J g hr => r_sub g (lv' := [(0, .ref a0), (1, .int x1)]) (⟨rfl, rfl, trivial⟩) (h J g hr))
theorem dX12_saysName_0 : decode cX12_saysName 0 = .ok (.iconst 0, 1) := by decide +kernel
theorem dX12_saysName_1 : decode cX12_saysName 1 = .ok (.istore_n 2, 1) := by decide +kernel
theorem dX12_saysName_2 : decode cX12_saysName 2 = .ok (.iload_n 2, 1) := by decide +kernel
theorem dX12_saysName_3 : decode cX12_saysName 3 = .ok (.aload_n 0, 1) := by decide +kernel
theorem dX12_saysName_4 : decode cX12_saysName 4 = .ok (.getfield 48, 3) := by decide +kernel
theorem dX12_saysName_7 : decode cX12_saysName 7 = .ok (.iload_n 1, 1) := by decide +kernel
theorem dX12_saysName_8 : decode cX12_saysName 8 = .ok (.laload, 1) := by decide +kernel
theorem dX12_saysName_9 : decode cX12_saysName 9 = .ok (.invokestatic 457, 3) := by decide +kernel
theorem dX12_saysName_12 : decode cX12_saysName 12 = .ok (.if_icmp .ge 23, 3) := by decide +kernel
theorem dX12_saysName_15 : decode cX12_saysName 15 = .ok (.aload_n 0, 1) := by decide +kernel
theorem dX12_saysName_16 : decode cX12_saysName 16 = .ok (.aload_n 0, 1) := by decide +kernel
theorem dX12_saysName_17 : decode cX12_saysName 17 = .ok (.getfield 48, 3) := by decide +kernel
theorem dX12_saysName_20 : decode cX12_saysName 20 = .ok (.iload_n 1, 1) := by decide +kernel
theorem dX12_saysName_21 : decode cX12_saysName 21 = .ok (.laload, 1) := by decide +kernel
theorem dX12_saysName_22 : decode cX12_saysName 22 = .ok (.iload_n 2, 1) := by decide +kernel
theorem dX12_saysName_23 : decode cX12_saysName 23 = .ok (.invokestatic 462, 3) := by decide +kernel
theorem dX12_saysName_26 : decode cX12_saysName 26 = .ok (.invokevirtual 476, 3) := by decide +kernel
theorem dX12_saysName_29 : decode cX12_saysName 29 = .ok (.iinc 2 1, 3) := by decide +kernel
theorem dX12_saysName_32 : decode cX12_saysName 32 = .ok (.goto (-30), 3) := by decide +kernel
theorem dX12_saysName_35 : decode cX12_saysName 35 = .ok (.return_, 1) := by decide +kernel
set_option maxHeartbeats 4000000 in
set_option maxRecDepth 100000 in
theorem B_X12_saysName_0 {d : Nat} {ro : Nat → Nat} {J : JT} {Z : Option Value → Hp → Prop} (g : xCtx RX12 cX12_saysName 3 d 0 0 yX12_saysName.name ro J) (hr : xRet cX12_saysName none 0 0 Z J) {μ : Hp} {a0 : Nat} {x1 : Int32} 
    (h : J μ 0 0 2 [(0, .ref a0), (1, .int x1), (2, .int 0)] []) :
    J μ 0 0 0 [(0, .ref a0), (1, .int x1)] [] := by
  refine r_iconst g 0 dX12_saysName_0 (by decide) ?_
  refine r_istore_n g [(2, .int 0), (0, .ref a0), (1, .int x1)] dX12_saysName_1 (by decide) rfl ?_
  refine r_sub g (lv' := [(0, .ref a0), (1, .int x1), (2, .int 0)]) (⟨rfl, rfl, rfl, trivial⟩) ?_
  exact h
set_option maxHeartbeats 4000000 in
set_option maxRecDepth 100000 in
theorem B_X12_saysName_2 {d : Nat} {ro : Nat → Nat} {J : JT} {Z : Option Value → Hp → Prop} (g : xCtx RX12 cX12_saysName 3 d 0 0 yX12_saysName.name ro J) (hr : xRet cX12_saysName none 0 0 Z J) {μ : Hp} {a0 : Nat} {x1 : Int32} {x2 : Int32} {a0_firmName : Nat} {N_a0_firmName : Nat} (hs_a0 : hS μ a0 = some (15, 65)) (hr_a0_firmName : hR μ a0 18 = some a0_firmName) (hs_a0_firmName : hS μ a0_firmName = some (2, N_a0_firmName))
    (h : vp_in x1 N_a0_firmName ∧ xCall d yX12_lettersOf cX12_lettersOf 3 (some .int) [.long (hL μ a0_firmName x1.toNatClampNeg)] μ ro (fun r2 μ3 => ∃ y4 : Int32, r2 = some (.int y4) ∧ ((y4 ≤ x2 → Z none μ3) ∧ (¬ y4 ≤ x2 → hS μ3 a0 = some (15, 65) ∧ ∃ firmName_6 : Nat, hR μ3 a0 18 = some firmName_6 ∧ ∃ N7 : Nat, hS μ3 firmName_6 = some (2, N7) ∧ vp_in x1 N7 ∧ xCall d yX12_letterOf cX12_letterOf 3 (some .int) [.long (hL μ3 firmName_6 x1.toNatClampNeg), .int x2] μ3 ro (fun r9 μ10 => ∃ y11 : Int32, r9 = some (.int y11) ∧ hS μ10 a0 = some (15, 65) ∧ xCall d yX12_says cX12_says 2 none [.ref a0, .int y11] μ10 ro (fun r12 μ13 => r12 = none ∧ J μ13 0 0 2 [(0, .ref a0), (1, .int x1), (2, .int (x2 + 1))] [])))))) :
    J μ 0 0 2 [(0, .ref a0), (1, .int x1), (2, .int x2)] [] := by
  refine r_iload_n g dX12_saysName_2 rfl ?_
  refine r_aload_n g dX12_saysName_3 rfl ?_
  refine r_getR g fX12_48 rfl hs_a0 hr_a0_firmName dX12_saysName_4 ?_
  refine r_iload_n g dX12_saysName_7 rfl ?_
  obtain ⟨hi1, h⟩ := h
  refine r_laload g hs_a0_firmName hi1 dX12_saysName_8 ?_
  obtain ⟨d1, Z1, hc1, hd1, h1⟩ := h
  refine r_callS (st := [.int x2]) (As := [.long (hL μ a0_firmName x1.toNatClampNeg)]) g sX12_457 iX12_lettersOf rfl (Nat.le_of_ble_eq_true rfl) dX12_saysName_9 hd1 (Nat.le_refl 0) (Nat.le_refl 0) hc1 (fun r2 μ3 hZ1 => ?_)
  replace h := h1 _ _ hZ1
  clear h1 hc1 hd1 hZ1 Z1 d1
  obtain ⟨y4, rfl, h⟩ := h
  refine r_icmp_ge g 35 dX12_saysName_12 (by decide) (fun c5 => ?_) (fun c5 => ?_)
  · replace h := h.1 c5
    exact hr.1 rfl _ _ _ _ _ dX12_saysName_35 (Nat.le_refl 0) (Nat.le_refl 0) h
  · replace h := h.2 c5
    refine r_aload_n g dX12_saysName_15 rfl ?_
    refine r_aload_n g dX12_saysName_16 rfl ?_
    obtain ⟨hs_a0_, h⟩ := h
    obtain ⟨firmName_6, hr_firmName_6, h⟩ := h
    refine r_getR g fX12_48 rfl hs_a0_ hr_firmName_6 dX12_saysName_17 ?_
    refine r_iload_n g dX12_saysName_20 rfl ?_
    obtain ⟨N7, hs_firmName_6, h⟩ := h
    obtain ⟨hi8, h⟩ := h
    refine r_laload g hs_firmName_6 hi8 dX12_saysName_21 ?_
    refine r_iload_n g dX12_saysName_22 rfl ?_
    obtain ⟨d1, Z1, hc1, hd1, h1⟩ := h
    refine r_callS (st := [.ref a0]) (As := [.long (hL μ3 firmName_6 x1.toNatClampNeg), .int x2]) g sX12_462 iX12_letterOf rfl (Nat.le_of_ble_eq_true rfl) dX12_saysName_23 hd1 (Nat.le_refl 0) (Nat.le_refl 0) hc1 (fun r9 μ10 hZ1 => ?_)
    replace h := h1 _ _ hZ1
    clear h1 hc1 hd1 hZ1 Z1 d1
    obtain ⟨y11, rfl, h⟩ := h
    obtain ⟨hs_a0__, h⟩ := h
    obtain ⟨d1, Z1, hc1, hd1, h1⟩ := h
    refine r_callV (st := []) (As := [.int y11]) g sX12_476 iX12_says eX12_says rfl hs_a0__ rfl (Nat.le_of_ble_eq_true rfl) dX12_saysName_26 hd1 (Nat.le_refl 0) (Nat.le_refl 0) hc1 (fun r12 μ13 hZ1 => ?_)
    replace h := h1 _ _ hZ1
    clear h1 hc1 hd1 hZ1 Z1 d1
    obtain ⟨rfl, h⟩ := h
    refine r_iinc g (x2 + 1) [(2, .int (x2 + 1)), (0, .ref a0), (1, .int x1)] dX12_saysName_29 rfl rfl (by decide) rfl ?_
    refine r_goto g 2 dX12_saysName_32 (by decide) ?_
    refine r_sub g (lv' := [(0, .ref a0), (1, .int x1), (2, .int (x2 + 1))]) (⟨rfl, rfl, rfl, trivial⟩) ?_
    exact h
theorem I_X12_saysName {d : Nat} {ro : Nat → Nat} {Z : Option Value → Hp → Prop} {μ : Hp} {a0 : Nat} {x1 : Int32} (h : ∀ J, xCtx RX12 cX12_saysName 3 d 0 0 yX12_saysName.name ro J → xRet cX12_saysName none 0 0 Z J → J μ 0 0 0 [(0, .ref a0), (1, .int x1)] []) : xC d yX12_saysName cX12_saysName 3 none 0 0 [.ref a0, .int x1] μ ro Z :=
  xC_intro (own := RX12) (lv := [(0, .ref a0), (1, .int x1)]) (by decide) rfl (Nat.le_of_ble_eq_true rfl) rfl (fun J g hr => r_sub g (lv' := [(0, .ref a0), (1, .int x1)]) (⟨rfl, rfl, trivial⟩) (h J g hr))
theorem dX12_saysNumber_0 : decode cX12_saysNumber 0 = .ok (.iload_n 1, 1) := by decide +kernel
theorem dX12_saysNumber_1 : decode cX12_saysNumber 1 = .ok (.bipush 10, 2) := by decide +kernel
theorem dX12_saysNumber_3 : decode cX12_saysNumber 3 = .ok (.if_icmp .lt 11, 3) := by decide +kernel
theorem dX12_saysNumber_6 : decode cX12_saysNumber 6 = .ok (.aload_n 0, 1) := by decide +kernel
theorem dX12_saysNumber_7 : decode cX12_saysNumber 7 = .ok (.iload_n 1, 1) := by decide +kernel
theorem dX12_saysNumber_8 : decode cX12_saysNumber 8 = .ok (.bipush 10, 2) := by decide +kernel
theorem dX12_saysNumber_10 : decode cX12_saysNumber 10 = .ok (.idiv, 1) := by decide +kernel
theorem dX12_saysNumber_11 : decode cX12_saysNumber 11 = .ok (.invokevirtual 479, 3) := by decide +kernel
theorem dX12_saysNumber_14 : decode cX12_saysNumber 14 = .ok (.aload_n 0, 1) := by decide +kernel
theorem dX12_saysNumber_15 : decode cX12_saysNumber 15 = .ok (.bipush 48, 2) := by decide +kernel
theorem dX12_saysNumber_17 : decode cX12_saysNumber 17 = .ok (.iload_n 1, 1) := by decide +kernel
theorem dX12_saysNumber_18 : decode cX12_saysNumber 18 = .ok (.bipush 10, 2) := by decide +kernel
theorem dX12_saysNumber_20 : decode cX12_saysNumber 20 = .ok (.irem, 1) := by decide +kernel
theorem dX12_saysNumber_21 : decode cX12_saysNumber 21 = .ok (.iadd, 1) := by decide +kernel
theorem dX12_saysNumber_22 : decode cX12_saysNumber 22 = .ok (.invokevirtual 476, 3) := by decide +kernel
theorem dX12_saysNumber_25 : decode cX12_saysNumber 25 = .ok (.return_, 1) := by decide +kernel
set_option maxHeartbeats 4000000 in
set_option maxRecDepth 100000 in
theorem B_X12_saysNumber_0 {d : Nat} {ro : Nat → Nat} {J : JT} {Z : Option Value → Hp → Prop} (g : xCtx RX12 cX12_saysNumber 2 d 0 0 yX12_saysNumber.name ro J) (hr : xRet cX12_saysNumber none 0 0 Z J) {μ : Hp} {a0 : Nat} {x1 : Int32} (hs_a0 : hS μ a0 = some (15, 65))
    (h : ((x1 < 10 → xCall d yX12_says cX12_says 2 none [.ref a0, .int (48 + (x1 - x1 / 10 * 10))] μ ro (fun r2 μ3 => r2 = none ∧ Z none μ3)) ∧ (¬ x1 < 10 → xCall d yX12_saysNumber cX12_saysNumber 2 none [.ref a0, .int (x1 / 10)] μ ro (fun r4 μ5 => r4 = none ∧ hS μ5 a0 = some (15, 65) ∧ xCall d yX12_says cX12_says 2 none [.ref a0, .int (48 + (x1 - x1 / 10 * 10))] μ5 ro (fun r6 μ7 => r6 = none ∧ Z none μ7))))) :
    J μ 0 0 0 [(0, .ref a0), (1, .int x1)] [] := by
  refine r_iload_n g dX12_saysNumber_0 rfl ?_
  refine r_bipush g 10 dX12_saysNumber_1 (by decide) ?_
  refine r_icmp_lt g 14 dX12_saysNumber_3 (by decide) (fun c1 => ?_) (fun c1 => ?_)
  · replace h := h.1 c1
    refine r_aload_n g dX12_saysNumber_14 rfl ?_
    refine r_bipush g 48 dX12_saysNumber_15 (by decide) ?_
    refine r_iload_n g dX12_saysNumber_17 rfl ?_
    refine r_bipush g 10 dX12_saysNumber_18 (by decide) ?_
    refine r_irem g (by decide) dX12_saysNumber_20 ?_
    refine r_iadd g dX12_saysNumber_21 ?_
    obtain ⟨d1, Z1, hc1, hd1, h1⟩ := h
    refine r_callV (st := []) (As := [.int (48 + (x1 - x1 / 10 * 10))]) g sX12_476 iX12_says eX12_says rfl hs_a0 rfl (Nat.le_of_ble_eq_true rfl) dX12_saysNumber_22 hd1 (Nat.le_refl 0) (Nat.le_refl 0) hc1 (fun r2 μ3 hZ1 => ?_)
    replace h := h1 _ _ hZ1
    clear h1 hc1 hd1 hZ1 Z1 d1
    obtain ⟨rfl, h⟩ := h
    exact hr.1 rfl _ _ _ _ _ dX12_saysNumber_25 (Nat.le_refl 0) (Nat.le_refl 0) h
  · replace h := h.2 c1
    refine r_aload_n g dX12_saysNumber_6 rfl ?_
    refine r_iload_n g dX12_saysNumber_7 rfl ?_
    refine r_bipush g 10 dX12_saysNumber_8 (by decide) ?_
    refine r_idiv g (by decide) dX12_saysNumber_10 ?_
    obtain ⟨d1, Z1, hc1, hd1, h1⟩ := h
    refine r_callV (st := []) (As := [.int (x1 / 10)]) g sX12_479 iX12_saysNumber eX12_saysNumber rfl hs_a0 rfl (Nat.le_of_ble_eq_true rfl) dX12_saysNumber_11 hd1 (Nat.le_refl 0) (Nat.le_refl 0) hc1 (fun r4 μ5 hZ1 => ?_)
    replace h := h1 _ _ hZ1
    clear h1 hc1 hd1 hZ1 Z1 d1
    obtain ⟨rfl, h⟩ := h
    refine r_aload_n g dX12_saysNumber_14 rfl ?_
    refine r_bipush g 48 dX12_saysNumber_15 (by decide) ?_
    refine r_iload_n g dX12_saysNumber_17 rfl ?_
    refine r_bipush g 10 dX12_saysNumber_18 (by decide) ?_
    refine r_irem g (by decide) dX12_saysNumber_20 ?_
    refine r_iadd g dX12_saysNumber_21 ?_
    obtain ⟨hs_a0__, h⟩ := h
    obtain ⟨d1, Z1, hc1, hd1, h1⟩ := h
    refine r_callV (st := []) (As := [.int (48 + (x1 - x1 / 10 * 10))]) g sX12_476 iX12_says eX12_says rfl hs_a0__ rfl (Nat.le_of_ble_eq_true rfl) dX12_saysNumber_22 hd1 (Nat.le_refl 0) (Nat.le_refl 0) hc1 (fun r6 μ7 hZ1 => ?_)
    replace h := h1 _ _ hZ1
    clear h1 hc1 hd1 hZ1 Z1 d1
    obtain ⟨rfl, h⟩ := h
    exact hr.1 rfl _ _ _ _ _ dX12_saysNumber_25 (Nat.le_refl 0) (Nat.le_refl 0) h
theorem I_X12_saysNumber {d : Nat} {ro : Nat → Nat} {Z : Option Value → Hp → Prop} {μ : Hp} {a0 : Nat} {x1 : Int32} (h : ∀ J, xCtx RX12 cX12_saysNumber 2 d 0 0 yX12_saysNumber.name ro J → xRet cX12_saysNumber none 0 0 Z J → J μ 0 0 0 [(0, .ref a0), (1, .int x1)] []) : xC d yX12_saysNumber cX12_saysNumber 2 none 0 0 [.ref a0, .int x1] μ ro Z :=
  xC_intro (own := RX12) (lv := [(0, .ref a0), (1, .int x1)]) (by decide) rfl (Nat.le_of_ble_eq_true rfl) rfl (fun J g hr => r_sub g (lv' := [(0, .ref a0), (1, .int x1)]) (⟨rfl, rfl, trivial⟩) (h J g hr))
theorem dX12_spells_0 : decode cX12_spells 0 = .ok (.aload_n 0, 1) := by decide +kernel
theorem dX12_spells_1 : decode cX12_spells 1 = .ok (.iconst 0, 1) := by decide +kernel
theorem dX12_spells_2 : decode cX12_spells 2 = .ok (.putfield 473, 3) := by decide +kernel
theorem dX12_spells_5 : decode cX12_spells 5 = .ok (.aload_n 0, 1) := by decide +kernel
theorem dX12_spells_6 : decode cX12_spells 6 = .ok (.aload_n 0, 1) := by decide +kernel
theorem dX12_spells_7 : decode cX12_spells 7 = .ok (.getfield 79, 3) := by decide +kernel
theorem dX12_spells_10 : decode cX12_spells 10 = .ok (.iconst 0, 1) := by decide +kernel
theorem dX12_spells_11 : decode cX12_spells 11 = .ok (.iaload, 1) := by decide +kernel
theorem dX12_spells_12 : decode cX12_spells 12 = .ok (.invokevirtual 482, 3) := by decide +kernel
theorem dX12_spells_15 : decode cX12_spells 15 = .ok (.iconst 0, 1) := by decide +kernel
theorem dX12_spells_16 : decode cX12_spells 16 = .ok (.istore_n 1, 1) := by decide +kernel
theorem dX12_spells_17 : decode cX12_spells 17 = .ok (.iload_n 1, 1) := by decide +kernel
theorem dX12_spells_18 : decode cX12_spells 18 = .ok (.aload_n 0, 1) := by decide +kernel
theorem dX12_spells_19 : decode cX12_spells 19 = .ok (.getfield 306, 3) := by decide +kernel
theorem dX12_spells_22 : decode cX12_spells 22 = .ok (.if_icmp .ge 114, 3) := by decide +kernel
theorem dX12_spells_25 : decode cX12_spells 25 = .ok (.aload_n 0, 1) := by decide +kernel
theorem dX12_spells_26 : decode cX12_spells 26 = .ok (.bipush 32, 2) := by decide +kernel
theorem dX12_spells_28 : decode cX12_spells 28 = .ok (.invokevirtual 476, 3) := by decide +kernel
theorem dX12_spells_31 : decode cX12_spells 31 = .ok (.aload_n 0, 1) := by decide +kernel
theorem dX12_spells_32 : decode cX12_spells 32 = .ok (.bipush 62, 2) := by decide +kernel
theorem dX12_spells_34 : decode cX12_spells 34 = .ok (.invokevirtual 476, 3) := by decide +kernel
theorem dX12_spells_37 : decode cX12_spells 37 = .ok (.aload_n 0, 1) := by decide +kernel
theorem dX12_spells_38 : decode cX12_spells 38 = .ok (.aload_n 0, 1) := by decide +kernel
theorem dX12_spells_39 : decode cX12_spells 39 = .ok (.getfield 82, 3) := by decide +kernel
theorem dX12_spells_42 : decode cX12_spells 42 = .ok (.iload_n 1, 1) := by decide +kernel
theorem dX12_spells_43 : decode cX12_spells 43 = .ok (.iaload, 1) := by decide +kernel
theorem dX12_spells_44 : decode cX12_spells 44 = .ok (.bipush 10, 2) := by decide +kernel
theorem dX12_spells_46 : decode cX12_spells 46 = .ok (.idiv, 1) := by decide +kernel
theorem dX12_spells_47 : decode cX12_spells 47 = .ok (.invokevirtual 479, 3) := by decide +kernel
theorem dX12_spells_50 : decode cX12_spells 50 = .ok (.aload_n 0, 1) := by decide +kernel
theorem dX12_spells_51 : decode cX12_spells 51 = .ok (.getfield 82, 3) := by decide +kernel
theorem dX12_spells_54 : decode cX12_spells 54 = .ok (.iload_n 1, 1) := by decide +kernel
theorem dX12_spells_55 : decode cX12_spells 55 = .ok (.iaload, 1) := by decide +kernel
theorem dX12_spells_56 : decode cX12_spells 56 = .ok (.bipush 10, 2) := by decide +kernel
theorem dX12_spells_58 : decode cX12_spells 58 = .ok (.irem, 1) := by decide +kernel
theorem dX12_spells_59 : decode cX12_spells 59 = .ok (.ifCond .le 22, 3) := by decide +kernel
theorem dX12_spells_62 : decode cX12_spells 62 = .ok (.aload_n 0, 1) := by decide +kernel
theorem dX12_spells_63 : decode cX12_spells 63 = .ok (.bipush 46, 2) := by decide +kernel
theorem dX12_spells_65 : decode cX12_spells 65 = .ok (.invokevirtual 476, 3) := by decide +kernel
theorem dX12_spells_68 : decode cX12_spells 68 = .ok (.aload_n 0, 1) := by decide +kernel
theorem dX12_spells_69 : decode cX12_spells 69 = .ok (.aload_n 0, 1) := by decide +kernel
theorem dX12_spells_70 : decode cX12_spells 70 = .ok (.getfield 82, 3) := by decide +kernel
theorem dX12_spells_73 : decode cX12_spells 73 = .ok (.iload_n 1, 1) := by decide +kernel
theorem dX12_spells_74 : decode cX12_spells 74 = .ok (.iaload, 1) := by decide +kernel
theorem dX12_spells_75 : decode cX12_spells 75 = .ok (.bipush 10, 2) := by decide +kernel
theorem dX12_spells_77 : decode cX12_spells 77 = .ok (.irem, 1) := by decide +kernel
theorem dX12_spells_78 : decode cX12_spells 78 = .ok (.invokevirtual 479, 3) := by decide +kernel
theorem dX12_spells_81 : decode cX12_spells 81 = .ok (.aload_n 0, 1) := by decide +kernel
theorem dX12_spells_82 : decode cX12_spells 82 = .ok (.bipush 37, 2) := by decide +kernel
theorem dX12_spells_84 : decode cX12_spells 84 = .ok (.invokevirtual 476, 3) := by decide +kernel
theorem dX12_spells_87 : decode cX12_spells 87 = .ok (.aload_n 0, 1) := by decide +kernel
theorem dX12_spells_88 : decode cX12_spells 88 = .ok (.getfield 85, 3) := by decide +kernel
theorem dX12_spells_91 : decode cX12_spells 91 = .ok (.iload_n 1, 1) := by decide +kernel
theorem dX12_spells_92 : decode cX12_spells 92 = .ok (.iaload, 1) := by decide +kernel
theorem dX12_spells_93 : decode cX12_spells 93 = .ok (.ifCond .eq 19, 3) := by decide +kernel
theorem dX12_spells_96 : decode cX12_spells 96 = .ok (.aload_n 0, 1) := by decide +kernel
theorem dX12_spells_97 : decode cX12_spells 97 = .ok (.bipush 33, 2) := by decide +kernel
theorem dX12_spells_99 : decode cX12_spells 99 = .ok (.invokevirtual 476, 3) := by decide +kernel
theorem dX12_spells_102 : decode cX12_spells 102 = .ok (.aload_n 0, 1) := by decide +kernel
theorem dX12_spells_103 : decode cX12_spells 103 = .ok (.aload_n 0, 1) := by decide +kernel
theorem dX12_spells_104 : decode cX12_spells 104 = .ok (.getfield 85, 3) := by decide +kernel
theorem dX12_spells_107 : decode cX12_spells 107 = .ok (.iload_n 1, 1) := by decide +kernel
theorem dX12_spells_108 : decode cX12_spells 108 = .ok (.iaload, 1) := by decide +kernel
theorem dX12_spells_109 : decode cX12_spells 109 = .ok (.invokevirtual 479, 3) := by decide +kernel
theorem dX12_spells_112 : decode cX12_spells 112 = .ok (.aload_n 0, 1) := by decide +kernel
theorem dX12_spells_113 : decode cX12_spells 113 = .ok (.bipush 32, 2) := by decide +kernel
theorem dX12_spells_115 : decode cX12_spells 115 = .ok (.invokevirtual 476, 3) := by decide +kernel
theorem dX12_spells_118 : decode cX12_spells 118 = .ok (.aload_n 0, 1) := by decide +kernel
theorem dX12_spells_119 : decode cX12_spells 119 = .ok (.aload_n 0, 1) := by decide +kernel
theorem dX12_spells_120 : decode cX12_spells 120 = .ok (.getfield 79, 3) := by decide +kernel
theorem dX12_spells_123 : decode cX12_spells 123 = .ok (.iload_n 1, 1) := by decide +kernel
theorem dX12_spells_124 : decode cX12_spells 124 = .ok (.iconst 1, 1) := by decide +kernel
theorem dX12_spells_125 : decode cX12_spells 125 = .ok (.iadd, 1) := by decide +kernel
theorem dX12_spells_126 : decode cX12_spells 126 = .ok (.iaload, 1) := by decide +kernel
theorem dX12_spells_127 : decode cX12_spells 127 = .ok (.invokevirtual 482, 3) := by decide +kernel
theorem dX12_spells_130 : decode cX12_spells 130 = .ok (.iinc 1 1, 3) := by decide +kernel
theorem dX12_spells_133 : decode cX12_spells 133 = .ok (.goto (-116), 3) := by decide +kernel
theorem dX12_spells_136 : decode cX12_spells 136 = .ok (.return_, 1) := by decide +kernel
set_option maxHeartbeats 4000000 in
set_option maxRecDepth 100000 in
theorem B_X12_spells_0 {d : Nat} {ro : Nat → Nat} {J : JT} {Z : Option Value → Hp → Prop} (g : xCtx RX12 cX12_spells 2 d 0 0 yX12_spells.name ro J) (hr : xRet cX12_spells none 0 0 Z J) {μ : Hp} {a0 : Nat} {a0_way : Nat} {N_a0_way : Nat} (hs_a0 : hS μ a0 = some (15, 65)) (hr_a0_way : hR μ a0 43 = some a0_way) (hs_a0_way : hS μ a0_way = some (0, N_a0_way))
    (h : vp_in 0 N_a0_way ∧ xCall d yX12_saysName cX12_saysName 3 none [.ref a0, .int (hI (wI μ a0 64 0) a0_way 0)] (wI μ a0 64 0) ro (fun r2 μ3 => r2 = none ∧ J μ3 0 0 17 [(0, .ref a0), (1, .int 0)] [])) :
    J μ 0 0 0 [(0, .ref a0)] [] := by
  refine r_aload_n g dX12_spells_0 rfl ?_
  refine r_iconst g 0 dX12_spells_1 (by decide) ?_
  refine r_putI g fX12_473 rfl hs_a0 rfl rfl dX12_spells_2 ?_
  refine r_aload_n g dX12_spells_5 rfl ?_
  refine r_aload_n g dX12_spells_6 rfl ?_
  refine r_getR g fX12_79 rfl hs_a0 hr_a0_way dX12_spells_7 ?_
  refine r_iconst g 0 dX12_spells_10 (by decide) ?_
  obtain ⟨hi1, h⟩ := h
  refine r_iaload g hs_a0_way hi1 dX12_spells_11 ?_
  obtain ⟨d1, Z1, hc1, hd1, h1⟩ := h
  refine r_callV (st := []) (As := [.int (hI (wI μ a0 64 0) a0_way 0)]) g sX12_482 iX12_saysName eX12_saysName rfl hs_a0 rfl (Nat.le_of_ble_eq_true rfl) dX12_spells_12 hd1 (Nat.le_refl 0) (Nat.le_refl 0) hc1 (fun r2 μ3 hZ1 => ?_)
  replace h := h1 _ _ hZ1
  clear h1 hc1 hd1 hZ1 Z1 d1
  obtain ⟨rfl, h⟩ := h
  refine r_iconst g 0 dX12_spells_15 (by decide) ?_
  refine r_istore_n g [(1, .int 0), (0, .ref a0)] dX12_spells_16 (by decide) rfl ?_
  refine r_sub g (lv' := [(0, .ref a0), (1, .int 0)]) (⟨rfl, rfl, trivial⟩) ?_
  exact h
set_option maxHeartbeats 4000000 in
set_option maxRecDepth 100000 in
theorem B_X12_spells_17 {d : Nat} {ro : Nat → Nat} {J : JT} {Z : Option Value → Hp → Prop} (g : xCtx RX12 cX12_spells 2 d 0 0 yX12_spells.name ro J) (hr : xRet cX12_spells none 0 0 Z J) {μ : Hp} {a0 : Nat} {x1 : Int32} (hs_a0 : hS μ a0 = some (15, 65))
    (h : (((hI μ a0 50) ≤ x1 → Z none μ) ∧ (¬ (hI μ a0 50) ≤ x1 → xCall d yX12_says cX12_says 2 none [.ref a0, .int 32] μ ro (fun r2 μ3 => r2 = none ∧ hS μ3 a0 = some (15, 65) ∧ xCall d yX12_says cX12_says 2 none [.ref a0, .int 62] μ3 ro (fun r4 μ5 => r4 = none ∧ hS μ5 a0 = some (15, 65) ∧ ∃ rates_6 : Nat, hR μ5 a0 44 = some rates_6 ∧ ∃ N7 : Nat, hS μ5 rates_6 = some (0, N7) ∧ vp_in x1 N7 ∧ xCall d yX12_saysNumber cX12_saysNumber 2 none [.ref a0, .int ((hI μ5 rates_6 x1.toNatClampNeg) / 10)] μ5 ro (fun r9 μ10 => r9 = none ∧ hS μ10 a0 = some (15, 65) ∧ ∃ rates_11 : Nat, hR μ10 a0 44 = some rates_11 ∧ ∃ N12 : Nat, hS μ10 rates_11 = some (0, N12) ∧ vp_in x1 N12 ∧ (∀ v14 : Int32, v14 = ((hI μ10 rates_11 x1.toNatClampNeg) - (hI μ10 rates_11 x1.toNatClampNeg) / 10 * 10) → ((v14 ≤ 0 → J μ10 0 0 81 [(0, .ref a0), (1, .int x1)] []) ∧ (¬ v14 ≤ 0 → xCall d yX12_says cX12_says 2 none [.ref a0, .int 46] μ10 ro (fun r16 μ17 => r16 = none ∧ hS μ17 a0 = some (15, 65) ∧ ∃ rates_18 : Nat, hR μ17 a0 44 = some rates_18 ∧ ∃ N19 : Nat, hS μ17 rates_18 = some (0, N19) ∧ vp_in x1 N19 ∧ (∀ v21 : Int32, v21 = ((hI μ17 rates_18 x1.toNatClampNeg) - (hI μ17 rates_18 x1.toNatClampNeg) / 10 * 10) → xCall d yX12_saysNumber cX12_saysNumber 2 none [.ref a0, .int v21] μ17 ro (fun r22 μ23 => r22 = none ∧ J μ23 0 0 81 [(0, .ref a0), (1, .int x1)] [])))))))))))) :
    J μ 0 0 17 [(0, .ref a0), (1, .int x1)] [] := by
  refine r_iload_n g dX12_spells_17 rfl ?_
  refine r_aload_n g dX12_spells_18 rfl ?_
  refine r_getI g fX12_306 rfl hs_a0 dX12_spells_19 ?_
  refine r_icmp_ge g 136 dX12_spells_22 (by decide) (fun c1 => ?_) (fun c1 => ?_)
  · replace h := h.1 c1
    exact hr.1 rfl _ _ _ _ _ dX12_spells_136 (Nat.le_refl 0) (Nat.le_refl 0) h
  · replace h := h.2 c1
    refine r_aload_n g dX12_spells_25 rfl ?_
    refine r_bipush g 32 dX12_spells_26 (by decide) ?_
    obtain ⟨d1, Z1, hc1, hd1, h1⟩ := h
    refine r_callV (st := []) (As := [.int 32]) g sX12_476 iX12_says eX12_says rfl hs_a0 rfl (Nat.le_of_ble_eq_true rfl) dX12_spells_28 hd1 (Nat.le_refl 0) (Nat.le_refl 0) hc1 (fun r2 μ3 hZ1 => ?_)
    replace h := h1 _ _ hZ1
    clear h1 hc1 hd1 hZ1 Z1 d1
    obtain ⟨rfl, h⟩ := h
    refine r_aload_n g dX12_spells_31 rfl ?_
    refine r_bipush g 62 dX12_spells_32 (by decide) ?_
    obtain ⟨hs_a0_, h⟩ := h
    obtain ⟨d1, Z1, hc1, hd1, h1⟩ := h
    refine r_callV (st := []) (As := [.int 62]) g sX12_476 iX12_says eX12_says rfl hs_a0_ rfl (Nat.le_of_ble_eq_true rfl) dX12_spells_34 hd1 (Nat.le_refl 0) (Nat.le_refl 0) hc1 (fun r4 μ5 hZ1 => ?_)
    replace h := h1 _ _ hZ1
    clear h1 hc1 hd1 hZ1 Z1 d1
    obtain ⟨rfl, h⟩ := h
    refine r_aload_n g dX12_spells_37 rfl ?_
    refine r_aload_n g dX12_spells_38 rfl ?_
    obtain ⟨hs_a0__, h⟩ := h
    obtain ⟨rates_6, hr_rates_6, h⟩ := h
    refine r_getR g fX12_82 rfl hs_a0__ hr_rates_6 dX12_spells_39 ?_
    refine r_iload_n g dX12_spells_42 rfl ?_
    obtain ⟨N7, hs_rates_6, h⟩ := h
    obtain ⟨hi8, h⟩ := h
    refine r_iaload g hs_rates_6 hi8 dX12_spells_43 ?_
    refine r_bipush g 10 dX12_spells_44 (by decide) ?_
    refine r_idiv g (by decide) dX12_spells_46 ?_
    obtain ⟨d1, Z1, hc1, hd1, h1⟩ := h
    refine r_callV (st := []) (As := [.int ((hI μ5 rates_6 x1.toNatClampNeg) / 10)]) g sX12_479 iX12_saysNumber eX12_saysNumber rfl hs_a0__ rfl (Nat.le_of_ble_eq_true rfl) dX12_spells_47 hd1 (Nat.le_refl 0) (Nat.le_refl 0) hc1 (fun r9 μ10 hZ1 => ?_)
    replace h := h1 _ _ hZ1
    clear h1 hc1 hd1 hZ1 Z1 d1
    obtain ⟨rfl, h⟩ := h
    refine r_aload_n g dX12_spells_50 rfl ?_
    obtain ⟨hs_a0___, h⟩ := h
    obtain ⟨rates_11, hr_rates_11, h⟩ := h
    refine r_getR g fX12_82 rfl hs_a0___ hr_rates_11 dX12_spells_51 ?_
    refine r_iload_n g dX12_spells_54 rfl ?_
    obtain ⟨N12, hs_rates_11, h⟩ := h
    obtain ⟨hi13, h⟩ := h
    refine r_iaload g hs_rates_11 hi13 dX12_spells_55 ?_
    refine r_bipush g 10 dX12_spells_56 (by decide) ?_
    refine r_irem g (by decide) dX12_spells_58 ?_
    refine r_nmI (fun v14 ev14 => ?_)
    replace h := h v14 ev14
    refine r_if_le g 81 dX12_spells_59 (by decide) (fun c15 => ?_) (fun c15 => ?_)
    · replace h := h.1 c15
      refine r_sub g (lv' := [(0, .ref a0), (1, .int x1)]) (⟨rfl, rfl, trivial⟩) ?_
      exact h
    · replace h := h.2 c15
      refine r_aload_n g dX12_spells_62 rfl ?_
      refine r_bipush g 46 dX12_spells_63 (by decide) ?_
      obtain ⟨d1, Z1, hc1, hd1, h1⟩ := h
      refine r_callV (st := []) (As := [.int 46]) g sX12_476 iX12_says eX12_says rfl hs_a0___ rfl (Nat.le_of_ble_eq_true rfl) dX12_spells_65 hd1 (Nat.le_refl 0) (Nat.le_refl 0) hc1 (fun r16 μ17 hZ1 => ?_)
      replace h := h1 _ _ hZ1
      clear h1 hc1 hd1 hZ1 Z1 d1
      obtain ⟨rfl, h⟩ := h
      refine r_aload_n g dX12_spells_68 rfl ?_
      refine r_aload_n g dX12_spells_69 rfl ?_
      obtain ⟨hs_a0____, h⟩ := h
      obtain ⟨rates_18, hr_rates_18, h⟩ := h
      refine r_getR g fX12_82 rfl hs_a0____ hr_rates_18 dX12_spells_70 ?_
      refine r_iload_n g dX12_spells_73 rfl ?_
      obtain ⟨N19, hs_rates_18, h⟩ := h
      obtain ⟨hi20, h⟩ := h
      refine r_iaload g hs_rates_18 hi20 dX12_spells_74 ?_
      refine r_bipush g 10 dX12_spells_75 (by decide) ?_
      refine r_irem g (by decide) dX12_spells_77 ?_
      refine r_nmI (fun v21 ev21 => ?_)
      replace h := h v21 ev21
      obtain ⟨d1, Z1, hc1, hd1, h1⟩ := h
      refine r_callV (st := []) (As := [.int v21]) g sX12_479 iX12_saysNumber eX12_saysNumber rfl hs_a0____ rfl (Nat.le_of_ble_eq_true rfl) dX12_spells_78 hd1 (Nat.le_refl 0) (Nat.le_refl 0) hc1 (fun r22 μ23 hZ1 => ?_)
      replace h := h1 _ _ hZ1
      clear h1 hc1 hd1 hZ1 Z1 d1
      obtain ⟨rfl, h⟩ := h
      refine r_sub g (lv' := [(0, .ref a0), (1, .int x1)]) (⟨rfl, rfl, trivial⟩) ?_
      exact h
set_option maxHeartbeats 4000000 in
set_option maxRecDepth 100000 in
theorem B_X12_spells_81 {d : Nat} {ro : Nat → Nat} {J : JT} {Z : Option Value → Hp → Prop} (g : xCtx RX12 cX12_spells 2 d 0 0 yX12_spells.name ro J) (hr : xRet cX12_spells none 0 0 Z J) {μ : Hp} {a0 : Nat} {x1 : Int32} (hs_a0 : hS μ a0 = some (15, 65))
    (h : xCall d yX12_says cX12_says 2 none [.ref a0, .int 37] μ ro (fun r1 μ2 => r1 = none ∧ hS μ2 a0 = some (15, 65) ∧ ∃ articles_3 : Nat, hR μ2 a0 45 = some articles_3 ∧ ∃ N4 : Nat, hS μ2 articles_3 = some (0, N4) ∧ vp_in x1 N4 ∧ (((hI μ2 articles_3 x1.toNatClampNeg) = 0 → xCall d yX12_says cX12_says 2 none [.ref a0, .int 32] μ2 ro (fun r7 μ8 => r7 = none ∧ hS μ8 a0 = some (15, 65) ∧ ∃ way_9 : Nat, hR μ8 a0 43 = some way_9 ∧ ∃ N10 : Nat, hS μ8 way_9 = some (0, N10) ∧ vp_in (x1 + 1) N10 ∧ xCall d yX12_saysName cX12_saysName 3 none [.ref a0, .int (hI μ8 way_9 ((x1 + 1).toNatClampNeg))] μ8 ro (fun r12 μ13 => r12 = none ∧ J μ13 0 0 17 [(0, .ref a0), (1, .int (x1 + 1))] []))) ∧ (¬ (hI μ2 articles_3 x1.toNatClampNeg) = 0 → xCall d yX12_says cX12_says 2 none [.ref a0, .int 33] μ2 ro (fun r14 μ15 => r14 = none ∧ hS μ15 a0 = some (15, 65) ∧ ∃ articles_16 : Nat, hR μ15 a0 45 = some articles_16 ∧ ∃ N17 : Nat, hS μ15 articles_16 = some (0, N17) ∧ vp_in x1 N17 ∧ xCall d yX12_saysNumber cX12_saysNumber 2 none [.ref a0, .int (hI μ15 articles_16 x1.toNatClampNeg)] μ15 ro (fun r19 μ20 => r19 = none ∧ hS μ20 a0 = some (15, 65) ∧ xCall d yX12_says cX12_says 2 none [.ref a0, .int 32] μ20 ro (fun r21 μ22 => r21 = none ∧ hS μ22 a0 = some (15, 65) ∧ ∃ way_23 : Nat, hR μ22 a0 43 = some way_23 ∧ ∃ N24 : Nat, hS μ22 way_23 = some (0, N24) ∧ vp_in (x1 + 1) N24 ∧ xCall d yX12_saysName cX12_saysName 3 none [.ref a0, .int (hI μ22 way_23 ((x1 + 1).toNatClampNeg))] μ22 ro (fun r26 μ27 => r26 = none ∧ J μ27 0 0 17 [(0, .ref a0), (1, .int (x1 + 1))] [])))))))) :
    J μ 0 0 81 [(0, .ref a0), (1, .int x1)] [] := by
  refine r_aload_n g dX12_spells_81 rfl ?_
  refine r_bipush g 37 dX12_spells_82 (by decide) ?_
  obtain ⟨d1, Z1, hc1, hd1, h1⟩ := h
  refine r_callV (st := []) (As := [.int 37]) g sX12_476 iX12_says eX12_says rfl hs_a0 rfl (Nat.le_of_ble_eq_true rfl) dX12_spells_84 hd1 (Nat.le_refl 0) (Nat.le_refl 0) hc1 (fun r1 μ2 hZ1 => ?_)
  replace h := h1 _ _ hZ1
  clear h1 hc1 hd1 hZ1 Z1 d1
  obtain ⟨rfl, h⟩ := h
  refine r_aload_n g dX12_spells_87 rfl ?_
  obtain ⟨hs_a0_, h⟩ := h
  obtain ⟨articles_3, hr_articles_3, h⟩ := h
  refine r_getR g fX12_85 rfl hs_a0_ hr_articles_3 dX12_spells_88 ?_
  refine r_iload_n g dX12_spells_91 rfl ?_
  obtain ⟨N4, hs_articles_3, h⟩ := h
  obtain ⟨hi5, h⟩ := h
  refine r_iaload g hs_articles_3 hi5 dX12_spells_92 ?_
  refine r_if_eq g 112 dX12_spells_93 (by decide) (fun c6 => ?_) (fun c6 => ?_)
  · replace h := h.1 c6
    refine r_aload_n g dX12_spells_112 rfl ?_
    refine r_bipush g 32 dX12_spells_113 (by decide) ?_
    obtain ⟨d1, Z1, hc1, hd1, h1⟩ := h
    refine r_callV (st := []) (As := [.int 32]) g sX12_476 iX12_says eX12_says rfl hs_a0_ rfl (Nat.le_of_ble_eq_true rfl) dX12_spells_115 hd1 (Nat.le_refl 0) (Nat.le_refl 0) hc1 (fun r7 μ8 hZ1 => ?_)
    replace h := h1 _ _ hZ1
    clear h1 hc1 hd1 hZ1 Z1 d1
    obtain ⟨rfl, h⟩ := h
    refine r_aload_n g dX12_spells_118 rfl ?_
    refine r_aload_n g dX12_spells_119 rfl ?_
    obtain ⟨hs_a0__, h⟩ := h
    obtain ⟨way_9, hr_way_9, h⟩ := h
    refine r_getR g fX12_79 rfl hs_a0__ hr_way_9 dX12_spells_120 ?_
    refine r_iload_n g dX12_spells_123 rfl ?_
    refine r_iconst g 1 dX12_spells_124 (by decide) ?_
    refine r_iadd g dX12_spells_125 ?_
    obtain ⟨N10, hs_way_9, h⟩ := h
    obtain ⟨hi11, h⟩ := h
    refine r_iaload g hs_way_9 hi11 dX12_spells_126 ?_
    obtain ⟨d1, Z1, hc1, hd1, h1⟩ := h
    refine r_callV (st := []) (As := [.int (hI μ8 way_9 ((x1 + 1).toNatClampNeg))]) g sX12_482 iX12_saysName eX12_saysName rfl hs_a0__ rfl (Nat.le_of_ble_eq_true rfl) dX12_spells_127 hd1 (Nat.le_refl 0) (Nat.le_refl 0) hc1 (fun r12 μ13 hZ1 => ?_)
    replace h := h1 _ _ hZ1
    clear h1 hc1 hd1 hZ1 Z1 d1
    obtain ⟨rfl, h⟩ := h
    refine r_iinc g (x1 + 1) [(1, .int (x1 + 1)), (0, .ref a0)] dX12_spells_130 rfl rfl (by decide) rfl ?_
    refine r_goto g 17 dX12_spells_133 (by decide) ?_
    refine r_sub g (lv' := [(0, .ref a0), (1, .int (x1 + 1))]) (⟨rfl, rfl, trivial⟩) ?_
    exact h
  · replace h := h.2 c6
    refine r_aload_n g dX12_spells_96 rfl ?_
    refine r_bipush g 33 dX12_spells_97 (by decide) ?_
    obtain ⟨d1, Z1, hc1, hd1, h1⟩ := h
    refine r_callV (st := []) (As := [.int 33]) g sX12_476 iX12_says eX12_says rfl hs_a0_ rfl (Nat.le_of_ble_eq_true rfl) dX12_spells_99 hd1 (Nat.le_refl 0) (Nat.le_refl 0) hc1 (fun r14 μ15 hZ1 => ?_)
    replace h := h1 _ _ hZ1
    clear h1 hc1 hd1 hZ1 Z1 d1
    obtain ⟨rfl, h⟩ := h
    refine r_aload_n g dX12_spells_102 rfl ?_
    refine r_aload_n g dX12_spells_103 rfl ?_
    obtain ⟨hs_a0___, h⟩ := h
    obtain ⟨articles_16, hr_articles_16, h⟩ := h
    refine r_getR g fX12_85 rfl hs_a0___ hr_articles_16 dX12_spells_104 ?_
    refine r_iload_n g dX12_spells_107 rfl ?_
    obtain ⟨N17, hs_articles_16, h⟩ := h
    obtain ⟨hi18, h⟩ := h
    refine r_iaload g hs_articles_16 hi18 dX12_spells_108 ?_
    obtain ⟨d1, Z1, hc1, hd1, h1⟩ := h
    refine r_callV (st := []) (As := [.int (hI μ15 articles_16 x1.toNatClampNeg)]) g sX12_479 iX12_saysNumber eX12_saysNumber rfl hs_a0___ rfl (Nat.le_of_ble_eq_true rfl) dX12_spells_109 hd1 (Nat.le_refl 0) (Nat.le_refl 0) hc1 (fun r19 μ20 hZ1 => ?_)
    replace h := h1 _ _ hZ1
    clear h1 hc1 hd1 hZ1 Z1 d1
    obtain ⟨rfl, h⟩ := h
    refine r_aload_n g dX12_spells_112 rfl ?_
    refine r_bipush g 32 dX12_spells_113 (by decide) ?_
    obtain ⟨hs_a0____, h⟩ := h
    obtain ⟨d1, Z1, hc1, hd1, h1⟩ := h
    refine r_callV (st := []) (As := [.int 32]) g sX12_476 iX12_says eX12_says rfl hs_a0____ rfl (Nat.le_of_ble_eq_true rfl) dX12_spells_115 hd1 (Nat.le_refl 0) (Nat.le_refl 0) hc1 (fun r21 μ22 hZ1 => ?_)
    replace h := h1 _ _ hZ1
    clear h1 hc1 hd1 hZ1 Z1 d1
    obtain ⟨rfl, h⟩ := h
    refine r_aload_n g dX12_spells_118 rfl ?_
    refine r_aload_n g dX12_spells_119 rfl ?_
    obtain ⟨hs_a0_____, h⟩ := h
    obtain ⟨way_23, hr_way_23, h⟩ := h
    refine r_getR g fX12_79 rfl hs_a0_____ hr_way_23 dX12_spells_120 ?_
    refine r_iload_n g dX12_spells_123 rfl ?_
    refine r_iconst g 1 dX12_spells_124 (by decide) ?_
    refine r_iadd g dX12_spells_125 ?_
    obtain ⟨N24, hs_way_23, h⟩ := h
    obtain ⟨hi25, h⟩ := h
    refine r_iaload g hs_way_23 hi25 dX12_spells_126 ?_
    obtain ⟨d1, Z1, hc1, hd1, h1⟩ := h
    refine r_callV (st := []) (As := [.int (hI μ22 way_23 ((x1 + 1).toNatClampNeg))]) g sX12_482 iX12_saysName eX12_saysName rfl hs_a0_____ rfl (Nat.le_of_ble_eq_true rfl) dX12_spells_127 hd1 (Nat.le_refl 0) (Nat.le_refl 0) hc1 (fun r26 μ27 hZ1 => ?_)
    replace h := h1 _ _ hZ1
    clear h1 hc1 hd1 hZ1 Z1 d1
    obtain ⟨rfl, h⟩ := h
    refine r_iinc g (x1 + 1) [(1, .int (x1 + 1)), (0, .ref a0)] dX12_spells_130 rfl rfl (by decide) rfl ?_
    refine r_goto g 17 dX12_spells_133 (by decide) ?_
    refine r_sub g (lv' := [(0, .ref a0), (1, .int (x1 + 1))]) (⟨rfl, rfl, trivial⟩) ?_
    exact h
theorem I_X12_spells {d : Nat} {ro : Nat → Nat} {Z : Option Value → Hp → Prop} {μ : Hp} {a0 : Nat} (h : ∀ J, xCtx RX12 cX12_spells 2 d 0 0 yX12_spells.name ro J → xRet cX12_spells none 0 0 Z J → J μ 0 0 0 [(0, .ref a0)] []) : xC d yX12_spells cX12_spells 2 none 0 0 [.ref a0] μ ro Z :=
  xC_intro (own := RX12) (lv := [(0, .ref a0)]) (by decide) rfl (Nat.le_of_ble_eq_true rfl) rfl (fun J g hr => r_sub g (lv' := [(0, .ref a0)]) (⟨rfl, trivial⟩) (h J g hr))
theorem dX12_spell_0 : decode cX12_spell 0 = .ok (.aload_n 0, 1) := by decide +kernel
theorem dX12_spell_1 : decode cX12_spell 1 = .ok (.iconst 0, 1) := by decide +kernel
theorem dX12_spell_2 : decode cX12_spell 2 = .ok (.putfield 106, 3) := by decide +kernel
theorem dX12_spell_5 : decode cX12_spell 5 = .ok (.aload_n 0, 1) := by decide +kernel
theorem dX12_spell_6 : decode cX12_spell 6 = .ok (.iload_n 1, 1) := by decide +kernel
theorem dX12_spell_7 : decode cX12_spell 7 = .ok (.iload_n 2, 1) := by decide +kernel
theorem dX12_spell_8 : decode cX12_spell 8 = .ok (.iload_n 3, 1) := by decide +kernel
theorem dX12_spell_9 : decode cX12_spell 9 = .ok (.iload 4, 2) := by decide +kernel
theorem dX12_spell_11 : decode cX12_spell 11 = .ok (.invokevirtual 470, 3) := by decide +kernel
theorem dX12_spell_14 : decode cX12_spell 14 = .ok (.ifCond .ne 5, 3) := by decide +kernel
theorem dX12_spell_17 : decode cX12_spell 17 = .ok (.iconst (-1), 1) := by decide +kernel
theorem dX12_spell_18 : decode cX12_spell 18 = .ok (.ireturn, 1) := by decide +kernel
theorem dX12_spell_19 : decode cX12_spell 19 = .ok (.aload_n 0, 1) := by decide +kernel
theorem dX12_spell_20 : decode cX12_spell 20 = .ok (.invokevirtual 485, 3) := by decide +kernel
theorem dX12_spell_23 : decode cX12_spell 23 = .ok (.iload 5, 2) := by decide +kernel
theorem dX12_spell_25 : decode cX12_spell 25 = .ok (.iconst (-1), 1) := by decide +kernel
theorem dX12_spell_26 : decode cX12_spell 26 = .ok (.if_icmp .ne 10, 3) := by decide +kernel
theorem dX12_spell_29 : decode cX12_spell 29 = .ok (.aload_n 0, 1) := by decide +kernel
theorem dX12_spell_30 : decode cX12_spell 30 = .ok (.getfield 473, 3) := by decide +kernel
theorem dX12_spell_33 : decode cX12_spell 33 = .ok (.goto 31, 3) := by decide +kernel
theorem dX12_spell_36 : decode cX12_spell 36 = .ok (.iload 5, 2) := by decide +kernel
theorem dX12_spell_38 : decode cX12_spell 38 = .ok (.i2l, 1) := by decide +kernel
theorem dX12_spell_39 : decode cX12_spell 39 = .ok (.lconst 0, 1) := by decide +kernel
theorem dX12_spell_40 : decode cX12_spell 40 = .ok (.aload_n 0, 1) := by decide +kernel
theorem dX12_spell_41 : decode cX12_spell 41 = .ok (.getfield 473, 3) := by decide +kernel
theorem dX12_spell_44 : decode cX12_spell 44 = .ok (.iconst 1, 1) := by decide +kernel
theorem dX12_spell_45 : decode cX12_spell 45 = .ok (.isub, 1) := by decide +kernel
theorem dX12_spell_46 : decode cX12_spell 46 = .ok (.i2l, 1) := by decide +kernel
theorem dX12_spell_47 : decode cX12_spell 47 = .ok (.invokestatic 161, 3) := by decide +kernel
theorem dX12_spell_50 : decode cX12_spell 50 = .ok (.ifCond .eq 13, 3) := by decide +kernel
theorem dX12_spell_53 : decode cX12_spell 53 = .ok (.aload_n 0, 1) := by decide +kernel
theorem dX12_spell_54 : decode cX12_spell 54 = .ok (.getfield 103, 3) := by decide +kernel
theorem dX12_spell_57 : decode cX12_spell 57 = .ok (.iload 5, 2) := by decide +kernel
theorem dX12_spell_59 : decode cX12_spell 59 = .ok (.baload, 1) := by decide +kernel
theorem dX12_spell_60 : decode cX12_spell 60 = .ok (.goto 4, 3) := by decide +kernel
theorem dX12_spell_63 : decode cX12_spell 63 = .ok (.iconst (-1), 1) := by decide +kernel
theorem dX12_spell_64 : decode cX12_spell 64 = .ok (.ireturn, 1) := by decide +kernel
set_option maxHeartbeats 4000000 in
set_option maxRecDepth 100000 in
theorem B_X12_spell_0 {d : Nat} {ro : Nat → Nat} {J : JT} {Z : Option Value → Hp → Prop} (g : xCtx RX12 cX12_spell 6 d 0 0 yX12_spell.name ro J) (hr : xRet cX12_spell (some .int) 0 0 Z J) {μ : Hp} {a0 : Nat} {x1 : Int32} {x2 : Int32} {x3 : Int32} {x4 : Int32} {x5 : Int32} (hs_a0 : hS μ a0 = some (15, 65))
    (h : xCall d yX12_finds cX12_finds 5 (some .boolean) [.ref a0, .int x1, .int x2, .int x3, .int x4] (wI μ a0 0 0) ro (fun r1 μ2 => ∃ y3 : Int32, r1 = some (.int y3) ∧ ((¬ y3 = 0 → hS μ2 a0 = some (15, 65) ∧ xCall d yX12_spells cX12_spells 2 none [.ref a0] μ2 ro (fun r5 μ6 => r5 = none ∧ ((¬ x5 = (-1) → hS μ6 a0 = some (15, 65) ∧ xCall d yX12_isIn cX12_isIn 6 (some .boolean) [.long x5.toInt64, .long 0, .long ((hI μ6 a0 64) - 1).toInt64] μ6 ro (fun r8 μ9 => ∃ y10 : Int32, r8 = some (.int y10) ∧ ((y10 = 0 → Z (some (.int (-1))) μ9) ∧ (¬ y10 = 0 → hS μ9 a0 = some (15, 65) ∧ ∃ spelled_12 : Nat, hR μ9 a0 63 = some spelled_12 ∧ ∃ N13 : Nat, hS μ9 spelled_12 = some (1, N13) ∧ vp_in x5 N13 ∧ Z (some (.int (hI μ9 spelled_12 x5.toNatClampNeg))) μ9)))) ∧ (x5 = (-1) → hS μ6 a0 = some (15, 65) ∧ Z (some (.int (hI μ6 a0 64))) μ6)))) ∧ (y3 = 0 → Z (some (.int (-1))) μ2)))) :
    J μ 0 0 0 [(0, .ref a0), (1, .int x1), (2, .int x2), (3, .int x3), (4, .int x4), (5, .int x5)] [] := by
  refine r_aload_n g dX12_spell_0 rfl ?_
  refine r_iconst g 0 dX12_spell_1 (by decide) ?_
  refine r_putI g fX12_106 rfl hs_a0 rfl rfl dX12_spell_2 ?_
  refine r_aload_n g dX12_spell_5 rfl ?_
  refine r_iload_n g dX12_spell_6 rfl ?_
  refine r_iload_n g dX12_spell_7 rfl ?_
  refine r_iload_n g dX12_spell_8 rfl ?_
  refine r_iload g dX12_spell_9 rfl ?_
  obtain ⟨d1, Z1, hc1, hd1, h1⟩ := h
  refine r_callV (st := []) (As := [.int x1, .int x2, .int x3, .int x4]) g sX12_470 iX12_finds eX12_finds rfl hs_a0 rfl (Nat.le_of_ble_eq_true rfl) dX12_spell_11 hd1 (Nat.le_refl 0) (Nat.le_refl 0) hc1 (fun r1 μ2 hZ1 => ?_)
  replace h := h1 _ _ hZ1
  clear h1 hc1 hd1 hZ1 Z1 d1
  obtain ⟨y3, rfl, h⟩ := h
  refine r_if_ne g 19 dX12_spell_14 (by decide) (fun c4 => ?_) (fun c4 => ?_)
  · replace h := h.1 c4
    refine r_aload_n g dX12_spell_19 rfl ?_
    obtain ⟨hs_a0_, h⟩ := h
    obtain ⟨d1, Z1, hc1, hd1, h1⟩ := h
    refine r_callV (st := []) (As := []) g sX12_485 iX12_spells eX12_spells rfl hs_a0_ rfl (Nat.le_of_ble_eq_true rfl) dX12_spell_20 hd1 (Nat.le_refl 0) (Nat.le_refl 0) hc1 (fun r5 μ6 hZ1 => ?_)
    replace h := h1 _ _ hZ1
    clear h1 hc1 hd1 hZ1 Z1 d1
    obtain ⟨rfl, h⟩ := h
    refine r_iload g dX12_spell_23 rfl ?_
    refine r_iconst g (-1) dX12_spell_25 (by decide) ?_
    refine r_icmp_ne g 36 dX12_spell_26 (by decide) (fun c7 => ?_) (fun c7 => ?_)
    · replace h := h.1 c7
      refine r_iload g dX12_spell_36 rfl ?_
      refine r_i2l g dX12_spell_38 ?_
      refine r_lconst g 0 dX12_spell_39 (by decide) ?_
      refine r_aload_n g dX12_spell_40 rfl ?_
      obtain ⟨hs_a0__, h⟩ := h
      refine r_getI g fX12_473 rfl hs_a0__ dX12_spell_41 ?_
      refine r_iconst g 1 dX12_spell_44 (by decide) ?_
      refine r_isub g dX12_spell_45 ?_
      refine r_i2l g dX12_spell_46 ?_
      obtain ⟨d1, Z1, hc1, hd1, h1⟩ := h
      refine r_callS (st := []) (As := [.long x5.toInt64, .long 0, .long ((hI μ6 a0 64) - 1).toInt64]) g sX12_161 iX12_isIn rfl (Nat.le_of_ble_eq_true rfl) dX12_spell_47 hd1 (Nat.le_refl 0) (Nat.le_refl 0) hc1 (fun r8 μ9 hZ1 => ?_)
      replace h := h1 _ _ hZ1
      clear h1 hc1 hd1 hZ1 Z1 d1
      obtain ⟨y10, rfl, h⟩ := h
      refine r_if_eq g 63 dX12_spell_50 (by decide) (fun c11 => ?_) (fun c11 => ?_)
      · replace h := h.1 c11
        refine r_iconst g (-1) dX12_spell_63 (by decide) ?_
        exact hr.2.1 _ rfl _ _ _ _ _ _ dX12_spell_64 rfl (Nat.le_refl 0) (Nat.le_refl 0) h
      · replace h := h.2 c11
        refine r_aload_n g dX12_spell_53 rfl ?_
        obtain ⟨hs_a0___, h⟩ := h
        obtain ⟨spelled_12, hr_spelled_12, h⟩ := h
        refine r_getR g fX12_103 rfl hs_a0___ hr_spelled_12 dX12_spell_54 ?_
        refine r_iload g dX12_spell_57 rfl ?_
        obtain ⟨N13, hs_spelled_12, h⟩ := h
        obtain ⟨hi14, h⟩ := h
        refine r_baload g hs_spelled_12 hi14 dX12_spell_59 ?_
        refine r_goto g 64 dX12_spell_60 (by decide) ?_
        exact hr.2.1 _ rfl _ _ _ _ _ _ dX12_spell_64 rfl (Nat.le_refl 0) (Nat.le_refl 0) h
    · replace h := h.2 c7
      refine r_aload_n g dX12_spell_29 rfl ?_
      obtain ⟨hs_a0____, h⟩ := h
      refine r_getI g fX12_473 rfl hs_a0____ dX12_spell_30 ?_
      refine r_goto g 64 dX12_spell_33 (by decide) ?_
      exact hr.2.1 _ rfl _ _ _ _ _ _ dX12_spell_64 rfl (Nat.le_refl 0) (Nat.le_refl 0) h
  · replace h := h.2 c4
    refine r_iconst g (-1) dX12_spell_17 (by decide) ?_
    exact hr.2.1 _ rfl _ _ _ _ _ _ dX12_spell_18 rfl (Nat.le_refl 0) (Nat.le_refl 0) h
theorem I_X12_spell {d : Nat} {ro : Nat → Nat} {Z : Option Value → Hp → Prop} {μ : Hp} {a0 : Nat} {x1 : Int32} {x2 : Int32} {x3 : Int32} {x4 : Int32} {x5 : Int32} (h : ∀ J, xCtx RX12 cX12_spell 6 d 0 0 yX12_spell.name ro J → xRet cX12_spell (some .int) 0 0 Z J → J μ 0 0 0 [(0, .ref a0), (1, .int x1), (2, .int x2), (3, .int x3), (4, .int x4), (5, .int x5)] []) : xC d yX12_spell cX12_spell 6 (some .int) 0 0 [.ref a0, .int x1, .int x2, .int x3, .int x4, .int x5] μ ro Z :=
  xC_intro (own := RX12) (lv := [(0, .ref a0), (1, .int x1), (2, .int x2), (3, .int x3), (4, .int x4), (5, .int x5)]) (by decide) rfl (Nat.le_of_ble_eq_true rfl) rfl (fun J g hr => r_sub g (lv' := [(0, .ref a0), (1, .int x1), (2, .int x2), (3, .int x3), (4, .int x4), (5, .int x5)]) (⟨rfl, rfl, rfl, rfl, rfl, rfl, trivial⟩) (h J g hr))
theorem dX12_findsIn_0 : decode cX12_findsIn 0 = .ok (.aload_n 0, 1) := by decide +kernel
theorem dX12_findsIn_1 : decode cX12_findsIn 1 = .ok (.iload_n 1, 1) := by decide +kernel
theorem dX12_findsIn_2 : decode cX12_findsIn 2 = .ok (.iload_n 2, 1) := by decide +kernel
theorem dX12_findsIn_3 : decode cX12_findsIn 3 = .ok (.iload_n 3, 1) := by decide +kernel
theorem dX12_findsIn_4 : decode cX12_findsIn 4 = .ok (.iload 4, 2) := by decide +kernel
theorem dX12_findsIn_6 : decode cX12_findsIn 6 = .ok (.invokevirtual 357, 3) := by decide +kernel
theorem dX12_findsIn_9 : decode cX12_findsIn 9 = .ok (.ifCond .ne 5, 3) := by decide +kernel
theorem dX12_findsIn_12 : decode cX12_findsIn 12 = .ok (.iconst 0, 1) := by decide +kernel
theorem dX12_findsIn_13 : decode cX12_findsIn 13 = .ok (.ireturn, 1) := by decide +kernel
theorem dX12_findsIn_14 : decode cX12_findsIn 14 = .ok (.aload_n 0, 1) := by decide +kernel
theorem dX12_findsIn_15 : decode cX12_findsIn 15 = .ok (.iload 5, 2) := by decide +kernel
theorem dX12_findsIn_17 : decode cX12_findsIn 17 = .ok (.putfield 277, 3) := by decide +kernel
theorem dX12_findsIn_20 : decode cX12_findsIn 20 = .ok (.aload_n 0, 1) := by decide +kernel
theorem dX12_findsIn_21 : decode cX12_findsIn 21 = .ok (.aload_n 0, 1) := by decide +kernel
theorem dX12_findsIn_22 : decode cX12_findsIn 22 = .ok (.getfield 57, 3) := by decide +kernel
theorem dX12_findsIn_25 : decode cX12_findsIn 25 = .ok (.iload_n 1, 1) := by decide +kernel
theorem dX12_findsIn_26 : decode cX12_findsIn 26 = .ok (.iload_n 2, 1) := by decide +kernel
theorem dX12_findsIn_27 : decode cX12_findsIn 27 = .ok (.iload_n 3, 1) := by decide +kernel
theorem dX12_findsIn_28 : decode cX12_findsIn 28 = .ok (.iload 4, 2) := by decide +kernel
theorem dX12_findsIn_30 : decode cX12_findsIn 30 = .ok (.iconst 0, 1) := by decide +kernel
theorem dX12_findsIn_31 : decode cX12_findsIn 31 = .ok (.invokevirtual 361, 3) := by decide +kernel
theorem dX12_findsIn_34 : decode cX12_findsIn 34 = .ok (.ireturn, 1) := by decide +kernel
set_option maxHeartbeats 4000000 in
set_option maxRecDepth 100000 in
theorem B_X12_findsIn_0 {d : Nat} {ro : Nat → Nat} {J : JT} {Z : Option Value → Hp → Prop} (g : xCtx RX12 cX12_findsIn 6 d 0 0 yX12_findsIn.name ro J) (hr : xRet cX12_findsIn (some .boolean) 0 0 Z J) {μ : Hp} {a0 : Nat} {x1 : Int32} {x2 : Int32} {x3 : Int32} {x4 : Int32} {x5 : Int32} (hs_a0 : hS μ a0 = some (15, 65))
    (h : xCall d yX12_isAsked cX12_isAsked 5 (some .boolean) [.ref a0, .int x1, .int x2, .int x3, .int x4] μ ro (fun r1 μ2 => ∃ y3 : Int32, r1 = some (.int y3) ∧ ((¬ y3 = 0 → hS μ2 a0 = some (15, 65) ∧ ∃ now_5 : Nat, hR μ2 a0 30 = some now_5 ∧ xCall d yX12_searches cX12_searches 8 (some .boolean) [.ref a0, .ref now_5, .int x1, .int x2, .int x3, .int x4, .int 0] (wI μ2 a0 37 x5) ro (fun r6 μ7 => ∃ y8 : Int32, r6 = some (.int y8) ∧ narrow .boolean (.int y8) = .int y8 ∧ Z (some (.int y8)) μ7)) ∧ (y3 = 0 → Z (some (.int 0)) μ2)))) :
    J μ 0 0 0 [(0, .ref a0), (1, .int x1), (2, .int x2), (3, .int x3), (4, .int x4), (5, .int x5)] [] := by
  refine r_aload_n g dX12_findsIn_0 rfl ?_
  refine r_iload_n g dX12_findsIn_1 rfl ?_
  refine r_iload_n g dX12_findsIn_2 rfl ?_
  refine r_iload_n g dX12_findsIn_3 rfl ?_
  refine r_iload g dX12_findsIn_4 rfl ?_
  obtain ⟨d1, Z1, hc1, hd1, h1⟩ := h
  refine r_callV (st := []) (As := [.int x1, .int x2, .int x3, .int x4]) g sX12_357 iX12_isAsked eX12_isAsked rfl hs_a0 rfl (Nat.le_of_ble_eq_true rfl) dX12_findsIn_6 hd1 (Nat.le_refl 0) (Nat.le_refl 0) hc1 (fun r1 μ2 hZ1 => ?_)
  replace h := h1 _ _ hZ1
  clear h1 hc1 hd1 hZ1 Z1 d1
  obtain ⟨y3, rfl, h⟩ := h
  refine r_if_ne g 14 dX12_findsIn_9 (by decide) (fun c4 => ?_) (fun c4 => ?_)
  · replace h := h.1 c4
    refine r_aload_n g dX12_findsIn_14 rfl ?_
    refine r_iload g dX12_findsIn_15 rfl ?_
    obtain ⟨hs_a0_, h⟩ := h
    refine r_putI g fX12_277 rfl hs_a0_ rfl rfl dX12_findsIn_17 ?_
    refine r_aload_n g dX12_findsIn_20 rfl ?_
    refine r_aload_n g dX12_findsIn_21 rfl ?_
    obtain ⟨now_5, hr_now_5, h⟩ := h
    refine r_getR g fX12_57 rfl hs_a0_ hr_now_5 dX12_findsIn_22 ?_
    refine r_iload_n g dX12_findsIn_25 rfl ?_
    refine r_iload_n g dX12_findsIn_26 rfl ?_
    refine r_iload_n g dX12_findsIn_27 rfl ?_
    refine r_iload g dX12_findsIn_28 rfl ?_
    refine r_iconst g 0 dX12_findsIn_30 (by decide) ?_
    obtain ⟨d1, Z1, hc1, hd1, h1⟩ := h
    refine r_callV (st := []) (As := [.ref now_5, .int x1, .int x2, .int x3, .int x4, .int 0]) g sX12_361 iX12_searches eX12_searches rfl hs_a0_ rfl (Nat.le_of_ble_eq_true rfl) dX12_findsIn_31 hd1 (Nat.le_refl 0) (Nat.le_refl 0) hc1 (fun r6 μ7 hZ1 => ?_)
    replace h := h1 _ _ hZ1
    clear h1 hc1 hd1 hZ1 Z1 d1
    obtain ⟨y8, rfl, h⟩ := h
    obtain ⟨hb9, h⟩ := h
    exact hr.2.1 _ rfl _ _ _ _ _ _ dX12_findsIn_34 hb9 (Nat.le_refl 0) (Nat.le_refl 0) h
  · replace h := h.2 c4
    refine r_iconst g 0 dX12_findsIn_12 (by decide) ?_
    exact hr.2.1 _ rfl _ _ _ _ _ _ dX12_findsIn_13 (by decide) (Nat.le_refl 0) (Nat.le_refl 0) h
theorem I_X12_findsIn {d : Nat} {ro : Nat → Nat} {Z : Option Value → Hp → Prop} {μ : Hp} {a0 : Nat} {x1 : Int32} {x2 : Int32} {x3 : Int32} {x4 : Int32} {x5 : Int32} (h : ∀ J, xCtx RX12 cX12_findsIn 6 d 0 0 yX12_findsIn.name ro J → xRet cX12_findsIn (some .boolean) 0 0 Z J → J μ 0 0 0 [(0, .ref a0), (1, .int x1), (2, .int x2), (3, .int x3), (4, .int x4), (5, .int x5)] []) : xC d yX12_findsIn cX12_findsIn 6 (some .boolean) 0 0 [.ref a0, .int x1, .int x2, .int x3, .int x4, .int x5] μ ro Z :=
  xC_intro (own := RX12) (lv := [(0, .ref a0), (1, .int x1), (2, .int x2), (3, .int x3), (4, .int x4), (5, .int x5)]) (by decide) rfl (Nat.le_of_ble_eq_true rfl) rfl (fun J g hr => r_sub g (lv' := [(0, .ref a0), (1, .int x1), (2, .int x2), (3, .int x3), (4, .int x4), (5, .int x5)]) (⟨rfl, rfl, rfl, rfl, rfl, rfl, trivial⟩) (h J g hr))
theorem dX12_asOf_0 : decode cX12_asOf 0 = .ok (.aload_n 0, 1) := by decide +kernel
theorem dX12_asOf_1 : decode cX12_asOf 1 = .ok (.iconst 0, 1) := by decide +kernel
theorem dX12_asOf_2 : decode cX12_asOf 2 = .ok (.putfield 106, 3) := by decide +kernel
theorem dX12_asOf_5 : decode cX12_asOf 5 = .ok (.iload 5, 2) := by decide +kernel
theorem dX12_asOf_7 : decode cX12_asOf 7 = .ok (.i2l, 1) := by decide +kernel
theorem dX12_asOf_8 : decode cX12_asOf 8 = .ok (.lconst 0, 1) := by decide +kernel
theorem dX12_asOf_9 : decode cX12_asOf 9 = .ok (.ldc2_w 466, 3) := by decide +kernel
theorem dX12_asOf_12 : decode cX12_asOf 12 = .ok (.invokestatic 161, 3) := by decide +kernel
theorem dX12_asOf_15 : decode cX12_asOf 15 = .ok (.ifCond .eq 28, 3) := by decide +kernel
theorem dX12_asOf_18 : decode cX12_asOf 18 = .ok (.iload 6, 2) := by decide +kernel
theorem dX12_asOf_20 : decode cX12_asOf 20 = .ok (.i2l, 1) := by decide +kernel
theorem dX12_asOf_21 : decode cX12_asOf 21 = .ok (.lconst 0, 1) := by decide +kernel
theorem dX12_asOf_22 : decode cX12_asOf 22 = .ok (.lconst 1, 1) := by decide +kernel
theorem dX12_asOf_23 : decode cX12_asOf 23 = .ok (.invokestatic 161, 3) := by decide +kernel
theorem dX12_asOf_26 : decode cX12_asOf 26 = .ok (.ifCond .eq 17, 3) := by decide +kernel
theorem dX12_asOf_29 : decode cX12_asOf 29 = .ok (.aload_n 0, 1) := by decide +kernel
theorem dX12_asOf_30 : decode cX12_asOf 30 = .ok (.iload_n 1, 1) := by decide +kernel
theorem dX12_asOf_31 : decode cX12_asOf 31 = .ok (.iload_n 2, 1) := by decide +kernel
theorem dX12_asOf_32 : decode cX12_asOf 32 = .ok (.iload_n 3, 1) := by decide +kernel
theorem dX12_asOf_33 : decode cX12_asOf 33 = .ok (.iload 4, 2) := by decide +kernel
theorem dX12_asOf_35 : decode cX12_asOf 35 = .ok (.iload 5, 2) := by decide +kernel
theorem dX12_asOf_37 : decode cX12_asOf 37 = .ok (.invokevirtual 488, 3) := by decide +kernel
theorem dX12_asOf_40 : decode cX12_asOf 40 = .ok (.ifCond .ne 5, 3) := by decide +kernel
theorem dX12_asOf_43 : decode cX12_asOf 43 = .ok (.iconst (-1), 1) := by decide +kernel
theorem dX12_asOf_44 : decode cX12_asOf 44 = .ok (.ireturn, 1) := by decide +kernel
theorem dX12_asOf_45 : decode cX12_asOf 45 = .ok (.iload 6, 2) := by decide +kernel
theorem dX12_asOf_47 : decode cX12_asOf 47 = .ok (.ifCond .ne 10, 3) := by decide +kernel
theorem dX12_asOf_50 : decode cX12_asOf 50 = .ok (.aload_n 0, 1) := by decide +kernel
theorem dX12_asOf_51 : decode cX12_asOf 51 = .ok (.getfield 321, 3) := by decide +kernel
theorem dX12_asOf_54 : decode cX12_asOf 54 = .ok (.goto 7, 3) := by decide +kernel
theorem dX12_asOf_57 : decode cX12_asOf 57 = .ok (.aload_n 0, 1) := by decide +kernel
theorem dX12_asOf_58 : decode cX12_asOf 58 = .ok (.getfield 306, 3) := by decide +kernel
theorem dX12_asOf_61 : decode cX12_asOf 61 = .ok (.ireturn, 1) := by decide +kernel
set_option maxHeartbeats 4000000 in
set_option maxRecDepth 100000 in
theorem B_X12_asOf_0 {d : Nat} {ro : Nat → Nat} {J : JT} {Z : Option Value → Hp → Prop} (g : xCtx RX12 cX12_asOf 7 d 0 0 yX12_asOf.name ro J) (hr : xRet cX12_asOf (some .int) 0 0 Z J) {μ : Hp} {a0 : Nat} {x1 : Int32} {x2 : Int32} {x3 : Int32} {x4 : Int32} {x5 : Int32} {x6 : Int32} (hs_a0 : hS μ a0 = some (15, 65))
    (h : xCall d yX12_isIn cX12_isIn 6 (some .boolean) [.long x5.toInt64, .long 0, .long 199] (wI μ a0 0 0) ro (fun r1 μ2 => ∃ y3 : Int32, r1 = some (.int y3) ∧ ((y3 = 0 → Z (some (.int (-1))) μ2) ∧ (¬ y3 = 0 → xCall d yX12_isIn cX12_isIn 6 (some .boolean) [.long x6.toInt64, .long 0, .long 1] μ2 ro (fun r5 μ6 => ∃ y7 : Int32, r5 = some (.int y7) ∧ ((y7 = 0 → Z (some (.int (-1))) μ6) ∧ (¬ y7 = 0 → hS μ6 a0 = some (15, 65) ∧ xCall d yX12_findsIn cX12_findsIn 6 (some .boolean) [.ref a0, .int x1, .int x2, .int x3, .int x4, .int x5] μ6 ro (fun r9 μ10 => ∃ y11 : Int32, r9 = some (.int y11) ∧ ((¬ y11 = 0 → ((¬ x6 = 0 → hS μ10 a0 = some (15, 65) ∧ Z (some (.int (hI μ10 a0 50))) μ10) ∧ (x6 = 0 → hS μ10 a0 = some (15, 65) ∧ Z (some (.int (hI μ10 a0 51))) μ10))) ∧ (y11 = 0 → Z (some (.int (-1))) μ10)))))))))) :
    J μ 0 0 0 [(0, .ref a0), (1, .int x1), (2, .int x2), (3, .int x3), (4, .int x4), (5, .int x5), (6, .int x6)] [] := by
  refine r_aload_n g dX12_asOf_0 rfl ?_
  refine r_iconst g 0 dX12_asOf_1 (by decide) ?_
  refine r_putI g fX12_106 rfl hs_a0 rfl rfl dX12_asOf_2 ?_
  refine r_iload g dX12_asOf_5 rfl ?_
  refine r_i2l g dX12_asOf_7 ?_
  refine r_lconst g 0 dX12_asOf_8 (by decide) ?_
  refine r_ldc2 g 199 kX12_466 dX12_asOf_9 ?_
  obtain ⟨d1, Z1, hc1, hd1, h1⟩ := h
  refine r_callS (st := []) (As := [.long x5.toInt64, .long 0, .long 199]) g sX12_161 iX12_isIn rfl (Nat.le_of_ble_eq_true rfl) dX12_asOf_12 hd1 (Nat.le_refl 0) (Nat.le_refl 0) hc1 (fun r1 μ2 hZ1 => ?_)
  replace h := h1 _ _ hZ1
  clear h1 hc1 hd1 hZ1 Z1 d1
  obtain ⟨y3, rfl, h⟩ := h
  refine r_if_eq g 43 dX12_asOf_15 (by decide) (fun c4 => ?_) (fun c4 => ?_)
  · replace h := h.1 c4
    refine r_iconst g (-1) dX12_asOf_43 (by decide) ?_
    exact hr.2.1 _ rfl _ _ _ _ _ _ dX12_asOf_44 rfl (Nat.le_refl 0) (Nat.le_refl 0) h
  · replace h := h.2 c4
    refine r_iload g dX12_asOf_18 rfl ?_
    refine r_i2l g dX12_asOf_20 ?_
    refine r_lconst g 0 dX12_asOf_21 (by decide) ?_
    refine r_lconst g 1 dX12_asOf_22 (by decide) ?_
    obtain ⟨d1, Z1, hc1, hd1, h1⟩ := h
    refine r_callS (st := []) (As := [.long x6.toInt64, .long 0, .long 1]) g sX12_161 iX12_isIn rfl (Nat.le_of_ble_eq_true rfl) dX12_asOf_23 hd1 (Nat.le_refl 0) (Nat.le_refl 0) hc1 (fun r5 μ6 hZ1 => ?_)
    replace h := h1 _ _ hZ1
    clear h1 hc1 hd1 hZ1 Z1 d1
    obtain ⟨y7, rfl, h⟩ := h
    refine r_if_eq g 43 dX12_asOf_26 (by decide) (fun c8 => ?_) (fun c8 => ?_)
    · replace h := h.1 c8
      refine r_iconst g (-1) dX12_asOf_43 (by decide) ?_
      exact hr.2.1 _ rfl _ _ _ _ _ _ dX12_asOf_44 rfl (Nat.le_refl 0) (Nat.le_refl 0) h
    · replace h := h.2 c8
      refine r_aload_n g dX12_asOf_29 rfl ?_
      refine r_iload_n g dX12_asOf_30 rfl ?_
      refine r_iload_n g dX12_asOf_31 rfl ?_
      refine r_iload_n g dX12_asOf_32 rfl ?_
      refine r_iload g dX12_asOf_33 rfl ?_
      refine r_iload g dX12_asOf_35 rfl ?_
      obtain ⟨hs_a0_, h⟩ := h
      obtain ⟨d1, Z1, hc1, hd1, h1⟩ := h
      refine r_callV (st := []) (As := [.int x1, .int x2, .int x3, .int x4, .int x5]) g sX12_488 iX12_findsIn eX12_findsIn rfl hs_a0_ rfl (Nat.le_of_ble_eq_true rfl) dX12_asOf_37 hd1 (Nat.le_refl 0) (Nat.le_refl 0) hc1 (fun r9 μ10 hZ1 => ?_)
      replace h := h1 _ _ hZ1
      clear h1 hc1 hd1 hZ1 Z1 d1
      obtain ⟨y11, rfl, h⟩ := h
      refine r_if_ne g 45 dX12_asOf_40 (by decide) (fun c12 => ?_) (fun c12 => ?_)
      · replace h := h.1 c12
        refine r_iload g dX12_asOf_45 rfl ?_
        refine r_if_ne g 57 dX12_asOf_47 (by decide) (fun c13 => ?_) (fun c13 => ?_)
        · replace h := h.1 c13
          refine r_aload_n g dX12_asOf_57 rfl ?_
          obtain ⟨hs_a0__, h⟩ := h
          refine r_getI g fX12_306 rfl hs_a0__ dX12_asOf_58 ?_
          exact hr.2.1 _ rfl _ _ _ _ _ _ dX12_asOf_61 rfl (Nat.le_refl 0) (Nat.le_refl 0) h
        · replace h := h.2 c13
          refine r_aload_n g dX12_asOf_50 rfl ?_
          obtain ⟨hs_a0___, h⟩ := h
          refine r_getI g fX12_321 rfl hs_a0___ dX12_asOf_51 ?_
          refine r_goto g 61 dX12_asOf_54 (by decide) ?_
          exact hr.2.1 _ rfl _ _ _ _ _ _ dX12_asOf_61 rfl (Nat.le_refl 0) (Nat.le_refl 0) h
      · replace h := h.2 c12
        refine r_iconst g (-1) dX12_asOf_43 (by decide) ?_
        exact hr.2.1 _ rfl _ _ _ _ _ _ dX12_asOf_44 rfl (Nat.le_refl 0) (Nat.le_refl 0) h
theorem I_X12_asOf {d : Nat} {ro : Nat → Nat} {Z : Option Value → Hp → Prop} {μ : Hp} {a0 : Nat} {x1 : Int32} {x2 : Int32} {x3 : Int32} {x4 : Int32} {x5 : Int32} {x6 : Int32} (h : ∀ J, xCtx RX12 cX12_asOf 7 d 0 0 yX12_asOf.name ro J → xRet cX12_asOf (some .int) 0 0 Z J → J μ 0 0 0 [(0, .ref a0), (1, .int x1), (2, .int x2), (3, .int x3), (4, .int x4), (5, .int x5), (6, .int x6)] []) : xC d yX12_asOf cX12_asOf 7 (some .int) 0 0 [.ref a0, .int x1, .int x2, .int x3, .int x4, .int x5, .int x6] μ ro Z :=
  xC_intro (own := RX12) (lv := [(0, .ref a0), (1, .int x1), (2, .int x2), (3, .int x3), (4, .int x4), (5, .int x5), (6, .int x6)]) (by decide) rfl (Nat.le_of_ble_eq_true rfl) rfl (fun J g hr => r_sub g (lv' := [(0, .ref a0), (1, .int x1), (2, .int x2), (3, .int x3), (4, .int x4), (5, .int x5), (6, .int x6)]) (⟨rfl, rfl, rfl, rfl, rfl, rfl, rfl, trivial⟩) (h J g hr))
theorem dX12_soon_0 : decode cX12_soon 0 = .ok (.aload_n 0, 1) := by decide +kernel
theorem dX12_soon_1 : decode cX12_soon 1 = .ok (.iconst 0, 1) := by decide +kernel
theorem dX12_soon_2 : decode cX12_soon 2 = .ok (.putfield 106, 3) := by decide +kernel
theorem dX12_soon_5 : decode cX12_soon 5 = .ok (.iconst (-1), 1) := by decide +kernel
theorem dX12_soon_6 : decode cX12_soon 6 = .ok (.istore 5, 2) := by decide +kernel
theorem dX12_soon_8 : decode cX12_soon 8 = .ok (.iconst 0, 1) := by decide +kernel
theorem dX12_soon_9 : decode cX12_soon 9 = .ok (.istore 6, 2) := by decide +kernel
theorem dX12_soon_11 : decode cX12_soon 11 = .ok (.aload_n 0, 1) := by decide +kernel
theorem dX12_soon_12 : decode cX12_soon 12 = .ok (.getfield 57, 3) := by decide +kernel
theorem dX12_soon_15 : decode cX12_soon 15 = .ok (.bipush 30, 2) := by decide +kernel
theorem dX12_soon_17 : decode cX12_soon 17 = .ok (.iaload, 1) := by decide +kernel
theorem dX12_soon_18 : decode cX12_soon 18 = .ok (.istore 7, 2) := by decide +kernel
theorem dX12_soon_20 : decode cX12_soon 20 = .ok (.iload 7, 2) := by decide +kernel
theorem dX12_soon_22 : decode cX12_soon 22 = .ok (.aload_n 0, 1) := by decide +kernel
theorem dX12_soon_23 : decode cX12_soon 23 = .ok (.getfield 57, 3) := by decide +kernel
theorem dX12_soon_26 : decode cX12_soon 26 = .ok (.bipush 30, 2) := by decide +kernel
theorem dX12_soon_28 : decode cX12_soon 28 = .ok (.iaload, 1) := by decide +kernel
theorem dX12_soon_29 : decode cX12_soon 29 = .ok (.bipush 20, 2) := by decide +kernel
theorem dX12_soon_31 : decode cX12_soon 31 = .ok (.iadd, 1) := by decide +kernel
theorem dX12_soon_32 : decode cX12_soon 32 = .ok (.if_icmp .gt 59, 3) := by decide +kernel
theorem dX12_soon_35 : decode cX12_soon 35 = .ok (.iload 7, 2) := by decide +kernel
theorem dX12_soon_37 : decode cX12_soon 37 = .ok (.sipush 199, 3) := by decide +kernel
theorem dX12_soon_40 : decode cX12_soon 40 = .ok (.if_icmp .gt 51, 3) := by decide +kernel
theorem dX12_soon_43 : decode cX12_soon 43 = .ok (.aload_n 0, 1) := by decide +kernel
theorem dX12_soon_44 : decode cX12_soon 44 = .ok (.iload_n 1, 1) := by decide +kernel
theorem dX12_soon_45 : decode cX12_soon 45 = .ok (.iload_n 2, 1) := by decide +kernel
theorem dX12_soon_46 : decode cX12_soon 46 = .ok (.iload_n 3, 1) := by decide +kernel
theorem dX12_soon_47 : decode cX12_soon 47 = .ok (.iload 4, 2) := by decide +kernel
theorem dX12_soon_49 : decode cX12_soon 49 = .ok (.iload 7, 2) := by decide +kernel
theorem dX12_soon_51 : decode cX12_soon 51 = .ok (.invokevirtual 488, 3) := by decide +kernel
theorem dX12_soon_54 : decode cX12_soon 54 = .ok (.ifCond .eq 31, 3) := by decide +kernel
theorem dX12_soon_57 : decode cX12_soon 57 = .ok (.iload 5, 2) := by decide +kernel
theorem dX12_soon_59 : decode cX12_soon 59 = .ok (.iconst (-1), 1) := by decide +kernel
theorem dX12_soon_60 : decode cX12_soon 60 = .ok (.if_icmp .eq 15, 3) := by decide +kernel
theorem dX12_soon_63 : decode cX12_soon 63 = .ok (.aload_n 0, 1) := by decide +kernel
theorem dX12_soon_64 : decode cX12_soon 64 = .ok (.getfield 321, 3) := by decide +kernel
theorem dX12_soon_67 : decode cX12_soon 67 = .ok (.iload 6, 2) := by decide +kernel
theorem dX12_soon_69 : decode cX12_soon 69 = .ok (.if_icmp .gt 6, 3) := by decide +kernel
theorem dX12_soon_72 : decode cX12_soon 72 = .ok (.goto 13, 3) := by decide +kernel
theorem dX12_soon_75 : decode cX12_soon 75 = .ok (.iload 7, 2) := by decide +kernel
theorem dX12_soon_77 : decode cX12_soon 77 = .ok (.istore 5, 2) := by decide +kernel
theorem dX12_soon_79 : decode cX12_soon 79 = .ok (.aload_n 0, 1) := by decide +kernel
theorem dX12_soon_80 : decode cX12_soon 80 = .ok (.getfield 321, 3) := by decide +kernel
theorem dX12_soon_83 : decode cX12_soon 83 = .ok (.istore 6, 2) := by decide +kernel
theorem dX12_soon_85 : decode cX12_soon 85 = .ok (.iinc 7 1, 3) := by decide +kernel
theorem dX12_soon_88 : decode cX12_soon 88 = .ok (.goto (-68), 3) := by decide +kernel
theorem dX12_soon_91 : decode cX12_soon 91 = .ok (.iload 5, 2) := by decide +kernel
theorem dX12_soon_93 : decode cX12_soon 93 = .ok (.ireturn, 1) := by decide +kernel
set_option maxHeartbeats 4000000 in
set_option maxRecDepth 100000 in
theorem B_X12_soon_0 {d : Nat} {ro : Nat → Nat} {J : JT} {Z : Option Value → Hp → Prop} (g : xCtx RX12 cX12_soon 8 d 0 0 yX12_soon.name ro J) (hr : xRet cX12_soon (some .int) 0 0 Z J) {μ : Hp} {a0 : Nat} {x1 : Int32} {x2 : Int32} {x3 : Int32} {x4 : Int32} {a0_now : Nat} {N_a0_now : Nat} (hs_a0 : hS μ a0 = some (15, 65)) (hr_a0_now : hR μ a0 30 = some a0_now) (hs_a0_now : hS μ a0_now = some (0, N_a0_now))
    (h : vp_in 30 N_a0_now ∧ J (wI μ a0 0 0) 0 0 20 [(0, .ref a0), (1, .int x1), (2, .int x2), (3, .int x3), (4, .int x4), (5, .int (-1)), (6, .int 0), (7, .int (hI (wI μ a0 0 0) a0_now 30))] []) :
    J μ 0 0 0 [(0, .ref a0), (1, .int x1), (2, .int x2), (3, .int x3), (4, .int x4)] [] := by
  refine r_aload_n g dX12_soon_0 rfl ?_
  refine r_iconst g 0 dX12_soon_1 (by decide) ?_
  refine r_putI g fX12_106 rfl hs_a0 rfl rfl dX12_soon_2 ?_
  refine r_iconst g (-1) dX12_soon_5 (by decide) ?_
  refine r_istore g [(5, .int (-1)), (0, .ref a0), (1, .int x1), (2, .int x2), (3, .int x3), (4, .int x4)] dX12_soon_6 (by decide) rfl ?_
  refine r_iconst g 0 dX12_soon_8 (by decide) ?_
  refine r_istore g [(6, .int 0), (5, .int (-1)), (0, .ref a0), (1, .int x1), (2, .int x2), (3, .int x3), (4, .int x4)] dX12_soon_9 (by decide) rfl ?_
  refine r_aload_n g dX12_soon_11 rfl ?_
  refine r_getR g fX12_57 rfl hs_a0 hr_a0_now dX12_soon_12 ?_
  refine r_bipush g 30 dX12_soon_15 (by decide) ?_
  obtain ⟨hi1, h⟩ := h
  refine r_iaload g hs_a0_now hi1 dX12_soon_17 ?_
  refine r_istore g [(7, .int (hI (wI μ a0 0 0) a0_now 30)), (6, .int 0), (5, .int (-1)), (0, .ref a0), (1, .int x1), (2, .int x2), (3, .int x3), (4, .int x4)] dX12_soon_18 (by decide) rfl ?_
  refine r_sub g (lv' := [(0, .ref a0), (1, .int x1), (2, .int x2), (3, .int x3), (4, .int x4), (5, .int (-1)), (6, .int 0), (7, .int (hI (wI μ a0 0 0) a0_now 30))]) (⟨rfl, rfl, rfl, rfl, rfl, rfl, rfl, rfl, trivial⟩) ?_
  exact h
set_option maxHeartbeats 4000000 in
set_option maxRecDepth 100000 in
theorem B_X12_soon_20 {d : Nat} {ro : Nat → Nat} {J : JT} {Z : Option Value → Hp → Prop} (g : xCtx RX12 cX12_soon 8 d 0 0 yX12_soon.name ro J) (hr : xRet cX12_soon (some .int) 0 0 Z J) {μ : Hp} {a0 : Nat} {x1 : Int32} {x2 : Int32} {x3 : Int32} {x4 : Int32} {x5 : Int32} {x6 : Int32} {x7 : Int32} {a0_now : Nat} {N_a0_now : Nat} (hs_a0 : hS μ a0 = some (15, 65)) (hr_a0_now : hR μ a0 30 = some a0_now) (hs_a0_now : hS μ a0_now = some (0, N_a0_now))
    (h : vp_in 30 N_a0_now ∧ ((((hI μ a0_now 30) + 20) < x7 → Z (some (.int x5)) μ) ∧ (¬ ((hI μ a0_now 30) + 20) < x7 → ((199 < x7 → Z (some (.int x5)) μ) ∧ (¬ 199 < x7 → xCall d yX12_findsIn cX12_findsIn 6 (some .boolean) [.ref a0, .int x1, .int x2, .int x3, .int x4, .int x7] μ ro (fun r4 μ5 => ∃ y6 : Int32, r4 = some (.int y6) ∧ ((y6 = 0 → J μ5 0 0 20 [(0, .ref a0), (1, .int x1), (2, .int x2), (3, .int x3), (4, .int x4), (5, .int x5), (6, .int x6), (7, .int (x7 + 1))] []) ∧ (¬ y6 = 0 → ((x5 = (-1) → hS μ5 a0 = some (15, 65) ∧ J μ5 0 0 20 [(0, .ref a0), (1, .int x1), (2, .int x2), (3, .int x3), (4, .int x4), (5, .int x7), (6, .int (hI μ5 a0 51)), (7, .int (x7 + 1))] []) ∧ (¬ x5 = (-1) → hS μ5 a0 = some (15, 65) ∧ ((x6 < (hI μ5 a0 51) → J μ5 0 0 20 [(0, .ref a0), (1, .int x1), (2, .int x2), (3, .int x3), (4, .int x4), (5, .int x7), (6, .int (hI μ5 a0 51)), (7, .int (x7 + 1))] []) ∧ (¬ x6 < (hI μ5 a0 51) → J μ5 0 0 20 [(0, .ref a0), (1, .int x1), (2, .int x2), (3, .int x3), (4, .int x4), (5, .int x5), (6, .int x6), (7, .int (x7 + 1))] [])))))))))))) :
    J μ 0 0 20 [(0, .ref a0), (1, .int x1), (2, .int x2), (3, .int x3), (4, .int x4), (5, .int x5), (6, .int x6), (7, .int x7)] [] := by
  refine r_iload g dX12_soon_20 rfl ?_
  refine r_aload_n g dX12_soon_22 rfl ?_
  refine r_getR g fX12_57 rfl hs_a0 hr_a0_now dX12_soon_23 ?_
  refine r_bipush g 30 dX12_soon_26 (by decide) ?_
  obtain ⟨hi1, h⟩ := h
  refine r_iaload g hs_a0_now hi1 dX12_soon_28 ?_
  refine r_bipush g 20 dX12_soon_29 (by decide) ?_
  refine r_iadd g dX12_soon_31 ?_
  refine r_icmp_gt g 91 dX12_soon_32 (by decide) (fun c2 => ?_) (fun c2 => ?_)
  · replace h := h.1 c2
    refine r_iload g dX12_soon_91 rfl ?_
    exact hr.2.1 _ rfl _ _ _ _ _ _ dX12_soon_93 rfl (Nat.le_refl 0) (Nat.le_refl 0) h
  · replace h := h.2 c2
    refine r_iload g dX12_soon_35 rfl ?_
    refine r_sipush g 199 dX12_soon_37 (by decide) ?_
    refine r_icmp_gt g 91 dX12_soon_40 (by decide) (fun c3 => ?_) (fun c3 => ?_)
    · replace h := h.1 c3
      refine r_iload g dX12_soon_91 rfl ?_
      exact hr.2.1 _ rfl _ _ _ _ _ _ dX12_soon_93 rfl (Nat.le_refl 0) (Nat.le_refl 0) h
    · replace h := h.2 c3
      refine r_aload_n g dX12_soon_43 rfl ?_
      refine r_iload_n g dX12_soon_44 rfl ?_
      refine r_iload_n g dX12_soon_45 rfl ?_
      refine r_iload_n g dX12_soon_46 rfl ?_
      refine r_iload g dX12_soon_47 rfl ?_
      refine r_iload g dX12_soon_49 rfl ?_
      obtain ⟨d1, Z1, hc1, hd1, h1⟩ := h
      refine r_callV (st := []) (As := [.int x1, .int x2, .int x3, .int x4, .int x7]) g sX12_488 iX12_findsIn eX12_findsIn rfl hs_a0 rfl (Nat.le_of_ble_eq_true rfl) dX12_soon_51 hd1 (Nat.le_refl 0) (Nat.le_refl 0) hc1 (fun r4 μ5 hZ1 => ?_)
      replace h := h1 _ _ hZ1
      clear h1 hc1 hd1 hZ1 Z1 d1
      obtain ⟨y6, rfl, h⟩ := h
      refine r_if_eq g 85 dX12_soon_54 (by decide) (fun c7 => ?_) (fun c7 => ?_)
      · replace h := h.1 c7
        refine r_iinc g (x7 + 1) [(7, .int (x7 + 1)), (0, .ref a0), (1, .int x1), (2, .int x2), (3, .int x3), (4, .int x4), (5, .int x5), (6, .int x6)] dX12_soon_85 rfl rfl (by decide) rfl ?_
        refine r_goto g 20 dX12_soon_88 (by decide) ?_
        refine r_sub g (lv' := [(0, .ref a0), (1, .int x1), (2, .int x2), (3, .int x3), (4, .int x4), (5, .int x5), (6, .int x6), (7, .int (x7 + 1))]) (⟨rfl, rfl, rfl, rfl, rfl, rfl, rfl, rfl, trivial⟩) ?_
        exact h
      · replace h := h.2 c7
        refine r_iload g dX12_soon_57 rfl ?_
        refine r_iconst g (-1) dX12_soon_59 (by decide) ?_
        refine r_icmp_eq g 75 dX12_soon_60 (by decide) (fun c8 => ?_) (fun c8 => ?_)
        · replace h := h.1 c8
          refine r_iload g dX12_soon_75 rfl ?_
          refine r_istore g [(5, .int x7), (0, .ref a0), (1, .int x1), (2, .int x2), (3, .int x3), (4, .int x4), (6, .int x6), (7, .int x7)] dX12_soon_77 (by decide) rfl ?_
          refine r_aload_n g dX12_soon_79 rfl ?_
          obtain ⟨hs_a0_, h⟩ := h
          refine r_getI g fX12_321 rfl hs_a0_ dX12_soon_80 ?_
          refine r_istore g [(6, .int (hI μ5 a0 51)), (5, .int x7), (0, .ref a0), (1, .int x1), (2, .int x2), (3, .int x3), (4, .int x4), (7, .int x7)] dX12_soon_83 (by decide) rfl ?_
          refine r_iinc g (x7 + 1) [(7, .int (x7 + 1)), (6, .int (hI μ5 a0 51)), (5, .int x7), (0, .ref a0), (1, .int x1), (2, .int x2), (3, .int x3), (4, .int x4)] dX12_soon_85 rfl rfl (by decide) rfl ?_
          refine r_goto g 20 dX12_soon_88 (by decide) ?_
          refine r_sub g (lv' := [(0, .ref a0), (1, .int x1), (2, .int x2), (3, .int x3), (4, .int x4), (5, .int x7), (6, .int (hI μ5 a0 51)), (7, .int (x7 + 1))]) (⟨rfl, rfl, rfl, rfl, rfl, rfl, rfl, rfl, trivial⟩) ?_
          exact h
        · replace h := h.2 c8
          refine r_aload_n g dX12_soon_63 rfl ?_
          obtain ⟨hs_a0__, h⟩ := h
          refine r_getI g fX12_321 rfl hs_a0__ dX12_soon_64 ?_
          refine r_iload g dX12_soon_67 rfl ?_
          refine r_icmp_gt g 75 dX12_soon_69 (by decide) (fun c9 => ?_) (fun c9 => ?_)
          · replace h := h.1 c9
            refine r_iload g dX12_soon_75 rfl ?_
            refine r_istore g [(5, .int x7), (0, .ref a0), (1, .int x1), (2, .int x2), (3, .int x3), (4, .int x4), (6, .int x6), (7, .int x7)] dX12_soon_77 (by decide) rfl ?_
            refine r_aload_n g dX12_soon_79 rfl ?_
            refine r_getI g fX12_321 rfl hs_a0__ dX12_soon_80 ?_
            refine r_istore g [(6, .int (hI μ5 a0 51)), (5, .int x7), (0, .ref a0), (1, .int x1), (2, .int x2), (3, .int x3), (4, .int x4), (7, .int x7)] dX12_soon_83 (by decide) rfl ?_
            refine r_iinc g (x7 + 1) [(7, .int (x7 + 1)), (6, .int (hI μ5 a0 51)), (5, .int x7), (0, .ref a0), (1, .int x1), (2, .int x2), (3, .int x3), (4, .int x4)] dX12_soon_85 rfl rfl (by decide) rfl ?_
            refine r_goto g 20 dX12_soon_88 (by decide) ?_
            refine r_sub g (lv' := [(0, .ref a0), (1, .int x1), (2, .int x2), (3, .int x3), (4, .int x4), (5, .int x7), (6, .int (hI μ5 a0 51)), (7, .int (x7 + 1))]) (⟨rfl, rfl, rfl, rfl, rfl, rfl, rfl, rfl, trivial⟩) ?_
            exact h
          · replace h := h.2 c9
            refine r_goto g 85 dX12_soon_72 (by decide) ?_
            refine r_iinc g (x7 + 1) [(7, .int (x7 + 1)), (0, .ref a0), (1, .int x1), (2, .int x2), (3, .int x3), (4, .int x4), (5, .int x5), (6, .int x6)] dX12_soon_85 rfl rfl (by decide) rfl ?_
            refine r_goto g 20 dX12_soon_88 (by decide) ?_
            refine r_sub g (lv' := [(0, .ref a0), (1, .int x1), (2, .int x2), (3, .int x3), (4, .int x4), (5, .int x5), (6, .int x6), (7, .int (x7 + 1))]) (⟨rfl, rfl, rfl, rfl, rfl, rfl, rfl, rfl, trivial⟩) ?_
            exact h
theorem I_X12_soon {d : Nat} {ro : Nat → Nat} {Z : Option Value → Hp → Prop} {μ : Hp} {a0 : Nat} {x1 : Int32} {x2 : Int32} {x3 : Int32} {x4 : Int32} (h : ∀ J, xCtx RX12 cX12_soon 8 d 0 0 yX12_soon.name ro J → xRet cX12_soon (some .int) 0 0 Z J → J μ 0 0 0 [(0, .ref a0), (1, .int x1), (2, .int x2), (3, .int x3), (4, .int x4)] []) : xC d yX12_soon cX12_soon 8 (some .int) 0 0 [.ref a0, .int x1, .int x2, .int x3, .int x4] μ ro Z :=
  xC_intro (own := RX12) (lv := [(0, .ref a0), (1, .int x1), (2, .int x2), (3, .int x3), (4, .int x4)]) (by decide) rfl (Nat.le_of_ble_eq_true rfl) rfl (fun J g hr => r_sub g (lv' := [(0, .ref a0), (1, .int x1), (2, .int x2), (3, .int x3), (4, .int x4)]) (⟨rfl, rfl, rfl, rfl, rfl, trivial⟩) (h J g hr))
theorem dX12_hire_0 : decode cX12_hire 0 = .ok (.aload_n 0, 1) := by decide +kernel
theorem dX12_hire_1 : decode cX12_hire 1 = .ok (.iconst 0, 1) := by decide +kernel
theorem dX12_hire_2 : decode cX12_hire 2 = .ok (.putfield 106, 3) := by decide +kernel
theorem dX12_hire_5 : decode cX12_hire 5 = .ok (.aload_n 0, 1) := by decide +kernel
theorem dX12_hire_6 : decode cX12_hire 6 = .ok (.iload 5, 2) := by decide +kernel
theorem dX12_hire_8 : decode cX12_hire 8 = .ok (.invokevirtual 351, 3) := by decide +kernel
theorem dX12_hire_11 : decode cX12_hire 11 = .ok (.ifCond .eq 15, 3) := by decide +kernel
theorem dX12_hire_14 : decode cX12_hire 14 = .ok (.aload_n 0, 1) := by decide +kernel
theorem dX12_hire_15 : decode cX12_hire 15 = .ok (.iload_n 1, 1) := by decide +kernel
theorem dX12_hire_16 : decode cX12_hire 16 = .ok (.iload_n 2, 1) := by decide +kernel
theorem dX12_hire_17 : decode cX12_hire 17 = .ok (.iload_n 3, 1) := by decide +kernel
theorem dX12_hire_18 : decode cX12_hire 18 = .ok (.iload 4, 2) := by decide +kernel
theorem dX12_hire_20 : decode cX12_hire 20 = .ok (.invokevirtual 357, 3) := by decide +kernel
theorem dX12_hire_23 : decode cX12_hire 23 = .ok (.ifCond .ne 5, 3) := by decide +kernel
theorem dX12_hire_26 : decode cX12_hire 26 = .ok (.iconst (-1), 1) := by decide +kernel
theorem dX12_hire_27 : decode cX12_hire 27 = .ok (.ireturn, 1) := by decide +kernel
theorem dX12_hire_28 : decode cX12_hire 28 = .ok (.aload_n 0, 1) := by decide +kernel
theorem dX12_hire_29 : decode cX12_hire 29 = .ok (.getfield 57, 3) := by decide +kernel
theorem dX12_hire_32 : decode cX12_hire 32 = .ok (.iconst 0, 1) := by decide +kernel
theorem dX12_hire_33 : decode cX12_hire 33 = .ok (.aload_n 0, 1) := by decide +kernel
theorem dX12_hire_34 : decode cX12_hire 34 = .ok (.getfield 60, 3) := by decide +kernel
theorem dX12_hire_37 : decode cX12_hire 37 = .ok (.iconst 0, 1) := by decide +kernel
theorem dX12_hire_38 : decode cX12_hire 38 = .ok (.invokestatic 408, 3) := by decide +kernel
theorem dX12_hire_41 : decode cX12_hire 41 = .ok (.iconst (-1), 1) := by decide +kernel
theorem dX12_hire_42 : decode cX12_hire 42 = .ok (.istore 6, 2) := by decide +kernel
theorem dX12_hire_44 : decode cX12_hire 44 = .ok (.iconst 0, 1) := by decide +kernel
theorem dX12_hire_45 : decode cX12_hire 45 = .ok (.istore 7, 2) := by decide +kernel
theorem dX12_hire_47 : decode cX12_hire 47 = .ok (.iconst 0, 1) := by decide +kernel
theorem dX12_hire_48 : decode cX12_hire 48 = .ok (.istore 8, 2) := by decide +kernel
theorem dX12_hire_50 : decode cX12_hire 50 = .ok (.iload 8, 2) := by decide +kernel
theorem dX12_hire_52 : decode cX12_hire 52 = .ok (.bipush 99, 2) := by decide +kernel
theorem dX12_hire_54 : decode cX12_hire 54 = .ok (.if_icmp .gt 66, 3) := by decide +kernel
theorem dX12_hire_57 : decode cX12_hire 57 = .ok (.aload_n 0, 1) := by decide +kernel
theorem dX12_hire_58 : decode cX12_hire 58 = .ok (.getfield 60, 3) := by decide +kernel
theorem dX12_hire_61 : decode cX12_hire 61 = .ok (.bipush 8, 2) := by decide +kernel
theorem dX12_hire_63 : decode cX12_hire 63 = .ok (.iload 5, 2) := by decide +kernel
theorem dX12_hire_65 : decode cX12_hire 65 = .ok (.iadd, 1) := by decide +kernel
theorem dX12_hire_66 : decode cX12_hire 66 = .ok (.iload 8, 2) := by decide +kernel
theorem dX12_hire_68 : decode cX12_hire 68 = .ok (.iastore, 1) := by decide +kernel
theorem dX12_hire_69 : decode cX12_hire 69 = .ok (.aload_n 0, 1) := by decide +kernel
theorem dX12_hire_70 : decode cX12_hire 70 = .ok (.aload_n 0, 1) := by decide +kernel
theorem dX12_hire_71 : decode cX12_hire 71 = .ok (.getfield 60, 3) := by decide +kernel
theorem dX12_hire_74 : decode cX12_hire 74 = .ok (.iload_n 1, 1) := by decide +kernel
theorem dX12_hire_75 : decode cX12_hire 75 = .ok (.iload_n 2, 1) := by decide +kernel
theorem dX12_hire_76 : decode cX12_hire 76 = .ok (.iload_n 3, 1) := by decide +kernel
theorem dX12_hire_77 : decode cX12_hire 77 = .ok (.iload 4, 2) := by decide +kernel
theorem dX12_hire_79 : decode cX12_hire 79 = .ok (.iconst 0, 1) := by decide +kernel
theorem dX12_hire_80 : decode cX12_hire 80 = .ok (.invokevirtual 361, 3) := by decide +kernel
theorem dX12_hire_83 : decode cX12_hire 83 = .ok (.ifCond .eq 31, 3) := by decide +kernel
theorem dX12_hire_86 : decode cX12_hire 86 = .ok (.iload 6, 2) := by decide +kernel
theorem dX12_hire_88 : decode cX12_hire 88 = .ok (.iconst (-1), 1) := by decide +kernel
theorem dX12_hire_89 : decode cX12_hire 89 = .ok (.if_icmp .eq 15, 3) := by decide +kernel
theorem dX12_hire_92 : decode cX12_hire 92 = .ok (.aload_n 0, 1) := by decide +kernel
theorem dX12_hire_93 : decode cX12_hire 93 = .ok (.getfield 321, 3) := by decide +kernel
theorem dX12_hire_96 : decode cX12_hire 96 = .ok (.iload 7, 2) := by decide +kernel
theorem dX12_hire_98 : decode cX12_hire 98 = .ok (.if_icmp .gt 6, 3) := by decide +kernel
theorem dX12_hire_101 : decode cX12_hire 101 = .ok (.goto 13, 3) := by decide +kernel
theorem dX12_hire_104 : decode cX12_hire 104 = .ok (.iload 8, 2) := by decide +kernel
theorem dX12_hire_106 : decode cX12_hire 106 = .ok (.istore 6, 2) := by decide +kernel
theorem dX12_hire_108 : decode cX12_hire 108 = .ok (.aload_n 0, 1) := by decide +kernel
theorem dX12_hire_109 : decode cX12_hire 109 = .ok (.getfield 321, 3) := by decide +kernel
theorem dX12_hire_112 : decode cX12_hire 112 = .ok (.istore 7, 2) := by decide +kernel
theorem dX12_hire_114 : decode cX12_hire 114 = .ok (.iinc 8 1, 3) := by decide +kernel
theorem dX12_hire_117 : decode cX12_hire 117 = .ok (.goto (-67), 3) := by decide +kernel
theorem dX12_hire_120 : decode cX12_hire 120 = .ok (.iload 6, 2) := by decide +kernel
theorem dX12_hire_122 : decode cX12_hire 122 = .ok (.ireturn, 1) := by decide +kernel
set_option maxHeartbeats 4000000 in
set_option maxRecDepth 100000 in
theorem B_X12_hire_0 {d : Nat} {ro : Nat → Nat} {J : JT} {Z : Option Value → Hp → Prop} (g : xCtx RX12 cX12_hire 9 d 0 0 yX12_hire.name ro J) (hr : xRet cX12_hire (some .int) 0 0 Z J) {μ : Hp} {a0 : Nat} {x1 : Int32} {x2 : Int32} {x3 : Int32} {x4 : Int32} {x5 : Int32} (hs_a0 : hS μ a0 = some (15, 65))
    (h : xCall d yX12_isFirm cX12_isFirm 2 (some .boolean) [.ref a0, .int x5] (wI μ a0 0 0) ro (fun r1 μ2 => ∃ y3 : Int32, r1 = some (.int y3) ∧ ((y3 = 0 → Z (some (.int (-1))) μ2) ∧ (¬ y3 = 0 → hS μ2 a0 = some (15, 65) ∧ xCall d yX12_isAsked cX12_isAsked 5 (some .boolean) [.ref a0, .int x1, .int x2, .int x3, .int x4] μ2 ro (fun r5 μ6 => ∃ y7 : Int32, r5 = some (.int y7) ∧ ((¬ y7 = 0 → hS μ6 a0 = some (15, 65) ∧ ∃ now_9 : Nat, hR μ6 a0 30 = some now_9 ∧ ∃ trial_10 : Nat, hR μ6 a0 31 = some trial_10 ∧ xCall d yX12_copyRow cX12_copyRow 5 none [.ref now_9, .int 0, .ref trial_10, .int 0] μ6 ro (fun r11 μ12 => r11 = none ∧ J μ12 0 0 50 [(0, .ref a0), (1, .int x1), (2, .int x2), (3, .int x3), (4, .int x4), (5, .int x5), (6, .int (-1)), (7, .int 0), (8, .int 0)] [])) ∧ (y7 = 0 → Z (some (.int (-1))) μ6))))))) :
    J μ 0 0 0 [(0, .ref a0), (1, .int x1), (2, .int x2), (3, .int x3), (4, .int x4), (5, .int x5)] [] := by
  refine r_aload_n g dX12_hire_0 rfl ?_
  refine r_iconst g 0 dX12_hire_1 (by decide) ?_
  refine r_putI g fX12_106 rfl hs_a0 rfl rfl dX12_hire_2 ?_
  refine r_aload_n g dX12_hire_5 rfl ?_
  refine r_iload g dX12_hire_6 rfl ?_
  obtain ⟨d1, Z1, hc1, hd1, h1⟩ := h
  refine r_callV (st := []) (As := [.int x5]) g sX12_351 iX12_isFirm eX12_isFirm rfl hs_a0 rfl (Nat.le_of_ble_eq_true rfl) dX12_hire_8 hd1 (Nat.le_refl 0) (Nat.le_refl 0) hc1 (fun r1 μ2 hZ1 => ?_)
  replace h := h1 _ _ hZ1
  clear h1 hc1 hd1 hZ1 Z1 d1
  obtain ⟨y3, rfl, h⟩ := h
  refine r_if_eq g 26 dX12_hire_11 (by decide) (fun c4 => ?_) (fun c4 => ?_)
  · replace h := h.1 c4
    refine r_iconst g (-1) dX12_hire_26 (by decide) ?_
    exact hr.2.1 _ rfl _ _ _ _ _ _ dX12_hire_27 rfl (Nat.le_refl 0) (Nat.le_refl 0) h
  · replace h := h.2 c4
    refine r_aload_n g dX12_hire_14 rfl ?_
    refine r_iload_n g dX12_hire_15 rfl ?_
    refine r_iload_n g dX12_hire_16 rfl ?_
    refine r_iload_n g dX12_hire_17 rfl ?_
    refine r_iload g dX12_hire_18 rfl ?_
    obtain ⟨hs_a0_, h⟩ := h
    obtain ⟨d1, Z1, hc1, hd1, h1⟩ := h
    refine r_callV (st := []) (As := [.int x1, .int x2, .int x3, .int x4]) g sX12_357 iX12_isAsked eX12_isAsked rfl hs_a0_ rfl (Nat.le_of_ble_eq_true rfl) dX12_hire_20 hd1 (Nat.le_refl 0) (Nat.le_refl 0) hc1 (fun r5 μ6 hZ1 => ?_)
    replace h := h1 _ _ hZ1
    clear h1 hc1 hd1 hZ1 Z1 d1
    obtain ⟨y7, rfl, h⟩ := h
    refine r_if_ne g 28 dX12_hire_23 (by decide) (fun c8 => ?_) (fun c8 => ?_)
    · replace h := h.1 c8
      refine r_aload_n g dX12_hire_28 rfl ?_
      obtain ⟨hs_a0__, h⟩ := h
      obtain ⟨now_9, hr_now_9, h⟩ := h
      refine r_getR g fX12_57 rfl hs_a0__ hr_now_9 dX12_hire_29 ?_
      refine r_iconst g 0 dX12_hire_32 (by decide) ?_
      refine r_aload_n g dX12_hire_33 rfl ?_
      obtain ⟨trial_10, hr_trial_10, h⟩ := h
      refine r_getR g fX12_60 rfl hs_a0__ hr_trial_10 dX12_hire_34 ?_
      refine r_iconst g 0 dX12_hire_37 (by decide) ?_
      obtain ⟨d1, Z1, hc1, hd1, h1⟩ := h
      refine r_callS (st := []) (As := [.ref now_9, .int 0, .ref trial_10, .int 0]) g sX12_408 iX12_copyRow rfl (Nat.le_of_ble_eq_true rfl) dX12_hire_38 hd1 (Nat.le_refl 0) (Nat.le_refl 0) hc1 (fun r11 μ12 hZ1 => ?_)
      replace h := h1 _ _ hZ1
      clear h1 hc1 hd1 hZ1 Z1 d1
      obtain ⟨rfl, h⟩ := h
      refine r_iconst g (-1) dX12_hire_41 (by decide) ?_
      refine r_istore g [(6, .int (-1)), (0, .ref a0), (1, .int x1), (2, .int x2), (3, .int x3), (4, .int x4), (5, .int x5)] dX12_hire_42 (by decide) rfl ?_
      refine r_iconst g 0 dX12_hire_44 (by decide) ?_
      refine r_istore g [(7, .int 0), (6, .int (-1)), (0, .ref a0), (1, .int x1), (2, .int x2), (3, .int x3), (4, .int x4), (5, .int x5)] dX12_hire_45 (by decide) rfl ?_
      refine r_iconst g 0 dX12_hire_47 (by decide) ?_
      refine r_istore g [(8, .int 0), (7, .int 0), (6, .int (-1)), (0, .ref a0), (1, .int x1), (2, .int x2), (3, .int x3), (4, .int x4), (5, .int x5)] dX12_hire_48 (by decide) rfl ?_
      refine r_sub g (lv' := [(0, .ref a0), (1, .int x1), (2, .int x2), (3, .int x3), (4, .int x4), (5, .int x5), (6, .int (-1)), (7, .int 0), (8, .int 0)]) (⟨rfl, rfl, rfl, rfl, rfl, rfl, rfl, rfl, rfl, trivial⟩) ?_
      exact h
    · replace h := h.2 c8
      refine r_iconst g (-1) dX12_hire_26 (by decide) ?_
      exact hr.2.1 _ rfl _ _ _ _ _ _ dX12_hire_27 rfl (Nat.le_refl 0) (Nat.le_refl 0) h
set_option maxHeartbeats 4000000 in
set_option maxRecDepth 100000 in
theorem B_X12_hire_50 {d : Nat} {ro : Nat → Nat} {J : JT} {Z : Option Value → Hp → Prop} (g : xCtx RX12 cX12_hire 9 d 0 0 yX12_hire.name ro J) (hr : xRet cX12_hire (some .int) 0 0 Z J) {μ : Hp} {a0 : Nat} {x1 : Int32} {x2 : Int32} {x3 : Int32} {x4 : Int32} {x5 : Int32} {x6 : Int32} {x7 : Int32} {x8 : Int32} {a0_trial : Nat} {N_a0_trial : Nat} (hs_a0 : hS μ a0 = some (15, 65)) (hr_a0_trial : hR μ a0 31 = some a0_trial) (hs_a0_trial : hS μ a0_trial = some (0, N_a0_trial))
    (h : ((99 < x8 → Z (some (.int x6)) μ) ∧ (¬ 99 < x8 → vp_in (8 + x5) N_a0_trial ∧ xCall d yX12_searches cX12_searches 8 (some .boolean) [.ref a0, .ref a0_trial, .int x1, .int x2, .int x3, .int x4, .int 0] (wI μ a0_trial ((8 + x5).toNatClampNeg) x8) ro (fun r3 μ4 => ∃ y5 : Int32, r3 = some (.int y5) ∧ ((y5 = 0 → J μ4 0 0 50 [(0, .ref a0), (1, .int x1), (2, .int x2), (3, .int x3), (4, .int x4), (5, .int x5), (6, .int x6), (7, .int x7), (8, .int (x8 + 1))] []) ∧ (¬ y5 = 0 → ((x6 = (-1) → hS μ4 a0 = some (15, 65) ∧ J μ4 0 0 50 [(0, .ref a0), (1, .int x1), (2, .int x2), (3, .int x3), (4, .int x4), (5, .int x5), (6, .int x8), (7, .int (hI μ4 a0 51)), (8, .int (x8 + 1))] []) ∧ (¬ x6 = (-1) → hS μ4 a0 = some (15, 65) ∧ ((x7 < (hI μ4 a0 51) → J μ4 0 0 50 [(0, .ref a0), (1, .int x1), (2, .int x2), (3, .int x3), (4, .int x4), (5, .int x5), (6, .int x8), (7, .int (hI μ4 a0 51)), (8, .int (x8 + 1))] []) ∧ (¬ x7 < (hI μ4 a0 51) → J μ4 0 0 50 [(0, .ref a0), (1, .int x1), (2, .int x2), (3, .int x3), (4, .int x4), (5, .int x5), (6, .int x6), (7, .int x7), (8, .int (x8 + 1))] [])))))))))) :
    J μ 0 0 50 [(0, .ref a0), (1, .int x1), (2, .int x2), (3, .int x3), (4, .int x4), (5, .int x5), (6, .int x6), (7, .int x7), (8, .int x8)] [] := by
  refine r_iload g dX12_hire_50 rfl ?_
  refine r_bipush g 99 dX12_hire_52 (by decide) ?_
  refine r_icmp_gt g 120 dX12_hire_54 (by decide) (fun c1 => ?_) (fun c1 => ?_)
  · replace h := h.1 c1
    refine r_iload g dX12_hire_120 rfl ?_
    exact hr.2.1 _ rfl _ _ _ _ _ _ dX12_hire_122 rfl (Nat.le_refl 0) (Nat.le_refl 0) h
  · replace h := h.2 c1
    refine r_aload_n g dX12_hire_57 rfl ?_
    refine r_getR g fX12_60 rfl hs_a0 hr_a0_trial dX12_hire_58 ?_
    refine r_bipush g 8 dX12_hire_61 (by decide) ?_
    refine r_iload g dX12_hire_63 rfl ?_
    refine r_iadd g dX12_hire_65 ?_
    refine r_iload g dX12_hire_66 rfl ?_
    obtain ⟨hi2, h⟩ := h
    refine r_iastore g hs_a0_trial hi2 dX12_hire_68 ?_
    refine r_aload_n g dX12_hire_69 rfl ?_
    refine r_aload_n g dX12_hire_70 rfl ?_
    refine r_getR g fX12_60 rfl hs_a0 hr_a0_trial dX12_hire_71 ?_
    refine r_iload_n g dX12_hire_74 rfl ?_
    refine r_iload_n g dX12_hire_75 rfl ?_
    refine r_iload_n g dX12_hire_76 rfl ?_
    refine r_iload g dX12_hire_77 rfl ?_
    refine r_iconst g 0 dX12_hire_79 (by decide) ?_
    obtain ⟨d1, Z1, hc1, hd1, h1⟩ := h
    refine r_callV (st := []) (As := [.ref a0_trial, .int x1, .int x2, .int x3, .int x4, .int 0]) g sX12_361 iX12_searches eX12_searches rfl hs_a0 rfl (Nat.le_of_ble_eq_true rfl) dX12_hire_80 hd1 (Nat.le_refl 0) (Nat.le_refl 0) hc1 (fun r3 μ4 hZ1 => ?_)
    replace h := h1 _ _ hZ1
    clear h1 hc1 hd1 hZ1 Z1 d1
    obtain ⟨y5, rfl, h⟩ := h
    refine r_if_eq g 114 dX12_hire_83 (by decide) (fun c6 => ?_) (fun c6 => ?_)
    · replace h := h.1 c6
      refine r_iinc g (x8 + 1) [(8, .int (x8 + 1)), (0, .ref a0), (1, .int x1), (2, .int x2), (3, .int x3), (4, .int x4), (5, .int x5), (6, .int x6), (7, .int x7)] dX12_hire_114 rfl rfl (by decide) rfl ?_
      refine r_goto g 50 dX12_hire_117 (by decide) ?_
      refine r_sub g (lv' := [(0, .ref a0), (1, .int x1), (2, .int x2), (3, .int x3), (4, .int x4), (5, .int x5), (6, .int x6), (7, .int x7), (8, .int (x8 + 1))]) (⟨rfl, rfl, rfl, rfl, rfl, rfl, rfl, rfl, rfl, trivial⟩) ?_
      exact h
    · replace h := h.2 c6
      refine r_iload g dX12_hire_86 rfl ?_
      refine r_iconst g (-1) dX12_hire_88 (by decide) ?_
      refine r_icmp_eq g 104 dX12_hire_89 (by decide) (fun c7 => ?_) (fun c7 => ?_)
      · replace h := h.1 c7
        refine r_iload g dX12_hire_104 rfl ?_
        refine r_istore g [(6, .int x8), (0, .ref a0), (1, .int x1), (2, .int x2), (3, .int x3), (4, .int x4), (5, .int x5), (7, .int x7), (8, .int x8)] dX12_hire_106 (by decide) rfl ?_
        refine r_aload_n g dX12_hire_108 rfl ?_
        obtain ⟨hs_a0_, h⟩ := h
        refine r_getI g fX12_321 rfl hs_a0_ dX12_hire_109 ?_
        refine r_istore g [(7, .int (hI μ4 a0 51)), (6, .int x8), (0, .ref a0), (1, .int x1), (2, .int x2), (3, .int x3), (4, .int x4), (5, .int x5), (8, .int x8)] dX12_hire_112 (by decide) rfl ?_
        refine r_iinc g (x8 + 1) [(8, .int (x8 + 1)), (7, .int (hI μ4 a0 51)), (6, .int x8), (0, .ref a0), (1, .int x1), (2, .int x2), (3, .int x3), (4, .int x4), (5, .int x5)] dX12_hire_114 rfl rfl (by decide) rfl ?_
        refine r_goto g 50 dX12_hire_117 (by decide) ?_
        refine r_sub g (lv' := [(0, .ref a0), (1, .int x1), (2, .int x2), (3, .int x3), (4, .int x4), (5, .int x5), (6, .int x8), (7, .int (hI μ4 a0 51)), (8, .int (x8 + 1))]) (⟨rfl, rfl, rfl, rfl, rfl, rfl, rfl, rfl, rfl, trivial⟩) ?_
        exact h
      · replace h := h.2 c7
        refine r_aload_n g dX12_hire_92 rfl ?_
        obtain ⟨hs_a0__, h⟩ := h
        refine r_getI g fX12_321 rfl hs_a0__ dX12_hire_93 ?_
        refine r_iload g dX12_hire_96 rfl ?_
        refine r_icmp_gt g 104 dX12_hire_98 (by decide) (fun c8 => ?_) (fun c8 => ?_)
        · replace h := h.1 c8
          refine r_iload g dX12_hire_104 rfl ?_
          refine r_istore g [(6, .int x8), (0, .ref a0), (1, .int x1), (2, .int x2), (3, .int x3), (4, .int x4), (5, .int x5), (7, .int x7), (8, .int x8)] dX12_hire_106 (by decide) rfl ?_
          refine r_aload_n g dX12_hire_108 rfl ?_
          refine r_getI g fX12_321 rfl hs_a0__ dX12_hire_109 ?_
          refine r_istore g [(7, .int (hI μ4 a0 51)), (6, .int x8), (0, .ref a0), (1, .int x1), (2, .int x2), (3, .int x3), (4, .int x4), (5, .int x5), (8, .int x8)] dX12_hire_112 (by decide) rfl ?_
          refine r_iinc g (x8 + 1) [(8, .int (x8 + 1)), (7, .int (hI μ4 a0 51)), (6, .int x8), (0, .ref a0), (1, .int x1), (2, .int x2), (3, .int x3), (4, .int x4), (5, .int x5)] dX12_hire_114 rfl rfl (by decide) rfl ?_
          refine r_goto g 50 dX12_hire_117 (by decide) ?_
          refine r_sub g (lv' := [(0, .ref a0), (1, .int x1), (2, .int x2), (3, .int x3), (4, .int x4), (5, .int x5), (6, .int x8), (7, .int (hI μ4 a0 51)), (8, .int (x8 + 1))]) (⟨rfl, rfl, rfl, rfl, rfl, rfl, rfl, rfl, rfl, trivial⟩) ?_
          exact h
        · replace h := h.2 c8
          refine r_goto g 114 dX12_hire_101 (by decide) ?_
          refine r_iinc g (x8 + 1) [(8, .int (x8 + 1)), (0, .ref a0), (1, .int x1), (2, .int x2), (3, .int x3), (4, .int x4), (5, .int x5), (6, .int x6), (7, .int x7)] dX12_hire_114 rfl rfl (by decide) rfl ?_
          refine r_goto g 50 dX12_hire_117 (by decide) ?_
          refine r_sub g (lv' := [(0, .ref a0), (1, .int x1), (2, .int x2), (3, .int x3), (4, .int x4), (5, .int x5), (6, .int x6), (7, .int x7), (8, .int (x8 + 1))]) (⟨rfl, rfl, rfl, rfl, rfl, rfl, rfl, rfl, rfl, trivial⟩) ?_
          exact h
theorem I_X12_hire {d : Nat} {ro : Nat → Nat} {Z : Option Value → Hp → Prop} {μ : Hp} {a0 : Nat} {x1 : Int32} {x2 : Int32} {x3 : Int32} {x4 : Int32} {x5 : Int32} (h : ∀ J, xCtx RX12 cX12_hire 9 d 0 0 yX12_hire.name ro J → xRet cX12_hire (some .int) 0 0 Z J → J μ 0 0 0 [(0, .ref a0), (1, .int x1), (2, .int x2), (3, .int x3), (4, .int x4), (5, .int x5)] []) : xC d yX12_hire cX12_hire 9 (some .int) 0 0 [.ref a0, .int x1, .int x2, .int x3, .int x4, .int x5] μ ro Z :=
  xC_intro (own := RX12) (lv := [(0, .ref a0), (1, .int x1), (2, .int x2), (3, .int x3), (4, .int x4), (5, .int x5)]) (by decide) rfl (Nat.le_of_ble_eq_true rfl) rfl (fun J g hr => r_sub g (lv' := [(0, .ref a0), (1, .int x1), (2, .int x2), (3, .int x3), (4, .int x4), (5, .int x5)]) (⟨rfl, rfl, rfl, rfl, rfl, rfl, trivial⟩) (h J g hr))
