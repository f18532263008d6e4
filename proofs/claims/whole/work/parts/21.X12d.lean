theorem dX12_says_0 : decode cX12_says 0 = .ok (.aload_n 0, 1) := by decide +kernel
theorem dX12_says_1 : decode cX12_says 1 = .ok (.getfield 103, 3) := by decide +kernel
theorem dX12_says_4 : decode cX12_says 4 = .ok (.aload_n 0, 1) := by decide +kernel
theorem dX12_says_5 : decode cX12_says 5 = .ok (.getfield 473, 3) := by decide +kernel
theorem dX12_says_8 : decode cX12_says 8 = .ok (.iload_n 1, 1) := by decide +kernel
theorem dX12_says_9 : decode cX12_says 9 = .ok (.i2b, 1) := by decide +kernel
theorem dX12_says_10 : decode cX12_says 10 = .ok (.bastore, 1) := by decide +kernel
theorem dX12_says_11 : decode cX12_says 11 = .ok (.aload_n 0, 1) := by decide +kernel
theorem dX12_says_12 : decode cX12_says 12 = .ok (.dup, 1) := by decide +kernel
theorem dX12_says_13 : decode cX12_says 13 = .ok (.getfield 473, 3) := by decide +kernel
theorem dX12_says_16 : decode cX12_says 16 = .ok (.iconst 1, 1) := by decide +kernel
theorem dX12_says_17 : decode cX12_says 17 = .ok (.iadd, 1) := by decide +kernel
theorem dX12_says_18 : decode cX12_says 18 = .ok (.putfield 473, 3) := by decide +kernel
theorem dX12_says_21 : decode cX12_says 21 = .ok (.return_, 1) := by decide +kernel
set_option maxHeartbeats 4000000 in
set_option maxRecDepth 100000 in
theorem B_X12_says_0 {d : Nat} {ro : Nat → Nat} {J : JT} {Z : Option Value → Hp → Prop} (g : xCtx RX12 cX12_says 2 d 0 0 yX12_says.name ro J) (hr : xRet cX12_says none 0 0 Z J) {μ : Hp} {a0 : Nat} {x1 : Int32} {a0_spelled : Nat} {N_a0_spelled : Nat} (hs_a0 : hS μ a0 = some (15, 65)) (hr_a0_spelled : hR μ a0 63 = some a0_spelled) (hs_a0_spelled : hS μ a0_spelled = some (1, N_a0_spelled))
    (h : vp_in (hI μ a0 64) N_a0_spelled ∧ (∀ v2 : Int32, v2 = (hI (wI μ a0_spelled ((hI μ a0 64).toNatClampNeg) (vp_nar .byte x1.toInt8.toInt32)) a0 64) → Z none (wI (wI μ a0_spelled ((hI μ a0 64).toNatClampNeg) (vp_nar .byte x1.toInt8.toInt32)) a0 64 (v2 + 1)))) :
    J μ 0 0 0 [(0, .ref a0), (1, .int x1)] [] := by
  refine r_aload_n g dX12_says_0 rfl ?_
  refine r_getR g fX12_103 rfl hs_a0 hr_a0_spelled dX12_says_1 ?_
  refine r_aload_n g dX12_says_4 rfl ?_
  refine r_getI g fX12_473 rfl hs_a0 dX12_says_5 ?_
  refine r_iload_n g dX12_says_8 rfl ?_
  refine r_i2b g dX12_says_9 ?_
  obtain ⟨hi1, h⟩ := h
  refine r_bastore g hs_a0_spelled hi1 dX12_says_10 ?_
  refine r_aload_n g dX12_says_11 rfl ?_
  refine r_dup g dX12_says_12 rfl ?_
  refine r_getI g fX12_473 rfl hs_a0 dX12_says_13 ?_
  refine r_nmI (fun v2 ev2 => ?_)
  replace h := h v2 ev2
  refine r_iconst g 1 dX12_says_16 (by decide) ?_
  refine r_iadd g dX12_says_17 ?_
  refine r_putI g fX12_473 rfl hs_a0 rfl rfl dX12_says_18 ?_
  exact hr.1 rfl _ _ _ _ _ dX12_says_21 (Nat.le_refl 0) (Nat.le_refl 0) h
theorem I_X12_says {d : Nat} {ro : Nat → Nat} {Z : Option Value → Hp → Prop} {μ : Hp} {a0 : Nat} {x1 : Int32} (h : ∀ J, xCtx RX12 cX12_says 2 d 0 0 yX12_says.name ro J → xRet cX12_says none 0 0 Z J → J μ 0 0 0 [(0, .ref a0), (1, .int x1)] []) : xC d yX12_says cX12_says 2 none 0 0 [.ref a0, .int x1] μ ro Z :=
  xC_intro (own := RX12) (lv := [(0, .ref a0), (1, .int x1)]) (by decide) rfl (Nat.le_of_ble_eq_true rfl) rfl (fun J g hr => r_sub g (lv' := [(0, .ref a0), (1, .int x1)]) (⟨rfl, rfl, trivial⟩) (h J g hr))
theorem dX12_saysName_0 : decode cX12_saysName 0 = .ok (.iconst 0, 1) := by decide +kernel
theorem dX12_saysName_1 : decode cX12_saysName 1 = .ok (.istore_n 2, 1) := by decide +kernel
theorem dX12_saysName_2 : decode cX12_saysName 2 = .ok (.iload_n 2, 1) := by decide +kernel
theorem dX12_saysName_3 : decode cX12_saysName 3 = .ok (.aload_n 0, 1) := by decide +kernel
theorem dX12_saysName_4 : decode cX12_saysName 4 = .ok (.getfield 48, 3) := by decide +kernel
theorem dX12_saysName_7 : decode cX12_saysName 7 = .ok (.iload_n 1, 1) := by decide +kernel
theorem dX12_saysName_8 : decode cX12_saysName 8 = .ok (.laload, 1) := by decide +kernel
theorem dX12_saysName_9 : decode cX12_saysName 9 = .ok (.invokestatic 457, 3) := by decide +kernel
theorem dX12_saysName_12 : decode cX12_saysName 12 = .ok (.if_icmp .ge 23, 3) := by decide +kernel
theorem dX12_saysName_15 : decode cX12_saysName 15 = .ok (.aload_n 0, 1) := by decide +kernel
theorem dX12_saysName_16 : decode cX12_saysName 16 = .ok (.aload_n 0, 1) := by decide +kernel
theorem dX12_saysName_17 : decode cX12_saysName 17 = .ok (.getfield 48, 3) := by decide +kernel
theorem dX12_saysName_20 : decode cX12_saysName 20 = .ok (.iload_n 1, 1) := by decide +kernel
theorem dX12_saysName_21 : decode cX12_saysName 21 = .ok (.laload, 1) := by decide +kernel
theorem dX12_saysName_22 : decode cX12_saysName 22 = .ok (.iload_n 2, 1) := by decide +kernel
theorem dX12_saysName_23 : decode cX12_saysName 23 = .ok (.invokestatic 462, 3) := by decide +kernel
theorem dX12_saysName_26 : decode cX12_saysName 26 = .ok (.invokevirtual 476, 3) := by decide +kernel
theorem dX12_saysName_29 : decode cX12_saysName 29 = .ok (.iinc 2 1, 3) := by decide +kernel
theorem dX12_saysName_32 : decode cX12_saysName 32 = .ok (.goto (-30), 3) := by decide +kernel
theorem dX12_saysName_35 : decode cX12_saysName 35 = .ok (.return_, 1) := by decide +kernel
set_option maxHeartbeats 4000000 in
set_option maxRecDepth 100000 in
theorem B_X12_saysName_0 {d : Nat} {ro : Nat → Nat} {J : JT} {Z : Option Value → Hp → Prop} (g : xCtx RX12 cX12_saysName 3 d 0 0 yX12_saysName.name ro J) (hr : xRet cX12_saysName none 0 0 Z J) {μ : Hp} {a0 : Nat} {x1 : Int32} 
    (h : J μ 0 0 2 [(0, .ref a0), (1, .int x1), (2, .int 0)] []) :
    J μ 0 0 0 [(0, .ref a0), (1, .int x1)] [] := by
  refine r_iconst g 0 dX12_saysName_0 (by decide) ?_
  refine r_istore_n g [(2, .int 0), (0, .ref a0), (1, .int x1)] dX12_saysName_1 (by decide) rfl ?_
  refine r_sub g (lv' := [(0, .ref a0), (1, .int x1), (2, .int 0)]) (⟨rfl, rfl, rfl, trivial⟩) ?_
  exact h
set_option maxHeartbeats 4000000 in
set_option maxRecDepth 100000 in
theorem B_X12_saysName_2 {d : Nat} {ro : Nat → Nat} {J : JT} {Z : Option Value → Hp → Prop} (g : xCtx RX12 cX12_saysName 3 d 0 0 yX12_saysName.name ro J) (hr : xRet cX12_saysName none 0 0 Z J) {μ : Hp} {a0 : Nat} {x1 : Int32} {x2 : Int32} {a0_firmName : Nat} {N_a0_firmName : Nat} (hs_a0 : hS μ a0 = some (15, 65)) (hr_a0_firmName : hR μ a0 18 = some a0_firmName) (hs_a0_firmName : hS μ a0_firmName = some (2, N_a0_firmName))
    (h : vp_in x1 N_a0_firmName ∧ xCall d yX12_lettersOf cX12_lettersOf 3 (some .int) [.long (hL μ a0_firmName x1.toNatClampNeg)] μ ro (fun r2 μ3 => ∃ y4 : Int32, r2 = some (.int y4) ∧ ((y4 ≤ x2 → Z none μ3) ∧ (¬ y4 ≤ x2 → hS μ3 a0 = some (15, 65) ∧ ∃ firmName_6 : Nat, hR μ3 a0 18 = some firmName_6 ∧ ∃ N7 : Nat, hS μ3 firmName_6 = some (2, N7) ∧ vp_in x1 N7 ∧ xCall d yX12_letterOf cX12_letterOf 3 (some .int) [.long (hL μ3 firmName_6 x1.toNatClampNeg), .int x2] μ3 ro (fun r9 μ10 => ∃ y11 : Int32, r9 = some (.int y11) ∧ hS μ10 a0 = some (15, 65) ∧ xCall d yX12_says cX12_says 2 none [.ref a0, .int y11] μ10 ro (fun r12 μ13 => r12 = none ∧ J μ13 0 0 2 [(0, .ref a0), (1, .int x1), (2, .int (x2 + 1))] [])))))) :
    J μ 0 0 2 [(0, .ref a0), (1, .int x1), (2, .int x2)] [] := by
  refine r_iload_n g dX12_saysName_2 rfl ?_
  refine r_aload_n g dX12_saysName_3 rfl ?_
  refine r_getR g fX12_48 rfl hs_a0 hr_a0_firmName dX12_saysName_4 ?_
  refine r_iload_n g dX12_saysName_7 rfl ?_
  obtain ⟨hi1, h⟩ := h
  refine r_laload g hs_a0_firmName hi1 dX12_saysName_8 ?_
  obtain ⟨d1, Z1, hc1, hd1, h1⟩ := h
  refine r_callS (st := [.int x2]) (As := [.long (hL μ a0_firmName x1.toNatClampNeg)]) g sX12_457 iX12_lettersOf rfl (Nat.le_of_ble_eq_true rfl) dX12_saysName_9 hd1 (Nat.le_refl 0) (Nat.le_refl 0) hc1 (fun r2 μ3 hZ1 => ?_)
  replace h := h1 _ _ hZ1
  clear h1 hc1 hd1 hZ1 Z1 d1
  obtain ⟨y4, rfl, h⟩ := h
  refine r_icmp_ge g 35 dX12_saysName_12 (by decide) (fun c5 => ?_) (fun c5 => ?_)
  · replace h := h.1 c5
    exact hr.1 rfl _ _ _ _ _ dX12_saysName_35 (Nat.le_refl 0) (Nat.le_refl 0) h
  · replace h := h.2 c5
    refine r_aload_n g dX12_saysName_15 rfl ?_
    refine r_aload_n g dX12_saysName_16 rfl ?_
    obtain ⟨hs_a0_, h⟩ := h
    obtain ⟨firmName_6, hr_firmName_6, h⟩ := h
    refine r_getR g fX12_48 rfl hs_a0_ hr_firmName_6 dX12_saysName_17 ?_
    refine r_iload_n g dX12_saysName_20 rfl ?_
    obtain ⟨N7, hs_firmName_6, h⟩ := h
    obtain ⟨hi8, h⟩ := h
    refine r_laload g hs_firmName_6 hi8 dX12_saysName_21 ?_
    refine r_iload_n g dX12_saysName_22 rfl ?_
    obtain ⟨d1, Z1, hc1, hd1, h1⟩ := h
    refine r_callS (st := [.ref a0]) (As := [.long (hL μ3 firmName_6 x1.toNatClampNeg), .int x2]) g sX12_462 iX12_letterOf rfl (Nat.le_of_ble_eq_true rfl) dX12_saysName_23 hd1 (Nat.le_refl 0) (Nat.le_refl 0) hc1 (fun r9 μ10 hZ1 => ?_)
    replace h := h1 _ _ hZ1
    clear h1 hc1 hd1 hZ1 Z1 d1
    obtain ⟨y11, rfl, h⟩ := h
    obtain ⟨hs_a0__, h⟩ := h
    obtain ⟨d1, Z1, hc1, hd1, h1⟩ := h
    refine r_callV (st := []) (As := [.int y11]) g sX12_476 iX12_says eX12_says rfl hs_a0__ rfl (Nat.le_of_ble_eq_true rfl) dX12_saysName_26 hd1 (Nat.le_refl 0) (Nat.le_refl 0) hc1 (fun r12 μ13 hZ1 => ?_)
    replace h := h1 _ _ hZ1
    clear h1 hc1 hd1 hZ1 Z1 d1
    obtain ⟨rfl, h⟩ := h
    refine r_iinc g (x2 + 1) [(2, .int (x2 + 1)), (0, .ref a0), (1, .int x1)] dX12_saysName_29 rfl rfl (by decide) rfl ?_
    refine r_goto g 2 dX12_saysName_32 (by decide) ?_
    refine r_sub g (lv' := [(0, .ref a0), (1, .int x1), (2, .int (x2 + 1))]) (⟨rfl, rfl, rfl, trivial⟩) ?_
    exact h
theorem I_X12_saysName {d : Nat} {ro : Nat → Nat} {Z : Option Value → Hp → Prop} {μ : Hp} {a0 : Nat} {x1 : Int32} (h : ∀ J, xCtx RX12 cX12_saysName 3 d 0 0 yX12_saysName.name ro J → xRet cX12_saysName none 0 0 Z J → J μ 0 0 0 [(0, .ref a0), (1, .int x1)] []) : xC d yX12_saysName cX12_saysName 3 none 0 0 [.ref a0, .int x1] μ ro Z :=
  xC_intro (own := RX12) (lv := [(0, .ref a0), (1, .int x1)]) (by decide) rfl (Nat.le_of_ble_eq_true rfl) rfl (fun J g hr => r_sub g (lv' := [(0, .ref a0), (1, .int x1)]) (⟨rfl, rfl, trivial⟩) (h J g hr))
theorem dX12_saysNumber_0 : decode cX12_saysNumber 0 = .ok (.iload_n 1, 1) := by decide +kernel
theorem dX12_saysNumber_1 : decode cX12_saysNumber 1 = .ok (.bipush 10, 2) := by decide +kernel
theorem dX12_saysNumber_3 : decode cX12_saysNumber 3 = .ok (.if_icmp .lt 11, 3) := by decide +kernel
theorem dX12_saysNumber_6 : decode cX12_saysNumber 6 = .ok (.aload_n 0, 1) := by decide +kernel
theorem dX12_saysNumber_7 : decode cX12_saysNumber 7 = .ok (.iload_n 1, 1) := by decide +kernel
theorem dX12_saysNumber_8 : decode cX12_saysNumber 8 = .ok (.bipush 10, 2) := by decide +kernel
theorem dX12_saysNumber_10 : decode cX12_saysNumber 10 = .ok (.idiv, 1) := by decide +kernel
theorem dX12_saysNumber_11 : decode cX12_saysNumber 11 = .ok (.invokevirtual 479, 3) := by decide +kernel
theorem dX12_saysNumber_14 : decode cX12_saysNumber 14 = .ok (.aload_n 0, 1) := by decide +kernel
theorem dX12_saysNumber_15 : decode cX12_saysNumber 15 = .ok (.bipush 48, 2) := by decide +kernel
theorem dX12_saysNumber_17 : decode cX12_saysNumber 17 = .ok (.iload_n 1, 1) := by decide +kernel
theorem dX12_saysNumber_18 : decode cX12_saysNumber 18 = .ok (.bipush 10, 2) := by decide +kernel
theorem dX12_saysNumber_20 : decode cX12_saysNumber 20 = .ok (.irem, 1) := by decide +kernel
theorem dX12_saysNumber_21 : decode cX12_saysNumber 21 = .ok (.iadd, 1) := by decide +kernel
theorem dX12_saysNumber_22 : decode cX12_saysNumber 22 = .ok (.invokevirtual 476, 3) := by decide +kernel
theorem dX12_saysNumber_25 : decode cX12_saysNumber 25 = .ok (.return_, 1) := by decide +kernel
set_option maxHeartbeats 4000000 in
set_option maxRecDepth 100000 in
theorem B_X12_saysNumber_0 {d : Nat} {ro : Nat → Nat} {J : JT} {Z : Option Value → Hp → Prop} (g : xCtx RX12 cX12_saysNumber 2 d 0 0 yX12_saysNumber.name ro J) (hr : xRet cX12_saysNumber none 0 0 Z J) {μ : Hp} {a0 : Nat} {x1 : Int32} (hs_a0 : hS μ a0 = some (15, 65))
    (h : ((x1 < 10 → xCall d yX12_says cX12_says 2 none [.ref a0, .int (48 + (x1 - x1 / 10 * 10))] μ ro (fun r2 μ3 => r2 = none ∧ Z none μ3)) ∧ (¬ x1 < 10 → xCall d yX12_saysNumber cX12_saysNumber 2 none [.ref a0, .int (x1 / 10)] μ ro (fun r4 μ5 => r4 = none ∧ hS μ5 a0 = some (15, 65) ∧ xCall d yX12_says cX12_says 2 none [.ref a0, .int (48 + (x1 - x1 / 10 * 10))] μ5 ro (fun r6 μ7 => r6 = none ∧ Z none μ7))))) :
    J μ 0 0 0 [(0, .ref a0), (1, .int x1)] [] := by
  refine r_iload_n g dX12_saysNumber_0 rfl ?_
  refine r_bipush g 10 dX12_saysNumber_1 (by decide) ?_
  refine r_icmp_lt g 14 dX12_saysNumber_3 (by decide) (fun c1 => ?_) (fun c1 => ?_)
  · replace h := h.1 c1
    refine r_aload_n g dX12_saysNumber_14 rfl ?_
    refine r_bipush g 48 dX12_saysNumber_15 (by decide) ?_
    refine r_iload_n g dX12_saysNumber_17 rfl ?_
    refine r_bipush g 10 dX12_saysNumber_18 (by decide) ?_
    refine r_irem g (by decide) dX12_saysNumber_20 ?_
    refine r_iadd g dX12_saysNumber_21 ?_
    obtain ⟨d1, Z1, hc1, hd1, h1⟩ := h
    refine r_callV (st := []) (As := [.int (48 + (x1 - x1 / 10 * 10))]) g sX12_476 iX12_says eX12_says rfl hs_a0 rfl (Nat.le_of_ble_eq_true rfl) dX12_saysNumber_22 hd1 (Nat.le_refl 0) (Nat.le_refl 0) hc1 (fun r2 μ3 hZ1 => ?_)
    replace h := h1 _ _ hZ1
    clear h1 hc1 hd1 hZ1 Z1 d1
    obtain ⟨rfl, h⟩ := h
    exact hr.1 rfl _ _ _ _ _ dX12_saysNumber_25 (Nat.le_refl 0) (Nat.le_refl 0) h
  · replace h := h.2 c1
    refine r_aload_n g dX12_saysNumber_6 rfl ?_
    refine r_iload_n g dX12_saysNumber_7 rfl ?_
    refine r_bipush g 10 dX12_saysNumber_8 (by decide) ?_
    refine r_idiv g (by decide) dX12_saysNumber_10 ?_
    obtain ⟨d1, Z1, hc1, hd1, h1⟩ := h
    refine r_callV (st := []) (As := [.int (x1 / 10)]) g sX12_479 iX12_saysNumber eX12_saysNumber rfl hs_a0 rfl (Nat.le_of_ble_eq_true rfl) dX12_saysNumber_11 hd1 (Nat.le_refl 0) (Nat.le_refl 0) hc1 (fun r4 μ5 hZ1 => ?_)
    replace h := h1 _ _ hZ1
    clear h1 hc1 hd1 hZ1 Z1 d1
    obtain ⟨rfl, h⟩ := h
    refine r_aload_n g dX12_saysNumber_14 rfl ?_
    refine r_bipush g 48 dX12_saysNumber_15 (by decide) ?_
    refine r_iload_n g dX12_saysNumber_17 rfl ?_
    refine r_bipush g 10 dX12_saysNumber_18 (by decide) ?_
    refine r_irem g (by decide) dX12_saysNumber_20 ?_
    refine r_iadd g dX12_saysNumber_21 ?_
    obtain ⟨hs_a0__, h⟩ := h
    obtain ⟨d1, Z1, hc1, hd1, h1⟩ := h
    refine r_callV (st := []) (As := [.int (48 + (x1 - x1 / 10 * 10))]) g sX12_476 iX12_says eX12_says rfl hs_a0__ rfl (Nat.le_of_ble_eq_true rfl) dX12_saysNumber_22 hd1 (Nat.le_refl 0) (Nat.le_refl 0) hc1 (fun r6 μ7 hZ1 => ?_)
    replace h := h1 _ _ hZ1
    clear h1 hc1 hd1 hZ1 Z1 d1
    obtain ⟨rfl, h⟩ := h
    exact hr.1 rfl _ _ _ _ _ dX12_saysNumber_25 (Nat.le_refl 0) (Nat.le_refl 0) h
theorem I_X12_saysNumber {d : Nat} {ro : Nat → Nat} {Z : Option Value → Hp → Prop} {μ : Hp} {a0 : Nat} {x1 : Int32} (h : ∀ J, xCtx RX12 cX12_saysNumber 2 d 0 0 yX12_saysNumber.name ro J → xRet cX12_saysNumber none 0 0 Z J → J μ 0 0 0 [(0, .ref a0), (1, .int x1)] []) : xC d yX12_saysNumber cX12_saysNumber 2 none 0 0 [.ref a0, .int x1] μ ro Z :=
  xC_intro (own := RX12) (lv := [(0, .ref a0), (1, .int x1)]) (by decide) rfl (Nat.le_of_ble_eq_true rfl) rfl (fun J g hr => r_sub g (lv' := [(0, .ref a0), (1, .int x1)]) (⟨rfl, rfl, trivial⟩) (h J g hr))
theorem dX12_spells_0 : decode cX12_spells 0 = .ok (.aload_n 0, 1) := by decide +kernel
theorem dX12_spells_1 : decode cX12_spells 1 = .ok (.iconst 0, 1) := by decide +kernel
theorem dX12_spells_2 : decode cX12_spells 2 = .ok (.putfield 473, 3) := by decide +kernel
theorem dX12_spells_5 : decode cX12_spells 5 = .ok (.aload_n 0, 1) := by decide +kernel
theorem dX12_spells_6 : decode cX12_spells 6 = .ok (.aload_n 0, 1) := by decide +kernel
theorem dX12_spells_7 : decode cX12_spells 7 = .ok (.getfield 79, 3) := by decide +kernel
theorem dX12_spells_10 : decode cX12_spells 10 = .ok (.iconst 0, 1) := by decide +kernel
theorem dX12_spells_11 : decode cX12_spells 11 = .ok (.iaload, 1) := by decide +kernel
theorem dX12_spells_12 : decode cX12_spells 12 = .ok (.invokevirtual 482, 3) := by decide +kernel
theorem dX12_spells_15 : decode cX12_spells 15 = .ok (.iconst 0, 1) := by decide +kernel
theorem dX12_spells_16 : decode cX12_spells 16 = .ok (.istore_n 1, 1) := by decide +kernel
theorem dX12_spells_17 : decode cX12_spells 17 = .ok (.iload_n 1, 1) := by decide +kernel
theorem dX12_spells_18 : decode cX12_spells 18 = .ok (.aload_n 0, 1) := by decide +kernel
theorem dX12_spells_19 : decode cX12_spells 19 = .ok (.getfield 306, 3) := by decide +kernel
theorem dX12_spells_22 : decode cX12_spells 22 = .ok (.if_icmp .ge 114, 3) := by decide +kernel
theorem dX12_spells_25 : decode cX12_spells 25 = .ok (.aload_n 0, 1) := by decide +kernel
theorem dX12_spells_26 : decode cX12_spells 26 = .ok (.bipush 32, 2) := by decide +kernel
theorem dX12_spells_28 : decode cX12_spells 28 = .ok (.invokevirtual 476, 3) := by decide +kernel
theorem dX12_spells_31 : decode cX12_spells 31 = .ok (.aload_n 0, 1) := by decide +kernel
theorem dX12_spells_32 : decode cX12_spells 32 = .ok (.bipush 62, 2) := by decide +kernel
theorem dX12_spells_34 : decode cX12_spells 34 = .ok (.invokevirtual 476, 3) := by decide +kernel
theorem dX12_spells_37 : decode cX12_spells 37 = .ok (.aload_n 0, 1) := by decide +kernel
theorem dX12_spells_38 : decode cX12_spells 38 = .ok (.aload_n 0, 1) := by decide +kernel
theorem dX12_spells_39 : decode cX12_spells 39 = .ok (.getfield 82, 3) := by decide +kernel
theorem dX12_spells_42 : decode cX12_spells 42 = .ok (.iload_n 1, 1) := by decide +kernel
theorem dX12_spells_43 : decode cX12_spells 43 = .ok (.iaload, 1) := by decide +kernel
theorem dX12_spells_44 : decode cX12_spells 44 = .ok (.bipush 10, 2) := by decide +kernel
theorem dX12_spells_46 : decode cX12_spells 46 = .ok (.idiv, 1) := by decide +kernel
theorem dX12_spells_47 : decode cX12_spells 47 = .ok (.invokevirtual 479, 3) := by decide +kernel
theorem dX12_spells_50 : decode cX12_spells 50 = .ok (.aload_n 0, 1) := by decide +kernel
theorem dX12_spells_51 : decode cX12_spells 51 = .ok (.getfield 82, 3) := by decide +kernel
theorem dX12_spells_54 : decode cX12_spells 54 = .ok (.iload_n 1, 1) := by decide +kernel
theorem dX12_spells_55 : decode cX12_spells 55 = .ok (.iaload, 1) := by decide +kernel
theorem dX12_spells_56 : decode cX12_spells 56 = .ok (.bipush 10, 2) := by decide +kernel
theorem dX12_spells_58 : decode cX12_spells 58 = .ok (.irem, 1) := by decide +kernel
theorem dX12_spells_59 : decode cX12_spells 59 = .ok (.ifCond .le 22, 3) := by decide +kernel
theorem dX12_spells_62 : decode cX12_spells 62 = .ok (.aload_n 0, 1) := by decide +kernel
theorem dX12_spells_63 : decode cX12_spells 63 = .ok (.bipush 46, 2) := by decide +kernel
theorem dX12_spells_65 : decode cX12_spells 65 = .ok (.invokevirtual 476, 3) := by decide +kernel
theorem dX12_spells_68 : decode cX12_spells 68 = .ok (.aload_n 0, 1) := by decide +kernel
theorem dX12_spells_69 : decode cX12_spells 69 = .ok (.aload_n 0, 1) := by decide +kernel
theorem dX12_spells_70 : decode cX12_spells 70 = .ok (.getfield 82, 3) := by decide +kernel
theorem dX12_spells_73 : decode cX12_spells 73 = .ok (.iload_n 1, 1) := by decide +kernel
theorem dX12_spells_74 : decode cX12_spells 74 = .ok (.iaload, 1) := by decide +kernel
theorem dX12_spells_75 : decode cX12_spells 75 = .ok (.bipush 10, 2) := by decide +kernel
theorem dX12_spells_77 : decode cX12_spells 77 = .ok (.irem, 1) := by decide +kernel
theorem dX12_spells_78 : decode cX12_spells 78 = .ok (.invokevirtual 479, 3) := by decide +kernel
theorem dX12_spells_81 : decode cX12_spells 81 = .ok (.aload_n 0, 1) := by decide +kernel
theorem dX12_spells_82 : decode cX12_spells 82 = .ok (.bipush 37, 2) := by decide +kernel
theorem dX12_spells_84 : decode cX12_spells 84 = .ok (.invokevirtual 476, 3) := by decide +kernel
theorem dX12_spells_87 : decode cX12_spells 87 = .ok (.aload_n 0, 1) := by decide +kernel
theorem dX12_spells_88 : decode cX12_spells 88 = .ok (.getfield 85, 3) := by decide +kernel
theorem dX12_spells_91 : decode cX12_spells 91 = .ok (.iload_n 1, 1) := by decide +kernel
theorem dX12_spells_92 : decode cX12_spells 92 = .ok (.iaload, 1) := by decide +kernel
theorem dX12_spells_93 : decode cX12_spells 93 = .ok (.ifCond .eq 19, 3) := by decide +kernel
theorem dX12_spells_96 : decode cX12_spells 96 = .ok (.aload_n 0, 1) := by decide +kernel
theorem dX12_spells_97 : decode cX12_spells 97 = .ok (.bipush 33, 2) := by decide +kernel
theorem dX12_spells_99 : decode cX12_spells 99 = .ok (.invokevirtual 476, 3) := by decide +kernel
theorem dX12_spells_102 : decode cX12_spells 102 = .ok (.aload_n 0, 1) := by decide +kernel
theorem dX12_spells_103 : decode cX12_spells 103 = .ok (.aload_n 0, 1) := by decide +kernel
theorem dX12_spells_104 : decode cX12_spells 104 = .ok (.getfield 85, 3) := by decide +kernel
theorem dX12_spells_107 : decode cX12_spells 107 = .ok (.iload_n 1, 1) := by decide +kernel
theorem dX12_spells_108 : decode cX12_spells 108 = .ok (.iaload, 1) := by decide +kernel
theorem dX12_spells_109 : decode cX12_spells 109 = .ok (.invokevirtual 479, 3) := by decide +kernel
theorem dX12_spells_112 : decode cX12_spells 112 = .ok (.aload_n 0, 1) := by decide +kernel
theorem dX12_spells_113 : decode cX12_spells 113 = .ok (.bipush 32, 2) := by decide +kernel
theorem dX12_spells_115 : decode cX12_spells 115 = .ok (.invokevirtual 476, 3) := by decide +kernel
theorem dX12_spells_118 : decode cX12_spells 118 = .ok (.aload_n 0, 1) := by decide +kernel
theorem dX12_spells_119 : decode cX12_spells 119 = .ok (.aload_n 0, 1) := by decide +kernel
theorem dX12_spells_120 : decode cX12_spells 120 = .ok (.getfield 79, 3) := by decide +kernel
theorem dX12_spells_123 : decode cX12_spells 123 = .ok (.iload_n 1, 1) := by decide +kernel
theorem dX12_spells_124 : decode cX12_spells 124 = .ok (.iconst 1, 1) := by decide +kernel
theorem dX12_spells_125 : decode cX12_spells 125 = .ok (.iadd, 1) := by decide +kernel
theorem dX12_spells_126 : decode cX12_spells 126 = .ok (.iaload, 1) := by decide +kernel
theorem dX12_spells_127 : decode cX12_spells 127 = .ok (.invokevirtual 482, 3) := by decide +kernel
theorem dX12_spells_130 : decode cX12_spells 130 = .ok (.iinc 1 1, 3) := by decide +kernel
theorem dX12_spells_133 : decode cX12_spells 133 = .ok (.goto (-116), 3) := by decide +kernel
theorem dX12_spells_136 : decode cX12_spells 136 = .ok (.return_, 1) := by decide +kernel
set_option maxHeartbeats 4000000 in
set_option maxRecDepth 100000 in
theorem B_X12_spells_0 {d : Nat} {ro : Nat → Nat} {J : JT} {Z : Option Value → Hp → Prop} (g : xCtx RX12 cX12_spells 2 d 0 0 yX12_spells.name ro J) (hr : xRet cX12_spells none 0 0 Z J) {μ : Hp} {a0 : Nat} {a0_way : Nat} {N_a0_way : Nat} (hs_a0 : hS μ a0 = some (15, 65)) (hr_a0_way : hR μ a0 43 = some a0_way) (hs_a0_way : hS μ a0_way = some (0, N_a0_way))
    (h : vp_in 0 N_a0_way ∧ xCall d yX12_saysName cX12_saysName 3 none [.ref a0, .int (hI (wI μ a0 64 0) a0_way 0)] (wI μ a0 64 0) ro (fun r2 μ3 => r2 = none ∧ J μ3 0 0 17 [(0, .ref a0), (1, .int 0)] [])) :
    J μ 0 0 0 [(0, .ref a0)] [] := by
  refine r_aload_n g dX12_spells_0 rfl ?_
  refine r_iconst g 0 dX12_spells_1 (by decide) ?_
  refine r_putI g fX12_473 rfl hs_a0 rfl rfl dX12_spells_2 ?_
  refine r_aload_n g dX12_spells_5 rfl ?_
  refine r_aload_n g dX12_spells_6 rfl ?_
  refine r_getR g fX12_79 rfl hs_a0 hr_a0_way dX12_spells_7 ?_
  refine r_iconst g 0 dX12_spells_10 (by decide) ?_
  obtain ⟨hi1, h⟩ := h
  refine r_iaload g hs_a0_way hi1 dX12_spells_11 ?_
  obtain ⟨d1, Z1, hc1, hd1, h1⟩ := h
  refine r_callV (st := []) (As := [.int (hI (wI μ a0 64 0) a0_way 0)]) g sX12_482 iX12_saysName eX12_saysName rfl hs_a0 rfl (Nat.le_of_ble_eq_true rfl) dX12_spells_12 hd1 (Nat.le_refl 0) (Nat.le_refl 0) hc1 (fun r2 μ3 hZ1 => ?_)
  replace h := h1 _ _ hZ1
  clear h1 hc1 hd1 hZ1 Z1 d1
  obtain ⟨rfl, h⟩ := h
  refine r_iconst g 0 dX12_spells_15 (by decide) ?_
  refine r_istore_n g [(1, .int 0), (0, .ref a0)] dX12_spells_16 (by decide) rfl ?_
  refine r_sub g (lv' := [(0, .ref a0), (1, .int 0)]) (⟨rfl, rfl, trivial⟩) ?_
  exact h
set_option maxHeartbeats 4000000 in
set_option maxRecDepth 100000 in
theorem B_X12_spells_17 {d : Nat} {ro : Nat → Nat} {J : JT} {Z : Option Value → Hp → Prop} (g : xCtx RX12 cX12_spells 2 d 0 0 yX12_spells.name ro J) (hr : xRet cX12_spells none 0 0 Z J) {μ : Hp} {a0 : Nat} {x1 : Int32} (hs_a0 : hS μ a0 = some (15, 65))
    (h : (((hI μ a0 50) ≤ x1 → Z none μ) ∧ (¬ (hI μ a0 50) ≤ x1 → xCall d yX12_says cX12_says 2 none [.ref a0, .int 32] μ ro (fun r2 μ3 => r2 = none ∧ hS μ3 a0 = some (15, 65) ∧ xCall d yX12_says cX12_says 2 none [.ref a0, .int 62] μ3 ro (fun r4 μ5 => r4 = none ∧ hS μ5 a0 = some (15, 65) ∧ ∃ rates_6 : Nat, hR μ5 a0 44 = some rates_6 ∧ ∃ N7 : Nat, hS μ5 rates_6 = some (0, N7) ∧ vp_in x1 N7 ∧ xCall d yX12_saysNumber cX12_saysNumber 2 none [.ref a0, .int ((hI μ5 rates_6 x1.toNatClampNeg) / 10)] μ5 ro (fun r9 μ10 => r9 = none ∧ hS μ10 a0 = some (15, 65) ∧ ∃ rates_11 : Nat, hR μ10 a0 44 = some rates_11 ∧ ∃ N12 : Nat, hS μ10 rates_11 = some (0, N12) ∧ vp_in x1 N12 ∧ (∀ v14 : Int32, v14 = ((hI μ10 rates_11 x1.toNatClampNeg) - (hI μ10 rates_11 x1.toNatClampNeg) / 10 * 10) → ((v14 ≤ 0 → J μ10 0 0 81 [(0, .ref a0), (1, .int x1)] []) ∧ (¬ v14 ≤ 0 → xCall d yX12_says cX12_says 2 none [.ref a0, .int 46] μ10 ro (fun r16 μ17 => r16 = none ∧ hS μ17 a0 = some (15, 65) ∧ ∃ rates_18 : Nat, hR μ17 a0 44 = some rates_18 ∧ ∃ N19 : Nat, hS μ17 rates_18 = some (0, N19) ∧ vp_in x1 N19 ∧ (∀ v21 : Int32, v21 = ((hI μ17 rates_18 x1.toNatClampNeg) - (hI μ17 rates_18 x1.toNatClampNeg) / 10 * 10) → xCall d yX12_saysNumber cX12_saysNumber 2 none [.ref a0, .int v21] μ17 ro (fun r22 μ23 => r22 = none ∧ J μ23 0 0 81 [(0, .ref a0), (1, .int x1)] [])))))))))))) :
    J μ 0 0 17 [(0, .ref a0), (1, .int x1)] [] := by
  refine r_iload_n g dX12_spells_17 rfl ?_
  refine r_aload_n g dX12_spells_18 rfl ?_
  refine r_getI g fX12_306 rfl hs_a0 dX12_spells_19 ?_
  refine r_icmp_ge g 136 dX12_spells_22 (by decide) (fun c1 => ?_) (fun c1 => ?_)
  · replace h := h.1 c1
    exact hr.1 rfl _ _ _ _ _ dX12_spells_136 (Nat.le_refl 0) (Nat.le_refl 0) h
  · replace h := h.2 c1
    refine r_aload_n g dX12_spells_25 rfl ?_
    refine r_bipush g 32 dX12_spells_26 (by decide) ?_
    obtain ⟨d1, Z1, hc1, hd1, h1⟩ := h
    refine r_callV (st := []) (As := [.int 32]) g sX12_476 iX12_says eX12_says rfl hs_a0 rfl (Nat.le_of_ble_eq_true rfl) dX12_spells_28 hd1 (Nat.le_refl 0) (Nat.le_refl 0) hc1 (fun r2 μ3 hZ1 => ?_)
    replace h := h1 _ _ hZ1
    clear h1 hc1 hd1 hZ1 Z1 d1
    obtain ⟨rfl, h⟩ := h
    refine r_aload_n g dX12_spells_31 rfl ?_
    refine r_bipush g 62 dX12_spells_32 (by decide) ?_
    obtain ⟨hs_a0_, h⟩ := h
    obtain ⟨d1, Z1, hc1, hd1, h1⟩ := h
    refine r_callV (st := []) (As := [.int 62]) g sX12_476 iX12_says eX12_says rfl hs_a0_ rfl (Nat.le_of_ble_eq_true rfl) dX12_spells_34 hd1 (Nat.le_refl 0) (Nat.le_refl 0) hc1 (fun r4 μ5 hZ1 => ?_)
    replace h := h1 _ _ hZ1
    clear h1 hc1 hd1 hZ1 Z1 d1
    obtain ⟨rfl, h⟩ := h
    refine r_aload_n g dX12_spells_37 rfl ?_
    refine r_aload_n g dX12_spells_38 rfl ?_
    obtain ⟨hs_a0__, h⟩ := h
    obtain ⟨rates_6, hr_rates_6, h⟩ := h
    refine r_getR g fX12_82 rfl hs_a0__ hr_rates_6 dX12_spells_39 ?_
    refine r_iload_n g dX12_spells_42 rfl ?_
    obtain ⟨N7, hs_rates_6, h⟩ := h
    obtain ⟨hi8, h⟩ := h
    refine r_iaload g hs_rates_6 hi8 dX12_spells_43 ?_
    refine r_bipush g 10 dX12_spells_44 (by decide) ?_
    refine r_idiv g (by decide) dX12_spells_46 ?_
    obtain ⟨d1, Z1, hc1, hd1, h1⟩ := h
    refine r_callV (st := []) (As := [.int ((hI μ5 rates_6 x1.toNatClampNeg) / 10)]) g sX12_479 iX12_saysNumber eX12_saysNumber rfl hs_a0__ rfl (Nat.le_of_ble_eq_true rfl) dX12_spells_47 hd1 (Nat.le_refl 0) (Nat.le_refl 0) hc1 (fun r9 μ10 hZ1 => ?_)
    replace h := h1 _ _ hZ1
    clear h1 hc1 hd1 hZ1 Z1 d1
    obtain ⟨rfl, h⟩ := h
    refine r_aload_n g dX12_spells_50 rfl ?_
    obtain ⟨hs_a0___, h⟩ := h
    obtain ⟨rates_11, hr_rates_11, h⟩ := h
    refine r_getR g fX12_82 rfl hs_a0___ hr_rates_11 dX12_spells_51 ?_
    refine r_iload_n g dX12_spells_54 rfl ?_
    obtain ⟨N12, hs_rates_11, h⟩ := h
    obtain ⟨hi13, h⟩ := h
    refine r_iaload g hs_rates_11 hi13 dX12_spells_55 ?_
    refine r_bipush g 10 dX12_spells_56 (by decide) ?_
    refine r_irem g (by decide) dX12_spells_58 ?_
    refine r_nmI (fun v14 ev14 => ?_)
    replace h := h v14 ev14
    refine r_if_le g 81 dX12_spells_59 (by decide) (fun c15 => ?_) (fun c15 => ?_)
    · replace h := h.1 c15
      refine r_sub g (lv' := [(0, .ref a0), (1, .int x1)]) (⟨rfl, rfl, trivial⟩) ?_
      exact h
    · replace h := h.2 c15
      refine r_aload_n g dX12_spells_62 rfl ?_
      refine r_bipush g 46 dX12_spells_63 (by decide) ?_
      obtain ⟨d1, Z1, hc1, hd1, h1⟩ := h
      refine r_callV (st := []) (As := [.int 46]) g sX12_476 iX12_says eX12_says rfl hs_a0___ rfl (Nat.le_of_ble_eq_true rfl) dX12_spells_65 hd1 (Nat.le_refl 0) (Nat.le_refl 0) hc1 (fun r16 μ17 hZ1 => ?_)
      replace h := h1 _ _ hZ1
      clear h1 hc1 hd1 hZ1 Z1 d1
      obtain ⟨rfl, h⟩ := h
      refine r_aload_n g dX12_spells_68 rfl ?_
      refine r_aload_n g dX12_spells_69 rfl ?_
      obtain ⟨hs_a0____, h⟩ := h
      obtain ⟨rates_18, hr_rates_18, h⟩ := h
      refine r_getR g fX12_82 rfl hs_a0____ hr_rates_18 dX12_spells_70 ?_
      refine r_iload_n g dX12_spells_73 rfl ?_
      obtain ⟨N19, hs_rates_18, h⟩ := h
      obtain ⟨hi20, h⟩ := h
      refine r_iaload g hs_rates_18 hi20 dX12_spells_74 ?_
      refine r_bipush g 10 dX12_spells_75 (by decide) ?_
      refine r_irem g (by decide) dX12_spells_77 ?_
      refine r_nmI (fun v21 ev21 => ?_)
      replace h := h v21 ev21
      obtain ⟨d1, Z1, hc1, hd1, h1⟩ := h
      refine r_callV (st := []) (As := [.int v21]) g sX12_479 iX12_saysNumber eX12_saysNumber rfl hs_a0____ rfl (Nat.le_of_ble_eq_true rfl) dX12_spells_78 hd1 (Nat.le_refl 0) (Nat.le_refl 0) hc1 (fun r22 μ23 hZ1 => ?_)
      replace h := h1 _ _ hZ1
      clear h1 hc1 hd1 hZ1 Z1 d1
      obtain ⟨rfl, h⟩ := h
      refine r_sub g (lv' := [(0, .ref a0), (1, .int x1)]) (⟨rfl, rfl, trivial⟩) ?_
      exact h
set_option maxHeartbeats 4000000 in
set_option maxRecDepth 100000 in
theorem B_X12_spells_81 {d : Nat} {ro : Nat → Nat} {J : JT} {Z : Option Value → Hp → Prop} (g : xCtx RX12 cX12_spells 2 d 0 0 yX12_spells.name ro J) (hr : xRet cX12_spells none 0 0 Z J) {μ : Hp} {a0 : Nat} {x1 : Int32} (hs_a0 : hS μ a0 = some (15, 65))
    (h : xCall d yX12_says cX12_says 2 none [.ref a0, .int 37] μ ro (fun r1 μ2 => r1 = none ∧ hS μ2 a0 = some (15, 65) ∧ ∃ articles_3 : Nat, hR μ2 a0 45 = some articles_3 ∧ ∃ N4 : Nat, hS μ2 articles_3 = some (0, N4) ∧ vp_in x1 N4 ∧ (((hI μ2 articles_3 x1.toNatClampNeg) = 0 → xCall d yX12_says cX12_says 2 none [.ref a0, .int 32] μ2 ro (fun r7 μ8 => r7 = none ∧ hS μ8 a0 = some (15, 65) ∧ ∃ way_9 : Nat, hR μ8 a0 43 = some way_9 ∧ ∃ N10 : Nat, hS μ8 way_9 = some (0, N10) ∧ vp_in (x1 + 1) N10 ∧ xCall d yX12_saysName cX12_saysName 3 none [.ref a0, .int (hI μ8 way_9 ((x1 + 1).toNatClampNeg))] μ8 ro (fun r12 μ13 => r12 = none ∧ J μ13 0 0 17 [(0, .ref a0), (1, .int (x1 + 1))] []))) ∧ (¬ (hI μ2 articles_3 x1.toNatClampNeg) = 0 → xCall d yX12_says cX12_says 2 none [.ref a0, .int 33] μ2 ro (fun r14 μ15 => r14 = none ∧ hS μ15 a0 = some (15, 65) ∧ ∃ articles_16 : Nat, hR μ15 a0 45 = some articles_16 ∧ ∃ N17 : Nat, hS μ15 articles_16 = some (0, N17) ∧ vp_in x1 N17 ∧ xCall d yX12_saysNumber cX12_saysNumber 2 none [.ref a0, .int (hI μ15 articles_16 x1.toNatClampNeg)] μ15 ro (fun r19 μ20 => r19 = none ∧ hS μ20 a0 = some (15, 65) ∧ xCall d yX12_says cX12_says 2 none [.ref a0, .int 32] μ20 ro (fun r21 μ22 => r21 = none ∧ hS μ22 a0 = some (15, 65) ∧ ∃ way_23 : Nat, hR μ22 a0 43 = some way_23 ∧ ∃ N24 : Nat, hS μ22 way_23 = some (0, N24) ∧ vp_in (x1 + 1) N24 ∧ xCall d yX12_saysName cX12_saysName 3 none [.ref a0, .int (hI μ22 way_23 ((x1 + 1).toNatClampNeg))] μ22 ro (fun r26 μ27 => r26 = none ∧ J μ27 0 0 17 [(0, .ref a0), (1, .int (x1 + 1))] [])))))))) :
    J μ 0 0 81 [(0, .ref a0), (1, .int x1)] [] := by
  refine r_aload_n g dX12_spells_81 rfl ?_
  refine r_bipush g 37 dX12_spells_82 (by decide) ?_
  obtain ⟨d1, Z1, hc1, hd1, h1⟩ := h
  refine r_callV (st := []) (As := [.int 37]) g sX12_476 iX12_says eX12_says rfl hs_a0 rfl (Nat.le_of_ble_eq_true rfl) dX12_spells_84 hd1 (Nat.le_refl 0) (Nat.le_refl 0) hc1 (fun r1 μ2 hZ1 => ?_)
  replace h := h1 _ _ hZ1
  clear h1 hc1 hd1 hZ1 Z1 d1
  obtain ⟨rfl, h⟩ := h
  refine r_aload_n g dX12_spells_87 rfl ?_
  obtain ⟨hs_a0_, h⟩ := h
  obtain ⟨articles_3, hr_articles_3, h⟩ := h
  refine r_getR g fX12_85 rfl hs_a0_ hr_articles_3 dX12_spells_88 ?_
  refine r_iload_n g dX12_spells_91 rfl ?_
  obtain ⟨N4, hs_articles_3, h⟩ := h
  obtain ⟨hi5, h⟩ := h
  refine r_iaload g hs_articles_3 hi5 dX12_spells_92 ?_
  refine r_if_eq g 112 dX12_spells_93 (by decide) (fun c6 => ?_) (fun c6 => ?_)
  · replace h := h.1 c6
    refine r_aload_n g dX12_spells_112 rfl ?_
    refine r_bipush g 32 dX12_spells_113 (by decide) ?_
    obtain ⟨d1, Z1, hc1, hd1, h1⟩ := h
    refine r_callV (st := []) (As := [.int 32]) g sX12_476 iX12_says eX12_says rfl hs_a0_ rfl (Nat.le_of_ble_eq_true rfl) dX12_spells_115 hd1 (Nat.le_refl 0) (Nat.le_refl 0) hc1 (fun r7 μ8 hZ1 => ?_)
    replace h := h1 _ _ hZ1
    clear h1 hc1 hd1 hZ1 Z1 d1
    obtain ⟨rfl, h⟩ := h
    refine r_aload_n g dX12_spells_118 rfl ?_
    refine r_aload_n g dX12_spells_119 rfl ?_
    obtain ⟨hs_a0__, h⟩ := h
    obtain ⟨way_9, hr_way_9, h⟩ := h
    refine r_getR g fX12_79 rfl hs_a0__ hr_way_9 dX12_spells_120 ?_
    refine r_iload_n g dX12_spells_123 rfl ?_
    refine r_iconst g 1 dX12_spells_124 (by decide) ?_
    refine r_iadd g dX12_spells_125 ?_
    obtain ⟨N10, hs_way_9, h⟩ := h
    obtain ⟨hi11, h⟩ := h
    refine r_iaload g hs_way_9 hi11 dX12_spells_126 ?_
    obtain ⟨d1, Z1, hc1, hd1, h1⟩ := h
    refine r_callV (st := []) (As := [.int (hI μ8 way_9 ((x1 + 1).toNatClampNeg))]) g sX12_482 iX12_saysName eX12_saysName rfl hs_a0__ rfl (Nat.le_of_ble_eq_true rfl) dX12_spells_127 hd1 (Nat.le_refl 0) (Nat.le_refl 0) hc1 (fun r12 μ13 hZ1 => ?_)
    replace h := h1 _ _ hZ1
    clear h1 hc1 hd1 hZ1 Z1 d1
    obtain ⟨rfl, h⟩ := h
    refine r_iinc g (x1 + 1) [(1, .int (x1 + 1)), (0, .ref a0)] dX12_spells_130 rfl rfl (by decide) rfl ?_
    refine r_goto g 17 dX12_spells_133 (by decide) ?_
    refine r_sub g (lv' := [(0, .ref a0), (1, .int (x1 + 1))]) (⟨rfl, rfl, trivial⟩) ?_
    exact h
  · replace h := h.2 c6
    refine r_aload_n g dX12_spells_96 rfl ?_
    refine r_bipush g 33 dX12_spells_97 (by decide) ?_
    obtain ⟨d1, Z1, hc1, hd1, h1⟩ := h
    refine r_callV (st := []) (As := [.int 33]) g sX12_476 iX12_says eX12_says rfl hs_a0_ rfl (Nat.le_of_ble_eq_true rfl) dX12_spells_99 hd1 (Nat.le_refl 0) (Nat.le_refl 0) hc1 (fun r14 μ15 hZ1 => ?_)
    replace h := h1 _ _ hZ1
    clear h1 hc1 hd1 hZ1 Z1 d1
    obtain ⟨rfl, h⟩ := h
    refine r_aload_n g dX12_spells_102 rfl ?_
    refine r_aload_n g dX12_spells_103 rfl ?_
    obtain ⟨hs_a0___, h⟩ := h
    obtain ⟨articles_16, hr_articles_16, h⟩ := h
    refine r_getR g fX12_85 rfl hs_a0___ hr_articles_16 dX12_spells_104 ?_
    refine r_iload_n g dX12_spells_107 rfl ?_
    obtain ⟨N17, hs_articles_16, h⟩ := h
    obtain ⟨hi18, h⟩ := h
    refine r_iaload g hs_articles_16 hi18 dX12_spells_108 ?_
    obtain ⟨d1, Z1, hc1, hd1, h1⟩ := h
    refine r_callV (st := []) (As := [.int (hI μ15 articles_16 x1.toNatClampNeg)]) g sX12_479 iX12_saysNumber eX12_saysNumber rfl hs_a0___ rfl (Nat.le_of_ble_eq_true rfl) dX12_spells_109 hd1 (Nat.le_refl 0) (Nat.le_refl 0) hc1 (fun r19 μ20 hZ1 => ?_)
    replace h := h1 _ _ hZ1
    clear h1 hc1 hd1 hZ1 Z1 d1
    obtain ⟨rfl, h⟩ := h
    refine r_aload_n g dX12_spells_112 rfl ?_
    refine r_bipush g 32 dX12_spells_113 (by decide) ?_
    obtain ⟨hs_a0____, h⟩ := h
    obtain ⟨d1, Z1, hc1, hd1, h1⟩ := h
    refine r_callV (st := []) (As := [.int 32]) g sX12_476 iX12_says eX12_says rfl hs_a0____ rfl (Nat.le_of_ble_eq_true rfl) dX12_spells_115 hd1 (Nat.le_refl 0) (Nat.le_refl 0) hc1 (fun r21 μ22 hZ1 => ?_)
    replace h := h1 _ _ hZ1
    clear h1 hc1 hd1 hZ1 Z1 d1
    obtain ⟨rfl, h⟩ := h
    refine r_aload_n g dX12_spells_118 rfl ?_
    refine r_aload_n g dX12_spells_119 rfl ?_
    obtain ⟨hs_a0_____, h⟩ := h
    obtain ⟨way_23, hr_way_23, h⟩ := h
    refine r_getR g fX12_79 rfl hs_a0_____ hr_way_23 dX12_spells_120 ?_
    refine r_iload_n g dX12_spells_123 rfl ?_
    refine r_iconst g 1 dX12_spells_124 (by decide) ?_
    refine r_iadd g dX12_spells_125 ?_
    obtain ⟨N24, hs_way_23, h⟩ := h
    obtain ⟨hi25, h⟩ := h
    refine r_iaload g hs_way_23 hi25 dX12_spells_126 ?_
    obtain ⟨d1, Z1, hc1, hd1, h1⟩ := h
    refine r_callV (st := []) (As := [.int (hI μ22 way_23 ((x1 + 1).toNatClampNeg))]) g sX12_482 iX12_saysName eX12_saysName rfl hs_a0_____ rfl (Nat.le_of_ble_eq_true rfl) dX12_spells_127 hd1 (Nat.le_refl 0) (Nat.le_refl 0) hc1 (fun r26 μ27 hZ1 => ?_)
    replace h := h1 _ _ hZ1
    clear h1 hc1 hd1 hZ1 Z1 d1
    obtain ⟨rfl, h⟩ := h
    refine r_iinc g (x1 + 1) [(1, .int (x1 + 1)), (0, .ref a0)] dX12_spells_130 rfl rfl (by decide) rfl ?_
    refine r_goto g 17 dX12_spells_133 (by decide) ?_
    refine r_sub g (lv' := [(0, .ref a0), (1, .int (x1 + 1))]) (⟨rfl, rfl, trivial⟩) ?_
    exact h
theorem I_X12_spells {d : Nat} {ro : Nat → Nat} {Z : Option Value → Hp → Prop} {μ : Hp} {a0 : Nat} (h : ∀ J, xCtx RX12 cX12_spells 2 d 0 0 yX12_spells.name ro J → xRet cX12_spells none 0 0 Z J → J μ 0 0 0 [(0, .ref a0)] []) : xC d yX12_spells cX12_spells 2 none 0 0 [.ref a0] μ ro Z :=
  xC_intro (own := RX12) (lv := [(0, .ref a0)]) (by decide) rfl (Nat.le_of_ble_eq_true rfl) rfl (fun J g hr => r_sub g (lv' := [(0, .ref a0)]) (⟨rfl, trivial⟩) (h J g hr))
theorem dX12_spell_0 : decode cX12_spell 0 = .ok (.aload_n 0, 1) := by decide +kernel
theorem dX12_spell_1 : decode cX12_spell 1 = .ok (.iconst 0, 1) := by decide +kernel
theorem dX12_spell_2 : decode cX12_spell 2 = .ok (.putfield 106, 3) := by decide +kernel
theorem dX12_spell_5 : decode cX12_spell 5 = .ok (.aload_n 0, 1) := by decide +kernel
theorem dX12_spell_6 : decode cX12_spell 6 = .ok (.iload_n 1, 1) := by decide +kernel
theorem dX12_spell_7 : decode cX12_spell 7 = .ok (.iload_n 2, 1) := by decide +kernel
theorem dX12_spell_8 : decode cX12_spell 8 = .ok (.iload_n 3, 1) := by decide +kernel
theorem dX12_spell_9 : decode cX12_spell 9 = .ok (.iload 4, 2) := by decide +kernel
theorem dX12_spell_11 : decode cX12_spell 11 = .ok (.invokevirtual 470, 3) := by decide +kernel
theorem dX12_spell_14 : decode cX12_spell 14 = .ok (.ifCond .ne 5, 3) := by decide +kernel
theorem dX12_spell_17 : decode cX12_spell 17 = .ok (.iconst (-1), 1) := by decide +kernel
theorem dX12_spell_18 : decode cX12_spell 18 = .ok (.ireturn, 1) := by decide +kernel
theorem dX12_spell_19 : decode cX12_spell 19 = .ok (.aload_n 0, 1) := by decide +kernel
theorem dX12_spell_20 : decode cX12_spell 20 = .ok (.invokevirtual 485, 3) := by decide +kernel
theorem dX12_spell_23 : decode cX12_spell 23 = .ok (.iload 5, 2) := by decide +kernel
theorem dX12_spell_25 : decode cX12_spell 25 = .ok (.iconst (-1), 1) := by decide +kernel
theorem dX12_spell_26 : decode cX12_spell 26 = .ok (.if_icmp .ne 10, 3) := by decide +kernel
theorem dX12_spell_29 : decode cX12_spell 29 = .ok (.aload_n 0, 1) := by decide +kernel
theorem dX12_spell_30 : decode cX12_spell 30 = .ok (.getfield 473, 3) := by decide +kernel
theorem dX12_spell_33 : decode cX12_spell 33 = .ok (.goto 31, 3) := by decide +kernel
theorem dX12_spell_36 : decode cX12_spell 36 = .ok (.iload 5, 2) := by decide +kernel
theorem dX12_spell_38 : decode cX12_spell 38 = .ok (.i2l, 1) := by decide +kernel
theorem dX12_spell_39 : decode cX12_spell 39 = .ok (.lconst 0, 1) := by decide +kernel
theorem dX12_spell_40 : decode cX12_spell 40 = .ok (.aload_n 0, 1) := by decide +kernel
theorem dX12_spell_41 : decode cX12_spell 41 = .ok (.getfield 473, 3) := by decide +kernel
theorem dX12_spell_44 : decode cX12_spell 44 = .ok (.iconst 1, 1) := by decide +kernel
theorem dX12_spell_45 : decode cX12_spell 45 = .ok (.isub, 1) := by decide +kernel
theorem dX12_spell_46 : decode cX12_spell 46 = .ok (.i2l, 1) := by decide +kernel
theorem dX12_spell_47 : decode cX12_spell 47 = .ok (.invokestatic 161, 3) := by decide +kernel
theorem dX12_spell_50 : decode cX12_spell 50 = .ok (.ifCond .eq 13, 3) := by decide +kernel
theorem dX12_spell_53 : decode cX12_spell 53 = .ok (.aload_n 0, 1) := by decide +kernel
theorem dX12_spell_54 : decode cX12_spell 54 = .ok (.getfield 103, 3) := by decide +kernel
theorem dX12_spell_57 : decode cX12_spell 57 = .ok (.iload 5, 2) := by decide +kernel
theorem dX12_spell_59 : decode cX12_spell 59 = .ok (.baload, 1) := by decide +kernel
theorem dX12_spell_60 : decode cX12_spell 60 = .ok (.goto 4, 3) := by decide +kernel
theorem dX12_spell_63 : decode cX12_spell 63 = .ok (.iconst (-1), 1) := by decide +kernel
theorem dX12_spell_64 : decode cX12_spell 64 = .ok (.ireturn, 1) := by decide +kernel
set_option maxHeartbeats 4000000 in
set_option maxRecDepth 100000 in
theorem B_X12_spell_0 {d : Nat} {ro : Nat → Nat} {J : JT} {Z : Option Value → Hp → Prop} (g : xCtx RX12 cX12_spell 6 d 0 0 yX12_spell.name ro J) (hr : xRet cX12_spell (some .int) 0 0 Z J) {μ : Hp} {a0 : Nat} {x1 : Int32} {x2 : Int32} {x3 : Int32} {x4 : Int32} {x5 : Int32} (hs_a0 : hS μ a0 = some (15, 65)) (hd9 : 1 ≤ d)
    (h : xCall d yX12_finds cX12_finds 5 (some .boolean) [.ref a0, .int x1, .int x2, .int x3, .int x4] (wI μ a0 0 0) ro (fun r1 μ2 => ∃ y3 : Int32, r1 = some (.int y3) ∧ ((¬ y3 = 0 → hS μ2 a0 = some (15, 65) ∧ xCall d yX12_spells cX12_spells 2 none [.ref a0] μ2 ro (fun r5 μ6 => r5 = none ∧ ((¬ x5 = (-1) → hS μ6 a0 = some (15, 65) ∧ ((x5 < 0 → Z (some (.int (-1))) μ6) ∧ (¬ x5 < 0 → ((((hI μ6 a0 64) - 1) < x5 → Z (some (.int (-1))) μ6) ∧ (¬ ((hI μ6 a0 64) - 1) < x5 → ∃ spelled_16 : Nat, hR μ6 a0 63 = some spelled_16 ∧ ∃ N17 : Nat, hS μ6 spelled_16 = some (1, N17) ∧ vp_in x5 N17 ∧ Z (some (.int (hI μ6 spelled_16 x5.toNatClampNeg))) μ6))))) ∧ (x5 = (-1) → hS μ6 a0 = some (15, 65) ∧ Z (some (.int (hI μ6 a0 64))) μ6)))) ∧ (y3 = 0 → Z (some (.int (-1))) μ2)))) :
    J μ 0 0 0 [(0, .ref a0), (1, .int x1), (2, .int x2), (3, .int x3), (4, .int x4), (5, .int x5)] [] := by
  refine r_aload_n g dX12_spell_0 rfl ?_
  refine r_iconst g 0 dX12_spell_1 (by decide) ?_
  refine r_putI g fX12_106 rfl hs_a0 rfl rfl dX12_spell_2 ?_
  refine r_aload_n g dX12_spell_5 rfl ?_
  refine r_iload_n g dX12_spell_6 rfl ?_
  refine r_iload_n g dX12_spell_7 rfl ?_
  refine r_iload_n g dX12_spell_8 rfl ?_
  refine r_iload g dX12_spell_9 rfl ?_
  obtain ⟨d1, Z1, hc1, hd1, h1⟩ := h
  refine r_callV (st := []) (As := [.int x1, .int x2, .int x3, .int x4]) g sX12_470 iX12_finds eX12_finds rfl hs_a0 rfl (Nat.le_of_ble_eq_true rfl) dX12_spell_11 hd1 (Nat.le_refl 0) (Nat.le_refl 0) hc1 (fun r1 μ2 hZ1 => ?_)
  replace h := h1 _ _ hZ1
  clear h1 hc1 hd1 hZ1 Z1 d1
  obtain ⟨y3, rfl, h⟩ := h
  refine r_if_ne g 19 dX12_spell_14 (by decide) (fun c4 => ?_) (fun c4 => ?_)
  · replace h := h.1 c4
    refine r_aload_n g dX12_spell_19 rfl ?_
    obtain ⟨hs_a0_, h⟩ := h
    obtain ⟨d1, Z1, hc1, hd1, h1⟩ := h
    refine r_callV (st := []) (As := []) g sX12_485 iX12_spells eX12_spells rfl hs_a0_ rfl (Nat.le_of_ble_eq_true rfl) dX12_spell_20 hd1 (Nat.le_refl 0) (Nat.le_refl 0) hc1 (fun r5 μ6 hZ1 => ?_)
    replace h := h1 _ _ hZ1
    clear h1 hc1 hd1 hZ1 Z1 d1
    obtain ⟨rfl, h⟩ := h
    refine r_iload g dX12_spell_23 rfl ?_
    refine r_iconst g (-1) dX12_spell_25 (by decide) ?_
    refine r_icmp_ne g 36 dX12_spell_26 (by decide) (fun c7 => ?_) (fun c7 => ?_)
    · replace h := h.1 c7
      refine r_iload g dX12_spell_36 rfl ?_
      refine r_i2l g dX12_spell_38 ?_
      refine r_lconst g 0 dX12_spell_39 (by decide) ?_
      refine r_aload_n g dX12_spell_40 rfl ?_
      obtain ⟨hs_a0__, h⟩ := h
      refine r_getI g fX12_473 rfl hs_a0__ dX12_spell_41 ?_
      refine r_iconst g 1 dX12_spell_44 (by decide) ?_
      refine r_isub g dX12_spell_45 ?_
      refine r_i2l g dX12_spell_46 ?_
      by_cases c8 : x5 < 0
      · replace h := h.1 c8
        refine r_callS (st := []) (As := [.long x5.toInt64, .long 0, .long ((hI μ6 a0 64) - 1).toInt64]) g sX12_161 iX12_isIn rfl (Nat.le_of_ble_eq_true rfl) dX12_spell_47 (by omega) (Nat.le_refl 0) (Nat.le_refl 0) (Q_isIn_0 (d := d - 1) (x := x5) (a := 0) (b := ((hI μ6 a0 64) - 1)) rfl (by decide) rfl c8) (fun r9 μ10 hZ1 => ?_)
        obtain ⟨rfl, e9⟩ := hZ1
        replace e9 := e9.symm
        subst e9
        refine r_if_eq g 63 dX12_spell_50 (by decide) (fun _ => ?_) (fun hz => absurd hz (by decide))
        refine r_iconst g (-1) dX12_spell_63 (by decide) ?_
        exact hr.2.1 _ rfl _ _ _ _ _ _ dX12_spell_64 rfl (Nat.le_refl 0) (Nat.le_refl 0) h
      · replace h := h.2 c8
        by_cases c11 : ((hI μ6 a0 64) - 1) < x5
        · replace h := h.1 c11
          refine r_callS (st := []) (As := [.long x5.toInt64, .long 0, .long ((hI μ6 a0 64) - 1).toInt64]) g sX12_161 iX12_isIn rfl (Nat.le_of_ble_eq_true rfl) dX12_spell_47 (by omega) (Nat.le_refl 0) (Nat.le_refl 0) (Q_isIn_1 (d := d - 1) (x := x5) (a := 0) (b := ((hI μ6 a0 64) - 1)) rfl (by decide) rfl c8 c11) (fun r12 μ13 hZ1 => ?_)
          obtain ⟨rfl, e9⟩ := hZ1
          replace e9 := e9.symm
          subst e9
          refine r_if_eq g 63 dX12_spell_50 (by decide) (fun _ => ?_) (fun hz => absurd hz (by decide))
          refine r_iconst g (-1) dX12_spell_63 (by decide) ?_
          exact hr.2.1 _ rfl _ _ _ _ _ _ dX12_spell_64 rfl (Nat.le_refl 0) (Nat.le_refl 0) h
        · replace h := h.2 c11
          refine r_callS (st := []) (As := [.long x5.toInt64, .long 0, .long ((hI μ6 a0 64) - 1).toInt64]) g sX12_161 iX12_isIn rfl (Nat.le_of_ble_eq_true rfl) dX12_spell_47 (by omega) (Nat.le_refl 0) (Nat.le_refl 0) (Q_isIn_2 (d := d - 1) (x := x5) (a := 0) (b := ((hI μ6 a0 64) - 1)) rfl (by decide) rfl c8 c11) (fun r14 μ15 hZ1 => ?_)
          obtain ⟨rfl, e9⟩ := hZ1
          replace e9 := e9.symm
          subst e9
          refine r_if_eq g 63 dX12_spell_50 (by decide) (fun hz => absurd hz (by decide)) (fun _ => ?_)
          refine r_aload_n g dX12_spell_53 rfl ?_
          obtain ⟨spelled_16, hr_spelled_16, h⟩ := h
          refine r_getR g fX12_103 rfl hs_a0__ hr_spelled_16 dX12_spell_54 ?_
          refine r_iload g dX12_spell_57 rfl ?_
          obtain ⟨N17, hs_spelled_16, h⟩ := h
          obtain ⟨hi18, h⟩ := h
          refine r_baload g hs_spelled_16 hi18 dX12_spell_59 ?_
          refine r_goto g 64 dX12_spell_60 (by decide) ?_
          exact hr.2.1 _ rfl _ _ _ _ _ _ dX12_spell_64 rfl (Nat.le_refl 0) (Nat.le_refl 0) h
    · replace h := h.2 c7
      refine r_aload_n g dX12_spell_29 rfl ?_
      obtain ⟨hs_a0___, h⟩ := h
      refine r_getI g fX12_473 rfl hs_a0___ dX12_spell_30 ?_
      refine r_goto g 64 dX12_spell_33 (by decide) ?_
      exact hr.2.1 _ rfl _ _ _ _ _ _ dX12_spell_64 rfl (Nat.le_refl 0) (Nat.le_refl 0) h
  · replace h := h.2 c4
    refine r_iconst g (-1) dX12_spell_17 (by decide) ?_
    exact hr.2.1 _ rfl _ _ _ _ _ _ dX12_spell_18 rfl (Nat.le_refl 0) (Nat.le_refl 0) h
theorem I_X12_spell {d : Nat} {ro : Nat → Nat} {Z : Option Value → Hp → Prop} {μ : Hp} {a0 : Nat} {x1 : Int32} {x2 : Int32} {x3 : Int32} {x4 : Int32} {x5 : Int32} (h : ∀ J, xCtx RX12 cX12_spell 6 d 0 0 yX12_spell.name ro J → xRet cX12_spell (some .int) 0 0 Z J → J μ 0 0 0 [(0, .ref a0), (1, .int x1), (2, .int x2), (3, .int x3), (4, .int x4), (5, .int x5)] []) : xC d yX12_spell cX12_spell 6 (some .int) 0 0 [.ref a0, .int x1, .int x2, .int x3, .int x4, .int x5] μ ro Z :=
  xC_intro (own := RX12) (lv := [(0, .ref a0), (1, .int x1), (2, .int x2), (3, .int x3), (4, .int x4), (5, .int x5)]) (by decide) rfl (Nat.le_of_ble_eq_true rfl) rfl (fun J g hr => r_sub g (lv' := [(0, .ref a0), (1, .int x1), (2, .int x2), (3, .int x3), (4, .int x4), (5, .int x5)]) (⟨rfl, rfl, rfl, rfl, rfl, rfl, trivial⟩) (h J g hr))
theorem dX12_findsIn_0 : decode cX12_findsIn 0 = .ok (.aload_n 0, 1) := by decide +kernel
theorem dX12_findsIn_1 : decode cX12_findsIn 1 = .ok (.iload_n 1, 1) := by decide +kernel
theorem dX12_findsIn_2 : decode cX12_findsIn 2 = .ok (.iload_n 2, 1) := by decide +kernel
theorem dX12_findsIn_3 : decode cX12_findsIn 3 = .ok (.iload_n 3, 1) := by decide +kernel
theorem dX12_findsIn_4 : decode cX12_findsIn 4 = .ok (.iload 4, 2) := by decide +kernel
theorem dX12_findsIn_6 : decode cX12_findsIn 6 = .ok (.invokevirtual 357, 3) := by decide +kernel
theorem dX12_findsIn_9 : decode cX12_findsIn 9 = .ok (.ifCond .ne 5, 3) := by decide +kernel
theorem dX12_findsIn_12 : decode cX12_findsIn 12 = .ok (.iconst 0, 1) := by decide +kernel
theorem dX12_findsIn_13 : decode cX12_findsIn 13 = .ok (.ireturn, 1) := by decide +kernel
theorem dX12_findsIn_14 : decode cX12_findsIn 14 = .ok (.aload_n 0, 1) := by decide +kernel
theorem dX12_findsIn_15 : decode cX12_findsIn 15 = .ok (.iload 5, 2) := by decide +kernel
theorem dX12_findsIn_17 : decode cX12_findsIn 17 = .ok (.putfield 277, 3) := by decide +kernel
theorem dX12_findsIn_20 : decode cX12_findsIn 20 = .ok (.aload_n 0, 1) := by decide +kernel
theorem dX12_findsIn_21 : decode cX12_findsIn 21 = .ok (.aload_n 0, 1) := by decide +kernel
theorem dX12_findsIn_22 : decode cX12_findsIn 22 = .ok (.getfield 57, 3) := by decide +kernel
theorem dX12_findsIn_25 : decode cX12_findsIn 25 = .ok (.iload_n 1, 1) := by decide +kernel
theorem dX12_findsIn_26 : decode cX12_findsIn 26 = .ok (.iload_n 2, 1) := by decide +kernel
theorem dX12_findsIn_27 : decode cX12_findsIn 27 = .ok (.iload_n 3, 1) := by decide +kernel
theorem dX12_findsIn_28 : decode cX12_findsIn 28 = .ok (.iload 4, 2) := by decide +kernel
theorem dX12_findsIn_30 : decode cX12_findsIn 30 = .ok (.iconst 0, 1) := by decide +kernel
theorem dX12_findsIn_31 : decode cX12_findsIn 31 = .ok (.invokevirtual 361, 3) := by decide +kernel
theorem dX12_findsIn_34 : decode cX12_findsIn 34 = .ok (.ireturn, 1) := by decide +kernel
set_option maxHeartbeats 4000000 in
set_option maxRecDepth 100000 in
theorem B_X12_findsIn_0 {d : Nat} {ro : Nat → Nat} {J : JT} {Z : Option Value → Hp → Prop} (g : xCtx RX12 cX12_findsIn 6 d 0 0 yX12_findsIn.name ro J) (hr : xRet cX12_findsIn (some .boolean) 0 0 Z J) {μ : Hp} {a0 : Nat} {x1 : Int32} {x2 : Int32} {x3 : Int32} {x4 : Int32} {x5 : Int32} (hs_a0 : hS μ a0 = some (15, 65))
    (h : xCall d yX12_isAsked cX12_isAsked 5 (some .boolean) [.ref a0, .int x1, .int x2, .int x3, .int x4] μ ro (fun r1 μ2 => ∃ y3 : Int32, r1 = some (.int y3) ∧ ((¬ y3 = 0 → hS μ2 a0 = some (15, 65) ∧ ∃ now_5 : Nat, hR μ2 a0 30 = some now_5 ∧ xCall d yX12_searches cX12_searches 8 (some .boolean) [.ref a0, .ref now_5, .int x1, .int x2, .int x3, .int x4, .int 0] (wI μ2 a0 37 x5) ro (fun r6 μ7 => ∃ y8 : Int32, r6 = some (.int y8) ∧ narrow .boolean (.int y8) = .int y8 ∧ Z (some (.int y8)) μ7)) ∧ (y3 = 0 → Z (some (.int 0)) μ2)))) :
    J μ 0 0 0 [(0, .ref a0), (1, .int x1), (2, .int x2), (3, .int x3), (4, .int x4), (5, .int x5)] [] := by
  refine r_aload_n g dX12_findsIn_0 rfl ?_
  refine r_iload_n g dX12_findsIn_1 rfl ?_
  refine r_iload_n g dX12_findsIn_2 rfl ?_
  refine r_iload_n g dX12_findsIn_3 rfl ?_
  refine r_iload g dX12_findsIn_4 rfl ?_
  obtain ⟨d1, Z1, hc1, hd1, h1⟩ := h
  refine r_callV (st := []) (As := [.int x1, .int x2, .int x3, .int x4]) g sX12_357 iX12_isAsked eX12_isAsked rfl hs_a0 rfl (Nat.le_of_ble_eq_true rfl) dX12_findsIn_6 hd1 (Nat.le_refl 0) (Nat.le_refl 0) hc1 (fun r1 μ2 hZ1 => ?_)
  replace h := h1 _ _ hZ1
  clear h1 hc1 hd1 hZ1 Z1 d1
  obtain ⟨y3, rfl, h⟩ := h
  refine r_if_ne g 14 dX12_findsIn_9 (by decide) (fun c4 => ?_) (fun c4 => ?_)
  · replace h := h.1 c4
    refine r_aload_n g dX12_findsIn_14 rfl ?_
    refine r_iload g dX12_findsIn_15 rfl ?_
    obtain ⟨hs_a0_, h⟩ := h
    refine r_putI g fX12_277 rfl hs_a0_ rfl rfl dX12_findsIn_17 ?_
    refine r_aload_n g dX12_findsIn_20 rfl ?_
    refine r_aload_n g dX12_findsIn_21 rfl ?_
    obtain ⟨now_5, hr_now_5, h⟩ := h
    refine r_getR g fX12_57 rfl hs_a0_ hr_now_5 dX12_findsIn_22 ?_
    refine r_iload_n g dX12_findsIn_25 rfl ?_
    refine r_iload_n g dX12_findsIn_26 rfl ?_
    refine r_iload_n g dX12_findsIn_27 rfl ?_
    refine r_iload g dX12_findsIn_28 rfl ?_
    refine r_iconst g 0 dX12_findsIn_30 (by decide) ?_
    obtain ⟨d1, Z1, hc1, hd1, h1⟩ := h
    refine r_callV (st := []) (As := [.ref now_5, .int x1, .int x2, .int x3, .int x4, .int 0]) g sX12_361 iX12_searches eX12_searches rfl hs_a0_ rfl (Nat.le_of_ble_eq_true rfl) dX12_findsIn_31 hd1 (Nat.le_refl 0) (Nat.le_refl 0) hc1 (fun r6 μ7 hZ1 => ?_)
    replace h := h1 _ _ hZ1
    clear h1 hc1 hd1 hZ1 Z1 d1
    obtain ⟨y8, rfl, h⟩ := h
    obtain ⟨hb9, h⟩ := h
    exact hr.2.1 _ rfl _ _ _ _ _ _ dX12_findsIn_34 hb9 (Nat.le_refl 0) (Nat.le_refl 0) h
  · replace h := h.2 c4
    refine r_iconst g 0 dX12_findsIn_12 (by decide) ?_
    exact hr.2.1 _ rfl _ _ _ _ _ _ dX12_findsIn_13 (by decide) (Nat.le_refl 0) (Nat.le_refl 0) h
theorem I_X12_findsIn {d : Nat} {ro : Nat → Nat} {Z : Option Value → Hp → Prop} {μ : Hp} {a0 : Nat} {x1 : Int32} {x2 : Int32} {x3 : Int32} {x4 : Int32} {x5 : Int32} (h : ∀ J, xCtx RX12 cX12_findsIn 6 d 0 0 yX12_findsIn.name ro J → xRet cX12_findsIn (some .boolean) 0 0 Z J → J μ 0 0 0 [(0, .ref a0), (1, .int x1), (2, .int x2), (3, .int x3), (4, .int x4), (5, .int x5)] []) : xC d yX12_findsIn cX12_findsIn 6 (some .boolean) 0 0 [.ref a0, .int x1, .int x2, .int x3, .int x4, .int x5] μ ro Z :=
  xC_intro (own := RX12) (lv := [(0, .ref a0), (1, .int x1), (2, .int x2), (3, .int x3), (4, .int x4), (5, .int x5)]) (by decide) rfl (Nat.le_of_ble_eq_true rfl) rfl (fun J g hr => r_sub g (lv' := [(0, .ref a0), (1, .int x1), (2, .int x2), (3, .int x3), (4, .int x4), (5, .int x5)]) (⟨rfl, rfl, rfl, rfl, rfl, rfl, trivial⟩) (h J g hr))
theorem dX12_asOf_0 : decode cX12_asOf 0 = .ok (.aload_n 0, 1) := by decide +kernel
theorem dX12_asOf_1 : decode cX12_asOf 1 = .ok (.iconst 0, 1) := by decide +kernel
theorem dX12_asOf_2 : decode cX12_asOf 2 = .ok (.putfield 106, 3) := by decide +kernel
theorem dX12_asOf_5 : decode cX12_asOf 5 = .ok (.iload 5, 2) := by decide +kernel
theorem dX12_asOf_7 : decode cX12_asOf 7 = .ok (.i2l, 1) := by decide +kernel
theorem dX12_asOf_8 : decode cX12_asOf 8 = .ok (.lconst 0, 1) := by decide +kernel
theorem dX12_asOf_9 : decode cX12_asOf 9 = .ok (.ldc2_w 466, 3) := by decide +kernel
theorem dX12_asOf_12 : decode cX12_asOf 12 = .ok (.invokestatic 161, 3) := by decide +kernel
theorem dX12_asOf_15 : decode cX12_asOf 15 = .ok (.ifCond .eq 28, 3) := by decide +kernel
theorem dX12_asOf_18 : decode cX12_asOf 18 = .ok (.iload 6, 2) := by decide +kernel
theorem dX12_asOf_20 : decode cX12_asOf 20 = .ok (.i2l, 1) := by decide +kernel
theorem dX12_asOf_21 : decode cX12_asOf 21 = .ok (.lconst 0, 1) := by decide +kernel
theorem dX12_asOf_22 : decode cX12_asOf 22 = .ok (.lconst 1, 1) := by decide +kernel
theorem dX12_asOf_23 : decode cX12_asOf 23 = .ok (.invokestatic 161, 3) := by decide +kernel
theorem dX12_asOf_26 : decode cX12_asOf 26 = .ok (.ifCond .eq 17, 3) := by decide +kernel
theorem dX12_asOf_29 : decode cX12_asOf 29 = .ok (.aload_n 0, 1) := by decide +kernel
theorem dX12_asOf_30 : decode cX12_asOf 30 = .ok (.iload_n 1, 1) := by decide +kernel
theorem dX12_asOf_31 : decode cX12_asOf 31 = .ok (.iload_n 2, 1) := by decide +kernel
theorem dX12_asOf_32 : decode cX12_asOf 32 = .ok (.iload_n 3, 1) := by decide +kernel
theorem dX12_asOf_33 : decode cX12_asOf 33 = .ok (.iload 4, 2) := by decide +kernel
theorem dX12_asOf_35 : decode cX12_asOf 35 = .ok (.iload 5, 2) := by decide +kernel
theorem dX12_asOf_37 : decode cX12_asOf 37 = .ok (.invokevirtual 488, 3) := by decide +kernel
theorem dX12_asOf_40 : decode cX12_asOf 40 = .ok (.ifCond .ne 5, 3) := by decide +kernel
theorem dX12_asOf_43 : decode cX12_asOf 43 = .ok (.iconst (-1), 1) := by decide +kernel
theorem dX12_asOf_44 : decode cX12_asOf 44 = .ok (.ireturn, 1) := by decide +kernel
theorem dX12_asOf_45 : decode cX12_asOf 45 = .ok (.iload 6, 2) := by decide +kernel
theorem dX12_asOf_47 : decode cX12_asOf 47 = .ok (.ifCond .ne 10, 3) := by decide +kernel
theorem dX12_asOf_50 : decode cX12_asOf 50 = .ok (.aload_n 0, 1) := by decide +kernel
theorem dX12_asOf_51 : decode cX12_asOf 51 = .ok (.getfield 321, 3) := by decide +kernel
theorem dX12_asOf_54 : decode cX12_asOf 54 = .ok (.goto 7, 3) := by decide +kernel
theorem dX12_asOf_57 : decode cX12_asOf 57 = .ok (.aload_n 0, 1) := by decide +kernel
theorem dX12_asOf_58 : decode cX12_asOf 58 = .ok (.getfield 306, 3) := by decide +kernel
theorem dX12_asOf_61 : decode cX12_asOf 61 = .ok (.ireturn, 1) := by decide +kernel
set_option maxHeartbeats 4000000 in
set_option maxRecDepth 100000 in
theorem B_X12_asOf_0 {d : Nat} {ro : Nat → Nat} {J : JT} {Z : Option Value → Hp → Prop} (g : xCtx RX12 cX12_asOf 7 d 0 0 yX12_asOf.name ro J) (hr : xRet cX12_asOf (some .int) 0 0 Z J) {μ : Hp} {a0 : Nat} {x1 : Int32} {x2 : Int32} {x3 : Int32} {x4 : Int32} {x5 : Int32} {x6 : Int32} (hs_a0 : hS μ a0 = some (15, 65)) (hd9 : 1 ≤ d)
    (h : ((x5 < 0 → Z (some (.int (-1))) (wI μ a0 0 0)) ∧ (¬ x5 < 0 → ((199 < x5 → Z (some (.int (-1))) (wI μ a0 0 0)) ∧ (¬ 199 < x5 → ((x6 < 0 → Z (some (.int (-1))) (wI μ a0 0 0)) ∧ (¬ x6 < 0 → ((1 < x6 → Z (some (.int (-1))) (wI μ a0 0 0)) ∧ (¬ 1 < x6 → xCall d yX12_findsIn cX12_findsIn 6 (some .boolean) [.ref a0, .int x1, .int x2, .int x3, .int x4, .int x5] (wI μ a0 0 0) ro (fun r17 μ18 => ∃ y19 : Int32, r17 = some (.int y19) ∧ ((¬ y19 = 0 → ((¬ x6 = 0 → hS μ18 a0 = some (15, 65) ∧ Z (some (.int (hI μ18 a0 50))) μ18) ∧ (x6 = 0 → hS μ18 a0 = some (15, 65) ∧ Z (some (.int (hI μ18 a0 51))) μ18))) ∧ (y19 = 0 → Z (some (.int (-1))) μ18)))))))))))) :
    J μ 0 0 0 [(0, .ref a0), (1, .int x1), (2, .int x2), (3, .int x3), (4, .int x4), (5, .int x5), (6, .int x6)] [] := by
  refine r_aload_n g dX12_asOf_0 rfl ?_
  refine r_iconst g 0 dX12_asOf_1 (by decide) ?_
  refine r_putI g fX12_106 rfl hs_a0 rfl rfl dX12_asOf_2 ?_
  refine r_iload g dX12_asOf_5 rfl ?_
  refine r_i2l g dX12_asOf_7 ?_
  refine r_lconst g 0 dX12_asOf_8 (by decide) ?_
  refine r_ldc2 g 199 kX12_466 dX12_asOf_9 ?_
  by_cases c1 : x5 < 0
  · replace h := h.1 c1
    refine r_callS (st := []) (As := [.long x5.toInt64, .long 0, .long 199]) g sX12_161 iX12_isIn rfl (Nat.le_of_ble_eq_true rfl) dX12_asOf_12 (by omega) (Nat.le_refl 0) (Nat.le_refl 0) (Q_isIn_0 (d := d - 1) (x := x5) (a := 0) (b := 199) rfl (by decide) (by decide) c1) (fun r2 μ3 hZ1 => ?_)
    obtain ⟨rfl, e9⟩ := hZ1
    replace e9 := e9.symm
    subst e9
    refine r_if_eq g 43 dX12_asOf_15 (by decide) (fun _ => ?_) (fun hz => absurd hz (by decide))
    refine r_iconst g (-1) dX12_asOf_43 (by decide) ?_
    exact hr.2.1 _ rfl _ _ _ _ _ _ dX12_asOf_44 rfl (Nat.le_refl 0) (Nat.le_refl 0) h
  · replace h := h.2 c1
    by_cases c4 : 199 < x5
    · replace h := h.1 c4
      refine r_callS (st := []) (As := [.long x5.toInt64, .long 0, .long 199]) g sX12_161 iX12_isIn rfl (Nat.le_of_ble_eq_true rfl) dX12_asOf_12 (by omega) (Nat.le_refl 0) (Nat.le_refl 0) (Q_isIn_1 (d := d - 1) (x := x5) (a := 0) (b := 199) rfl (by decide) (by decide) c1 c4) (fun r5 μ6 hZ1 => ?_)
      obtain ⟨rfl, e9⟩ := hZ1
      replace e9 := e9.symm
      subst e9
      refine r_if_eq g 43 dX12_asOf_15 (by decide) (fun _ => ?_) (fun hz => absurd hz (by decide))
      refine r_iconst g (-1) dX12_asOf_43 (by decide) ?_
      exact hr.2.1 _ rfl _ _ _ _ _ _ dX12_asOf_44 rfl (Nat.le_refl 0) (Nat.le_refl 0) h
    · replace h := h.2 c4
      refine r_callS (st := []) (As := [.long x5.toInt64, .long 0, .long 199]) g sX12_161 iX12_isIn rfl (Nat.le_of_ble_eq_true rfl) dX12_asOf_12 (by omega) (Nat.le_refl 0) (Nat.le_refl 0) (Q_isIn_2 (d := d - 1) (x := x5) (a := 0) (b := 199) rfl (by decide) (by decide) c1 c4) (fun r7 μ8 hZ1 => ?_)
      obtain ⟨rfl, e9⟩ := hZ1
      replace e9 := e9.symm
      subst e9
      refine r_if_eq g 43 dX12_asOf_15 (by decide) (fun hz => absurd hz (by decide)) (fun _ => ?_)
      refine r_iload g dX12_asOf_18 rfl ?_
      refine r_i2l g dX12_asOf_20 ?_
      refine r_lconst g 0 dX12_asOf_21 (by decide) ?_
      refine r_lconst g 1 dX12_asOf_22 (by decide) ?_
      by_cases c9 : x6 < 0
      · replace h := h.1 c9
        refine r_callS (st := []) (As := [.long x6.toInt64, .long 0, .long 1]) g sX12_161 iX12_isIn rfl (Nat.le_of_ble_eq_true rfl) dX12_asOf_23 (by omega) (Nat.le_refl 0) (Nat.le_refl 0) (Q_isIn_0 (d := d - 1) (x := x6) (a := 0) (b := 1) rfl (by decide) (by decide) c9) (fun r10 μ11 hZ1 => ?_)
        obtain ⟨rfl, e9⟩ := hZ1
        replace e9 := e9.symm
        subst e9
        refine r_if_eq g 43 dX12_asOf_26 (by decide) (fun _ => ?_) (fun hz => absurd hz (by decide))
        refine r_iconst g (-1) dX12_asOf_43 (by decide) ?_
        exact hr.2.1 _ rfl _ _ _ _ _ _ dX12_asOf_44 rfl (Nat.le_refl 0) (Nat.le_refl 0) h
      · replace h := h.2 c9
        by_cases c12 : 1 < x6
        · replace h := h.1 c12
          refine r_callS (st := []) (As := [.long x6.toInt64, .long 0, .long 1]) g sX12_161 iX12_isIn rfl (Nat.le_of_ble_eq_true rfl) dX12_asOf_23 (by omega) (Nat.le_refl 0) (Nat.le_refl 0) (Q_isIn_1 (d := d - 1) (x := x6) (a := 0) (b := 1) rfl (by decide) (by decide) c9 c12) (fun r13 μ14 hZ1 => ?_)
          obtain ⟨rfl, e9⟩ := hZ1
          replace e9 := e9.symm
          subst e9
          refine r_if_eq g 43 dX12_asOf_26 (by decide) (fun _ => ?_) (fun hz => absurd hz (by decide))
          refine r_iconst g (-1) dX12_asOf_43 (by decide) ?_
          exact hr.2.1 _ rfl _ _ _ _ _ _ dX12_asOf_44 rfl (Nat.le_refl 0) (Nat.le_refl 0) h
        · replace h := h.2 c12
          refine r_callS (st := []) (As := [.long x6.toInt64, .long 0, .long 1]) g sX12_161 iX12_isIn rfl (Nat.le_of_ble_eq_true rfl) dX12_asOf_23 (by omega) (Nat.le_refl 0) (Nat.le_refl 0) (Q_isIn_2 (d := d - 1) (x := x6) (a := 0) (b := 1) rfl (by decide) (by decide) c9 c12) (fun r15 μ16 hZ1 => ?_)
          obtain ⟨rfl, e9⟩ := hZ1
          replace e9 := e9.symm
          subst e9
          refine r_if_eq g 43 dX12_asOf_26 (by decide) (fun hz => absurd hz (by decide)) (fun _ => ?_)
          refine r_aload_n g dX12_asOf_29 rfl ?_
          refine r_iload_n g dX12_asOf_30 rfl ?_
          refine r_iload_n g dX12_asOf_31 rfl ?_
          refine r_iload_n g dX12_asOf_32 rfl ?_
          refine r_iload g dX12_asOf_33 rfl ?_
          refine r_iload g dX12_asOf_35 rfl ?_
          obtain ⟨d1, Z1, hc1, hd1, h1⟩ := h
          refine r_callV (st := []) (As := [.int x1, .int x2, .int x3, .int x4, .int x5]) g sX12_488 iX12_findsIn eX12_findsIn rfl hs_a0 rfl (Nat.le_of_ble_eq_true rfl) dX12_asOf_37 hd1 (Nat.le_refl 0) (Nat.le_refl 0) hc1 (fun r17 μ18 hZ1 => ?_)
          replace h := h1 _ _ hZ1
          clear h1 hc1 hd1 hZ1 Z1 d1
          obtain ⟨y19, rfl, h⟩ := h
          refine r_if_ne g 45 dX12_asOf_40 (by decide) (fun c20 => ?_) (fun c20 => ?_)
          · replace h := h.1 c20
            refine r_iload g dX12_asOf_45 rfl ?_
            refine r_if_ne g 57 dX12_asOf_47 (by decide) (fun c21 => ?_) (fun c21 => ?_)
            · replace h := h.1 c21
              refine r_aload_n g dX12_asOf_57 rfl ?_
              obtain ⟨hs_a0_, h⟩ := h
              refine r_getI g fX12_306 rfl hs_a0_ dX12_asOf_58 ?_
              exact hr.2.1 _ rfl _ _ _ _ _ _ dX12_asOf_61 rfl (Nat.le_refl 0) (Nat.le_refl 0) h
            · replace h := h.2 c21
              refine r_aload_n g dX12_asOf_50 rfl ?_
              obtain ⟨hs_a0__, h⟩ := h
              refine r_getI g fX12_321 rfl hs_a0__ dX12_asOf_51 ?_
              refine r_goto g 61 dX12_asOf_54 (by decide) ?_
              exact hr.2.1 _ rfl _ _ _ _ _ _ dX12_asOf_61 rfl (Nat.le_refl 0) (Nat.le_refl 0) h
          · replace h := h.2 c20
            refine r_iconst g (-1) dX12_asOf_43 (by decide) ?_
            exact hr.2.1 _ rfl _ _ _ _ _ _ dX12_asOf_44 rfl (Nat.le_refl 0) (Nat.le_refl 0) h
theorem I_X12_asOf {d : Nat} {ro : Nat → Nat} {Z : Option Value → Hp → Prop} {μ : Hp} {a0 : Nat} {x1 : Int32} {x2 : Int32} {x3 : Int32} {x4 : Int32} {x5 : Int32} {x6 : Int32} (h : ∀ J, xCtx RX12 cX12_asOf 7 d 0 0 yX12_asOf.name ro J → xRet cX12_asOf (some .int) 0 0 Z J → J μ 0 0 0 [(0, .ref a0), (1, .int x1), (2, .int x2), (3, .int x3), (4, .int x4), (5, .int x5), (6, .int x6)] []) : xC d yX12_asOf cX12_asOf 7 (some .int) 0 0 [.ref a0, .int x1, .int x2, .int x3, .int x4, .int x5, .int x6] μ ro Z :=
  xC_intro (own := RX12) (lv := [(0, .ref a0), (1, .int x1), (2, .int x2), (3, .int x3), (4, .int x4), (5, .int x5), (6, .int x6)]) (by decide) rfl (Nat.le_of_ble_eq_true rfl) rfl (fun J g hr => r_sub g (lv' := [(0, .ref a0), (1, .int x1), (2, .int x2), (3, .int x3), (4, .int x4), (5, .int x5), (6, .int x6)]) (⟨rfl, rfl, rfl, rfl, rfl, rfl, rfl, trivial⟩) (h J g hr))
theorem dX12_soon_0 : decode cX12_soon 0 = .ok (.aload_n 0, 1) := by decide +kernel
theorem dX12_soon_1 : decode cX12_soon 1 = .ok (.iconst 0, 1) := by decide +kernel
theorem dX12_soon_2 : decode cX12_soon 2 = .ok (.putfield 106, 3) := by decide +kernel
theorem dX12_soon_5 : decode cX12_soon 5 = .ok (.iconst (-1), 1) := by decide +kernel
theorem dX12_soon_6 : decode cX12_soon 6 = .ok (.istore 5, 2) := by decide +kernel
theorem dX12_soon_8 : decode cX12_soon 8 = .ok (.iconst 0, 1) := by decide +kernel
theorem dX12_soon_9 : decode cX12_soon 9 = .ok (.istore 6, 2) := by decide +kernel
theorem dX12_soon_11 : decode cX12_soon 11 = .ok (.aload_n 0, 1) := by decide +kernel
theorem dX12_soon_12 : decode cX12_soon 12 = .ok (.getfield 57, 3) := by decide +kernel
theorem dX12_soon_15 : decode cX12_soon 15 = .ok (.bipush 30, 2) := by decide +kernel
theorem dX12_soon_17 : decode cX12_soon 17 = .ok (.iaload, 1) := by decide +kernel
theorem dX12_soon_18 : decode cX12_soon 18 = .ok (.istore 7, 2) := by decide +kernel
theorem dX12_soon_20 : decode cX12_soon 20 = .ok (.iload 7, 2) := by decide +kernel
theorem dX12_soon_22 : decode cX12_soon 22 = .ok (.aload_n 0, 1) := by decide +kernel
theorem dX12_soon_23 : decode cX12_soon 23 = .ok (.getfield 57, 3) := by decide +kernel
theorem dX12_soon_26 : decode cX12_soon 26 = .ok (.bipush 30, 2) := by decide +kernel
theorem dX12_soon_28 : decode cX12_soon 28 = .ok (.iaload, 1) := by decide +kernel
theorem dX12_soon_29 : decode cX12_soon 29 = .ok (.bipush 20, 2) := by decide +kernel
theorem dX12_soon_31 : decode cX12_soon 31 = .ok (.iadd, 1) := by decide +kernel
theorem dX12_soon_32 : decode cX12_soon 32 = .ok (.if_icmp .gt 59, 3) := by decide +kernel
theorem dX12_soon_35 : decode cX12_soon 35 = .ok (.iload 7, 2) := by decide +kernel
theorem dX12_soon_37 : decode cX12_soon 37 = .ok (.sipush 199, 3) := by decide +kernel
theorem dX12_soon_40 : decode cX12_soon 40 = .ok (.if_icmp .gt 51, 3) := by decide +kernel
theorem dX12_soon_43 : decode cX12_soon 43 = .ok (.aload_n 0, 1) := by decide +kernel
theorem dX12_soon_44 : decode cX12_soon 44 = .ok (.iload_n 1, 1) := by decide +kernel
theorem dX12_soon_45 : decode cX12_soon 45 = .ok (.iload_n 2, 1) := by decide +kernel
theorem dX12_soon_46 : decode cX12_soon 46 = .ok (.iload_n 3, 1) := by decide +kernel
theorem dX12_soon_47 : decode cX12_soon 47 = .ok (.iload 4, 2) := by decide +kernel
theorem dX12_soon_49 : decode cX12_soon 49 = .ok (.iload 7, 2) := by decide +kernel
theorem dX12_soon_51 : decode cX12_soon 51 = .ok (.invokevirtual 488, 3) := by decide +kernel
theorem dX12_soon_54 : decode cX12_soon 54 = .ok (.ifCond .eq 31, 3) := by decide +kernel
theorem dX12_soon_57 : decode cX12_soon 57 = .ok (.iload 5, 2) := by decide +kernel
theorem dX12_soon_59 : decode cX12_soon 59 = .ok (.iconst (-1), 1) := by decide +kernel
theorem dX12_soon_60 : decode cX12_soon 60 = .ok (.if_icmp .eq 15, 3) := by decide +kernel
theorem dX12_soon_63 : decode cX12_soon 63 = .ok (.aload_n 0, 1) := by decide +kernel
theorem dX12_soon_64 : decode cX12_soon 64 = .ok (.getfield 321, 3) := by decide +kernel
theorem dX12_soon_67 : decode cX12_soon 67 = .ok (.iload 6, 2) := by decide +kernel
theorem dX12_soon_69 : decode cX12_soon 69 = .ok (.if_icmp .gt 6, 3) := by decide +kernel
theorem dX12_soon_72 : decode cX12_soon 72 = .ok (.goto 13, 3) := by decide +kernel
theorem dX12_soon_75 : decode cX12_soon 75 = .ok (.iload 7, 2) := by decide +kernel
theorem dX12_soon_77 : decode cX12_soon 77 = .ok (.istore 5, 2) := by decide +kernel
theorem dX12_soon_79 : decode cX12_soon 79 = .ok (.aload_n 0, 1) := by decide +kernel
theorem dX12_soon_80 : decode cX12_soon 80 = .ok (.getfield 321, 3) := by decide +kernel
theorem dX12_soon_83 : decode cX12_soon 83 = .ok (.istore 6, 2) := by decide +kernel
theorem dX12_soon_85 : decode cX12_soon 85 = .ok (.iinc 7 1, 3) := by decide +kernel
theorem dX12_soon_88 : decode cX12_soon 88 = .ok (.goto (-68), 3) := by decide +kernel
theorem dX12_soon_91 : decode cX12_soon 91 = .ok (.iload 5, 2) := by decide +kernel
theorem dX12_soon_93 : decode cX12_soon 93 = .ok (.ireturn, 1) := by decide +kernel
set_option maxHeartbeats 4000000 in
set_option maxRecDepth 100000 in
theorem B_X12_soon_0 {d : Nat} {ro : Nat → Nat} {J : JT} {Z : Option Value → Hp → Prop} (g : xCtx RX12 cX12_soon 8 d 0 0 yX12_soon.name ro J) (hr : xRet cX12_soon (some .int) 0 0 Z J) {μ : Hp} {a0 : Nat} {x1 : Int32} {x2 : Int32} {x3 : Int32} {x4 : Int32} {a0_now : Nat} {N_a0_now : Nat} (hs_a0 : hS μ a0 = some (15, 65)) (hr_a0_now : hR μ a0 30 = some a0_now) (hs_a0_now : hS μ a0_now = some (0, N_a0_now))
    (h : vp_in 30 N_a0_now ∧ J (wI μ a0 0 0) 0 0 20 [(0, .ref a0), (1, .int x1), (2, .int x2), (3, .int x3), (4, .int x4), (5, .int (-1)), (6, .int 0), (7, .int (hI (wI μ a0 0 0) a0_now 30))] []) :
    J μ 0 0 0 [(0, .ref a0), (1, .int x1), (2, .int x2), (3, .int x3), (4, .int x4)] [] := by
  refine r_aload_n g dX12_soon_0 rfl ?_
  refine r_iconst g 0 dX12_soon_1 (by decide) ?_
  refine r_putI g fX12_106 rfl hs_a0 rfl rfl dX12_soon_2 ?_
  refine r_iconst g (-1) dX12_soon_5 (by decide) ?_
  refine r_istore g [(5, .int (-1)), (0, .ref a0), (1, .int x1), (2, .int x2), (3, .int x3), (4, .int x4)] dX12_soon_6 (by decide) rfl ?_
  refine r_iconst g 0 dX12_soon_8 (by decide) ?_
  refine r_istore g [(6, .int 0), (5, .int (-1)), (0, .ref a0), (1, .int x1), (2, .int x2), (3, .int x3), (4, .int x4)] dX12_soon_9 (by decide) rfl ?_
  refine r_aload_n g dX12_soon_11 rfl ?_
  refine r_getR g fX12_57 rfl hs_a0 hr_a0_now dX12_soon_12 ?_
  refine r_bipush g 30 dX12_soon_15 (by decide) ?_
  obtain ⟨hi1, h⟩ := h
  refine r_iaload g hs_a0_now hi1 dX12_soon_17 ?_
  refine r_istore g [(7, .int (hI (wI μ a0 0 0) a0_now 30)), (6, .int 0), (5, .int (-1)), (0, .ref a0), (1, .int x1), (2, .int x2), (3, .int x3), (4, .int x4)] dX12_soon_18 (by decide) rfl ?_
  refine r_sub g (lv' := [(0, .ref a0), (1, .int x1), (2, .int x2), (3, .int x3), (4, .int x4), (5, .int (-1)), (6, .int 0), (7, .int (hI (wI μ a0 0 0) a0_now 30))]) (⟨rfl, rfl, rfl, rfl, rfl, rfl, rfl, rfl, trivial⟩) ?_
  exact h
set_option maxHeartbeats 4000000 in
set_option maxRecDepth 100000 in
theorem B_X12_soon_20 {d : Nat} {ro : Nat → Nat} {J : JT} {Z : Option Value → Hp → Prop} (g : xCtx RX12 cX12_soon 8 d 0 0 yX12_soon.name ro J) (hr : xRet cX12_soon (some .int) 0 0 Z J) {μ : Hp} {a0 : Nat} {x1 : Int32} {x2 : Int32} {x3 : Int32} {x4 : Int32} {x5 : Int32} {x6 : Int32} {x7 : Int32} {a0_now : Nat} {N_a0_now : Nat} (hs_a0 : hS μ a0 = some (15, 65)) (hr_a0_now : hR μ a0 30 = some a0_now) (hs_a0_now : hS μ a0_now = some (0, N_a0_now))
    (h : vp_in 30 N_a0_now ∧ ((((hI μ a0_now 30) + 20) < x7 → Z (some (.int x5)) μ) ∧ (¬ ((hI μ a0_now 30) + 20) < x7 → ((199 < x7 → Z (some (.int x5)) μ) ∧ (¬ 199 < x7 → xCall d yX12_findsIn cX12_findsIn 6 (some .boolean) [.ref a0, .int x1, .int x2, .int x3, .int x4, .int x7] μ ro (fun r4 μ5 => ∃ y6 : Int32, r4 = some (.int y6) ∧ ((y6 = 0 → J μ5 0 0 20 [(0, .ref a0), (1, .int x1), (2, .int x2), (3, .int x3), (4, .int x4), (5, .int x5), (6, .int x6), (7, .int (x7 + 1))] []) ∧ (¬ y6 = 0 → ((x5 = (-1) → hS μ5 a0 = some (15, 65) ∧ J μ5 0 0 20 [(0, .ref a0), (1, .int x1), (2, .int x2), (3, .int x3), (4, .int x4), (5, .int x7), (6, .int (hI μ5 a0 51)), (7, .int (x7 + 1))] []) ∧ (¬ x5 = (-1) → hS μ5 a0 = some (15, 65) ∧ ((x6 < (hI μ5 a0 51) → J μ5 0 0 20 [(0, .ref a0), (1, .int x1), (2, .int x2), (3, .int x3), (4, .int x4), (5, .int x7), (6, .int (hI μ5 a0 51)), (7, .int (x7 + 1))] []) ∧ (¬ x6 < (hI μ5 a0 51) → J μ5 0 0 20 [(0, .ref a0), (1, .int x1), (2, .int x2), (3, .int x3), (4, .int x4), (5, .int x5), (6, .int x6), (7, .int (x7 + 1))] [])))))))))))) :
    J μ 0 0 20 [(0, .ref a0), (1, .int x1), (2, .int x2), (3, .int x3), (4, .int x4), (5, .int x5), (6, .int x6), (7, .int x7)] [] := by
  refine r_iload g dX12_soon_20 rfl ?_
  refine r_aload_n g dX12_soon_22 rfl ?_
  refine r_getR g fX12_57 rfl hs_a0 hr_a0_now dX12_soon_23 ?_
  refine r_bipush g 30 dX12_soon_26 (by decide) ?_
  obtain ⟨hi1, h⟩ := h
  refine r_iaload g hs_a0_now hi1 dX12_soon_28 ?_
  refine r_bipush g 20 dX12_soon_29 (by decide) ?_
  refine r_iadd g dX12_soon_31 ?_
  refine r_icmp_gt g 91 dX12_soon_32 (by decide) (fun c2 => ?_) (fun c2 => ?_)
  · replace h := h.1 c2
    refine r_iload g dX12_soon_91 rfl ?_
    exact hr.2.1 _ rfl _ _ _ _ _ _ dX12_soon_93 rfl (Nat.le_refl 0) (Nat.le_refl 0) h
  · replace h := h.2 c2
    refine r_iload g dX12_soon_35 rfl ?_
    refine r_sipush g 199 dX12_soon_37 (by decide) ?_
    refine r_icmp_gt g 91 dX12_soon_40 (by decide) (fun c3 => ?_) (fun c3 => ?_)
    · replace h := h.1 c3
      refine r_iload g dX12_soon_91 rfl ?_
      exact hr.2.1 _ rfl _ _ _ _ _ _ dX12_soon_93 rfl (Nat.le_refl 0) (Nat.le_refl 0) h
    · replace h := h.2 c3
      refine r_aload_n g dX12_soon_43 rfl ?_
      refine r_iload_n g dX12_soon_44 rfl ?_
      refine r_iload_n g dX12_soon_45 rfl ?_
      refine r_iload_n g dX12_soon_46 rfl ?_
      refine r_iload g dX12_soon_47 rfl ?_
      refine r_iload g dX12_soon_49 rfl ?_
      obtain ⟨d1, Z1, hc1, hd1, h1⟩ := h
      refine r_callV (st := []) (As := [.int x1, .int x2, .int x3, .int x4, .int x7]) g sX12_488 iX12_findsIn eX12_findsIn rfl hs_a0 rfl (Nat.le_of_ble_eq_true rfl) dX12_soon_51 hd1 (Nat.le_refl 0) (Nat.le_refl 0) hc1 (fun r4 μ5 hZ1 => ?_)
      replace h := h1 _ _ hZ1
      clear h1 hc1 hd1 hZ1 Z1 d1
      obtain ⟨y6, rfl, h⟩ := h
      refine r_if_eq g 85 dX12_soon_54 (by decide) (fun c7 => ?_) (fun c7 => ?_)
      · replace h := h.1 c7
        refine r_iinc g (x7 + 1) [(7, .int (x7 + 1)), (0, .ref a0), (1, .int x1), (2, .int x2), (3, .int x3), (4, .int x4), (5, .int x5), (6, .int x6)] dX12_soon_85 rfl rfl (by decide) rfl ?_
        refine r_goto g 20 dX12_soon_88 (by decide) ?_
        refine r_sub g (lv' := [(0, .ref a0), (1, .int x1), (2, .int x2), (3, .int x3), (4, .int x4), (5, .int x5), (6, .int x6), (7, .int (x7 + 1))]) (⟨rfl, rfl, rfl, rfl, rfl, rfl, rfl, rfl, trivial⟩) ?_
        exact h
      · replace h := h.2 c7
        refine r_iload g dX12_soon_57 rfl ?_
        refine r_iconst g (-1) dX12_soon_59 (by decide) ?_
        refine r_icmp_eq g 75 dX12_soon_60 (by decide) (fun c8 => ?_) (fun c8 => ?_)
        · replace h := h.1 c8
          refine r_iload g dX12_soon_75 rfl ?_
          refine r_istore g [(5, .int x7), (0, .ref a0), (1, .int x1), (2, .int x2), (3, .int x3), (4, .int x4), (6, .int x6), (7, .int x7)] dX12_soon_77 (by decide) rfl ?_
          refine r_aload_n g dX12_soon_79 rfl ?_
          obtain ⟨hs_a0_, h⟩ := h
          refine r_getI g fX12_321 rfl hs_a0_ dX12_soon_80 ?_
          refine r_istore g [(6, .int (hI μ5 a0 51)), (5, .int x7), (0, .ref a0), (1, .int x1), (2, .int x2), (3, .int x3), (4, .int x4), (7, .int x7)] dX12_soon_83 (by decide) rfl ?_
          refine r_iinc g (x7 + 1) [(7, .int (x7 + 1)), (6, .int (hI μ5 a0 51)), (5, .int x7), (0, .ref a0), (1, .int x1), (2, .int x2), (3, .int x3), (4, .int x4)] dX12_soon_85 rfl rfl (by decide) rfl ?_
          refine r_goto g 20 dX12_soon_88 (by decide) ?_
          refine r_sub g (lv' := [(0, .ref a0), (1, .int x1), (2, .int x2), (3, .int x3), (4, .int x4), (5, .int x7), (6, .int (hI μ5 a0 51)), (7, .int (x7 + 1))]) (⟨rfl, rfl, rfl, rfl, rfl, rfl, rfl, rfl, trivial⟩) ?_
          exact h
        · replace h := h.2 c8
          refine r_aload_n g dX12_soon_63 rfl ?_
          obtain ⟨hs_a0__, h⟩ := h
          refine r_getI g fX12_321 rfl hs_a0__ dX12_soon_64 ?_
          refine r_iload g dX12_soon_67 rfl ?_
          refine r_icmp_gt g 75 dX12_soon_69 (by decide) (fun c9 => ?_) (fun c9 => ?_)
          · replace h := h.1 c9
            refine r_iload g dX12_soon_75 rfl ?_
            refine r_istore g [(5, .int x7), (0, .ref a0), (1, .int x1), (2, .int x2), (3, .int x3), (4, .int x4), (6, .int x6), (7, .int x7)] dX12_soon_77 (by decide) rfl ?_
            refine r_aload_n g dX12_soon_79 rfl ?_
            refine r_getI g fX12_321 rfl hs_a0__ dX12_soon_80 ?_
            refine r_istore g [(6, .int (hI μ5 a0 51)), (5, .int x7), (0, .ref a0), (1, .int x1), (2, .int x2), (3, .int x3), (4, .int x4), (7, .int x7)] dX12_soon_83 (by decide) rfl ?_
            refine r_iinc g (x7 + 1) [(7, .int (x7 + 1)), (6, .int (hI μ5 a0 51)), (5, .int x7), (0, .ref a0), (1, .int x1), (2, .int x2), (3, .int x3), (4, .int x4)] dX12_soon_85 rfl rfl (by decide) rfl ?_
            refine r_goto g 20 dX12_soon_88 (by decide) ?_
            refine r_sub g (lv' := [(0, .ref a0), (1, .int x1), (2, .int x2), (3, .int x3), (4, .int x4), (5, .int x7), (6, .int (hI μ5 a0 51)), (7, .int (x7 + 1))]) (⟨rfl, rfl, rfl, rfl, rfl, rfl, rfl, rfl, trivial⟩) ?_
            exact h
          · replace h := h.2 c9
            refine r_goto g 85 dX12_soon_72 (by decide) ?_
            refine r_iinc g (x7 + 1) [(7, .int (x7 + 1)), (0, .ref a0), (1, .int x1), (2, .int x2), (3, .int x3), (4, .int x4), (5, .int x5), (6, .int x6)] dX12_soon_85 rfl rfl (by decide) rfl ?_
            refine r_goto g 20 dX12_soon_88 (by decide) ?_
            refine r_sub g (lv' := [(0, .ref a0), (1, .int x1), (2, .int x2), (3, .int x3), (4, .int x4), (5, .int x5), (6, .int x6), (7, .int (x7 + 1))]) (⟨rfl, rfl, rfl, rfl, rfl, rfl, rfl, rfl, trivial⟩) ?_
            exact h
theorem I_X12_soon {d : Nat} {ro : Nat → Nat} {Z : Option Value → Hp → Prop} {μ : Hp} {a0 : Nat} {x1 : Int32} {x2 : Int32} {x3 : Int32} {x4 : Int32} (h : ∀ J, xCtx RX12 cX12_soon 8 d 0 0 yX12_soon.name ro J → xRet cX12_soon (some .int) 0 0 Z J → J μ 0 0 0 [(0, .ref a0), (1, .int x1), (2, .int x2), (3, .int x3), (4, .int x4)] []) : xC d yX12_soon cX12_soon 8 (some .int) 0 0 [.ref a0, .int x1, .int x2, .int x3, .int x4] μ ro Z :=
  xC_intro (own := RX12) (lv := [(0, .ref a0), (1, .int x1), (2, .int x2), (3, .int x3), (4, .int x4)]) (by decide) rfl (Nat.le_of_ble_eq_true rfl) rfl (fun J g hr => r_sub g (lv' := [(0, .ref a0), (1, .int x1), (2, .int x2), (3, .int x3), (4, .int x4)]) (⟨rfl, rfl, rfl, rfl, rfl, trivial⟩) (h J g hr))
theorem dX12_hire_0 : decode cX12_hire 0 = .ok (.aload_n 0, 1) := by decide +kernel
theorem dX12_hire_1 : decode cX12_hire 1 = .ok (.iconst 0, 1) := by decide +kernel
theorem dX12_hire_2 : decode cX12_hire 2 = .ok (.putfield 106, 3) := by decide +kernel
theorem dX12_hire_5 : decode cX12_hire 5 = .ok (.aload_n 0, 1) := by decide +kernel
theorem dX12_hire_6 : decode cX12_hire 6 = .ok (.iload 5, 2) := by decide +kernel
theorem dX12_hire_8 : decode cX12_hire 8 = .ok (.invokevirtual 351, 3) := by decide +kernel
theorem dX12_hire_11 : decode cX12_hire 11 = .ok (.ifCond .eq 15, 3) := by decide +kernel
theorem dX12_hire_14 : decode cX12_hire 14 = .ok (.aload_n 0, 1) := by decide +kernel
theorem dX12_hire_15 : decode cX12_hire 15 = .ok (.iload_n 1, 1) := by decide +kernel
theorem dX12_hire_16 : decode cX12_hire 16 = .ok (.iload_n 2, 1) := by decide +kernel
theorem dX12_hire_17 : decode cX12_hire 17 = .ok (.iload_n 3, 1) := by decide +kernel
theorem dX12_hire_18 : decode cX12_hire 18 = .ok (.iload 4, 2) := by decide +kernel
theorem dX12_hire_20 : decode cX12_hire 20 = .ok (.invokevirtual 357, 3) := by decide +kernel
theorem dX12_hire_23 : decode cX12_hire 23 = .ok (.ifCond .ne 5, 3) := by decide +kernel
theorem dX12_hire_26 : decode cX12_hire 26 = .ok (.iconst (-1), 1) := by decide +kernel
theorem dX12_hire_27 : decode cX12_hire 27 = .ok (.ireturn, 1) := by decide +kernel
theorem dX12_hire_28 : decode cX12_hire 28 = .ok (.aload_n 0, 1) := by decide +kernel
theorem dX12_hire_29 : decode cX12_hire 29 = .ok (.getfield 57, 3) := by decide +kernel
theorem dX12_hire_32 : decode cX12_hire 32 = .ok (.iconst 0, 1) := by decide +kernel
theorem dX12_hire_33 : decode cX12_hire 33 = .ok (.aload_n 0, 1) := by decide +kernel
theorem dX12_hire_34 : decode cX12_hire 34 = .ok (.getfield 60, 3) := by decide +kernel
theorem dX12_hire_37 : decode cX12_hire 37 = .ok (.iconst 0, 1) := by decide +kernel
theorem dX12_hire_38 : decode cX12_hire 38 = .ok (.invokestatic 408, 3) := by decide +kernel
theorem dX12_hire_41 : decode cX12_hire 41 = .ok (.iconst (-1), 1) := by decide +kernel
theorem dX12_hire_42 : decode cX12_hire 42 = .ok (.istore 6, 2) := by decide +kernel
theorem dX12_hire_44 : decode cX12_hire 44 = .ok (.iconst 0, 1) := by decide +kernel
theorem dX12_hire_45 : decode cX12_hire 45 = .ok (.istore 7, 2) := by decide +kernel
theorem dX12_hire_47 : decode cX12_hire 47 = .ok (.iconst 0, 1) := by decide +kernel
theorem dX12_hire_48 : decode cX12_hire 48 = .ok (.istore 8, 2) := by decide +kernel
theorem dX12_hire_50 : decode cX12_hire 50 = .ok (.iload 8, 2) := by decide +kernel
theorem dX12_hire_52 : decode cX12_hire 52 = .ok (.bipush 99, 2) := by decide +kernel
theorem dX12_hire_54 : decode cX12_hire 54 = .ok (.if_icmp .gt 66, 3) := by decide +kernel
theorem dX12_hire_57 : decode cX12_hire 57 = .ok (.aload_n 0, 1) := by decide +kernel
theorem dX12_hire_58 : decode cX12_hire 58 = .ok (.getfield 60, 3) := by decide +kernel
theorem dX12_hire_61 : decode cX12_hire 61 = .ok (.bipush 8, 2) := by decide +kernel
theorem dX12_hire_63 : decode cX12_hire 63 = .ok (.iload 5, 2) := by decide +kernel
theorem dX12_hire_65 : decode cX12_hire 65 = .ok (.iadd, 1) := by decide +kernel
theorem dX12_hire_66 : decode cX12_hire 66 = .ok (.iload 8, 2) := by decide +kernel
theorem dX12_hire_68 : decode cX12_hire 68 = .ok (.iastore, 1) := by decide +kernel
theorem dX12_hire_69 : decode cX12_hire 69 = .ok (.aload_n 0, 1) := by decide +kernel
theorem dX12_hire_70 : decode cX12_hire 70 = .ok (.aload_n 0, 1) := by decide +kernel
theorem dX12_hire_71 : decode cX12_hire 71 = .ok (.getfield 60, 3) := by decide +kernel
theorem dX12_hire_74 : decode cX12_hire 74 = .ok (.iload_n 1, 1) := by decide +kernel
theorem dX12_hire_75 : decode cX12_hire 75 = .ok (.iload_n 2, 1) := by decide +kernel
theorem dX12_hire_76 : decode cX12_hire 76 = .ok (.iload_n 3, 1) := by decide +kernel
theorem dX12_hire_77 : decode cX12_hire 77 = .ok (.iload 4, 2) := by decide +kernel
theorem dX12_hire_79 : decode cX12_hire 79 = .ok (.iconst 0, 1) := by decide +kernel
theorem dX12_hire_80 : decode cX12_hire 80 = .ok (.invokevirtual 361, 3) := by decide +kernel
theorem dX12_hire_83 : decode cX12_hire 83 = .ok (.ifCond .eq 31, 3) := by decide +kernel
theorem dX12_hire_86 : decode cX12_hire 86 = .ok (.iload 6, 2) := by decide +kernel
theorem dX12_hire_88 : decode cX12_hire 88 = .ok (.iconst (-1), 1) := by decide +kernel
theorem dX12_hire_89 : decode cX12_hire 89 = .ok (.if_icmp .eq 15, 3) := by decide +kernel
theorem dX12_hire_92 : decode cX12_hire 92 = .ok (.aload_n 0, 1) := by decide +kernel
theorem dX12_hire_93 : decode cX12_hire 93 = .ok (.getfield 321, 3) := by decide +kernel
theorem dX12_hire_96 : decode cX12_hire 96 = .ok (.iload 7, 2) := by decide +kernel
theorem dX12_hire_98 : decode cX12_hire 98 = .ok (.if_icmp .gt 6, 3) := by decide +kernel
theorem dX12_hire_101 : decode cX12_hire 101 = .ok (.goto 13, 3) := by decide +kernel
theorem dX12_hire_104 : decode cX12_hire 104 = .ok (.iload 8, 2) := by decide +kernel
theorem dX12_hire_106 : decode cX12_hire 106 = .ok (.istore 6, 2) := by decide +kernel
theorem dX12_hire_108 : decode cX12_hire 108 = .ok (.aload_n 0, 1) := by decide +kernel
theorem dX12_hire_109 : decode cX12_hire 109 = .ok (.getfield 321, 3) := by decide +kernel
theorem dX12_hire_112 : decode cX12_hire 112 = .ok (.istore 7, 2) := by decide +kernel
theorem dX12_hire_114 : decode cX12_hire 114 = .ok (.iinc 8 1, 3) := by decide +kernel
theorem dX12_hire_117 : decode cX12_hire 117 = .ok (.goto (-67), 3) := by decide +kernel
theorem dX12_hire_120 : decode cX12_hire 120 = .ok (.iload 6, 2) := by decide +kernel
theorem dX12_hire_122 : decode cX12_hire 122 = .ok (.ireturn, 1) := by decide +kernel
set_option maxHeartbeats 4000000 in
set_option maxRecDepth 100000 in
theorem B_X12_hire_0 {d : Nat} {ro : Nat → Nat} {J : JT} {Z : Option Value → Hp → Prop} (g : xCtx RX12 cX12_hire 9 d 0 0 yX12_hire.name ro J) (hr : xRet cX12_hire (some .int) 0 0 Z J) {μ : Hp} {a0 : Nat} {x1 : Int32} {x2 : Int32} {x3 : Int32} {x4 : Int32} {x5 : Int32} (hs_a0 : hS μ a0 = some (15, 65)) (hd9 : 1 ≤ d)
    (h : ((x5 < 0 → Z (some (.int (-1))) (wI μ a0 0 0)) ∧ (¬ x5 < 0 → (((hI (wI μ a0 0 0) a0 22) ≤ x5 → Z (some (.int (-1))) (wI μ a0 0 0)) ∧ (¬ (hI (wI μ a0 0 0) a0 22) ≤ x5 → xCall d yX12_isAsked cX12_isAsked 5 (some .boolean) [.ref a0, .int x1, .int x2, .int x3, .int x4] (wI μ a0 0 0) ro (fun r9 μ10 => ∃ y11 : Int32, r9 = some (.int y11) ∧ ((¬ y11 = 0 → hS μ10 a0 = some (15, 65) ∧ ∃ now_13 : Nat, hR μ10 a0 30 = some now_13 ∧ ∃ trial_14 : Nat, hR μ10 a0 31 = some trial_14 ∧ xCall d yX12_copyRow cX12_copyRow 5 none [.ref now_13, .int 0, .ref trial_14, .int 0] μ10 ro (fun r15 μ16 => r15 = none ∧ J μ16 0 0 50 [(0, .ref a0), (1, .int x1), (2, .int x2), (3, .int x3), (4, .int x4), (5, .int x5), (6, .int (-1)), (7, .int 0), (8, .int 0)] [])) ∧ (y11 = 0 → Z (some (.int (-1))) μ10)))))))) :
    J μ 0 0 0 [(0, .ref a0), (1, .int x1), (2, .int x2), (3, .int x3), (4, .int x4), (5, .int x5)] [] := by
  refine r_aload_n g dX12_hire_0 rfl ?_
  refine r_iconst g 0 dX12_hire_1 (by decide) ?_
  refine r_putI g fX12_106 rfl hs_a0 rfl rfl dX12_hire_2 ?_
  refine r_aload_n g dX12_hire_5 rfl ?_
  refine r_iload g dX12_hire_6 rfl ?_
  by_cases c1 : x5 < 0
  · replace h := h.1 c1
    refine r_callV (st := []) (As := [.int x5]) g sX12_351 iX12_isFirm eX12_isFirm rfl hs_a0 rfl (Nat.le_of_ble_eq_true rfl) dX12_hire_8 (by omega) (Nat.le_refl 0) (Nat.le_refl 0) (P_X12_isFirm_0 (d := d - 1) hs_a0 c1) (fun r2 μ3 hZ1 => ?_)
    obtain ⟨rfl, e9⟩ := hZ1
    replace e9 := e9.symm
    subst e9
    refine r_if_eq g 26 dX12_hire_11 (by decide) (fun _ => ?_) (fun hz => absurd hz (by decide))
    refine r_iconst g (-1) dX12_hire_26 (by decide) ?_
    exact hr.2.1 _ rfl _ _ _ _ _ _ dX12_hire_27 rfl (Nat.le_refl 0) (Nat.le_refl 0) h
  · replace h := h.2 c1
    by_cases c4 : (hI (wI μ a0 0 0) a0 22) ≤ x5
    · replace h := h.1 c4
      refine r_callV (st := []) (As := [.int x5]) g sX12_351 iX12_isFirm eX12_isFirm rfl hs_a0 rfl (Nat.le_of_ble_eq_true rfl) dX12_hire_8 (by omega) (Nat.le_refl 0) (Nat.le_refl 0) (P_X12_isFirm_1 (d := d - 1) hs_a0 c1 c4) (fun r5 μ6 hZ1 => ?_)
      obtain ⟨rfl, e9⟩ := hZ1
      replace e9 := e9.symm
      subst e9
      refine r_if_eq g 26 dX12_hire_11 (by decide) (fun _ => ?_) (fun hz => absurd hz (by decide))
      refine r_iconst g (-1) dX12_hire_26 (by decide) ?_
      exact hr.2.1 _ rfl _ _ _ _ _ _ dX12_hire_27 rfl (Nat.le_refl 0) (Nat.le_refl 0) h
    · replace h := h.2 c4
      refine r_callV (st := []) (As := [.int x5]) g sX12_351 iX12_isFirm eX12_isFirm rfl hs_a0 rfl (Nat.le_of_ble_eq_true rfl) dX12_hire_8 (by omega) (Nat.le_refl 0) (Nat.le_refl 0) (P_X12_isFirm_2 (d := d - 1) hs_a0 c1 c4) (fun r7 μ8 hZ1 => ?_)
      obtain ⟨rfl, e9⟩ := hZ1
      replace e9 := e9.symm
      subst e9
      refine r_if_eq g 26 dX12_hire_11 (by decide) (fun hz => absurd hz (by decide)) (fun _ => ?_)
      refine r_aload_n g dX12_hire_14 rfl ?_
      refine r_iload_n g dX12_hire_15 rfl ?_
      refine r_iload_n g dX12_hire_16 rfl ?_
      refine r_iload_n g dX12_hire_17 rfl ?_
      refine r_iload g dX12_hire_18 rfl ?_
      obtain ⟨d1, Z1, hc1, hd1, h1⟩ := h
      refine r_callV (st := []) (As := [.int x1, .int x2, .int x3, .int x4]) g sX12_357 iX12_isAsked eX12_isAsked rfl hs_a0 rfl (Nat.le_of_ble_eq_true rfl) dX12_hire_20 hd1 (Nat.le_refl 0) (Nat.le_refl 0) hc1 (fun r9 μ10 hZ1 => ?_)
      replace h := h1 _ _ hZ1
      clear h1 hc1 hd1 hZ1 Z1 d1
      obtain ⟨y11, rfl, h⟩ := h
      refine r_if_ne g 28 dX12_hire_23 (by decide) (fun c12 => ?_) (fun c12 => ?_)
      · replace h := h.1 c12
        refine r_aload_n g dX12_hire_28 rfl ?_
        obtain ⟨hs_a0_, h⟩ := h
        obtain ⟨now_13, hr_now_13, h⟩ := h
        refine r_getR g fX12_57 rfl hs_a0_ hr_now_13 dX12_hire_29 ?_
        refine r_iconst g 0 dX12_hire_32 (by decide) ?_
        refine r_aload_n g dX12_hire_33 rfl ?_
        obtain ⟨trial_14, hr_trial_14, h⟩ := h
        refine r_getR g fX12_60 rfl hs_a0_ hr_trial_14 dX12_hire_34 ?_
        refine r_iconst g 0 dX12_hire_37 (by decide) ?_
        obtain ⟨d1, Z1, hc1, hd1, h1⟩ := h
        refine r_callS (st := []) (As := [.ref now_13, .int 0, .ref trial_14, .int 0]) g sX12_408 iX12_copyRow rfl (Nat.le_of_ble_eq_true rfl) dX12_hire_38 hd1 (Nat.le_refl 0) (Nat.le_refl 0) hc1 (fun r15 μ16 hZ1 => ?_)
        replace h := h1 _ _ hZ1
        clear h1 hc1 hd1 hZ1 Z1 d1
        obtain ⟨rfl, h⟩ := h
        refine r_iconst g (-1) dX12_hire_41 (by decide) ?_
        refine r_istore g [(6, .int (-1)), (0, .ref a0), (1, .int x1), (2, .int x2), (3, .int x3), (4, .int x4), (5, .int x5)] dX12_hire_42 (by decide) rfl ?_
        refine r_iconst g 0 dX12_hire_44 (by decide) ?_
        refine r_istore g [(7, .int 0), (6, .int (-1)), (0, .ref a0), (1, .int x1), (2, .int x2), (3, .int x3), (4, .int x4), (5, .int x5)] dX12_hire_45 (by decide) rfl ?_
        refine r_iconst g 0 dX12_hire_47 (by decide) ?_
        refine r_istore g [(8, .int 0), (7, .int 0), (6, .int (-1)), (0, .ref a0), (1, .int x1), (2, .int x2), (3, .int x3), (4, .int x4), (5, .int x5)] dX12_hire_48 (by decide) rfl ?_
        refine r_sub g (lv' := [(0, .ref a0), (1, .int x1), (2, .int x2), (3, .int x3), (4, .int x4), (5, .int x5), (6, .int (-1)), (7, .int 0), (8, .int 0)]) (⟨rfl, rfl, rfl, rfl, rfl, rfl, rfl, rfl, rfl, trivial⟩) ?_
        exact h
      · replace h := h.2 c12
        refine r_iconst g (-1) dX12_hire_26 (by decide) ?_
        exact hr.2.1 _ rfl _ _ _ _ _ _ dX12_hire_27 rfl (Nat.le_refl 0) (Nat.le_refl 0) h
set_option maxHeartbeats 4000000 in
set_option maxRecDepth 100000 in
theorem B_X12_hire_50 {d : Nat} {ro : Nat → Nat} {J : JT} {Z : Option Value → Hp → Prop} (g : xCtx RX12 cX12_hire 9 d 0 0 yX12_hire.name ro J) (hr : xRet cX12_hire (some .int) 0 0 Z J) {μ : Hp} {a0 : Nat} {x1 : Int32} {x2 : Int32} {x3 : Int32} {x4 : Int32} {x5 : Int32} {x6 : Int32} {x7 : Int32} {x8 : Int32} {a0_trial : Nat} {N_a0_trial : Nat} (hs_a0 : hS μ a0 = some (15, 65)) (hr_a0_trial : hR μ a0 31 = some a0_trial) (hs_a0_trial : hS μ a0_trial = some (0, N_a0_trial))
    (h : ((99 < x8 → Z (some (.int x6)) μ) ∧ (¬ 99 < x8 → vp_in (8 + x5) N_a0_trial ∧ xCall d yX12_searches cX12_searches 8 (some .boolean) [.ref a0, .ref a0_trial, .int x1, .int x2, .int x3, .int x4, .int 0] (wI μ a0_trial ((8 + x5).toNatClampNeg) x8) ro (fun r3 μ4 => ∃ y5 : Int32, r3 = some (.int y5) ∧ ((y5 = 0 → J μ4 0 0 50 [(0, .ref a0), (1, .int x1), (2, .int x2), (3, .int x3), (4, .int x4), (5, .int x5), (6, .int x6), (7, .int x7), (8, .int (x8 + 1))] []) ∧ (¬ y5 = 0 → ((x6 = (-1) → hS μ4 a0 = some (15, 65) ∧ J μ4 0 0 50 [(0, .ref a0), (1, .int x1), (2, .int x2), (3, .int x3), (4, .int x4), (5, .int x5), (6, .int x8), (7, .int (hI μ4 a0 51)), (8, .int (x8 + 1))] []) ∧ (¬ x6 = (-1) → hS μ4 a0 = some (15, 65) ∧ ((x7 < (hI μ4 a0 51) → J μ4 0 0 50 [(0, .ref a0), (1, .int x1), (2, .int x2), (3, .int x3), (4, .int x4), (5, .int x5), (6, .int x8), (7, .int (hI μ4 a0 51)), (8, .int (x8 + 1))] []) ∧ (¬ x7 < (hI μ4 a0 51) → J μ4 0 0 50 [(0, .ref a0), (1, .int x1), (2, .int x2), (3, .int x3), (4, .int x4), (5, .int x5), (6, .int x6), (7, .int x7), (8, .int (x8 + 1))] [])))))))))) :
    J μ 0 0 50 [(0, .ref a0), (1, .int x1), (2, .int x2), (3, .int x3), (4, .int x4), (5, .int x5), (6, .int x6), (7, .int x7), (8, .int x8)] [] := by
  refine r_iload g dX12_hire_50 rfl ?_
  refine r_bipush g 99 dX12_hire_52 (by decide) ?_
  refine r_icmp_gt g 120 dX12_hire_54 (by decide) (fun c1 => ?_) (fun c1 => ?_)
  · replace h := h.1 c1
    refine r_iload g dX12_hire_120 rfl ?_
    exact hr.2.1 _ rfl _ _ _ _ _ _ dX12_hire_122 rfl (Nat.le_refl 0) (Nat.le_refl 0) h
  · replace h := h.2 c1
    refine r_aload_n g dX12_hire_57 rfl ?_
    refine r_getR g fX12_60 rfl hs_a0 hr_a0_trial dX12_hire_58 ?_
    refine r_bipush g 8 dX12_hire_61 (by decide) ?_
    refine r_iload g dX12_hire_63 rfl ?_
    refine r_iadd g dX12_hire_65 ?_
    refine r_iload g dX12_hire_66 rfl ?_
    obtain ⟨hi2, h⟩ := h
    refine r_iastore g hs_a0_trial hi2 dX12_hire_68 ?_
    refine r_aload_n g dX12_hire_69 rfl ?_
    refine r_aload_n g dX12_hire_70 rfl ?_
    refine r_getR g fX12_60 rfl hs_a0 hr_a0_trial dX12_hire_71 ?_
    refine r_iload_n g dX12_hire_74 rfl ?_
    refine r_iload_n g dX12_hire_75 rfl ?_
    refine r_iload_n g dX12_hire_76 rfl ?_
    refine r_iload g dX12_hire_77 rfl ?_
    refine r_iconst g 0 dX12_hire_79 (by decide) ?_
    obtain ⟨d1, Z1, hc1, hd1, h1⟩ := h
    refine r_callV (st := []) (As := [.ref a0_trial, .int x1, .int x2, .int x3, .int x4, .int 0]) g sX12_361 iX12_searches eX12_searches rfl hs_a0 rfl (Nat.le_of_ble_eq_true rfl) dX12_hire_80 hd1 (Nat.le_refl 0) (Nat.le_refl 0) hc1 (fun r3 μ4 hZ1 => ?_)
    replace h := h1 _ _ hZ1
    clear h1 hc1 hd1 hZ1 Z1 d1
    obtain ⟨y5, rfl, h⟩ := h
    refine r_if_eq g 114 dX12_hire_83 (by decide) (fun c6 => ?_) (fun c6 => ?_)
    · replace h := h.1 c6
      refine r_iinc g (x8 + 1) [(8, .int (x8 + 1)), (0, .ref a0), (1, .int x1), (2, .int x2), (3, .int x3), (4, .int x4), (5, .int x5), (6, .int x6), (7, .int x7)] dX12_hire_114 rfl rfl (by decide) rfl ?_
      refine r_goto g 50 dX12_hire_117 (by decide) ?_
      refine r_sub g (lv' := [(0, .ref a0), (1, .int x1), (2, .int x2), (3, .int x3), (4, .int x4), (5, .int x5), (6, .int x6), (7, .int x7), (8, .int (x8 + 1))]) (⟨rfl, rfl, rfl, rfl, rfl, rfl, rfl, rfl, rfl, trivial⟩) ?_
      exact h
    · replace h := h.2 c6
      refine r_iload g dX12_hire_86 rfl ?_
      refine r_iconst g (-1) dX12_hire_88 (by decide) ?_
      refine r_icmp_eq g 104 dX12_hire_89 (by decide) (fun c7 => ?_) (fun c7 => ?_)
      · replace h := h.1 c7
        refine r_iload g dX12_hire_104 rfl ?_
        refine r_istore g [(6, .int x8), (0, .ref a0), (1, .int x1), (2, .int x2), (3, .int x3), (4, .int x4), (5, .int x5), (7, .int x7), (8, .int x8)] dX12_hire_106 (by decide) rfl ?_
        refine r_aload_n g dX12_hire_108 rfl ?_
        obtain ⟨hs_a0_, h⟩ := h
        refine r_getI g fX12_321 rfl hs_a0_ dX12_hire_109 ?_
        refine r_istore g [(7, .int (hI μ4 a0 51)), (6, .int x8), (0, .ref a0), (1, .int x1), (2, .int x2), (3, .int x3), (4, .int x4), (5, .int x5), (8, .int x8)] dX12_hire_112 (by decide) rfl ?_
        refine r_iinc g (x8 + 1) [(8, .int (x8 + 1)), (7, .int (hI μ4 a0 51)), (6, .int x8), (0, .ref a0), (1, .int x1), (2, .int x2), (3, .int x3), (4, .int x4), (5, .int x5)] dX12_hire_114 rfl rfl (by decide) rfl ?_
        refine r_goto g 50 dX12_hire_117 (by decide) ?_
        refine r_sub g (lv' := [(0, .ref a0), (1, .int x1), (2, .int x2), (3, .int x3), (4, .int x4), (5, .int x5), (6, .int x8), (7, .int (hI μ4 a0 51)), (8, .int (x8 + 1))]) (⟨rfl, rfl, rfl, rfl, rfl, rfl, rfl, rfl, rfl, trivial⟩) ?_
        exact h
      · replace h := h.2 c7
        refine r_aload_n g dX12_hire_92 rfl ?_
        obtain ⟨hs_a0__, h⟩ := h
        refine r_getI g fX12_321 rfl hs_a0__ dX12_hire_93 ?_
        refine r_iload g dX12_hire_96 rfl ?_
        refine r_icmp_gt g 104 dX12_hire_98 (by decide) (fun c8 => ?_) (fun c8 => ?_)
        · replace h := h.1 c8
          refine r_iload g dX12_hire_104 rfl ?_
          refine r_istore g [(6, .int x8), (0, .ref a0), (1, .int x1), (2, .int x2), (3, .int x3), (4, .int x4), (5, .int x5), (7, .int x7), (8, .int x8)] dX12_hire_106 (by decide) rfl ?_
          refine r_aload_n g dX12_hire_108 rfl ?_
          refine r_getI g fX12_321 rfl hs_a0__ dX12_hire_109 ?_
          refine r_istore g [(7, .int (hI μ4 a0 51)), (6, .int x8), (0, .ref a0), (1, .int x1), (2, .int x2), (3, .int x3), (4, .int x4), (5, .int x5), (8, .int x8)] dX12_hire_112 (by decide) rfl ?_
          refine r_iinc g (x8 + 1) [(8, .int (x8 + 1)), (7, .int (hI μ4 a0 51)), (6, .int x8), (0, .ref a0), (1, .int x1), (2, .int x2), (3, .int x3), (4, .int x4), (5, .int x5)] dX12_hire_114 rfl rfl (by decide) rfl ?_
          refine r_goto g 50 dX12_hire_117 (by decide) ?_
          refine r_sub g (lv' := [(0, .ref a0), (1, .int x1), (2, .int x2), (3, .int x3), (4, .int x4), (5, .int x5), (6, .int x8), (7, .int (hI μ4 a0 51)), (8, .int (x8 + 1))]) (⟨rfl, rfl, rfl, rfl, rfl, rfl, rfl, rfl, rfl, trivial⟩) ?_
          exact h
        · replace h := h.2 c8
          refine r_goto g 114 dX12_hire_101 (by decide) ?_
          refine r_iinc g (x8 + 1) [(8, .int (x8 + 1)), (0, .ref a0), (1, .int x1), (2, .int x2), (3, .int x3), (4, .int x4), (5, .int x5), (6, .int x6), (7, .int x7)] dX12_hire_114 rfl rfl (by decide) rfl ?_
          refine r_goto g 50 dX12_hire_117 (by decide) ?_
          refine r_sub g (lv' := [(0, .ref a0), (1, .int x1), (2, .int x2), (3, .int x3), (4, .int x4), (5, .int x5), (6, .int x6), (7, .int x7), (8, .int (x8 + 1))]) (⟨rfl, rfl, rfl, rfl, rfl, rfl, rfl, rfl, rfl, trivial⟩) ?_
          exact h
theorem I_X12_hire {d : Nat} {ro : Nat → Nat} {Z : Option Value → Hp → Prop} {μ : Hp} {a0 : Nat} {x1 : Int32} {x2 : Int32} {x3 : Int32} {x4 : Int32} {x5 : Int32} (h : ∀ J, xCtx RX12 cX12_hire 9 d 0 0 yX12_hire.name ro J → xRet cX12_hire (some .int) 0 0 Z J → J μ 0 0 0 [(0, .ref a0), (1, .int x1), (2, .int x2), (3, .int x3), (4, .int x4), (5, .int x5)] []) : xC d yX12_hire cX12_hire 9 (some .int) 0 0 [.ref a0, .int x1, .int x2, .int x3, .int x4, .int x5] μ ro Z :=
  xC_intro (own := RX12) (lv := [(0, .ref a0), (1, .int x1), (2, .int x2), (3, .int x3), (4, .int x4), (5, .int x5)]) (by decide) rfl (Nat.le_of_ble_eq_true rfl) rfl (fun J g hr => r_sub g (lv' := [(0, .ref a0), (1, .int x1), (2, .int x2), (3, .int x3), (4, .int x4), (5, .int x5)]) (⟨rfl, rfl, rfl, rfl, rfl, rfl, trivial⟩) (h J g hr))
theorem dX12_withoutOne_0 : decode cX12_withoutOne 0 = .ok (.aload_n 0, 1) := by decide +kernel
theorem dX12_withoutOne_1 : decode cX12_withoutOne 1 = .ok (.iload 5, 2) := by decide +kernel
theorem dX12_withoutOne_3 : decode cX12_withoutOne 3 = .ok (.putfield 76, 3) := by decide +kernel
theorem dX12_withoutOne_6 : decode cX12_withoutOne 6 = .ok (.aload_n 0, 1) := by decide +kernel
theorem dX12_withoutOne_7 : decode cX12_withoutOne 7 = .ok (.aload_n 0, 1) := by decide +kernel
theorem dX12_withoutOne_8 : decode cX12_withoutOne 8 = .ok (.getfield 57, 3) := by decide +kernel
theorem dX12_withoutOne_11 : decode cX12_withoutOne 11 = .ok (.iload_n 1, 1) := by decide +kernel
theorem dX12_withoutOne_12 : decode cX12_withoutOne 12 = .ok (.iload_n 2, 1) := by decide +kernel
theorem dX12_withoutOne_13 : decode cX12_withoutOne 13 = .ok (.iload_n 3, 1) := by decide +kernel
theorem dX12_withoutOne_14 : decode cX12_withoutOne 14 = .ok (.iload 4, 2) := by decide +kernel
theorem dX12_withoutOne_16 : decode cX12_withoutOne 16 = .ok (.iconst 0, 1) := by decide +kernel
theorem dX12_withoutOne_17 : decode cX12_withoutOne 17 = .ok (.invokevirtual 361, 3) := by decide +kernel
theorem dX12_withoutOne_20 : decode cX12_withoutOne 20 = .ok (.ifCond .eq 10, 3) := by decide +kernel
theorem dX12_withoutOne_23 : decode cX12_withoutOne 23 = .ok (.aload_n 0, 1) := by decide +kernel
theorem dX12_withoutOne_24 : decode cX12_withoutOne 24 = .ok (.getfield 321, 3) := by decide +kernel
theorem dX12_withoutOne_27 : decode cX12_withoutOne 27 = .ok (.goto 4, 3) := by decide +kernel
theorem dX12_withoutOne_30 : decode cX12_withoutOne 30 = .ok (.iconst (-1), 1) := by decide +kernel
theorem dX12_withoutOne_31 : decode cX12_withoutOne 31 = .ok (.istore 6, 2) := by decide +kernel
theorem dX12_withoutOne_33 : decode cX12_withoutOne 33 = .ok (.aload_n 0, 1) := by decide +kernel
theorem dX12_withoutOne_34 : decode cX12_withoutOne 34 = .ok (.iconst (-1), 1) := by decide +kernel
theorem dX12_withoutOne_35 : decode cX12_withoutOne 35 = .ok (.putfield 76, 3) := by decide +kernel
theorem dX12_withoutOne_38 : decode cX12_withoutOne 38 = .ok (.iload 6, 2) := by decide +kernel
theorem dX12_withoutOne_40 : decode cX12_withoutOne 40 = .ok (.ireturn, 1) := by decide +kernel
set_option maxHeartbeats 4000000 in
set_option maxRecDepth 100000 in
theorem B_X12_withoutOne_0 {d : Nat} {ro : Nat → Nat} {J : JT} {Z : Option Value → Hp → Prop} (g : xCtx RX12 cX12_withoutOne 7 d 0 0 yX12_withoutOne.name ro J) (hr : xRet cX12_withoutOne (some .int) 0 0 Z J) {μ : Hp} {a0 : Nat} {x1 : Int32} {x2 : Int32} {x3 : Int32} {x4 : Int32} {x5 : Int32} {a0_now : Nat} (hs_a0 : hS μ a0 = some (15, 65)) (hr_a0_now : hR μ a0 30 = some a0_now)
    (h : xCall d yX12_searches cX12_searches 8 (some .boolean) [.ref a0, .ref a0_now, .int x1, .int x2, .int x3, .int x4, .int 0] (wI μ a0 40 x5) ro (fun r1 μ2 => ∃ y3 : Int32, r1 = some (.int y3) ∧ ((y3 = 0 → hS μ2 a0 = some (15, 65) ∧ Z (some (.int (-1))) (wI μ2 a0 40 (-1))) ∧ (¬ y3 = 0 → hS μ2 a0 = some (15, 65) ∧ Z (some (.int (hI μ2 a0 51))) (wI μ2 a0 40 (-1)))))) :
    J μ 0 0 0 [(0, .ref a0), (1, .int x1), (2, .int x2), (3, .int x3), (4, .int x4), (5, .int x5)] [] := by
  refine r_aload_n g dX12_withoutOne_0 rfl ?_
  refine r_iload g dX12_withoutOne_1 rfl ?_
  refine r_putI g fX12_76 rfl hs_a0 rfl rfl dX12_withoutOne_3 ?_
  refine r_aload_n g dX12_withoutOne_6 rfl ?_
  refine r_aload_n g dX12_withoutOne_7 rfl ?_
  refine r_getR g fX12_57 rfl hs_a0 hr_a0_now dX12_withoutOne_8 ?_
  refine r_iload_n g dX12_withoutOne_11 rfl ?_
  refine r_iload_n g dX12_withoutOne_12 rfl ?_
  refine r_iload_n g dX12_withoutOne_13 rfl ?_
  refine r_iload g dX12_withoutOne_14 rfl ?_
  refine r_iconst g 0 dX12_withoutOne_16 (by decide) ?_
  obtain ⟨d1, Z1, hc1, hd1, h1⟩ := h
  refine r_callV (st := []) (As := [.ref a0_now, .int x1, .int x2, .int x3, .int x4, .int 0]) g sX12_361 iX12_searches eX12_searches rfl hs_a0 rfl (Nat.le_of_ble_eq_true rfl) dX12_withoutOne_17 hd1 (Nat.le_refl 0) (Nat.le_refl 0) hc1 (fun r1 μ2 hZ1 => ?_)
  replace h := h1 _ _ hZ1
  clear h1 hc1 hd1 hZ1 Z1 d1
  obtain ⟨y3, rfl, h⟩ := h
  refine r_if_eq g 30 dX12_withoutOne_20 (by decide) (fun c4 => ?_) (fun c4 => ?_)
  · replace h := h.1 c4
    refine r_iconst g (-1) dX12_withoutOne_30 (by decide) ?_
    refine r_istore g [(6, .int (-1)), (0, .ref a0), (1, .int x1), (2, .int x2), (3, .int x3), (4, .int x4), (5, .int x5)] dX12_withoutOne_31 (by decide) rfl ?_
    refine r_aload_n g dX12_withoutOne_33 rfl ?_
    refine r_iconst g (-1) dX12_withoutOne_34 (by decide) ?_
    obtain ⟨hs_a0_, h⟩ := h
    refine r_putI g fX12_76 rfl hs_a0_ rfl rfl dX12_withoutOne_35 ?_
    refine r_iload g dX12_withoutOne_38 rfl ?_
    exact hr.2.1 _ rfl _ _ _ _ _ _ dX12_withoutOne_40 rfl (Nat.le_refl 0) (Nat.le_refl 0) h
  · replace h := h.2 c4
    refine r_aload_n g dX12_withoutOne_23 rfl ?_
    obtain ⟨hs_a0__, h⟩ := h
    refine r_getI g fX12_321 rfl hs_a0__ dX12_withoutOne_24 ?_
    refine r_goto g 31 dX12_withoutOne_27 (by decide) ?_
    refine r_istore g [(6, .int (hI μ2 a0 51)), (0, .ref a0), (1, .int x1), (2, .int x2), (3, .int x3), (4, .int x4), (5, .int x5)] dX12_withoutOne_31 (by decide) rfl ?_
    refine r_aload_n g dX12_withoutOne_33 rfl ?_
    refine r_iconst g (-1) dX12_withoutOne_34 (by decide) ?_
    refine r_putI g fX12_76 rfl hs_a0__ rfl rfl dX12_withoutOne_35 ?_
    refine r_iload g dX12_withoutOne_38 rfl ?_
    exact hr.2.1 _ rfl _ _ _ _ _ _ dX12_withoutOne_40 rfl (Nat.le_refl 0) (Nat.le_refl 0) h
theorem I_X12_withoutOne {d : Nat} {ro : Nat → Nat} {Z : Option Value → Hp → Prop} {μ : Hp} {a0 : Nat} {x1 : Int32} {x2 : Int32} {x3 : Int32} {x4 : Int32} {x5 : Int32} (h : ∀ J, xCtx RX12 cX12_withoutOne 7 d 0 0 yX12_withoutOne.name ro J → xRet cX12_withoutOne (some .int) 0 0 Z J → J μ 0 0 0 [(0, .ref a0), (1, .int x1), (2, .int x2), (3, .int x3), (4, .int x4), (5, .int x5)] []) : xC d yX12_withoutOne cX12_withoutOne 7 (some .int) 0 0 [.ref a0, .int x1, .int x2, .int x3, .int x4, .int x5] μ ro Z :=
  xC_intro (own := RX12) (lv := [(0, .ref a0), (1, .int x1), (2, .int x2), (3, .int x3), (4, .int x4), (5, .int x5)]) (by decide) rfl (Nat.le_of_ble_eq_true rfl) rfl (fun J g hr => r_sub g (lv' := [(0, .ref a0), (1, .int x1), (2, .int x2), (3, .int x3), (4, .int x4), (5, .int x5)]) (⟨rfl, rfl, rfl, rfl, rfl, rfl, trivial⟩) (h J g hr))
theorem dX12_without_0 : decode cX12_without 0 = .ok (.aload_n 0, 1) := by decide +kernel
theorem dX12_without_1 : decode cX12_without 1 = .ok (.iconst 0, 1) := by decide +kernel
theorem dX12_without_2 : decode cX12_without 2 = .ok (.putfield 106, 3) := by decide +kernel
theorem dX12_without_5 : decode cX12_without 5 = .ok (.aload_n 0, 1) := by decide +kernel
theorem dX12_without_6 : decode cX12_without 6 = .ok (.iload 5, 2) := by decide +kernel
theorem dX12_without_8 : decode cX12_without 8 = .ok (.invokevirtual 351, 3) := by decide +kernel
theorem dX12_without_11 : decode cX12_without 11 = .ok (.ifCond .eq 27, 3) := by decide +kernel
theorem dX12_without_14 : decode cX12_without 14 = .ok (.iload 5, 2) := by decide +kernel
theorem dX12_without_16 : decode cX12_without 16 = .ok (.iload_n 2, 1) := by decide +kernel
theorem dX12_without_17 : decode cX12_without 17 = .ok (.if_icmp .eq 21, 3) := by decide +kernel
theorem dX12_without_20 : decode cX12_without 20 = .ok (.iload 5, 2) := by decide +kernel
theorem dX12_without_22 : decode cX12_without 22 = .ok (.iload_n 3, 1) := by decide +kernel
theorem dX12_without_23 : decode cX12_without 23 = .ok (.if_icmp .eq 15, 3) := by decide +kernel
theorem dX12_without_26 : decode cX12_without 26 = .ok (.aload_n 0, 1) := by decide +kernel
theorem dX12_without_27 : decode cX12_without 27 = .ok (.iload_n 1, 1) := by decide +kernel
theorem dX12_without_28 : decode cX12_without 28 = .ok (.iload_n 2, 1) := by decide +kernel
theorem dX12_without_29 : decode cX12_without 29 = .ok (.iload_n 3, 1) := by decide +kernel
theorem dX12_without_30 : decode cX12_without 30 = .ok (.iload 4, 2) := by decide +kernel
theorem dX12_without_32 : decode cX12_without 32 = .ok (.invokevirtual 357, 3) := by decide +kernel
theorem dX12_without_35 : decode cX12_without 35 = .ok (.ifCond .ne 5, 3) := by decide +kernel
theorem dX12_without_38 : decode cX12_without 38 = .ok (.iconst (-1), 1) := by decide +kernel
theorem dX12_without_39 : decode cX12_without 39 = .ok (.ireturn, 1) := by decide +kernel
theorem dX12_without_40 : decode cX12_without 40 = .ok (.aload_n 0, 1) := by decide +kernel
theorem dX12_without_41 : decode cX12_without 41 = .ok (.iload_n 1, 1) := by decide +kernel
theorem dX12_without_42 : decode cX12_without 42 = .ok (.iload_n 2, 1) := by decide +kernel
theorem dX12_without_43 : decode cX12_without 43 = .ok (.iload_n 3, 1) := by decide +kernel
theorem dX12_without_44 : decode cX12_without 44 = .ok (.iload 4, 2) := by decide +kernel
theorem dX12_without_46 : decode cX12_without 46 = .ok (.iload 5, 2) := by decide +kernel
theorem dX12_without_48 : decode cX12_without 48 = .ok (.invokevirtual 492, 3) := by decide +kernel
theorem dX12_without_51 : decode cX12_without 51 = .ok (.ireturn, 1) := by decide +kernel
set_option maxHeartbeats 4000000 in
set_option maxRecDepth 100000 in
theorem B_X12_without_0 {d : Nat} {ro : Nat → Nat} {J : JT} {Z : Option Value → Hp → Prop} (g : xCtx RX12 cX12_without 6 d 0 0 yX12_without.name ro J) (hr : xRet cX12_without (some .int) 0 0 Z J) {μ : Hp} {a0 : Nat} {x1 : Int32} {x2 : Int32} {x3 : Int32} {x4 : Int32} {x5 : Int32} (hs_a0 : hS μ a0 = some (15, 65)) (hd9 : 1 ≤ d)
    (h : ((x5 < 0 → Z (some (.int (-1))) (wI μ a0 0 0)) ∧ (¬ x5 < 0 → (((hI (wI μ a0 0 0) a0 22) ≤ x5 → Z (some (.int (-1))) (wI μ a0 0 0)) ∧ (¬ (hI (wI μ a0 0 0) a0 22) ≤ x5 → ((x5 = x2 → Z (some (.int (-1))) (wI μ a0 0 0)) ∧ (¬ x5 = x2 → ((x5 = x3 → Z (some (.int (-1))) (wI μ a0 0 0)) ∧ (¬ x5 = x3 → xCall d yX12_isAsked cX12_isAsked 5 (some .boolean) [.ref a0, .int x1, .int x2, .int x3, .int x4] (wI μ a0 0 0) ro (fun r11 μ12 => ∃ y13 : Int32, r11 = some (.int y13) ∧ ((¬ y13 = 0 → hS μ12 a0 = some (15, 65) ∧ xCall d yX12_withoutOne cX12_withoutOne 7 (some .int) [.ref a0, .int x1, .int x2, .int x3, .int x4, .int x5] μ12 ro (fun r15 μ16 => ∃ y17 : Int32, r15 = some (.int y17) ∧ Z (some (.int y17)) μ16)) ∧ (y13 = 0 → Z (some (.int (-1))) μ12)))))))))))) :
    J μ 0 0 0 [(0, .ref a0), (1, .int x1), (2, .int x2), (3, .int x3), (4, .int x4), (5, .int x5)] [] := by
  refine r_aload_n g dX12_without_0 rfl ?_
  refine r_iconst g 0 dX12_without_1 (by decide) ?_
  refine r_putI g fX12_106 rfl hs_a0 rfl rfl dX12_without_2 ?_
  refine r_aload_n g dX12_without_5 rfl ?_
  refine r_iload g dX12_without_6 rfl ?_
  by_cases c1 : x5 < 0
  · replace h := h.1 c1
    refine r_callV (st := []) (As := [.int x5]) g sX12_351 iX12_isFirm eX12_isFirm rfl hs_a0 rfl (Nat.le_of_ble_eq_true rfl) dX12_without_8 (by omega) (Nat.le_refl 0) (Nat.le_refl 0) (P_X12_isFirm_0 (d := d - 1) hs_a0 c1) (fun r2 μ3 hZ1 => ?_)
    obtain ⟨rfl, e9⟩ := hZ1
    replace e9 := e9.symm
    subst e9
    refine r_if_eq g 38 dX12_without_11 (by decide) (fun _ => ?_) (fun hz => absurd hz (by decide))
    refine r_iconst g (-1) dX12_without_38 (by decide) ?_
    exact hr.2.1 _ rfl _ _ _ _ _ _ dX12_without_39 rfl (Nat.le_refl 0) (Nat.le_refl 0) h
  · replace h := h.2 c1
    by_cases c4 : (hI (wI μ a0 0 0) a0 22) ≤ x5
    · replace h := h.1 c4
      refine r_callV (st := []) (As := [.int x5]) g sX12_351 iX12_isFirm eX12_isFirm rfl hs_a0 rfl (Nat.le_of_ble_eq_true rfl) dX12_without_8 (by omega) (Nat.le_refl 0) (Nat.le_refl 0) (P_X12_isFirm_1 (d := d - 1) hs_a0 c1 c4) (fun r5 μ6 hZ1 => ?_)
      obtain ⟨rfl, e9⟩ := hZ1
      replace e9 := e9.symm
      subst e9
      refine r_if_eq g 38 dX12_without_11 (by decide) (fun _ => ?_) (fun hz => absurd hz (by decide))
      refine r_iconst g (-1) dX12_without_38 (by decide) ?_
      exact hr.2.1 _ rfl _ _ _ _ _ _ dX12_without_39 rfl (Nat.le_refl 0) (Nat.le_refl 0) h
    · replace h := h.2 c4
      refine r_callV (st := []) (As := [.int x5]) g sX12_351 iX12_isFirm eX12_isFirm rfl hs_a0 rfl (Nat.le_of_ble_eq_true rfl) dX12_without_8 (by omega) (Nat.le_refl 0) (Nat.le_refl 0) (P_X12_isFirm_2 (d := d - 1) hs_a0 c1 c4) (fun r7 μ8 hZ1 => ?_)
      obtain ⟨rfl, e9⟩ := hZ1
      replace e9 := e9.symm
      subst e9
      refine r_if_eq g 38 dX12_without_11 (by decide) (fun hz => absurd hz (by decide)) (fun _ => ?_)
      refine r_iload g dX12_without_14 rfl ?_
      refine r_iload_n g dX12_without_16 rfl ?_
      refine r_icmp_eq g 38 dX12_without_17 (by decide) (fun c9 => ?_) (fun c9 => ?_)
      · replace h := h.1 c9
        refine r_iconst g (-1) dX12_without_38 (by decide) ?_
        exact hr.2.1 _ rfl _ _ _ _ _ _ dX12_without_39 rfl (Nat.le_refl 0) (Nat.le_refl 0) h
      · replace h := h.2 c9
        refine r_iload g dX12_without_20 rfl ?_
        refine r_iload_n g dX12_without_22 rfl ?_
        refine r_icmp_eq g 38 dX12_without_23 (by decide) (fun c10 => ?_) (fun c10 => ?_)
        · replace h := h.1 c10
          refine r_iconst g (-1) dX12_without_38 (by decide) ?_
          exact hr.2.1 _ rfl _ _ _ _ _ _ dX12_without_39 rfl (Nat.le_refl 0) (Nat.le_refl 0) h
        · replace h := h.2 c10
          refine r_aload_n g dX12_without_26 rfl ?_
          refine r_iload_n g dX12_without_27 rfl ?_
          refine r_iload_n g dX12_without_28 rfl ?_
          refine r_iload_n g dX12_without_29 rfl ?_
          refine r_iload g dX12_without_30 rfl ?_
          obtain ⟨d1, Z1, hc1, hd1, h1⟩ := h
          refine r_callV (st := []) (As := [.int x1, .int x2, .int x3, .int x4]) g sX12_357 iX12_isAsked eX12_isAsked rfl hs_a0 rfl (Nat.le_of_ble_eq_true rfl) dX12_without_32 hd1 (Nat.le_refl 0) (Nat.le_refl 0) hc1 (fun r11 μ12 hZ1 => ?_)
          replace h := h1 _ _ hZ1
          clear h1 hc1 hd1 hZ1 Z1 d1
          obtain ⟨y13, rfl, h⟩ := h
          refine r_if_ne g 40 dX12_without_35 (by decide) (fun c14 => ?_) (fun c14 => ?_)
          · replace h := h.1 c14
            refine r_aload_n g dX12_without_40 rfl ?_
            refine r_iload_n g dX12_without_41 rfl ?_
            refine r_iload_n g dX12_without_42 rfl ?_
            refine r_iload_n g dX12_without_43 rfl ?_
            refine r_iload g dX12_without_44 rfl ?_
            refine r_iload g dX12_without_46 rfl ?_
            obtain ⟨hs_a0_, h⟩ := h
            obtain ⟨d1, Z1, hc1, hd1, h1⟩ := h
            refine r_callV (st := []) (As := [.int x1, .int x2, .int x3, .int x4, .int x5]) g sX12_492 iX12_withoutOne eX12_withoutOne rfl hs_a0_ rfl (Nat.le_of_ble_eq_true rfl) dX12_without_48 hd1 (Nat.le_refl 0) (Nat.le_refl 0) hc1 (fun r15 μ16 hZ1 => ?_)
            replace h := h1 _ _ hZ1
            clear h1 hc1 hd1 hZ1 Z1 d1
            obtain ⟨y17, rfl, h⟩ := h
            exact hr.2.1 _ rfl _ _ _ _ _ _ dX12_without_51 rfl (Nat.le_refl 0) (Nat.le_refl 0) h
          · replace h := h.2 c14
            refine r_iconst g (-1) dX12_without_38 (by decide) ?_
            exact hr.2.1 _ rfl _ _ _ _ _ _ dX12_without_39 rfl (Nat.le_refl 0) (Nat.le_refl 0) h
theorem I_X12_without {d : Nat} {ro : Nat → Nat} {Z : Option Value → Hp → Prop} {μ : Hp} {a0 : Nat} {x1 : Int32} {x2 : Int32} {x3 : Int32} {x4 : Int32} {x5 : Int32} (h : ∀ J, xCtx RX12 cX12_without 6 d 0 0 yX12_without.name ro J → xRet cX12_without (some .int) 0 0 Z J → J μ 0 0 0 [(0, .ref a0), (1, .int x1), (2, .int x2), (3, .int x3), (4, .int x4), (5, .int x5)] []) : xC d yX12_without cX12_without 6 (some .int) 0 0 [.ref a0, .int x1, .int x2, .int x3, .int x4, .int x5] μ ro Z :=
  xC_intro (own := RX12) (lv := [(0, .ref a0), (1, .int x1), (2, .int x2), (3, .int x3), (4, .int x4), (5, .int x5)]) (by decide) rfl (Nat.le_of_ble_eq_true rfl) rfl (fun J g hr => r_sub g (lv' := [(0, .ref a0), (1, .int x1), (2, .int x2), (3, .int x3), (4, .int x4), (5, .int x5)]) (⟨rfl, rfl, rfl, rfl, rfl, rfl, trivial⟩) (h J g hr))
theorem dX12_key_0 : decode cX12_key 0 = .ok (.aload_n 0, 1) := by decide +kernel
theorem dX12_key_1 : decode cX12_key 1 = .ok (.iconst 0, 1) := by decide +kernel
theorem dX12_key_2 : decode cX12_key 2 = .ok (.putfield 106, 3) := by decide +kernel
theorem dX12_key_5 : decode cX12_key 5 = .ok (.aload_n 0, 1) := by decide +kernel
theorem dX12_key_6 : decode cX12_key 6 = .ok (.iload_n 1, 1) := by decide +kernel
theorem dX12_key_7 : decode cX12_key 7 = .ok (.iload_n 2, 1) := by decide +kernel
theorem dX12_key_8 : decode cX12_key 8 = .ok (.iload_n 3, 1) := by decide +kernel
theorem dX12_key_9 : decode cX12_key 9 = .ok (.iload 4, 2) := by decide +kernel
theorem dX12_key_11 : decode cX12_key 11 = .ok (.invokevirtual 470, 3) := by decide +kernel
theorem dX12_key_14 : decode cX12_key 14 = .ok (.ifCond .ne 5, 3) := by decide +kernel
theorem dX12_key_17 : decode cX12_key 17 = .ok (.iconst (-1), 1) := by decide +kernel
theorem dX12_key_18 : decode cX12_key 18 = .ok (.ireturn, 1) := by decide +kernel
theorem dX12_key_19 : decode cX12_key 19 = .ok (.iconst (-1), 1) := by decide +kernel
theorem dX12_key_20 : decode cX12_key 20 = .ok (.istore 5, 2) := by decide +kernel
theorem dX12_key_22 : decode cX12_key 22 = .ok (.iconst 0, 1) := by decide +kernel
theorem dX12_key_23 : decode cX12_key 23 = .ok (.istore 6, 2) := by decide +kernel
theorem dX12_key_25 : decode cX12_key 25 = .ok (.iconst 0, 1) := by decide +kernel
theorem dX12_key_26 : decode cX12_key 26 = .ok (.istore 7, 2) := by decide +kernel
theorem dX12_key_28 : decode cX12_key 28 = .ok (.iload 7, 2) := by decide +kernel
theorem dX12_key_30 : decode cX12_key 30 = .ok (.aload_n 0, 1) := by decide +kernel
theorem dX12_key_31 : decode cX12_key 31 = .ok (.getfield 245, 3) := by decide +kernel
theorem dX12_key_34 : decode cX12_key 34 = .ok (.if_icmp .ge 61, 3) := by decide +kernel
theorem dX12_key_37 : decode cX12_key 37 = .ok (.iload 7, 2) := by decide +kernel
theorem dX12_key_39 : decode cX12_key 39 = .ok (.iload_n 2, 1) := by decide +kernel
theorem dX12_key_40 : decode cX12_key 40 = .ok (.if_icmp .eq 49, 3) := by decide +kernel
theorem dX12_key_43 : decode cX12_key 43 = .ok (.iload 7, 2) := by decide +kernel
theorem dX12_key_45 : decode cX12_key 45 = .ok (.iload_n 3, 1) := by decide +kernel
theorem dX12_key_46 : decode cX12_key 46 = .ok (.if_icmp .ne 6, 3) := by decide +kernel
theorem dX12_key_49 : decode cX12_key 49 = .ok (.goto 40, 3) := by decide +kernel
theorem dX12_key_52 : decode cX12_key 52 = .ok (.aload_n 0, 1) := by decide +kernel
theorem dX12_key_53 : decode cX12_key 53 = .ok (.iload_n 1, 1) := by decide +kernel
theorem dX12_key_54 : decode cX12_key 54 = .ok (.iload_n 2, 1) := by decide +kernel
theorem dX12_key_55 : decode cX12_key 55 = .ok (.iload_n 3, 1) := by decide +kernel
theorem dX12_key_56 : decode cX12_key 56 = .ok (.iload 4, 2) := by decide +kernel
theorem dX12_key_58 : decode cX12_key 58 = .ok (.iload 7, 2) := by decide +kernel
theorem dX12_key_60 : decode cX12_key 60 = .ok (.invokevirtual 492, 3) := by decide +kernel
theorem dX12_key_63 : decode cX12_key 63 = .ok (.istore 8, 2) := by decide +kernel
theorem dX12_key_65 : decode cX12_key 65 = .ok (.iload 5, 2) := by decide +kernel
theorem dX12_key_67 : decode cX12_key 67 = .ok (.iconst (-1), 1) := by decide +kernel
theorem dX12_key_68 : decode cX12_key 68 = .ok (.if_icmp .eq 13, 3) := by decide +kernel
theorem dX12_key_71 : decode cX12_key 71 = .ok (.iload 8, 2) := by decide +kernel
theorem dX12_key_73 : decode cX12_key 73 = .ok (.iload 6, 2) := by decide +kernel
theorem dX12_key_75 : decode cX12_key 75 = .ok (.if_icmp .lt 6, 3) := by decide +kernel
theorem dX12_key_78 : decode cX12_key 78 = .ok (.goto 11, 3) := by decide +kernel
theorem dX12_key_81 : decode cX12_key 81 = .ok (.iload 7, 2) := by decide +kernel
theorem dX12_key_83 : decode cX12_key 83 = .ok (.istore 5, 2) := by decide +kernel
theorem dX12_key_85 : decode cX12_key 85 = .ok (.iload 8, 2) := by decide +kernel
theorem dX12_key_87 : decode cX12_key 87 = .ok (.istore 6, 2) := by decide +kernel
theorem dX12_key_89 : decode cX12_key 89 = .ok (.iinc 7 1, 3) := by decide +kernel
theorem dX12_key_92 : decode cX12_key 92 = .ok (.goto (-64), 3) := by decide +kernel
theorem dX12_key_95 : decode cX12_key 95 = .ok (.iload 5, 2) := by decide +kernel
theorem dX12_key_97 : decode cX12_key 97 = .ok (.ireturn, 1) := by decide +kernel
set_option maxHeartbeats 4000000 in
set_option maxRecDepth 100000 in
theorem B_X12_key_0 {d : Nat} {ro : Nat → Nat} {J : JT} {Z : Option Value → Hp → Prop} (g : xCtx RX12 cX12_key 9 d 0 0 yX12_key.name ro J) (hr : xRet cX12_key (some .int) 0 0 Z J) {μ : Hp} {a0 : Nat} {x1 : Int32} {x2 : Int32} {x3 : Int32} {x4 : Int32} (hs_a0 : hS μ a0 = some (15, 65))
    (h : xCall d yX12_finds cX12_finds 5 (some .boolean) [.ref a0, .int x1, .int x2, .int x3, .int x4] (wI μ a0 0 0) ro (fun r1 μ2 => ∃ y3 : Int32, r1 = some (.int y3) ∧ ((¬ y3 = 0 → J μ2 0 0 28 [(0, .ref a0), (1, .int x1), (2, .int x2), (3, .int x3), (4, .int x4), (5, .int (-1)), (6, .int 0), (7, .int 0)] []) ∧ (y3 = 0 → Z (some (.int (-1))) μ2)))) :
    J μ 0 0 0 [(0, .ref a0), (1, .int x1), (2, .int x2), (3, .int x3), (4, .int x4)] [] := by
  refine r_aload_n g dX12_key_0 rfl ?_
  refine r_iconst g 0 dX12_key_1 (by decide) ?_
  refine r_putI g fX12_106 rfl hs_a0 rfl rfl dX12_key_2 ?_
  refine r_aload_n g dX12_key_5 rfl ?_
  refine r_iload_n g dX12_key_6 rfl ?_
  refine r_iload_n g dX12_key_7 rfl ?_
  refine r_iload_n g dX12_key_8 rfl ?_
  refine r_iload g dX12_key_9 rfl ?_
  obtain ⟨d1, Z1, hc1, hd1, h1⟩ := h
  refine r_callV (st := []) (As := [.int x1, .int x2, .int x3, .int x4]) g sX12_470 iX12_finds eX12_finds rfl hs_a0 rfl (Nat.le_of_ble_eq_true rfl) dX12_key_11 hd1 (Nat.le_refl 0) (Nat.le_refl 0) hc1 (fun r1 μ2 hZ1 => ?_)
  replace h := h1 _ _ hZ1
  clear h1 hc1 hd1 hZ1 Z1 d1
  obtain ⟨y3, rfl, h⟩ := h
  refine r_if_ne g 19 dX12_key_14 (by decide) (fun c4 => ?_) (fun c4 => ?_)
  · replace h := h.1 c4
    refine r_iconst g (-1) dX12_key_19 (by decide) ?_
    refine r_istore g [(5, .int (-1)), (0, .ref a0), (1, .int x1), (2, .int x2), (3, .int x3), (4, .int x4)] dX12_key_20 (by decide) rfl ?_
    refine r_iconst g 0 dX12_key_22 (by decide) ?_
    refine r_istore g [(6, .int 0), (5, .int (-1)), (0, .ref a0), (1, .int x1), (2, .int x2), (3, .int x3), (4, .int x4)] dX12_key_23 (by decide) rfl ?_
    refine r_iconst g 0 dX12_key_25 (by decide) ?_
    refine r_istore g [(7, .int 0), (6, .int 0), (5, .int (-1)), (0, .ref a0), (1, .int x1), (2, .int x2), (3, .int x3), (4, .int x4)] dX12_key_26 (by decide) rfl ?_
    refine r_sub g (lv' := [(0, .ref a0), (1, .int x1), (2, .int x2), (3, .int x3), (4, .int x4), (5, .int (-1)), (6, .int 0), (7, .int 0)]) (⟨rfl, rfl, rfl, rfl, rfl, rfl, rfl, rfl, trivial⟩) ?_
    exact h
  · replace h := h.2 c4
    refine r_iconst g (-1) dX12_key_17 (by decide) ?_
    exact hr.2.1 _ rfl _ _ _ _ _ _ dX12_key_18 rfl (Nat.le_refl 0) (Nat.le_refl 0) h
set_option maxHeartbeats 4000000 in
set_option maxRecDepth 100000 in
theorem B_X12_key_28 {d : Nat} {ro : Nat → Nat} {J : JT} {Z : Option Value → Hp → Prop} (g : xCtx RX12 cX12_key 9 d 0 0 yX12_key.name ro J) (hr : xRet cX12_key (some .int) 0 0 Z J) {μ : Hp} {a0 : Nat} {x1 : Int32} {x2 : Int32} {x3 : Int32} {x4 : Int32} {x5 : Int32} {x6 : Int32} {x7 : Int32} (hs_a0 : hS μ a0 = some (15, 65))
    (h : (((hI μ a0 22) ≤ x7 → Z (some (.int x5)) μ) ∧ (¬ (hI μ a0 22) ≤ x7 → ((x7 = x2 → J μ 0 0 28 [(0, .ref a0), (1, .int x1), (2, .int x2), (3, .int x3), (4, .int x4), (5, .int x5), (6, .int x6), (7, .int (x7 + 1))] []) ∧ (¬ x7 = x2 → ((¬ x7 = x3 → xCall d yX12_withoutOne cX12_withoutOne 7 (some .int) [.ref a0, .int x1, .int x2, .int x3, .int x4, .int x7] μ ro (fun r4 μ5 => ∃ y6 : Int32, r4 = some (.int y6) ∧ ((x5 = (-1) → J μ5 0 0 28 [(0, .ref a0), (1, .int x1), (2, .int x2), (3, .int x3), (4, .int x4), (5, .int x7), (6, .int y6), (7, .int (x7 + 1))] []) ∧ (¬ x5 = (-1) → ((y6 < x6 → J μ5 0 0 28 [(0, .ref a0), (1, .int x1), (2, .int x2), (3, .int x3), (4, .int x4), (5, .int x7), (6, .int y6), (7, .int (x7 + 1))] []) ∧ (¬ y6 < x6 → J μ5 0 0 28 [(0, .ref a0), (1, .int x1), (2, .int x2), (3, .int x3), (4, .int x4), (5, .int x5), (6, .int x6), (7, .int (x7 + 1))] [])))))) ∧ (x7 = x3 → J μ 0 0 28 [(0, .ref a0), (1, .int x1), (2, .int x2), (3, .int x3), (4, .int x4), (5, .int x5), (6, .int x6), (7, .int (x7 + 1))] []))))))) :
    J μ 0 0 28 [(0, .ref a0), (1, .int x1), (2, .int x2), (3, .int x3), (4, .int x4), (5, .int x5), (6, .int x6), (7, .int x7)] [] := by
  refine r_iload g dX12_key_28 rfl ?_
  refine r_aload_n g dX12_key_30 rfl ?_
  refine r_getI g fX12_245 rfl hs_a0 dX12_key_31 ?_
  refine r_icmp_ge g 95 dX12_key_34 (by decide) (fun c1 => ?_) (fun c1 => ?_)
  · replace h := h.1 c1
    refine r_iload g dX12_key_95 rfl ?_
    exact hr.2.1 _ rfl _ _ _ _ _ _ dX12_key_97 rfl (Nat.le_refl 0) (Nat.le_refl 0) h
  · replace h := h.2 c1
    refine r_iload g dX12_key_37 rfl ?_
    refine r_iload_n g dX12_key_39 rfl ?_
    refine r_icmp_eq g 89 dX12_key_40 (by decide) (fun c2 => ?_) (fun c2 => ?_)
    · replace h := h.1 c2
      refine r_iinc g (x7 + 1) [(7, .int (x7 + 1)), (0, .ref a0), (1, .int x1), (2, .int x2), (3, .int x3), (4, .int x4), (5, .int x5), (6, .int x6)] dX12_key_89 rfl rfl (by decide) rfl ?_
      refine r_goto g 28 dX12_key_92 (by decide) ?_
      refine r_sub g (lv' := [(0, .ref a0), (1, .int x1), (2, .int x2), (3, .int x3), (4, .int x4), (5, .int x5), (6, .int x6), (7, .int (x7 + 1))]) (⟨rfl, rfl, rfl, rfl, rfl, rfl, rfl, rfl, trivial⟩) ?_
      exact h
    · replace h := h.2 c2
      refine r_iload g dX12_key_43 rfl ?_
      refine r_iload_n g dX12_key_45 rfl ?_
      refine r_icmp_ne g 52 dX12_key_46 (by decide) (fun c3 => ?_) (fun c3 => ?_)
      · replace h := h.1 c3
        refine r_aload_n g dX12_key_52 rfl ?_
        refine r_iload_n g dX12_key_53 rfl ?_
        refine r_iload_n g dX12_key_54 rfl ?_
        refine r_iload_n g dX12_key_55 rfl ?_
        refine r_iload g dX12_key_56 rfl ?_
        refine r_iload g dX12_key_58 rfl ?_
        obtain ⟨d1, Z1, hc1, hd1, h1⟩ := h
        refine r_callV (st := []) (As := [.int x1, .int x2, .int x3, .int x4, .int x7]) g sX12_492 iX12_withoutOne eX12_withoutOne rfl hs_a0 rfl (Nat.le_of_ble_eq_true rfl) dX12_key_60 hd1 (Nat.le_refl 0) (Nat.le_refl 0) hc1 (fun r4 μ5 hZ1 => ?_)
        replace h := h1 _ _ hZ1
        clear h1 hc1 hd1 hZ1 Z1 d1
        obtain ⟨y6, rfl, h⟩ := h
        refine r_istore g [(8, .int y6), (0, .ref a0), (1, .int x1), (2, .int x2), (3, .int x3), (4, .int x4), (5, .int x5), (6, .int x6), (7, .int x7)] dX12_key_63 (by decide) rfl ?_
        refine r_iload g dX12_key_65 rfl ?_
        refine r_iconst g (-1) dX12_key_67 (by decide) ?_
        refine r_icmp_eq g 81 dX12_key_68 (by decide) (fun c7 => ?_) (fun c7 => ?_)
        · replace h := h.1 c7
          refine r_iload g dX12_key_81 rfl ?_
          refine r_istore g [(5, .int x7), (8, .int y6), (0, .ref a0), (1, .int x1), (2, .int x2), (3, .int x3), (4, .int x4), (6, .int x6), (7, .int x7)] dX12_key_83 (by decide) rfl ?_
          refine r_iload g dX12_key_85 rfl ?_
          refine r_istore g [(6, .int y6), (5, .int x7), (8, .int y6), (0, .ref a0), (1, .int x1), (2, .int x2), (3, .int x3), (4, .int x4), (7, .int x7)] dX12_key_87 (by decide) rfl ?_
          refine r_iinc g (x7 + 1) [(7, .int (x7 + 1)), (6, .int y6), (5, .int x7), (8, .int y6), (0, .ref a0), (1, .int x1), (2, .int x2), (3, .int x3), (4, .int x4)] dX12_key_89 rfl rfl (by decide) rfl ?_
          refine r_goto g 28 dX12_key_92 (by decide) ?_
          refine r_sub g (lv' := [(0, .ref a0), (1, .int x1), (2, .int x2), (3, .int x3), (4, .int x4), (5, .int x7), (6, .int y6), (7, .int (x7 + 1))]) (⟨rfl, rfl, rfl, rfl, rfl, rfl, rfl, rfl, trivial⟩) ?_
          exact h
        · replace h := h.2 c7
          refine r_iload g dX12_key_71 rfl ?_
          refine r_iload g dX12_key_73 rfl ?_
          refine r_icmp_lt g 81 dX12_key_75 (by decide) (fun c8 => ?_) (fun c8 => ?_)
          · replace h := h.1 c8
            refine r_iload g dX12_key_81 rfl ?_
            refine r_istore g [(5, .int x7), (8, .int y6), (0, .ref a0), (1, .int x1), (2, .int x2), (3, .int x3), (4, .int x4), (6, .int x6), (7, .int x7)] dX12_key_83 (by decide) rfl ?_
            refine r_iload g dX12_key_85 rfl ?_
            refine r_istore g [(6, .int y6), (5, .int x7), (8, .int y6), (0, .ref a0), (1, .int x1), (2, .int x2), (3, .int x3), (4, .int x4), (7, .int x7)] dX12_key_87 (by decide) rfl ?_
            refine r_iinc g (x7 + 1) [(7, .int (x7 + 1)), (6, .int y6), (5, .int x7), (8, .int y6), (0, .ref a0), (1, .int x1), (2, .int x2), (3, .int x3), (4, .int x4)] dX12_key_89 rfl rfl (by decide) rfl ?_
            refine r_goto g 28 dX12_key_92 (by decide) ?_
            refine r_sub g (lv' := [(0, .ref a0), (1, .int x1), (2, .int x2), (3, .int x3), (4, .int x4), (5, .int x7), (6, .int y6), (7, .int (x7 + 1))]) (⟨rfl, rfl, rfl, rfl, rfl, rfl, rfl, rfl, trivial⟩) ?_
            exact h
          · replace h := h.2 c8
            refine r_goto g 89 dX12_key_78 (by decide) ?_
            refine r_iinc g (x7 + 1) [(7, .int (x7 + 1)), (8, .int y6), (0, .ref a0), (1, .int x1), (2, .int x2), (3, .int x3), (4, .int x4), (5, .int x5), (6, .int x6)] dX12_key_89 rfl rfl (by decide) rfl ?_
            refine r_goto g 28 dX12_key_92 (by decide) ?_
            refine r_sub g (lv' := [(0, .ref a0), (1, .int x1), (2, .int x2), (3, .int x3), (4, .int x4), (5, .int x5), (6, .int x6), (7, .int (x7 + 1))]) (⟨rfl, rfl, rfl, rfl, rfl, rfl, rfl, rfl, trivial⟩) ?_
            exact h
      · replace h := h.2 c3
        refine r_goto g 89 dX12_key_49 (by decide) ?_
        refine r_iinc g (x7 + 1) [(7, .int (x7 + 1)), (0, .ref a0), (1, .int x1), (2, .int x2), (3, .int x3), (4, .int x4), (5, .int x5), (6, .int x6)] dX12_key_89 rfl rfl (by decide) rfl ?_
        refine r_goto g 28 dX12_key_92 (by decide) ?_
        refine r_sub g (lv' := [(0, .ref a0), (1, .int x1), (2, .int x2), (3, .int x3), (4, .int x4), (5, .int x5), (6, .int x6), (7, .int (x7 + 1))]) (⟨rfl, rfl, rfl, rfl, rfl, rfl, rfl, rfl, trivial⟩) ?_
        exact h
theorem I_X12_key {d : Nat} {ro : Nat → Nat} {Z : Option Value → Hp → Prop} {μ : Hp} {a0 : Nat} {x1 : Int32} {x2 : Int32} {x3 : Int32} {x4 : Int32} (h : ∀ J, xCtx RX12 cX12_key 9 d 0 0 yX12_key.name ro J → xRet cX12_key (some .int) 0 0 Z J → J μ 0 0 0 [(0, .ref a0), (1, .int x1), (2, .int x2), (3, .int x3), (4, .int x4)] []) : xC d yX12_key cX12_key 9 (some .int) 0 0 [.ref a0, .int x1, .int x2, .int x3, .int x4] μ ro Z :=
  xC_intro (own := RX12) (lv := [(0, .ref a0), (1, .int x1), (2, .int x2), (3, .int x3), (4, .int x4)]) (by decide) rfl (Nat.le_of_ble_eq_true rfl) rfl (fun J g hr => r_sub g (lv' := [(0, .ref a0), (1, .int x1), (2, .int x2), (3, .int x3), (4, .int x4)]) (⟨rfl, rfl, rfl, rfl, rfl, trivial⟩) (h J g hr))
theorem dX12_lapsed_0 : decode cX12_lapsed 0 = .ok (.aload_n 0, 1) := by decide +kernel
theorem dX12_lapsed_1 : decode cX12_lapsed 1 = .ok (.iconst 0, 1) := by decide +kernel
theorem dX12_lapsed_2 : decode cX12_lapsed 2 = .ok (.putfield 106, 3) := by decide +kernel
theorem dX12_lapsed_5 : decode cX12_lapsed 5 = .ok (.aload_n 0, 1) := by decide +kernel
theorem dX12_lapsed_6 : decode cX12_lapsed 6 = .ok (.iload 5, 2) := by decide +kernel
theorem dX12_lapsed_8 : decode cX12_lapsed 8 = .ok (.invokevirtual 449, 3) := by decide +kernel
theorem dX12_lapsed_11 : decode cX12_lapsed 11 = .ok (.ifCond .eq 31, 3) := by decide +kernel
theorem dX12_lapsed_14 : decode cX12_lapsed 14 = .ok (.aload_n 0, 1) := by decide +kernel
theorem dX12_lapsed_15 : decode cX12_lapsed 15 = .ok (.iload 6, 2) := by decide +kernel
theorem dX12_lapsed_17 : decode cX12_lapsed 17 = .ok (.invokevirtual 449, 3) := by decide +kernel
theorem dX12_lapsed_20 : decode cX12_lapsed 20 = .ok (.ifCond .eq 22, 3) := by decide +kernel
theorem dX12_lapsed_23 : decode cX12_lapsed 23 = .ok (.iload 5, 2) := by decide +kernel
theorem dX12_lapsed_25 : decode cX12_lapsed 25 = .ok (.iload 6, 2) := by decide +kernel
theorem dX12_lapsed_27 : decode cX12_lapsed 27 = .ok (.if_icmp .eq 15, 3) := by decide +kernel
theorem dX12_lapsed_30 : decode cX12_lapsed 30 = .ok (.aload_n 0, 1) := by decide +kernel
theorem dX12_lapsed_31 : decode cX12_lapsed 31 = .ok (.iload_n 1, 1) := by decide +kernel
theorem dX12_lapsed_32 : decode cX12_lapsed 32 = .ok (.iload_n 2, 1) := by decide +kernel
theorem dX12_lapsed_33 : decode cX12_lapsed 33 = .ok (.iload_n 3, 1) := by decide +kernel
theorem dX12_lapsed_34 : decode cX12_lapsed 34 = .ok (.iload 4, 2) := by decide +kernel
theorem dX12_lapsed_36 : decode cX12_lapsed 36 = .ok (.invokevirtual 357, 3) := by decide +kernel
theorem dX12_lapsed_39 : decode cX12_lapsed 39 = .ok (.ifCond .ne 5, 3) := by decide +kernel
theorem dX12_lapsed_42 : decode cX12_lapsed 42 = .ok (.iconst (-1), 1) := by decide +kernel
theorem dX12_lapsed_43 : decode cX12_lapsed 43 = .ok (.ireturn, 1) := by decide +kernel
theorem dX12_lapsed_44 : decode cX12_lapsed 44 = .ok (.aload_n 0, 1) := by decide +kernel
theorem dX12_lapsed_45 : decode cX12_lapsed 45 = .ok (.iload 5, 2) := by decide +kernel
theorem dX12_lapsed_47 : decode cX12_lapsed 47 = .ok (.putfield 69, 3) := by decide +kernel
theorem dX12_lapsed_50 : decode cX12_lapsed 50 = .ok (.aload_n 0, 1) := by decide +kernel
theorem dX12_lapsed_51 : decode cX12_lapsed 51 = .ok (.iload 6, 2) := by decide +kernel
theorem dX12_lapsed_53 : decode cX12_lapsed 53 = .ok (.putfield 73, 3) := by decide +kernel
theorem dX12_lapsed_56 : decode cX12_lapsed 56 = .ok (.aload_n 0, 1) := by decide +kernel
theorem dX12_lapsed_57 : decode cX12_lapsed 57 = .ok (.aload_n 0, 1) := by decide +kernel
theorem dX12_lapsed_58 : decode cX12_lapsed 58 = .ok (.getfield 57, 3) := by decide +kernel
theorem dX12_lapsed_61 : decode cX12_lapsed 61 = .ok (.iload_n 1, 1) := by decide +kernel
theorem dX12_lapsed_62 : decode cX12_lapsed 62 = .ok (.iload_n 2, 1) := by decide +kernel
theorem dX12_lapsed_63 : decode cX12_lapsed 63 = .ok (.iload_n 3, 1) := by decide +kernel
theorem dX12_lapsed_64 : decode cX12_lapsed 64 = .ok (.iload 4, 2) := by decide +kernel
theorem dX12_lapsed_66 : decode cX12_lapsed 66 = .ok (.iconst 0, 1) := by decide +kernel
theorem dX12_lapsed_67 : decode cX12_lapsed 67 = .ok (.invokevirtual 361, 3) := by decide +kernel
theorem dX12_lapsed_70 : decode cX12_lapsed 70 = .ok (.istore 7, 2) := by decide +kernel
theorem dX12_lapsed_72 : decode cX12_lapsed 72 = .ok (.aload_n 0, 1) := by decide +kernel
theorem dX12_lapsed_73 : decode cX12_lapsed 73 = .ok (.iconst (-1), 1) := by decide +kernel
theorem dX12_lapsed_74 : decode cX12_lapsed 74 = .ok (.putfield 69, 3) := by decide +kernel
theorem dX12_lapsed_77 : decode cX12_lapsed 77 = .ok (.aload_n 0, 1) := by decide +kernel
theorem dX12_lapsed_78 : decode cX12_lapsed 78 = .ok (.iconst (-1), 1) := by decide +kernel
theorem dX12_lapsed_79 : decode cX12_lapsed 79 = .ok (.putfield 73, 3) := by decide +kernel
theorem dX12_lapsed_82 : decode cX12_lapsed 82 = .ok (.iload 7, 2) := by decide +kernel
theorem dX12_lapsed_84 : decode cX12_lapsed 84 = .ok (.ifCond .eq 10, 3) := by decide +kernel
theorem dX12_lapsed_87 : decode cX12_lapsed 87 = .ok (.aload_n 0, 1) := by decide +kernel
theorem dX12_lapsed_88 : decode cX12_lapsed 88 = .ok (.getfield 321, 3) := by decide +kernel
theorem dX12_lapsed_91 : decode cX12_lapsed 91 = .ok (.goto 4, 3) := by decide +kernel
theorem dX12_lapsed_94 : decode cX12_lapsed 94 = .ok (.iconst (-1), 1) := by decide +kernel
theorem dX12_lapsed_95 : decode cX12_lapsed 95 = .ok (.ireturn, 1) := by decide +kernel
set_option maxHeartbeats 4000000 in
set_option maxRecDepth 100000 in
theorem B_X12_lapsed_0 {d : Nat} {ro : Nat → Nat} {J : JT} {Z : Option Value → Hp → Prop} (g : xCtx RX12 cX12_lapsed 8 d 0 0 yX12_lapsed.name ro J) (hr : xRet cX12_lapsed (some .int) 0 0 Z J) {μ : Hp} {a0 : Nat} {x1 : Int32} {x2 : Int32} {x3 : Int32} {x4 : Int32} {x5 : Int32} {x6 : Int32} (hs_a0 : hS μ a0 = some (15, 65)) (hd9 : 1 ≤ d)
    (h : ((x5 < 0 → Z (some (.int (-1))) (wI μ a0 0 0)) ∧ (¬ x5 < 0 → (((hI (wI μ a0 0 0) a0 20) ≤ x5 → Z (some (.int (-1))) (wI μ a0 0 0)) ∧ (¬ (hI (wI μ a0 0 0) a0 20) ≤ x5 → (((hI (wI μ a0 0 0) a0 22) ≤ 0 → Z (some (.int (-1))) (wI μ a0 0 0)) ∧ (¬ (hI (wI μ a0 0 0) a0 22) ≤ 0 → ((x6 < 0 → Z (some (.int (-1))) (wI μ a0 0 0)) ∧ (¬ x6 < 0 → (((hI (wI μ a0 0 0) a0 20) ≤ x6 → Z (some (.int (-1))) (wI μ a0 0 0)) ∧ (¬ (hI (wI μ a0 0 0) a0 20) ≤ x6 → (((hI (wI μ a0 0 0) a0 22) ≤ 0 → Z (some (.int (-1))) (wI μ a0 0 0)) ∧ (¬ (hI (wI μ a0 0 0) a0 22) ≤ 0 → ((x5 = x6 → Z (some (.int (-1))) (wI μ a0 0 0)) ∧ (¬ x5 = x6 → xCall d yX12_isAsked cX12_isAsked 5 (some .boolean) [.ref a0, .int x1, .int x2, .int x3, .int x4] (wI μ a0 0 0) ro (fun r24 μ25 => ∃ y26 : Int32, r24 = some (.int y26) ∧ ((¬ y26 = 0 → hS μ25 a0 = some (15, 65) ∧ ∃ now_28 : Nat, hR μ25 a0 30 = some now_28 ∧ xCall d yX12_searches cX12_searches 8 (some .boolean) [.ref a0, .ref now_28, .int x1, .int x2, .int x3, .int x4, .int 0] (wI (wI μ25 a0 38 x5) a0 39 x6) ro (fun r29 μ30 => ∃ y31 : Int32, r29 = some (.int y31) ∧ hS μ30 a0 = some (15, 65) ∧ ((y31 = 0 → Z (some (.int (-1))) (wI (wI μ30 a0 38 (-1)) a0 39 (-1))) ∧ (¬ y31 = 0 → Z (some (.int (hI (wI (wI μ30 a0 38 (-1)) a0 39 (-1)) a0 51))) (wI (wI μ30 a0 38 (-1)) a0 39 (-1)))))) ∧ (y26 = 0 → Z (some (.int (-1))) μ25)))))))))))))))))) :
    J μ 0 0 0 [(0, .ref a0), (1, .int x1), (2, .int x2), (3, .int x3), (4, .int x4), (5, .int x5), (6, .int x6)] [] := by
  refine r_aload_n g dX12_lapsed_0 rfl ?_
  refine r_iconst g 0 dX12_lapsed_1 (by decide) ?_
  refine r_putI g fX12_106 rfl hs_a0 rfl rfl dX12_lapsed_2 ?_
  refine r_aload_n g dX12_lapsed_5 rfl ?_
  refine r_iload g dX12_lapsed_6 rfl ?_
  by_cases c1 : x5 < 0
  · replace h := h.1 c1
    refine r_callV (st := []) (As := [.int x5]) g sX12_449 iX12_isLand eX12_isLand rfl hs_a0 rfl (Nat.le_of_ble_eq_true rfl) dX12_lapsed_8 (by omega) (Nat.le_refl 0) (Nat.le_refl 0) (P_X12_isLand_0 (d := d - 1) hs_a0 c1) (fun r2 μ3 hZ1 => ?_)
    obtain ⟨rfl, e9⟩ := hZ1
    replace e9 := e9.symm
    subst e9
    refine r_if_eq g 42 dX12_lapsed_11 (by decide) (fun _ => ?_) (fun hz => absurd hz (by decide))
    refine r_iconst g (-1) dX12_lapsed_42 (by decide) ?_
    exact hr.2.1 _ rfl _ _ _ _ _ _ dX12_lapsed_43 rfl (Nat.le_refl 0) (Nat.le_refl 0) h
  · replace h := h.2 c1
    by_cases c4 : (hI (wI μ a0 0 0) a0 20) ≤ x5
    · replace h := h.1 c4
      refine r_callV (st := []) (As := [.int x5]) g sX12_449 iX12_isLand eX12_isLand rfl hs_a0 rfl (Nat.le_of_ble_eq_true rfl) dX12_lapsed_8 (by omega) (Nat.le_refl 0) (Nat.le_refl 0) (P_X12_isLand_1 (d := d - 1) hs_a0 c1 c4) (fun r5 μ6 hZ1 => ?_)
      obtain ⟨rfl, e9⟩ := hZ1
      replace e9 := e9.symm
      subst e9
      refine r_if_eq g 42 dX12_lapsed_11 (by decide) (fun _ => ?_) (fun hz => absurd hz (by decide))
      refine r_iconst g (-1) dX12_lapsed_42 (by decide) ?_
      exact hr.2.1 _ rfl _ _ _ _ _ _ dX12_lapsed_43 rfl (Nat.le_refl 0) (Nat.le_refl 0) h
    · replace h := h.2 c4
      by_cases c7 : (hI (wI μ a0 0 0) a0 22) ≤ 0
      · replace h := h.1 c7
        refine r_callV (st := []) (As := [.int x5]) g sX12_449 iX12_isLand eX12_isLand rfl hs_a0 rfl (Nat.le_of_ble_eq_true rfl) dX12_lapsed_8 (by omega) (Nat.le_refl 0) (Nat.le_refl 0) (P_X12_isLand_2 (d := d - 1) hs_a0 c1 c4 c7) (fun r8 μ9 hZ1 => ?_)
        obtain ⟨rfl, e9⟩ := hZ1
        replace e9 := e9.symm
        subst e9
        refine r_if_eq g 42 dX12_lapsed_11 (by decide) (fun _ => ?_) (fun hz => absurd hz (by decide))
        refine r_iconst g (-1) dX12_lapsed_42 (by decide) ?_
        exact hr.2.1 _ rfl _ _ _ _ _ _ dX12_lapsed_43 rfl (Nat.le_refl 0) (Nat.le_refl 0) h
      · replace h := h.2 c7
        refine r_callV (st := []) (As := [.int x5]) g sX12_449 iX12_isLand eX12_isLand rfl hs_a0 rfl (Nat.le_of_ble_eq_true rfl) dX12_lapsed_8 (by omega) (Nat.le_refl 0) (Nat.le_refl 0) (P_X12_isLand_3 (d := d - 1) hs_a0 c1 c4 c7) (fun r10 μ11 hZ1 => ?_)
        obtain ⟨rfl, e9⟩ := hZ1
        replace e9 := e9.symm
        subst e9
        refine r_if_eq g 42 dX12_lapsed_11 (by decide) (fun hz => absurd hz (by decide)) (fun _ => ?_)
        refine r_aload_n g dX12_lapsed_14 rfl ?_
        refine r_iload g dX12_lapsed_15 rfl ?_
        by_cases c12 : x6 < 0
        · replace h := h.1 c12
          refine r_callV (st := []) (As := [.int x6]) g sX12_449 iX12_isLand eX12_isLand rfl hs_a0 rfl (Nat.le_of_ble_eq_true rfl) dX12_lapsed_17 (by omega) (Nat.le_refl 0) (Nat.le_refl 0) (P_X12_isLand_0 (d := d - 1) hs_a0 c12) (fun r13 μ14 hZ1 => ?_)
          obtain ⟨rfl, e9⟩ := hZ1
          replace e9 := e9.symm
          subst e9
          refine r_if_eq g 42 dX12_lapsed_20 (by decide) (fun _ => ?_) (fun hz => absurd hz (by decide))
          refine r_iconst g (-1) dX12_lapsed_42 (by decide) ?_
          exact hr.2.1 _ rfl _ _ _ _ _ _ dX12_lapsed_43 rfl (Nat.le_refl 0) (Nat.le_refl 0) h
        · replace h := h.2 c12
          by_cases c15 : (hI (wI μ a0 0 0) a0 20) ≤ x6
          · replace h := h.1 c15
            refine r_callV (st := []) (As := [.int x6]) g sX12_449 iX12_isLand eX12_isLand rfl hs_a0 rfl (Nat.le_of_ble_eq_true rfl) dX12_lapsed_17 (by omega) (Nat.le_refl 0) (Nat.le_refl 0) (P_X12_isLand_1 (d := d - 1) hs_a0 c12 c15) (fun r16 μ17 hZ1 => ?_)
            obtain ⟨rfl, e9⟩ := hZ1
            replace e9 := e9.symm
            subst e9
            refine r_if_eq g 42 dX12_lapsed_20 (by decide) (fun _ => ?_) (fun hz => absurd hz (by decide))
            refine r_iconst g (-1) dX12_lapsed_42 (by decide) ?_
            exact hr.2.1 _ rfl _ _ _ _ _ _ dX12_lapsed_43 rfl (Nat.le_refl 0) (Nat.le_refl 0) h
          · replace h := h.2 c15
            by_cases c18 : (hI (wI μ a0 0 0) a0 22) ≤ 0
            · replace h := h.1 c18
              refine r_callV (st := []) (As := [.int x6]) g sX12_449 iX12_isLand eX12_isLand rfl hs_a0 rfl (Nat.le_of_ble_eq_true rfl) dX12_lapsed_17 (by omega) (Nat.le_refl 0) (Nat.le_refl 0) (P_X12_isLand_2 (d := d - 1) hs_a0 c12 c15 c18) (fun r19 μ20 hZ1 => ?_)
              obtain ⟨rfl, e9⟩ := hZ1
              replace e9 := e9.symm
              subst e9
              refine r_if_eq g 42 dX12_lapsed_20 (by decide) (fun _ => ?_) (fun hz => absurd hz (by decide))
              refine r_iconst g (-1) dX12_lapsed_42 (by decide) ?_
              exact hr.2.1 _ rfl _ _ _ _ _ _ dX12_lapsed_43 rfl (Nat.le_refl 0) (Nat.le_refl 0) h
            · replace h := h.2 c18
              refine r_callV (st := []) (As := [.int x6]) g sX12_449 iX12_isLand eX12_isLand rfl hs_a0 rfl (Nat.le_of_ble_eq_true rfl) dX12_lapsed_17 (by omega) (Nat.le_refl 0) (Nat.le_refl 0) (P_X12_isLand_3 (d := d - 1) hs_a0 c12 c15 c18) (fun r21 μ22 hZ1 => ?_)
              obtain ⟨rfl, e9⟩ := hZ1
              replace e9 := e9.symm
              subst e9
              refine r_if_eq g 42 dX12_lapsed_20 (by decide) (fun hz => absurd hz (by decide)) (fun _ => ?_)
              refine r_iload g dX12_lapsed_23 rfl ?_
              refine r_iload g dX12_lapsed_25 rfl ?_
              refine r_icmp_eq g 42 dX12_lapsed_27 (by decide) (fun c23 => ?_) (fun c23 => ?_)
              · replace h := h.1 c23
                refine r_iconst g (-1) dX12_lapsed_42 (by decide) ?_
                exact hr.2.1 _ rfl _ _ _ _ _ _ dX12_lapsed_43 rfl (Nat.le_refl 0) (Nat.le_refl 0) h
              · replace h := h.2 c23
                refine r_aload_n g dX12_lapsed_30 rfl ?_
                refine r_iload_n g dX12_lapsed_31 rfl ?_
                refine r_iload_n g dX12_lapsed_32 rfl ?_
                refine r_iload_n g dX12_lapsed_33 rfl ?_
                refine r_iload g dX12_lapsed_34 rfl ?_
                obtain ⟨d1, Z1, hc1, hd1, h1⟩ := h
                refine r_callV (st := []) (As := [.int x1, .int x2, .int x3, .int x4]) g sX12_357 iX12_isAsked eX12_isAsked rfl hs_a0 rfl (Nat.le_of_ble_eq_true rfl) dX12_lapsed_36 hd1 (Nat.le_refl 0) (Nat.le_refl 0) hc1 (fun r24 μ25 hZ1 => ?_)
                replace h := h1 _ _ hZ1
                clear h1 hc1 hd1 hZ1 Z1 d1
                obtain ⟨y26, rfl, h⟩ := h
                refine r_if_ne g 44 dX12_lapsed_39 (by decide) (fun c27 => ?_) (fun c27 => ?_)
                · replace h := h.1 c27
                  refine r_aload_n g dX12_lapsed_44 rfl ?_
                  refine r_iload g dX12_lapsed_45 rfl ?_
                  obtain ⟨hs_a0_, h⟩ := h
                  refine r_putI g fX12_69 rfl hs_a0_ rfl rfl dX12_lapsed_47 ?_
                  refine r_aload_n g dX12_lapsed_50 rfl ?_
                  refine r_iload g dX12_lapsed_51 rfl ?_
                  refine r_putI g fX12_73 rfl hs_a0_ rfl rfl dX12_lapsed_53 ?_
                  refine r_aload_n g dX12_lapsed_56 rfl ?_
                  refine r_aload_n g dX12_lapsed_57 rfl ?_
                  obtain ⟨now_28, hr_now_28, h⟩ := h
                  refine r_getR g fX12_57 rfl hs_a0_ hr_now_28 dX12_lapsed_58 ?_
                  refine r_iload_n g dX12_lapsed_61 rfl ?_
                  refine r_iload_n g dX12_lapsed_62 rfl ?_
                  refine r_iload_n g dX12_lapsed_63 rfl ?_
                  refine r_iload g dX12_lapsed_64 rfl ?_
                  refine r_iconst g 0 dX12_lapsed_66 (by decide) ?_
                  obtain ⟨d1, Z1, hc1, hd1, h1⟩ := h
                  refine r_callV (st := []) (As := [.ref now_28, .int x1, .int x2, .int x3, .int x4, .int 0]) g sX12_361 iX12_searches eX12_searches rfl hs_a0_ rfl (Nat.le_of_ble_eq_true rfl) dX12_lapsed_67 hd1 (Nat.le_refl 0) (Nat.le_refl 0) hc1 (fun r29 μ30 hZ1 => ?_)
                  replace h := h1 _ _ hZ1
                  clear h1 hc1 hd1 hZ1 Z1 d1
                  obtain ⟨y31, rfl, h⟩ := h
                  refine r_istore g [(7, .int y31), (0, .ref a0), (1, .int x1), (2, .int x2), (3, .int x3), (4, .int x4), (5, .int x5), (6, .int x6)] dX12_lapsed_70 (by decide) rfl ?_
                  refine r_aload_n g dX12_lapsed_72 rfl ?_
                  refine r_iconst g (-1) dX12_lapsed_73 (by decide) ?_
                  obtain ⟨hs_a0__, h⟩ := h
                  refine r_putI g fX12_69 rfl hs_a0__ rfl rfl dX12_lapsed_74 ?_
                  refine r_aload_n g dX12_lapsed_77 rfl ?_
                  refine r_iconst g (-1) dX12_lapsed_78 (by decide) ?_
                  refine r_putI g fX12_73 rfl hs_a0__ rfl rfl dX12_lapsed_79 ?_
                  refine r_iload g dX12_lapsed_82 rfl ?_
                  refine r_if_eq g 94 dX12_lapsed_84 (by decide) (fun c32 => ?_) (fun c32 => ?_)
                  · replace h := h.1 c32
                    refine r_iconst g (-1) dX12_lapsed_94 (by decide) ?_
                    exact hr.2.1 _ rfl _ _ _ _ _ _ dX12_lapsed_95 rfl (Nat.le_refl 0) (Nat.le_refl 0) h
                  · replace h := h.2 c32
                    refine r_aload_n g dX12_lapsed_87 rfl ?_
                    refine r_getI g fX12_321 rfl hs_a0__ dX12_lapsed_88 ?_
                    refine r_goto g 95 dX12_lapsed_91 (by decide) ?_
                    exact hr.2.1 _ rfl _ _ _ _ _ _ dX12_lapsed_95 rfl (Nat.le_refl 0) (Nat.le_refl 0) h
                · replace h := h.2 c27
                  refine r_iconst g (-1) dX12_lapsed_42 (by decide) ?_
                  exact hr.2.1 _ rfl _ _ _ _ _ _ dX12_lapsed_43 rfl (Nat.le_refl 0) (Nat.le_refl 0) h
theorem I_X12_lapsed {d : Nat} {ro : Nat → Nat} {Z : Option Value → Hp → Prop} {μ : Hp} {a0 : Nat} {x1 : Int32} {x2 : Int32} {x3 : Int32} {x4 : Int32} {x5 : Int32} {x6 : Int32} (h : ∀ J, xCtx RX12 cX12_lapsed 8 d 0 0 yX12_lapsed.name ro J → xRet cX12_lapsed (some .int) 0 0 Z J → J μ 0 0 0 [(0, .ref a0), (1, .int x1), (2, .int x2), (3, .int x3), (4, .int x4), (5, .int x5), (6, .int x6)] []) : xC d yX12_lapsed cX12_lapsed 8 (some .int) 0 0 [.ref a0, .int x1, .int x2, .int x3, .int x4, .int x5, .int x6] μ ro Z :=
  xC_intro (own := RX12) (lv := [(0, .ref a0), (1, .int x1), (2, .int x2), (3, .int x3), (4, .int x4), (5, .int x5), (6, .int x6)]) (by decide) rfl (Nat.le_of_ble_eq_true rfl) rfl (fun J g hr => r_sub g (lv' := [(0, .ref a0), (1, .int x1), (2, .int x2), (3, .int x3), (4, .int x4), (5, .int x5), (6, .int x6)]) (⟨rfl, rfl, rfl, rfl, rfl, rfl, rfl, trivial⟩) (h J g hr))
theorem dX12_loops_0 : decode cX12_loops 0 = .ok (.aload_n 0, 1) := by decide +kernel
theorem dX12_loops_1 : decode cX12_loops 1 = .ok (.iconst 0, 1) := by decide +kernel
theorem dX12_loops_2 : decode cX12_loops 2 = .ok (.putfield 106, 3) := by decide +kernel
theorem dX12_loops_5 : decode cX12_loops 5 = .ok (.aload_n 0, 1) := by decide +kernel
theorem dX12_loops_6 : decode cX12_loops 6 = .ok (.iload_n 1, 1) := by decide +kernel
theorem dX12_loops_7 : decode cX12_loops 7 = .ok (.iload_n 2, 1) := by decide +kernel
theorem dX12_loops_8 : decode cX12_loops 8 = .ok (.iload_n 3, 1) := by decide +kernel
theorem dX12_loops_9 : decode cX12_loops 9 = .ok (.iconst 1, 1) := by decide +kernel
theorem dX12_loops_10 : decode cX12_loops 10 = .ok (.invokevirtual 357, 3) := by decide +kernel
theorem dX12_loops_13 : decode cX12_loops 13 = .ok (.ifCond .ne 5, 3) := by decide +kernel
theorem dX12_loops_16 : decode cX12_loops 16 = .ok (.iconst (-1), 1) := by decide +kernel
theorem dX12_loops_17 : decode cX12_loops 17 = .ok (.ireturn, 1) := by decide +kernel
theorem dX12_loops_18 : decode cX12_loops 18 = .ok (.aload_n 0, 1) := by decide +kernel
theorem dX12_loops_19 : decode cX12_loops 19 = .ok (.aload_n 0, 1) := by decide +kernel
theorem dX12_loops_20 : decode cX12_loops 20 = .ok (.getfield 57, 3) := by decide +kernel
theorem dX12_loops_23 : decode cX12_loops 23 = .ok (.iload_n 1, 1) := by decide +kernel
theorem dX12_loops_24 : decode cX12_loops 24 = .ok (.iload_n 2, 1) := by decide +kernel
theorem dX12_loops_25 : decode cX12_loops 25 = .ok (.iload_n 3, 1) := by decide +kernel
theorem dX12_loops_26 : decode cX12_loops 26 = .ok (.iconst 1, 1) := by decide +kernel
theorem dX12_loops_27 : decode cX12_loops 27 = .ok (.iconst 0, 1) := by decide +kernel
theorem dX12_loops_28 : decode cX12_loops 28 = .ok (.invokevirtual 361, 3) := by decide +kernel
theorem dX12_loops_31 : decode cX12_loops 31 = .ok (.istore 4, 2) := by decide +kernel
theorem dX12_loops_33 : decode cX12_loops 33 = .ok (.aload_n 0, 1) := by decide +kernel
theorem dX12_loops_34 : decode cX12_loops 34 = .ok (.getfield 324, 3) := by decide +kernel
theorem dX12_loops_37 : decode cX12_loops 37 = .ok (.ireturn, 1) := by decide +kernel
set_option maxHeartbeats 4000000 in
set_option maxRecDepth 100000 in
theorem B_X12_loops_0 {d : Nat} {ro : Nat → Nat} {J : JT} {Z : Option Value → Hp → Prop} (g : xCtx RX12 cX12_loops 5 d 0 0 yX12_loops.name ro J) (hr : xRet cX12_loops (some .int) 0 0 Z J) {μ : Hp} {a0 : Nat} {x1 : Int32} {x2 : Int32} {x3 : Int32} (hs_a0 : hS μ a0 = some (15, 65))
    (h : xCall d yX12_isAsked cX12_isAsked 5 (some .boolean) [.ref a0, .int x1, .int x2, .int x3, .int 1] (wI μ a0 0 0) ro (fun r1 μ2 => ∃ y3 : Int32, r1 = some (.int y3) ∧ ((¬ y3 = 0 → hS μ2 a0 = some (15, 65) ∧ ∃ now_5 : Nat, hR μ2 a0 30 = some now_5 ∧ xCall d yX12_searches cX12_searches 8 (some .boolean) [.ref a0, .ref now_5, .int x1, .int x2, .int x3, .int 1, .int 0] μ2 ro (fun r6 μ7 => ∃ y8 : Int32, r6 = some (.int y8) ∧ hS μ7 a0 = some (15, 65) ∧ Z (some (.int (hI μ7 a0 54))) μ7)) ∧ (y3 = 0 → Z (some (.int (-1))) μ2)))) :
    J μ 0 0 0 [(0, .ref a0), (1, .int x1), (2, .int x2), (3, .int x3)] [] := by
  refine r_aload_n g dX12_loops_0 rfl ?_
  refine r_iconst g 0 dX12_loops_1 (by decide) ?_
  refine r_putI g fX12_106 rfl hs_a0 rfl rfl dX12_loops_2 ?_
  refine r_aload_n g dX12_loops_5 rfl ?_
  refine r_iload_n g dX12_loops_6 rfl ?_
  refine r_iload_n g dX12_loops_7 rfl ?_
  refine r_iload_n g dX12_loops_8 rfl ?_
  refine r_iconst g 1 dX12_loops_9 (by decide) ?_
  obtain ⟨d1, Z1, hc1, hd1, h1⟩ := h
  refine r_callV (st := []) (As := [.int x1, .int x2, .int x3, .int 1]) g sX12_357 iX12_isAsked eX12_isAsked rfl hs_a0 rfl (Nat.le_of_ble_eq_true rfl) dX12_loops_10 hd1 (Nat.le_refl 0) (Nat.le_refl 0) hc1 (fun r1 μ2 hZ1 => ?_)
  replace h := h1 _ _ hZ1
  clear h1 hc1 hd1 hZ1 Z1 d1
  obtain ⟨y3, rfl, h⟩ := h
  refine r_if_ne g 18 dX12_loops_13 (by decide) (fun c4 => ?_) (fun c4 => ?_)
  · replace h := h.1 c4
    refine r_aload_n g dX12_loops_18 rfl ?_
    refine r_aload_n g dX12_loops_19 rfl ?_
    obtain ⟨hs_a0_, h⟩ := h
    obtain ⟨now_5, hr_now_5, h⟩ := h
    refine r_getR g fX12_57 rfl hs_a0_ hr_now_5 dX12_loops_20 ?_
    refine r_iload_n g dX12_loops_23 rfl ?_
    refine r_iload_n g dX12_loops_24 rfl ?_
    refine r_iload_n g dX12_loops_25 rfl ?_
    refine r_iconst g 1 dX12_loops_26 (by decide) ?_
    refine r_iconst g 0 dX12_loops_27 (by decide) ?_
    obtain ⟨d1, Z1, hc1, hd1, h1⟩ := h
    refine r_callV (st := []) (As := [.ref now_5, .int x1, .int x2, .int x3, .int 1, .int 0]) g sX12_361 iX12_searches eX12_searches rfl hs_a0_ rfl (Nat.le_of_ble_eq_true rfl) dX12_loops_28 hd1 (Nat.le_refl 0) (Nat.le_refl 0) hc1 (fun r6 μ7 hZ1 => ?_)
    replace h := h1 _ _ hZ1
    clear h1 hc1 hd1 hZ1 Z1 d1
    obtain ⟨y8, rfl, h⟩ := h
    refine r_istore g [(4, .int y8), (0, .ref a0), (1, .int x1), (2, .int x2), (3, .int x3)] dX12_loops_31 (by decide) rfl ?_
    refine r_aload_n g dX12_loops_33 rfl ?_
    obtain ⟨hs_a0__, h⟩ := h
    refine r_getI g fX12_324 rfl hs_a0__ dX12_loops_34 ?_
    exact hr.2.1 _ rfl _ _ _ _ _ _ dX12_loops_37 rfl (Nat.le_refl 0) (Nat.le_refl 0) h
  · replace h := h.2 c4
    refine r_iconst g (-1) dX12_loops_16 (by decide) ?_
    exact hr.2.1 _ rfl _ _ _ _ _ _ dX12_loops_17 rfl (Nat.le_refl 0) (Nat.le_refl 0) h
theorem I_X12_loops {d : Nat} {ro : Nat → Nat} {Z : Option Value → Hp → Prop} {μ : Hp} {a0 : Nat} {x1 : Int32} {x2 : Int32} {x3 : Int32} (h : ∀ J, xCtx RX12 cX12_loops 5 d 0 0 yX12_loops.name ro J → xRet cX12_loops (some .int) 0 0 Z J → J μ 0 0 0 [(0, .ref a0), (1, .int x1), (2, .int x2), (3, .int x3)] []) : xC d yX12_loops cX12_loops 5 (some .int) 0 0 [.ref a0, .int x1, .int x2, .int x3] μ ro Z :=
  xC_intro (own := RX12) (lv := [(0, .ref a0), (1, .int x1), (2, .int x2), (3, .int x3)]) (by decide) rfl (Nat.le_of_ble_eq_true rfl) rfl (fun J g hr => r_sub g (lv' := [(0, .ref a0), (1, .int x1), (2, .int x2), (3, .int x3)]) (⟨rfl, rfl, rfl, rfl, trivial⟩) (h J g hr))
theorem dX12_least_0 : decode cX12_least 0 = .ok (.aload_n 0, 1) := by decide +kernel
theorem dX12_least_1 : decode cX12_least 1 = .ok (.iconst 0, 1) := by decide +kernel
theorem dX12_least_2 : decode cX12_least 2 = .ok (.putfield 106, 3) := by decide +kernel
theorem dX12_least_5 : decode cX12_least 5 = .ok (.iload 5, 2) := by decide +kernel
theorem dX12_least_7 : decode cX12_least 7 = .ok (.i2l, 1) := by decide +kernel
theorem dX12_least_8 : decode cX12_least 8 = .ok (.lconst 0, 1) := by decide +kernel
theorem dX12_least_9 : decode cX12_least 9 = .ok (.ldc2_w 446, 3) := by decide +kernel
theorem dX12_least_12 : decode cX12_least 12 = .ok (.invokestatic 161, 3) := by decide +kernel
theorem dX12_least_15 : decode cX12_least 15 = .ok (.ifCond .eq 32, 3) := by decide +kernel
theorem dX12_least_18 : decode cX12_least 18 = .ok (.aload_n 0, 1) := by decide +kernel
theorem dX12_least_19 : decode cX12_least 19 = .ok (.iload_n 1, 1) := by decide +kernel
theorem dX12_least_20 : decode cX12_least 20 = .ok (.iload_n 2, 1) := by decide +kernel
theorem dX12_least_21 : decode cX12_least 21 = .ok (.iload_n 3, 1) := by decide +kernel
theorem dX12_least_22 : decode cX12_least 22 = .ok (.iload 4, 2) := by decide +kernel
theorem dX12_least_24 : decode cX12_least 24 = .ok (.invokevirtual 357, 3) := by decide +kernel
theorem dX12_least_27 : decode cX12_least 27 = .ok (.ifCond .eq 20, 3) := by decide +kernel
theorem dX12_least_30 : decode cX12_least 30 = .ok (.aload_n 0, 1) := by decide +kernel
theorem dX12_least_31 : decode cX12_least 31 = .ok (.aload_n 0, 1) := by decide +kernel
theorem dX12_least_32 : decode cX12_least 32 = .ok (.getfield 57, 3) := by decide +kernel
theorem dX12_least_35 : decode cX12_least 35 = .ok (.iload_n 1, 1) := by decide +kernel
theorem dX12_least_36 : decode cX12_least 36 = .ok (.iload_n 2, 1) := by decide +kernel
theorem dX12_least_37 : decode cX12_least 37 = .ok (.iload_n 3, 1) := by decide +kernel
theorem dX12_least_38 : decode cX12_least 38 = .ok (.iload 4, 2) := by decide +kernel
theorem dX12_least_40 : decode cX12_least 40 = .ok (.iconst 1, 1) := by decide +kernel
theorem dX12_least_41 : decode cX12_least 41 = .ok (.invokevirtual 361, 3) := by decide +kernel
theorem dX12_least_44 : decode cX12_least 44 = .ok (.ifCond .ne 5, 3) := by decide +kernel
theorem dX12_least_47 : decode cX12_least 47 = .ok (.iconst (-1), 1) := by decide +kernel
theorem dX12_least_48 : decode cX12_least 48 = .ok (.ireturn, 1) := by decide +kernel
theorem dX12_least_49 : decode cX12_least 49 = .ok (.iload 5, 2) := by decide +kernel
theorem dX12_least_51 : decode cX12_least 51 = .ok (.ifCond .ne 10, 3) := by decide +kernel
theorem dX12_least_54 : decode cX12_least 54 = .ok (.aload_n 0, 1) := by decide +kernel
theorem dX12_least_55 : decode cX12_least 55 = .ok (.getfield 300, 3) := by decide +kernel
theorem dX12_least_58 : decode cX12_least 58 = .ok (.goto 20, 3) := by decide +kernel
theorem dX12_least_61 : decode cX12_least 61 = .ok (.iload 5, 2) := by decide +kernel
theorem dX12_least_63 : decode cX12_least 63 = .ok (.iconst 1, 1) := by decide +kernel
theorem dX12_least_64 : decode cX12_least 64 = .ok (.if_icmp .ne 10, 3) := by decide +kernel
theorem dX12_least_67 : decode cX12_least 67 = .ok (.aload_n 0, 1) := by decide +kernel
theorem dX12_least_68 : decode cX12_least 68 = .ok (.getfield 306, 3) := by decide +kernel
theorem dX12_least_71 : decode cX12_least 71 = .ok (.goto 7, 3) := by decide +kernel
theorem dX12_least_74 : decode cX12_least 74 = .ok (.aload_n 0, 1) := by decide +kernel
theorem dX12_least_75 : decode cX12_least 75 = .ok (.getfield 321, 3) := by decide +kernel
theorem dX12_least_78 : decode cX12_least 78 = .ok (.ireturn, 1) := by decide +kernel
set_option maxHeartbeats 4000000 in
set_option maxRecDepth 100000 in
theorem B_X12_least_0 {d : Nat} {ro : Nat → Nat} {J : JT} {Z : Option Value → Hp → Prop} (g : xCtx RX12 cX12_least 6 d 0 0 yX12_least.name ro J) (hr : xRet cX12_least (some .int) 0 0 Z J) {μ : Hp} {a0 : Nat} {x1 : Int32} {x2 : Int32} {x3 : Int32} {x4 : Int32} {x5 : Int32} (hs_a0 : hS μ a0 = some (15, 65)) (hd9 : 1 ≤ d)
    (h : ((x5 < 0 → Z (some (.int (-1))) (wI μ a0 0 0)) ∧ (¬ x5 < 0 → ((2 < x5 → Z (some (.int (-1))) (wI μ a0 0 0)) ∧ (¬ 2 < x5 → xCall d yX12_isAsked cX12_isAsked 5 (some .boolean) [.ref a0, .int x1, .int x2, .int x3, .int x4] (wI μ a0 0 0) ro (fun r9 μ10 => ∃ y11 : Int32, r9 = some (.int y11) ∧ ((y11 = 0 → Z (some (.int (-1))) μ10) ∧ (¬ y11 = 0 → hS μ10 a0 = some (15, 65) ∧ ∃ now_13 : Nat, hR μ10 a0 30 = some now_13 ∧ xCall d yX12_searches cX12_searches 8 (some .boolean) [.ref a0, .ref now_13, .int x1, .int x2, .int x3, .int x4, .int 1] μ10 ro (fun r14 μ15 => ∃ y16 : Int32, r14 = some (.int y16) ∧ ((¬ y16 = 0 → ((¬ x5 = 0 → ((¬ x5 = 1 → hS μ15 a0 = some (15, 65) ∧ Z (some (.int (hI μ15 a0 51))) μ15) ∧ (x5 = 1 → hS μ15 a0 = some (15, 65) ∧ Z (some (.int (hI μ15 a0 50))) μ15))) ∧ (x5 = 0 → hS μ15 a0 = some (15, 65) ∧ Z (some (.int (hI μ15 a0 52))) μ15))) ∧ (y16 = 0 → Z (some (.int (-1))) μ15))))))))))) :
    J μ 0 0 0 [(0, .ref a0), (1, .int x1), (2, .int x2), (3, .int x3), (4, .int x4), (5, .int x5)] [] := by
  refine r_aload_n g dX12_least_0 rfl ?_
  refine r_iconst g 0 dX12_least_1 (by decide) ?_
  refine r_putI g fX12_106 rfl hs_a0 rfl rfl dX12_least_2 ?_
  refine r_iload g dX12_least_5 rfl ?_
  refine r_i2l g dX12_least_7 ?_
  refine r_lconst g 0 dX12_least_8 (by decide) ?_
  refine r_ldc2 g 2 kX12_446 dX12_least_9 ?_
  by_cases c1 : x5 < 0
  · replace h := h.1 c1
    refine r_callS (st := []) (As := [.long x5.toInt64, .long 0, .long 2]) g sX12_161 iX12_isIn rfl (Nat.le_of_ble_eq_true rfl) dX12_least_12 (by omega) (Nat.le_refl 0) (Nat.le_refl 0) (Q_isIn_0 (d := d - 1) (x := x5) (a := 0) (b := 2) rfl (by decide) (by decide) c1) (fun r2 μ3 hZ1 => ?_)
    obtain ⟨rfl, e9⟩ := hZ1
    replace e9 := e9.symm
    subst e9
    refine r_if_eq g 47 dX12_least_15 (by decide) (fun _ => ?_) (fun hz => absurd hz (by decide))
    refine r_iconst g (-1) dX12_least_47 (by decide) ?_
    exact hr.2.1 _ rfl _ _ _ _ _ _ dX12_least_48 rfl (Nat.le_refl 0) (Nat.le_refl 0) h
  · replace h := h.2 c1
    by_cases c4 : 2 < x5
    · replace h := h.1 c4
      refine r_callS (st := []) (As := [.long x5.toInt64, .long 0, .long 2]) g sX12_161 iX12_isIn rfl (Nat.le_of_ble_eq_true rfl) dX12_least_12 (by omega) (Nat.le_refl 0) (Nat.le_refl 0) (Q_isIn_1 (d := d - 1) (x := x5) (a := 0) (b := 2) rfl (by decide) (by decide) c1 c4) (fun r5 μ6 hZ1 => ?_)
      obtain ⟨rfl, e9⟩ := hZ1
      replace e9 := e9.symm
      subst e9
      refine r_if_eq g 47 dX12_least_15 (by decide) (fun _ => ?_) (fun hz => absurd hz (by decide))
      refine r_iconst g (-1) dX12_least_47 (by decide) ?_
      exact hr.2.1 _ rfl _ _ _ _ _ _ dX12_least_48 rfl (Nat.le_refl 0) (Nat.le_refl 0) h
    · replace h := h.2 c4
      refine r_callS (st := []) (As := [.long x5.toInt64, .long 0, .long 2]) g sX12_161 iX12_isIn rfl (Nat.le_of_ble_eq_true rfl) dX12_least_12 (by omega) (Nat.le_refl 0) (Nat.le_refl 0) (Q_isIn_2 (d := d - 1) (x := x5) (a := 0) (b := 2) rfl (by decide) (by decide) c1 c4) (fun r7 μ8 hZ1 => ?_)
      obtain ⟨rfl, e9⟩ := hZ1
      replace e9 := e9.symm
      subst e9
      refine r_if_eq g 47 dX12_least_15 (by decide) (fun hz => absurd hz (by decide)) (fun _ => ?_)
      refine r_aload_n g dX12_least_18 rfl ?_
      refine r_iload_n g dX12_least_19 rfl ?_
      refine r_iload_n g dX12_least_20 rfl ?_
      refine r_iload_n g dX12_least_21 rfl ?_
      refine r_iload g dX12_least_22 rfl ?_
      obtain ⟨d1, Z1, hc1, hd1, h1⟩ := h
      refine r_callV (st := []) (As := [.int x1, .int x2, .int x3, .int x4]) g sX12_357 iX12_isAsked eX12_isAsked rfl hs_a0 rfl (Nat.le_of_ble_eq_true rfl) dX12_least_24 hd1 (Nat.le_refl 0) (Nat.le_refl 0) hc1 (fun r9 μ10 hZ1 => ?_)
      replace h := h1 _ _ hZ1
      clear h1 hc1 hd1 hZ1 Z1 d1
      obtain ⟨y11, rfl, h⟩ := h
      refine r_if_eq g 47 dX12_least_27 (by decide) (fun c12 => ?_) (fun c12 => ?_)
      · replace h := h.1 c12
        refine r_iconst g (-1) dX12_least_47 (by decide) ?_
        exact hr.2.1 _ rfl _ _ _ _ _ _ dX12_least_48 rfl (Nat.le_refl 0) (Nat.le_refl 0) h
      · replace h := h.2 c12
        refine r_aload_n g dX12_least_30 rfl ?_
        refine r_aload_n g dX12_least_31 rfl ?_
        obtain ⟨hs_a0_, h⟩ := h
        obtain ⟨now_13, hr_now_13, h⟩ := h
        refine r_getR g fX12_57 rfl hs_a0_ hr_now_13 dX12_least_32 ?_
        refine r_iload_n g dX12_least_35 rfl ?_
        refine r_iload_n g dX12_least_36 rfl ?_
        refine r_iload_n g dX12_least_37 rfl ?_
        refine r_iload g dX12_least_38 rfl ?_
        refine r_iconst g 1 dX12_least_40 (by decide) ?_
        obtain ⟨d1, Z1, hc1, hd1, h1⟩ := h
        refine r_callV (st := []) (As := [.ref now_13, .int x1, .int x2, .int x3, .int x4, .int 1]) g sX12_361 iX12_searches eX12_searches rfl hs_a0_ rfl (Nat.le_of_ble_eq_true rfl) dX12_least_41 hd1 (Nat.le_refl 0) (Nat.le_refl 0) hc1 (fun r14 μ15 hZ1 => ?_)
        replace h := h1 _ _ hZ1
        clear h1 hc1 hd1 hZ1 Z1 d1
        obtain ⟨y16, rfl, h⟩ := h
        refine r_if_ne g 49 dX12_least_44 (by decide) (fun c17 => ?_) (fun c17 => ?_)
        · replace h := h.1 c17
          refine r_iload g dX12_least_49 rfl ?_
          refine r_if_ne g 61 dX12_least_51 (by decide) (fun c18 => ?_) (fun c18 => ?_)
          · replace h := h.1 c18
            refine r_iload g dX12_least_61 rfl ?_
            refine r_iconst g 1 dX12_least_63 (by decide) ?_
            refine r_icmp_ne g 74 dX12_least_64 (by decide) (fun c19 => ?_) (fun c19 => ?_)
            · replace h := h.1 c19
              refine r_aload_n g dX12_least_74 rfl ?_
              obtain ⟨hs_a0__, h⟩ := h
              refine r_getI g fX12_321 rfl hs_a0__ dX12_least_75 ?_
              exact hr.2.1 _ rfl _ _ _ _ _ _ dX12_least_78 rfl (Nat.le_refl 0) (Nat.le_refl 0) h
            · replace h := h.2 c19
              refine r_aload_n g dX12_least_67 rfl ?_
              obtain ⟨hs_a0___, h⟩ := h
              refine r_getI g fX12_306 rfl hs_a0___ dX12_least_68 ?_
              refine r_goto g 78 dX12_least_71 (by decide) ?_
              exact hr.2.1 _ rfl _ _ _ _ _ _ dX12_least_78 rfl (Nat.le_refl 0) (Nat.le_refl 0) h
          · replace h := h.2 c18
            refine r_aload_n g dX12_least_54 rfl ?_
            obtain ⟨hs_a0____, h⟩ := h
            refine r_getI g fX12_300 rfl hs_a0____ dX12_least_55 ?_
            refine r_goto g 78 dX12_least_58 (by decide) ?_
            exact hr.2.1 _ rfl _ _ _ _ _ _ dX12_least_78 rfl (Nat.le_refl 0) (Nat.le_refl 0) h
        · replace h := h.2 c17
          refine r_iconst g (-1) dX12_least_47 (by decide) ?_
          exact hr.2.1 _ rfl _ _ _ _ _ _ dX12_least_48 rfl (Nat.le_refl 0) (Nat.le_refl 0) h
theorem I_X12_least {d : Nat} {ro : Nat → Nat} {Z : Option Value → Hp → Prop} {μ : Hp} {a0 : Nat} {x1 : Int32} {x2 : Int32} {x3 : Int32} {x4 : Int32} {x5 : Int32} (h : ∀ J, xCtx RX12 cX12_least 6 d 0 0 yX12_least.name ro J → xRet cX12_least (some .int) 0 0 Z J → J μ 0 0 0 [(0, .ref a0), (1, .int x1), (2, .int x2), (3, .int x3), (4, .int x4), (5, .int x5)] []) : xC d yX12_least cX12_least 6 (some .int) 0 0 [.ref a0, .int x1, .int x2, .int x3, .int x4, .int x5] μ ro Z :=
  xC_intro (own := RX12) (lv := [(0, .ref a0), (1, .int x1), (2, .int x2), (3, .int x3), (4, .int x4), (5, .int x5)]) (by decide) rfl (Nat.le_of_ble_eq_true rfl) rfl (fun J g hr => r_sub g (lv' := [(0, .ref a0), (1, .int x1), (2, .int x2), (3, .int x3), (4, .int x4), (5, .int x5)]) (⟨rfl, rfl, rfl, rfl, rfl, rfl, trivial⟩) (h J g hr))
theorem dX12_direct_0 : decode cX12_direct 0 = .ok (.aload_n 0, 1) := by decide +kernel
theorem dX12_direct_1 : decode cX12_direct 1 = .ok (.iconst 0, 1) := by decide +kernel
theorem dX12_direct_2 : decode cX12_direct 2 = .ok (.putfield 106, 3) := by decide +kernel
theorem dX12_direct_5 : decode cX12_direct 5 = .ok (.aload_n 0, 1) := by decide +kernel
theorem dX12_direct_6 : decode cX12_direct 6 = .ok (.iload_n 1, 1) := by decide +kernel
theorem dX12_direct_7 : decode cX12_direct 7 = .ok (.iload_n 2, 1) := by decide +kernel
theorem dX12_direct_8 : decode cX12_direct 8 = .ok (.iload_n 3, 1) := by decide +kernel
theorem dX12_direct_9 : decode cX12_direct 9 = .ok (.iload 4, 2) := by decide +kernel
theorem dX12_direct_11 : decode cX12_direct 11 = .ok (.invokevirtual 357, 3) := by decide +kernel
theorem dX12_direct_14 : decode cX12_direct 14 = .ok (.ifCond .eq 18, 3) := by decide +kernel
theorem dX12_direct_17 : decode cX12_direct 17 = .ok (.aload_n 0, 1) := by decide +kernel
theorem dX12_direct_18 : decode cX12_direct 18 = .ok (.aload_n 0, 1) := by decide +kernel
theorem dX12_direct_19 : decode cX12_direct 19 = .ok (.getfield 57, 3) := by decide +kernel
theorem dX12_direct_22 : decode cX12_direct 22 = .ok (.iload_n 1, 1) := by decide +kernel
theorem dX12_direct_23 : decode cX12_direct 23 = .ok (.iload_n 2, 1) := by decide +kernel
theorem dX12_direct_24 : decode cX12_direct 24 = .ok (.iload_n 3, 1) := by decide +kernel
theorem dX12_direct_25 : decode cX12_direct 25 = .ok (.invokevirtual 309, 3) := by decide +kernel
theorem dX12_direct_28 : decode cX12_direct 28 = .ok (.iconst (-1), 1) := by decide +kernel
theorem dX12_direct_29 : decode cX12_direct 29 = .ok (.if_icmp .ne 5, 3) := by decide +kernel
theorem dX12_direct_32 : decode cX12_direct 32 = .ok (.iconst (-1), 1) := by decide +kernel
theorem dX12_direct_33 : decode cX12_direct 33 = .ok (.ireturn, 1) := by decide +kernel
theorem dX12_direct_34 : decode cX12_direct 34 = .ok (.aload_n 0, 1) := by decide +kernel
theorem dX12_direct_35 : decode cX12_direct 35 = .ok (.getfield 79, 3) := by decide +kernel
theorem dX12_direct_38 : decode cX12_direct 38 = .ok (.iconst 0, 1) := by decide +kernel
theorem dX12_direct_39 : decode cX12_direct 39 = .ok (.iload_n 2, 1) := by decide +kernel
theorem dX12_direct_40 : decode cX12_direct 40 = .ok (.iastore, 1) := by decide +kernel
theorem dX12_direct_41 : decode cX12_direct 41 = .ok (.aload_n 0, 1) := by decide +kernel
theorem dX12_direct_42 : decode cX12_direct 42 = .ok (.getfield 79, 3) := by decide +kernel
theorem dX12_direct_45 : decode cX12_direct 45 = .ok (.iconst 1, 1) := by decide +kernel
theorem dX12_direct_46 : decode cX12_direct 46 = .ok (.iload_n 3, 1) := by decide +kernel
theorem dX12_direct_47 : decode cX12_direct 47 = .ok (.iastore, 1) := by decide +kernel
theorem dX12_direct_48 : decode cX12_direct 48 = .ok (.aload_n 0, 1) := by decide +kernel
theorem dX12_direct_49 : decode cX12_direct 49 = .ok (.iconst 1, 1) := by decide +kernel
theorem dX12_direct_50 : decode cX12_direct 50 = .ok (.putfield 306, 3) := by decide +kernel
theorem dX12_direct_53 : decode cX12_direct 53 = .ok (.aload_n 0, 1) := by decide +kernel
theorem dX12_direct_54 : decode cX12_direct 54 = .ok (.aload_n 0, 1) := by decide +kernel
theorem dX12_direct_55 : decode cX12_direct 55 = .ok (.getfield 57, 3) := by decide +kernel
theorem dX12_direct_58 : decode cX12_direct 58 = .ok (.iload_n 1, 1) := by decide +kernel
theorem dX12_direct_59 : decode cX12_direct 59 = .ok (.iload 4, 2) := by decide +kernel
theorem dX12_direct_61 : decode cX12_direct 61 = .ok (.invokevirtual 327, 3) := by decide +kernel
theorem dX12_direct_64 : decode cX12_direct 64 = .ok (.aload_n 0, 1) := by decide +kernel
theorem dX12_direct_65 : decode cX12_direct 65 = .ok (.getfield 321, 3) := by decide +kernel
theorem dX12_direct_68 : decode cX12_direct 68 = .ok (.ireturn, 1) := by decide +kernel
set_option maxHeartbeats 4000000 in
set_option maxRecDepth 100000 in
theorem B_X12_direct_0 {d : Nat} {ro : Nat → Nat} {J : JT} {Z : Option Value → Hp → Prop} (g : xCtx RX12 cX12_direct 5 d 0 0 yX12_direct.name ro J) (hr : xRet cX12_direct (some .int) 0 0 Z J) {μ : Hp} {a0 : Nat} {x1 : Int32} {x2 : Int32} {x3 : Int32} {x4 : Int32} (hs_a0 : hS μ a0 = some (15, 65))
    (h : xCall d yX12_isAsked cX12_isAsked 5 (some .boolean) [.ref a0, .int x1, .int x2, .int x3, .int x4] (wI μ a0 0 0) ro (fun r1 μ2 => ∃ y3 : Int32, r1 = some (.int y3) ∧ ((y3 = 0 → Z (some (.int (-1))) μ2) ∧ (¬ y3 = 0 → hS μ2 a0 = some (15, 65) ∧ ∃ now_5 : Nat, hR μ2 a0 30 = some now_5 ∧ xCall d yX12_hopOf cX12_hopOf 6 (some .int) [.ref a0, .ref now_5, .int x1, .int x2, .int x3] μ2 ro (fun r6 μ7 => ∃ y8 : Int32, r6 = some (.int y8) ∧ ((¬ y8 = (-1) → hS μ7 a0 = some (15, 65) ∧ ∃ way_10 : Nat, hR μ7 a0 43 = some way_10 ∧ ∃ N11 : Nat, hS μ7 way_10 = some (0, N11) ∧ vp_in 0 N11 ∧ vp_in 1 N11 ∧ ∃ now_14 : Nat, hR μ7 a0 30 = some now_14 ∧ xCall d yX12_reckons cX12_reckons 7 none [.ref a0, .ref now_14, .int x1, .int x4] (wI (wI (wI μ7 way_10 0 x2) way_10 1 x3) a0 50 1) ro (fun r15 μ16 => r15 = none ∧ hS μ16 a0 = some (15, 65) ∧ Z (some (.int (hI μ16 a0 51))) μ16)) ∧ (y8 = (-1) → Z (some (.int (-1))) μ7))))))) :
    J μ 0 0 0 [(0, .ref a0), (1, .int x1), (2, .int x2), (3, .int x3), (4, .int x4)] [] := by
  refine r_aload_n g dX12_direct_0 rfl ?_
  refine r_iconst g 0 dX12_direct_1 (by decide) ?_
  refine r_putI g fX12_106 rfl hs_a0 rfl rfl dX12_direct_2 ?_
  refine r_aload_n g dX12_direct_5 rfl ?_
  refine r_iload_n g dX12_direct_6 rfl ?_
  refine r_iload_n g dX12_direct_7 rfl ?_
  refine r_iload_n g dX12_direct_8 rfl ?_
  refine r_iload g dX12_direct_9 rfl ?_
  obtain ⟨d1, Z1, hc1, hd1, h1⟩ := h
  refine r_callV (st := []) (As := [.int x1, .int x2, .int x3, .int x4]) g sX12_357 iX12_isAsked eX12_isAsked rfl hs_a0 rfl (Nat.le_of_ble_eq_true rfl) dX12_direct_11 hd1 (Nat.le_refl 0) (Nat.le_refl 0) hc1 (fun r1 μ2 hZ1 => ?_)
  replace h := h1 _ _ hZ1
  clear h1 hc1 hd1 hZ1 Z1 d1
  obtain ⟨y3, rfl, h⟩ := h
  refine r_if_eq g 32 dX12_direct_14 (by decide) (fun c4 => ?_) (fun c4 => ?_)
  · replace h := h.1 c4
    refine r_iconst g (-1) dX12_direct_32 (by decide) ?_
    exact hr.2.1 _ rfl _ _ _ _ _ _ dX12_direct_33 rfl (Nat.le_refl 0) (Nat.le_refl 0) h
  · replace h := h.2 c4
    refine r_aload_n g dX12_direct_17 rfl ?_
    refine r_aload_n g dX12_direct_18 rfl ?_
    obtain ⟨hs_a0_, h⟩ := h
    obtain ⟨now_5, hr_now_5, h⟩ := h
    refine r_getR g fX12_57 rfl hs_a0_ hr_now_5 dX12_direct_19 ?_
    refine r_iload_n g dX12_direct_22 rfl ?_
    refine r_iload_n g dX12_direct_23 rfl ?_
    refine r_iload_n g dX12_direct_24 rfl ?_
    obtain ⟨d1, Z1, hc1, hd1, h1⟩ := h
    refine r_callV (st := []) (As := [.ref now_5, .int x1, .int x2, .int x3]) g sX12_309 iX12_hopOf eX12_hopOf rfl hs_a0_ rfl (Nat.le_of_ble_eq_true rfl) dX12_direct_25 hd1 (Nat.le_refl 0) (Nat.le_refl 0) hc1 (fun r6 μ7 hZ1 => ?_)
    replace h := h1 _ _ hZ1
    clear h1 hc1 hd1 hZ1 Z1 d1
    obtain ⟨y8, rfl, h⟩ := h
    refine r_iconst g (-1) dX12_direct_28 (by decide) ?_
    refine r_icmp_ne g 34 dX12_direct_29 (by decide) (fun c9 => ?_) (fun c9 => ?_)
    · replace h := h.1 c9
      refine r_aload_n g dX12_direct_34 rfl ?_
      obtain ⟨hs_a0__, h⟩ := h
      obtain ⟨way_10, hr_way_10, h⟩ := h
      refine r_getR g fX12_79 rfl hs_a0__ hr_way_10 dX12_direct_35 ?_
      refine r_iconst g 0 dX12_direct_38 (by decide) ?_
      refine r_iload_n g dX12_direct_39 rfl ?_
      obtain ⟨N11, hs_way_10, h⟩ := h
      obtain ⟨hi12, h⟩ := h
      refine r_iastore g hs_way_10 hi12 dX12_direct_40 ?_
      refine r_aload_n g dX12_direct_41 rfl ?_
      refine r_getR g fX12_79 rfl hs_a0__ hr_way_10 dX12_direct_42 ?_
      refine r_iconst g 1 dX12_direct_45 (by decide) ?_
      refine r_iload_n g dX12_direct_46 rfl ?_
      obtain ⟨hi13, h⟩ := h
      refine r_iastore g hs_way_10 hi13 dX12_direct_47 ?_
      refine r_aload_n g dX12_direct_48 rfl ?_
      refine r_iconst g 1 dX12_direct_49 (by decide) ?_
      refine r_putI g fX12_306 rfl hs_a0__ rfl rfl dX12_direct_50 ?_
      refine r_aload_n g dX12_direct_53 rfl ?_
      refine r_aload_n g dX12_direct_54 rfl ?_
      obtain ⟨now_14, hr_now_14, h⟩ := h
      refine r_getR g fX12_57 rfl hs_a0__ hr_now_14 dX12_direct_55 ?_
      refine r_iload_n g dX12_direct_58 rfl ?_
      refine r_iload g dX12_direct_59 rfl ?_
      obtain ⟨d1, Z1, hc1, hd1, h1⟩ := h
      refine r_callV (st := []) (As := [.ref now_14, .int x1, .int x4]) g sX12_327 iX12_reckons eX12_reckons rfl hs_a0__ rfl (Nat.le_of_ble_eq_true rfl) dX12_direct_61 hd1 (Nat.le_refl 0) (Nat.le_refl 0) hc1 (fun r15 μ16 hZ1 => ?_)
      replace h := h1 _ _ hZ1
      clear h1 hc1 hd1 hZ1 Z1 d1
      obtain ⟨rfl, h⟩ := h
      refine r_aload_n g dX12_direct_64 rfl ?_
      obtain ⟨hs_a0___, h⟩ := h
      refine r_getI g fX12_321 rfl hs_a0___ dX12_direct_65 ?_
      exact hr.2.1 _ rfl _ _ _ _ _ _ dX12_direct_68 rfl (Nat.le_refl 0) (Nat.le_refl 0) h
    · replace h := h.2 c9
      refine r_iconst g (-1) dX12_direct_32 (by decide) ?_
      exact hr.2.1 _ rfl _ _ _ _ _ _ dX12_direct_33 rfl (Nat.le_refl 0) (Nat.le_refl 0) h
theorem I_X12_direct {d : Nat} {ro : Nat → Nat} {Z : Option Value → Hp → Prop} {μ : Hp} {a0 : Nat} {x1 : Int32} {x2 : Int32} {x3 : Int32} {x4 : Int32} (h : ∀ J, xCtx RX12 cX12_direct 5 d 0 0 yX12_direct.name ro J → xRet cX12_direct (some .int) 0 0 Z J → J μ 0 0 0 [(0, .ref a0), (1, .int x1), (2, .int x2), (3, .int x3), (4, .int x4)] []) : xC d yX12_direct cX12_direct 5 (some .int) 0 0 [.ref a0, .int x1, .int x2, .int x3, .int x4] μ ro Z :=
  xC_intro (own := RX12) (lv := [(0, .ref a0), (1, .int x1), (2, .int x2), (3, .int x3), (4, .int x4)]) (by decide) rfl (Nat.le_of_ble_eq_true rfl) rfl (fun J g hr => r_sub g (lv' := [(0, .ref a0), (1, .int x1), (2, .int x2), (3, .int x3), (4, .int x4)]) (⟨rfl, rfl, rfl, rfl, rfl, trivial⟩) (h J g hr))
theorem dX12_take_0 : decode cX12_take 0 = .ok (.aload_n 0, 1) := by decide +kernel
theorem dX12_take_1 : decode cX12_take 1 = .ok (.iconst 0, 1) := by decide +kernel
theorem dX12_take_2 : decode cX12_take 2 = .ok (.putfield 106, 3) := by decide +kernel
theorem dX12_take_5 : decode cX12_take 5 = .ok (.aload_n 0, 1) := by decide +kernel
theorem dX12_take_6 : decode cX12_take 6 = .ok (.iload 5, 2) := by decide +kernel
theorem dX12_take_8 : decode cX12_take 8 = .ok (.invokevirtual 449, 3) := by decide +kernel
theorem dX12_take_11 : decode cX12_take 11 = .ok (.ifCond .eq 15, 3) := by decide +kernel
theorem dX12_take_14 : decode cX12_take 14 = .ok (.aload_n 0, 1) := by decide +kernel
theorem dX12_take_15 : decode cX12_take 15 = .ok (.iload_n 1, 1) := by decide +kernel
theorem dX12_take_16 : decode cX12_take 16 = .ok (.iload_n 2, 1) := by decide +kernel
theorem dX12_take_17 : decode cX12_take 17 = .ok (.iload_n 3, 1) := by decide +kernel
theorem dX12_take_18 : decode cX12_take 18 = .ok (.iload 4, 2) := by decide +kernel
theorem dX12_take_20 : decode cX12_take 20 = .ok (.invokevirtual 470, 3) := by decide +kernel
theorem dX12_take_23 : decode cX12_take 23 = .ok (.ifCond .ne 5, 3) := by decide +kernel
theorem dX12_take_26 : decode cX12_take 26 = .ok (.iconst (-1), 1) := by decide +kernel
theorem dX12_take_27 : decode cX12_take 27 = .ok (.ireturn, 1) := by decide +kernel
theorem dX12_take_28 : decode cX12_take 28 = .ok (.iconst 0, 1) := by decide +kernel
theorem dX12_take_29 : decode cX12_take 29 = .ok (.istore 6, 2) := by decide +kernel
theorem dX12_take_31 : decode cX12_take 31 = .ok (.iconst 0, 1) := by decide +kernel
theorem dX12_take_32 : decode cX12_take 32 = .ok (.istore 7, 2) := by decide +kernel
theorem dX12_take_34 : decode cX12_take 34 = .ok (.iload 7, 2) := by decide +kernel
theorem dX12_take_36 : decode cX12_take 36 = .ok (.aload_n 0, 1) := by decide +kernel
theorem dX12_take_37 : decode cX12_take 37 = .ok (.getfield 306, 3) := by decide +kernel
theorem dX12_take_40 : decode cX12_take 40 = .ok (.if_icmp .ge 86, 3) := by decide +kernel
theorem dX12_take_43 : decode cX12_take 43 = .ok (.iload 6, 2) := by decide +kernel
theorem dX12_take_45 : decode cX12_take 45 = .ok (.aload_n 0, 1) := by decide +kernel
theorem dX12_take_46 : decode cX12_take 46 = .ok (.aload_n 0, 1) := by decide +kernel
theorem dX12_take_47 : decode cX12_take 47 = .ok (.getfield 79, 3) := by decide +kernel
theorem dX12_take_50 : decode cX12_take 50 = .ok (.iload 7, 2) := by decide +kernel
theorem dX12_take_52 : decode cX12_take 52 = .ok (.iaload, 1) := by decide +kernel
theorem dX12_take_53 : decode cX12_take 53 = .ok (.invokevirtual 280, 3) := by decide +kernel
theorem dX12_take_56 : decode cX12_take 56 = .ok (.iload 5, 2) := by decide +kernel
theorem dX12_take_58 : decode cX12_take 58 = .ok (.if_icmp .ne 13, 3) := by decide +kernel
theorem dX12_take_61 : decode cX12_take 61 = .ok (.aload_n 0, 1) := by decide +kernel
theorem dX12_take_62 : decode cX12_take 62 = .ok (.getfield 91, 3) := by decide +kernel
theorem dX12_take_65 : decode cX12_take 65 = .ok (.iload 7, 2) := by decide +kernel
theorem dX12_take_67 : decode cX12_take 67 = .ok (.iaload, 1) := by decide +kernel
theorem dX12_take_68 : decode cX12_take 68 = .ok (.goto 4, 3) := by decide +kernel
theorem dX12_take_71 : decode cX12_take 71 = .ok (.iconst 0, 1) := by decide +kernel
theorem dX12_take_72 : decode cX12_take 72 = .ok (.iadd, 1) := by decide +kernel
theorem dX12_take_73 : decode cX12_take 73 = .ok (.istore 6, 2) := by decide +kernel
theorem dX12_take_75 : decode cX12_take 75 = .ok (.iload 6, 2) := by decide +kernel
theorem dX12_take_77 : decode cX12_take 77 = .ok (.iload 7, 2) := by decide +kernel
theorem dX12_take_79 : decode cX12_take 79 = .ok (.aload_n 0, 1) := by decide +kernel
theorem dX12_take_80 : decode cX12_take 80 = .ok (.getfield 306, 3) := by decide +kernel
theorem dX12_take_83 : decode cX12_take 83 = .ok (.iconst 1, 1) := by decide +kernel
theorem dX12_take_84 : decode cX12_take 84 = .ok (.isub, 1) := by decide +kernel
theorem dX12_take_85 : decode cX12_take 85 = .ok (.if_icmp .ge 31, 3) := by decide +kernel
theorem dX12_take_88 : decode cX12_take 88 = .ok (.aload_n 0, 1) := by decide +kernel
theorem dX12_take_89 : decode cX12_take 89 = .ok (.aload_n 0, 1) := by decide +kernel
theorem dX12_take_90 : decode cX12_take 90 = .ok (.getfield 79, 3) := by decide +kernel
theorem dX12_take_93 : decode cX12_take 93 = .ok (.iload 7, 2) := by decide +kernel
theorem dX12_take_95 : decode cX12_take 95 = .ok (.iconst 1, 1) := by decide +kernel
theorem dX12_take_96 : decode cX12_take 96 = .ok (.iadd, 1) := by decide +kernel
theorem dX12_take_97 : decode cX12_take 97 = .ok (.iaload, 1) := by decide +kernel
theorem dX12_take_98 : decode cX12_take 98 = .ok (.invokevirtual 280, 3) := by decide +kernel
theorem dX12_take_101 : decode cX12_take 101 = .ok (.iload 5, 2) := by decide +kernel
theorem dX12_take_103 : decode cX12_take 103 = .ok (.if_icmp .ne 13, 3) := by decide +kernel
theorem dX12_take_106 : decode cX12_take 106 = .ok (.aload_n 0, 1) := by decide +kernel
theorem dX12_take_107 : decode cX12_take 107 = .ok (.getfield 94, 3) := by decide +kernel
theorem dX12_take_110 : decode cX12_take 110 = .ok (.iload 7, 2) := by decide +kernel
theorem dX12_take_112 : decode cX12_take 112 = .ok (.iaload, 1) := by decide +kernel
theorem dX12_take_113 : decode cX12_take 113 = .ok (.goto 4, 3) := by decide +kernel
theorem dX12_take_116 : decode cX12_take 116 = .ok (.iconst 0, 1) := by decide +kernel
theorem dX12_take_117 : decode cX12_take 117 = .ok (.iadd, 1) := by decide +kernel
theorem dX12_take_118 : decode cX12_take 118 = .ok (.istore 6, 2) := by decide +kernel
theorem dX12_take_120 : decode cX12_take 120 = .ok (.iinc 7 1, 3) := by decide +kernel
theorem dX12_take_123 : decode cX12_take 123 = .ok (.goto (-89), 3) := by decide +kernel
theorem dX12_take_126 : decode cX12_take 126 = .ok (.iload 6, 2) := by decide +kernel
theorem dX12_take_128 : decode cX12_take 128 = .ok (.ireturn, 1) := by decide +kernel
set_option maxHeartbeats 4000000 in
set_option maxRecDepth 100000 in
theorem B_X12_take_0 {d : Nat} {ro : Nat → Nat} {J : JT} {Z : Option Value → Hp → Prop} (g : xCtx RX12 cX12_take 8 d 0 0 yX12_take.name ro J) (hr : xRet cX12_take (some .int) 0 0 Z J) {μ : Hp} {a0 : Nat} {x1 : Int32} {x2 : Int32} {x3 : Int32} {x4 : Int32} {x5 : Int32} (hs_a0 : hS μ a0 = some (15, 65)) (hd9 : 1 ≤ d)
    (h : ((x5 < 0 → Z (some (.int (-1))) (wI μ a0 0 0)) ∧ (¬ x5 < 0 → (((hI (wI μ a0 0 0) a0 20) ≤ x5 → Z (some (.int (-1))) (wI μ a0 0 0)) ∧ (¬ (hI (wI μ a0 0 0) a0 20) ≤ x5 → (((hI (wI μ a0 0 0) a0 22) ≤ 0 → Z (some (.int (-1))) (wI μ a0 0 0)) ∧ (¬ (hI (wI μ a0 0 0) a0 22) ≤ 0 → xCall d yX12_finds cX12_finds 5 (some .boolean) [.ref a0, .int x1, .int x2, .int x3, .int x4] (wI μ a0 0 0) ro (fun r12 μ13 => ∃ y14 : Int32, r12 = some (.int y14) ∧ ((¬ y14 = 0 → J μ13 0 0 34 [(0, .ref a0), (5, .int x5), (6, .int 0), (7, .int 0)] []) ∧ (y14 = 0 → Z (some (.int (-1))) μ13)))))))))) :
    J μ 0 0 0 [(0, .ref a0), (1, .int x1), (2, .int x2), (3, .int x3), (4, .int x4), (5, .int x5)] [] := by
  refine r_aload_n g dX12_take_0 rfl ?_
  refine r_iconst g 0 dX12_take_1 (by decide) ?_
  refine r_putI g fX12_106 rfl hs_a0 rfl rfl dX12_take_2 ?_
  refine r_aload_n g dX12_take_5 rfl ?_
  refine r_iload g dX12_take_6 rfl ?_
  by_cases c1 : x5 < 0
  · replace h := h.1 c1
    refine r_callV (st := []) (As := [.int x5]) g sX12_449 iX12_isLand eX12_isLand rfl hs_a0 rfl (Nat.le_of_ble_eq_true rfl) dX12_take_8 (by omega) (Nat.le_refl 0) (Nat.le_refl 0) (P_X12_isLand_0 (d := d - 1) hs_a0 c1) (fun r2 μ3 hZ1 => ?_)
    obtain ⟨rfl, e9⟩ := hZ1
    replace e9 := e9.symm
    subst e9
    refine r_if_eq g 26 dX12_take_11 (by decide) (fun _ => ?_) (fun hz => absurd hz (by decide))
    refine r_iconst g (-1) dX12_take_26 (by decide) ?_
    exact hr.2.1 _ rfl _ _ _ _ _ _ dX12_take_27 rfl (Nat.le_refl 0) (Nat.le_refl 0) h
  · replace h := h.2 c1
    by_cases c4 : (hI (wI μ a0 0 0) a0 20) ≤ x5
    · replace h := h.1 c4
      refine r_callV (st := []) (As := [.int x5]) g sX12_449 iX12_isLand eX12_isLand rfl hs_a0 rfl (Nat.le_of_ble_eq_true rfl) dX12_take_8 (by omega) (Nat.le_refl 0) (Nat.le_refl 0) (P_X12_isLand_1 (d := d - 1) hs_a0 c1 c4) (fun r5 μ6 hZ1 => ?_)
      obtain ⟨rfl, e9⟩ := hZ1
      replace e9 := e9.symm
      subst e9
      refine r_if_eq g 26 dX12_take_11 (by decide) (fun _ => ?_) (fun hz => absurd hz (by decide))
      refine r_iconst g (-1) dX12_take_26 (by decide) ?_
      exact hr.2.1 _ rfl _ _ _ _ _ _ dX12_take_27 rfl (Nat.le_refl 0) (Nat.le_refl 0) h
    · replace h := h.2 c4
      by_cases c7 : (hI (wI μ a0 0 0) a0 22) ≤ 0
      · replace h := h.1 c7
        refine r_callV (st := []) (As := [.int x5]) g sX12_449 iX12_isLand eX12_isLand rfl hs_a0 rfl (Nat.le_of_ble_eq_true rfl) dX12_take_8 (by omega) (Nat.le_refl 0) (Nat.le_refl 0) (P_X12_isLand_2 (d := d - 1) hs_a0 c1 c4 c7) (fun r8 μ9 hZ1 => ?_)
        obtain ⟨rfl, e9⟩ := hZ1
        replace e9 := e9.symm
        subst e9
        refine r_if_eq g 26 dX12_take_11 (by decide) (fun _ => ?_) (fun hz => absurd hz (by decide))
        refine r_iconst g (-1) dX12_take_26 (by decide) ?_
        exact hr.2.1 _ rfl _ _ _ _ _ _ dX12_take_27 rfl (Nat.le_refl 0) (Nat.le_refl 0) h
      · replace h := h.2 c7
        refine r_callV (st := []) (As := [.int x5]) g sX12_449 iX12_isLand eX12_isLand rfl hs_a0 rfl (Nat.le_of_ble_eq_true rfl) dX12_take_8 (by omega) (Nat.le_refl 0) (Nat.le_refl 0) (P_X12_isLand_3 (d := d - 1) hs_a0 c1 c4 c7) (fun r10 μ11 hZ1 => ?_)
        obtain ⟨rfl, e9⟩ := hZ1
        replace e9 := e9.symm
        subst e9
        refine r_if_eq g 26 dX12_take_11 (by decide) (fun hz => absurd hz (by decide)) (fun _ => ?_)
        refine r_aload_n g dX12_take_14 rfl ?_
        refine r_iload_n g dX12_take_15 rfl ?_
        refine r_iload_n g dX12_take_16 rfl ?_
        refine r_iload_n g dX12_take_17 rfl ?_
        refine r_iload g dX12_take_18 rfl ?_
        obtain ⟨d1, Z1, hc1, hd1, h1⟩ := h
        refine r_callV (st := []) (As := [.int x1, .int x2, .int x3, .int x4]) g sX12_470 iX12_finds eX12_finds rfl hs_a0 rfl (Nat.le_of_ble_eq_true rfl) dX12_take_20 hd1 (Nat.le_refl 0) (Nat.le_refl 0) hc1 (fun r12 μ13 hZ1 => ?_)
        replace h := h1 _ _ hZ1
        clear h1 hc1 hd1 hZ1 Z1 d1
        obtain ⟨y14, rfl, h⟩ := h
        refine r_if_ne g 28 dX12_take_23 (by decide) (fun c15 => ?_) (fun c15 => ?_)
        · replace h := h.1 c15
          refine r_iconst g 0 dX12_take_28 (by decide) ?_
          refine r_istore g [(6, .int 0), (0, .ref a0), (1, .int x1), (2, .int x2), (3, .int x3), (4, .int x4), (5, .int x5)] dX12_take_29 (by decide) rfl ?_
          refine r_iconst g 0 dX12_take_31 (by decide) ?_
          refine r_istore g [(7, .int 0), (6, .int 0), (0, .ref a0), (1, .int x1), (2, .int x2), (3, .int x3), (4, .int x4), (5, .int x5)] dX12_take_32 (by decide) rfl ?_
          refine r_sub g (lv' := [(0, .ref a0), (5, .int x5), (6, .int 0), (7, .int 0)]) (⟨rfl, rfl, rfl, rfl, trivial⟩) ?_
          exact h
        · replace h := h.2 c15
          refine r_iconst g (-1) dX12_take_26 (by decide) ?_
          exact hr.2.1 _ rfl _ _ _ _ _ _ dX12_take_27 rfl (Nat.le_refl 0) (Nat.le_refl 0) h
set_option maxHeartbeats 4000000 in
set_option maxRecDepth 100000 in
theorem B_X12_take_34 {d : Nat} {ro : Nat → Nat} {J : JT} {Z : Option Value → Hp → Prop} (g : xCtx RX12 cX12_take 8 d 0 0 yX12_take.name ro J) (hr : xRet cX12_take (some .int) 0 0 Z J) {μ : Hp} {a0 : Nat} {x5 : Int32} {x6 : Int32} {x7 : Int32} {a0_way : Nat} {N_a0_way : Nat} {a0_firm : Nat} {N_a0_firm : Nat} {a0_dues : Nat} {N_a0_dues : Nat} {a0_held : Nat} {N_a0_held : Nat} (hs_a0 : hS μ a0 = some (15, 65)) (hr_a0_way : hR μ a0 43 = some a0_way) (hs_a0_way : hS μ a0_way = some (0, N_a0_way)) (hr_a0_firm : hR μ a0 10 = some a0_firm) (hs_a0_firm : hS μ a0_firm = some (0, N_a0_firm)) (hr_a0_dues : hR μ a0 48 = some a0_dues) (hs_a0_dues : hS μ a0_dues = some (0, N_a0_dues)) (hr_a0_held : hR μ a0 47 = some a0_held) (hs_a0_held : hS μ a0_held = some (0, N_a0_held)) (hd9 : 1 ≤ d)
    (h : (((hI μ a0 50) ≤ x7 → Z (some (.int x6)) μ) ∧ (¬ (hI μ a0 50) ≤ x7 → vp_in x7 N_a0_way ∧ vp_in (2 * (hI μ a0_way x7.toNatClampNeg)) N_a0_firm ∧ (∀ v6 : Int32, v6 = (hI μ a0_firm ((2 * (hI μ a0_way x7.toNatClampNeg)).toNatClampNeg)) → ((¬ v6 = x5 → ((((hI μ a0 50) - 1) ≤ x7 → J μ 0 0 34 [(0, .ref a0), (5, .int x5), (6, .int ((x6 + 0) + 0)), (7, .int (x7 + 1))] []) ∧ (¬ ((hI μ a0 50) - 1) ≤ x7 → vp_in (x7 + 1) N_a0_way ∧ vp_in (2 * (hI μ a0_way ((x7 + 1).toNatClampNeg))) N_a0_firm ∧ (∀ v13 : Int32, v13 = (hI μ a0_firm ((2 * (hI μ a0_way ((x7 + 1).toNatClampNeg))).toNatClampNeg)) → ((¬ v13 = x5 → J μ 0 0 34 [(0, .ref a0), (5, .int x5), (6, .int ((x6 + 0) + 0)), (7, .int (x7 + 1))] []) ∧ (v13 = x5 → vp_in x7 N_a0_dues ∧ J μ 0 0 34 [(0, .ref a0), (5, .int x5), (6, .int ((x6 + 0) + (hI μ a0_dues x7.toNatClampNeg))), (7, .int (x7 + 1))] [])))))) ∧ (v6 = x5 → vp_in x7 N_a0_held ∧ ((((hI μ a0 50) - 1) ≤ x7 → J μ 0 0 34 [(0, .ref a0), (5, .int x5), (6, .int ((x6 + (hI μ a0_held x7.toNatClampNeg)) + 0)), (7, .int (x7 + 1))] []) ∧ (¬ ((hI μ a0 50) - 1) ≤ x7 → vp_in (x7 + 1) N_a0_way ∧ vp_in (2 * (hI μ a0_way ((x7 + 1).toNatClampNeg))) N_a0_firm ∧ (∀ v22 : Int32, v22 = (hI μ a0_firm ((2 * (hI μ a0_way ((x7 + 1).toNatClampNeg))).toNatClampNeg)) → ((¬ v22 = x5 → J μ 0 0 34 [(0, .ref a0), (5, .int x5), (6, .int ((x6 + (hI μ a0_held x7.toNatClampNeg)) + 0)), (7, .int (x7 + 1))] []) ∧ (v22 = x5 → vp_in x7 N_a0_dues ∧ (∀ v25 : Int32, v25 = ((x6 + (hI μ a0_held x7.toNatClampNeg)) + (hI μ a0_dues x7.toNatClampNeg)) → J μ 0 0 34 [(0, .ref a0), (5, .int x5), (6, .int v25), (7, .int (x7 + 1))] [])))))))))))) :
    J μ 0 0 34 [(0, .ref a0), (5, .int x5), (6, .int x6), (7, .int x7)] [] := by
  refine r_iload g dX12_take_34 rfl ?_
  refine r_aload_n g dX12_take_36 rfl ?_
  refine r_getI g fX12_306 rfl hs_a0 dX12_take_37 ?_
  refine r_icmp_ge g 126 dX12_take_40 (by decide) (fun c1 => ?_) (fun c1 => ?_)
  · replace h := h.1 c1
    refine r_iload g dX12_take_126 rfl ?_
    exact hr.2.1 _ rfl _ _ _ _ _ _ dX12_take_128 rfl (Nat.le_refl 0) (Nat.le_refl 0) h
  · replace h := h.2 c1
    refine r_iload g dX12_take_43 rfl ?_
    refine r_aload_n g dX12_take_45 rfl ?_
    refine r_aload_n g dX12_take_46 rfl ?_
    refine r_getR g fX12_79 rfl hs_a0 hr_a0_way dX12_take_47 ?_
    refine r_iload g dX12_take_50 rfl ?_
    obtain ⟨hi2, h⟩ := h
    refine r_iaload g hs_a0_way hi2 dX12_take_52 ?_
    obtain ⟨hi3, h⟩ := h
    refine r_callV (st := [.int x6]) (As := [.int (hI μ a0_way x7.toNatClampNeg)]) g sX12_280 iX12_landOf eX12_landOf rfl hs_a0 rfl (Nat.le_of_ble_eq_true rfl) dX12_take_53 (by omega) (Nat.le_refl 0) (Nat.le_refl 0) (P_X12_landOf_0 (d := d - 1) hs_a0 hr_a0_firm hs_a0_firm hi3) (fun r4 μ5 hZ1 => ?_)
    obtain ⟨rfl, e9⟩ := hZ1
    replace e9 := e9.symm
    subst e9
    refine r_nmI (fun v6 ev6 => ?_)
    replace h := h v6 ev6
    refine r_iload g dX12_take_56 rfl ?_
    refine r_icmp_ne g 71 dX12_take_58 (by decide) (fun c7 => ?_) (fun c7 => ?_)
    · replace h := h.1 c7
      refine r_iconst g 0 dX12_take_71 (by decide) ?_
      refine r_iadd g dX12_take_72 ?_
      refine r_istore g [(6, .int (x6 + 0)), (0, .ref a0), (5, .int x5), (7, .int x7)] dX12_take_73 (by decide) rfl ?_
      refine r_iload g dX12_take_75 rfl ?_
      refine r_iload g dX12_take_77 rfl ?_
      refine r_aload_n g dX12_take_79 rfl ?_
      refine r_getI g fX12_306 rfl hs_a0 dX12_take_80 ?_
      refine r_iconst g 1 dX12_take_83 (by decide) ?_
      refine r_isub g dX12_take_84 ?_
      refine r_icmp_ge g 116 dX12_take_85 (by decide) (fun c8 => ?_) (fun c8 => ?_)
      · replace h := h.1 c8
        refine r_iconst g 0 dX12_take_116 (by decide) ?_
        refine r_iadd g dX12_take_117 ?_
        refine r_istore g [(6, .int ((x6 + 0) + 0)), (0, .ref a0), (5, .int x5), (7, .int x7)] dX12_take_118 (by decide) rfl ?_
        refine r_iinc g (x7 + 1) [(7, .int (x7 + 1)), (6, .int ((x6 + 0) + 0)), (0, .ref a0), (5, .int x5)] dX12_take_120 rfl rfl (by decide) rfl ?_
        refine r_goto g 34 dX12_take_123 (by decide) ?_
        refine r_sub g (lv' := [(0, .ref a0), (5, .int x5), (6, .int ((x6 + 0) + 0)), (7, .int (x7 + 1))]) (⟨rfl, rfl, rfl, rfl, trivial⟩) ?_
        exact h
      · replace h := h.2 c8
        refine r_aload_n g dX12_take_88 rfl ?_
        refine r_aload_n g dX12_take_89 rfl ?_
        refine r_getR g fX12_79 rfl hs_a0 hr_a0_way dX12_take_90 ?_
        refine r_iload g dX12_take_93 rfl ?_
        refine r_iconst g 1 dX12_take_95 (by decide) ?_
        refine r_iadd g dX12_take_96 ?_
        obtain ⟨hi9, h⟩ := h
        refine r_iaload g hs_a0_way hi9 dX12_take_97 ?_
        obtain ⟨hi10, h⟩ := h
        refine r_callV (st := [.int (x6 + 0)]) (As := [.int (hI μ a0_way ((x7 + 1).toNatClampNeg))]) g sX12_280 iX12_landOf eX12_landOf rfl hs_a0 rfl (Nat.le_of_ble_eq_true rfl) dX12_take_98 (by omega) (Nat.le_refl 0) (Nat.le_refl 0) (P_X12_landOf_0 (d := d - 1) hs_a0 hr_a0_firm hs_a0_firm hi10) (fun r11 μ12 hZ1 => ?_)
        obtain ⟨rfl, e9⟩ := hZ1
        replace e9 := e9.symm
        subst e9
        refine r_nmI (fun v13 ev13 => ?_)
        replace h := h v13 ev13
        refine r_iload g dX12_take_101 rfl ?_
        refine r_icmp_ne g 116 dX12_take_103 (by decide) (fun c14 => ?_) (fun c14 => ?_)
        · replace h := h.1 c14
          refine r_iconst g 0 dX12_take_116 (by decide) ?_
          refine r_iadd g dX12_take_117 ?_
          refine r_istore g [(6, .int ((x6 + 0) + 0)), (0, .ref a0), (5, .int x5), (7, .int x7)] dX12_take_118 (by decide) rfl ?_
          refine r_iinc g (x7 + 1) [(7, .int (x7 + 1)), (6, .int ((x6 + 0) + 0)), (0, .ref a0), (5, .int x5)] dX12_take_120 rfl rfl (by decide) rfl ?_
          refine r_goto g 34 dX12_take_123 (by decide) ?_
          refine r_sub g (lv' := [(0, .ref a0), (5, .int x5), (6, .int ((x6 + 0) + 0)), (7, .int (x7 + 1))]) (⟨rfl, rfl, rfl, rfl, trivial⟩) ?_
          exact h
        · replace h := h.2 c14
          refine r_aload_n g dX12_take_106 rfl ?_
          refine r_getR g fX12_94 rfl hs_a0 hr_a0_dues dX12_take_107 ?_
          refine r_iload g dX12_take_110 rfl ?_
          obtain ⟨hi15, h⟩ := h
          refine r_iaload g hs_a0_dues hi15 dX12_take_112 ?_
          refine r_goto g 117 dX12_take_113 (by decide) ?_
          refine r_iadd g dX12_take_117 ?_
          refine r_istore g [(6, .int ((x6 + 0) + (hI μ a0_dues x7.toNatClampNeg))), (0, .ref a0), (5, .int x5), (7, .int x7)] dX12_take_118 (by decide) rfl ?_
          refine r_iinc g (x7 + 1) [(7, .int (x7 + 1)), (6, .int ((x6 + 0) + (hI μ a0_dues x7.toNatClampNeg))), (0, .ref a0), (5, .int x5)] dX12_take_120 rfl rfl (by decide) rfl ?_
          refine r_goto g 34 dX12_take_123 (by decide) ?_
          refine r_sub g (lv' := [(0, .ref a0), (5, .int x5), (6, .int ((x6 + 0) + (hI μ a0_dues x7.toNatClampNeg))), (7, .int (x7 + 1))]) (⟨rfl, rfl, rfl, rfl, trivial⟩) ?_
          exact h
    · replace h := h.2 c7
      refine r_aload_n g dX12_take_61 rfl ?_
      refine r_getR g fX12_91 rfl hs_a0 hr_a0_held dX12_take_62 ?_
      refine r_iload g dX12_take_65 rfl ?_
      obtain ⟨hi16, h⟩ := h
      refine r_iaload g hs_a0_held hi16 dX12_take_67 ?_
      refine r_goto g 72 dX12_take_68 (by decide) ?_
      refine r_iadd g dX12_take_72 ?_
      refine r_istore g [(6, .int (x6 + (hI μ a0_held x7.toNatClampNeg))), (0, .ref a0), (5, .int x5), (7, .int x7)] dX12_take_73 (by decide) rfl ?_
      refine r_iload g dX12_take_75 rfl ?_
      refine r_iload g dX12_take_77 rfl ?_
      refine r_aload_n g dX12_take_79 rfl ?_
      refine r_getI g fX12_306 rfl hs_a0 dX12_take_80 ?_
      refine r_iconst g 1 dX12_take_83 (by decide) ?_
      refine r_isub g dX12_take_84 ?_
      refine r_icmp_ge g 116 dX12_take_85 (by decide) (fun c17 => ?_) (fun c17 => ?_)
      · replace h := h.1 c17
        refine r_iconst g 0 dX12_take_116 (by decide) ?_
        refine r_iadd g dX12_take_117 ?_
        refine r_istore g [(6, .int ((x6 + (hI μ a0_held x7.toNatClampNeg)) + 0)), (0, .ref a0), (5, .int x5), (7, .int x7)] dX12_take_118 (by decide) rfl ?_
        refine r_iinc g (x7 + 1) [(7, .int (x7 + 1)), (6, .int ((x6 + (hI μ a0_held x7.toNatClampNeg)) + 0)), (0, .ref a0), (5, .int x5)] dX12_take_120 rfl rfl (by decide) rfl ?_
        refine r_goto g 34 dX12_take_123 (by decide) ?_
        refine r_sub g (lv' := [(0, .ref a0), (5, .int x5), (6, .int ((x6 + (hI μ a0_held x7.toNatClampNeg)) + 0)), (7, .int (x7 + 1))]) (⟨rfl, rfl, rfl, rfl, trivial⟩) ?_
        exact h
      · replace h := h.2 c17
        refine r_aload_n g dX12_take_88 rfl ?_
        refine r_aload_n g dX12_take_89 rfl ?_
        refine r_getR g fX12_79 rfl hs_a0 hr_a0_way dX12_take_90 ?_
        refine r_iload g dX12_take_93 rfl ?_
        refine r_iconst g 1 dX12_take_95 (by decide) ?_
        refine r_iadd g dX12_take_96 ?_
        obtain ⟨hi18, h⟩ := h
        refine r_iaload g hs_a0_way hi18 dX12_take_97 ?_
        obtain ⟨hi19, h⟩ := h
        refine r_callV (st := [.int (x6 + (hI μ a0_held x7.toNatClampNeg))]) (As := [.int (hI μ a0_way ((x7 + 1).toNatClampNeg))]) g sX12_280 iX12_landOf eX12_landOf rfl hs_a0 rfl (Nat.le_of_ble_eq_true rfl) dX12_take_98 (by omega) (Nat.le_refl 0) (Nat.le_refl 0) (P_X12_landOf_0 (d := d - 1) hs_a0 hr_a0_firm hs_a0_firm hi19) (fun r20 μ21 hZ1 => ?_)
        obtain ⟨rfl, e9⟩ := hZ1
        replace e9 := e9.symm
        subst e9
        refine r_nmI (fun v22 ev22 => ?_)
        replace h := h v22 ev22
        refine r_iload g dX12_take_101 rfl ?_
        refine r_icmp_ne g 116 dX12_take_103 (by decide) (fun c23 => ?_) (fun c23 => ?_)
        · replace h := h.1 c23
          refine r_iconst g 0 dX12_take_116 (by decide) ?_
          refine r_iadd g dX12_take_117 ?_
          refine r_istore g [(6, .int ((x6 + (hI μ a0_held x7.toNatClampNeg)) + 0)), (0, .ref a0), (5, .int x5), (7, .int x7)] dX12_take_118 (by decide) rfl ?_
          refine r_iinc g (x7 + 1) [(7, .int (x7 + 1)), (6, .int ((x6 + (hI μ a0_held x7.toNatClampNeg)) + 0)), (0, .ref a0), (5, .int x5)] dX12_take_120 rfl rfl (by decide) rfl ?_
          refine r_goto g 34 dX12_take_123 (by decide) ?_
          refine r_sub g (lv' := [(0, .ref a0), (5, .int x5), (6, .int ((x6 + (hI μ a0_held x7.toNatClampNeg)) + 0)), (7, .int (x7 + 1))]) (⟨rfl, rfl, rfl, rfl, trivial⟩) ?_
          exact h
        · replace h := h.2 c23
          refine r_aload_n g dX12_take_106 rfl ?_
          refine r_getR g fX12_94 rfl hs_a0 hr_a0_dues dX12_take_107 ?_
          refine r_iload g dX12_take_110 rfl ?_
          obtain ⟨hi24, h⟩ := h
          refine r_iaload g hs_a0_dues hi24 dX12_take_112 ?_
          refine r_goto g 117 dX12_take_113 (by decide) ?_
          refine r_iadd g dX12_take_117 ?_
          refine r_nmI (fun v25 ev25 => ?_)
          replace h := h v25 ev25
          refine r_istore g [(6, .int v25), (0, .ref a0), (5, .int x5), (7, .int x7)] dX12_take_118 (by decide) rfl ?_
          refine r_iinc g (x7 + 1) [(7, .int (x7 + 1)), (6, .int v25), (0, .ref a0), (5, .int x5)] dX12_take_120 rfl rfl (by decide) rfl ?_
          refine r_goto g 34 dX12_take_123 (by decide) ?_
          refine r_sub g (lv' := [(0, .ref a0), (5, .int x5), (6, .int v25), (7, .int (x7 + 1))]) (⟨rfl, rfl, rfl, rfl, trivial⟩) ?_
          exact h
theorem I_X12_take {d : Nat} {ro : Nat → Nat} {Z : Option Value → Hp → Prop} {μ : Hp} {a0 : Nat} {x1 : Int32} {x2 : Int32} {x3 : Int32} {x4 : Int32} {x5 : Int32} (h : ∀ J, xCtx RX12 cX12_take 8 d 0 0 yX12_take.name ro J → xRet cX12_take (some .int) 0 0 Z J → J μ 0 0 0 [(0, .ref a0), (1, .int x1), (2, .int x2), (3, .int x3), (4, .int x4), (5, .int x5)] []) : xC d yX12_take cX12_take 8 (some .int) 0 0 [.ref a0, .int x1, .int x2, .int x3, .int x4, .int x5] μ ro Z :=
  xC_intro (own := RX12) (lv := [(0, .ref a0), (1, .int x1), (2, .int x2), (3, .int x3), (4, .int x4), (5, .int x5)]) (by decide) rfl (Nat.le_of_ble_eq_true rfl) rfl (fun J g hr => r_sub g (lv' := [(0, .ref a0), (1, .int x1), (2, .int x2), (3, .int x3), (4, .int x4), (5, .int x5)]) (⟨rfl, rfl, rfl, rfl, rfl, rfl, trivial⟩) (h J g hr))
theorem dX12_twice_0 : decode cX12_twice 0 = .ok (.aload_n 0, 1) := by decide +kernel
theorem dX12_twice_1 : decode cX12_twice 1 = .ok (.iconst 0, 1) := by decide +kernel
theorem dX12_twice_2 : decode cX12_twice 2 = .ok (.putfield 106, 3) := by decide +kernel
theorem dX12_twice_5 : decode cX12_twice 5 = .ok (.aload_n 0, 1) := by decide +kernel
theorem dX12_twice_6 : decode cX12_twice 6 = .ok (.iload_n 1, 1) := by decide +kernel
theorem dX12_twice_7 : decode cX12_twice 7 = .ok (.iload_n 2, 1) := by decide +kernel
theorem dX12_twice_8 : decode cX12_twice 8 = .ok (.iload_n 3, 1) := by decide +kernel
theorem dX12_twice_9 : decode cX12_twice 9 = .ok (.iload 4, 2) := by decide +kernel
theorem dX12_twice_11 : decode cX12_twice 11 = .ok (.invokevirtual 470, 3) := by decide +kernel
theorem dX12_twice_14 : decode cX12_twice 14 = .ok (.ifCond .ne 5, 3) := by decide +kernel
theorem dX12_twice_17 : decode cX12_twice 17 = .ok (.iconst (-1), 1) := by decide +kernel
theorem dX12_twice_18 : decode cX12_twice 18 = .ok (.ireturn, 1) := by decide +kernel
theorem dX12_twice_19 : decode cX12_twice 19 = .ok (.aload_n 0, 1) := by decide +kernel
theorem dX12_twice_20 : decode cX12_twice 20 = .ok (.getfield 57, 3) := by decide +kernel
theorem dX12_twice_23 : decode cX12_twice 23 = .ok (.iconst 0, 1) := by decide +kernel
theorem dX12_twice_24 : decode cX12_twice 24 = .ok (.aload_n 0, 1) := by decide +kernel
theorem dX12_twice_25 : decode cX12_twice 25 = .ok (.getfield 60, 3) := by decide +kernel
theorem dX12_twice_28 : decode cX12_twice 28 = .ok (.iconst 0, 1) := by decide +kernel
theorem dX12_twice_29 : decode cX12_twice 29 = .ok (.invokestatic 408, 3) := by decide +kernel
theorem dX12_twice_32 : decode cX12_twice 32 = .ok (.aload_n 0, 1) := by decide +kernel
theorem dX12_twice_33 : decode cX12_twice 33 = .ok (.aload_n 0, 1) := by decide +kernel
theorem dX12_twice_34 : decode cX12_twice 34 = .ok (.getfield 60, 3) := by decide +kernel
theorem dX12_twice_37 : decode cX12_twice 37 = .ok (.iload_n 1, 1) := by decide +kernel
theorem dX12_twice_38 : decode cX12_twice 38 = .ok (.iload_n 2, 1) := by decide +kernel
theorem dX12_twice_39 : decode cX12_twice 39 = .ok (.iload_n 3, 1) := by decide +kernel
theorem dX12_twice_40 : decode cX12_twice 40 = .ok (.iload 4, 2) := by decide +kernel
theorem dX12_twice_42 : decode cX12_twice 42 = .ok (.invokevirtual 381, 3) := by decide +kernel
theorem dX12_twice_45 : decode cX12_twice 45 = .ok (.aload_n 0, 1) := by decide +kernel
theorem dX12_twice_46 : decode cX12_twice 46 = .ok (.getfield 321, 3) := by decide +kernel
theorem dX12_twice_49 : decode cX12_twice 49 = .ok (.istore 5, 2) := by decide +kernel
theorem dX12_twice_51 : decode cX12_twice 51 = .ok (.aload_n 0, 1) := by decide +kernel
theorem dX12_twice_52 : decode cX12_twice 52 = .ok (.aload_n 0, 1) := by decide +kernel
theorem dX12_twice_53 : decode cX12_twice 53 = .ok (.getfield 60, 3) := by decide +kernel
theorem dX12_twice_56 : decode cX12_twice 56 = .ok (.iload_n 1, 1) := by decide +kernel
theorem dX12_twice_57 : decode cX12_twice 57 = .ok (.iload_n 2, 1) := by decide +kernel
theorem dX12_twice_58 : decode cX12_twice 58 = .ok (.iload_n 3, 1) := by decide +kernel
theorem dX12_twice_59 : decode cX12_twice 59 = .ok (.iload 4, 2) := by decide +kernel
theorem dX12_twice_61 : decode cX12_twice 61 = .ok (.invokevirtual 381, 3) := by decide +kernel
theorem dX12_twice_64 : decode cX12_twice 64 = .ok (.iload 5, 2) := by decide +kernel
theorem dX12_twice_66 : decode cX12_twice 66 = .ok (.aload_n 0, 1) := by decide +kernel
theorem dX12_twice_67 : decode cX12_twice 67 = .ok (.getfield 321, 3) := by decide +kernel
theorem dX12_twice_70 : decode cX12_twice 70 = .ok (.iadd, 1) := by decide +kernel
theorem dX12_twice_71 : decode cX12_twice 71 = .ok (.ireturn, 1) := by decide +kernel
set_option maxHeartbeats 4000000 in
set_option maxRecDepth 100000 in
theorem B_X12_twice_0 {d : Nat} {ro : Nat → Nat} {J : JT} {Z : Option Value → Hp → Prop} (g : xCtx RX12 cX12_twice 6 d 0 0 yX12_twice.name ro J) (hr : xRet cX12_twice (some .int) 0 0 Z J) {μ : Hp} {a0 : Nat} {x1 : Int32} {x2 : Int32} {x3 : Int32} {x4 : Int32} (hs_a0 : hS μ a0 = some (15, 65))
    (h : xCall d yX12_finds cX12_finds 5 (some .boolean) [.ref a0, .int x1, .int x2, .int x3, .int x4] (wI μ a0 0 0) ro (fun r1 μ2 => ∃ y3 : Int32, r1 = some (.int y3) ∧ ((¬ y3 = 0 → hS μ2 a0 = some (15, 65) ∧ ∃ now_5 : Nat, hR μ2 a0 30 = some now_5 ∧ ∃ trial_6 : Nat, hR μ2 a0 31 = some trial_6 ∧ xCall d yX12_copyRow cX12_copyRow 5 none [.ref now_5, .int 0, .ref trial_6, .int 0] μ2 ro (fun r7 μ8 => r7 = none ∧ hS μ8 a0 = some (15, 65) ∧ ∃ trial_9 : Nat, hR μ8 a0 31 = some trial_9 ∧ xCall d yX12_pays cX12_pays 8 none [.ref a0, .ref trial_9, .int x1, .int x2, .int x3, .int x4] μ8 ro (fun r10 μ11 => r10 = none ∧ hS μ11 a0 = some (15, 65) ∧ ∃ trial_12 : Nat, hR μ11 a0 31 = some trial_12 ∧ xCall d yX12_pays cX12_pays 8 none [.ref a0, .ref trial_12, .int x1, .int x2, .int x3, .int x4] μ11 ro (fun r13 μ14 => r13 = none ∧ hS μ14 a0 = some (15, 65) ∧ Z (some (.int ((hI μ11 a0 51) + (hI μ14 a0 51)))) μ14)))) ∧ (y3 = 0 → Z (some (.int (-1))) μ2)))) :
    J μ 0 0 0 [(0, .ref a0), (1, .int x1), (2, .int x2), (3, .int x3), (4, .int x4)] [] := by
  refine r_aload_n g dX12_twice_0 rfl ?_
  refine r_iconst g 0 dX12_twice_1 (by decide) ?_
  refine r_putI g fX12_106 rfl hs_a0 rfl rfl dX12_twice_2 ?_
  refine r_aload_n g dX12_twice_5 rfl ?_
  refine r_iload_n g dX12_twice_6 rfl ?_
  refine r_iload_n g dX12_twice_7 rfl ?_
  refine r_iload_n g dX12_twice_8 rfl ?_
  refine r_iload g dX12_twice_9 rfl ?_
  obtain ⟨d1, Z1, hc1, hd1, h1⟩ := h
  refine r_callV (st := []) (As := [.int x1, .int x2, .int x3, .int x4]) g sX12_470 iX12_finds eX12_finds rfl hs_a0 rfl (Nat.le_of_ble_eq_true rfl) dX12_twice_11 hd1 (Nat.le_refl 0) (Nat.le_refl 0) hc1 (fun r1 μ2 hZ1 => ?_)
  replace h := h1 _ _ hZ1
  clear h1 hc1 hd1 hZ1 Z1 d1
  obtain ⟨y3, rfl, h⟩ := h
  refine r_if_ne g 19 dX12_twice_14 (by decide) (fun c4 => ?_) (fun c4 => ?_)
  · replace h := h.1 c4
    refine r_aload_n g dX12_twice_19 rfl ?_
    obtain ⟨hs_a0_, h⟩ := h
    obtain ⟨now_5, hr_now_5, h⟩ := h
    refine r_getR g fX12_57 rfl hs_a0_ hr_now_5 dX12_twice_20 ?_
    refine r_iconst g 0 dX12_twice_23 (by decide) ?_
    refine r_aload_n g dX12_twice_24 rfl ?_
    obtain ⟨trial_6, hr_trial_6, h⟩ := h
    refine r_getR g fX12_60 rfl hs_a0_ hr_trial_6 dX12_twice_25 ?_
    refine r_iconst g 0 dX12_twice_28 (by decide) ?_
    obtain ⟨d1, Z1, hc1, hd1, h1⟩ := h
    refine r_callS (st := []) (As := [.ref now_5, .int 0, .ref trial_6, .int 0]) g sX12_408 iX12_copyRow rfl (Nat.le_of_ble_eq_true rfl) dX12_twice_29 hd1 (Nat.le_refl 0) (Nat.le_refl 0) hc1 (fun r7 μ8 hZ1 => ?_)
    replace h := h1 _ _ hZ1
    clear h1 hc1 hd1 hZ1 Z1 d1
    obtain ⟨rfl, h⟩ := h
    refine r_aload_n g dX12_twice_32 rfl ?_
    refine r_aload_n g dX12_twice_33 rfl ?_
    obtain ⟨hs_a0__, h⟩ := h
    obtain ⟨trial_9, hr_trial_9, h⟩ := h
    refine r_getR g fX12_60 rfl hs_a0__ hr_trial_9 dX12_twice_34 ?_
    refine r_iload_n g dX12_twice_37 rfl ?_
    refine r_iload_n g dX12_twice_38 rfl ?_
    refine r_iload_n g dX12_twice_39 rfl ?_
    refine r_iload g dX12_twice_40 rfl ?_
    obtain ⟨d1, Z1, hc1, hd1, h1⟩ := h
    refine r_callV (st := []) (As := [.ref trial_9, .int x1, .int x2, .int x3, .int x4]) g sX12_381 iX12_pays eX12_pays rfl hs_a0__ rfl (Nat.le_of_ble_eq_true rfl) dX12_twice_42 hd1 (Nat.le_refl 0) (Nat.le_refl 0) hc1 (fun r10 μ11 hZ1 => ?_)
    replace h := h1 _ _ hZ1
    clear h1 hc1 hd1 hZ1 Z1 d1
    obtain ⟨rfl, h⟩ := h
    refine r_aload_n g dX12_twice_45 rfl ?_
    obtain ⟨hs_a0___, h⟩ := h
    refine r_getI g fX12_321 rfl hs_a0___ dX12_twice_46 ?_
    refine r_istore g [(5, .int (hI μ11 a0 51)), (0, .ref a0), (1, .int x1), (2, .int x2), (3, .int x3), (4, .int x4)] dX12_twice_49 (by decide) rfl ?_
    refine r_aload_n g dX12_twice_51 rfl ?_
    refine r_aload_n g dX12_twice_52 rfl ?_
    obtain ⟨trial_12, hr_trial_12, h⟩ := h
    refine r_getR g fX12_60 rfl hs_a0___ hr_trial_12 dX12_twice_53 ?_
    refine r_iload_n g dX12_twice_56 rfl ?_
    refine r_iload_n g dX12_twice_57 rfl ?_
    refine r_iload_n g dX12_twice_58 rfl ?_
    refine r_iload g dX12_twice_59 rfl ?_
    obtain ⟨d1, Z1, hc1, hd1, h1⟩ := h
    refine r_callV (st := []) (As := [.ref trial_12, .int x1, .int x2, .int x3, .int x4]) g sX12_381 iX12_pays eX12_pays rfl hs_a0___ rfl (Nat.le_of_ble_eq_true rfl) dX12_twice_61 hd1 (Nat.le_refl 0) (Nat.le_refl 0) hc1 (fun r13 μ14 hZ1 => ?_)
    replace h := h1 _ _ hZ1
    clear h1 hc1 hd1 hZ1 Z1 d1
    obtain ⟨rfl, h⟩ := h
    refine r_iload g dX12_twice_64 rfl ?_
    refine r_aload_n g dX12_twice_66 rfl ?_
    obtain ⟨hs_a0____, h⟩ := h
    refine r_getI g fX12_321 rfl hs_a0____ dX12_twice_67 ?_
    refine r_iadd g dX12_twice_70 ?_
    exact hr.2.1 _ rfl _ _ _ _ _ _ dX12_twice_71 rfl (Nat.le_refl 0) (Nat.le_refl 0) h
  · replace h := h.2 c4
    refine r_iconst g (-1) dX12_twice_17 (by decide) ?_
    exact hr.2.1 _ rfl _ _ _ _ _ _ dX12_twice_18 rfl (Nat.le_refl 0) (Nat.le_refl 0) h
theorem I_X12_twice {d : Nat} {ro : Nat → Nat} {Z : Option Value → Hp → Prop} {μ : Hp} {a0 : Nat} {x1 : Int32} {x2 : Int32} {x3 : Int32} {x4 : Int32} (h : ∀ J, xCtx RX12 cX12_twice 6 d 0 0 yX12_twice.name ro J → xRet cX12_twice (some .int) 0 0 Z J → J μ 0 0 0 [(0, .ref a0), (1, .int x1), (2, .int x2), (3, .int x3), (4, .int x4)] []) : xC d yX12_twice cX12_twice 6 (some .int) 0 0 [.ref a0, .int x1, .int x2, .int x3, .int x4] μ ro Z :=
  xC_intro (own := RX12) (lv := [(0, .ref a0), (1, .int x1), (2, .int x2), (3, .int x3), (4, .int x4)]) (by decide) rfl (Nat.le_of_ble_eq_true rfl) rfl (fun J g hr => r_sub g (lv' := [(0, .ref a0), (1, .int x1), (2, .int x2), (3, .int x3), (4, .int x4)]) (⟨rfl, rfl, rfl, rfl, rfl, trivial⟩) (h J g hr))
theorem dX12_brings__0 : decode cX12_brings_ 0 = .ok (.aload_n 0, 1) := by decide +kernel
theorem dX12_brings__1 : decode cX12_brings_ 1 = .ok (.aload_n 0, 1) := by decide +kernel
theorem dX12_brings__2 : decode cX12_brings_ 2 = .ok (.getfield 57, 3) := by decide +kernel
theorem dX12_brings__5 : decode cX12_brings_ 5 = .ok (.iload_n 1, 1) := by decide +kernel
theorem dX12_brings__6 : decode cX12_brings_ 6 = .ok (.iload_n 2, 1) := by decide +kernel
theorem dX12_brings__7 : decode cX12_brings_ 7 = .ok (.iload_n 3, 1) := by decide +kernel
theorem dX12_brings__8 : decode cX12_brings_ 8 = .ok (.iload 4, 2) := by decide +kernel
theorem dX12_brings__10 : decode cX12_brings_ 10 = .ok (.iconst 0, 1) := by decide +kernel
theorem dX12_brings__11 : decode cX12_brings_ 11 = .ok (.invokevirtual 361, 3) := by decide +kernel
theorem dX12_brings__14 : decode cX12_brings_ 14 = .ok (.ifCond .eq 16, 3) := by decide +kernel
theorem dX12_brings__17 : decode cX12_brings_ 17 = .ok (.aload_n 0, 1) := by decide +kernel
theorem dX12_brings__18 : decode cX12_brings_ 18 = .ok (.getfield 321, 3) := by decide +kernel
theorem dX12_brings__21 : decode cX12_brings_ 21 = .ok (.iload 5, 2) := by decide +kernel
theorem dX12_brings__23 : decode cX12_brings_ 23 = .ok (.if_icmp .lt 7, 3) := by decide +kernel
theorem dX12_brings__26 : decode cX12_brings_ 26 = .ok (.iconst 1, 1) := by decide +kernel
theorem dX12_brings__27 : decode cX12_brings_ 27 = .ok (.goto 4, 3) := by decide +kernel
theorem dX12_brings__30 : decode cX12_brings_ 30 = .ok (.iconst 0, 1) := by decide +kernel
theorem dX12_brings__31 : decode cX12_brings_ 31 = .ok (.ireturn, 1) := by decide +kernel
set_option maxHeartbeats 4000000 in
set_option maxRecDepth 100000 in
theorem B_X12_brings__0 {d : Nat} {ro : Nat → Nat} {J : JT} {Z : Option Value → Hp → Prop} (g : xCtx RX12 cX12_brings_ 6 d 0 0 yX12_brings_.name ro J) (hr : xRet cX12_brings_ (some .boolean) 0 0 Z J) {μ : Hp} {a0 : Nat} {x1 : Int32} {x2 : Int32} {x3 : Int32} {x4 : Int32} {x5 : Int32} {a0_now : Nat} (hs_a0 : hS μ a0 = some (15, 65)) (hr_a0_now : hR μ a0 30 = some a0_now)
    (h : xCall d yX12_searches cX12_searches 8 (some .boolean) [.ref a0, .ref a0_now, .int x1, .int x2, .int x3, .int x4, .int 0] μ ro (fun r1 μ2 => ∃ y3 : Int32, r1 = some (.int y3) ∧ ((y3 = 0 → Z (some (.int 0)) μ2) ∧ (¬ y3 = 0 → hS μ2 a0 = some (15, 65) ∧ (((hI μ2 a0 51) < x5 → Z (some (.int 0)) μ2) ∧ (¬ (hI μ2 a0 51) < x5 → Z (some (.int 1)) μ2)))))) :
    J μ 0 0 0 [(0, .ref a0), (1, .int x1), (2, .int x2), (3, .int x3), (4, .int x4), (5, .int x5)] [] := by
  refine r_aload_n g dX12_brings__0 rfl ?_
  refine r_aload_n g dX12_brings__1 rfl ?_
  refine r_getR g fX12_57 rfl hs_a0 hr_a0_now dX12_brings__2 ?_
  refine r_iload_n g dX12_brings__5 rfl ?_
  refine r_iload_n g dX12_brings__6 rfl ?_
  refine r_iload_n g dX12_brings__7 rfl ?_
  refine r_iload g dX12_brings__8 rfl ?_
  refine r_iconst g 0 dX12_brings__10 (by decide) ?_
  obtain ⟨d1, Z1, hc1, hd1, h1⟩ := h
  refine r_callV (st := []) (As := [.ref a0_now, .int x1, .int x2, .int x3, .int x4, .int 0]) g sX12_361 iX12_searches eX12_searches rfl hs_a0 rfl (Nat.le_of_ble_eq_true rfl) dX12_brings__11 hd1 (Nat.le_refl 0) (Nat.le_refl 0) hc1 (fun r1 μ2 hZ1 => ?_)
  replace h := h1 _ _ hZ1
  clear h1 hc1 hd1 hZ1 Z1 d1
  obtain ⟨y3, rfl, h⟩ := h
  refine r_if_eq g 30 dX12_brings__14 (by decide) (fun c4 => ?_) (fun c4 => ?_)
  · replace h := h.1 c4
    refine r_iconst g 0 dX12_brings__30 (by decide) ?_
    exact hr.2.1 _ rfl _ _ _ _ _ _ dX12_brings__31 (by decide) (Nat.le_refl 0) (Nat.le_refl 0) h
  · replace h := h.2 c4
    refine r_aload_n g dX12_brings__17 rfl ?_
    obtain ⟨hs_a0_, h⟩ := h
    refine r_getI g fX12_321 rfl hs_a0_ dX12_brings__18 ?_
    refine r_iload g dX12_brings__21 rfl ?_
    refine r_icmp_lt g 30 dX12_brings__23 (by decide) (fun c5 => ?_) (fun c5 => ?_)
    · replace h := h.1 c5
      refine r_iconst g 0 dX12_brings__30 (by decide) ?_
      exact hr.2.1 _ rfl _ _ _ _ _ _ dX12_brings__31 (by decide) (Nat.le_refl 0) (Nat.le_refl 0) h
    · replace h := h.2 c5
      refine r_iconst g 1 dX12_brings__26 (by decide) ?_
      refine r_goto g 31 dX12_brings__27 (by decide) ?_
      exact hr.2.1 _ rfl _ _ _ _ _ _ dX12_brings__31 (by decide) (Nat.le_refl 0) (Nat.le_refl 0) h
theorem I_X12_brings_ {d : Nat} {ro : Nat → Nat} {Z : Option Value → Hp → Prop} {μ : Hp} {a0 : Nat} {x1 : Int32} {x2 : Int32} {x3 : Int32} {x4 : Int32} {x5 : Int32} (h : ∀ J, xCtx RX12 cX12_brings_ 6 d 0 0 yX12_brings_.name ro J → xRet cX12_brings_ (some .boolean) 0 0 Z J → J μ 0 0 0 [(0, .ref a0), (1, .int x1), (2, .int x2), (3, .int x3), (4, .int x4), (5, .int x5)] []) : xC d yX12_brings_ cX12_brings_ 6 (some .boolean) 0 0 [.ref a0, .int x1, .int x2, .int x3, .int x4, .int x5] μ ro Z :=
  xC_intro (own := RX12) (lv := [(0, .ref a0), (1, .int x1), (2, .int x2), (3, .int x3), (4, .int x4), (5, .int x5)]) (by decide) rfl (Nat.le_of_ble_eq_true rfl) rfl (fun J g hr => r_sub g (lv' := [(0, .ref a0), (1, .int x1), (2, .int x2), (3, .int x3), (4, .int x4), (5, .int x5)]) (⟨rfl, rfl, rfl, rfl, rfl, rfl, trivial⟩) (h J g hr))
theorem dX12_gross_0 : decode cX12_gross 0 = .ok (.aload_n 0, 1) := by decide +kernel
theorem dX12_gross_1 : decode cX12_gross 1 = .ok (.iconst 0, 1) := by decide +kernel
theorem dX12_gross_2 : decode cX12_gross 2 = .ok (.putfield 106, 3) := by decide +kernel
theorem dX12_gross_5 : decode cX12_gross 5 = .ok (.aload_n 0, 1) := by decide +kernel
theorem dX12_gross_6 : decode cX12_gross 6 = .ok (.iload_n 1, 1) := by decide +kernel
theorem dX12_gross_7 : decode cX12_gross 7 = .ok (.iload_n 2, 1) := by decide +kernel
theorem dX12_gross_8 : decode cX12_gross 8 = .ok (.iload_n 3, 1) := by decide +kernel
theorem dX12_gross_9 : decode cX12_gross 9 = .ok (.iload 4, 2) := by decide +kernel
theorem dX12_gross_11 : decode cX12_gross 11 = .ok (.invokevirtual 357, 3) := by decide +kernel
theorem dX12_gross_14 : decode cX12_gross 14 = .ok (.ifCond .eq 18, 3) := by decide +kernel
theorem dX12_gross_17 : decode cX12_gross 17 = .ok (.aload_n 0, 1) := by decide +kernel
theorem dX12_gross_18 : decode cX12_gross 18 = .ok (.iload_n 1, 1) := by decide +kernel
theorem dX12_gross_19 : decode cX12_gross 19 = .ok (.iload_n 2, 1) := by decide +kernel
theorem dX12_gross_20 : decode cX12_gross 20 = .ok (.iload_n 3, 1) := by decide +kernel
theorem dX12_gross_21 : decode cX12_gross 21 = .ok (.ldc_w 495, 3) := by decide +kernel
theorem dX12_gross_24 : decode cX12_gross 24 = .ok (.iload 4, 2) := by decide +kernel
theorem dX12_gross_26 : decode cX12_gross 26 = .ok (.invokevirtual 496, 3) := by decide +kernel
theorem dX12_gross_29 : decode cX12_gross 29 = .ok (.ifCond .ne 5, 3) := by decide +kernel
theorem dX12_gross_32 : decode cX12_gross 32 = .ok (.iconst (-1), 1) := by decide +kernel
theorem dX12_gross_33 : decode cX12_gross 33 = .ok (.ireturn, 1) := by decide +kernel
theorem dX12_gross_34 : decode cX12_gross 34 = .ok (.iconst 1, 1) := by decide +kernel
theorem dX12_gross_35 : decode cX12_gross 35 = .ok (.istore 5, 2) := by decide +kernel
theorem dX12_gross_37 : decode cX12_gross 37 = .ok (.ldc_w 495, 3) := by decide +kernel
theorem dX12_gross_40 : decode cX12_gross 40 = .ok (.istore 6, 2) := by decide +kernel
theorem dX12_gross_42 : decode cX12_gross 42 = .ok (.iload 5, 2) := by decide +kernel
theorem dX12_gross_44 : decode cX12_gross 44 = .ok (.iload 6, 2) := by decide +kernel
theorem dX12_gross_46 : decode cX12_gross 46 = .ok (.if_icmp .ge 42, 3) := by decide +kernel
theorem dX12_gross_49 : decode cX12_gross 49 = .ok (.iload 5, 2) := by decide +kernel
theorem dX12_gross_51 : decode cX12_gross 51 = .ok (.iload 6, 2) := by decide +kernel
theorem dX12_gross_53 : decode cX12_gross 53 = .ok (.iadd, 1) := by decide +kernel
theorem dX12_gross_54 : decode cX12_gross 54 = .ok (.iconst 2, 1) := by decide +kernel
theorem dX12_gross_55 : decode cX12_gross 55 = .ok (.idiv, 1) := by decide +kernel
theorem dX12_gross_56 : decode cX12_gross 56 = .ok (.istore 7, 2) := by decide +kernel
theorem dX12_gross_58 : decode cX12_gross 58 = .ok (.aload_n 0, 1) := by decide +kernel
theorem dX12_gross_59 : decode cX12_gross 59 = .ok (.iload_n 1, 1) := by decide +kernel
theorem dX12_gross_60 : decode cX12_gross 60 = .ok (.iload_n 2, 1) := by decide +kernel
theorem dX12_gross_61 : decode cX12_gross 61 = .ok (.iload_n 3, 1) := by decide +kernel
theorem dX12_gross_62 : decode cX12_gross 62 = .ok (.iload 7, 2) := by decide +kernel
theorem dX12_gross_64 : decode cX12_gross 64 = .ok (.iload 4, 2) := by decide +kernel
theorem dX12_gross_66 : decode cX12_gross 66 = .ok (.invokevirtual 496, 3) := by decide +kernel
theorem dX12_gross_69 : decode cX12_gross 69 = .ok (.ifCond .eq 10, 3) := by decide +kernel
theorem dX12_gross_72 : decode cX12_gross 72 = .ok (.iload 7, 2) := by decide +kernel
theorem dX12_gross_74 : decode cX12_gross 74 = .ok (.istore 6, 2) := by decide +kernel
theorem dX12_gross_76 : decode cX12_gross 76 = .ok (.goto 9, 3) := by decide +kernel
theorem dX12_gross_79 : decode cX12_gross 79 = .ok (.iload 7, 2) := by decide +kernel
theorem dX12_gross_81 : decode cX12_gross 81 = .ok (.iconst 1, 1) := by decide +kernel
theorem dX12_gross_82 : decode cX12_gross 82 = .ok (.iadd, 1) := by decide +kernel
theorem dX12_gross_83 : decode cX12_gross 83 = .ok (.istore 5, 2) := by decide +kernel
theorem dX12_gross_85 : decode cX12_gross 85 = .ok (.goto (-43), 3) := by decide +kernel
theorem dX12_gross_88 : decode cX12_gross 88 = .ok (.iload 5, 2) := by decide +kernel
theorem dX12_gross_90 : decode cX12_gross 90 = .ok (.ireturn, 1) := by decide +kernel
set_option maxHeartbeats 4000000 in
set_option maxRecDepth 100000 in
theorem B_X12_gross_0 {d : Nat} {ro : Nat → Nat} {J : JT} {Z : Option Value → Hp → Prop} (g : xCtx RX12 cX12_gross 8 d 0 0 yX12_gross.name ro J) (hr : xRet cX12_gross (some .int) 0 0 Z J) {μ : Hp} {a0 : Nat} {x1 : Int32} {x2 : Int32} {x3 : Int32} {x4 : Int32} (hs_a0 : hS μ a0 = some (15, 65))
    (h : xCall d yX12_isAsked cX12_isAsked 5 (some .boolean) [.ref a0, .int x1, .int x2, .int x3, .int x4] (wI μ a0 0 0) ro (fun r1 μ2 => ∃ y3 : Int32, r1 = some (.int y3) ∧ ((y3 = 0 → Z (some (.int (-1))) μ2) ∧ (¬ y3 = 0 → hS μ2 a0 = some (15, 65) ∧ xCall d yX12_brings_ cX12_brings_ 6 (some .boolean) [.ref a0, .int x1, .int x2, .int x3, .int 1000000, .int x4] μ2 ro (fun r5 μ6 => ∃ y7 : Int32, r5 = some (.int y7) ∧ ((¬ y7 = 0 → J μ6 0 0 42 [(0, .ref a0), (1, .int x1), (2, .int x2), (3, .int x3), (4, .int x4), (5, .int 1), (6, .int 1000000)] []) ∧ (y7 = 0 → Z (some (.int (-1))) μ6))))))) :
    J μ 0 0 0 [(0, .ref a0), (1, .int x1), (2, .int x2), (3, .int x3), (4, .int x4)] [] := by
  refine r_aload_n g dX12_gross_0 rfl ?_
  refine r_iconst g 0 dX12_gross_1 (by decide) ?_
  refine r_putI g fX12_106 rfl hs_a0 rfl rfl dX12_gross_2 ?_
  refine r_aload_n g dX12_gross_5 rfl ?_
  refine r_iload_n g dX12_gross_6 rfl ?_
  refine r_iload_n g dX12_gross_7 rfl ?_
  refine r_iload_n g dX12_gross_8 rfl ?_
  refine r_iload g dX12_gross_9 rfl ?_
  obtain ⟨d1, Z1, hc1, hd1, h1⟩ := h
  refine r_callV (st := []) (As := [.int x1, .int x2, .int x3, .int x4]) g sX12_357 iX12_isAsked eX12_isAsked rfl hs_a0 rfl (Nat.le_of_ble_eq_true rfl) dX12_gross_11 hd1 (Nat.le_refl 0) (Nat.le_refl 0) hc1 (fun r1 μ2 hZ1 => ?_)
  replace h := h1 _ _ hZ1
  clear h1 hc1 hd1 hZ1 Z1 d1
  obtain ⟨y3, rfl, h⟩ := h
  refine r_if_eq g 32 dX12_gross_14 (by decide) (fun c4 => ?_) (fun c4 => ?_)
  · replace h := h.1 c4
    refine r_iconst g (-1) dX12_gross_32 (by decide) ?_
    exact hr.2.1 _ rfl _ _ _ _ _ _ dX12_gross_33 rfl (Nat.le_refl 0) (Nat.le_refl 0) h
  · replace h := h.2 c4
    refine r_aload_n g dX12_gross_17 rfl ?_
    refine r_iload_n g dX12_gross_18 rfl ?_
    refine r_iload_n g dX12_gross_19 rfl ?_
    refine r_iload_n g dX12_gross_20 rfl ?_
    refine r_ldcw g 1000000 kX12_495 dX12_gross_21 ?_
    refine r_iload g dX12_gross_24 rfl ?_
    obtain ⟨hs_a0_, h⟩ := h
    obtain ⟨d1, Z1, hc1, hd1, h1⟩ := h
    refine r_callV (st := []) (As := [.int x1, .int x2, .int x3, .int 1000000, .int x4]) g sX12_496 iX12_brings_ eX12_brings_ rfl hs_a0_ rfl (Nat.le_of_ble_eq_true rfl) dX12_gross_26 hd1 (Nat.le_refl 0) (Nat.le_refl 0) hc1 (fun r5 μ6 hZ1 => ?_)
    replace h := h1 _ _ hZ1
    clear h1 hc1 hd1 hZ1 Z1 d1
    obtain ⟨y7, rfl, h⟩ := h
    refine r_if_ne g 34 dX12_gross_29 (by decide) (fun c8 => ?_) (fun c8 => ?_)
    · replace h := h.1 c8
      refine r_iconst g 1 dX12_gross_34 (by decide) ?_
      refine r_istore g [(5, .int 1), (0, .ref a0), (1, .int x1), (2, .int x2), (3, .int x3), (4, .int x4)] dX12_gross_35 (by decide) rfl ?_
      refine r_ldcw g 1000000 kX12_495 dX12_gross_37 ?_
      refine r_istore g [(6, .int 1000000), (5, .int 1), (0, .ref a0), (1, .int x1), (2, .int x2), (3, .int x3), (4, .int x4)] dX12_gross_40 (by decide) rfl ?_
      refine r_sub g (lv' := [(0, .ref a0), (1, .int x1), (2, .int x2), (3, .int x3), (4, .int x4), (5, .int 1), (6, .int 1000000)]) (⟨rfl, rfl, rfl, rfl, rfl, rfl, rfl, trivial⟩) ?_
      exact h
    · replace h := h.2 c8
      refine r_iconst g (-1) dX12_gross_32 (by decide) ?_
      exact hr.2.1 _ rfl _ _ _ _ _ _ dX12_gross_33 rfl (Nat.le_refl 0) (Nat.le_refl 0) h
set_option maxHeartbeats 4000000 in
set_option maxRecDepth 100000 in
theorem B_X12_gross_42 {d : Nat} {ro : Nat → Nat} {J : JT} {Z : Option Value → Hp → Prop} (g : xCtx RX12 cX12_gross 8 d 0 0 yX12_gross.name ro J) (hr : xRet cX12_gross (some .int) 0 0 Z J) {μ : Hp} {a0 : Nat} {x1 : Int32} {x2 : Int32} {x3 : Int32} {x4 : Int32} {x5 : Int32} {x6 : Int32} (hs_a0 : hS μ a0 = some (15, 65))
    (h : ((x6 ≤ x5 → Z (some (.int x5)) μ) ∧ (¬ x6 ≤ x5 → xCall d yX12_brings_ cX12_brings_ 6 (some .boolean) [.ref a0, .int x1, .int x2, .int x3, .int ((x5 + x6) / 2), .int x4] μ ro (fun r2 μ3 => ∃ y4 : Int32, r2 = some (.int y4) ∧ ((y4 = 0 → J μ3 0 0 42 [(0, .ref a0), (1, .int x1), (2, .int x2), (3, .int x3), (4, .int x4), (5, .int (((x5 + x6) / 2) + 1)), (6, .int x6)] []) ∧ (¬ y4 = 0 → J μ3 0 0 42 [(0, .ref a0), (1, .int x1), (2, .int x2), (3, .int x3), (4, .int x4), (5, .int x5), (6, .int ((x5 + x6) / 2))] [])))))) :
    J μ 0 0 42 [(0, .ref a0), (1, .int x1), (2, .int x2), (3, .int x3), (4, .int x4), (5, .int x5), (6, .int x6)] [] := by
  refine r_iload g dX12_gross_42 rfl ?_
  refine r_iload g dX12_gross_44 rfl ?_
  refine r_icmp_ge g 88 dX12_gross_46 (by decide) (fun c1 => ?_) (fun c1 => ?_)
  · replace h := h.1 c1
    refine r_iload g dX12_gross_88 rfl ?_
    exact hr.2.1 _ rfl _ _ _ _ _ _ dX12_gross_90 rfl (Nat.le_refl 0) (Nat.le_refl 0) h
  · replace h := h.2 c1
    refine r_iload g dX12_gross_49 rfl ?_
    refine r_iload g dX12_gross_51 rfl ?_
    refine r_iadd g dX12_gross_53 ?_
    refine r_iconst g 2 dX12_gross_54 (by decide) ?_
    refine r_idiv g (by decide) dX12_gross_55 ?_
    refine r_istore g [(7, .int ((x5 + x6) / 2)), (0, .ref a0), (1, .int x1), (2, .int x2), (3, .int x3), (4, .int x4), (5, .int x5), (6, .int x6)] dX12_gross_56 (by decide) rfl ?_
    refine r_aload_n g dX12_gross_58 rfl ?_
    refine r_iload_n g dX12_gross_59 rfl ?_
    refine r_iload_n g dX12_gross_60 rfl ?_
    refine r_iload_n g dX12_gross_61 rfl ?_
    refine r_iload g dX12_gross_62 rfl ?_
    refine r_iload g dX12_gross_64 rfl ?_
    obtain ⟨d1, Z1, hc1, hd1, h1⟩ := h
    refine r_callV (st := []) (As := [.int x1, .int x2, .int x3, .int ((x5 + x6) / 2), .int x4]) g sX12_496 iX12_brings_ eX12_brings_ rfl hs_a0 rfl (Nat.le_of_ble_eq_true rfl) dX12_gross_66 hd1 (Nat.le_refl 0) (Nat.le_refl 0) hc1 (fun r2 μ3 hZ1 => ?_)
    replace h := h1 _ _ hZ1
    clear h1 hc1 hd1 hZ1 Z1 d1
    obtain ⟨y4, rfl, h⟩ := h
    refine r_if_eq g 79 dX12_gross_69 (by decide) (fun c5 => ?_) (fun c5 => ?_)
    · replace h := h.1 c5
      refine r_iload g dX12_gross_79 rfl ?_
      refine r_iconst g 1 dX12_gross_81 (by decide) ?_
      refine r_iadd g dX12_gross_82 ?_
      refine r_istore g [(5, .int (((x5 + x6) / 2) + 1)), (7, .int ((x5 + x6) / 2)), (0, .ref a0), (1, .int x1), (2, .int x2), (3, .int x3), (4, .int x4), (6, .int x6)] dX12_gross_83 (by decide) rfl ?_
      refine r_goto g 42 dX12_gross_85 (by decide) ?_
      refine r_sub g (lv' := [(0, .ref a0), (1, .int x1), (2, .int x2), (3, .int x3), (4, .int x4), (5, .int (((x5 + x6) / 2) + 1)), (6, .int x6)]) (⟨rfl, rfl, rfl, rfl, rfl, rfl, rfl, trivial⟩) ?_
      exact h
    · replace h := h.2 c5
      refine r_iload g dX12_gross_72 rfl ?_
      refine r_istore g [(6, .int ((x5 + x6) / 2)), (7, .int ((x5 + x6) / 2)), (0, .ref a0), (1, .int x1), (2, .int x2), (3, .int x3), (4, .int x4), (5, .int x5)] dX12_gross_74 (by decide) rfl ?_
      refine r_goto g 85 dX12_gross_76 (by decide) ?_
      refine r_goto g 42 dX12_gross_85 (by decide) ?_
      refine r_sub g (lv' := [(0, .ref a0), (1, .int x1), (2, .int x2), (3, .int x3), (4, .int x4), (5, .int x5), (6, .int ((x5 + x6) / 2))]) (⟨rfl, rfl, rfl, rfl, rfl, rfl, rfl, trivial⟩) ?_
      exact h
theorem I_X12_gross {d : Nat} {ro : Nat → Nat} {Z : Option Value → Hp → Prop} {μ : Hp} {a0 : Nat} {x1 : Int32} {x2 : Int32} {x3 : Int32} {x4 : Int32} (h : ∀ J, xCtx RX12 cX12_gross 8 d 0 0 yX12_gross.name ro J → xRet cX12_gross (some .int) 0 0 Z J → J μ 0 0 0 [(0, .ref a0), (1, .int x1), (2, .int x2), (3, .int x3), (4, .int x4)] []) : xC d yX12_gross cX12_gross 8 (some .int) 0 0 [.ref a0, .int x1, .int x2, .int x3, .int x4] μ ro Z :=
  xC_intro (own := RX12) (lv := [(0, .ref a0), (1, .int x1), (2, .int x2), (3, .int x3), (4, .int x4)]) (by decide) rfl (Nat.le_of_ble_eq_true rfl) rfl (fun J g hr => r_sub g (lv' := [(0, .ref a0), (1, .int x1), (2, .int x2), (3, .int x3), (4, .int x4)]) (⟨rfl, rfl, rfl, rfl, rfl, trivial⟩) (h J g hr))
theorem dX12_worth_0 : decode cX12_worth 0 = .ok (.aload_n 0, 1) := by decide +kernel
theorem dX12_worth_1 : decode cX12_worth 1 = .ok (.iconst 0, 1) := by decide +kernel
theorem dX12_worth_2 : decode cX12_worth 2 = .ok (.putfield 106, 3) := by decide +kernel
theorem dX12_worth_5 : decode cX12_worth 5 = .ok (.iload 5, 2) := by decide +kernel
theorem dX12_worth_7 : decode cX12_worth 7 = .ok (.i2l, 1) := by decide +kernel
theorem dX12_worth_8 : decode cX12_worth 8 = .ok (.lconst 0, 1) := by decide +kernel
theorem dX12_worth_9 : decode cX12_worth 9 = .ok (.aload_n 0, 1) := by decide +kernel
theorem dX12_worth_10 : decode cX12_worth 10 = .ok (.getfield 57, 3) := by decide +kernel
theorem dX12_worth_13 : decode cX12_worth 13 = .ok (.bipush 31, 2) := by decide +kernel
theorem dX12_worth_15 : decode cX12_worth 15 = .ok (.iaload, 1) := by decide +kernel
theorem dX12_worth_16 : decode cX12_worth 16 = .ok (.iconst 1, 1) := by decide +kernel
theorem dX12_worth_17 : decode cX12_worth 17 = .ok (.isub, 1) := by decide +kernel
theorem dX12_worth_18 : decode cX12_worth 18 = .ok (.i2l, 1) := by decide +kernel
theorem dX12_worth_19 : decode cX12_worth 19 = .ok (.invokestatic 161, 3) := by decide +kernel
theorem dX12_worth_22 : decode cX12_worth 22 = .ok (.ifCond .eq 15, 3) := by decide +kernel
theorem dX12_worth_25 : decode cX12_worth 25 = .ok (.aload_n 0, 1) := by decide +kernel
theorem dX12_worth_26 : decode cX12_worth 26 = .ok (.iload_n 1, 1) := by decide +kernel
theorem dX12_worth_27 : decode cX12_worth 27 = .ok (.iload_n 2, 1) := by decide +kernel
theorem dX12_worth_28 : decode cX12_worth 28 = .ok (.iload_n 3, 1) := by decide +kernel
theorem dX12_worth_29 : decode cX12_worth 29 = .ok (.iload 4, 2) := by decide +kernel
theorem dX12_worth_31 : decode cX12_worth 31 = .ok (.invokevirtual 470, 3) := by decide +kernel
theorem dX12_worth_34 : decode cX12_worth 34 = .ok (.ifCond .ne 5, 3) := by decide +kernel
theorem dX12_worth_37 : decode cX12_worth 37 = .ok (.iconst (-1), 1) := by decide +kernel
theorem dX12_worth_38 : decode cX12_worth 38 = .ok (.ireturn, 1) := by decide +kernel
theorem dX12_worth_39 : decode cX12_worth 39 = .ok (.aload_n 0, 1) := by decide +kernel
theorem dX12_worth_40 : decode cX12_worth 40 = .ok (.getfield 321, 3) := by decide +kernel
theorem dX12_worth_43 : decode cX12_worth 43 = .ok (.istore 6, 2) := by decide +kernel
theorem dX12_worth_45 : decode cX12_worth 45 = .ok (.aload_n 0, 1) := by decide +kernel
theorem dX12_worth_46 : decode cX12_worth 46 = .ok (.getfield 57, 3) := by decide +kernel
theorem dX12_worth_49 : decode cX12_worth 49 = .ok (.iconst 0, 1) := by decide +kernel
theorem dX12_worth_50 : decode cX12_worth 50 = .ok (.aload_n 0, 1) := by decide +kernel
theorem dX12_worth_51 : decode cX12_worth 51 = .ok (.getfield 60, 3) := by decide +kernel
theorem dX12_worth_54 : decode cX12_worth 54 = .ok (.iconst 0, 1) := by decide +kernel
theorem dX12_worth_55 : decode cX12_worth 55 = .ok (.invokestatic 408, 3) := by decide +kernel
theorem dX12_worth_58 : decode cX12_worth 58 = .ok (.aload_n 0, 1) := by decide +kernel
theorem dX12_worth_59 : decode cX12_worth 59 = .ok (.getfield 60, 3) := by decide +kernel
theorem dX12_worth_62 : decode cX12_worth 62 = .ok (.iload 5, 2) := by decide +kernel
theorem dX12_worth_64 : decode cX12_worth 64 = .ok (.invokestatic 401, 3) := by decide +kernel
theorem dX12_worth_67 : decode cX12_worth 67 = .ok (.aload_n 0, 1) := by decide +kernel
theorem dX12_worth_68 : decode cX12_worth 68 = .ok (.aload_n 0, 1) := by decide +kernel
theorem dX12_worth_69 : decode cX12_worth 69 = .ok (.getfield 60, 3) := by decide +kernel
theorem dX12_worth_72 : decode cX12_worth 72 = .ok (.iload_n 1, 1) := by decide +kernel
theorem dX12_worth_73 : decode cX12_worth 73 = .ok (.iload_n 2, 1) := by decide +kernel
theorem dX12_worth_74 : decode cX12_worth 74 = .ok (.iload_n 3, 1) := by decide +kernel
theorem dX12_worth_75 : decode cX12_worth 75 = .ok (.iload 4, 2) := by decide +kernel
theorem dX12_worth_77 : decode cX12_worth 77 = .ok (.iconst 0, 1) := by decide +kernel
theorem dX12_worth_78 : decode cX12_worth 78 = .ok (.invokevirtual 361, 3) := by decide +kernel
theorem dX12_worth_81 : decode cX12_worth 81 = .ok (.ifCond .eq 13, 3) := by decide +kernel
theorem dX12_worth_84 : decode cX12_worth 84 = .ok (.iload 6, 2) := by decide +kernel
theorem dX12_worth_86 : decode cX12_worth 86 = .ok (.aload_n 0, 1) := by decide +kernel
theorem dX12_worth_87 : decode cX12_worth 87 = .ok (.getfield 321, 3) := by decide +kernel
theorem dX12_worth_90 : decode cX12_worth 90 = .ok (.isub, 1) := by decide +kernel
theorem dX12_worth_91 : decode cX12_worth 91 = .ok (.goto 5, 3) := by decide +kernel
theorem dX12_worth_94 : decode cX12_worth 94 = .ok (.iload 6, 2) := by decide +kernel
theorem dX12_worth_96 : decode cX12_worth 96 = .ok (.ireturn, 1) := by decide +kernel
set_option maxHeartbeats 4000000 in
set_option maxRecDepth 100000 in
theorem B_X12_worth_0 {d : Nat} {ro : Nat → Nat} {J : JT} {Z : Option Value → Hp → Prop} (g : xCtx RX12 cX12_worth 7 d 0 0 yX12_worth.name ro J) (hr : xRet cX12_worth (some .int) 0 0 Z J) {μ : Hp} {a0 : Nat} {x1 : Int32} {x2 : Int32} {x3 : Int32} {x4 : Int32} {x5 : Int32} {a0_now : Nat} {N_a0_now : Nat} (hs_a0 : hS μ a0 = some (15, 65)) (hr_a0_now : hR μ a0 30 = some a0_now) (hs_a0_now : hS μ a0_now = some (0, N_a0_now)) (hd9 : 1 ≤ d)
    (h : vp_in 31 N_a0_now ∧ ((x5 < 0 → Z (some (.int (-1))) (wI μ a0 0 0)) ∧ (¬ x5 < 0 → ((((hI (wI μ a0 0 0) a0_now 31) - 1) < x5 → Z (some (.int (-1))) (wI μ a0 0 0)) ∧ (¬ ((hI (wI μ a0 0 0) a0_now 31) - 1) < x5 → xCall d yX12_finds cX12_finds 5 (some .boolean) [.ref a0, .int x1, .int x2, .int x3, .int x4] (wI μ a0 0 0) ro (fun r10 μ11 => ∃ y12 : Int32, r10 = some (.int y12) ∧ ((¬ y12 = 0 → hS μ11 a0 = some (15, 65) ∧ ∃ now_14 : Nat, hR μ11 a0 30 = some now_14 ∧ ∃ trial_15 : Nat, hR μ11 a0 31 = some trial_15 ∧ xCall d yX12_copyRow cX12_copyRow 5 none [.ref now_14, .int 0, .ref trial_15, .int 0] μ11 ro (fun r16 μ17 => r16 = none ∧ hS μ17 a0 = some (15, 65) ∧ ∃ trial_18 : Nat, hR μ17 a0 31 = some trial_18 ∧ xCall d yX12_unmakes cX12_unmakes 3 none [.ref trial_18, .int x5] μ17 ro (fun r19 μ20 => r19 = none ∧ hS μ20 a0 = some (15, 65) ∧ ∃ trial_21 : Nat, hR μ20 a0 31 = some trial_21 ∧ xCall d yX12_searches cX12_searches 8 (some .boolean) [.ref a0, .ref trial_21, .int x1, .int x2, .int x3, .int x4, .int 0] μ20 ro (fun r22 μ23 => ∃ y24 : Int32, r22 = some (.int y24) ∧ ((y24 = 0 → Z (some (.int (hI μ11 a0 51))) μ23) ∧ (¬ y24 = 0 → hS μ23 a0 = some (15, 65) ∧ Z (some (.int ((hI μ11 a0 51) - (hI μ23 a0 51)))) μ23)))))) ∧ (y12 = 0 → Z (some (.int (-1))) μ11)))))))) :
    J μ 0 0 0 [(0, .ref a0), (1, .int x1), (2, .int x2), (3, .int x3), (4, .int x4), (5, .int x5)] [] := by
  refine r_aload_n g dX12_worth_0 rfl ?_
  refine r_iconst g 0 dX12_worth_1 (by decide) ?_
  refine r_putI g fX12_106 rfl hs_a0 rfl rfl dX12_worth_2 ?_
  refine r_iload g dX12_worth_5 rfl ?_
  refine r_i2l g dX12_worth_7 ?_
  refine r_lconst g 0 dX12_worth_8 (by decide) ?_
  refine r_aload_n g dX12_worth_9 rfl ?_
  refine r_getR g fX12_57 rfl hs_a0 hr_a0_now dX12_worth_10 ?_
  refine r_bipush g 31 dX12_worth_13 (by decide) ?_
  obtain ⟨hi1, h⟩ := h
  refine r_iaload g hs_a0_now hi1 dX12_worth_15 ?_
  refine r_iconst g 1 dX12_worth_16 (by decide) ?_
  refine r_isub g dX12_worth_17 ?_
  refine r_i2l g dX12_worth_18 ?_
  by_cases c2 : x5 < 0
  · replace h := h.1 c2
    refine r_callS (st := []) (As := [.long x5.toInt64, .long 0, .long ((hI (wI μ a0 0 0) a0_now 31) - 1).toInt64]) g sX12_161 iX12_isIn rfl (Nat.le_of_ble_eq_true rfl) dX12_worth_19 (by omega) (Nat.le_refl 0) (Nat.le_refl 0) (Q_isIn_0 (d := d - 1) (x := x5) (a := 0) (b := ((hI (wI μ a0 0 0) a0_now 31) - 1)) rfl (by decide) rfl c2) (fun r3 μ4 hZ1 => ?_)
    obtain ⟨rfl, e9⟩ := hZ1
    replace e9 := e9.symm
    subst e9
    refine r_if_eq g 37 dX12_worth_22 (by decide) (fun _ => ?_) (fun hz => absurd hz (by decide))
    refine r_iconst g (-1) dX12_worth_37 (by decide) ?_
    exact hr.2.1 _ rfl _ _ _ _ _ _ dX12_worth_38 rfl (Nat.le_refl 0) (Nat.le_refl 0) h
  · replace h := h.2 c2
    by_cases c5 : ((hI (wI μ a0 0 0) a0_now 31) - 1) < x5
    · replace h := h.1 c5
      refine r_callS (st := []) (As := [.long x5.toInt64, .long 0, .long ((hI (wI μ a0 0 0) a0_now 31) - 1).toInt64]) g sX12_161 iX12_isIn rfl (Nat.le_of_ble_eq_true rfl) dX12_worth_19 (by omega) (Nat.le_refl 0) (Nat.le_refl 0) (Q_isIn_1 (d := d - 1) (x := x5) (a := 0) (b := ((hI (wI μ a0 0 0) a0_now 31) - 1)) rfl (by decide) rfl c2 c5) (fun r6 μ7 hZ1 => ?_)
      obtain ⟨rfl, e9⟩ := hZ1
      replace e9 := e9.symm
      subst e9
      refine r_if_eq g 37 dX12_worth_22 (by decide) (fun _ => ?_) (fun hz => absurd hz (by decide))
      refine r_iconst g (-1) dX12_worth_37 (by decide) ?_
      exact hr.2.1 _ rfl _ _ _ _ _ _ dX12_worth_38 rfl (Nat.le_refl 0) (Nat.le_refl 0) h
    · replace h := h.2 c5
      refine r_callS (st := []) (As := [.long x5.toInt64, .long 0, .long ((hI (wI μ a0 0 0) a0_now 31) - 1).toInt64]) g sX12_161 iX12_isIn rfl (Nat.le_of_ble_eq_true rfl) dX12_worth_19 (by omega) (Nat.le_refl 0) (Nat.le_refl 0) (Q_isIn_2 (d := d - 1) (x := x5) (a := 0) (b := ((hI (wI μ a0 0 0) a0_now 31) - 1)) rfl (by decide) rfl c2 c5) (fun r8 μ9 hZ1 => ?_)
      obtain ⟨rfl, e9⟩ := hZ1
      replace e9 := e9.symm
      subst e9
      refine r_if_eq g 37 dX12_worth_22 (by decide) (fun hz => absurd hz (by decide)) (fun _ => ?_)
      refine r_aload_n g dX12_worth_25 rfl ?_
      refine r_iload_n g dX12_worth_26 rfl ?_
      refine r_iload_n g dX12_worth_27 rfl ?_
      refine r_iload_n g dX12_worth_28 rfl ?_
      refine r_iload g dX12_worth_29 rfl ?_
      obtain ⟨d1, Z1, hc1, hd1, h1⟩ := h
      refine r_callV (st := []) (As := [.int x1, .int x2, .int x3, .int x4]) g sX12_470 iX12_finds eX12_finds rfl hs_a0 rfl (Nat.le_of_ble_eq_true rfl) dX12_worth_31 hd1 (Nat.le_refl 0) (Nat.le_refl 0) hc1 (fun r10 μ11 hZ1 => ?_)
      replace h := h1 _ _ hZ1
      clear h1 hc1 hd1 hZ1 Z1 d1
      obtain ⟨y12, rfl, h⟩ := h
      refine r_if_ne g 39 dX12_worth_34 (by decide) (fun c13 => ?_) (fun c13 => ?_)
      · replace h := h.1 c13
        refine r_aload_n g dX12_worth_39 rfl ?_
        obtain ⟨hs_a0_, h⟩ := h
        refine r_getI g fX12_321 rfl hs_a0_ dX12_worth_40 ?_
        refine r_istore g [(6, .int (hI μ11 a0 51)), (0, .ref a0), (1, .int x1), (2, .int x2), (3, .int x3), (4, .int x4), (5, .int x5)] dX12_worth_43 (by decide) rfl ?_
        refine r_aload_n g dX12_worth_45 rfl ?_
        obtain ⟨now_14, hr_now_14, h⟩ := h
        refine r_getR g fX12_57 rfl hs_a0_ hr_now_14 dX12_worth_46 ?_
        refine r_iconst g 0 dX12_worth_49 (by decide) ?_
        refine r_aload_n g dX12_worth_50 rfl ?_
        obtain ⟨trial_15, hr_trial_15, h⟩ := h
        refine r_getR g fX12_60 rfl hs_a0_ hr_trial_15 dX12_worth_51 ?_
        refine r_iconst g 0 dX12_worth_54 (by decide) ?_
        obtain ⟨d1, Z1, hc1, hd1, h1⟩ := h
        refine r_callS (st := []) (As := [.ref now_14, .int 0, .ref trial_15, .int 0]) g sX12_408 iX12_copyRow rfl (Nat.le_of_ble_eq_true rfl) dX12_worth_55 hd1 (Nat.le_refl 0) (Nat.le_refl 0) hc1 (fun r16 μ17 hZ1 => ?_)
        replace h := h1 _ _ hZ1
        clear h1 hc1 hd1 hZ1 Z1 d1
        obtain ⟨rfl, h⟩ := h
        refine r_aload_n g dX12_worth_58 rfl ?_
        obtain ⟨hs_a0__, h⟩ := h
        obtain ⟨trial_18, hr_trial_18, h⟩ := h
        refine r_getR g fX12_60 rfl hs_a0__ hr_trial_18 dX12_worth_59 ?_
        refine r_iload g dX12_worth_62 rfl ?_
        obtain ⟨d1, Z1, hc1, hd1, h1⟩ := h
        refine r_callS (st := []) (As := [.ref trial_18, .int x5]) g sX12_401 iX12_unmakes rfl (Nat.le_of_ble_eq_true rfl) dX12_worth_64 hd1 (Nat.le_refl 0) (Nat.le_refl 0) hc1 (fun r19 μ20 hZ1 => ?_)
        replace h := h1 _ _ hZ1
        clear h1 hc1 hd1 hZ1 Z1 d1
        obtain ⟨rfl, h⟩ := h
        refine r_aload_n g dX12_worth_67 rfl ?_
        refine r_aload_n g dX12_worth_68 rfl ?_
        obtain ⟨hs_a0___, h⟩ := h
        obtain ⟨trial_21, hr_trial_21, h⟩ := h
        refine r_getR g fX12_60 rfl hs_a0___ hr_trial_21 dX12_worth_69 ?_
        refine r_iload_n g dX12_worth_72 rfl ?_
        refine r_iload_n g dX12_worth_73 rfl ?_
        refine r_iload_n g dX12_worth_74 rfl ?_
        refine r_iload g dX12_worth_75 rfl ?_
        refine r_iconst g 0 dX12_worth_77 (by decide) ?_
        obtain ⟨d1, Z1, hc1, hd1, h1⟩ := h
        refine r_callV (st := []) (As := [.ref trial_21, .int x1, .int x2, .int x3, .int x4, .int 0]) g sX12_361 iX12_searches eX12_searches rfl hs_a0___ rfl (Nat.le_of_ble_eq_true rfl) dX12_worth_78 hd1 (Nat.le_refl 0) (Nat.le_refl 0) hc1 (fun r22 μ23 hZ1 => ?_)
        replace h := h1 _ _ hZ1
        clear h1 hc1 hd1 hZ1 Z1 d1
        obtain ⟨y24, rfl, h⟩ := h
        refine r_if_eq g 94 dX12_worth_81 (by decide) (fun c25 => ?_) (fun c25 => ?_)
        · replace h := h.1 c25
          refine r_iload g dX12_worth_94 rfl ?_
          exact hr.2.1 _ rfl _ _ _ _ _ _ dX12_worth_96 rfl (Nat.le_refl 0) (Nat.le_refl 0) h
        · replace h := h.2 c25
          refine r_iload g dX12_worth_84 rfl ?_
          refine r_aload_n g dX12_worth_86 rfl ?_
          obtain ⟨hs_a0____, h⟩ := h
          refine r_getI g fX12_321 rfl hs_a0____ dX12_worth_87 ?_
          refine r_isub g dX12_worth_90 ?_
          refine r_goto g 96 dX12_worth_91 (by decide) ?_
          exact hr.2.1 _ rfl _ _ _ _ _ _ dX12_worth_96 rfl (Nat.le_refl 0) (Nat.le_refl 0) h
      · replace h := h.2 c13
        refine r_iconst g (-1) dX12_worth_37 (by decide) ?_
        exact hr.2.1 _ rfl _ _ _ _ _ _ dX12_worth_38 rfl (Nat.le_refl 0) (Nat.le_refl 0) h
theorem I_X12_worth {d : Nat} {ro : Nat → Nat} {Z : Option Value → Hp → Prop} {μ : Hp} {a0 : Nat} {x1 : Int32} {x2 : Int32} {x3 : Int32} {x4 : Int32} {x5 : Int32} (h : ∀ J, xCtx RX12 cX12_worth 7 d 0 0 yX12_worth.name ro J → xRet cX12_worth (some .int) 0 0 Z J → J μ 0 0 0 [(0, .ref a0), (1, .int x1), (2, .int x2), (3, .int x3), (4, .int x4), (5, .int x5)] []) : xC d yX12_worth cX12_worth 7 (some .int) 0 0 [.ref a0, .int x1, .int x2, .int x3, .int x4, .int x5] μ ro Z :=
  xC_intro (own := RX12) (lv := [(0, .ref a0), (1, .int x1), (2, .int x2), (3, .int x3), (4, .int x4), (5, .int x5)]) (by decide) rfl (Nat.le_of_ble_eq_true rfl) rfl (fun J g hr => r_sub g (lv' := [(0, .ref a0), (1, .int x1), (2, .int x2), (3, .int x3), (4, .int x4), (5, .int x5)]) (⟨rfl, rfl, rfl, rfl, rfl, rfl, trivial⟩) (h J g hr))
theorem dX12_isScript_0 : decode cX12_isScript 0 = .ok (.iload_n 1, 1) := by decide +kernel
theorem dX12_isScript_1 : decode cX12_isScript 1 = .ok (.i2l, 1) := by decide +kernel
theorem dX12_isScript_2 : decode cX12_isScript 2 = .ok (.lconst 0, 1) := by decide +kernel
theorem dX12_isScript_3 : decode cX12_isScript 3 = .ok (.aload_n 0, 1) := by decide +kernel
theorem dX12_isScript_4 : decode cX12_isScript 4 = .ok (.getfield 258, 3) := by decide +kernel
theorem dX12_isScript_7 : decode cX12_isScript 7 = .ok (.iconst 1, 1) := by decide +kernel
theorem dX12_isScript_8 : decode cX12_isScript 8 = .ok (.isub, 1) := by decide +kernel
theorem dX12_isScript_9 : decode cX12_isScript 9 = .ok (.i2l, 1) := by decide +kernel
theorem dX12_isScript_10 : decode cX12_isScript 10 = .ok (.invokestatic 161, 3) := by decide +kernel
theorem dX12_isScript_13 : decode cX12_isScript 13 = .ok (.ireturn, 1) := by decide +kernel
set_option maxHeartbeats 4000000 in
set_option maxRecDepth 100000 in
theorem B_X12_isScript_0 {d : Nat} {ro : Nat → Nat} {J : JT} {Z : Option Value → Hp → Prop} (g : xCtx RX12 cX12_isScript 2 d 0 0 yX12_isScript.name ro J) (hr : xRet cX12_isScript (some .boolean) 0 0 Z J) {μ : Hp} {a0 : Nat} {x1 : Int32} (hs_a0 : hS μ a0 = some (15, 65)) (hd9 : 1 ≤ d)
    (h : ((x1 < 0 → Z (some (.int 0)) μ) ∧ (¬ x1 < 0 → ((((hI μ a0 27) - 1) < x1 → Z (some (.int 0)) μ) ∧ (¬ ((hI μ a0 27) - 1) < x1 → Z (some (.int 1)) μ))))) :
    J μ 0 0 0 [(0, .ref a0), (1, .int x1)] [] := by
  refine r_iload_n g dX12_isScript_0 rfl ?_
  refine r_i2l g dX12_isScript_1 ?_
  refine r_lconst g 0 dX12_isScript_2 (by decide) ?_
  refine r_aload_n g dX12_isScript_3 rfl ?_
  refine r_getI g fX12_258 rfl hs_a0 dX12_isScript_4 ?_
  refine r_iconst g 1 dX12_isScript_7 (by decide) ?_
  refine r_isub g dX12_isScript_8 ?_
  refine r_i2l g dX12_isScript_9 ?_
  by_cases c1 : x1 < 0
  · replace h := h.1 c1
    refine r_callS (st := []) (As := [.long x1.toInt64, .long 0, .long ((hI μ a0 27) - 1).toInt64]) g sX12_161 iX12_isIn rfl (Nat.le_of_ble_eq_true rfl) dX12_isScript_10 (by omega) (Nat.le_refl 0) (Nat.le_refl 0) (Q_isIn_0 (d := d - 1) (x := x1) (a := 0) (b := ((hI μ a0 27) - 1)) rfl (by decide) rfl c1) (fun r2 μ3 hZ1 => ?_)
    obtain ⟨rfl, e9⟩ := hZ1
    replace e9 := e9.symm
    subst e9
    exact hr.2.1 _ rfl _ _ _ _ _ _ dX12_isScript_13 (by decide) (Nat.le_refl 0) (Nat.le_refl 0) h
  · replace h := h.2 c1
    by_cases c4 : ((hI μ a0 27) - 1) < x1
    · replace h := h.1 c4
      refine r_callS (st := []) (As := [.long x1.toInt64, .long 0, .long ((hI μ a0 27) - 1).toInt64]) g sX12_161 iX12_isIn rfl (Nat.le_of_ble_eq_true rfl) dX12_isScript_10 (by omega) (Nat.le_refl 0) (Nat.le_refl 0) (Q_isIn_1 (d := d - 1) (x := x1) (a := 0) (b := ((hI μ a0 27) - 1)) rfl (by decide) rfl c1 c4) (fun r5 μ6 hZ1 => ?_)
      obtain ⟨rfl, e9⟩ := hZ1
      replace e9 := e9.symm
      subst e9
      exact hr.2.1 _ rfl _ _ _ _ _ _ dX12_isScript_13 (by decide) (Nat.le_refl 0) (Nat.le_refl 0) h
    · replace h := h.2 c4
      refine r_callS (st := []) (As := [.long x1.toInt64, .long 0, .long ((hI μ a0 27) - 1).toInt64]) g sX12_161 iX12_isIn rfl (Nat.le_of_ble_eq_true rfl) dX12_isScript_10 (by omega) (Nat.le_refl 0) (Nat.le_refl 0) (Q_isIn_2 (d := d - 1) (x := x1) (a := 0) (b := ((hI μ a0 27) - 1)) rfl (by decide) rfl c1 c4) (fun r7 μ8 hZ1 => ?_)
      obtain ⟨rfl, e9⟩ := hZ1
      replace e9 := e9.symm
      subst e9
      exact hr.2.1 _ rfl _ _ _ _ _ _ dX12_isScript_13 (by decide) (Nat.le_refl 0) (Nat.le_refl 0) h
theorem I_X12_isScript {d : Nat} {ro : Nat → Nat} {Z : Option Value → Hp → Prop} {μ : Hp} {a0 : Nat} {x1 : Int32} (h : ∀ J, xCtx RX12 cX12_isScript 2 d 0 0 yX12_isScript.name ro J → xRet cX12_isScript (some .boolean) 0 0 Z J → J μ 0 0 0 [(0, .ref a0), (1, .int x1)] []) : xC d yX12_isScript cX12_isScript 2 (some .boolean) 0 0 [.ref a0, .int x1] μ ro Z :=
  xC_intro (own := RX12) (lv := [(0, .ref a0), (1, .int x1)]) (by decide) rfl (Nat.le_of_ble_eq_true rfl) rfl (fun J g hr => r_sub g (lv' := [(0, .ref a0), (1, .int x1)]) (⟨rfl, rfl, trivial⟩) (h J g hr))
theorem dX12_step_0 : decode cX12_step 0 = .ok (.aload_n 0, 1) := by decide +kernel
theorem dX12_step_1 : decode cX12_step 1 = .ok (.iconst 0, 1) := by decide +kernel
theorem dX12_step_2 : decode cX12_step 2 = .ok (.putfield 106, 3) := by decide +kernel
theorem dX12_step_5 : decode cX12_step 5 = .ok (.aload_n 0, 1) := by decide +kernel
theorem dX12_step_6 : decode cX12_step 6 = .ok (.iload_n 1, 1) := by decide +kernel
theorem dX12_step_7 : decode cX12_step 7 = .ok (.invokevirtual 498, 3) := by decide +kernel
theorem dX12_step_10 : decode cX12_step 10 = .ok (.ifCond .eq 33, 3) := by decide +kernel
theorem dX12_step_13 : decode cX12_step 13 = .ok (.iload_n 2, 1) := by decide +kernel
theorem dX12_step_14 : decode cX12_step 14 = .ok (.i2l, 1) := by decide +kernel
theorem dX12_step_15 : decode cX12_step 15 = .ok (.lconst 0, 1) := by decide +kernel
theorem dX12_step_16 : decode cX12_step 16 = .ok (.aload_n 0, 1) := by decide +kernel
theorem dX12_step_17 : decode cX12_step 17 = .ok (.getfield 54, 3) := by decide +kernel
theorem dX12_step_20 : decode cX12_step 20 = .ok (.iload_n 1, 1) := by decide +kernel
theorem dX12_step_21 : decode cX12_step 21 = .ok (.iaload, 1) := by decide +kernel
theorem dX12_step_22 : decode cX12_step 22 = .ok (.iconst 1, 1) := by decide +kernel
theorem dX12_step_23 : decode cX12_step 23 = .ok (.isub, 1) := by decide +kernel
theorem dX12_step_24 : decode cX12_step 24 = .ok (.i2l, 1) := by decide +kernel
theorem dX12_step_25 : decode cX12_step 25 = .ok (.invokestatic 161, 3) := by decide +kernel
theorem dX12_step_28 : decode cX12_step 28 = .ok (.ifCond .eq 15, 3) := by decide +kernel
theorem dX12_step_31 : decode cX12_step 31 = .ok (.iload_n 3, 1) := by decide +kernel
theorem dX12_step_32 : decode cX12_step 32 = .ok (.i2l, 1) := by decide +kernel
theorem dX12_step_33 : decode cX12_step 33 = .ok (.lconst 0, 1) := by decide +kernel
theorem dX12_step_34 : decode cX12_step 34 = .ok (.ldc2_w 452, 3) := by decide +kernel
theorem dX12_step_37 : decode cX12_step 37 = .ok (.invokestatic 161, 3) := by decide +kernel
theorem dX12_step_40 : decode cX12_step 40 = .ok (.ifCond .ne 7, 3) := by decide +kernel
theorem dX12_step_43 : decode cX12_step 43 = .ok (.ldc_w 448, 3) := by decide +kernel
theorem dX12_step_46 : decode cX12_step 46 = .ok (.ireturn, 1) := by decide +kernel
theorem dX12_step_47 : decode cX12_step 47 = .ok (.aload_n 0, 1) := by decide +kernel
theorem dX12_step_48 : decode cX12_step 48 = .ok (.getfield 51, 3) := by decide +kernel
theorem dX12_step_51 : decode cX12_step 51 = .ok (.iconst 5, 1) := by decide +kernel
theorem dX12_step_52 : decode cX12_step 52 = .ok (.bipush 12, 2) := by decide +kernel
theorem dX12_step_54 : decode cX12_step 54 = .ok (.iload_n 1, 1) := by decide +kernel
theorem dX12_step_55 : decode cX12_step 55 = .ok (.imul, 1) := by decide +kernel
theorem dX12_step_56 : decode cX12_step 56 = .ok (.iload_n 2, 1) := by decide +kernel
theorem dX12_step_57 : decode cX12_step 57 = .ok (.iadd, 1) := by decide +kernel
theorem dX12_step_58 : decode cX12_step 58 = .ok (.imul, 1) := by decide +kernel
theorem dX12_step_59 : decode cX12_step 59 = .ok (.iload_n 3, 1) := by decide +kernel
theorem dX12_step_60 : decode cX12_step 60 = .ok (.iadd, 1) := by decide +kernel
theorem dX12_step_61 : decode cX12_step 61 = .ok (.iaload, 1) := by decide +kernel
theorem dX12_step_62 : decode cX12_step 62 = .ok (.ireturn, 1) := by decide +kernel
set_option maxHeartbeats 4000000 in
set_option maxRecDepth 100000 in
theorem B_X12_step_0 {d : Nat} {ro : Nat → Nat} {J : JT} {Z : Option Value → Hp → Prop} (g : xCtx RX12 cX12_step 4 d 0 0 yX12_step.name ro J) (hr : xRet cX12_step (some .int) 0 0 Z J) {μ : Hp} {a0 : Nat} {x1 : Int32} {x2 : Int32} {x3 : Int32} (hs_a0 : hS μ a0 = some (15, 65)) (hd9 : 1 ≤ d)
    (h : xCall d yX12_isScript cX12_isScript 2 (some .boolean) [.ref a0, .int x1] (wI μ a0 0 0) ro (fun r1 μ2 => ∃ y3 : Int32, r1 = some (.int y3) ∧ ((y3 = 0 → Z (some (.int (-1000000))) μ2) ∧ (¬ y3 = 0 → hS μ2 a0 = some (15, 65) ∧ ∃ stepsOf_5 : Nat, hR μ2 a0 29 = some stepsOf_5 ∧ ∃ N6 : Nat, hS μ2 stepsOf_5 = some (0, N6) ∧ vp_in x1 N6 ∧ ((x2 < 0 → Z (some (.int (-1000000))) μ2) ∧ (¬ x2 < 0 → ((((hI μ2 stepsOf_5 x1.toNatClampNeg) - 1) < x2 → Z (some (.int (-1000000))) μ2) ∧ (¬ ((hI μ2 stepsOf_5 x1.toNatClampNeg) - 1) < x2 → ((x3 < 0 → Z (some (.int (-1000000))) μ2) ∧ (¬ x3 < 0 → ((4 < x3 → Z (some (.int (-1000000))) μ2) ∧ (¬ 4 < x3 → ∃ script_24 : Nat, hR μ2 a0 28 = some script_24 ∧ ∃ N25 : Nat, hS μ2 script_24 = some (0, N25) ∧ vp_in ((5 * ((12 * x1) + x2)) + x3) N25 ∧ Z (some (.int (hI μ2 script_24 (((5 * ((12 * x1) + x2)) + x3).toNatClampNeg)))) μ2)))))))))))) :
    J μ 0 0 0 [(0, .ref a0), (1, .int x1), (2, .int x2), (3, .int x3)] [] := by
  refine r_aload_n g dX12_step_0 rfl ?_
  refine r_iconst g 0 dX12_step_1 (by decide) ?_
  refine r_putI g fX12_106 rfl hs_a0 rfl rfl dX12_step_2 ?_
  refine r_aload_n g dX12_step_5 rfl ?_
  refine r_iload_n g dX12_step_6 rfl ?_
  obtain ⟨d1, Z1, hc1, hd1, h1⟩ := h
  refine r_callV (st := []) (As := [.int x1]) g sX12_498 iX12_isScript eX12_isScript rfl hs_a0 rfl (Nat.le_of_ble_eq_true rfl) dX12_step_7 hd1 (Nat.le_refl 0) (Nat.le_refl 0) hc1 (fun r1 μ2 hZ1 => ?_)
  replace h := h1 _ _ hZ1
  clear h1 hc1 hd1 hZ1 Z1 d1
  obtain ⟨y3, rfl, h⟩ := h
  refine r_if_eq g 43 dX12_step_10 (by decide) (fun c4 => ?_) (fun c4 => ?_)
  · replace h := h.1 c4
    refine r_ldcw g (-1000000) kX12_448 dX12_step_43 ?_
    exact hr.2.1 _ rfl _ _ _ _ _ _ dX12_step_46 rfl (Nat.le_refl 0) (Nat.le_refl 0) h
  · replace h := h.2 c4
    refine r_iload_n g dX12_step_13 rfl ?_
    refine r_i2l g dX12_step_14 ?_
    refine r_lconst g 0 dX12_step_15 (by decide) ?_
    refine r_aload_n g dX12_step_16 rfl ?_
    obtain ⟨hs_a0_, h⟩ := h
    obtain ⟨stepsOf_5, hr_stepsOf_5, h⟩ := h
    refine r_getR g fX12_54 rfl hs_a0_ hr_stepsOf_5 dX12_step_17 ?_
    refine r_iload_n g dX12_step_20 rfl ?_
    obtain ⟨N6, hs_stepsOf_5, h⟩ := h
    obtain ⟨hi7, h⟩ := h
    refine r_iaload g hs_stepsOf_5 hi7 dX12_step_21 ?_
    refine r_iconst g 1 dX12_step_22 (by decide) ?_
    refine r_isub g dX12_step_23 ?_
    refine r_i2l g dX12_step_24 ?_
    by_cases c8 : x2 < 0
    · replace h := h.1 c8
      refine r_callS (st := []) (As := [.long x2.toInt64, .long 0, .long ((hI μ2 stepsOf_5 x1.toNatClampNeg) - 1).toInt64]) g sX12_161 iX12_isIn rfl (Nat.le_of_ble_eq_true rfl) dX12_step_25 (by omega) (Nat.le_refl 0) (Nat.le_refl 0) (Q_isIn_0 (d := d - 1) (x := x2) (a := 0) (b := ((hI μ2 stepsOf_5 x1.toNatClampNeg) - 1)) rfl (by decide) rfl c8) (fun r9 μ10 hZ1 => ?_)
      obtain ⟨rfl, e9⟩ := hZ1
      replace e9 := e9.symm
      subst e9
      refine r_if_eq g 43 dX12_step_28 (by decide) (fun _ => ?_) (fun hz => absurd hz (by decide))
      refine r_ldcw g (-1000000) kX12_448 dX12_step_43 ?_
      exact hr.2.1 _ rfl _ _ _ _ _ _ dX12_step_46 rfl (Nat.le_refl 0) (Nat.le_refl 0) h
    · replace h := h.2 c8
      by_cases c11 : ((hI μ2 stepsOf_5 x1.toNatClampNeg) - 1) < x2
      · replace h := h.1 c11
        refine r_callS (st := []) (As := [.long x2.toInt64, .long 0, .long ((hI μ2 stepsOf_5 x1.toNatClampNeg) - 1).toInt64]) g sX12_161 iX12_isIn rfl (Nat.le_of_ble_eq_true rfl) dX12_step_25 (by omega) (Nat.le_refl 0) (Nat.le_refl 0) (Q_isIn_1 (d := d - 1) (x := x2) (a := 0) (b := ((hI μ2 stepsOf_5 x1.toNatClampNeg) - 1)) rfl (by decide) rfl c8 c11) (fun r12 μ13 hZ1 => ?_)
        obtain ⟨rfl, e9⟩ := hZ1
        replace e9 := e9.symm
        subst e9
        refine r_if_eq g 43 dX12_step_28 (by decide) (fun _ => ?_) (fun hz => absurd hz (by decide))
        refine r_ldcw g (-1000000) kX12_448 dX12_step_43 ?_
        exact hr.2.1 _ rfl _ _ _ _ _ _ dX12_step_46 rfl (Nat.le_refl 0) (Nat.le_refl 0) h
      · replace h := h.2 c11
        refine r_callS (st := []) (As := [.long x2.toInt64, .long 0, .long ((hI μ2 stepsOf_5 x1.toNatClampNeg) - 1).toInt64]) g sX12_161 iX12_isIn rfl (Nat.le_of_ble_eq_true rfl) dX12_step_25 (by omega) (Nat.le_refl 0) (Nat.le_refl 0) (Q_isIn_2 (d := d - 1) (x := x2) (a := 0) (b := ((hI μ2 stepsOf_5 x1.toNatClampNeg) - 1)) rfl (by decide) rfl c8 c11) (fun r14 μ15 hZ1 => ?_)
        obtain ⟨rfl, e9⟩ := hZ1
        replace e9 := e9.symm
        subst e9
        refine r_if_eq g 43 dX12_step_28 (by decide) (fun hz => absurd hz (by decide)) (fun _ => ?_)
        refine r_iload_n g dX12_step_31 rfl ?_
        refine r_i2l g dX12_step_32 ?_
        refine r_lconst g 0 dX12_step_33 (by decide) ?_
        refine r_ldc2 g 4 kX12_452 dX12_step_34 ?_
        by_cases c16 : x3 < 0
        · replace h := h.1 c16
          refine r_callS (st := []) (As := [.long x3.toInt64, .long 0, .long 4]) g sX12_161 iX12_isIn rfl (Nat.le_of_ble_eq_true rfl) dX12_step_37 (by omega) (Nat.le_refl 0) (Nat.le_refl 0) (Q_isIn_0 (d := d - 1) (x := x3) (a := 0) (b := 4) rfl (by decide) (by decide) c16) (fun r17 μ18 hZ1 => ?_)
          obtain ⟨rfl, e9⟩ := hZ1
          replace e9 := e9.symm
          subst e9
          refine r_if_ne g 47 dX12_step_40 (by decide) (fun hz => absurd hz (by decide)) (fun _ => ?_)
          refine r_ldcw g (-1000000) kX12_448 dX12_step_43 ?_
          exact hr.2.1 _ rfl _ _ _ _ _ _ dX12_step_46 rfl (Nat.le_refl 0) (Nat.le_refl 0) h
        · replace h := h.2 c16
          by_cases c19 : 4 < x3
          · replace h := h.1 c19
            refine r_callS (st := []) (As := [.long x3.toInt64, .long 0, .long 4]) g sX12_161 iX12_isIn rfl (Nat.le_of_ble_eq_true rfl) dX12_step_37 (by omega) (Nat.le_refl 0) (Nat.le_refl 0) (Q_isIn_1 (d := d - 1) (x := x3) (a := 0) (b := 4) rfl (by decide) (by decide) c16 c19) (fun r20 μ21 hZ1 => ?_)
            obtain ⟨rfl, e9⟩ := hZ1
            replace e9 := e9.symm
            subst e9
            refine r_if_ne g 47 dX12_step_40 (by decide) (fun hz => absurd hz (by decide)) (fun _ => ?_)
            refine r_ldcw g (-1000000) kX12_448 dX12_step_43 ?_
            exact hr.2.1 _ rfl _ _ _ _ _ _ dX12_step_46 rfl (Nat.le_refl 0) (Nat.le_refl 0) h
          · replace h := h.2 c19
            refine r_callS (st := []) (As := [.long x3.toInt64, .long 0, .long 4]) g sX12_161 iX12_isIn rfl (Nat.le_of_ble_eq_true rfl) dX12_step_37 (by omega) (Nat.le_refl 0) (Nat.le_refl 0) (Q_isIn_2 (d := d - 1) (x := x3) (a := 0) (b := 4) rfl (by decide) (by decide) c16 c19) (fun r22 μ23 hZ1 => ?_)
            obtain ⟨rfl, e9⟩ := hZ1
            replace e9 := e9.symm
            subst e9
            refine r_if_ne g 47 dX12_step_40 (by decide) (fun _ => ?_) (fun hz => absurd hz (by decide))
            refine r_aload_n g dX12_step_47 rfl ?_
            obtain ⟨script_24, hr_script_24, h⟩ := h
            refine r_getR g fX12_51 rfl hs_a0_ hr_script_24 dX12_step_48 ?_
            refine r_iconst g 5 dX12_step_51 (by decide) ?_
            refine r_bipush g 12 dX12_step_52 (by decide) ?_
            refine r_iload_n g dX12_step_54 rfl ?_
            refine r_imul g dX12_step_55 ?_
            refine r_iload_n g dX12_step_56 rfl ?_
            refine r_iadd g dX12_step_57 ?_
            refine r_imul g dX12_step_58 ?_
            refine r_iload_n g dX12_step_59 rfl ?_
            refine r_iadd g dX12_step_60 ?_
            obtain ⟨N25, hs_script_24, h⟩ := h
            obtain ⟨hi26, h⟩ := h
            refine r_iaload g hs_script_24 hi26 dX12_step_61 ?_
            exact hr.2.1 _ rfl _ _ _ _ _ _ dX12_step_62 rfl (Nat.le_refl 0) (Nat.le_refl 0) h
theorem I_X12_step {d : Nat} {ro : Nat → Nat} {Z : Option Value → Hp → Prop} {μ : Hp} {a0 : Nat} {x1 : Int32} {x2 : Int32} {x3 : Int32} (h : ∀ J, xCtx RX12 cX12_step 4 d 0 0 yX12_step.name ro J → xRet cX12_step (some .int) 0 0 Z J → J μ 0 0 0 [(0, .ref a0), (1, .int x1), (2, .int x2), (3, .int x3)] []) : xC d yX12_step cX12_step 4 (some .int) 0 0 [.ref a0, .int x1, .int x2, .int x3] μ ro Z :=
  xC_intro (own := RX12) (lv := [(0, .ref a0), (1, .int x1), (2, .int x2), (3, .int x3)]) (by decide) rfl (Nat.le_of_ble_eq_true rfl) rfl (fun J g hr => r_sub g (lv' := [(0, .ref a0), (1, .int x1), (2, .int x2), (3, .int x3)]) (⟨rfl, rfl, rfl, rfl, trivial⟩) (h J g hr))
theorem dX12_takenOf_0 : decode cX12_takenOf 0 = .ok (.iconst 0, 1) := by decide +kernel
theorem dX12_takenOf_1 : decode cX12_takenOf 1 = .ok (.istore_n 1, 1) := by decide +kernel
theorem dX12_takenOf_2 : decode cX12_takenOf 2 = .ok (.iconst 0, 1) := by decide +kernel
theorem dX12_takenOf_3 : decode cX12_takenOf 3 = .ok (.istore_n 2, 1) := by decide +kernel
theorem dX12_takenOf_4 : decode cX12_takenOf 4 = .ok (.iload_n 2, 1) := by decide +kernel
theorem dX12_takenOf_5 : decode cX12_takenOf 5 = .ok (.bipush 6, 2) := by decide +kernel
theorem dX12_takenOf_7 : decode cX12_takenOf 7 = .ok (.if_icmp .ge 18, 3) := by decide +kernel
theorem dX12_takenOf_10 : decode cX12_takenOf 10 = .ok (.iload_n 1, 1) := by decide +kernel
theorem dX12_takenOf_11 : decode cX12_takenOf 11 = .ok (.aload_n 0, 1) := by decide +kernel
theorem dX12_takenOf_12 : decode cX12_takenOf 12 = .ok (.bipush 24, 2) := by decide +kernel
theorem dX12_takenOf_14 : decode cX12_takenOf 14 = .ok (.iload_n 2, 1) := by decide +kernel
theorem dX12_takenOf_15 : decode cX12_takenOf 15 = .ok (.iadd, 1) := by decide +kernel
theorem dX12_takenOf_16 : decode cX12_takenOf 16 = .ok (.iaload, 1) := by decide +kernel
theorem dX12_takenOf_17 : decode cX12_takenOf 17 = .ok (.iadd, 1) := by decide +kernel
theorem dX12_takenOf_18 : decode cX12_takenOf 18 = .ok (.istore_n 1, 1) := by decide +kernel
theorem dX12_takenOf_19 : decode cX12_takenOf 19 = .ok (.iinc 2 1, 3) := by decide +kernel
theorem dX12_takenOf_22 : decode cX12_takenOf 22 = .ok (.goto (-18), 3) := by decide +kernel
theorem dX12_takenOf_25 : decode cX12_takenOf 25 = .ok (.iload_n 1, 1) := by decide +kernel
theorem dX12_takenOf_26 : decode cX12_takenOf 26 = .ok (.ireturn, 1) := by decide +kernel
set_option maxHeartbeats 4000000 in
set_option maxRecDepth 100000 in
theorem B_X12_takenOf_0 {d : Nat} {ro : Nat → Nat} {J : JT} {Z : Option Value → Hp → Prop} (g : xCtx RX12 cX12_takenOf 3 d 0 0 yX12_takenOf.name ro J) (hr : xRet cX12_takenOf (some .int) 0 0 Z J) {μ : Hp} {a0 : Nat} 
    (h : J μ 0 0 4 [(0, .ref a0), (1, .int 0), (2, .int 0)] []) :
    J μ 0 0 0 [(0, .ref a0)] [] := by
  refine r_iconst g 0 dX12_takenOf_0 (by decide) ?_
  refine r_istore_n g [(1, .int 0), (0, .ref a0)] dX12_takenOf_1 (by decide) rfl ?_
  refine r_iconst g 0 dX12_takenOf_2 (by decide) ?_
  refine r_istore_n g [(2, .int 0), (1, .int 0), (0, .ref a0)] dX12_takenOf_3 (by decide) rfl ?_
  refine r_sub g (lv' := [(0, .ref a0), (1, .int 0), (2, .int 0)]) (⟨rfl, rfl, rfl, trivial⟩) ?_
  exact h
set_option maxHeartbeats 4000000 in
set_option maxRecDepth 100000 in
theorem B_X12_takenOf_4 {d : Nat} {ro : Nat → Nat} {J : JT} {Z : Option Value → Hp → Prop} (g : xCtx RX12 cX12_takenOf 3 d 0 0 yX12_takenOf.name ro J) (hr : xRet cX12_takenOf (some .int) 0 0 Z J) {μ : Hp} {a0 : Nat} {x1 : Int32} {x2 : Int32} {N_a0 : Nat} (hs_a0 : hS μ a0 = some (0, N_a0))
    (h : ((6 ≤ x2 → Z (some (.int x1)) μ) ∧ (¬ 6 ≤ x2 → vp_in (24 + x2) N_a0 ∧ J μ 0 0 4 [(0, .ref a0), (1, .int (x1 + (hI μ a0 ((24 + x2).toNatClampNeg)))), (2, .int (x2 + 1))] []))) :
    J μ 0 0 4 [(0, .ref a0), (1, .int x1), (2, .int x2)] [] := by
  refine r_iload_n g dX12_takenOf_4 rfl ?_
  refine r_bipush g 6 dX12_takenOf_5 (by decide) ?_
  refine r_icmp_ge g 25 dX12_takenOf_7 (by decide) (fun c1 => ?_) (fun c1 => ?_)
  · replace h := h.1 c1
    refine r_iload_n g dX12_takenOf_25 rfl ?_
    exact hr.2.1 _ rfl _ _ _ _ _ _ dX12_takenOf_26 rfl (Nat.le_refl 0) (Nat.le_refl 0) h
  · replace h := h.2 c1
    refine r_iload_n g dX12_takenOf_10 rfl ?_
    refine r_aload_n g dX12_takenOf_11 rfl ?_
    refine r_bipush g 24 dX12_takenOf_12 (by decide) ?_
    refine r_iload_n g dX12_takenOf_14 rfl ?_
    refine r_iadd g dX12_takenOf_15 ?_
    obtain ⟨hi2, h⟩ := h
    refine r_iaload g hs_a0 hi2 dX12_takenOf_16 ?_
    refine r_iadd g dX12_takenOf_17 ?_
    refine r_istore_n g [(1, .int (x1 + (hI μ a0 ((24 + x2).toNatClampNeg)))), (0, .ref a0), (2, .int x2)] dX12_takenOf_18 (by decide) rfl ?_
    refine r_iinc g (x2 + 1) [(2, .int (x2 + 1)), (1, .int (x1 + (hI μ a0 ((24 + x2).toNatClampNeg)))), (0, .ref a0)] dX12_takenOf_19 rfl rfl (by decide) rfl ?_
    refine r_goto g 4 dX12_takenOf_22 (by decide) ?_
    refine r_sub g (lv' := [(0, .ref a0), (1, .int (x1 + (hI μ a0 ((24 + x2).toNatClampNeg)))), (2, .int (x2 + 1))]) (⟨rfl, rfl, rfl, trivial⟩) ?_
    exact h
theorem I_X12_takenOf {d : Nat} {ro : Nat → Nat} {Z : Option Value → Hp → Prop} {μ : Hp} {a0 : Nat} (h : ∀ J, xCtx RX12 cX12_takenOf 3 d 0 0 yX12_takenOf.name ro J → xRet cX12_takenOf (some .int) 0 0 Z J → J μ 0 0 0 [(0, .ref a0)] []) : xC d yX12_takenOf cX12_takenOf 3 (some .int) 0 0 [.ref a0] μ ro Z :=
  xC_intro (own := RX12) (lv := [(0, .ref a0)]) (by decide) rfl (Nat.le_of_ble_eq_true rfl) rfl (fun J g hr => r_sub g (lv' := [(0, .ref a0)]) (⟨rfl, trivial⟩) (h J g hr))
theorem dX12_run_0 : decode cX12_run 0 = .ok (.aload_n 0, 1) := by decide +kernel
theorem dX12_run_1 : decode cX12_run 1 = .ok (.iconst 0, 1) := by decide +kernel
theorem dX12_run_2 : decode cX12_run 2 = .ok (.putfield 106, 3) := by decide +kernel
theorem dX12_run_5 : decode cX12_run 5 = .ok (.aload_n 0, 1) := by decide +kernel
theorem dX12_run_6 : decode cX12_run 6 = .ok (.iload_n 1, 1) := by decide +kernel
theorem dX12_run_7 : decode cX12_run 7 = .ok (.invokevirtual 498, 3) := by decide +kernel
theorem dX12_run_10 : decode cX12_run 10 = .ok (.ifCond .eq 20, 3) := by decide +kernel
theorem dX12_run_13 : decode cX12_run 13 = .ok (.aload_n 0, 1) := by decide +kernel
theorem dX12_run_14 : decode cX12_run 14 = .ok (.getfield 245, 3) := by decide +kernel
theorem dX12_run_17 : decode cX12_run 17 = .ok (.ifCond .eq 13, 3) := by decide +kernel
theorem dX12_run_20 : decode cX12_run 20 = .ok (.iload_n 2, 1) := by decide +kernel
theorem dX12_run_21 : decode cX12_run 21 = .ok (.i2l, 1) := by decide +kernel
theorem dX12_run_22 : decode cX12_run 22 = .ok (.lconst 0, 1) := by decide +kernel
theorem dX12_run_23 : decode cX12_run 23 = .ok (.lconst 1, 1) := by decide +kernel
theorem dX12_run_24 : decode cX12_run 24 = .ok (.invokestatic 161, 3) := by decide +kernel
theorem dX12_run_27 : decode cX12_run 27 = .ok (.ifCond .ne 7, 3) := by decide +kernel
theorem dX12_run_30 : decode cX12_run 30 = .ok (.ldc_w 448, 3) := by decide +kernel
theorem dX12_run_33 : decode cX12_run 33 = .ok (.ireturn, 1) := by decide +kernel
theorem dX12_run_34 : decode cX12_run 34 = .ok (.aload_n 0, 1) := by decide +kernel
theorem dX12_run_35 : decode cX12_run 35 = .ok (.getfield 57, 3) := by decide +kernel
theorem dX12_run_38 : decode cX12_run 38 = .ok (.iconst 0, 1) := by decide +kernel
theorem dX12_run_39 : decode cX12_run 39 = .ok (.aload_n 0, 1) := by decide +kernel
theorem dX12_run_40 : decode cX12_run 40 = .ok (.getfield 60, 3) := by decide +kernel
theorem dX12_run_43 : decode cX12_run 43 = .ok (.iconst 0, 1) := by decide +kernel
theorem dX12_run_44 : decode cX12_run 44 = .ok (.invokestatic 408, 3) := by decide +kernel
theorem dX12_run_47 : decode cX12_run 47 = .ok (.iconst 0, 1) := by decide +kernel
theorem dX12_run_48 : decode cX12_run 48 = .ok (.istore_n 3, 1) := by decide +kernel
theorem dX12_run_49 : decode cX12_run 49 = .ok (.iconst 1, 1) := by decide +kernel
theorem dX12_run_50 : decode cX12_run 50 = .ok (.istore 4, 2) := by decide +kernel
theorem dX12_run_52 : decode cX12_run 52 = .ok (.iload 4, 2) := by decide +kernel
theorem dX12_run_54 : decode cX12_run 54 = .ok (.ifCond .eq 150, 3) := by decide +kernel
theorem dX12_run_57 : decode cX12_run 57 = .ok (.iload_n 3, 1) := by decide +kernel
theorem dX12_run_58 : decode cX12_run 58 = .ok (.aload_n 0, 1) := by decide +kernel
theorem dX12_run_59 : decode cX12_run 59 = .ok (.getfield 54, 3) := by decide +kernel
theorem dX12_run_62 : decode cX12_run 62 = .ok (.iload_n 1, 1) := by decide +kernel
theorem dX12_run_63 : decode cX12_run 63 = .ok (.iaload, 1) := by decide +kernel
theorem dX12_run_64 : decode cX12_run 64 = .ok (.if_icmp .ge 140, 3) := by decide +kernel
theorem dX12_run_67 : decode cX12_run 67 = .ok (.iconst 5, 1) := by decide +kernel
theorem dX12_run_68 : decode cX12_run 68 = .ok (.bipush 12, 2) := by decide +kernel
theorem dX12_run_70 : decode cX12_run 70 = .ok (.iload_n 1, 1) := by decide +kernel
theorem dX12_run_71 : decode cX12_run 71 = .ok (.imul, 1) := by decide +kernel
theorem dX12_run_72 : decode cX12_run 72 = .ok (.iload_n 3, 1) := by decide +kernel
theorem dX12_run_73 : decode cX12_run 73 = .ok (.iadd, 1) := by decide +kernel
theorem dX12_run_74 : decode cX12_run 74 = .ok (.imul, 1) := by decide +kernel
theorem dX12_run_75 : decode cX12_run 75 = .ok (.istore 5, 2) := by decide +kernel
theorem dX12_run_77 : decode cX12_run 77 = .ok (.aload_n 0, 1) := by decide +kernel
theorem dX12_run_78 : decode cX12_run 78 = .ok (.aload_n 0, 1) := by decide +kernel
theorem dX12_run_79 : decode cX12_run 79 = .ok (.getfield 60, 3) := by decide +kernel
theorem dX12_run_82 : decode cX12_run 82 = .ok (.aload_n 0, 1) := by decide +kernel
theorem dX12_run_83 : decode cX12_run 83 = .ok (.getfield 51, 3) := by decide +kernel
theorem dX12_run_86 : decode cX12_run 86 = .ok (.iload 5, 2) := by decide +kernel
theorem dX12_run_88 : decode cX12_run 88 = .ok (.iaload, 1) := by decide +kernel
theorem dX12_run_89 : decode cX12_run 89 = .ok (.aload_n 0, 1) := by decide +kernel
theorem dX12_run_90 : decode cX12_run 90 = .ok (.getfield 51, 3) := by decide +kernel
theorem dX12_run_93 : decode cX12_run 93 = .ok (.iload 5, 2) := by decide +kernel
theorem dX12_run_95 : decode cX12_run 95 = .ok (.iconst 1, 1) := by decide +kernel
theorem dX12_run_96 : decode cX12_run 96 = .ok (.iadd, 1) := by decide +kernel
theorem dX12_run_97 : decode cX12_run 97 = .ok (.iaload, 1) := by decide +kernel
theorem dX12_run_98 : decode cX12_run 98 = .ok (.aload_n 0, 1) := by decide +kernel
theorem dX12_run_99 : decode cX12_run 99 = .ok (.getfield 51, 3) := by decide +kernel
theorem dX12_run_102 : decode cX12_run 102 = .ok (.iload 5, 2) := by decide +kernel
theorem dX12_run_104 : decode cX12_run 104 = .ok (.iconst 2, 1) := by decide +kernel
theorem dX12_run_105 : decode cX12_run 105 = .ok (.iadd, 1) := by decide +kernel
theorem dX12_run_106 : decode cX12_run 106 = .ok (.iaload, 1) := by decide +kernel
theorem dX12_run_107 : decode cX12_run 107 = .ok (.aload_n 0, 1) := by decide +kernel
theorem dX12_run_108 : decode cX12_run 108 = .ok (.getfield 51, 3) := by decide +kernel
theorem dX12_run_111 : decode cX12_run 111 = .ok (.iload 5, 2) := by decide +kernel
theorem dX12_run_113 : decode cX12_run 113 = .ok (.iconst 3, 1) := by decide +kernel
theorem dX12_run_114 : decode cX12_run 114 = .ok (.iadd, 1) := by decide +kernel
theorem dX12_run_115 : decode cX12_run 115 = .ok (.iaload, 1) := by decide +kernel
theorem dX12_run_116 : decode cX12_run 116 = .ok (.aload_n 0, 1) := by decide +kernel
theorem dX12_run_117 : decode cX12_run 117 = .ok (.getfield 51, 3) := by decide +kernel
theorem dX12_run_120 : decode cX12_run 120 = .ok (.iload 5, 2) := by decide +kernel
theorem dX12_run_122 : decode cX12_run 122 = .ok (.iconst 4, 1) := by decide +kernel
theorem dX12_run_123 : decode cX12_run 123 = .ok (.iadd, 1) := by decide +kernel
theorem dX12_run_124 : decode cX12_run 124 = .ok (.iaload, 1) := by decide +kernel
theorem dX12_run_125 : decode cX12_run 125 = .ok (.invokevirtual 412, 3) := by decide +kernel
theorem dX12_run_128 : decode cX12_run 128 = .ok (.iconst (-1), 1) := by decide +kernel
theorem dX12_run_129 : decode cX12_run 129 = .ok (.if_icmp .ne 7, 3) := by decide +kernel
theorem dX12_run_132 : decode cX12_run 132 = .ok (.iconst 1, 1) := by decide +kernel
theorem dX12_run_133 : decode cX12_run 133 = .ok (.goto 4, 3) := by decide +kernel
theorem dX12_run_136 : decode cX12_run 136 = .ok (.iconst 0, 1) := by decide +kernel
theorem dX12_run_137 : decode cX12_run 137 = .ok (.istore 4, 2) := by decide +kernel
theorem dX12_run_139 : decode cX12_run 139 = .ok (.iload 4, 2) := by decide +kernel
theorem dX12_run_141 : decode cX12_run 141 = .ok (.ifCond .ne 6, 3) := by decide +kernel
theorem dX12_run_144 : decode cX12_run 144 = .ok (.goto (-92), 3) := by decide +kernel
theorem dX12_run_147 : decode cX12_run 147 = .ok (.aload_n 0, 1) := by decide +kernel
theorem dX12_run_148 : decode cX12_run 148 = .ok (.aload_n 0, 1) := by decide +kernel
theorem dX12_run_149 : decode cX12_run 149 = .ok (.getfield 60, 3) := by decide +kernel
theorem dX12_run_152 : decode cX12_run 152 = .ok (.aload_n 0, 1) := by decide +kernel
theorem dX12_run_153 : decode cX12_run 153 = .ok (.getfield 51, 3) := by decide +kernel
theorem dX12_run_156 : decode cX12_run 156 = .ok (.iload 5, 2) := by decide +kernel
theorem dX12_run_158 : decode cX12_run 158 = .ok (.iaload, 1) := by decide +kernel
theorem dX12_run_159 : decode cX12_run 159 = .ok (.aload_n 0, 1) := by decide +kernel
theorem dX12_run_160 : decode cX12_run 160 = .ok (.getfield 51, 3) := by decide +kernel
theorem dX12_run_163 : decode cX12_run 163 = .ok (.iload 5, 2) := by decide +kernel
theorem dX12_run_165 : decode cX12_run 165 = .ok (.iconst 1, 1) := by decide +kernel
theorem dX12_run_166 : decode cX12_run 166 = .ok (.iadd, 1) := by decide +kernel
theorem dX12_run_167 : decode cX12_run 167 = .ok (.iaload, 1) := by decide +kernel
theorem dX12_run_168 : decode cX12_run 168 = .ok (.aload_n 0, 1) := by decide +kernel
theorem dX12_run_169 : decode cX12_run 169 = .ok (.getfield 51, 3) := by decide +kernel
theorem dX12_run_172 : decode cX12_run 172 = .ok (.iload 5, 2) := by decide +kernel
theorem dX12_run_174 : decode cX12_run 174 = .ok (.iconst 2, 1) := by decide +kernel
theorem dX12_run_175 : decode cX12_run 175 = .ok (.iadd, 1) := by decide +kernel
theorem dX12_run_176 : decode cX12_run 176 = .ok (.iaload, 1) := by decide +kernel
theorem dX12_run_177 : decode cX12_run 177 = .ok (.aload_n 0, 1) := by decide +kernel
theorem dX12_run_178 : decode cX12_run 178 = .ok (.getfield 51, 3) := by decide +kernel
theorem dX12_run_181 : decode cX12_run 181 = .ok (.iload 5, 2) := by decide +kernel
theorem dX12_run_183 : decode cX12_run 183 = .ok (.iconst 3, 1) := by decide +kernel
theorem dX12_run_184 : decode cX12_run 184 = .ok (.iadd, 1) := by decide +kernel
theorem dX12_run_185 : decode cX12_run 185 = .ok (.iaload, 1) := by decide +kernel
theorem dX12_run_186 : decode cX12_run 186 = .ok (.aload_n 0, 1) := by decide +kernel
theorem dX12_run_187 : decode cX12_run 187 = .ok (.getfield 51, 3) := by decide +kernel
theorem dX12_run_190 : decode cX12_run 190 = .ok (.iload 5, 2) := by decide +kernel
theorem dX12_run_192 : decode cX12_run 192 = .ok (.iconst 4, 1) := by decide +kernel
theorem dX12_run_193 : decode cX12_run 193 = .ok (.iadd, 1) := by decide +kernel
theorem dX12_run_194 : decode cX12_run 194 = .ok (.iaload, 1) := by decide +kernel
theorem dX12_run_195 : decode cX12_run 195 = .ok (.invokevirtual 418, 3) := by decide +kernel
theorem dX12_run_198 : decode cX12_run 198 = .ok (.iinc 3 1, 3) := by decide +kernel
theorem dX12_run_201 : decode cX12_run 201 = .ok (.goto (-149), 3) := by decide +kernel
theorem dX12_run_204 : decode cX12_run 204 = .ok (.iload_n 2, 1) := by decide +kernel
theorem dX12_run_205 : decode cX12_run 205 = .ok (.iconst 1, 1) := by decide +kernel
theorem dX12_run_206 : decode cX12_run 206 = .ok (.if_icmp .ne 13, 3) := by decide +kernel
theorem dX12_run_209 : decode cX12_run 209 = .ok (.aload_n 0, 1) := by decide +kernel
theorem dX12_run_210 : decode cX12_run 210 = .ok (.getfield 60, 3) := by decide +kernel
theorem dX12_run_213 : decode cX12_run 213 = .ok (.invokestatic 501, 3) := by decide +kernel
theorem dX12_run_216 : decode cX12_run 216 = .ok (.goto 18, 3) := by decide +kernel
theorem dX12_run_219 : decode cX12_run 219 = .ok (.iload_n 3, 1) := by decide +kernel
theorem dX12_run_220 : decode cX12_run 220 = .ok (.aload_n 0, 1) := by decide +kernel
theorem dX12_run_221 : decode cX12_run 221 = .ok (.getfield 54, 3) := by decide +kernel
theorem dX12_run_224 : decode cX12_run 224 = .ok (.iload_n 1, 1) := by decide +kernel
theorem dX12_run_225 : decode cX12_run 225 = .ok (.iaload, 1) := by decide +kernel
theorem dX12_run_226 : decode cX12_run 226 = .ok (.if_icmp .ne 7, 3) := by decide +kernel
theorem dX12_run_229 : decode cX12_run 229 = .ok (.iconst (-1), 1) := by decide +kernel
theorem dX12_run_230 : decode cX12_run 230 = .ok (.goto 4, 3) := by decide +kernel
theorem dX12_run_233 : decode cX12_run 233 = .ok (.iload_n 3, 1) := by decide +kernel
theorem dX12_run_234 : decode cX12_run 234 = .ok (.ireturn, 1) := by decide +kernel
set_option maxHeartbeats 4000000 in
set_option maxRecDepth 100000 in
theorem B_X12_run_0 {d : Nat} {ro : Nat → Nat} {J : JT} {Z : Option Value → Hp → Prop} (g : xCtx RX12 cX12_run 6 d 0 0 yX12_run.name ro J) (hr : xRet cX12_run (some .int) 0 0 Z J) {μ : Hp} {a0 : Nat} {x1 : Int32} {x2 : Int32} (hs_a0 : hS μ a0 = some (15, 65)) (hd9 : 1 ≤ d)
    (h : xCall d yX12_isScript cX12_isScript 2 (some .boolean) [.ref a0, .int x1] (wI μ a0 0 0) ro (fun r1 μ2 => ∃ y3 : Int32, r1 = some (.int y3) ∧ ((y3 = 0 → Z (some (.int (-1000000))) μ2) ∧ (¬ y3 = 0 → hS μ2 a0 = some (15, 65) ∧ (((hI μ2 a0 22) = 0 → Z (some (.int (-1000000))) μ2) ∧ (¬ (hI μ2 a0 22) = 0 → ((x2 < 0 → Z (some (.int (-1000000))) μ2) ∧ (¬ x2 < 0 → ((1 < x2 → Z (some (.int (-1000000))) μ2) ∧ (¬ 1 < x2 → ∃ now_14 : Nat, hR μ2 a0 30 = some now_14 ∧ ∃ trial_15 : Nat, hR μ2 a0 31 = some trial_15 ∧ xCall d yX12_copyRow cX12_copyRow 5 none [.ref now_14, .int 0, .ref trial_15, .int 0] μ2 ro (fun r16 μ17 => r16 = none ∧ J μ17 0 0 52 [(0, .ref a0), (1, .int x1), (2, .int x2), (3, .int 0), (4, .int 1)] []))))))))))) :
    J μ 0 0 0 [(0, .ref a0), (1, .int x1), (2, .int x2)] [] := by
  refine r_aload_n g dX12_run_0 rfl ?_
  refine r_iconst g 0 dX12_run_1 (by decide) ?_
  refine r_putI g fX12_106 rfl hs_a0 rfl rfl dX12_run_2 ?_
  refine r_aload_n g dX12_run_5 rfl ?_
  refine r_iload_n g dX12_run_6 rfl ?_
  obtain ⟨d1, Z1, hc1, hd1, h1⟩ := h
  refine r_callV (st := []) (As := [.int x1]) g sX12_498 iX12_isScript eX12_isScript rfl hs_a0 rfl (Nat.le_of_ble_eq_true rfl) dX12_run_7 hd1 (Nat.le_refl 0) (Nat.le_refl 0) hc1 (fun r1 μ2 hZ1 => ?_)
  replace h := h1 _ _ hZ1
  clear h1 hc1 hd1 hZ1 Z1 d1
  obtain ⟨y3, rfl, h⟩ := h
  refine r_if_eq g 30 dX12_run_10 (by decide) (fun c4 => ?_) (fun c4 => ?_)
  · replace h := h.1 c4
    refine r_ldcw g (-1000000) kX12_448 dX12_run_30 ?_
    exact hr.2.1 _ rfl _ _ _ _ _ _ dX12_run_33 rfl (Nat.le_refl 0) (Nat.le_refl 0) h
  · replace h := h.2 c4
    refine r_aload_n g dX12_run_13 rfl ?_
    obtain ⟨hs_a0_, h⟩ := h
    refine r_getI g fX12_245 rfl hs_a0_ dX12_run_14 ?_
    refine r_if_eq g 30 dX12_run_17 (by decide) (fun c5 => ?_) (fun c5 => ?_)
    · replace h := h.1 c5
      refine r_ldcw g (-1000000) kX12_448 dX12_run_30 ?_
      exact hr.2.1 _ rfl _ _ _ _ _ _ dX12_run_33 rfl (Nat.le_refl 0) (Nat.le_refl 0) h
    · replace h := h.2 c5
      refine r_iload_n g dX12_run_20 rfl ?_
      refine r_i2l g dX12_run_21 ?_
      refine r_lconst g 0 dX12_run_22 (by decide) ?_
      refine r_lconst g 1 dX12_run_23 (by decide) ?_
      by_cases c6 : x2 < 0
      · replace h := h.1 c6
        refine r_callS (st := []) (As := [.long x2.toInt64, .long 0, .long 1]) g sX12_161 iX12_isIn rfl (Nat.le_of_ble_eq_true rfl) dX12_run_24 (by omega) (Nat.le_refl 0) (Nat.le_refl 0) (Q_isIn_0 (d := d - 1) (x := x2) (a := 0) (b := 1) rfl (by decide) (by decide) c6) (fun r7 μ8 hZ1 => ?_)
        obtain ⟨rfl, e9⟩ := hZ1
        replace e9 := e9.symm
        subst e9
        refine r_if_ne g 34 dX12_run_27 (by decide) (fun hz => absurd hz (by decide)) (fun _ => ?_)
        refine r_ldcw g (-1000000) kX12_448 dX12_run_30 ?_
        exact hr.2.1 _ rfl _ _ _ _ _ _ dX12_run_33 rfl (Nat.le_refl 0) (Nat.le_refl 0) h
      · replace h := h.2 c6
        by_cases c9 : 1 < x2
        · replace h := h.1 c9
          refine r_callS (st := []) (As := [.long x2.toInt64, .long 0, .long 1]) g sX12_161 iX12_isIn rfl (Nat.le_of_ble_eq_true rfl) dX12_run_24 (by omega) (Nat.le_refl 0) (Nat.le_refl 0) (Q_isIn_1 (d := d - 1) (x := x2) (a := 0) (b := 1) rfl (by decide) (by decide) c6 c9) (fun r10 μ11 hZ1 => ?_)
          obtain ⟨rfl, e9⟩ := hZ1
          replace e9 := e9.symm
          subst e9
          refine r_if_ne g 34 dX12_run_27 (by decide) (fun hz => absurd hz (by decide)) (fun _ => ?_)
          refine r_ldcw g (-1000000) kX12_448 dX12_run_30 ?_
          exact hr.2.1 _ rfl _ _ _ _ _ _ dX12_run_33 rfl (Nat.le_refl 0) (Nat.le_refl 0) h
        · replace h := h.2 c9
          refine r_callS (st := []) (As := [.long x2.toInt64, .long 0, .long 1]) g sX12_161 iX12_isIn rfl (Nat.le_of_ble_eq_true rfl) dX12_run_24 (by omega) (Nat.le_refl 0) (Nat.le_refl 0) (Q_isIn_2 (d := d - 1) (x := x2) (a := 0) (b := 1) rfl (by decide) (by decide) c6 c9) (fun r12 μ13 hZ1 => ?_)
          obtain ⟨rfl, e9⟩ := hZ1
          replace e9 := e9.symm
          subst e9
          refine r_if_ne g 34 dX12_run_27 (by decide) (fun _ => ?_) (fun hz => absurd hz (by decide))
          refine r_aload_n g dX12_run_34 rfl ?_
          obtain ⟨now_14, hr_now_14, h⟩ := h
          refine r_getR g fX12_57 rfl hs_a0_ hr_now_14 dX12_run_35 ?_
          refine r_iconst g 0 dX12_run_38 (by decide) ?_
          refine r_aload_n g dX12_run_39 rfl ?_
          obtain ⟨trial_15, hr_trial_15, h⟩ := h
          refine r_getR g fX12_60 rfl hs_a0_ hr_trial_15 dX12_run_40 ?_
          refine r_iconst g 0 dX12_run_43 (by decide) ?_
          obtain ⟨d1, Z1, hc1, hd1, h1⟩ := h
          refine r_callS (st := []) (As := [.ref now_14, .int 0, .ref trial_15, .int 0]) g sX12_408 iX12_copyRow rfl (Nat.le_of_ble_eq_true rfl) dX12_run_44 hd1 (Nat.le_refl 0) (Nat.le_refl 0) hc1 (fun r16 μ17 hZ1 => ?_)
          replace h := h1 _ _ hZ1
          clear h1 hc1 hd1 hZ1 Z1 d1
          obtain ⟨rfl, h⟩ := h
          refine r_iconst g 0 dX12_run_47 (by decide) ?_
          refine r_istore_n g [(3, .int 0), (0, .ref a0), (1, .int x1), (2, .int x2)] dX12_run_48 (by decide) rfl ?_
          refine r_iconst g 1 dX12_run_49 (by decide) ?_
          refine r_istore g [(4, .int 1), (3, .int 0), (0, .ref a0), (1, .int x1), (2, .int x2)] dX12_run_50 (by decide) rfl ?_
          refine r_sub g (lv' := [(0, .ref a0), (1, .int x1), (2, .int x2), (3, .int 0), (4, .int 1)]) (⟨rfl, rfl, rfl, rfl, rfl, trivial⟩) ?_
          exact h
set_option maxHeartbeats 4000000 in
set_option maxRecDepth 100000 in
theorem B_X12_run_52 {d : Nat} {ro : Nat → Nat} {J : JT} {Z : Option Value → Hp → Prop} (g : xCtx RX12 cX12_run 6 d 0 0 yX12_run.name ro J) (hr : xRet cX12_run (some .int) 0 0 Z J) {μ : Hp} {a0 : Nat} {x1 : Int32} {x2 : Int32} {x3 : Int32} {x4 : Int32} {a0_stepsOf : Nat} {N_a0_stepsOf : Nat} {a0_trial : Nat} {a0_script : Nat} {N_a0_script : Nat} (hs_a0 : hS μ a0 = some (15, 65)) (hr_a0_stepsOf : hR μ a0 29 = some a0_stepsOf) (hs_a0_stepsOf : hS μ a0_stepsOf = some (0, N_a0_stepsOf)) (hr_a0_trial : hR μ a0 31 = some a0_trial) (hr_a0_script : hR μ a0 28 = some a0_script) (hs_a0_script : hS μ a0_script = some (0, N_a0_script))
    (h : ((x4 = 0 → ((¬ x2 = 1 → vp_in x1 N_a0_stepsOf ∧ ((¬ x3 = (hI μ a0_stepsOf x1.toNatClampNeg) → Z (some (.int x3)) μ) ∧ (x3 = (hI μ a0_stepsOf x1.toNatClampNeg) → Z (some (.int (-1))) μ))) ∧ (x2 = 1 → xCall d yX12_takenOf cX12_takenOf 3 (some .int) [.ref a0_trial] μ ro (fun r5 μ6 => ∃ y7 : Int32, r5 = some (.int y7) ∧ Z (some (.int y7)) μ6)))) ∧ (¬ x4 = 0 → vp_in x1 N_a0_stepsOf ∧ (((hI μ a0_stepsOf x1.toNatClampNeg) ≤ x3 → ((¬ x2 = 1 → ((¬ x3 = (hI μ a0_stepsOf x1.toNatClampNeg) → Z (some (.int x3)) μ) ∧ (x3 = (hI μ a0_stepsOf x1.toNatClampNeg) → Z (some (.int (-1))) μ))) ∧ (x2 = 1 → xCall d yX12_takenOf cX12_takenOf 3 (some .int) [.ref a0_trial] μ ro (fun r12 μ13 => ∃ y14 : Int32, r12 = some (.int y14) ∧ Z (some (.int y14)) μ13)))) ∧ (¬ (hI μ a0_stepsOf x1.toNatClampNeg) ≤ x3 → vp_in (5 * ((12 * x1) + x3)) N_a0_script ∧ vp_in ((5 * ((12 * x1) + x3)) + 1) N_a0_script ∧ vp_in ((5 * ((12 * x1) + x3)) + 2) N_a0_script ∧ vp_in ((5 * ((12 * x1) + x3)) + 3) N_a0_script ∧ vp_in ((5 * ((12 * x1) + x3)) + 4) N_a0_script ∧ xCall d yX12_stops cX12_stops 7 (some .int) [.ref a0, .ref a0_trial, .int (hI μ a0_script ((5 * ((12 * x1) + x3)).toNatClampNeg)), .int (hI μ a0_script (((5 * ((12 * x1) + x3)) + 1).toNatClampNeg)), .int (hI μ a0_script (((5 * ((12 * x1) + x3)) + 2).toNatClampNeg)), .int (hI μ a0_script (((5 * ((12 * x1) + x3)) + 3).toNatClampNeg)), .int (hI μ a0_script (((5 * ((12 * x1) + x3)) + 4).toNatClampNeg))] μ ro (fun r20 μ21 => ∃ y22 : Int32, r20 = some (.int y22) ∧ ((¬ y22 = (-1) → J μ21 0 0 52 [(0, .ref a0), (1, .int x1), (2, .int x2), (3, .int x3), (4, .int 0)] []) ∧ (y22 = (-1) → hS μ21 a0 = some (15, 65) ∧ ∃ trial_24 : Nat, hR μ21 a0 31 = some trial_24 ∧ ∃ script_25 : Nat, hR μ21 a0 28 = some script_25 ∧ ∃ N26 : Nat, hS μ21 script_25 = some (0, N26) ∧ vp_in (5 * ((12 * x1) + x3)) N26 ∧ vp_in ((5 * ((12 * x1) + x3)) + 1) N26 ∧ vp_in ((5 * ((12 * x1) + x3)) + 2) N26 ∧ vp_in ((5 * ((12 * x1) + x3)) + 3) N26 ∧ vp_in ((5 * ((12 * x1) + x3)) + 4) N26 ∧ xCall d yX12_does cX12_does 7 none [.ref a0, .ref trial_24, .int (hI μ21 script_25 ((5 * ((12 * x1) + x3)).toNatClampNeg)), .int (hI μ21 script_25 (((5 * ((12 * x1) + x3)) + 1).toNatClampNeg)), .int (hI μ21 script_25 (((5 * ((12 * x1) + x3)) + 2).toNatClampNeg)), .int (hI μ21 script_25 (((5 * ((12 * x1) + x3)) + 3).toNatClampNeg)), .int (hI μ21 script_25 (((5 * ((12 * x1) + x3)) + 4).toNatClampNeg))] μ21 ro (fun r32 μ33 => r32 = none ∧ J μ33 0 0 52 [(0, .ref a0), (1, .int x1), (2, .int x2), (3, .int (x3 + 1)), (4, .int 1)] []))))))))) :
    J μ 0 0 52 [(0, .ref a0), (1, .int x1), (2, .int x2), (3, .int x3), (4, .int x4)] [] := by
  refine r_iload g dX12_run_52 rfl ?_
  refine r_if_eq g 204 dX12_run_54 (by decide) (fun c1 => ?_) (fun c1 => ?_)
  · replace h := h.1 c1
    refine r_iload_n g dX12_run_204 rfl ?_
    refine r_iconst g 1 dX12_run_205 (by decide) ?_
    refine r_icmp_ne g 219 dX12_run_206 (by decide) (fun c2 => ?_) (fun c2 => ?_)
    · replace h := h.1 c2
      refine r_iload_n g dX12_run_219 rfl ?_
      refine r_aload_n g dX12_run_220 rfl ?_
      refine r_getR g fX12_54 rfl hs_a0 hr_a0_stepsOf dX12_run_221 ?_
      refine r_iload_n g dX12_run_224 rfl ?_
      obtain ⟨hi3, h⟩ := h
      refine r_iaload g hs_a0_stepsOf hi3 dX12_run_225 ?_
      refine r_icmp_ne g 233 dX12_run_226 (by decide) (fun c4 => ?_) (fun c4 => ?_)
      · replace h := h.1 c4
        refine r_iload_n g dX12_run_233 rfl ?_
        exact hr.2.1 _ rfl _ _ _ _ _ _ dX12_run_234 rfl (Nat.le_refl 0) (Nat.le_refl 0) h
      · replace h := h.2 c4
        refine r_iconst g (-1) dX12_run_229 (by decide) ?_
        refine r_goto g 234 dX12_run_230 (by decide) ?_
        exact hr.2.1 _ rfl _ _ _ _ _ _ dX12_run_234 rfl (Nat.le_refl 0) (Nat.le_refl 0) h
    · replace h := h.2 c2
      refine r_aload_n g dX12_run_209 rfl ?_
      refine r_getR g fX12_60 rfl hs_a0 hr_a0_trial dX12_run_210 ?_
      obtain ⟨d1, Z1, hc1, hd1, h1⟩ := h
      refine r_callS (st := []) (As := [.ref a0_trial]) g sX12_501 iX12_takenOf rfl (Nat.le_of_ble_eq_true rfl) dX12_run_213 hd1 (Nat.le_refl 0) (Nat.le_refl 0) hc1 (fun r5 μ6 hZ1 => ?_)
      replace h := h1 _ _ hZ1
      clear h1 hc1 hd1 hZ1 Z1 d1
      obtain ⟨y7, rfl, h⟩ := h
      refine r_goto g 234 dX12_run_216 (by decide) ?_
      exact hr.2.1 _ rfl _ _ _ _ _ _ dX12_run_234 rfl (Nat.le_refl 0) (Nat.le_refl 0) h
  · replace h := h.2 c1
    refine r_iload_n g dX12_run_57 rfl ?_
    refine r_aload_n g dX12_run_58 rfl ?_
    refine r_getR g fX12_54 rfl hs_a0 hr_a0_stepsOf dX12_run_59 ?_
    refine r_iload_n g dX12_run_62 rfl ?_
    obtain ⟨hi8, h⟩ := h
    refine r_iaload g hs_a0_stepsOf hi8 dX12_run_63 ?_
    refine r_icmp_ge g 204 dX12_run_64 (by decide) (fun c9 => ?_) (fun c9 => ?_)
    · replace h := h.1 c9
      refine r_iload_n g dX12_run_204 rfl ?_
      refine r_iconst g 1 dX12_run_205 (by decide) ?_
      refine r_icmp_ne g 219 dX12_run_206 (by decide) (fun c10 => ?_) (fun c10 => ?_)
      · replace h := h.1 c10
        refine r_iload_n g dX12_run_219 rfl ?_
        refine r_aload_n g dX12_run_220 rfl ?_
        refine r_getR g fX12_54 rfl hs_a0 hr_a0_stepsOf dX12_run_221 ?_
        refine r_iload_n g dX12_run_224 rfl ?_
        refine r_iaload g hs_a0_stepsOf hi8 dX12_run_225 ?_
        refine r_icmp_ne g 233 dX12_run_226 (by decide) (fun c11 => ?_) (fun c11 => ?_)
        · replace h := h.1 c11
          refine r_iload_n g dX12_run_233 rfl ?_
          exact hr.2.1 _ rfl _ _ _ _ _ _ dX12_run_234 rfl (Nat.le_refl 0) (Nat.le_refl 0) h
        · replace h := h.2 c11
          refine r_iconst g (-1) dX12_run_229 (by decide) ?_
          refine r_goto g 234 dX12_run_230 (by decide) ?_
          exact hr.2.1 _ rfl _ _ _ _ _ _ dX12_run_234 rfl (Nat.le_refl 0) (Nat.le_refl 0) h
      · replace h := h.2 c10
        refine r_aload_n g dX12_run_209 rfl ?_
        refine r_getR g fX12_60 rfl hs_a0 hr_a0_trial dX12_run_210 ?_
        obtain ⟨d1, Z1, hc1, hd1, h1⟩ := h
        refine r_callS (st := []) (As := [.ref a0_trial]) g sX12_501 iX12_takenOf rfl (Nat.le_of_ble_eq_true rfl) dX12_run_213 hd1 (Nat.le_refl 0) (Nat.le_refl 0) hc1 (fun r12 μ13 hZ1 => ?_)
        replace h := h1 _ _ hZ1
        clear h1 hc1 hd1 hZ1 Z1 d1
        obtain ⟨y14, rfl, h⟩ := h
        refine r_goto g 234 dX12_run_216 (by decide) ?_
        exact hr.2.1 _ rfl _ _ _ _ _ _ dX12_run_234 rfl (Nat.le_refl 0) (Nat.le_refl 0) h
    · replace h := h.2 c9
      refine r_iconst g 5 dX12_run_67 (by decide) ?_
      refine r_bipush g 12 dX12_run_68 (by decide) ?_
      refine r_iload_n g dX12_run_70 rfl ?_
      refine r_imul g dX12_run_71 ?_
      refine r_iload_n g dX12_run_72 rfl ?_
      refine r_iadd g dX12_run_73 ?_
      refine r_imul g dX12_run_74 ?_
      refine r_istore g [(5, .int (5 * ((12 * x1) + x3))), (0, .ref a0), (1, .int x1), (2, .int x2), (3, .int x3), (4, .int x4)] dX12_run_75 (by decide) rfl ?_
      refine r_aload_n g dX12_run_77 rfl ?_
      refine r_aload_n g dX12_run_78 rfl ?_
      refine r_getR g fX12_60 rfl hs_a0 hr_a0_trial dX12_run_79 ?_
      refine r_aload_n g dX12_run_82 rfl ?_
      refine r_getR g fX12_51 rfl hs_a0 hr_a0_script dX12_run_83 ?_
      refine r_iload g dX12_run_86 rfl ?_
      obtain ⟨hi15, h⟩ := h
      refine r_iaload g hs_a0_script hi15 dX12_run_88 ?_
      refine r_aload_n g dX12_run_89 rfl ?_
      refine r_getR g fX12_51 rfl hs_a0 hr_a0_script dX12_run_90 ?_
      refine r_iload g dX12_run_93 rfl ?_
      refine r_iconst g 1 dX12_run_95 (by decide) ?_
      refine r_iadd g dX12_run_96 ?_
      obtain ⟨hi16, h⟩ := h
      refine r_iaload g hs_a0_script hi16 dX12_run_97 ?_
      refine r_aload_n g dX12_run_98 rfl ?_
      refine r_getR g fX12_51 rfl hs_a0 hr_a0_script dX12_run_99 ?_
      refine r_iload g dX12_run_102 rfl ?_
      refine r_iconst g 2 dX12_run_104 (by decide) ?_
      refine r_iadd g dX12_run_105 ?_
      obtain ⟨hi17, h⟩ := h
      refine r_iaload g hs_a0_script hi17 dX12_run_106 ?_
      refine r_aload_n g dX12_run_107 rfl ?_
      refine r_getR g fX12_51 rfl hs_a0 hr_a0_script dX12_run_108 ?_
      refine r_iload g dX12_run_111 rfl ?_
      refine r_iconst g 3 dX12_run_113 (by decide) ?_
      refine r_iadd g dX12_run_114 ?_
      obtain ⟨hi18, h⟩ := h
      refine r_iaload g hs_a0_script hi18 dX12_run_115 ?_
      refine r_aload_n g dX12_run_116 rfl ?_
      refine r_getR g fX12_51 rfl hs_a0 hr_a0_script dX12_run_117 ?_
      refine r_iload g dX12_run_120 rfl ?_
      refine r_iconst g 4 dX12_run_122 (by decide) ?_
      refine r_iadd g dX12_run_123 ?_
      obtain ⟨hi19, h⟩ := h
      refine r_iaload g hs_a0_script hi19 dX12_run_124 ?_
      obtain ⟨d1, Z1, hc1, hd1, h1⟩ := h
      refine r_callV (st := []) (As := [.ref a0_trial, .int (hI μ a0_script ((5 * ((12 * x1) + x3)).toNatClampNeg)), .int (hI μ a0_script (((5 * ((12 * x1) + x3)) + 1).toNatClampNeg)), .int (hI μ a0_script (((5 * ((12 * x1) + x3)) + 2).toNatClampNeg)), .int (hI μ a0_script (((5 * ((12 * x1) + x3)) + 3).toNatClampNeg)), .int (hI μ a0_script (((5 * ((12 * x1) + x3)) + 4).toNatClampNeg))]) g sX12_412 iX12_stops eX12_stops rfl hs_a0 rfl (Nat.le_of_ble_eq_true rfl) dX12_run_125 hd1 (Nat.le_refl 0) (Nat.le_refl 0) hc1 (fun r20 μ21 hZ1 => ?_)
      replace h := h1 _ _ hZ1
      clear h1 hc1 hd1 hZ1 Z1 d1
      obtain ⟨y22, rfl, h⟩ := h
      refine r_iconst g (-1) dX12_run_128 (by decide) ?_
      refine r_icmp_ne g 136 dX12_run_129 (by decide) (fun c23 => ?_) (fun c23 => ?_)
      · replace h := h.1 c23
        refine r_iconst g 0 dX12_run_136 (by decide) ?_
        refine r_istore g [(4, .int 0), (5, .int (5 * ((12 * x1) + x3))), (0, .ref a0), (1, .int x1), (2, .int x2), (3, .int x3)] dX12_run_137 (by decide) rfl ?_
        refine r_iload g dX12_run_139 rfl ?_
        refine r_if_ne g 147 dX12_run_141 (by decide) (fun hz => absurd hz (by decide)) (fun _ => ?_)
        refine r_goto g 52 dX12_run_144 (by decide) ?_
        refine r_sub g (lv' := [(0, .ref a0), (1, .int x1), (2, .int x2), (3, .int x3), (4, .int 0)]) (⟨rfl, rfl, rfl, rfl, rfl, trivial⟩) ?_
        exact h
      · replace h := h.2 c23
        refine r_iconst g 1 dX12_run_132 (by decide) ?_
        refine r_goto g 137 dX12_run_133 (by decide) ?_
        refine r_istore g [(4, .int 1), (5, .int (5 * ((12 * x1) + x3))), (0, .ref a0), (1, .int x1), (2, .int x2), (3, .int x3)] dX12_run_137 (by decide) rfl ?_
        refine r_iload g dX12_run_139 rfl ?_
        refine r_if_ne g 147 dX12_run_141 (by decide) (fun _ => ?_) (fun hz => absurd hz (by decide))
        refine r_aload_n g dX12_run_147 rfl ?_
        refine r_aload_n g dX12_run_148 rfl ?_
        obtain ⟨hs_a0___, h⟩ := h
        obtain ⟨trial_24, hr_trial_24, h⟩ := h
        refine r_getR g fX12_60 rfl hs_a0___ hr_trial_24 dX12_run_149 ?_
        refine r_aload_n g dX12_run_152 rfl ?_
        obtain ⟨script_25, hr_script_25, h⟩ := h
        refine r_getR g fX12_51 rfl hs_a0___ hr_script_25 dX12_run_153 ?_
        refine r_iload g dX12_run_156 rfl ?_
        obtain ⟨N26, hs_script_25, h⟩ := h
        obtain ⟨hi27, h⟩ := h
        refine r_iaload g hs_script_25 hi27 dX12_run_158 ?_
        refine r_aload_n g dX12_run_159 rfl ?_
        refine r_getR g fX12_51 rfl hs_a0___ hr_script_25 dX12_run_160 ?_
        refine r_iload g dX12_run_163 rfl ?_
        refine r_iconst g 1 dX12_run_165 (by decide) ?_
        refine r_iadd g dX12_run_166 ?_
        obtain ⟨hi28, h⟩ := h
        refine r_iaload g hs_script_25 hi28 dX12_run_167 ?_
        refine r_aload_n g dX12_run_168 rfl ?_
        refine r_getR g fX12_51 rfl hs_a0___ hr_script_25 dX12_run_169 ?_
        refine r_iload g dX12_run_172 rfl ?_
        refine r_iconst g 2 dX12_run_174 (by decide) ?_
        refine r_iadd g dX12_run_175 ?_
        obtain ⟨hi29, h⟩ := h
        refine r_iaload g hs_script_25 hi29 dX12_run_176 ?_
        refine r_aload_n g dX12_run_177 rfl ?_
        refine r_getR g fX12_51 rfl hs_a0___ hr_script_25 dX12_run_178 ?_
        refine r_iload g dX12_run_181 rfl ?_
        refine r_iconst g 3 dX12_run_183 (by decide) ?_
        refine r_iadd g dX12_run_184 ?_
        obtain ⟨hi30, h⟩ := h
        refine r_iaload g hs_script_25 hi30 dX12_run_185 ?_
        refine r_aload_n g dX12_run_186 rfl ?_
        refine r_getR g fX12_51 rfl hs_a0___ hr_script_25 dX12_run_187 ?_
        refine r_iload g dX12_run_190 rfl ?_
        refine r_iconst g 4 dX12_run_192 (by decide) ?_
        refine r_iadd g dX12_run_193 ?_
        obtain ⟨hi31, h⟩ := h
        refine r_iaload g hs_script_25 hi31 dX12_run_194 ?_
        obtain ⟨d1, Z1, hc1, hd1, h1⟩ := h
        refine r_callV (st := []) (As := [.ref trial_24, .int (hI μ21 script_25 ((5 * ((12 * x1) + x3)).toNatClampNeg)), .int (hI μ21 script_25 (((5 * ((12 * x1) + x3)) + 1).toNatClampNeg)), .int (hI μ21 script_25 (((5 * ((12 * x1) + x3)) + 2).toNatClampNeg)), .int (hI μ21 script_25 (((5 * ((12 * x1) + x3)) + 3).toNatClampNeg)), .int (hI μ21 script_25 (((5 * ((12 * x1) + x3)) + 4).toNatClampNeg))]) g sX12_418 iX12_does eX12_does rfl hs_a0___ rfl (Nat.le_of_ble_eq_true rfl) dX12_run_195 hd1 (Nat.le_refl 0) (Nat.le_refl 0) hc1 (fun r32 μ33 hZ1 => ?_)
        replace h := h1 _ _ hZ1
        clear h1 hc1 hd1 hZ1 Z1 d1
        obtain ⟨rfl, h⟩ := h
        refine r_iinc g (x3 + 1) [(3, .int (x3 + 1)), (4, .int 1), (5, .int (5 * ((12 * x1) + x3))), (0, .ref a0), (1, .int x1), (2, .int x2)] dX12_run_198 rfl rfl (by decide) rfl ?_
        refine r_goto g 52 dX12_run_201 (by decide) ?_
        refine r_sub g (lv' := [(0, .ref a0), (1, .int x1), (2, .int x2), (3, .int (x3 + 1)), (4, .int 1)]) (⟨rfl, rfl, rfl, rfl, rfl, trivial⟩) ?_
        exact h
theorem I_X12_run {d : Nat} {ro : Nat → Nat} {Z : Option Value → Hp → Prop} {μ : Hp} {a0 : Nat} {x1 : Int32} {x2 : Int32} (h : ∀ J, xCtx RX12 cX12_run 6 d 0 0 yX12_run.name ro J → xRet cX12_run (some .int) 0 0 Z J → J μ 0 0 0 [(0, .ref a0), (1, .int x1), (2, .int x2)] []) : xC d yX12_run cX12_run 6 (some .int) 0 0 [.ref a0, .int x1, .int x2] μ ro Z :=
  xC_intro (own := RX12) (lv := [(0, .ref a0), (1, .int x1), (2, .int x2)]) (by decide) rfl (Nat.le_of_ble_eq_true rfl) rfl (fun J g hr => r_sub g (lv' := [(0, .ref a0), (1, .int x1), (2, .int x2)]) (⟨rfl, rfl, rfl, trivial⟩) (h J g hr))
theorem dX12_perform_0 : decode cX12_perform 0 = .ok (.aload_n 0, 1) := by decide +kernel
theorem dX12_perform_1 : decode cX12_perform 1 = .ok (.iconst 0, 1) := by decide +kernel
theorem dX12_perform_2 : decode cX12_perform 2 = .ok (.putfield 106, 3) := by decide +kernel
theorem dX12_perform_5 : decode cX12_perform 5 = .ok (.aload_n 0, 1) := by decide +kernel
theorem dX12_perform_6 : decode cX12_perform 6 = .ok (.iload_n 1, 1) := by decide +kernel
theorem dX12_perform_7 : decode cX12_perform 7 = .ok (.invokevirtual 498, 3) := by decide +kernel
theorem dX12_perform_10 : decode cX12_perform 10 = .ok (.ifCond .eq 10, 3) := by decide +kernel
theorem dX12_perform_13 : decode cX12_perform 13 = .ok (.aload_n 0, 1) := by decide +kernel
theorem dX12_perform_14 : decode cX12_perform 14 = .ok (.getfield 245, 3) := by decide +kernel
theorem dX12_perform_17 : decode cX12_perform 17 = .ok (.ifCond .ne 5, 3) := by decide +kernel
theorem dX12_perform_20 : decode cX12_perform 20 = .ok (.iconst (-1), 1) := by decide +kernel
theorem dX12_perform_21 : decode cX12_perform 21 = .ok (.ireturn, 1) := by decide +kernel
theorem dX12_perform_22 : decode cX12_perform 22 = .ok (.iconst 0, 1) := by decide +kernel
theorem dX12_perform_23 : decode cX12_perform 23 = .ok (.istore_n 2, 1) := by decide +kernel
theorem dX12_perform_24 : decode cX12_perform 24 = .ok (.iconst 1, 1) := by decide +kernel
theorem dX12_perform_25 : decode cX12_perform 25 = .ok (.istore_n 3, 1) := by decide +kernel
theorem dX12_perform_26 : decode cX12_perform 26 = .ok (.iload_n 3, 1) := by decide +kernel
theorem dX12_perform_27 : decode cX12_perform 27 = .ok (.ifCond .eq 90, 3) := by decide +kernel
theorem dX12_perform_30 : decode cX12_perform 30 = .ok (.iload_n 2, 1) := by decide +kernel
theorem dX12_perform_31 : decode cX12_perform 31 = .ok (.aload_n 0, 1) := by decide +kernel
theorem dX12_perform_32 : decode cX12_perform 32 = .ok (.getfield 54, 3) := by decide +kernel
theorem dX12_perform_35 : decode cX12_perform 35 = .ok (.iload_n 1, 1) := by decide +kernel
theorem dX12_perform_36 : decode cX12_perform 36 = .ok (.iaload, 1) := by decide +kernel
theorem dX12_perform_37 : decode cX12_perform 37 = .ok (.if_icmp .ge 80, 3) := by decide +kernel
theorem dX12_perform_40 : decode cX12_perform 40 = .ok (.iconst 5, 1) := by decide +kernel
theorem dX12_perform_41 : decode cX12_perform 41 = .ok (.bipush 12, 2) := by decide +kernel
theorem dX12_perform_43 : decode cX12_perform 43 = .ok (.iload_n 1, 1) := by decide +kernel
theorem dX12_perform_44 : decode cX12_perform 44 = .ok (.imul, 1) := by decide +kernel
theorem dX12_perform_45 : decode cX12_perform 45 = .ok (.iload_n 2, 1) := by decide +kernel
theorem dX12_perform_46 : decode cX12_perform 46 = .ok (.iadd, 1) := by decide +kernel
theorem dX12_perform_47 : decode cX12_perform 47 = .ok (.imul, 1) := by decide +kernel
theorem dX12_perform_48 : decode cX12_perform 48 = .ok (.istore 4, 2) := by decide +kernel
theorem dX12_perform_50 : decode cX12_perform 50 = .ok (.aload_n 0, 1) := by decide +kernel
theorem dX12_perform_51 : decode cX12_perform 51 = .ok (.aload_n 0, 1) := by decide +kernel
theorem dX12_perform_52 : decode cX12_perform 52 = .ok (.getfield 51, 3) := by decide +kernel
theorem dX12_perform_55 : decode cX12_perform 55 = .ok (.iload 4, 2) := by decide +kernel
theorem dX12_perform_57 : decode cX12_perform 57 = .ok (.iaload, 1) := by decide +kernel
theorem dX12_perform_58 : decode cX12_perform 58 = .ok (.aload_n 0, 1) := by decide +kernel
theorem dX12_perform_59 : decode cX12_perform 59 = .ok (.getfield 51, 3) := by decide +kernel
theorem dX12_perform_62 : decode cX12_perform 62 = .ok (.iload 4, 2) := by decide +kernel
theorem dX12_perform_64 : decode cX12_perform 64 = .ok (.iconst 1, 1) := by decide +kernel
theorem dX12_perform_65 : decode cX12_perform 65 = .ok (.iadd, 1) := by decide +kernel
theorem dX12_perform_66 : decode cX12_perform 66 = .ok (.iaload, 1) := by decide +kernel
theorem dX12_perform_67 : decode cX12_perform 67 = .ok (.aload_n 0, 1) := by decide +kernel
theorem dX12_perform_68 : decode cX12_perform 68 = .ok (.getfield 51, 3) := by decide +kernel
theorem dX12_perform_71 : decode cX12_perform 71 = .ok (.iload 4, 2) := by decide +kernel
theorem dX12_perform_73 : decode cX12_perform 73 = .ok (.iconst 2, 1) := by decide +kernel
theorem dX12_perform_74 : decode cX12_perform 74 = .ok (.iadd, 1) := by decide +kernel
theorem dX12_perform_75 : decode cX12_perform 75 = .ok (.iaload, 1) := by decide +kernel
theorem dX12_perform_76 : decode cX12_perform 76 = .ok (.aload_n 0, 1) := by decide +kernel
theorem dX12_perform_77 : decode cX12_perform 77 = .ok (.getfield 51, 3) := by decide +kernel
theorem dX12_perform_80 : decode cX12_perform 80 = .ok (.iload 4, 2) := by decide +kernel
theorem dX12_perform_82 : decode cX12_perform 82 = .ok (.iconst 3, 1) := by decide +kernel
theorem dX12_perform_83 : decode cX12_perform 83 = .ok (.iadd, 1) := by decide +kernel
theorem dX12_perform_84 : decode cX12_perform 84 = .ok (.iaload, 1) := by decide +kernel
theorem dX12_perform_85 : decode cX12_perform 85 = .ok (.aload_n 0, 1) := by decide +kernel
theorem dX12_perform_86 : decode cX12_perform 86 = .ok (.getfield 51, 3) := by decide +kernel
theorem dX12_perform_89 : decode cX12_perform 89 = .ok (.iload 4, 2) := by decide +kernel
theorem dX12_perform_91 : decode cX12_perform 91 = .ok (.iconst 4, 1) := by decide +kernel
theorem dX12_perform_92 : decode cX12_perform 92 = .ok (.iadd, 1) := by decide +kernel
theorem dX12_perform_93 : decode cX12_perform 93 = .ok (.iaload, 1) := by decide +kernel
theorem dX12_perform_94 : decode cX12_perform 94 = .ok (.invokevirtual 424, 3) := by decide +kernel
theorem dX12_perform_97 : decode cX12_perform 97 = .ok (.iconst (-1), 1) := by decide +kernel
theorem dX12_perform_98 : decode cX12_perform 98 = .ok (.if_icmp .ne 7, 3) := by decide +kernel
theorem dX12_perform_101 : decode cX12_perform 101 = .ok (.iconst 1, 1) := by decide +kernel
theorem dX12_perform_102 : decode cX12_perform 102 = .ok (.goto 4, 3) := by decide +kernel
theorem dX12_perform_105 : decode cX12_perform 105 = .ok (.iconst 0, 1) := by decide +kernel
theorem dX12_perform_106 : decode cX12_perform 106 = .ok (.istore_n 3, 1) := by decide +kernel
theorem dX12_perform_107 : decode cX12_perform 107 = .ok (.iload_n 3, 1) := by decide +kernel
theorem dX12_perform_108 : decode cX12_perform 108 = .ok (.ifCond .eq 6, 3) := by decide +kernel
theorem dX12_perform_111 : decode cX12_perform 111 = .ok (.iinc 2 1, 3) := by decide +kernel
theorem dX12_perform_114 : decode cX12_perform 114 = .ok (.goto (-88), 3) := by decide +kernel
theorem dX12_perform_117 : decode cX12_perform 117 = .ok (.iload_n 2, 1) := by decide +kernel
theorem dX12_perform_118 : decode cX12_perform 118 = .ok (.ireturn, 1) := by decide +kernel
set_option maxHeartbeats 4000000 in
set_option maxRecDepth 100000 in
theorem B_X12_perform_0 {d : Nat} {ro : Nat → Nat} {J : JT} {Z : Option Value → Hp → Prop} (g : xCtx RX12 cX12_perform 5 d 0 0 yX12_perform.name ro J) (hr : xRet cX12_perform (some .int) 0 0 Z J) {μ : Hp} {a0 : Nat} {x1 : Int32} (hs_a0 : hS μ a0 = some (15, 65))
    (h : xCall d yX12_isScript cX12_isScript 2 (some .boolean) [.ref a0, .int x1] (wI μ a0 0 0) ro (fun r1 μ2 => ∃ y3 : Int32, r1 = some (.int y3) ∧ ((y3 = 0 → Z (some (.int (-1))) μ2) ∧ (¬ y3 = 0 → hS μ2 a0 = some (15, 65) ∧ ((¬ (hI μ2 a0 22) = 0 → J μ2 0 0 26 [(0, .ref a0), (1, .int x1), (2, .int 0), (3, .int 1)] []) ∧ ((hI μ2 a0 22) = 0 → Z (some (.int (-1))) μ2)))))) :
    J μ 0 0 0 [(0, .ref a0), (1, .int x1)] [] := by
  refine r_aload_n g dX12_perform_0 rfl ?_
  refine r_iconst g 0 dX12_perform_1 (by decide) ?_
  refine r_putI g fX12_106 rfl hs_a0 rfl rfl dX12_perform_2 ?_
  refine r_aload_n g dX12_perform_5 rfl ?_
  refine r_iload_n g dX12_perform_6 rfl ?_
  obtain ⟨d1, Z1, hc1, hd1, h1⟩ := h
  refine r_callV (st := []) (As := [.int x1]) g sX12_498 iX12_isScript eX12_isScript rfl hs_a0 rfl (Nat.le_of_ble_eq_true rfl) dX12_perform_7 hd1 (Nat.le_refl 0) (Nat.le_refl 0) hc1 (fun r1 μ2 hZ1 => ?_)
  replace h := h1 _ _ hZ1
  clear h1 hc1 hd1 hZ1 Z1 d1
  obtain ⟨y3, rfl, h⟩ := h
  refine r_if_eq g 20 dX12_perform_10 (by decide) (fun c4 => ?_) (fun c4 => ?_)
  · replace h := h.1 c4
    refine r_iconst g (-1) dX12_perform_20 (by decide) ?_
    exact hr.2.1 _ rfl _ _ _ _ _ _ dX12_perform_21 rfl (Nat.le_refl 0) (Nat.le_refl 0) h
  · replace h := h.2 c4
    refine r_aload_n g dX12_perform_13 rfl ?_
    obtain ⟨hs_a0_, h⟩ := h
    refine r_getI g fX12_245 rfl hs_a0_ dX12_perform_14 ?_
    refine r_if_ne g 22 dX12_perform_17 (by decide) (fun c5 => ?_) (fun c5 => ?_)
    · replace h := h.1 c5
      refine r_iconst g 0 dX12_perform_22 (by decide) ?_
      refine r_istore_n g [(2, .int 0), (0, .ref a0), (1, .int x1)] dX12_perform_23 (by decide) rfl ?_
      refine r_iconst g 1 dX12_perform_24 (by decide) ?_
      refine r_istore_n g [(3, .int 1), (2, .int 0), (0, .ref a0), (1, .int x1)] dX12_perform_25 (by decide) rfl ?_
      refine r_sub g (lv' := [(0, .ref a0), (1, .int x1), (2, .int 0), (3, .int 1)]) (⟨rfl, rfl, rfl, rfl, trivial⟩) ?_
      exact h
    · replace h := h.2 c5
      refine r_iconst g (-1) dX12_perform_20 (by decide) ?_
      exact hr.2.1 _ rfl _ _ _ _ _ _ dX12_perform_21 rfl (Nat.le_refl 0) (Nat.le_refl 0) h
set_option maxHeartbeats 4000000 in
set_option maxRecDepth 100000 in
theorem B_X12_perform_26 {d : Nat} {ro : Nat → Nat} {J : JT} {Z : Option Value → Hp → Prop} (g : xCtx RX12 cX12_perform 5 d 0 0 yX12_perform.name ro J) (hr : xRet cX12_perform (some .int) 0 0 Z J) {μ : Hp} {a0 : Nat} {x1 : Int32} {x2 : Int32} {x3 : Int32} {a0_stepsOf : Nat} {N_a0_stepsOf : Nat} {a0_script : Nat} {N_a0_script : Nat} (hs_a0 : hS μ a0 = some (15, 65)) (hr_a0_stepsOf : hR μ a0 29 = some a0_stepsOf) (hs_a0_stepsOf : hS μ a0_stepsOf = some (0, N_a0_stepsOf)) (hr_a0_script : hR μ a0 28 = some a0_script) (hs_a0_script : hS μ a0_script = some (0, N_a0_script))
    (h : ((x3 = 0 → Z (some (.int x2)) μ) ∧ (¬ x3 = 0 → vp_in x1 N_a0_stepsOf ∧ (((hI μ a0_stepsOf x1.toNatClampNeg) ≤ x2 → Z (some (.int x2)) μ) ∧ (¬ (hI μ a0_stepsOf x1.toNatClampNeg) ≤ x2 → vp_in (5 * ((12 * x1) + x2)) N_a0_script ∧ vp_in ((5 * ((12 * x1) + x2)) + 1) N_a0_script ∧ vp_in ((5 * ((12 * x1) + x2)) + 2) N_a0_script ∧ vp_in ((5 * ((12 * x1) + x2)) + 3) N_a0_script ∧ vp_in ((5 * ((12 * x1) + x2)) + 4) N_a0_script ∧ xCall d yX12_tries cX12_tries 7 (some .int) [.ref a0, .int (hI μ a0_script ((5 * ((12 * x1) + x2)).toNatClampNeg)), .int (hI μ a0_script (((5 * ((12 * x1) + x2)) + 1).toNatClampNeg)), .int (hI μ a0_script (((5 * ((12 * x1) + x2)) + 2).toNatClampNeg)), .int (hI μ a0_script (((5 * ((12 * x1) + x2)) + 3).toNatClampNeg)), .int (hI μ a0_script (((5 * ((12 * x1) + x2)) + 4).toNatClampNeg))] μ ro (fun r9 μ10 => ∃ y11 : Int32, r9 = some (.int y11) ∧ ((¬ y11 = (-1) → J μ10 0 0 26 [(0, .ref a0), (1, .int x1), (2, .int x2), (3, .int 0)] []) ∧ (y11 = (-1) → J μ10 0 0 26 [(0, .ref a0), (1, .int x1), (2, .int (x2 + 1)), (3, .int 1)] [])))))))) :
    J μ 0 0 26 [(0, .ref a0), (1, .int x1), (2, .int x2), (3, .int x3)] [] := by
  refine r_iload_n g dX12_perform_26 rfl ?_
  refine r_if_eq g 117 dX12_perform_27 (by decide) (fun c1 => ?_) (fun c1 => ?_)
  · replace h := h.1 c1
    refine r_iload_n g dX12_perform_117 rfl ?_
    exact hr.2.1 _ rfl _ _ _ _ _ _ dX12_perform_118 rfl (Nat.le_refl 0) (Nat.le_refl 0) h
  · replace h := h.2 c1
    refine r_iload_n g dX12_perform_30 rfl ?_
    refine r_aload_n g dX12_perform_31 rfl ?_
    refine r_getR g fX12_54 rfl hs_a0 hr_a0_stepsOf dX12_perform_32 ?_
    refine r_iload_n g dX12_perform_35 rfl ?_
    obtain ⟨hi2, h⟩ := h
    refine r_iaload g hs_a0_stepsOf hi2 dX12_perform_36 ?_
    refine r_icmp_ge g 117 dX12_perform_37 (by decide) (fun c3 => ?_) (fun c3 => ?_)
    · replace h := h.1 c3
      refine r_iload_n g dX12_perform_117 rfl ?_
      exact hr.2.1 _ rfl _ _ _ _ _ _ dX12_perform_118 rfl (Nat.le_refl 0) (Nat.le_refl 0) h
    · replace h := h.2 c3
      refine r_iconst g 5 dX12_perform_40 (by decide) ?_
      refine r_bipush g 12 dX12_perform_41 (by decide) ?_
      refine r_iload_n g dX12_perform_43 rfl ?_
      refine r_imul g dX12_perform_44 ?_
      refine r_iload_n g dX12_perform_45 rfl ?_
      refine r_iadd g dX12_perform_46 ?_
      refine r_imul g dX12_perform_47 ?_
      refine r_istore g [(4, .int (5 * ((12 * x1) + x2))), (0, .ref a0), (1, .int x1), (2, .int x2), (3, .int x3)] dX12_perform_48 (by decide) rfl ?_
      refine r_aload_n g dX12_perform_50 rfl ?_
      refine r_aload_n g dX12_perform_51 rfl ?_
      refine r_getR g fX12_51 rfl hs_a0 hr_a0_script dX12_perform_52 ?_
      refine r_iload g dX12_perform_55 rfl ?_
      obtain ⟨hi4, h⟩ := h
      refine r_iaload g hs_a0_script hi4 dX12_perform_57 ?_
      refine r_aload_n g dX12_perform_58 rfl ?_
      refine r_getR g fX12_51 rfl hs_a0 hr_a0_script dX12_perform_59 ?_
      refine r_iload g dX12_perform_62 rfl ?_
      refine r_iconst g 1 dX12_perform_64 (by decide) ?_
      refine r_iadd g dX12_perform_65 ?_
      obtain ⟨hi5, h⟩ := h
      refine r_iaload g hs_a0_script hi5 dX12_perform_66 ?_
      refine r_aload_n g dX12_perform_67 rfl ?_
      refine r_getR g fX12_51 rfl hs_a0 hr_a0_script dX12_perform_68 ?_
      refine r_iload g dX12_perform_71 rfl ?_
      refine r_iconst g 2 dX12_perform_73 (by decide) ?_
      refine r_iadd g dX12_perform_74 ?_
      obtain ⟨hi6, h⟩ := h
      refine r_iaload g hs_a0_script hi6 dX12_perform_75 ?_
      refine r_aload_n g dX12_perform_76 rfl ?_
      refine r_getR g fX12_51 rfl hs_a0 hr_a0_script dX12_perform_77 ?_
      refine r_iload g dX12_perform_80 rfl ?_
      refine r_iconst g 3 dX12_perform_82 (by decide) ?_
      refine r_iadd g dX12_perform_83 ?_
      obtain ⟨hi7, h⟩ := h
      refine r_iaload g hs_a0_script hi7 dX12_perform_84 ?_
      refine r_aload_n g dX12_perform_85 rfl ?_
      refine r_getR g fX12_51 rfl hs_a0 hr_a0_script dX12_perform_86 ?_
      refine r_iload g dX12_perform_89 rfl ?_
      refine r_iconst g 4 dX12_perform_91 (by decide) ?_
      refine r_iadd g dX12_perform_92 ?_
      obtain ⟨hi8, h⟩ := h
      refine r_iaload g hs_a0_script hi8 dX12_perform_93 ?_
      obtain ⟨d1, Z1, hc1, hd1, h1⟩ := h
      refine r_callV (st := []) (As := [.int (hI μ a0_script ((5 * ((12 * x1) + x2)).toNatClampNeg)), .int (hI μ a0_script (((5 * ((12 * x1) + x2)) + 1).toNatClampNeg)), .int (hI μ a0_script (((5 * ((12 * x1) + x2)) + 2).toNatClampNeg)), .int (hI μ a0_script (((5 * ((12 * x1) + x2)) + 3).toNatClampNeg)), .int (hI μ a0_script (((5 * ((12 * x1) + x2)) + 4).toNatClampNeg))]) g sX12_424 iX12_tries eX12_tries rfl hs_a0 rfl (Nat.le_of_ble_eq_true rfl) dX12_perform_94 hd1 (Nat.le_refl 0) (Nat.le_refl 0) hc1 (fun r9 μ10 hZ1 => ?_)
      replace h := h1 _ _ hZ1
      clear h1 hc1 hd1 hZ1 Z1 d1
      obtain ⟨y11, rfl, h⟩ := h
      refine r_iconst g (-1) dX12_perform_97 (by decide) ?_
      refine r_icmp_ne g 105 dX12_perform_98 (by decide) (fun c12 => ?_) (fun c12 => ?_)
      · replace h := h.1 c12
        refine r_iconst g 0 dX12_perform_105 (by decide) ?_
        refine r_istore_n g [(3, .int 0), (4, .int (5 * ((12 * x1) + x2))), (0, .ref a0), (1, .int x1), (2, .int x2)] dX12_perform_106 (by decide) rfl ?_
        refine r_iload_n g dX12_perform_107 rfl ?_
        refine r_if_eq g 114 dX12_perform_108 (by decide) (fun _ => ?_) (fun hz => absurd hz (by decide))
        refine r_goto g 26 dX12_perform_114 (by decide) ?_
        refine r_sub g (lv' := [(0, .ref a0), (1, .int x1), (2, .int x2), (3, .int 0)]) (⟨rfl, rfl, rfl, rfl, trivial⟩) ?_
        exact h
      · replace h := h.2 c12
        refine r_iconst g 1 dX12_perform_101 (by decide) ?_
        refine r_goto g 106 dX12_perform_102 (by decide) ?_
        refine r_istore_n g [(3, .int 1), (4, .int (5 * ((12 * x1) + x2))), (0, .ref a0), (1, .int x1), (2, .int x2)] dX12_perform_106 (by decide) rfl ?_
        refine r_iload_n g dX12_perform_107 rfl ?_
        refine r_if_eq g 114 dX12_perform_108 (by decide) (fun hz => absurd hz (by decide)) (fun _ => ?_)
        refine r_iinc g (x2 + 1) [(2, .int (x2 + 1)), (3, .int 1), (4, .int (5 * ((12 * x1) + x2))), (0, .ref a0), (1, .int x1)] dX12_perform_111 rfl rfl (by decide) rfl ?_
        refine r_goto g 26 dX12_perform_114 (by decide) ?_
        refine r_sub g (lv' := [(0, .ref a0), (1, .int x1), (2, .int (x2 + 1)), (3, .int 1)]) (⟨rfl, rfl, rfl, rfl, trivial⟩) ?_
        exact h
theorem I_X12_perform {d : Nat} {ro : Nat → Nat} {Z : Option Value → Hp → Prop} {μ : Hp} {a0 : Nat} {x1 : Int32} (h : ∀ J, xCtx RX12 cX12_perform 5 d 0 0 yX12_perform.name ro J → xRet cX12_perform (some .int) 0 0 Z J → J μ 0 0 0 [(0, .ref a0), (1, .int x1)] []) : xC d yX12_perform cX12_perform 5 (some .int) 0 0 [.ref a0, .int x1] μ ro Z :=
  xC_intro (own := RX12) (lv := [(0, .ref a0), (1, .int x1)]) (by decide) rfl (Nat.le_of_ble_eq_true rfl) rfl (fun J g hr => r_sub g (lv' := [(0, .ref a0), (1, .int x1)]) (⟨rfl, rfl, trivial⟩) (h J g hr))
theorem dX12_sumOf_0 : decode cX12_sumOf 0 = .ok (.iconst 0, 1) := by decide +kernel
theorem dX12_sumOf_1 : decode cX12_sumOf 1 = .ok (.istore_n 2, 1) := by decide +kernel
theorem dX12_sumOf_2 : decode cX12_sumOf 2 = .ok (.iconst 0, 1) := by decide +kernel
theorem dX12_sumOf_3 : decode cX12_sumOf 3 = .ok (.istore_n 3, 1) := by decide +kernel
theorem dX12_sumOf_4 : decode cX12_sumOf 4 = .ok (.iload_n 3, 1) := by decide +kernel
theorem dX12_sumOf_5 : decode cX12_sumOf 5 = .ok (.aload_n 0, 1) := by decide +kernel
theorem dX12_sumOf_6 : decode cX12_sumOf 6 = .ok (.getfield 245, 3) := by decide +kernel
theorem dX12_sumOf_9 : decode cX12_sumOf 9 = .ok (.if_icmp .ge 20, 3) := by decide +kernel
theorem dX12_sumOf_12 : decode cX12_sumOf 12 = .ok (.iload_n 2, 1) := by decide +kernel
theorem dX12_sumOf_13 : decode cX12_sumOf 13 = .ok (.aload_n 0, 1) := by decide +kernel
theorem dX12_sumOf_14 : decode cX12_sumOf 14 = .ok (.getfield 57, 3) := by decide +kernel
theorem dX12_sumOf_17 : decode cX12_sumOf 17 = .ok (.iload_n 1, 1) := by decide +kernel
theorem dX12_sumOf_18 : decode cX12_sumOf 18 = .ok (.iload_n 3, 1) := by decide +kernel
theorem dX12_sumOf_19 : decode cX12_sumOf 19 = .ok (.iadd, 1) := by decide +kernel
theorem dX12_sumOf_20 : decode cX12_sumOf 20 = .ok (.iaload, 1) := by decide +kernel
theorem dX12_sumOf_21 : decode cX12_sumOf 21 = .ok (.iadd, 1) := by decide +kernel
theorem dX12_sumOf_22 : decode cX12_sumOf 22 = .ok (.istore_n 2, 1) := by decide +kernel
theorem dX12_sumOf_23 : decode cX12_sumOf 23 = .ok (.iinc 3 1, 3) := by decide +kernel
theorem dX12_sumOf_26 : decode cX12_sumOf 26 = .ok (.goto (-22), 3) := by decide +kernel
theorem dX12_sumOf_29 : decode cX12_sumOf 29 = .ok (.iload_n 2, 1) := by decide +kernel
theorem dX12_sumOf_30 : decode cX12_sumOf 30 = .ok (.ireturn, 1) := by decide +kernel
set_option maxHeartbeats 4000000 in
set_option maxRecDepth 100000 in
theorem B_X12_sumOf_0 {d : Nat} {ro : Nat → Nat} {J : JT} {Z : Option Value → Hp → Prop} (g : xCtx RX12 cX12_sumOf 4 d 0 0 yX12_sumOf.name ro J) (hr : xRet cX12_sumOf (some .int) 0 0 Z J) {μ : Hp} {a0 : Nat} {x1 : Int32} 
    (h : J μ 0 0 4 [(0, .ref a0), (1, .int x1), (2, .int 0), (3, .int 0)] []) :
    J μ 0 0 0 [(0, .ref a0), (1, .int x1)] [] := by
  refine r_iconst g 0 dX12_sumOf_0 (by decide) ?_
  refine r_istore_n g [(2, .int 0), (0, .ref a0), (1, .int x1)] dX12_sumOf_1 (by decide) rfl ?_
  refine r_iconst g 0 dX12_sumOf_2 (by decide) ?_
  refine r_istore_n g [(3, .int 0), (2, .int 0), (0, .ref a0), (1, .int x1)] dX12_sumOf_3 (by decide) rfl ?_
  refine r_sub g (lv' := [(0, .ref a0), (1, .int x1), (2, .int 0), (3, .int 0)]) (⟨rfl, rfl, rfl, rfl, trivial⟩) ?_
  exact h
set_option maxHeartbeats 4000000 in
set_option maxRecDepth 100000 in
theorem B_X12_sumOf_4 {d : Nat} {ro : Nat → Nat} {J : JT} {Z : Option Value → Hp → Prop} (g : xCtx RX12 cX12_sumOf 4 d 0 0 yX12_sumOf.name ro J) (hr : xRet cX12_sumOf (some .int) 0 0 Z J) {μ : Hp} {a0 : Nat} {x1 : Int32} {x2 : Int32} {x3 : Int32} {a0_now : Nat} {N_a0_now : Nat} (hs_a0 : hS μ a0 = some (15, 65)) (hr_a0_now : hR μ a0 30 = some a0_now) (hs_a0_now : hS μ a0_now = some (0, N_a0_now))
    (h : (((hI μ a0 22) ≤ x3 → Z (some (.int x2)) μ) ∧ (¬ (hI μ a0 22) ≤ x3 → vp_in (x1 + x3) N_a0_now ∧ J μ 0 0 4 [(0, .ref a0), (1, .int x1), (2, .int (x2 + (hI μ a0_now ((x1 + x3).toNatClampNeg)))), (3, .int (x3 + 1))] []))) :
    J μ 0 0 4 [(0, .ref a0), (1, .int x1), (2, .int x2), (3, .int x3)] [] := by
  refine r_iload_n g dX12_sumOf_4 rfl ?_
  refine r_aload_n g dX12_sumOf_5 rfl ?_
  refine r_getI g fX12_245 rfl hs_a0 dX12_sumOf_6 ?_
  refine r_icmp_ge g 29 dX12_sumOf_9 (by decide) (fun c1 => ?_) (fun c1 => ?_)
  · replace h := h.1 c1
    refine r_iload_n g dX12_sumOf_29 rfl ?_
    exact hr.2.1 _ rfl _ _ _ _ _ _ dX12_sumOf_30 rfl (Nat.le_refl 0) (Nat.le_refl 0) h
  · replace h := h.2 c1
    refine r_iload_n g dX12_sumOf_12 rfl ?_
    refine r_aload_n g dX12_sumOf_13 rfl ?_
    refine r_getR g fX12_57 rfl hs_a0 hr_a0_now dX12_sumOf_14 ?_
    refine r_iload_n g dX12_sumOf_17 rfl ?_
    refine r_iload_n g dX12_sumOf_18 rfl ?_
    refine r_iadd g dX12_sumOf_19 ?_
    obtain ⟨hi2, h⟩ := h
    refine r_iaload g hs_a0_now hi2 dX12_sumOf_20 ?_
    refine r_iadd g dX12_sumOf_21 ?_
    refine r_istore_n g [(2, .int (x2 + (hI μ a0_now ((x1 + x3).toNatClampNeg)))), (0, .ref a0), (1, .int x1), (3, .int x3)] dX12_sumOf_22 (by decide) rfl ?_
    refine r_iinc g (x3 + 1) [(3, .int (x3 + 1)), (2, .int (x2 + (hI μ a0_now ((x1 + x3).toNatClampNeg)))), (0, .ref a0), (1, .int x1)] dX12_sumOf_23 rfl rfl (by decide) rfl ?_
    refine r_goto g 4 dX12_sumOf_26 (by decide) ?_
    refine r_sub g (lv' := [(0, .ref a0), (1, .int x1), (2, .int (x2 + (hI μ a0_now ((x1 + x3).toNatClampNeg)))), (3, .int (x3 + 1))]) (⟨rfl, rfl, rfl, rfl, trivial⟩) ?_
    exact h
theorem I_X12_sumOf {d : Nat} {ro : Nat → Nat} {Z : Option Value → Hp → Prop} {μ : Hp} {a0 : Nat} {x1 : Int32} (h : ∀ J, xCtx RX12 cX12_sumOf 4 d 0 0 yX12_sumOf.name ro J → xRet cX12_sumOf (some .int) 0 0 Z J → J μ 0 0 0 [(0, .ref a0), (1, .int x1)] []) : xC d yX12_sumOf cX12_sumOf 4 (some .int) 0 0 [.ref a0, .int x1] μ ro Z :=
  xC_intro (own := RX12) (lv := [(0, .ref a0), (1, .int x1)]) (by decide) rfl (Nat.le_of_ble_eq_true rfl) rfl (fun J g hr => r_sub g (lv' := [(0, .ref a0), (1, .int x1)]) (⟨rfl, rfl, trivial⟩) (h J g hr))
theorem dX12_mostOf__0 : decode cX12_mostOf_ 0 = .ok (.iconst 0, 1) := by decide +kernel
theorem dX12_mostOf__1 : decode cX12_mostOf_ 1 = .ok (.istore_n 3, 1) := by decide +kernel
theorem dX12_mostOf__2 : decode cX12_mostOf_ 2 = .ok (.iconst 1, 1) := by decide +kernel
theorem dX12_mostOf__3 : decode cX12_mostOf_ 3 = .ok (.istore 4, 2) := by decide +kernel
theorem dX12_mostOf__5 : decode cX12_mostOf_ 5 = .ok (.iload 4, 2) := by decide +kernel
theorem dX12_mostOf__7 : decode cX12_mostOf_ 7 = .ok (.iload_n 2, 1) := by decide +kernel
theorem dX12_mostOf__8 : decode cX12_mostOf_ 8 = .ok (.if_icmp .ge 32, 3) := by decide +kernel
theorem dX12_mostOf__11 : decode cX12_mostOf_ 11 = .ok (.aload_n 0, 1) := by decide +kernel
theorem dX12_mostOf__12 : decode cX12_mostOf_ 12 = .ok (.getfield 57, 3) := by decide +kernel
theorem dX12_mostOf__15 : decode cX12_mostOf_ 15 = .ok (.iload_n 1, 1) := by decide +kernel
theorem dX12_mostOf__16 : decode cX12_mostOf_ 16 = .ok (.iload 4, 2) := by decide +kernel
theorem dX12_mostOf__18 : decode cX12_mostOf_ 18 = .ok (.iadd, 1) := by decide +kernel
theorem dX12_mostOf__19 : decode cX12_mostOf_ 19 = .ok (.iaload, 1) := by decide +kernel
theorem dX12_mostOf__20 : decode cX12_mostOf_ 20 = .ok (.aload_n 0, 1) := by decide +kernel
theorem dX12_mostOf__21 : decode cX12_mostOf_ 21 = .ok (.getfield 57, 3) := by decide +kernel
theorem dX12_mostOf__24 : decode cX12_mostOf_ 24 = .ok (.iload_n 1, 1) := by decide +kernel
theorem dX12_mostOf__25 : decode cX12_mostOf_ 25 = .ok (.iload_n 3, 1) := by decide +kernel
theorem dX12_mostOf__26 : decode cX12_mostOf_ 26 = .ok (.iadd, 1) := by decide +kernel
theorem dX12_mostOf__27 : decode cX12_mostOf_ 27 = .ok (.iaload, 1) := by decide +kernel
theorem dX12_mostOf__28 : decode cX12_mostOf_ 28 = .ok (.if_icmp .le 6, 3) := by decide +kernel
theorem dX12_mostOf__31 : decode cX12_mostOf_ 31 = .ok (.iload 4, 2) := by decide +kernel
theorem dX12_mostOf__33 : decode cX12_mostOf_ 33 = .ok (.istore_n 3, 1) := by decide +kernel
theorem dX12_mostOf__34 : decode cX12_mostOf_ 34 = .ok (.iinc 4 1, 3) := by decide +kernel
theorem dX12_mostOf__37 : decode cX12_mostOf_ 37 = .ok (.goto (-32), 3) := by decide +kernel
theorem dX12_mostOf__40 : decode cX12_mostOf_ 40 = .ok (.iload_n 3, 1) := by decide +kernel
theorem dX12_mostOf__41 : decode cX12_mostOf_ 41 = .ok (.ireturn, 1) := by decide +kernel
set_option maxHeartbeats 4000000 in
set_option maxRecDepth 100000 in
theorem B_X12_mostOf__0 {d : Nat} {ro : Nat → Nat} {J : JT} {Z : Option Value → Hp → Prop} (g : xCtx RX12 cX12_mostOf_ 5 d 0 0 yX12_mostOf_.name ro J) (hr : xRet cX12_mostOf_ (some .int) 0 0 Z J) {μ : Hp} {a0 : Nat} {x1 : Int32} {x2 : Int32} 
    (h : J μ 0 0 5 [(0, .ref a0), (1, .int x1), (2, .int x2), (3, .int 0), (4, .int 1)] []) :
    J μ 0 0 0 [(0, .ref a0), (1, .int x1), (2, .int x2)] [] := by
  refine r_iconst g 0 dX12_mostOf__0 (by decide) ?_
  refine r_istore_n g [(3, .int 0), (0, .ref a0), (1, .int x1), (2, .int x2)] dX12_mostOf__1 (by decide) rfl ?_
  refine r_iconst g 1 dX12_mostOf__2 (by decide) ?_
  refine r_istore g [(4, .int 1), (3, .int 0), (0, .ref a0), (1, .int x1), (2, .int x2)] dX12_mostOf__3 (by decide) rfl ?_
  refine r_sub g (lv' := [(0, .ref a0), (1, .int x1), (2, .int x2), (3, .int 0), (4, .int 1)]) (⟨rfl, rfl, rfl, rfl, rfl, trivial⟩) ?_
  exact h
set_option maxHeartbeats 4000000 in
set_option maxRecDepth 100000 in
theorem B_X12_mostOf__5 {d : Nat} {ro : Nat → Nat} {J : JT} {Z : Option Value → Hp → Prop} (g : xCtx RX12 cX12_mostOf_ 5 d 0 0 yX12_mostOf_.name ro J) (hr : xRet cX12_mostOf_ (some .int) 0 0 Z J) {μ : Hp} {a0 : Nat} {x1 : Int32} {x2 : Int32} {x3 : Int32} {x4 : Int32} {a0_now : Nat} {N_a0_now : Nat} (hs_a0 : hS μ a0 = some (15, 65)) (hr_a0_now : hR μ a0 30 = some a0_now) (hs_a0_now : hS μ a0_now = some (0, N_a0_now))
    (h : ((x2 ≤ x4 → Z (some (.int x3)) μ) ∧ (¬ x2 ≤ x4 → vp_in (x1 + x4) N_a0_now ∧ vp_in (x1 + x3) N_a0_now ∧ (((hI μ a0_now ((x1 + x4).toNatClampNeg)) ≤ (hI μ a0_now ((x1 + x3).toNatClampNeg)) → J μ 0 0 5 [(0, .ref a0), (1, .int x1), (2, .int x2), (3, .int x3), (4, .int (x4 + 1))] []) ∧ (¬ (hI μ a0_now ((x1 + x4).toNatClampNeg)) ≤ (hI μ a0_now ((x1 + x3).toNatClampNeg)) → J μ 0 0 5 [(0, .ref a0), (1, .int x1), (2, .int x2), (3, .int x4), (4, .int (x4 + 1))] []))))) :
    J μ 0 0 5 [(0, .ref a0), (1, .int x1), (2, .int x2), (3, .int x3), (4, .int x4)] [] := by
  refine r_iload g dX12_mostOf__5 rfl ?_
  refine r_iload_n g dX12_mostOf__7 rfl ?_
  refine r_icmp_ge g 40 dX12_mostOf__8 (by decide) (fun c1 => ?_) (fun c1 => ?_)
  · replace h := h.1 c1
    refine r_iload_n g dX12_mostOf__40 rfl ?_
    exact hr.2.1 _ rfl _ _ _ _ _ _ dX12_mostOf__41 rfl (Nat.le_refl 0) (Nat.le_refl 0) h
  · replace h := h.2 c1
    refine r_aload_n g dX12_mostOf__11 rfl ?_
    refine r_getR g fX12_57 rfl hs_a0 hr_a0_now dX12_mostOf__12 ?_
    refine r_iload_n g dX12_mostOf__15 rfl ?_
    refine r_iload g dX12_mostOf__16 rfl ?_
    refine r_iadd g dX12_mostOf__18 ?_
    obtain ⟨hi2, h⟩ := h
    refine r_iaload g hs_a0_now hi2 dX12_mostOf__19 ?_
    refine r_aload_n g dX12_mostOf__20 rfl ?_
    refine r_getR g fX12_57 rfl hs_a0 hr_a0_now dX12_mostOf__21 ?_
    refine r_iload_n g dX12_mostOf__24 rfl ?_
    refine r_iload_n g dX12_mostOf__25 rfl ?_
    refine r_iadd g dX12_mostOf__26 ?_
    obtain ⟨hi3, h⟩ := h
    refine r_iaload g hs_a0_now hi3 dX12_mostOf__27 ?_
    refine r_icmp_le g 34 dX12_mostOf__28 (by decide) (fun c4 => ?_) (fun c4 => ?_)
    · replace h := h.1 c4
      refine r_iinc g (x4 + 1) [(4, .int (x4 + 1)), (0, .ref a0), (1, .int x1), (2, .int x2), (3, .int x3)] dX12_mostOf__34 rfl rfl (by decide) rfl ?_
      refine r_goto g 5 dX12_mostOf__37 (by decide) ?_
      refine r_sub g (lv' := [(0, .ref a0), (1, .int x1), (2, .int x2), (3, .int x3), (4, .int (x4 + 1))]) (⟨rfl, rfl, rfl, rfl, rfl, trivial⟩) ?_
      exact h
    · replace h := h.2 c4
      refine r_iload g dX12_mostOf__31 rfl ?_
      refine r_istore_n g [(3, .int x4), (0, .ref a0), (1, .int x1), (2, .int x2), (4, .int x4)] dX12_mostOf__33 (by decide) rfl ?_
      refine r_iinc g (x4 + 1) [(4, .int (x4 + 1)), (3, .int x4), (0, .ref a0), (1, .int x1), (2, .int x2)] dX12_mostOf__34 rfl rfl (by decide) rfl ?_
      refine r_goto g 5 dX12_mostOf__37 (by decide) ?_
      refine r_sub g (lv' := [(0, .ref a0), (1, .int x1), (2, .int x2), (3, .int x4), (4, .int (x4 + 1))]) (⟨rfl, rfl, rfl, rfl, rfl, trivial⟩) ?_
      exact h
theorem I_X12_mostOf_ {d : Nat} {ro : Nat → Nat} {Z : Option Value → Hp → Prop} {μ : Hp} {a0 : Nat} {x1 : Int32} {x2 : Int32} (h : ∀ J, xCtx RX12 cX12_mostOf_ 5 d 0 0 yX12_mostOf_.name ro J → xRet cX12_mostOf_ (some .int) 0 0 Z J → J μ 0 0 0 [(0, .ref a0), (1, .int x1), (2, .int x2)] []) : xC d yX12_mostOf_ cX12_mostOf_ 5 (some .int) 0 0 [.ref a0, .int x1, .int x2] μ ro Z :=
  xC_intro (own := RX12) (lv := [(0, .ref a0), (1, .int x1), (2, .int x2)]) (by decide) rfl (Nat.le_of_ble_eq_true rfl) rfl (fun J g hr => r_sub g (lv' := [(0, .ref a0), (1, .int x1), (2, .int x2)]) (⟨rfl, rfl, rfl, trivial⟩) (h J g hr))
theorem dX12_inForce_0 : decode cX12_inForce 0 = .ok (.iconst 0, 1) := by decide +kernel
theorem dX12_inForce_1 : decode cX12_inForce 1 = .ok (.istore_n 1, 1) := by decide +kernel
theorem dX12_inForce_2 : decode cX12_inForce 2 = .ok (.iconst 0, 1) := by decide +kernel
theorem dX12_inForce_3 : decode cX12_inForce 3 = .ok (.istore_n 2, 1) := by decide +kernel
theorem dX12_inForce_4 : decode cX12_inForce 4 = .ok (.iload_n 2, 1) := by decide +kernel
theorem dX12_inForce_5 : decode cX12_inForce 5 = .ok (.aload_n 0, 1) := by decide +kernel
theorem dX12_inForce_6 : decode cX12_inForce 6 = .ok (.getfield 242, 3) := by decide +kernel
theorem dX12_inForce_9 : decode cX12_inForce 9 = .ok (.if_icmp .ge 47, 3) := by decide +kernel
theorem dX12_inForce_12 : decode cX12_inForce 12 = .ok (.iconst 0, 1) := by decide +kernel
theorem dX12_inForce_13 : decode cX12_inForce 13 = .ok (.istore_n 3, 1) := by decide +kernel
theorem dX12_inForce_14 : decode cX12_inForce 14 = .ok (.iload_n 3, 1) := by decide +kernel
theorem dX12_inForce_15 : decode cX12_inForce 15 = .ok (.iload_n 2, 1) := by decide +kernel
theorem dX12_inForce_16 : decode cX12_inForce 16 = .ok (.if_icmp .ge 34, 3) := by decide +kernel
theorem dX12_inForce_19 : decode cX12_inForce 19 = .ok (.iload_n 1, 1) := by decide +kernel
theorem dX12_inForce_20 : decode cX12_inForce 20 = .ok (.aload_n 0, 1) := by decide +kernel
theorem dX12_inForce_21 : decode cX12_inForce 21 = .ok (.iload_n 2, 1) := by decide +kernel
theorem dX12_inForce_22 : decode cX12_inForce 22 = .ok (.iload_n 3, 1) := by decide +kernel
theorem dX12_inForce_23 : decode cX12_inForce 23 = .ok (.aload_n 0, 1) := by decide +kernel
theorem dX12_inForce_24 : decode cX12_inForce 24 = .ok (.getfield 57, 3) := by decide +kernel
theorem dX12_inForce_27 : decode cX12_inForce 27 = .ok (.bipush 30, 2) := by decide +kernel
theorem dX12_inForce_29 : decode cX12_inForce 29 = .ok (.iaload, 1) := by decide +kernel
theorem dX12_inForce_30 : decode cX12_inForce 30 = .ok (.invokevirtual 283, 3) := by decide +kernel
theorem dX12_inForce_33 : decode cX12_inForce 33 = .ok (.iconst (-1), 1) := by decide +kernel
theorem dX12_inForce_34 : decode cX12_inForce 34 = .ok (.if_icmp .ne 7, 3) := by decide +kernel
theorem dX12_inForce_37 : decode cX12_inForce 37 = .ok (.iconst 0, 1) := by decide +kernel
theorem dX12_inForce_38 : decode cX12_inForce 38 = .ok (.goto 4, 3) := by decide +kernel
theorem dX12_inForce_41 : decode cX12_inForce 41 = .ok (.iconst 1, 1) := by decide +kernel
theorem dX12_inForce_42 : decode cX12_inForce 42 = .ok (.iadd, 1) := by decide +kernel
theorem dX12_inForce_43 : decode cX12_inForce 43 = .ok (.istore_n 1, 1) := by decide +kernel
theorem dX12_inForce_44 : decode cX12_inForce 44 = .ok (.iinc 3 1, 3) := by decide +kernel
theorem dX12_inForce_47 : decode cX12_inForce 47 = .ok (.goto (-33), 3) := by decide +kernel
theorem dX12_inForce_50 : decode cX12_inForce 50 = .ok (.iinc 2 1, 3) := by decide +kernel
theorem dX12_inForce_53 : decode cX12_inForce 53 = .ok (.goto (-49), 3) := by decide +kernel
theorem dX12_inForce_56 : decode cX12_inForce 56 = .ok (.iload_n 1, 1) := by decide +kernel
theorem dX12_inForce_57 : decode cX12_inForce 57 = .ok (.ireturn, 1) := by decide +kernel
set_option maxHeartbeats 4000000 in
set_option maxRecDepth 100000 in
theorem B_X12_inForce_0 {d : Nat} {ro : Nat → Nat} {J : JT} {Z : Option Value → Hp → Prop} (g : xCtx RX12 cX12_inForce 4 d 0 0 yX12_inForce.name ro J) (hr : xRet cX12_inForce (some .int) 0 0 Z J) {μ : Hp} {a0 : Nat} 
    (h : J μ 0 0 4 [(0, .ref a0), (1, .int 0), (2, .int 0)] []) :
    J μ 0 0 0 [(0, .ref a0)] [] := by
  refine r_iconst g 0 dX12_inForce_0 (by decide) ?_
  refine r_istore_n g [(1, .int 0), (0, .ref a0)] dX12_inForce_1 (by decide) rfl ?_
  refine r_iconst g 0 dX12_inForce_2 (by decide) ?_
  refine r_istore_n g [(2, .int 0), (1, .int 0), (0, .ref a0)] dX12_inForce_3 (by decide) rfl ?_
  refine r_sub g (lv' := [(0, .ref a0), (1, .int 0), (2, .int 0)]) (⟨rfl, rfl, rfl, trivial⟩) ?_
  exact h
set_option maxHeartbeats 4000000 in
set_option maxRecDepth 100000 in
theorem B_X12_inForce_4 {d : Nat} {ro : Nat → Nat} {J : JT} {Z : Option Value → Hp → Prop} (g : xCtx RX12 cX12_inForce 4 d 0 0 yX12_inForce.name ro J) (hr : xRet cX12_inForce (some .int) 0 0 Z J) {μ : Hp} {a0 : Nat} {x1 : Int32} {x2 : Int32} (hs_a0 : hS μ a0 = some (15, 65))
    (h : (((hI μ a0 20) ≤ x2 → Z (some (.int x1)) μ) ∧ (¬ (hI μ a0 20) ≤ x2 → J μ 0 0 14 [(0, .ref a0), (1, .int x1), (2, .int x2), (3, .int 0)] []))) :
    J μ 0 0 4 [(0, .ref a0), (1, .int x1), (2, .int x2)] [] := by
  refine r_iload_n g dX12_inForce_4 rfl ?_
  refine r_aload_n g dX12_inForce_5 rfl ?_
  refine r_getI g fX12_242 rfl hs_a0 dX12_inForce_6 ?_
  refine r_icmp_ge g 56 dX12_inForce_9 (by decide) (fun c1 => ?_) (fun c1 => ?_)
  · replace h := h.1 c1
    refine r_iload_n g dX12_inForce_56 rfl ?_
    exact hr.2.1 _ rfl _ _ _ _ _ _ dX12_inForce_57 rfl (Nat.le_refl 0) (Nat.le_refl 0) h
  · replace h := h.2 c1
    refine r_iconst g 0 dX12_inForce_12 (by decide) ?_
    refine r_istore_n g [(3, .int 0), (0, .ref a0), (1, .int x1), (2, .int x2)] dX12_inForce_13 (by decide) rfl ?_
    refine r_sub g (lv' := [(0, .ref a0), (1, .int x1), (2, .int x2), (3, .int 0)]) (⟨rfl, rfl, rfl, rfl, trivial⟩) ?_
    exact h
set_option maxHeartbeats 4000000 in
set_option maxRecDepth 100000 in
theorem B_X12_inForce_14 {d : Nat} {ro : Nat → Nat} {J : JT} {Z : Option Value → Hp → Prop} (g : xCtx RX12 cX12_inForce 4 d 0 0 yX12_inForce.name ro J) (hr : xRet cX12_inForce (some .int) 0 0 Z J) {μ : Hp} {a0 : Nat} {x1 : Int32} {x2 : Int32} {x3 : Int32} {a0_now : Nat} {N_a0_now : Nat} (hs_a0 : hS μ a0 = some (15, 65)) (hr_a0_now : hR μ a0 30 = some a0_now) (hs_a0_now : hS μ a0_now = some (0, N_a0_now))
    (h : ((x2 ≤ x3 → J μ 0 0 4 [(0, .ref a0), (1, .int x1), (2, .int (x2 + 1))] []) ∧ (¬ x2 ≤ x3 → vp_in 30 N_a0_now ∧ xCall d yX12_treatyOf cX12_treatyOf 8 (some .int) [.ref a0, .int x2, .int x3, .int (hI μ a0_now 30)] μ ro (fun r3 μ4 => ∃ y5 : Int32, r3 = some (.int y5) ∧ ((¬ y5 = (-1) → J μ4 0 0 14 [(0, .ref a0), (1, .int (x1 + 1)), (2, .int x2), (3, .int (x3 + 1))] []) ∧ (y5 = (-1) → J μ4 0 0 14 [(0, .ref a0), (1, .int (x1 + 0)), (2, .int x2), (3, .int (x3 + 1))] [])))))) :
    J μ 0 0 14 [(0, .ref a0), (1, .int x1), (2, .int x2), (3, .int x3)] [] := by
  refine r_iload_n g dX12_inForce_14 rfl ?_
  refine r_iload_n g dX12_inForce_15 rfl ?_
  refine r_icmp_ge g 50 dX12_inForce_16 (by decide) (fun c1 => ?_) (fun c1 => ?_)
  · replace h := h.1 c1
    refine r_iinc g (x2 + 1) [(2, .int (x2 + 1)), (0, .ref a0), (1, .int x1), (3, .int x3)] dX12_inForce_50 rfl rfl (by decide) rfl ?_
    refine r_goto g 4 dX12_inForce_53 (by decide) ?_
    refine r_sub g (lv' := [(0, .ref a0), (1, .int x1), (2, .int (x2 + 1))]) (⟨rfl, rfl, rfl, trivial⟩) ?_
    exact h
  · replace h := h.2 c1
    refine r_iload_n g dX12_inForce_19 rfl ?_
    refine r_aload_n g dX12_inForce_20 rfl ?_
    refine r_iload_n g dX12_inForce_21 rfl ?_
    refine r_iload_n g dX12_inForce_22 rfl ?_
    refine r_aload_n g dX12_inForce_23 rfl ?_
    refine r_getR g fX12_57 rfl hs_a0 hr_a0_now dX12_inForce_24 ?_
    refine r_bipush g 30 dX12_inForce_27 (by decide) ?_
    obtain ⟨hi2, h⟩ := h
    refine r_iaload g hs_a0_now hi2 dX12_inForce_29 ?_
    obtain ⟨d1, Z1, hc1, hd1, h1⟩ := h
    refine r_callV (st := [.int x1]) (As := [.int x2, .int x3, .int (hI μ a0_now 30)]) g sX12_283 iX12_treatyOf eX12_treatyOf rfl hs_a0 rfl (Nat.le_of_ble_eq_true rfl) dX12_inForce_30 hd1 (Nat.le_refl 0) (Nat.le_refl 0) hc1 (fun r3 μ4 hZ1 => ?_)
    replace h := h1 _ _ hZ1
    clear h1 hc1 hd1 hZ1 Z1 d1
    obtain ⟨y5, rfl, h⟩ := h
    refine r_iconst g (-1) dX12_inForce_33 (by decide) ?_
    refine r_icmp_ne g 41 dX12_inForce_34 (by decide) (fun c6 => ?_) (fun c6 => ?_)
    · replace h := h.1 c6
      refine r_iconst g 1 dX12_inForce_41 (by decide) ?_
      refine r_iadd g dX12_inForce_42 ?_
      refine r_istore_n g [(1, .int (x1 + 1)), (0, .ref a0), (2, .int x2), (3, .int x3)] dX12_inForce_43 (by decide) rfl ?_
      refine r_iinc g (x3 + 1) [(3, .int (x3 + 1)), (1, .int (x1 + 1)), (0, .ref a0), (2, .int x2)] dX12_inForce_44 rfl rfl (by decide) rfl ?_
      refine r_goto g 14 dX12_inForce_47 (by decide) ?_
      refine r_sub g (lv' := [(0, .ref a0), (1, .int (x1 + 1)), (2, .int x2), (3, .int (x3 + 1))]) (⟨rfl, rfl, rfl, rfl, trivial⟩) ?_
      exact h
    · replace h := h.2 c6
      refine r_iconst g 0 dX12_inForce_37 (by decide) ?_
      refine r_goto g 42 dX12_inForce_38 (by decide) ?_
      refine r_iadd g dX12_inForce_42 ?_
      refine r_istore_n g [(1, .int (x1 + 0)), (0, .ref a0), (2, .int x2), (3, .int x3)] dX12_inForce_43 (by decide) rfl ?_
      refine r_iinc g (x3 + 1) [(3, .int (x3 + 1)), (1, .int (x1 + 0)), (0, .ref a0), (2, .int x2)] dX12_inForce_44 rfl rfl (by decide) rfl ?_
      refine r_goto g 14 dX12_inForce_47 (by decide) ?_
      refine r_sub g (lv' := [(0, .ref a0), (1, .int (x1 + 0)), (2, .int x2), (3, .int (x3 + 1))]) (⟨rfl, rfl, rfl, rfl, trivial⟩) ?_
      exact h
theorem I_X12_inForce {d : Nat} {ro : Nat → Nat} {Z : Option Value → Hp → Prop} {μ : Hp} {a0 : Nat} (h : ∀ J, xCtx RX12 cX12_inForce 4 d 0 0 yX12_inForce.name ro J → xRet cX12_inForce (some .int) 0 0 Z J → J μ 0 0 0 [(0, .ref a0)] []) : xC d yX12_inForce cX12_inForce 4 (some .int) 0 0 [.ref a0] μ ro Z :=
  xC_intro (own := RX12) (lv := [(0, .ref a0)]) (by decide) rfl (Nat.le_of_ble_eq_true rfl) rfl (fun J g hr => r_sub g (lv' := [(0, .ref a0)]) (⟨rfl, trivial⟩) (h J g hr))
theorem dX12_later_0 : decode cX12_later 0 = .ok (.iconst 0, 1) := by decide +kernel
theorem dX12_later_1 : decode cX12_later 1 = .ok (.istore_n 1, 1) := by decide +kernel
theorem dX12_later_2 : decode cX12_later 2 = .ok (.iconst 0, 1) := by decide +kernel
theorem dX12_later_3 : decode cX12_later 3 = .ok (.istore_n 2, 1) := by decide +kernel
theorem dX12_later_4 : decode cX12_later 4 = .ok (.iload_n 2, 1) := by decide +kernel
theorem dX12_later_5 : decode cX12_later 5 = .ok (.aload_n 0, 1) := by decide +kernel
theorem dX12_later_6 : decode cX12_later 6 = .ok (.getfield 57, 3) := by decide +kernel
theorem dX12_later_9 : decode cX12_later 9 = .ok (.bipush 31, 2) := by decide +kernel
theorem dX12_later_11 : decode cX12_later 11 = .ok (.iaload, 1) := by decide +kernel
theorem dX12_later_12 : decode cX12_later 12 = .ok (.if_icmp .ge 38, 3) := by decide +kernel
theorem dX12_later_15 : decode cX12_later 15 = .ok (.iload_n 1, 1) := by decide +kernel
theorem dX12_later_16 : decode cX12_later 16 = .ok (.aload_n 0, 1) := by decide +kernel
theorem dX12_later_17 : decode cX12_later 17 = .ok (.getfield 57, 3) := by decide +kernel
theorem dX12_later_20 : decode cX12_later 20 = .ok (.iload_n 2, 1) := by decide +kernel
theorem dX12_later_21 : decode cX12_later 21 = .ok (.invokestatic 270, 3) := by decide +kernel
theorem dX12_later_24 : decode cX12_later 24 = .ok (.iconst 4, 1) := by decide +kernel
theorem dX12_later_25 : decode cX12_later 25 = .ok (.iadd, 1) := by decide +kernel
theorem dX12_later_26 : decode cX12_later 26 = .ok (.iaload, 1) := by decide +kernel
theorem dX12_later_27 : decode cX12_later 27 = .ok (.aload_n 0, 1) := by decide +kernel
theorem dX12_later_28 : decode cX12_later 28 = .ok (.getfield 57, 3) := by decide +kernel
theorem dX12_later_31 : decode cX12_later 31 = .ok (.bipush 30, 2) := by decide +kernel
theorem dX12_later_33 : decode cX12_later 33 = .ok (.iaload, 1) := by decide +kernel
theorem dX12_later_34 : decode cX12_later 34 = .ok (.if_icmp .le 7, 3) := by decide +kernel
theorem dX12_later_37 : decode cX12_later 37 = .ok (.iconst 1, 1) := by decide +kernel
theorem dX12_later_38 : decode cX12_later 38 = .ok (.goto 4, 3) := by decide +kernel
theorem dX12_later_41 : decode cX12_later 41 = .ok (.iconst 0, 1) := by decide +kernel
theorem dX12_later_42 : decode cX12_later 42 = .ok (.iadd, 1) := by decide +kernel
theorem dX12_later_43 : decode cX12_later 43 = .ok (.istore_n 1, 1) := by decide +kernel
theorem dX12_later_44 : decode cX12_later 44 = .ok (.iinc 2 1, 3) := by decide +kernel
theorem dX12_later_47 : decode cX12_later 47 = .ok (.goto (-43), 3) := by decide +kernel
theorem dX12_later_50 : decode cX12_later 50 = .ok (.iload_n 1, 1) := by decide +kernel
theorem dX12_later_51 : decode cX12_later 51 = .ok (.ireturn, 1) := by decide +kernel
set_option maxHeartbeats 4000000 in
set_option maxRecDepth 100000 in
theorem B_X12_later_0 {d : Nat} {ro : Nat → Nat} {J : JT} {Z : Option Value → Hp → Prop} (g : xCtx RX12 cX12_later 3 d 0 0 yX12_later.name ro J) (hr : xRet cX12_later (some .int) 0 0 Z J) {μ : Hp} {a0 : Nat} 
    (h : J μ 0 0 4 [(0, .ref a0), (1, .int 0), (2, .int 0)] []) :
    J μ 0 0 0 [(0, .ref a0)] [] := by
  refine r_iconst g 0 dX12_later_0 (by decide) ?_
  refine r_istore_n g [(1, .int 0), (0, .ref a0)] dX12_later_1 (by decide) rfl ?_
  refine r_iconst g 0 dX12_later_2 (by decide) ?_
  refine r_istore_n g [(2, .int 0), (1, .int 0), (0, .ref a0)] dX12_later_3 (by decide) rfl ?_
  refine r_sub g (lv' := [(0, .ref a0), (1, .int 0), (2, .int 0)]) (⟨rfl, rfl, rfl, trivial⟩) ?_
  exact h
set_option maxHeartbeats 4000000 in
set_option maxRecDepth 100000 in
theorem B_X12_later_4 {d : Nat} {ro : Nat → Nat} {J : JT} {Z : Option Value → Hp → Prop} (g : xCtx RX12 cX12_later 3 d 0 0 yX12_later.name ro J) (hr : xRet cX12_later (some .int) 0 0 Z J) {μ : Hp} {a0 : Nat} {x1 : Int32} {x2 : Int32} {a0_now : Nat} {N_a0_now : Nat} (hs_a0 : hS μ a0 = some (15, 65)) (hr_a0_now : hR μ a0 30 = some a0_now) (hs_a0_now : hS μ a0_now = some (0, N_a0_now)) (hd9 : 1 ≤ d)
    (h : vp_in 31 N_a0_now ∧ (((hI μ a0_now 31) ≤ x2 → Z (some (.int x1)) μ) ∧ (¬ (hI μ a0_now 31) ≤ x2 → vp_in ((32 + (5 * x2)) + 4) N_a0_now ∧ vp_in 30 N_a0_now ∧ (((hI μ a0_now (((32 + (5 * x2)) + 4).toNatClampNeg)) ≤ (hI μ a0_now 30) → J μ 0 0 4 [(0, .ref a0), (1, .int (x1 + 0)), (2, .int (x2 + 1))] []) ∧ (¬ (hI μ a0_now (((32 + (5 * x2)) + 4).toNatClampNeg)) ≤ (hI μ a0_now 30) → J μ 0 0 4 [(0, .ref a0), (1, .int (x1 + 1)), (2, .int (x2 + 1))] []))))) :
    J μ 0 0 4 [(0, .ref a0), (1, .int x1), (2, .int x2)] [] := by
  refine r_iload_n g dX12_later_4 rfl ?_
  refine r_aload_n g dX12_later_5 rfl ?_
  refine r_getR g fX12_57 rfl hs_a0 hr_a0_now dX12_later_6 ?_
  refine r_bipush g 31 dX12_later_9 (by decide) ?_
  obtain ⟨hi1, h⟩ := h
  refine r_iaload g hs_a0_now hi1 dX12_later_11 ?_
  refine r_icmp_ge g 50 dX12_later_12 (by decide) (fun c2 => ?_) (fun c2 => ?_)
  · replace h := h.1 c2
    refine r_iload_n g dX12_later_50 rfl ?_
    exact hr.2.1 _ rfl _ _ _ _ _ _ dX12_later_51 rfl (Nat.le_refl 0) (Nat.le_refl 0) h
  · replace h := h.2 c2
    refine r_iload_n g dX12_later_15 rfl ?_
    refine r_aload_n g dX12_later_16 rfl ?_
    refine r_getR g fX12_57 rfl hs_a0 hr_a0_now dX12_later_17 ?_
    refine r_iload_n g dX12_later_20 rfl ?_
    refine r_callS (st := [.ref a0_now, .int x1]) (As := [.int x2]) g sX12_270 iX12_linkRow rfl (Nat.le_of_ble_eq_true rfl) dX12_later_21 (by omega) (Nat.le_refl 0) (Nat.le_refl 0) (P_X12_linkRow_0 (d := d - 1)  ) (fun r3 μ4 hZ1 => ?_)
    obtain ⟨rfl, e9⟩ := hZ1
    replace e9 := e9.symm
    subst e9
    refine r_iconst g 4 dX12_later_24 (by decide) ?_
    refine r_iadd g dX12_later_25 ?_
    obtain ⟨hi5, h⟩ := h
    refine r_iaload g hs_a0_now hi5 dX12_later_26 ?_
    refine r_aload_n g dX12_later_27 rfl ?_
    refine r_getR g fX12_57 rfl hs_a0 hr_a0_now dX12_later_28 ?_
    refine r_bipush g 30 dX12_later_31 (by decide) ?_
    obtain ⟨hi6, h⟩ := h
    refine r_iaload g hs_a0_now hi6 dX12_later_33 ?_
    refine r_icmp_le g 41 dX12_later_34 (by decide) (fun c7 => ?_) (fun c7 => ?_)
    · replace h := h.1 c7
      refine r_iconst g 0 dX12_later_41 (by decide) ?_
      refine r_iadd g dX12_later_42 ?_
      refine r_istore_n g [(1, .int (x1 + 0)), (0, .ref a0), (2, .int x2)] dX12_later_43 (by decide) rfl ?_
      refine r_iinc g (x2 + 1) [(2, .int (x2 + 1)), (1, .int (x1 + 0)), (0, .ref a0)] dX12_later_44 rfl rfl (by decide) rfl ?_
      refine r_goto g 4 dX12_later_47 (by decide) ?_
      refine r_sub g (lv' := [(0, .ref a0), (1, .int (x1 + 0)), (2, .int (x2 + 1))]) (⟨rfl, rfl, rfl, trivial⟩) ?_
      exact h
    · replace h := h.2 c7
      refine r_iconst g 1 dX12_later_37 (by decide) ?_
      refine r_goto g 42 dX12_later_38 (by decide) ?_
      refine r_iadd g dX12_later_42 ?_
      refine r_istore_n g [(1, .int (x1 + 1)), (0, .ref a0), (2, .int x2)] dX12_later_43 (by decide) rfl ?_
      refine r_iinc g (x2 + 1) [(2, .int (x2 + 1)), (1, .int (x1 + 1)), (0, .ref a0)] dX12_later_44 rfl rfl (by decide) rfl ?_
      refine r_goto g 4 dX12_later_47 (by decide) ?_
      refine r_sub g (lv' := [(0, .ref a0), (1, .int (x1 + 1)), (2, .int (x2 + 1))]) (⟨rfl, rfl, rfl, trivial⟩) ?_
      exact h
theorem I_X12_later {d : Nat} {ro : Nat → Nat} {Z : Option Value → Hp → Prop} {μ : Hp} {a0 : Nat} (h : ∀ J, xCtx RX12 cX12_later 3 d 0 0 yX12_later.name ro J → xRet cX12_later (some .int) 0 0 Z J → J μ 0 0 0 [(0, .ref a0)] []) : xC d yX12_later cX12_later 3 (some .int) 0 0 [.ref a0] μ ro Z :=
  xC_intro (own := RX12) (lv := [(0, .ref a0)]) (by decide) rfl (Nat.le_of_ble_eq_true rfl) rfl (fun J g hr => r_sub g (lv' := [(0, .ref a0)]) (⟨rfl, trivial⟩) (h J g hr))
