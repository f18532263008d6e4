theorem dX7_readFrom_0 : decode cX7_readFrom 0 = .ok (.aload_n 0, 1) := by decide +kernel
theorem dX7_readFrom_1 : decode cX7_readFrom 1 = .ok (.iconst 0, 1) := by decide +kernel
theorem dX7_readFrom_2 : decode cX7_readFrom 2 = .ok (.putfield 15, 3) := by decide +kernel
theorem dX7_readFrom_5 : decode cX7_readFrom 5 = .ok (.aload_n 1, 1) := by decide +kernel
theorem dX7_readFrom_6 : decode cX7_readFrom 6 = .ok (.invokevirtual 19, 3) := by decide +kernel
theorem dX7_readFrom_9 : decode cX7_readFrom 9 = .ok (.iconst 1, 1) := by decide +kernel
theorem dX7_readFrom_10 : decode cX7_readFrom 10 = .ok (.istore_n 2, 1) := by decide +kernel
theorem dX7_readFrom_11 : decode cX7_readFrom 11 = .ok (.iconst 0, 1) := by decide +kernel
theorem dX7_readFrom_12 : decode cX7_readFrom 12 = .ok (.istore_n 3, 1) := by decide +kernel
theorem dX7_readFrom_13 : decode cX7_readFrom 13 = .ok (.iload_n 2, 1) := by decide +kernel
theorem dX7_readFrom_14 : decode cX7_readFrom 14 = .ok (.ifCond .eq 35, 3) := by decide +kernel
theorem dX7_readFrom_17 : decode cX7_readFrom 17 = .ok (.iload_n 3, 1) := by decide +kernel
theorem dX7_readFrom_18 : decode cX7_readFrom 18 = .ok (.bipush 12, 2) := by decide +kernel
theorem dX7_readFrom_20 : decode cX7_readFrom 20 = .ok (.if_icmp .ge 29, 3) := by decide +kernel
theorem dX7_readFrom_23 : decode cX7_readFrom 23 = .ok (.aload_n 0, 1) := by decide +kernel
theorem dX7_readFrom_24 : decode cX7_readFrom 24 = .ok (.aload_n 1, 1) := by decide +kernel
theorem dX7_readFrom_25 : decode cX7_readFrom 25 = .ok (.iload_n 3, 1) := by decide +kernel
theorem dX7_readFrom_26 : decode cX7_readFrom 26 = .ok (.iconst 5, 1) := by decide +kernel
theorem dX7_readFrom_27 : decode cX7_readFrom 27 = .ok (.imul, 1) := by decide +kernel
theorem dX7_readFrom_28 : decode cX7_readFrom 28 = .ok (.invokevirtual 24, 3) := by decide +kernel
theorem dX7_readFrom_31 : decode cX7_readFrom 31 = .ok (.aload_n 0, 1) := by decide +kernel
theorem dX7_readFrom_32 : decode cX7_readFrom 32 = .ok (.iload_n 3, 1) := by decide +kernel
theorem dX7_readFrom_33 : decode cX7_readFrom 33 = .ok (.iconst 1, 1) := by decide +kernel
theorem dX7_readFrom_34 : decode cX7_readFrom 34 = .ok (.iadd, 1) := by decide +kernel
theorem dX7_readFrom_35 : decode cX7_readFrom 35 = .ok (.putfield 15, 3) := by decide +kernel
theorem dX7_readFrom_38 : decode cX7_readFrom 38 = .ok (.aload_n 1, 1) := by decide +kernel
theorem dX7_readFrom_39 : decode cX7_readFrom 39 = .ok (.invokevirtual 28, 3) := by decide +kernel
theorem dX7_readFrom_42 : decode cX7_readFrom 42 = .ok (.istore_n 2, 1) := by decide +kernel
theorem dX7_readFrom_43 : decode cX7_readFrom 43 = .ok (.iinc 3 1, 3) := by decide +kernel
theorem dX7_readFrom_46 : decode cX7_readFrom 46 = .ok (.goto (-33), 3) := by decide +kernel
theorem dX7_readFrom_49 : decode cX7_readFrom 49 = .ok (.iload_n 2, 1) := by decide +kernel
theorem dX7_readFrom_50 : decode cX7_readFrom 50 = .ok (.ifCond .eq 11, 3) := by decide +kernel
theorem dX7_readFrom_53 : decode cX7_readFrom 53 = .ok (.aload_n 1, 1) := by decide +kernel
theorem dX7_readFrom_54 : decode cX7_readFrom 54 = .ok (.aload_n 1, 1) := by decide +kernel
theorem dX7_readFrom_55 : decode cX7_readFrom 55 = .ok (.getfield 32, 3) := by decide +kernel
theorem dX7_readFrom_58 : decode cX7_readFrom 58 = .ok (.invokevirtual 35, 3) := by decide +kernel
theorem dX7_readFrom_61 : decode cX7_readFrom 61 = .ok (.return_, 1) := by decide +kernel
set_option maxHeartbeats 4000000 in
set_option maxRecDepth 100000 in
theorem B_X7_readFrom_0 {d : Nat} {ro : Nat → Nat} {J : JT} {Z : Option Value → Hp → Prop} (g : xCtx RX7 cX7_readFrom 4 d 0 0 yX7_readFrom.name ro J) (hr : xRet cX7_readFrom none 0 0 Z J) {μ : Hp} {a0 : Nat} {a1 : Nat} (hs_a0 : hS μ a0 = some (11, 2)) (hs_a1 : hS μ a1 = some (10, 5))
    (h : xCall d yX6_begin cX6_begin 1 none [.ref a1] (wI μ a0 1 0) ro (fun r1 μ2 => r1 = none ∧ J μ2 0 0 13 [(0, .ref a0), (1, .ref a1), (2, .int 1), (3, .int 0)] [])) :
    J μ 0 0 0 [(0, .ref a0), (1, .ref a1)] [] := by
  refine r_aload_n g dX7_readFrom_0 rfl ?_
  refine r_iconst g 0 dX7_readFrom_1 (by decide) ?_
  refine r_putI g fX7_15 rfl hs_a0 rfl rfl dX7_readFrom_2 ?_
  refine r_aload_n g dX7_readFrom_5 rfl ?_
  obtain ⟨d1, Z1, hc1, hd1, h1⟩ := h
  refine r_callV (st := []) (As := []) g sX7_19 iX6_begin eX6_begin rfl hs_a1 rfl (Nat.le_of_ble_eq_true rfl) dX7_readFrom_6 hd1 (Nat.le_refl 0) (Nat.le_refl 0) hc1 (fun r1 μ2 hZ1 => ?_)
  replace h := h1 _ _ hZ1
  clear h1 hc1 hd1 hZ1 Z1 d1
  obtain ⟨rfl, h⟩ := h
  refine r_iconst g 1 dX7_readFrom_9 (by decide) ?_
  refine r_istore_n g [(2, .int 1), (0, .ref a0), (1, .ref a1)] dX7_readFrom_10 (by decide) rfl ?_
  refine r_iconst g 0 dX7_readFrom_11 (by decide) ?_
  refine r_istore_n g [(3, .int 0), (2, .int 1), (0, .ref a0), (1, .ref a1)] dX7_readFrom_12 (by decide) rfl ?_
  refine r_sub g (lv' := [(0, .ref a0), (1, .ref a1), (2, .int 1), (3, .int 0)]) (⟨rfl, rfl, rfl, rfl, trivial⟩) ?_
  exact h
set_option maxHeartbeats 4000000 in
set_option maxRecDepth 100000 in
theorem B_X7_readFrom_13 {d : Nat} {ro : Nat → Nat} {J : JT} {Z : Option Value → Hp → Prop} (g : xCtx RX7 cX7_readFrom 4 d 0 0 yX7_readFrom.name ro J) (hr : xRet cX7_readFrom none 0 0 Z J) {μ : Hp} {a0 : Nat} {a1 : Nat} {x2 : Int32} {x3 : Int32} (hs_a1 : hS μ a1 = some (10, 5)) (hs_a0 : hS μ a0 = some (11, 2))
    (h : ((x2 = 0 → ((x2 = 0 → Z none μ) ∧ (¬ x2 = 0 → xCall d yX6_fail cX6_fail 2 none [.ref a1, .int (hI μ a1 2)] μ ro (fun r3 μ4 => r3 = none ∧ Z none μ4)))) ∧ (¬ x2 = 0 → ((12 ≤ x3 → ((x2 = 0 → Z none μ) ∧ (¬ x2 = 0 → xCall d yX6_fail cX6_fail 2 none [.ref a1, .int (hI μ a1 2)] μ ro (fun r7 μ8 => r7 = none ∧ Z none μ8)))) ∧ (¬ 12 ≤ x3 → xCall d yX7_readStep cX7_readStep 5 none [.ref a0, .ref a1, .int (x3 * 5)] μ ro (fun r9 μ10 => r9 = none ∧ hS μ10 a0 = some (11, 2) ∧ hS μ10 a1 = some (10, 5) ∧ xCall d yX6_goesOn cX6_goesOn 1 (some .boolean) [.ref a1] (wI μ10 a0 1 (x3 + 1)) ro (fun r11 μ12 => ∃ y13 : Int32, r11 = some (.int y13) ∧ J μ12 0 0 13 [(0, .ref a0), (1, .ref a1), (2, .int y13), (3, .int (x3 + 1))] []))))))) :
    J μ 0 0 13 [(0, .ref a0), (1, .ref a1), (2, .int x2), (3, .int x3)] [] := by
  refine r_iload_n g dX7_readFrom_13 rfl ?_
  refine r_if_eq g 49 dX7_readFrom_14 (by decide) (fun c1 => ?_) (fun c1 => ?_)
  · replace h := h.1 c1
    refine r_iload_n g dX7_readFrom_49 rfl ?_
    refine r_if_eq g 61 dX7_readFrom_50 (by decide) (fun c2 => ?_) (fun c2 => ?_)
    · replace h := h.1 c2
      exact hr.1 rfl _ _ _ _ _ dX7_readFrom_61 (Nat.le_refl 0) (Nat.le_refl 0) h
    · replace h := h.2 c2
      refine r_aload_n g dX7_readFrom_53 rfl ?_
      refine r_aload_n g dX7_readFrom_54 rfl ?_
      refine r_getI g fX7_32 rfl hs_a1 dX7_readFrom_55 ?_
      obtain ⟨d1, Z1, hc1, hd1, h1⟩ := h
      refine r_callV (st := []) (As := [.int (hI μ a1 2)]) g sX7_35 iX6_fail eX6_fail rfl hs_a1 rfl (Nat.le_of_ble_eq_true rfl) dX7_readFrom_58 hd1 (Nat.le_refl 0) (Nat.le_refl 0) hc1 (fun r3 μ4 hZ1 => ?_)
      replace h := h1 _ _ hZ1
      clear h1 hc1 hd1 hZ1 Z1 d1
      obtain ⟨rfl, h⟩ := h
      exact hr.1 rfl _ _ _ _ _ dX7_readFrom_61 (Nat.le_refl 0) (Nat.le_refl 0) h
  · replace h := h.2 c1
    refine r_iload_n g dX7_readFrom_17 rfl ?_
    refine r_bipush g 12 dX7_readFrom_18 (by decide) ?_
    refine r_icmp_ge g 49 dX7_readFrom_20 (by decide) (fun c5 => ?_) (fun c5 => ?_)
    · replace h := h.1 c5
      refine r_iload_n g dX7_readFrom_49 rfl ?_
      refine r_if_eq g 61 dX7_readFrom_50 (by decide) (fun c6 => ?_) (fun c6 => ?_)
      · replace h := h.1 c6
        exact hr.1 rfl _ _ _ _ _ dX7_readFrom_61 (Nat.le_refl 0) (Nat.le_refl 0) h
      · replace h := h.2 c6
        refine r_aload_n g dX7_readFrom_53 rfl ?_
        refine r_aload_n g dX7_readFrom_54 rfl ?_
        refine r_getI g fX7_32 rfl hs_a1 dX7_readFrom_55 ?_
        obtain ⟨d1, Z1, hc1, hd1, h1⟩ := h
        refine r_callV (st := []) (As := [.int (hI μ a1 2)]) g sX7_35 iX6_fail eX6_fail rfl hs_a1 rfl (Nat.le_of_ble_eq_true rfl) dX7_readFrom_58 hd1 (Nat.le_refl 0) (Nat.le_refl 0) hc1 (fun r7 μ8 hZ1 => ?_)
        replace h := h1 _ _ hZ1
        clear h1 hc1 hd1 hZ1 Z1 d1
        obtain ⟨rfl, h⟩ := h
        exact hr.1 rfl _ _ _ _ _ dX7_readFrom_61 (Nat.le_refl 0) (Nat.le_refl 0) h
    · replace h := h.2 c5
      refine r_aload_n g dX7_readFrom_23 rfl ?_
      refine r_aload_n g dX7_readFrom_24 rfl ?_
      refine r_iload_n g dX7_readFrom_25 rfl ?_
      refine r_iconst g 5 dX7_readFrom_26 (by decide) ?_
      refine r_imul g dX7_readFrom_27 ?_
      obtain ⟨d1, Z1, hc1, hd1, h1⟩ := h
      refine r_callV (st := []) (As := [.ref a1, .int (x3 * 5)]) g sX7_24 iX7_readStep eX7_readStep rfl hs_a0 rfl (Nat.le_of_ble_eq_true rfl) dX7_readFrom_28 hd1 (Nat.le_refl 0) (Nat.le_refl 0) hc1 (fun r9 μ10 hZ1 => ?_)
      replace h := h1 _ _ hZ1
      clear h1 hc1 hd1 hZ1 Z1 d1
      obtain ⟨rfl, h⟩ := h
      refine r_aload_n g dX7_readFrom_31 rfl ?_
      refine r_iload_n g dX7_readFrom_32 rfl ?_
      refine r_iconst g 1 dX7_readFrom_33 (by decide) ?_
      refine r_iadd g dX7_readFrom_34 ?_
      obtain ⟨hs_a0_, h⟩ := h
      refine r_putI g fX7_15 rfl hs_a0_ rfl rfl dX7_readFrom_35 ?_
      refine r_aload_n g dX7_readFrom_38 rfl ?_
      obtain ⟨hs_a1__, h⟩ := h
      obtain ⟨d1, Z1, hc1, hd1, h1⟩ := h
      refine r_callV (st := []) (As := []) g sX7_28 iX6_goesOn eX6_goesOn rfl hs_a1__ rfl (Nat.le_of_ble_eq_true rfl) dX7_readFrom_39 hd1 (Nat.le_refl 0) (Nat.le_refl 0) hc1 (fun r11 μ12 hZ1 => ?_)
      replace h := h1 _ _ hZ1
      clear h1 hc1 hd1 hZ1 Z1 d1
      obtain ⟨y13, rfl, h⟩ := h
      refine r_istore_n g [(2, .int y13), (0, .ref a0), (1, .ref a1), (3, .int x3)] dX7_readFrom_42 (by decide) rfl ?_
      refine r_iinc g (x3 + 1) [(3, .int (x3 + 1)), (2, .int y13), (0, .ref a0), (1, .ref a1)] dX7_readFrom_43 rfl rfl (by decide) rfl ?_
      refine r_goto g 13 dX7_readFrom_46 (by decide) ?_
      refine r_sub g (lv' := [(0, .ref a0), (1, .ref a1), (2, .int y13), (3, .int (x3 + 1))]) (⟨rfl, rfl, rfl, rfl, trivial⟩) ?_
      exact h
theorem I_X7_readFrom {d : Nat} {ro : Nat → Nat} {Z : Option Value → Hp → Prop} {μ : Hp} {a0 : Nat} {a1 : Nat} (h : ∀ J, xCtx RX7 cX7_readFrom 4 d 0 0 yX7_readFrom.name ro J → xRet cX7_readFrom none 0 0 Z J → J μ 0 0 0 [(0, .ref a0), (1, .ref a1)] []) : xC d yX7_readFrom cX7_readFrom 4 none 0 0 [.ref a0, .ref a1] μ ro Z :=
  xC_intro (own := RX7) (lv := [(0, .ref a0), (1, .ref a1)]) (by decide) rfl (Nat.le_of_ble_eq_true rfl) rfl (fun J g hr => r_sub g (lv' := [(0, .ref a0), (1, .ref a1)]) (⟨rfl, rfl, trivial⟩) (h J g hr))
