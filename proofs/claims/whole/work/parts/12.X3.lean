theorem dX3_find_0 : decode cX3_find 0 = .ok (.aload_n 0, 1) := by decide +kernel
theorem dX3_find_1 : decode cX3_find 1 = .ok (.iload 4, 2) := by decide +kernel
theorem dX3_find_3 : decode cX3_find 3 = .ok (.putfield 38, 3) := by decide +kernel
theorem dX3_find_6 : decode cX3_find 6 = .ok (.aload_n 0, 1) := by decide +kernel
theorem dX3_find_7 : decode cX3_find 7 = .ok (.iconst 0, 1) := by decide +kernel
theorem dX3_find_8 : decode cX3_find 8 = .ok (.putfield 18, 3) := by decide +kernel
theorem dX3_find_11 : decode cX3_find 11 = .ok (.aload_n 0, 1) := by decide +kernel
theorem dX3_find_12 : decode cX3_find 12 = .ok (.getfield 35, 3) := by decide +kernel
theorem dX3_find_15 : decode cX3_find 15 = .ok (.iload_n 3, 1) := by decide +kernel
theorem dX3_find_16 : decode cX3_find 16 = .ok (.putfield 45, 3) := by decide +kernel
theorem dX3_find_19 : decode cX3_find 19 = .ok (.aload_n 0, 1) := by decide +kernel
theorem dX3_find_20 : decode cX3_find 20 = .ok (.aload_n 1, 1) := by decide +kernel
theorem dX3_find_21 : decode cX3_find 21 = .ok (.invokevirtual 48, 3) := by decide +kernel
theorem dX3_find_24 : decode cX3_find 24 = .ok (.aload_n 0, 1) := by decide +kernel
theorem dX3_find_25 : decode cX3_find 25 = .ok (.aload_n 1, 1) := by decide +kernel
theorem dX3_find_26 : decode cX3_find 26 = .ok (.iload_n 2, 1) := by decide +kernel
theorem dX3_find_27 : decode cX3_find 27 = .ok (.iload 4, 2) := by decide +kernel
theorem dX3_find_29 : decode cX3_find 29 = .ok (.invokevirtual 52, 3) := by decide +kernel
theorem dX3_find_32 : decode cX3_find 32 = .ok (.aload_n 0, 1) := by decide +kernel
theorem dX3_find_33 : decode cX3_find 33 = .ok (.aload_n 1, 1) := by decide +kernel
theorem dX3_find_34 : decode cX3_find 34 = .ok (.iload_n 3, 1) := by decide +kernel
theorem dX3_find_35 : decode cX3_find 35 = .ok (.iload 5, 2) := by decide +kernel
theorem dX3_find_37 : decode cX3_find 37 = .ok (.iconst 0, 1) := by decide +kernel
theorem dX3_find_38 : decode cX3_find 38 = .ok (.iload 6, 2) := by decide +kernel
theorem dX3_find_40 : decode cX3_find 40 = .ok (.iconst 1, 1) := by decide +kernel
theorem dX3_find_41 : decode cX3_find 41 = .ok (.iload_n 3, 1) := by decide +kernel
theorem dX3_find_42 : decode cX3_find 42 = .ok (.ishl, 1) := by decide +kernel
theorem dX3_find_43 : decode cX3_find 43 = .ok (.ior, 1) := by decide +kernel
theorem dX3_find_44 : decode cX3_find 44 = .ok (.iconst 0, 1) := by decide +kernel
theorem dX3_find_45 : decode cX3_find 45 = .ok (.invokevirtual 56, 3) := by decide +kernel
theorem dX3_find_48 : decode cX3_find 48 = .ok (.aload_n 0, 1) := by decide +kernel
theorem dX3_find_49 : decode cX3_find 49 = .ok (.getfield 18, 3) := by decide +kernel
theorem dX3_find_52 : decode cX3_find 52 = .ok (.ifCond .le 7, 3) := by decide +kernel
theorem dX3_find_55 : decode cX3_find 55 = .ok (.iconst 1, 1) := by decide +kernel
theorem dX3_find_56 : decode cX3_find 56 = .ok (.goto 4, 3) := by decide +kernel
theorem dX3_find_59 : decode cX3_find 59 = .ok (.iconst 0, 1) := by decide +kernel
theorem dX3_find_60 : decode cX3_find 60 = .ok (.ireturn, 1) := by decide +kernel
set_option maxHeartbeats 4000000 in
set_option maxRecDepth 100000 in
theorem B_X3_find_0 {d : Nat} {ro : Nat → Nat} {J : JT} {Z : Option Value → Hp → Prop} (g : xCtx RX3 cX3_find 7 d 0 0 yX3_find.name ro J) (hr : xRet cX3_find (some .boolean) 0 0 Z J) {μ : Hp} {a0 : Nat} {a1 : Nat} {x2 : Int32} {x3 : Int32} {x4 : Int32} {x5 : Int32} {x6 : Int32} {a0_tried : Nat} (hs_a0 : hS μ a0 = some (7, 9)) (hr_a0_tried : hR μ a0 6 = some a0_tried) (hs_a0_tried : hS μ a0_tried = some (13, 5))
    (h : xCall d yX3_findTreaties cX3_findTreaties 6 none [.ref a0, .ref a1] (wI (wI (wI μ a0 7 x4) a0 1 0) a0_tried 1 x3) ro (fun r1 μ2 => r1 = none ∧ hS μ2 a0 = some (7, 9) ∧ xCall d yX3_judgeHops cX3_judgeHops 6 none [.ref a0, .ref a1, .int x2, .int x4] μ2 ro (fun r3 μ4 => r3 = none ∧ hS μ4 a0 = some (7, 9) ∧ xCall d yX3_goOn cX3_goOn 11 none [.ref a0, .ref a1, .int x3, .int x5, .int 0, .int (x6 ||| (1 <<< (x3 &&& 31))), .int 0] μ4 ro (fun r5 μ6 => r5 = none ∧ hS μ6 a0 = some (7, 9) ∧ (((hI μ6 a0 1) ≤ 0 → Z (some (.int 0)) μ6) ∧ (¬ (hI μ6 a0 1) ≤ 0 → Z (some (.int 1)) μ6)))))) :
    J μ 0 0 0 [(0, .ref a0), (1, .ref a1), (2, .int x2), (3, .int x3), (4, .int x4), (5, .int x5), (6, .int x6)] [] := by
  refine r_aload_n g dX3_find_0 rfl ?_
  refine r_iload g dX3_find_1 rfl ?_
  refine r_putI g fX3_38 rfl hs_a0 rfl rfl dX3_find_3 ?_
  refine r_aload_n g dX3_find_6 rfl ?_
  refine r_iconst g 0 dX3_find_7 (by decide) ?_
  refine r_putI g fX3_18 rfl hs_a0 rfl rfl dX3_find_8 ?_
  refine r_aload_n g dX3_find_11 rfl ?_
  refine r_getR g fX3_35 rfl hs_a0 hr_a0_tried dX3_find_12 ?_
  refine r_iload_n g dX3_find_15 rfl ?_
  refine r_putI g fX3_45 rfl hs_a0_tried rfl rfl dX3_find_16 ?_
  refine r_aload_n g dX3_find_19 rfl ?_
  refine r_aload_n g dX3_find_20 rfl ?_
  obtain ⟨d1, Z1, hc1, hd1, h1⟩ := h
  refine r_callV (st := []) (As := [.ref a1]) g sX3_48 iX3_findTreaties eX3_findTreaties rfl hs_a0 rfl (Nat.le_of_ble_eq_true rfl) dX3_find_21 hd1 (Nat.le_refl 0) (Nat.le_refl 0) hc1 (fun r1 μ2 hZ1 => ?_)
  replace h := h1 _ _ hZ1
  clear h1 hc1 hd1 hZ1 Z1 d1
  obtain ⟨rfl, h⟩ := h
  refine r_aload_n g dX3_find_24 rfl ?_
  refine r_aload_n g dX3_find_25 rfl ?_
  refine r_iload_n g dX3_find_26 rfl ?_
  refine r_iload g dX3_find_27 rfl ?_
  obtain ⟨hs_a0_, h⟩ := h
  obtain ⟨d1, Z1, hc1, hd1, h1⟩ := h
  refine r_callV (st := []) (As := [.ref a1, .int x2, .int x4]) g sX3_52 iX3_judgeHops eX3_judgeHops rfl hs_a0_ rfl (Nat.le_of_ble_eq_true rfl) dX3_find_29 hd1 (Nat.le_refl 0) (Nat.le_refl 0) hc1 (fun r3 μ4 hZ1 => ?_)
  replace h := h1 _ _ hZ1
  clear h1 hc1 hd1 hZ1 Z1 d1
  obtain ⟨rfl, h⟩ := h
  refine r_aload_n g dX3_find_32 rfl ?_
  refine r_aload_n g dX3_find_33 rfl ?_
  refine r_iload_n g dX3_find_34 rfl ?_
  refine r_iload g dX3_find_35 rfl ?_
  refine r_iconst g 0 dX3_find_37 (by decide) ?_
  refine r_iload g dX3_find_38 rfl ?_
  refine r_iconst g 1 dX3_find_40 (by decide) ?_
  refine r_iload_n g dX3_find_41 rfl ?_
  refine r_ishl g dX3_find_42 ?_
  refine r_ior g dX3_find_43 ?_
  refine r_iconst g 0 dX3_find_44 (by decide) ?_
  obtain ⟨hs_a0__, h⟩ := h
  obtain ⟨d1, Z1, hc1, hd1, h1⟩ := h
  refine r_callV (st := []) (As := [.ref a1, .int x3, .int x5, .int 0, .int (x6 ||| (1 <<< (x3 &&& 31))), .int 0]) g sX3_56 iX3_goOn eX3_goOn rfl hs_a0__ rfl (Nat.le_of_ble_eq_true rfl) dX3_find_45 hd1 (Nat.le_refl 0) (Nat.le_refl 0) hc1 (fun r5 μ6 hZ1 => ?_)
  replace h := h1 _ _ hZ1
  clear h1 hc1 hd1 hZ1 Z1 d1
  obtain ⟨rfl, h⟩ := h
  refine r_aload_n g dX3_find_48 rfl ?_
  obtain ⟨hs_a0___, h⟩ := h
  refine r_getI g fX3_18 rfl hs_a0___ dX3_find_49 ?_
  refine r_if_le g 59 dX3_find_52 (by decide) (fun c7 => ?_) (fun c7 => ?_)
  · replace h := h.1 c7
    refine r_iconst g 0 dX3_find_59 (by decide) ?_
    exact hr.2.1 _ rfl _ _ _ _ _ _ dX3_find_60 (by decide) (Nat.le_refl 0) (Nat.le_refl 0) h
  · replace h := h.2 c7
    refine r_iconst g 1 dX3_find_55 (by decide) ?_
    refine r_goto g 60 dX3_find_56 (by decide) ?_
    exact hr.2.1 _ rfl _ _ _ _ _ _ dX3_find_60 (by decide) (Nat.le_refl 0) (Nat.le_refl 0) h
theorem I_X3_find {d : Nat} {ro : Nat → Nat} {Z : Option Value → Hp → Prop} {μ : Hp} {a0 : Nat} {a1 : Nat} {x2 : Int32} {x3 : Int32} {x4 : Int32} {x5 : Int32} {x6 : Int32} (h : ∀ J, xCtx RX3 cX3_find 7 d 0 0 yX3_find.name ro J → xRet cX3_find (some .boolean) 0 0 Z J → J μ 0 0 0 [(0, .ref a0), (1, .ref a1), (2, .int x2), (3, .int x3), (4, .int x4), (5, .int x5), (6, .int x6)] []) : xC d yX3_find cX3_find 7 (some .boolean) 0 0 [.ref a0, .ref a1, .int x2, .int x3, .int x4, .int x5, .int x6] μ ro Z :=
  xC_intro (own := RX3) (lv := [(0, .ref a0), (1, .ref a1), (2, .int x2), (3, .int x3), (4, .int x4), (5, .int x5), (6, .int x6)]) (by decide) rfl (Nat.le_of_ble_eq_true rfl) rfl (fun J g hr => r_sub g (lv' := [(0, .ref a0), (1, .ref a1), (2, .int x2), (3, .int x3), (4, .int x4), (5, .int x5), (6, .int x6)]) (⟨rfl, rfl, rfl, rfl, rfl, rfl, rfl, trivial⟩) (h J g hr))
theorem dX3_findSparing_0 : decode cX3_findSparing 0 = .ok (.aload_n 0, 1) := by decide +kernel
theorem dX3_findSparing_1 : decode cX3_findSparing 1 = .ok (.iconst 1, 1) := by decide +kernel
theorem dX3_findSparing_2 : decode cX3_findSparing 2 = .ok (.putfield 41, 3) := by decide +kernel
theorem dX3_findSparing_5 : decode cX3_findSparing 5 = .ok (.aload_n 0, 1) := by decide +kernel
theorem dX3_findSparing_6 : decode cX3_findSparing 6 = .ok (.aload_n 1, 1) := by decide +kernel
theorem dX3_findSparing_7 : decode cX3_findSparing 7 = .ok (.iload_n 2, 1) := by decide +kernel
theorem dX3_findSparing_8 : decode cX3_findSparing 8 = .ok (.iload_n 3, 1) := by decide +kernel
theorem dX3_findSparing_9 : decode cX3_findSparing 9 = .ok (.iload 4, 2) := by decide +kernel
theorem dX3_findSparing_11 : decode cX3_findSparing 11 = .ok (.iload 5, 2) := by decide +kernel
theorem dX3_findSparing_13 : decode cX3_findSparing 13 = .ok (.iconst 0, 1) := by decide +kernel
theorem dX3_findSparing_14 : decode cX3_findSparing 14 = .ok (.invokevirtual 60, 3) := by decide +kernel
theorem dX3_findSparing_17 : decode cX3_findSparing 17 = .ok (.istore 6, 2) := by decide +kernel
theorem dX3_findSparing_19 : decode cX3_findSparing 19 = .ok (.aload_n 0, 1) := by decide +kernel
theorem dX3_findSparing_20 : decode cX3_findSparing 20 = .ok (.iconst 0, 1) := by decide +kernel
theorem dX3_findSparing_21 : decode cX3_findSparing 21 = .ok (.putfield 41, 3) := by decide +kernel
theorem dX3_findSparing_24 : decode cX3_findSparing 24 = .ok (.iload 6, 2) := by decide +kernel
theorem dX3_findSparing_26 : decode cX3_findSparing 26 = .ok (.ireturn, 1) := by decide +kernel
set_option maxHeartbeats 4000000 in
set_option maxRecDepth 100000 in
theorem B_X3_findSparing_0 {d : Nat} {ro : Nat → Nat} {J : JT} {Z : Option Value → Hp → Prop} (g : xCtx RX3 cX3_findSparing 7 d 0 0 yX3_findSparing.name ro J) (hr : xRet cX3_findSparing (some .boolean) 0 0 Z J) {μ : Hp} {a0 : Nat} {a1 : Nat} {x2 : Int32} {x3 : Int32} {x4 : Int32} {x5 : Int32} (hs_a0 : hS μ a0 = some (7, 9))
    (h : xCall d yX3_find cX3_find 7 (some .boolean) [.ref a0, .ref a1, .int x2, .int x3, .int x4, .int x5, .int 0] (wI μ a0 8 1) ro (fun r1 μ2 => ∃ y3 : Int32, r1 = some (.int y3) ∧ hS μ2 a0 = some (7, 9) ∧ narrow .boolean (.int y3) = .int y3 ∧ Z (some (.int y3)) (wI μ2 a0 8 0))) :
    J μ 0 0 0 [(0, .ref a0), (1, .ref a1), (2, .int x2), (3, .int x3), (4, .int x4), (5, .int x5)] [] := by
  refine r_aload_n g dX3_findSparing_0 rfl ?_
  refine r_iconst g 1 dX3_findSparing_1 (by decide) ?_
  refine r_putI g fX3_41 rfl hs_a0 (by decide) (by decide) dX3_findSparing_2 ?_
  refine r_aload_n g dX3_findSparing_5 rfl ?_
  refine r_aload_n g dX3_findSparing_6 rfl ?_
  refine r_iload_n g dX3_findSparing_7 rfl ?_
  refine r_iload_n g dX3_findSparing_8 rfl ?_
  refine r_iload g dX3_findSparing_9 rfl ?_
  refine r_iload g dX3_findSparing_11 rfl ?_
  refine r_iconst g 0 dX3_findSparing_13 (by decide) ?_
  obtain ⟨d1, Z1, hc1, hd1, h1⟩ := h
  refine r_callV (st := []) (As := [.ref a1, .int x2, .int x3, .int x4, .int x5, .int 0]) g sX3_60 iX3_find eX3_find rfl hs_a0 rfl (Nat.le_of_ble_eq_true rfl) dX3_findSparing_14 hd1 (Nat.le_refl 0) (Nat.le_refl 0) hc1 (fun r1 μ2 hZ1 => ?_)
  replace h := h1 _ _ hZ1
  clear h1 hc1 hd1 hZ1 Z1 d1
  obtain ⟨y3, rfl, h⟩ := h
  refine r_istore g [(6, .int y3), (0, .ref a0), (1, .ref a1), (2, .int x2), (3, .int x3), (4, .int x4), (5, .int x5)] dX3_findSparing_17 (by decide) rfl ?_
  refine r_aload_n g dX3_findSparing_19 rfl ?_
  refine r_iconst g 0 dX3_findSparing_20 (by decide) ?_
  obtain ⟨hs_a0_, h⟩ := h
  refine r_putI g fX3_41 rfl hs_a0_ (by decide) (by decide) dX3_findSparing_21 ?_
  refine r_iload g dX3_findSparing_24 rfl ?_
  obtain ⟨hb4, h⟩ := h
  exact hr.2.1 _ rfl _ _ _ _ _ _ dX3_findSparing_26 hb4 (Nat.le_refl 0) (Nat.le_refl 0) h
theorem I_X3_findSparing {d : Nat} {ro : Nat → Nat} {Z : Option Value → Hp → Prop} {μ : Hp} {a0 : Nat} {a1 : Nat} {x2 : Int32} {x3 : Int32} {x4 : Int32} {x5 : Int32} (h : ∀ J, xCtx RX3 cX3_findSparing 7 d 0 0 yX3_findSparing.name ro J → xRet cX3_findSparing (some .boolean) 0 0 Z J → J μ 0 0 0 [(0, .ref a0), (1, .ref a1), (2, .int x2), (3, .int x3), (4, .int x4), (5, .int x5)] []) : xC d yX3_findSparing cX3_findSparing 7 (some .boolean) 0 0 [.ref a0, .ref a1, .int x2, .int x3, .int x4, .int x5] μ ro Z :=
  xC_intro (own := RX3) (lv := [(0, .ref a0), (1, .ref a1), (2, .int x2), (3, .int x3), (4, .int x4), (5, .int x5)]) (by decide) rfl (Nat.le_of_ble_eq_true rfl) rfl (fun J g hr => r_sub g (lv' := [(0, .ref a0), (1, .ref a1), (2, .int x2), (3, .int x3), (4, .int x4), (5, .int x5)]) (⟨rfl, rfl, rfl, rfl, rfl, rfl, trivial⟩) (h J g hr))
theorem dX3_judgeHops_0 : decode cX3_judgeHops 0 = .ok (.iconst 0, 1) := by decide +kernel
theorem dX3_judgeHops_1 : decode cX3_judgeHops 1 = .ok (.istore 4, 2) := by decide +kernel
theorem dX3_judgeHops_3 : decode cX3_judgeHops 3 = .ok (.iload 4, 2) := by decide +kernel
theorem dX3_judgeHops_5 : decode cX3_judgeHops 5 = .ok (.aload_n 0, 1) := by decide +kernel
theorem dX3_judgeHops_6 : decode cX3_judgeHops 6 = .ok (.getfield 22, 3) := by decide +kernel
theorem dX3_judgeHops_9 : decode cX3_judgeHops 9 = .ok (.arraylength, 1) := by decide +kernel
theorem dX3_judgeHops_10 : decode cX3_judgeHops 10 = .ok (.if_icmp .ge 17, 3) := by decide +kernel
theorem dX3_judgeHops_13 : decode cX3_judgeHops 13 = .ok (.aload_n 0, 1) := by decide +kernel
theorem dX3_judgeHops_14 : decode cX3_judgeHops 14 = .ok (.getfield 22, 3) := by decide +kernel
theorem dX3_judgeHops_17 : decode cX3_judgeHops 17 = .ok (.iload 4, 2) := by decide +kernel
theorem dX3_judgeHops_19 : decode cX3_judgeHops 19 = .ok (.iconst (-1), 1) := by decide +kernel
theorem dX3_judgeHops_20 : decode cX3_judgeHops 20 = .ok (.iastore, 1) := by decide +kernel
theorem dX3_judgeHops_21 : decode cX3_judgeHops 21 = .ok (.iinc 4 1, 3) := by decide +kernel
theorem dX3_judgeHops_24 : decode cX3_judgeHops 24 = .ok (.goto (-21), 3) := by decide +kernel
theorem dX3_judgeHops_27 : decode cX3_judgeHops 27 = .ok (.iconst 0, 1) := by decide +kernel
theorem dX3_judgeHops_28 : decode cX3_judgeHops 28 = .ok (.istore 4, 2) := by decide +kernel
theorem dX3_judgeHops_30 : decode cX3_judgeHops 30 = .ok (.iload 4, 2) := by decide +kernel
theorem dX3_judgeHops_32 : decode cX3_judgeHops 32 = .ok (.aload_n 1, 1) := by decide +kernel
theorem dX3_judgeHops_33 : decode cX3_judgeHops 33 = .ok (.getfield 64, 3) := by decide +kernel
theorem dX3_judgeHops_36 : decode cX3_judgeHops 36 = .ok (.iconst 1, 1) := by decide +kernel
theorem dX3_judgeHops_37 : decode cX3_judgeHops 37 = .ok (.iaload, 1) := by decide +kernel
theorem dX3_judgeHops_38 : decode cX3_judgeHops 38 = .ok (.if_icmp .ge 121, 3) := by decide +kernel
theorem dX3_judgeHops_41 : decode cX3_judgeHops 41 = .ok (.aload_n 1, 1) := by decide +kernel
theorem dX3_judgeHops_42 : decode cX3_judgeHops 42 = .ok (.getfield 64, 3) := by decide +kernel
theorem dX3_judgeHops_45 : decode cX3_judgeHops 45 = .ok (.bipush 32, 2) := by decide +kernel
theorem dX3_judgeHops_47 : decode cX3_judgeHops 47 = .ok (.iload 4, 2) := by decide +kernel
theorem dX3_judgeHops_49 : decode cX3_judgeHops 49 = .ok (.iadd, 1) := by decide +kernel
theorem dX3_judgeHops_50 : decode cX3_judgeHops 50 = .ok (.iaload, 1) := by decide +kernel
theorem dX3_judgeHops_51 : decode cX3_judgeHops 51 = .ok (.iload_n 2, 1) := by decide +kernel
theorem dX3_judgeHops_52 : decode cX3_judgeHops 52 = .ok (.if_icmp .ne 101, 3) := by decide +kernel
theorem dX3_judgeHops_55 : decode cX3_judgeHops 55 = .ok (.aload_n 1, 1) := by decide +kernel
theorem dX3_judgeHops_56 : decode cX3_judgeHops 56 = .ok (.getfield 64, 3) := by decide +kernel
theorem dX3_judgeHops_59 : decode cX3_judgeHops 59 = .ok (.bipush 96, 2) := by decide +kernel
theorem dX3_judgeHops_61 : decode cX3_judgeHops 61 = .ok (.iload 4, 2) := by decide +kernel
theorem dX3_judgeHops_63 : decode cX3_judgeHops 63 = .ok (.iadd, 1) := by decide +kernel
theorem dX3_judgeHops_64 : decode cX3_judgeHops 64 = .ok (.iaload, 1) := by decide +kernel
theorem dX3_judgeHops_65 : decode cX3_judgeHops 65 = .ok (.aload_n 1, 1) := by decide +kernel
theorem dX3_judgeHops_66 : decode cX3_judgeHops 66 = .ok (.getfield 64, 3) := by decide +kernel
theorem dX3_judgeHops_69 : decode cX3_judgeHops 69 = .ok (.iconst 0, 1) := by decide +kernel
theorem dX3_judgeHops_70 : decode cX3_judgeHops 70 = .ok (.iaload, 1) := by decide +kernel
theorem dX3_judgeHops_71 : decode cX3_judgeHops 71 = .ok (.if_icmp .gt 82, 3) := by decide +kernel
theorem dX3_judgeHops_74 : decode cX3_judgeHops 74 = .ok (.aload_n 1, 1) := by decide +kernel
theorem dX3_judgeHops_75 : decode cX3_judgeHops 75 = .ok (.getfield 64, 3) := by decide +kernel
theorem dX3_judgeHops_78 : decode cX3_judgeHops 78 = .ok (.bipush 64, 2) := by decide +kernel
theorem dX3_judgeHops_80 : decode cX3_judgeHops 80 = .ok (.iload 4, 2) := by decide +kernel
theorem dX3_judgeHops_82 : decode cX3_judgeHops 82 = .ok (.iadd, 1) := by decide +kernel
theorem dX3_judgeHops_83 : decode cX3_judgeHops 83 = .ok (.iaload, 1) := by decide +kernel
theorem dX3_judgeHops_84 : decode cX3_judgeHops 84 = .ok (.bipush 8, 2) := by decide +kernel
theorem dX3_judgeHops_86 : decode cX3_judgeHops 86 = .ok (.imul, 1) := by decide +kernel
theorem dX3_judgeHops_87 : decode cX3_judgeHops 87 = .ok (.aload_n 1, 1) := by decide +kernel
theorem dX3_judgeHops_88 : decode cX3_judgeHops 88 = .ok (.getfield 64, 3) := by decide +kernel
theorem dX3_judgeHops_91 : decode cX3_judgeHops 91 = .ok (.bipush 48, 2) := by decide +kernel
theorem dX3_judgeHops_93 : decode cX3_judgeHops 93 = .ok (.iload 4, 2) := by decide +kernel
theorem dX3_judgeHops_95 : decode cX3_judgeHops 95 = .ok (.iadd, 1) := by decide +kernel
theorem dX3_judgeHops_96 : decode cX3_judgeHops 96 = .ok (.iaload, 1) := by decide +kernel
theorem dX3_judgeHops_97 : decode cX3_judgeHops 97 = .ok (.iadd, 1) := by decide +kernel
theorem dX3_judgeHops_98 : decode cX3_judgeHops 98 = .ok (.istore 5, 2) := by decide +kernel
theorem dX3_judgeHops_100 : decode cX3_judgeHops 100 = .ok (.aload_n 0, 1) := by decide +kernel
theorem dX3_judgeHops_101 : decode cX3_judgeHops 101 = .ok (.getfield 22, 3) := by decide +kernel
theorem dX3_judgeHops_104 : decode cX3_judgeHops 104 = .ok (.iload 5, 2) := by decide +kernel
theorem dX3_judgeHops_106 : decode cX3_judgeHops 106 = .ok (.iload 4, 2) := by decide +kernel
theorem dX3_judgeHops_108 : decode cX3_judgeHops 108 = .ok (.iastore, 1) := by decide +kernel
theorem dX3_judgeHops_109 : decode cX3_judgeHops 109 = .ok (.aload_n 0, 1) := by decide +kernel
theorem dX3_judgeHops_110 : decode cX3_judgeHops 110 = .ok (.getfield 29, 3) := by decide +kernel
theorem dX3_judgeHops_113 : decode cX3_judgeHops 113 = .ok (.iload 5, 2) := by decide +kernel
theorem dX3_judgeHops_115 : decode cX3_judgeHops 115 = .ok (.aload_n 0, 1) := by decide +kernel
theorem dX3_judgeHops_116 : decode cX3_judgeHops 116 = .ok (.aload_n 1, 1) := by decide +kernel
theorem dX3_judgeHops_117 : decode cX3_judgeHops 117 = .ok (.iload 4, 2) := by decide +kernel
theorem dX3_judgeHops_119 : decode cX3_judgeHops 119 = .ok (.aload_n 1, 1) := by decide +kernel
theorem dX3_judgeHops_120 : decode cX3_judgeHops 120 = .ok (.getfield 69, 3) := by decide +kernel
theorem dX3_judgeHops_123 : decode cX3_judgeHops 123 = .ok (.getfield 73, 3) := by decide +kernel
theorem dX3_judgeHops_126 : decode cX3_judgeHops 126 = .ok (.iload_n 3, 1) := by decide +kernel
theorem dX3_judgeHops_127 : decode cX3_judgeHops 127 = .ok (.iaload, 1) := by decide +kernel
theorem dX3_judgeHops_128 : decode cX3_judgeHops 128 = .ok (.invokevirtual 78, 3) := by decide +kernel
theorem dX3_judgeHops_131 : decode cX3_judgeHops 131 = .ok (.iastore, 1) := by decide +kernel
theorem dX3_judgeHops_132 : decode cX3_judgeHops 132 = .ok (.aload_n 0, 1) := by decide +kernel
theorem dX3_judgeHops_133 : decode cX3_judgeHops 133 = .ok (.getfield 26, 3) := by decide +kernel
theorem dX3_judgeHops_136 : decode cX3_judgeHops 136 = .ok (.iload 5, 2) := by decide +kernel
theorem dX3_judgeHops_138 : decode cX3_judgeHops 138 = .ok (.aload_n 0, 1) := by decide +kernel
theorem dX3_judgeHops_139 : decode cX3_judgeHops 139 = .ok (.aload_n 1, 1) := by decide +kernel
theorem dX3_judgeHops_140 : decode cX3_judgeHops 140 = .ok (.iload 4, 2) := by decide +kernel
theorem dX3_judgeHops_142 : decode cX3_judgeHops 142 = .ok (.aload_n 0, 1) := by decide +kernel
theorem dX3_judgeHops_143 : decode cX3_judgeHops 143 = .ok (.getfield 29, 3) := by decide +kernel
theorem dX3_judgeHops_146 : decode cX3_judgeHops 146 = .ok (.iload 5, 2) := by decide +kernel
theorem dX3_judgeHops_148 : decode cX3_judgeHops 148 = .ok (.iaload, 1) := by decide +kernel
theorem dX3_judgeHops_149 : decode cX3_judgeHops 149 = .ok (.invokevirtual 82, 3) := by decide +kernel
theorem dX3_judgeHops_152 : decode cX3_judgeHops 152 = .ok (.iastore, 1) := by decide +kernel
theorem dX3_judgeHops_153 : decode cX3_judgeHops 153 = .ok (.iinc 4 1, 3) := by decide +kernel
theorem dX3_judgeHops_156 : decode cX3_judgeHops 156 = .ok (.goto (-126), 3) := by decide +kernel
theorem dX3_judgeHops_159 : decode cX3_judgeHops 159 = .ok (.return_, 1) := by decide +kernel
set_option maxHeartbeats 4000000 in
set_option maxRecDepth 100000 in
theorem B_X3_judgeHops_0 {d : Nat} {ro : Nat → Nat} {J : JT} {Z : Option Value → Hp → Prop} (g : xCtx RX3 cX3_judgeHops 6 d 0 0 yX3_judgeHops.name ro J) (hr : xRet cX3_judgeHops none 0 0 Z J) {μ : Hp} {a0 : Nat} {a1 : Nat} {x2 : Int32} {x3 : Int32} 
    (h : J μ 0 0 3 [(0, .ref a0), (1, .ref a1), (2, .int x2), (3, .int x3), (4, .int 0)] []) :
    J μ 0 0 0 [(0, .ref a0), (1, .ref a1), (2, .int x2), (3, .int x3)] [] := by
  refine r_iconst g 0 dX3_judgeHops_0 (by decide) ?_
  refine r_istore g [(4, .int 0), (0, .ref a0), (1, .ref a1), (2, .int x2), (3, .int x3)] dX3_judgeHops_1 (by decide) rfl ?_
  refine r_sub g (lv' := [(0, .ref a0), (1, .ref a1), (2, .int x2), (3, .int x3), (4, .int 0)]) (⟨rfl, rfl, rfl, rfl, rfl, trivial⟩) ?_
  exact h
set_option maxHeartbeats 4000000 in
set_option maxRecDepth 100000 in
theorem B_X3_judgeHops_3 {d : Nat} {ro : Nat → Nat} {J : JT} {Z : Option Value → Hp → Prop} (g : xCtx RX3 cX3_judgeHops 6 d 0 0 yX3_judgeHops.name ro J) (hr : xRet cX3_judgeHops none 0 0 Z J) {μ : Hp} {a0 : Nat} {a1 : Nat} {x2 : Int32} {x3 : Int32} {x4 : Int32} {a0_linkAt : Nat} {N_a0_linkAt : Nat} (hs_a0 : hS μ a0 = some (7, 9)) (hr_a0_linkAt : hR μ a0 2 = some a0_linkAt) (hs_a0_linkAt : hS μ a0_linkAt = some (0, N_a0_linkAt))
    (h : (((Int32.ofNat N_a0_linkAt) ≤ x4 → J μ 0 0 30 [(0, .ref a0), (1, .ref a1), (2, .int x2), (3, .int x3), (4, .int 0)] []) ∧ (¬ (Int32.ofNat N_a0_linkAt) ≤ x4 → vp_in x4 N_a0_linkAt ∧ J (wI μ a0_linkAt x4.toNatClampNeg (-1)) 0 0 3 [(0, .ref a0), (1, .ref a1), (2, .int x2), (3, .int x3), (4, .int (x4 + 1))] []))) :
    J μ 0 0 3 [(0, .ref a0), (1, .ref a1), (2, .int x2), (3, .int x3), (4, .int x4)] [] := by
  refine r_iload g dX3_judgeHops_3 rfl ?_
  refine r_aload_n g dX3_judgeHops_5 rfl ?_
  refine r_getR g fX3_22 rfl hs_a0 hr_a0_linkAt dX3_judgeHops_6 ?_
  refine r_alenI g hs_a0_linkAt dX3_judgeHops_9 ?_
  refine r_icmp_ge g 27 dX3_judgeHops_10 (by decide) (fun c1 => ?_) (fun c1 => ?_)
  · replace h := h.1 c1
    refine r_iconst g 0 dX3_judgeHops_27 (by decide) ?_
    refine r_istore g [(4, .int 0), (0, .ref a0), (1, .ref a1), (2, .int x2), (3, .int x3)] dX3_judgeHops_28 (by decide) rfl ?_
    refine r_sub g (lv' := [(0, .ref a0), (1, .ref a1), (2, .int x2), (3, .int x3), (4, .int 0)]) (⟨rfl, rfl, rfl, rfl, rfl, trivial⟩) ?_
    exact h
  · replace h := h.2 c1
    refine r_aload_n g dX3_judgeHops_13 rfl ?_
    refine r_getR g fX3_22 rfl hs_a0 hr_a0_linkAt dX3_judgeHops_14 ?_
    refine r_iload g dX3_judgeHops_17 rfl ?_
    refine r_iconst g (-1) dX3_judgeHops_19 (by decide) ?_
    obtain ⟨hi2, h⟩ := h
    refine r_iastore g hs_a0_linkAt hi2 dX3_judgeHops_20 ?_
    refine r_iinc g (x4 + 1) [(4, .int (x4 + 1)), (0, .ref a0), (1, .ref a1), (2, .int x2), (3, .int x3)] dX3_judgeHops_21 rfl rfl (by decide) rfl ?_
    refine r_goto g 3 dX3_judgeHops_24 (by decide) ?_
    refine r_sub g (lv' := [(0, .ref a0), (1, .ref a1), (2, .int x2), (3, .int x3), (4, .int (x4 + 1))]) (⟨rfl, rfl, rfl, rfl, rfl, trivial⟩) ?_
    exact h
set_option maxHeartbeats 4000000 in
set_option maxRecDepth 100000 in
theorem B_X3_judgeHops_30 {d : Nat} {ro : Nat → Nat} {J : JT} {Z : Option Value → Hp → Prop} (g : xCtx RX3 cX3_judgeHops 6 d 0 0 yX3_judgeHops.name ro J) (hr : xRet cX3_judgeHops none 0 0 Z J) {μ : Hp} {a0 : Nat} {a1 : Nat} {x2 : Int32} {x3 : Int32} {x4 : Int32} {a1_row : Nat} {N_a1_row : Nat} {a0_linkAt : Nat} {N_a0_linkAt : Nat} {a0_articleAt : Nat} {a1_book : Nat} {a1_book_landOf : Nat} {N_a1_book_landOf : Nat} (hs_a1 : hS μ a1 = some (12, 4)) (hr_a1_row : hR μ a1 0 = some a1_row) (hs_a1_row : hS μ a1_row = some (0, N_a1_row)) (hs_a0 : hS μ a0 = some (7, 9)) (hr_a0_linkAt : hR μ a0 2 = some a0_linkAt) (hs_a0_linkAt : hS μ a0_linkAt = some (0, N_a0_linkAt)) (hr_a0_articleAt : hR μ a0 4 = some a0_articleAt) (hr_a1_book : hR μ a1 1 = some a1_book) (hs_a1_book : hS μ a1_book = some (6, 9)) (hr_a1_book_landOf : hR μ a1_book 3 = some a1_book_landOf) (hs_a1_book_landOf : hS μ a1_book_landOf = some (0, N_a1_book_landOf))
    (h : vp_in 1 N_a1_row ∧ (((hI μ a1_row 1) ≤ x4 → Z none μ) ∧ (¬ (hI μ a1_row 1) ≤ x4 → vp_in (32 + x4) N_a1_row ∧ ((¬ (hI μ a1_row ((32 + x4).toNatClampNeg)) = x2 → J μ 0 0 30 [(0, .ref a0), (1, .ref a1), (2, .int x2), (3, .int x3), (4, .int (x4 + 1))] []) ∧ ((hI μ a1_row ((32 + x4).toNatClampNeg)) = x2 → vp_in (96 + x4) N_a1_row ∧ vp_in 0 N_a1_row ∧ (((hI μ a1_row 0) < (hI μ a1_row ((96 + x4).toNatClampNeg)) → J μ 0 0 30 [(0, .ref a0), (1, .ref a1), (2, .int x2), (3, .int x3), (4, .int (x4 + 1))] []) ∧ (¬ (hI μ a1_row 0) < (hI μ a1_row ((96 + x4).toNatClampNeg)) → vp_in (64 + x4) N_a1_row ∧ vp_in (48 + x4) N_a1_row ∧ (∀ v10 : Int32, v10 = (((hI μ a1_row ((64 + x4).toNatClampNeg)) * 8) + (hI μ a1_row ((48 + x4).toNatClampNeg))) → vp_in v10 N_a0_linkAt ∧ vp_in x3 N_a1_book_landOf ∧ (∀ v13 : Int32, v13 = (hI (wI μ a0_linkAt v10.toNatClampNeg x4) a1_book_landOf x3.toNatClampNeg) → xCall d yX3_articleOf cX3_articleOf 11 (some .int) [.ref a0, .ref a1, .int x4, .int v13] (wI μ a0_linkAt v10.toNatClampNeg x4) ro (fun r14 μ15 => ∃ y16 : Int32, r14 = some (.int y16) ∧ ∃ N17 : Nat, hS μ15 a0_articleAt = some (0, N17) ∧ vp_in v10 N17 ∧ hS μ15 a0 = some (7, 9) ∧ ∃ rateAt_19 : Nat, hR μ15 a0 3 = some rateAt_19 ∧ ∃ articleAt_20 : Nat, hR μ15 a0 4 = some articleAt_20 ∧ ∃ N21 : Nat, hS μ15 articleAt_20 = some (0, N21) ∧ vp_in v10 N21 ∧ (∀ v23 : Int32, v23 = (hI (wI μ15 a0_articleAt v10.toNatClampNeg y16) articleAt_20 v10.toNatClampNeg) → xCall d yX3_rateOf cX3_rateOf 8 (some .int) [.ref a0, .ref a1, .int x4, .int v23] (wI μ15 a0_articleAt v10.toNatClampNeg y16) ro (fun r24 μ25 => ∃ y26 : Int32, r24 = some (.int y26) ∧ ∃ N27 : Nat, hS μ25 rateAt_19 = some (0, N27) ∧ vp_in v10 N27 ∧ J (wI μ25 rateAt_19 v10.toNatClampNeg y26) 0 0 30 [(0, .ref a0), (1, .ref a1), (2, .int x2), (3, .int x3), (4, .int (x4 + 1))] [])))))))))))) :
    J μ 0 0 30 [(0, .ref a0), (1, .ref a1), (2, .int x2), (3, .int x3), (4, .int x4)] [] := by
  refine r_iload g dX3_judgeHops_30 rfl ?_
  refine r_aload_n g dX3_judgeHops_32 rfl ?_
  refine r_getR g fX3_64 rfl hs_a1 hr_a1_row dX3_judgeHops_33 ?_
  refine r_iconst g 1 dX3_judgeHops_36 (by decide) ?_
  obtain ⟨hi1, h⟩ := h
  refine r_iaload g hs_a1_row hi1 dX3_judgeHops_37 ?_
  refine r_icmp_ge g 159 dX3_judgeHops_38 (by decide) (fun c2 => ?_) (fun c2 => ?_)
  · replace h := h.1 c2
    exact hr.1 rfl _ _ _ _ _ dX3_judgeHops_159 (Nat.le_refl 0) (Nat.le_refl 0) h
  · replace h := h.2 c2
    refine r_aload_n g dX3_judgeHops_41 rfl ?_
    refine r_getR g fX3_64 rfl hs_a1 hr_a1_row dX3_judgeHops_42 ?_
    refine r_bipush g 32 dX3_judgeHops_45 (by decide) ?_
    refine r_iload g dX3_judgeHops_47 rfl ?_
    refine r_iadd g dX3_judgeHops_49 ?_
    obtain ⟨hi3, h⟩ := h
    refine r_iaload g hs_a1_row hi3 dX3_judgeHops_50 ?_
    refine r_iload_n g dX3_judgeHops_51 rfl ?_
    refine r_icmp_ne g 153 dX3_judgeHops_52 (by decide) (fun c4 => ?_) (fun c4 => ?_)
    · replace h := h.1 c4
      refine r_iinc g (x4 + 1) [(4, .int (x4 + 1)), (0, .ref a0), (1, .ref a1), (2, .int x2), (3, .int x3)] dX3_judgeHops_153 rfl rfl (by decide) rfl ?_
      refine r_goto g 30 dX3_judgeHops_156 (by decide) ?_
      refine r_sub g (lv' := [(0, .ref a0), (1, .ref a1), (2, .int x2), (3, .int x3), (4, .int (x4 + 1))]) (⟨rfl, rfl, rfl, rfl, rfl, trivial⟩) ?_
      exact h
    · replace h := h.2 c4
      refine r_aload_n g dX3_judgeHops_55 rfl ?_
      refine r_getR g fX3_64 rfl hs_a1 hr_a1_row dX3_judgeHops_56 ?_
      refine r_bipush g 96 dX3_judgeHops_59 (by decide) ?_
      refine r_iload g dX3_judgeHops_61 rfl ?_
      refine r_iadd g dX3_judgeHops_63 ?_
      obtain ⟨hi5, h⟩ := h
      refine r_iaload g hs_a1_row hi5 dX3_judgeHops_64 ?_
      refine r_aload_n g dX3_judgeHops_65 rfl ?_
      refine r_getR g fX3_64 rfl hs_a1 hr_a1_row dX3_judgeHops_66 ?_
      refine r_iconst g 0 dX3_judgeHops_69 (by decide) ?_
      obtain ⟨hi6, h⟩ := h
      refine r_iaload g hs_a1_row hi6 dX3_judgeHops_70 ?_
      refine r_icmp_gt g 153 dX3_judgeHops_71 (by decide) (fun c7 => ?_) (fun c7 => ?_)
      · replace h := h.1 c7
        refine r_iinc g (x4 + 1) [(4, .int (x4 + 1)), (0, .ref a0), (1, .ref a1), (2, .int x2), (3, .int x3)] dX3_judgeHops_153 rfl rfl (by decide) rfl ?_
        refine r_goto g 30 dX3_judgeHops_156 (by decide) ?_
        refine r_sub g (lv' := [(0, .ref a0), (1, .ref a1), (2, .int x2), (3, .int x3), (4, .int (x4 + 1))]) (⟨rfl, rfl, rfl, rfl, rfl, trivial⟩) ?_
        exact h
      · replace h := h.2 c7
        refine r_aload_n g dX3_judgeHops_74 rfl ?_
        refine r_getR g fX3_64 rfl hs_a1 hr_a1_row dX3_judgeHops_75 ?_
        refine r_bipush g 64 dX3_judgeHops_78 (by decide) ?_
        refine r_iload g dX3_judgeHops_80 rfl ?_
        refine r_iadd g dX3_judgeHops_82 ?_
        obtain ⟨hi8, h⟩ := h
        refine r_iaload g hs_a1_row hi8 dX3_judgeHops_83 ?_
        refine r_bipush g 8 dX3_judgeHops_84 (by decide) ?_
        refine r_imul g dX3_judgeHops_86 ?_
        refine r_aload_n g dX3_judgeHops_87 rfl ?_
        refine r_getR g fX3_64 rfl hs_a1 hr_a1_row dX3_judgeHops_88 ?_
        refine r_bipush g 48 dX3_judgeHops_91 (by decide) ?_
        refine r_iload g dX3_judgeHops_93 rfl ?_
        refine r_iadd g dX3_judgeHops_95 ?_
        obtain ⟨hi9, h⟩ := h
        refine r_iaload g hs_a1_row hi9 dX3_judgeHops_96 ?_
        refine r_iadd g dX3_judgeHops_97 ?_
        refine r_nmI (fun v10 ev10 => ?_)
        replace h := h v10 ev10
        refine r_istore g [(5, .int v10), (0, .ref a0), (1, .ref a1), (2, .int x2), (3, .int x3), (4, .int x4)] dX3_judgeHops_98 (by decide) rfl ?_
        refine r_aload_n g dX3_judgeHops_100 rfl ?_
        refine r_getR g fX3_22 rfl hs_a0 hr_a0_linkAt dX3_judgeHops_101 ?_
        refine r_iload g dX3_judgeHops_104 rfl ?_
        refine r_iload g dX3_judgeHops_106 rfl ?_
        obtain ⟨hi11, h⟩ := h
        refine r_iastore g hs_a0_linkAt hi11 dX3_judgeHops_108 ?_
        refine r_aload_n g dX3_judgeHops_109 rfl ?_
        refine r_getR g fX3_29 rfl hs_a0 hr_a0_articleAt dX3_judgeHops_110 ?_
        refine r_iload g dX3_judgeHops_113 rfl ?_
        refine r_aload_n g dX3_judgeHops_115 rfl ?_
        refine r_aload_n g dX3_judgeHops_116 rfl ?_
        refine r_iload g dX3_judgeHops_117 rfl ?_
        refine r_aload_n g dX3_judgeHops_119 rfl ?_
        refine r_getR g fX3_69 rfl hs_a1 hr_a1_book dX3_judgeHops_120 ?_
        refine r_getR g fX3_73 rfl hs_a1_book hr_a1_book_landOf dX3_judgeHops_123 ?_
        refine r_iload_n g dX3_judgeHops_126 rfl ?_
        obtain ⟨hi12, h⟩ := h
        refine r_iaload g hs_a1_book_landOf hi12 dX3_judgeHops_127 ?_
        refine r_nmI (fun v13 ev13 => ?_)
        replace h := h v13 ev13
        obtain ⟨d1, Z1, hc1, hd1, h1⟩ := h
        refine r_callV (st := [.int v10, .ref a0_articleAt]) (As := [.ref a1, .int x4, .int v13]) g sX3_78 iX3_articleOf eX3_articleOf rfl hs_a0 rfl (Nat.le_of_ble_eq_true rfl) dX3_judgeHops_128 hd1 (Nat.le_refl 0) (Nat.le_refl 0) hc1 (fun r14 μ15 hZ1 => ?_)
        replace h := h1 _ _ hZ1
        clear h1 hc1 hd1 hZ1 Z1 d1
        obtain ⟨y16, rfl, h⟩ := h
        obtain ⟨N17, hs_a0_articleAt, h⟩ := h
        obtain ⟨hi18, h⟩ := h
        refine r_iastore g hs_a0_articleAt hi18 dX3_judgeHops_131 ?_
        refine r_aload_n g dX3_judgeHops_132 rfl ?_
        obtain ⟨hs_a0_, h⟩ := h
        obtain ⟨rateAt_19, hr_rateAt_19, h⟩ := h
        refine r_getR g fX3_26 rfl hs_a0_ hr_rateAt_19 dX3_judgeHops_133 ?_
        refine r_iload g dX3_judgeHops_136 rfl ?_
        refine r_aload_n g dX3_judgeHops_138 rfl ?_
        refine r_aload_n g dX3_judgeHops_139 rfl ?_
        refine r_iload g dX3_judgeHops_140 rfl ?_
        refine r_aload_n g dX3_judgeHops_142 rfl ?_
        obtain ⟨articleAt_20, hr_articleAt_20, h⟩ := h
        refine r_getR g fX3_29 rfl hs_a0_ hr_articleAt_20 dX3_judgeHops_143 ?_
        refine r_iload g dX3_judgeHops_146 rfl ?_
        obtain ⟨N21, hs_articleAt_20, h⟩ := h
        obtain ⟨hi22, h⟩ := h
        refine r_iaload g hs_articleAt_20 hi22 dX3_judgeHops_148 ?_
        refine r_nmI (fun v23 ev23 => ?_)
        replace h := h v23 ev23
        obtain ⟨d1, Z1, hc1, hd1, h1⟩ := h
        refine r_callV (st := [.int v10, .ref rateAt_19]) (As := [.ref a1, .int x4, .int v23]) g sX3_82 iX3_rateOf eX3_rateOf rfl hs_a0_ rfl (Nat.le_of_ble_eq_true rfl) dX3_judgeHops_149 hd1 (Nat.le_refl 0) (Nat.le_refl 0) hc1 (fun r24 μ25 hZ1 => ?_)
        replace h := h1 _ _ hZ1
        clear h1 hc1 hd1 hZ1 Z1 d1
        obtain ⟨y26, rfl, h⟩ := h
        obtain ⟨N27, hs_rateAt_19, h⟩ := h
        obtain ⟨hi28, h⟩ := h
        refine r_iastore g hs_rateAt_19 hi28 dX3_judgeHops_152 ?_
        refine r_iinc g (x4 + 1) [(4, .int (x4 + 1)), (5, .int v10), (0, .ref a0), (1, .ref a1), (2, .int x2), (3, .int x3)] dX3_judgeHops_153 rfl rfl (by decide) rfl ?_
        refine r_goto g 30 dX3_judgeHops_156 (by decide) ?_
        refine r_sub g (lv' := [(0, .ref a0), (1, .ref a1), (2, .int x2), (3, .int x3), (4, .int (x4 + 1))]) (⟨rfl, rfl, rfl, rfl, rfl, trivial⟩) ?_
        exact h
theorem I_X3_judgeHops {d : Nat} {ro : Nat → Nat} {Z : Option Value → Hp → Prop} {μ : Hp} {a0 : Nat} {a1 : Nat} {x2 : Int32} {x3 : Int32} (h : ∀ J, xCtx RX3 cX3_judgeHops 6 d 0 0 yX3_judgeHops.name ro J → xRet cX3_judgeHops none 0 0 Z J → J μ 0 0 0 [(0, .ref a0), (1, .ref a1), (2, .int x2), (3, .int x3)] []) : xC d yX3_judgeHops cX3_judgeHops 6 none 0 0 [.ref a0, .ref a1, .int x2, .int x3] μ ro Z :=
  xC_intro (own := RX3) (lv := [(0, .ref a0), (1, .ref a1), (2, .int x2), (3, .int x3)]) (by decide) rfl (Nat.le_of_ble_eq_true rfl) rfl (fun J g hr => r_sub g (lv' := [(0, .ref a0), (1, .ref a1), (2, .int x2), (3, .int x3)]) (⟨rfl, rfl, rfl, rfl, trivial⟩) (h J g hr))
theorem dX3_findTreaties_0 : decode cX3_findTreaties 0 = .ok (.iconst 0, 1) := by decide +kernel
theorem dX3_findTreaties_1 : decode cX3_findTreaties 1 = .ok (.istore_n 2, 1) := by decide +kernel
theorem dX3_findTreaties_2 : decode cX3_findTreaties 2 = .ok (.iload_n 2, 1) := by decide +kernel
theorem dX3_findTreaties_3 : decode cX3_findTreaties 3 = .ok (.aload_n 1, 1) := by decide +kernel
theorem dX3_findTreaties_4 : decode cX3_findTreaties 4 = .ok (.getfield 69, 3) := by decide +kernel
theorem dX3_findTreaties_7 : decode cX3_findTreaties 7 = .ok (.getfield 85, 3) := by decide +kernel
theorem dX3_findTreaties_10 : decode cX3_findTreaties 10 = .ok (.if_icmp .ge 113, 3) := by decide +kernel
theorem dX3_findTreaties_13 : decode cX3_findTreaties 13 = .ok (.iconst 0, 1) := by decide +kernel
theorem dX3_findTreaties_14 : decode cX3_findTreaties 14 = .ok (.istore_n 3, 1) := by decide +kernel
theorem dX3_findTreaties_15 : decode cX3_findTreaties 15 = .ok (.iload_n 3, 1) := by decide +kernel
theorem dX3_findTreaties_16 : decode cX3_findTreaties 16 = .ok (.iload_n 2, 1) := by decide +kernel
theorem dX3_findTreaties_17 : decode cX3_findTreaties 17 = .ok (.if_icmp .ge 100, 3) := by decide +kernel
theorem dX3_findTreaties_20 : decode cX3_findTreaties 20 = .ok (.iload_n 2, 1) := by decide +kernel
theorem dX3_findTreaties_21 : decode cX3_findTreaties 21 = .ok (.aload_n 1, 1) := by decide +kernel
theorem dX3_findTreaties_22 : decode cX3_findTreaties 22 = .ok (.getfield 88, 3) := by decide +kernel
theorem dX3_findTreaties_25 : decode cX3_findTreaties 25 = .ok (.if_icmp .ne 11, 3) := by decide +kernel
theorem dX3_findTreaties_28 : decode cX3_findTreaties 28 = .ok (.iload_n 3, 1) := by decide +kernel
theorem dX3_findTreaties_29 : decode cX3_findTreaties 29 = .ok (.aload_n 1, 1) := by decide +kernel
theorem dX3_findTreaties_30 : decode cX3_findTreaties 30 = .ok (.getfield 91, 3) := by decide +kernel
theorem dX3_findTreaties_33 : decode cX3_findTreaties 33 = .ok (.if_icmp .eq 19, 3) := by decide +kernel
theorem dX3_findTreaties_36 : decode cX3_findTreaties 36 = .ok (.iload_n 2, 1) := by decide +kernel
theorem dX3_findTreaties_37 : decode cX3_findTreaties 37 = .ok (.aload_n 1, 1) := by decide +kernel
theorem dX3_findTreaties_38 : decode cX3_findTreaties 38 = .ok (.getfield 91, 3) := by decide +kernel
theorem dX3_findTreaties_41 : decode cX3_findTreaties 41 = .ok (.if_icmp .ne 15, 3) := by decide +kernel
theorem dX3_findTreaties_44 : decode cX3_findTreaties 44 = .ok (.iload_n 3, 1) := by decide +kernel
theorem dX3_findTreaties_45 : decode cX3_findTreaties 45 = .ok (.aload_n 1, 1) := by decide +kernel
theorem dX3_findTreaties_46 : decode cX3_findTreaties 46 = .ok (.getfield 88, 3) := by decide +kernel
theorem dX3_findTreaties_49 : decode cX3_findTreaties 49 = .ok (.if_icmp .ne 7, 3) := by decide +kernel
theorem dX3_findTreaties_52 : decode cX3_findTreaties 52 = .ok (.iconst 1, 1) := by decide +kernel
theorem dX3_findTreaties_53 : decode cX3_findTreaties 53 = .ok (.goto 4, 3) := by decide +kernel
theorem dX3_findTreaties_56 : decode cX3_findTreaties 56 = .ok (.iconst 0, 1) := by decide +kernel
theorem dX3_findTreaties_57 : decode cX3_findTreaties 57 = .ok (.istore 4, 2) := by decide +kernel
theorem dX3_findTreaties_59 : decode cX3_findTreaties 59 = .ok (.iload 4, 2) := by decide +kernel
theorem dX3_findTreaties_61 : decode cX3_findTreaties 61 = .ok (.ifCond .eq 7, 3) := by decide +kernel
theorem dX3_findTreaties_64 : decode cX3_findTreaties 64 = .ok (.iconst (-1), 1) := by decide +kernel
theorem dX3_findTreaties_65 : decode cX3_findTreaties 65 = .ok (.goto 18, 3) := by decide +kernel
theorem dX3_findTreaties_68 : decode cX3_findTreaties 68 = .ok (.aload_n 1, 1) := by decide +kernel
theorem dX3_findTreaties_69 : decode cX3_findTreaties 69 = .ok (.getfield 69, 3) := by decide +kernel
theorem dX3_findTreaties_72 : decode cX3_findTreaties 72 = .ok (.iload_n 2, 1) := by decide +kernel
theorem dX3_findTreaties_73 : decode cX3_findTreaties 73 = .ok (.iload_n 3, 1) := by decide +kernel
theorem dX3_findTreaties_74 : decode cX3_findTreaties 74 = .ok (.aload_n 1, 1) := by decide +kernel
theorem dX3_findTreaties_75 : decode cX3_findTreaties 75 = .ok (.getfield 64, 3) := by decide +kernel
theorem dX3_findTreaties_78 : decode cX3_findTreaties 78 = .ok (.iconst 0, 1) := by decide +kernel
theorem dX3_findTreaties_79 : decode cX3_findTreaties 79 = .ok (.iaload, 1) := by decide +kernel
theorem dX3_findTreaties_80 : decode cX3_findTreaties 80 = .ok (.invokevirtual 94, 3) := by decide +kernel
theorem dX3_findTreaties_83 : decode cX3_findTreaties 83 = .ok (.istore 5, 2) := by decide +kernel
theorem dX3_findTreaties_85 : decode cX3_findTreaties 85 = .ok (.aload_n 0, 1) := by decide +kernel
theorem dX3_findTreaties_86 : decode cX3_findTreaties 86 = .ok (.getfield 32, 3) := by decide +kernel
theorem dX3_findTreaties_89 : decode cX3_findTreaties 89 = .ok (.iload_n 2, 1) := by decide +kernel
theorem dX3_findTreaties_90 : decode cX3_findTreaties 90 = .ok (.bipush 6, 2) := by decide +kernel
theorem dX3_findTreaties_92 : decode cX3_findTreaties 92 = .ok (.imul, 1) := by decide +kernel
theorem dX3_findTreaties_93 : decode cX3_findTreaties 93 = .ok (.iload_n 3, 1) := by decide +kernel
theorem dX3_findTreaties_94 : decode cX3_findTreaties 94 = .ok (.iadd, 1) := by decide +kernel
theorem dX3_findTreaties_95 : decode cX3_findTreaties 95 = .ok (.iload 5, 2) := by decide +kernel
theorem dX3_findTreaties_97 : decode cX3_findTreaties 97 = .ok (.iastore, 1) := by decide +kernel
theorem dX3_findTreaties_98 : decode cX3_findTreaties 98 = .ok (.aload_n 0, 1) := by decide +kernel
theorem dX3_findTreaties_99 : decode cX3_findTreaties 99 = .ok (.getfield 32, 3) := by decide +kernel
theorem dX3_findTreaties_102 : decode cX3_findTreaties 102 = .ok (.iload_n 3, 1) := by decide +kernel
theorem dX3_findTreaties_103 : decode cX3_findTreaties 103 = .ok (.bipush 6, 2) := by decide +kernel
theorem dX3_findTreaties_105 : decode cX3_findTreaties 105 = .ok (.imul, 1) := by decide +kernel
theorem dX3_findTreaties_106 : decode cX3_findTreaties 106 = .ok (.iload_n 2, 1) := by decide +kernel
theorem dX3_findTreaties_107 : decode cX3_findTreaties 107 = .ok (.iadd, 1) := by decide +kernel
theorem dX3_findTreaties_108 : decode cX3_findTreaties 108 = .ok (.iload 5, 2) := by decide +kernel
theorem dX3_findTreaties_110 : decode cX3_findTreaties 110 = .ok (.iastore, 1) := by decide +kernel
theorem dX3_findTreaties_111 : decode cX3_findTreaties 111 = .ok (.iinc 3 1, 3) := by decide +kernel
theorem dX3_findTreaties_114 : decode cX3_findTreaties 114 = .ok (.goto (-99), 3) := by decide +kernel
theorem dX3_findTreaties_117 : decode cX3_findTreaties 117 = .ok (.iinc 2 1, 3) := by decide +kernel
theorem dX3_findTreaties_120 : decode cX3_findTreaties 120 = .ok (.goto (-118), 3) := by decide +kernel
theorem dX3_findTreaties_123 : decode cX3_findTreaties 123 = .ok (.return_, 1) := by decide +kernel
set_option maxHeartbeats 4000000 in
set_option maxRecDepth 100000 in
theorem B_X3_findTreaties_0 {d : Nat} {ro : Nat → Nat} {J : JT} {Z : Option Value → Hp → Prop} (g : xCtx RX3 cX3_findTreaties 6 d 0 0 yX3_findTreaties.name ro J) (hr : xRet cX3_findTreaties none 0 0 Z J) {μ : Hp} {a0 : Nat} {a1 : Nat} 
    (h : J μ 0 0 2 [(0, .ref a0), (1, .ref a1), (2, .int 0)] []) :
    J μ 0 0 0 [(0, .ref a0), (1, .ref a1)] [] := by
  refine r_iconst g 0 dX3_findTreaties_0 (by decide) ?_
  refine r_istore_n g [(2, .int 0), (0, .ref a0), (1, .ref a1)] dX3_findTreaties_1 (by decide) rfl ?_
  refine r_sub g (lv' := [(0, .ref a0), (1, .ref a1), (2, .int 0)]) (⟨rfl, rfl, rfl, trivial⟩) ?_
  exact h
set_option maxHeartbeats 4000000 in
set_option maxRecDepth 100000 in
theorem B_X3_findTreaties_2 {d : Nat} {ro : Nat → Nat} {J : JT} {Z : Option Value → Hp → Prop} (g : xCtx RX3 cX3_findTreaties 6 d 0 0 yX3_findTreaties.name ro J) (hr : xRet cX3_findTreaties none 0 0 Z J) {μ : Hp} {a0 : Nat} {a1 : Nat} {x2 : Int32} {a1_book : Nat} (hs_a1 : hS μ a1 = some (12, 4)) (hr_a1_book : hR μ a1 1 = some a1_book) (hs_a1_book : hS μ a1_book = some (6, 9))
    (h : (((hI μ a1_book 5) ≤ x2 → Z none μ) ∧ (¬ (hI μ a1_book 5) ≤ x2 → J μ 0 0 15 [(0, .ref a0), (1, .ref a1), (2, .int x2), (3, .int 0)] []))) :
    J μ 0 0 2 [(0, .ref a0), (1, .ref a1), (2, .int x2)] [] := by
  refine r_iload_n g dX3_findTreaties_2 rfl ?_
  refine r_aload_n g dX3_findTreaties_3 rfl ?_
  refine r_getR g fX3_69 rfl hs_a1 hr_a1_book dX3_findTreaties_4 ?_
  refine r_getI g fX3_85 rfl hs_a1_book dX3_findTreaties_7 ?_
  refine r_icmp_ge g 123 dX3_findTreaties_10 (by decide) (fun c1 => ?_) (fun c1 => ?_)
  · replace h := h.1 c1
    exact hr.1 rfl _ _ _ _ _ dX3_findTreaties_123 (Nat.le_refl 0) (Nat.le_refl 0) h
  · replace h := h.2 c1
    refine r_iconst g 0 dX3_findTreaties_13 (by decide) ?_
    refine r_istore_n g [(3, .int 0), (0, .ref a0), (1, .ref a1), (2, .int x2)] dX3_findTreaties_14 (by decide) rfl ?_
    refine r_sub g (lv' := [(0, .ref a0), (1, .ref a1), (2, .int x2), (3, .int 0)]) (⟨rfl, rfl, rfl, rfl, trivial⟩) ?_
    exact h
set_option maxHeartbeats 4000000 in
set_option maxRecDepth 100000 in
theorem B_X3_findTreaties_15 {d : Nat} {ro : Nat → Nat} {J : JT} {Z : Option Value → Hp → Prop} (g : xCtx RX3 cX3_findTreaties 6 d 0 0 yX3_findTreaties.name ro J) (hr : xRet cX3_findTreaties none 0 0 Z J) {μ : Hp} {a0 : Nat} {a1 : Nat} {x2 : Int32} {x3 : Int32} (hs_a1 : hS μ a1 = some (12, 4))
    (h : ((x2 ≤ x3 → J μ 0 0 2 [(0, .ref a0), (1, .ref a1), (2, .int (x2 + 1))] []) ∧ (¬ x2 ≤ x3 → ((¬ x2 = (hI μ a1 2) → J μ 0 0 36 [(0, .ref a0), (1, .ref a1), (2, .int x2), (3, .int x3)] []) ∧ (x2 = (hI μ a1 2) → ((x3 = (hI μ a1 3) → J μ 0 0 52 [(0, .ref a0), (1, .ref a1), (2, .int x2), (3, .int x3)] []) ∧ (¬ x3 = (hI μ a1 3) → J μ 0 0 36 [(0, .ref a0), (1, .ref a1), (2, .int x2), (3, .int x3)] []))))))) :
    J μ 0 0 15 [(0, .ref a0), (1, .ref a1), (2, .int x2), (3, .int x3)] [] := by
  refine r_iload_n g dX3_findTreaties_15 rfl ?_
  refine r_iload_n g dX3_findTreaties_16 rfl ?_
  refine r_icmp_ge g 117 dX3_findTreaties_17 (by decide) (fun c1 => ?_) (fun c1 => ?_)
  · replace h := h.1 c1
    refine r_iinc g (x2 + 1) [(2, .int (x2 + 1)), (0, .ref a0), (1, .ref a1), (3, .int x3)] dX3_findTreaties_117 rfl rfl (by decide) rfl ?_
    refine r_goto g 2 dX3_findTreaties_120 (by decide) ?_
    refine r_sub g (lv' := [(0, .ref a0), (1, .ref a1), (2, .int (x2 + 1))]) (⟨rfl, rfl, rfl, trivial⟩) ?_
    exact h
  · replace h := h.2 c1
    refine r_iload_n g dX3_findTreaties_20 rfl ?_
    refine r_aload_n g dX3_findTreaties_21 rfl ?_
    refine r_getI g fX3_88 rfl hs_a1 dX3_findTreaties_22 ?_
    refine r_icmp_ne g 36 dX3_findTreaties_25 (by decide) (fun c2 => ?_) (fun c2 => ?_)
    · replace h := h.1 c2
      refine r_sub g (lv' := [(0, .ref a0), (1, .ref a1), (2, .int x2), (3, .int x3)]) (⟨rfl, rfl, rfl, rfl, trivial⟩) ?_
      exact h
    · replace h := h.2 c2
      refine r_iload_n g dX3_findTreaties_28 rfl ?_
      refine r_aload_n g dX3_findTreaties_29 rfl ?_
      refine r_getI g fX3_91 rfl hs_a1 dX3_findTreaties_30 ?_
      refine r_icmp_eq g 52 dX3_findTreaties_33 (by decide) (fun c3 => ?_) (fun c3 => ?_)
      · replace h := h.1 c3
        refine r_sub g (lv' := [(0, .ref a0), (1, .ref a1), (2, .int x2), (3, .int x3)]) (⟨rfl, rfl, rfl, rfl, trivial⟩) ?_
        exact h
      · replace h := h.2 c3
        refine r_sub g (lv' := [(0, .ref a0), (1, .ref a1), (2, .int x2), (3, .int x3)]) (⟨rfl, rfl, rfl, rfl, trivial⟩) ?_
        exact h
set_option maxHeartbeats 4000000 in
set_option maxRecDepth 100000 in
theorem B_X3_findTreaties_36 {d : Nat} {ro : Nat → Nat} {J : JT} {Z : Option Value → Hp → Prop} (g : xCtx RX3 cX3_findTreaties 6 d 0 0 yX3_findTreaties.name ro J) (hr : xRet cX3_findTreaties none 0 0 Z J) {μ : Hp} {a0 : Nat} {a1 : Nat} {x2 : Int32} {x3 : Int32} (hs_a1 : hS μ a1 = some (12, 4))
    (h : ((¬ x2 = (hI μ a1 3) → J μ 0 0 56 [(0, .ref a0), (1, .ref a1), (2, .int x2), (3, .int x3)] []) ∧ (x2 = (hI μ a1 3) → ((¬ x3 = (hI μ a1 2) → J μ 0 0 56 [(0, .ref a0), (1, .ref a1), (2, .int x2), (3, .int x3)] []) ∧ (x3 = (hI μ a1 2) → J μ 0 0 52 [(0, .ref a0), (1, .ref a1), (2, .int x2), (3, .int x3)] []))))) :
    J μ 0 0 36 [(0, .ref a0), (1, .ref a1), (2, .int x2), (3, .int x3)] [] := by
  refine r_iload_n g dX3_findTreaties_36 rfl ?_
  refine r_aload_n g dX3_findTreaties_37 rfl ?_
  refine r_getI g fX3_91 rfl hs_a1 dX3_findTreaties_38 ?_
  refine r_icmp_ne g 56 dX3_findTreaties_41 (by decide) (fun c1 => ?_) (fun c1 => ?_)
  · replace h := h.1 c1
    refine r_sub g (lv' := [(0, .ref a0), (1, .ref a1), (2, .int x2), (3, .int x3)]) (⟨rfl, rfl, rfl, rfl, trivial⟩) ?_
    exact h
  · replace h := h.2 c1
    refine r_iload_n g dX3_findTreaties_44 rfl ?_
    refine r_aload_n g dX3_findTreaties_45 rfl ?_
    refine r_getI g fX3_88 rfl hs_a1 dX3_findTreaties_46 ?_
    refine r_icmp_ne g 56 dX3_findTreaties_49 (by decide) (fun c2 => ?_) (fun c2 => ?_)
    · replace h := h.1 c2
      refine r_sub g (lv' := [(0, .ref a0), (1, .ref a1), (2, .int x2), (3, .int x3)]) (⟨rfl, rfl, rfl, rfl, trivial⟩) ?_
      exact h
    · replace h := h.2 c2
      refine r_sub g (lv' := [(0, .ref a0), (1, .ref a1), (2, .int x2), (3, .int x3)]) (⟨rfl, rfl, rfl, rfl, trivial⟩) ?_
      exact h
set_option maxHeartbeats 4000000 in
set_option maxRecDepth 100000 in
theorem B_X3_findTreaties_52 {d : Nat} {ro : Nat → Nat} {J : JT} {Z : Option Value → Hp → Prop} (g : xCtx RX3 cX3_findTreaties 6 d 0 0 yX3_findTreaties.name ro J) (hr : xRet cX3_findTreaties none 0 0 Z J) {μ : Hp} {a0 : Nat} {a1 : Nat} {x2 : Int32} {x3 : Int32} {a0_treatyAt : Nat} {N_a0_treatyAt : Nat} (hs_a0 : hS μ a0 = some (7, 9)) (hr_a0_treatyAt : hR μ a0 5 = some a0_treatyAt) (hs_a0_treatyAt : hS μ a0_treatyAt = some (0, N_a0_treatyAt))
    (h : vp_in ((x2 * 6) + x3) N_a0_treatyAt ∧ vp_in ((x3 * 6) + x2) N_a0_treatyAt ∧ J (wI (wI μ a0_treatyAt (((x2 * 6) + x3).toNatClampNeg) (-1)) a0_treatyAt (((x3 * 6) + x2).toNatClampNeg) (-1)) 0 0 15 [(0, .ref a0), (1, .ref a1), (2, .int x2), (3, .int (x3 + 1))] []) :
    J μ 0 0 52 [(0, .ref a0), (1, .ref a1), (2, .int x2), (3, .int x3)] [] := by
  refine r_iconst g 1 dX3_findTreaties_52 (by decide) ?_
  refine r_goto g 57 dX3_findTreaties_53 (by decide) ?_
  refine r_istore g [(4, .int 1), (0, .ref a0), (1, .ref a1), (2, .int x2), (3, .int x3)] dX3_findTreaties_57 (by decide) rfl ?_
  refine r_iload g dX3_findTreaties_59 rfl ?_
  refine r_if_eq g 68 dX3_findTreaties_61 (by decide) (fun hz => absurd hz (by decide)) (fun _ => ?_)
  refine r_iconst g (-1) dX3_findTreaties_64 (by decide) ?_
  refine r_goto g 83 dX3_findTreaties_65 (by decide) ?_
  refine r_istore g [(5, .int (-1)), (4, .int 1), (0, .ref a0), (1, .ref a1), (2, .int x2), (3, .int x3)] dX3_findTreaties_83 (by decide) rfl ?_
  refine r_aload_n g dX3_findTreaties_85 rfl ?_
  refine r_getR g fX3_32 rfl hs_a0 hr_a0_treatyAt dX3_findTreaties_86 ?_
  refine r_iload_n g dX3_findTreaties_89 rfl ?_
  refine r_bipush g 6 dX3_findTreaties_90 (by decide) ?_
  refine r_imul g dX3_findTreaties_92 ?_
  refine r_iload_n g dX3_findTreaties_93 rfl ?_
  refine r_iadd g dX3_findTreaties_94 ?_
  refine r_iload g dX3_findTreaties_95 rfl ?_
  obtain ⟨hi1, h⟩ := h
  refine r_iastore g hs_a0_treatyAt hi1 dX3_findTreaties_97 ?_
  refine r_aload_n g dX3_findTreaties_98 rfl ?_
  refine r_getR g fX3_32 rfl hs_a0 hr_a0_treatyAt dX3_findTreaties_99 ?_
  refine r_iload_n g dX3_findTreaties_102 rfl ?_
  refine r_bipush g 6 dX3_findTreaties_103 (by decide) ?_
  refine r_imul g dX3_findTreaties_105 ?_
  refine r_iload_n g dX3_findTreaties_106 rfl ?_
  refine r_iadd g dX3_findTreaties_107 ?_
  refine r_iload g dX3_findTreaties_108 rfl ?_
  obtain ⟨hi2, h⟩ := h
  refine r_iastore g hs_a0_treatyAt hi2 dX3_findTreaties_110 ?_
  refine r_iinc g (x3 + 1) [(3, .int (x3 + 1)), (5, .int (-1)), (4, .int 1), (0, .ref a0), (1, .ref a1), (2, .int x2)] dX3_findTreaties_111 rfl rfl (by decide) rfl ?_
  refine r_goto g 15 dX3_findTreaties_114 (by decide) ?_
  refine r_sub g (lv' := [(0, .ref a0), (1, .ref a1), (2, .int x2), (3, .int (x3 + 1))]) (⟨rfl, rfl, rfl, rfl, trivial⟩) ?_
  exact h
set_option maxHeartbeats 4000000 in
set_option maxRecDepth 100000 in
theorem B_X3_findTreaties_56 {d : Nat} {ro : Nat → Nat} {J : JT} {Z : Option Value → Hp → Prop} (g : xCtx RX3 cX3_findTreaties 6 d 0 0 yX3_findTreaties.name ro J) (hr : xRet cX3_findTreaties none 0 0 Z J) {μ : Hp} {a0 : Nat} {a1 : Nat} {x2 : Int32} {x3 : Int32} {a1_book : Nat} {a1_row : Nat} {N_a1_row : Nat} (hs_a1 : hS μ a1 = some (12, 4)) (hr_a1_book : hR μ a1 1 = some a1_book) (hr_a1_row : hR μ a1 0 = some a1_row) (hs_a1_row : hS μ a1_row = some (0, N_a1_row)) (hs_a1_book : hS μ a1_book = some (6, 9))
    (h : vp_in 0 N_a1_row ∧ xCall d yX2_treatyOf cX2_treatyOf 10 (some .int) [.ref a1_book, .int x2, .int x3, .int (hI μ a1_row 0)] μ ro (fun r2 μ3 => ∃ y4 : Int32, r2 = some (.int y4) ∧ hS μ3 a0 = some (7, 9) ∧ ∃ treatyAt_5 : Nat, hR μ3 a0 5 = some treatyAt_5 ∧ ∃ N6 : Nat, hS μ3 treatyAt_5 = some (0, N6) ∧ vp_in ((x2 * 6) + x3) N6 ∧ vp_in ((x3 * 6) + x2) N6 ∧ J (wI (wI μ3 treatyAt_5 (((x2 * 6) + x3).toNatClampNeg) y4) treatyAt_5 (((x3 * 6) + x2).toNatClampNeg) y4) 0 0 15 [(0, .ref a0), (1, .ref a1), (2, .int x2), (3, .int (x3 + 1))] [])) :
    J μ 0 0 56 [(0, .ref a0), (1, .ref a1), (2, .int x2), (3, .int x3)] [] := by
  refine r_iconst g 0 dX3_findTreaties_56 (by decide) ?_
  refine r_istore g [(4, .int 0), (0, .ref a0), (1, .ref a1), (2, .int x2), (3, .int x3)] dX3_findTreaties_57 (by decide) rfl ?_
  refine r_iload g dX3_findTreaties_59 rfl ?_
  refine r_if_eq g 68 dX3_findTreaties_61 (by decide) (fun _ => ?_) (fun hz => absurd hz (by decide))
  refine r_aload_n g dX3_findTreaties_68 rfl ?_
  refine r_getR g fX3_69 rfl hs_a1 hr_a1_book dX3_findTreaties_69 ?_
  refine r_iload_n g dX3_findTreaties_72 rfl ?_
  refine r_iload_n g dX3_findTreaties_73 rfl ?_
  refine r_aload_n g dX3_findTreaties_74 rfl ?_
  refine r_getR g fX3_64 rfl hs_a1 hr_a1_row dX3_findTreaties_75 ?_
  refine r_iconst g 0 dX3_findTreaties_78 (by decide) ?_
  obtain ⟨hi1, h⟩ := h
  refine r_iaload g hs_a1_row hi1 dX3_findTreaties_79 ?_
  obtain ⟨d1, Z1, hc1, hd1, h1⟩ := h
  refine r_callV (st := []) (As := [.int x2, .int x3, .int (hI μ a1_row 0)]) g sX3_94 iX2_treatyOf eX2_treatyOf rfl hs_a1_book rfl (Nat.le_of_ble_eq_true rfl) dX3_findTreaties_80 hd1 (Nat.le_refl 0) (Nat.le_refl 0) hc1 (fun r2 μ3 hZ1 => ?_)
  replace h := h1 _ _ hZ1
  clear h1 hc1 hd1 hZ1 Z1 d1
  obtain ⟨y4, rfl, h⟩ := h
  refine r_istore g [(5, .int y4), (4, .int 0), (0, .ref a0), (1, .ref a1), (2, .int x2), (3, .int x3)] dX3_findTreaties_83 (by decide) rfl ?_
  refine r_aload_n g dX3_findTreaties_85 rfl ?_
  obtain ⟨hs_a0, h⟩ := h
  obtain ⟨treatyAt_5, hr_treatyAt_5, h⟩ := h
  refine r_getR g fX3_32 rfl hs_a0 hr_treatyAt_5 dX3_findTreaties_86 ?_
  refine r_iload_n g dX3_findTreaties_89 rfl ?_
  refine r_bipush g 6 dX3_findTreaties_90 (by decide) ?_
  refine r_imul g dX3_findTreaties_92 ?_
  refine r_iload_n g dX3_findTreaties_93 rfl ?_
  refine r_iadd g dX3_findTreaties_94 ?_
  refine r_iload g dX3_findTreaties_95 rfl ?_
  obtain ⟨N6, hs_treatyAt_5, h⟩ := h
  obtain ⟨hi7, h⟩ := h
  refine r_iastore g hs_treatyAt_5 hi7 dX3_findTreaties_97 ?_
  refine r_aload_n g dX3_findTreaties_98 rfl ?_
  refine r_getR g fX3_32 rfl hs_a0 hr_treatyAt_5 dX3_findTreaties_99 ?_
  refine r_iload_n g dX3_findTreaties_102 rfl ?_
  refine r_bipush g 6 dX3_findTreaties_103 (by decide) ?_
  refine r_imul g dX3_findTreaties_105 ?_
  refine r_iload_n g dX3_findTreaties_106 rfl ?_
  refine r_iadd g dX3_findTreaties_107 ?_
  refine r_iload g dX3_findTreaties_108 rfl ?_
  obtain ⟨hi8, h⟩ := h
  refine r_iastore g hs_treatyAt_5 hi8 dX3_findTreaties_110 ?_
  refine r_iinc g (x3 + 1) [(3, .int (x3 + 1)), (5, .int y4), (4, .int 0), (0, .ref a0), (1, .ref a1), (2, .int x2)] dX3_findTreaties_111 rfl rfl (by decide) rfl ?_
  refine r_goto g 15 dX3_findTreaties_114 (by decide) ?_
  refine r_sub g (lv' := [(0, .ref a0), (1, .ref a1), (2, .int x2), (3, .int (x3 + 1))]) (⟨rfl, rfl, rfl, rfl, trivial⟩) ?_
  exact h
theorem I_X3_findTreaties {d : Nat} {ro : Nat → Nat} {Z : Option Value → Hp → Prop} {μ : Hp} {a0 : Nat} {a1 : Nat} (h : ∀ J, xCtx RX3 cX3_findTreaties 6 d 0 0 yX3_findTreaties.name ro J → xRet cX3_findTreaties none 0 0 Z J → J μ 0 0 0 [(0, .ref a0), (1, .ref a1)] []) : xC d yX3_findTreaties cX3_findTreaties 6 none 0 0 [.ref a0, .ref a1] μ ro Z :=
  xC_intro (own := RX3) (lv := [(0, .ref a0), (1, .ref a1)]) (by decide) rfl (Nat.le_of_ble_eq_true rfl) rfl (fun J g hr => r_sub g (lv' := [(0, .ref a0), (1, .ref a1)]) (⟨rfl, rfl, trivial⟩) (h J g hr))
theorem dX3_articleOf_0 : decode cX3_articleOf 0 = .ok (.aload_n 1, 1) := by decide +kernel
theorem dX3_articleOf_1 : decode cX3_articleOf 1 = .ok (.getfield 64, 3) := by decide +kernel
theorem dX3_articleOf_4 : decode cX3_articleOf 4 = .ok (.bipush 48, 2) := by decide +kernel
theorem dX3_articleOf_6 : decode cX3_articleOf 6 = .ok (.iload_n 2, 1) := by decide +kernel
theorem dX3_articleOf_7 : decode cX3_articleOf 7 = .ok (.iadd, 1) := by decide +kernel
theorem dX3_articleOf_8 : decode cX3_articleOf 8 = .ok (.iaload, 1) := by decide +kernel
theorem dX3_articleOf_9 : decode cX3_articleOf 9 = .ok (.istore 4, 2) := by decide +kernel
theorem dX3_articleOf_11 : decode cX3_articleOf 11 = .ok (.aload_n 1, 1) := by decide +kernel
theorem dX3_articleOf_12 : decode cX3_articleOf 12 = .ok (.getfield 69, 3) := by decide +kernel
theorem dX3_articleOf_15 : decode cX3_articleOf 15 = .ok (.getfield 73, 3) := by decide +kernel
theorem dX3_articleOf_18 : decode cX3_articleOf 18 = .ok (.aload_n 1, 1) := by decide +kernel
theorem dX3_articleOf_19 : decode cX3_articleOf 19 = .ok (.getfield 64, 3) := by decide +kernel
theorem dX3_articleOf_22 : decode cX3_articleOf 22 = .ok (.bipush 64, 2) := by decide +kernel
theorem dX3_articleOf_24 : decode cX3_articleOf 24 = .ok (.iload_n 2, 1) := by decide +kernel
theorem dX3_articleOf_25 : decode cX3_articleOf 25 = .ok (.iadd, 1) := by decide +kernel
theorem dX3_articleOf_26 : decode cX3_articleOf 26 = .ok (.iaload, 1) := by decide +kernel
theorem dX3_articleOf_27 : decode cX3_articleOf 27 = .ok (.iaload, 1) := by decide +kernel
theorem dX3_articleOf_28 : decode cX3_articleOf 28 = .ok (.istore 5, 2) := by decide +kernel
theorem dX3_articleOf_30 : decode cX3_articleOf 30 = .ok (.aload_n 1, 1) := by decide +kernel
theorem dX3_articleOf_31 : decode cX3_articleOf 31 = .ok (.getfield 69, 3) := by decide +kernel
theorem dX3_articleOf_34 : decode cX3_articleOf 34 = .ok (.getfield 73, 3) := by decide +kernel
theorem dX3_articleOf_37 : decode cX3_articleOf 37 = .ok (.iload 4, 2) := by decide +kernel
theorem dX3_articleOf_39 : decode cX3_articleOf 39 = .ok (.iaload, 1) := by decide +kernel
theorem dX3_articleOf_40 : decode cX3_articleOf 40 = .ok (.istore 6, 2) := by decide +kernel
theorem dX3_articleOf_42 : decode cX3_articleOf 42 = .ok (.iload 5, 2) := by decide +kernel
theorem dX3_articleOf_44 : decode cX3_articleOf 44 = .ok (.iload 6, 2) := by decide +kernel
theorem dX3_articleOf_46 : decode cX3_articleOf 46 = .ok (.if_icmp .ne 5, 3) := by decide +kernel
theorem dX3_articleOf_49 : decode cX3_articleOf 49 = .ok (.iconst 0, 1) := by decide +kernel
theorem dX3_articleOf_50 : decode cX3_articleOf 50 = .ok (.ireturn, 1) := by decide +kernel
theorem dX3_articleOf_51 : decode cX3_articleOf 51 = .ok (.aload_n 0, 1) := by decide +kernel
theorem dX3_articleOf_52 : decode cX3_articleOf 52 = .ok (.getfield 32, 3) := by decide +kernel
theorem dX3_articleOf_55 : decode cX3_articleOf 55 = .ok (.iload 5, 2) := by decide +kernel
theorem dX3_articleOf_57 : decode cX3_articleOf 57 = .ok (.bipush 6, 2) := by decide +kernel
theorem dX3_articleOf_59 : decode cX3_articleOf 59 = .ok (.imul, 1) := by decide +kernel
theorem dX3_articleOf_60 : decode cX3_articleOf 60 = .ok (.iload 6, 2) := by decide +kernel
theorem dX3_articleOf_62 : decode cX3_articleOf 62 = .ok (.iadd, 1) := by decide +kernel
theorem dX3_articleOf_63 : decode cX3_articleOf 63 = .ok (.iaload, 1) := by decide +kernel
theorem dX3_articleOf_64 : decode cX3_articleOf 64 = .ok (.istore 7, 2) := by decide +kernel
theorem dX3_articleOf_66 : decode cX3_articleOf 66 = .ok (.iload 7, 2) := by decide +kernel
theorem dX3_articleOf_68 : decode cX3_articleOf 68 = .ok (.iconst (-1), 1) := by decide +kernel
theorem dX3_articleOf_69 : decode cX3_articleOf 69 = .ok (.if_icmp .ne 5, 3) := by decide +kernel
theorem dX3_articleOf_72 : decode cX3_articleOf 72 = .ok (.iconst 1, 1) := by decide +kernel
theorem dX3_articleOf_73 : decode cX3_articleOf 73 = .ok (.ireturn, 1) := by decide +kernel
theorem dX3_articleOf_74 : decode cX3_articleOf 74 = .ok (.aload_n 1, 1) := by decide +kernel
theorem dX3_articleOf_75 : decode cX3_articleOf 75 = .ok (.getfield 69, 3) := by decide +kernel
theorem dX3_articleOf_78 : decode cX3_articleOf 78 = .ok (.getfield 98, 3) := by decide +kernel
theorem dX3_articleOf_81 : decode cX3_articleOf 81 = .ok (.astore 8, 2) := by decide +kernel
theorem dX3_articleOf_83 : decode cX3_articleOf 83 = .ok (.aload_n 1, 1) := by decide +kernel
theorem dX3_articleOf_84 : decode cX3_articleOf 84 = .ok (.getfield 64, 3) := by decide +kernel
theorem dX3_articleOf_87 : decode cX3_articleOf 87 = .ok (.iconst 2, 1) := by decide +kernel
theorem dX3_articleOf_88 : decode cX3_articleOf 88 = .ok (.iload 4, 2) := by decide +kernel
theorem dX3_articleOf_90 : decode cX3_articleOf 90 = .ok (.iadd, 1) := by decide +kernel
theorem dX3_articleOf_91 : decode cX3_articleOf 91 = .ok (.iaload, 1) := by decide +kernel
theorem dX3_articleOf_92 : decode cX3_articleOf 92 = .ok (.aload 8, 2) := by decide +kernel
theorem dX3_articleOf_94 : decode cX3_articleOf 94 = .ok (.bipush 72, 2) := by decide +kernel
theorem dX3_articleOf_96 : decode cX3_articleOf 96 = .ok (.iload 7, 2) := by decide +kernel
theorem dX3_articleOf_98 : decode cX3_articleOf 98 = .ok (.iadd, 1) := by decide +kernel
theorem dX3_articleOf_99 : decode cX3_articleOf 99 = .ok (.iaload, 1) := by decide +kernel
theorem dX3_articleOf_100 : decode cX3_articleOf 100 = .ok (.if_icmp .ge 5, 3) := by decide +kernel
theorem dX3_articleOf_103 : decode cX3_articleOf 103 = .ok (.iconst 2, 1) := by decide +kernel
theorem dX3_articleOf_104 : decode cX3_articleOf 104 = .ok (.ireturn, 1) := by decide +kernel
theorem dX3_articleOf_105 : decode cX3_articleOf 105 = .ok (.aload 8, 2) := by decide +kernel
theorem dX3_articleOf_107 : decode cX3_articleOf 107 = .ok (.bipush 84, 2) := by decide +kernel
theorem dX3_articleOf_109 : decode cX3_articleOf 109 = .ok (.iload 7, 2) := by decide +kernel
theorem dX3_articleOf_111 : decode cX3_articleOf 111 = .ok (.iadd, 1) := by decide +kernel
theorem dX3_articleOf_112 : decode cX3_articleOf 112 = .ok (.iaload, 1) := by decide +kernel
theorem dX3_articleOf_113 : decode cX3_articleOf 113 = .ok (.istore 9, 2) := by decide +kernel
theorem dX3_articleOf_115 : decode cX3_articleOf 115 = .ok (.iload_n 3, 1) := by decide +kernel
theorem dX3_articleOf_116 : decode cX3_articleOf 116 = .ok (.iload 5, 2) := by decide +kernel
theorem dX3_articleOf_118 : decode cX3_articleOf 118 = .ok (.if_icmp .eq 23, 3) := by decide +kernel
theorem dX3_articleOf_121 : decode cX3_articleOf 121 = .ok (.aload_n 0, 1) := by decide +kernel
theorem dX3_articleOf_122 : decode cX3_articleOf 122 = .ok (.getfield 32, 3) := by decide +kernel
theorem dX3_articleOf_125 : decode cX3_articleOf 125 = .ok (.iload_n 3, 1) := by decide +kernel
theorem dX3_articleOf_126 : decode cX3_articleOf 126 = .ok (.bipush 6, 2) := by decide +kernel
theorem dX3_articleOf_128 : decode cX3_articleOf 128 = .ok (.imul, 1) := by decide +kernel
theorem dX3_articleOf_129 : decode cX3_articleOf 129 = .ok (.iload 5, 2) := by decide +kernel
theorem dX3_articleOf_131 : decode cX3_articleOf 131 = .ok (.iadd, 1) := by decide +kernel
theorem dX3_articleOf_132 : decode cX3_articleOf 132 = .ok (.iaload, 1) := by decide +kernel
theorem dX3_articleOf_133 : decode cX3_articleOf 133 = .ok (.iconst (-1), 1) := by decide +kernel
theorem dX3_articleOf_134 : decode cX3_articleOf 134 = .ok (.if_icmp .ne 7, 3) := by decide +kernel
theorem dX3_articleOf_137 : decode cX3_articleOf 137 = .ok (.iconst 1, 1) := by decide +kernel
theorem dX3_articleOf_138 : decode cX3_articleOf 138 = .ok (.goto 4, 3) := by decide +kernel
theorem dX3_articleOf_141 : decode cX3_articleOf 141 = .ok (.iconst 0, 1) := by decide +kernel
theorem dX3_articleOf_142 : decode cX3_articleOf 142 = .ok (.istore 10, 2) := by decide +kernel
theorem dX3_articleOf_144 : decode cX3_articleOf 144 = .ok (.iload 9, 2) := by decide +kernel
theorem dX3_articleOf_146 : decode cX3_articleOf 146 = .ok (.iconst 1, 1) := by decide +kernel
theorem dX3_articleOf_147 : decode cX3_articleOf 147 = .ok (.if_icmp .ne 9, 3) := by decide +kernel
theorem dX3_articleOf_150 : decode cX3_articleOf 150 = .ok (.iload_n 3, 1) := by decide +kernel
theorem dX3_articleOf_151 : decode cX3_articleOf 151 = .ok (.iload 6, 2) := by decide +kernel
theorem dX3_articleOf_153 : decode cX3_articleOf 153 = .ok (.if_icmp .ne 14, 3) := by decide +kernel
theorem dX3_articleOf_156 : decode cX3_articleOf 156 = .ok (.iload 9, 2) := by decide +kernel
theorem dX3_articleOf_158 : decode cX3_articleOf 158 = .ok (.iconst 2, 1) := by decide +kernel
theorem dX3_articleOf_159 : decode cX3_articleOf 159 = .ok (.if_icmp .ne 10, 3) := by decide +kernel
theorem dX3_articleOf_162 : decode cX3_articleOf 162 = .ok (.iload 10, 2) := by decide +kernel
theorem dX3_articleOf_164 : decode cX3_articleOf 164 = .ok (.ifCond .eq 5, 3) := by decide +kernel
theorem dX3_articleOf_167 : decode cX3_articleOf 167 = .ok (.iconst 3, 1) := by decide +kernel
theorem dX3_articleOf_168 : decode cX3_articleOf 168 = .ok (.ireturn, 1) := by decide +kernel
theorem dX3_articleOf_169 : decode cX3_articleOf 169 = .ok (.aload_n 1, 1) := by decide +kernel
theorem dX3_articleOf_170 : decode cX3_articleOf 170 = .ok (.getfield 64, 3) := by decide +kernel
theorem dX3_articleOf_173 : decode cX3_articleOf 173 = .ok (.bipush 32, 2) := by decide +kernel
theorem dX3_articleOf_175 : decode cX3_articleOf 175 = .ok (.iload_n 2, 1) := by decide +kernel
theorem dX3_articleOf_176 : decode cX3_articleOf 176 = .ok (.iadd, 1) := by decide +kernel
theorem dX3_articleOf_177 : decode cX3_articleOf 177 = .ok (.iaload, 1) := by decide +kernel
theorem dX3_articleOf_178 : decode cX3_articleOf 178 = .ok (.iconst 1, 1) := by decide +kernel
theorem dX3_articleOf_179 : decode cX3_articleOf 179 = .ok (.if_icmp .ne 5, 3) := by decide +kernel
theorem dX3_articleOf_182 : decode cX3_articleOf 182 = .ok (.iconst 0, 1) := by decide +kernel
theorem dX3_articleOf_183 : decode cX3_articleOf 183 = .ok (.ireturn, 1) := by decide +kernel
theorem dX3_articleOf_184 : decode cX3_articleOf 184 = .ok (.aload_n 1, 1) := by decide +kernel
theorem dX3_articleOf_185 : decode cX3_articleOf 185 = .ok (.getfield 64, 3) := by decide +kernel
theorem dX3_articleOf_188 : decode cX3_articleOf 188 = .ok (.bipush 80, 2) := by decide +kernel
theorem dX3_articleOf_190 : decode cX3_articleOf 190 = .ok (.iload_n 2, 1) := by decide +kernel
theorem dX3_articleOf_191 : decode cX3_articleOf 191 = .ok (.iadd, 1) := by decide +kernel
theorem dX3_articleOf_192 : decode cX3_articleOf 192 = .ok (.iaload, 1) := by decide +kernel
theorem dX3_articleOf_193 : decode cX3_articleOf 193 = .ok (.aload 8, 2) := by decide +kernel
theorem dX3_articleOf_195 : decode cX3_articleOf 195 = .ok (.bipush 48, 2) := by decide +kernel
theorem dX3_articleOf_197 : decode cX3_articleOf 197 = .ok (.iload 7, 2) := by decide +kernel
theorem dX3_articleOf_199 : decode cX3_articleOf 199 = .ok (.iadd, 1) := by decide +kernel
theorem dX3_articleOf_200 : decode cX3_articleOf 200 = .ok (.iaload, 1) := by decide +kernel
theorem dX3_articleOf_201 : decode cX3_articleOf 201 = .ok (.if_icmp .ge 5, 3) := by decide +kernel
theorem dX3_articleOf_204 : decode cX3_articleOf 204 = .ok (.iconst 4, 1) := by decide +kernel
theorem dX3_articleOf_205 : decode cX3_articleOf 205 = .ok (.ireturn, 1) := by decide +kernel
theorem dX3_articleOf_206 : decode cX3_articleOf 206 = .ok (.aload_n 1, 1) := by decide +kernel
theorem dX3_articleOf_207 : decode cX3_articleOf 207 = .ok (.getfield 64, 3) := by decide +kernel
theorem dX3_articleOf_210 : decode cX3_articleOf 210 = .ok (.iconst 0, 1) := by decide +kernel
theorem dX3_articleOf_211 : decode cX3_articleOf 211 = .ok (.iaload, 1) := by decide +kernel
theorem dX3_articleOf_212 : decode cX3_articleOf 212 = .ok (.aload_n 1, 1) := by decide +kernel
theorem dX3_articleOf_213 : decode cX3_articleOf 213 = .ok (.getfield 64, 3) := by decide +kernel
theorem dX3_articleOf_216 : decode cX3_articleOf 216 = .ok (.bipush 96, 2) := by decide +kernel
theorem dX3_articleOf_218 : decode cX3_articleOf 218 = .ok (.iload_n 2, 1) := by decide +kernel
theorem dX3_articleOf_219 : decode cX3_articleOf 219 = .ok (.iadd, 1) := by decide +kernel
theorem dX3_articleOf_220 : decode cX3_articleOf 220 = .ok (.iaload, 1) := by decide +kernel
theorem dX3_articleOf_221 : decode cX3_articleOf 221 = .ok (.isub, 1) := by decide +kernel
theorem dX3_articleOf_222 : decode cX3_articleOf 222 = .ok (.aload 8, 2) := by decide +kernel
theorem dX3_articleOf_224 : decode cX3_articleOf 224 = .ok (.bipush 60, 2) := by decide +kernel
theorem dX3_articleOf_226 : decode cX3_articleOf 226 = .ok (.iload 7, 2) := by decide +kernel
theorem dX3_articleOf_228 : decode cX3_articleOf 228 = .ok (.iadd, 1) := by decide +kernel
theorem dX3_articleOf_229 : decode cX3_articleOf 229 = .ok (.iaload, 1) := by decide +kernel
theorem dX3_articleOf_230 : decode cX3_articleOf 230 = .ok (.if_icmp .ge 7, 3) := by decide +kernel
theorem dX3_articleOf_233 : decode cX3_articleOf 233 = .ok (.iconst 5, 1) := by decide +kernel
theorem dX3_articleOf_234 : decode cX3_articleOf 234 = .ok (.goto 4, 3) := by decide +kernel
theorem dX3_articleOf_237 : decode cX3_articleOf 237 = .ok (.iconst 0, 1) := by decide +kernel
theorem dX3_articleOf_238 : decode cX3_articleOf 238 = .ok (.ireturn, 1) := by decide +kernel
set_option maxHeartbeats 4000000 in
set_option maxRecDepth 100000 in
theorem B_X3_articleOf_0 {d : Nat} {ro : Nat → Nat} {J : JT} {Z : Option Value → Hp → Prop} (g : xCtx RX3 cX3_articleOf 11 d 0 0 yX3_articleOf.name ro J) (hr : xRet cX3_articleOf (some .int) 0 0 Z J) {μ : Hp} {a0 : Nat} {a1 : Nat} {x2 : Int32} {x3 : Int32} {a1_row : Nat} {N_a1_row : Nat} {a1_book : Nat} {a1_book_landOf : Nat} {N_a1_book_landOf : Nat} {a0_treatyAt : Nat} {N_a0_treatyAt : Nat} {a1_book_treaties : Nat} {N_a1_book_treaties : Nat} (hs_a1 : hS μ a1 = some (12, 4)) (hr_a1_row : hR μ a1 0 = some a1_row) (hs_a1_row : hS μ a1_row = some (0, N_a1_row)) (hr_a1_book : hR μ a1 1 = some a1_book) (hs_a1_book : hS μ a1_book = some (6, 9)) (hr_a1_book_landOf : hR μ a1_book 3 = some a1_book_landOf) (hs_a1_book_landOf : hS μ a1_book_landOf = some (0, N_a1_book_landOf)) (hs_a0 : hS μ a0 = some (7, 9)) (hr_a0_treatyAt : hR μ a0 5 = some a0_treatyAt) (hs_a0_treatyAt : hS μ a0_treatyAt = some (0, N_a0_treatyAt)) (hr_a1_book_treaties : hR μ a1_book 4 = some a1_book_treaties) (hs_a1_book_treaties : hS μ a1_book_treaties = some (0, N_a1_book_treaties))
    (h : vp_in (48 + x2) N_a1_row ∧ vp_in (64 + x2) N_a1_row ∧ vp_in (hI μ a1_row ((64 + x2).toNatClampNeg)) N_a1_book_landOf ∧ (∀ v4 : Int32, v4 = (hI μ a1_book_landOf ((hI μ a1_row ((64 + x2).toNatClampNeg)).toNatClampNeg)) → vp_in (hI μ a1_row ((48 + x2).toNatClampNeg)) N_a1_book_landOf ∧ (∀ v6 : Int32, v6 = (hI μ a1_book_landOf ((hI μ a1_row ((48 + x2).toNatClampNeg)).toNatClampNeg)) → ((¬ v4 = v6 → vp_in ((v4 * 6) + v6) N_a0_treatyAt ∧ ((¬ (hI μ a0_treatyAt (((v4 * 6) + v6).toNatClampNeg)) = (-1) → vp_in (2 + (hI μ a1_row ((48 + x2).toNatClampNeg))) N_a1_row ∧ (∀ v11 : Int32, v11 = (hI μ a1_row ((2 + (hI μ a1_row ((48 + x2).toNatClampNeg))).toNatClampNeg)) → vp_in (72 + (hI μ a0_treatyAt (((v4 * 6) + v6).toNatClampNeg))) N_a1_book_treaties ∧ (∀ v13 : Int32, v13 = (hI μ a1_book_treaties ((72 + (hI μ a0_treatyAt (((v4 * 6) + v6).toNatClampNeg))).toNatClampNeg)) → ((v13 ≤ v11 → vp_in (84 + (hI μ a0_treatyAt (((v4 * 6) + v6).toNatClampNeg))) N_a1_book_treaties ∧ (∀ v16 : Int32, v16 = (hI μ a1_book_treaties ((84 + (hI μ a0_treatyAt (((v4 * 6) + v6).toNatClampNeg))).toNatClampNeg)) → ((x3 = v4 → ((¬ v16 = 1 → J μ 0 0 156 [(1, .ref a1), (2, .int x2), (7, .int (hI μ a0_treatyAt (((v4 * 6) + v6).toNatClampNeg))), (8, .ref a1_book_treaties), (9, .int v16), (10, .int 0)] []) ∧ (v16 = 1 → ((¬ x3 = v6 → Z (some (.int 3)) μ) ∧ (x3 = v6 → J μ 0 0 156 [(1, .ref a1), (2, .int x2), (7, .int (hI μ a0_treatyAt (((v4 * 6) + v6).toNatClampNeg))), (8, .ref a1_book_treaties), (9, .int v16), (10, .int 0)] []))))) ∧ (¬ x3 = v4 → vp_in ((x3 * 6) + v4) N_a0_treatyAt ∧ ((¬ (hI μ a0_treatyAt (((x3 * 6) + v4).toNatClampNeg)) = (-1) → ((¬ v16 = 1 → J μ 0 0 156 [(1, .ref a1), (2, .int x2), (7, .int (hI μ a0_treatyAt (((v4 * 6) + v6).toNatClampNeg))), (8, .ref a1_book_treaties), (9, .int v16), (10, .int 0)] []) ∧ (v16 = 1 → ((¬ x3 = v6 → Z (some (.int 3)) μ) ∧ (x3 = v6 → J μ 0 0 156 [(1, .ref a1), (2, .int x2), (7, .int (hI μ a0_treatyAt (((v4 * 6) + v6).toNatClampNeg))), (8, .ref a1_book_treaties), (9, .int v16), (10, .int 0)] []))))) ∧ ((hI μ a0_treatyAt (((x3 * 6) + v4).toNatClampNeg)) = (-1) → ((¬ v16 = 1 → J μ 0 0 156 [(1, .ref a1), (2, .int x2), (7, .int (hI μ a0_treatyAt (((v4 * 6) + v6).toNatClampNeg))), (8, .ref a1_book_treaties), (9, .int v16), (10, .int 1)] []) ∧ (v16 = 1 → ((¬ x3 = v6 → Z (some (.int 3)) μ) ∧ (x3 = v6 → J μ 0 0 156 [(1, .ref a1), (2, .int x2), (7, .int (hI μ a0_treatyAt (((v4 * 6) + v6).toNatClampNeg))), (8, .ref a1_book_treaties), (9, .int v16), (10, .int 1)] [])))))))))) ∧ (¬ v13 ≤ v11 → Z (some (.int 2)) μ))))) ∧ ((hI μ a0_treatyAt (((v4 * 6) + v6).toNatClampNeg)) = (-1) → Z (some (.int 1)) μ))) ∧ (v4 = v6 → Z (some (.int 0)) μ))))) :
    J μ 0 0 0 [(0, .ref a0), (1, .ref a1), (2, .int x2), (3, .int x3)] [] := by
  refine r_aload_n g dX3_articleOf_0 rfl ?_
  refine r_getR g fX3_64 rfl hs_a1 hr_a1_row dX3_articleOf_1 ?_
  refine r_bipush g 48 dX3_articleOf_4 (by decide) ?_
  refine r_iload_n g dX3_articleOf_6 rfl ?_
  refine r_iadd g dX3_articleOf_7 ?_
  obtain ⟨hi1, h⟩ := h
  refine r_iaload g hs_a1_row hi1 dX3_articleOf_8 ?_
  refine r_istore g [(4, .int (hI μ a1_row ((48 + x2).toNatClampNeg))), (0, .ref a0), (1, .ref a1), (2, .int x2), (3, .int x3)] dX3_articleOf_9 (by decide) rfl ?_
  refine r_aload_n g dX3_articleOf_11 rfl ?_
  refine r_getR g fX3_69 rfl hs_a1 hr_a1_book dX3_articleOf_12 ?_
  refine r_getR g fX3_73 rfl hs_a1_book hr_a1_book_landOf dX3_articleOf_15 ?_
  refine r_aload_n g dX3_articleOf_18 rfl ?_
  refine r_getR g fX3_64 rfl hs_a1 hr_a1_row dX3_articleOf_19 ?_
  refine r_bipush g 64 dX3_articleOf_22 (by decide) ?_
  refine r_iload_n g dX3_articleOf_24 rfl ?_
  refine r_iadd g dX3_articleOf_25 ?_
  obtain ⟨hi2, h⟩ := h
  refine r_iaload g hs_a1_row hi2 dX3_articleOf_26 ?_
  obtain ⟨hi3, h⟩ := h
  refine r_iaload g hs_a1_book_landOf hi3 dX3_articleOf_27 ?_
  refine r_nmI (fun v4 ev4 => ?_)
  replace h := h v4 ev4
  refine r_istore g [(5, .int v4), (4, .int (hI μ a1_row ((48 + x2).toNatClampNeg))), (0, .ref a0), (1, .ref a1), (2, .int x2), (3, .int x3)] dX3_articleOf_28 (by decide) rfl ?_
  refine r_aload_n g dX3_articleOf_30 rfl ?_
  refine r_getR g fX3_69 rfl hs_a1 hr_a1_book dX3_articleOf_31 ?_
  refine r_getR g fX3_73 rfl hs_a1_book hr_a1_book_landOf dX3_articleOf_34 ?_
  refine r_iload g dX3_articleOf_37 rfl ?_
  obtain ⟨hi5, h⟩ := h
  refine r_iaload g hs_a1_book_landOf hi5 dX3_articleOf_39 ?_
  refine r_nmI (fun v6 ev6 => ?_)
  replace h := h v6 ev6
  refine r_istore g [(6, .int v6), (5, .int v4), (4, .int (hI μ a1_row ((48 + x2).toNatClampNeg))), (0, .ref a0), (1, .ref a1), (2, .int x2), (3, .int x3)] dX3_articleOf_40 (by decide) rfl ?_
  refine r_iload g dX3_articleOf_42 rfl ?_
  refine r_iload g dX3_articleOf_44 rfl ?_
  refine r_icmp_ne g 51 dX3_articleOf_46 (by decide) (fun c7 => ?_) (fun c7 => ?_)
  · replace h := h.1 c7
    refine r_aload_n g dX3_articleOf_51 rfl ?_
    refine r_getR g fX3_32 rfl hs_a0 hr_a0_treatyAt dX3_articleOf_52 ?_
    refine r_iload g dX3_articleOf_55 rfl ?_
    refine r_bipush g 6 dX3_articleOf_57 (by decide) ?_
    refine r_imul g dX3_articleOf_59 ?_
    refine r_iload g dX3_articleOf_60 rfl ?_
    refine r_iadd g dX3_articleOf_62 ?_
    obtain ⟨hi8, h⟩ := h
    refine r_iaload g hs_a0_treatyAt hi8 dX3_articleOf_63 ?_
    refine r_istore g [(7, .int (hI μ a0_treatyAt (((v4 * 6) + v6).toNatClampNeg))), (6, .int v6), (5, .int v4), (4, .int (hI μ a1_row ((48 + x2).toNatClampNeg))), (0, .ref a0), (1, .ref a1), (2, .int x2), (3, .int x3)] dX3_articleOf_64 (by decide) rfl ?_
    refine r_iload g dX3_articleOf_66 rfl ?_
    refine r_iconst g (-1) dX3_articleOf_68 (by decide) ?_
    refine r_icmp_ne g 74 dX3_articleOf_69 (by decide) (fun c9 => ?_) (fun c9 => ?_)
    · replace h := h.1 c9
      refine r_aload_n g dX3_articleOf_74 rfl ?_
      refine r_getR g fX3_69 rfl hs_a1 hr_a1_book dX3_articleOf_75 ?_
      refine r_getR g fX3_98 rfl hs_a1_book hr_a1_book_treaties dX3_articleOf_78 ?_
      refine r_astore g [(8, .ref a1_book_treaties), (7, .int (hI μ a0_treatyAt (((v4 * 6) + v6).toNatClampNeg))), (6, .int v6), (5, .int v4), (4, .int (hI μ a1_row ((48 + x2).toNatClampNeg))), (0, .ref a0), (1, .ref a1), (2, .int x2), (3, .int x3)] dX3_articleOf_81 (by decide) rfl ?_
      refine r_aload_n g dX3_articleOf_83 rfl ?_
      refine r_getR g fX3_64 rfl hs_a1 hr_a1_row dX3_articleOf_84 ?_
      refine r_iconst g 2 dX3_articleOf_87 (by decide) ?_
      refine r_iload g dX3_articleOf_88 rfl ?_
      refine r_iadd g dX3_articleOf_90 ?_
      obtain ⟨hi10, h⟩ := h
      refine r_iaload g hs_a1_row hi10 dX3_articleOf_91 ?_
      refine r_nmI (fun v11 ev11 => ?_)
      replace h := h v11 ev11
      refine r_aload g dX3_articleOf_92 rfl ?_
      refine r_bipush g 72 dX3_articleOf_94 (by decide) ?_
      refine r_iload g dX3_articleOf_96 rfl ?_
      refine r_iadd g dX3_articleOf_98 ?_
      obtain ⟨hi12, h⟩ := h
      refine r_iaload g hs_a1_book_treaties hi12 dX3_articleOf_99 ?_
      refine r_nmI (fun v13 ev13 => ?_)
      replace h := h v13 ev13
      refine r_icmp_ge g 105 dX3_articleOf_100 (by decide) (fun c14 => ?_) (fun c14 => ?_)
      · replace h := h.1 c14
        refine r_aload g dX3_articleOf_105 rfl ?_
        refine r_bipush g 84 dX3_articleOf_107 (by decide) ?_
        refine r_iload g dX3_articleOf_109 rfl ?_
        refine r_iadd g dX3_articleOf_111 ?_
        obtain ⟨hi15, h⟩ := h
        refine r_iaload g hs_a1_book_treaties hi15 dX3_articleOf_112 ?_
        refine r_nmI (fun v16 ev16 => ?_)
        replace h := h v16 ev16
        refine r_istore g [(9, .int v16), (8, .ref a1_book_treaties), (7, .int (hI μ a0_treatyAt (((v4 * 6) + v6).toNatClampNeg))), (6, .int v6), (5, .int v4), (4, .int (hI μ a1_row ((48 + x2).toNatClampNeg))), (0, .ref a0), (1, .ref a1), (2, .int x2), (3, .int x3)] dX3_articleOf_113 (by decide) rfl ?_
        refine r_iload_n g dX3_articleOf_115 rfl ?_
        refine r_iload g dX3_articleOf_116 rfl ?_
        refine r_icmp_eq g 141 dX3_articleOf_118 (by decide) (fun c17 => ?_) (fun c17 => ?_)
        · replace h := h.1 c17
          refine r_iconst g 0 dX3_articleOf_141 (by decide) ?_
          refine r_istore g [(10, .int 0), (9, .int v16), (8, .ref a1_book_treaties), (7, .int (hI μ a0_treatyAt (((v4 * 6) + v6).toNatClampNeg))), (6, .int v6), (5, .int v4), (4, .int (hI μ a1_row ((48 + x2).toNatClampNeg))), (0, .ref a0), (1, .ref a1), (2, .int x2), (3, .int x3)] dX3_articleOf_142 (by decide) rfl ?_
          refine r_iload g dX3_articleOf_144 rfl ?_
          refine r_iconst g 1 dX3_articleOf_146 (by decide) ?_
          refine r_icmp_ne g 156 dX3_articleOf_147 (by decide) (fun c18 => ?_) (fun c18 => ?_)
          · replace h := h.1 c18
            refine r_sub g (lv' := [(1, .ref a1), (2, .int x2), (7, .int (hI μ a0_treatyAt (((v4 * 6) + v6).toNatClampNeg))), (8, .ref a1_book_treaties), (9, .int v16), (10, .int 0)]) (⟨rfl, rfl, rfl, rfl, rfl, rfl, trivial⟩) ?_
            exact h
          · replace h := h.2 c18
            refine r_iload_n g dX3_articleOf_150 rfl ?_
            refine r_iload g dX3_articleOf_151 rfl ?_
            refine r_icmp_ne g 167 dX3_articleOf_153 (by decide) (fun c19 => ?_) (fun c19 => ?_)
            · replace h := h.1 c19
              refine r_iconst g 3 dX3_articleOf_167 (by decide) ?_
              exact hr.2.1 _ rfl _ _ _ _ _ _ dX3_articleOf_168 rfl (Nat.le_refl 0) (Nat.le_refl 0) h
            · replace h := h.2 c19
              refine r_sub g (lv' := [(1, .ref a1), (2, .int x2), (7, .int (hI μ a0_treatyAt (((v4 * 6) + v6).toNatClampNeg))), (8, .ref a1_book_treaties), (9, .int v16), (10, .int 0)]) (⟨rfl, rfl, rfl, rfl, rfl, rfl, trivial⟩) ?_
              exact h
        · replace h := h.2 c17
          refine r_aload_n g dX3_articleOf_121 rfl ?_
          refine r_getR g fX3_32 rfl hs_a0 hr_a0_treatyAt dX3_articleOf_122 ?_
          refine r_iload_n g dX3_articleOf_125 rfl ?_
          refine r_bipush g 6 dX3_articleOf_126 (by decide) ?_
          refine r_imul g dX3_articleOf_128 ?_
          refine r_iload g dX3_articleOf_129 rfl ?_
          refine r_iadd g dX3_articleOf_131 ?_
          obtain ⟨hi20, h⟩ := h
          refine r_iaload g hs_a0_treatyAt hi20 dX3_articleOf_132 ?_
          refine r_iconst g (-1) dX3_articleOf_133 (by decide) ?_
          refine r_icmp_ne g 141 dX3_articleOf_134 (by decide) (fun c21 => ?_) (fun c21 => ?_)
          · replace h := h.1 c21
            refine r_iconst g 0 dX3_articleOf_141 (by decide) ?_
            refine r_istore g [(10, .int 0), (9, .int v16), (8, .ref a1_book_treaties), (7, .int (hI μ a0_treatyAt (((v4 * 6) + v6).toNatClampNeg))), (6, .int v6), (5, .int v4), (4, .int (hI μ a1_row ((48 + x2).toNatClampNeg))), (0, .ref a0), (1, .ref a1), (2, .int x2), (3, .int x3)] dX3_articleOf_142 (by decide) rfl ?_
            refine r_iload g dX3_articleOf_144 rfl ?_
            refine r_iconst g 1 dX3_articleOf_146 (by decide) ?_
            refine r_icmp_ne g 156 dX3_articleOf_147 (by decide) (fun c22 => ?_) (fun c22 => ?_)
            · replace h := h.1 c22
              refine r_sub g (lv' := [(1, .ref a1), (2, .int x2), (7, .int (hI μ a0_treatyAt (((v4 * 6) + v6).toNatClampNeg))), (8, .ref a1_book_treaties), (9, .int v16), (10, .int 0)]) (⟨rfl, rfl, rfl, rfl, rfl, rfl, trivial⟩) ?_
              exact h
            · replace h := h.2 c22
              refine r_iload_n g dX3_articleOf_150 rfl ?_
              refine r_iload g dX3_articleOf_151 rfl ?_
              refine r_icmp_ne g 167 dX3_articleOf_153 (by decide) (fun c23 => ?_) (fun c23 => ?_)
              · replace h := h.1 c23
                refine r_iconst g 3 dX3_articleOf_167 (by decide) ?_
                exact hr.2.1 _ rfl _ _ _ _ _ _ dX3_articleOf_168 rfl (Nat.le_refl 0) (Nat.le_refl 0) h
              · replace h := h.2 c23
                refine r_sub g (lv' := [(1, .ref a1), (2, .int x2), (7, .int (hI μ a0_treatyAt (((v4 * 6) + v6).toNatClampNeg))), (8, .ref a1_book_treaties), (9, .int v16), (10, .int 0)]) (⟨rfl, rfl, rfl, rfl, rfl, rfl, trivial⟩) ?_
                exact h
          · replace h := h.2 c21
            refine r_iconst g 1 dX3_articleOf_137 (by decide) ?_
            refine r_goto g 142 dX3_articleOf_138 (by decide) ?_
            refine r_istore g [(10, .int 1), (9, .int v16), (8, .ref a1_book_treaties), (7, .int (hI μ a0_treatyAt (((v4 * 6) + v6).toNatClampNeg))), (6, .int v6), (5, .int v4), (4, .int (hI μ a1_row ((48 + x2).toNatClampNeg))), (0, .ref a0), (1, .ref a1), (2, .int x2), (3, .int x3)] dX3_articleOf_142 (by decide) rfl ?_
            refine r_iload g dX3_articleOf_144 rfl ?_
            refine r_iconst g 1 dX3_articleOf_146 (by decide) ?_
            refine r_icmp_ne g 156 dX3_articleOf_147 (by decide) (fun c24 => ?_) (fun c24 => ?_)
            · replace h := h.1 c24
              refine r_sub g (lv' := [(1, .ref a1), (2, .int x2), (7, .int (hI μ a0_treatyAt (((v4 * 6) + v6).toNatClampNeg))), (8, .ref a1_book_treaties), (9, .int v16), (10, .int 1)]) (⟨rfl, rfl, rfl, rfl, rfl, rfl, trivial⟩) ?_
              exact h
            · replace h := h.2 c24
              refine r_iload_n g dX3_articleOf_150 rfl ?_
              refine r_iload g dX3_articleOf_151 rfl ?_
              refine r_icmp_ne g 167 dX3_articleOf_153 (by decide) (fun c25 => ?_) (fun c25 => ?_)
              · replace h := h.1 c25
                refine r_iconst g 3 dX3_articleOf_167 (by decide) ?_
                exact hr.2.1 _ rfl _ _ _ _ _ _ dX3_articleOf_168 rfl (Nat.le_refl 0) (Nat.le_refl 0) h
              · replace h := h.2 c25
                refine r_sub g (lv' := [(1, .ref a1), (2, .int x2), (7, .int (hI μ a0_treatyAt (((v4 * 6) + v6).toNatClampNeg))), (8, .ref a1_book_treaties), (9, .int v16), (10, .int 1)]) (⟨rfl, rfl, rfl, rfl, rfl, rfl, trivial⟩) ?_
                exact h
      · replace h := h.2 c14
        refine r_iconst g 2 dX3_articleOf_103 (by decide) ?_
        exact hr.2.1 _ rfl _ _ _ _ _ _ dX3_articleOf_104 rfl (Nat.le_refl 0) (Nat.le_refl 0) h
    · replace h := h.2 c9
      refine r_iconst g 1 dX3_articleOf_72 (by decide) ?_
      exact hr.2.1 _ rfl _ _ _ _ _ _ dX3_articleOf_73 rfl (Nat.le_refl 0) (Nat.le_refl 0) h
  · replace h := h.2 c7
    refine r_iconst g 0 dX3_articleOf_49 (by decide) ?_
    exact hr.2.1 _ rfl _ _ _ _ _ _ dX3_articleOf_50 rfl (Nat.le_refl 0) (Nat.le_refl 0) h
set_option maxHeartbeats 4000000 in
set_option maxRecDepth 100000 in
theorem B_X3_articleOf_156 {d : Nat} {ro : Nat → Nat} {J : JT} {Z : Option Value → Hp → Prop} (g : xCtx RX3 cX3_articleOf 11 d 0 0 yX3_articleOf.name ro J) (hr : xRet cX3_articleOf (some .int) 0 0 Z J) {μ : Hp} {a1 : Nat} {x2 : Int32} {x7 : Int32} {a8 : Nat} {x9 : Int32} {x10 : Int32} 
    (h : ((¬ x9 = 2 → J μ 0 0 169 [(1, .ref a1), (2, .int x2), (7, .int x7), (8, .ref a8)] []) ∧ (x9 = 2 → ((x10 = 0 → J μ 0 0 169 [(1, .ref a1), (2, .int x2), (7, .int x7), (8, .ref a8)] []) ∧ (¬ x10 = 0 → Z (some (.int 3)) μ))))) :
    J μ 0 0 156 [(1, .ref a1), (2, .int x2), (7, .int x7), (8, .ref a8), (9, .int x9), (10, .int x10)] [] := by
  refine r_iload g dX3_articleOf_156 rfl ?_
  refine r_iconst g 2 dX3_articleOf_158 (by decide) ?_
  refine r_icmp_ne g 169 dX3_articleOf_159 (by decide) (fun c1 => ?_) (fun c1 => ?_)
  · replace h := h.1 c1
    refine r_sub g (lv' := [(1, .ref a1), (2, .int x2), (7, .int x7), (8, .ref a8)]) (⟨rfl, rfl, rfl, rfl, trivial⟩) ?_
    exact h
  · replace h := h.2 c1
    refine r_iload g dX3_articleOf_162 rfl ?_
    refine r_if_eq g 169 dX3_articleOf_164 (by decide) (fun c2 => ?_) (fun c2 => ?_)
    · replace h := h.1 c2
      refine r_sub g (lv' := [(1, .ref a1), (2, .int x2), (7, .int x7), (8, .ref a8)]) (⟨rfl, rfl, rfl, rfl, trivial⟩) ?_
      exact h
    · replace h := h.2 c2
      refine r_iconst g 3 dX3_articleOf_167 (by decide) ?_
      exact hr.2.1 _ rfl _ _ _ _ _ _ dX3_articleOf_168 rfl (Nat.le_refl 0) (Nat.le_refl 0) h
set_option maxHeartbeats 4000000 in
set_option maxRecDepth 100000 in
theorem B_X3_articleOf_169 {d : Nat} {ro : Nat → Nat} {J : JT} {Z : Option Value → Hp → Prop} (g : xCtx RX3 cX3_articleOf 11 d 0 0 yX3_articleOf.name ro J) (hr : xRet cX3_articleOf (some .int) 0 0 Z J) {μ : Hp} {a1 : Nat} {x2 : Int32} {x7 : Int32} {a8 : Nat} {a1_row : Nat} {N_a1_row : Nat} {N_a8 : Nat} (hs_a1 : hS μ a1 = some (12, 4)) (hr_a1_row : hR μ a1 0 = some a1_row) (hs_a1_row : hS μ a1_row = some (0, N_a1_row)) (hs_a8 : hS μ a8 = some (0, N_a8))
    (h : vp_in (32 + x2) N_a1_row ∧ ((¬ (hI μ a1_row ((32 + x2).toNatClampNeg)) = 1 → vp_in (80 + x2) N_a1_row ∧ vp_in (48 + x7) N_a8 ∧ (((hI μ a8 ((48 + x7).toNatClampNeg)) ≤ (hI μ a1_row ((80 + x2).toNatClampNeg)) → vp_in 0 N_a1_row ∧ vp_in (96 + x2) N_a1_row ∧ vp_in (60 + x7) N_a8 ∧ (((hI μ a8 ((60 + x7).toNatClampNeg)) ≤ ((hI μ a1_row 0) - (hI μ a1_row ((96 + x2).toNatClampNeg))) → Z (some (.int 0)) μ) ∧ (¬ (hI μ a8 ((60 + x7).toNatClampNeg)) ≤ ((hI μ a1_row 0) - (hI μ a1_row ((96 + x2).toNatClampNeg))) → Z (some (.int 5)) μ))) ∧ (¬ (hI μ a8 ((48 + x7).toNatClampNeg)) ≤ (hI μ a1_row ((80 + x2).toNatClampNeg)) → Z (some (.int 4)) μ))) ∧ ((hI μ a1_row ((32 + x2).toNatClampNeg)) = 1 → Z (some (.int 0)) μ))) :
    J μ 0 0 169 [(1, .ref a1), (2, .int x2), (7, .int x7), (8, .ref a8)] [] := by
  refine r_aload_n g dX3_articleOf_169 rfl ?_
  refine r_getR g fX3_64 rfl hs_a1 hr_a1_row dX3_articleOf_170 ?_
  refine r_bipush g 32 dX3_articleOf_173 (by decide) ?_
  refine r_iload_n g dX3_articleOf_175 rfl ?_
  refine r_iadd g dX3_articleOf_176 ?_
  obtain ⟨hi1, h⟩ := h
  refine r_iaload g hs_a1_row hi1 dX3_articleOf_177 ?_
  refine r_iconst g 1 dX3_articleOf_178 (by decide) ?_
  refine r_icmp_ne g 184 dX3_articleOf_179 (by decide) (fun c2 => ?_) (fun c2 => ?_)
  · replace h := h.1 c2
    refine r_aload_n g dX3_articleOf_184 rfl ?_
    refine r_getR g fX3_64 rfl hs_a1 hr_a1_row dX3_articleOf_185 ?_
    refine r_bipush g 80 dX3_articleOf_188 (by decide) ?_
    refine r_iload_n g dX3_articleOf_190 rfl ?_
    refine r_iadd g dX3_articleOf_191 ?_
    obtain ⟨hi3, h⟩ := h
    refine r_iaload g hs_a1_row hi3 dX3_articleOf_192 ?_
    refine r_aload g dX3_articleOf_193 rfl ?_
    refine r_bipush g 48 dX3_articleOf_195 (by decide) ?_
    refine r_iload g dX3_articleOf_197 rfl ?_
    refine r_iadd g dX3_articleOf_199 ?_
    obtain ⟨hi4, h⟩ := h
    refine r_iaload g hs_a8 hi4 dX3_articleOf_200 ?_
    refine r_icmp_ge g 206 dX3_articleOf_201 (by decide) (fun c5 => ?_) (fun c5 => ?_)
    · replace h := h.1 c5
      refine r_aload_n g dX3_articleOf_206 rfl ?_
      refine r_getR g fX3_64 rfl hs_a1 hr_a1_row dX3_articleOf_207 ?_
      refine r_iconst g 0 dX3_articleOf_210 (by decide) ?_
      obtain ⟨hi6, h⟩ := h
      refine r_iaload g hs_a1_row hi6 dX3_articleOf_211 ?_
      refine r_aload_n g dX3_articleOf_212 rfl ?_
      refine r_getR g fX3_64 rfl hs_a1 hr_a1_row dX3_articleOf_213 ?_
      refine r_bipush g 96 dX3_articleOf_216 (by decide) ?_
      refine r_iload_n g dX3_articleOf_218 rfl ?_
      refine r_iadd g dX3_articleOf_219 ?_
      obtain ⟨hi7, h⟩ := h
      refine r_iaload g hs_a1_row hi7 dX3_articleOf_220 ?_
      refine r_isub g dX3_articleOf_221 ?_
      refine r_aload g dX3_articleOf_222 rfl ?_
      refine r_bipush g 60 dX3_articleOf_224 (by decide) ?_
      refine r_iload g dX3_articleOf_226 rfl ?_
      refine r_iadd g dX3_articleOf_228 ?_
      obtain ⟨hi8, h⟩ := h
      refine r_iaload g hs_a8 hi8 dX3_articleOf_229 ?_
      refine r_icmp_ge g 237 dX3_articleOf_230 (by decide) (fun c9 => ?_) (fun c9 => ?_)
      · replace h := h.1 c9
        refine r_iconst g 0 dX3_articleOf_237 (by decide) ?_
        exact hr.2.1 _ rfl _ _ _ _ _ _ dX3_articleOf_238 rfl (Nat.le_refl 0) (Nat.le_refl 0) h
      · replace h := h.2 c9
        refine r_iconst g 5 dX3_articleOf_233 (by decide) ?_
        refine r_goto g 238 dX3_articleOf_234 (by decide) ?_
        exact hr.2.1 _ rfl _ _ _ _ _ _ dX3_articleOf_238 rfl (Nat.le_refl 0) (Nat.le_refl 0) h
    · replace h := h.2 c5
      refine r_iconst g 4 dX3_articleOf_204 (by decide) ?_
      exact hr.2.1 _ rfl _ _ _ _ _ _ dX3_articleOf_205 rfl (Nat.le_refl 0) (Nat.le_refl 0) h
  · replace h := h.2 c2
    refine r_iconst g 0 dX3_articleOf_182 (by decide) ?_
    exact hr.2.1 _ rfl _ _ _ _ _ _ dX3_articleOf_183 rfl (Nat.le_refl 0) (Nat.le_refl 0) h
theorem I_X3_articleOf {d : Nat} {ro : Nat → Nat} {Z : Option Value → Hp → Prop} {μ : Hp} {a0 : Nat} {a1 : Nat} {x2 : Int32} {x3 : Int32} (h : ∀ J, xCtx RX3 cX3_articleOf 11 d 0 0 yX3_articleOf.name ro J → xRet cX3_articleOf (some .int) 0 0 Z J → J μ 0 0 0 [(0, .ref a0), (1, .ref a1), (2, .int x2), (3, .int x3)] []) : xC d yX3_articleOf cX3_articleOf 11 (some .int) 0 0 [.ref a0, .ref a1, .int x2, .int x3] μ ro Z :=
  xC_intro (own := RX3) (lv := [(0, .ref a0), (1, .ref a1), (2, .int x2), (3, .int x3)]) (by decide) rfl (Nat.le_of_ble_eq_true rfl) rfl (fun J g hr => r_sub g (lv' := [(0, .ref a0), (1, .ref a1), (2, .int x2), (3, .int x3)]) (⟨rfl, rfl, rfl, rfl, trivial⟩) (h J g hr))
theorem dX3_rateOf_0 : decode cX3_rateOf 0 = .ok (.aload_n 1, 1) := by decide +kernel
theorem dX3_rateOf_1 : decode cX3_rateOf 1 = .ok (.getfield 64, 3) := by decide +kernel
theorem dX3_rateOf_4 : decode cX3_rateOf 4 = .ok (.bipush 32, 2) := by decide +kernel
theorem dX3_rateOf_6 : decode cX3_rateOf 6 = .ok (.iload_n 2, 1) := by decide +kernel
theorem dX3_rateOf_7 : decode cX3_rateOf 7 = .ok (.iadd, 1) := by decide +kernel
theorem dX3_rateOf_8 : decode cX3_rateOf 8 = .ok (.iaload, 1) := by decide +kernel
theorem dX3_rateOf_9 : decode cX3_rateOf 9 = .ok (.istore 4, 2) := by decide +kernel
theorem dX3_rateOf_11 : decode cX3_rateOf 11 = .ok (.aload_n 1, 1) := by decide +kernel
theorem dX3_rateOf_12 : decode cX3_rateOf 12 = .ok (.getfield 69, 3) := by decide +kernel
theorem dX3_rateOf_15 : decode cX3_rateOf 15 = .ok (.getfield 73, 3) := by decide +kernel
theorem dX3_rateOf_18 : decode cX3_rateOf 18 = .ok (.aload_n 1, 1) := by decide +kernel
theorem dX3_rateOf_19 : decode cX3_rateOf 19 = .ok (.getfield 64, 3) := by decide +kernel
theorem dX3_rateOf_22 : decode cX3_rateOf 22 = .ok (.bipush 64, 2) := by decide +kernel
theorem dX3_rateOf_24 : decode cX3_rateOf 24 = .ok (.iload_n 2, 1) := by decide +kernel
theorem dX3_rateOf_25 : decode cX3_rateOf 25 = .ok (.iadd, 1) := by decide +kernel
theorem dX3_rateOf_26 : decode cX3_rateOf 26 = .ok (.iaload, 1) := by decide +kernel
theorem dX3_rateOf_27 : decode cX3_rateOf 27 = .ok (.iaload, 1) := by decide +kernel
theorem dX3_rateOf_28 : decode cX3_rateOf 28 = .ok (.istore 5, 2) := by decide +kernel
theorem dX3_rateOf_30 : decode cX3_rateOf 30 = .ok (.aload_n 1, 1) := by decide +kernel
theorem dX3_rateOf_31 : decode cX3_rateOf 31 = .ok (.getfield 69, 3) := by decide +kernel
theorem dX3_rateOf_34 : decode cX3_rateOf 34 = .ok (.getfield 73, 3) := by decide +kernel
theorem dX3_rateOf_37 : decode cX3_rateOf 37 = .ok (.aload_n 1, 1) := by decide +kernel
theorem dX3_rateOf_38 : decode cX3_rateOf 38 = .ok (.getfield 64, 3) := by decide +kernel
theorem dX3_rateOf_41 : decode cX3_rateOf 41 = .ok (.bipush 48, 2) := by decide +kernel
theorem dX3_rateOf_43 : decode cX3_rateOf 43 = .ok (.iload_n 2, 1) := by decide +kernel
theorem dX3_rateOf_44 : decode cX3_rateOf 44 = .ok (.iadd, 1) := by decide +kernel
theorem dX3_rateOf_45 : decode cX3_rateOf 45 = .ok (.iaload, 1) := by decide +kernel
theorem dX3_rateOf_46 : decode cX3_rateOf 46 = .ok (.iaload, 1) := by decide +kernel
theorem dX3_rateOf_47 : decode cX3_rateOf 47 = .ok (.istore 6, 2) := by decide +kernel
theorem dX3_rateOf_49 : decode cX3_rateOf 49 = .ok (.iload 5, 2) := by decide +kernel
theorem dX3_rateOf_51 : decode cX3_rateOf 51 = .ok (.iload 6, 2) := by decide +kernel
theorem dX3_rateOf_53 : decode cX3_rateOf 53 = .ok (.if_icmp .ne 5, 3) := by decide +kernel
theorem dX3_rateOf_56 : decode cX3_rateOf 56 = .ok (.iconst 0, 1) := by decide +kernel
theorem dX3_rateOf_57 : decode cX3_rateOf 57 = .ok (.ireturn, 1) := by decide +kernel
theorem dX3_rateOf_58 : decode cX3_rateOf 58 = .ok (.aload_n 0, 1) := by decide +kernel
theorem dX3_rateOf_59 : decode cX3_rateOf 59 = .ok (.getfield 32, 3) := by decide +kernel
theorem dX3_rateOf_62 : decode cX3_rateOf 62 = .ok (.iload 5, 2) := by decide +kernel
theorem dX3_rateOf_64 : decode cX3_rateOf 64 = .ok (.bipush 6, 2) := by decide +kernel
theorem dX3_rateOf_66 : decode cX3_rateOf 66 = .ok (.imul, 1) := by decide +kernel
theorem dX3_rateOf_67 : decode cX3_rateOf 67 = .ok (.iload 6, 2) := by decide +kernel
theorem dX3_rateOf_69 : decode cX3_rateOf 69 = .ok (.iadd, 1) := by decide +kernel
theorem dX3_rateOf_70 : decode cX3_rateOf 70 = .ok (.iaload, 1) := by decide +kernel
theorem dX3_rateOf_71 : decode cX3_rateOf 71 = .ok (.istore 7, 2) := by decide +kernel
theorem dX3_rateOf_73 : decode cX3_rateOf 73 = .ok (.iload 7, 2) := by decide +kernel
theorem dX3_rateOf_75 : decode cX3_rateOf 75 = .ok (.iconst (-1), 1) := by decide +kernel
theorem dX3_rateOf_76 : decode cX3_rateOf 76 = .ok (.if_icmp .eq 13, 3) := by decide +kernel
theorem dX3_rateOf_79 : decode cX3_rateOf 79 = .ok (.iload_n 3, 1) := by decide +kernel
theorem dX3_rateOf_80 : decode cX3_rateOf 80 = .ok (.iconst 1, 1) := by decide +kernel
theorem dX3_rateOf_81 : decode cX3_rateOf 81 = .ok (.if_icmp .lt 25, 3) := by decide +kernel
theorem dX3_rateOf_84 : decode cX3_rateOf 84 = .ok (.iload_n 3, 1) := by decide +kernel
theorem dX3_rateOf_85 : decode cX3_rateOf 85 = .ok (.iconst 3, 1) := by decide +kernel
theorem dX3_rateOf_86 : decode cX3_rateOf 86 = .ok (.if_icmp .gt 20, 3) := by decide +kernel
theorem dX3_rateOf_89 : decode cX3_rateOf 89 = .ok (.aload_n 1, 1) := by decide +kernel
theorem dX3_rateOf_90 : decode cX3_rateOf 90 = .ok (.getfield 69, 3) := by decide +kernel
theorem dX3_rateOf_93 : decode cX3_rateOf 93 = .ok (.getfield 101, 3) := by decide +kernel
theorem dX3_rateOf_96 : decode cX3_rateOf 96 = .ok (.iload 4, 2) := by decide +kernel
theorem dX3_rateOf_98 : decode cX3_rateOf 98 = .ok (.bipush 6, 2) := by decide +kernel
theorem dX3_rateOf_100 : decode cX3_rateOf 100 = .ok (.imul, 1) := by decide +kernel
theorem dX3_rateOf_101 : decode cX3_rateOf 101 = .ok (.iload 5, 2) := by decide +kernel
theorem dX3_rateOf_103 : decode cX3_rateOf 103 = .ok (.iadd, 1) := by decide +kernel
theorem dX3_rateOf_104 : decode cX3_rateOf 104 = .ok (.iaload, 1) := by decide +kernel
theorem dX3_rateOf_105 : decode cX3_rateOf 105 = .ok (.ireturn, 1) := by decide +kernel
theorem dX3_rateOf_106 : decode cX3_rateOf 106 = .ok (.iload_n 3, 1) := by decide +kernel
theorem dX3_rateOf_107 : decode cX3_rateOf 107 = .ok (.ifCond .eq 17, 3) := by decide +kernel
theorem dX3_rateOf_110 : decode cX3_rateOf 110 = .ok (.aload_n 1, 1) := by decide +kernel
theorem dX3_rateOf_111 : decode cX3_rateOf 111 = .ok (.getfield 69, 3) := by decide +kernel
theorem dX3_rateOf_114 : decode cX3_rateOf 114 = .ok (.getfield 98, 3) := by decide +kernel
theorem dX3_rateOf_117 : decode cX3_rateOf 117 = .ok (.bipush 24, 2) := by decide +kernel
theorem dX3_rateOf_119 : decode cX3_rateOf 119 = .ok (.iload 7, 2) := by decide +kernel
theorem dX3_rateOf_121 : decode cX3_rateOf 121 = .ok (.iadd, 1) := by decide +kernel
theorem dX3_rateOf_122 : decode cX3_rateOf 122 = .ok (.iaload, 1) := by decide +kernel
theorem dX3_rateOf_123 : decode cX3_rateOf 123 = .ok (.ireturn, 1) := by decide +kernel
theorem dX3_rateOf_124 : decode cX3_rateOf 124 = .ok (.aload_n 1, 1) := by decide +kernel
theorem dX3_rateOf_125 : decode cX3_rateOf 125 = .ok (.getfield 69, 3) := by decide +kernel
theorem dX3_rateOf_128 : decode cX3_rateOf 128 = .ok (.getfield 98, 3) := by decide +kernel
theorem dX3_rateOf_131 : decode cX3_rateOf 131 = .ok (.iload 4, 2) := by decide +kernel
theorem dX3_rateOf_133 : decode cX3_rateOf 133 = .ok (.iconst 1, 1) := by decide +kernel
theorem dX3_rateOf_134 : decode cX3_rateOf 134 = .ok (.if_icmp .ne 8, 3) := by decide +kernel
theorem dX3_rateOf_137 : decode cX3_rateOf 137 = .ok (.bipush 36, 2) := by decide +kernel
theorem dX3_rateOf_139 : decode cX3_rateOf 139 = .ok (.goto 5, 3) := by decide +kernel
theorem dX3_rateOf_142 : decode cX3_rateOf 142 = .ok (.bipush 12, 2) := by decide +kernel
theorem dX3_rateOf_144 : decode cX3_rateOf 144 = .ok (.iload 7, 2) := by decide +kernel
theorem dX3_rateOf_146 : decode cX3_rateOf 146 = .ok (.iadd, 1) := by decide +kernel
theorem dX3_rateOf_147 : decode cX3_rateOf 147 = .ok (.iaload, 1) := by decide +kernel
theorem dX3_rateOf_148 : decode cX3_rateOf 148 = .ok (.ireturn, 1) := by decide +kernel
set_option maxHeartbeats 4000000 in
set_option maxRecDepth 100000 in
theorem B_X3_rateOf_0 {d : Nat} {ro : Nat → Nat} {J : JT} {Z : Option Value → Hp → Prop} (g : xCtx RX3 cX3_rateOf 8 d 0 0 yX3_rateOf.name ro J) (hr : xRet cX3_rateOf (some .int) 0 0 Z J) {μ : Hp} {a0 : Nat} {a1 : Nat} {x2 : Int32} {x3 : Int32} {a1_row : Nat} {N_a1_row : Nat} {a1_book : Nat} {a1_book_landOf : Nat} {N_a1_book_landOf : Nat} {a0_treatyAt : Nat} {N_a0_treatyAt : Nat} {a1_book_laws : Nat} {N_a1_book_laws : Nat} (hs_a1 : hS μ a1 = some (12, 4)) (hr_a1_row : hR μ a1 0 = some a1_row) (hs_a1_row : hS μ a1_row = some (0, N_a1_row)) (hr_a1_book : hR μ a1 1 = some a1_book) (hs_a1_book : hS μ a1_book = some (6, 9)) (hr_a1_book_landOf : hR μ a1_book 3 = some a1_book_landOf) (hs_a1_book_landOf : hS μ a1_book_landOf = some (0, N_a1_book_landOf)) (hs_a0 : hS μ a0 = some (7, 9)) (hr_a0_treatyAt : hR μ a0 5 = some a0_treatyAt) (hs_a0_treatyAt : hS μ a0_treatyAt = some (0, N_a0_treatyAt)) (hr_a1_book_laws : hR μ a1_book 2 = some a1_book_laws) (hs_a1_book_laws : hS μ a1_book_laws = some (0, N_a1_book_laws))
    (h : vp_in (32 + x2) N_a1_row ∧ vp_in (64 + x2) N_a1_row ∧ vp_in (hI μ a1_row ((64 + x2).toNatClampNeg)) N_a1_book_landOf ∧ (∀ v4 : Int32, v4 = (hI μ a1_book_landOf ((hI μ a1_row ((64 + x2).toNatClampNeg)).toNatClampNeg)) → vp_in (48 + x2) N_a1_row ∧ vp_in (hI μ a1_row ((48 + x2).toNatClampNeg)) N_a1_book_landOf ∧ (∀ v7 : Int32, v7 = (hI μ a1_book_landOf ((hI μ a1_row ((48 + x2).toNatClampNeg)).toNatClampNeg)) → ((¬ v4 = v7 → vp_in ((v4 * 6) + v7) N_a0_treatyAt ∧ (((hI μ a0_treatyAt (((v4 * 6) + v7).toNatClampNeg)) = (-1) → vp_in (((hI μ a1_row ((32 + x2).toNatClampNeg)) * 6) + v4) N_a1_book_laws ∧ (∀ v12 : Int32, v12 = (hI μ a1_book_laws ((((hI μ a1_row ((32 + x2).toNatClampNeg)) * 6) + v4).toNatClampNeg)) → Z (some (.int v12)) μ)) ∧ (¬ (hI μ a0_treatyAt (((v4 * 6) + v7).toNatClampNeg)) = (-1) → ((x3 < 1 → J μ 0 0 106 [(1, .ref a1), (3, .int x3), (4, .int (hI μ a1_row ((32 + x2).toNatClampNeg))), (7, .int (hI μ a0_treatyAt (((v4 * 6) + v7).toNatClampNeg)))] []) ∧ (¬ x3 < 1 → ((3 < x3 → J μ 0 0 106 [(1, .ref a1), (3, .int x3), (4, .int (hI μ a1_row ((32 + x2).toNatClampNeg))), (7, .int (hI μ a0_treatyAt (((v4 * 6) + v7).toNatClampNeg)))] []) ∧ (¬ 3 < x3 → vp_in (((hI μ a1_row ((32 + x2).toNatClampNeg)) * 6) + v4) N_a1_book_laws ∧ (∀ v16 : Int32, v16 = (hI μ a1_book_laws ((((hI μ a1_row ((32 + x2).toNatClampNeg)) * 6) + v4).toNatClampNeg)) → Z (some (.int v16)) μ)))))))) ∧ (v4 = v7 → Z (some (.int 0)) μ))))) :
    J μ 0 0 0 [(0, .ref a0), (1, .ref a1), (2, .int x2), (3, .int x3)] [] := by
  refine r_aload_n g dX3_rateOf_0 rfl ?_
  refine r_getR g fX3_64 rfl hs_a1 hr_a1_row dX3_rateOf_1 ?_
  refine r_bipush g 32 dX3_rateOf_4 (by decide) ?_
  refine r_iload_n g dX3_rateOf_6 rfl ?_
  refine r_iadd g dX3_rateOf_7 ?_
  obtain ⟨hi1, h⟩ := h
  refine r_iaload g hs_a1_row hi1 dX3_rateOf_8 ?_
  refine r_istore g [(4, .int (hI μ a1_row ((32 + x2).toNatClampNeg))), (0, .ref a0), (1, .ref a1), (2, .int x2), (3, .int x3)] dX3_rateOf_9 (by decide) rfl ?_
  refine r_aload_n g dX3_rateOf_11 rfl ?_
  refine r_getR g fX3_69 rfl hs_a1 hr_a1_book dX3_rateOf_12 ?_
  refine r_getR g fX3_73 rfl hs_a1_book hr_a1_book_landOf dX3_rateOf_15 ?_
  refine r_aload_n g dX3_rateOf_18 rfl ?_
  refine r_getR g fX3_64 rfl hs_a1 hr_a1_row dX3_rateOf_19 ?_
  refine r_bipush g 64 dX3_rateOf_22 (by decide) ?_
  refine r_iload_n g dX3_rateOf_24 rfl ?_
  refine r_iadd g dX3_rateOf_25 ?_
  obtain ⟨hi2, h⟩ := h
  refine r_iaload g hs_a1_row hi2 dX3_rateOf_26 ?_
  obtain ⟨hi3, h⟩ := h
  refine r_iaload g hs_a1_book_landOf hi3 dX3_rateOf_27 ?_
  refine r_nmI (fun v4 ev4 => ?_)
  replace h := h v4 ev4
  refine r_istore g [(5, .int v4), (4, .int (hI μ a1_row ((32 + x2).toNatClampNeg))), (0, .ref a0), (1, .ref a1), (2, .int x2), (3, .int x3)] dX3_rateOf_28 (by decide) rfl ?_
  refine r_aload_n g dX3_rateOf_30 rfl ?_
  refine r_getR g fX3_69 rfl hs_a1 hr_a1_book dX3_rateOf_31 ?_
  refine r_getR g fX3_73 rfl hs_a1_book hr_a1_book_landOf dX3_rateOf_34 ?_
  refine r_aload_n g dX3_rateOf_37 rfl ?_
  refine r_getR g fX3_64 rfl hs_a1 hr_a1_row dX3_rateOf_38 ?_
  refine r_bipush g 48 dX3_rateOf_41 (by decide) ?_
  refine r_iload_n g dX3_rateOf_43 rfl ?_
  refine r_iadd g dX3_rateOf_44 ?_
  obtain ⟨hi5, h⟩ := h
  refine r_iaload g hs_a1_row hi5 dX3_rateOf_45 ?_
  obtain ⟨hi6, h⟩ := h
  refine r_iaload g hs_a1_book_landOf hi6 dX3_rateOf_46 ?_
  refine r_nmI (fun v7 ev7 => ?_)
  replace h := h v7 ev7
  refine r_istore g [(6, .int v7), (5, .int v4), (4, .int (hI μ a1_row ((32 + x2).toNatClampNeg))), (0, .ref a0), (1, .ref a1), (2, .int x2), (3, .int x3)] dX3_rateOf_47 (by decide) rfl ?_
  refine r_iload g dX3_rateOf_49 rfl ?_
  refine r_iload g dX3_rateOf_51 rfl ?_
  refine r_icmp_ne g 58 dX3_rateOf_53 (by decide) (fun c8 => ?_) (fun c8 => ?_)
  · replace h := h.1 c8
    refine r_aload_n g dX3_rateOf_58 rfl ?_
    refine r_getR g fX3_32 rfl hs_a0 hr_a0_treatyAt dX3_rateOf_59 ?_
    refine r_iload g dX3_rateOf_62 rfl ?_
    refine r_bipush g 6 dX3_rateOf_64 (by decide) ?_
    refine r_imul g dX3_rateOf_66 ?_
    refine r_iload g dX3_rateOf_67 rfl ?_
    refine r_iadd g dX3_rateOf_69 ?_
    obtain ⟨hi9, h⟩ := h
    refine r_iaload g hs_a0_treatyAt hi9 dX3_rateOf_70 ?_
    refine r_istore g [(7, .int (hI μ a0_treatyAt (((v4 * 6) + v7).toNatClampNeg))), (6, .int v7), (5, .int v4), (4, .int (hI μ a1_row ((32 + x2).toNatClampNeg))), (0, .ref a0), (1, .ref a1), (2, .int x2), (3, .int x3)] dX3_rateOf_71 (by decide) rfl ?_
    refine r_iload g dX3_rateOf_73 rfl ?_
    refine r_iconst g (-1) dX3_rateOf_75 (by decide) ?_
    refine r_icmp_eq g 89 dX3_rateOf_76 (by decide) (fun c10 => ?_) (fun c10 => ?_)
    · replace h := h.1 c10
      refine r_aload_n g dX3_rateOf_89 rfl ?_
      refine r_getR g fX3_69 rfl hs_a1 hr_a1_book dX3_rateOf_90 ?_
      refine r_getR g fX3_101 rfl hs_a1_book hr_a1_book_laws dX3_rateOf_93 ?_
      refine r_iload g dX3_rateOf_96 rfl ?_
      refine r_bipush g 6 dX3_rateOf_98 (by decide) ?_
      refine r_imul g dX3_rateOf_100 ?_
      refine r_iload g dX3_rateOf_101 rfl ?_
      refine r_iadd g dX3_rateOf_103 ?_
      obtain ⟨hi11, h⟩ := h
      refine r_iaload g hs_a1_book_laws hi11 dX3_rateOf_104 ?_
      refine r_nmI (fun v12 ev12 => ?_)
      replace h := h v12 ev12
      exact hr.2.1 _ rfl _ _ _ _ _ _ dX3_rateOf_105 rfl (Nat.le_refl 0) (Nat.le_refl 0) h
    · replace h := h.2 c10
      refine r_iload_n g dX3_rateOf_79 rfl ?_
      refine r_iconst g 1 dX3_rateOf_80 (by decide) ?_
      refine r_icmp_lt g 106 dX3_rateOf_81 (by decide) (fun c13 => ?_) (fun c13 => ?_)
      · replace h := h.1 c13
        refine r_sub g (lv' := [(1, .ref a1), (3, .int x3), (4, .int (hI μ a1_row ((32 + x2).toNatClampNeg))), (7, .int (hI μ a0_treatyAt (((v4 * 6) + v7).toNatClampNeg)))]) (⟨rfl, rfl, rfl, rfl, trivial⟩) ?_
        exact h
      · replace h := h.2 c13
        refine r_iload_n g dX3_rateOf_84 rfl ?_
        refine r_iconst g 3 dX3_rateOf_85 (by decide) ?_
        refine r_icmp_gt g 106 dX3_rateOf_86 (by decide) (fun c14 => ?_) (fun c14 => ?_)
        · replace h := h.1 c14
          refine r_sub g (lv' := [(1, .ref a1), (3, .int x3), (4, .int (hI μ a1_row ((32 + x2).toNatClampNeg))), (7, .int (hI μ a0_treatyAt (((v4 * 6) + v7).toNatClampNeg)))]) (⟨rfl, rfl, rfl, rfl, trivial⟩) ?_
          exact h
        · replace h := h.2 c14
          refine r_aload_n g dX3_rateOf_89 rfl ?_
          refine r_getR g fX3_69 rfl hs_a1 hr_a1_book dX3_rateOf_90 ?_
          refine r_getR g fX3_101 rfl hs_a1_book hr_a1_book_laws dX3_rateOf_93 ?_
          refine r_iload g dX3_rateOf_96 rfl ?_
          refine r_bipush g 6 dX3_rateOf_98 (by decide) ?_
          refine r_imul g dX3_rateOf_100 ?_
          refine r_iload g dX3_rateOf_101 rfl ?_
          refine r_iadd g dX3_rateOf_103 ?_
          obtain ⟨hi15, h⟩ := h
          refine r_iaload g hs_a1_book_laws hi15 dX3_rateOf_104 ?_
          refine r_nmI (fun v16 ev16 => ?_)
          replace h := h v16 ev16
          exact hr.2.1 _ rfl _ _ _ _ _ _ dX3_rateOf_105 rfl (Nat.le_refl 0) (Nat.le_refl 0) h
  · replace h := h.2 c8
    refine r_iconst g 0 dX3_rateOf_56 (by decide) ?_
    exact hr.2.1 _ rfl _ _ _ _ _ _ dX3_rateOf_57 rfl (Nat.le_refl 0) (Nat.le_refl 0) h
set_option maxHeartbeats 4000000 in
set_option maxRecDepth 100000 in
theorem B_X3_rateOf_106 {d : Nat} {ro : Nat → Nat} {J : JT} {Z : Option Value → Hp → Prop} (g : xCtx RX3 cX3_rateOf 8 d 0 0 yX3_rateOf.name ro J) (hr : xRet cX3_rateOf (some .int) 0 0 Z J) {μ : Hp} {a1 : Nat} {x3 : Int32} {x4 : Int32} {x7 : Int32} {a1_book : Nat} {a1_book_treaties : Nat} {N_a1_book_treaties : Nat} (hs_a1 : hS μ a1 = some (12, 4)) (hr_a1_book : hR μ a1 1 = some a1_book) (hs_a1_book : hS μ a1_book = some (6, 9)) (hr_a1_book_treaties : hR μ a1_book 4 = some a1_book_treaties) (hs_a1_book_treaties : hS μ a1_book_treaties = some (0, N_a1_book_treaties))
    (h : ((x3 = 0 → ((¬ x4 = 1 → vp_in (12 + x7) N_a1_book_treaties ∧ Z (some (.int (hI μ a1_book_treaties ((12 + x7).toNatClampNeg)))) μ) ∧ (x4 = 1 → vp_in (36 + x7) N_a1_book_treaties ∧ Z (some (.int (hI μ a1_book_treaties ((36 + x7).toNatClampNeg)))) μ))) ∧ (¬ x3 = 0 → vp_in (24 + x7) N_a1_book_treaties ∧ Z (some (.int (hI μ a1_book_treaties ((24 + x7).toNatClampNeg)))) μ))) :
    J μ 0 0 106 [(1, .ref a1), (3, .int x3), (4, .int x4), (7, .int x7)] [] := by
  refine r_iload_n g dX3_rateOf_106 rfl ?_
  refine r_if_eq g 124 dX3_rateOf_107 (by decide) (fun c1 => ?_) (fun c1 => ?_)
  · replace h := h.1 c1
    refine r_aload_n g dX3_rateOf_124 rfl ?_
    refine r_getR g fX3_69 rfl hs_a1 hr_a1_book dX3_rateOf_125 ?_
    refine r_getR g fX3_98 rfl hs_a1_book hr_a1_book_treaties dX3_rateOf_128 ?_
    refine r_iload g dX3_rateOf_131 rfl ?_
    refine r_iconst g 1 dX3_rateOf_133 (by decide) ?_
    refine r_icmp_ne g 142 dX3_rateOf_134 (by decide) (fun c2 => ?_) (fun c2 => ?_)
    · replace h := h.1 c2
      refine r_bipush g 12 dX3_rateOf_142 (by decide) ?_
      refine r_iload g dX3_rateOf_144 rfl ?_
      refine r_iadd g dX3_rateOf_146 ?_
      obtain ⟨hi3, h⟩ := h
      refine r_iaload g hs_a1_book_treaties hi3 dX3_rateOf_147 ?_
      exact hr.2.1 _ rfl _ _ _ _ _ _ dX3_rateOf_148 rfl (Nat.le_refl 0) (Nat.le_refl 0) h
    · replace h := h.2 c2
      refine r_bipush g 36 dX3_rateOf_137 (by decide) ?_
      refine r_goto g 144 dX3_rateOf_139 (by decide) ?_
      refine r_iload g dX3_rateOf_144 rfl ?_
      refine r_iadd g dX3_rateOf_146 ?_
      obtain ⟨hi4, h⟩ := h
      refine r_iaload g hs_a1_book_treaties hi4 dX3_rateOf_147 ?_
      exact hr.2.1 _ rfl _ _ _ _ _ _ dX3_rateOf_148 rfl (Nat.le_refl 0) (Nat.le_refl 0) h
  · replace h := h.2 c1
    refine r_aload_n g dX3_rateOf_110 rfl ?_
    refine r_getR g fX3_69 rfl hs_a1 hr_a1_book dX3_rateOf_111 ?_
    refine r_getR g fX3_98 rfl hs_a1_book hr_a1_book_treaties dX3_rateOf_114 ?_
    refine r_bipush g 24 dX3_rateOf_117 (by decide) ?_
    refine r_iload g dX3_rateOf_119 rfl ?_
    refine r_iadd g dX3_rateOf_121 ?_
    obtain ⟨hi5, h⟩ := h
    refine r_iaload g hs_a1_book_treaties hi5 dX3_rateOf_122 ?_
    exact hr.2.1 _ rfl _ _ _ _ _ _ dX3_rateOf_123 rfl (Nat.le_refl 0) (Nat.le_refl 0) h
theorem I_X3_rateOf {d : Nat} {ro : Nat → Nat} {Z : Option Value → Hp → Prop} {μ : Hp} {a0 : Nat} {a1 : Nat} {x2 : Int32} {x3 : Int32} (h : ∀ J, xCtx RX3 cX3_rateOf 8 d 0 0 yX3_rateOf.name ro J → xRet cX3_rateOf (some .int) 0 0 Z J → J μ 0 0 0 [(0, .ref a0), (1, .ref a1), (2, .int x2), (3, .int x3)] []) : xC d yX3_rateOf cX3_rateOf 8 (some .int) 0 0 [.ref a0, .ref a1, .int x2, .int x3] μ ro Z :=
  xC_intro (own := RX3) (lv := [(0, .ref a0), (1, .ref a1), (2, .int x2), (3, .int x3)]) (by decide) rfl (Nat.le_of_ble_eq_true rfl) rfl (fun J g hr => r_sub g (lv' := [(0, .ref a0), (1, .ref a1), (2, .int x2), (3, .int x3)]) (⟨rfl, rfl, rfl, rfl, trivial⟩) (h J g hr))
theorem dX3_goOn_0 : decode cX3_goOn 0 = .ok (.iload 4, 2) := by decide +kernel
theorem dX3_goOn_2 : decode cX3_goOn 2 = .ok (.iconst 5, 1) := by decide +kernel
theorem dX3_goOn_3 : decode cX3_goOn 3 = .ok (.if_icmp .lt 4, 3) := by decide +kernel
theorem dX3_goOn_6 : decode cX3_goOn 6 = .ok (.return_, 1) := by decide +kernel
theorem dX3_goOn_7 : decode cX3_goOn 7 = .ok (.iconst 0, 1) := by decide +kernel
theorem dX3_goOn_8 : decode cX3_goOn 8 = .ok (.istore 7, 2) := by decide +kernel
theorem dX3_goOn_10 : decode cX3_goOn 10 = .ok (.iload 7, 2) := by decide +kernel
theorem dX3_goOn_12 : decode cX3_goOn 12 = .ok (.aload_n 1, 1) := by decide +kernel
theorem dX3_goOn_13 : decode cX3_goOn 13 = .ok (.getfield 69, 3) := by decide +kernel
theorem dX3_goOn_16 : decode cX3_goOn 16 = .ok (.getfield 104, 3) := by decide +kernel
theorem dX3_goOn_19 : decode cX3_goOn 19 = .ok (.if_icmp .ge 223, 3) := by decide +kernel
theorem dX3_goOn_22 : decode cX3_goOn 22 = .ok (.iload_n 2, 1) := by decide +kernel
theorem dX3_goOn_23 : decode cX3_goOn 23 = .ok (.bipush 8, 2) := by decide +kernel
theorem dX3_goOn_25 : decode cX3_goOn 25 = .ok (.imul, 1) := by decide +kernel
theorem dX3_goOn_26 : decode cX3_goOn 26 = .ok (.iload 7, 2) := by decide +kernel
theorem dX3_goOn_28 : decode cX3_goOn 28 = .ok (.iadd, 1) := by decide +kernel
theorem dX3_goOn_29 : decode cX3_goOn 29 = .ok (.istore 8, 2) := by decide +kernel
theorem dX3_goOn_31 : decode cX3_goOn 31 = .ok (.aload_n 0, 1) := by decide +kernel
theorem dX3_goOn_32 : decode cX3_goOn 32 = .ok (.getfield 22, 3) := by decide +kernel
theorem dX3_goOn_35 : decode cX3_goOn 35 = .ok (.iload 8, 2) := by decide +kernel
theorem dX3_goOn_37 : decode cX3_goOn 37 = .ok (.iaload, 1) := by decide +kernel
theorem dX3_goOn_38 : decode cX3_goOn 38 = .ok (.iconst (-1), 1) := by decide +kernel
theorem dX3_goOn_39 : decode cX3_goOn 39 = .ok (.if_icmp .eq 197, 3) := by decide +kernel
theorem dX3_goOn_42 : decode cX3_goOn 42 = .ok (.iload 5, 2) := by decide +kernel
theorem dX3_goOn_44 : decode cX3_goOn 44 = .ok (.iload 7, 2) := by decide +kernel
theorem dX3_goOn_46 : decode cX3_goOn 46 = .ok (.ishr, 1) := by decide +kernel
theorem dX3_goOn_47 : decode cX3_goOn 47 = .ok (.iconst 1, 1) := by decide +kernel
theorem dX3_goOn_48 : decode cX3_goOn 48 = .ok (.iand, 1) := by decide +kernel
theorem dX3_goOn_49 : decode cX3_goOn 49 = .ok (.ifCond .ne 187, 3) := by decide +kernel
theorem dX3_goOn_52 : decode cX3_goOn 52 = .ok (.iload_n 3, 1) := by decide +kernel
theorem dX3_goOn_53 : decode cX3_goOn 53 = .ok (.aload_n 0, 1) := by decide +kernel
theorem dX3_goOn_54 : decode cX3_goOn 54 = .ok (.getfield 26, 3) := by decide +kernel
theorem dX3_goOn_57 : decode cX3_goOn 57 = .ok (.iload 8, 2) := by decide +kernel
theorem dX3_goOn_59 : decode cX3_goOn 59 = .ok (.iaload, 1) := by decide +kernel
theorem dX3_goOn_60 : decode cX3_goOn 60 = .ok (.imul, 1) := by decide +kernel
theorem dX3_goOn_61 : decode cX3_goOn 61 = .ok (.sipush 1000, 3) := by decide +kernel
theorem dX3_goOn_64 : decode cX3_goOn 64 = .ok (.idiv, 1) := by decide +kernel
theorem dX3_goOn_65 : decode cX3_goOn 65 = .ok (.istore 9, 2) := by decide +kernel
theorem dX3_goOn_67 : decode cX3_goOn 67 = .ok (.aload_n 0, 1) := by decide +kernel
theorem dX3_goOn_68 : decode cX3_goOn 68 = .ok (.getfield 35, 3) := by decide +kernel
theorem dX3_goOn_71 : decode cX3_goOn 71 = .ok (.getfield 107, 3) := by decide +kernel
theorem dX3_goOn_74 : decode cX3_goOn 74 = .ok (.iconst 0, 1) := by decide +kernel
theorem dX3_goOn_75 : decode cX3_goOn 75 = .ok (.iload 4, 2) := by decide +kernel
theorem dX3_goOn_77 : decode cX3_goOn 77 = .ok (.iadd, 1) := by decide +kernel
theorem dX3_goOn_78 : decode cX3_goOn 78 = .ok (.iload 7, 2) := by decide +kernel
theorem dX3_goOn_80 : decode cX3_goOn 80 = .ok (.iastore, 1) := by decide +kernel
theorem dX3_goOn_81 : decode cX3_goOn 81 = .ok (.aload_n 0, 1) := by decide +kernel
theorem dX3_goOn_82 : decode cX3_goOn 82 = .ok (.getfield 35, 3) := by decide +kernel
theorem dX3_goOn_85 : decode cX3_goOn 85 = .ok (.getfield 107, 3) := by decide +kernel
theorem dX3_goOn_88 : decode cX3_goOn 88 = .ok (.iconst 5, 1) := by decide +kernel
theorem dX3_goOn_89 : decode cX3_goOn 89 = .ok (.iload 4, 2) := by decide +kernel
theorem dX3_goOn_91 : decode cX3_goOn 91 = .ok (.iadd, 1) := by decide +kernel
theorem dX3_goOn_92 : decode cX3_goOn 92 = .ok (.aload_n 0, 1) := by decide +kernel
theorem dX3_goOn_93 : decode cX3_goOn 93 = .ok (.getfield 26, 3) := by decide +kernel
theorem dX3_goOn_96 : decode cX3_goOn 96 = .ok (.iload 8, 2) := by decide +kernel
theorem dX3_goOn_98 : decode cX3_goOn 98 = .ok (.iaload, 1) := by decide +kernel
theorem dX3_goOn_99 : decode cX3_goOn 99 = .ok (.iastore, 1) := by decide +kernel
theorem dX3_goOn_100 : decode cX3_goOn 100 = .ok (.aload_n 0, 1) := by decide +kernel
theorem dX3_goOn_101 : decode cX3_goOn 101 = .ok (.getfield 35, 3) := by decide +kernel
theorem dX3_goOn_104 : decode cX3_goOn 104 = .ok (.getfield 107, 3) := by decide +kernel
theorem dX3_goOn_107 : decode cX3_goOn 107 = .ok (.bipush 10, 2) := by decide +kernel
theorem dX3_goOn_109 : decode cX3_goOn 109 = .ok (.iload 4, 2) := by decide +kernel
theorem dX3_goOn_111 : decode cX3_goOn 111 = .ok (.iadd, 1) := by decide +kernel
theorem dX3_goOn_112 : decode cX3_goOn 112 = .ok (.aload_n 0, 1) := by decide +kernel
theorem dX3_goOn_113 : decode cX3_goOn 113 = .ok (.getfield 29, 3) := by decide +kernel
theorem dX3_goOn_116 : decode cX3_goOn 116 = .ok (.iload 8, 2) := by decide +kernel
theorem dX3_goOn_118 : decode cX3_goOn 118 = .ok (.iaload, 1) := by decide +kernel
theorem dX3_goOn_119 : decode cX3_goOn 119 = .ok (.iastore, 1) := by decide +kernel
theorem dX3_goOn_120 : decode cX3_goOn 120 = .ok (.aload_n 0, 1) := by decide +kernel
theorem dX3_goOn_121 : decode cX3_goOn 121 = .ok (.getfield 35, 3) := by decide +kernel
theorem dX3_goOn_124 : decode cX3_goOn 124 = .ok (.getfield 107, 3) := by decide +kernel
theorem dX3_goOn_127 : decode cX3_goOn 127 = .ok (.bipush 15, 2) := by decide +kernel
theorem dX3_goOn_129 : decode cX3_goOn 129 = .ok (.iload 4, 2) := by decide +kernel
theorem dX3_goOn_131 : decode cX3_goOn 131 = .ok (.iadd, 1) := by decide +kernel
theorem dX3_goOn_132 : decode cX3_goOn 132 = .ok (.iload_n 3, 1) := by decide +kernel
theorem dX3_goOn_133 : decode cX3_goOn 133 = .ok (.iastore, 1) := by decide +kernel
theorem dX3_goOn_134 : decode cX3_goOn 134 = .ok (.aload_n 0, 1) := by decide +kernel
theorem dX3_goOn_135 : decode cX3_goOn 135 = .ok (.getfield 35, 3) := by decide +kernel
theorem dX3_goOn_138 : decode cX3_goOn 138 = .ok (.getfield 107, 3) := by decide +kernel
theorem dX3_goOn_141 : decode cX3_goOn 141 = .ok (.bipush 20, 2) := by decide +kernel
theorem dX3_goOn_143 : decode cX3_goOn 143 = .ok (.iload 4, 2) := by decide +kernel
theorem dX3_goOn_145 : decode cX3_goOn 145 = .ok (.iadd, 1) := by decide +kernel
theorem dX3_goOn_146 : decode cX3_goOn 146 = .ok (.iload 9, 2) := by decide +kernel
theorem dX3_goOn_148 : decode cX3_goOn 148 = .ok (.iastore, 1) := by decide +kernel
theorem dX3_goOn_149 : decode cX3_goOn 149 = .ok (.iload 7, 2) := by decide +kernel
theorem dX3_goOn_151 : decode cX3_goOn 151 = .ok (.aload_n 0, 1) := by decide +kernel
theorem dX3_goOn_152 : decode cX3_goOn 152 = .ok (.getfield 38, 3) := by decide +kernel
theorem dX3_goOn_155 : decode cX3_goOn 155 = .ok (.if_icmp .ne 22, 3) := by decide +kernel
theorem dX3_goOn_158 : decode cX3_goOn 158 = .ok (.aload_n 0, 1) := by decide +kernel
theorem dX3_goOn_159 : decode cX3_goOn 159 = .ok (.aload_n 1, 1) := by decide +kernel
theorem dX3_goOn_160 : decode cX3_goOn 160 = .ok (.iload 4, 2) := by decide +kernel
theorem dX3_goOn_162 : decode cX3_goOn 162 = .ok (.iload_n 3, 1) := by decide +kernel
theorem dX3_goOn_163 : decode cX3_goOn 163 = .ok (.iload 9, 2) := by decide +kernel
theorem dX3_goOn_165 : decode cX3_goOn 165 = .ok (.isub, 1) := by decide +kernel
theorem dX3_goOn_166 : decode cX3_goOn 166 = .ok (.iload 6, 2) := by decide +kernel
theorem dX3_goOn_168 : decode cX3_goOn 168 = .ok (.iload 9, 2) := by decide +kernel
theorem dX3_goOn_170 : decode cX3_goOn 170 = .ok (.iadd, 1) := by decide +kernel
theorem dX3_goOn_171 : decode cX3_goOn 171 = .ok (.invokevirtual 108, 3) := by decide +kernel
theorem dX3_goOn_174 : decode cX3_goOn 174 = .ok (.goto 62, 3) := by decide +kernel
theorem dX3_goOn_177 : decode cX3_goOn 177 = .ok (.aload_n 0, 1) := by decide +kernel
theorem dX3_goOn_178 : decode cX3_goOn 178 = .ok (.aload_n 1, 1) := by decide +kernel
theorem dX3_goOn_179 : decode cX3_goOn 179 = .ok (.iload 4, 2) := by decide +kernel
theorem dX3_goOn_181 : decode cX3_goOn 181 = .ok (.aload_n 0, 1) := by decide +kernel
theorem dX3_goOn_182 : decode cX3_goOn 182 = .ok (.getfield 22, 3) := by decide +kernel
theorem dX3_goOn_185 : decode cX3_goOn 185 = .ok (.iload 8, 2) := by decide +kernel
theorem dX3_goOn_187 : decode cX3_goOn 187 = .ok (.iaload, 1) := by decide +kernel
theorem dX3_goOn_188 : decode cX3_goOn 188 = .ok (.invokevirtual 112, 3) := by decide +kernel
theorem dX3_goOn_191 : decode cX3_goOn 191 = .ok (.iload_n 3, 1) := by decide +kernel
theorem dX3_goOn_192 : decode cX3_goOn 192 = .ok (.iload 9, 2) := by decide +kernel
theorem dX3_goOn_194 : decode cX3_goOn 194 = .ok (.isub, 1) := by decide +kernel
theorem dX3_goOn_195 : decode cX3_goOn 195 = .ok (.aload_n 0, 1) := by decide +kernel
theorem dX3_goOn_196 : decode cX3_goOn 196 = .ok (.getfield 35, 3) := by decide +kernel
theorem dX3_goOn_199 : decode cX3_goOn 199 = .ok (.getfield 107, 3) := by decide +kernel
theorem dX3_goOn_202 : decode cX3_goOn 202 = .ok (.bipush 25, 2) := by decide +kernel
theorem dX3_goOn_204 : decode cX3_goOn 204 = .ok (.iload 4, 2) := by decide +kernel
theorem dX3_goOn_206 : decode cX3_goOn 206 = .ok (.iadd, 1) := by decide +kernel
theorem dX3_goOn_207 : decode cX3_goOn 207 = .ok (.iaload, 1) := by decide +kernel
theorem dX3_goOn_208 : decode cX3_goOn 208 = .ok (.isub, 1) := by decide +kernel
theorem dX3_goOn_209 : decode cX3_goOn 209 = .ok (.istore 10, 2) := by decide +kernel
theorem dX3_goOn_211 : decode cX3_goOn 211 = .ok (.aload_n 0, 1) := by decide +kernel
theorem dX3_goOn_212 : decode cX3_goOn 212 = .ok (.aload_n 1, 1) := by decide +kernel
theorem dX3_goOn_213 : decode cX3_goOn 213 = .ok (.iload 7, 2) := by decide +kernel
theorem dX3_goOn_215 : decode cX3_goOn 215 = .ok (.iload 10, 2) := by decide +kernel
theorem dX3_goOn_217 : decode cX3_goOn 217 = .ok (.iload 4, 2) := by decide +kernel
theorem dX3_goOn_219 : decode cX3_goOn 219 = .ok (.iconst 1, 1) := by decide +kernel
theorem dX3_goOn_220 : decode cX3_goOn 220 = .ok (.iadd, 1) := by decide +kernel
theorem dX3_goOn_221 : decode cX3_goOn 221 = .ok (.iload 5, 2) := by decide +kernel
theorem dX3_goOn_223 : decode cX3_goOn 223 = .ok (.iconst 1, 1) := by decide +kernel
theorem dX3_goOn_224 : decode cX3_goOn 224 = .ok (.iload 7, 2) := by decide +kernel
theorem dX3_goOn_226 : decode cX3_goOn 226 = .ok (.ishl, 1) := by decide +kernel
theorem dX3_goOn_227 : decode cX3_goOn 227 = .ok (.ior, 1) := by decide +kernel
theorem dX3_goOn_228 : decode cX3_goOn 228 = .ok (.iload 6, 2) := by decide +kernel
theorem dX3_goOn_230 : decode cX3_goOn 230 = .ok (.iload 9, 2) := by decide +kernel
theorem dX3_goOn_232 : decode cX3_goOn 232 = .ok (.iadd, 1) := by decide +kernel
theorem dX3_goOn_233 : decode cX3_goOn 233 = .ok (.invokevirtual 56, 3) := by decide +kernel
theorem dX3_goOn_236 : decode cX3_goOn 236 = .ok (.iinc 7 1, 3) := by decide +kernel
theorem dX3_goOn_239 : decode cX3_goOn 239 = .ok (.goto (-229), 3) := by decide +kernel
theorem dX3_goOn_242 : decode cX3_goOn 242 = .ok (.return_, 1) := by decide +kernel
set_option maxHeartbeats 4000000 in
set_option maxRecDepth 100000 in
theorem B_X3_goOn_0 {d : Nat} {ro : Nat → Nat} {J : JT} {Z : Option Value → Hp → Prop} (g : xCtx RX3 cX3_goOn 11 d 0 0 yX3_goOn.name ro J) (hr : xRet cX3_goOn none 0 0 Z J) {μ : Hp} {a0 : Nat} {a1 : Nat} {x2 : Int32} {x3 : Int32} {x4 : Int32} {x5 : Int32} {x6 : Int32} 
    (h : ((x4 < 5 → J μ 0 0 10 [(0, .ref a0), (1, .ref a1), (2, .int x2), (3, .int x3), (4, .int x4), (5, .int x5), (6, .int x6), (7, .int 0)] []) ∧ (¬ x4 < 5 → Z none μ))) :
    J μ 0 0 0 [(0, .ref a0), (1, .ref a1), (2, .int x2), (3, .int x3), (4, .int x4), (5, .int x5), (6, .int x6)] [] := by
  refine r_iload g dX3_goOn_0 rfl ?_
  refine r_iconst g 5 dX3_goOn_2 (by decide) ?_
  refine r_icmp_lt g 7 dX3_goOn_3 (by decide) (fun c1 => ?_) (fun c1 => ?_)
  · replace h := h.1 c1
    refine r_iconst g 0 dX3_goOn_7 (by decide) ?_
    refine r_istore g [(7, .int 0), (0, .ref a0), (1, .ref a1), (2, .int x2), (3, .int x3), (4, .int x4), (5, .int x5), (6, .int x6)] dX3_goOn_8 (by decide) rfl ?_
    refine r_sub g (lv' := [(0, .ref a0), (1, .ref a1), (2, .int x2), (3, .int x3), (4, .int x4), (5, .int x5), (6, .int x6), (7, .int 0)]) (⟨rfl, rfl, rfl, rfl, rfl, rfl, rfl, rfl, trivial⟩) ?_
    exact h
  · replace h := h.2 c1
    exact hr.1 rfl _ _ _ _ _ dX3_goOn_6 (Nat.le_refl 0) (Nat.le_refl 0) h
set_option maxHeartbeats 4000000 in
set_option maxRecDepth 100000 in
theorem B_X3_goOn_10 {d : Nat} {ro : Nat → Nat} {J : JT} {Z : Option Value → Hp → Prop} (g : xCtx RX3 cX3_goOn 11 d 0 0 yX3_goOn.name ro J) (hr : xRet cX3_goOn none 0 0 Z J) {μ : Hp} {a0 : Nat} {a1 : Nat} {x2 : Int32} {x3 : Int32} {x4 : Int32} {x5 : Int32} {x6 : Int32} {x7 : Int32} {a1_book : Nat} {a0_linkAt : Nat} {N_a0_linkAt : Nat} {a0_rateAt : Nat} {N_a0_rateAt : Nat} {a0_tried : Nat} {a0_tried_row : Nat} {N_a0_tried_row : Nat} {a0_articleAt : Nat} {N_a0_articleAt : Nat} (hs_a1 : hS μ a1 = some (12, 4)) (hr_a1_book : hR μ a1 1 = some a1_book) (hs_a1_book : hS μ a1_book = some (6, 9)) (hs_a0 : hS μ a0 = some (7, 9)) (hr_a0_linkAt : hR μ a0 2 = some a0_linkAt) (hs_a0_linkAt : hS μ a0_linkAt = some (0, N_a0_linkAt)) (hr_a0_rateAt : hR μ a0 3 = some a0_rateAt) (hs_a0_rateAt : hS μ a0_rateAt = some (0, N_a0_rateAt)) (hr_a0_tried : hR μ a0 6 = some a0_tried) (hs_a0_tried : hS μ a0_tried = some (13, 5)) (hr_a0_tried_row : hR μ a0_tried 0 = some a0_tried_row) (hs_a0_tried_row : hS μ a0_tried_row = some (0, N_a0_tried_row)) (hr_a0_articleAt : hR μ a0 4 = some a0_articleAt) (hs_a0_articleAt : hS μ a0_articleAt = some (0, N_a0_articleAt))
    (h : (((hI μ a1_book 6) ≤ x7 → Z none μ) ∧ (¬ (hI μ a1_book 6) ≤ x7 → vp_in ((x2 * 8) + x7) N_a0_linkAt ∧ (((hI μ a0_linkAt (((x2 * 8) + x7).toNatClampNeg)) = (-1) → J μ 0 0 10 [(0, .ref a0), (1, .ref a1), (2, .int x2), (3, .int x3), (4, .int x4), (5, .int x5), (6, .int x6), (7, .int (x7 + 1))] []) ∧ (¬ (hI μ a0_linkAt (((x2 * 8) + x7).toNatClampNeg)) = (-1) → ((¬ ((x5 >>> (x7 &&& 31)) &&& 1) = 0 → J μ 0 0 10 [(0, .ref a0), (1, .ref a1), (2, .int x2), (3, .int x3), (4, .int x4), (5, .int x5), (6, .int x6), (7, .int (x7 + 1))] []) ∧ (((x5 >>> (x7 &&& 31)) &&& 1) = 0 → vp_in ((x2 * 8) + x7) N_a0_rateAt ∧ vp_in (0 + x4) N_a0_tried_row ∧ (∀ v7 : Int32, v7 = (hI (wI μ a0_tried_row ((0 + x4).toNatClampNeg) x7) a0_rateAt (((x2 * 8) + x7).toNatClampNeg)) → vp_in (5 + x4) N_a0_tried_row ∧ vp_in ((x2 * 8) + x7) N_a0_articleAt ∧ (∀ v10 : Int32, v10 = (hI (wI (wI μ a0_tried_row ((0 + x4).toNatClampNeg) x7) a0_tried_row ((5 + x4).toNatClampNeg) v7) a0_articleAt (((x2 * 8) + x7).toNatClampNeg)) → vp_in (10 + x4) N_a0_tried_row ∧ vp_in (15 + x4) N_a0_tried_row ∧ vp_in (20 + x4) N_a0_tried_row ∧ (∀ v14 : Int32, v14 = (hI (wI (wI (wI (wI (wI μ a0_tried_row ((0 + x4).toNatClampNeg) x7) a0_tried_row ((5 + x4).toNatClampNeg) v7) a0_tried_row ((10 + x4).toNatClampNeg) v10) a0_tried_row ((15 + x4).toNatClampNeg) x3) a0_tried_row ((20 + x4).toNatClampNeg) ((x3 * (hI μ a0_rateAt (((x2 * 8) + x7).toNatClampNeg))) / 1000)) a0 7) → ((¬ x7 = v14 → (∀ v16 : Int32, v16 = (hI (wI (wI (wI (wI (wI μ a0_tried_row ((0 + x4).toNatClampNeg) x7) a0_tried_row ((5 + x4).toNatClampNeg) v7) a0_tried_row ((10 + x4).toNatClampNeg) v10) a0_tried_row ((15 + x4).toNatClampNeg) x3) a0_tried_row ((20 + x4).toNatClampNeg) ((x3 * (hI μ a0_rateAt (((x2 * 8) + x7).toNatClampNeg))) / 1000)) a0_linkAt (((x2 * 8) + x7).toNatClampNeg)) → xCall d yX3_taxStop cX3_taxStop 10 none [.ref a0, .ref a1, .int x4, .int v16] (wI (wI (wI (wI (wI μ a0_tried_row ((0 + x4).toNatClampNeg) x7) a0_tried_row ((5 + x4).toNatClampNeg) v7) a0_tried_row ((10 + x4).toNatClampNeg) v10) a0_tried_row ((15 + x4).toNatClampNeg) x3) a0_tried_row ((20 + x4).toNatClampNeg) ((x3 * (hI μ a0_rateAt (((x2 * 8) + x7).toNatClampNeg))) / 1000)) ro (fun r17 μ18 => r17 = none ∧ (∀ v19 : Int32, v19 = (x3 - ((x3 * (hI μ a0_rateAt (((x2 * 8) + x7).toNatClampNeg))) / 1000)) → hS μ18 a0 = some (7, 9) ∧ ∃ tried_20 : Nat, hR μ18 a0 6 = some tried_20 ∧ hS μ18 tried_20 = some (13, 5) ∧ ∃ row_21 : Nat, hR μ18 tried_20 0 = some row_21 ∧ ∃ N22 : Nat, hS μ18 row_21 = some (0, N22) ∧ vp_in (25 + x4) N22 ∧ (∀ v24 : Int32, v24 = (x6 + ((x3 * (hI μ a0_rateAt (((x2 * 8) + x7).toNatClampNeg))) / 1000)) → xCall d yX3_goOn cX3_goOn 11 none [.ref a0, .ref a1, .int x7, .int (v19 - (hI μ18 row_21 ((25 + x4).toNatClampNeg))), .int (x4 + 1), .int (x5 ||| (1 <<< (x7 &&& 31))), .int v24] μ18 ro (fun r25 μ26 => r25 = none ∧ J μ26 0 0 10 [(0, .ref a0), (1, .ref a1), (2, .int x2), (3, .int x3), (4, .int x4), (5, .int x5), (6, .int x6), (7, .int (x7 + 1))] [])))))) ∧ (x7 = v14 → (∀ v27 : Int32, v27 = (x3 - ((x3 * (hI μ a0_rateAt (((x2 * 8) + x7).toNatClampNeg))) / 1000)) → (∀ v28 : Int32, v28 = (x6 + ((x3 * (hI μ a0_rateAt (((x2 * 8) + x7).toNatClampNeg))) / 1000)) → xCall d yX3_arrive cX3_arrive 6 none [.ref a0, .ref a1, .int x4, .int v27, .int v28] (wI (wI (wI (wI (wI μ a0_tried_row ((0 + x4).toNatClampNeg) x7) a0_tried_row ((5 + x4).toNatClampNeg) v7) a0_tried_row ((10 + x4).toNatClampNeg) v10) a0_tried_row ((15 + x4).toNatClampNeg) x3) a0_tried_row ((20 + x4).toNatClampNeg) ((x3 * (hI μ a0_rateAt (((x2 * 8) + x7).toNatClampNeg))) / 1000)) ro (fun r29 μ30 => r29 = none ∧ J μ30 0 0 10 [(0, .ref a0), (1, .ref a1), (2, .int x2), (3, .int x3), (4, .int x4), (5, .int x5), (6, .int x6), (7, .int (x7 + 1))] []))))))))))))))) :
    J μ 0 0 10 [(0, .ref a0), (1, .ref a1), (2, .int x2), (3, .int x3), (4, .int x4), (5, .int x5), (6, .int x6), (7, .int x7)] [] := by
  refine r_iload g dX3_goOn_10 rfl ?_
  refine r_aload_n g dX3_goOn_12 rfl ?_
  refine r_getR g fX3_69 rfl hs_a1 hr_a1_book dX3_goOn_13 ?_
  refine r_getI g fX3_104 rfl hs_a1_book dX3_goOn_16 ?_
  refine r_icmp_ge g 242 dX3_goOn_19 (by decide) (fun c1 => ?_) (fun c1 => ?_)
  · replace h := h.1 c1
    exact hr.1 rfl _ _ _ _ _ dX3_goOn_242 (Nat.le_refl 0) (Nat.le_refl 0) h
  · replace h := h.2 c1
    refine r_iload_n g dX3_goOn_22 rfl ?_
    refine r_bipush g 8 dX3_goOn_23 (by decide) ?_
    refine r_imul g dX3_goOn_25 ?_
    refine r_iload g dX3_goOn_26 rfl ?_
    refine r_iadd g dX3_goOn_28 ?_
    refine r_istore g [(8, .int ((x2 * 8) + x7)), (0, .ref a0), (1, .ref a1), (2, .int x2), (3, .int x3), (4, .int x4), (5, .int x5), (6, .int x6), (7, .int x7)] dX3_goOn_29 (by decide) rfl ?_
    refine r_aload_n g dX3_goOn_31 rfl ?_
    refine r_getR g fX3_22 rfl hs_a0 hr_a0_linkAt dX3_goOn_32 ?_
    refine r_iload g dX3_goOn_35 rfl ?_
    obtain ⟨hi2, h⟩ := h
    refine r_iaload g hs_a0_linkAt hi2 dX3_goOn_37 ?_
    refine r_iconst g (-1) dX3_goOn_38 (by decide) ?_
    refine r_icmp_eq g 236 dX3_goOn_39 (by decide) (fun c3 => ?_) (fun c3 => ?_)
    · replace h := h.1 c3
      refine r_iinc g (x7 + 1) [(7, .int (x7 + 1)), (8, .int ((x2 * 8) + x7)), (0, .ref a0), (1, .ref a1), (2, .int x2), (3, .int x3), (4, .int x4), (5, .int x5), (6, .int x6)] dX3_goOn_236 rfl rfl (by decide) rfl ?_
      refine r_goto g 10 dX3_goOn_239 (by decide) ?_
      refine r_sub g (lv' := [(0, .ref a0), (1, .ref a1), (2, .int x2), (3, .int x3), (4, .int x4), (5, .int x5), (6, .int x6), (7, .int (x7 + 1))]) (⟨rfl, rfl, rfl, rfl, rfl, rfl, rfl, rfl, trivial⟩) ?_
      exact h
    · replace h := h.2 c3
      refine r_iload g dX3_goOn_42 rfl ?_
      refine r_iload g dX3_goOn_44 rfl ?_
      refine r_ishr g dX3_goOn_46 ?_
      refine r_iconst g 1 dX3_goOn_47 (by decide) ?_
      refine r_iand g dX3_goOn_48 ?_
      refine r_if_ne g 236 dX3_goOn_49 (by decide) (fun c4 => ?_) (fun c4 => ?_)
      · replace h := h.1 c4
        refine r_iinc g (x7 + 1) [(7, .int (x7 + 1)), (8, .int ((x2 * 8) + x7)), (0, .ref a0), (1, .ref a1), (2, .int x2), (3, .int x3), (4, .int x4), (5, .int x5), (6, .int x6)] dX3_goOn_236 rfl rfl (by decide) rfl ?_
        refine r_goto g 10 dX3_goOn_239 (by decide) ?_
        refine r_sub g (lv' := [(0, .ref a0), (1, .ref a1), (2, .int x2), (3, .int x3), (4, .int x4), (5, .int x5), (6, .int x6), (7, .int (x7 + 1))]) (⟨rfl, rfl, rfl, rfl, rfl, rfl, rfl, rfl, trivial⟩) ?_
        exact h
      · replace h := h.2 c4
        refine r_iload_n g dX3_goOn_52 rfl ?_
        refine r_aload_n g dX3_goOn_53 rfl ?_
        refine r_getR g fX3_26 rfl hs_a0 hr_a0_rateAt dX3_goOn_54 ?_
        refine r_iload g dX3_goOn_57 rfl ?_
        obtain ⟨hi5, h⟩ := h
        refine r_iaload g hs_a0_rateAt hi5 dX3_goOn_59 ?_
        refine r_imul g dX3_goOn_60 ?_
        refine r_sipush g 1000 dX3_goOn_61 (by decide) ?_
        refine r_idiv g (by decide) dX3_goOn_64 ?_
        refine r_istore g [(9, .int ((x3 * (hI μ a0_rateAt (((x2 * 8) + x7).toNatClampNeg))) / 1000)), (8, .int ((x2 * 8) + x7)), (0, .ref a0), (1, .ref a1), (2, .int x2), (3, .int x3), (4, .int x4), (5, .int x5), (6, .int x6), (7, .int x7)] dX3_goOn_65 (by decide) rfl ?_
        refine r_aload_n g dX3_goOn_67 rfl ?_
        refine r_getR g fX3_35 rfl hs_a0 hr_a0_tried dX3_goOn_68 ?_
        refine r_getR g fX3_107 rfl hs_a0_tried hr_a0_tried_row dX3_goOn_71 ?_
        refine r_iconst g 0 dX3_goOn_74 (by decide) ?_
        refine r_iload g dX3_goOn_75 rfl ?_
        refine r_iadd g dX3_goOn_77 ?_
        refine r_iload g dX3_goOn_78 rfl ?_
        obtain ⟨hi6, h⟩ := h
        refine r_iastore g hs_a0_tried_row hi6 dX3_goOn_80 ?_
        refine r_aload_n g dX3_goOn_81 rfl ?_
        refine r_getR g fX3_35 rfl hs_a0 hr_a0_tried dX3_goOn_82 ?_
        refine r_getR g fX3_107 rfl hs_a0_tried hr_a0_tried_row dX3_goOn_85 ?_
        refine r_iconst g 5 dX3_goOn_88 (by decide) ?_
        refine r_iload g dX3_goOn_89 rfl ?_
        refine r_iadd g dX3_goOn_91 ?_
        refine r_aload_n g dX3_goOn_92 rfl ?_
        refine r_getR g fX3_26 rfl hs_a0 hr_a0_rateAt dX3_goOn_93 ?_
        refine r_iload g dX3_goOn_96 rfl ?_
        refine r_iaload g hs_a0_rateAt hi5 dX3_goOn_98 ?_
        refine r_nmI (fun v7 ev7 => ?_)
        replace h := h v7 ev7
        obtain ⟨hi8, h⟩ := h
        refine r_iastore g hs_a0_tried_row hi8 dX3_goOn_99 ?_
        refine r_aload_n g dX3_goOn_100 rfl ?_
        refine r_getR g fX3_35 rfl hs_a0 hr_a0_tried dX3_goOn_101 ?_
        refine r_getR g fX3_107 rfl hs_a0_tried hr_a0_tried_row dX3_goOn_104 ?_
        refine r_bipush g 10 dX3_goOn_107 (by decide) ?_
        refine r_iload g dX3_goOn_109 rfl ?_
        refine r_iadd g dX3_goOn_111 ?_
        refine r_aload_n g dX3_goOn_112 rfl ?_
        refine r_getR g fX3_29 rfl hs_a0 hr_a0_articleAt dX3_goOn_113 ?_
        refine r_iload g dX3_goOn_116 rfl ?_
        obtain ⟨hi9, h⟩ := h
        refine r_iaload g hs_a0_articleAt hi9 dX3_goOn_118 ?_
        refine r_nmI (fun v10 ev10 => ?_)
        replace h := h v10 ev10
        obtain ⟨hi11, h⟩ := h
        refine r_iastore g hs_a0_tried_row hi11 dX3_goOn_119 ?_
        refine r_aload_n g dX3_goOn_120 rfl ?_
        refine r_getR g fX3_35 rfl hs_a0 hr_a0_tried dX3_goOn_121 ?_
        refine r_getR g fX3_107 rfl hs_a0_tried hr_a0_tried_row dX3_goOn_124 ?_
        refine r_bipush g 15 dX3_goOn_127 (by decide) ?_
        refine r_iload g dX3_goOn_129 rfl ?_
        refine r_iadd g dX3_goOn_131 ?_
        refine r_iload_n g dX3_goOn_132 rfl ?_
        obtain ⟨hi12, h⟩ := h
        refine r_iastore g hs_a0_tried_row hi12 dX3_goOn_133 ?_
        refine r_aload_n g dX3_goOn_134 rfl ?_
        refine r_getR g fX3_35 rfl hs_a0 hr_a0_tried dX3_goOn_135 ?_
        refine r_getR g fX3_107 rfl hs_a0_tried hr_a0_tried_row dX3_goOn_138 ?_
        refine r_bipush g 20 dX3_goOn_141 (by decide) ?_
        refine r_iload g dX3_goOn_143 rfl ?_
        refine r_iadd g dX3_goOn_145 ?_
        refine r_iload g dX3_goOn_146 rfl ?_
        obtain ⟨hi13, h⟩ := h
        refine r_iastore g hs_a0_tried_row hi13 dX3_goOn_148 ?_
        refine r_iload g dX3_goOn_149 rfl ?_
        refine r_aload_n g dX3_goOn_151 rfl ?_
        refine r_getI g fX3_38 rfl hs_a0 dX3_goOn_152 ?_
        refine r_nmI (fun v14 ev14 => ?_)
        replace h := h v14 ev14
        refine r_icmp_ne g 177 dX3_goOn_155 (by decide) (fun c15 => ?_) (fun c15 => ?_)
        · replace h := h.1 c15
          refine r_aload_n g dX3_goOn_177 rfl ?_
          refine r_aload_n g dX3_goOn_178 rfl ?_
          refine r_iload g dX3_goOn_179 rfl ?_
          refine r_aload_n g dX3_goOn_181 rfl ?_
          refine r_getR g fX3_22 rfl hs_a0 hr_a0_linkAt dX3_goOn_182 ?_
          refine r_iload g dX3_goOn_185 rfl ?_
          refine r_iaload g hs_a0_linkAt hi2 dX3_goOn_187 ?_
          refine r_nmI (fun v16 ev16 => ?_)
          replace h := h v16 ev16
          obtain ⟨d1, Z1, hc1, hd1, h1⟩ := h
          refine r_callV (st := []) (As := [.ref a1, .int x4, .int v16]) g sX3_112 iX3_taxStop eX3_taxStop rfl hs_a0 rfl (Nat.le_of_ble_eq_true rfl) dX3_goOn_188 hd1 (Nat.le_refl 0) (Nat.le_refl 0) hc1 (fun r17 μ18 hZ1 => ?_)
          replace h := h1 _ _ hZ1
          clear h1 hc1 hd1 hZ1 Z1 d1
          obtain ⟨rfl, h⟩ := h
          refine r_iload_n g dX3_goOn_191 rfl ?_
          refine r_iload g dX3_goOn_192 rfl ?_
          refine r_isub g dX3_goOn_194 ?_
          refine r_nmI (fun v19 ev19 => ?_)
          replace h := h v19 ev19
          refine r_aload_n g dX3_goOn_195 rfl ?_
          obtain ⟨hs_a0_, h⟩ := h
          obtain ⟨tried_20, hr_tried_20, h⟩ := h
          refine r_getR g fX3_35 rfl hs_a0_ hr_tried_20 dX3_goOn_196 ?_
          obtain ⟨hs_tried_20, h⟩ := h
          obtain ⟨row_21, hr_row_21, h⟩ := h
          refine r_getR g fX3_107 rfl hs_tried_20 hr_row_21 dX3_goOn_199 ?_
          refine r_bipush g 25 dX3_goOn_202 (by decide) ?_
          refine r_iload g dX3_goOn_204 rfl ?_
          refine r_iadd g dX3_goOn_206 ?_
          obtain ⟨N22, hs_row_21, h⟩ := h
          obtain ⟨hi23, h⟩ := h
          refine r_iaload g hs_row_21 hi23 dX3_goOn_207 ?_
          refine r_isub g dX3_goOn_208 ?_
          refine r_istore g [(10, .int (v19 - (hI μ18 row_21 ((25 + x4).toNatClampNeg)))), (9, .int ((x3 * (hI μ a0_rateAt (((x2 * 8) + x7).toNatClampNeg))) / 1000)), (8, .int ((x2 * 8) + x7)), (0, .ref a0), (1, .ref a1), (2, .int x2), (3, .int x3), (4, .int x4), (5, .int x5), (6, .int x6), (7, .int x7)] dX3_goOn_209 (by decide) rfl ?_
          refine r_aload_n g dX3_goOn_211 rfl ?_
          refine r_aload_n g dX3_goOn_212 rfl ?_
          refine r_iload g dX3_goOn_213 rfl ?_
          refine r_iload g dX3_goOn_215 rfl ?_
          refine r_iload g dX3_goOn_217 rfl ?_
          refine r_iconst g 1 dX3_goOn_219 (by decide) ?_
          refine r_iadd g dX3_goOn_220 ?_
          refine r_iload g dX3_goOn_221 rfl ?_
          refine r_iconst g 1 dX3_goOn_223 (by decide) ?_
          refine r_iload g dX3_goOn_224 rfl ?_
          refine r_ishl g dX3_goOn_226 ?_
          refine r_ior g dX3_goOn_227 ?_
          refine r_iload g dX3_goOn_228 rfl ?_
          refine r_iload g dX3_goOn_230 rfl ?_
          refine r_iadd g dX3_goOn_232 ?_
          refine r_nmI (fun v24 ev24 => ?_)
          replace h := h v24 ev24
          obtain ⟨d1, Z1, hc1, hd1, h1⟩ := h
          refine r_callV (st := []) (As := [.ref a1, .int x7, .int (v19 - (hI μ18 row_21 ((25 + x4).toNatClampNeg))), .int (x4 + 1), .int (x5 ||| (1 <<< (x7 &&& 31))), .int v24]) g sX3_56 iX3_goOn eX3_goOn rfl hs_a0_ rfl (Nat.le_of_ble_eq_true rfl) dX3_goOn_233 hd1 (Nat.le_refl 0) (Nat.le_refl 0) hc1 (fun r25 μ26 hZ1 => ?_)
          replace h := h1 _ _ hZ1
          clear h1 hc1 hd1 hZ1 Z1 d1
          obtain ⟨rfl, h⟩ := h
          refine r_iinc g (x7 + 1) [(7, .int (x7 + 1)), (10, .int (v19 - (hI μ18 row_21 ((25 + x4).toNatClampNeg)))), (9, .int ((x3 * (hI μ a0_rateAt (((x2 * 8) + x7).toNatClampNeg))) / 1000)), (8, .int ((x2 * 8) + x7)), (0, .ref a0), (1, .ref a1), (2, .int x2), (3, .int x3), (4, .int x4), (5, .int x5), (6, .int x6)] dX3_goOn_236 rfl rfl (by decide) rfl ?_
          refine r_goto g 10 dX3_goOn_239 (by decide) ?_
          refine r_sub g (lv' := [(0, .ref a0), (1, .ref a1), (2, .int x2), (3, .int x3), (4, .int x4), (5, .int x5), (6, .int x6), (7, .int (x7 + 1))]) (⟨rfl, rfl, rfl, rfl, rfl, rfl, rfl, rfl, trivial⟩) ?_
          exact h
        · replace h := h.2 c15
          refine r_aload_n g dX3_goOn_158 rfl ?_
          refine r_aload_n g dX3_goOn_159 rfl ?_
          refine r_iload g dX3_goOn_160 rfl ?_
          refine r_iload_n g dX3_goOn_162 rfl ?_
          refine r_iload g dX3_goOn_163 rfl ?_
          refine r_isub g dX3_goOn_165 ?_
          refine r_nmI (fun v27 ev27 => ?_)
          replace h := h v27 ev27
          refine r_iload g dX3_goOn_166 rfl ?_
          refine r_iload g dX3_goOn_168 rfl ?_
          refine r_iadd g dX3_goOn_170 ?_
          refine r_nmI (fun v28 ev28 => ?_)
          replace h := h v28 ev28
          obtain ⟨d1, Z1, hc1, hd1, h1⟩ := h
          refine r_callV (st := []) (As := [.ref a1, .int x4, .int v27, .int v28]) g sX3_108 iX3_arrive eX3_arrive rfl hs_a0 rfl (Nat.le_of_ble_eq_true rfl) dX3_goOn_171 hd1 (Nat.le_refl 0) (Nat.le_refl 0) hc1 (fun r29 μ30 hZ1 => ?_)
          replace h := h1 _ _ hZ1
          clear h1 hc1 hd1 hZ1 Z1 d1
          obtain ⟨rfl, h⟩ := h
          refine r_goto g 236 dX3_goOn_174 (by decide) ?_
          refine r_iinc g (x7 + 1) [(7, .int (x7 + 1)), (9, .int ((x3 * (hI μ a0_rateAt (((x2 * 8) + x7).toNatClampNeg))) / 1000)), (8, .int ((x2 * 8) + x7)), (0, .ref a0), (1, .ref a1), (2, .int x2), (3, .int x3), (4, .int x4), (5, .int x5), (6, .int x6)] dX3_goOn_236 rfl rfl (by decide) rfl ?_
          refine r_goto g 10 dX3_goOn_239 (by decide) ?_
          refine r_sub g (lv' := [(0, .ref a0), (1, .ref a1), (2, .int x2), (3, .int x3), (4, .int x4), (5, .int x5), (6, .int x6), (7, .int (x7 + 1))]) (⟨rfl, rfl, rfl, rfl, rfl, rfl, rfl, rfl, trivial⟩) ?_
          exact h
theorem I_X3_goOn {d : Nat} {ro : Nat → Nat} {Z : Option Value → Hp → Prop} {μ : Hp} {a0 : Nat} {a1 : Nat} {x2 : Int32} {x3 : Int32} {x4 : Int32} {x5 : Int32} {x6 : Int32} (h : ∀ J, xCtx RX3 cX3_goOn 11 d 0 0 yX3_goOn.name ro J → xRet cX3_goOn none 0 0 Z J → J μ 0 0 0 [(0, .ref a0), (1, .ref a1), (2, .int x2), (3, .int x3), (4, .int x4), (5, .int x5), (6, .int x6)] []) : xC d yX3_goOn cX3_goOn 11 none 0 0 [.ref a0, .ref a1, .int x2, .int x3, .int x4, .int x5, .int x6] μ ro Z :=
  xC_intro (own := RX3) (lv := [(0, .ref a0), (1, .ref a1), (2, .int x2), (3, .int x3), (4, .int x4), (5, .int x5), (6, .int x6)]) (by decide) rfl (Nat.le_of_ble_eq_true rfl) rfl (fun J g hr => r_sub g (lv' := [(0, .ref a0), (1, .ref a1), (2, .int x2), (3, .int x3), (4, .int x4), (5, .int x5), (6, .int x6)]) (⟨rfl, rfl, rfl, rfl, rfl, rfl, rfl, trivial⟩) (h J g hr))
theorem dX3_taxStop_0 : decode cX3_taxStop 0 = .ok (.aload_n 0, 1) := by decide +kernel
theorem dX3_taxStop_1 : decode cX3_taxStop 1 = .ok (.getfield 35, 3) := by decide +kernel
theorem dX3_taxStop_4 : decode cX3_taxStop 4 = .ok (.getfield 107, 3) := by decide +kernel
theorem dX3_taxStop_7 : decode cX3_taxStop 7 = .ok (.iconst 0, 1) := by decide +kernel
theorem dX3_taxStop_8 : decode cX3_taxStop 8 = .ok (.iload_n 2, 1) := by decide +kernel
theorem dX3_taxStop_9 : decode cX3_taxStop 9 = .ok (.iadd, 1) := by decide +kernel
theorem dX3_taxStop_10 : decode cX3_taxStop 10 = .ok (.iaload, 1) := by decide +kernel
theorem dX3_taxStop_11 : decode cX3_taxStop 11 = .ok (.istore 4, 2) := by decide +kernel
theorem dX3_taxStop_13 : decode cX3_taxStop 13 = .ok (.iconst 0, 1) := by decide +kernel
theorem dX3_taxStop_14 : decode cX3_taxStop 14 = .ok (.istore 5, 2) := by decide +kernel
theorem dX3_taxStop_16 : decode cX3_taxStop 16 = .ok (.aload_n 1, 1) := by decide +kernel
theorem dX3_taxStop_17 : decode cX3_taxStop 17 = .ok (.getfield 64, 3) := by decide +kernel
theorem dX3_taxStop_20 : decode cX3_taxStop 20 = .ok (.bipush 10, 2) := by decide +kernel
theorem dX3_taxStop_22 : decode cX3_taxStop 22 = .ok (.iload 4, 2) := by decide +kernel
theorem dX3_taxStop_24 : decode cX3_taxStop 24 = .ok (.iadd, 1) := by decide +kernel
theorem dX3_taxStop_25 : decode cX3_taxStop 25 = .ok (.iaload, 1) := by decide +kernel
theorem dX3_taxStop_26 : decode cX3_taxStop 26 = .ok (.istore 6, 2) := by decide +kernel
theorem dX3_taxStop_28 : decode cX3_taxStop 28 = .ok (.aload_n 1, 1) := by decide +kernel
theorem dX3_taxStop_29 : decode cX3_taxStop 29 = .ok (.getfield 64, 3) := by decide +kernel
theorem dX3_taxStop_32 : decode cX3_taxStop 32 = .ok (.bipush 32, 2) := by decide +kernel
theorem dX3_taxStop_34 : decode cX3_taxStop 34 = .ok (.iload_n 3, 1) := by decide +kernel
theorem dX3_taxStop_35 : decode cX3_taxStop 35 = .ok (.iadd, 1) := by decide +kernel
theorem dX3_taxStop_36 : decode cX3_taxStop 36 = .ok (.iaload, 1) := by decide +kernel
theorem dX3_taxStop_37 : decode cX3_taxStop 37 = .ok (.iconst 1, 1) := by decide +kernel
theorem dX3_taxStop_38 : decode cX3_taxStop 38 = .ok (.if_icmp .eq 17, 3) := by decide +kernel
theorem dX3_taxStop_41 : decode cX3_taxStop 41 = .ok (.aload_n 1, 1) := by decide +kernel
theorem dX3_taxStop_42 : decode cX3_taxStop 42 = .ok (.getfield 64, 3) := by decide +kernel
theorem dX3_taxStop_45 : decode cX3_taxStop 45 = .ok (.bipush 80, 2) := by decide +kernel
theorem dX3_taxStop_47 : decode cX3_taxStop 47 = .ok (.iload_n 3, 1) := by decide +kernel
theorem dX3_taxStop_48 : decode cX3_taxStop 48 = .ok (.iadd, 1) := by decide +kernel
theorem dX3_taxStop_49 : decode cX3_taxStop 49 = .ok (.iaload, 1) := by decide +kernel
theorem dX3_taxStop_50 : decode cX3_taxStop 50 = .ok (.bipush 25, 2) := by decide +kernel
theorem dX3_taxStop_52 : decode cX3_taxStop 52 = .ok (.if_icmp .ge 88, 3) := by decide +kernel
theorem dX3_taxStop_55 : decode cX3_taxStop 55 = .ok (.aload_n 0, 1) := by decide +kernel
theorem dX3_taxStop_56 : decode cX3_taxStop 56 = .ok (.getfield 35, 3) := by decide +kernel
theorem dX3_taxStop_59 : decode cX3_taxStop 59 = .ok (.getfield 107, 3) := by decide +kernel
theorem dX3_taxStop_62 : decode cX3_taxStop 62 = .ok (.bipush 15, 2) := by decide +kernel
theorem dX3_taxStop_64 : decode cX3_taxStop 64 = .ok (.iload_n 2, 1) := by decide +kernel
theorem dX3_taxStop_65 : decode cX3_taxStop 65 = .ok (.iadd, 1) := by decide +kernel
theorem dX3_taxStop_66 : decode cX3_taxStop 66 = .ok (.iaload, 1) := by decide +kernel
theorem dX3_taxStop_67 : decode cX3_taxStop 67 = .ok (.aload_n 1, 1) := by decide +kernel
theorem dX3_taxStop_68 : decode cX3_taxStop 68 = .ok (.getfield 69, 3) := by decide +kernel
theorem dX3_taxStop_71 : decode cX3_taxStop 71 = .ok (.getfield 101, 3) := by decide +kernel
theorem dX3_taxStop_74 : decode cX3_taxStop 74 = .ok (.bipush 12, 2) := by decide +kernel
theorem dX3_taxStop_76 : decode cX3_taxStop 76 = .ok (.aload_n 1, 1) := by decide +kernel
theorem dX3_taxStop_77 : decode cX3_taxStop 77 = .ok (.getfield 69, 3) := by decide +kernel
theorem dX3_taxStop_80 : decode cX3_taxStop 80 = .ok (.getfield 73, 3) := by decide +kernel
theorem dX3_taxStop_83 : decode cX3_taxStop 83 = .ok (.iload 4, 2) := by decide +kernel
theorem dX3_taxStop_85 : decode cX3_taxStop 85 = .ok (.iaload, 1) := by decide +kernel
theorem dX3_taxStop_86 : decode cX3_taxStop 86 = .ok (.iadd, 1) := by decide +kernel
theorem dX3_taxStop_87 : decode cX3_taxStop 87 = .ok (.iaload, 1) := by decide +kernel
theorem dX3_taxStop_88 : decode cX3_taxStop 88 = .ok (.imul, 1) := by decide +kernel
theorem dX3_taxStop_89 : decode cX3_taxStop 89 = .ok (.sipush 1000, 3) := by decide +kernel
theorem dX3_taxStop_92 : decode cX3_taxStop 92 = .ok (.idiv, 1) := by decide +kernel
theorem dX3_taxStop_93 : decode cX3_taxStop 93 = .ok (.istore 7, 2) := by decide +kernel
theorem dX3_taxStop_95 : decode cX3_taxStop 95 = .ok (.aload_n 0, 1) := by decide +kernel
theorem dX3_taxStop_96 : decode cX3_taxStop 96 = .ok (.getfield 35, 3) := by decide +kernel
theorem dX3_taxStop_99 : decode cX3_taxStop 99 = .ok (.getfield 107, 3) := by decide +kernel
theorem dX3_taxStop_102 : decode cX3_taxStop 102 = .ok (.bipush 20, 2) := by decide +kernel
theorem dX3_taxStop_104 : decode cX3_taxStop 104 = .ok (.iload_n 2, 1) := by decide +kernel
theorem dX3_taxStop_105 : decode cX3_taxStop 105 = .ok (.iadd, 1) := by decide +kernel
theorem dX3_taxStop_106 : decode cX3_taxStop 106 = .ok (.iaload, 1) := by decide +kernel
theorem dX3_taxStop_107 : decode cX3_taxStop 107 = .ok (.iload 6, 2) := by decide +kernel
theorem dX3_taxStop_109 : decode cX3_taxStop 109 = .ok (.iadd, 1) := by decide +kernel
theorem dX3_taxStop_110 : decode cX3_taxStop 110 = .ok (.istore 8, 2) := by decide +kernel
theorem dX3_taxStop_112 : decode cX3_taxStop 112 = .ok (.iload 7, 2) := by decide +kernel
theorem dX3_taxStop_114 : decode cX3_taxStop 114 = .ok (.iload 8, 2) := by decide +kernel
theorem dX3_taxStop_116 : decode cX3_taxStop 116 = .ok (.invokestatic 115, 3) := by decide +kernel
theorem dX3_taxStop_119 : decode cX3_taxStop 119 = .ok (.istore 9, 2) := by decide +kernel
theorem dX3_taxStop_121 : decode cX3_taxStop 121 = .ok (.iload 7, 2) := by decide +kernel
theorem dX3_taxStop_123 : decode cX3_taxStop 123 = .ok (.iload 9, 2) := by decide +kernel
theorem dX3_taxStop_125 : decode cX3_taxStop 125 = .ok (.isub, 1) := by decide +kernel
theorem dX3_taxStop_126 : decode cX3_taxStop 126 = .ok (.istore 5, 2) := by decide +kernel
theorem dX3_taxStop_128 : decode cX3_taxStop 128 = .ok (.iload 8, 2) := by decide +kernel
theorem dX3_taxStop_130 : decode cX3_taxStop 130 = .ok (.iload 9, 2) := by decide +kernel
theorem dX3_taxStop_132 : decode cX3_taxStop 132 = .ok (.isub, 1) := by decide +kernel
theorem dX3_taxStop_133 : decode cX3_taxStop 133 = .ok (.ldc 121, 2) := by decide +kernel
theorem dX3_taxStop_135 : decode cX3_taxStop 135 = .ok (.invokestatic 115, 3) := by decide +kernel
theorem dX3_taxStop_138 : decode cX3_taxStop 138 = .ok (.istore 6, 2) := by decide +kernel
theorem dX3_taxStop_140 : decode cX3_taxStop 140 = .ok (.aload_n 0, 1) := by decide +kernel
theorem dX3_taxStop_141 : decode cX3_taxStop 141 = .ok (.getfield 35, 3) := by decide +kernel
theorem dX3_taxStop_144 : decode cX3_taxStop 144 = .ok (.getfield 107, 3) := by decide +kernel
theorem dX3_taxStop_147 : decode cX3_taxStop 147 = .ok (.bipush 25, 2) := by decide +kernel
theorem dX3_taxStop_149 : decode cX3_taxStop 149 = .ok (.iload_n 2, 1) := by decide +kernel
theorem dX3_taxStop_150 : decode cX3_taxStop 150 = .ok (.iadd, 1) := by decide +kernel
theorem dX3_taxStop_151 : decode cX3_taxStop 151 = .ok (.iload 5, 2) := by decide +kernel
theorem dX3_taxStop_153 : decode cX3_taxStop 153 = .ok (.iastore, 1) := by decide +kernel
theorem dX3_taxStop_154 : decode cX3_taxStop 154 = .ok (.aload_n 0, 1) := by decide +kernel
theorem dX3_taxStop_155 : decode cX3_taxStop 155 = .ok (.getfield 35, 3) := by decide +kernel
theorem dX3_taxStop_158 : decode cX3_taxStop 158 = .ok (.getfield 107, 3) := by decide +kernel
theorem dX3_taxStop_161 : decode cX3_taxStop 161 = .ok (.bipush 30, 2) := by decide +kernel
theorem dX3_taxStop_163 : decode cX3_taxStop 163 = .ok (.iload_n 2, 1) := by decide +kernel
theorem dX3_taxStop_164 : decode cX3_taxStop 164 = .ok (.iadd, 1) := by decide +kernel
theorem dX3_taxStop_165 : decode cX3_taxStop 165 = .ok (.iload 6, 2) := by decide +kernel
theorem dX3_taxStop_167 : decode cX3_taxStop 167 = .ok (.iastore, 1) := by decide +kernel
theorem dX3_taxStop_168 : decode cX3_taxStop 168 = .ok (.return_, 1) := by decide +kernel
set_option maxHeartbeats 4000000 in
set_option maxRecDepth 100000 in
theorem B_X3_taxStop_0 {d : Nat} {ro : Nat → Nat} {J : JT} {Z : Option Value → Hp → Prop} (g : xCtx RX3 cX3_taxStop 10 d 0 0 yX3_taxStop.name ro J) (hr : xRet cX3_taxStop none 0 0 Z J) {μ : Hp} {a0 : Nat} {a1 : Nat} {x2 : Int32} {x3 : Int32} {a0_tried : Nat} {a0_tried_row : Nat} {N_a0_tried_row : Nat} {a1_row : Nat} {N_a1_row : Nat} (hs_a0 : hS μ a0 = some (7, 9)) (hr_a0_tried : hR μ a0 6 = some a0_tried) (hs_a0_tried : hS μ a0_tried = some (13, 5)) (hr_a0_tried_row : hR μ a0_tried 0 = some a0_tried_row) (hs_a0_tried_row : hS μ a0_tried_row = some (0, N_a0_tried_row)) (hs_a1 : hS μ a1 = some (12, 4)) (hr_a1_row : hR μ a1 0 = some a1_row) (hs_a1_row : hS μ a1_row = some (0, N_a1_row))
    (h : vp_in (0 + x2) N_a0_tried_row ∧ vp_in (10 + (hI μ a0_tried_row ((0 + x2).toNatClampNeg))) N_a1_row ∧ (∀ v3 : Int32, v3 = (hI μ a1_row ((10 + (hI μ a0_tried_row ((0 + x2).toNatClampNeg))).toNatClampNeg)) → vp_in (32 + x3) N_a1_row ∧ (((hI μ a1_row ((32 + x3).toNatClampNeg)) = 1 → J μ 0 0 55 [(0, .ref a0), (1, .ref a1), (2, .int x2), (4, .int (hI μ a0_tried_row ((0 + x2).toNatClampNeg))), (6, .int v3)] []) ∧ (¬ (hI μ a1_row ((32 + x3).toNatClampNeg)) = 1 → vp_in (80 + x3) N_a1_row ∧ ((25 ≤ (hI μ a1_row ((80 + x3).toNatClampNeg)) → vp_in (25 + x2) N_a0_tried_row ∧ vp_in (30 + x2) N_a0_tried_row ∧ Z none (wI (wI μ a0_tried_row ((25 + x2).toNatClampNeg) 0) a0_tried_row ((30 + x2).toNatClampNeg) v3)) ∧ (¬ 25 ≤ (hI μ a1_row ((80 + x3).toNatClampNeg)) → J μ 0 0 55 [(0, .ref a0), (1, .ref a1), (2, .int x2), (4, .int (hI μ a0_tried_row ((0 + x2).toNatClampNeg))), (6, .int v3)] [])))))) :
    J μ 0 0 0 [(0, .ref a0), (1, .ref a1), (2, .int x2), (3, .int x3)] [] := by
  refine r_aload_n g dX3_taxStop_0 rfl ?_
  refine r_getR g fX3_35 rfl hs_a0 hr_a0_tried dX3_taxStop_1 ?_
  refine r_getR g fX3_107 rfl hs_a0_tried hr_a0_tried_row dX3_taxStop_4 ?_
  refine r_iconst g 0 dX3_taxStop_7 (by decide) ?_
  refine r_iload_n g dX3_taxStop_8 rfl ?_
  refine r_iadd g dX3_taxStop_9 ?_
  obtain ⟨hi1, h⟩ := h
  refine r_iaload g hs_a0_tried_row hi1 dX3_taxStop_10 ?_
  refine r_istore g [(4, .int (hI μ a0_tried_row ((0 + x2).toNatClampNeg))), (0, .ref a0), (1, .ref a1), (2, .int x2), (3, .int x3)] dX3_taxStop_11 (by decide) rfl ?_
  refine r_iconst g 0 dX3_taxStop_13 (by decide) ?_
  refine r_istore g [(5, .int 0), (4, .int (hI μ a0_tried_row ((0 + x2).toNatClampNeg))), (0, .ref a0), (1, .ref a1), (2, .int x2), (3, .int x3)] dX3_taxStop_14 (by decide) rfl ?_
  refine r_aload_n g dX3_taxStop_16 rfl ?_
  refine r_getR g fX3_64 rfl hs_a1 hr_a1_row dX3_taxStop_17 ?_
  refine r_bipush g 10 dX3_taxStop_20 (by decide) ?_
  refine r_iload g dX3_taxStop_22 rfl ?_
  refine r_iadd g dX3_taxStop_24 ?_
  obtain ⟨hi2, h⟩ := h
  refine r_iaload g hs_a1_row hi2 dX3_taxStop_25 ?_
  refine r_nmI (fun v3 ev3 => ?_)
  replace h := h v3 ev3
  refine r_istore g [(6, .int v3), (5, .int 0), (4, .int (hI μ a0_tried_row ((0 + x2).toNatClampNeg))), (0, .ref a0), (1, .ref a1), (2, .int x2), (3, .int x3)] dX3_taxStop_26 (by decide) rfl ?_
  refine r_aload_n g dX3_taxStop_28 rfl ?_
  refine r_getR g fX3_64 rfl hs_a1 hr_a1_row dX3_taxStop_29 ?_
  refine r_bipush g 32 dX3_taxStop_32 (by decide) ?_
  refine r_iload_n g dX3_taxStop_34 rfl ?_
  refine r_iadd g dX3_taxStop_35 ?_
  obtain ⟨hi4, h⟩ := h
  refine r_iaload g hs_a1_row hi4 dX3_taxStop_36 ?_
  refine r_iconst g 1 dX3_taxStop_37 (by decide) ?_
  refine r_icmp_eq g 55 dX3_taxStop_38 (by decide) (fun c5 => ?_) (fun c5 => ?_)
  · replace h := h.1 c5
    refine r_sub g (lv' := [(0, .ref a0), (1, .ref a1), (2, .int x2), (4, .int (hI μ a0_tried_row ((0 + x2).toNatClampNeg))), (6, .int v3)]) (⟨rfl, rfl, rfl, rfl, rfl, trivial⟩) ?_
    exact h
  · replace h := h.2 c5
    refine r_aload_n g dX3_taxStop_41 rfl ?_
    refine r_getR g fX3_64 rfl hs_a1 hr_a1_row dX3_taxStop_42 ?_
    refine r_bipush g 80 dX3_taxStop_45 (by decide) ?_
    refine r_iload_n g dX3_taxStop_47 rfl ?_
    refine r_iadd g dX3_taxStop_48 ?_
    obtain ⟨hi6, h⟩ := h
    refine r_iaload g hs_a1_row hi6 dX3_taxStop_49 ?_
    refine r_bipush g 25 dX3_taxStop_50 (by decide) ?_
    refine r_icmp_ge g 140 dX3_taxStop_52 (by decide) (fun c7 => ?_) (fun c7 => ?_)
    · replace h := h.1 c7
      refine r_aload_n g dX3_taxStop_140 rfl ?_
      refine r_getR g fX3_35 rfl hs_a0 hr_a0_tried dX3_taxStop_141 ?_
      refine r_getR g fX3_107 rfl hs_a0_tried hr_a0_tried_row dX3_taxStop_144 ?_
      refine r_bipush g 25 dX3_taxStop_147 (by decide) ?_
      refine r_iload_n g dX3_taxStop_149 rfl ?_
      refine r_iadd g dX3_taxStop_150 ?_
      refine r_iload g dX3_taxStop_151 rfl ?_
      obtain ⟨hi8, h⟩ := h
      refine r_iastore g hs_a0_tried_row hi8 dX3_taxStop_153 ?_
      refine r_aload_n g dX3_taxStop_154 rfl ?_
      refine r_getR g fX3_35 rfl hs_a0 hr_a0_tried dX3_taxStop_155 ?_
      refine r_getR g fX3_107 rfl hs_a0_tried hr_a0_tried_row dX3_taxStop_158 ?_
      refine r_bipush g 30 dX3_taxStop_161 (by decide) ?_
      refine r_iload_n g dX3_taxStop_163 rfl ?_
      refine r_iadd g dX3_taxStop_164 ?_
      refine r_iload g dX3_taxStop_165 rfl ?_
      obtain ⟨hi9, h⟩ := h
      refine r_iastore g hs_a0_tried_row hi9 dX3_taxStop_167 ?_
      exact hr.1 rfl _ _ _ _ _ dX3_taxStop_168 (Nat.le_refl 0) (Nat.le_refl 0) h
    · replace h := h.2 c7
      refine r_sub g (lv' := [(0, .ref a0), (1, .ref a1), (2, .int x2), (4, .int (hI μ a0_tried_row ((0 + x2).toNatClampNeg))), (6, .int v3)]) (⟨rfl, rfl, rfl, rfl, rfl, trivial⟩) ?_
      exact h
set_option maxHeartbeats 4000000 in
set_option maxRecDepth 100000 in
theorem B_X3_taxStop_55 {d : Nat} {ro : Nat → Nat} {J : JT} {Z : Option Value → Hp → Prop} (g : xCtx RX3 cX3_taxStop 10 d 0 0 yX3_taxStop.name ro J) (hr : xRet cX3_taxStop none 0 0 Z J) {μ : Hp} {a0 : Nat} {a1 : Nat} {x2 : Int32} {x4 : Int32} {x6 : Int32} {a0_tried : Nat} {a0_tried_row : Nat} {N_a0_tried_row : Nat} {a1_book : Nat} {a1_book_laws : Nat} {a1_book_landOf : Nat} {N_a1_book_landOf : Nat} {N_a1_book_laws : Nat} (hs_a0 : hS μ a0 = some (7, 9)) (hr_a0_tried : hR μ a0 6 = some a0_tried) (hs_a0_tried : hS μ a0_tried = some (13, 5)) (hr_a0_tried_row : hR μ a0_tried 0 = some a0_tried_row) (hs_a0_tried_row : hS μ a0_tried_row = some (0, N_a0_tried_row)) (hs_a1 : hS μ a1 = some (12, 4)) (hr_a1_book : hR μ a1 1 = some a1_book) (hs_a1_book : hS μ a1_book = some (6, 9)) (hr_a1_book_laws : hR μ a1_book 2 = some a1_book_laws) (hr_a1_book_landOf : hR μ a1_book 3 = some a1_book_landOf) (hs_a1_book_landOf : hS μ a1_book_landOf = some (0, N_a1_book_landOf)) (hs_a1_book_laws : hS μ a1_book_laws = some (0, N_a1_book_laws)) (hd9 : 1 ≤ d)
    (h : vp_in (15 + x2) N_a0_tried_row ∧ vp_in x4 N_a1_book_landOf ∧ vp_in (12 + (hI μ a1_book_landOf x4.toNatClampNeg)) N_a1_book_laws ∧ (∀ v4 : Int32, v4 = (hI μ a1_book_laws ((12 + (hI μ a1_book_landOf x4.toNatClampNeg)).toNatClampNeg)) → vp_in (20 + x2) N_a0_tried_row ∧ (∀ v6 : Int32, v6 = (if ((hI μ a0_tried_row ((20 + x2).toNatClampNeg)) + x6) < (((hI μ a0_tried_row ((15 + x2).toNatClampNeg)) * v4) / 1000) then ((hI μ a0_tried_row ((20 + x2).toNatClampNeg)) + x6) else (((hI μ a0_tried_row ((15 + x2).toNatClampNeg)) * v4) / 1000)) → (∀ v7 : Int32, v7 = ((((hI μ a0_tried_row ((15 + x2).toNatClampNeg)) * v4) / 1000) - v6) → (∀ v8 : Int32, v8 = (if 1000000000 < (((hI μ a0_tried_row ((20 + x2).toNatClampNeg)) + x6) - v6) then 1000000000 else (((hI μ a0_tried_row ((20 + x2).toNatClampNeg)) + x6) - v6)) → vp_in (25 + x2) N_a0_tried_row ∧ vp_in (30 + x2) N_a0_tried_row ∧ Z none (wI (wI μ a0_tried_row ((25 + x2).toNatClampNeg) v7) a0_tried_row ((30 + x2).toNatClampNeg) v8)))))) :
    J μ 0 0 55 [(0, .ref a0), (1, .ref a1), (2, .int x2), (4, .int x4), (6, .int x6)] [] := by
  refine r_aload_n g dX3_taxStop_55 rfl ?_
  refine r_getR g fX3_35 rfl hs_a0 hr_a0_tried dX3_taxStop_56 ?_
  refine r_getR g fX3_107 rfl hs_a0_tried hr_a0_tried_row dX3_taxStop_59 ?_
  refine r_bipush g 15 dX3_taxStop_62 (by decide) ?_
  refine r_iload_n g dX3_taxStop_64 rfl ?_
  refine r_iadd g dX3_taxStop_65 ?_
  obtain ⟨hi1, h⟩ := h
  refine r_iaload g hs_a0_tried_row hi1 dX3_taxStop_66 ?_
  refine r_aload_n g dX3_taxStop_67 rfl ?_
  refine r_getR g fX3_69 rfl hs_a1 hr_a1_book dX3_taxStop_68 ?_
  refine r_getR g fX3_101 rfl hs_a1_book hr_a1_book_laws dX3_taxStop_71 ?_
  refine r_bipush g 12 dX3_taxStop_74 (by decide) ?_
  refine r_aload_n g dX3_taxStop_76 rfl ?_
  refine r_getR g fX3_69 rfl hs_a1 hr_a1_book dX3_taxStop_77 ?_
  refine r_getR g fX3_73 rfl hs_a1_book hr_a1_book_landOf dX3_taxStop_80 ?_
  refine r_iload g dX3_taxStop_83 rfl ?_
  obtain ⟨hi2, h⟩ := h
  refine r_iaload g hs_a1_book_landOf hi2 dX3_taxStop_85 ?_
  refine r_iadd g dX3_taxStop_86 ?_
  obtain ⟨hi3, h⟩ := h
  refine r_iaload g hs_a1_book_laws hi3 dX3_taxStop_87 ?_
  refine r_nmI (fun v4 ev4 => ?_)
  replace h := h v4 ev4
  refine r_imul g dX3_taxStop_88 ?_
  refine r_sipush g 1000 dX3_taxStop_89 (by decide) ?_
  refine r_idiv g (by decide) dX3_taxStop_92 ?_
  refine r_istore g [(7, .int (((hI μ a0_tried_row ((15 + x2).toNatClampNeg)) * v4) / 1000)), (0, .ref a0), (1, .ref a1), (2, .int x2), (4, .int x4), (6, .int x6)] dX3_taxStop_93 (by decide) rfl ?_
  refine r_aload_n g dX3_taxStop_95 rfl ?_
  refine r_getR g fX3_35 rfl hs_a0 hr_a0_tried dX3_taxStop_96 ?_
  refine r_getR g fX3_107 rfl hs_a0_tried hr_a0_tried_row dX3_taxStop_99 ?_
  refine r_bipush g 20 dX3_taxStop_102 (by decide) ?_
  refine r_iload_n g dX3_taxStop_104 rfl ?_
  refine r_iadd g dX3_taxStop_105 ?_
  obtain ⟨hi5, h⟩ := h
  refine r_iaload g hs_a0_tried_row hi5 dX3_taxStop_106 ?_
  refine r_iload g dX3_taxStop_107 rfl ?_
  refine r_iadd g dX3_taxStop_109 ?_
  refine r_istore g [(8, .int ((hI μ a0_tried_row ((20 + x2).toNatClampNeg)) + x6)), (7, .int (((hI μ a0_tried_row ((15 + x2).toNatClampNeg)) * v4) / 1000)), (0, .ref a0), (1, .ref a1), (2, .int x2), (4, .int x4), (6, .int x6)] dX3_taxStop_110 (by decide) rfl ?_
  refine r_iload g dX3_taxStop_112 rfl ?_
  refine r_iload g dX3_taxStop_114 rfl ?_
  refine r_mmin g tX3_115 hd9 (Nat.le_refl 0) (Nat.le_refl 0) (Nat.le_of_ble_eq_true rfl) dX3_taxStop_116 ?_
  refine r_nmI (fun v6 ev6 => ?_)
  replace h := h v6 ev6
  refine r_istore g [(9, .int v6), (8, .int ((hI μ a0_tried_row ((20 + x2).toNatClampNeg)) + x6)), (7, .int (((hI μ a0_tried_row ((15 + x2).toNatClampNeg)) * v4) / 1000)), (0, .ref a0), (1, .ref a1), (2, .int x2), (4, .int x4), (6, .int x6)] dX3_taxStop_119 (by decide) rfl ?_
  refine r_iload g dX3_taxStop_121 rfl ?_
  refine r_iload g dX3_taxStop_123 rfl ?_
  refine r_isub g dX3_taxStop_125 ?_
  refine r_nmI (fun v7 ev7 => ?_)
  replace h := h v7 ev7
  refine r_istore g [(5, .int v7), (9, .int v6), (8, .int ((hI μ a0_tried_row ((20 + x2).toNatClampNeg)) + x6)), (7, .int (((hI μ a0_tried_row ((15 + x2).toNatClampNeg)) * v4) / 1000)), (0, .ref a0), (1, .ref a1), (2, .int x2), (4, .int x4), (6, .int x6)] dX3_taxStop_126 (by decide) rfl ?_
  refine r_iload g dX3_taxStop_128 rfl ?_
  refine r_iload g dX3_taxStop_130 rfl ?_
  refine r_isub g dX3_taxStop_132 ?_
  refine r_ldc g 1000000000 kX3_121 dX3_taxStop_133 ?_
  refine r_mmin g tX3_115 hd9 (Nat.le_refl 0) (Nat.le_refl 0) (Nat.le_of_ble_eq_true rfl) dX3_taxStop_135 ?_
  refine r_nmI (fun v8 ev8 => ?_)
  replace h := h v8 ev8
  refine r_istore g [(6, .int v8), (5, .int v7), (9, .int v6), (8, .int ((hI μ a0_tried_row ((20 + x2).toNatClampNeg)) + x6)), (7, .int (((hI μ a0_tried_row ((15 + x2).toNatClampNeg)) * v4) / 1000)), (0, .ref a0), (1, .ref a1), (2, .int x2), (4, .int x4)] dX3_taxStop_138 (by decide) rfl ?_
  refine r_aload_n g dX3_taxStop_140 rfl ?_
  refine r_getR g fX3_35 rfl hs_a0 hr_a0_tried dX3_taxStop_141 ?_
  refine r_getR g fX3_107 rfl hs_a0_tried hr_a0_tried_row dX3_taxStop_144 ?_
  refine r_bipush g 25 dX3_taxStop_147 (by decide) ?_
  refine r_iload_n g dX3_taxStop_149 rfl ?_
  refine r_iadd g dX3_taxStop_150 ?_
  refine r_iload g dX3_taxStop_151 rfl ?_
  obtain ⟨hi9, h⟩ := h
  refine r_iastore g hs_a0_tried_row hi9 dX3_taxStop_153 ?_
  refine r_aload_n g dX3_taxStop_154 rfl ?_
  refine r_getR g fX3_35 rfl hs_a0 hr_a0_tried dX3_taxStop_155 ?_
  refine r_getR g fX3_107 rfl hs_a0_tried hr_a0_tried_row dX3_taxStop_158 ?_
  refine r_bipush g 30 dX3_taxStop_161 (by decide) ?_
  refine r_iload_n g dX3_taxStop_163 rfl ?_
  refine r_iadd g dX3_taxStop_164 ?_
  refine r_iload g dX3_taxStop_165 rfl ?_
  obtain ⟨hi10, h⟩ := h
  refine r_iastore g hs_a0_tried_row hi10 dX3_taxStop_167 ?_
  exact hr.1 rfl _ _ _ _ _ dX3_taxStop_168 (Nat.le_refl 0) (Nat.le_refl 0) h
theorem I_X3_taxStop {d : Nat} {ro : Nat → Nat} {Z : Option Value → Hp → Prop} {μ : Hp} {a0 : Nat} {a1 : Nat} {x2 : Int32} {x3 : Int32} (h : ∀ J, xCtx RX3 cX3_taxStop 10 d 0 0 yX3_taxStop.name ro J → xRet cX3_taxStop none 0 0 Z J → J μ 0 0 0 [(0, .ref a0), (1, .ref a1), (2, .int x2), (3, .int x3)] []) : xC d yX3_taxStop cX3_taxStop 10 none 0 0 [.ref a0, .ref a1, .int x2, .int x3] μ ro Z :=
  xC_intro (own := RX3) (lv := [(0, .ref a0), (1, .ref a1), (2, .int x2), (3, .int x3)]) (by decide) rfl (Nat.le_of_ble_eq_true rfl) rfl (fun J g hr => r_sub g (lv' := [(0, .ref a0), (1, .ref a1), (2, .int x2), (3, .int x3)]) (⟨rfl, rfl, rfl, rfl, trivial⟩) (h J g hr))
theorem dX3_arrive_0 : decode cX3_arrive 0 = .ok (.aload_n 0, 1) := by decide +kernel
theorem dX3_arrive_1 : decode cX3_arrive 1 = .ok (.getfield 35, 3) := by decide +kernel
theorem dX3_arrive_4 : decode cX3_arrive 4 = .ok (.getfield 107, 3) := by decide +kernel
theorem dX3_arrive_7 : decode cX3_arrive 7 = .ok (.bipush 25, 2) := by decide +kernel
theorem dX3_arrive_9 : decode cX3_arrive 9 = .ok (.iload_n 2, 1) := by decide +kernel
theorem dX3_arrive_10 : decode cX3_arrive 10 = .ok (.iadd, 1) := by decide +kernel
theorem dX3_arrive_11 : decode cX3_arrive 11 = .ok (.iconst 0, 1) := by decide +kernel
theorem dX3_arrive_12 : decode cX3_arrive 12 = .ok (.iastore, 1) := by decide +kernel
theorem dX3_arrive_13 : decode cX3_arrive 13 = .ok (.aload_n 0, 1) := by decide +kernel
theorem dX3_arrive_14 : decode cX3_arrive 14 = .ok (.getfield 35, 3) := by decide +kernel
theorem dX3_arrive_17 : decode cX3_arrive 17 = .ok (.getfield 107, 3) := by decide +kernel
theorem dX3_arrive_20 : decode cX3_arrive 20 = .ok (.bipush 30, 2) := by decide +kernel
theorem dX3_arrive_22 : decode cX3_arrive 22 = .ok (.iload_n 2, 1) := by decide +kernel
theorem dX3_arrive_23 : decode cX3_arrive 23 = .ok (.iadd, 1) := by decide +kernel
theorem dX3_arrive_24 : decode cX3_arrive 24 = .ok (.aload_n 1, 1) := by decide +kernel
theorem dX3_arrive_25 : decode cX3_arrive 25 = .ok (.getfield 64, 3) := by decide +kernel
theorem dX3_arrive_28 : decode cX3_arrive 28 = .ok (.bipush 10, 2) := by decide +kernel
theorem dX3_arrive_30 : decode cX3_arrive 30 = .ok (.aload_n 0, 1) := by decide +kernel
theorem dX3_arrive_31 : decode cX3_arrive 31 = .ok (.getfield 38, 3) := by decide +kernel
theorem dX3_arrive_34 : decode cX3_arrive 34 = .ok (.iadd, 1) := by decide +kernel
theorem dX3_arrive_35 : decode cX3_arrive 35 = .ok (.iaload, 1) := by decide +kernel
theorem dX3_arrive_36 : decode cX3_arrive 36 = .ok (.iastore, 1) := by decide +kernel
theorem dX3_arrive_37 : decode cX3_arrive 37 = .ok (.aload_n 0, 1) := by decide +kernel
theorem dX3_arrive_38 : decode cX3_arrive 38 = .ok (.dup, 1) := by decide +kernel
theorem dX3_arrive_39 : decode cX3_arrive 39 = .ok (.getfield 18, 3) := by decide +kernel
theorem dX3_arrive_42 : decode cX3_arrive 42 = .ok (.iconst 1, 1) := by decide +kernel
theorem dX3_arrive_43 : decode cX3_arrive 43 = .ok (.iadd, 1) := by decide +kernel
theorem dX3_arrive_44 : decode cX3_arrive 44 = .ok (.putfield 18, 3) := by decide +kernel
theorem dX3_arrive_47 : decode cX3_arrive 47 = .ok (.aload_n 0, 1) := by decide +kernel
theorem dX3_arrive_48 : decode cX3_arrive 48 = .ok (.getfield 41, 3) := by decide +kernel
theorem dX3_arrive_51 : decode cX3_arrive 51 = .ok (.ifCond .eq 16, 3) := by decide +kernel
theorem dX3_arrive_54 : decode cX3_arrive 54 = .ok (.aload_n 0, 1) := by decide +kernel
theorem dX3_arrive_55 : decode cX3_arrive 55 = .ok (.getfield 12, 3) := by decide +kernel
theorem dX3_arrive_58 : decode cX3_arrive 58 = .ok (.getfield 122, 3) := by decide +kernel
theorem dX3_arrive_61 : decode cX3_arrive 61 = .ok (.iload 4, 2) := by decide +kernel
theorem dX3_arrive_63 : decode cX3_arrive 63 = .ok (.isub, 1) := by decide +kernel
theorem dX3_arrive_64 : decode cX3_arrive 64 = .ok (.goto 12, 3) := by decide +kernel
theorem dX3_arrive_67 : decode cX3_arrive 67 = .ok (.iload_n 3, 1) := by decide +kernel
theorem dX3_arrive_68 : decode cX3_arrive 68 = .ok (.aload_n 0, 1) := by decide +kernel
theorem dX3_arrive_69 : decode cX3_arrive 69 = .ok (.getfield 12, 3) := by decide +kernel
theorem dX3_arrive_72 : decode cX3_arrive 72 = .ok (.getfield 125, 3) := by decide +kernel
theorem dX3_arrive_75 : decode cX3_arrive 75 = .ok (.isub, 1) := by decide +kernel
theorem dX3_arrive_76 : decode cX3_arrive 76 = .ok (.istore 5, 2) := by decide +kernel
theorem dX3_arrive_78 : decode cX3_arrive 78 = .ok (.aload_n 0, 1) := by decide +kernel
theorem dX3_arrive_79 : decode cX3_arrive 79 = .ok (.getfield 18, 3) := by decide +kernel
theorem dX3_arrive_82 : decode cX3_arrive 82 = .ok (.iconst 1, 1) := by decide +kernel
theorem dX3_arrive_83 : decode cX3_arrive 83 = .ok (.if_icmp .eq 26, 3) := by decide +kernel
theorem dX3_arrive_86 : decode cX3_arrive 86 = .ok (.iload 5, 2) := by decide +kernel
theorem dX3_arrive_88 : decode cX3_arrive 88 = .ok (.ifCond .gt 21, 3) := by decide +kernel
theorem dX3_arrive_91 : decode cX3_arrive 91 = .ok (.iload 5, 2) := by decide +kernel
theorem dX3_arrive_93 : decode cX3_arrive 93 = .ok (.ifCond .ne 78, 3) := by decide +kernel
theorem dX3_arrive_96 : decode cX3_arrive 96 = .ok (.iload_n 2, 1) := by decide +kernel
theorem dX3_arrive_97 : decode cX3_arrive 97 = .ok (.iconst 1, 1) := by decide +kernel
theorem dX3_arrive_98 : decode cX3_arrive 98 = .ok (.iadd, 1) := by decide +kernel
theorem dX3_arrive_99 : decode cX3_arrive 99 = .ok (.aload_n 0, 1) := by decide +kernel
theorem dX3_arrive_100 : decode cX3_arrive 100 = .ok (.getfield 12, 3) := by decide +kernel
theorem dX3_arrive_103 : decode cX3_arrive 103 = .ok (.getfield 128, 3) := by decide +kernel
theorem dX3_arrive_106 : decode cX3_arrive 106 = .ok (.if_icmp .ge 65, 3) := by decide +kernel
theorem dX3_arrive_109 : decode cX3_arrive 109 = .ok (.aload_n 0, 1) := by decide +kernel
theorem dX3_arrive_110 : decode cX3_arrive 110 = .ok (.getfield 35, 3) := by decide +kernel
theorem dX3_arrive_113 : decode cX3_arrive 113 = .ok (.getfield 107, 3) := by decide +kernel
theorem dX3_arrive_116 : decode cX3_arrive 116 = .ok (.iconst 0, 1) := by decide +kernel
theorem dX3_arrive_117 : decode cX3_arrive 117 = .ok (.aload_n 0, 1) := by decide +kernel
theorem dX3_arrive_118 : decode cX3_arrive 118 = .ok (.getfield 12, 3) := by decide +kernel
theorem dX3_arrive_121 : decode cX3_arrive 121 = .ok (.getfield 107, 3) := by decide +kernel
theorem dX3_arrive_124 : decode cX3_arrive 124 = .ok (.iconst 0, 1) := by decide +kernel
theorem dX3_arrive_125 : decode cX3_arrive 125 = .ok (.bipush 35, 2) := by decide +kernel
theorem dX3_arrive_127 : decode cX3_arrive 127 = .ok (.invokestatic 131, 3) := by decide +kernel
theorem dX3_arrive_130 : decode cX3_arrive 130 = .ok (.aload_n 0, 1) := by decide +kernel
theorem dX3_arrive_131 : decode cX3_arrive 131 = .ok (.getfield 12, 3) := by decide +kernel
theorem dX3_arrive_134 : decode cX3_arrive 134 = .ok (.aload_n 0, 1) := by decide +kernel
theorem dX3_arrive_135 : decode cX3_arrive 135 = .ok (.getfield 35, 3) := by decide +kernel
theorem dX3_arrive_138 : decode cX3_arrive 138 = .ok (.getfield 45, 3) := by decide +kernel
theorem dX3_arrive_141 : decode cX3_arrive 141 = .ok (.putfield 45, 3) := by decide +kernel
theorem dX3_arrive_144 : decode cX3_arrive 144 = .ok (.aload_n 0, 1) := by decide +kernel
theorem dX3_arrive_145 : decode cX3_arrive 145 = .ok (.getfield 12, 3) := by decide +kernel
theorem dX3_arrive_148 : decode cX3_arrive 148 = .ok (.iload_n 2, 1) := by decide +kernel
theorem dX3_arrive_149 : decode cX3_arrive 149 = .ok (.iconst 1, 1) := by decide +kernel
theorem dX3_arrive_150 : decode cX3_arrive 150 = .ok (.iadd, 1) := by decide +kernel
theorem dX3_arrive_151 : decode cX3_arrive 151 = .ok (.putfield 128, 3) := by decide +kernel
theorem dX3_arrive_154 : decode cX3_arrive 154 = .ok (.aload_n 0, 1) := by decide +kernel
theorem dX3_arrive_155 : decode cX3_arrive 155 = .ok (.getfield 12, 3) := by decide +kernel
theorem dX3_arrive_158 : decode cX3_arrive 158 = .ok (.iload_n 3, 1) := by decide +kernel
theorem dX3_arrive_159 : decode cX3_arrive 159 = .ok (.putfield 125, 3) := by decide +kernel
theorem dX3_arrive_162 : decode cX3_arrive 162 = .ok (.aload_n 0, 1) := by decide +kernel
theorem dX3_arrive_163 : decode cX3_arrive 163 = .ok (.getfield 12, 3) := by decide +kernel
theorem dX3_arrive_166 : decode cX3_arrive 166 = .ok (.iload 4, 2) := by decide +kernel
theorem dX3_arrive_168 : decode cX3_arrive 168 = .ok (.putfield 122, 3) := by decide +kernel
theorem dX3_arrive_171 : decode cX3_arrive 171 = .ok (.return_, 1) := by decide +kernel
set_option maxHeartbeats 4000000 in
set_option maxRecDepth 100000 in
theorem B_X3_arrive_0 {d : Nat} {ro : Nat → Nat} {J : JT} {Z : Option Value → Hp → Prop} (g : xCtx RX3 cX3_arrive 6 d 0 0 yX3_arrive.name ro J) (hr : xRet cX3_arrive none 0 0 Z J) {μ : Hp} {a0 : Nat} {a1 : Nat} {x2 : Int32} {x3 : Int32} {x4 : Int32} {a0_tried : Nat} {a0_tried_row : Nat} {N_a0_tried_row : Nat} {a1_row : Nat} {N_a1_row : Nat} {a0_best : Nat} (hs_a0 : hS μ a0 = some (7, 9)) (hr_a0_tried : hR μ a0 6 = some a0_tried) (hs_a0_tried : hS μ a0_tried = some (13, 5)) (hr_a0_tried_row : hR μ a0_tried 0 = some a0_tried_row) (hs_a0_tried_row : hS μ a0_tried_row = some (0, N_a0_tried_row)) (hs_a1 : hS μ a1 = some (12, 4)) (hr_a1_row : hR μ a1 0 = some a1_row) (hs_a1_row : hS μ a1_row = some (0, N_a1_row)) (hr_a0_best : hR μ a0 0 = some a0_best) (hs_a0_best : hS μ a0_best = some (13, 5))
    (h : vp_in (25 + x2) N_a0_tried_row ∧ vp_in (10 + (hI (wI μ a0_tried_row ((25 + x2).toNatClampNeg) 0) a0 7)) N_a1_row ∧ (∀ v3 : Int32, v3 = (hI (wI μ a0_tried_row ((25 + x2).toNatClampNeg) 0) a1_row ((10 + (hI (wI μ a0_tried_row ((25 + x2).toNatClampNeg) 0) a0 7)).toNatClampNeg)) → vp_in (30 + x2) N_a0_tried_row ∧ (∀ v5 : Int32, v5 = (hI (wI (wI μ a0_tried_row ((25 + x2).toNatClampNeg) 0) a0_tried_row ((30 + x2).toNatClampNeg) v3) a0 1) → (∀ v6 : Int32, v6 = (hI (wI (wI (wI μ a0_tried_row ((25 + x2).toNatClampNeg) 0) a0_tried_row ((30 + x2).toNatClampNeg) v3) a0 1 (v5 + 1)) a0 8) → ((v6 = 0 → (∀ v8 : Int32, v8 = (hI (wI (wI (wI μ a0_tried_row ((25 + x2).toNatClampNeg) 0) a0_tried_row ((30 + x2).toNatClampNeg) v3) a0 1 (v5 + 1)) a0_best 3) → (∀ v9 : Int32, v9 = (hI (wI (wI (wI μ a0_tried_row ((25 + x2).toNatClampNeg) 0) a0_tried_row ((30 + x2).toNatClampNeg) v3) a0 1 (v5 + 1)) a0 1) → ((v9 = 1 → J (wI (wI (wI μ a0_tried_row ((25 + x2).toNatClampNeg) 0) a0_tried_row ((30 + x2).toNatClampNeg) v3) a0 1 (v5 + 1)) 0 0 109 [(0, .ref a0), (2, .int x2), (3, .int x3), (4, .int x4)] []) ∧ (¬ v9 = 1 → ((0 < (x3 - v8) → J (wI (wI (wI μ a0_tried_row ((25 + x2).toNatClampNeg) 0) a0_tried_row ((30 + x2).toNatClampNeg) v3) a0 1 (v5 + 1)) 0 0 109 [(0, .ref a0), (2, .int x2), (3, .int x3), (4, .int x4)] []) ∧ (¬ 0 < (x3 - v8) → ((¬ (x3 - v8) = 0 → Z none (wI (wI (wI μ a0_tried_row ((25 + x2).toNatClampNeg) 0) a0_tried_row ((30 + x2).toNatClampNeg) v3) a0 1 (v5 + 1))) ∧ ((x3 - v8) = 0 → (∀ v13 : Int32, v13 = (hI (wI (wI (wI μ a0_tried_row ((25 + x2).toNatClampNeg) 0) a0_tried_row ((30 + x2).toNatClampNeg) v3) a0 1 (v5 + 1)) a0_best 2) → ((v13 ≤ (x2 + 1) → Z none (wI (wI (wI μ a0_tried_row ((25 + x2).toNatClampNeg) 0) a0_tried_row ((30 + x2).toNatClampNeg) v3) a0 1 (v5 + 1))) ∧ (¬ v13 ≤ (x2 + 1) → J (wI (wI (wI μ a0_tried_row ((25 + x2).toNatClampNeg) 0) a0_tried_row ((30 + x2).toNatClampNeg) v3) a0 1 (v5 + 1)) 0 0 109 [(0, .ref a0), (2, .int x2), (3, .int x3), (4, .int x4)] [])))))))))))) ∧ (¬ v6 = 0 → (∀ v15 : Int32, v15 = (hI (wI (wI (wI μ a0_tried_row ((25 + x2).toNatClampNeg) 0) a0_tried_row ((30 + x2).toNatClampNeg) v3) a0 1 (v5 + 1)) a0_best 4) → (∀ v16 : Int32, v16 = (hI (wI (wI (wI μ a0_tried_row ((25 + x2).toNatClampNeg) 0) a0_tried_row ((30 + x2).toNatClampNeg) v3) a0 1 (v5 + 1)) a0 1) → ((v16 = 1 → J (wI (wI (wI μ a0_tried_row ((25 + x2).toNatClampNeg) 0) a0_tried_row ((30 + x2).toNatClampNeg) v3) a0 1 (v5 + 1)) 0 0 109 [(0, .ref a0), (2, .int x2), (3, .int x3), (4, .int x4)] []) ∧ (¬ v16 = 1 → ((0 < (v15 - x4) → J (wI (wI (wI μ a0_tried_row ((25 + x2).toNatClampNeg) 0) a0_tried_row ((30 + x2).toNatClampNeg) v3) a0 1 (v5 + 1)) 0 0 109 [(0, .ref a0), (2, .int x2), (3, .int x3), (4, .int x4)] []) ∧ (¬ 0 < (v15 - x4) → ((¬ (v15 - x4) = 0 → Z none (wI (wI (wI μ a0_tried_row ((25 + x2).toNatClampNeg) 0) a0_tried_row ((30 + x2).toNatClampNeg) v3) a0 1 (v5 + 1))) ∧ ((v15 - x4) = 0 → (∀ v20 : Int32, v20 = (hI (wI (wI (wI μ a0_tried_row ((25 + x2).toNatClampNeg) 0) a0_tried_row ((30 + x2).toNatClampNeg) v3) a0 1 (v5 + 1)) a0_best 2) → ((v20 ≤ (x2 + 1) → Z none (wI (wI (wI μ a0_tried_row ((25 + x2).toNatClampNeg) 0) a0_tried_row ((30 + x2).toNatClampNeg) v3) a0 1 (v5 + 1))) ∧ (¬ v20 ≤ (x2 + 1) → J (wI (wI (wI μ a0_tried_row ((25 + x2).toNatClampNeg) 0) a0_tried_row ((30 + x2).toNatClampNeg) v3) a0 1 (v5 + 1)) 0 0 109 [(0, .ref a0), (2, .int x2), (3, .int x3), (4, .int x4)] []))))))))))))))))) :
    J μ 0 0 0 [(0, .ref a0), (1, .ref a1), (2, .int x2), (3, .int x3), (4, .int x4)] [] := by
  refine r_aload_n g dX3_arrive_0 rfl ?_
  refine r_getR g fX3_35 rfl hs_a0 hr_a0_tried dX3_arrive_1 ?_
  refine r_getR g fX3_107 rfl hs_a0_tried hr_a0_tried_row dX3_arrive_4 ?_
  refine r_bipush g 25 dX3_arrive_7 (by decide) ?_
  refine r_iload_n g dX3_arrive_9 rfl ?_
  refine r_iadd g dX3_arrive_10 ?_
  refine r_iconst g 0 dX3_arrive_11 (by decide) ?_
  obtain ⟨hi1, h⟩ := h
  refine r_iastore g hs_a0_tried_row hi1 dX3_arrive_12 ?_
  refine r_aload_n g dX3_arrive_13 rfl ?_
  refine r_getR g fX3_35 rfl hs_a0 hr_a0_tried dX3_arrive_14 ?_
  refine r_getR g fX3_107 rfl hs_a0_tried hr_a0_tried_row dX3_arrive_17 ?_
  refine r_bipush g 30 dX3_arrive_20 (by decide) ?_
  refine r_iload_n g dX3_arrive_22 rfl ?_
  refine r_iadd g dX3_arrive_23 ?_
  refine r_aload_n g dX3_arrive_24 rfl ?_
  refine r_getR g fX3_64 rfl hs_a1 hr_a1_row dX3_arrive_25 ?_
  refine r_bipush g 10 dX3_arrive_28 (by decide) ?_
  refine r_aload_n g dX3_arrive_30 rfl ?_
  refine r_getI g fX3_38 rfl hs_a0 dX3_arrive_31 ?_
  refine r_iadd g dX3_arrive_34 ?_
  obtain ⟨hi2, h⟩ := h
  refine r_iaload g hs_a1_row hi2 dX3_arrive_35 ?_
  refine r_nmI (fun v3 ev3 => ?_)
  replace h := h v3 ev3
  obtain ⟨hi4, h⟩ := h
  refine r_iastore g hs_a0_tried_row hi4 dX3_arrive_36 ?_
  refine r_aload_n g dX3_arrive_37 rfl ?_
  refine r_dup g dX3_arrive_38 rfl ?_
  refine r_getI g fX3_18 rfl hs_a0 dX3_arrive_39 ?_
  refine r_nmI (fun v5 ev5 => ?_)
  replace h := h v5 ev5
  refine r_iconst g 1 dX3_arrive_42 (by decide) ?_
  refine r_iadd g dX3_arrive_43 ?_
  refine r_putI g fX3_18 rfl hs_a0 rfl rfl dX3_arrive_44 ?_
  refine r_aload_n g dX3_arrive_47 rfl ?_
  refine r_getI g fX3_41 rfl hs_a0 dX3_arrive_48 ?_
  refine r_nmI (fun v6 ev6 => ?_)
  replace h := h v6 ev6
  refine r_if_eq g 67 dX3_arrive_51 (by decide) (fun c7 => ?_) (fun c7 => ?_)
  · replace h := h.1 c7
    refine r_iload_n g dX3_arrive_67 rfl ?_
    refine r_aload_n g dX3_arrive_68 rfl ?_
    refine r_getR g fX3_12 rfl hs_a0 hr_a0_best dX3_arrive_69 ?_
    refine r_getI g fX3_125 rfl hs_a0_best dX3_arrive_72 ?_
    refine r_nmI (fun v8 ev8 => ?_)
    replace h := h v8 ev8
    refine r_isub g dX3_arrive_75 ?_
    refine r_istore g [(5, .int (x3 - v8)), (0, .ref a0), (1, .ref a1), (2, .int x2), (3, .int x3), (4, .int x4)] dX3_arrive_76 (by decide) rfl ?_
    refine r_aload_n g dX3_arrive_78 rfl ?_
    refine r_getI g fX3_18 rfl hs_a0 dX3_arrive_79 ?_
    refine r_nmI (fun v9 ev9 => ?_)
    replace h := h v9 ev9
    refine r_iconst g 1 dX3_arrive_82 (by decide) ?_
    refine r_icmp_eq g 109 dX3_arrive_83 (by decide) (fun c10 => ?_) (fun c10 => ?_)
    · replace h := h.1 c10
      refine r_sub g (lv' := [(0, .ref a0), (2, .int x2), (3, .int x3), (4, .int x4)]) (⟨rfl, rfl, rfl, rfl, trivial⟩) ?_
      exact h
    · replace h := h.2 c10
      refine r_iload g dX3_arrive_86 rfl ?_
      refine r_if_gt g 109 dX3_arrive_88 (by decide) (fun c11 => ?_) (fun c11 => ?_)
      · replace h := h.1 c11
        refine r_sub g (lv' := [(0, .ref a0), (2, .int x2), (3, .int x3), (4, .int x4)]) (⟨rfl, rfl, rfl, rfl, trivial⟩) ?_
        exact h
      · replace h := h.2 c11
        refine r_iload g dX3_arrive_91 rfl ?_
        refine r_if_ne g 171 dX3_arrive_93 (by decide) (fun c12 => ?_) (fun c12 => ?_)
        · replace h := h.1 c12
          exact hr.1 rfl _ _ _ _ _ dX3_arrive_171 (Nat.le_refl 0) (Nat.le_refl 0) h
        · replace h := h.2 c12
          refine r_iload_n g dX3_arrive_96 rfl ?_
          refine r_iconst g 1 dX3_arrive_97 (by decide) ?_
          refine r_iadd g dX3_arrive_98 ?_
          refine r_aload_n g dX3_arrive_99 rfl ?_
          refine r_getR g fX3_12 rfl hs_a0 hr_a0_best dX3_arrive_100 ?_
          refine r_getI g fX3_128 rfl hs_a0_best dX3_arrive_103 ?_
          refine r_nmI (fun v13 ev13 => ?_)
          replace h := h v13 ev13
          refine r_icmp_ge g 171 dX3_arrive_106 (by decide) (fun c14 => ?_) (fun c14 => ?_)
          · replace h := h.1 c14
            exact hr.1 rfl _ _ _ _ _ dX3_arrive_171 (Nat.le_refl 0) (Nat.le_refl 0) h
          · replace h := h.2 c14
            refine r_sub g (lv' := [(0, .ref a0), (2, .int x2), (3, .int x3), (4, .int x4)]) (⟨rfl, rfl, rfl, rfl, trivial⟩) ?_
            exact h
  · replace h := h.2 c7
    refine r_aload_n g dX3_arrive_54 rfl ?_
    refine r_getR g fX3_12 rfl hs_a0 hr_a0_best dX3_arrive_55 ?_
    refine r_getI g fX3_122 rfl hs_a0_best dX3_arrive_58 ?_
    refine r_nmI (fun v15 ev15 => ?_)
    replace h := h v15 ev15
    refine r_iload g dX3_arrive_61 rfl ?_
    refine r_isub g dX3_arrive_63 ?_
    refine r_goto g 76 dX3_arrive_64 (by decide) ?_
    refine r_istore g [(5, .int (v15 - x4)), (0, .ref a0), (1, .ref a1), (2, .int x2), (3, .int x3), (4, .int x4)] dX3_arrive_76 (by decide) rfl ?_
    refine r_aload_n g dX3_arrive_78 rfl ?_
    refine r_getI g fX3_18 rfl hs_a0 dX3_arrive_79 ?_
    refine r_nmI (fun v16 ev16 => ?_)
    replace h := h v16 ev16
    refine r_iconst g 1 dX3_arrive_82 (by decide) ?_
    refine r_icmp_eq g 109 dX3_arrive_83 (by decide) (fun c17 => ?_) (fun c17 => ?_)
    · replace h := h.1 c17
      refine r_sub g (lv' := [(0, .ref a0), (2, .int x2), (3, .int x3), (4, .int x4)]) (⟨rfl, rfl, rfl, rfl, trivial⟩) ?_
      exact h
    · replace h := h.2 c17
      refine r_iload g dX3_arrive_86 rfl ?_
      refine r_if_gt g 109 dX3_arrive_88 (by decide) (fun c18 => ?_) (fun c18 => ?_)
      · replace h := h.1 c18
        refine r_sub g (lv' := [(0, .ref a0), (2, .int x2), (3, .int x3), (4, .int x4)]) (⟨rfl, rfl, rfl, rfl, trivial⟩) ?_
        exact h
      · replace h := h.2 c18
        refine r_iload g dX3_arrive_91 rfl ?_
        refine r_if_ne g 171 dX3_arrive_93 (by decide) (fun c19 => ?_) (fun c19 => ?_)
        · replace h := h.1 c19
          exact hr.1 rfl _ _ _ _ _ dX3_arrive_171 (Nat.le_refl 0) (Nat.le_refl 0) h
        · replace h := h.2 c19
          refine r_iload_n g dX3_arrive_96 rfl ?_
          refine r_iconst g 1 dX3_arrive_97 (by decide) ?_
          refine r_iadd g dX3_arrive_98 ?_
          refine r_aload_n g dX3_arrive_99 rfl ?_
          refine r_getR g fX3_12 rfl hs_a0 hr_a0_best dX3_arrive_100 ?_
          refine r_getI g fX3_128 rfl hs_a0_best dX3_arrive_103 ?_
          refine r_nmI (fun v20 ev20 => ?_)
          replace h := h v20 ev20
          refine r_icmp_ge g 171 dX3_arrive_106 (by decide) (fun c21 => ?_) (fun c21 => ?_)
          · replace h := h.1 c21
            exact hr.1 rfl _ _ _ _ _ dX3_arrive_171 (Nat.le_refl 0) (Nat.le_refl 0) h
          · replace h := h.2 c21
            refine r_sub g (lv' := [(0, .ref a0), (2, .int x2), (3, .int x3), (4, .int x4)]) (⟨rfl, rfl, rfl, rfl, trivial⟩) ?_
            exact h
set_option maxHeartbeats 4000000 in
set_option maxRecDepth 100000 in
theorem B_X3_arrive_109 {d : Nat} {ro : Nat → Nat} {J : JT} {Z : Option Value → Hp → Prop} (g : xCtx RX3 cX3_arrive 6 d 0 0 yX3_arrive.name ro J) (hr : xRet cX3_arrive none 0 0 Z J) {μ : Hp} {a0 : Nat} {x2 : Int32} {x3 : Int32} {x4 : Int32} {a0_tried : Nat} {a0_tried_row : Nat} {a0_best : Nat} {a0_best_row : Nat} {N_a0_tried_row : Nat} {N_a0_best_row : Nat} (hs_a0 : hS μ a0 = some (7, 9)) (hr_a0_tried : hR μ a0 6 = some a0_tried) (hs_a0_tried : hS μ a0_tried = some (13, 5)) (hr_a0_tried_row : hR μ a0_tried 0 = some a0_tried_row) (hr_a0_best : hR μ a0 0 = some a0_best) (hs_a0_best : hS μ a0_best = some (13, 5)) (hr_a0_best_row : hR μ a0_best 0 = some a0_best_row) (hs_a0_tried_row : hS μ a0_tried_row = some (0, N_a0_tried_row)) (hs_a0_best_row : hS μ a0_best_row = some (0, N_a0_best_row)) (hd9 : 1 ≤ d)
    (h : xcpOK 0 0 35 N_a0_tried_row N_a0_best_row ∧ (∀ v2 : Int32, v2 = (hI (wRow μ a0_best_row (va_cpy (hI μ a0_tried_row) (hI μ a0_best_row) 0 0 35)) a0_tried 1) → Z none (wI (wI (wI (wI (wRow μ a0_best_row (va_cpy (hI μ a0_tried_row) (hI μ a0_best_row) 0 0 35)) a0_best 1 v2) a0_best 2 (x2 + 1)) a0_best 3 x3) a0_best 4 x4))) :
    J μ 0 0 109 [(0, .ref a0), (2, .int x2), (3, .int x3), (4, .int x4)] [] := by
  refine r_aload_n g dX3_arrive_109 rfl ?_
  refine r_getR g fX3_35 rfl hs_a0 hr_a0_tried dX3_arrive_110 ?_
  refine r_getR g fX3_107 rfl hs_a0_tried hr_a0_tried_row dX3_arrive_113 ?_
  refine r_iconst g 0 dX3_arrive_116 (by decide) ?_
  refine r_aload_n g dX3_arrive_117 rfl ?_
  refine r_getR g fX3_12 rfl hs_a0 hr_a0_best dX3_arrive_118 ?_
  refine r_getR g fX3_107 rfl hs_a0_best hr_a0_best_row dX3_arrive_121 ?_
  refine r_iconst g 0 dX3_arrive_124 (by decide) ?_
  refine r_bipush g 35 dX3_arrive_125 (by decide) ?_
  obtain ⟨hc1, h⟩ := h
  refine r_copyi g tX3_131 hd9 (Nat.le_of_ble_eq_true rfl) hs_a0_tried_row hs_a0_best_row hc1 dX3_arrive_127 ?_
  refine r_aload_n g dX3_arrive_130 rfl ?_
  refine r_getR g fX3_12 rfl hs_a0 hr_a0_best dX3_arrive_131 ?_
  refine r_aload_n g dX3_arrive_134 rfl ?_
  refine r_getR g fX3_35 rfl hs_a0 hr_a0_tried dX3_arrive_135 ?_
  refine r_getI g fX3_45 rfl hs_a0_tried dX3_arrive_138 ?_
  refine r_nmI (fun v2 ev2 => ?_)
  replace h := h v2 ev2
  refine r_putI g fX3_45 rfl hs_a0_best rfl rfl dX3_arrive_141 ?_
  refine r_aload_n g dX3_arrive_144 rfl ?_
  refine r_getR g fX3_12 rfl hs_a0 hr_a0_best dX3_arrive_145 ?_
  refine r_iload_n g dX3_arrive_148 rfl ?_
  refine r_iconst g 1 dX3_arrive_149 (by decide) ?_
  refine r_iadd g dX3_arrive_150 ?_
  refine r_putI g fX3_128 rfl hs_a0_best rfl rfl dX3_arrive_151 ?_
  refine r_aload_n g dX3_arrive_154 rfl ?_
  refine r_getR g fX3_12 rfl hs_a0 hr_a0_best dX3_arrive_155 ?_
  refine r_iload_n g dX3_arrive_158 rfl ?_
  refine r_putI g fX3_125 rfl hs_a0_best rfl rfl dX3_arrive_159 ?_
  refine r_aload_n g dX3_arrive_162 rfl ?_
  refine r_getR g fX3_12 rfl hs_a0 hr_a0_best dX3_arrive_163 ?_
  refine r_iload g dX3_arrive_166 rfl ?_
  refine r_putI g fX3_122 rfl hs_a0_best rfl rfl dX3_arrive_168 ?_
  exact hr.1 rfl _ _ _ _ _ dX3_arrive_171 (Nat.le_refl 0) (Nat.le_refl 0) h
theorem I_X3_arrive {d : Nat} {ro : Nat → Nat} {Z : Option Value → Hp → Prop} {μ : Hp} {a0 : Nat} {a1 : Nat} {x2 : Int32} {x3 : Int32} {x4 : Int32} (h : ∀ J, xCtx RX3 cX3_arrive 6 d 0 0 yX3_arrive.name ro J → xRet cX3_arrive none 0 0 Z J → J μ 0 0 0 [(0, .ref a0), (1, .ref a1), (2, .int x2), (3, .int x3), (4, .int x4)] []) : xC d yX3_arrive cX3_arrive 6 none 0 0 [.ref a0, .ref a1, .int x2, .int x3, .int x4] μ ro Z :=
  xC_intro (own := RX3) (lv := [(0, .ref a0), (1, .ref a1), (2, .int x2), (3, .int x3), (4, .int x4)]) (by decide) rfl (Nat.le_of_ble_eq_true rfl) rfl (fun J g hr => r_sub g (lv' := [(0, .ref a0), (1, .ref a1), (2, .int x2), (3, .int x3), (4, .int x4)]) (⟨rfl, rfl, rfl, rfl, rfl, trivial⟩) (h J g hr))
