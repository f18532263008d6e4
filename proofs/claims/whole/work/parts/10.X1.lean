theorem dX1_reasonAgainst_0 : decode cX1_reasonAgainst 0 = .ok (.iload_n 2, 1) := by decide +kernel
theorem dX1_reasonAgainst_1 : decode cX1_reasonAgainst 1 = .ok (.tableswitch 68 0 3 #[31, 44, 50, 58], 31) := by decide +kernel
theorem dX1_reasonAgainst_32 : decode cX1_reasonAgainst 32 = .ok (.aload_n 0, 1) := by decide +kernel
theorem dX1_reasonAgainst_33 : decode cX1_reasonAgainst 33 = .ok (.aload_n 1, 1) := by decide +kernel
theorem dX1_reasonAgainst_34 : decode cX1_reasonAgainst 34 = .ok (.iload_n 3, 1) := by decide +kernel
theorem dX1_reasonAgainst_35 : decode cX1_reasonAgainst 35 = .ok (.iload 4, 2) := by decide +kernel
theorem dX1_reasonAgainst_37 : decode cX1_reasonAgainst 37 = .ok (.iload 5, 2) := by decide +kernel
theorem dX1_reasonAgainst_39 : decode cX1_reasonAgainst 39 = .ok (.iload 6, 2) := by decide +kernel
theorem dX1_reasonAgainst_41 : decode cX1_reasonAgainst 41 = .ok (.invokevirtual 15, 3) := by decide +kernel
theorem dX1_reasonAgainst_44 : decode cX1_reasonAgainst 44 = .ok (.ireturn, 1) := by decide +kernel
theorem dX1_reasonAgainst_45 : decode cX1_reasonAgainst 45 = .ok (.aload_n 1, 1) := by decide +kernel
theorem dX1_reasonAgainst_46 : decode cX1_reasonAgainst 46 = .ok (.iload_n 3, 1) := by decide +kernel
theorem dX1_reasonAgainst_47 : decode cX1_reasonAgainst 47 = .ok (.invokestatic 19, 3) := by decide +kernel
theorem dX1_reasonAgainst_50 : decode cX1_reasonAgainst 50 = .ok (.ireturn, 1) := by decide +kernel
theorem dX1_reasonAgainst_51 : decode cX1_reasonAgainst 51 = .ok (.aload_n 1, 1) := by decide +kernel
theorem dX1_reasonAgainst_52 : decode cX1_reasonAgainst 52 = .ok (.iload_n 3, 1) := by decide +kernel
theorem dX1_reasonAgainst_53 : decode cX1_reasonAgainst 53 = .ok (.iload 4, 2) := by decide +kernel
theorem dX1_reasonAgainst_55 : decode cX1_reasonAgainst 55 = .ok (.invokestatic 23, 3) := by decide +kernel
theorem dX1_reasonAgainst_58 : decode cX1_reasonAgainst 58 = .ok (.ireturn, 1) := by decide +kernel
theorem dX1_reasonAgainst_59 : decode cX1_reasonAgainst 59 = .ok (.aload_n 1, 1) := by decide +kernel
theorem dX1_reasonAgainst_60 : decode cX1_reasonAgainst 60 = .ok (.iload_n 3, 1) := by decide +kernel
theorem dX1_reasonAgainst_61 : decode cX1_reasonAgainst 61 = .ok (.iload 4, 2) := by decide +kernel
theorem dX1_reasonAgainst_63 : decode cX1_reasonAgainst 63 = .ok (.iload 5, 2) := by decide +kernel
theorem dX1_reasonAgainst_65 : decode cX1_reasonAgainst 65 = .ok (.invokestatic 27, 3) := by decide +kernel
theorem dX1_reasonAgainst_68 : decode cX1_reasonAgainst 68 = .ok (.ireturn, 1) := by decide +kernel
theorem dX1_reasonAgainst_69 : decode cX1_reasonAgainst 69 = .ok (.aload_n 1, 1) := by decide +kernel
theorem dX1_reasonAgainst_70 : decode cX1_reasonAgainst 70 = .ok (.iload_n 3, 1) := by decide +kernel
theorem dX1_reasonAgainst_71 : decode cX1_reasonAgainst 71 = .ok (.iload 4, 2) := by decide +kernel
theorem dX1_reasonAgainst_73 : decode cX1_reasonAgainst 73 = .ok (.invokestatic 31, 3) := by decide +kernel
theorem dX1_reasonAgainst_76 : decode cX1_reasonAgainst 76 = .ok (.ireturn, 1) := by decide +kernel
set_option maxHeartbeats 4000000 in
set_option maxRecDepth 100000 in
theorem B_X1_reasonAgainst_0 {d : Nat} {ro : Nat → Nat} {J : JT} {Z : Option Value → Hp → Prop} (g : xCtx RX1 cX1_reasonAgainst 7 d 0 0 yX1_reasonAgainst.name ro J) (hr : xRet cX1_reasonAgainst (some .int) 0 0 Z J) {μ : Hp} {a0 : Nat} {a1 : Nat} {x2 : Int32} {x3 : Int32} {x4 : Int32} {x5 : Int32} {x6 : Int32} (hs_a0 : hS μ a0 = some (5, 1))
    (h : (((x2).toInt < 0 ∨ 3 < (x2).toInt → xCall d yX1_againstLend cX1_againstLend 4 (some .int) [.ref a1, .int x3, .int x4] μ ro (fun r2 μ3 => ∃ y4 : Int32, r2 = some (.int y4) ∧ Z (some (.int y4)) μ3)) ∧ (x2 = 0 → xCall d yX1_againstPay cX1_againstPay 6 (some .int) [.ref a0, .ref a1, .int x3, .int x4, .int x5, .int x6] μ ro (fun r5 μ6 => ∃ y7 : Int32, r5 = some (.int y7) ∧ Z (some (.int y7)) μ6)) ∧ (x2 = 1 → xCall d yX1_againstPass cX1_againstPass 2 (some .int) [.ref a1, .int x3] μ ro (fun r8 μ9 => ∃ y10 : Int32, r8 = some (.int y10) ∧ Z (some (.int y10)) μ9)) ∧ (x2 = 2 → xCall d yX1_againstStaff cX1_againstStaff 3 (some .int) [.ref a1, .int x3, .int x4] μ ro (fun r11 μ12 => ∃ y13 : Int32, r11 = some (.int y13) ∧ Z (some (.int y13)) μ12)) ∧ (x2 = 3 → xCall d yX1_againstOwn cX1_againstOwn 6 (some .int) [.ref a1, .int x3, .int x4, .int x5] μ ro (fun r14 μ15 => ∃ y16 : Int32, r14 = some (.int y16) ∧ Z (some (.int y16)) μ15)))) :
    J μ 0 0 0 [(0, .ref a0), (1, .ref a1), (2, .int x2), (3, .int x3), (4, .int x4), (5, .int x5), (6, .int x6)] [] := by
  refine r_iload_n g dX1_reasonAgainst_0 rfl ?_
  rcases sw_cases (x := x2) 0 3 (by decide) (by decide) with c1 | ⟨z, hz1, hz2, c1⟩
  · refine r_tableOut g 69 dX1_reasonAgainst_1 c1 (by decide) ?_
    replace h := h.1 c1
    refine r_aload_n g dX1_reasonAgainst_69 rfl ?_
    refine r_iload_n g dX1_reasonAgainst_70 rfl ?_
    refine r_iload g dX1_reasonAgainst_71 rfl ?_
    obtain ⟨d1, Z1, hc1, hd1, h1⟩ := h
    refine r_callS (st := []) (As := [.ref a1, .int x3, .int x4]) g sX1_31 iX1_againstLend rfl (Nat.le_of_ble_eq_true rfl) dX1_reasonAgainst_73 hd1 (Nat.le_refl 0) (Nat.le_refl 0) hc1 (fun r2 μ3 hZ1 => ?_)
    replace h := h1 _ _ hZ1
    clear h1 hc1 hd1 hZ1 Z1 d1
    obtain ⟨y4, rfl, h⟩ := h
    exact hr.2.1 _ rfl _ _ _ _ _ _ dX1_reasonAgainst_76 rfl (Nat.le_refl 0) (Nat.le_refl 0) h
  · have hz : z = 0 ∨ z = 1 ∨ z = 2 ∨ z = 3 := by omega
    rcases hz with rfl | rfl | rfl | rfl
    · refine r_tableIn g 32 dX1_reasonAgainst_1 (by rw [c1]; decide) (by rw [c1]; decide) (off := 31) (by rw [c1]; decide) (by decide) ?_
      replace h := h.2.1 c1
      refine r_aload_n g dX1_reasonAgainst_32 rfl ?_
      refine r_aload_n g dX1_reasonAgainst_33 rfl ?_
      refine r_iload_n g dX1_reasonAgainst_34 rfl ?_
      refine r_iload g dX1_reasonAgainst_35 rfl ?_
      refine r_iload g dX1_reasonAgainst_37 rfl ?_
      refine r_iload g dX1_reasonAgainst_39 rfl ?_
      obtain ⟨d1, Z1, hc1, hd1, h1⟩ := h
      refine r_callV (st := []) (As := [.ref a1, .int x3, .int x4, .int x5, .int x6]) g sX1_15 iX1_againstPay eX1_againstPay rfl hs_a0 rfl (Nat.le_of_ble_eq_true rfl) dX1_reasonAgainst_41 hd1 (Nat.le_refl 0) (Nat.le_refl 0) hc1 (fun r5 μ6 hZ1 => ?_)
      replace h := h1 _ _ hZ1
      clear h1 hc1 hd1 hZ1 Z1 d1
      obtain ⟨y7, rfl, h⟩ := h
      exact hr.2.1 _ rfl _ _ _ _ _ _ dX1_reasonAgainst_44 rfl (Nat.le_refl 0) (Nat.le_refl 0) h
    · refine r_tableIn g 45 dX1_reasonAgainst_1 (by rw [c1]; decide) (by rw [c1]; decide) (off := 44) (by rw [c1]; decide) (by decide) ?_
      replace h := h.2.2.1 c1
      refine r_aload_n g dX1_reasonAgainst_45 rfl ?_
      refine r_iload_n g dX1_reasonAgainst_46 rfl ?_
      obtain ⟨d1, Z1, hc1, hd1, h1⟩ := h
      refine r_callS (st := []) (As := [.ref a1, .int x3]) g sX1_19 iX1_againstPass rfl (Nat.le_of_ble_eq_true rfl) dX1_reasonAgainst_47 hd1 (Nat.le_refl 0) (Nat.le_refl 0) hc1 (fun r8 μ9 hZ1 => ?_)
      replace h := h1 _ _ hZ1
      clear h1 hc1 hd1 hZ1 Z1 d1
      obtain ⟨y10, rfl, h⟩ := h
      exact hr.2.1 _ rfl _ _ _ _ _ _ dX1_reasonAgainst_50 rfl (Nat.le_refl 0) (Nat.le_refl 0) h
    · refine r_tableIn g 51 dX1_reasonAgainst_1 (by rw [c1]; decide) (by rw [c1]; decide) (off := 50) (by rw [c1]; decide) (by decide) ?_
      replace h := h.2.2.2.1 c1
      refine r_aload_n g dX1_reasonAgainst_51 rfl ?_
      refine r_iload_n g dX1_reasonAgainst_52 rfl ?_
      refine r_iload g dX1_reasonAgainst_53 rfl ?_
      obtain ⟨d1, Z1, hc1, hd1, h1⟩ := h
      refine r_callS (st := []) (As := [.ref a1, .int x3, .int x4]) g sX1_23 iX1_againstStaff rfl (Nat.le_of_ble_eq_true rfl) dX1_reasonAgainst_55 hd1 (Nat.le_refl 0) (Nat.le_refl 0) hc1 (fun r11 μ12 hZ1 => ?_)
      replace h := h1 _ _ hZ1
      clear h1 hc1 hd1 hZ1 Z1 d1
      obtain ⟨y13, rfl, h⟩ := h
      exact hr.2.1 _ rfl _ _ _ _ _ _ dX1_reasonAgainst_58 rfl (Nat.le_refl 0) (Nat.le_refl 0) h
    · refine r_tableIn g 59 dX1_reasonAgainst_1 (by rw [c1]; decide) (by rw [c1]; decide) (off := 58) (by rw [c1]; decide) (by decide) ?_
      replace h := h.2.2.2.2 c1
      refine r_aload_n g dX1_reasonAgainst_59 rfl ?_
      refine r_iload_n g dX1_reasonAgainst_60 rfl ?_
      refine r_iload g dX1_reasonAgainst_61 rfl ?_
      refine r_iload g dX1_reasonAgainst_63 rfl ?_
      obtain ⟨d1, Z1, hc1, hd1, h1⟩ := h
      refine r_callS (st := []) (As := [.ref a1, .int x3, .int x4, .int x5]) g sX1_27 iX1_againstOwn rfl (Nat.le_of_ble_eq_true rfl) dX1_reasonAgainst_65 hd1 (Nat.le_refl 0) (Nat.le_refl 0) hc1 (fun r14 μ15 hZ1 => ?_)
      replace h := h1 _ _ hZ1
      clear h1 hc1 hd1 hZ1 Z1 d1
      obtain ⟨y16, rfl, h⟩ := h
      exact hr.2.1 _ rfl _ _ _ _ _ _ dX1_reasonAgainst_68 rfl (Nat.le_refl 0) (Nat.le_refl 0) h
theorem I_X1_reasonAgainst {d : Nat} {ro : Nat → Nat} {Z : Option Value → Hp → Prop} {μ : Hp} {a0 : Nat} {a1 : Nat} {x2 : Int32} {x3 : Int32} {x4 : Int32} {x5 : Int32} {x6 : Int32} (h : ∀ J, xCtx RX1 cX1_reasonAgainst 7 d 0 0 yX1_reasonAgainst.name ro J → xRet cX1_reasonAgainst (some .int) 0 0 Z J → J μ 0 0 0 [(0, .ref a0), (1, .ref a1), (2, .int x2), (3, .int x3), (4, .int x4), (5, .int x5), (6, .int x6)] []) : xC d yX1_reasonAgainst cX1_reasonAgainst 7 (some .int) 0 0 [.ref a0, .ref a1, .int x2, .int x3, .int x4, .int x5, .int x6] μ ro Z :=
  xC_intro (own := RX1) (lv := [(0, .ref a0), (1, .ref a1), (2, .int x2), (3, .int x3), (4, .int x4), (5, .int x5), (6, .int x6)]) (by decide) rfl (Nat.le_of_ble_eq_true rfl) rfl (fun J g hr => r_sub g (lv' := [(0, .ref a0), (1, .ref a1), (2, .int x2), (3, .int x3), (4, .int x4), (5, .int x5), (6, .int x6)]) (⟨rfl, rfl, rfl, rfl, rfl, rfl, rfl, trivial⟩) (h J g hr))
theorem dX1_againstPay_0 : decode cX1_againstPay 0 = .ok (.aload_n 1, 1) := by decide +kernel
theorem dX1_againstPay_1 : decode cX1_againstPay 1 = .ok (.getfield 34, 3) := by decide +kernel
theorem dX1_againstPay_4 : decode cX1_againstPay 4 = .ok (.iload_n 3, 1) := by decide +kernel
theorem dX1_againstPay_5 : decode cX1_againstPay 5 = .ok (.invokevirtual 40, 3) := by decide +kernel
theorem dX1_againstPay_8 : decode cX1_againstPay 8 = .ok (.ifCond .eq 15, 3) := by decide +kernel
theorem dX1_againstPay_11 : decode cX1_againstPay 11 = .ok (.aload_n 1, 1) := by decide +kernel
theorem dX1_againstPay_12 : decode cX1_againstPay 12 = .ok (.getfield 34, 3) := by decide +kernel
theorem dX1_againstPay_15 : decode cX1_againstPay 15 = .ok (.iload 4, 2) := by decide +kernel
theorem dX1_againstPay_17 : decode cX1_againstPay 17 = .ok (.invokevirtual 40, 3) := by decide +kernel
theorem dX1_againstPay_20 : decode cX1_againstPay 20 = .ok (.ifCond .ne 5, 3) := by decide +kernel
theorem dX1_againstPay_23 : decode cX1_againstPay 23 = .ok (.iconst 0, 1) := by decide +kernel
theorem dX1_againstPay_24 : decode cX1_againstPay 24 = .ok (.ireturn, 1) := by decide +kernel
theorem dX1_againstPay_25 : decode cX1_againstPay 25 = .ok (.iload_n 2, 1) := by decide +kernel
theorem dX1_againstPay_26 : decode cX1_againstPay 26 = .ok (.invokestatic 46, 3) := by decide +kernel
theorem dX1_againstPay_29 : decode cX1_againstPay 29 = .ok (.ifCond .eq 11, 3) := by decide +kernel
theorem dX1_againstPay_32 : decode cX1_againstPay 32 = .ok (.iload 5, 2) := by decide +kernel
theorem dX1_againstPay_34 : decode cX1_againstPay 34 = .ok (.invokestatic 49, 3) := by decide +kernel
theorem dX1_againstPay_37 : decode cX1_againstPay 37 = .ok (.ifCond .ne 5, 3) := by decide +kernel
theorem dX1_againstPay_40 : decode cX1_againstPay 40 = .ok (.iconst 1, 1) := by decide +kernel
theorem dX1_againstPay_41 : decode cX1_againstPay 41 = .ok (.ireturn, 1) := by decide +kernel
theorem dX1_againstPay_42 : decode cX1_againstPay 42 = .ok (.iload_n 3, 1) := by decide +kernel
theorem dX1_againstPay_43 : decode cX1_againstPay 43 = .ok (.iload 4, 2) := by decide +kernel
theorem dX1_againstPay_45 : decode cX1_againstPay 45 = .ok (.if_icmp .eq 21, 3) := by decide +kernel
theorem dX1_againstPay_48 : decode cX1_againstPay 48 = .ok (.aload_n 0, 1) := by decide +kernel
theorem dX1_againstPay_49 : decode cX1_againstPay 49 = .ok (.getfield 9, 3) := by decide +kernel
theorem dX1_againstPay_52 : decode cX1_againstPay 52 = .ok (.aload_n 1, 1) := by decide +kernel
theorem dX1_againstPay_53 : decode cX1_againstPay 53 = .ok (.iload_n 2, 1) := by decide +kernel
theorem dX1_againstPay_54 : decode cX1_againstPay 54 = .ok (.iload_n 3, 1) := by decide +kernel
theorem dX1_againstPay_55 : decode cX1_againstPay 55 = .ok (.iload 4, 2) := by decide +kernel
theorem dX1_againstPay_57 : decode cX1_againstPay 57 = .ok (.iload 5, 2) := by decide +kernel
theorem dX1_againstPay_59 : decode cX1_againstPay 59 = .ok (.iconst 0, 1) := by decide +kernel
theorem dX1_againstPay_60 : decode cX1_againstPay 60 = .ok (.invokevirtual 52, 3) := by decide +kernel
theorem dX1_againstPay_63 : decode cX1_againstPay 63 = .ok (.ifCond .ne 7, 3) := by decide +kernel
theorem dX1_againstPay_66 : decode cX1_againstPay 66 = .ok (.iconst 2, 1) := by decide +kernel
theorem dX1_againstPay_67 : decode cX1_againstPay 67 = .ok (.goto 4, 3) := by decide +kernel
theorem dX1_againstPay_70 : decode cX1_againstPay 70 = .ok (.iconst (-1), 1) := by decide +kernel
theorem dX1_againstPay_71 : decode cX1_againstPay 71 = .ok (.ireturn, 1) := by decide +kernel
set_option maxHeartbeats 4000000 in
set_option maxRecDepth 100000 in
theorem B_X1_againstPay_0 {d : Nat} {ro : Nat → Nat} {J : JT} {Z : Option Value → Hp → Prop} (g : xCtx RX1 cX1_againstPay 6 d 0 0 yX1_againstPay.name ro J) (hr : xRet cX1_againstPay (some .int) 0 0 Z J) {μ : Hp} {a0 : Nat} {a1 : Nat} {x2 : Int32} {x3 : Int32} {x4 : Int32} {x5 : Int32} {a1_book : Nat} {a0_finder : Nat} (hs_a1 : hS μ a1 = some (12, 4)) (hr_a1_book : hR μ a1 1 = some a1_book) (hs_a1_book : hS μ a1_book = some (6, 9)) (hs_a0 : hS μ a0 = some (5, 1)) (hr_a0_finder : hR μ a0 0 = some a0_finder) (hs_a0_finder : hS μ a0_finder = some (7, 9)) (hd9 : 1 ≤ d)
    (h : ((x3 < 0 → Z (some (.int 0)) μ) ∧ (¬ x3 < 0 → (((hI μ a1_book 6) ≤ x3 → Z (some (.int 0)) μ) ∧ (¬ (hI μ a1_book 6) ≤ x3 → ((x4 < 0 → Z (some (.int 0)) μ) ∧ (¬ x4 < 0 → (((hI μ a1_book 6) ≤ x4 → Z (some (.int 0)) μ) ∧ (¬ (hI μ a1_book 6) ≤ x4 → ((x2 = 0 → ((x5 < 1 → Z (some (.int 1)) μ) ∧ (¬ x5 < 1 → ((1000000 < x5 → Z (some (.int 1)) μ) ∧ (¬ 1000000 < x5 → ((x3 = x4 → Z (some (.int 2)) μ) ∧ (¬ x3 = x4 → xCall d yX3_find cX3_find 7 (some .boolean) [.ref a0_finder, .ref a1, .int x2, .int x3, .int x4, .int x5, .int 0] μ ro (fun r29 μ30 => ∃ y31 : Int32, r29 = some (.int y31) ∧ ((¬ y31 = 0 → Z (some (.int (-1))) μ30) ∧ (y31 = 0 → Z (some (.int 2)) μ30)))))))))) ∧ (¬ x2 = 0 → ((¬ x2 = 1 → Z (some (.int 1)) μ) ∧ (x2 = 1 → ((x5 < 1 → Z (some (.int 1)) μ) ∧ (¬ x5 < 1 → ((1000000 < x5 → Z (some (.int 1)) μ) ∧ (¬ 1000000 < x5 → ((x3 = x4 → Z (some (.int 2)) μ) ∧ (¬ x3 = x4 → xCall d yX3_find cX3_find 7 (some .boolean) [.ref a0_finder, .ref a1, .int x2, .int x3, .int x4, .int x5, .int 0] μ ro (fun r47 μ48 => ∃ y49 : Int32, r47 = some (.int y49) ∧ ((¬ y49 = 0 → Z (some (.int (-1))) μ48) ∧ (y49 = 0 → Z (some (.int 2)) μ48)))))))))))))))))))))) :
    J μ 0 0 0 [(0, .ref a0), (1, .ref a1), (2, .int x2), (3, .int x3), (4, .int x4), (5, .int x5)] [] := by
  refine r_aload_n g dX1_againstPay_0 rfl ?_
  refine r_getR g fX1_34 rfl hs_a1 hr_a1_book dX1_againstPay_1 ?_
  refine r_iload_n g dX1_againstPay_4 rfl ?_
  by_cases c1 : x3 < 0
  · replace h := h.1 c1
    refine r_callV (st := []) (As := [.int x3]) g sX1_40 iX2_hasFirm eX2_hasFirm rfl hs_a1_book rfl (Nat.le_of_ble_eq_true rfl) dX1_againstPay_5 (by omega) (Nat.le_refl 0) (Nat.le_refl 0) (P_X2_hasFirm_0 (d := d - 1) hs_a1_book c1) (fun r2 μ3 hZ1 => ?_)
    obtain ⟨rfl, e9⟩ := hZ1
    replace e9 := e9.symm
    subst e9
    refine r_if_eq g 23 dX1_againstPay_8 (by decide) (fun _ => ?_) (fun hz => absurd hz (by decide))
    refine r_iconst g 0 dX1_againstPay_23 (by decide) ?_
    exact hr.2.1 _ rfl _ _ _ _ _ _ dX1_againstPay_24 rfl (Nat.le_refl 0) (Nat.le_refl 0) h
  · replace h := h.2 c1
    by_cases c4 : (hI μ a1_book 6) ≤ x3
    · replace h := h.1 c4
      refine r_callV (st := []) (As := [.int x3]) g sX1_40 iX2_hasFirm eX2_hasFirm rfl hs_a1_book rfl (Nat.le_of_ble_eq_true rfl) dX1_againstPay_5 (by omega) (Nat.le_refl 0) (Nat.le_refl 0) (P_X2_hasFirm_1 (d := d - 1) hs_a1_book c1 c4) (fun r5 μ6 hZ1 => ?_)
      obtain ⟨rfl, e9⟩ := hZ1
      replace e9 := e9.symm
      subst e9
      refine r_if_eq g 23 dX1_againstPay_8 (by decide) (fun _ => ?_) (fun hz => absurd hz (by decide))
      refine r_iconst g 0 dX1_againstPay_23 (by decide) ?_
      exact hr.2.1 _ rfl _ _ _ _ _ _ dX1_againstPay_24 rfl (Nat.le_refl 0) (Nat.le_refl 0) h
    · replace h := h.2 c4
      refine r_callV (st := []) (As := [.int x3]) g sX1_40 iX2_hasFirm eX2_hasFirm rfl hs_a1_book rfl (Nat.le_of_ble_eq_true rfl) dX1_againstPay_5 (by omega) (Nat.le_refl 0) (Nat.le_refl 0) (P_X2_hasFirm_2 (d := d - 1) hs_a1_book c1 c4) (fun r7 μ8 hZ1 => ?_)
      obtain ⟨rfl, e9⟩ := hZ1
      replace e9 := e9.symm
      subst e9
      refine r_if_eq g 23 dX1_againstPay_8 (by decide) (fun hz => absurd hz (by decide)) (fun _ => ?_)
      refine r_aload_n g dX1_againstPay_11 rfl ?_
      refine r_getR g fX1_34 rfl hs_a1 hr_a1_book dX1_againstPay_12 ?_
      refine r_iload g dX1_againstPay_15 rfl ?_
      by_cases c9 : x4 < 0
      · replace h := h.1 c9
        refine r_callV (st := []) (As := [.int x4]) g sX1_40 iX2_hasFirm eX2_hasFirm rfl hs_a1_book rfl (Nat.le_of_ble_eq_true rfl) dX1_againstPay_17 (by omega) (Nat.le_refl 0) (Nat.le_refl 0) (P_X2_hasFirm_0 (d := d - 1) hs_a1_book c9) (fun r10 μ11 hZ1 => ?_)
        obtain ⟨rfl, e9⟩ := hZ1
        replace e9 := e9.symm
        subst e9
        refine r_if_ne g 25 dX1_againstPay_20 (by decide) (fun hz => absurd hz (by decide)) (fun _ => ?_)
        refine r_iconst g 0 dX1_againstPay_23 (by decide) ?_
        exact hr.2.1 _ rfl _ _ _ _ _ _ dX1_againstPay_24 rfl (Nat.le_refl 0) (Nat.le_refl 0) h
      · replace h := h.2 c9
        by_cases c12 : (hI μ a1_book 6) ≤ x4
        · replace h := h.1 c12
          refine r_callV (st := []) (As := [.int x4]) g sX1_40 iX2_hasFirm eX2_hasFirm rfl hs_a1_book rfl (Nat.le_of_ble_eq_true rfl) dX1_againstPay_17 (by omega) (Nat.le_refl 0) (Nat.le_refl 0) (P_X2_hasFirm_1 (d := d - 1) hs_a1_book c9 c12) (fun r13 μ14 hZ1 => ?_)
          obtain ⟨rfl, e9⟩ := hZ1
          replace e9 := e9.symm
          subst e9
          refine r_if_ne g 25 dX1_againstPay_20 (by decide) (fun hz => absurd hz (by decide)) (fun _ => ?_)
          refine r_iconst g 0 dX1_againstPay_23 (by decide) ?_
          exact hr.2.1 _ rfl _ _ _ _ _ _ dX1_againstPay_24 rfl (Nat.le_refl 0) (Nat.le_refl 0) h
        · replace h := h.2 c12
          refine r_callV (st := []) (As := [.int x4]) g sX1_40 iX2_hasFirm eX2_hasFirm rfl hs_a1_book rfl (Nat.le_of_ble_eq_true rfl) dX1_againstPay_17 (by omega) (Nat.le_refl 0) (Nat.le_refl 0) (P_X2_hasFirm_2 (d := d - 1) hs_a1_book c9 c12) (fun r15 μ16 hZ1 => ?_)
          obtain ⟨rfl, e9⟩ := hZ1
          replace e9 := e9.symm
          subst e9
          refine r_if_ne g 25 dX1_againstPay_20 (by decide) (fun _ => ?_) (fun hz => absurd hz (by decide))
          refine r_iload_n g dX1_againstPay_25 rfl ?_
          by_cases c17 : x2 = 0
          · replace h := h.1 c17
            refine r_callSN (st := []) (As := [.int x2]) g sX1_46 iX11_isSort rfl (Nat.le_of_ble_eq_true rfl) dX1_againstPay_26 (by omega) (Nat.le_refl 0) (Nat.le_refl 0) (P_X11_isSort_0 (d := d - 1)  c17) (fun r18 μ19 hZ1 => ?_)
            obtain ⟨rfl, e9⟩ := hZ1
            replace e9 := e9.symm
            subst e9
            refine r_if_eq g 40 dX1_againstPay_29 (by decide) (fun hz => absurd hz (by decide)) (fun _ => ?_)
            refine r_iload g dX1_againstPay_32 rfl ?_
            by_cases c20 : x5 < 1
            · replace h := h.1 c20
              refine r_callSN (st := []) (As := [.int x5]) g sX1_49 iX11_isAmount rfl (Nat.le_of_ble_eq_true rfl) dX1_againstPay_34 (by omega) (Nat.le_refl 0) (Nat.le_refl 0) (P_X11_isAmount_0 (d := d - 1)  c20) (fun r21 μ22 hZ1 => ?_)
              obtain ⟨rfl, e9⟩ := hZ1
              replace e9 := e9.symm
              subst e9
              refine r_if_ne g 42 dX1_againstPay_37 (by decide) (fun hz => absurd hz (by decide)) (fun _ => ?_)
              refine r_iconst g 1 dX1_againstPay_40 (by decide) ?_
              exact hr.2.1 _ rfl _ _ _ _ _ _ dX1_againstPay_41 rfl (Nat.le_refl 0) (Nat.le_refl 0) h
            · replace h := h.2 c20
              by_cases c23 : 1000000 < x5
              · replace h := h.1 c23
                refine r_callSN (st := []) (As := [.int x5]) g sX1_49 iX11_isAmount rfl (Nat.le_of_ble_eq_true rfl) dX1_againstPay_34 (by omega) (Nat.le_refl 0) (Nat.le_refl 0) (P_X11_isAmount_1 (d := d - 1)  c20 c23) (fun r24 μ25 hZ1 => ?_)
                obtain ⟨rfl, e9⟩ := hZ1
                replace e9 := e9.symm
                subst e9
                refine r_if_ne g 42 dX1_againstPay_37 (by decide) (fun hz => absurd hz (by decide)) (fun _ => ?_)
                refine r_iconst g 1 dX1_againstPay_40 (by decide) ?_
                exact hr.2.1 _ rfl _ _ _ _ _ _ dX1_againstPay_41 rfl (Nat.le_refl 0) (Nat.le_refl 0) h
              · replace h := h.2 c23
                refine r_callSN (st := []) (As := [.int x5]) g sX1_49 iX11_isAmount rfl (Nat.le_of_ble_eq_true rfl) dX1_againstPay_34 (by omega) (Nat.le_refl 0) (Nat.le_refl 0) (P_X11_isAmount_2 (d := d - 1)  c20 c23) (fun r26 μ27 hZ1 => ?_)
                obtain ⟨rfl, e9⟩ := hZ1
                replace e9 := e9.symm
                subst e9
                refine r_if_ne g 42 dX1_againstPay_37 (by decide) (fun _ => ?_) (fun hz => absurd hz (by decide))
                refine r_iload_n g dX1_againstPay_42 rfl ?_
                refine r_iload g dX1_againstPay_43 rfl ?_
                refine r_icmp_eq g 66 dX1_againstPay_45 (by decide) (fun c28 => ?_) (fun c28 => ?_)
                · replace h := h.1 c28
                  refine r_iconst g 2 dX1_againstPay_66 (by decide) ?_
                  refine r_goto g 71 dX1_againstPay_67 (by decide) ?_
                  exact hr.2.1 _ rfl _ _ _ _ _ _ dX1_againstPay_71 rfl (Nat.le_refl 0) (Nat.le_refl 0) h
                · replace h := h.2 c28
                  refine r_aload_n g dX1_againstPay_48 rfl ?_
                  refine r_getR g fX1_9 rfl hs_a0 hr_a0_finder dX1_againstPay_49 ?_
                  refine r_aload_n g dX1_againstPay_52 rfl ?_
                  refine r_iload_n g dX1_againstPay_53 rfl ?_
                  refine r_iload_n g dX1_againstPay_54 rfl ?_
                  refine r_iload g dX1_againstPay_55 rfl ?_
                  refine r_iload g dX1_againstPay_57 rfl ?_
                  refine r_iconst g 0 dX1_againstPay_59 (by decide) ?_
                  obtain ⟨d1, Z1, hc1, hd1, h1⟩ := h
                  refine r_callV (st := []) (As := [.ref a1, .int x2, .int x3, .int x4, .int x5, .int 0]) g sX1_52 iX3_find eX3_find rfl hs_a0_finder rfl (Nat.le_of_ble_eq_true rfl) dX1_againstPay_60 hd1 (Nat.le_refl 0) (Nat.le_refl 0) hc1 (fun r29 μ30 hZ1 => ?_)
                  replace h := h1 _ _ hZ1
                  clear h1 hc1 hd1 hZ1 Z1 d1
                  obtain ⟨y31, rfl, h⟩ := h
                  refine r_if_ne g 70 dX1_againstPay_63 (by decide) (fun c32 => ?_) (fun c32 => ?_)
                  · replace h := h.1 c32
                    refine r_iconst g (-1) dX1_againstPay_70 (by decide) ?_
                    exact hr.2.1 _ rfl _ _ _ _ _ _ dX1_againstPay_71 rfl (Nat.le_refl 0) (Nat.le_refl 0) h
                  · replace h := h.2 c32
                    refine r_iconst g 2 dX1_againstPay_66 (by decide) ?_
                    refine r_goto g 71 dX1_againstPay_67 (by decide) ?_
                    exact hr.2.1 _ rfl _ _ _ _ _ _ dX1_againstPay_71 rfl (Nat.le_refl 0) (Nat.le_refl 0) h
          · replace h := h.2 c17
            by_cases c33 : x2 = 1
            · replace h := h.2 c33
              refine r_callSN (st := []) (As := [.int x2]) g sX1_46 iX11_isSort rfl (Nat.le_of_ble_eq_true rfl) dX1_againstPay_26 (by omega) (Nat.le_refl 0) (Nat.le_refl 0) (P_X11_isSort_2 (d := d - 1)  c17 c33) (fun r36 μ37 hZ1 => ?_)
              obtain ⟨rfl, e9⟩ := hZ1
              replace e9 := e9.symm
              subst e9
              refine r_if_eq g 40 dX1_againstPay_29 (by decide) (fun hz => absurd hz (by decide)) (fun _ => ?_)
              refine r_iload g dX1_againstPay_32 rfl ?_
              by_cases c38 : x5 < 1
              · replace h := h.1 c38
                refine r_callSN (st := []) (As := [.int x5]) g sX1_49 iX11_isAmount rfl (Nat.le_of_ble_eq_true rfl) dX1_againstPay_34 (by omega) (Nat.le_refl 0) (Nat.le_refl 0) (P_X11_isAmount_0 (d := d - 1)  c38) (fun r39 μ40 hZ1 => ?_)
                obtain ⟨rfl, e9⟩ := hZ1
                replace e9 := e9.symm
                subst e9
                refine r_if_ne g 42 dX1_againstPay_37 (by decide) (fun hz => absurd hz (by decide)) (fun _ => ?_)
                refine r_iconst g 1 dX1_againstPay_40 (by decide) ?_
                exact hr.2.1 _ rfl _ _ _ _ _ _ dX1_againstPay_41 rfl (Nat.le_refl 0) (Nat.le_refl 0) h
              · replace h := h.2 c38
                by_cases c41 : 1000000 < x5
                · replace h := h.1 c41
                  refine r_callSN (st := []) (As := [.int x5]) g sX1_49 iX11_isAmount rfl (Nat.le_of_ble_eq_true rfl) dX1_againstPay_34 (by omega) (Nat.le_refl 0) (Nat.le_refl 0) (P_X11_isAmount_1 (d := d - 1)  c38 c41) (fun r42 μ43 hZ1 => ?_)
                  obtain ⟨rfl, e9⟩ := hZ1
                  replace e9 := e9.symm
                  subst e9
                  refine r_if_ne g 42 dX1_againstPay_37 (by decide) (fun hz => absurd hz (by decide)) (fun _ => ?_)
                  refine r_iconst g 1 dX1_againstPay_40 (by decide) ?_
                  exact hr.2.1 _ rfl _ _ _ _ _ _ dX1_againstPay_41 rfl (Nat.le_refl 0) (Nat.le_refl 0) h
                · replace h := h.2 c41
                  refine r_callSN (st := []) (As := [.int x5]) g sX1_49 iX11_isAmount rfl (Nat.le_of_ble_eq_true rfl) dX1_againstPay_34 (by omega) (Nat.le_refl 0) (Nat.le_refl 0) (P_X11_isAmount_2 (d := d - 1)  c38 c41) (fun r44 μ45 hZ1 => ?_)
                  obtain ⟨rfl, e9⟩ := hZ1
                  replace e9 := e9.symm
                  subst e9
                  refine r_if_ne g 42 dX1_againstPay_37 (by decide) (fun _ => ?_) (fun hz => absurd hz (by decide))
                  refine r_iload_n g dX1_againstPay_42 rfl ?_
                  refine r_iload g dX1_againstPay_43 rfl ?_
                  refine r_icmp_eq g 66 dX1_againstPay_45 (by decide) (fun c46 => ?_) (fun c46 => ?_)
                  · replace h := h.1 c46
                    refine r_iconst g 2 dX1_againstPay_66 (by decide) ?_
                    refine r_goto g 71 dX1_againstPay_67 (by decide) ?_
                    exact hr.2.1 _ rfl _ _ _ _ _ _ dX1_againstPay_71 rfl (Nat.le_refl 0) (Nat.le_refl 0) h
                  · replace h := h.2 c46
                    refine r_aload_n g dX1_againstPay_48 rfl ?_
                    refine r_getR g fX1_9 rfl hs_a0 hr_a0_finder dX1_againstPay_49 ?_
                    refine r_aload_n g dX1_againstPay_52 rfl ?_
                    refine r_iload_n g dX1_againstPay_53 rfl ?_
                    refine r_iload_n g dX1_againstPay_54 rfl ?_
                    refine r_iload g dX1_againstPay_55 rfl ?_
                    refine r_iload g dX1_againstPay_57 rfl ?_
                    refine r_iconst g 0 dX1_againstPay_59 (by decide) ?_
                    obtain ⟨d1, Z1, hc1, hd1, h1⟩ := h
                    refine r_callV (st := []) (As := [.ref a1, .int x2, .int x3, .int x4, .int x5, .int 0]) g sX1_52 iX3_find eX3_find rfl hs_a0_finder rfl (Nat.le_of_ble_eq_true rfl) dX1_againstPay_60 hd1 (Nat.le_refl 0) (Nat.le_refl 0) hc1 (fun r47 μ48 hZ1 => ?_)
                    replace h := h1 _ _ hZ1
                    clear h1 hc1 hd1 hZ1 Z1 d1
                    obtain ⟨y49, rfl, h⟩ := h
                    refine r_if_ne g 70 dX1_againstPay_63 (by decide) (fun c50 => ?_) (fun c50 => ?_)
                    · replace h := h.1 c50
                      refine r_iconst g (-1) dX1_againstPay_70 (by decide) ?_
                      exact hr.2.1 _ rfl _ _ _ _ _ _ dX1_againstPay_71 rfl (Nat.le_refl 0) (Nat.le_refl 0) h
                    · replace h := h.2 c50
                      refine r_iconst g 2 dX1_againstPay_66 (by decide) ?_
                      refine r_goto g 71 dX1_againstPay_67 (by decide) ?_
                      exact hr.2.1 _ rfl _ _ _ _ _ _ dX1_againstPay_71 rfl (Nat.le_refl 0) (Nat.le_refl 0) h
            · replace h := h.1 c33
              refine r_callSN (st := []) (As := [.int x2]) g sX1_46 iX11_isSort rfl (Nat.le_of_ble_eq_true rfl) dX1_againstPay_26 (by omega) (Nat.le_refl 0) (Nat.le_refl 0) (P_X11_isSort_1 (d := d - 1)  c17 c33) (fun r34 μ35 hZ1 => ?_)
              obtain ⟨rfl, e9⟩ := hZ1
              replace e9 := e9.symm
              subst e9
              refine r_if_eq g 40 dX1_againstPay_29 (by decide) (fun _ => ?_) (fun hz => absurd hz (by decide))
              refine r_iconst g 1 dX1_againstPay_40 (by decide) ?_
              exact hr.2.1 _ rfl _ _ _ _ _ _ dX1_againstPay_41 rfl (Nat.le_refl 0) (Nat.le_refl 0) h
theorem I_X1_againstPay {d : Nat} {ro : Nat → Nat} {Z : Option Value → Hp → Prop} {μ : Hp} {a0 : Nat} {a1 : Nat} {x2 : Int32} {x3 : Int32} {x4 : Int32} {x5 : Int32} (h : ∀ J, xCtx RX1 cX1_againstPay 6 d 0 0 yX1_againstPay.name ro J → xRet cX1_againstPay (some .int) 0 0 Z J → J μ 0 0 0 [(0, .ref a0), (1, .ref a1), (2, .int x2), (3, .int x3), (4, .int x4), (5, .int x5)] []) : xC d yX1_againstPay cX1_againstPay 6 (some .int) 0 0 [.ref a0, .ref a1, .int x2, .int x3, .int x4, .int x5] μ ro Z :=
  xC_intro (own := RX1) (lv := [(0, .ref a0), (1, .ref a1), (2, .int x2), (3, .int x3), (4, .int x4), (5, .int x5)]) (by decide) rfl (Nat.le_of_ble_eq_true rfl) rfl (fun J g hr => r_sub g (lv' := [(0, .ref a0), (1, .ref a1), (2, .int x2), (3, .int x3), (4, .int x4), (5, .int x5)]) (⟨rfl, rfl, rfl, rfl, rfl, rfl, trivial⟩) (h J g hr))
theorem dX1_againstPass_0 : decode cX1_againstPass 0 = .ok (.aload_n 0, 1) := by decide +kernel
theorem dX1_againstPass_1 : decode cX1_againstPass 1 = .ok (.getfield 34, 3) := by decide +kernel
theorem dX1_againstPass_4 : decode cX1_againstPass 4 = .ok (.getfield 58, 3) := by decide +kernel
theorem dX1_againstPass_7 : decode cX1_againstPass 7 = .ok (.ifCond .ne 5, 3) := by decide +kernel
theorem dX1_againstPass_10 : decode cX1_againstPass 10 = .ok (.iconst 0, 1) := by decide +kernel
theorem dX1_againstPass_11 : decode cX1_againstPass 11 = .ok (.ireturn, 1) := by decide +kernel
theorem dX1_againstPass_12 : decode cX1_againstPass 12 = .ok (.iload_n 1, 1) := by decide +kernel
theorem dX1_againstPass_13 : decode cX1_againstPass 13 = .ok (.iconst 1, 1) := by decide +kernel
theorem dX1_againstPass_14 : decode cX1_againstPass 14 = .ok (.if_icmp .lt 9, 3) := by decide +kernel
theorem dX1_againstPass_17 : decode cX1_againstPass 17 = .ok (.iload_n 1, 1) := by decide +kernel
theorem dX1_againstPass_18 : decode cX1_againstPass 18 = .ok (.bipush 20, 2) := by decide +kernel
theorem dX1_againstPass_20 : decode cX1_againstPass 20 = .ok (.if_icmp .le 5, 3) := by decide +kernel
theorem dX1_againstPass_23 : decode cX1_againstPass 23 = .ok (.iconst 1, 1) := by decide +kernel
theorem dX1_againstPass_24 : decode cX1_againstPass 24 = .ok (.ireturn, 1) := by decide +kernel
theorem dX1_againstPass_25 : decode cX1_againstPass 25 = .ok (.aload_n 0, 1) := by decide +kernel
theorem dX1_againstPass_26 : decode cX1_againstPass 26 = .ok (.getfield 62, 3) := by decide +kernel
theorem dX1_againstPass_29 : decode cX1_againstPass 29 = .ok (.iconst 0, 1) := by decide +kernel
theorem dX1_againstPass_30 : decode cX1_againstPass 30 = .ok (.iaload, 1) := by decide +kernel
theorem dX1_againstPass_31 : decode cX1_againstPass 31 = .ok (.iload_n 1, 1) := by decide +kernel
theorem dX1_againstPass_32 : decode cX1_againstPass 32 = .ok (.iadd, 1) := by decide +kernel
theorem dX1_againstPass_33 : decode cX1_againstPass 33 = .ok (.sipush 199, 3) := by decide +kernel
theorem dX1_againstPass_36 : decode cX1_againstPass 36 = .ok (.if_icmp .le 7, 3) := by decide +kernel
theorem dX1_againstPass_39 : decode cX1_againstPass 39 = .ok (.iconst 3, 1) := by decide +kernel
theorem dX1_againstPass_40 : decode cX1_againstPass 40 = .ok (.goto 4, 3) := by decide +kernel
theorem dX1_againstPass_43 : decode cX1_againstPass 43 = .ok (.iconst (-1), 1) := by decide +kernel
theorem dX1_againstPass_44 : decode cX1_againstPass 44 = .ok (.ireturn, 1) := by decide +kernel
set_option maxHeartbeats 4000000 in
set_option maxRecDepth 100000 in
theorem B_X1_againstPass_0 {d : Nat} {ro : Nat → Nat} {J : JT} {Z : Option Value → Hp → Prop} (g : xCtx RX1 cX1_againstPass 2 d 0 0 yX1_againstPass.name ro J) (hr : xRet cX1_againstPass (some .int) 0 0 Z J) {μ : Hp} {a0 : Nat} {x1 : Int32} {a0_book : Nat} {a0_row : Nat} {N_a0_row : Nat} (hs_a0 : hS μ a0 = some (12, 4)) (hr_a0_book : hR μ a0 1 = some a0_book) (hs_a0_book : hS μ a0_book = some (6, 9)) (hr_a0_row : hR μ a0 0 = some a0_row) (hs_a0_row : hS μ a0_row = some (0, N_a0_row))
    (h : ((¬ (hI μ a0_book 6) = 0 → ((x1 < 1 → Z (some (.int 1)) μ) ∧ (¬ x1 < 1 → ((x1 ≤ 20 → vp_in 0 N_a0_row ∧ ((((hI μ a0_row 0) + x1) ≤ 199 → Z (some (.int (-1))) μ) ∧ (¬ ((hI μ a0_row 0) + x1) ≤ 199 → Z (some (.int 3)) μ))) ∧ (¬ x1 ≤ 20 → Z (some (.int 1)) μ))))) ∧ ((hI μ a0_book 6) = 0 → Z (some (.int 0)) μ))) :
    J μ 0 0 0 [(0, .ref a0), (1, .int x1)] [] := by
  refine r_aload_n g dX1_againstPass_0 rfl ?_
  refine r_getR g fX1_34 rfl hs_a0 hr_a0_book dX1_againstPass_1 ?_
  refine r_getI g fX1_58 rfl hs_a0_book dX1_againstPass_4 ?_
  refine r_if_ne g 12 dX1_againstPass_7 (by decide) (fun c1 => ?_) (fun c1 => ?_)
  · replace h := h.1 c1
    refine r_iload_n g dX1_againstPass_12 rfl ?_
    refine r_iconst g 1 dX1_againstPass_13 (by decide) ?_
    refine r_icmp_lt g 23 dX1_againstPass_14 (by decide) (fun c2 => ?_) (fun c2 => ?_)
    · replace h := h.1 c2
      refine r_iconst g 1 dX1_againstPass_23 (by decide) ?_
      exact hr.2.1 _ rfl _ _ _ _ _ _ dX1_againstPass_24 rfl (Nat.le_refl 0) (Nat.le_refl 0) h
    · replace h := h.2 c2
      refine r_iload_n g dX1_againstPass_17 rfl ?_
      refine r_bipush g 20 dX1_againstPass_18 (by decide) ?_
      refine r_icmp_le g 25 dX1_againstPass_20 (by decide) (fun c3 => ?_) (fun c3 => ?_)
      · replace h := h.1 c3
        refine r_aload_n g dX1_againstPass_25 rfl ?_
        refine r_getR g fX1_62 rfl hs_a0 hr_a0_row dX1_againstPass_26 ?_
        refine r_iconst g 0 dX1_againstPass_29 (by decide) ?_
        obtain ⟨hi4, h⟩ := h
        refine r_iaload g hs_a0_row hi4 dX1_againstPass_30 ?_
        refine r_iload_n g dX1_againstPass_31 rfl ?_
        refine r_iadd g dX1_againstPass_32 ?_
        refine r_sipush g 199 dX1_againstPass_33 (by decide) ?_
        refine r_icmp_le g 43 dX1_againstPass_36 (by decide) (fun c5 => ?_) (fun c5 => ?_)
        · replace h := h.1 c5
          refine r_iconst g (-1) dX1_againstPass_43 (by decide) ?_
          exact hr.2.1 _ rfl _ _ _ _ _ _ dX1_againstPass_44 rfl (Nat.le_refl 0) (Nat.le_refl 0) h
        · replace h := h.2 c5
          refine r_iconst g 3 dX1_againstPass_39 (by decide) ?_
          refine r_goto g 44 dX1_againstPass_40 (by decide) ?_
          exact hr.2.1 _ rfl _ _ _ _ _ _ dX1_againstPass_44 rfl (Nat.le_refl 0) (Nat.le_refl 0) h
      · replace h := h.2 c3
        refine r_iconst g 1 dX1_againstPass_23 (by decide) ?_
        exact hr.2.1 _ rfl _ _ _ _ _ _ dX1_againstPass_24 rfl (Nat.le_refl 0) (Nat.le_refl 0) h
  · replace h := h.2 c1
    refine r_iconst g 0 dX1_againstPass_10 (by decide) ?_
    exact hr.2.1 _ rfl _ _ _ _ _ _ dX1_againstPass_11 rfl (Nat.le_refl 0) (Nat.le_refl 0) h
theorem I_X1_againstPass {d : Nat} {ro : Nat → Nat} {Z : Option Value → Hp → Prop} {μ : Hp} {a0 : Nat} {x1 : Int32} (h : ∀ J, xCtx RX1 cX1_againstPass 2 d 0 0 yX1_againstPass.name ro J → xRet cX1_againstPass (some .int) 0 0 Z J → J μ 0 0 0 [(0, .ref a0), (1, .int x1)] []) : xC d yX1_againstPass cX1_againstPass 2 (some .int) 0 0 [.ref a0, .int x1] μ ro Z :=
  xC_intro (own := RX1) (lv := [(0, .ref a0), (1, .int x1)]) (by decide) rfl (Nat.le_of_ble_eq_true rfl) rfl (fun J g hr => r_sub g (lv' := [(0, .ref a0), (1, .int x1)]) (⟨rfl, rfl, trivial⟩) (h J g hr))
theorem dX1_againstStaff_0 : decode cX1_againstStaff 0 = .ok (.aload_n 0, 1) := by decide +kernel
theorem dX1_againstStaff_1 : decode cX1_againstStaff 1 = .ok (.getfield 34, 3) := by decide +kernel
theorem dX1_againstStaff_4 : decode cX1_againstStaff 4 = .ok (.iload_n 1, 1) := by decide +kernel
theorem dX1_againstStaff_5 : decode cX1_againstStaff 5 = .ok (.invokevirtual 40, 3) := by decide +kernel
theorem dX1_againstStaff_8 : decode cX1_againstStaff 8 = .ok (.ifCond .ne 5, 3) := by decide +kernel
theorem dX1_againstStaff_11 : decode cX1_againstStaff 11 = .ok (.iconst 0, 1) := by decide +kernel
theorem dX1_againstStaff_12 : decode cX1_againstStaff 12 = .ok (.ireturn, 1) := by decide +kernel
theorem dX1_againstStaff_13 : decode cX1_againstStaff 13 = .ok (.iload_n 2, 1) := by decide +kernel
theorem dX1_againstStaff_14 : decode cX1_againstStaff 14 = .ok (.ifCond .lt 9, 3) := by decide +kernel
theorem dX1_againstStaff_17 : decode cX1_againstStaff 17 = .ok (.iload_n 2, 1) := by decide +kernel
theorem dX1_againstStaff_18 : decode cX1_againstStaff 18 = .ok (.bipush 99, 2) := by decide +kernel
theorem dX1_againstStaff_20 : decode cX1_againstStaff 20 = .ok (.if_icmp .le 5, 3) := by decide +kernel
theorem dX1_againstStaff_23 : decode cX1_againstStaff 23 = .ok (.iconst 1, 1) := by decide +kernel
theorem dX1_againstStaff_24 : decode cX1_againstStaff 24 = .ok (.ireturn, 1) := by decide +kernel
theorem dX1_againstStaff_25 : decode cX1_againstStaff 25 = .ok (.aload_n 0, 1) := by decide +kernel
theorem dX1_againstStaff_26 : decode cX1_againstStaff 26 = .ok (.getfield 62, 3) := by decide +kernel
theorem dX1_againstStaff_29 : decode cX1_againstStaff 29 = .ok (.iconst 2, 1) := by decide +kernel
theorem dX1_againstStaff_30 : decode cX1_againstStaff 30 = .ok (.iload_n 1, 1) := by decide +kernel
theorem dX1_againstStaff_31 : decode cX1_againstStaff 31 = .ok (.iadd, 1) := by decide +kernel
theorem dX1_againstStaff_32 : decode cX1_againstStaff 32 = .ok (.iaload, 1) := by decide +kernel
theorem dX1_againstStaff_33 : decode cX1_againstStaff 33 = .ok (.iload_n 2, 1) := by decide +kernel
theorem dX1_againstStaff_34 : decode cX1_againstStaff 34 = .ok (.if_icmp .ne 7, 3) := by decide +kernel
theorem dX1_againstStaff_37 : decode cX1_againstStaff 37 = .ok (.iconst 2, 1) := by decide +kernel
theorem dX1_againstStaff_38 : decode cX1_againstStaff 38 = .ok (.goto 4, 3) := by decide +kernel
theorem dX1_againstStaff_41 : decode cX1_againstStaff 41 = .ok (.iconst (-1), 1) := by decide +kernel
theorem dX1_againstStaff_42 : decode cX1_againstStaff 42 = .ok (.ireturn, 1) := by decide +kernel
set_option maxHeartbeats 4000000 in
set_option maxRecDepth 100000 in
theorem B_X1_againstStaff_0 {d : Nat} {ro : Nat → Nat} {J : JT} {Z : Option Value → Hp → Prop} (g : xCtx RX1 cX1_againstStaff 3 d 0 0 yX1_againstStaff.name ro J) (hr : xRet cX1_againstStaff (some .int) 0 0 Z J) {μ : Hp} {a0 : Nat} {x1 : Int32} {x2 : Int32} {a0_book : Nat} {a0_row : Nat} {N_a0_row : Nat} (hs_a0 : hS μ a0 = some (12, 4)) (hr_a0_book : hR μ a0 1 = some a0_book) (hs_a0_book : hS μ a0_book = some (6, 9)) (hr_a0_row : hR μ a0 0 = some a0_row) (hs_a0_row : hS μ a0_row = some (0, N_a0_row)) (hd9 : 1 ≤ d)
    (h : ((x1 < 0 → Z (some (.int 0)) μ) ∧ (¬ x1 < 0 → (((hI μ a0_book 6) ≤ x1 → Z (some (.int 0)) μ) ∧ (¬ (hI μ a0_book 6) ≤ x1 → ((x2 < 0 → Z (some (.int 1)) μ) ∧ (¬ x2 < 0 → ((x2 ≤ 99 → vp_in (2 + x1) N_a0_row ∧ ((¬ (hI μ a0_row ((2 + x1).toNatClampNeg)) = x2 → Z (some (.int (-1))) μ) ∧ ((hI μ a0_row ((2 + x1).toNatClampNeg)) = x2 → Z (some (.int 2)) μ))) ∧ (¬ x2 ≤ 99 → Z (some (.int 1)) μ))))))))) :
    J μ 0 0 0 [(0, .ref a0), (1, .int x1), (2, .int x2)] [] := by
  refine r_aload_n g dX1_againstStaff_0 rfl ?_
  refine r_getR g fX1_34 rfl hs_a0 hr_a0_book dX1_againstStaff_1 ?_
  refine r_iload_n g dX1_againstStaff_4 rfl ?_
  by_cases c1 : x1 < 0
  · replace h := h.1 c1
    refine r_callV (st := []) (As := [.int x1]) g sX1_40 iX2_hasFirm eX2_hasFirm rfl hs_a0_book rfl (Nat.le_of_ble_eq_true rfl) dX1_againstStaff_5 (by omega) (Nat.le_refl 0) (Nat.le_refl 0) (P_X2_hasFirm_0 (d := d - 1) hs_a0_book c1) (fun r2 μ3 hZ1 => ?_)
    obtain ⟨rfl, e9⟩ := hZ1
    replace e9 := e9.symm
    subst e9
    refine r_if_ne g 13 dX1_againstStaff_8 (by decide) (fun hz => absurd hz (by decide)) (fun _ => ?_)
    refine r_iconst g 0 dX1_againstStaff_11 (by decide) ?_
    exact hr.2.1 _ rfl _ _ _ _ _ _ dX1_againstStaff_12 rfl (Nat.le_refl 0) (Nat.le_refl 0) h
  · replace h := h.2 c1
    by_cases c4 : (hI μ a0_book 6) ≤ x1
    · replace h := h.1 c4
      refine r_callV (st := []) (As := [.int x1]) g sX1_40 iX2_hasFirm eX2_hasFirm rfl hs_a0_book rfl (Nat.le_of_ble_eq_true rfl) dX1_againstStaff_5 (by omega) (Nat.le_refl 0) (Nat.le_refl 0) (P_X2_hasFirm_1 (d := d - 1) hs_a0_book c1 c4) (fun r5 μ6 hZ1 => ?_)
      obtain ⟨rfl, e9⟩ := hZ1
      replace e9 := e9.symm
      subst e9
      refine r_if_ne g 13 dX1_againstStaff_8 (by decide) (fun hz => absurd hz (by decide)) (fun _ => ?_)
      refine r_iconst g 0 dX1_againstStaff_11 (by decide) ?_
      exact hr.2.1 _ rfl _ _ _ _ _ _ dX1_againstStaff_12 rfl (Nat.le_refl 0) (Nat.le_refl 0) h
    · replace h := h.2 c4
      refine r_callV (st := []) (As := [.int x1]) g sX1_40 iX2_hasFirm eX2_hasFirm rfl hs_a0_book rfl (Nat.le_of_ble_eq_true rfl) dX1_againstStaff_5 (by omega) (Nat.le_refl 0) (Nat.le_refl 0) (P_X2_hasFirm_2 (d := d - 1) hs_a0_book c1 c4) (fun r7 μ8 hZ1 => ?_)
      obtain ⟨rfl, e9⟩ := hZ1
      replace e9 := e9.symm
      subst e9
      refine r_if_ne g 13 dX1_againstStaff_8 (by decide) (fun _ => ?_) (fun hz => absurd hz (by decide))
      refine r_iload_n g dX1_againstStaff_13 rfl ?_
      refine r_if_lt g 23 dX1_againstStaff_14 (by decide) (fun c9 => ?_) (fun c9 => ?_)
      · replace h := h.1 c9
        refine r_iconst g 1 dX1_againstStaff_23 (by decide) ?_
        exact hr.2.1 _ rfl _ _ _ _ _ _ dX1_againstStaff_24 rfl (Nat.le_refl 0) (Nat.le_refl 0) h
      · replace h := h.2 c9
        refine r_iload_n g dX1_againstStaff_17 rfl ?_
        refine r_bipush g 99 dX1_againstStaff_18 (by decide) ?_
        refine r_icmp_le g 25 dX1_againstStaff_20 (by decide) (fun c10 => ?_) (fun c10 => ?_)
        · replace h := h.1 c10
          refine r_aload_n g dX1_againstStaff_25 rfl ?_
          refine r_getR g fX1_62 rfl hs_a0 hr_a0_row dX1_againstStaff_26 ?_
          refine r_iconst g 2 dX1_againstStaff_29 (by decide) ?_
          refine r_iload_n g dX1_againstStaff_30 rfl ?_
          refine r_iadd g dX1_againstStaff_31 ?_
          obtain ⟨hi11, h⟩ := h
          refine r_iaload g hs_a0_row hi11 dX1_againstStaff_32 ?_
          refine r_iload_n g dX1_againstStaff_33 rfl ?_
          refine r_icmp_ne g 41 dX1_againstStaff_34 (by decide) (fun c12 => ?_) (fun c12 => ?_)
          · replace h := h.1 c12
            refine r_iconst g (-1) dX1_againstStaff_41 (by decide) ?_
            exact hr.2.1 _ rfl _ _ _ _ _ _ dX1_againstStaff_42 rfl (Nat.le_refl 0) (Nat.le_refl 0) h
          · replace h := h.2 c12
            refine r_iconst g 2 dX1_againstStaff_37 (by decide) ?_
            refine r_goto g 42 dX1_againstStaff_38 (by decide) ?_
            exact hr.2.1 _ rfl _ _ _ _ _ _ dX1_againstStaff_42 rfl (Nat.le_refl 0) (Nat.le_refl 0) h
        · replace h := h.2 c10
          refine r_iconst g 1 dX1_againstStaff_23 (by decide) ?_
          exact hr.2.1 _ rfl _ _ _ _ _ _ dX1_againstStaff_24 rfl (Nat.le_refl 0) (Nat.le_refl 0) h
theorem I_X1_againstStaff {d : Nat} {ro : Nat → Nat} {Z : Option Value → Hp → Prop} {μ : Hp} {a0 : Nat} {x1 : Int32} {x2 : Int32} (h : ∀ J, xCtx RX1 cX1_againstStaff 3 d 0 0 yX1_againstStaff.name ro J → xRet cX1_againstStaff (some .int) 0 0 Z J → J μ 0 0 0 [(0, .ref a0), (1, .int x1), (2, .int x2)] []) : xC d yX1_againstStaff cX1_againstStaff 3 (some .int) 0 0 [.ref a0, .int x1, .int x2] μ ro Z :=
  xC_intro (own := RX1) (lv := [(0, .ref a0), (1, .int x1), (2, .int x2)]) (by decide) rfl (Nat.le_of_ble_eq_true rfl) rfl (fun J g hr => r_sub g (lv' := [(0, .ref a0), (1, .int x1), (2, .int x2)]) (⟨rfl, rfl, rfl, trivial⟩) (h J g hr))
theorem dX1_againstOwn_0 : decode cX1_againstOwn 0 = .ok (.aload_n 0, 1) := by decide +kernel
theorem dX1_againstOwn_1 : decode cX1_againstOwn 1 = .ok (.getfield 34, 3) := by decide +kernel
theorem dX1_againstOwn_4 : decode cX1_againstOwn 4 = .ok (.iload_n 1, 1) := by decide +kernel
theorem dX1_againstOwn_5 : decode cX1_againstOwn 5 = .ok (.invokevirtual 40, 3) := by decide +kernel
theorem dX1_againstOwn_8 : decode cX1_againstOwn 8 = .ok (.ifCond .eq 14, 3) := by decide +kernel
theorem dX1_againstOwn_11 : decode cX1_againstOwn 11 = .ok (.aload_n 0, 1) := by decide +kernel
theorem dX1_againstOwn_12 : decode cX1_againstOwn 12 = .ok (.getfield 34, 3) := by decide +kernel
theorem dX1_againstOwn_15 : decode cX1_againstOwn 15 = .ok (.iload_n 2, 1) := by decide +kernel
theorem dX1_againstOwn_16 : decode cX1_againstOwn 16 = .ok (.invokevirtual 40, 3) := by decide +kernel
theorem dX1_againstOwn_19 : decode cX1_againstOwn 19 = .ok (.ifCond .ne 5, 3) := by decide +kernel
theorem dX1_againstOwn_22 : decode cX1_againstOwn 22 = .ok (.iconst 0, 1) := by decide +kernel
theorem dX1_againstOwn_23 : decode cX1_againstOwn 23 = .ok (.ireturn, 1) := by decide +kernel
theorem dX1_againstOwn_24 : decode cX1_againstOwn 24 = .ok (.iload_n 3, 1) := by decide +kernel
theorem dX1_againstOwn_25 : decode cX1_againstOwn 25 = .ok (.ifCond .lt 9, 3) := by decide +kernel
theorem dX1_againstOwn_28 : decode cX1_againstOwn 28 = .ok (.iload_n 3, 1) := by decide +kernel
theorem dX1_againstOwn_29 : decode cX1_againstOwn 29 = .ok (.bipush 100, 2) := by decide +kernel
theorem dX1_againstOwn_31 : decode cX1_againstOwn 31 = .ok (.if_icmp .le 5, 3) := by decide +kernel
theorem dX1_againstOwn_34 : decode cX1_againstOwn 34 = .ok (.iconst 1, 1) := by decide +kernel
theorem dX1_againstOwn_35 : decode cX1_againstOwn 35 = .ok (.ireturn, 1) := by decide +kernel
theorem dX1_againstOwn_36 : decode cX1_againstOwn 36 = .ok (.aload_n 0, 1) := by decide +kernel
theorem dX1_againstOwn_37 : decode cX1_againstOwn 37 = .ok (.iconst 0, 1) := by decide +kernel
theorem dX1_againstOwn_38 : decode cX1_againstOwn 38 = .ok (.iload_n 1, 1) := by decide +kernel
theorem dX1_againstOwn_39 : decode cX1_againstOwn 39 = .ok (.iload_n 2, 1) := by decide +kernel
theorem dX1_againstOwn_40 : decode cX1_againstOwn 40 = .ok (.invokevirtual 66, 3) := by decide +kernel
theorem dX1_againstOwn_43 : decode cX1_againstOwn 43 = .ok (.istore 4, 2) := by decide +kernel
theorem dX1_againstOwn_45 : decode cX1_againstOwn 45 = .ok (.iload 4, 2) := by decide +kernel
theorem dX1_againstOwn_47 : decode cX1_againstOwn 47 = .ok (.iconst (-1), 1) := by decide +kernel
theorem dX1_againstOwn_48 : decode cX1_againstOwn 48 = .ok (.if_icmp .ne 7, 3) := by decide +kernel
theorem dX1_againstOwn_51 : decode cX1_againstOwn 51 = .ok (.iconst 0, 1) := by decide +kernel
theorem dX1_againstOwn_52 : decode cX1_againstOwn 52 = .ok (.goto 13, 3) := by decide +kernel
theorem dX1_againstOwn_55 : decode cX1_againstOwn 55 = .ok (.aload_n 0, 1) := by decide +kernel
theorem dX1_againstOwn_56 : decode cX1_againstOwn 56 = .ok (.getfield 62, 3) := by decide +kernel
theorem dX1_againstOwn_59 : decode cX1_againstOwn 59 = .ok (.bipush 80, 2) := by decide +kernel
theorem dX1_againstOwn_61 : decode cX1_againstOwn 61 = .ok (.iload 4, 2) := by decide +kernel
theorem dX1_againstOwn_63 : decode cX1_againstOwn 63 = .ok (.iadd, 1) := by decide +kernel
theorem dX1_againstOwn_64 : decode cX1_againstOwn 64 = .ok (.iaload, 1) := by decide +kernel
theorem dX1_againstOwn_65 : decode cX1_againstOwn 65 = .ok (.istore 5, 2) := by decide +kernel
theorem dX1_againstOwn_67 : decode cX1_againstOwn 67 = .ok (.iload_n 1, 1) := by decide +kernel
theorem dX1_againstOwn_68 : decode cX1_againstOwn 68 = .ok (.iload_n 2, 1) := by decide +kernel
theorem dX1_againstOwn_69 : decode cX1_againstOwn 69 = .ok (.if_icmp .eq 9, 3) := by decide +kernel
theorem dX1_againstOwn_72 : decode cX1_againstOwn 72 = .ok (.iload 5, 2) := by decide +kernel
theorem dX1_againstOwn_74 : decode cX1_againstOwn 74 = .ok (.iload_n 3, 1) := by decide +kernel
theorem dX1_againstOwn_75 : decode cX1_againstOwn 75 = .ok (.if_icmp .ne 5, 3) := by decide +kernel
theorem dX1_againstOwn_78 : decode cX1_againstOwn 78 = .ok (.iconst 2, 1) := by decide +kernel
theorem dX1_againstOwn_79 : decode cX1_againstOwn 79 = .ok (.ireturn, 1) := by decide +kernel
theorem dX1_againstOwn_80 : decode cX1_againstOwn 80 = .ok (.iload 4, 2) := by decide +kernel
theorem dX1_againstOwn_82 : decode cX1_againstOwn 82 = .ok (.iconst (-1), 1) := by decide +kernel
theorem dX1_againstOwn_83 : decode cX1_againstOwn 83 = .ok (.if_icmp .ne 18, 3) := by decide +kernel
theorem dX1_againstOwn_86 : decode cX1_againstOwn 86 = .ok (.aload_n 0, 1) := by decide +kernel
theorem dX1_againstOwn_87 : decode cX1_againstOwn 87 = .ok (.getfield 62, 3) := by decide +kernel
theorem dX1_againstOwn_90 : decode cX1_againstOwn 90 = .ok (.iconst 1, 1) := by decide +kernel
theorem dX1_againstOwn_91 : decode cX1_againstOwn 91 = .ok (.iaload, 1) := by decide +kernel
theorem dX1_againstOwn_92 : decode cX1_againstOwn 92 = .ok (.bipush 16, 2) := by decide +kernel
theorem dX1_againstOwn_94 : decode cX1_againstOwn 94 = .ok (.if_icmp .lt 7, 3) := by decide +kernel
theorem dX1_againstOwn_97 : decode cX1_againstOwn 97 = .ok (.iconst 3, 1) := by decide +kernel
theorem dX1_againstOwn_98 : decode cX1_againstOwn 98 = .ok (.goto 4, 3) := by decide +kernel
theorem dX1_againstOwn_101 : decode cX1_againstOwn 101 = .ok (.iconst (-1), 1) := by decide +kernel
theorem dX1_againstOwn_102 : decode cX1_againstOwn 102 = .ok (.ireturn, 1) := by decide +kernel
set_option maxHeartbeats 4000000 in
set_option maxRecDepth 100000 in
theorem B_X1_againstOwn_0 {d : Nat} {ro : Nat → Nat} {J : JT} {Z : Option Value → Hp → Prop} (g : xCtx RX1 cX1_againstOwn 6 d 0 0 yX1_againstOwn.name ro J) (hr : xRet cX1_againstOwn (some .int) 0 0 Z J) {μ : Hp} {a0 : Nat} {x1 : Int32} {x2 : Int32} {x3 : Int32} {a0_book : Nat} (hs_a0 : hS μ a0 = some (12, 4)) (hr_a0_book : hR μ a0 1 = some a0_book) (hs_a0_book : hS μ a0_book = some (6, 9)) (hd9 : 1 ≤ d)
    (h : ((x1 < 0 → Z (some (.int 0)) μ) ∧ (¬ x1 < 0 → (((hI μ a0_book 6) ≤ x1 → Z (some (.int 0)) μ) ∧ (¬ (hI μ a0_book 6) ≤ x1 → ((x2 < 0 → Z (some (.int 0)) μ) ∧ (¬ x2 < 0 → (((hI μ a0_book 6) ≤ x2 → Z (some (.int 0)) μ) ∧ (¬ (hI μ a0_book 6) ≤ x2 → ((x3 < 0 → Z (some (.int 1)) μ) ∧ (¬ x3 < 0 → ((x3 ≤ 100 → xCall d yX8_linkOf cX8_linkOf 5 (some .int) [.ref a0, .int 0, .int x1, .int x2] μ ro (fun r19 μ20 => ∃ y21 : Int32, r19 = some (.int y21) ∧ ((¬ y21 = (-1) → hS μ20 a0 = some (12, 4) ∧ ∃ row_23 : Nat, hR μ20 a0 0 = some row_23 ∧ ∃ N24 : Nat, hS μ20 row_23 = some (0, N24) ∧ vp_in (80 + y21) N24 ∧ ((x1 = x2 → Z (some (.int 2)) μ20) ∧ (¬ x1 = x2 → ((¬ (hI μ20 row_23 ((80 + y21).toNatClampNeg)) = x3 → ((¬ y21 = (-1) → Z (some (.int (-1))) μ20) ∧ (y21 = (-1) → vp_in 1 N24 ∧ (((hI μ20 row_23 1) < 16 → Z (some (.int (-1))) μ20) ∧ (¬ (hI μ20 row_23 1) < 16 → Z (some (.int 3)) μ20))))) ∧ ((hI μ20 row_23 ((80 + y21).toNatClampNeg)) = x3 → Z (some (.int 2)) μ20))))) ∧ (y21 = (-1) → ((x1 = x2 → Z (some (.int 2)) μ20) ∧ (¬ x1 = x2 → ((¬ 0 = x3 → ((¬ y21 = (-1) → Z (some (.int (-1))) μ20) ∧ (y21 = (-1) → hS μ20 a0 = some (12, 4) ∧ ∃ row_34 : Nat, hR μ20 a0 0 = some row_34 ∧ ∃ N35 : Nat, hS μ20 row_34 = some (0, N35) ∧ vp_in 1 N35 ∧ (((hI μ20 row_34 1) < 16 → Z (some (.int (-1))) μ20) ∧ (¬ (hI μ20 row_34 1) < 16 → Z (some (.int 3)) μ20))))) ∧ (0 = x3 → Z (some (.int 2)) μ20)))))))) ∧ (¬ x3 ≤ 100 → Z (some (.int 1)) μ))))))))))))) :
    J μ 0 0 0 [(0, .ref a0), (1, .int x1), (2, .int x2), (3, .int x3)] [] := by
  refine r_aload_n g dX1_againstOwn_0 rfl ?_
  refine r_getR g fX1_34 rfl hs_a0 hr_a0_book dX1_againstOwn_1 ?_
  refine r_iload_n g dX1_againstOwn_4 rfl ?_
  by_cases c1 : x1 < 0
  · replace h := h.1 c1
    refine r_callV (st := []) (As := [.int x1]) g sX1_40 iX2_hasFirm eX2_hasFirm rfl hs_a0_book rfl (Nat.le_of_ble_eq_true rfl) dX1_againstOwn_5 (by omega) (Nat.le_refl 0) (Nat.le_refl 0) (P_X2_hasFirm_0 (d := d - 1) hs_a0_book c1) (fun r2 μ3 hZ1 => ?_)
    obtain ⟨rfl, e9⟩ := hZ1
    replace e9 := e9.symm
    subst e9
    refine r_if_eq g 22 dX1_againstOwn_8 (by decide) (fun _ => ?_) (fun hz => absurd hz (by decide))
    refine r_iconst g 0 dX1_againstOwn_22 (by decide) ?_
    exact hr.2.1 _ rfl _ _ _ _ _ _ dX1_againstOwn_23 rfl (Nat.le_refl 0) (Nat.le_refl 0) h
  · replace h := h.2 c1
    by_cases c4 : (hI μ a0_book 6) ≤ x1
    · replace h := h.1 c4
      refine r_callV (st := []) (As := [.int x1]) g sX1_40 iX2_hasFirm eX2_hasFirm rfl hs_a0_book rfl (Nat.le_of_ble_eq_true rfl) dX1_againstOwn_5 (by omega) (Nat.le_refl 0) (Nat.le_refl 0) (P_X2_hasFirm_1 (d := d - 1) hs_a0_book c1 c4) (fun r5 μ6 hZ1 => ?_)
      obtain ⟨rfl, e9⟩ := hZ1
      replace e9 := e9.symm
      subst e9
      refine r_if_eq g 22 dX1_againstOwn_8 (by decide) (fun _ => ?_) (fun hz => absurd hz (by decide))
      refine r_iconst g 0 dX1_againstOwn_22 (by decide) ?_
      exact hr.2.1 _ rfl _ _ _ _ _ _ dX1_againstOwn_23 rfl (Nat.le_refl 0) (Nat.le_refl 0) h
    · replace h := h.2 c4
      refine r_callV (st := []) (As := [.int x1]) g sX1_40 iX2_hasFirm eX2_hasFirm rfl hs_a0_book rfl (Nat.le_of_ble_eq_true rfl) dX1_againstOwn_5 (by omega) (Nat.le_refl 0) (Nat.le_refl 0) (P_X2_hasFirm_2 (d := d - 1) hs_a0_book c1 c4) (fun r7 μ8 hZ1 => ?_)
      obtain ⟨rfl, e9⟩ := hZ1
      replace e9 := e9.symm
      subst e9
      refine r_if_eq g 22 dX1_againstOwn_8 (by decide) (fun hz => absurd hz (by decide)) (fun _ => ?_)
      refine r_aload_n g dX1_againstOwn_11 rfl ?_
      refine r_getR g fX1_34 rfl hs_a0 hr_a0_book dX1_againstOwn_12 ?_
      refine r_iload_n g dX1_againstOwn_15 rfl ?_
      by_cases c9 : x2 < 0
      · replace h := h.1 c9
        refine r_callV (st := []) (As := [.int x2]) g sX1_40 iX2_hasFirm eX2_hasFirm rfl hs_a0_book rfl (Nat.le_of_ble_eq_true rfl) dX1_againstOwn_16 (by omega) (Nat.le_refl 0) (Nat.le_refl 0) (P_X2_hasFirm_0 (d := d - 1) hs_a0_book c9) (fun r10 μ11 hZ1 => ?_)
        obtain ⟨rfl, e9⟩ := hZ1
        replace e9 := e9.symm
        subst e9
        refine r_if_ne g 24 dX1_againstOwn_19 (by decide) (fun hz => absurd hz (by decide)) (fun _ => ?_)
        refine r_iconst g 0 dX1_againstOwn_22 (by decide) ?_
        exact hr.2.1 _ rfl _ _ _ _ _ _ dX1_againstOwn_23 rfl (Nat.le_refl 0) (Nat.le_refl 0) h
      · replace h := h.2 c9
        by_cases c12 : (hI μ a0_book 6) ≤ x2
        · replace h := h.1 c12
          refine r_callV (st := []) (As := [.int x2]) g sX1_40 iX2_hasFirm eX2_hasFirm rfl hs_a0_book rfl (Nat.le_of_ble_eq_true rfl) dX1_againstOwn_16 (by omega) (Nat.le_refl 0) (Nat.le_refl 0) (P_X2_hasFirm_1 (d := d - 1) hs_a0_book c9 c12) (fun r13 μ14 hZ1 => ?_)
          obtain ⟨rfl, e9⟩ := hZ1
          replace e9 := e9.symm
          subst e9
          refine r_if_ne g 24 dX1_againstOwn_19 (by decide) (fun hz => absurd hz (by decide)) (fun _ => ?_)
          refine r_iconst g 0 dX1_againstOwn_22 (by decide) ?_
          exact hr.2.1 _ rfl _ _ _ _ _ _ dX1_againstOwn_23 rfl (Nat.le_refl 0) (Nat.le_refl 0) h
        · replace h := h.2 c12
          refine r_callV (st := []) (As := [.int x2]) g sX1_40 iX2_hasFirm eX2_hasFirm rfl hs_a0_book rfl (Nat.le_of_ble_eq_true rfl) dX1_againstOwn_16 (by omega) (Nat.le_refl 0) (Nat.le_refl 0) (P_X2_hasFirm_2 (d := d - 1) hs_a0_book c9 c12) (fun r15 μ16 hZ1 => ?_)
          obtain ⟨rfl, e9⟩ := hZ1
          replace e9 := e9.symm
          subst e9
          refine r_if_ne g 24 dX1_againstOwn_19 (by decide) (fun _ => ?_) (fun hz => absurd hz (by decide))
          refine r_iload_n g dX1_againstOwn_24 rfl ?_
          refine r_if_lt g 34 dX1_againstOwn_25 (by decide) (fun c17 => ?_) (fun c17 => ?_)
          · replace h := h.1 c17
            refine r_iconst g 1 dX1_againstOwn_34 (by decide) ?_
            exact hr.2.1 _ rfl _ _ _ _ _ _ dX1_againstOwn_35 rfl (Nat.le_refl 0) (Nat.le_refl 0) h
          · replace h := h.2 c17
            refine r_iload_n g dX1_againstOwn_28 rfl ?_
            refine r_bipush g 100 dX1_againstOwn_29 (by decide) ?_
            refine r_icmp_le g 36 dX1_againstOwn_31 (by decide) (fun c18 => ?_) (fun c18 => ?_)
            · replace h := h.1 c18
              refine r_aload_n g dX1_againstOwn_36 rfl ?_
              refine r_iconst g 0 dX1_againstOwn_37 (by decide) ?_
              refine r_iload_n g dX1_againstOwn_38 rfl ?_
              refine r_iload_n g dX1_againstOwn_39 rfl ?_
              obtain ⟨d1, Z1, hc1, hd1, h1⟩ := h
              refine r_callV (st := []) (As := [.int 0, .int x1, .int x2]) g sX1_66 iX8_linkOf eX8_linkOf rfl hs_a0 rfl (Nat.le_of_ble_eq_true rfl) dX1_againstOwn_40 hd1 (Nat.le_refl 0) (Nat.le_refl 0) hc1 (fun r19 μ20 hZ1 => ?_)
              replace h := h1 _ _ hZ1
              clear h1 hc1 hd1 hZ1 Z1 d1
              obtain ⟨y21, rfl, h⟩ := h
              refine r_istore g [(4, .int y21), (0, .ref a0), (1, .int x1), (2, .int x2), (3, .int x3)] dX1_againstOwn_43 (by decide) rfl ?_
              refine r_iload g dX1_againstOwn_45 rfl ?_
              refine r_iconst g (-1) dX1_againstOwn_47 (by decide) ?_
              refine r_icmp_ne g 55 dX1_againstOwn_48 (by decide) (fun c22 => ?_) (fun c22 => ?_)
              · replace h := h.1 c22
                refine r_aload_n g dX1_againstOwn_55 rfl ?_
                obtain ⟨hs_a0_, h⟩ := h
                obtain ⟨row_23, hr_row_23, h⟩ := h
                refine r_getR g fX1_62 rfl hs_a0_ hr_row_23 dX1_againstOwn_56 ?_
                refine r_bipush g 80 dX1_againstOwn_59 (by decide) ?_
                refine r_iload g dX1_againstOwn_61 rfl ?_
                refine r_iadd g dX1_againstOwn_63 ?_
                obtain ⟨N24, hs_row_23, h⟩ := h
                obtain ⟨hi25, h⟩ := h
                refine r_iaload g hs_row_23 hi25 dX1_againstOwn_64 ?_
                refine r_istore g [(5, .int (hI μ20 row_23 ((80 + y21).toNatClampNeg))), (4, .int y21), (0, .ref a0), (1, .int x1), (2, .int x2), (3, .int x3)] dX1_againstOwn_65 (by decide) rfl ?_
                refine r_iload_n g dX1_againstOwn_67 rfl ?_
                refine r_iload_n g dX1_againstOwn_68 rfl ?_
                refine r_icmp_eq g 78 dX1_againstOwn_69 (by decide) (fun c26 => ?_) (fun c26 => ?_)
                · replace h := h.1 c26
                  refine r_iconst g 2 dX1_againstOwn_78 (by decide) ?_
                  exact hr.2.1 _ rfl _ _ _ _ _ _ dX1_againstOwn_79 rfl (Nat.le_refl 0) (Nat.le_refl 0) h
                · replace h := h.2 c26
                  refine r_iload g dX1_againstOwn_72 rfl ?_
                  refine r_iload_n g dX1_againstOwn_74 rfl ?_
                  refine r_icmp_ne g 80 dX1_againstOwn_75 (by decide) (fun c27 => ?_) (fun c27 => ?_)
                  · replace h := h.1 c27
                    refine r_iload g dX1_againstOwn_80 rfl ?_
                    refine r_iconst g (-1) dX1_againstOwn_82 (by decide) ?_
                    refine r_icmp_ne g 101 dX1_againstOwn_83 (by decide) (fun c28 => ?_) (fun c28 => ?_)
                    · replace h := h.1 c28
                      refine r_iconst g (-1) dX1_againstOwn_101 (by decide) ?_
                      exact hr.2.1 _ rfl _ _ _ _ _ _ dX1_againstOwn_102 rfl (Nat.le_refl 0) (Nat.le_refl 0) h
                    · replace h := h.2 c28
                      refine r_aload_n g dX1_againstOwn_86 rfl ?_
                      refine r_getR g fX1_62 rfl hs_a0_ hr_row_23 dX1_againstOwn_87 ?_
                      refine r_iconst g 1 dX1_againstOwn_90 (by decide) ?_
                      obtain ⟨hi29, h⟩ := h
                      refine r_iaload g hs_row_23 hi29 dX1_againstOwn_91 ?_
                      refine r_bipush g 16 dX1_againstOwn_92 (by decide) ?_
                      refine r_icmp_lt g 101 dX1_againstOwn_94 (by decide) (fun c30 => ?_) (fun c30 => ?_)
                      · replace h := h.1 c30
                        refine r_iconst g (-1) dX1_againstOwn_101 (by decide) ?_
                        exact hr.2.1 _ rfl _ _ _ _ _ _ dX1_againstOwn_102 rfl (Nat.le_refl 0) (Nat.le_refl 0) h
                      · replace h := h.2 c30
                        refine r_iconst g 3 dX1_againstOwn_97 (by decide) ?_
                        refine r_goto g 102 dX1_againstOwn_98 (by decide) ?_
                        exact hr.2.1 _ rfl _ _ _ _ _ _ dX1_againstOwn_102 rfl (Nat.le_refl 0) (Nat.le_refl 0) h
                  · replace h := h.2 c27
                    refine r_iconst g 2 dX1_againstOwn_78 (by decide) ?_
                    exact hr.2.1 _ rfl _ _ _ _ _ _ dX1_againstOwn_79 rfl (Nat.le_refl 0) (Nat.le_refl 0) h
              · replace h := h.2 c22
                refine r_iconst g 0 dX1_againstOwn_51 (by decide) ?_
                refine r_goto g 65 dX1_againstOwn_52 (by decide) ?_
                refine r_istore g [(5, .int 0), (4, .int y21), (0, .ref a0), (1, .int x1), (2, .int x2), (3, .int x3)] dX1_againstOwn_65 (by decide) rfl ?_
                refine r_iload_n g dX1_againstOwn_67 rfl ?_
                refine r_iload_n g dX1_againstOwn_68 rfl ?_
                refine r_icmp_eq g 78 dX1_againstOwn_69 (by decide) (fun c31 => ?_) (fun c31 => ?_)
                · replace h := h.1 c31
                  refine r_iconst g 2 dX1_againstOwn_78 (by decide) ?_
                  exact hr.2.1 _ rfl _ _ _ _ _ _ dX1_againstOwn_79 rfl (Nat.le_refl 0) (Nat.le_refl 0) h
                · replace h := h.2 c31
                  refine r_iload g dX1_againstOwn_72 rfl ?_
                  refine r_iload_n g dX1_againstOwn_74 rfl ?_
                  refine r_icmp_ne g 80 dX1_againstOwn_75 (by decide) (fun c32 => ?_) (fun c32 => ?_)
                  · replace h := h.1 c32
                    refine r_iload g dX1_againstOwn_80 rfl ?_
                    refine r_iconst g (-1) dX1_againstOwn_82 (by decide) ?_
                    refine r_icmp_ne g 101 dX1_againstOwn_83 (by decide) (fun c33 => ?_) (fun c33 => ?_)
                    · replace h := h.1 c33
                      refine r_iconst g (-1) dX1_againstOwn_101 (by decide) ?_
                      exact hr.2.1 _ rfl _ _ _ _ _ _ dX1_againstOwn_102 rfl (Nat.le_refl 0) (Nat.le_refl 0) h
                    · replace h := h.2 c33
                      refine r_aload_n g dX1_againstOwn_86 rfl ?_
                      obtain ⟨hs_a0__, h⟩ := h
                      obtain ⟨row_34, hr_row_34, h⟩ := h
                      refine r_getR g fX1_62 rfl hs_a0__ hr_row_34 dX1_againstOwn_87 ?_
                      refine r_iconst g 1 dX1_againstOwn_90 (by decide) ?_
                      obtain ⟨N35, hs_row_34, h⟩ := h
                      obtain ⟨hi36, h⟩ := h
                      refine r_iaload g hs_row_34 hi36 dX1_againstOwn_91 ?_
                      refine r_bipush g 16 dX1_againstOwn_92 (by decide) ?_
                      refine r_icmp_lt g 101 dX1_againstOwn_94 (by decide) (fun c37 => ?_) (fun c37 => ?_)
                      · replace h := h.1 c37
                        refine r_iconst g (-1) dX1_againstOwn_101 (by decide) ?_
                        exact hr.2.1 _ rfl _ _ _ _ _ _ dX1_againstOwn_102 rfl (Nat.le_refl 0) (Nat.le_refl 0) h
                      · replace h := h.2 c37
                        refine r_iconst g 3 dX1_againstOwn_97 (by decide) ?_
                        refine r_goto g 102 dX1_againstOwn_98 (by decide) ?_
                        exact hr.2.1 _ rfl _ _ _ _ _ _ dX1_againstOwn_102 rfl (Nat.le_refl 0) (Nat.le_refl 0) h
                  · replace h := h.2 c32
                    refine r_iconst g 2 dX1_againstOwn_78 (by decide) ?_
                    exact hr.2.1 _ rfl _ _ _ _ _ _ dX1_againstOwn_79 rfl (Nat.le_refl 0) (Nat.le_refl 0) h
            · replace h := h.2 c18
              refine r_iconst g 1 dX1_againstOwn_34 (by decide) ?_
              exact hr.2.1 _ rfl _ _ _ _ _ _ dX1_againstOwn_35 rfl (Nat.le_refl 0) (Nat.le_refl 0) h
theorem I_X1_againstOwn {d : Nat} {ro : Nat → Nat} {Z : Option Value → Hp → Prop} {μ : Hp} {a0 : Nat} {x1 : Int32} {x2 : Int32} {x3 : Int32} (h : ∀ J, xCtx RX1 cX1_againstOwn 6 d 0 0 yX1_againstOwn.name ro J → xRet cX1_againstOwn (some .int) 0 0 Z J → J μ 0 0 0 [(0, .ref a0), (1, .int x1), (2, .int x2), (3, .int x3)] []) : xC d yX1_againstOwn cX1_againstOwn 6 (some .int) 0 0 [.ref a0, .int x1, .int x2, .int x3] μ ro Z :=
  xC_intro (own := RX1) (lv := [(0, .ref a0), (1, .int x1), (2, .int x2), (3, .int x3)]) (by decide) rfl (Nat.le_of_ble_eq_true rfl) rfl (fun J g hr => r_sub g (lv' := [(0, .ref a0), (1, .int x1), (2, .int x2), (3, .int x3)]) (⟨rfl, rfl, rfl, rfl, trivial⟩) (h J g hr))
theorem dX1_againstLend_0 : decode cX1_againstLend 0 = .ok (.aload_n 0, 1) := by decide +kernel
theorem dX1_againstLend_1 : decode cX1_againstLend 1 = .ok (.getfield 34, 3) := by decide +kernel
theorem dX1_againstLend_4 : decode cX1_againstLend 4 = .ok (.iload_n 1, 1) := by decide +kernel
theorem dX1_againstLend_5 : decode cX1_againstLend 5 = .ok (.invokevirtual 40, 3) := by decide +kernel
theorem dX1_againstLend_8 : decode cX1_againstLend 8 = .ok (.ifCond .eq 14, 3) := by decide +kernel
theorem dX1_againstLend_11 : decode cX1_againstLend 11 = .ok (.aload_n 0, 1) := by decide +kernel
theorem dX1_againstLend_12 : decode cX1_againstLend 12 = .ok (.getfield 34, 3) := by decide +kernel
theorem dX1_againstLend_15 : decode cX1_againstLend 15 = .ok (.iload_n 2, 1) := by decide +kernel
theorem dX1_againstLend_16 : decode cX1_againstLend 16 = .ok (.invokevirtual 40, 3) := by decide +kernel
theorem dX1_againstLend_19 : decode cX1_againstLend 19 = .ok (.ifCond .ne 5, 3) := by decide +kernel
theorem dX1_againstLend_22 : decode cX1_againstLend 22 = .ok (.iconst 0, 1) := by decide +kernel
theorem dX1_againstLend_23 : decode cX1_againstLend 23 = .ok (.ireturn, 1) := by decide +kernel
theorem dX1_againstLend_24 : decode cX1_againstLend 24 = .ok (.iload_n 1, 1) := by decide +kernel
theorem dX1_againstLend_25 : decode cX1_againstLend 25 = .ok (.iload_n 2, 1) := by decide +kernel
theorem dX1_againstLend_26 : decode cX1_againstLend 26 = .ok (.if_icmp .ne 5, 3) := by decide +kernel
theorem dX1_againstLend_29 : decode cX1_againstLend 29 = .ok (.iconst 2, 1) := by decide +kernel
theorem dX1_againstLend_30 : decode cX1_againstLend 30 = .ok (.ireturn, 1) := by decide +kernel
theorem dX1_againstLend_31 : decode cX1_againstLend 31 = .ok (.aload_n 0, 1) := by decide +kernel
theorem dX1_againstLend_32 : decode cX1_againstLend 32 = .ok (.getfield 62, 3) := by decide +kernel
theorem dX1_againstLend_35 : decode cX1_againstLend 35 = .ok (.iconst 1, 1) := by decide +kernel
theorem dX1_againstLend_36 : decode cX1_againstLend 36 = .ok (.iaload, 1) := by decide +kernel
theorem dX1_againstLend_37 : decode cX1_againstLend 37 = .ok (.bipush 16, 2) := by decide +kernel
theorem dX1_againstLend_39 : decode cX1_againstLend 39 = .ok (.if_icmp .lt 7, 3) := by decide +kernel
theorem dX1_againstLend_42 : decode cX1_againstLend 42 = .ok (.iconst 1, 1) := by decide +kernel
theorem dX1_againstLend_43 : decode cX1_againstLend 43 = .ok (.goto 4, 3) := by decide +kernel
theorem dX1_againstLend_46 : decode cX1_againstLend 46 = .ok (.iconst 0, 1) := by decide +kernel
theorem dX1_againstLend_47 : decode cX1_againstLend 47 = .ok (.istore_n 3, 1) := by decide +kernel
theorem dX1_againstLend_48 : decode cX1_againstLend 48 = .ok (.iload_n 3, 1) := by decide +kernel
theorem dX1_againstLend_49 : decode cX1_againstLend 49 = .ok (.ifCond .eq 18, 3) := by decide +kernel
theorem dX1_againstLend_52 : decode cX1_againstLend 52 = .ok (.aload_n 0, 1) := by decide +kernel
theorem dX1_againstLend_53 : decode cX1_againstLend 53 = .ok (.iconst 1, 1) := by decide +kernel
theorem dX1_againstLend_54 : decode cX1_againstLend 54 = .ok (.iload_n 1, 1) := by decide +kernel
theorem dX1_againstLend_55 : decode cX1_againstLend 55 = .ok (.iload_n 2, 1) := by decide +kernel
theorem dX1_againstLend_56 : decode cX1_againstLend 56 = .ok (.invokevirtual 66, 3) := by decide +kernel
theorem dX1_againstLend_59 : decode cX1_againstLend 59 = .ok (.iconst (-1), 1) := by decide +kernel
theorem dX1_againstLend_60 : decode cX1_againstLend 60 = .ok (.if_icmp .ne 7, 3) := by decide +kernel
theorem dX1_againstLend_63 : decode cX1_againstLend 63 = .ok (.iconst 3, 1) := by decide +kernel
theorem dX1_againstLend_64 : decode cX1_againstLend 64 = .ok (.goto 4, 3) := by decide +kernel
theorem dX1_againstLend_67 : decode cX1_againstLend 67 = .ok (.iconst (-1), 1) := by decide +kernel
theorem dX1_againstLend_68 : decode cX1_againstLend 68 = .ok (.ireturn, 1) := by decide +kernel
set_option maxHeartbeats 4000000 in
set_option maxRecDepth 100000 in
theorem B_X1_againstLend_0 {d : Nat} {ro : Nat → Nat} {J : JT} {Z : Option Value → Hp → Prop} (g : xCtx RX1 cX1_againstLend 4 d 0 0 yX1_againstLend.name ro J) (hr : xRet cX1_againstLend (some .int) 0 0 Z J) {μ : Hp} {a0 : Nat} {x1 : Int32} {x2 : Int32} {a0_book : Nat} {a0_row : Nat} {N_a0_row : Nat} (hs_a0 : hS μ a0 = some (12, 4)) (hr_a0_book : hR μ a0 1 = some a0_book) (hs_a0_book : hS μ a0_book = some (6, 9)) (hr_a0_row : hR μ a0 0 = some a0_row) (hs_a0_row : hS μ a0_row = some (0, N_a0_row)) (hd9 : 1 ≤ d)
    (h : ((x1 < 0 → Z (some (.int 0)) μ) ∧ (¬ x1 < 0 → (((hI μ a0_book 6) ≤ x1 → Z (some (.int 0)) μ) ∧ (¬ (hI μ a0_book 6) ≤ x1 → ((x2 < 0 → Z (some (.int 0)) μ) ∧ (¬ x2 < 0 → (((hI μ a0_book 6) ≤ x2 → Z (some (.int 0)) μ) ∧ (¬ (hI μ a0_book 6) ≤ x2 → ((¬ x1 = x2 → vp_in 1 N_a0_row ∧ (((hI μ a0_row 1) < 16 → Z (some (.int (-1))) μ) ∧ (¬ (hI μ a0_row 1) < 16 → xCall d yX8_linkOf cX8_linkOf 5 (some .int) [.ref a0, .int 1, .int x1, .int x2] μ ro (fun r20 μ21 => ∃ y22 : Int32, r20 = some (.int y22) ∧ ((¬ y22 = (-1) → Z (some (.int (-1))) μ21) ∧ (y22 = (-1) → Z (some (.int 3)) μ21)))))) ∧ (x1 = x2 → Z (some (.int 2)) μ))))))))))) :
    J μ 0 0 0 [(0, .ref a0), (1, .int x1), (2, .int x2)] [] := by
  refine r_aload_n g dX1_againstLend_0 rfl ?_
  refine r_getR g fX1_34 rfl hs_a0 hr_a0_book dX1_againstLend_1 ?_
  refine r_iload_n g dX1_againstLend_4 rfl ?_
  by_cases c1 : x1 < 0
  · replace h := h.1 c1
    refine r_callV (st := []) (As := [.int x1]) g sX1_40 iX2_hasFirm eX2_hasFirm rfl hs_a0_book rfl (Nat.le_of_ble_eq_true rfl) dX1_againstLend_5 (by omega) (Nat.le_refl 0) (Nat.le_refl 0) (P_X2_hasFirm_0 (d := d - 1) hs_a0_book c1) (fun r2 μ3 hZ1 => ?_)
    obtain ⟨rfl, e9⟩ := hZ1
    replace e9 := e9.symm
    subst e9
    refine r_if_eq g 22 dX1_againstLend_8 (by decide) (fun _ => ?_) (fun hz => absurd hz (by decide))
    refine r_iconst g 0 dX1_againstLend_22 (by decide) ?_
    exact hr.2.1 _ rfl _ _ _ _ _ _ dX1_againstLend_23 rfl (Nat.le_refl 0) (Nat.le_refl 0) h
  · replace h := h.2 c1
    by_cases c4 : (hI μ a0_book 6) ≤ x1
    · replace h := h.1 c4
      refine r_callV (st := []) (As := [.int x1]) g sX1_40 iX2_hasFirm eX2_hasFirm rfl hs_a0_book rfl (Nat.le_of_ble_eq_true rfl) dX1_againstLend_5 (by omega) (Nat.le_refl 0) (Nat.le_refl 0) (P_X2_hasFirm_1 (d := d - 1) hs_a0_book c1 c4) (fun r5 μ6 hZ1 => ?_)
      obtain ⟨rfl, e9⟩ := hZ1
      replace e9 := e9.symm
      subst e9
      refine r_if_eq g 22 dX1_againstLend_8 (by decide) (fun _ => ?_) (fun hz => absurd hz (by decide))
      refine r_iconst g 0 dX1_againstLend_22 (by decide) ?_
      exact hr.2.1 _ rfl _ _ _ _ _ _ dX1_againstLend_23 rfl (Nat.le_refl 0) (Nat.le_refl 0) h
    · replace h := h.2 c4
      refine r_callV (st := []) (As := [.int x1]) g sX1_40 iX2_hasFirm eX2_hasFirm rfl hs_a0_book rfl (Nat.le_of_ble_eq_true rfl) dX1_againstLend_5 (by omega) (Nat.le_refl 0) (Nat.le_refl 0) (P_X2_hasFirm_2 (d := d - 1) hs_a0_book c1 c4) (fun r7 μ8 hZ1 => ?_)
      obtain ⟨rfl, e9⟩ := hZ1
      replace e9 := e9.symm
      subst e9
      refine r_if_eq g 22 dX1_againstLend_8 (by decide) (fun hz => absurd hz (by decide)) (fun _ => ?_)
      refine r_aload_n g dX1_againstLend_11 rfl ?_
      refine r_getR g fX1_34 rfl hs_a0 hr_a0_book dX1_againstLend_12 ?_
      refine r_iload_n g dX1_againstLend_15 rfl ?_
      by_cases c9 : x2 < 0
      · replace h := h.1 c9
        refine r_callV (st := []) (As := [.int x2]) g sX1_40 iX2_hasFirm eX2_hasFirm rfl hs_a0_book rfl (Nat.le_of_ble_eq_true rfl) dX1_againstLend_16 (by omega) (Nat.le_refl 0) (Nat.le_refl 0) (P_X2_hasFirm_0 (d := d - 1) hs_a0_book c9) (fun r10 μ11 hZ1 => ?_)
        obtain ⟨rfl, e9⟩ := hZ1
        replace e9 := e9.symm
        subst e9
        refine r_if_ne g 24 dX1_againstLend_19 (by decide) (fun hz => absurd hz (by decide)) (fun _ => ?_)
        refine r_iconst g 0 dX1_againstLend_22 (by decide) ?_
        exact hr.2.1 _ rfl _ _ _ _ _ _ dX1_againstLend_23 rfl (Nat.le_refl 0) (Nat.le_refl 0) h
      · replace h := h.2 c9
        by_cases c12 : (hI μ a0_book 6) ≤ x2
        · replace h := h.1 c12
          refine r_callV (st := []) (As := [.int x2]) g sX1_40 iX2_hasFirm eX2_hasFirm rfl hs_a0_book rfl (Nat.le_of_ble_eq_true rfl) dX1_againstLend_16 (by omega) (Nat.le_refl 0) (Nat.le_refl 0) (P_X2_hasFirm_1 (d := d - 1) hs_a0_book c9 c12) (fun r13 μ14 hZ1 => ?_)
          obtain ⟨rfl, e9⟩ := hZ1
          replace e9 := e9.symm
          subst e9
          refine r_if_ne g 24 dX1_againstLend_19 (by decide) (fun hz => absurd hz (by decide)) (fun _ => ?_)
          refine r_iconst g 0 dX1_againstLend_22 (by decide) ?_
          exact hr.2.1 _ rfl _ _ _ _ _ _ dX1_againstLend_23 rfl (Nat.le_refl 0) (Nat.le_refl 0) h
        · replace h := h.2 c12
          refine r_callV (st := []) (As := [.int x2]) g sX1_40 iX2_hasFirm eX2_hasFirm rfl hs_a0_book rfl (Nat.le_of_ble_eq_true rfl) dX1_againstLend_16 (by omega) (Nat.le_refl 0) (Nat.le_refl 0) (P_X2_hasFirm_2 (d := d - 1) hs_a0_book c9 c12) (fun r15 μ16 hZ1 => ?_)
          obtain ⟨rfl, e9⟩ := hZ1
          replace e9 := e9.symm
          subst e9
          refine r_if_ne g 24 dX1_againstLend_19 (by decide) (fun _ => ?_) (fun hz => absurd hz (by decide))
          refine r_iload_n g dX1_againstLend_24 rfl ?_
          refine r_iload_n g dX1_againstLend_25 rfl ?_
          refine r_icmp_ne g 31 dX1_againstLend_26 (by decide) (fun c17 => ?_) (fun c17 => ?_)
          · replace h := h.1 c17
            refine r_aload_n g dX1_againstLend_31 rfl ?_
            refine r_getR g fX1_62 rfl hs_a0 hr_a0_row dX1_againstLend_32 ?_
            refine r_iconst g 1 dX1_againstLend_35 (by decide) ?_
            obtain ⟨hi18, h⟩ := h
            refine r_iaload g hs_a0_row hi18 dX1_againstLend_36 ?_
            refine r_bipush g 16 dX1_againstLend_37 (by decide) ?_
            refine r_icmp_lt g 46 dX1_againstLend_39 (by decide) (fun c19 => ?_) (fun c19 => ?_)
            · replace h := h.1 c19
              refine r_iconst g 0 dX1_againstLend_46 (by decide) ?_
              refine r_istore_n g [(3, .int 0), (0, .ref a0), (1, .int x1), (2, .int x2)] dX1_againstLend_47 (by decide) rfl ?_
              refine r_iload_n g dX1_againstLend_48 rfl ?_
              refine r_if_eq g 67 dX1_againstLend_49 (by decide) (fun _ => ?_) (fun hz => absurd hz (by decide))
              refine r_iconst g (-1) dX1_againstLend_67 (by decide) ?_
              exact hr.2.1 _ rfl _ _ _ _ _ _ dX1_againstLend_68 rfl (Nat.le_refl 0) (Nat.le_refl 0) h
            · replace h := h.2 c19
              refine r_iconst g 1 dX1_againstLend_42 (by decide) ?_
              refine r_goto g 47 dX1_againstLend_43 (by decide) ?_
              refine r_istore_n g [(3, .int 1), (0, .ref a0), (1, .int x1), (2, .int x2)] dX1_againstLend_47 (by decide) rfl ?_
              refine r_iload_n g dX1_againstLend_48 rfl ?_
              refine r_if_eq g 67 dX1_againstLend_49 (by decide) (fun hz => absurd hz (by decide)) (fun _ => ?_)
              refine r_aload_n g dX1_againstLend_52 rfl ?_
              refine r_iconst g 1 dX1_againstLend_53 (by decide) ?_
              refine r_iload_n g dX1_againstLend_54 rfl ?_
              refine r_iload_n g dX1_againstLend_55 rfl ?_
              obtain ⟨d1, Z1, hc1, hd1, h1⟩ := h
              refine r_callV (st := []) (As := [.int 1, .int x1, .int x2]) g sX1_66 iX8_linkOf eX8_linkOf rfl hs_a0 rfl (Nat.le_of_ble_eq_true rfl) dX1_againstLend_56 hd1 (Nat.le_refl 0) (Nat.le_refl 0) hc1 (fun r20 μ21 hZ1 => ?_)
              replace h := h1 _ _ hZ1
              clear h1 hc1 hd1 hZ1 Z1 d1
              obtain ⟨y22, rfl, h⟩ := h
              refine r_iconst g (-1) dX1_againstLend_59 (by decide) ?_
              refine r_icmp_ne g 67 dX1_againstLend_60 (by decide) (fun c23 => ?_) (fun c23 => ?_)
              · replace h := h.1 c23
                refine r_iconst g (-1) dX1_againstLend_67 (by decide) ?_
                exact hr.2.1 _ rfl _ _ _ _ _ _ dX1_againstLend_68 rfl (Nat.le_refl 0) (Nat.le_refl 0) h
              · replace h := h.2 c23
                refine r_iconst g 3 dX1_againstLend_63 (by decide) ?_
                refine r_goto g 68 dX1_againstLend_64 (by decide) ?_
                exact hr.2.1 _ rfl _ _ _ _ _ _ dX1_againstLend_68 rfl (Nat.le_refl 0) (Nat.le_refl 0) h
          · replace h := h.2 c17
            refine r_iconst g 2 dX1_againstLend_29 (by decide) ?_
            exact hr.2.1 _ rfl _ _ _ _ _ _ dX1_againstLend_30 rfl (Nat.le_refl 0) (Nat.le_refl 0) h
theorem I_X1_againstLend {d : Nat} {ro : Nat → Nat} {Z : Option Value → Hp → Prop} {μ : Hp} {a0 : Nat} {x1 : Int32} {x2 : Int32} (h : ∀ J, xCtx RX1 cX1_againstLend 4 d 0 0 yX1_againstLend.name ro J → xRet cX1_againstLend (some .int) 0 0 Z J → J μ 0 0 0 [(0, .ref a0), (1, .int x1), (2, .int x2)] []) : xC d yX1_againstLend cX1_againstLend 4 (some .int) 0 0 [.ref a0, .int x1, .int x2] μ ro Z :=
  xC_intro (own := RX1) (lv := [(0, .ref a0), (1, .int x1), (2, .int x2)]) (by decide) rfl (Nat.le_of_ble_eq_true rfl) rfl (fun J g hr => r_sub g (lv' := [(0, .ref a0), (1, .int x1), (2, .int x2)]) (⟨rfl, rfl, rfl, trivial⟩) (h J g hr))
theorem dX1_carryOut_0 : decode cX1_carryOut 0 = .ok (.iload_n 2, 1) := by decide +kernel
theorem dX1_carryOut_1 : decode cX1_carryOut 1 = .ok (.tableswitch 99 0 3 #[31, 49, 66, 89], 31) := by decide +kernel
theorem dX1_carryOut_32 : decode cX1_carryOut 32 = .ok (.aload_n 0, 1) := by decide +kernel
theorem dX1_carryOut_33 : decode cX1_carryOut 33 = .ok (.aload_n 1, 1) := by decide +kernel
theorem dX1_carryOut_34 : decode cX1_carryOut 34 = .ok (.iload 5, 2) := by decide +kernel
theorem dX1_carryOut_36 : decode cX1_carryOut 36 = .ok (.invokevirtual 70, 3) := by decide +kernel
theorem dX1_carryOut_39 : decode cX1_carryOut 39 = .ok (.aload_n 0, 1) := by decide +kernel
theorem dX1_carryOut_40 : decode cX1_carryOut 40 = .ok (.getfield 9, 3) := by decide +kernel
theorem dX1_carryOut_43 : decode cX1_carryOut 43 = .ok (.getfield 74, 3) := by decide +kernel
theorem dX1_carryOut_46 : decode cX1_carryOut 46 = .ok (.getfield 78, 3) := by decide +kernel
theorem dX1_carryOut_49 : decode cX1_carryOut 49 = .ok (.ireturn, 1) := by decide +kernel
theorem dX1_carryOut_50 : decode cX1_carryOut 50 = .ok (.aload_n 1, 1) := by decide +kernel
theorem dX1_carryOut_51 : decode cX1_carryOut 51 = .ok (.getfield 62, 3) := by decide +kernel
theorem dX1_carryOut_54 : decode cX1_carryOut 54 = .ok (.iconst 0, 1) := by decide +kernel
theorem dX1_carryOut_55 : decode cX1_carryOut 55 = .ok (.dup2, 1) := by decide +kernel
theorem dX1_carryOut_56 : decode cX1_carryOut 56 = .ok (.iaload, 1) := by decide +kernel
theorem dX1_carryOut_57 : decode cX1_carryOut 57 = .ok (.iload_n 3, 1) := by decide +kernel
theorem dX1_carryOut_58 : decode cX1_carryOut 58 = .ok (.iadd, 1) := by decide +kernel
theorem dX1_carryOut_59 : decode cX1_carryOut 59 = .ok (.iastore, 1) := by decide +kernel
theorem dX1_carryOut_60 : decode cX1_carryOut 60 = .ok (.aload_n 1, 1) := by decide +kernel
theorem dX1_carryOut_61 : decode cX1_carryOut 61 = .ok (.getfield 62, 3) := by decide +kernel
theorem dX1_carryOut_64 : decode cX1_carryOut 64 = .ok (.iconst 0, 1) := by decide +kernel
theorem dX1_carryOut_65 : decode cX1_carryOut 65 = .ok (.iaload, 1) := by decide +kernel
theorem dX1_carryOut_66 : decode cX1_carryOut 66 = .ok (.ireturn, 1) := by decide +kernel
theorem dX1_carryOut_67 : decode cX1_carryOut 67 = .ok (.aload_n 1, 1) := by decide +kernel
theorem dX1_carryOut_68 : decode cX1_carryOut 68 = .ok (.getfield 62, 3) := by decide +kernel
theorem dX1_carryOut_71 : decode cX1_carryOut 71 = .ok (.iconst 2, 1) := by decide +kernel
theorem dX1_carryOut_72 : decode cX1_carryOut 72 = .ok (.iload_n 3, 1) := by decide +kernel
theorem dX1_carryOut_73 : decode cX1_carryOut 73 = .ok (.iadd, 1) := by decide +kernel
theorem dX1_carryOut_74 : decode cX1_carryOut 74 = .ok (.iaload, 1) := by decide +kernel
theorem dX1_carryOut_75 : decode cX1_carryOut 75 = .ok (.istore 6, 2) := by decide +kernel
theorem dX1_carryOut_77 : decode cX1_carryOut 77 = .ok (.aload_n 1, 1) := by decide +kernel
theorem dX1_carryOut_78 : decode cX1_carryOut 78 = .ok (.getfield 62, 3) := by decide +kernel
theorem dX1_carryOut_81 : decode cX1_carryOut 81 = .ok (.iconst 2, 1) := by decide +kernel
theorem dX1_carryOut_82 : decode cX1_carryOut 82 = .ok (.iload_n 3, 1) := by decide +kernel
theorem dX1_carryOut_83 : decode cX1_carryOut 83 = .ok (.iadd, 1) := by decide +kernel
theorem dX1_carryOut_84 : decode cX1_carryOut 84 = .ok (.iload 4, 2) := by decide +kernel
theorem dX1_carryOut_86 : decode cX1_carryOut 86 = .ok (.iastore, 1) := by decide +kernel
theorem dX1_carryOut_87 : decode cX1_carryOut 87 = .ok (.iload 6, 2) := by decide +kernel
theorem dX1_carryOut_89 : decode cX1_carryOut 89 = .ok (.ireturn, 1) := by decide +kernel
theorem dX1_carryOut_90 : decode cX1_carryOut 90 = .ok (.aload_n 1, 1) := by decide +kernel
theorem dX1_carryOut_91 : decode cX1_carryOut 91 = .ok (.iload_n 3, 1) := by decide +kernel
theorem dX1_carryOut_92 : decode cX1_carryOut 92 = .ok (.iload 4, 2) := by decide +kernel
theorem dX1_carryOut_94 : decode cX1_carryOut 94 = .ok (.iload 5, 2) := by decide +kernel
theorem dX1_carryOut_96 : decode cX1_carryOut 96 = .ok (.invokestatic 83, 3) := by decide +kernel
theorem dX1_carryOut_99 : decode cX1_carryOut 99 = .ok (.ireturn, 1) := by decide +kernel
theorem dX1_carryOut_100 : decode cX1_carryOut 100 = .ok (.aload_n 1, 1) := by decide +kernel
theorem dX1_carryOut_101 : decode cX1_carryOut 101 = .ok (.iload_n 3, 1) := by decide +kernel
theorem dX1_carryOut_102 : decode cX1_carryOut 102 = .ok (.iload 4, 2) := by decide +kernel
theorem dX1_carryOut_104 : decode cX1_carryOut 104 = .ok (.invokestatic 86, 3) := by decide +kernel
theorem dX1_carryOut_107 : decode cX1_carryOut 107 = .ok (.ireturn, 1) := by decide +kernel
set_option maxHeartbeats 4000000 in
set_option maxRecDepth 100000 in
theorem B_X1_carryOut_0 {d : Nat} {ro : Nat → Nat} {J : JT} {Z : Option Value → Hp → Prop} (g : xCtx RX1 cX1_carryOut 7 d 0 0 yX1_carryOut.name ro J) (hr : xRet cX1_carryOut (some .int) 0 0 Z J) {μ : Hp} {a0 : Nat} {a1 : Nat} {x2 : Int32} {x3 : Int32} {x4 : Int32} {x5 : Int32} {a1_row : Nat} {N_a1_row : Nat} (hs_a0 : hS μ a0 = some (5, 1)) (hs_a1 : hS μ a1 = some (12, 4)) (hr_a1_row : hR μ a1 0 = some a1_row) (hs_a1_row : hS μ a1_row = some (0, N_a1_row))
    (h : (((x2).toInt < 0 ∨ 3 < (x2).toInt → xCall d yX1_turnLoan cX1_turnLoan 4 (some .int) [.ref a1, .int x3, .int x4] μ ro (fun r2 μ3 => ∃ y4 : Int32, r2 = some (.int y4) ∧ Z (some (.int y4)) μ3)) ∧ (x2 = 0 → xCall d yX1_payByBest cX1_payByBest 5 none [.ref a0, .ref a1, .int x5] μ ro (fun r5 μ6 => r5 = none ∧ hS μ6 a0 = some (5, 1) ∧ ∃ finder_7 : Nat, hR μ6 a0 0 = some finder_7 ∧ hS μ6 finder_7 = some (7, 9) ∧ ∃ best_8 : Nat, hR μ6 finder_7 0 = some best_8 ∧ hS μ6 best_8 = some (13, 5) ∧ Z (some (.int (hI μ6 best_8 3))) μ6)) ∧ (x2 = 1 → vp_in 0 N_a1_row ∧ Z (some (.int (hI (wI μ a1_row 0 ((hI μ a1_row 0) + x3)) a1_row 0))) (wI μ a1_row 0 ((hI μ a1_row 0) + x3))) ∧ (x2 = 2 → vp_in (2 + x3) N_a1_row ∧ Z (some (.int (hI μ a1_row ((2 + x3).toNatClampNeg)))) (wI μ a1_row ((2 + x3).toNatClampNeg) x4)) ∧ (x2 = 3 → xCall d yX1_setShare cX1_setShare 6 (some .int) [.ref a1, .int x3, .int x4, .int x5] μ ro (fun r11 μ12 => ∃ y13 : Int32, r11 = some (.int y13) ∧ Z (some (.int y13)) μ12)))) :
    J μ 0 0 0 [(0, .ref a0), (1, .ref a1), (2, .int x2), (3, .int x3), (4, .int x4), (5, .int x5)] [] := by
  refine r_iload_n g dX1_carryOut_0 rfl ?_
  rcases sw_cases (x := x2) 0 3 (by decide) (by decide) with c1 | ⟨z, hz1, hz2, c1⟩
  · refine r_tableOut g 100 dX1_carryOut_1 c1 (by decide) ?_
    replace h := h.1 c1
    refine r_aload_n g dX1_carryOut_100 rfl ?_
    refine r_iload_n g dX1_carryOut_101 rfl ?_
    refine r_iload g dX1_carryOut_102 rfl ?_
    obtain ⟨d1, Z1, hc1, hd1, h1⟩ := h
    refine r_callS (st := []) (As := [.ref a1, .int x3, .int x4]) g sX1_86 iX1_turnLoan rfl (Nat.le_of_ble_eq_true rfl) dX1_carryOut_104 hd1 (Nat.le_refl 0) (Nat.le_refl 0) hc1 (fun r2 μ3 hZ1 => ?_)
    replace h := h1 _ _ hZ1
    clear h1 hc1 hd1 hZ1 Z1 d1
    obtain ⟨y4, rfl, h⟩ := h
    exact hr.2.1 _ rfl _ _ _ _ _ _ dX1_carryOut_107 rfl (Nat.le_refl 0) (Nat.le_refl 0) h
  · have hz : z = 0 ∨ z = 1 ∨ z = 2 ∨ z = 3 := by omega
    rcases hz with rfl | rfl | rfl | rfl
    · refine r_tableIn g 32 dX1_carryOut_1 (by rw [c1]; decide) (by rw [c1]; decide) (off := 31) (by rw [c1]; decide) (by decide) ?_
      replace h := h.2.1 c1
      refine r_aload_n g dX1_carryOut_32 rfl ?_
      refine r_aload_n g dX1_carryOut_33 rfl ?_
      refine r_iload g dX1_carryOut_34 rfl ?_
      obtain ⟨d1, Z1, hc1, hd1, h1⟩ := h
      refine r_callV (st := []) (As := [.ref a1, .int x5]) g sX1_70 iX1_payByBest eX1_payByBest rfl hs_a0 rfl (Nat.le_of_ble_eq_true rfl) dX1_carryOut_36 hd1 (Nat.le_refl 0) (Nat.le_refl 0) hc1 (fun r5 μ6 hZ1 => ?_)
      replace h := h1 _ _ hZ1
      clear h1 hc1 hd1 hZ1 Z1 d1
      obtain ⟨rfl, h⟩ := h
      refine r_aload_n g dX1_carryOut_39 rfl ?_
      obtain ⟨hs_a0_, h⟩ := h
      obtain ⟨finder_7, hr_finder_7, h⟩ := h
      refine r_getR g fX1_9 rfl hs_a0_ hr_finder_7 dX1_carryOut_40 ?_
      obtain ⟨hs_finder_7, h⟩ := h
      obtain ⟨best_8, hr_best_8, h⟩ := h
      refine r_getR g fX1_74 rfl hs_finder_7 hr_best_8 dX1_carryOut_43 ?_
      obtain ⟨hs_best_8, h⟩ := h
      refine r_getI g fX1_78 rfl hs_best_8 dX1_carryOut_46 ?_
      exact hr.2.1 _ rfl _ _ _ _ _ _ dX1_carryOut_49 rfl (Nat.le_refl 0) (Nat.le_refl 0) h
    · refine r_tableIn g 50 dX1_carryOut_1 (by rw [c1]; decide) (by rw [c1]; decide) (off := 49) (by rw [c1]; decide) (by decide) ?_
      replace h := h.2.2.1 c1
      refine r_aload_n g dX1_carryOut_50 rfl ?_
      refine r_getR g fX1_62 rfl hs_a1 hr_a1_row dX1_carryOut_51 ?_
      refine r_iconst g 0 dX1_carryOut_54 (by decide) ?_
      refine r_dup2_11 g dX1_carryOut_55 rfl rfl ?_
      obtain ⟨hi9, h⟩ := h
      refine r_iaload g hs_a1_row hi9 dX1_carryOut_56 ?_
      refine r_iload_n g dX1_carryOut_57 rfl ?_
      refine r_iadd g dX1_carryOut_58 ?_
      refine r_iastore g hs_a1_row hi9 dX1_carryOut_59 ?_
      refine r_aload_n g dX1_carryOut_60 rfl ?_
      refine r_getR g fX1_62 rfl hs_a1 hr_a1_row dX1_carryOut_61 ?_
      refine r_iconst g 0 dX1_carryOut_64 (by decide) ?_
      refine r_iaload g hs_a1_row hi9 dX1_carryOut_65 ?_
      exact hr.2.1 _ rfl _ _ _ _ _ _ dX1_carryOut_66 rfl (Nat.le_refl 0) (Nat.le_refl 0) h
    · refine r_tableIn g 67 dX1_carryOut_1 (by rw [c1]; decide) (by rw [c1]; decide) (off := 66) (by rw [c1]; decide) (by decide) ?_
      replace h := h.2.2.2.1 c1
      refine r_aload_n g dX1_carryOut_67 rfl ?_
      refine r_getR g fX1_62 rfl hs_a1 hr_a1_row dX1_carryOut_68 ?_
      refine r_iconst g 2 dX1_carryOut_71 (by decide) ?_
      refine r_iload_n g dX1_carryOut_72 rfl ?_
      refine r_iadd g dX1_carryOut_73 ?_
      obtain ⟨hi10, h⟩ := h
      refine r_iaload g hs_a1_row hi10 dX1_carryOut_74 ?_
      refine r_istore g [(6, .int (hI μ a1_row ((2 + x3).toNatClampNeg))), (0, .ref a0), (1, .ref a1), (2, .int x2), (3, .int x3), (4, .int x4), (5, .int x5)] dX1_carryOut_75 (by decide) rfl ?_
      refine r_aload_n g dX1_carryOut_77 rfl ?_
      refine r_getR g fX1_62 rfl hs_a1 hr_a1_row dX1_carryOut_78 ?_
      refine r_iconst g 2 dX1_carryOut_81 (by decide) ?_
      refine r_iload_n g dX1_carryOut_82 rfl ?_
      refine r_iadd g dX1_carryOut_83 ?_
      refine r_iload g dX1_carryOut_84 rfl ?_
      refine r_iastore g hs_a1_row hi10 dX1_carryOut_86 ?_
      refine r_iload g dX1_carryOut_87 rfl ?_
      exact hr.2.1 _ rfl _ _ _ _ _ _ dX1_carryOut_89 rfl (Nat.le_refl 0) (Nat.le_refl 0) h
    · refine r_tableIn g 90 dX1_carryOut_1 (by rw [c1]; decide) (by rw [c1]; decide) (off := 89) (by rw [c1]; decide) (by decide) ?_
      replace h := h.2.2.2.2 c1
      refine r_aload_n g dX1_carryOut_90 rfl ?_
      refine r_iload_n g dX1_carryOut_91 rfl ?_
      refine r_iload g dX1_carryOut_92 rfl ?_
      refine r_iload g dX1_carryOut_94 rfl ?_
      obtain ⟨d1, Z1, hc1, hd1, h1⟩ := h
      refine r_callS (st := []) (As := [.ref a1, .int x3, .int x4, .int x5]) g sX1_83 iX1_setShare rfl (Nat.le_of_ble_eq_true rfl) dX1_carryOut_96 hd1 (Nat.le_refl 0) (Nat.le_refl 0) hc1 (fun r11 μ12 hZ1 => ?_)
      replace h := h1 _ _ hZ1
      clear h1 hc1 hd1 hZ1 Z1 d1
      obtain ⟨y13, rfl, h⟩ := h
      exact hr.2.1 _ rfl _ _ _ _ _ _ dX1_carryOut_99 rfl (Nat.le_refl 0) (Nat.le_refl 0) h
theorem I_X1_carryOut {d : Nat} {ro : Nat → Nat} {Z : Option Value → Hp → Prop} {μ : Hp} {a0 : Nat} {a1 : Nat} {x2 : Int32} {x3 : Int32} {x4 : Int32} {x5 : Int32} (h : ∀ J, xCtx RX1 cX1_carryOut 7 d 0 0 yX1_carryOut.name ro J → xRet cX1_carryOut (some .int) 0 0 Z J → J μ 0 0 0 [(0, .ref a0), (1, .ref a1), (2, .int x2), (3, .int x3), (4, .int x4), (5, .int x5)] []) : xC d yX1_carryOut cX1_carryOut 7 (some .int) 0 0 [.ref a0, .ref a1, .int x2, .int x3, .int x4, .int x5] μ ro Z :=
  xC_intro (own := RX1) (lv := [(0, .ref a0), (1, .ref a1), (2, .int x2), (3, .int x3), (4, .int x4), (5, .int x5)]) (by decide) rfl (Nat.le_of_ble_eq_true rfl) rfl (fun J g hr => r_sub g (lv' := [(0, .ref a0), (1, .ref a1), (2, .int x2), (3, .int x3), (4, .int x4), (5, .int x5)]) (⟨rfl, rfl, rfl, rfl, rfl, rfl, trivial⟩) (h J g hr))
theorem dX1_payByBest_0 : decode cX1_payByBest 0 = .ok (.aload_n 0, 1) := by decide +kernel
theorem dX1_payByBest_1 : decode cX1_payByBest 1 = .ok (.getfield 9, 3) := by decide +kernel
theorem dX1_payByBest_4 : decode cX1_payByBest 4 = .ok (.getfield 74, 3) := by decide +kernel
theorem dX1_payByBest_7 : decode cX1_payByBest 7 = .ok (.astore_n 3, 1) := by decide +kernel
theorem dX1_payByBest_8 : decode cX1_payByBest 8 = .ok (.iconst 0, 1) := by decide +kernel
theorem dX1_payByBest_9 : decode cX1_payByBest 9 = .ok (.istore 4, 2) := by decide +kernel
theorem dX1_payByBest_11 : decode cX1_payByBest 11 = .ok (.iload 4, 2) := by decide +kernel
theorem dX1_payByBest_13 : decode cX1_payByBest 13 = .ok (.aload_n 3, 1) := by decide +kernel
theorem dX1_payByBest_14 : decode cX1_payByBest 14 = .ok (.getfield 89, 3) := by decide +kernel
theorem dX1_payByBest_17 : decode cX1_payByBest 17 = .ok (.if_icmp .ge 36, 3) := by decide +kernel
theorem dX1_payByBest_20 : decode cX1_payByBest 20 = .ok (.aload_n 1, 1) := by decide +kernel
theorem dX1_payByBest_21 : decode cX1_payByBest 21 = .ok (.getfield 62, 3) := by decide +kernel
theorem dX1_payByBest_24 : decode cX1_payByBest 24 = .ok (.bipush 10, 2) := by decide +kernel
theorem dX1_payByBest_26 : decode cX1_payByBest 26 = .ok (.aload_n 3, 1) := by decide +kernel
theorem dX1_payByBest_27 : decode cX1_payByBest 27 = .ok (.getfield 92, 3) := by decide +kernel
theorem dX1_payByBest_30 : decode cX1_payByBest 30 = .ok (.iconst 0, 1) := by decide +kernel
theorem dX1_payByBest_31 : decode cX1_payByBest 31 = .ok (.iload 4, 2) := by decide +kernel
theorem dX1_payByBest_33 : decode cX1_payByBest 33 = .ok (.iadd, 1) := by decide +kernel
theorem dX1_payByBest_34 : decode cX1_payByBest 34 = .ok (.iaload, 1) := by decide +kernel
theorem dX1_payByBest_35 : decode cX1_payByBest 35 = .ok (.iadd, 1) := by decide +kernel
theorem dX1_payByBest_36 : decode cX1_payByBest 36 = .ok (.aload_n 3, 1) := by decide +kernel
theorem dX1_payByBest_37 : decode cX1_payByBest 37 = .ok (.getfield 92, 3) := by decide +kernel
theorem dX1_payByBest_40 : decode cX1_payByBest 40 = .ok (.bipush 30, 2) := by decide +kernel
theorem dX1_payByBest_42 : decode cX1_payByBest 42 = .ok (.iload 4, 2) := by decide +kernel
theorem dX1_payByBest_44 : decode cX1_payByBest 44 = .ok (.iadd, 1) := by decide +kernel
theorem dX1_payByBest_45 : decode cX1_payByBest 45 = .ok (.iaload, 1) := by decide +kernel
theorem dX1_payByBest_46 : decode cX1_payByBest 46 = .ok (.iastore, 1) := by decide +kernel
theorem dX1_payByBest_47 : decode cX1_payByBest 47 = .ok (.iinc 4 1, 3) := by decide +kernel
theorem dX1_payByBest_50 : decode cX1_payByBest 50 = .ok (.goto (-39), 3) := by decide +kernel
theorem dX1_payByBest_53 : decode cX1_payByBest 53 = .ok (.iconst 0, 1) := by decide +kernel
theorem dX1_payByBest_54 : decode cX1_payByBest 54 = .ok (.istore 4, 2) := by decide +kernel
theorem dX1_payByBest_56 : decode cX1_payByBest 56 = .ok (.iload 4, 2) := by decide +kernel
theorem dX1_payByBest_58 : decode cX1_payByBest 58 = .ok (.aload_n 1, 1) := by decide +kernel
theorem dX1_payByBest_59 : decode cX1_payByBest 59 = .ok (.getfield 34, 3) := by decide +kernel
theorem dX1_payByBest_62 : decode cX1_payByBest 62 = .ok (.getfield 93, 3) := by decide +kernel
theorem dX1_payByBest_65 : decode cX1_payByBest 65 = .ok (.if_icmp .ge 32, 3) := by decide +kernel
theorem dX1_payByBest_68 : decode cX1_payByBest 68 = .ok (.aload_n 1, 1) := by decide +kernel
theorem dX1_payByBest_69 : decode cX1_payByBest 69 = .ok (.getfield 62, 3) := by decide +kernel
theorem dX1_payByBest_72 : decode cX1_payByBest 72 = .ok (.bipush 26, 2) := by decide +kernel
theorem dX1_payByBest_74 : decode cX1_payByBest 74 = .ok (.iload 4, 2) := by decide +kernel
theorem dX1_payByBest_76 : decode cX1_payByBest 76 = .ok (.iadd, 1) := by decide +kernel
theorem dX1_payByBest_77 : decode cX1_payByBest 77 = .ok (.dup2, 1) := by decide +kernel
theorem dX1_payByBest_78 : decode cX1_payByBest 78 = .ok (.iaload, 1) := by decide +kernel
theorem dX1_payByBest_79 : decode cX1_payByBest 79 = .ok (.aload_n 3, 1) := by decide +kernel
theorem dX1_payByBest_80 : decode cX1_payByBest 80 = .ok (.aload_n 1, 1) := by decide +kernel
theorem dX1_payByBest_81 : decode cX1_payByBest 81 = .ok (.getfield 34, 3) := by decide +kernel
theorem dX1_payByBest_84 : decode cX1_payByBest 84 = .ok (.iload 4, 2) := by decide +kernel
theorem dX1_payByBest_86 : decode cX1_payByBest 86 = .ok (.invokevirtual 96, 3) := by decide +kernel
theorem dX1_payByBest_89 : decode cX1_payByBest 89 = .ok (.iadd, 1) := by decide +kernel
theorem dX1_payByBest_90 : decode cX1_payByBest 90 = .ok (.iastore, 1) := by decide +kernel
theorem dX1_payByBest_91 : decode cX1_payByBest 91 = .ok (.iinc 4 1, 3) := by decide +kernel
theorem dX1_payByBest_94 : decode cX1_payByBest 94 = .ok (.goto (-38), 3) := by decide +kernel
theorem dX1_payByBest_97 : decode cX1_payByBest 97 = .ok (.aload_n 1, 1) := by decide +kernel
theorem dX1_payByBest_98 : decode cX1_payByBest 98 = .ok (.getfield 62, 3) := by decide +kernel
theorem dX1_payByBest_101 : decode cX1_payByBest 101 = .ok (.bipush 18, 2) := by decide +kernel
theorem dX1_payByBest_103 : decode cX1_payByBest 103 = .ok (.iload_n 2, 1) := by decide +kernel
theorem dX1_payByBest_104 : decode cX1_payByBest 104 = .ok (.iadd, 1) := by decide +kernel
theorem dX1_payByBest_105 : decode cX1_payByBest 105 = .ok (.dup2, 1) := by decide +kernel
theorem dX1_payByBest_106 : decode cX1_payByBest 106 = .ok (.iaload, 1) := by decide +kernel
theorem dX1_payByBest_107 : decode cX1_payByBest 107 = .ok (.aload_n 3, 1) := by decide +kernel
theorem dX1_payByBest_108 : decode cX1_payByBest 108 = .ok (.getfield 78, 3) := by decide +kernel
theorem dX1_payByBest_111 : decode cX1_payByBest 111 = .ok (.iadd, 1) := by decide +kernel
theorem dX1_payByBest_112 : decode cX1_payByBest 112 = .ok (.iastore, 1) := by decide +kernel
theorem dX1_payByBest_113 : decode cX1_payByBest 113 = .ok (.return_, 1) := by decide +kernel
set_option maxHeartbeats 4000000 in
set_option maxRecDepth 100000 in
theorem B_X1_payByBest_0 {d : Nat} {ro : Nat → Nat} {J : JT} {Z : Option Value → Hp → Prop} (g : xCtx RX1 cX1_payByBest 5 d 0 0 yX1_payByBest.name ro J) (hr : xRet cX1_payByBest none 0 0 Z J) {μ : Hp} {a0 : Nat} {a1 : Nat} {x2 : Int32} {a0_finder : Nat} {a0_finder_best : Nat} (hs_a0 : hS μ a0 = some (5, 1)) (hr_a0_finder : hR μ a0 0 = some a0_finder) (hs_a0_finder : hS μ a0_finder = some (7, 9)) (hr_a0_finder_best : hR μ a0_finder 0 = some a0_finder_best)
    (h : J μ 0 0 11 [(1, .ref a1), (2, .int x2), (3, .ref a0_finder_best), (4, .int 0)] []) :
    J μ 0 0 0 [(0, .ref a0), (1, .ref a1), (2, .int x2)] [] := by
  refine r_aload_n g dX1_payByBest_0 rfl ?_
  refine r_getR g fX1_9 rfl hs_a0 hr_a0_finder dX1_payByBest_1 ?_
  refine r_getR g fX1_74 rfl hs_a0_finder hr_a0_finder_best dX1_payByBest_4 ?_
  refine r_astore_n g [(3, .ref a0_finder_best), (0, .ref a0), (1, .ref a1), (2, .int x2)] dX1_payByBest_7 (by decide) rfl ?_
  refine r_iconst g 0 dX1_payByBest_8 (by decide) ?_
  refine r_istore g [(4, .int 0), (3, .ref a0_finder_best), (0, .ref a0), (1, .ref a1), (2, .int x2)] dX1_payByBest_9 (by decide) rfl ?_
  refine r_sub g (lv' := [(1, .ref a1), (2, .int x2), (3, .ref a0_finder_best), (4, .int 0)]) (⟨rfl, rfl, rfl, rfl, trivial⟩) ?_
  exact h
set_option maxHeartbeats 4000000 in
set_option maxRecDepth 100000 in
theorem B_X1_payByBest_11 {d : Nat} {ro : Nat → Nat} {J : JT} {Z : Option Value → Hp → Prop} (g : xCtx RX1 cX1_payByBest 5 d 0 0 yX1_payByBest.name ro J) (hr : xRet cX1_payByBest none 0 0 Z J) {μ : Hp} {a1 : Nat} {x2 : Int32} {a3 : Nat} {x4 : Int32} {a1_row : Nat} {a3_row : Nat} {N_a3_row : Nat} {N_a1_row : Nat} (hs_a3 : hS μ a3 = some (13, 5)) (hs_a1 : hS μ a1 = some (12, 4)) (hr_a1_row : hR μ a1 0 = some a1_row) (hr_a3_row : hR μ a3 0 = some a3_row) (hs_a3_row : hS μ a3_row = some (0, N_a3_row)) (hs_a1_row : hS μ a1_row = some (0, N_a1_row))
    (h : (((hI μ a3 2) ≤ x4 → J μ 0 0 56 [(1, .ref a1), (2, .int x2), (3, .ref a3), (4, .int 0)] []) ∧ (¬ (hI μ a3 2) ≤ x4 → vp_in (0 + x4) N_a3_row ∧ vp_in (30 + x4) N_a3_row ∧ vp_in (10 + (hI μ a3_row ((0 + x4).toNatClampNeg))) N_a1_row ∧ J (wI μ a1_row ((10 + (hI μ a3_row ((0 + x4).toNatClampNeg))).toNatClampNeg) (hI μ a3_row ((30 + x4).toNatClampNeg))) 0 0 11 [(1, .ref a1), (2, .int x2), (3, .ref a3), (4, .int (x4 + 1))] []))) :
    J μ 0 0 11 [(1, .ref a1), (2, .int x2), (3, .ref a3), (4, .int x4)] [] := by
  refine r_iload g dX1_payByBest_11 rfl ?_
  refine r_aload_n g dX1_payByBest_13 rfl ?_
  refine r_getI g fX1_89 rfl hs_a3 dX1_payByBest_14 ?_
  refine r_icmp_ge g 53 dX1_payByBest_17 (by decide) (fun c1 => ?_) (fun c1 => ?_)
  · replace h := h.1 c1
    refine r_iconst g 0 dX1_payByBest_53 (by decide) ?_
    refine r_istore g [(4, .int 0), (1, .ref a1), (2, .int x2), (3, .ref a3)] dX1_payByBest_54 (by decide) rfl ?_
    refine r_sub g (lv' := [(1, .ref a1), (2, .int x2), (3, .ref a3), (4, .int 0)]) (⟨rfl, rfl, rfl, rfl, trivial⟩) ?_
    exact h
  · replace h := h.2 c1
    refine r_aload_n g dX1_payByBest_20 rfl ?_
    refine r_getR g fX1_62 rfl hs_a1 hr_a1_row dX1_payByBest_21 ?_
    refine r_bipush g 10 dX1_payByBest_24 (by decide) ?_
    refine r_aload_n g dX1_payByBest_26 rfl ?_
    refine r_getR g fX1_92 rfl hs_a3 hr_a3_row dX1_payByBest_27 ?_
    refine r_iconst g 0 dX1_payByBest_30 (by decide) ?_
    refine r_iload g dX1_payByBest_31 rfl ?_
    refine r_iadd g dX1_payByBest_33 ?_
    obtain ⟨hi2, h⟩ := h
    refine r_iaload g hs_a3_row hi2 dX1_payByBest_34 ?_
    refine r_iadd g dX1_payByBest_35 ?_
    refine r_aload_n g dX1_payByBest_36 rfl ?_
    refine r_getR g fX1_92 rfl hs_a3 hr_a3_row dX1_payByBest_37 ?_
    refine r_bipush g 30 dX1_payByBest_40 (by decide) ?_
    refine r_iload g dX1_payByBest_42 rfl ?_
    refine r_iadd g dX1_payByBest_44 ?_
    obtain ⟨hi3, h⟩ := h
    refine r_iaload g hs_a3_row hi3 dX1_payByBest_45 ?_
    obtain ⟨hi4, h⟩ := h
    refine r_iastore g hs_a1_row hi4 dX1_payByBest_46 ?_
    refine r_iinc g (x4 + 1) [(4, .int (x4 + 1)), (1, .ref a1), (2, .int x2), (3, .ref a3)] dX1_payByBest_47 rfl rfl (by decide) rfl ?_
    refine r_goto g 11 dX1_payByBest_50 (by decide) ?_
    refine r_sub g (lv' := [(1, .ref a1), (2, .int x2), (3, .ref a3), (4, .int (x4 + 1))]) (⟨rfl, rfl, rfl, rfl, trivial⟩) ?_
    exact h
set_option maxHeartbeats 4000000 in
set_option maxRecDepth 100000 in
theorem B_X1_payByBest_56 {d : Nat} {ro : Nat → Nat} {J : JT} {Z : Option Value → Hp → Prop} (g : xCtx RX1 cX1_payByBest 5 d 0 0 yX1_payByBest.name ro J) (hr : xRet cX1_payByBest none 0 0 Z J) {μ : Hp} {a1 : Nat} {x2 : Int32} {a3 : Nat} {x4 : Int32} {a1_book : Nat} {a1_row : Nat} {N_a1_row : Nat} (hs_a1 : hS μ a1 = some (12, 4)) (hr_a1_book : hR μ a1 1 = some a1_book) (hs_a1_book : hS μ a1_book = some (6, 9)) (hr_a1_row : hR μ a1 0 = some a1_row) (hs_a1_row : hS μ a1_row = some (0, N_a1_row)) (hs_a3 : hS μ a3 = some (13, 5))
    (h : (((hI μ a1_book 5) ≤ x4 → vp_in (18 + x2) N_a1_row ∧ Z none (wI μ a1_row ((18 + x2).toNatClampNeg) ((hI μ a1_row ((18 + x2).toNatClampNeg)) + (hI μ a3 3)))) ∧ (¬ (hI μ a1_book 5) ≤ x4 → vp_in (26 + x4) N_a1_row ∧ xCall d yX9_takenBy cX9_takenBy 7 (some .int) [.ref a3, .ref a1_book, .int x4] μ ro (fun r4 μ5 => ∃ y6 : Int32, r4 = some (.int y6) ∧ ∃ N7 : Nat, hS μ5 a1_row = some (0, N7) ∧ vp_in (26 + x4) N7 ∧ J (wI μ5 a1_row ((26 + x4).toNatClampNeg) ((hI μ a1_row ((26 + x4).toNatClampNeg)) + y6)) 0 0 56 [(1, .ref a1), (2, .int x2), (3, .ref a3), (4, .int (x4 + 1))] [])))) :
    J μ 0 0 56 [(1, .ref a1), (2, .int x2), (3, .ref a3), (4, .int x4)] [] := by
  refine r_iload g dX1_payByBest_56 rfl ?_
  refine r_aload_n g dX1_payByBest_58 rfl ?_
  refine r_getR g fX1_34 rfl hs_a1 hr_a1_book dX1_payByBest_59 ?_
  refine r_getI g fX1_93 rfl hs_a1_book dX1_payByBest_62 ?_
  refine r_icmp_ge g 97 dX1_payByBest_65 (by decide) (fun c1 => ?_) (fun c1 => ?_)
  · replace h := h.1 c1
    refine r_aload_n g dX1_payByBest_97 rfl ?_
    refine r_getR g fX1_62 rfl hs_a1 hr_a1_row dX1_payByBest_98 ?_
    refine r_bipush g 18 dX1_payByBest_101 (by decide) ?_
    refine r_iload_n g dX1_payByBest_103 rfl ?_
    refine r_iadd g dX1_payByBest_104 ?_
    refine r_dup2_11 g dX1_payByBest_105 rfl rfl ?_
    obtain ⟨hi2, h⟩ := h
    refine r_iaload g hs_a1_row hi2 dX1_payByBest_106 ?_
    refine r_aload_n g dX1_payByBest_107 rfl ?_
    refine r_getI g fX1_78 rfl hs_a3 dX1_payByBest_108 ?_
    refine r_iadd g dX1_payByBest_111 ?_
    refine r_iastore g hs_a1_row hi2 dX1_payByBest_112 ?_
    exact hr.1 rfl _ _ _ _ _ dX1_payByBest_113 (Nat.le_refl 0) (Nat.le_refl 0) h
  · replace h := h.2 c1
    refine r_aload_n g dX1_payByBest_68 rfl ?_
    refine r_getR g fX1_62 rfl hs_a1 hr_a1_row dX1_payByBest_69 ?_
    refine r_bipush g 26 dX1_payByBest_72 (by decide) ?_
    refine r_iload g dX1_payByBest_74 rfl ?_
    refine r_iadd g dX1_payByBest_76 ?_
    refine r_dup2_11 g dX1_payByBest_77 rfl rfl ?_
    obtain ⟨hi3, h⟩ := h
    refine r_iaload g hs_a1_row hi3 dX1_payByBest_78 ?_
    refine r_aload_n g dX1_payByBest_79 rfl ?_
    refine r_aload_n g dX1_payByBest_80 rfl ?_
    refine r_getR g fX1_34 rfl hs_a1 hr_a1_book dX1_payByBest_81 ?_
    refine r_iload g dX1_payByBest_84 rfl ?_
    obtain ⟨d1, Z1, hc1, hd1, h1⟩ := h
    refine r_callV (st := [.int (hI μ a1_row ((26 + x4).toNatClampNeg)), .int (26 + x4), .ref a1_row]) (As := [.ref a1_book, .int x4]) g sX1_96 iX9_takenBy eX9_takenBy rfl hs_a3 rfl (Nat.le_of_ble_eq_true rfl) dX1_payByBest_86 hd1 (Nat.le_refl 0) (Nat.le_refl 0) hc1 (fun r4 μ5 hZ1 => ?_)
    replace h := h1 _ _ hZ1
    clear h1 hc1 hd1 hZ1 Z1 d1
    obtain ⟨y6, rfl, h⟩ := h
    refine r_iadd g dX1_payByBest_89 ?_
    obtain ⟨N7, hs_a1_row__, h⟩ := h
    obtain ⟨hi8, h⟩ := h
    refine r_iastore g hs_a1_row__ hi8 dX1_payByBest_90 ?_
    refine r_iinc g (x4 + 1) [(4, .int (x4 + 1)), (1, .ref a1), (2, .int x2), (3, .ref a3)] dX1_payByBest_91 rfl rfl (by decide) rfl ?_
    refine r_goto g 56 dX1_payByBest_94 (by decide) ?_
    refine r_sub g (lv' := [(1, .ref a1), (2, .int x2), (3, .ref a3), (4, .int (x4 + 1))]) (⟨rfl, rfl, rfl, rfl, trivial⟩) ?_
    exact h
theorem I_X1_payByBest {d : Nat} {ro : Nat → Nat} {Z : Option Value → Hp → Prop} {μ : Hp} {a0 : Nat} {a1 : Nat} {x2 : Int32} (h : ∀ J, xCtx RX1 cX1_payByBest 5 d 0 0 yX1_payByBest.name ro J → xRet cX1_payByBest none 0 0 Z J → J μ 0 0 0 [(0, .ref a0), (1, .ref a1), (2, .int x2)] []) : xC d yX1_payByBest cX1_payByBest 5 none 0 0 [.ref a0, .ref a1, .int x2] μ ro Z :=
  xC_intro (own := RX1) (lv := [(0, .ref a0), (1, .ref a1), (2, .int x2)]) (by decide) rfl (Nat.le_of_ble_eq_true rfl) rfl (fun J g hr => r_sub g (lv' := [(0, .ref a0), (1, .ref a1), (2, .int x2)]) (⟨rfl, rfl, rfl, trivial⟩) (h J g hr))
theorem dX1_setShare_0 : decode cX1_setShare 0 = .ok (.aload_n 0, 1) := by decide +kernel
theorem dX1_setShare_1 : decode cX1_setShare 1 = .ok (.iconst 0, 1) := by decide +kernel
theorem dX1_setShare_2 : decode cX1_setShare 2 = .ok (.iload_n 1, 1) := by decide +kernel
theorem dX1_setShare_3 : decode cX1_setShare 3 = .ok (.iload_n 2, 1) := by decide +kernel
theorem dX1_setShare_4 : decode cX1_setShare 4 = .ok (.invokevirtual 66, 3) := by decide +kernel
theorem dX1_setShare_7 : decode cX1_setShare 7 = .ok (.istore 4, 2) := by decide +kernel
theorem dX1_setShare_9 : decode cX1_setShare 9 = .ok (.iload 4, 2) := by decide +kernel
theorem dX1_setShare_11 : decode cX1_setShare 11 = .ok (.iconst (-1), 1) := by decide +kernel
theorem dX1_setShare_12 : decode cX1_setShare 12 = .ok (.if_icmp .ne 19, 3) := by decide +kernel
theorem dX1_setShare_15 : decode cX1_setShare 15 = .ok (.aload_n 0, 1) := by decide +kernel
theorem dX1_setShare_16 : decode cX1_setShare 16 = .ok (.iconst 0, 1) := by decide +kernel
theorem dX1_setShare_17 : decode cX1_setShare 17 = .ok (.iload_n 1, 1) := by decide +kernel
theorem dX1_setShare_18 : decode cX1_setShare 18 = .ok (.iload_n 2, 1) := by decide +kernel
theorem dX1_setShare_19 : decode cX1_setShare 19 = .ok (.iload_n 3, 1) := by decide +kernel
theorem dX1_setShare_20 : decode cX1_setShare 20 = .ok (.aload_n 0, 1) := by decide +kernel
theorem dX1_setShare_21 : decode cX1_setShare 21 = .ok (.getfield 62, 3) := by decide +kernel
theorem dX1_setShare_24 : decode cX1_setShare 24 = .ok (.iconst 0, 1) := by decide +kernel
theorem dX1_setShare_25 : decode cX1_setShare 25 = .ok (.iaload, 1) := by decide +kernel
theorem dX1_setShare_26 : decode cX1_setShare 26 = .ok (.invokevirtual 100, 3) := by decide +kernel
theorem dX1_setShare_29 : decode cX1_setShare 29 = .ok (.iconst 0, 1) := by decide +kernel
theorem dX1_setShare_30 : decode cX1_setShare 30 = .ok (.ireturn, 1) := by decide +kernel
theorem dX1_setShare_31 : decode cX1_setShare 31 = .ok (.aload_n 0, 1) := by decide +kernel
theorem dX1_setShare_32 : decode cX1_setShare 32 = .ok (.getfield 62, 3) := by decide +kernel
theorem dX1_setShare_35 : decode cX1_setShare 35 = .ok (.bipush 80, 2) := by decide +kernel
theorem dX1_setShare_37 : decode cX1_setShare 37 = .ok (.iload 4, 2) := by decide +kernel
theorem dX1_setShare_39 : decode cX1_setShare 39 = .ok (.iadd, 1) := by decide +kernel
theorem dX1_setShare_40 : decode cX1_setShare 40 = .ok (.iaload, 1) := by decide +kernel
theorem dX1_setShare_41 : decode cX1_setShare 41 = .ok (.istore 5, 2) := by decide +kernel
theorem dX1_setShare_43 : decode cX1_setShare 43 = .ok (.iload_n 3, 1) := by decide +kernel
theorem dX1_setShare_44 : decode cX1_setShare 44 = .ok (.ifCond .ne 12, 3) := by decide +kernel
theorem dX1_setShare_47 : decode cX1_setShare 47 = .ok (.aload_n 0, 1) := by decide +kernel
theorem dX1_setShare_48 : decode cX1_setShare 48 = .ok (.iload 4, 2) := by decide +kernel
theorem dX1_setShare_50 : decode cX1_setShare 50 = .ok (.invokevirtual 104, 3) := by decide +kernel
theorem dX1_setShare_53 : decode cX1_setShare 53 = .ok (.goto 14, 3) := by decide +kernel
theorem dX1_setShare_56 : decode cX1_setShare 56 = .ok (.aload_n 0, 1) := by decide +kernel
theorem dX1_setShare_57 : decode cX1_setShare 57 = .ok (.getfield 62, 3) := by decide +kernel
theorem dX1_setShare_60 : decode cX1_setShare 60 = .ok (.bipush 80, 2) := by decide +kernel
theorem dX1_setShare_62 : decode cX1_setShare 62 = .ok (.iload 4, 2) := by decide +kernel
theorem dX1_setShare_64 : decode cX1_setShare 64 = .ok (.iadd, 1) := by decide +kernel
theorem dX1_setShare_65 : decode cX1_setShare 65 = .ok (.iload_n 3, 1) := by decide +kernel
theorem dX1_setShare_66 : decode cX1_setShare 66 = .ok (.iastore, 1) := by decide +kernel
theorem dX1_setShare_67 : decode cX1_setShare 67 = .ok (.iload 5, 2) := by decide +kernel
theorem dX1_setShare_69 : decode cX1_setShare 69 = .ok (.ireturn, 1) := by decide +kernel
set_option maxHeartbeats 4000000 in
set_option maxRecDepth 100000 in
theorem B_X1_setShare_0 {d : Nat} {ro : Nat → Nat} {J : JT} {Z : Option Value → Hp → Prop} (g : xCtx RX1 cX1_setShare 6 d 0 0 yX1_setShare.name ro J) (hr : xRet cX1_setShare (some .int) 0 0 Z J) {μ : Hp} {a0 : Nat} {x1 : Int32} {x2 : Int32} {x3 : Int32} (hs_a0 : hS μ a0 = some (12, 4))
    (h : xCall d yX8_linkOf cX8_linkOf 5 (some .int) [.ref a0, .int 0, .int x1, .int x2] μ ro (fun r1 μ2 => ∃ y3 : Int32, r1 = some (.int y3) ∧ ((¬ y3 = (-1) → hS μ2 a0 = some (12, 4) ∧ ∃ row_5 : Nat, hR μ2 a0 0 = some row_5 ∧ ∃ N6 : Nat, hS μ2 row_5 = some (0, N6) ∧ vp_in (80 + y3) N6 ∧ ((¬ x3 = 0 → Z (some (.int (hI μ2 row_5 ((80 + y3).toNatClampNeg)))) (wI μ2 row_5 ((80 + y3).toNatClampNeg) x3)) ∧ (x3 = 0 → xCall d yX8_removeLink cX8_removeLink 3 none [.ref a0, .int y3] μ2 ro (fun r9 μ10 => r9 = none ∧ Z (some (.int (hI μ2 row_5 ((80 + y3).toNatClampNeg)))) μ10)))) ∧ (y3 = (-1) → hS μ2 a0 = some (12, 4) ∧ ∃ row_11 : Nat, hR μ2 a0 0 = some row_11 ∧ ∃ N12 : Nat, hS μ2 row_11 = some (0, N12) ∧ vp_in 0 N12 ∧ xCall d yX8_addLink cX8_addLink 7 none [.ref a0, .int 0, .int x1, .int x2, .int x3, .int (hI μ2 row_11 0)] μ2 ro (fun r14 μ15 => r14 = none ∧ Z (some (.int 0)) μ15))))) :
    J μ 0 0 0 [(0, .ref a0), (1, .int x1), (2, .int x2), (3, .int x3)] [] := by
  refine r_aload_n g dX1_setShare_0 rfl ?_
  refine r_iconst g 0 dX1_setShare_1 (by decide) ?_
  refine r_iload_n g dX1_setShare_2 rfl ?_
  refine r_iload_n g dX1_setShare_3 rfl ?_
  obtain ⟨d1, Z1, hc1, hd1, h1⟩ := h
  refine r_callV (st := []) (As := [.int 0, .int x1, .int x2]) g sX1_66 iX8_linkOf eX8_linkOf rfl hs_a0 rfl (Nat.le_of_ble_eq_true rfl) dX1_setShare_4 hd1 (Nat.le_refl 0) (Nat.le_refl 0) hc1 (fun r1 μ2 hZ1 => ?_)
  replace h := h1 _ _ hZ1
  clear h1 hc1 hd1 hZ1 Z1 d1
  obtain ⟨y3, rfl, h⟩ := h
  refine r_istore g [(4, .int y3), (0, .ref a0), (1, .int x1), (2, .int x2), (3, .int x3)] dX1_setShare_7 (by decide) rfl ?_
  refine r_iload g dX1_setShare_9 rfl ?_
  refine r_iconst g (-1) dX1_setShare_11 (by decide) ?_
  refine r_icmp_ne g 31 dX1_setShare_12 (by decide) (fun c4 => ?_) (fun c4 => ?_)
  · replace h := h.1 c4
    refine r_aload_n g dX1_setShare_31 rfl ?_
    obtain ⟨hs_a0_, h⟩ := h
    obtain ⟨row_5, hr_row_5, h⟩ := h
    refine r_getR g fX1_62 rfl hs_a0_ hr_row_5 dX1_setShare_32 ?_
    refine r_bipush g 80 dX1_setShare_35 (by decide) ?_
    refine r_iload g dX1_setShare_37 rfl ?_
    refine r_iadd g dX1_setShare_39 ?_
    obtain ⟨N6, hs_row_5, h⟩ := h
    obtain ⟨hi7, h⟩ := h
    refine r_iaload g hs_row_5 hi7 dX1_setShare_40 ?_
    refine r_istore g [(5, .int (hI μ2 row_5 ((80 + y3).toNatClampNeg))), (4, .int y3), (0, .ref a0), (1, .int x1), (2, .int x2), (3, .int x3)] dX1_setShare_41 (by decide) rfl ?_
    refine r_iload_n g dX1_setShare_43 rfl ?_
    refine r_if_ne g 56 dX1_setShare_44 (by decide) (fun c8 => ?_) (fun c8 => ?_)
    · replace h := h.1 c8
      refine r_aload_n g dX1_setShare_56 rfl ?_
      refine r_getR g fX1_62 rfl hs_a0_ hr_row_5 dX1_setShare_57 ?_
      refine r_bipush g 80 dX1_setShare_60 (by decide) ?_
      refine r_iload g dX1_setShare_62 rfl ?_
      refine r_iadd g dX1_setShare_64 ?_
      refine r_iload_n g dX1_setShare_65 rfl ?_
      refine r_iastore g hs_row_5 hi7 dX1_setShare_66 ?_
      refine r_iload g dX1_setShare_67 rfl ?_
      exact hr.2.1 _ rfl _ _ _ _ _ _ dX1_setShare_69 rfl (Nat.le_refl 0) (Nat.le_refl 0) h
    · replace h := h.2 c8
      refine r_aload_n g dX1_setShare_47 rfl ?_
      refine r_iload g dX1_setShare_48 rfl ?_
      obtain ⟨d1, Z1, hc1, hd1, h1⟩ := h
      refine r_callV (st := []) (As := [.int y3]) g sX1_104 iX8_removeLink eX8_removeLink rfl hs_a0_ rfl (Nat.le_of_ble_eq_true rfl) dX1_setShare_50 hd1 (Nat.le_refl 0) (Nat.le_refl 0) hc1 (fun r9 μ10 hZ1 => ?_)
      replace h := h1 _ _ hZ1
      clear h1 hc1 hd1 hZ1 Z1 d1
      obtain ⟨rfl, h⟩ := h
      refine r_goto g 67 dX1_setShare_53 (by decide) ?_
      refine r_iload g dX1_setShare_67 rfl ?_
      exact hr.2.1 _ rfl _ _ _ _ _ _ dX1_setShare_69 rfl (Nat.le_refl 0) (Nat.le_refl 0) h
  · replace h := h.2 c4
    refine r_aload_n g dX1_setShare_15 rfl ?_
    refine r_iconst g 0 dX1_setShare_16 (by decide) ?_
    refine r_iload_n g dX1_setShare_17 rfl ?_
    refine r_iload_n g dX1_setShare_18 rfl ?_
    refine r_iload_n g dX1_setShare_19 rfl ?_
    refine r_aload_n g dX1_setShare_20 rfl ?_
    obtain ⟨hs_a0__, h⟩ := h
    obtain ⟨row_11, hr_row_11, h⟩ := h
    refine r_getR g fX1_62 rfl hs_a0__ hr_row_11 dX1_setShare_21 ?_
    refine r_iconst g 0 dX1_setShare_24 (by decide) ?_
    obtain ⟨N12, hs_row_11, h⟩ := h
    obtain ⟨hi13, h⟩ := h
    refine r_iaload g hs_row_11 hi13 dX1_setShare_25 ?_
    obtain ⟨d1, Z1, hc1, hd1, h1⟩ := h
    refine r_callV (st := []) (As := [.int 0, .int x1, .int x2, .int x3, .int (hI μ2 row_11 0)]) g sX1_100 iX8_addLink eX8_addLink rfl hs_a0__ rfl (Nat.le_of_ble_eq_true rfl) dX1_setShare_26 hd1 (Nat.le_refl 0) (Nat.le_refl 0) hc1 (fun r14 μ15 hZ1 => ?_)
    replace h := h1 _ _ hZ1
    clear h1 hc1 hd1 hZ1 Z1 d1
    obtain ⟨rfl, h⟩ := h
    refine r_iconst g 0 dX1_setShare_29 (by decide) ?_
    exact hr.2.1 _ rfl _ _ _ _ _ _ dX1_setShare_30 rfl (Nat.le_refl 0) (Nat.le_refl 0) h
theorem I_X1_setShare {d : Nat} {ro : Nat → Nat} {Z : Option Value → Hp → Prop} {μ : Hp} {a0 : Nat} {x1 : Int32} {x2 : Int32} {x3 : Int32} (h : ∀ J, xCtx RX1 cX1_setShare 6 d 0 0 yX1_setShare.name ro J → xRet cX1_setShare (some .int) 0 0 Z J → J μ 0 0 0 [(0, .ref a0), (1, .int x1), (2, .int x2), (3, .int x3)] []) : xC d yX1_setShare cX1_setShare 6 (some .int) 0 0 [.ref a0, .int x1, .int x2, .int x3] μ ro Z :=
  xC_intro (own := RX1) (lv := [(0, .ref a0), (1, .int x1), (2, .int x2), (3, .int x3)]) (by decide) rfl (Nat.le_of_ble_eq_true rfl) rfl (fun J g hr => r_sub g (lv' := [(0, .ref a0), (1, .int x1), (2, .int x2), (3, .int x3)]) (⟨rfl, rfl, rfl, rfl, trivial⟩) (h J g hr))
theorem dX1_turnLoan_0 : decode cX1_turnLoan 0 = .ok (.aload_n 0, 1) := by decide +kernel
theorem dX1_turnLoan_1 : decode cX1_turnLoan 1 = .ok (.iconst 1, 1) := by decide +kernel
theorem dX1_turnLoan_2 : decode cX1_turnLoan 2 = .ok (.iload_n 1, 1) := by decide +kernel
theorem dX1_turnLoan_3 : decode cX1_turnLoan 3 = .ok (.iload_n 2, 1) := by decide +kernel
theorem dX1_turnLoan_4 : decode cX1_turnLoan 4 = .ok (.invokevirtual 66, 3) := by decide +kernel
theorem dX1_turnLoan_7 : decode cX1_turnLoan 7 = .ok (.istore_n 3, 1) := by decide +kernel
theorem dX1_turnLoan_8 : decode cX1_turnLoan 8 = .ok (.iload_n 3, 1) := by decide +kernel
theorem dX1_turnLoan_9 : decode cX1_turnLoan 9 = .ok (.iconst (-1), 1) := by decide +kernel
theorem dX1_turnLoan_10 : decode cX1_turnLoan 10 = .ok (.if_icmp .ne 19, 3) := by decide +kernel
theorem dX1_turnLoan_13 : decode cX1_turnLoan 13 = .ok (.aload_n 0, 1) := by decide +kernel
theorem dX1_turnLoan_14 : decode cX1_turnLoan 14 = .ok (.iconst 1, 1) := by decide +kernel
theorem dX1_turnLoan_15 : decode cX1_turnLoan 15 = .ok (.iload_n 1, 1) := by decide +kernel
theorem dX1_turnLoan_16 : decode cX1_turnLoan 16 = .ok (.iload_n 2, 1) := by decide +kernel
theorem dX1_turnLoan_17 : decode cX1_turnLoan 17 = .ok (.iconst 0, 1) := by decide +kernel
theorem dX1_turnLoan_18 : decode cX1_turnLoan 18 = .ok (.aload_n 0, 1) := by decide +kernel
theorem dX1_turnLoan_19 : decode cX1_turnLoan 19 = .ok (.getfield 62, 3) := by decide +kernel
theorem dX1_turnLoan_22 : decode cX1_turnLoan 22 = .ok (.iconst 0, 1) := by decide +kernel
theorem dX1_turnLoan_23 : decode cX1_turnLoan 23 = .ok (.iaload, 1) := by decide +kernel
theorem dX1_turnLoan_24 : decode cX1_turnLoan 24 = .ok (.invokevirtual 100, 3) := by decide +kernel
theorem dX1_turnLoan_27 : decode cX1_turnLoan 27 = .ok (.iconst 1, 1) := by decide +kernel
theorem dX1_turnLoan_28 : decode cX1_turnLoan 28 = .ok (.ireturn, 1) := by decide +kernel
theorem dX1_turnLoan_29 : decode cX1_turnLoan 29 = .ok (.aload_n 0, 1) := by decide +kernel
theorem dX1_turnLoan_30 : decode cX1_turnLoan 30 = .ok (.iload_n 3, 1) := by decide +kernel
theorem dX1_turnLoan_31 : decode cX1_turnLoan 31 = .ok (.invokevirtual 104, 3) := by decide +kernel
theorem dX1_turnLoan_34 : decode cX1_turnLoan 34 = .ok (.iconst 0, 1) := by decide +kernel
theorem dX1_turnLoan_35 : decode cX1_turnLoan 35 = .ok (.ireturn, 1) := by decide +kernel
set_option maxHeartbeats 4000000 in
set_option maxRecDepth 100000 in
theorem B_X1_turnLoan_0 {d : Nat} {ro : Nat → Nat} {J : JT} {Z : Option Value → Hp → Prop} (g : xCtx RX1 cX1_turnLoan 4 d 0 0 yX1_turnLoan.name ro J) (hr : xRet cX1_turnLoan (some .int) 0 0 Z J) {μ : Hp} {a0 : Nat} {x1 : Int32} {x2 : Int32} (hs_a0 : hS μ a0 = some (12, 4))
    (h : xCall d yX8_linkOf cX8_linkOf 5 (some .int) [.ref a0, .int 1, .int x1, .int x2] μ ro (fun r1 μ2 => ∃ y3 : Int32, r1 = some (.int y3) ∧ ((¬ y3 = (-1) → hS μ2 a0 = some (12, 4) ∧ xCall d yX8_removeLink cX8_removeLink 3 none [.ref a0, .int y3] μ2 ro (fun r5 μ6 => r5 = none ∧ Z (some (.int 0)) μ6)) ∧ (y3 = (-1) → hS μ2 a0 = some (12, 4) ∧ ∃ row_7 : Nat, hR μ2 a0 0 = some row_7 ∧ ∃ N8 : Nat, hS μ2 row_7 = some (0, N8) ∧ vp_in 0 N8 ∧ xCall d yX8_addLink cX8_addLink 7 none [.ref a0, .int 1, .int x1, .int x2, .int 0, .int (hI μ2 row_7 0)] μ2 ro (fun r10 μ11 => r10 = none ∧ Z (some (.int 1)) μ11))))) :
    J μ 0 0 0 [(0, .ref a0), (1, .int x1), (2, .int x2)] [] := by
  refine r_aload_n g dX1_turnLoan_0 rfl ?_
  refine r_iconst g 1 dX1_turnLoan_1 (by decide) ?_
  refine r_iload_n g dX1_turnLoan_2 rfl ?_
  refine r_iload_n g dX1_turnLoan_3 rfl ?_
  obtain ⟨d1, Z1, hc1, hd1, h1⟩ := h
  refine r_callV (st := []) (As := [.int 1, .int x1, .int x2]) g sX1_66 iX8_linkOf eX8_linkOf rfl hs_a0 rfl (Nat.le_of_ble_eq_true rfl) dX1_turnLoan_4 hd1 (Nat.le_refl 0) (Nat.le_refl 0) hc1 (fun r1 μ2 hZ1 => ?_)
  replace h := h1 _ _ hZ1
  clear h1 hc1 hd1 hZ1 Z1 d1
  obtain ⟨y3, rfl, h⟩ := h
  refine r_istore_n g [(3, .int y3), (0, .ref a0), (1, .int x1), (2, .int x2)] dX1_turnLoan_7 (by decide) rfl ?_
  refine r_iload_n g dX1_turnLoan_8 rfl ?_
  refine r_iconst g (-1) dX1_turnLoan_9 (by decide) ?_
  refine r_icmp_ne g 29 dX1_turnLoan_10 (by decide) (fun c4 => ?_) (fun c4 => ?_)
  · replace h := h.1 c4
    refine r_aload_n g dX1_turnLoan_29 rfl ?_
    refine r_iload_n g dX1_turnLoan_30 rfl ?_
    obtain ⟨hs_a0_, h⟩ := h
    obtain ⟨d1, Z1, hc1, hd1, h1⟩ := h
    refine r_callV (st := []) (As := [.int y3]) g sX1_104 iX8_removeLink eX8_removeLink rfl hs_a0_ rfl (Nat.le_of_ble_eq_true rfl) dX1_turnLoan_31 hd1 (Nat.le_refl 0) (Nat.le_refl 0) hc1 (fun r5 μ6 hZ1 => ?_)
    replace h := h1 _ _ hZ1
    clear h1 hc1 hd1 hZ1 Z1 d1
    obtain ⟨rfl, h⟩ := h
    refine r_iconst g 0 dX1_turnLoan_34 (by decide) ?_
    exact hr.2.1 _ rfl _ _ _ _ _ _ dX1_turnLoan_35 rfl (Nat.le_refl 0) (Nat.le_refl 0) h
  · replace h := h.2 c4
    refine r_aload_n g dX1_turnLoan_13 rfl ?_
    refine r_iconst g 1 dX1_turnLoan_14 (by decide) ?_
    refine r_iload_n g dX1_turnLoan_15 rfl ?_
    refine r_iload_n g dX1_turnLoan_16 rfl ?_
    refine r_iconst g 0 dX1_turnLoan_17 (by decide) ?_
    refine r_aload_n g dX1_turnLoan_18 rfl ?_
    obtain ⟨hs_a0__, h⟩ := h
    obtain ⟨row_7, hr_row_7, h⟩ := h
    refine r_getR g fX1_62 rfl hs_a0__ hr_row_7 dX1_turnLoan_19 ?_
    refine r_iconst g 0 dX1_turnLoan_22 (by decide) ?_
    obtain ⟨N8, hs_row_7, h⟩ := h
    obtain ⟨hi9, h⟩ := h
    refine r_iaload g hs_row_7 hi9 dX1_turnLoan_23 ?_
    obtain ⟨d1, Z1, hc1, hd1, h1⟩ := h
    refine r_callV (st := []) (As := [.int 1, .int x1, .int x2, .int 0, .int (hI μ2 row_7 0)]) g sX1_100 iX8_addLink eX8_addLink rfl hs_a0__ rfl (Nat.le_of_ble_eq_true rfl) dX1_turnLoan_24 hd1 (Nat.le_refl 0) (Nat.le_refl 0) hc1 (fun r10 μ11 hZ1 => ?_)
    replace h := h1 _ _ hZ1
    clear h1 hc1 hd1 hZ1 Z1 d1
    obtain ⟨rfl, h⟩ := h
    refine r_iconst g 1 dX1_turnLoan_27 (by decide) ?_
    exact hr.2.1 _ rfl _ _ _ _ _ _ dX1_turnLoan_28 rfl (Nat.le_refl 0) (Nat.le_refl 0) h
theorem I_X1_turnLoan {d : Nat} {ro : Nat → Nat} {Z : Option Value → Hp → Prop} {μ : Hp} {a0 : Nat} {x1 : Int32} {x2 : Int32} (h : ∀ J, xCtx RX1 cX1_turnLoan 4 d 0 0 yX1_turnLoan.name ro J → xRet cX1_turnLoan (some .int) 0 0 Z J → J μ 0 0 0 [(0, .ref a0), (1, .int x1), (2, .int x2)] []) : xC d yX1_turnLoan cX1_turnLoan 4 (some .int) 0 0 [.ref a0, .int x1, .int x2] μ ro Z :=
  xC_intro (own := RX1) (lv := [(0, .ref a0), (1, .int x1), (2, .int x2)]) (by decide) rfl (Nat.le_of_ble_eq_true rfl) rfl (fun J g hr => r_sub g (lv' := [(0, .ref a0), (1, .int x1), (2, .int x2)]) (⟨rfl, rfl, rfl, trivial⟩) (h J g hr))
theorem dX1_firmOf_0 : decode cX1_firmOf 0 = .ok (.iload_n 0, 1) := by decide +kernel
theorem dX1_firmOf_1 : decode cX1_firmOf 1 = .ok (.iconst 1, 1) := by decide +kernel
theorem dX1_firmOf_2 : decode cX1_firmOf 2 = .ok (.if_icmp .ne 5, 3) := by decide +kernel
theorem dX1_firmOf_5 : decode cX1_firmOf 5 = .ok (.iconst (-1), 1) := by decide +kernel
theorem dX1_firmOf_6 : decode cX1_firmOf 6 = .ok (.ireturn, 1) := by decide +kernel
theorem dX1_firmOf_7 : decode cX1_firmOf 7 = .ok (.iload_n 0, 1) := by decide +kernel
theorem dX1_firmOf_8 : decode cX1_firmOf 8 = .ok (.ifCond .ne 7, 3) := by decide +kernel
theorem dX1_firmOf_11 : decode cX1_firmOf 11 = .ok (.iload_n 2, 1) := by decide +kernel
theorem dX1_firmOf_12 : decode cX1_firmOf 12 = .ok (.goto 4, 3) := by decide +kernel
theorem dX1_firmOf_15 : decode cX1_firmOf 15 = .ok (.iload_n 1, 1) := by decide +kernel
theorem dX1_firmOf_16 : decode cX1_firmOf 16 = .ok (.ireturn, 1) := by decide +kernel
set_option maxHeartbeats 4000000 in
set_option maxRecDepth 100000 in
theorem B_X1_firmOf_0 {d : Nat} {ro : Nat → Nat} {J : JT} {Z : Option Value → Hp → Prop} (g : xCtx RX1 cX1_firmOf 3 d 0 0 yX1_firmOf.name ro J) (hr : xRet cX1_firmOf (some .int) 0 0 Z J) {μ : Hp} {x0 : Int32} {x1 : Int32} {x2 : Int32} 
    (h : ((¬ x0 = 1 → ((¬ x0 = 0 → Z (some (.int x1)) μ) ∧ (x0 = 0 → Z (some (.int x2)) μ))) ∧ (x0 = 1 → Z (some (.int (-1))) μ))) :
    J μ 0 0 0 [(0, .int x0), (1, .int x1), (2, .int x2)] [] := by
  refine r_iload_n g dX1_firmOf_0 rfl ?_
  refine r_iconst g 1 dX1_firmOf_1 (by decide) ?_
  refine r_icmp_ne g 7 dX1_firmOf_2 (by decide) (fun c1 => ?_) (fun c1 => ?_)
  · replace h := h.1 c1
    refine r_iload_n g dX1_firmOf_7 rfl ?_
    refine r_if_ne g 15 dX1_firmOf_8 (by decide) (fun c2 => ?_) (fun c2 => ?_)
    · replace h := h.1 c2
      refine r_iload_n g dX1_firmOf_15 rfl ?_
      exact hr.2.1 _ rfl _ _ _ _ _ _ dX1_firmOf_16 rfl (Nat.le_refl 0) (Nat.le_refl 0) h
    · replace h := h.2 c2
      refine r_iload_n g dX1_firmOf_11 rfl ?_
      refine r_goto g 16 dX1_firmOf_12 (by decide) ?_
      exact hr.2.1 _ rfl _ _ _ _ _ _ dX1_firmOf_16 rfl (Nat.le_refl 0) (Nat.le_refl 0) h
  · replace h := h.2 c1
    refine r_iconst g (-1) dX1_firmOf_5 (by decide) ?_
    exact hr.2.1 _ rfl _ _ _ _ _ _ dX1_firmOf_6 rfl (Nat.le_refl 0) (Nat.le_refl 0) h
theorem I_X1_firmOf {d : Nat} {ro : Nat → Nat} {Z : Option Value → Hp → Prop} {μ : Hp} {x0 : Int32} {x1 : Int32} {x2 : Int32} (h : ∀ J, xCtx RX1 cX1_firmOf 3 d 0 0 yX1_firmOf.name ro J → xRet cX1_firmOf (some .int) 0 0 Z J → J μ 0 0 0 [(0, .int x0), (1, .int x1), (2, .int x2)] []) : xC d yX1_firmOf cX1_firmOf 3 (some .int) 0 0 [.int x0, .int x1, .int x2] μ ro Z :=
  xC_intro (own := RX1) (lv := [(0, .int x0), (1, .int x1), (2, .int x2)]) (by decide) rfl (Nat.le_of_ble_eq_true rfl) rfl (fun J g hr => r_sub g (lv' := [(0, .int x0), (1, .int x1), (2, .int x2)]) (⟨rfl, rfl, rfl, trivial⟩) (h J g hr))
