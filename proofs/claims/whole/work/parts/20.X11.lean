theorem dX11_feed_0 : decode cX11_feed 0 = .ok (.iload_n 1, 1) := by decide +kernel
theorem dX11_feed_1 : decode cX11_feed 1 = .ok (.invokestatic 107, 3) := by decide +kernel
theorem dX11_feed_4 : decode cX11_feed 4 = .ok (.iload_n 2, 1) := by decide +kernel
theorem dX11_feed_5 : decode cX11_feed 5 = .ok (.invokestatic 107, 3) := by decide +kernel
theorem dX11_feed_8 : decode cX11_feed 8 = .ok (.iadd, 1) := by decide +kernel
theorem dX11_feed_9 : decode cX11_feed 9 = .ok (.iload_n 3, 1) := by decide +kernel
theorem dX11_feed_10 : decode cX11_feed 10 = .ok (.invokestatic 107, 3) := by decide +kernel
theorem dX11_feed_13 : decode cX11_feed 13 = .ok (.iadd, 1) := by decide +kernel
theorem dX11_feed_14 : decode cX11_feed 14 = .ok (.iload 4, 2) := by decide +kernel
theorem dX11_feed_16 : decode cX11_feed 16 = .ok (.invokestatic 107, 3) := by decide +kernel
theorem dX11_feed_19 : decode cX11_feed 19 = .ok (.iadd, 1) := by decide +kernel
theorem dX11_feed_20 : decode cX11_feed 20 = .ok (.iload 5, 2) := by decide +kernel
theorem dX11_feed_22 : decode cX11_feed 22 = .ok (.invokestatic 107, 3) := by decide +kernel
theorem dX11_feed_25 : decode cX11_feed 25 = .ok (.iadd, 1) := by decide +kernel
theorem dX11_feed_26 : decode cX11_feed 26 = .ok (.istore 6, 2) := by decide +kernel
theorem dX11_feed_28 : decode cX11_feed 28 = .ok (.aload_n 0, 1) := by decide +kernel
theorem dX11_feed_29 : decode cX11_feed 29 = .ok (.getfield 10, 3) := by decide +kernel
theorem dX11_feed_32 : decode cX11_feed 32 = .ok (.getfield 111, 3) := by decide +kernel
theorem dX11_feed_35 : decode cX11_feed 35 = .ok (.iload 6, 2) := by decide +kernel
theorem dX11_feed_37 : decode cX11_feed 37 = .ok (.iadd, 1) := by decide +kernel
theorem dX11_feed_38 : decode cX11_feed 38 = .ok (.sipush 400, 3) := by decide +kernel
theorem dX11_feed_41 : decode cX11_feed 41 = .ok (.if_icmp .le 5, 3) := by decide +kernel
theorem dX11_feed_44 : decode cX11_feed 44 = .ok (.iconst (-1), 1) := by decide +kernel
theorem dX11_feed_45 : decode cX11_feed 45 = .ok (.ireturn, 1) := by decide +kernel
theorem dX11_feed_46 : decode cX11_feed 46 = .ok (.aload_n 0, 1) := by decide +kernel
theorem dX11_feed_47 : decode cX11_feed 47 = .ok (.getfield 10, 3) := by decide +kernel
theorem dX11_feed_50 : decode cX11_feed 50 = .ok (.iload_n 1, 1) := by decide +kernel
theorem dX11_feed_51 : decode cX11_feed 51 = .ok (.invokevirtual 114, 3) := by decide +kernel
theorem dX11_feed_54 : decode cX11_feed 54 = .ok (.aload_n 0, 1) := by decide +kernel
theorem dX11_feed_55 : decode cX11_feed 55 = .ok (.getfield 10, 3) := by decide +kernel
theorem dX11_feed_58 : decode cX11_feed 58 = .ok (.iload_n 2, 1) := by decide +kernel
theorem dX11_feed_59 : decode cX11_feed 59 = .ok (.invokevirtual 114, 3) := by decide +kernel
theorem dX11_feed_62 : decode cX11_feed 62 = .ok (.aload_n 0, 1) := by decide +kernel
theorem dX11_feed_63 : decode cX11_feed 63 = .ok (.getfield 10, 3) := by decide +kernel
theorem dX11_feed_66 : decode cX11_feed 66 = .ok (.iload_n 3, 1) := by decide +kernel
theorem dX11_feed_67 : decode cX11_feed 67 = .ok (.invokevirtual 114, 3) := by decide +kernel
theorem dX11_feed_70 : decode cX11_feed 70 = .ok (.aload_n 0, 1) := by decide +kernel
theorem dX11_feed_71 : decode cX11_feed 71 = .ok (.getfield 10, 3) := by decide +kernel
theorem dX11_feed_74 : decode cX11_feed 74 = .ok (.iload 4, 2) := by decide +kernel
theorem dX11_feed_76 : decode cX11_feed 76 = .ok (.invokevirtual 114, 3) := by decide +kernel
theorem dX11_feed_79 : decode cX11_feed 79 = .ok (.aload_n 0, 1) := by decide +kernel
theorem dX11_feed_80 : decode cX11_feed 80 = .ok (.getfield 10, 3) := by decide +kernel
theorem dX11_feed_83 : decode cX11_feed 83 = .ok (.iload 5, 2) := by decide +kernel
theorem dX11_feed_85 : decode cX11_feed 85 = .ok (.invokevirtual 114, 3) := by decide +kernel
theorem dX11_feed_88 : decode cX11_feed 88 = .ok (.aload_n 0, 1) := by decide +kernel
theorem dX11_feed_89 : decode cX11_feed 89 = .ok (.getfield 10, 3) := by decide +kernel
theorem dX11_feed_92 : decode cX11_feed 92 = .ok (.getfield 111, 3) := by decide +kernel
theorem dX11_feed_95 : decode cX11_feed 95 = .ok (.ireturn, 1) := by decide +kernel
set_option maxHeartbeats 4000000 in
set_option maxRecDepth 100000 in
theorem B_X11_feed_0 {d : Nat} {ro : Nat → Nat} {J : JT} {Z : Option Value → Hp → Prop} (g : xCtx RX11 cX11_feed 7 d 0 0 yX11_feed.name ro J) (hr : xRet cX11_feed (some .int) 0 0 Z J) {μ : Hp} {a0 : Nat} {x1 : Int32} {x2 : Int32} {x3 : Int32} {x4 : Int32} {x5 : Int32} 
    (h : xCall d yX6_bytesIn cX6_bytesIn 3 (some .int) [.int x1] μ ro (fun r1 μ2 => ∃ y3 : Int32, r1 = some (.int y3) ∧ xCall d yX6_bytesIn cX6_bytesIn 3 (some .int) [.int x2] μ2 ro (fun r4 μ5 => ∃ y6 : Int32, r4 = some (.int y6) ∧ xCall d yX6_bytesIn cX6_bytesIn 3 (some .int) [.int x3] μ5 ro (fun r7 μ8 => ∃ y9 : Int32, r7 = some (.int y9) ∧ xCall d yX6_bytesIn cX6_bytesIn 3 (some .int) [.int x4] μ8 ro (fun r10 μ11 => ∃ y12 : Int32, r10 = some (.int y12) ∧ xCall d yX6_bytesIn cX6_bytesIn 3 (some .int) [.int x5] μ11 ro (fun r13 μ14 => ∃ y15 : Int32, r13 = some (.int y15) ∧ hS μ14 a0 = some (14, 18) ∧ ∃ reader_16 : Nat, hR μ14 a0 0 = some reader_16 ∧ hS μ14 reader_16 = some (10, 5) ∧ ((((hI μ14 reader_16 0) + ((((y3 + y6) + y9) + y12) + y15)) ≤ 400 → xCall d yX6_put cX6_put 4 none [.ref reader_16, .int x1] μ14 ro (fun r18 μ19 => r18 = none ∧ hS μ19 a0 = some (14, 18) ∧ ∃ reader_20 : Nat, hR μ19 a0 0 = some reader_20 ∧ hS μ19 reader_20 = some (10, 5) ∧ xCall d yX6_put cX6_put 4 none [.ref reader_20, .int x2] μ19 ro (fun r21 μ22 => r21 = none ∧ hS μ22 a0 = some (14, 18) ∧ ∃ reader_23 : Nat, hR μ22 a0 0 = some reader_23 ∧ hS μ22 reader_23 = some (10, 5) ∧ xCall d yX6_put cX6_put 4 none [.ref reader_23, .int x3] μ22 ro (fun r24 μ25 => r24 = none ∧ hS μ25 a0 = some (14, 18) ∧ ∃ reader_26 : Nat, hR μ25 a0 0 = some reader_26 ∧ hS μ25 reader_26 = some (10, 5) ∧ xCall d yX6_put cX6_put 4 none [.ref reader_26, .int x4] μ25 ro (fun r27 μ28 => r27 = none ∧ hS μ28 a0 = some (14, 18) ∧ ∃ reader_29 : Nat, hR μ28 a0 0 = some reader_29 ∧ hS μ28 reader_29 = some (10, 5) ∧ xCall d yX6_put cX6_put 4 none [.ref reader_29, .int x5] μ28 ro (fun r30 μ31 => r30 = none ∧ hS μ31 a0 = some (14, 18) ∧ ∃ reader_32 : Nat, hR μ31 a0 0 = some reader_32 ∧ hS μ31 reader_32 = some (10, 5) ∧ Z (some (.int (hI μ31 reader_32 0))) μ31)))))) ∧ (¬ ((hI μ14 reader_16 0) + ((((y3 + y6) + y9) + y12) + y15)) ≤ 400 → Z (some (.int (-1))) μ14)))))))) :
    J μ 0 0 0 [(0, .ref a0), (1, .int x1), (2, .int x2), (3, .int x3), (4, .int x4), (5, .int x5)] [] := by
  refine r_iload_n g dX11_feed_0 rfl ?_
  obtain ⟨d1, Z1, hc1, hd1, h1⟩ := h
  refine r_callS (st := []) (As := [.int x1]) g sX11_107 iX6_bytesIn rfl (Nat.le_of_ble_eq_true rfl) dX11_feed_1 hd1 (Nat.le_refl 0) (Nat.le_refl 0) hc1 (fun r1 μ2 hZ1 => ?_)
  replace h := h1 _ _ hZ1
  clear h1 hc1 hd1 hZ1 Z1 d1
  obtain ⟨y3, rfl, h⟩ := h
  refine r_iload_n g dX11_feed_4 rfl ?_
  obtain ⟨d1, Z1, hc1, hd1, h1⟩ := h
  refine r_callS (st := [.int y3]) (As := [.int x2]) g sX11_107 iX6_bytesIn rfl (Nat.le_of_ble_eq_true rfl) dX11_feed_5 hd1 (Nat.le_refl 0) (Nat.le_refl 0) hc1 (fun r4 μ5 hZ1 => ?_)
  replace h := h1 _ _ hZ1
  clear h1 hc1 hd1 hZ1 Z1 d1
  obtain ⟨y6, rfl, h⟩ := h
  refine r_iadd g dX11_feed_8 ?_
  refine r_iload_n g dX11_feed_9 rfl ?_
  obtain ⟨d1, Z1, hc1, hd1, h1⟩ := h
  refine r_callS (st := [.int (y3 + y6)]) (As := [.int x3]) g sX11_107 iX6_bytesIn rfl (Nat.le_of_ble_eq_true rfl) dX11_feed_10 hd1 (Nat.le_refl 0) (Nat.le_refl 0) hc1 (fun r7 μ8 hZ1 => ?_)
  replace h := h1 _ _ hZ1
  clear h1 hc1 hd1 hZ1 Z1 d1
  obtain ⟨y9, rfl, h⟩ := h
  refine r_iadd g dX11_feed_13 ?_
  refine r_iload g dX11_feed_14 rfl ?_
  obtain ⟨d1, Z1, hc1, hd1, h1⟩ := h
  refine r_callS (st := [.int ((y3 + y6) + y9)]) (As := [.int x4]) g sX11_107 iX6_bytesIn rfl (Nat.le_of_ble_eq_true rfl) dX11_feed_16 hd1 (Nat.le_refl 0) (Nat.le_refl 0) hc1 (fun r10 μ11 hZ1 => ?_)
  replace h := h1 _ _ hZ1
  clear h1 hc1 hd1 hZ1 Z1 d1
  obtain ⟨y12, rfl, h⟩ := h
  refine r_iadd g dX11_feed_19 ?_
  refine r_iload g dX11_feed_20 rfl ?_
  obtain ⟨d1, Z1, hc1, hd1, h1⟩ := h
  refine r_callS (st := [.int (((y3 + y6) + y9) + y12)]) (As := [.int x5]) g sX11_107 iX6_bytesIn rfl (Nat.le_of_ble_eq_true rfl) dX11_feed_22 hd1 (Nat.le_refl 0) (Nat.le_refl 0) hc1 (fun r13 μ14 hZ1 => ?_)
  replace h := h1 _ _ hZ1
  clear h1 hc1 hd1 hZ1 Z1 d1
  obtain ⟨y15, rfl, h⟩ := h
  refine r_iadd g dX11_feed_25 ?_
  refine r_istore g [(6, .int ((((y3 + y6) + y9) + y12) + y15)), (0, .ref a0), (1, .int x1), (2, .int x2), (3, .int x3), (4, .int x4), (5, .int x5)] dX11_feed_26 (by decide) rfl ?_
  refine r_aload_n g dX11_feed_28 rfl ?_
  obtain ⟨hs_a0, h⟩ := h
  obtain ⟨reader_16, hr_reader_16, h⟩ := h
  refine r_getR g fX11_10 rfl hs_a0 hr_reader_16 dX11_feed_29 ?_
  obtain ⟨hs_reader_16, h⟩ := h
  refine r_getI g fX11_111 rfl hs_reader_16 dX11_feed_32 ?_
  refine r_iload g dX11_feed_35 rfl ?_
  refine r_iadd g dX11_feed_37 ?_
  refine r_sipush g 400 dX11_feed_38 (by decide) ?_
  refine r_icmp_le g 46 dX11_feed_41 (by decide) (fun c17 => ?_) (fun c17 => ?_)
  · replace h := h.1 c17
    refine r_aload_n g dX11_feed_46 rfl ?_
    refine r_getR g fX11_10 rfl hs_a0 hr_reader_16 dX11_feed_47 ?_
    refine r_iload_n g dX11_feed_50 rfl ?_
    obtain ⟨d1, Z1, hc1, hd1, h1⟩ := h
    refine r_callV (st := []) (As := [.int x1]) g sX11_114 iX6_put eX6_put rfl hs_reader_16 rfl (Nat.le_of_ble_eq_true rfl) dX11_feed_51 hd1 (Nat.le_refl 0) (Nat.le_refl 0) hc1 (fun r18 μ19 hZ1 => ?_)
    replace h := h1 _ _ hZ1
    clear h1 hc1 hd1 hZ1 Z1 d1
    obtain ⟨rfl, h⟩ := h
    refine r_aload_n g dX11_feed_54 rfl ?_
    obtain ⟨hs_a0_, h⟩ := h
    obtain ⟨reader_20, hr_reader_20, h⟩ := h
    refine r_getR g fX11_10 rfl hs_a0_ hr_reader_20 dX11_feed_55 ?_
    refine r_iload_n g dX11_feed_58 rfl ?_
    obtain ⟨hs_reader_20, h⟩ := h
    obtain ⟨d1, Z1, hc1, hd1, h1⟩ := h
    refine r_callV (st := []) (As := [.int x2]) g sX11_114 iX6_put eX6_put rfl hs_reader_20 rfl (Nat.le_of_ble_eq_true rfl) dX11_feed_59 hd1 (Nat.le_refl 0) (Nat.le_refl 0) hc1 (fun r21 μ22 hZ1 => ?_)
    replace h := h1 _ _ hZ1
    clear h1 hc1 hd1 hZ1 Z1 d1
    obtain ⟨rfl, h⟩ := h
    refine r_aload_n g dX11_feed_62 rfl ?_
    obtain ⟨hs_a0__, h⟩ := h
    obtain ⟨reader_23, hr_reader_23, h⟩ := h
    refine r_getR g fX11_10 rfl hs_a0__ hr_reader_23 dX11_feed_63 ?_
    refine r_iload_n g dX11_feed_66 rfl ?_
    obtain ⟨hs_reader_23, h⟩ := h
    obtain ⟨d1, Z1, hc1, hd1, h1⟩ := h
    refine r_callV (st := []) (As := [.int x3]) g sX11_114 iX6_put eX6_put rfl hs_reader_23 rfl (Nat.le_of_ble_eq_true rfl) dX11_feed_67 hd1 (Nat.le_refl 0) (Nat.le_refl 0) hc1 (fun r24 μ25 hZ1 => ?_)
    replace h := h1 _ _ hZ1
    clear h1 hc1 hd1 hZ1 Z1 d1
    obtain ⟨rfl, h⟩ := h
    refine r_aload_n g dX11_feed_70 rfl ?_
    obtain ⟨hs_a0___, h⟩ := h
    obtain ⟨reader_26, hr_reader_26, h⟩ := h
    refine r_getR g fX11_10 rfl hs_a0___ hr_reader_26 dX11_feed_71 ?_
    refine r_iload g dX11_feed_74 rfl ?_
    obtain ⟨hs_reader_26, h⟩ := h
    obtain ⟨d1, Z1, hc1, hd1, h1⟩ := h
    refine r_callV (st := []) (As := [.int x4]) g sX11_114 iX6_put eX6_put rfl hs_reader_26 rfl (Nat.le_of_ble_eq_true rfl) dX11_feed_76 hd1 (Nat.le_refl 0) (Nat.le_refl 0) hc1 (fun r27 μ28 hZ1 => ?_)
    replace h := h1 _ _ hZ1
    clear h1 hc1 hd1 hZ1 Z1 d1
    obtain ⟨rfl, h⟩ := h
    refine r_aload_n g dX11_feed_79 rfl ?_
    obtain ⟨hs_a0____, h⟩ := h
    obtain ⟨reader_29, hr_reader_29, h⟩ := h
    refine r_getR g fX11_10 rfl hs_a0____ hr_reader_29 dX11_feed_80 ?_
    refine r_iload g dX11_feed_83 rfl ?_
    obtain ⟨hs_reader_29, h⟩ := h
    obtain ⟨d1, Z1, hc1, hd1, h1⟩ := h
    refine r_callV (st := []) (As := [.int x5]) g sX11_114 iX6_put eX6_put rfl hs_reader_29 rfl (Nat.le_of_ble_eq_true rfl) dX11_feed_85 hd1 (Nat.le_refl 0) (Nat.le_refl 0) hc1 (fun r30 μ31 hZ1 => ?_)
    replace h := h1 _ _ hZ1
    clear h1 hc1 hd1 hZ1 Z1 d1
    obtain ⟨rfl, h⟩ := h
    refine r_aload_n g dX11_feed_88 rfl ?_
    obtain ⟨hs_a0_____, h⟩ := h
    obtain ⟨reader_32, hr_reader_32, h⟩ := h
    refine r_getR g fX11_10 rfl hs_a0_____ hr_reader_32 dX11_feed_89 ?_
    obtain ⟨hs_reader_32, h⟩ := h
    refine r_getI g fX11_111 rfl hs_reader_32 dX11_feed_92 ?_
    exact hr.2.1 _ rfl _ _ _ _ _ _ dX11_feed_95 rfl (Nat.le_refl 0) (Nat.le_refl 0) h
  · replace h := h.2 c17
    refine r_iconst g (-1) dX11_feed_44 (by decide) ?_
    exact hr.2.1 _ rfl _ _ _ _ _ _ dX11_feed_45 rfl (Nat.le_refl 0) (Nat.le_refl 0) h
theorem I_X11_feed {d : Nat} {ro : Nat → Nat} {Z : Option Value → Hp → Prop} {μ : Hp} {a0 : Nat} {x1 : Int32} {x2 : Int32} {x3 : Int32} {x4 : Int32} {x5 : Int32} (h : ∀ J, xCtx RX11 cX11_feed 7 d 0 0 yX11_feed.name ro J → xRet cX11_feed (some .int) 0 0 Z J → J μ 0 0 0 [(0, .ref a0), (1, .int x1), (2, .int x2), (3, .int x3), (4, .int x4), (5, .int x5)] []) : xC d yX11_feed cX11_feed 7 (some .int) 0 0 [.ref a0, .int x1, .int x2, .int x3, .int x4, .int x5] μ ro Z :=
  xC_intro (own := RX11) (lv := [(0, .ref a0), (1, .int x1), (2, .int x2), (3, .int x3), (4, .int x4), (5, .int x5)]) (by decide) rfl (Nat.le_of_ble_eq_true rfl) rfl (fun J g hr => r_sub g (lv' := [(0, .ref a0), (1, .int x1), (2, .int x2), (3, .int x3), (4, .int x4), (5, .int x5)]) (⟨rfl, rfl, rfl, rfl, rfl, rfl, trivial⟩) (h J g hr))
theorem dX11_end_0 : decode cX11_end 0 = .ok (.iload_n 1, 1) := by decide +kernel
theorem dX11_end_1 : decode cX11_end 1 = .ok (.ifCond .lt 14, 3) := by decide +kernel
theorem dX11_end_4 : decode cX11_end 4 = .ok (.iload_n 1, 1) := by decide +kernel
theorem dX11_end_5 : decode cX11_end 5 = .ok (.aload_n 0, 1) := by decide +kernel
theorem dX11_end_6 : decode cX11_end 6 = .ok (.getfield 10, 3) := by decide +kernel
theorem dX11_end_9 : decode cX11_end 9 = .ok (.getfield 111, 3) := by decide +kernel
theorem dX11_end_12 : decode cX11_end 12 = .ok (.if_icmp .le 5, 3) := by decide +kernel
theorem dX11_end_15 : decode cX11_end 15 = .ok (.iconst 0, 1) := by decide +kernel
theorem dX11_end_16 : decode cX11_end 16 = .ok (.ireturn, 1) := by decide +kernel
theorem dX11_end_17 : decode cX11_end 17 = .ok (.aload_n 0, 1) := by decide +kernel
theorem dX11_end_18 : decode cX11_end 18 = .ok (.getfield 10, 3) := by decide +kernel
theorem dX11_end_21 : decode cX11_end 21 = .ok (.iload_n 1, 1) := by decide +kernel
theorem dX11_end_22 : decode cX11_end 22 = .ok (.putfield 111, 3) := by decide +kernel
theorem dX11_end_25 : decode cX11_end 25 = .ok (.iconst 1, 1) := by decide +kernel
theorem dX11_end_26 : decode cX11_end 26 = .ok (.ireturn, 1) := by decide +kernel
set_option maxHeartbeats 4000000 in
set_option maxRecDepth 100000 in
theorem B_X11_end_0 {d : Nat} {ro : Nat → Nat} {J : JT} {Z : Option Value → Hp → Prop} (g : xCtx RX11 cX11_end 2 d 0 0 yX11_end.name ro J) (hr : xRet cX11_end (some .boolean) 0 0 Z J) {μ : Hp} {a0 : Nat} {x1 : Int32} {a0_reader : Nat} (hs_a0 : hS μ a0 = some (14, 18)) (hr_a0_reader : hR μ a0 0 = some a0_reader) (hs_a0_reader : hS μ a0_reader = some (10, 5))
    (h : ((x1 < 0 → Z (some (.int 0)) μ) ∧ (¬ x1 < 0 → ((x1 ≤ (hI μ a0_reader 0) → Z (some (.int 1)) (wI μ a0_reader 0 x1)) ∧ (¬ x1 ≤ (hI μ a0_reader 0) → Z (some (.int 0)) μ))))) :
    J μ 0 0 0 [(0, .ref a0), (1, .int x1)] [] := by
  refine r_iload_n g dX11_end_0 rfl ?_
  refine r_if_lt g 15 dX11_end_1 (by decide) (fun c1 => ?_) (fun c1 => ?_)
  · replace h := h.1 c1
    refine r_iconst g 0 dX11_end_15 (by decide) ?_
    exact hr.2.1 _ rfl _ _ _ _ _ _ dX11_end_16 (by decide) (Nat.le_refl 0) (Nat.le_refl 0) h
  · replace h := h.2 c1
    refine r_iload_n g dX11_end_4 rfl ?_
    refine r_aload_n g dX11_end_5 rfl ?_
    refine r_getR g fX11_10 rfl hs_a0 hr_a0_reader dX11_end_6 ?_
    refine r_getI g fX11_111 rfl hs_a0_reader dX11_end_9 ?_
    refine r_icmp_le g 17 dX11_end_12 (by decide) (fun c2 => ?_) (fun c2 => ?_)
    · replace h := h.1 c2
      refine r_aload_n g dX11_end_17 rfl ?_
      refine r_getR g fX11_10 rfl hs_a0 hr_a0_reader dX11_end_18 ?_
      refine r_iload_n g dX11_end_21 rfl ?_
      refine r_putI g fX11_111 rfl hs_a0_reader rfl rfl dX11_end_22 ?_
      refine r_iconst g 1 dX11_end_25 (by decide) ?_
      exact hr.2.1 _ rfl _ _ _ _ _ _ dX11_end_26 (by decide) (Nat.le_refl 0) (Nat.le_refl 0) h
    · replace h := h.2 c2
      refine r_iconst g 0 dX11_end_15 (by decide) ?_
      exact hr.2.1 _ rfl _ _ _ _ _ _ dX11_end_16 (by decide) (Nat.le_refl 0) (Nat.le_refl 0) h
theorem I_X11_end {d : Nat} {ro : Nat → Nat} {Z : Option Value → Hp → Prop} {μ : Hp} {a0 : Nat} {x1 : Int32} (h : ∀ J, xCtx RX11 cX11_end 2 d 0 0 yX11_end.name ro J → xRet cX11_end (some .boolean) 0 0 Z J → J μ 0 0 0 [(0, .ref a0), (1, .int x1)] []) : xC d yX11_end cX11_end 2 (some .boolean) 0 0 [.ref a0, .int x1] μ ro Z :=
  xC_intro (own := RX11) (lv := [(0, .ref a0), (1, .int x1)]) (by decide) rfl (Nat.le_of_ble_eq_true rfl) rfl (fun J g hr => r_sub g (lv' := [(0, .ref a0), (1, .int x1)]) (⟨rfl, rfl, trivial⟩) (h J g hr))
theorem dX11_fault_0 : decode cX11_fault 0 = .ok (.iload_n 1, 1) := by decide +kernel
theorem dX11_fault_1 : decode cX11_fault 1 = .ok (.ifCond .ne 26, 3) := by decide +kernel
theorem dX11_fault_4 : decode cX11_fault 4 = .ok (.aload_n 0, 1) := by decide +kernel
theorem dX11_fault_5 : decode cX11_fault 5 = .ok (.getfield 76, 3) := by decide +kernel
theorem dX11_fault_8 : decode cX11_fault 8 = .ok (.aload_n 0, 1) := by decide +kernel
theorem dX11_fault_9 : decode cX11_fault 9 = .ok (.getfield 10, 3) := by decide +kernel
theorem dX11_fault_12 : decode cX11_fault 12 = .ok (.aload_n 0, 1) := by decide +kernel
theorem dX11_fault_13 : decode cX11_fault 13 = .ok (.getfield 100, 3) := by decide +kernel
theorem dX11_fault_16 : decode cX11_fault 16 = .ok (.invokevirtual 118, 3) := by decide +kernel
theorem dX11_fault_19 : decode cX11_fault 19 = .ok (.aload_n 0, 1) := by decide +kernel
theorem dX11_fault_20 : decode cX11_fault 20 = .ok (.getfield 10, 3) := by decide +kernel
theorem dX11_fault_23 : decode cX11_fault 23 = .ok (.getfield 122, 3) := by decide +kernel
theorem dX11_fault_26 : decode cX11_fault 26 = .ok (.ireturn, 1) := by decide +kernel
theorem dX11_fault_27 : decode cX11_fault 27 = .ok (.iload_n 1, 1) := by decide +kernel
theorem dX11_fault_28 : decode cX11_fault 28 = .ok (.iconst 1, 1) := by decide +kernel
theorem dX11_fault_29 : decode cX11_fault 29 = .ok (.if_icmp .ne 27, 3) := by decide +kernel
theorem dX11_fault_32 : decode cX11_fault 32 = .ok (.aload_n 0, 1) := by decide +kernel
theorem dX11_fault_33 : decode cX11_fault 33 = .ok (.getfield 18, 3) := by decide +kernel
theorem dX11_fault_36 : decode cX11_fault 36 = .ok (.aload_n 0, 1) := by decide +kernel
theorem dX11_fault_37 : decode cX11_fault 37 = .ok (.getfield 79, 3) := by decide +kernel
theorem dX11_fault_40 : decode cX11_fault 40 = .ok (.aaload, 1) := by decide +kernel
theorem dX11_fault_41 : decode cX11_fault 41 = .ok (.aload_n 0, 1) := by decide +kernel
theorem dX11_fault_42 : decode cX11_fault 42 = .ok (.getfield 10, 3) := by decide +kernel
theorem dX11_fault_45 : decode cX11_fault 45 = .ok (.invokevirtual 125, 3) := by decide +kernel
theorem dX11_fault_48 : decode cX11_fault 48 = .ok (.aload_n 0, 1) := by decide +kernel
theorem dX11_fault_49 : decode cX11_fault 49 = .ok (.getfield 10, 3) := by decide +kernel
theorem dX11_fault_52 : decode cX11_fault 52 = .ok (.getfield 122, 3) := by decide +kernel
theorem dX11_fault_55 : decode cX11_fault 55 = .ok (.ireturn, 1) := by decide +kernel
theorem dX11_fault_56 : decode cX11_fault 56 = .ok (.bipush (-2), 2) := by decide +kernel
theorem dX11_fault_58 : decode cX11_fault 58 = .ok (.ireturn, 1) := by decide +kernel
set_option maxHeartbeats 4000000 in
set_option maxRecDepth 100000 in
theorem B_X11_fault_0 {d : Nat} {ro : Nat → Nat} {J : JT} {Z : Option Value → Hp → Prop} (g : xCtx RX11 cX11_fault 2 d 0 0 yX11_fault.name ro J) (hr : xRet cX11_fault (some .int) 0 0 Z J) {μ : Hp} {a0 : Nat} {x1 : Int32} {a0_scripts : Nat} {N_a0_scripts : Nat} {a0_reader : Nat} {a0_draft : Nat} {a0_scratch : Nat} (hs_a0 : hS μ a0 = some (14, 18)) (hr_a0_scripts : hR μ a0 1 = some a0_scripts) (hs_a0_scripts : hS μ a0_scripts = some (3, N_a0_scripts)) (hr_a0_reader : hR μ a0 0 = some a0_reader) (hr_a0_draft : hR μ a0 14 = some a0_draft) (hr_a0_scratch : hR μ a0 11 = some a0_scratch) (hs_a0_draft : hS μ a0_draft = some (6, 9))
    (h : ((¬ x1 = 0 → ((¬ x1 = 1 → Z (some (.int (-2))) μ) ∧ (x1 = 1 → vp_in (hI μ a0 15) N_a0_scripts ∧ ∃ b4 : Nat, hR μ a0_scripts ((hI μ a0 15).toNatClampNeg) = some b4 ∧ hS μ b4 = some (11, 2) ∧ xCall d yX7_readFrom cX7_readFrom 4 none [.ref b4, .ref a0_reader] μ ro (fun r5 μ6 => r5 = none ∧ hS μ6 a0 = some (14, 18) ∧ ∃ reader_7 : Nat, hR μ6 a0 0 = some reader_7 ∧ hS μ6 reader_7 = some (10, 5) ∧ Z (some (.int (hI μ6 reader_7 1))) μ6)))) ∧ (x1 = 0 → xCall d yX2_readFrom cX2_readFrom 5 none [.ref a0_draft, .ref a0_reader, .ref a0_scratch] μ ro (fun r8 μ9 => r8 = none ∧ hS μ9 a0 = some (14, 18) ∧ ∃ reader_10 : Nat, hR μ9 a0 0 = some reader_10 ∧ hS μ9 reader_10 = some (10, 5) ∧ Z (some (.int (hI μ9 reader_10 1))) μ9)))) :
    J μ 0 0 0 [(0, .ref a0), (1, .int x1)] [] := by
  refine r_iload_n g dX11_fault_0 rfl ?_
  refine r_if_ne g 27 dX11_fault_1 (by decide) (fun c1 => ?_) (fun c1 => ?_)
  · replace h := h.1 c1
    refine r_iload_n g dX11_fault_27 rfl ?_
    refine r_iconst g 1 dX11_fault_28 (by decide) ?_
    refine r_icmp_ne g 56 dX11_fault_29 (by decide) (fun c2 => ?_) (fun c2 => ?_)
    · replace h := h.1 c2
      refine r_bipush g (-2) dX11_fault_56 (by decide) ?_
      exact hr.2.1 _ rfl _ _ _ _ _ _ dX11_fault_58 rfl (Nat.le_refl 0) (Nat.le_refl 0) h
    · replace h := h.2 c2
      refine r_aload_n g dX11_fault_32 rfl ?_
      refine r_getR g fX11_18 rfl hs_a0 hr_a0_scripts dX11_fault_33 ?_
      refine r_aload_n g dX11_fault_36 rfl ?_
      refine r_getI g fX11_79 rfl hs_a0 dX11_fault_37 ?_
      obtain ⟨hi3, h⟩ := h
      obtain ⟨b4, hr_b4, h⟩ := h
      refine r_aaload g hs_a0_scripts hi3 hr_b4 dX11_fault_40 ?_
      refine r_aload_n g dX11_fault_41 rfl ?_
      refine r_getR g fX11_10 rfl hs_a0 hr_a0_reader dX11_fault_42 ?_
      obtain ⟨hs_b4, h⟩ := h
      obtain ⟨d1, Z1, hc1, hd1, h1⟩ := h
      refine r_callV (st := []) (As := [.ref a0_reader]) g sX11_125 iX7_readFrom eX7_readFrom rfl hs_b4 rfl (Nat.le_of_ble_eq_true rfl) dX11_fault_45 hd1 (Nat.le_refl 0) (Nat.le_refl 0) hc1 (fun r5 μ6 hZ1 => ?_)
      replace h := h1 _ _ hZ1
      clear h1 hc1 hd1 hZ1 Z1 d1
      obtain ⟨rfl, h⟩ := h
      refine r_aload_n g dX11_fault_48 rfl ?_
      obtain ⟨hs_a0_, h⟩ := h
      obtain ⟨reader_7, hr_reader_7, h⟩ := h
      refine r_getR g fX11_10 rfl hs_a0_ hr_reader_7 dX11_fault_49 ?_
      obtain ⟨hs_reader_7, h⟩ := h
      refine r_getI g fX11_122 rfl hs_reader_7 dX11_fault_52 ?_
      exact hr.2.1 _ rfl _ _ _ _ _ _ dX11_fault_55 rfl (Nat.le_refl 0) (Nat.le_refl 0) h
  · replace h := h.2 c1
    refine r_aload_n g dX11_fault_4 rfl ?_
    refine r_getR g fX11_76 rfl hs_a0 hr_a0_draft dX11_fault_5 ?_
    refine r_aload_n g dX11_fault_8 rfl ?_
    refine r_getR g fX11_10 rfl hs_a0 hr_a0_reader dX11_fault_9 ?_
    refine r_aload_n g dX11_fault_12 rfl ?_
    refine r_getR g fX11_100 rfl hs_a0 hr_a0_scratch dX11_fault_13 ?_
    obtain ⟨d1, Z1, hc1, hd1, h1⟩ := h
    refine r_callV (st := []) (As := [.ref a0_reader, .ref a0_scratch]) g sX11_118 iX2_readFrom eX2_readFrom rfl hs_a0_draft rfl (Nat.le_of_ble_eq_true rfl) dX11_fault_16 hd1 (Nat.le_refl 0) (Nat.le_refl 0) hc1 (fun r8 μ9 hZ1 => ?_)
    replace h := h1 _ _ hZ1
    clear h1 hc1 hd1 hZ1 Z1 d1
    obtain ⟨rfl, h⟩ := h
    refine r_aload_n g dX11_fault_19 rfl ?_
    obtain ⟨hs_a0___, h⟩ := h
    obtain ⟨reader_10, hr_reader_10, h⟩ := h
    refine r_getR g fX11_10 rfl hs_a0___ hr_reader_10 dX11_fault_20 ?_
    obtain ⟨hs_reader_10, h⟩ := h
    refine r_getI g fX11_122 rfl hs_reader_10 dX11_fault_23 ?_
    exact hr.2.1 _ rfl _ _ _ _ _ _ dX11_fault_26 rfl (Nat.le_refl 0) (Nat.le_refl 0) h
theorem I_X11_fault {d : Nat} {ro : Nat → Nat} {Z : Option Value → Hp → Prop} {μ : Hp} {a0 : Nat} {x1 : Int32} (h : ∀ J, xCtx RX11 cX11_fault 2 d 0 0 yX11_fault.name ro J → xRet cX11_fault (some .int) 0 0 Z J → J μ 0 0 0 [(0, .ref a0), (1, .int x1)] []) : xC d yX11_fault cX11_fault 2 (some .int) 0 0 [.ref a0, .int x1] μ ro Z :=
  xC_intro (own := RX11) (lv := [(0, .ref a0), (1, .int x1)]) (by decide) rfl (Nat.le_of_ble_eq_true rfl) rfl (fun J g hr => r_sub g (lv' := [(0, .ref a0), (1, .int x1)]) (⟨rfl, rfl, trivial⟩) (h J g hr))
theorem dX11_text_0 : decode cX11_text 0 = .ok (.iload_n 1, 1) := by decide +kernel
theorem dX11_text_1 : decode cX11_text 1 = .ok (.ifCond .ne 38, 3) := by decide +kernel
theorem dX11_text_4 : decode cX11_text 4 = .ok (.aload_n 0, 1) := by decide +kernel
theorem dX11_text_5 : decode cX11_text 5 = .ok (.getfield 76, 3) := by decide +kernel
theorem dX11_text_8 : decode cX11_text 8 = .ok (.aload_n 0, 1) := by decide +kernel
theorem dX11_text_9 : decode cX11_text 9 = .ok (.getfield 10, 3) := by decide +kernel
theorem dX11_text_12 : decode cX11_text 12 = .ok (.aload_n 0, 1) := by decide +kernel
theorem dX11_text_13 : decode cX11_text 13 = .ok (.getfield 100, 3) := by decide +kernel
theorem dX11_text_16 : decode cX11_text 16 = .ok (.invokevirtual 118, 3) := by decide +kernel
theorem dX11_text_19 : decode cX11_text 19 = .ok (.aload_n 0, 1) := by decide +kernel
theorem dX11_text_20 : decode cX11_text 20 = .ok (.getfield 10, 3) := by decide +kernel
theorem dX11_text_23 : decode cX11_text 23 = .ok (.getfield 122, 3) := by decide +kernel
theorem dX11_text_26 : decode cX11_text 26 = .ok (.iconst (-1), 1) := by decide +kernel
theorem dX11_text_27 : decode cX11_text 27 = .ok (.if_icmp .ne 10, 3) := by decide +kernel
theorem dX11_text_30 : decode cX11_text 30 = .ok (.aload_n 0, 1) := by decide +kernel
theorem dX11_text_31 : decode cX11_text 31 = .ok (.invokevirtual 128, 3) := by decide +kernel
theorem dX11_text_34 : decode cX11_text 34 = .ok (.goto 4, 3) := by decide +kernel
theorem dX11_text_37 : decode cX11_text 37 = .ok (.iconst (-1), 1) := by decide +kernel
theorem dX11_text_38 : decode cX11_text 38 = .ok (.ireturn, 1) := by decide +kernel
theorem dX11_text_39 : decode cX11_text 39 = .ok (.iload_n 1, 1) := by decide +kernel
theorem dX11_text_40 : decode cX11_text 40 = .ok (.iconst 1, 1) := by decide +kernel
theorem dX11_text_41 : decode cX11_text 41 = .ok (.if_icmp .ne 47, 3) := by decide +kernel
theorem dX11_text_44 : decode cX11_text 44 = .ok (.aload_n 0, 1) := by decide +kernel
theorem dX11_text_45 : decode cX11_text 45 = .ok (.getfield 79, 3) := by decide +kernel
theorem dX11_text_48 : decode cX11_text 48 = .ok (.iconst 4, 1) := by decide +kernel
theorem dX11_text_49 : decode cX11_text 49 = .ok (.if_icmp .ge 39, 3) := by decide +kernel
theorem dX11_text_52 : decode cX11_text 52 = .ok (.aload_n 0, 1) := by decide +kernel
theorem dX11_text_53 : decode cX11_text 53 = .ok (.getfield 18, 3) := by decide +kernel
theorem dX11_text_56 : decode cX11_text 56 = .ok (.aload_n 0, 1) := by decide +kernel
theorem dX11_text_57 : decode cX11_text 57 = .ok (.getfield 79, 3) := by decide +kernel
theorem dX11_text_60 : decode cX11_text 60 = .ok (.aaload, 1) := by decide +kernel
theorem dX11_text_61 : decode cX11_text 61 = .ok (.aload_n 0, 1) := by decide +kernel
theorem dX11_text_62 : decode cX11_text 62 = .ok (.getfield 10, 3) := by decide +kernel
theorem dX11_text_65 : decode cX11_text 65 = .ok (.invokevirtual 125, 3) := by decide +kernel
theorem dX11_text_68 : decode cX11_text 68 = .ok (.aload_n 0, 1) := by decide +kernel
theorem dX11_text_69 : decode cX11_text 69 = .ok (.getfield 10, 3) := by decide +kernel
theorem dX11_text_72 : decode cX11_text 72 = .ok (.getfield 122, 3) := by decide +kernel
theorem dX11_text_75 : decode cX11_text 75 = .ok (.iconst (-1), 1) := by decide +kernel
theorem dX11_text_76 : decode cX11_text 76 = .ok (.if_icmp .ne 10, 3) := by decide +kernel
theorem dX11_text_79 : decode cX11_text 79 = .ok (.aload_n 0, 1) := by decide +kernel
theorem dX11_text_80 : decode cX11_text 80 = .ok (.invokevirtual 132, 3) := by decide +kernel
theorem dX11_text_83 : decode cX11_text 83 = .ok (.goto 4, 3) := by decide +kernel
theorem dX11_text_86 : decode cX11_text 86 = .ok (.iconst (-1), 1) := by decide +kernel
theorem dX11_text_87 : decode cX11_text 87 = .ok (.ireturn, 1) := by decide +kernel
theorem dX11_text_88 : decode cX11_text 88 = .ok (.iconst (-1), 1) := by decide +kernel
theorem dX11_text_89 : decode cX11_text 89 = .ok (.ireturn, 1) := by decide +kernel
set_option maxHeartbeats 4000000 in
set_option maxRecDepth 100000 in
theorem B_X11_text_0 {d : Nat} {ro : Nat → Nat} {J : JT} {Z : Option Value → Hp → Prop} (g : xCtx RX11 cX11_text 2 d 0 0 yX11_text.name ro J) (hr : xRet cX11_text (some .int) 0 0 Z J) {μ : Hp} {a0 : Nat} {x1 : Int32} {a0_scripts : Nat} {N_a0_scripts : Nat} {a0_reader : Nat} {a0_draft : Nat} {a0_scratch : Nat} (hs_a0 : hS μ a0 = some (14, 18)) (hr_a0_scripts : hR μ a0 1 = some a0_scripts) (hs_a0_scripts : hS μ a0_scripts = some (3, N_a0_scripts)) (hr_a0_reader : hR μ a0 0 = some a0_reader) (hr_a0_draft : hR μ a0 14 = some a0_draft) (hr_a0_scratch : hR μ a0 11 = some a0_scratch) (hs_a0_draft : hS μ a0_draft = some (6, 9))
    (h : ((¬ x1 = 0 → ((¬ x1 = 1 → Z (some (.int (-1))) μ) ∧ (x1 = 1 → ((4 ≤ (hI μ a0 15) → Z (some (.int (-1))) μ) ∧ (¬ 4 ≤ (hI μ a0 15) → vp_in (hI μ a0 15) N_a0_scripts ∧ ∃ b5 : Nat, hR μ a0_scripts ((hI μ a0 15).toNatClampNeg) = some b5 ∧ hS μ b5 = some (11, 2) ∧ xCall d yX7_readFrom cX7_readFrom 4 none [.ref b5, .ref a0_reader] μ ro (fun r6 μ7 => r6 = none ∧ hS μ7 a0 = some (14, 18) ∧ ∃ reader_8 : Nat, hR μ7 a0 0 = some reader_8 ∧ hS μ7 reader_8 = some (10, 5) ∧ ((¬ (hI μ7 reader_8 1) = (-1) → Z (some (.int (-1))) μ7) ∧ ((hI μ7 reader_8 1) = (-1) → xCall d yX11_keepScript cX11_keepScript 1 (some .int) [.ref a0] μ7 ro (fun r10 μ11 => ∃ y12 : Int32, r10 = some (.int y12) ∧ Z (some (.int y12)) μ11))))))))) ∧ (x1 = 0 → xCall d yX2_readFrom cX2_readFrom 5 none [.ref a0_draft, .ref a0_reader, .ref a0_scratch] μ ro (fun r13 μ14 => r13 = none ∧ hS μ14 a0 = some (14, 18) ∧ ∃ reader_15 : Nat, hR μ14 a0 0 = some reader_15 ∧ hS μ14 reader_15 = some (10, 5) ∧ ((¬ (hI μ14 reader_15 1) = (-1) → Z (some (.int (-1))) μ14) ∧ ((hI μ14 reader_15 1) = (-1) → xCall d yX11_openDraft cX11_openDraft 2 (some .int) [.ref a0] μ14 ro (fun r17 μ18 => ∃ y19 : Int32, r17 = some (.int y19) ∧ Z (some (.int y19)) μ18))))))) :
    J μ 0 0 0 [(0, .ref a0), (1, .int x1)] [] := by
  refine r_iload_n g dX11_text_0 rfl ?_
  refine r_if_ne g 39 dX11_text_1 (by decide) (fun c1 => ?_) (fun c1 => ?_)
  · replace h := h.1 c1
    refine r_iload_n g dX11_text_39 rfl ?_
    refine r_iconst g 1 dX11_text_40 (by decide) ?_
    refine r_icmp_ne g 88 dX11_text_41 (by decide) (fun c2 => ?_) (fun c2 => ?_)
    · replace h := h.1 c2
      refine r_iconst g (-1) dX11_text_88 (by decide) ?_
      exact hr.2.1 _ rfl _ _ _ _ _ _ dX11_text_89 rfl (Nat.le_refl 0) (Nat.le_refl 0) h
    · replace h := h.2 c2
      refine r_aload_n g dX11_text_44 rfl ?_
      refine r_getI g fX11_79 rfl hs_a0 dX11_text_45 ?_
      refine r_iconst g 4 dX11_text_48 (by decide) ?_
      refine r_icmp_ge g 88 dX11_text_49 (by decide) (fun c3 => ?_) (fun c3 => ?_)
      · replace h := h.1 c3
        refine r_iconst g (-1) dX11_text_88 (by decide) ?_
        exact hr.2.1 _ rfl _ _ _ _ _ _ dX11_text_89 rfl (Nat.le_refl 0) (Nat.le_refl 0) h
      · replace h := h.2 c3
        refine r_aload_n g dX11_text_52 rfl ?_
        refine r_getR g fX11_18 rfl hs_a0 hr_a0_scripts dX11_text_53 ?_
        refine r_aload_n g dX11_text_56 rfl ?_
        refine r_getI g fX11_79 rfl hs_a0 dX11_text_57 ?_
        obtain ⟨hi4, h⟩ := h
        obtain ⟨b5, hr_b5, h⟩ := h
        refine r_aaload g hs_a0_scripts hi4 hr_b5 dX11_text_60 ?_
        refine r_aload_n g dX11_text_61 rfl ?_
        refine r_getR g fX11_10 rfl hs_a0 hr_a0_reader dX11_text_62 ?_
        obtain ⟨hs_b5, h⟩ := h
        obtain ⟨d1, Z1, hc1, hd1, h1⟩ := h
        refine r_callV (st := []) (As := [.ref a0_reader]) g sX11_125 iX7_readFrom eX7_readFrom rfl hs_b5 rfl (Nat.le_of_ble_eq_true rfl) dX11_text_65 hd1 (Nat.le_refl 0) (Nat.le_refl 0) hc1 (fun r6 μ7 hZ1 => ?_)
        replace h := h1 _ _ hZ1
        clear h1 hc1 hd1 hZ1 Z1 d1
        obtain ⟨rfl, h⟩ := h
        refine r_aload_n g dX11_text_68 rfl ?_
        obtain ⟨hs_a0_, h⟩ := h
        obtain ⟨reader_8, hr_reader_8, h⟩ := h
        refine r_getR g fX11_10 rfl hs_a0_ hr_reader_8 dX11_text_69 ?_
        obtain ⟨hs_reader_8, h⟩ := h
        refine r_getI g fX11_122 rfl hs_reader_8 dX11_text_72 ?_
        refine r_iconst g (-1) dX11_text_75 (by decide) ?_
        refine r_icmp_ne g 86 dX11_text_76 (by decide) (fun c9 => ?_) (fun c9 => ?_)
        · replace h := h.1 c9
          refine r_iconst g (-1) dX11_text_86 (by decide) ?_
          exact hr.2.1 _ rfl _ _ _ _ _ _ dX11_text_87 rfl (Nat.le_refl 0) (Nat.le_refl 0) h
        · replace h := h.2 c9
          refine r_aload_n g dX11_text_79 rfl ?_
          obtain ⟨d1, Z1, hc1, hd1, h1⟩ := h
          refine r_callV (st := []) (As := []) g sX11_132 iX11_keepScript eX11_keepScript rfl hs_a0_ rfl (Nat.le_of_ble_eq_true rfl) dX11_text_80 hd1 (Nat.le_refl 0) (Nat.le_refl 0) hc1 (fun r10 μ11 hZ1 => ?_)
          replace h := h1 _ _ hZ1
          clear h1 hc1 hd1 hZ1 Z1 d1
          obtain ⟨y12, rfl, h⟩ := h
          refine r_goto g 87 dX11_text_83 (by decide) ?_
          exact hr.2.1 _ rfl _ _ _ _ _ _ dX11_text_87 rfl (Nat.le_refl 0) (Nat.le_refl 0) h
  · replace h := h.2 c1
    refine r_aload_n g dX11_text_4 rfl ?_
    refine r_getR g fX11_76 rfl hs_a0 hr_a0_draft dX11_text_5 ?_
    refine r_aload_n g dX11_text_8 rfl ?_
    refine r_getR g fX11_10 rfl hs_a0 hr_a0_reader dX11_text_9 ?_
    refine r_aload_n g dX11_text_12 rfl ?_
    refine r_getR g fX11_100 rfl hs_a0 hr_a0_scratch dX11_text_13 ?_
    obtain ⟨d1, Z1, hc1, hd1, h1⟩ := h
    refine r_callV (st := []) (As := [.ref a0_reader, .ref a0_scratch]) g sX11_118 iX2_readFrom eX2_readFrom rfl hs_a0_draft rfl (Nat.le_of_ble_eq_true rfl) dX11_text_16 hd1 (Nat.le_refl 0) (Nat.le_refl 0) hc1 (fun r13 μ14 hZ1 => ?_)
    replace h := h1 _ _ hZ1
    clear h1 hc1 hd1 hZ1 Z1 d1
    obtain ⟨rfl, h⟩ := h
    refine r_aload_n g dX11_text_19 rfl ?_
    obtain ⟨hs_a0___, h⟩ := h
    obtain ⟨reader_15, hr_reader_15, h⟩ := h
    refine r_getR g fX11_10 rfl hs_a0___ hr_reader_15 dX11_text_20 ?_
    obtain ⟨hs_reader_15, h⟩ := h
    refine r_getI g fX11_122 rfl hs_reader_15 dX11_text_23 ?_
    refine r_iconst g (-1) dX11_text_26 (by decide) ?_
    refine r_icmp_ne g 37 dX11_text_27 (by decide) (fun c16 => ?_) (fun c16 => ?_)
    · replace h := h.1 c16
      refine r_iconst g (-1) dX11_text_37 (by decide) ?_
      exact hr.2.1 _ rfl _ _ _ _ _ _ dX11_text_38 rfl (Nat.le_refl 0) (Nat.le_refl 0) h
    · replace h := h.2 c16
      refine r_aload_n g dX11_text_30 rfl ?_
      obtain ⟨d1, Z1, hc1, hd1, h1⟩ := h
      refine r_callV (st := []) (As := []) g sX11_128 iX11_openDraft eX11_openDraft rfl hs_a0___ rfl (Nat.le_of_ble_eq_true rfl) dX11_text_31 hd1 (Nat.le_refl 0) (Nat.le_refl 0) hc1 (fun r17 μ18 hZ1 => ?_)
      replace h := h1 _ _ hZ1
      clear h1 hc1 hd1 hZ1 Z1 d1
      obtain ⟨y19, rfl, h⟩ := h
      refine r_goto g 38 dX11_text_34 (by decide) ?_
      exact hr.2.1 _ rfl _ _ _ _ _ _ dX11_text_38 rfl (Nat.le_refl 0) (Nat.le_refl 0) h
theorem I_X11_text {d : Nat} {ro : Nat → Nat} {Z : Option Value → Hp → Prop} {μ : Hp} {a0 : Nat} {x1 : Int32} (h : ∀ J, xCtx RX11 cX11_text 2 d 0 0 yX11_text.name ro J → xRet cX11_text (some .int) 0 0 Z J → J μ 0 0 0 [(0, .ref a0), (1, .int x1)] []) : xC d yX11_text cX11_text 2 (some .int) 0 0 [.ref a0, .int x1] μ ro Z :=
  xC_intro (own := RX11) (lv := [(0, .ref a0), (1, .int x1)]) (by decide) rfl (Nat.le_of_ble_eq_true rfl) rfl (fun J g hr => r_sub g (lv' := [(0, .ref a0), (1, .int x1)]) (⟨rfl, rfl, trivial⟩) (h J g hr))
theorem dX11_openDraft_0 : decode cX11_openDraft 0 = .ok (.aload_n 0, 1) := by decide +kernel
theorem dX11_openDraft_1 : decode cX11_openDraft 1 = .ok (.getfield 72, 3) := by decide +kernel
theorem dX11_openDraft_4 : decode cX11_openDraft 4 = .ok (.astore_n 1, 1) := by decide +kernel
theorem dX11_openDraft_5 : decode cX11_openDraft 5 = .ok (.aload_n 0, 1) := by decide +kernel
theorem dX11_openDraft_6 : decode cX11_openDraft 6 = .ok (.aload_n 0, 1) := by decide +kernel
theorem dX11_openDraft_7 : decode cX11_openDraft 7 = .ok (.getfield 76, 3) := by decide +kernel
theorem dX11_openDraft_10 : decode cX11_openDraft 10 = .ok (.putfield 72, 3) := by decide +kernel
theorem dX11_openDraft_13 : decode cX11_openDraft 13 = .ok (.aload_n 0, 1) := by decide +kernel
theorem dX11_openDraft_14 : decode cX11_openDraft 14 = .ok (.aload_n 1, 1) := by decide +kernel
theorem dX11_openDraft_15 : decode cX11_openDraft 15 = .ok (.putfield 76, 3) := by decide +kernel
theorem dX11_openDraft_18 : decode cX11_openDraft 18 = .ok (.aload_n 0, 1) := by decide +kernel
theorem dX11_openDraft_19 : decode cX11_openDraft 19 = .ok (.getfield 100, 3) := by decide +kernel
theorem dX11_openDraft_22 : decode cX11_openDraft 22 = .ok (.aload_n 0, 1) := by decide +kernel
theorem dX11_openDraft_23 : decode cX11_openDraft 23 = .ok (.getfield 72, 3) := by decide +kernel
theorem dX11_openDraft_26 : decode cX11_openDraft 26 = .ok (.putfield 135, 3) := by decide +kernel
theorem dX11_openDraft_29 : decode cX11_openDraft 29 = .ok (.aload_n 0, 1) := by decide +kernel
theorem dX11_openDraft_30 : decode cX11_openDraft 30 = .ok (.getfield 96, 3) := by decide +kernel
theorem dX11_openDraft_33 : decode cX11_openDraft 33 = .ok (.aload_n 0, 1) := by decide +kernel
theorem dX11_openDraft_34 : decode cX11_openDraft 34 = .ok (.getfield 100, 3) := by decide +kernel
theorem dX11_openDraft_37 : decode cX11_openDraft 37 = .ok (.invokevirtual 136, 3) := by decide +kernel
theorem dX11_openDraft_40 : decode cX11_openDraft 40 = .ok (.aload_n 0, 1) := by decide +kernel
theorem dX11_openDraft_41 : decode cX11_openDraft 41 = .ok (.getfield 41, 3) := by decide +kernel
theorem dX11_openDraft_44 : decode cX11_openDraft 44 = .ok (.invokevirtual 140, 3) := by decide +kernel
theorem dX11_openDraft_47 : decode cX11_openDraft 47 = .ok (.aload_n 0, 1) := by decide +kernel
theorem dX11_openDraft_48 : decode cX11_openDraft 48 = .ok (.getfield 48, 3) := by decide +kernel
theorem dX11_openDraft_51 : decode cX11_openDraft 51 = .ok (.invokevirtual 143, 3) := by decide +kernel
theorem dX11_openDraft_54 : decode cX11_openDraft 54 = .ok (.aload_n 0, 1) := by decide +kernel
theorem dX11_openDraft_55 : decode cX11_openDraft 55 = .ok (.iconst 0, 1) := by decide +kernel
theorem dX11_openDraft_56 : decode cX11_openDraft 56 = .ok (.putfield 83, 3) := by decide +kernel
theorem dX11_openDraft_59 : decode cX11_openDraft 59 = .ok (.aload_n 0, 1) := by decide +kernel
theorem dX11_openDraft_60 : decode cX11_openDraft 60 = .ok (.getfield 10, 3) := by decide +kernel
theorem dX11_openDraft_63 : decode cX11_openDraft 63 = .ok (.iconst 0, 1) := by decide +kernel
theorem dX11_openDraft_64 : decode cX11_openDraft 64 = .ok (.putfield 111, 3) := by decide +kernel
theorem dX11_openDraft_67 : decode cX11_openDraft 67 = .ok (.aload_n 0, 1) := by decide +kernel
theorem dX11_openDraft_68 : decode cX11_openDraft 68 = .ok (.getfield 72, 3) := by decide +kernel
theorem dX11_openDraft_71 : decode cX11_openDraft 71 = .ok (.getfield 144, 3) := by decide +kernel
theorem dX11_openDraft_74 : decode cX11_openDraft 74 = .ok (.ireturn, 1) := by decide +kernel
set_option maxHeartbeats 4000000 in
set_option maxRecDepth 100000 in
theorem B_X11_openDraft_0 {d : Nat} {ro : Nat → Nat} {J : JT} {Z : Option Value → Hp → Prop} (g : xCtx RX11 cX11_openDraft 2 d 0 0 yX11_openDraft.name ro J) (hr : xRet cX11_openDraft (some .int) 0 0 Z J) {μ : Hp} {a0 : Nat} {a0_book : Nat} {a0_draft : Nat} (hs_a0 : hS μ a0 = some (14, 18)) (hr_a0_book : hR μ a0 13 = some a0_book) (hr_a0_draft : hR μ a0 14 = some a0_draft)
    (h : ∃ scratch_1 : Nat, hR (wR (wR μ a0 13 (some a0_draft)) a0 14 (some a0_book)) a0 11 = some scratch_1 ∧ ∃ book_2 : Nat, hR (wR (wR μ a0 13 (some a0_draft)) a0 14 (some a0_book)) a0 13 = some book_2 ∧ hS μ scratch_1 = some (12, 4) ∧ ∃ now_3 : Nat, hR (wR (wR (wR μ a0 13 (some a0_draft)) a0 14 (some a0_book)) scratch_1 1 (some book_2)) a0 10 = some now_3 ∧ ∃ scratch_4 : Nat, hR (wR (wR (wR μ a0 13 (some a0_draft)) a0 14 (some a0_book)) scratch_1 1 (some book_2)) a0 11 = some scratch_4 ∧ hS μ now_3 = some (12, 4) ∧ xCall d yX8_copyFrom cX8_copyFrom 2 none [.ref now_3, .ref scratch_4] (wR (wR (wR μ a0 13 (some a0_draft)) a0 14 (some a0_book)) scratch_1 1 (some book_2)) ro (fun r5 μ6 => r5 = none ∧ hS μ6 a0 = some (14, 18) ∧ ∃ history_7 : Nat, hR μ6 a0 4 = some history_7 ∧ hS μ6 history_7 = some (8, 3) ∧ xCall d yX4_forget cX4_forget 1 none [.ref history_7] μ6 ro (fun r8 μ9 => r8 = none ∧ hS μ9 a0 = some (14, 18) ∧ ∃ acted_10 : Nat, hR μ9 a0 5 = some acted_10 ∧ hS μ9 acted_10 = some (9, 3) ∧ xCall d yX5_forget cX5_forget 1 none [.ref acted_10] μ9 ro (fun r11 μ12 => r11 = none ∧ hS μ12 a0 = some (14, 18) ∧ ∃ reader_13 : Nat, hR μ12 a0 0 = some reader_13 ∧ hS μ12 reader_13 = some (10, 5) ∧ ∃ book_14 : Nat, hR μ12 a0 13 = some book_14 ∧ hS μ12 book_14 = some (6, 9) ∧ Z (some (.int (hI (wI (wI μ12 a0 16 0) reader_13 0 0) book_14 6))) (wI (wI μ12 a0 16 0) reader_13 0 0))))) :
    J μ 0 0 0 [(0, .ref a0)] [] := by
  refine r_aload_n g dX11_openDraft_0 rfl ?_
  refine r_getR g fX11_72 rfl hs_a0 hr_a0_book dX11_openDraft_1 ?_
  refine r_astore_n g [(1, .ref a0_book), (0, .ref a0)] dX11_openDraft_4 (by decide) rfl ?_
  refine r_aload_n g dX11_openDraft_5 rfl ?_
  refine r_aload_n g dX11_openDraft_6 rfl ?_
  refine r_getR g fX11_76 rfl hs_a0 hr_a0_draft dX11_openDraft_7 ?_
  refine r_putR g fX11_72 rfl hs_a0 rfl rfl dX11_openDraft_10 ?_
  refine r_aload_n g dX11_openDraft_13 rfl ?_
  refine r_aload_n g dX11_openDraft_14 rfl ?_
  refine r_putR g fX11_76 rfl hs_a0 rfl rfl dX11_openDraft_15 ?_
  refine r_aload_n g dX11_openDraft_18 rfl ?_
  obtain ⟨scratch_1, hr_scratch_1, h⟩ := h
  refine r_getR g fX11_100 rfl hs_a0 hr_scratch_1 dX11_openDraft_19 ?_
  refine r_aload_n g dX11_openDraft_22 rfl ?_
  obtain ⟨book_2, hr_book_2, h⟩ := h
  refine r_getR g fX11_72 rfl hs_a0 hr_book_2 dX11_openDraft_23 ?_
  obtain ⟨hs_scratch_1, h⟩ := h
  refine r_putR g fX11_135 rfl hs_scratch_1 rfl rfl dX11_openDraft_26 ?_
  refine r_aload_n g dX11_openDraft_29 rfl ?_
  obtain ⟨now_3, hr_now_3, h⟩ := h
  refine r_getR g fX11_96 rfl hs_a0 hr_now_3 dX11_openDraft_30 ?_
  refine r_aload_n g dX11_openDraft_33 rfl ?_
  obtain ⟨scratch_4, hr_scratch_4, h⟩ := h
  refine r_getR g fX11_100 rfl hs_a0 hr_scratch_4 dX11_openDraft_34 ?_
  obtain ⟨hs_now_3, h⟩ := h
  obtain ⟨d1, Z1, hc1, hd1, h1⟩ := h
  refine r_callV (st := []) (As := [.ref scratch_4]) g sX11_136 iX8_copyFrom eX8_copyFrom rfl hs_now_3 rfl (Nat.le_of_ble_eq_true rfl) dX11_openDraft_37 hd1 (Nat.le_refl 0) (Nat.le_refl 0) hc1 (fun r5 μ6 hZ1 => ?_)
  replace h := h1 _ _ hZ1
  clear h1 hc1 hd1 hZ1 Z1 d1
  obtain ⟨rfl, h⟩ := h
  refine r_aload_n g dX11_openDraft_40 rfl ?_
  obtain ⟨hs_a0_, h⟩ := h
  obtain ⟨history_7, hr_history_7, h⟩ := h
  refine r_getR g fX11_41 rfl hs_a0_ hr_history_7 dX11_openDraft_41 ?_
  obtain ⟨hs_history_7, h⟩ := h
  obtain ⟨d1, Z1, hc1, hd1, h1⟩ := h
  refine r_callV (st := []) (As := []) g sX11_140 iX4_forget eX4_forget rfl hs_history_7 rfl (Nat.le_of_ble_eq_true rfl) dX11_openDraft_44 hd1 (Nat.le_refl 0) (Nat.le_refl 0) hc1 (fun r8 μ9 hZ1 => ?_)
  replace h := h1 _ _ hZ1
  clear h1 hc1 hd1 hZ1 Z1 d1
  obtain ⟨rfl, h⟩ := h
  refine r_aload_n g dX11_openDraft_47 rfl ?_
  obtain ⟨hs_a0__, h⟩ := h
  obtain ⟨acted_10, hr_acted_10, h⟩ := h
  refine r_getR g fX11_48 rfl hs_a0__ hr_acted_10 dX11_openDraft_48 ?_
  obtain ⟨hs_acted_10, h⟩ := h
  obtain ⟨d1, Z1, hc1, hd1, h1⟩ := h
  refine r_callV (st := []) (As := []) g sX11_143 iX5_forget eX5_forget rfl hs_acted_10 rfl (Nat.le_of_ble_eq_true rfl) dX11_openDraft_51 hd1 (Nat.le_refl 0) (Nat.le_refl 0) hc1 (fun r11 μ12 hZ1 => ?_)
  replace h := h1 _ _ hZ1
  clear h1 hc1 hd1 hZ1 Z1 d1
  obtain ⟨rfl, h⟩ := h
  refine r_aload_n g dX11_openDraft_54 rfl ?_
  refine r_iconst g 0 dX11_openDraft_55 (by decide) ?_
  obtain ⟨hs_a0___, h⟩ := h
  refine r_putI g fX11_83 rfl hs_a0___ (by decide) (by decide) dX11_openDraft_56 ?_
  refine r_aload_n g dX11_openDraft_59 rfl ?_
  obtain ⟨reader_13, hr_reader_13, h⟩ := h
  refine r_getR g fX11_10 rfl hs_a0___ hr_reader_13 dX11_openDraft_60 ?_
  refine r_iconst g 0 dX11_openDraft_63 (by decide) ?_
  obtain ⟨hs_reader_13, h⟩ := h
  refine r_putI g fX11_111 rfl hs_reader_13 rfl rfl dX11_openDraft_64 ?_
  refine r_aload_n g dX11_openDraft_67 rfl ?_
  obtain ⟨book_14, hr_book_14, h⟩ := h
  refine r_getR g fX11_72 rfl hs_a0___ hr_book_14 dX11_openDraft_68 ?_
  obtain ⟨hs_book_14, h⟩ := h
  refine r_getI g fX11_144 rfl hs_book_14 dX11_openDraft_71 ?_
  exact hr.2.1 _ rfl _ _ _ _ _ _ dX11_openDraft_74 rfl (Nat.le_refl 0) (Nat.le_refl 0) h
theorem I_X11_openDraft {d : Nat} {ro : Nat → Nat} {Z : Option Value → Hp → Prop} {μ : Hp} {a0 : Nat} (h : ∀ J, xCtx RX11 cX11_openDraft 2 d 0 0 yX11_openDraft.name ro J → xRet cX11_openDraft (some .int) 0 0 Z J → J μ 0 0 0 [(0, .ref a0)] []) : xC d yX11_openDraft cX11_openDraft 2 (some .int) 0 0 [.ref a0] μ ro Z :=
  xC_intro (own := RX11) (lv := [(0, .ref a0)]) (by decide) rfl (Nat.le_of_ble_eq_true rfl) rfl (fun J g hr => r_sub g (lv' := [(0, .ref a0)]) (⟨rfl, trivial⟩) (h J g hr))
theorem dX11_keepScript_0 : decode cX11_keepScript 0 = .ok (.aload_n 0, 1) := by decide +kernel
theorem dX11_keepScript_1 : decode cX11_keepScript 1 = .ok (.getfield 10, 3) := by decide +kernel
theorem dX11_keepScript_4 : decode cX11_keepScript 4 = .ok (.iconst 0, 1) := by decide +kernel
theorem dX11_keepScript_5 : decode cX11_keepScript 5 = .ok (.putfield 111, 3) := by decide +kernel
theorem dX11_keepScript_8 : decode cX11_keepScript 8 = .ok (.aload_n 0, 1) := by decide +kernel
theorem dX11_keepScript_9 : decode cX11_keepScript 9 = .ok (.dup, 1) := by decide +kernel
theorem dX11_keepScript_10 : decode cX11_keepScript 10 = .ok (.getfield 79, 3) := by decide +kernel
theorem dX11_keepScript_13 : decode cX11_keepScript 13 = .ok (.iconst 1, 1) := by decide +kernel
theorem dX11_keepScript_14 : decode cX11_keepScript 14 = .ok (.iadd, 1) := by decide +kernel
theorem dX11_keepScript_15 : decode cX11_keepScript 15 = .ok (.putfield 79, 3) := by decide +kernel
theorem dX11_keepScript_18 : decode cX11_keepScript 18 = .ok (.aload_n 0, 1) := by decide +kernel
theorem dX11_keepScript_19 : decode cX11_keepScript 19 = .ok (.getfield 79, 3) := by decide +kernel
theorem dX11_keepScript_22 : decode cX11_keepScript 22 = .ok (.iconst 1, 1) := by decide +kernel
theorem dX11_keepScript_23 : decode cX11_keepScript 23 = .ok (.isub, 1) := by decide +kernel
theorem dX11_keepScript_24 : decode cX11_keepScript 24 = .ok (.ireturn, 1) := by decide +kernel
set_option maxHeartbeats 4000000 in
set_option maxRecDepth 100000 in
theorem B_X11_keepScript_0 {d : Nat} {ro : Nat → Nat} {J : JT} {Z : Option Value → Hp → Prop} (g : xCtx RX11 cX11_keepScript 1 d 0 0 yX11_keepScript.name ro J) (hr : xRet cX11_keepScript (some .int) 0 0 Z J) {μ : Hp} {a0 : Nat} {a0_reader : Nat} (hs_a0 : hS μ a0 = some (14, 18)) (hr_a0_reader : hR μ a0 0 = some a0_reader) (hs_a0_reader : hS μ a0_reader = some (10, 5))
    (h : (∀ v1 : Int32, v1 = (hI (wI (wI μ a0_reader 0 0) a0 15 ((hI (wI μ a0_reader 0 0) a0 15) + 1)) a0 15) → Z (some (.int (v1 - 1))) (wI (wI μ a0_reader 0 0) a0 15 ((hI (wI μ a0_reader 0 0) a0 15) + 1)))) :
    J μ 0 0 0 [(0, .ref a0)] [] := by
  refine r_aload_n g dX11_keepScript_0 rfl ?_
  refine r_getR g fX11_10 rfl hs_a0 hr_a0_reader dX11_keepScript_1 ?_
  refine r_iconst g 0 dX11_keepScript_4 (by decide) ?_
  refine r_putI g fX11_111 rfl hs_a0_reader rfl rfl dX11_keepScript_5 ?_
  refine r_aload_n g dX11_keepScript_8 rfl ?_
  refine r_dup g dX11_keepScript_9 rfl ?_
  refine r_getI g fX11_79 rfl hs_a0 dX11_keepScript_10 ?_
  refine r_iconst g 1 dX11_keepScript_13 (by decide) ?_
  refine r_iadd g dX11_keepScript_14 ?_
  refine r_putI g fX11_79 rfl hs_a0 rfl rfl dX11_keepScript_15 ?_
  refine r_aload_n g dX11_keepScript_18 rfl ?_
  refine r_getI g fX11_79 rfl hs_a0 dX11_keepScript_19 ?_
  refine r_nmI (fun v1 ev1 => ?_)
  replace h := h v1 ev1
  refine r_iconst g 1 dX11_keepScript_22 (by decide) ?_
  refine r_isub g dX11_keepScript_23 ?_
  exact hr.2.1 _ rfl _ _ _ _ _ _ dX11_keepScript_24 rfl (Nat.le_refl 0) (Nat.le_refl 0) h
theorem I_X11_keepScript {d : Nat} {ro : Nat → Nat} {Z : Option Value → Hp → Prop} {μ : Hp} {a0 : Nat} (h : ∀ J, xCtx RX11 cX11_keepScript 1 d 0 0 yX11_keepScript.name ro J → xRet cX11_keepScript (some .int) 0 0 Z J → J μ 0 0 0 [(0, .ref a0)] []) : xC d yX11_keepScript cX11_keepScript 1 (some .int) 0 0 [.ref a0] μ ro Z :=
  xC_intro (own := RX11) (lv := [(0, .ref a0)]) (by decide) rfl (Nat.le_of_ble_eq_true rfl) rfl (fun J g hr => r_sub g (lv' := [(0, .ref a0)]) (⟨rfl, trivial⟩) (h J g hr))
theorem dX11_land_0 : decode cX11_land 0 = .ok (.aload_n 0, 1) := by decide +kernel
theorem dX11_land_1 : decode cX11_land 1 = .ok (.getfield 72, 3) := by decide +kernel
theorem dX11_land_4 : decode cX11_land 4 = .ok (.iload_n 1, 1) := by decide +kernel
theorem dX11_land_5 : decode cX11_land 5 = .ok (.invokevirtual 147, 3) := by decide +kernel
theorem dX11_land_8 : decode cX11_land 8 = .ok (.ifCond .eq 12, 3) := by decide +kernel
theorem dX11_land_11 : decode cX11_land 11 = .ok (.iload_n 2, 1) := by decide +kernel
theorem dX11_land_12 : decode cX11_land 12 = .ok (.ifCond .lt 8, 3) := by decide +kernel
theorem dX11_land_15 : decode cX11_land 15 = .ok (.iload_n 2, 1) := by decide +kernel
theorem dX11_land_16 : decode cX11_land 16 = .ok (.iconst 3, 1) := by decide +kernel
theorem dX11_land_17 : decode cX11_land 17 = .ok (.if_icmp .le 5, 3) := by decide +kernel
theorem dX11_land_20 : decode cX11_land 20 = .ok (.iconst (-1), 1) := by decide +kernel
theorem dX11_land_21 : decode cX11_land 21 = .ok (.ireturn, 1) := by decide +kernel
theorem dX11_land_22 : decode cX11_land 22 = .ok (.iload_n 2, 1) := by decide +kernel
theorem dX11_land_23 : decode cX11_land 23 = .ok (.iconst 3, 1) := by decide +kernel
theorem dX11_land_24 : decode cX11_land 24 = .ok (.if_icmp .ne 18, 3) := by decide +kernel
theorem dX11_land_27 : decode cX11_land 27 = .ok (.aload_n 0, 1) := by decide +kernel
theorem dX11_land_28 : decode cX11_land 28 = .ok (.getfield 96, 3) := by decide +kernel
theorem dX11_land_31 : decode cX11_land 31 = .ok (.getfield 151, 3) := by decide +kernel
theorem dX11_land_34 : decode cX11_land 34 = .ok (.bipush 26, 2) := by decide +kernel
theorem dX11_land_36 : decode cX11_land 36 = .ok (.iload_n 1, 1) := by decide +kernel
theorem dX11_land_37 : decode cX11_land 37 = .ok (.iadd, 1) := by decide +kernel
theorem dX11_land_38 : decode cX11_land 38 = .ok (.iaload, 1) := by decide +kernel
theorem dX11_land_39 : decode cX11_land 39 = .ok (.goto 17, 3) := by decide +kernel
theorem dX11_land_42 : decode cX11_land 42 = .ok (.aload_n 0, 1) := by decide +kernel
theorem dX11_land_43 : decode cX11_land 43 = .ok (.getfield 72, 3) := by decide +kernel
theorem dX11_land_46 : decode cX11_land 46 = .ok (.getfield 154, 3) := by decide +kernel
theorem dX11_land_49 : decode cX11_land 49 = .ok (.iload_n 2, 1) := by decide +kernel
theorem dX11_land_50 : decode cX11_land 50 = .ok (.bipush 6, 2) := by decide +kernel
theorem dX11_land_52 : decode cX11_land 52 = .ok (.imul, 1) := by decide +kernel
theorem dX11_land_53 : decode cX11_land 53 = .ok (.iload_n 1, 1) := by decide +kernel
theorem dX11_land_54 : decode cX11_land 54 = .ok (.iadd, 1) := by decide +kernel
theorem dX11_land_55 : decode cX11_land 55 = .ok (.iaload, 1) := by decide +kernel
theorem dX11_land_56 : decode cX11_land 56 = .ok (.ireturn, 1) := by decide +kernel
set_option maxHeartbeats 4000000 in
set_option maxRecDepth 100000 in
theorem B_X11_land_0 {d : Nat} {ro : Nat → Nat} {J : JT} {Z : Option Value → Hp → Prop} (g : xCtx RX11 cX11_land 3 d 0 0 yX11_land.name ro J) (hr : xRet cX11_land (some .int) 0 0 Z J) {μ : Hp} {a0 : Nat} {x1 : Int32} {x2 : Int32} {a0_book : Nat} {a0_book_laws : Nat} {N_a0_book_laws : Nat} {a0_now : Nat} {a0_now_row : Nat} {N_a0_now_row : Nat} (hs_a0 : hS μ a0 = some (14, 18)) (hr_a0_book : hR μ a0 13 = some a0_book) (hs_a0_book : hS μ a0_book = some (6, 9)) (hr_a0_book_laws : hR μ a0_book 2 = some a0_book_laws) (hs_a0_book_laws : hS μ a0_book_laws = some (0, N_a0_book_laws)) (hr_a0_now : hR μ a0 10 = some a0_now) (hs_a0_now : hS μ a0_now = some (12, 4)) (hr_a0_now_row : hR μ a0_now 0 = some a0_now_row) (hs_a0_now_row : hS μ a0_now_row = some (0, N_a0_now_row)) (hd9 : 1 ≤ d)
    (h : ((x1 < 0 → Z (some (.int (-1))) μ) ∧ (¬ x1 < 0 → (((hI μ a0_book 5) ≤ x1 → Z (some (.int (-1))) μ) ∧ (¬ (hI μ a0_book 5) ≤ x1 → ((x2 < 0 → Z (some (.int (-1))) μ) ∧ (¬ x2 < 0 → ((x2 ≤ 3 → ((¬ x2 = 3 → vp_in ((x2 * 6) + x1) N_a0_book_laws ∧ Z (some (.int (hI μ a0_book_laws (((x2 * 6) + x1).toNatClampNeg)))) μ) ∧ (x2 = 3 → vp_in (26 + x1) N_a0_now_row ∧ Z (some (.int (hI μ a0_now_row ((26 + x1).toNatClampNeg)))) μ))) ∧ (¬ x2 ≤ 3 → Z (some (.int (-1))) μ))))))))) :
    J μ 0 0 0 [(0, .ref a0), (1, .int x1), (2, .int x2)] [] := by
  refine r_aload_n g dX11_land_0 rfl ?_
  refine r_getR g fX11_72 rfl hs_a0 hr_a0_book dX11_land_1 ?_
  refine r_iload_n g dX11_land_4 rfl ?_
  by_cases c1 : x1 < 0
  · replace h := h.1 c1
    refine r_callV (st := []) (As := [.int x1]) g sX11_147 iX2_hasLand eX2_hasLand rfl hs_a0_book rfl (Nat.le_of_ble_eq_true rfl) dX11_land_5 (by omega) (Nat.le_refl 0) (Nat.le_refl 0) (P_X2_hasLand_0 (d := d - 1) hs_a0_book c1) (fun r2 μ3 hZ1 => ?_)
    obtain ⟨rfl, e9⟩ := hZ1
    replace e9 := e9.symm
    subst e9
    refine r_if_eq g 20 dX11_land_8 (by decide) (fun _ => ?_) (fun hz => absurd hz (by decide))
    refine r_iconst g (-1) dX11_land_20 (by decide) ?_
    exact hr.2.1 _ rfl _ _ _ _ _ _ dX11_land_21 rfl (Nat.le_refl 0) (Nat.le_refl 0) h
  · replace h := h.2 c1
    by_cases c4 : (hI μ a0_book 5) ≤ x1
    · replace h := h.1 c4
      refine r_callV (st := []) (As := [.int x1]) g sX11_147 iX2_hasLand eX2_hasLand rfl hs_a0_book rfl (Nat.le_of_ble_eq_true rfl) dX11_land_5 (by omega) (Nat.le_refl 0) (Nat.le_refl 0) (P_X2_hasLand_1 (d := d - 1) hs_a0_book c1 c4) (fun r5 μ6 hZ1 => ?_)
      obtain ⟨rfl, e9⟩ := hZ1
      replace e9 := e9.symm
      subst e9
      refine r_if_eq g 20 dX11_land_8 (by decide) (fun _ => ?_) (fun hz => absurd hz (by decide))
      refine r_iconst g (-1) dX11_land_20 (by decide) ?_
      exact hr.2.1 _ rfl _ _ _ _ _ _ dX11_land_21 rfl (Nat.le_refl 0) (Nat.le_refl 0) h
    · replace h := h.2 c4
      refine r_callV (st := []) (As := [.int x1]) g sX11_147 iX2_hasLand eX2_hasLand rfl hs_a0_book rfl (Nat.le_of_ble_eq_true rfl) dX11_land_5 (by omega) (Nat.le_refl 0) (Nat.le_refl 0) (P_X2_hasLand_2 (d := d - 1) hs_a0_book c1 c4) (fun r7 μ8 hZ1 => ?_)
      obtain ⟨rfl, e9⟩ := hZ1
      replace e9 := e9.symm
      subst e9
      refine r_if_eq g 20 dX11_land_8 (by decide) (fun hz => absurd hz (by decide)) (fun _ => ?_)
      refine r_iload_n g dX11_land_11 rfl ?_
      refine r_if_lt g 20 dX11_land_12 (by decide) (fun c9 => ?_) (fun c9 => ?_)
      · replace h := h.1 c9
        refine r_iconst g (-1) dX11_land_20 (by decide) ?_
        exact hr.2.1 _ rfl _ _ _ _ _ _ dX11_land_21 rfl (Nat.le_refl 0) (Nat.le_refl 0) h
      · replace h := h.2 c9
        refine r_iload_n g dX11_land_15 rfl ?_
        refine r_iconst g 3 dX11_land_16 (by decide) ?_
        refine r_icmp_le g 22 dX11_land_17 (by decide) (fun c10 => ?_) (fun c10 => ?_)
        · replace h := h.1 c10
          refine r_iload_n g dX11_land_22 rfl ?_
          refine r_iconst g 3 dX11_land_23 (by decide) ?_
          refine r_icmp_ne g 42 dX11_land_24 (by decide) (fun c11 => ?_) (fun c11 => ?_)
          · replace h := h.1 c11
            refine r_aload_n g dX11_land_42 rfl ?_
            refine r_getR g fX11_72 rfl hs_a0 hr_a0_book dX11_land_43 ?_
            refine r_getR g fX11_154 rfl hs_a0_book hr_a0_book_laws dX11_land_46 ?_
            refine r_iload_n g dX11_land_49 rfl ?_
            refine r_bipush g 6 dX11_land_50 (by decide) ?_
            refine r_imul g dX11_land_52 ?_
            refine r_iload_n g dX11_land_53 rfl ?_
            refine r_iadd g dX11_land_54 ?_
            obtain ⟨hi12, h⟩ := h
            refine r_iaload g hs_a0_book_laws hi12 dX11_land_55 ?_
            exact hr.2.1 _ rfl _ _ _ _ _ _ dX11_land_56 rfl (Nat.le_refl 0) (Nat.le_refl 0) h
          · replace h := h.2 c11
            refine r_aload_n g dX11_land_27 rfl ?_
            refine r_getR g fX11_96 rfl hs_a0 hr_a0_now dX11_land_28 ?_
            refine r_getR g fX11_151 rfl hs_a0_now hr_a0_now_row dX11_land_31 ?_
            refine r_bipush g 26 dX11_land_34 (by decide) ?_
            refine r_iload_n g dX11_land_36 rfl ?_
            refine r_iadd g dX11_land_37 ?_
            obtain ⟨hi13, h⟩ := h
            refine r_iaload g hs_a0_now_row hi13 dX11_land_38 ?_
            refine r_goto g 56 dX11_land_39 (by decide) ?_
            exact hr.2.1 _ rfl _ _ _ _ _ _ dX11_land_56 rfl (Nat.le_refl 0) (Nat.le_refl 0) h
        · replace h := h.2 c10
          refine r_iconst g (-1) dX11_land_20 (by decide) ?_
          exact hr.2.1 _ rfl _ _ _ _ _ _ dX11_land_21 rfl (Nat.le_refl 0) (Nat.le_refl 0) h
theorem I_X11_land {d : Nat} {ro : Nat → Nat} {Z : Option Value → Hp → Prop} {μ : Hp} {a0 : Nat} {x1 : Int32} {x2 : Int32} (h : ∀ J, xCtx RX11 cX11_land 3 d 0 0 yX11_land.name ro J → xRet cX11_land (some .int) 0 0 Z J → J μ 0 0 0 [(0, .ref a0), (1, .int x1), (2, .int x2)] []) : xC d yX11_land cX11_land 3 (some .int) 0 0 [.ref a0, .int x1, .int x2] μ ro Z :=
  xC_intro (own := RX11) (lv := [(0, .ref a0), (1, .int x1), (2, .int x2)]) (by decide) rfl (Nat.le_of_ble_eq_true rfl) rfl (fun J g hr => r_sub g (lv' := [(0, .ref a0), (1, .int x1), (2, .int x2)]) (⟨rfl, rfl, rfl, trivial⟩) (h J g hr))
theorem dX11_name_0 : decode cX11_name 0 = .ok (.iload_n 3, 1) := by decide +kernel
theorem dX11_name_1 : decode cX11_name 1 = .ok (.ifCond .lt 9, 3) := by decide +kernel
theorem dX11_name_4 : decode cX11_name 4 = .ok (.iload_n 3, 1) := by decide +kernel
theorem dX11_name_5 : decode cX11_name 5 = .ok (.bipush 8, 2) := by decide +kernel
theorem dX11_name_7 : decode cX11_name 7 = .ok (.if_icmp .lt 5, 3) := by decide +kernel
theorem dX11_name_10 : decode cX11_name 10 = .ok (.iconst (-1), 1) := by decide +kernel
theorem dX11_name_11 : decode cX11_name 11 = .ok (.ireturn, 1) := by decide +kernel
theorem dX11_name_12 : decode cX11_name 12 = .ok (.iload_n 1, 1) := by decide +kernel
theorem dX11_name_13 : decode cX11_name 13 = .ok (.ifCond .ne 28, 3) := by decide +kernel
theorem dX11_name_16 : decode cX11_name 16 = .ok (.aload_n 0, 1) := by decide +kernel
theorem dX11_name_17 : decode cX11_name 17 = .ok (.getfield 72, 3) := by decide +kernel
theorem dX11_name_20 : decode cX11_name 20 = .ok (.iload_n 2, 1) := by decide +kernel
theorem dX11_name_21 : decode cX11_name 21 = .ok (.invokevirtual 147, 3) := by decide +kernel
theorem dX11_name_24 : decode cX11_name 24 = .ok (.ifCond .eq 17, 3) := by decide +kernel
theorem dX11_name_27 : decode cX11_name 27 = .ok (.aload_n 0, 1) := by decide +kernel
theorem dX11_name_28 : decode cX11_name 28 = .ok (.getfield 72, 3) := by decide +kernel
theorem dX11_name_31 : decode cX11_name 31 = .ok (.getfield 169, 3) := by decide +kernel
theorem dX11_name_34 : decode cX11_name 34 = .ok (.iload_n 2, 1) := by decide +kernel
theorem dX11_name_35 : decode cX11_name 35 = .ok (.laload, 1) := by decide +kernel
theorem dX11_name_36 : decode cX11_name 36 = .ok (.iload_n 3, 1) := by decide +kernel
theorem dX11_name_37 : decode cX11_name 37 = .ok (.invokestatic 173, 3) := by decide +kernel
theorem dX11_name_40 : decode cX11_name 40 = .ok (.ireturn, 1) := by decide +kernel
theorem dX11_name_41 : decode cX11_name 41 = .ok (.iload_n 1, 1) := by decide +kernel
theorem dX11_name_42 : decode cX11_name 42 = .ok (.iconst 1, 1) := by decide +kernel
theorem dX11_name_43 : decode cX11_name 43 = .ok (.if_icmp .ne 28, 3) := by decide +kernel
theorem dX11_name_46 : decode cX11_name 46 = .ok (.aload_n 0, 1) := by decide +kernel
theorem dX11_name_47 : decode cX11_name 47 = .ok (.getfield 72, 3) := by decide +kernel
theorem dX11_name_50 : decode cX11_name 50 = .ok (.iload_n 2, 1) := by decide +kernel
theorem dX11_name_51 : decode cX11_name 51 = .ok (.invokevirtual 157, 3) := by decide +kernel
theorem dX11_name_54 : decode cX11_name 54 = .ok (.ifCond .eq 17, 3) := by decide +kernel
theorem dX11_name_57 : decode cX11_name 57 = .ok (.aload_n 0, 1) := by decide +kernel
theorem dX11_name_58 : decode cX11_name 58 = .ok (.getfield 72, 3) := by decide +kernel
theorem dX11_name_61 : decode cX11_name 61 = .ok (.getfield 177, 3) := by decide +kernel
theorem dX11_name_64 : decode cX11_name 64 = .ok (.iload_n 2, 1) := by decide +kernel
theorem dX11_name_65 : decode cX11_name 65 = .ok (.laload, 1) := by decide +kernel
theorem dX11_name_66 : decode cX11_name 66 = .ok (.iload_n 3, 1) := by decide +kernel
theorem dX11_name_67 : decode cX11_name 67 = .ok (.invokestatic 173, 3) := by decide +kernel
theorem dX11_name_70 : decode cX11_name 70 = .ok (.ireturn, 1) := by decide +kernel
theorem dX11_name_71 : decode cX11_name 71 = .ok (.iconst (-1), 1) := by decide +kernel
theorem dX11_name_72 : decode cX11_name 72 = .ok (.ireturn, 1) := by decide +kernel
set_option maxHeartbeats 4000000 in
set_option maxRecDepth 100000 in
theorem B_X11_name_0 {d : Nat} {ro : Nat → Nat} {J : JT} {Z : Option Value → Hp → Prop} (g : xCtx RX11 cX11_name 4 d 0 0 yX11_name.name ro J) (hr : xRet cX11_name (some .int) 0 0 Z J) {μ : Hp} {a0 : Nat} {x1 : Int32} {x2 : Int32} {x3 : Int32} {a0_book : Nat} {a0_book_firmNames : Nat} {N_a0_book_firmNames : Nat} {a0_book_landNames : Nat} {N_a0_book_landNames : Nat} (hs_a0 : hS μ a0 = some (14, 18)) (hr_a0_book : hR μ a0 13 = some a0_book) (hs_a0_book : hS μ a0_book = some (6, 9)) (hr_a0_book_firmNames : hR μ a0_book 1 = some a0_book_firmNames) (hs_a0_book_firmNames : hS μ a0_book_firmNames = some (2, N_a0_book_firmNames)) (hr_a0_book_landNames : hR μ a0_book 0 = some a0_book_landNames) (hs_a0_book_landNames : hS μ a0_book_landNames = some (2, N_a0_book_landNames)) (hd9 : 1 ≤ d)
    (h : ((x3 < 0 → Z (some (.int (-1))) μ) ∧ (¬ x3 < 0 → ((x3 < 8 → ((¬ x1 = 0 → ((¬ x1 = 1 → Z (some (.int (-1))) μ) ∧ (x1 = 1 → ((x2 < 0 → Z (some (.int (-1))) μ) ∧ (¬ x2 < 0 → (((hI μ a0_book 6) ≤ x2 → Z (some (.int (-1))) μ) ∧ (¬ (hI μ a0_book 6) ≤ x2 → vp_in x2 N_a0_book_firmNames ∧ xCall d yX6_letterOf cX6_letterOf 4 (some .int) [.long (hL μ a0_book_firmNames x2.toNatClampNeg), .int x3] μ ro (fun r14 μ15 => ∃ y16 : Int32, r14 = some (.int y16) ∧ Z (some (.int y16)) μ15)))))))) ∧ (x1 = 0 → ((x2 < 0 → ((¬ x1 = 1 → Z (some (.int (-1))) μ) ∧ (x1 = 1 → ((x2 < 0 → Z (some (.int (-1))) μ) ∧ (¬ x2 < 0 → (((hI μ a0_book 6) ≤ x2 → Z (some (.int (-1))) μ) ∧ (¬ (hI μ a0_book 6) ≤ x2 → vp_in x2 N_a0_book_firmNames ∧ xCall d yX6_letterOf cX6_letterOf 4 (some .int) [.long (hL μ a0_book_firmNames x2.toNatClampNeg), .int x3] μ ro (fun r30 μ31 => ∃ y32 : Int32, r30 = some (.int y32) ∧ Z (some (.int y32)) μ31)))))))) ∧ (¬ x2 < 0 → (((hI μ a0_book 5) ≤ x2 → ((¬ x1 = 1 → Z (some (.int (-1))) μ) ∧ (x1 = 1 → ((x2 < 0 → Z (some (.int (-1))) μ) ∧ (¬ x2 < 0 → (((hI μ a0_book 6) ≤ x2 → Z (some (.int (-1))) μ) ∧ (¬ (hI μ a0_book 6) ≤ x2 → vp_in x2 N_a0_book_firmNames ∧ xCall d yX6_letterOf cX6_letterOf 4 (some .int) [.long (hL μ a0_book_firmNames x2.toNatClampNeg), .int x3] μ ro (fun r46 μ47 => ∃ y48 : Int32, r46 = some (.int y48) ∧ Z (some (.int y48)) μ47)))))))) ∧ (¬ (hI μ a0_book 5) ≤ x2 → vp_in x2 N_a0_book_landNames ∧ xCall d yX6_letterOf cX6_letterOf 4 (some .int) [.long (hL μ a0_book_landNames x2.toNatClampNeg), .int x3] μ ro (fun r52 μ53 => ∃ y54 : Int32, r52 = some (.int y54) ∧ Z (some (.int y54)) μ53)))))))) ∧ (¬ x3 < 8 → Z (some (.int (-1))) μ))))) :
    J μ 0 0 0 [(0, .ref a0), (1, .int x1), (2, .int x2), (3, .int x3)] [] := by
  refine r_iload_n g dX11_name_0 rfl ?_
  refine r_if_lt g 10 dX11_name_1 (by decide) (fun c1 => ?_) (fun c1 => ?_)
  · replace h := h.1 c1
    refine r_iconst g (-1) dX11_name_10 (by decide) ?_
    exact hr.2.1 _ rfl _ _ _ _ _ _ dX11_name_11 rfl (Nat.le_refl 0) (Nat.le_refl 0) h
  · replace h := h.2 c1
    refine r_iload_n g dX11_name_4 rfl ?_
    refine r_bipush g 8 dX11_name_5 (by decide) ?_
    refine r_icmp_lt g 12 dX11_name_7 (by decide) (fun c2 => ?_) (fun c2 => ?_)
    · replace h := h.1 c2
      refine r_iload_n g dX11_name_12 rfl ?_
      refine r_if_ne g 41 dX11_name_13 (by decide) (fun c3 => ?_) (fun c3 => ?_)
      · replace h := h.1 c3
        refine r_iload_n g dX11_name_41 rfl ?_
        refine r_iconst g 1 dX11_name_42 (by decide) ?_
        refine r_icmp_ne g 71 dX11_name_43 (by decide) (fun c4 => ?_) (fun c4 => ?_)
        · replace h := h.1 c4
          refine r_iconst g (-1) dX11_name_71 (by decide) ?_
          exact hr.2.1 _ rfl _ _ _ _ _ _ dX11_name_72 rfl (Nat.le_refl 0) (Nat.le_refl 0) h
        · replace h := h.2 c4
          refine r_aload_n g dX11_name_46 rfl ?_
          refine r_getR g fX11_72 rfl hs_a0 hr_a0_book dX11_name_47 ?_
          refine r_iload_n g dX11_name_50 rfl ?_
          by_cases c5 : x2 < 0
          · replace h := h.1 c5
            refine r_callV (st := []) (As := [.int x2]) g sX11_157 iX2_hasFirm eX2_hasFirm rfl hs_a0_book rfl (Nat.le_of_ble_eq_true rfl) dX11_name_51 (by omega) (Nat.le_refl 0) (Nat.le_refl 0) (P_X2_hasFirm_0 (d := d - 1) hs_a0_book c5) (fun r6 μ7 hZ1 => ?_)
            obtain ⟨rfl, e9⟩ := hZ1
            replace e9 := e9.symm
            subst e9
            refine r_if_eq g 71 dX11_name_54 (by decide) (fun _ => ?_) (fun hz => absurd hz (by decide))
            refine r_iconst g (-1) dX11_name_71 (by decide) ?_
            exact hr.2.1 _ rfl _ _ _ _ _ _ dX11_name_72 rfl (Nat.le_refl 0) (Nat.le_refl 0) h
          · replace h := h.2 c5
            by_cases c8 : (hI μ a0_book 6) ≤ x2
            · replace h := h.1 c8
              refine r_callV (st := []) (As := [.int x2]) g sX11_157 iX2_hasFirm eX2_hasFirm rfl hs_a0_book rfl (Nat.le_of_ble_eq_true rfl) dX11_name_51 (by omega) (Nat.le_refl 0) (Nat.le_refl 0) (P_X2_hasFirm_1 (d := d - 1) hs_a0_book c5 c8) (fun r9 μ10 hZ1 => ?_)
              obtain ⟨rfl, e9⟩ := hZ1
              replace e9 := e9.symm
              subst e9
              refine r_if_eq g 71 dX11_name_54 (by decide) (fun _ => ?_) (fun hz => absurd hz (by decide))
              refine r_iconst g (-1) dX11_name_71 (by decide) ?_
              exact hr.2.1 _ rfl _ _ _ _ _ _ dX11_name_72 rfl (Nat.le_refl 0) (Nat.le_refl 0) h
            · replace h := h.2 c8
              refine r_callV (st := []) (As := [.int x2]) g sX11_157 iX2_hasFirm eX2_hasFirm rfl hs_a0_book rfl (Nat.le_of_ble_eq_true rfl) dX11_name_51 (by omega) (Nat.le_refl 0) (Nat.le_refl 0) (P_X2_hasFirm_2 (d := d - 1) hs_a0_book c5 c8) (fun r11 μ12 hZ1 => ?_)
              obtain ⟨rfl, e9⟩ := hZ1
              replace e9 := e9.symm
              subst e9
              refine r_if_eq g 71 dX11_name_54 (by decide) (fun hz => absurd hz (by decide)) (fun _ => ?_)
              refine r_aload_n g dX11_name_57 rfl ?_
              refine r_getR g fX11_72 rfl hs_a0 hr_a0_book dX11_name_58 ?_
              refine r_getR g fX11_177 rfl hs_a0_book hr_a0_book_firmNames dX11_name_61 ?_
              refine r_iload_n g dX11_name_64 rfl ?_
              obtain ⟨hi13, h⟩ := h
              refine r_laload g hs_a0_book_firmNames hi13 dX11_name_65 ?_
              refine r_iload_n g dX11_name_66 rfl ?_
              obtain ⟨d1, Z1, hc1, hd1, h1⟩ := h
              refine r_callS (st := []) (As := [.long (hL μ a0_book_firmNames x2.toNatClampNeg), .int x3]) g sX11_173 iX6_letterOf rfl (Nat.le_of_ble_eq_true rfl) dX11_name_67 hd1 (Nat.le_refl 0) (Nat.le_refl 0) hc1 (fun r14 μ15 hZ1 => ?_)
              replace h := h1 _ _ hZ1
              clear h1 hc1 hd1 hZ1 Z1 d1
              obtain ⟨y16, rfl, h⟩ := h
              exact hr.2.1 _ rfl _ _ _ _ _ _ dX11_name_70 rfl (Nat.le_refl 0) (Nat.le_refl 0) h
      · replace h := h.2 c3
        refine r_aload_n g dX11_name_16 rfl ?_
        refine r_getR g fX11_72 rfl hs_a0 hr_a0_book dX11_name_17 ?_
        refine r_iload_n g dX11_name_20 rfl ?_
        by_cases c17 : x2 < 0
        · replace h := h.1 c17
          refine r_callV (st := []) (As := [.int x2]) g sX11_147 iX2_hasLand eX2_hasLand rfl hs_a0_book rfl (Nat.le_of_ble_eq_true rfl) dX11_name_21 (by omega) (Nat.le_refl 0) (Nat.le_refl 0) (P_X2_hasLand_0 (d := d - 1) hs_a0_book c17) (fun r18 μ19 hZ1 => ?_)
          obtain ⟨rfl, e9⟩ := hZ1
          replace e9 := e9.symm
          subst e9
          refine r_if_eq g 41 dX11_name_24 (by decide) (fun _ => ?_) (fun hz => absurd hz (by decide))
          refine r_iload_n g dX11_name_41 rfl ?_
          refine r_iconst g 1 dX11_name_42 (by decide) ?_
          refine r_icmp_ne g 71 dX11_name_43 (by decide) (fun c20 => ?_) (fun c20 => ?_)
          · replace h := h.1 c20
            refine r_iconst g (-1) dX11_name_71 (by decide) ?_
            exact hr.2.1 _ rfl _ _ _ _ _ _ dX11_name_72 rfl (Nat.le_refl 0) (Nat.le_refl 0) h
          · replace h := h.2 c20
            refine r_aload_n g dX11_name_46 rfl ?_
            refine r_getR g fX11_72 rfl hs_a0 hr_a0_book dX11_name_47 ?_
            refine r_iload_n g dX11_name_50 rfl ?_
            by_cases c21 : x2 < 0
            · replace h := h.1 c21
              refine r_callV (st := []) (As := [.int x2]) g sX11_157 iX2_hasFirm eX2_hasFirm rfl hs_a0_book rfl (Nat.le_of_ble_eq_true rfl) dX11_name_51 (by omega) (Nat.le_refl 0) (Nat.le_refl 0) (P_X2_hasFirm_0 (d := d - 1) hs_a0_book c21) (fun r22 μ23 hZ1 => ?_)
              obtain ⟨rfl, e9⟩ := hZ1
              replace e9 := e9.symm
              subst e9
              refine r_if_eq g 71 dX11_name_54 (by decide) (fun _ => ?_) (fun hz => absurd hz (by decide))
              refine r_iconst g (-1) dX11_name_71 (by decide) ?_
              exact hr.2.1 _ rfl _ _ _ _ _ _ dX11_name_72 rfl (Nat.le_refl 0) (Nat.le_refl 0) h
            · replace h := h.2 c21
              by_cases c24 : (hI μ a0_book 6) ≤ x2
              · replace h := h.1 c24
                refine r_callV (st := []) (As := [.int x2]) g sX11_157 iX2_hasFirm eX2_hasFirm rfl hs_a0_book rfl (Nat.le_of_ble_eq_true rfl) dX11_name_51 (by omega) (Nat.le_refl 0) (Nat.le_refl 0) (P_X2_hasFirm_1 (d := d - 1) hs_a0_book c21 c24) (fun r25 μ26 hZ1 => ?_)
                obtain ⟨rfl, e9⟩ := hZ1
                replace e9 := e9.symm
                subst e9
                refine r_if_eq g 71 dX11_name_54 (by decide) (fun _ => ?_) (fun hz => absurd hz (by decide))
                refine r_iconst g (-1) dX11_name_71 (by decide) ?_
                exact hr.2.1 _ rfl _ _ _ _ _ _ dX11_name_72 rfl (Nat.le_refl 0) (Nat.le_refl 0) h
              · replace h := h.2 c24
                refine r_callV (st := []) (As := [.int x2]) g sX11_157 iX2_hasFirm eX2_hasFirm rfl hs_a0_book rfl (Nat.le_of_ble_eq_true rfl) dX11_name_51 (by omega) (Nat.le_refl 0) (Nat.le_refl 0) (P_X2_hasFirm_2 (d := d - 1) hs_a0_book c21 c24) (fun r27 μ28 hZ1 => ?_)
                obtain ⟨rfl, e9⟩ := hZ1
                replace e9 := e9.symm
                subst e9
                refine r_if_eq g 71 dX11_name_54 (by decide) (fun hz => absurd hz (by decide)) (fun _ => ?_)
                refine r_aload_n g dX11_name_57 rfl ?_
                refine r_getR g fX11_72 rfl hs_a0 hr_a0_book dX11_name_58 ?_
                refine r_getR g fX11_177 rfl hs_a0_book hr_a0_book_firmNames dX11_name_61 ?_
                refine r_iload_n g dX11_name_64 rfl ?_
                obtain ⟨hi29, h⟩ := h
                refine r_laload g hs_a0_book_firmNames hi29 dX11_name_65 ?_
                refine r_iload_n g dX11_name_66 rfl ?_
                obtain ⟨d1, Z1, hc1, hd1, h1⟩ := h
                refine r_callS (st := []) (As := [.long (hL μ a0_book_firmNames x2.toNatClampNeg), .int x3]) g sX11_173 iX6_letterOf rfl (Nat.le_of_ble_eq_true rfl) dX11_name_67 hd1 (Nat.le_refl 0) (Nat.le_refl 0) hc1 (fun r30 μ31 hZ1 => ?_)
                replace h := h1 _ _ hZ1
                clear h1 hc1 hd1 hZ1 Z1 d1
                obtain ⟨y32, rfl, h⟩ := h
                exact hr.2.1 _ rfl _ _ _ _ _ _ dX11_name_70 rfl (Nat.le_refl 0) (Nat.le_refl 0) h
        · replace h := h.2 c17
          by_cases c33 : (hI μ a0_book 5) ≤ x2
          · replace h := h.1 c33
            refine r_callV (st := []) (As := [.int x2]) g sX11_147 iX2_hasLand eX2_hasLand rfl hs_a0_book rfl (Nat.le_of_ble_eq_true rfl) dX11_name_21 (by omega) (Nat.le_refl 0) (Nat.le_refl 0) (P_X2_hasLand_1 (d := d - 1) hs_a0_book c17 c33) (fun r34 μ35 hZ1 => ?_)
            obtain ⟨rfl, e9⟩ := hZ1
            replace e9 := e9.symm
            subst e9
            refine r_if_eq g 41 dX11_name_24 (by decide) (fun _ => ?_) (fun hz => absurd hz (by decide))
            refine r_iload_n g dX11_name_41 rfl ?_
            refine r_iconst g 1 dX11_name_42 (by decide) ?_
            refine r_icmp_ne g 71 dX11_name_43 (by decide) (fun c36 => ?_) (fun c36 => ?_)
            · replace h := h.1 c36
              refine r_iconst g (-1) dX11_name_71 (by decide) ?_
              exact hr.2.1 _ rfl _ _ _ _ _ _ dX11_name_72 rfl (Nat.le_refl 0) (Nat.le_refl 0) h
            · replace h := h.2 c36
              refine r_aload_n g dX11_name_46 rfl ?_
              refine r_getR g fX11_72 rfl hs_a0 hr_a0_book dX11_name_47 ?_
              refine r_iload_n g dX11_name_50 rfl ?_
              by_cases c37 : x2 < 0
              · replace h := h.1 c37
                refine r_callV (st := []) (As := [.int x2]) g sX11_157 iX2_hasFirm eX2_hasFirm rfl hs_a0_book rfl (Nat.le_of_ble_eq_true rfl) dX11_name_51 (by omega) (Nat.le_refl 0) (Nat.le_refl 0) (P_X2_hasFirm_0 (d := d - 1) hs_a0_book c37) (fun r38 μ39 hZ1 => ?_)
                obtain ⟨rfl, e9⟩ := hZ1
                replace e9 := e9.symm
                subst e9
                refine r_if_eq g 71 dX11_name_54 (by decide) (fun _ => ?_) (fun hz => absurd hz (by decide))
                refine r_iconst g (-1) dX11_name_71 (by decide) ?_
                exact hr.2.1 _ rfl _ _ _ _ _ _ dX11_name_72 rfl (Nat.le_refl 0) (Nat.le_refl 0) h
              · replace h := h.2 c37
                by_cases c40 : (hI μ a0_book 6) ≤ x2
                · replace h := h.1 c40
                  refine r_callV (st := []) (As := [.int x2]) g sX11_157 iX2_hasFirm eX2_hasFirm rfl hs_a0_book rfl (Nat.le_of_ble_eq_true rfl) dX11_name_51 (by omega) (Nat.le_refl 0) (Nat.le_refl 0) (P_X2_hasFirm_1 (d := d - 1) hs_a0_book c37 c40) (fun r41 μ42 hZ1 => ?_)
                  obtain ⟨rfl, e9⟩ := hZ1
                  replace e9 := e9.symm
                  subst e9
                  refine r_if_eq g 71 dX11_name_54 (by decide) (fun _ => ?_) (fun hz => absurd hz (by decide))
                  refine r_iconst g (-1) dX11_name_71 (by decide) ?_
                  exact hr.2.1 _ rfl _ _ _ _ _ _ dX11_name_72 rfl (Nat.le_refl 0) (Nat.le_refl 0) h
                · replace h := h.2 c40
                  refine r_callV (st := []) (As := [.int x2]) g sX11_157 iX2_hasFirm eX2_hasFirm rfl hs_a0_book rfl (Nat.le_of_ble_eq_true rfl) dX11_name_51 (by omega) (Nat.le_refl 0) (Nat.le_refl 0) (P_X2_hasFirm_2 (d := d - 1) hs_a0_book c37 c40) (fun r43 μ44 hZ1 => ?_)
                  obtain ⟨rfl, e9⟩ := hZ1
                  replace e9 := e9.symm
                  subst e9
                  refine r_if_eq g 71 dX11_name_54 (by decide) (fun hz => absurd hz (by decide)) (fun _ => ?_)
                  refine r_aload_n g dX11_name_57 rfl ?_
                  refine r_getR g fX11_72 rfl hs_a0 hr_a0_book dX11_name_58 ?_
                  refine r_getR g fX11_177 rfl hs_a0_book hr_a0_book_firmNames dX11_name_61 ?_
                  refine r_iload_n g dX11_name_64 rfl ?_
                  obtain ⟨hi45, h⟩ := h
                  refine r_laload g hs_a0_book_firmNames hi45 dX11_name_65 ?_
                  refine r_iload_n g dX11_name_66 rfl ?_
                  obtain ⟨d1, Z1, hc1, hd1, h1⟩ := h
                  refine r_callS (st := []) (As := [.long (hL μ a0_book_firmNames x2.toNatClampNeg), .int x3]) g sX11_173 iX6_letterOf rfl (Nat.le_of_ble_eq_true rfl) dX11_name_67 hd1 (Nat.le_refl 0) (Nat.le_refl 0) hc1 (fun r46 μ47 hZ1 => ?_)
                  replace h := h1 _ _ hZ1
                  clear h1 hc1 hd1 hZ1 Z1 d1
                  obtain ⟨y48, rfl, h⟩ := h
                  exact hr.2.1 _ rfl _ _ _ _ _ _ dX11_name_70 rfl (Nat.le_refl 0) (Nat.le_refl 0) h
          · replace h := h.2 c33
            refine r_callV (st := []) (As := [.int x2]) g sX11_147 iX2_hasLand eX2_hasLand rfl hs_a0_book rfl (Nat.le_of_ble_eq_true rfl) dX11_name_21 (by omega) (Nat.le_refl 0) (Nat.le_refl 0) (P_X2_hasLand_2 (d := d - 1) hs_a0_book c17 c33) (fun r49 μ50 hZ1 => ?_)
            obtain ⟨rfl, e9⟩ := hZ1
            replace e9 := e9.symm
            subst e9
            refine r_if_eq g 41 dX11_name_24 (by decide) (fun hz => absurd hz (by decide)) (fun _ => ?_)
            refine r_aload_n g dX11_name_27 rfl ?_
            refine r_getR g fX11_72 rfl hs_a0 hr_a0_book dX11_name_28 ?_
            refine r_getR g fX11_169 rfl hs_a0_book hr_a0_book_landNames dX11_name_31 ?_
            refine r_iload_n g dX11_name_34 rfl ?_
            obtain ⟨hi51, h⟩ := h
            refine r_laload g hs_a0_book_landNames hi51 dX11_name_35 ?_
            refine r_iload_n g dX11_name_36 rfl ?_
            obtain ⟨d1, Z1, hc1, hd1, h1⟩ := h
            refine r_callS (st := []) (As := [.long (hL μ a0_book_landNames x2.toNatClampNeg), .int x3]) g sX11_173 iX6_letterOf rfl (Nat.le_of_ble_eq_true rfl) dX11_name_37 hd1 (Nat.le_refl 0) (Nat.le_refl 0) hc1 (fun r52 μ53 hZ1 => ?_)
            replace h := h1 _ _ hZ1
            clear h1 hc1 hd1 hZ1 Z1 d1
            obtain ⟨y54, rfl, h⟩ := h
            exact hr.2.1 _ rfl _ _ _ _ _ _ dX11_name_40 rfl (Nat.le_refl 0) (Nat.le_refl 0) h
    · replace h := h.2 c2
      refine r_iconst g (-1) dX11_name_10 (by decide) ?_
      exact hr.2.1 _ rfl _ _ _ _ _ _ dX11_name_11 rfl (Nat.le_refl 0) (Nat.le_refl 0) h
theorem I_X11_name {d : Nat} {ro : Nat → Nat} {Z : Option Value → Hp → Prop} {μ : Hp} {a0 : Nat} {x1 : Int32} {x2 : Int32} {x3 : Int32} (h : ∀ J, xCtx RX11 cX11_name 4 d 0 0 yX11_name.name ro J → xRet cX11_name (some .int) 0 0 Z J → J μ 0 0 0 [(0, .ref a0), (1, .int x1), (2, .int x2), (3, .int x3)] []) : xC d yX11_name cX11_name 4 (some .int) 0 0 [.ref a0, .int x1, .int x2, .int x3] μ ro Z :=
  xC_intro (own := RX11) (lv := [(0, .ref a0), (1, .int x1), (2, .int x2), (3, .int x3)]) (by decide) rfl (Nat.le_of_ble_eq_true rfl) rfl (fun J g hr => r_sub g (lv' := [(0, .ref a0), (1, .int x1), (2, .int x2), (3, .int x3)]) (⟨rfl, rfl, rfl, rfl, trivial⟩) (h J g hr))
theorem dX11_link_0 : decode cX11_link 0 = .ok (.aload_n 0, 1) := by decide +kernel
theorem dX11_link_1 : decode cX11_link 1 = .ok (.getfield 96, 3) := by decide +kernel
theorem dX11_link_4 : decode cX11_link 4 = .ok (.iload_n 1, 1) := by decide +kernel
theorem dX11_link_5 : decode cX11_link 5 = .ok (.invokevirtual 180, 3) := by decide +kernel
theorem dX11_link_8 : decode cX11_link 8 = .ok (.ifCond .eq 12, 3) := by decide +kernel
theorem dX11_link_11 : decode cX11_link 11 = .ok (.iload_n 2, 1) := by decide +kernel
theorem dX11_link_12 : decode cX11_link 12 = .ok (.ifCond .lt 8, 3) := by decide +kernel
theorem dX11_link_15 : decode cX11_link 15 = .ok (.iload_n 2, 1) := by decide +kernel
theorem dX11_link_16 : decode cX11_link 16 = .ok (.iconst 5, 1) := by decide +kernel
theorem dX11_link_17 : decode cX11_link 17 = .ok (.if_icmp .lt 5, 3) := by decide +kernel
theorem dX11_link_20 : decode cX11_link 20 = .ok (.iconst (-1), 1) := by decide +kernel
theorem dX11_link_21 : decode cX11_link 21 = .ok (.ireturn, 1) := by decide +kernel
theorem dX11_link_22 : decode cX11_link 22 = .ok (.aload_n 0, 1) := by decide +kernel
theorem dX11_link_23 : decode cX11_link 23 = .ok (.getfield 96, 3) := by decide +kernel
theorem dX11_link_26 : decode cX11_link 26 = .ok (.getfield 151, 3) := by decide +kernel
theorem dX11_link_29 : decode cX11_link 29 = .ok (.bipush 32, 2) := by decide +kernel
theorem dX11_link_31 : decode cX11_link 31 = .ok (.iload_n 2, 1) := by decide +kernel
theorem dX11_link_32 : decode cX11_link 32 = .ok (.bipush 16, 2) := by decide +kernel
theorem dX11_link_34 : decode cX11_link 34 = .ok (.imul, 1) := by decide +kernel
theorem dX11_link_35 : decode cX11_link 35 = .ok (.iadd, 1) := by decide +kernel
theorem dX11_link_36 : decode cX11_link 36 = .ok (.iload_n 1, 1) := by decide +kernel
theorem dX11_link_37 : decode cX11_link 37 = .ok (.iadd, 1) := by decide +kernel
theorem dX11_link_38 : decode cX11_link 38 = .ok (.iaload, 1) := by decide +kernel
theorem dX11_link_39 : decode cX11_link 39 = .ok (.ireturn, 1) := by decide +kernel
set_option maxHeartbeats 4000000 in
set_option maxRecDepth 100000 in
theorem B_X11_link_0 {d : Nat} {ro : Nat → Nat} {J : JT} {Z : Option Value → Hp → Prop} (g : xCtx RX11 cX11_link 3 d 0 0 yX11_link.name ro J) (hr : xRet cX11_link (some .int) 0 0 Z J) {μ : Hp} {a0 : Nat} {x1 : Int32} {x2 : Int32} {a0_now : Nat} {a0_now_row : Nat} {N_a0_now_row : Nat} (hs_a0 : hS μ a0 = some (14, 18)) (hr_a0_now : hR μ a0 10 = some a0_now) (hs_a0_now : hS μ a0_now = some (12, 4)) (hr_a0_now_row : hR μ a0_now 0 = some a0_now_row) (hs_a0_now_row : hS μ a0_now_row = some (0, N_a0_now_row)) (hd9 : 1 ≤ d)
    (h : ((x1 < 0 → Z (some (.int (-1))) μ) ∧ (¬ x1 < 0 → vp_in 1 N_a0_now_row ∧ (((hI μ a0_now_row 1) ≤ x1 → Z (some (.int (-1))) μ) ∧ (¬ (hI μ a0_now_row 1) ≤ x1 → ((x2 < 0 → Z (some (.int (-1))) μ) ∧ (¬ x2 < 0 → ((x2 < 5 → vp_in ((32 + (x2 * 16)) + x1) N_a0_now_row ∧ Z (some (.int (hI μ a0_now_row (((32 + (x2 * 16)) + x1).toNatClampNeg)))) μ) ∧ (¬ x2 < 5 → Z (some (.int (-1))) μ))))))))) :
    J μ 0 0 0 [(0, .ref a0), (1, .int x1), (2, .int x2)] [] := by
  refine r_aload_n g dX11_link_0 rfl ?_
  refine r_getR g fX11_96 rfl hs_a0 hr_a0_now dX11_link_1 ?_
  refine r_iload_n g dX11_link_4 rfl ?_
  by_cases c1 : x1 < 0
  · replace h := h.1 c1
    refine r_callV (st := []) (As := [.int x1]) g sX11_180 iX8_hasLink eX8_hasLink rfl hs_a0_now rfl (Nat.le_of_ble_eq_true rfl) dX11_link_5 (by omega) (Nat.le_refl 0) (Nat.le_refl 0) (P_X8_hasLink_0 (d := d - 1) hs_a0_now hr_a0_now_row hs_a0_now_row c1) (fun r2 μ3 hZ1 => ?_)
    obtain ⟨rfl, e9⟩ := hZ1
    replace e9 := e9.symm
    subst e9
    refine r_if_eq g 20 dX11_link_8 (by decide) (fun _ => ?_) (fun hz => absurd hz (by decide))
    refine r_iconst g (-1) dX11_link_20 (by decide) ?_
    exact hr.2.1 _ rfl _ _ _ _ _ _ dX11_link_21 rfl (Nat.le_refl 0) (Nat.le_refl 0) h
  · replace h := h.2 c1
    obtain ⟨hi4, h⟩ := h
    by_cases c5 : (hI μ a0_now_row 1) ≤ x1
    · replace h := h.1 c5
      refine r_callV (st := []) (As := [.int x1]) g sX11_180 iX8_hasLink eX8_hasLink rfl hs_a0_now rfl (Nat.le_of_ble_eq_true rfl) dX11_link_5 (by omega) (Nat.le_refl 0) (Nat.le_refl 0) (P_X8_hasLink_1 (d := d - 1) hs_a0_now hr_a0_now_row hs_a0_now_row c1 hi4 c5) (fun r6 μ7 hZ1 => ?_)
      obtain ⟨rfl, e9⟩ := hZ1
      replace e9 := e9.symm
      subst e9
      refine r_if_eq g 20 dX11_link_8 (by decide) (fun _ => ?_) (fun hz => absurd hz (by decide))
      refine r_iconst g (-1) dX11_link_20 (by decide) ?_
      exact hr.2.1 _ rfl _ _ _ _ _ _ dX11_link_21 rfl (Nat.le_refl 0) (Nat.le_refl 0) h
    · replace h := h.2 c5
      refine r_callV (st := []) (As := [.int x1]) g sX11_180 iX8_hasLink eX8_hasLink rfl hs_a0_now rfl (Nat.le_of_ble_eq_true rfl) dX11_link_5 (by omega) (Nat.le_refl 0) (Nat.le_refl 0) (P_X8_hasLink_2 (d := d - 1) hs_a0_now hr_a0_now_row hs_a0_now_row c1 hi4 c5) (fun r8 μ9 hZ1 => ?_)
      obtain ⟨rfl, e9⟩ := hZ1
      replace e9 := e9.symm
      subst e9
      refine r_if_eq g 20 dX11_link_8 (by decide) (fun hz => absurd hz (by decide)) (fun _ => ?_)
      refine r_iload_n g dX11_link_11 rfl ?_
      refine r_if_lt g 20 dX11_link_12 (by decide) (fun c10 => ?_) (fun c10 => ?_)
      · replace h := h.1 c10
        refine r_iconst g (-1) dX11_link_20 (by decide) ?_
        exact hr.2.1 _ rfl _ _ _ _ _ _ dX11_link_21 rfl (Nat.le_refl 0) (Nat.le_refl 0) h
      · replace h := h.2 c10
        refine r_iload_n g dX11_link_15 rfl ?_
        refine r_iconst g 5 dX11_link_16 (by decide) ?_
        refine r_icmp_lt g 22 dX11_link_17 (by decide) (fun c11 => ?_) (fun c11 => ?_)
        · replace h := h.1 c11
          refine r_aload_n g dX11_link_22 rfl ?_
          refine r_getR g fX11_96 rfl hs_a0 hr_a0_now dX11_link_23 ?_
          refine r_getR g fX11_151 rfl hs_a0_now hr_a0_now_row dX11_link_26 ?_
          refine r_bipush g 32 dX11_link_29 (by decide) ?_
          refine r_iload_n g dX11_link_31 rfl ?_
          refine r_bipush g 16 dX11_link_32 (by decide) ?_
          refine r_imul g dX11_link_34 ?_
          refine r_iadd g dX11_link_35 ?_
          refine r_iload_n g dX11_link_36 rfl ?_
          refine r_iadd g dX11_link_37 ?_
          obtain ⟨hi12, h⟩ := h
          refine r_iaload g hs_a0_now_row hi12 dX11_link_38 ?_
          exact hr.2.1 _ rfl _ _ _ _ _ _ dX11_link_39 rfl (Nat.le_refl 0) (Nat.le_refl 0) h
        · replace h := h.2 c11
          refine r_iconst g (-1) dX11_link_20 (by decide) ?_
          exact hr.2.1 _ rfl _ _ _ _ _ _ dX11_link_21 rfl (Nat.le_refl 0) (Nat.le_refl 0) h
theorem I_X11_link {d : Nat} {ro : Nat → Nat} {Z : Option Value → Hp → Prop} {μ : Hp} {a0 : Nat} {x1 : Int32} {x2 : Int32} (h : ∀ J, xCtx RX11 cX11_link 3 d 0 0 yX11_link.name ro J → xRet cX11_link (some .int) 0 0 Z J → J μ 0 0 0 [(0, .ref a0), (1, .int x1), (2, .int x2)] []) : xC d yX11_link cX11_link 3 (some .int) 0 0 [.ref a0, .int x1, .int x2] μ ro Z :=
  xC_intro (own := RX11) (lv := [(0, .ref a0), (1, .int x1), (2, .int x2)]) (by decide) rfl (Nat.le_of_ble_eq_true rfl) rfl (fun J g hr => r_sub g (lv' := [(0, .ref a0), (1, .int x1), (2, .int x2)]) (⟨rfl, rfl, rfl, trivial⟩) (h J g hr))
theorem dX11_treaty_0 : decode cX11_treaty 0 = .ok (.aload_n 0, 1) := by decide +kernel
theorem dX11_treaty_1 : decode cX11_treaty 1 = .ok (.getfield 72, 3) := by decide +kernel
theorem dX11_treaty_4 : decode cX11_treaty 4 = .ok (.iload_n 1, 1) := by decide +kernel
theorem dX11_treaty_5 : decode cX11_treaty 5 = .ok (.invokevirtual 147, 3) := by decide +kernel
theorem dX11_treaty_8 : decode cX11_treaty 8 = .ok (.ifCond .eq 33, 3) := by decide +kernel
theorem dX11_treaty_11 : decode cX11_treaty 11 = .ok (.aload_n 0, 1) := by decide +kernel
theorem dX11_treaty_12 : decode cX11_treaty 12 = .ok (.getfield 72, 3) := by decide +kernel
theorem dX11_treaty_15 : decode cX11_treaty 15 = .ok (.iload_n 2, 1) := by decide +kernel
theorem dX11_treaty_16 : decode cX11_treaty 16 = .ok (.invokevirtual 147, 3) := by decide +kernel
theorem dX11_treaty_19 : decode cX11_treaty 19 = .ok (.ifCond .eq 22, 3) := by decide +kernel
theorem dX11_treaty_22 : decode cX11_treaty 22 = .ok (.iload_n 3, 1) := by decide +kernel
theorem dX11_treaty_23 : decode cX11_treaty 23 = .ok (.invokestatic 183, 3) := by decide +kernel
theorem dX11_treaty_26 : decode cX11_treaty 26 = .ok (.ifCond .eq 15, 3) := by decide +kernel
theorem dX11_treaty_29 : decode cX11_treaty 29 = .ok (.iload 4, 2) := by decide +kernel
theorem dX11_treaty_31 : decode cX11_treaty 31 = .ok (.ifCond .lt 10, 3) := by decide +kernel
theorem dX11_treaty_34 : decode cX11_treaty 34 = .ok (.iload 4, 2) := by decide +kernel
theorem dX11_treaty_36 : decode cX11_treaty 36 = .ok (.bipush 8, 2) := by decide +kernel
theorem dX11_treaty_38 : decode cX11_treaty 38 = .ok (.if_icmp .lt 5, 3) := by decide +kernel
theorem dX11_treaty_41 : decode cX11_treaty 41 = .ok (.iconst (-1), 1) := by decide +kernel
theorem dX11_treaty_42 : decode cX11_treaty 42 = .ok (.ireturn, 1) := by decide +kernel
theorem dX11_treaty_43 : decode cX11_treaty 43 = .ok (.aload_n 0, 1) := by decide +kernel
theorem dX11_treaty_44 : decode cX11_treaty 44 = .ok (.getfield 72, 3) := by decide +kernel
theorem dX11_treaty_47 : decode cX11_treaty 47 = .ok (.iload_n 1, 1) := by decide +kernel
theorem dX11_treaty_48 : decode cX11_treaty 48 = .ok (.iload_n 2, 1) := by decide +kernel
theorem dX11_treaty_49 : decode cX11_treaty 49 = .ok (.iload_n 3, 1) := by decide +kernel
theorem dX11_treaty_50 : decode cX11_treaty 50 = .ok (.invokevirtual 186, 3) := by decide +kernel
theorem dX11_treaty_53 : decode cX11_treaty 53 = .ok (.istore 5, 2) := by decide +kernel
theorem dX11_treaty_55 : decode cX11_treaty 55 = .ok (.iload 5, 2) := by decide +kernel
theorem dX11_treaty_57 : decode cX11_treaty 57 = .ok (.iconst (-1), 1) := by decide +kernel
theorem dX11_treaty_58 : decode cX11_treaty 58 = .ok (.if_icmp .ne 7, 3) := by decide +kernel
theorem dX11_treaty_61 : decode cX11_treaty 61 = .ok (.iconst (-1), 1) := by decide +kernel
theorem dX11_treaty_62 : decode cX11_treaty 62 = .ok (.goto 21, 3) := by decide +kernel
theorem dX11_treaty_65 : decode cX11_treaty 65 = .ok (.aload_n 0, 1) := by decide +kernel
theorem dX11_treaty_66 : decode cX11_treaty 66 = .ok (.getfield 72, 3) := by decide +kernel
theorem dX11_treaty_69 : decode cX11_treaty 69 = .ok (.getfield 190, 3) := by decide +kernel
theorem dX11_treaty_72 : decode cX11_treaty 72 = .ok (.iconst 0, 1) := by decide +kernel
theorem dX11_treaty_73 : decode cX11_treaty 73 = .ok (.iload 4, 2) := by decide +kernel
theorem dX11_treaty_75 : decode cX11_treaty 75 = .ok (.bipush 12, 2) := by decide +kernel
theorem dX11_treaty_77 : decode cX11_treaty 77 = .ok (.imul, 1) := by decide +kernel
theorem dX11_treaty_78 : decode cX11_treaty 78 = .ok (.iadd, 1) := by decide +kernel
theorem dX11_treaty_79 : decode cX11_treaty 79 = .ok (.iload 5, 2) := by decide +kernel
theorem dX11_treaty_81 : decode cX11_treaty 81 = .ok (.iadd, 1) := by decide +kernel
theorem dX11_treaty_82 : decode cX11_treaty 82 = .ok (.iaload, 1) := by decide +kernel
theorem dX11_treaty_83 : decode cX11_treaty 83 = .ok (.ireturn, 1) := by decide +kernel
set_option maxHeartbeats 4000000 in
set_option maxRecDepth 100000 in
theorem B_X11_treaty_0 {d : Nat} {ro : Nat → Nat} {J : JT} {Z : Option Value → Hp → Prop} (g : xCtx RX11 cX11_treaty 6 d 0 0 yX11_treaty.name ro J) (hr : xRet cX11_treaty (some .int) 0 0 Z J) {μ : Hp} {a0 : Nat} {x1 : Int32} {x2 : Int32} {x3 : Int32} {x4 : Int32} {a0_book : Nat} (hs_a0 : hS μ a0 = some (14, 18)) (hr_a0_book : hR μ a0 13 = some a0_book) (hs_a0_book : hS μ a0_book = some (6, 9)) (hd9 : 1 ≤ d)
    (h : ((x1 < 0 → Z (some (.int (-1))) μ) ∧ (¬ x1 < 0 → (((hI μ a0_book 5) ≤ x1 → Z (some (.int (-1))) μ) ∧ (¬ (hI μ a0_book 5) ≤ x1 → ((x2 < 0 → Z (some (.int (-1))) μ) ∧ (¬ x2 < 0 → (((hI μ a0_book 5) ≤ x2 → Z (some (.int (-1))) μ) ∧ (¬ (hI μ a0_book 5) ≤ x2 → ((x3 < 0 → Z (some (.int (-1))) μ) ∧ (¬ x3 < 0 → ((199 < x3 → Z (some (.int (-1))) μ) ∧ (¬ 199 < x3 → ((x4 < 0 → Z (some (.int (-1))) μ) ∧ (¬ x4 < 0 → ((x4 < 8 → xCall d yX2_treatyOf cX2_treatyOf 10 (some .int) [.ref a0_book, .int x1, .int x2, .int x3] μ ro (fun r27 μ28 => ∃ y29 : Int32, r27 = some (.int y29) ∧ ((¬ y29 = (-1) → hS μ28 a0 = some (14, 18) ∧ ∃ book_31 : Nat, hR μ28 a0 13 = some book_31 ∧ hS μ28 book_31 = some (6, 9) ∧ ∃ treaties_32 : Nat, hR μ28 book_31 4 = some treaties_32 ∧ ∃ N33 : Nat, hS μ28 treaties_32 = some (0, N33) ∧ vp_in ((0 + (x4 * 12)) + y29) N33 ∧ Z (some (.int (hI μ28 treaties_32 (((0 + (x4 * 12)) + y29).toNatClampNeg)))) μ28) ∧ (y29 = (-1) → Z (some (.int (-1))) μ28)))) ∧ (¬ x4 < 8 → Z (some (.int (-1))) μ))))))))))))))))) :
    J μ 0 0 0 [(0, .ref a0), (1, .int x1), (2, .int x2), (3, .int x3), (4, .int x4)] [] := by
  refine r_aload_n g dX11_treaty_0 rfl ?_
  refine r_getR g fX11_72 rfl hs_a0 hr_a0_book dX11_treaty_1 ?_
  refine r_iload_n g dX11_treaty_4 rfl ?_
  by_cases c1 : x1 < 0
  · replace h := h.1 c1
    refine r_callV (st := []) (As := [.int x1]) g sX11_147 iX2_hasLand eX2_hasLand rfl hs_a0_book rfl (Nat.le_of_ble_eq_true rfl) dX11_treaty_5 (by omega) (Nat.le_refl 0) (Nat.le_refl 0) (P_X2_hasLand_0 (d := d - 1) hs_a0_book c1) (fun r2 μ3 hZ1 => ?_)
    obtain ⟨rfl, e9⟩ := hZ1
    replace e9 := e9.symm
    subst e9
    refine r_if_eq g 41 dX11_treaty_8 (by decide) (fun _ => ?_) (fun hz => absurd hz (by decide))
    refine r_iconst g (-1) dX11_treaty_41 (by decide) ?_
    exact hr.2.1 _ rfl _ _ _ _ _ _ dX11_treaty_42 rfl (Nat.le_refl 0) (Nat.le_refl 0) h
  · replace h := h.2 c1
    by_cases c4 : (hI μ a0_book 5) ≤ x1
    · replace h := h.1 c4
      refine r_callV (st := []) (As := [.int x1]) g sX11_147 iX2_hasLand eX2_hasLand rfl hs_a0_book rfl (Nat.le_of_ble_eq_true rfl) dX11_treaty_5 (by omega) (Nat.le_refl 0) (Nat.le_refl 0) (P_X2_hasLand_1 (d := d - 1) hs_a0_book c1 c4) (fun r5 μ6 hZ1 => ?_)
      obtain ⟨rfl, e9⟩ := hZ1
      replace e9 := e9.symm
      subst e9
      refine r_if_eq g 41 dX11_treaty_8 (by decide) (fun _ => ?_) (fun hz => absurd hz (by decide))
      refine r_iconst g (-1) dX11_treaty_41 (by decide) ?_
      exact hr.2.1 _ rfl _ _ _ _ _ _ dX11_treaty_42 rfl (Nat.le_refl 0) (Nat.le_refl 0) h
    · replace h := h.2 c4
      refine r_callV (st := []) (As := [.int x1]) g sX11_147 iX2_hasLand eX2_hasLand rfl hs_a0_book rfl (Nat.le_of_ble_eq_true rfl) dX11_treaty_5 (by omega) (Nat.le_refl 0) (Nat.le_refl 0) (P_X2_hasLand_2 (d := d - 1) hs_a0_book c1 c4) (fun r7 μ8 hZ1 => ?_)
      obtain ⟨rfl, e9⟩ := hZ1
      replace e9 := e9.symm
      subst e9
      refine r_if_eq g 41 dX11_treaty_8 (by decide) (fun hz => absurd hz (by decide)) (fun _ => ?_)
      refine r_aload_n g dX11_treaty_11 rfl ?_
      refine r_getR g fX11_72 rfl hs_a0 hr_a0_book dX11_treaty_12 ?_
      refine r_iload_n g dX11_treaty_15 rfl ?_
      by_cases c9 : x2 < 0
      · replace h := h.1 c9
        refine r_callV (st := []) (As := [.int x2]) g sX11_147 iX2_hasLand eX2_hasLand rfl hs_a0_book rfl (Nat.le_of_ble_eq_true rfl) dX11_treaty_16 (by omega) (Nat.le_refl 0) (Nat.le_refl 0) (P_X2_hasLand_0 (d := d - 1) hs_a0_book c9) (fun r10 μ11 hZ1 => ?_)
        obtain ⟨rfl, e9⟩ := hZ1
        replace e9 := e9.symm
        subst e9
        refine r_if_eq g 41 dX11_treaty_19 (by decide) (fun _ => ?_) (fun hz => absurd hz (by decide))
        refine r_iconst g (-1) dX11_treaty_41 (by decide) ?_
        exact hr.2.1 _ rfl _ _ _ _ _ _ dX11_treaty_42 rfl (Nat.le_refl 0) (Nat.le_refl 0) h
      · replace h := h.2 c9
        by_cases c12 : (hI μ a0_book 5) ≤ x2
        · replace h := h.1 c12
          refine r_callV (st := []) (As := [.int x2]) g sX11_147 iX2_hasLand eX2_hasLand rfl hs_a0_book rfl (Nat.le_of_ble_eq_true rfl) dX11_treaty_16 (by omega) (Nat.le_refl 0) (Nat.le_refl 0) (P_X2_hasLand_1 (d := d - 1) hs_a0_book c9 c12) (fun r13 μ14 hZ1 => ?_)
          obtain ⟨rfl, e9⟩ := hZ1
          replace e9 := e9.symm
          subst e9
          refine r_if_eq g 41 dX11_treaty_19 (by decide) (fun _ => ?_) (fun hz => absurd hz (by decide))
          refine r_iconst g (-1) dX11_treaty_41 (by decide) ?_
          exact hr.2.1 _ rfl _ _ _ _ _ _ dX11_treaty_42 rfl (Nat.le_refl 0) (Nat.le_refl 0) h
        · replace h := h.2 c12
          refine r_callV (st := []) (As := [.int x2]) g sX11_147 iX2_hasLand eX2_hasLand rfl hs_a0_book rfl (Nat.le_of_ble_eq_true rfl) dX11_treaty_16 (by omega) (Nat.le_refl 0) (Nat.le_refl 0) (P_X2_hasLand_2 (d := d - 1) hs_a0_book c9 c12) (fun r15 μ16 hZ1 => ?_)
          obtain ⟨rfl, e9⟩ := hZ1
          replace e9 := e9.symm
          subst e9
          refine r_if_eq g 41 dX11_treaty_19 (by decide) (fun hz => absurd hz (by decide)) (fun _ => ?_)
          refine r_iload_n g dX11_treaty_22 rfl ?_
          by_cases c17 : x3 < 0
          · replace h := h.1 c17
            refine r_callS (st := []) (As := [.int x3]) g sX11_183 iX11_isYear rfl (Nat.le_of_ble_eq_true rfl) dX11_treaty_23 (by omega) (Nat.le_refl 0) (Nat.le_refl 0) (P_X11_isYear_0 (d := d - 1)  c17) (fun r18 μ19 hZ1 => ?_)
            obtain ⟨rfl, e9⟩ := hZ1
            replace e9 := e9.symm
            subst e9
            refine r_if_eq g 41 dX11_treaty_26 (by decide) (fun _ => ?_) (fun hz => absurd hz (by decide))
            refine r_iconst g (-1) dX11_treaty_41 (by decide) ?_
            exact hr.2.1 _ rfl _ _ _ _ _ _ dX11_treaty_42 rfl (Nat.le_refl 0) (Nat.le_refl 0) h
          · replace h := h.2 c17
            by_cases c20 : 199 < x3
            · replace h := h.1 c20
              refine r_callS (st := []) (As := [.int x3]) g sX11_183 iX11_isYear rfl (Nat.le_of_ble_eq_true rfl) dX11_treaty_23 (by omega) (Nat.le_refl 0) (Nat.le_refl 0) (P_X11_isYear_1 (d := d - 1)  c17 c20) (fun r21 μ22 hZ1 => ?_)
              obtain ⟨rfl, e9⟩ := hZ1
              replace e9 := e9.symm
              subst e9
              refine r_if_eq g 41 dX11_treaty_26 (by decide) (fun _ => ?_) (fun hz => absurd hz (by decide))
              refine r_iconst g (-1) dX11_treaty_41 (by decide) ?_
              exact hr.2.1 _ rfl _ _ _ _ _ _ dX11_treaty_42 rfl (Nat.le_refl 0) (Nat.le_refl 0) h
            · replace h := h.2 c20
              refine r_callS (st := []) (As := [.int x3]) g sX11_183 iX11_isYear rfl (Nat.le_of_ble_eq_true rfl) dX11_treaty_23 (by omega) (Nat.le_refl 0) (Nat.le_refl 0) (P_X11_isYear_2 (d := d - 1)  c17 c20) (fun r23 μ24 hZ1 => ?_)
              obtain ⟨rfl, e9⟩ := hZ1
              replace e9 := e9.symm
              subst e9
              refine r_if_eq g 41 dX11_treaty_26 (by decide) (fun hz => absurd hz (by decide)) (fun _ => ?_)
              refine r_iload g dX11_treaty_29 rfl ?_
              refine r_if_lt g 41 dX11_treaty_31 (by decide) (fun c25 => ?_) (fun c25 => ?_)
              · replace h := h.1 c25
                refine r_iconst g (-1) dX11_treaty_41 (by decide) ?_
                exact hr.2.1 _ rfl _ _ _ _ _ _ dX11_treaty_42 rfl (Nat.le_refl 0) (Nat.le_refl 0) h
              · replace h := h.2 c25
                refine r_iload g dX11_treaty_34 rfl ?_
                refine r_bipush g 8 dX11_treaty_36 (by decide) ?_
                refine r_icmp_lt g 43 dX11_treaty_38 (by decide) (fun c26 => ?_) (fun c26 => ?_)
                · replace h := h.1 c26
                  refine r_aload_n g dX11_treaty_43 rfl ?_
                  refine r_getR g fX11_72 rfl hs_a0 hr_a0_book dX11_treaty_44 ?_
                  refine r_iload_n g dX11_treaty_47 rfl ?_
                  refine r_iload_n g dX11_treaty_48 rfl ?_
                  refine r_iload_n g dX11_treaty_49 rfl ?_
                  obtain ⟨d1, Z1, hc1, hd1, h1⟩ := h
                  refine r_callV (st := []) (As := [.int x1, .int x2, .int x3]) g sX11_186 iX2_treatyOf eX2_treatyOf rfl hs_a0_book rfl (Nat.le_of_ble_eq_true rfl) dX11_treaty_50 hd1 (Nat.le_refl 0) (Nat.le_refl 0) hc1 (fun r27 μ28 hZ1 => ?_)
                  replace h := h1 _ _ hZ1
                  clear h1 hc1 hd1 hZ1 Z1 d1
                  obtain ⟨y29, rfl, h⟩ := h
                  refine r_istore g [(5, .int y29), (0, .ref a0), (1, .int x1), (2, .int x2), (3, .int x3), (4, .int x4)] dX11_treaty_53 (by decide) rfl ?_
                  refine r_iload g dX11_treaty_55 rfl ?_
                  refine r_iconst g (-1) dX11_treaty_57 (by decide) ?_
                  refine r_icmp_ne g 65 dX11_treaty_58 (by decide) (fun c30 => ?_) (fun c30 => ?_)
                  · replace h := h.1 c30
                    refine r_aload_n g dX11_treaty_65 rfl ?_
                    obtain ⟨hs_a0_, h⟩ := h
                    obtain ⟨book_31, hr_book_31, h⟩ := h
                    refine r_getR g fX11_72 rfl hs_a0_ hr_book_31 dX11_treaty_66 ?_
                    obtain ⟨hs_book_31, h⟩ := h
                    obtain ⟨treaties_32, hr_treaties_32, h⟩ := h
                    refine r_getR g fX11_190 rfl hs_book_31 hr_treaties_32 dX11_treaty_69 ?_
                    refine r_iconst g 0 dX11_treaty_72 (by decide) ?_
                    refine r_iload g dX11_treaty_73 rfl ?_
                    refine r_bipush g 12 dX11_treaty_75 (by decide) ?_
                    refine r_imul g dX11_treaty_77 ?_
                    refine r_iadd g dX11_treaty_78 ?_
                    refine r_iload g dX11_treaty_79 rfl ?_
                    refine r_iadd g dX11_treaty_81 ?_
                    obtain ⟨N33, hs_treaties_32, h⟩ := h
                    obtain ⟨hi34, h⟩ := h
                    refine r_iaload g hs_treaties_32 hi34 dX11_treaty_82 ?_
                    exact hr.2.1 _ rfl _ _ _ _ _ _ dX11_treaty_83 rfl (Nat.le_refl 0) (Nat.le_refl 0) h
                  · replace h := h.2 c30
                    refine r_iconst g (-1) dX11_treaty_61 (by decide) ?_
                    refine r_goto g 83 dX11_treaty_62 (by decide) ?_
                    exact hr.2.1 _ rfl _ _ _ _ _ _ dX11_treaty_83 rfl (Nat.le_refl 0) (Nat.le_refl 0) h
                · replace h := h.2 c26
                  refine r_iconst g (-1) dX11_treaty_41 (by decide) ?_
                  exact hr.2.1 _ rfl _ _ _ _ _ _ dX11_treaty_42 rfl (Nat.le_refl 0) (Nat.le_refl 0) h
theorem I_X11_treaty {d : Nat} {ro : Nat → Nat} {Z : Option Value → Hp → Prop} {μ : Hp} {a0 : Nat} {x1 : Int32} {x2 : Int32} {x3 : Int32} {x4 : Int32} (h : ∀ J, xCtx RX11 cX11_treaty 6 d 0 0 yX11_treaty.name ro J → xRet cX11_treaty (some .int) 0 0 Z J → J μ 0 0 0 [(0, .ref a0), (1, .int x1), (2, .int x2), (3, .int x3), (4, .int x4)] []) : xC d yX11_treaty cX11_treaty 6 (some .int) 0 0 [.ref a0, .int x1, .int x2, .int x3, .int x4] μ ro Z :=
  xC_intro (own := RX11) (lv := [(0, .ref a0), (1, .int x1), (2, .int x2), (3, .int x3), (4, .int x4)]) (by decide) rfl (Nat.le_of_ble_eq_true rfl) rfl (fun J g hr => r_sub g (lv' := [(0, .ref a0), (1, .int x1), (2, .int x2), (3, .int x3), (4, .int x4)]) (⟨rfl, rfl, rfl, rfl, rfl, trivial⟩) (h J g hr))
theorem dX11_hop_0 : decode cX11_hop 0 = .ok (.iload_n 1, 1) := by decide +kernel
theorem dX11_hop_1 : decode cX11_hop 1 = .ok (.invokestatic 193, 3) := by decide +kernel
theorem dX11_hop_4 : decode cX11_hop 4 = .ok (.ifCond .eq 37, 3) := by decide +kernel
theorem dX11_hop_7 : decode cX11_hop 7 = .ok (.aload_n 0, 1) := by decide +kernel
theorem dX11_hop_8 : decode cX11_hop 8 = .ok (.getfield 72, 3) := by decide +kernel
theorem dX11_hop_11 : decode cX11_hop 11 = .ok (.iload_n 2, 1) := by decide +kernel
theorem dX11_hop_12 : decode cX11_hop 12 = .ok (.invokevirtual 157, 3) := by decide +kernel
theorem dX11_hop_15 : decode cX11_hop 15 = .ok (.ifCond .eq 26, 3) := by decide +kernel
theorem dX11_hop_18 : decode cX11_hop 18 = .ok (.aload_n 0, 1) := by decide +kernel
theorem dX11_hop_19 : decode cX11_hop 19 = .ok (.getfield 72, 3) := by decide +kernel
theorem dX11_hop_22 : decode cX11_hop 22 = .ok (.iload_n 3, 1) := by decide +kernel
theorem dX11_hop_23 : decode cX11_hop 23 = .ok (.invokevirtual 157, 3) := by decide +kernel
theorem dX11_hop_26 : decode cX11_hop 26 = .ok (.ifCond .eq 15, 3) := by decide +kernel
theorem dX11_hop_29 : decode cX11_hop 29 = .ok (.aload_n 0, 1) := by decide +kernel
theorem dX11_hop_30 : decode cX11_hop 30 = .ok (.getfield 72, 3) := by decide +kernel
theorem dX11_hop_33 : decode cX11_hop 33 = .ok (.iload 4, 2) := by decide +kernel
theorem dX11_hop_35 : decode cX11_hop 35 = .ok (.invokevirtual 157, 3) := by decide +kernel
theorem dX11_hop_38 : decode cX11_hop 38 = .ok (.ifCond .ne 5, 3) := by decide +kernel
theorem dX11_hop_41 : decode cX11_hop 41 = .ok (.iconst (-1), 1) := by decide +kernel
theorem dX11_hop_42 : decode cX11_hop 42 = .ok (.ireturn, 1) := by decide +kernel
theorem dX11_hop_43 : decode cX11_hop 43 = .ok (.iload 5, 2) := by decide +kernel
theorem dX11_hop_45 : decode cX11_hop 45 = .ok (.ifCond .lt 9, 3) := by decide +kernel
theorem dX11_hop_48 : decode cX11_hop 48 = .ok (.iload 5, 2) := by decide +kernel
theorem dX11_hop_50 : decode cX11_hop 50 = .ok (.iconst 1, 1) := by decide +kernel
theorem dX11_hop_51 : decode cX11_hop 51 = .ok (.if_icmp .le 5, 3) := by decide +kernel
theorem dX11_hop_54 : decode cX11_hop 54 = .ok (.iconst (-1), 1) := by decide +kernel
theorem dX11_hop_55 : decode cX11_hop 55 = .ok (.ireturn, 1) := by decide +kernel
theorem dX11_hop_56 : decode cX11_hop 56 = .ok (.aload_n 0, 1) := by decide +kernel
theorem dX11_hop_57 : decode cX11_hop 57 = .ok (.getfield 25, 3) := by decide +kernel
theorem dX11_hop_60 : decode cX11_hop 60 = .ok (.aload_n 0, 1) := by decide +kernel
theorem dX11_hop_61 : decode cX11_hop 61 = .ok (.getfield 96, 3) := by decide +kernel
theorem dX11_hop_64 : decode cX11_hop 64 = .ok (.invokevirtual 196, 3) := by decide +kernel
theorem dX11_hop_67 : decode cX11_hop 67 = .ok (.aload_n 0, 1) := by decide +kernel
theorem dX11_hop_68 : decode cX11_hop 68 = .ok (.getfield 25, 3) := by decide +kernel
theorem dX11_hop_71 : decode cX11_hop 71 = .ok (.aload_n 0, 1) := by decide +kernel
theorem dX11_hop_72 : decode cX11_hop 72 = .ok (.getfield 96, 3) := by decide +kernel
theorem dX11_hop_75 : decode cX11_hop 75 = .ok (.iload_n 1, 1) := by decide +kernel
theorem dX11_hop_76 : decode cX11_hop 76 = .ok (.iload 4, 2) := by decide +kernel
theorem dX11_hop_78 : decode cX11_hop 78 = .ok (.invokevirtual 199, 3) := by decide +kernel
theorem dX11_hop_81 : decode cX11_hop 81 = .ok (.iload_n 2, 1) := by decide +kernel
theorem dX11_hop_82 : decode cX11_hop 82 = .ok (.bipush 8, 2) := by decide +kernel
theorem dX11_hop_84 : decode cX11_hop 84 = .ok (.imul, 1) := by decide +kernel
theorem dX11_hop_85 : decode cX11_hop 85 = .ok (.iload_n 3, 1) := by decide +kernel
theorem dX11_hop_86 : decode cX11_hop 86 = .ok (.iadd, 1) := by decide +kernel
theorem dX11_hop_87 : decode cX11_hop 87 = .ok (.istore 6, 2) := by decide +kernel
theorem dX11_hop_89 : decode cX11_hop 89 = .ok (.aload_n 0, 1) := by decide +kernel
theorem dX11_hop_90 : decode cX11_hop 90 = .ok (.getfield 25, 3) := by decide +kernel
theorem dX11_hop_93 : decode cX11_hop 93 = .ok (.getfield 203, 3) := by decide +kernel
theorem dX11_hop_96 : decode cX11_hop 96 = .ok (.iload 6, 2) := by decide +kernel
theorem dX11_hop_98 : decode cX11_hop 98 = .ok (.iaload, 1) := by decide +kernel
theorem dX11_hop_99 : decode cX11_hop 99 = .ok (.iconst (-1), 1) := by decide +kernel
theorem dX11_hop_100 : decode cX11_hop 100 = .ok (.if_icmp .ne 5, 3) := by decide +kernel
theorem dX11_hop_103 : decode cX11_hop 103 = .ok (.iconst (-1), 1) := by decide +kernel
theorem dX11_hop_104 : decode cX11_hop 104 = .ok (.ireturn, 1) := by decide +kernel
theorem dX11_hop_105 : decode cX11_hop 105 = .ok (.iload 5, 2) := by decide +kernel
theorem dX11_hop_107 : decode cX11_hop 107 = .ok (.ifCond .ne 16, 3) := by decide +kernel
theorem dX11_hop_110 : decode cX11_hop 110 = .ok (.aload_n 0, 1) := by decide +kernel
theorem dX11_hop_111 : decode cX11_hop 111 = .ok (.getfield 25, 3) := by decide +kernel
theorem dX11_hop_114 : decode cX11_hop 114 = .ok (.getfield 206, 3) := by decide +kernel
theorem dX11_hop_117 : decode cX11_hop 117 = .ok (.iload 6, 2) := by decide +kernel
theorem dX11_hop_119 : decode cX11_hop 119 = .ok (.iaload, 1) := by decide +kernel
theorem dX11_hop_120 : decode cX11_hop 120 = .ok (.goto 13, 3) := by decide +kernel
theorem dX11_hop_123 : decode cX11_hop 123 = .ok (.aload_n 0, 1) := by decide +kernel
theorem dX11_hop_124 : decode cX11_hop 124 = .ok (.getfield 25, 3) := by decide +kernel
theorem dX11_hop_127 : decode cX11_hop 127 = .ok (.getfield 209, 3) := by decide +kernel
theorem dX11_hop_130 : decode cX11_hop 130 = .ok (.iload 6, 2) := by decide +kernel
theorem dX11_hop_132 : decode cX11_hop 132 = .ok (.iaload, 1) := by decide +kernel
theorem dX11_hop_133 : decode cX11_hop 133 = .ok (.ireturn, 1) := by decide +kernel
set_option maxHeartbeats 4000000 in
set_option maxRecDepth 100000 in
theorem B_X11_hop_0 {d : Nat} {ro : Nat → Nat} {J : JT} {Z : Option Value → Hp → Prop} (g : xCtx RX11 cX11_hop 7 d 0 0 yX11_hop.name ro J) (hr : xRet cX11_hop (some .int) 0 0 Z J) {μ : Hp} {a0 : Nat} {x1 : Int32} {x2 : Int32} {x3 : Int32} {x4 : Int32} {x5 : Int32} {a0_book : Nat} {a0_finder : Nat} {a0_now : Nat} (hs_a0 : hS μ a0 = some (14, 18)) (hr_a0_book : hR μ a0 13 = some a0_book) (hs_a0_book : hS μ a0_book = some (6, 9)) (hr_a0_finder : hR μ a0 2 = some a0_finder) (hr_a0_now : hR μ a0 10 = some a0_now) (hs_a0_finder : hS μ a0_finder = some (7, 9)) (hd9 : 1 ≤ d)
    (h : ((x1 = 0 → ((x2 < 0 → Z (some (.int (-1))) μ) ∧ (¬ x2 < 0 → (((hI μ a0_book 6) ≤ x2 → Z (some (.int (-1))) μ) ∧ (¬ (hI μ a0_book 6) ≤ x2 → ((x3 < 0 → Z (some (.int (-1))) μ) ∧ (¬ x3 < 0 → (((hI μ a0_book 6) ≤ x3 → Z (some (.int (-1))) μ) ∧ (¬ (hI μ a0_book 6) ≤ x3 → ((x4 < 0 → Z (some (.int (-1))) μ) ∧ (¬ x4 < 0 → (((hI μ a0_book 6) ≤ x4 → Z (some (.int (-1))) μ) ∧ (¬ (hI μ a0_book 6) ≤ x4 → ((x5 < 0 → Z (some (.int (-1))) μ) ∧ (¬ x5 < 0 → ((x5 ≤ 1 → xCall d yX3_findTreaties cX3_findTreaties 6 none [.ref a0_finder, .ref a0_now] μ ro (fun r30 μ31 => r30 = none ∧ hS μ31 a0 = some (14, 18) ∧ ∃ finder_32 : Nat, hR μ31 a0 2 = some finder_32 ∧ ∃ now_33 : Nat, hR μ31 a0 10 = some now_33 ∧ hS μ31 finder_32 = some (7, 9) ∧ xCall d yX3_judgeHops cX3_judgeHops 6 none [.ref finder_32, .ref now_33, .int x1, .int x4] μ31 ro (fun r34 μ35 => r34 = none ∧ hS μ35 a0 = some (14, 18) ∧ ∃ finder_36 : Nat, hR μ35 a0 2 = some finder_36 ∧ hS μ35 finder_36 = some (7, 9) ∧ ∃ linkAt_37 : Nat, hR μ35 finder_36 2 = some linkAt_37 ∧ ∃ N38 : Nat, hS μ35 linkAt_37 = some (0, N38) ∧ vp_in ((x2 * 8) + x3) N38 ∧ ((¬ (hI μ35 linkAt_37 (((x2 * 8) + x3).toNatClampNeg)) = (-1) → ((¬ x5 = 0 → ∃ articleAt_42 : Nat, hR μ35 finder_36 4 = some articleAt_42 ∧ ∃ N43 : Nat, hS μ35 articleAt_42 = some (0, N43) ∧ vp_in ((x2 * 8) + x3) N43 ∧ Z (some (.int (hI μ35 articleAt_42 (((x2 * 8) + x3).toNatClampNeg)))) μ35) ∧ (x5 = 0 → ∃ rateAt_45 : Nat, hR μ35 finder_36 3 = some rateAt_45 ∧ ∃ N46 : Nat, hS μ35 rateAt_45 = some (0, N46) ∧ vp_in ((x2 * 8) + x3) N46 ∧ Z (some (.int (hI μ35 rateAt_45 (((x2 * 8) + x3).toNatClampNeg)))) μ35))) ∧ ((hI μ35 linkAt_37 (((x2 * 8) + x3).toNatClampNeg)) = (-1) → Z (some (.int (-1))) μ35))))) ∧ (¬ x5 ≤ 1 → Z (some (.int (-1))) μ))))))))))))))))) ∧ (¬ x1 = 0 → ((¬ x1 = 1 → Z (some (.int (-1))) μ) ∧ (x1 = 1 → ((x2 < 0 → Z (some (.int (-1))) μ) ∧ (¬ x2 < 0 → (((hI μ a0_book 6) ≤ x2 → Z (some (.int (-1))) μ) ∧ (¬ (hI μ a0_book 6) ≤ x2 → ((x3 < 0 → Z (some (.int (-1))) μ) ∧ (¬ x3 < 0 → (((hI μ a0_book 6) ≤ x3 → Z (some (.int (-1))) μ) ∧ (¬ (hI μ a0_book 6) ≤ x3 → ((x4 < 0 → Z (some (.int (-1))) μ) ∧ (¬ x4 < 0 → (((hI μ a0_book 6) ≤ x4 → Z (some (.int (-1))) μ) ∧ (¬ (hI μ a0_book 6) ≤ x4 → ((x5 < 0 → Z (some (.int (-1))) μ) ∧ (¬ x5 < 0 → ((x5 ≤ 1 → xCall d yX3_findTreaties cX3_findTreaties 6 none [.ref a0_finder, .ref a0_now] μ ro (fun r79 μ80 => r79 = none ∧ hS μ80 a0 = some (14, 18) ∧ ∃ finder_81 : Nat, hR μ80 a0 2 = some finder_81 ∧ ∃ now_82 : Nat, hR μ80 a0 10 = some now_82 ∧ hS μ80 finder_81 = some (7, 9) ∧ xCall d yX3_judgeHops cX3_judgeHops 6 none [.ref finder_81, .ref now_82, .int x1, .int x4] μ80 ro (fun r83 μ84 => r83 = none ∧ hS μ84 a0 = some (14, 18) ∧ ∃ finder_85 : Nat, hR μ84 a0 2 = some finder_85 ∧ hS μ84 finder_85 = some (7, 9) ∧ ∃ linkAt_86 : Nat, hR μ84 finder_85 2 = some linkAt_86 ∧ ∃ N87 : Nat, hS μ84 linkAt_86 = some (0, N87) ∧ vp_in ((x2 * 8) + x3) N87 ∧ ((¬ (hI μ84 linkAt_86 (((x2 * 8) + x3).toNatClampNeg)) = (-1) → ((¬ x5 = 0 → ∃ articleAt_91 : Nat, hR μ84 finder_85 4 = some articleAt_91 ∧ ∃ N92 : Nat, hS μ84 articleAt_91 = some (0, N92) ∧ vp_in ((x2 * 8) + x3) N92 ∧ Z (some (.int (hI μ84 articleAt_91 (((x2 * 8) + x3).toNatClampNeg)))) μ84) ∧ (x5 = 0 → ∃ rateAt_94 : Nat, hR μ84 finder_85 3 = some rateAt_94 ∧ ∃ N95 : Nat, hS μ84 rateAt_94 = some (0, N95) ∧ vp_in ((x2 * 8) + x3) N95 ∧ Z (some (.int (hI μ84 rateAt_94 (((x2 * 8) + x3).toNatClampNeg)))) μ84))) ∧ ((hI μ84 linkAt_86 (((x2 * 8) + x3).toNatClampNeg)) = (-1) → Z (some (.int (-1))) μ84))))) ∧ (¬ x5 ≤ 1 → Z (some (.int (-1))) μ))))))))))))))))))))) :
    J μ 0 0 0 [(0, .ref a0), (1, .int x1), (2, .int x2), (3, .int x3), (4, .int x4), (5, .int x5)] [] := by
  refine r_iload_n g dX11_hop_0 rfl ?_
  by_cases c1 : x1 = 0
  · replace h := h.1 c1
    refine r_callS (st := []) (As := [.int x1]) g sX11_193 iX11_isSort rfl (Nat.le_of_ble_eq_true rfl) dX11_hop_1 (by omega) (Nat.le_refl 0) (Nat.le_refl 0) (P_X11_isSort_0 (d := d - 1)  c1) (fun r2 μ3 hZ1 => ?_)
    obtain ⟨rfl, e9⟩ := hZ1
    replace e9 := e9.symm
    subst e9
    refine r_if_eq g 41 dX11_hop_4 (by decide) (fun hz => absurd hz (by decide)) (fun _ => ?_)
    refine r_aload_n g dX11_hop_7 rfl ?_
    refine r_getR g fX11_72 rfl hs_a0 hr_a0_book dX11_hop_8 ?_
    refine r_iload_n g dX11_hop_11 rfl ?_
    by_cases c4 : x2 < 0
    · replace h := h.1 c4
      refine r_callV (st := []) (As := [.int x2]) g sX11_157 iX2_hasFirm eX2_hasFirm rfl hs_a0_book rfl (Nat.le_of_ble_eq_true rfl) dX11_hop_12 (by omega) (Nat.le_refl 0) (Nat.le_refl 0) (P_X2_hasFirm_0 (d := d - 1) hs_a0_book c4) (fun r5 μ6 hZ1 => ?_)
      obtain ⟨rfl, e9⟩ := hZ1
      replace e9 := e9.symm
      subst e9
      refine r_if_eq g 41 dX11_hop_15 (by decide) (fun _ => ?_) (fun hz => absurd hz (by decide))
      refine r_iconst g (-1) dX11_hop_41 (by decide) ?_
      exact hr.2.1 _ rfl _ _ _ _ _ _ dX11_hop_42 rfl (Nat.le_refl 0) (Nat.le_refl 0) h
    · replace h := h.2 c4
      by_cases c7 : (hI μ a0_book 6) ≤ x2
      · replace h := h.1 c7
        refine r_callV (st := []) (As := [.int x2]) g sX11_157 iX2_hasFirm eX2_hasFirm rfl hs_a0_book rfl (Nat.le_of_ble_eq_true rfl) dX11_hop_12 (by omega) (Nat.le_refl 0) (Nat.le_refl 0) (P_X2_hasFirm_1 (d := d - 1) hs_a0_book c4 c7) (fun r8 μ9 hZ1 => ?_)
        obtain ⟨rfl, e9⟩ := hZ1
        replace e9 := e9.symm
        subst e9
        refine r_if_eq g 41 dX11_hop_15 (by decide) (fun _ => ?_) (fun hz => absurd hz (by decide))
        refine r_iconst g (-1) dX11_hop_41 (by decide) ?_
        exact hr.2.1 _ rfl _ _ _ _ _ _ dX11_hop_42 rfl (Nat.le_refl 0) (Nat.le_refl 0) h
      · replace h := h.2 c7
        refine r_callV (st := []) (As := [.int x2]) g sX11_157 iX2_hasFirm eX2_hasFirm rfl hs_a0_book rfl (Nat.le_of_ble_eq_true rfl) dX11_hop_12 (by omega) (Nat.le_refl 0) (Nat.le_refl 0) (P_X2_hasFirm_2 (d := d - 1) hs_a0_book c4 c7) (fun r10 μ11 hZ1 => ?_)
        obtain ⟨rfl, e9⟩ := hZ1
        replace e9 := e9.symm
        subst e9
        refine r_if_eq g 41 dX11_hop_15 (by decide) (fun hz => absurd hz (by decide)) (fun _ => ?_)
        refine r_aload_n g dX11_hop_18 rfl ?_
        refine r_getR g fX11_72 rfl hs_a0 hr_a0_book dX11_hop_19 ?_
        refine r_iload_n g dX11_hop_22 rfl ?_
        by_cases c12 : x3 < 0
        · replace h := h.1 c12
          refine r_callV (st := []) (As := [.int x3]) g sX11_157 iX2_hasFirm eX2_hasFirm rfl hs_a0_book rfl (Nat.le_of_ble_eq_true rfl) dX11_hop_23 (by omega) (Nat.le_refl 0) (Nat.le_refl 0) (P_X2_hasFirm_0 (d := d - 1) hs_a0_book c12) (fun r13 μ14 hZ1 => ?_)
          obtain ⟨rfl, e9⟩ := hZ1
          replace e9 := e9.symm
          subst e9
          refine r_if_eq g 41 dX11_hop_26 (by decide) (fun _ => ?_) (fun hz => absurd hz (by decide))
          refine r_iconst g (-1) dX11_hop_41 (by decide) ?_
          exact hr.2.1 _ rfl _ _ _ _ _ _ dX11_hop_42 rfl (Nat.le_refl 0) (Nat.le_refl 0) h
        · replace h := h.2 c12
          by_cases c15 : (hI μ a0_book 6) ≤ x3
          · replace h := h.1 c15
            refine r_callV (st := []) (As := [.int x3]) g sX11_157 iX2_hasFirm eX2_hasFirm rfl hs_a0_book rfl (Nat.le_of_ble_eq_true rfl) dX11_hop_23 (by omega) (Nat.le_refl 0) (Nat.le_refl 0) (P_X2_hasFirm_1 (d := d - 1) hs_a0_book c12 c15) (fun r16 μ17 hZ1 => ?_)
            obtain ⟨rfl, e9⟩ := hZ1
            replace e9 := e9.symm
            subst e9
            refine r_if_eq g 41 dX11_hop_26 (by decide) (fun _ => ?_) (fun hz => absurd hz (by decide))
            refine r_iconst g (-1) dX11_hop_41 (by decide) ?_
            exact hr.2.1 _ rfl _ _ _ _ _ _ dX11_hop_42 rfl (Nat.le_refl 0) (Nat.le_refl 0) h
          · replace h := h.2 c15
            refine r_callV (st := []) (As := [.int x3]) g sX11_157 iX2_hasFirm eX2_hasFirm rfl hs_a0_book rfl (Nat.le_of_ble_eq_true rfl) dX11_hop_23 (by omega) (Nat.le_refl 0) (Nat.le_refl 0) (P_X2_hasFirm_2 (d := d - 1) hs_a0_book c12 c15) (fun r18 μ19 hZ1 => ?_)
            obtain ⟨rfl, e9⟩ := hZ1
            replace e9 := e9.symm
            subst e9
            refine r_if_eq g 41 dX11_hop_26 (by decide) (fun hz => absurd hz (by decide)) (fun _ => ?_)
            refine r_aload_n g dX11_hop_29 rfl ?_
            refine r_getR g fX11_72 rfl hs_a0 hr_a0_book dX11_hop_30 ?_
            refine r_iload g dX11_hop_33 rfl ?_
            by_cases c20 : x4 < 0
            · replace h := h.1 c20
              refine r_callV (st := []) (As := [.int x4]) g sX11_157 iX2_hasFirm eX2_hasFirm rfl hs_a0_book rfl (Nat.le_of_ble_eq_true rfl) dX11_hop_35 (by omega) (Nat.le_refl 0) (Nat.le_refl 0) (P_X2_hasFirm_0 (d := d - 1) hs_a0_book c20) (fun r21 μ22 hZ1 => ?_)
              obtain ⟨rfl, e9⟩ := hZ1
              replace e9 := e9.symm
              subst e9
              refine r_if_ne g 43 dX11_hop_38 (by decide) (fun hz => absurd hz (by decide)) (fun _ => ?_)
              refine r_iconst g (-1) dX11_hop_41 (by decide) ?_
              exact hr.2.1 _ rfl _ _ _ _ _ _ dX11_hop_42 rfl (Nat.le_refl 0) (Nat.le_refl 0) h
            · replace h := h.2 c20
              by_cases c23 : (hI μ a0_book 6) ≤ x4
              · replace h := h.1 c23
                refine r_callV (st := []) (As := [.int x4]) g sX11_157 iX2_hasFirm eX2_hasFirm rfl hs_a0_book rfl (Nat.le_of_ble_eq_true rfl) dX11_hop_35 (by omega) (Nat.le_refl 0) (Nat.le_refl 0) (P_X2_hasFirm_1 (d := d - 1) hs_a0_book c20 c23) (fun r24 μ25 hZ1 => ?_)
                obtain ⟨rfl, e9⟩ := hZ1
                replace e9 := e9.symm
                subst e9
                refine r_if_ne g 43 dX11_hop_38 (by decide) (fun hz => absurd hz (by decide)) (fun _ => ?_)
                refine r_iconst g (-1) dX11_hop_41 (by decide) ?_
                exact hr.2.1 _ rfl _ _ _ _ _ _ dX11_hop_42 rfl (Nat.le_refl 0) (Nat.le_refl 0) h
              · replace h := h.2 c23
                refine r_callV (st := []) (As := [.int x4]) g sX11_157 iX2_hasFirm eX2_hasFirm rfl hs_a0_book rfl (Nat.le_of_ble_eq_true rfl) dX11_hop_35 (by omega) (Nat.le_refl 0) (Nat.le_refl 0) (P_X2_hasFirm_2 (d := d - 1) hs_a0_book c20 c23) (fun r26 μ27 hZ1 => ?_)
                obtain ⟨rfl, e9⟩ := hZ1
                replace e9 := e9.symm
                subst e9
                refine r_if_ne g 43 dX11_hop_38 (by decide) (fun _ => ?_) (fun hz => absurd hz (by decide))
                refine r_iload g dX11_hop_43 rfl ?_
                refine r_if_lt g 54 dX11_hop_45 (by decide) (fun c28 => ?_) (fun c28 => ?_)
                · replace h := h.1 c28
                  refine r_iconst g (-1) dX11_hop_54 (by decide) ?_
                  exact hr.2.1 _ rfl _ _ _ _ _ _ dX11_hop_55 rfl (Nat.le_refl 0) (Nat.le_refl 0) h
                · replace h := h.2 c28
                  refine r_iload g dX11_hop_48 rfl ?_
                  refine r_iconst g 1 dX11_hop_50 (by decide) ?_
                  refine r_icmp_le g 56 dX11_hop_51 (by decide) (fun c29 => ?_) (fun c29 => ?_)
                  · replace h := h.1 c29
                    refine r_aload_n g dX11_hop_56 rfl ?_
                    refine r_getR g fX11_25 rfl hs_a0 hr_a0_finder dX11_hop_57 ?_
                    refine r_aload_n g dX11_hop_60 rfl ?_
                    refine r_getR g fX11_96 rfl hs_a0 hr_a0_now dX11_hop_61 ?_
                    obtain ⟨d1, Z1, hc1, hd1, h1⟩ := h
                    refine r_callV (st := []) (As := [.ref a0_now]) g sX11_196 iX3_findTreaties eX3_findTreaties rfl hs_a0_finder rfl (Nat.le_of_ble_eq_true rfl) dX11_hop_64 hd1 (Nat.le_refl 0) (Nat.le_refl 0) hc1 (fun r30 μ31 hZ1 => ?_)
                    replace h := h1 _ _ hZ1
                    clear h1 hc1 hd1 hZ1 Z1 d1
                    obtain ⟨rfl, h⟩ := h
                    refine r_aload_n g dX11_hop_67 rfl ?_
                    obtain ⟨hs_a0_, h⟩ := h
                    obtain ⟨finder_32, hr_finder_32, h⟩ := h
                    refine r_getR g fX11_25 rfl hs_a0_ hr_finder_32 dX11_hop_68 ?_
                    refine r_aload_n g dX11_hop_71 rfl ?_
                    obtain ⟨now_33, hr_now_33, h⟩ := h
                    refine r_getR g fX11_96 rfl hs_a0_ hr_now_33 dX11_hop_72 ?_
                    refine r_iload_n g dX11_hop_75 rfl ?_
                    refine r_iload g dX11_hop_76 rfl ?_
                    obtain ⟨hs_finder_32, h⟩ := h
                    obtain ⟨d1, Z1, hc1, hd1, h1⟩ := h
                    refine r_callV (st := []) (As := [.ref now_33, .int x1, .int x4]) g sX11_199 iX3_judgeHops eX3_judgeHops rfl hs_finder_32 rfl (Nat.le_of_ble_eq_true rfl) dX11_hop_78 hd1 (Nat.le_refl 0) (Nat.le_refl 0) hc1 (fun r34 μ35 hZ1 => ?_)
                    replace h := h1 _ _ hZ1
                    clear h1 hc1 hd1 hZ1 Z1 d1
                    obtain ⟨rfl, h⟩ := h
                    refine r_iload_n g dX11_hop_81 rfl ?_
                    refine r_bipush g 8 dX11_hop_82 (by decide) ?_
                    refine r_imul g dX11_hop_84 ?_
                    refine r_iload_n g dX11_hop_85 rfl ?_
                    refine r_iadd g dX11_hop_86 ?_
                    refine r_istore g [(6, .int ((x2 * 8) + x3)), (0, .ref a0), (1, .int x1), (2, .int x2), (3, .int x3), (4, .int x4), (5, .int x5)] dX11_hop_87 (by decide) rfl ?_
                    refine r_aload_n g dX11_hop_89 rfl ?_
                    obtain ⟨hs_a0__, h⟩ := h
                    obtain ⟨finder_36, hr_finder_36, h⟩ := h
                    refine r_getR g fX11_25 rfl hs_a0__ hr_finder_36 dX11_hop_90 ?_
                    obtain ⟨hs_finder_36, h⟩ := h
                    obtain ⟨linkAt_37, hr_linkAt_37, h⟩ := h
                    refine r_getR g fX11_203 rfl hs_finder_36 hr_linkAt_37 dX11_hop_93 ?_
                    refine r_iload g dX11_hop_96 rfl ?_
                    obtain ⟨N38, hs_linkAt_37, h⟩ := h
                    obtain ⟨hi39, h⟩ := h
                    refine r_iaload g hs_linkAt_37 hi39 dX11_hop_98 ?_
                    refine r_iconst g (-1) dX11_hop_99 (by decide) ?_
                    refine r_icmp_ne g 105 dX11_hop_100 (by decide) (fun c40 => ?_) (fun c40 => ?_)
                    · replace h := h.1 c40
                      refine r_iload g dX11_hop_105 rfl ?_
                      refine r_if_ne g 123 dX11_hop_107 (by decide) (fun c41 => ?_) (fun c41 => ?_)
                      · replace h := h.1 c41
                        refine r_aload_n g dX11_hop_123 rfl ?_
                        refine r_getR g fX11_25 rfl hs_a0__ hr_finder_36 dX11_hop_124 ?_
                        obtain ⟨articleAt_42, hr_articleAt_42, h⟩ := h
                        refine r_getR g fX11_209 rfl hs_finder_36 hr_articleAt_42 dX11_hop_127 ?_
                        refine r_iload g dX11_hop_130 rfl ?_
                        obtain ⟨N43, hs_articleAt_42, h⟩ := h
                        obtain ⟨hi44, h⟩ := h
                        refine r_iaload g hs_articleAt_42 hi44 dX11_hop_132 ?_
                        exact hr.2.1 _ rfl _ _ _ _ _ _ dX11_hop_133 rfl (Nat.le_refl 0) (Nat.le_refl 0) h
                      · replace h := h.2 c41
                        refine r_aload_n g dX11_hop_110 rfl ?_
                        refine r_getR g fX11_25 rfl hs_a0__ hr_finder_36 dX11_hop_111 ?_
                        obtain ⟨rateAt_45, hr_rateAt_45, h⟩ := h
                        refine r_getR g fX11_206 rfl hs_finder_36 hr_rateAt_45 dX11_hop_114 ?_
                        refine r_iload g dX11_hop_117 rfl ?_
                        obtain ⟨N46, hs_rateAt_45, h⟩ := h
                        obtain ⟨hi47, h⟩ := h
                        refine r_iaload g hs_rateAt_45 hi47 dX11_hop_119 ?_
                        refine r_goto g 133 dX11_hop_120 (by decide) ?_
                        exact hr.2.1 _ rfl _ _ _ _ _ _ dX11_hop_133 rfl (Nat.le_refl 0) (Nat.le_refl 0) h
                    · replace h := h.2 c40
                      refine r_iconst g (-1) dX11_hop_103 (by decide) ?_
                      exact hr.2.1 _ rfl _ _ _ _ _ _ dX11_hop_104 rfl (Nat.le_refl 0) (Nat.le_refl 0) h
                  · replace h := h.2 c29
                    refine r_iconst g (-1) dX11_hop_54 (by decide) ?_
                    exact hr.2.1 _ rfl _ _ _ _ _ _ dX11_hop_55 rfl (Nat.le_refl 0) (Nat.le_refl 0) h
  · replace h := h.2 c1
    by_cases c48 : x1 = 1
    · replace h := h.2 c48
      refine r_callS (st := []) (As := [.int x1]) g sX11_193 iX11_isSort rfl (Nat.le_of_ble_eq_true rfl) dX11_hop_1 (by omega) (Nat.le_refl 0) (Nat.le_refl 0) (P_X11_isSort_2 (d := d - 1)  c1 c48) (fun r51 μ52 hZ1 => ?_)
      obtain ⟨rfl, e9⟩ := hZ1
      replace e9 := e9.symm
      subst e9
      refine r_if_eq g 41 dX11_hop_4 (by decide) (fun hz => absurd hz (by decide)) (fun _ => ?_)
      refine r_aload_n g dX11_hop_7 rfl ?_
      refine r_getR g fX11_72 rfl hs_a0 hr_a0_book dX11_hop_8 ?_
      refine r_iload_n g dX11_hop_11 rfl ?_
      by_cases c53 : x2 < 0
      · replace h := h.1 c53
        refine r_callV (st := []) (As := [.int x2]) g sX11_157 iX2_hasFirm eX2_hasFirm rfl hs_a0_book rfl (Nat.le_of_ble_eq_true rfl) dX11_hop_12 (by omega) (Nat.le_refl 0) (Nat.le_refl 0) (P_X2_hasFirm_0 (d := d - 1) hs_a0_book c53) (fun r54 μ55 hZ1 => ?_)
        obtain ⟨rfl, e9⟩ := hZ1
        replace e9 := e9.symm
        subst e9
        refine r_if_eq g 41 dX11_hop_15 (by decide) (fun _ => ?_) (fun hz => absurd hz (by decide))
        refine r_iconst g (-1) dX11_hop_41 (by decide) ?_
        exact hr.2.1 _ rfl _ _ _ _ _ _ dX11_hop_42 rfl (Nat.le_refl 0) (Nat.le_refl 0) h
      · replace h := h.2 c53
        by_cases c56 : (hI μ a0_book 6) ≤ x2
        · replace h := h.1 c56
          refine r_callV (st := []) (As := [.int x2]) g sX11_157 iX2_hasFirm eX2_hasFirm rfl hs_a0_book rfl (Nat.le_of_ble_eq_true rfl) dX11_hop_12 (by omega) (Nat.le_refl 0) (Nat.le_refl 0) (P_X2_hasFirm_1 (d := d - 1) hs_a0_book c53 c56) (fun r57 μ58 hZ1 => ?_)
          obtain ⟨rfl, e9⟩ := hZ1
          replace e9 := e9.symm
          subst e9
          refine r_if_eq g 41 dX11_hop_15 (by decide) (fun _ => ?_) (fun hz => absurd hz (by decide))
          refine r_iconst g (-1) dX11_hop_41 (by decide) ?_
          exact hr.2.1 _ rfl _ _ _ _ _ _ dX11_hop_42 rfl (Nat.le_refl 0) (Nat.le_refl 0) h
        · replace h := h.2 c56
          refine r_callV (st := []) (As := [.int x2]) g sX11_157 iX2_hasFirm eX2_hasFirm rfl hs_a0_book rfl (Nat.le_of_ble_eq_true rfl) dX11_hop_12 (by omega) (Nat.le_refl 0) (Nat.le_refl 0) (P_X2_hasFirm_2 (d := d - 1) hs_a0_book c53 c56) (fun r59 μ60 hZ1 => ?_)
          obtain ⟨rfl, e9⟩ := hZ1
          replace e9 := e9.symm
          subst e9
          refine r_if_eq g 41 dX11_hop_15 (by decide) (fun hz => absurd hz (by decide)) (fun _ => ?_)
          refine r_aload_n g dX11_hop_18 rfl ?_
          refine r_getR g fX11_72 rfl hs_a0 hr_a0_book dX11_hop_19 ?_
          refine r_iload_n g dX11_hop_22 rfl ?_
          by_cases c61 : x3 < 0
          · replace h := h.1 c61
            refine r_callV (st := []) (As := [.int x3]) g sX11_157 iX2_hasFirm eX2_hasFirm rfl hs_a0_book rfl (Nat.le_of_ble_eq_true rfl) dX11_hop_23 (by omega) (Nat.le_refl 0) (Nat.le_refl 0) (P_X2_hasFirm_0 (d := d - 1) hs_a0_book c61) (fun r62 μ63 hZ1 => ?_)
            obtain ⟨rfl, e9⟩ := hZ1
            replace e9 := e9.symm
            subst e9
            refine r_if_eq g 41 dX11_hop_26 (by decide) (fun _ => ?_) (fun hz => absurd hz (by decide))
            refine r_iconst g (-1) dX11_hop_41 (by decide) ?_
            exact hr.2.1 _ rfl _ _ _ _ _ _ dX11_hop_42 rfl (Nat.le_refl 0) (Nat.le_refl 0) h
          · replace h := h.2 c61
            by_cases c64 : (hI μ a0_book 6) ≤ x3
            · replace h := h.1 c64
              refine r_callV (st := []) (As := [.int x3]) g sX11_157 iX2_hasFirm eX2_hasFirm rfl hs_a0_book rfl (Nat.le_of_ble_eq_true rfl) dX11_hop_23 (by omega) (Nat.le_refl 0) (Nat.le_refl 0) (P_X2_hasFirm_1 (d := d - 1) hs_a0_book c61 c64) (fun r65 μ66 hZ1 => ?_)
              obtain ⟨rfl, e9⟩ := hZ1
              replace e9 := e9.symm
              subst e9
              refine r_if_eq g 41 dX11_hop_26 (by decide) (fun _ => ?_) (fun hz => absurd hz (by decide))
              refine r_iconst g (-1) dX11_hop_41 (by decide) ?_
              exact hr.2.1 _ rfl _ _ _ _ _ _ dX11_hop_42 rfl (Nat.le_refl 0) (Nat.le_refl 0) h
            · replace h := h.2 c64
              refine r_callV (st := []) (As := [.int x3]) g sX11_157 iX2_hasFirm eX2_hasFirm rfl hs_a0_book rfl (Nat.le_of_ble_eq_true rfl) dX11_hop_23 (by omega) (Nat.le_refl 0) (Nat.le_refl 0) (P_X2_hasFirm_2 (d := d - 1) hs_a0_book c61 c64) (fun r67 μ68 hZ1 => ?_)
              obtain ⟨rfl, e9⟩ := hZ1
              replace e9 := e9.symm
              subst e9
              refine r_if_eq g 41 dX11_hop_26 (by decide) (fun hz => absurd hz (by decide)) (fun _ => ?_)
              refine r_aload_n g dX11_hop_29 rfl ?_
              refine r_getR g fX11_72 rfl hs_a0 hr_a0_book dX11_hop_30 ?_
              refine r_iload g dX11_hop_33 rfl ?_
              by_cases c69 : x4 < 0
              · replace h := h.1 c69
                refine r_callV (st := []) (As := [.int x4]) g sX11_157 iX2_hasFirm eX2_hasFirm rfl hs_a0_book rfl (Nat.le_of_ble_eq_true rfl) dX11_hop_35 (by omega) (Nat.le_refl 0) (Nat.le_refl 0) (P_X2_hasFirm_0 (d := d - 1) hs_a0_book c69) (fun r70 μ71 hZ1 => ?_)
                obtain ⟨rfl, e9⟩ := hZ1
                replace e9 := e9.symm
                subst e9
                refine r_if_ne g 43 dX11_hop_38 (by decide) (fun hz => absurd hz (by decide)) (fun _ => ?_)
                refine r_iconst g (-1) dX11_hop_41 (by decide) ?_
                exact hr.2.1 _ rfl _ _ _ _ _ _ dX11_hop_42 rfl (Nat.le_refl 0) (Nat.le_refl 0) h
              · replace h := h.2 c69
                by_cases c72 : (hI μ a0_book 6) ≤ x4
                · replace h := h.1 c72
                  refine r_callV (st := []) (As := [.int x4]) g sX11_157 iX2_hasFirm eX2_hasFirm rfl hs_a0_book rfl (Nat.le_of_ble_eq_true rfl) dX11_hop_35 (by omega) (Nat.le_refl 0) (Nat.le_refl 0) (P_X2_hasFirm_1 (d := d - 1) hs_a0_book c69 c72) (fun r73 μ74 hZ1 => ?_)
                  obtain ⟨rfl, e9⟩ := hZ1
                  replace e9 := e9.symm
                  subst e9
                  refine r_if_ne g 43 dX11_hop_38 (by decide) (fun hz => absurd hz (by decide)) (fun _ => ?_)
                  refine r_iconst g (-1) dX11_hop_41 (by decide) ?_
                  exact hr.2.1 _ rfl _ _ _ _ _ _ dX11_hop_42 rfl (Nat.le_refl 0) (Nat.le_refl 0) h
                · replace h := h.2 c72
                  refine r_callV (st := []) (As := [.int x4]) g sX11_157 iX2_hasFirm eX2_hasFirm rfl hs_a0_book rfl (Nat.le_of_ble_eq_true rfl) dX11_hop_35 (by omega) (Nat.le_refl 0) (Nat.le_refl 0) (P_X2_hasFirm_2 (d := d - 1) hs_a0_book c69 c72) (fun r75 μ76 hZ1 => ?_)
                  obtain ⟨rfl, e9⟩ := hZ1
                  replace e9 := e9.symm
                  subst e9
                  refine r_if_ne g 43 dX11_hop_38 (by decide) (fun _ => ?_) (fun hz => absurd hz (by decide))
                  refine r_iload g dX11_hop_43 rfl ?_
                  refine r_if_lt g 54 dX11_hop_45 (by decide) (fun c77 => ?_) (fun c77 => ?_)
                  · replace h := h.1 c77
                    refine r_iconst g (-1) dX11_hop_54 (by decide) ?_
                    exact hr.2.1 _ rfl _ _ _ _ _ _ dX11_hop_55 rfl (Nat.le_refl 0) (Nat.le_refl 0) h
                  · replace h := h.2 c77
                    refine r_iload g dX11_hop_48 rfl ?_
                    refine r_iconst g 1 dX11_hop_50 (by decide) ?_
                    refine r_icmp_le g 56 dX11_hop_51 (by decide) (fun c78 => ?_) (fun c78 => ?_)
                    · replace h := h.1 c78
                      refine r_aload_n g dX11_hop_56 rfl ?_
                      refine r_getR g fX11_25 rfl hs_a0 hr_a0_finder dX11_hop_57 ?_
                      refine r_aload_n g dX11_hop_60 rfl ?_
                      refine r_getR g fX11_96 rfl hs_a0 hr_a0_now dX11_hop_61 ?_
                      obtain ⟨d1, Z1, hc1, hd1, h1⟩ := h
                      refine r_callV (st := []) (As := [.ref a0_now]) g sX11_196 iX3_findTreaties eX3_findTreaties rfl hs_a0_finder rfl (Nat.le_of_ble_eq_true rfl) dX11_hop_64 hd1 (Nat.le_refl 0) (Nat.le_refl 0) hc1 (fun r79 μ80 hZ1 => ?_)
                      replace h := h1 _ _ hZ1
                      clear h1 hc1 hd1 hZ1 Z1 d1
                      obtain ⟨rfl, h⟩ := h
                      refine r_aload_n g dX11_hop_67 rfl ?_
                      obtain ⟨hs_a0____, h⟩ := h
                      obtain ⟨finder_81, hr_finder_81, h⟩ := h
                      refine r_getR g fX11_25 rfl hs_a0____ hr_finder_81 dX11_hop_68 ?_
                      refine r_aload_n g dX11_hop_71 rfl ?_
                      obtain ⟨now_82, hr_now_82, h⟩ := h
                      refine r_getR g fX11_96 rfl hs_a0____ hr_now_82 dX11_hop_72 ?_
                      refine r_iload_n g dX11_hop_75 rfl ?_
                      refine r_iload g dX11_hop_76 rfl ?_
                      obtain ⟨hs_finder_81, h⟩ := h
                      obtain ⟨d1, Z1, hc1, hd1, h1⟩ := h
                      refine r_callV (st := []) (As := [.ref now_82, .int x1, .int x4]) g sX11_199 iX3_judgeHops eX3_judgeHops rfl hs_finder_81 rfl (Nat.le_of_ble_eq_true rfl) dX11_hop_78 hd1 (Nat.le_refl 0) (Nat.le_refl 0) hc1 (fun r83 μ84 hZ1 => ?_)
                      replace h := h1 _ _ hZ1
                      clear h1 hc1 hd1 hZ1 Z1 d1
                      obtain ⟨rfl, h⟩ := h
                      refine r_iload_n g dX11_hop_81 rfl ?_
                      refine r_bipush g 8 dX11_hop_82 (by decide) ?_
                      refine r_imul g dX11_hop_84 ?_
                      refine r_iload_n g dX11_hop_85 rfl ?_
                      refine r_iadd g dX11_hop_86 ?_
                      refine r_istore g [(6, .int ((x2 * 8) + x3)), (0, .ref a0), (1, .int x1), (2, .int x2), (3, .int x3), (4, .int x4), (5, .int x5)] dX11_hop_87 (by decide) rfl ?_
                      refine r_aload_n g dX11_hop_89 rfl ?_
                      obtain ⟨hs_a0_____, h⟩ := h
                      obtain ⟨finder_85, hr_finder_85, h⟩ := h
                      refine r_getR g fX11_25 rfl hs_a0_____ hr_finder_85 dX11_hop_90 ?_
                      obtain ⟨hs_finder_85, h⟩ := h
                      obtain ⟨linkAt_86, hr_linkAt_86, h⟩ := h
                      refine r_getR g fX11_203 rfl hs_finder_85 hr_linkAt_86 dX11_hop_93 ?_
                      refine r_iload g dX11_hop_96 rfl ?_
                      obtain ⟨N87, hs_linkAt_86, h⟩ := h
                      obtain ⟨hi88, h⟩ := h
                      refine r_iaload g hs_linkAt_86 hi88 dX11_hop_98 ?_
                      refine r_iconst g (-1) dX11_hop_99 (by decide) ?_
                      refine r_icmp_ne g 105 dX11_hop_100 (by decide) (fun c89 => ?_) (fun c89 => ?_)
                      · replace h := h.1 c89
                        refine r_iload g dX11_hop_105 rfl ?_
                        refine r_if_ne g 123 dX11_hop_107 (by decide) (fun c90 => ?_) (fun c90 => ?_)
                        · replace h := h.1 c90
                          refine r_aload_n g dX11_hop_123 rfl ?_
                          refine r_getR g fX11_25 rfl hs_a0_____ hr_finder_85 dX11_hop_124 ?_
                          obtain ⟨articleAt_91, hr_articleAt_91, h⟩ := h
                          refine r_getR g fX11_209 rfl hs_finder_85 hr_articleAt_91 dX11_hop_127 ?_
                          refine r_iload g dX11_hop_130 rfl ?_
                          obtain ⟨N92, hs_articleAt_91, h⟩ := h
                          obtain ⟨hi93, h⟩ := h
                          refine r_iaload g hs_articleAt_91 hi93 dX11_hop_132 ?_
                          exact hr.2.1 _ rfl _ _ _ _ _ _ dX11_hop_133 rfl (Nat.le_refl 0) (Nat.le_refl 0) h
                        · replace h := h.2 c90
                          refine r_aload_n g dX11_hop_110 rfl ?_
                          refine r_getR g fX11_25 rfl hs_a0_____ hr_finder_85 dX11_hop_111 ?_
                          obtain ⟨rateAt_94, hr_rateAt_94, h⟩ := h
                          refine r_getR g fX11_206 rfl hs_finder_85 hr_rateAt_94 dX11_hop_114 ?_
                          refine r_iload g dX11_hop_117 rfl ?_
                          obtain ⟨N95, hs_rateAt_94, h⟩ := h
                          obtain ⟨hi96, h⟩ := h
                          refine r_iaload g hs_rateAt_94 hi96 dX11_hop_119 ?_
                          refine r_goto g 133 dX11_hop_120 (by decide) ?_
                          exact hr.2.1 _ rfl _ _ _ _ _ _ dX11_hop_133 rfl (Nat.le_refl 0) (Nat.le_refl 0) h
                      · replace h := h.2 c89
                        refine r_iconst g (-1) dX11_hop_103 (by decide) ?_
                        exact hr.2.1 _ rfl _ _ _ _ _ _ dX11_hop_104 rfl (Nat.le_refl 0) (Nat.le_refl 0) h
                    · replace h := h.2 c78
                      refine r_iconst g (-1) dX11_hop_54 (by decide) ?_
                      exact hr.2.1 _ rfl _ _ _ _ _ _ dX11_hop_55 rfl (Nat.le_refl 0) (Nat.le_refl 0) h
    · replace h := h.1 c48
      refine r_callS (st := []) (As := [.int x1]) g sX11_193 iX11_isSort rfl (Nat.le_of_ble_eq_true rfl) dX11_hop_1 (by omega) (Nat.le_refl 0) (Nat.le_refl 0) (P_X11_isSort_1 (d := d - 1)  c1 c48) (fun r49 μ50 hZ1 => ?_)
      obtain ⟨rfl, e9⟩ := hZ1
      replace e9 := e9.symm
      subst e9
      refine r_if_eq g 41 dX11_hop_4 (by decide) (fun _ => ?_) (fun hz => absurd hz (by decide))
      refine r_iconst g (-1) dX11_hop_41 (by decide) ?_
      exact hr.2.1 _ rfl _ _ _ _ _ _ dX11_hop_42 rfl (Nat.le_refl 0) (Nat.le_refl 0) h
theorem I_X11_hop {d : Nat} {ro : Nat → Nat} {Z : Option Value → Hp → Prop} {μ : Hp} {a0 : Nat} {x1 : Int32} {x2 : Int32} {x3 : Int32} {x4 : Int32} {x5 : Int32} (h : ∀ J, xCtx RX11 cX11_hop 7 d 0 0 yX11_hop.name ro J → xRet cX11_hop (some .int) 0 0 Z J → J μ 0 0 0 [(0, .ref a0), (1, .int x1), (2, .int x2), (3, .int x3), (4, .int x4), (5, .int x5)] []) : xC d yX11_hop cX11_hop 7 (some .int) 0 0 [.ref a0, .int x1, .int x2, .int x3, .int x4, .int x5] μ ro Z :=
  xC_intro (own := RX11) (lv := [(0, .ref a0), (1, .int x1), (2, .int x2), (3, .int x3), (4, .int x4), (5, .int x5)]) (by decide) rfl (Nat.le_of_ble_eq_true rfl) rfl (fun J g hr => r_sub g (lv' := [(0, .ref a0), (1, .int x1), (2, .int x2), (3, .int x3), (4, .int x4), (5, .int x5)]) (⟨rfl, rfl, rfl, rfl, rfl, rfl, trivial⟩) (h J g hr))
theorem dX11_all_0 : decode cX11_all 0 = .ok (.aload_n 0, 1) := by decide +kernel
theorem dX11_all_1 : decode cX11_all 1 = .ok (.invokevirtual 212, 3) := by decide +kernel
theorem dX11_all_4 : decode cX11_all 4 = .ok (.ifCond .ne 6, 3) := by decide +kernel
theorem dX11_all_7 : decode cX11_all 7 = .ok (.ldc 216, 2) := by decide +kernel
theorem dX11_all_9 : decode cX11_all 9 = .ok (.ireturn, 1) := by decide +kernel
theorem dX11_all_10 : decode cX11_all 10 = .ok (.iload_n 1, 1) := by decide +kernel
theorem dX11_all_11 : decode cX11_all 11 = .ok (.tableswitch 178 0 8 #[49, 59, 76, 93, 110, 120, 137, 153, 170], 49) := by decide +kernel
theorem dX11_all_60 : decode cX11_all 60 = .ok (.aload_n 0, 1) := by decide +kernel
theorem dX11_all_61 : decode cX11_all 61 = .ok (.getfield 96, 3) := by decide +kernel
theorem dX11_all_64 : decode cX11_all 64 = .ok (.getfield 151, 3) := by decide +kernel
theorem dX11_all_67 : decode cX11_all 67 = .ok (.iconst 0, 1) := by decide +kernel
theorem dX11_all_68 : decode cX11_all 68 = .ok (.iaload, 1) := by decide +kernel
theorem dX11_all_69 : decode cX11_all 69 = .ok (.ireturn, 1) := by decide +kernel
theorem dX11_all_70 : decode cX11_all 70 = .ok (.aload_n 0, 1) := by decide +kernel
theorem dX11_all_71 : decode cX11_all 71 = .ok (.getfield 96, 3) := by decide +kernel
theorem dX11_all_74 : decode cX11_all 74 = .ok (.bipush 10, 2) := by decide +kernel
theorem dX11_all_76 : decode cX11_all 76 = .ok (.aload_n 0, 1) := by decide +kernel
theorem dX11_all_77 : decode cX11_all 77 = .ok (.getfield 72, 3) := by decide +kernel
theorem dX11_all_80 : decode cX11_all 80 = .ok (.getfield 144, 3) := by decide +kernel
theorem dX11_all_83 : decode cX11_all 83 = .ok (.invokevirtual 217, 3) := by decide +kernel
theorem dX11_all_86 : decode cX11_all 86 = .ok (.ireturn, 1) := by decide +kernel
theorem dX11_all_87 : decode cX11_all 87 = .ok (.aload_n 0, 1) := by decide +kernel
theorem dX11_all_88 : decode cX11_all 88 = .ok (.getfield 96, 3) := by decide +kernel
theorem dX11_all_91 : decode cX11_all 91 = .ok (.bipush 26, 2) := by decide +kernel
theorem dX11_all_93 : decode cX11_all 93 = .ok (.aload_n 0, 1) := by decide +kernel
theorem dX11_all_94 : decode cX11_all 94 = .ok (.getfield 72, 3) := by decide +kernel
theorem dX11_all_97 : decode cX11_all 97 = .ok (.getfield 221, 3) := by decide +kernel
theorem dX11_all_100 : decode cX11_all 100 = .ok (.invokevirtual 217, 3) := by decide +kernel
theorem dX11_all_103 : decode cX11_all 103 = .ok (.ireturn, 1) := by decide +kernel
theorem dX11_all_104 : decode cX11_all 104 = .ok (.aload_n 0, 1) := by decide +kernel
theorem dX11_all_105 : decode cX11_all 105 = .ok (.getfield 96, 3) := by decide +kernel
theorem dX11_all_108 : decode cX11_all 108 = .ok (.bipush 18, 2) := by decide +kernel
theorem dX11_all_110 : decode cX11_all 110 = .ok (.aload_n 0, 1) := by decide +kernel
theorem dX11_all_111 : decode cX11_all 111 = .ok (.getfield 72, 3) := by decide +kernel
theorem dX11_all_114 : decode cX11_all 114 = .ok (.getfield 144, 3) := by decide +kernel
theorem dX11_all_117 : decode cX11_all 117 = .ok (.invokevirtual 217, 3) := by decide +kernel
theorem dX11_all_120 : decode cX11_all 120 = .ok (.ireturn, 1) := by decide +kernel
theorem dX11_all_121 : decode cX11_all 121 = .ok (.aload_n 0, 1) := by decide +kernel
theorem dX11_all_122 : decode cX11_all 122 = .ok (.getfield 96, 3) := by decide +kernel
theorem dX11_all_125 : decode cX11_all 125 = .ok (.getfield 151, 3) := by decide +kernel
theorem dX11_all_128 : decode cX11_all 128 = .ok (.iconst 1, 1) := by decide +kernel
theorem dX11_all_129 : decode cX11_all 129 = .ok (.iaload, 1) := by decide +kernel
theorem dX11_all_130 : decode cX11_all 130 = .ok (.ireturn, 1) := by decide +kernel
theorem dX11_all_131 : decode cX11_all 131 = .ok (.aload_n 0, 1) := by decide +kernel
theorem dX11_all_132 : decode cX11_all 132 = .ok (.getfield 72, 3) := by decide +kernel
theorem dX11_all_135 : decode cX11_all 135 = .ok (.aload_n 0, 1) := by decide +kernel
theorem dX11_all_136 : decode cX11_all 136 = .ok (.getfield 96, 3) := by decide +kernel
theorem dX11_all_139 : decode cX11_all 139 = .ok (.getfield 151, 3) := by decide +kernel
theorem dX11_all_142 : decode cX11_all 142 = .ok (.iconst 0, 1) := by decide +kernel
theorem dX11_all_143 : decode cX11_all 143 = .ok (.iaload, 1) := by decide +kernel
theorem dX11_all_144 : decode cX11_all 144 = .ok (.invokevirtual 224, 3) := by decide +kernel
theorem dX11_all_147 : decode cX11_all 147 = .ok (.ireturn, 1) := by decide +kernel
theorem dX11_all_148 : decode cX11_all 148 = .ok (.aload_n 0, 1) := by decide +kernel
theorem dX11_all_149 : decode cX11_all 149 = .ok (.getfield 96, 3) := by decide +kernel
theorem dX11_all_152 : decode cX11_all 152 = .ok (.iconst 2, 1) := by decide +kernel
theorem dX11_all_153 : decode cX11_all 153 = .ok (.aload_n 0, 1) := by decide +kernel
theorem dX11_all_154 : decode cX11_all 154 = .ok (.getfield 72, 3) := by decide +kernel
theorem dX11_all_157 : decode cX11_all 157 = .ok (.getfield 144, 3) := by decide +kernel
theorem dX11_all_160 : decode cX11_all 160 = .ok (.invokevirtual 227, 3) := by decide +kernel
theorem dX11_all_163 : decode cX11_all 163 = .ok (.ireturn, 1) := by decide +kernel
theorem dX11_all_164 : decode cX11_all 164 = .ok (.aload_n 0, 1) := by decide +kernel
theorem dX11_all_165 : decode cX11_all 165 = .ok (.getfield 96, 3) := by decide +kernel
theorem dX11_all_168 : decode cX11_all 168 = .ok (.bipush 10, 2) := by decide +kernel
theorem dX11_all_170 : decode cX11_all 170 = .ok (.aload_n 0, 1) := by decide +kernel
theorem dX11_all_171 : decode cX11_all 171 = .ok (.getfield 72, 3) := by decide +kernel
theorem dX11_all_174 : decode cX11_all 174 = .ok (.getfield 144, 3) := by decide +kernel
theorem dX11_all_177 : decode cX11_all 177 = .ok (.invokevirtual 227, 3) := by decide +kernel
theorem dX11_all_180 : decode cX11_all 180 = .ok (.ireturn, 1) := by decide +kernel
theorem dX11_all_181 : decode cX11_all 181 = .ok (.aload_n 0, 1) := by decide +kernel
theorem dX11_all_182 : decode cX11_all 182 = .ok (.getfield 96, 3) := by decide +kernel
theorem dX11_all_185 : decode cX11_all 185 = .ok (.invokevirtual 230, 3) := by decide +kernel
theorem dX11_all_188 : decode cX11_all 188 = .ok (.ireturn, 1) := by decide +kernel
theorem dX11_all_189 : decode cX11_all 189 = .ok (.ldc 216, 2) := by decide +kernel
theorem dX11_all_191 : decode cX11_all 191 = .ok (.ireturn, 1) := by decide +kernel
set_option maxHeartbeats 4000000 in
set_option maxRecDepth 100000 in
theorem B_X11_all_0 {d : Nat} {ro : Nat → Nat} {J : JT} {Z : Option Value → Hp → Prop} (g : xCtx RX11 cX11_all 2 d 0 0 yX11_all.name ro J) (hr : xRet cX11_all (some .int) 0 0 Z J) {μ : Hp} {a0 : Nat} {x1 : Int32} {a0_book : Nat} {a0_now : Nat} {a0_now_row : Nat} {N_a0_now_row : Nat} (hs_a0 : hS μ a0 = some (14, 18)) (hr_a0_book : hR μ a0 13 = some a0_book) (hs_a0_book : hS μ a0_book = some (6, 9)) (hr_a0_now : hR μ a0 10 = some a0_now) (hs_a0_now : hS μ a0_now = some (12, 4)) (hr_a0_now_row : hR μ a0_now 0 = some a0_now_row) (hs_a0_now_row : hS μ a0_now_row = some (0, N_a0_now_row)) (hd9 : 1 ≤ d)
    (h : (((hI μ a0_book 6) ≤ 0 → Z (some (.int (-1000000))) μ) ∧ (¬ (hI μ a0_book 6) ≤ 0 → (((x1).toInt < 0 ∨ 8 < (x1).toInt → Z (some (.int (-1000000))) μ) ∧ (x1 = 0 → vp_in 0 N_a0_now_row ∧ Z (some (.int (hI μ a0_now_row 0))) μ) ∧ (x1 = 1 → xCall d yX8_sum cX8_sum 5 (some .int) [.ref a0_now, .int 10, .int (hI μ a0_book 6)] μ ro (fun r8 μ9 => ∃ y10 : Int32, r8 = some (.int y10) ∧ Z (some (.int y10)) μ9)) ∧ (x1 = 2 → xCall d yX8_sum cX8_sum 5 (some .int) [.ref a0_now, .int 26, .int (hI μ a0_book 5)] μ ro (fun r11 μ12 => ∃ y13 : Int32, r11 = some (.int y13) ∧ Z (some (.int y13)) μ12)) ∧ (x1 = 3 → xCall d yX8_sum cX8_sum 5 (some .int) [.ref a0_now, .int 18, .int (hI μ a0_book 6)] μ ro (fun r14 μ15 => ∃ y16 : Int32, r14 = some (.int y16) ∧ Z (some (.int y16)) μ15)) ∧ (x1 = 4 → vp_in 1 N_a0_now_row ∧ Z (some (.int (hI μ a0_now_row 1))) μ) ∧ (x1 = 5 → vp_in 0 N_a0_now_row ∧ xCall d yX2_treatiesIn cX2_treatiesIn 5 (some .int) [.ref a0_book, .int (hI μ a0_now_row 0)] μ ro (fun r19 μ20 => ∃ y21 : Int32, r19 = some (.int y21) ∧ Z (some (.int y21)) μ20)) ∧ (x1 = 6 → xCall d yX8_firstOfMost cX8_firstOfMost 5 (some .int) [.ref a0_now, .int 2, .int (hI μ a0_book 6)] μ ro (fun r22 μ23 => ∃ y24 : Int32, r22 = some (.int y24) ∧ Z (some (.int y24)) μ23)) ∧ (x1 = 7 → xCall d yX8_firstOfMost cX8_firstOfMost 5 (some .int) [.ref a0_now, .int 10, .int (hI μ a0_book 6)] μ ro (fun r25 μ26 => ∃ y27 : Int32, r25 = some (.int y27) ∧ Z (some (.int y27)) μ26)) ∧ (x1 = 8 → xCall d yX8_laterLinks cX8_laterLinks 3 (some .int) [.ref a0_now] μ ro (fun r28 μ29 => ∃ y30 : Int32, r28 = some (.int y30) ∧ Z (some (.int y30)) μ29)))))) :
    J μ 0 0 0 [(0, .ref a0), (1, .int x1)] [] := by
  refine r_aload_n g dX11_all_0 rfl ?_
  by_cases c1 : (hI μ a0_book 6) ≤ 0
  · replace h := h.1 c1
    refine r_callV (st := []) (As := []) g sX11_212 iX11_hasBook eX11_hasBook rfl hs_a0 rfl (Nat.le_of_ble_eq_true rfl) dX11_all_1 (by omega) (Nat.le_refl 0) (Nat.le_refl 0) (P_X11_hasBook_0 (d := d - 1) hs_a0 hr_a0_book hs_a0_book c1) (fun r2 μ3 hZ1 => ?_)
    obtain ⟨rfl, e9⟩ := hZ1
    replace e9 := e9.symm
    subst e9
    refine r_if_ne g 10 dX11_all_4 (by decide) (fun hz => absurd hz (by decide)) (fun _ => ?_)
    refine r_ldc g (-1000000) kX11_216 dX11_all_7 ?_
    exact hr.2.1 _ rfl _ _ _ _ _ _ dX11_all_9 rfl (Nat.le_refl 0) (Nat.le_refl 0) h
  · replace h := h.2 c1
    refine r_callV (st := []) (As := []) g sX11_212 iX11_hasBook eX11_hasBook rfl hs_a0 rfl (Nat.le_of_ble_eq_true rfl) dX11_all_1 (by omega) (Nat.le_refl 0) (Nat.le_refl 0) (P_X11_hasBook_1 (d := d - 1) hs_a0 hr_a0_book hs_a0_book c1) (fun r4 μ5 hZ1 => ?_)
    obtain ⟨rfl, e9⟩ := hZ1
    replace e9 := e9.symm
    subst e9
    refine r_if_ne g 10 dX11_all_4 (by decide) (fun _ => ?_) (fun hz => absurd hz (by decide))
    refine r_iload_n g dX11_all_10 rfl ?_
    rcases sw_cases (x := x1) 0 8 (by decide) (by decide) with c6 | ⟨z, hz1, hz2, c6⟩
    · refine r_tableOut g 189 dX11_all_11 c6 (by decide) ?_
      replace h := h.1 c6
      refine r_ldc g (-1000000) kX11_216 dX11_all_189 ?_
      exact hr.2.1 _ rfl _ _ _ _ _ _ dX11_all_191 rfl (Nat.le_refl 0) (Nat.le_refl 0) h
    · have hz : z = 0 ∨ z = 1 ∨ z = 2 ∨ z = 3 ∨ z = 4 ∨ z = 5 ∨ z = 6 ∨ z = 7 ∨ z = 8 := by omega
      rcases hz with rfl | rfl | rfl | rfl | rfl | rfl | rfl | rfl | rfl
      · refine r_tableIn g 60 dX11_all_11 (by rw [c6]; decide) (by rw [c6]; decide) (off := 49) (by rw [c6]; decide) (by decide) ?_
        replace h := h.2.1 c6
        refine r_aload_n g dX11_all_60 rfl ?_
        refine r_getR g fX11_96 rfl hs_a0 hr_a0_now dX11_all_61 ?_
        refine r_getR g fX11_151 rfl hs_a0_now hr_a0_now_row dX11_all_64 ?_
        refine r_iconst g 0 dX11_all_67 (by decide) ?_
        obtain ⟨hi7, h⟩ := h
        refine r_iaload g hs_a0_now_row hi7 dX11_all_68 ?_
        exact hr.2.1 _ rfl _ _ _ _ _ _ dX11_all_69 rfl (Nat.le_refl 0) (Nat.le_refl 0) h
      · refine r_tableIn g 70 dX11_all_11 (by rw [c6]; decide) (by rw [c6]; decide) (off := 59) (by rw [c6]; decide) (by decide) ?_
        replace h := h.2.2.1 c6
        refine r_aload_n g dX11_all_70 rfl ?_
        refine r_getR g fX11_96 rfl hs_a0 hr_a0_now dX11_all_71 ?_
        refine r_bipush g 10 dX11_all_74 (by decide) ?_
        refine r_aload_n g dX11_all_76 rfl ?_
        refine r_getR g fX11_72 rfl hs_a0 hr_a0_book dX11_all_77 ?_
        refine r_getI g fX11_144 rfl hs_a0_book dX11_all_80 ?_
        obtain ⟨d1, Z1, hc1, hd1, h1⟩ := h
        refine r_callV (st := []) (As := [.int 10, .int (hI μ a0_book 6)]) g sX11_217 iX8_sum eX8_sum rfl hs_a0_now rfl (Nat.le_of_ble_eq_true rfl) dX11_all_83 hd1 (Nat.le_refl 0) (Nat.le_refl 0) hc1 (fun r8 μ9 hZ1 => ?_)
        replace h := h1 _ _ hZ1
        clear h1 hc1 hd1 hZ1 Z1 d1
        obtain ⟨y10, rfl, h⟩ := h
        exact hr.2.1 _ rfl _ _ _ _ _ _ dX11_all_86 rfl (Nat.le_refl 0) (Nat.le_refl 0) h
      · refine r_tableIn g 87 dX11_all_11 (by rw [c6]; decide) (by rw [c6]; decide) (off := 76) (by rw [c6]; decide) (by decide) ?_
        replace h := h.2.2.2.1 c6
        refine r_aload_n g dX11_all_87 rfl ?_
        refine r_getR g fX11_96 rfl hs_a0 hr_a0_now dX11_all_88 ?_
        refine r_bipush g 26 dX11_all_91 (by decide) ?_
        refine r_aload_n g dX11_all_93 rfl ?_
        refine r_getR g fX11_72 rfl hs_a0 hr_a0_book dX11_all_94 ?_
        refine r_getI g fX11_221 rfl hs_a0_book dX11_all_97 ?_
        obtain ⟨d1, Z1, hc1, hd1, h1⟩ := h
        refine r_callV (st := []) (As := [.int 26, .int (hI μ a0_book 5)]) g sX11_217 iX8_sum eX8_sum rfl hs_a0_now rfl (Nat.le_of_ble_eq_true rfl) dX11_all_100 hd1 (Nat.le_refl 0) (Nat.le_refl 0) hc1 (fun r11 μ12 hZ1 => ?_)
        replace h := h1 _ _ hZ1
        clear h1 hc1 hd1 hZ1 Z1 d1
        obtain ⟨y13, rfl, h⟩ := h
        exact hr.2.1 _ rfl _ _ _ _ _ _ dX11_all_103 rfl (Nat.le_refl 0) (Nat.le_refl 0) h
      · refine r_tableIn g 104 dX11_all_11 (by rw [c6]; decide) (by rw [c6]; decide) (off := 93) (by rw [c6]; decide) (by decide) ?_
        replace h := h.2.2.2.2.1 c6
        refine r_aload_n g dX11_all_104 rfl ?_
        refine r_getR g fX11_96 rfl hs_a0 hr_a0_now dX11_all_105 ?_
        refine r_bipush g 18 dX11_all_108 (by decide) ?_
        refine r_aload_n g dX11_all_110 rfl ?_
        refine r_getR g fX11_72 rfl hs_a0 hr_a0_book dX11_all_111 ?_
        refine r_getI g fX11_144 rfl hs_a0_book dX11_all_114 ?_
        obtain ⟨d1, Z1, hc1, hd1, h1⟩ := h
        refine r_callV (st := []) (As := [.int 18, .int (hI μ a0_book 6)]) g sX11_217 iX8_sum eX8_sum rfl hs_a0_now rfl (Nat.le_of_ble_eq_true rfl) dX11_all_117 hd1 (Nat.le_refl 0) (Nat.le_refl 0) hc1 (fun r14 μ15 hZ1 => ?_)
        replace h := h1 _ _ hZ1
        clear h1 hc1 hd1 hZ1 Z1 d1
        obtain ⟨y16, rfl, h⟩ := h
        exact hr.2.1 _ rfl _ _ _ _ _ _ dX11_all_120 rfl (Nat.le_refl 0) (Nat.le_refl 0) h
      · refine r_tableIn g 121 dX11_all_11 (by rw [c6]; decide) (by rw [c6]; decide) (off := 110) (by rw [c6]; decide) (by decide) ?_
        replace h := h.2.2.2.2.2.1 c6
        refine r_aload_n g dX11_all_121 rfl ?_
        refine r_getR g fX11_96 rfl hs_a0 hr_a0_now dX11_all_122 ?_
        refine r_getR g fX11_151 rfl hs_a0_now hr_a0_now_row dX11_all_125 ?_
        refine r_iconst g 1 dX11_all_128 (by decide) ?_
        obtain ⟨hi17, h⟩ := h
        refine r_iaload g hs_a0_now_row hi17 dX11_all_129 ?_
        exact hr.2.1 _ rfl _ _ _ _ _ _ dX11_all_130 rfl (Nat.le_refl 0) (Nat.le_refl 0) h
      · refine r_tableIn g 131 dX11_all_11 (by rw [c6]; decide) (by rw [c6]; decide) (off := 120) (by rw [c6]; decide) (by decide) ?_
        replace h := h.2.2.2.2.2.2.1 c6
        refine r_aload_n g dX11_all_131 rfl ?_
        refine r_getR g fX11_72 rfl hs_a0 hr_a0_book dX11_all_132 ?_
        refine r_aload_n g dX11_all_135 rfl ?_
        refine r_getR g fX11_96 rfl hs_a0 hr_a0_now dX11_all_136 ?_
        refine r_getR g fX11_151 rfl hs_a0_now hr_a0_now_row dX11_all_139 ?_
        refine r_iconst g 0 dX11_all_142 (by decide) ?_
        obtain ⟨hi18, h⟩ := h
        refine r_iaload g hs_a0_now_row hi18 dX11_all_143 ?_
        obtain ⟨d1, Z1, hc1, hd1, h1⟩ := h
        refine r_callV (st := []) (As := [.int (hI μ a0_now_row 0)]) g sX11_224 iX2_treatiesIn eX2_treatiesIn rfl hs_a0_book rfl (Nat.le_of_ble_eq_true rfl) dX11_all_144 hd1 (Nat.le_refl 0) (Nat.le_refl 0) hc1 (fun r19 μ20 hZ1 => ?_)
        replace h := h1 _ _ hZ1
        clear h1 hc1 hd1 hZ1 Z1 d1
        obtain ⟨y21, rfl, h⟩ := h
        exact hr.2.1 _ rfl _ _ _ _ _ _ dX11_all_147 rfl (Nat.le_refl 0) (Nat.le_refl 0) h
      · refine r_tableIn g 148 dX11_all_11 (by rw [c6]; decide) (by rw [c6]; decide) (off := 137) (by rw [c6]; decide) (by decide) ?_
        replace h := h.2.2.2.2.2.2.2.1 c6
        refine r_aload_n g dX11_all_148 rfl ?_
        refine r_getR g fX11_96 rfl hs_a0 hr_a0_now dX11_all_149 ?_
        refine r_iconst g 2 dX11_all_152 (by decide) ?_
        refine r_aload_n g dX11_all_153 rfl ?_
        refine r_getR g fX11_72 rfl hs_a0 hr_a0_book dX11_all_154 ?_
        refine r_getI g fX11_144 rfl hs_a0_book dX11_all_157 ?_
        obtain ⟨d1, Z1, hc1, hd1, h1⟩ := h
        refine r_callV (st := []) (As := [.int 2, .int (hI μ a0_book 6)]) g sX11_227 iX8_firstOfMost eX8_firstOfMost rfl hs_a0_now rfl (Nat.le_of_ble_eq_true rfl) dX11_all_160 hd1 (Nat.le_refl 0) (Nat.le_refl 0) hc1 (fun r22 μ23 hZ1 => ?_)
        replace h := h1 _ _ hZ1
        clear h1 hc1 hd1 hZ1 Z1 d1
        obtain ⟨y24, rfl, h⟩ := h
        exact hr.2.1 _ rfl _ _ _ _ _ _ dX11_all_163 rfl (Nat.le_refl 0) (Nat.le_refl 0) h
      · refine r_tableIn g 164 dX11_all_11 (by rw [c6]; decide) (by rw [c6]; decide) (off := 153) (by rw [c6]; decide) (by decide) ?_
        replace h := h.2.2.2.2.2.2.2.2.1 c6
        refine r_aload_n g dX11_all_164 rfl ?_
        refine r_getR g fX11_96 rfl hs_a0 hr_a0_now dX11_all_165 ?_
        refine r_bipush g 10 dX11_all_168 (by decide) ?_
        refine r_aload_n g dX11_all_170 rfl ?_
        refine r_getR g fX11_72 rfl hs_a0 hr_a0_book dX11_all_171 ?_
        refine r_getI g fX11_144 rfl hs_a0_book dX11_all_174 ?_
        obtain ⟨d1, Z1, hc1, hd1, h1⟩ := h
        refine r_callV (st := []) (As := [.int 10, .int (hI μ a0_book 6)]) g sX11_227 iX8_firstOfMost eX8_firstOfMost rfl hs_a0_now rfl (Nat.le_of_ble_eq_true rfl) dX11_all_177 hd1 (Nat.le_refl 0) (Nat.le_refl 0) hc1 (fun r25 μ26 hZ1 => ?_)
        replace h := h1 _ _ hZ1
        clear h1 hc1 hd1 hZ1 Z1 d1
        obtain ⟨y27, rfl, h⟩ := h
        exact hr.2.1 _ rfl _ _ _ _ _ _ dX11_all_180 rfl (Nat.le_refl 0) (Nat.le_refl 0) h
      · refine r_tableIn g 181 dX11_all_11 (by rw [c6]; decide) (by rw [c6]; decide) (off := 170) (by rw [c6]; decide) (by decide) ?_
        replace h := h.2.2.2.2.2.2.2.2.2 c6
        refine r_aload_n g dX11_all_181 rfl ?_
        refine r_getR g fX11_96 rfl hs_a0 hr_a0_now dX11_all_182 ?_
        obtain ⟨d1, Z1, hc1, hd1, h1⟩ := h
        refine r_callV (st := []) (As := []) g sX11_230 iX8_laterLinks eX8_laterLinks rfl hs_a0_now rfl (Nat.le_of_ble_eq_true rfl) dX11_all_185 hd1 (Nat.le_refl 0) (Nat.le_refl 0) hc1 (fun r28 μ29 hZ1 => ?_)
        replace h := h1 _ _ hZ1
        clear h1 hc1 hd1 hZ1 Z1 d1
        obtain ⟨y30, rfl, h⟩ := h
        exact hr.2.1 _ rfl _ _ _ _ _ _ dX11_all_188 rfl (Nat.le_refl 0) (Nat.le_refl 0) h
theorem I_X11_all {d : Nat} {ro : Nat → Nat} {Z : Option Value → Hp → Prop} {μ : Hp} {a0 : Nat} {x1 : Int32} (h : ∀ J, xCtx RX11 cX11_all 2 d 0 0 yX11_all.name ro J → xRet cX11_all (some .int) 0 0 Z J → J μ 0 0 0 [(0, .ref a0), (1, .int x1)] []) : xC d yX11_all cX11_all 2 (some .int) 0 0 [.ref a0, .int x1] μ ro Z :=
  xC_intro (own := RX11) (lv := [(0, .ref a0), (1, .int x1)]) (by decide) rfl (Nat.le_of_ble_eq_true rfl) rfl (fun J g hr => r_sub g (lv' := [(0, .ref a0), (1, .int x1)]) (⟨rfl, rfl, trivial⟩) (h J g hr))
theorem dX11_count_0 : decode cX11_count 0 = .ok (.iload_n 1, 1) := by decide +kernel
theorem dX11_count_1 : decode cX11_count 1 = .ok (.tableswitch 98 0 6 #[43, 51, 56, 64, 72, 80, 88], 43) := by decide +kernel
theorem dX11_count_44 : decode cX11_count 44 = .ok (.aload_n 0, 1) := by decide +kernel
theorem dX11_count_45 : decode cX11_count 45 = .ok (.getfield 72, 3) := by decide +kernel
theorem dX11_count_48 : decode cX11_count 48 = .ok (.getfield 144, 3) := by decide +kernel
theorem dX11_count_51 : decode cX11_count 51 = .ok (.ireturn, 1) := by decide +kernel
theorem dX11_count_52 : decode cX11_count 52 = .ok (.aload_n 0, 1) := by decide +kernel
theorem dX11_count_53 : decode cX11_count 53 = .ok (.getfield 79, 3) := by decide +kernel
theorem dX11_count_56 : decode cX11_count 56 = .ok (.ireturn, 1) := by decide +kernel
theorem dX11_count_57 : decode cX11_count 57 = .ok (.aload_n 0, 1) := by decide +kernel
theorem dX11_count_58 : decode cX11_count 58 = .ok (.getfield 10, 3) := by decide +kernel
theorem dX11_count_61 : decode cX11_count 61 = .ok (.getfield 111, 3) := by decide +kernel
theorem dX11_count_64 : decode cX11_count 64 = .ok (.ireturn, 1) := by decide +kernel
theorem dX11_count_65 : decode cX11_count 65 = .ok (.aload_n 0, 1) := by decide +kernel
theorem dX11_count_66 : decode cX11_count 66 = .ok (.getfield 48, 3) := by decide +kernel
theorem dX11_count_69 : decode cX11_count 69 = .ok (.invokevirtual 233, 3) := by decide +kernel
theorem dX11_count_72 : decode cX11_count 72 = .ok (.ireturn, 1) := by decide +kernel
theorem dX11_count_73 : decode cX11_count 73 = .ok (.aload_n 0, 1) := by decide +kernel
theorem dX11_count_74 : decode cX11_count 74 = .ok (.getfield 41, 3) := by decide +kernel
theorem dX11_count_77 : decode cX11_count 77 = .ok (.getfield 236, 3) := by decide +kernel
theorem dX11_count_80 : decode cX11_count 80 = .ok (.ireturn, 1) := by decide +kernel
theorem dX11_count_81 : decode cX11_count 81 = .ok (.aload_n 0, 1) := by decide +kernel
theorem dX11_count_82 : decode cX11_count 82 = .ok (.getfield 72, 3) := by decide +kernel
theorem dX11_count_85 : decode cX11_count 85 = .ok (.getfield 221, 3) := by decide +kernel
theorem dX11_count_88 : decode cX11_count 88 = .ok (.ireturn, 1) := by decide +kernel
theorem dX11_count_89 : decode cX11_count 89 = .ok (.aload_n 0, 1) := by decide +kernel
theorem dX11_count_90 : decode cX11_count 90 = .ok (.getfield 96, 3) := by decide +kernel
theorem dX11_count_93 : decode cX11_count 93 = .ok (.getfield 151, 3) := by decide +kernel
theorem dX11_count_96 : decode cX11_count 96 = .ok (.iconst 1, 1) := by decide +kernel
theorem dX11_count_97 : decode cX11_count 97 = .ok (.iaload, 1) := by decide +kernel
theorem dX11_count_98 : decode cX11_count 98 = .ok (.ireturn, 1) := by decide +kernel
theorem dX11_count_99 : decode cX11_count 99 = .ok (.ldc 216, 2) := by decide +kernel
theorem dX11_count_101 : decode cX11_count 101 = .ok (.ireturn, 1) := by decide +kernel
set_option maxHeartbeats 4000000 in
set_option maxRecDepth 100000 in
theorem B_X11_count_0 {d : Nat} {ro : Nat → Nat} {J : JT} {Z : Option Value → Hp → Prop} (g : xCtx RX11 cX11_count 2 d 0 0 yX11_count.name ro J) (hr : xRet cX11_count (some .int) 0 0 Z J) {μ : Hp} {a0 : Nat} {x1 : Int32} {a0_book : Nat} {a0_reader : Nat} {a0_acted : Nat} {a0_history : Nat} {a0_now : Nat} {a0_now_row : Nat} {N_a0_now_row : Nat} (hs_a0 : hS μ a0 = some (14, 18)) (hr_a0_book : hR μ a0 13 = some a0_book) (hs_a0_book : hS μ a0_book = some (6, 9)) (hr_a0_reader : hR μ a0 0 = some a0_reader) (hs_a0_reader : hS μ a0_reader = some (10, 5)) (hr_a0_acted : hR μ a0 5 = some a0_acted) (hs_a0_acted : hS μ a0_acted = some (9, 3)) (hr_a0_history : hR μ a0 4 = some a0_history) (hs_a0_history : hS μ a0_history = some (8, 3)) (hr_a0_now : hR μ a0 10 = some a0_now) (hs_a0_now : hS μ a0_now = some (12, 4)) (hr_a0_now_row : hR μ a0_now 0 = some a0_now_row) (hs_a0_now_row : hS μ a0_now_row = some (0, N_a0_now_row))
    (h : (((x1).toInt < 0 ∨ 6 < (x1).toInt → Z (some (.int (-1000000))) μ) ∧ (x1 = 0 → Z (some (.int (hI μ a0_book 6))) μ) ∧ (x1 = 1 → Z (some (.int (hI μ a0 15))) μ) ∧ (x1 = 2 → Z (some (.int (hI μ a0_reader 0))) μ) ∧ (x1 = 3 → xCall d yX5_size cX5_size 1 (some .int) [.ref a0_acted] μ ro (fun r2 μ3 => ∃ y4 : Int32, r2 = some (.int y4) ∧ Z (some (.int y4)) μ3)) ∧ (x1 = 4 → Z (some (.int (hI μ a0_history 0))) μ) ∧ (x1 = 5 → Z (some (.int (hI μ a0_book 5))) μ) ∧ (x1 = 6 → vp_in 1 N_a0_now_row ∧ Z (some (.int (hI μ a0_now_row 1))) μ))) :
    J μ 0 0 0 [(0, .ref a0), (1, .int x1)] [] := by
  refine r_iload_n g dX11_count_0 rfl ?_
  rcases sw_cases (x := x1) 0 6 (by decide) (by decide) with c1 | ⟨z, hz1, hz2, c1⟩
  · refine r_tableOut g 99 dX11_count_1 c1 (by decide) ?_
    replace h := h.1 c1
    refine r_ldc g (-1000000) kX11_216 dX11_count_99 ?_
    exact hr.2.1 _ rfl _ _ _ _ _ _ dX11_count_101 rfl (Nat.le_refl 0) (Nat.le_refl 0) h
  · have hz : z = 0 ∨ z = 1 ∨ z = 2 ∨ z = 3 ∨ z = 4 ∨ z = 5 ∨ z = 6 := by omega
    rcases hz with rfl | rfl | rfl | rfl | rfl | rfl | rfl
    · refine r_tableIn g 44 dX11_count_1 (by rw [c1]; decide) (by rw [c1]; decide) (off := 43) (by rw [c1]; decide) (by decide) ?_
      replace h := h.2.1 c1
      refine r_aload_n g dX11_count_44 rfl ?_
      refine r_getR g fX11_72 rfl hs_a0 hr_a0_book dX11_count_45 ?_
      refine r_getI g fX11_144 rfl hs_a0_book dX11_count_48 ?_
      exact hr.2.1 _ rfl _ _ _ _ _ _ dX11_count_51 rfl (Nat.le_refl 0) (Nat.le_refl 0) h
    · refine r_tableIn g 52 dX11_count_1 (by rw [c1]; decide) (by rw [c1]; decide) (off := 51) (by rw [c1]; decide) (by decide) ?_
      replace h := h.2.2.1 c1
      refine r_aload_n g dX11_count_52 rfl ?_
      refine r_getI g fX11_79 rfl hs_a0 dX11_count_53 ?_
      exact hr.2.1 _ rfl _ _ _ _ _ _ dX11_count_56 rfl (Nat.le_refl 0) (Nat.le_refl 0) h
    · refine r_tableIn g 57 dX11_count_1 (by rw [c1]; decide) (by rw [c1]; decide) (off := 56) (by rw [c1]; decide) (by decide) ?_
      replace h := h.2.2.2.1 c1
      refine r_aload_n g dX11_count_57 rfl ?_
      refine r_getR g fX11_10 rfl hs_a0 hr_a0_reader dX11_count_58 ?_
      refine r_getI g fX11_111 rfl hs_a0_reader dX11_count_61 ?_
      exact hr.2.1 _ rfl _ _ _ _ _ _ dX11_count_64 rfl (Nat.le_refl 0) (Nat.le_refl 0) h
    · refine r_tableIn g 65 dX11_count_1 (by rw [c1]; decide) (by rw [c1]; decide) (off := 64) (by rw [c1]; decide) (by decide) ?_
      replace h := h.2.2.2.2.1 c1
      refine r_aload_n g dX11_count_65 rfl ?_
      refine r_getR g fX11_48 rfl hs_a0 hr_a0_acted dX11_count_66 ?_
      obtain ⟨d1, Z1, hc1, hd1, h1⟩ := h
      refine r_callV (st := []) (As := []) g sX11_233 iX5_size eX5_size rfl hs_a0_acted rfl (Nat.le_of_ble_eq_true rfl) dX11_count_69 hd1 (Nat.le_refl 0) (Nat.le_refl 0) hc1 (fun r2 μ3 hZ1 => ?_)
      replace h := h1 _ _ hZ1
      clear h1 hc1 hd1 hZ1 Z1 d1
      obtain ⟨y4, rfl, h⟩ := h
      exact hr.2.1 _ rfl _ _ _ _ _ _ dX11_count_72 rfl (Nat.le_refl 0) (Nat.le_refl 0) h
    · refine r_tableIn g 73 dX11_count_1 (by rw [c1]; decide) (by rw [c1]; decide) (off := 72) (by rw [c1]; decide) (by decide) ?_
      replace h := h.2.2.2.2.2.1 c1
      refine r_aload_n g dX11_count_73 rfl ?_
      refine r_getR g fX11_41 rfl hs_a0 hr_a0_history dX11_count_74 ?_
      refine r_getI g fX11_236 rfl hs_a0_history dX11_count_77 ?_
      exact hr.2.1 _ rfl _ _ _ _ _ _ dX11_count_80 rfl (Nat.le_refl 0) (Nat.le_refl 0) h
    · refine r_tableIn g 81 dX11_count_1 (by rw [c1]; decide) (by rw [c1]; decide) (off := 80) (by rw [c1]; decide) (by decide) ?_
      replace h := h.2.2.2.2.2.2.1 c1
      refine r_aload_n g dX11_count_81 rfl ?_
      refine r_getR g fX11_72 rfl hs_a0 hr_a0_book dX11_count_82 ?_
      refine r_getI g fX11_221 rfl hs_a0_book dX11_count_85 ?_
      exact hr.2.1 _ rfl _ _ _ _ _ _ dX11_count_88 rfl (Nat.le_refl 0) (Nat.le_refl 0) h
    · refine r_tableIn g 89 dX11_count_1 (by rw [c1]; decide) (by rw [c1]; decide) (off := 88) (by rw [c1]; decide) (by decide) ?_
      replace h := h.2.2.2.2.2.2.2 c1
      refine r_aload_n g dX11_count_89 rfl ?_
      refine r_getR g fX11_96 rfl hs_a0 hr_a0_now dX11_count_90 ?_
      refine r_getR g fX11_151 rfl hs_a0_now hr_a0_now_row dX11_count_93 ?_
      refine r_iconst g 1 dX11_count_96 (by decide) ?_
      obtain ⟨hi5, h⟩ := h
      refine r_iaload g hs_a0_now_row hi5 dX11_count_97 ?_
      exact hr.2.1 _ rfl _ _ _ _ _ _ dX11_count_98 rfl (Nat.le_refl 0) (Nat.le_refl 0) h
theorem I_X11_count {d : Nat} {ro : Nat → Nat} {Z : Option Value → Hp → Prop} {μ : Hp} {a0 : Nat} {x1 : Int32} (h : ∀ J, xCtx RX11 cX11_count 2 d 0 0 yX11_count.name ro J → xRet cX11_count (some .int) 0 0 Z J → J μ 0 0 0 [(0, .ref a0), (1, .int x1)] []) : xC d yX11_count cX11_count 2 (some .int) 0 0 [.ref a0, .int x1] μ ro Z :=
  xC_intro (own := RX11) (lv := [(0, .ref a0), (1, .int x1)]) (by decide) rfl (Nat.le_of_ble_eq_true rfl) rfl (fun J g hr => r_sub g (lv' := [(0, .ref a0), (1, .int x1)]) (⟨rfl, rfl, trivial⟩) (h J g hr))
theorem dX11_isAsked_0 : decode cX11_isAsked 0 = .ok (.iload_n 1, 1) := by decide +kernel
theorem dX11_isAsked_1 : decode cX11_isAsked 1 = .ok (.invokestatic 193, 3) := by decide +kernel
theorem dX11_isAsked_4 : decode cX11_isAsked 4 = .ok (.ifCond .eq 42, 3) := by decide +kernel
theorem dX11_isAsked_7 : decode cX11_isAsked 7 = .ok (.aload_n 0, 1) := by decide +kernel
theorem dX11_isAsked_8 : decode cX11_isAsked 8 = .ok (.getfield 72, 3) := by decide +kernel
theorem dX11_isAsked_11 : decode cX11_isAsked 11 = .ok (.iload_n 2, 1) := by decide +kernel
theorem dX11_isAsked_12 : decode cX11_isAsked 12 = .ok (.invokevirtual 157, 3) := by decide +kernel
theorem dX11_isAsked_15 : decode cX11_isAsked 15 = .ok (.ifCond .eq 31, 3) := by decide +kernel
theorem dX11_isAsked_18 : decode cX11_isAsked 18 = .ok (.aload_n 0, 1) := by decide +kernel
theorem dX11_isAsked_19 : decode cX11_isAsked 19 = .ok (.getfield 72, 3) := by decide +kernel
theorem dX11_isAsked_22 : decode cX11_isAsked 22 = .ok (.iload_n 3, 1) := by decide +kernel
theorem dX11_isAsked_23 : decode cX11_isAsked 23 = .ok (.invokevirtual 157, 3) := by decide +kernel
theorem dX11_isAsked_26 : decode cX11_isAsked 26 = .ok (.ifCond .eq 20, 3) := by decide +kernel
theorem dX11_isAsked_29 : decode cX11_isAsked 29 = .ok (.iload_n 2, 1) := by decide +kernel
theorem dX11_isAsked_30 : decode cX11_isAsked 30 = .ok (.iload_n 3, 1) := by decide +kernel
theorem dX11_isAsked_31 : decode cX11_isAsked 31 = .ok (.if_icmp .eq 15, 3) := by decide +kernel
theorem dX11_isAsked_34 : decode cX11_isAsked 34 = .ok (.iload 4, 2) := by decide +kernel
theorem dX11_isAsked_36 : decode cX11_isAsked 36 = .ok (.invokestatic 240, 3) := by decide +kernel
theorem dX11_isAsked_39 : decode cX11_isAsked 39 = .ok (.ifCond .eq 7, 3) := by decide +kernel
theorem dX11_isAsked_42 : decode cX11_isAsked 42 = .ok (.iconst 1, 1) := by decide +kernel
theorem dX11_isAsked_43 : decode cX11_isAsked 43 = .ok (.goto 4, 3) := by decide +kernel
theorem dX11_isAsked_46 : decode cX11_isAsked 46 = .ok (.iconst 0, 1) := by decide +kernel
theorem dX11_isAsked_47 : decode cX11_isAsked 47 = .ok (.ireturn, 1) := by decide +kernel
set_option maxHeartbeats 4000000 in
set_option maxRecDepth 100000 in
theorem B_X11_isAsked_0 {d : Nat} {ro : Nat → Nat} {J : JT} {Z : Option Value → Hp → Prop} (g : xCtx RX11 cX11_isAsked 5 d 0 0 yX11_isAsked.name ro J) (hr : xRet cX11_isAsked (some .boolean) 0 0 Z J) {μ : Hp} {a0 : Nat} {x1 : Int32} {x2 : Int32} {x3 : Int32} {x4 : Int32} {a0_book : Nat} (hs_a0 : hS μ a0 = some (14, 18)) (hr_a0_book : hR μ a0 13 = some a0_book) (hs_a0_book : hS μ a0_book = some (6, 9)) (hd9 : 1 ≤ d)
    (h : ((x1 = 0 → ((x2 < 0 → Z (some (.int 0)) μ) ∧ (¬ x2 < 0 → (((hI μ a0_book 6) ≤ x2 → Z (some (.int 0)) μ) ∧ (¬ (hI μ a0_book 6) ≤ x2 → ((x3 < 0 → Z (some (.int 0)) μ) ∧ (¬ x3 < 0 → (((hI μ a0_book 6) ≤ x3 → Z (some (.int 0)) μ) ∧ (¬ (hI μ a0_book 6) ≤ x3 → ((x2 = x3 → Z (some (.int 0)) μ) ∧ (¬ x2 = x3 → ((x4 < 1 → Z (some (.int 0)) μ) ∧ (¬ x4 < 1 → ((1000000 < x4 → Z (some (.int 0)) μ) ∧ (¬ 1000000 < x4 → Z (some (.int 1)) μ))))))))))))))) ∧ (¬ x1 = 0 → ((¬ x1 = 1 → Z (some (.int 0)) μ) ∧ (x1 = 1 → ((x2 < 0 → Z (some (.int 0)) μ) ∧ (¬ x2 < 0 → (((hI μ a0_book 6) ≤ x2 → Z (some (.int 0)) μ) ∧ (¬ (hI μ a0_book 6) ≤ x2 → ((x3 < 0 → Z (some (.int 0)) μ) ∧ (¬ x3 < 0 → (((hI μ a0_book 6) ≤ x3 → Z (some (.int 0)) μ) ∧ (¬ (hI μ a0_book 6) ≤ x3 → ((x2 = x3 → Z (some (.int 0)) μ) ∧ (¬ x2 = x3 → ((x4 < 1 → Z (some (.int 0)) μ) ∧ (¬ x4 < 1 → ((1000000 < x4 → Z (some (.int 0)) μ) ∧ (¬ 1000000 < x4 → Z (some (.int 1)) μ))))))))))))))))))) :
    J μ 0 0 0 [(0, .ref a0), (1, .int x1), (2, .int x2), (3, .int x3), (4, .int x4)] [] := by
  refine r_iload_n g dX11_isAsked_0 rfl ?_
  by_cases c1 : x1 = 0
  · replace h := h.1 c1
    refine r_callS (st := []) (As := [.int x1]) g sX11_193 iX11_isSort rfl (Nat.le_of_ble_eq_true rfl) dX11_isAsked_1 (by omega) (Nat.le_refl 0) (Nat.le_refl 0) (P_X11_isSort_0 (d := d - 1)  c1) (fun r2 μ3 hZ1 => ?_)
    obtain ⟨rfl, e9⟩ := hZ1
    replace e9 := e9.symm
    subst e9
    refine r_if_eq g 46 dX11_isAsked_4 (by decide) (fun hz => absurd hz (by decide)) (fun _ => ?_)
    refine r_aload_n g dX11_isAsked_7 rfl ?_
    refine r_getR g fX11_72 rfl hs_a0 hr_a0_book dX11_isAsked_8 ?_
    refine r_iload_n g dX11_isAsked_11 rfl ?_
    by_cases c4 : x2 < 0
    · replace h := h.1 c4
      refine r_callV (st := []) (As := [.int x2]) g sX11_157 iX2_hasFirm eX2_hasFirm rfl hs_a0_book rfl (Nat.le_of_ble_eq_true rfl) dX11_isAsked_12 (by omega) (Nat.le_refl 0) (Nat.le_refl 0) (P_X2_hasFirm_0 (d := d - 1) hs_a0_book c4) (fun r5 μ6 hZ1 => ?_)
      obtain ⟨rfl, e9⟩ := hZ1
      replace e9 := e9.symm
      subst e9
      refine r_if_eq g 46 dX11_isAsked_15 (by decide) (fun _ => ?_) (fun hz => absurd hz (by decide))
      refine r_iconst g 0 dX11_isAsked_46 (by decide) ?_
      exact hr.2.1 _ rfl _ _ _ _ _ _ dX11_isAsked_47 (by decide) (Nat.le_refl 0) (Nat.le_refl 0) h
    · replace h := h.2 c4
      by_cases c7 : (hI μ a0_book 6) ≤ x2
      · replace h := h.1 c7
        refine r_callV (st := []) (As := [.int x2]) g sX11_157 iX2_hasFirm eX2_hasFirm rfl hs_a0_book rfl (Nat.le_of_ble_eq_true rfl) dX11_isAsked_12 (by omega) (Nat.le_refl 0) (Nat.le_refl 0) (P_X2_hasFirm_1 (d := d - 1) hs_a0_book c4 c7) (fun r8 μ9 hZ1 => ?_)
        obtain ⟨rfl, e9⟩ := hZ1
        replace e9 := e9.symm
        subst e9
        refine r_if_eq g 46 dX11_isAsked_15 (by decide) (fun _ => ?_) (fun hz => absurd hz (by decide))
        refine r_iconst g 0 dX11_isAsked_46 (by decide) ?_
        exact hr.2.1 _ rfl _ _ _ _ _ _ dX11_isAsked_47 (by decide) (Nat.le_refl 0) (Nat.le_refl 0) h
      · replace h := h.2 c7
        refine r_callV (st := []) (As := [.int x2]) g sX11_157 iX2_hasFirm eX2_hasFirm rfl hs_a0_book rfl (Nat.le_of_ble_eq_true rfl) dX11_isAsked_12 (by omega) (Nat.le_refl 0) (Nat.le_refl 0) (P_X2_hasFirm_2 (d := d - 1) hs_a0_book c4 c7) (fun r10 μ11 hZ1 => ?_)
        obtain ⟨rfl, e9⟩ := hZ1
        replace e9 := e9.symm
        subst e9
        refine r_if_eq g 46 dX11_isAsked_15 (by decide) (fun hz => absurd hz (by decide)) (fun _ => ?_)
        refine r_aload_n g dX11_isAsked_18 rfl ?_
        refine r_getR g fX11_72 rfl hs_a0 hr_a0_book dX11_isAsked_19 ?_
        refine r_iload_n g dX11_isAsked_22 rfl ?_
        by_cases c12 : x3 < 0
        · replace h := h.1 c12
          refine r_callV (st := []) (As := [.int x3]) g sX11_157 iX2_hasFirm eX2_hasFirm rfl hs_a0_book rfl (Nat.le_of_ble_eq_true rfl) dX11_isAsked_23 (by omega) (Nat.le_refl 0) (Nat.le_refl 0) (P_X2_hasFirm_0 (d := d - 1) hs_a0_book c12) (fun r13 μ14 hZ1 => ?_)
          obtain ⟨rfl, e9⟩ := hZ1
          replace e9 := e9.symm
          subst e9
          refine r_if_eq g 46 dX11_isAsked_26 (by decide) (fun _ => ?_) (fun hz => absurd hz (by decide))
          refine r_iconst g 0 dX11_isAsked_46 (by decide) ?_
          exact hr.2.1 _ rfl _ _ _ _ _ _ dX11_isAsked_47 (by decide) (Nat.le_refl 0) (Nat.le_refl 0) h
        · replace h := h.2 c12
          by_cases c15 : (hI μ a0_book 6) ≤ x3
          · replace h := h.1 c15
            refine r_callV (st := []) (As := [.int x3]) g sX11_157 iX2_hasFirm eX2_hasFirm rfl hs_a0_book rfl (Nat.le_of_ble_eq_true rfl) dX11_isAsked_23 (by omega) (Nat.le_refl 0) (Nat.le_refl 0) (P_X2_hasFirm_1 (d := d - 1) hs_a0_book c12 c15) (fun r16 μ17 hZ1 => ?_)
            obtain ⟨rfl, e9⟩ := hZ1
            replace e9 := e9.symm
            subst e9
            refine r_if_eq g 46 dX11_isAsked_26 (by decide) (fun _ => ?_) (fun hz => absurd hz (by decide))
            refine r_iconst g 0 dX11_isAsked_46 (by decide) ?_
            exact hr.2.1 _ rfl _ _ _ _ _ _ dX11_isAsked_47 (by decide) (Nat.le_refl 0) (Nat.le_refl 0) h
          · replace h := h.2 c15
            refine r_callV (st := []) (As := [.int x3]) g sX11_157 iX2_hasFirm eX2_hasFirm rfl hs_a0_book rfl (Nat.le_of_ble_eq_true rfl) dX11_isAsked_23 (by omega) (Nat.le_refl 0) (Nat.le_refl 0) (P_X2_hasFirm_2 (d := d - 1) hs_a0_book c12 c15) (fun r18 μ19 hZ1 => ?_)
            obtain ⟨rfl, e9⟩ := hZ1
            replace e9 := e9.symm
            subst e9
            refine r_if_eq g 46 dX11_isAsked_26 (by decide) (fun hz => absurd hz (by decide)) (fun _ => ?_)
            refine r_iload_n g dX11_isAsked_29 rfl ?_
            refine r_iload_n g dX11_isAsked_30 rfl ?_
            refine r_icmp_eq g 46 dX11_isAsked_31 (by decide) (fun c20 => ?_) (fun c20 => ?_)
            · replace h := h.1 c20
              refine r_iconst g 0 dX11_isAsked_46 (by decide) ?_
              exact hr.2.1 _ rfl _ _ _ _ _ _ dX11_isAsked_47 (by decide) (Nat.le_refl 0) (Nat.le_refl 0) h
            · replace h := h.2 c20
              refine r_iload g dX11_isAsked_34 rfl ?_
              by_cases c21 : x4 < 1
              · replace h := h.1 c21
                refine r_callS (st := []) (As := [.int x4]) g sX11_240 iX11_isAmount rfl (Nat.le_of_ble_eq_true rfl) dX11_isAsked_36 (by omega) (Nat.le_refl 0) (Nat.le_refl 0) (P_X11_isAmount_0 (d := d - 1)  c21) (fun r22 μ23 hZ1 => ?_)
                obtain ⟨rfl, e9⟩ := hZ1
                replace e9 := e9.symm
                subst e9
                refine r_if_eq g 46 dX11_isAsked_39 (by decide) (fun _ => ?_) (fun hz => absurd hz (by decide))
                refine r_iconst g 0 dX11_isAsked_46 (by decide) ?_
                exact hr.2.1 _ rfl _ _ _ _ _ _ dX11_isAsked_47 (by decide) (Nat.le_refl 0) (Nat.le_refl 0) h
              · replace h := h.2 c21
                by_cases c24 : 1000000 < x4
                · replace h := h.1 c24
                  refine r_callS (st := []) (As := [.int x4]) g sX11_240 iX11_isAmount rfl (Nat.le_of_ble_eq_true rfl) dX11_isAsked_36 (by omega) (Nat.le_refl 0) (Nat.le_refl 0) (P_X11_isAmount_1 (d := d - 1)  c21 c24) (fun r25 μ26 hZ1 => ?_)
                  obtain ⟨rfl, e9⟩ := hZ1
                  replace e9 := e9.symm
                  subst e9
                  refine r_if_eq g 46 dX11_isAsked_39 (by decide) (fun _ => ?_) (fun hz => absurd hz (by decide))
                  refine r_iconst g 0 dX11_isAsked_46 (by decide) ?_
                  exact hr.2.1 _ rfl _ _ _ _ _ _ dX11_isAsked_47 (by decide) (Nat.le_refl 0) (Nat.le_refl 0) h
                · replace h := h.2 c24
                  refine r_callS (st := []) (As := [.int x4]) g sX11_240 iX11_isAmount rfl (Nat.le_of_ble_eq_true rfl) dX11_isAsked_36 (by omega) (Nat.le_refl 0) (Nat.le_refl 0) (P_X11_isAmount_2 (d := d - 1)  c21 c24) (fun r27 μ28 hZ1 => ?_)
                  obtain ⟨rfl, e9⟩ := hZ1
                  replace e9 := e9.symm
                  subst e9
                  refine r_if_eq g 46 dX11_isAsked_39 (by decide) (fun hz => absurd hz (by decide)) (fun _ => ?_)
                  refine r_iconst g 1 dX11_isAsked_42 (by decide) ?_
                  refine r_goto g 47 dX11_isAsked_43 (by decide) ?_
                  exact hr.2.1 _ rfl _ _ _ _ _ _ dX11_isAsked_47 (by decide) (Nat.le_refl 0) (Nat.le_refl 0) h
  · replace h := h.2 c1
    by_cases c29 : x1 = 1
    · replace h := h.2 c29
      refine r_callS (st := []) (As := [.int x1]) g sX11_193 iX11_isSort rfl (Nat.le_of_ble_eq_true rfl) dX11_isAsked_1 (by omega) (Nat.le_refl 0) (Nat.le_refl 0) (P_X11_isSort_2 (d := d - 1)  c1 c29) (fun r32 μ33 hZ1 => ?_)
      obtain ⟨rfl, e9⟩ := hZ1
      replace e9 := e9.symm
      subst e9
      refine r_if_eq g 46 dX11_isAsked_4 (by decide) (fun hz => absurd hz (by decide)) (fun _ => ?_)
      refine r_aload_n g dX11_isAsked_7 rfl ?_
      refine r_getR g fX11_72 rfl hs_a0 hr_a0_book dX11_isAsked_8 ?_
      refine r_iload_n g dX11_isAsked_11 rfl ?_
      by_cases c34 : x2 < 0
      · replace h := h.1 c34
        refine r_callV (st := []) (As := [.int x2]) g sX11_157 iX2_hasFirm eX2_hasFirm rfl hs_a0_book rfl (Nat.le_of_ble_eq_true rfl) dX11_isAsked_12 (by omega) (Nat.le_refl 0) (Nat.le_refl 0) (P_X2_hasFirm_0 (d := d - 1) hs_a0_book c34) (fun r35 μ36 hZ1 => ?_)
        obtain ⟨rfl, e9⟩ := hZ1
        replace e9 := e9.symm
        subst e9
        refine r_if_eq g 46 dX11_isAsked_15 (by decide) (fun _ => ?_) (fun hz => absurd hz (by decide))
        refine r_iconst g 0 dX11_isAsked_46 (by decide) ?_
        exact hr.2.1 _ rfl _ _ _ _ _ _ dX11_isAsked_47 (by decide) (Nat.le_refl 0) (Nat.le_refl 0) h
      · replace h := h.2 c34
        by_cases c37 : (hI μ a0_book 6) ≤ x2
        · replace h := h.1 c37
          refine r_callV (st := []) (As := [.int x2]) g sX11_157 iX2_hasFirm eX2_hasFirm rfl hs_a0_book rfl (Nat.le_of_ble_eq_true rfl) dX11_isAsked_12 (by omega) (Nat.le_refl 0) (Nat.le_refl 0) (P_X2_hasFirm_1 (d := d - 1) hs_a0_book c34 c37) (fun r38 μ39 hZ1 => ?_)
          obtain ⟨rfl, e9⟩ := hZ1
          replace e9 := e9.symm
          subst e9
          refine r_if_eq g 46 dX11_isAsked_15 (by decide) (fun _ => ?_) (fun hz => absurd hz (by decide))
          refine r_iconst g 0 dX11_isAsked_46 (by decide) ?_
          exact hr.2.1 _ rfl _ _ _ _ _ _ dX11_isAsked_47 (by decide) (Nat.le_refl 0) (Nat.le_refl 0) h
        · replace h := h.2 c37
          refine r_callV (st := []) (As := [.int x2]) g sX11_157 iX2_hasFirm eX2_hasFirm rfl hs_a0_book rfl (Nat.le_of_ble_eq_true rfl) dX11_isAsked_12 (by omega) (Nat.le_refl 0) (Nat.le_refl 0) (P_X2_hasFirm_2 (d := d - 1) hs_a0_book c34 c37) (fun r40 μ41 hZ1 => ?_)
          obtain ⟨rfl, e9⟩ := hZ1
          replace e9 := e9.symm
          subst e9
          refine r_if_eq g 46 dX11_isAsked_15 (by decide) (fun hz => absurd hz (by decide)) (fun _ => ?_)
          refine r_aload_n g dX11_isAsked_18 rfl ?_
          refine r_getR g fX11_72 rfl hs_a0 hr_a0_book dX11_isAsked_19 ?_
          refine r_iload_n g dX11_isAsked_22 rfl ?_
          by_cases c42 : x3 < 0
          · replace h := h.1 c42
            refine r_callV (st := []) (As := [.int x3]) g sX11_157 iX2_hasFirm eX2_hasFirm rfl hs_a0_book rfl (Nat.le_of_ble_eq_true rfl) dX11_isAsked_23 (by omega) (Nat.le_refl 0) (Nat.le_refl 0) (P_X2_hasFirm_0 (d := d - 1) hs_a0_book c42) (fun r43 μ44 hZ1 => ?_)
            obtain ⟨rfl, e9⟩ := hZ1
            replace e9 := e9.symm
            subst e9
            refine r_if_eq g 46 dX11_isAsked_26 (by decide) (fun _ => ?_) (fun hz => absurd hz (by decide))
            refine r_iconst g 0 dX11_isAsked_46 (by decide) ?_
            exact hr.2.1 _ rfl _ _ _ _ _ _ dX11_isAsked_47 (by decide) (Nat.le_refl 0) (Nat.le_refl 0) h
          · replace h := h.2 c42
            by_cases c45 : (hI μ a0_book 6) ≤ x3
            · replace h := h.1 c45
              refine r_callV (st := []) (As := [.int x3]) g sX11_157 iX2_hasFirm eX2_hasFirm rfl hs_a0_book rfl (Nat.le_of_ble_eq_true rfl) dX11_isAsked_23 (by omega) (Nat.le_refl 0) (Nat.le_refl 0) (P_X2_hasFirm_1 (d := d - 1) hs_a0_book c42 c45) (fun r46 μ47 hZ1 => ?_)
              obtain ⟨rfl, e9⟩ := hZ1
              replace e9 := e9.symm
              subst e9
              refine r_if_eq g 46 dX11_isAsked_26 (by decide) (fun _ => ?_) (fun hz => absurd hz (by decide))
              refine r_iconst g 0 dX11_isAsked_46 (by decide) ?_
              exact hr.2.1 _ rfl _ _ _ _ _ _ dX11_isAsked_47 (by decide) (Nat.le_refl 0) (Nat.le_refl 0) h
            · replace h := h.2 c45
              refine r_callV (st := []) (As := [.int x3]) g sX11_157 iX2_hasFirm eX2_hasFirm rfl hs_a0_book rfl (Nat.le_of_ble_eq_true rfl) dX11_isAsked_23 (by omega) (Nat.le_refl 0) (Nat.le_refl 0) (P_X2_hasFirm_2 (d := d - 1) hs_a0_book c42 c45) (fun r48 μ49 hZ1 => ?_)
              obtain ⟨rfl, e9⟩ := hZ1
              replace e9 := e9.symm
              subst e9
              refine r_if_eq g 46 dX11_isAsked_26 (by decide) (fun hz => absurd hz (by decide)) (fun _ => ?_)
              refine r_iload_n g dX11_isAsked_29 rfl ?_
              refine r_iload_n g dX11_isAsked_30 rfl ?_
              refine r_icmp_eq g 46 dX11_isAsked_31 (by decide) (fun c50 => ?_) (fun c50 => ?_)
              · replace h := h.1 c50
                refine r_iconst g 0 dX11_isAsked_46 (by decide) ?_
                exact hr.2.1 _ rfl _ _ _ _ _ _ dX11_isAsked_47 (by decide) (Nat.le_refl 0) (Nat.le_refl 0) h
              · replace h := h.2 c50
                refine r_iload g dX11_isAsked_34 rfl ?_
                by_cases c51 : x4 < 1
                · replace h := h.1 c51
                  refine r_callS (st := []) (As := [.int x4]) g sX11_240 iX11_isAmount rfl (Nat.le_of_ble_eq_true rfl) dX11_isAsked_36 (by omega) (Nat.le_refl 0) (Nat.le_refl 0) (P_X11_isAmount_0 (d := d - 1)  c51) (fun r52 μ53 hZ1 => ?_)
                  obtain ⟨rfl, e9⟩ := hZ1
                  replace e9 := e9.symm
                  subst e9
                  refine r_if_eq g 46 dX11_isAsked_39 (by decide) (fun _ => ?_) (fun hz => absurd hz (by decide))
                  refine r_iconst g 0 dX11_isAsked_46 (by decide) ?_
                  exact hr.2.1 _ rfl _ _ _ _ _ _ dX11_isAsked_47 (by decide) (Nat.le_refl 0) (Nat.le_refl 0) h
                · replace h := h.2 c51
                  by_cases c54 : 1000000 < x4
                  · replace h := h.1 c54
                    refine r_callS (st := []) (As := [.int x4]) g sX11_240 iX11_isAmount rfl (Nat.le_of_ble_eq_true rfl) dX11_isAsked_36 (by omega) (Nat.le_refl 0) (Nat.le_refl 0) (P_X11_isAmount_1 (d := d - 1)  c51 c54) (fun r55 μ56 hZ1 => ?_)
                    obtain ⟨rfl, e9⟩ := hZ1
                    replace e9 := e9.symm
                    subst e9
                    refine r_if_eq g 46 dX11_isAsked_39 (by decide) (fun _ => ?_) (fun hz => absurd hz (by decide))
                    refine r_iconst g 0 dX11_isAsked_46 (by decide) ?_
                    exact hr.2.1 _ rfl _ _ _ _ _ _ dX11_isAsked_47 (by decide) (Nat.le_refl 0) (Nat.le_refl 0) h
                  · replace h := h.2 c54
                    refine r_callS (st := []) (As := [.int x4]) g sX11_240 iX11_isAmount rfl (Nat.le_of_ble_eq_true rfl) dX11_isAsked_36 (by omega) (Nat.le_refl 0) (Nat.le_refl 0) (P_X11_isAmount_2 (d := d - 1)  c51 c54) (fun r57 μ58 hZ1 => ?_)
                    obtain ⟨rfl, e9⟩ := hZ1
                    replace e9 := e9.symm
                    subst e9
                    refine r_if_eq g 46 dX11_isAsked_39 (by decide) (fun hz => absurd hz (by decide)) (fun _ => ?_)
                    refine r_iconst g 1 dX11_isAsked_42 (by decide) ?_
                    refine r_goto g 47 dX11_isAsked_43 (by decide) ?_
                    exact hr.2.1 _ rfl _ _ _ _ _ _ dX11_isAsked_47 (by decide) (Nat.le_refl 0) (Nat.le_refl 0) h
    · replace h := h.1 c29
      refine r_callS (st := []) (As := [.int x1]) g sX11_193 iX11_isSort rfl (Nat.le_of_ble_eq_true rfl) dX11_isAsked_1 (by omega) (Nat.le_refl 0) (Nat.le_refl 0) (P_X11_isSort_1 (d := d - 1)  c1 c29) (fun r30 μ31 hZ1 => ?_)
      obtain ⟨rfl, e9⟩ := hZ1
      replace e9 := e9.symm
      subst e9
      refine r_if_eq g 46 dX11_isAsked_4 (by decide) (fun _ => ?_) (fun hz => absurd hz (by decide))
      refine r_iconst g 0 dX11_isAsked_46 (by decide) ?_
      exact hr.2.1 _ rfl _ _ _ _ _ _ dX11_isAsked_47 (by decide) (Nat.le_refl 0) (Nat.le_refl 0) h
theorem I_X11_isAsked {d : Nat} {ro : Nat → Nat} {Z : Option Value → Hp → Prop} {μ : Hp} {a0 : Nat} {x1 : Int32} {x2 : Int32} {x3 : Int32} {x4 : Int32} (h : ∀ J, xCtx RX11 cX11_isAsked 5 d 0 0 yX11_isAsked.name ro J → xRet cX11_isAsked (some .boolean) 0 0 Z J → J μ 0 0 0 [(0, .ref a0), (1, .int x1), (2, .int x2), (3, .int x3), (4, .int x4)] []) : xC d yX11_isAsked cX11_isAsked 5 (some .boolean) 0 0 [.ref a0, .int x1, .int x2, .int x3, .int x4] μ ro Z :=
  xC_intro (own := RX11) (lv := [(0, .ref a0), (1, .int x1), (2, .int x2), (3, .int x3), (4, .int x4)]) (by decide) rfl (Nat.le_of_ble_eq_true rfl) rfl (fun J g hr => r_sub g (lv' := [(0, .ref a0), (1, .int x1), (2, .int x2), (3, .int x3), (4, .int x4)]) (⟨rfl, rfl, rfl, rfl, rfl, trivial⟩) (h J g hr))
theorem dX11_isFound_0 : decode cX11_isFound 0 = .ok (.aload_n 0, 1) := by decide +kernel
theorem dX11_isFound_1 : decode cX11_isFound 1 = .ok (.iload_n 1, 1) := by decide +kernel
theorem dX11_isFound_2 : decode cX11_isFound 2 = .ok (.iload_n 2, 1) := by decide +kernel
theorem dX11_isFound_3 : decode cX11_isFound 3 = .ok (.iload_n 3, 1) := by decide +kernel
theorem dX11_isFound_4 : decode cX11_isFound 4 = .ok (.iload 4, 2) := by decide +kernel
theorem dX11_isFound_6 : decode cX11_isFound 6 = .ok (.invokevirtual 243, 3) := by decide +kernel
theorem dX11_isFound_9 : decode cX11_isFound 9 = .ok (.ifCond .eq 27, 3) := by decide +kernel
theorem dX11_isFound_12 : decode cX11_isFound 12 = .ok (.aload_n 0, 1) := by decide +kernel
theorem dX11_isFound_13 : decode cX11_isFound 13 = .ok (.getfield 25, 3) := by decide +kernel
theorem dX11_isFound_16 : decode cX11_isFound 16 = .ok (.aload_n 0, 1) := by decide +kernel
theorem dX11_isFound_17 : decode cX11_isFound 17 = .ok (.getfield 96, 3) := by decide +kernel
theorem dX11_isFound_20 : decode cX11_isFound 20 = .ok (.iload_n 1, 1) := by decide +kernel
theorem dX11_isFound_21 : decode cX11_isFound 21 = .ok (.iload_n 2, 1) := by decide +kernel
theorem dX11_isFound_22 : decode cX11_isFound 22 = .ok (.iload_n 3, 1) := by decide +kernel
theorem dX11_isFound_23 : decode cX11_isFound 23 = .ok (.iload 4, 2) := by decide +kernel
theorem dX11_isFound_25 : decode cX11_isFound 25 = .ok (.iconst 0, 1) := by decide +kernel
theorem dX11_isFound_26 : decode cX11_isFound 26 = .ok (.invokevirtual 247, 3) := by decide +kernel
theorem dX11_isFound_29 : decode cX11_isFound 29 = .ok (.ifCond .eq 7, 3) := by decide +kernel
theorem dX11_isFound_32 : decode cX11_isFound 32 = .ok (.iconst 1, 1) := by decide +kernel
theorem dX11_isFound_33 : decode cX11_isFound 33 = .ok (.goto 4, 3) := by decide +kernel
theorem dX11_isFound_36 : decode cX11_isFound 36 = .ok (.iconst 0, 1) := by decide +kernel
theorem dX11_isFound_37 : decode cX11_isFound 37 = .ok (.ireturn, 1) := by decide +kernel
set_option maxHeartbeats 4000000 in
set_option maxRecDepth 100000 in
theorem B_X11_isFound_0 {d : Nat} {ro : Nat → Nat} {J : JT} {Z : Option Value → Hp → Prop} (g : xCtx RX11 cX11_isFound 5 d 0 0 yX11_isFound.name ro J) (hr : xRet cX11_isFound (some .boolean) 0 0 Z J) {μ : Hp} {a0 : Nat} {x1 : Int32} {x2 : Int32} {x3 : Int32} {x4 : Int32} (hs_a0 : hS μ a0 = some (14, 18))
    (h : xCall d yX11_isAsked cX11_isAsked 5 (some .boolean) [.ref a0, .int x1, .int x2, .int x3, .int x4] μ ro (fun r1 μ2 => ∃ y3 : Int32, r1 = some (.int y3) ∧ ((y3 = 0 → Z (some (.int 0)) μ2) ∧ (¬ y3 = 0 → hS μ2 a0 = some (14, 18) ∧ ∃ finder_5 : Nat, hR μ2 a0 2 = some finder_5 ∧ ∃ now_6 : Nat, hR μ2 a0 10 = some now_6 ∧ hS μ2 finder_5 = some (7, 9) ∧ xCall d yX3_find cX3_find 7 (some .boolean) [.ref finder_5, .ref now_6, .int x1, .int x2, .int x3, .int x4, .int 0] μ2 ro (fun r7 μ8 => ∃ y9 : Int32, r7 = some (.int y9) ∧ ((y9 = 0 → Z (some (.int 0)) μ8) ∧ (¬ y9 = 0 → Z (some (.int 1)) μ8))))))) :
    J μ 0 0 0 [(0, .ref a0), (1, .int x1), (2, .int x2), (3, .int x3), (4, .int x4)] [] := by
  refine r_aload_n g dX11_isFound_0 rfl ?_
  refine r_iload_n g dX11_isFound_1 rfl ?_
  refine r_iload_n g dX11_isFound_2 rfl ?_
  refine r_iload_n g dX11_isFound_3 rfl ?_
  refine r_iload g dX11_isFound_4 rfl ?_
  obtain ⟨d1, Z1, hc1, hd1, h1⟩ := h
  refine r_callV (st := []) (As := [.int x1, .int x2, .int x3, .int x4]) g sX11_243 iX11_isAsked eX11_isAsked rfl hs_a0 rfl (Nat.le_of_ble_eq_true rfl) dX11_isFound_6 hd1 (Nat.le_refl 0) (Nat.le_refl 0) hc1 (fun r1 μ2 hZ1 => ?_)
  replace h := h1 _ _ hZ1
  clear h1 hc1 hd1 hZ1 Z1 d1
  obtain ⟨y3, rfl, h⟩ := h
  refine r_if_eq g 36 dX11_isFound_9 (by decide) (fun c4 => ?_) (fun c4 => ?_)
  · replace h := h.1 c4
    refine r_iconst g 0 dX11_isFound_36 (by decide) ?_
    exact hr.2.1 _ rfl _ _ _ _ _ _ dX11_isFound_37 (by decide) (Nat.le_refl 0) (Nat.le_refl 0) h
  · replace h := h.2 c4
    refine r_aload_n g dX11_isFound_12 rfl ?_
    obtain ⟨hs_a0_, h⟩ := h
    obtain ⟨finder_5, hr_finder_5, h⟩ := h
    refine r_getR g fX11_25 rfl hs_a0_ hr_finder_5 dX11_isFound_13 ?_
    refine r_aload_n g dX11_isFound_16 rfl ?_
    obtain ⟨now_6, hr_now_6, h⟩ := h
    refine r_getR g fX11_96 rfl hs_a0_ hr_now_6 dX11_isFound_17 ?_
    refine r_iload_n g dX11_isFound_20 rfl ?_
    refine r_iload_n g dX11_isFound_21 rfl ?_
    refine r_iload_n g dX11_isFound_22 rfl ?_
    refine r_iload g dX11_isFound_23 rfl ?_
    refine r_iconst g 0 dX11_isFound_25 (by decide) ?_
    obtain ⟨hs_finder_5, h⟩ := h
    obtain ⟨d1, Z1, hc1, hd1, h1⟩ := h
    refine r_callV (st := []) (As := [.ref now_6, .int x1, .int x2, .int x3, .int x4, .int 0]) g sX11_247 iX3_find eX3_find rfl hs_finder_5 rfl (Nat.le_of_ble_eq_true rfl) dX11_isFound_26 hd1 (Nat.le_refl 0) (Nat.le_refl 0) hc1 (fun r7 μ8 hZ1 => ?_)
    replace h := h1 _ _ hZ1
    clear h1 hc1 hd1 hZ1 Z1 d1
    obtain ⟨y9, rfl, h⟩ := h
    refine r_if_eq g 36 dX11_isFound_29 (by decide) (fun c10 => ?_) (fun c10 => ?_)
    · replace h := h.1 c10
      refine r_iconst g 0 dX11_isFound_36 (by decide) ?_
      exact hr.2.1 _ rfl _ _ _ _ _ _ dX11_isFound_37 (by decide) (Nat.le_refl 0) (Nat.le_refl 0) h
    · replace h := h.2 c10
      refine r_iconst g 1 dX11_isFound_32 (by decide) ?_
      refine r_goto g 37 dX11_isFound_33 (by decide) ?_
      exact hr.2.1 _ rfl _ _ _ _ _ _ dX11_isFound_37 (by decide) (Nat.le_refl 0) (Nat.le_refl 0) h
theorem I_X11_isFound {d : Nat} {ro : Nat → Nat} {Z : Option Value → Hp → Prop} {μ : Hp} {a0 : Nat} {x1 : Int32} {x2 : Int32} {x3 : Int32} {x4 : Int32} (h : ∀ J, xCtx RX11 cX11_isFound 5 d 0 0 yX11_isFound.name ro J → xRet cX11_isFound (some .boolean) 0 0 Z J → J μ 0 0 0 [(0, .ref a0), (1, .int x1), (2, .int x2), (3, .int x3), (4, .int x4)] []) : xC d yX11_isFound cX11_isFound 5 (some .boolean) 0 0 [.ref a0, .int x1, .int x2, .int x3, .int x4] μ ro Z :=
  xC_intro (own := RX11) (lv := [(0, .ref a0), (1, .int x1), (2, .int x2), (3, .int x3), (4, .int x4)]) (by decide) rfl (Nat.le_of_ble_eq_true rfl) rfl (fun J g hr => r_sub g (lv' := [(0, .ref a0), (1, .int x1), (2, .int x2), (3, .int x3), (4, .int x4)]) (⟨rfl, rfl, rfl, rfl, rfl, trivial⟩) (h J g hr))
theorem dX11_arrivesIn_0 : decode cX11_arrivesIn 0 = .ok (.aload_n 0, 1) := by decide +kernel
theorem dX11_arrivesIn_1 : decode cX11_arrivesIn 1 = .ok (.getfield 25, 3) := by decide +kernel
theorem dX11_arrivesIn_4 : decode cX11_arrivesIn 4 = .ok (.aload_n 1, 1) := by decide +kernel
theorem dX11_arrivesIn_5 : decode cX11_arrivesIn 5 = .ok (.iload_n 2, 1) := by decide +kernel
theorem dX11_arrivesIn_6 : decode cX11_arrivesIn 6 = .ok (.iload_n 3, 1) := by decide +kernel
theorem dX11_arrivesIn_7 : decode cX11_arrivesIn 7 = .ok (.iload 4, 2) := by decide +kernel
theorem dX11_arrivesIn_9 : decode cX11_arrivesIn 9 = .ok (.iload 5, 2) := by decide +kernel
theorem dX11_arrivesIn_11 : decode cX11_arrivesIn 11 = .ok (.iconst 0, 1) := by decide +kernel
theorem dX11_arrivesIn_12 : decode cX11_arrivesIn 12 = .ok (.invokevirtual 247, 3) := by decide +kernel
theorem dX11_arrivesIn_15 : decode cX11_arrivesIn 15 = .ok (.ifCond .eq 16, 3) := by decide +kernel
theorem dX11_arrivesIn_18 : decode cX11_arrivesIn 18 = .ok (.aload_n 0, 1) := by decide +kernel
theorem dX11_arrivesIn_19 : decode cX11_arrivesIn 19 = .ok (.getfield 25, 3) := by decide +kernel
theorem dX11_arrivesIn_22 : decode cX11_arrivesIn 22 = .ok (.getfield 251, 3) := by decide +kernel
theorem dX11_arrivesIn_25 : decode cX11_arrivesIn 25 = .ok (.getfield 255, 3) := by decide +kernel
theorem dX11_arrivesIn_28 : decode cX11_arrivesIn 28 = .ok (.goto 4, 3) := by decide +kernel
theorem dX11_arrivesIn_31 : decode cX11_arrivesIn 31 = .ok (.iconst (-1), 1) := by decide +kernel
theorem dX11_arrivesIn_32 : decode cX11_arrivesIn 32 = .ok (.ireturn, 1) := by decide +kernel
set_option maxHeartbeats 4000000 in
set_option maxRecDepth 100000 in
theorem B_X11_arrivesIn_0 {d : Nat} {ro : Nat → Nat} {J : JT} {Z : Option Value → Hp → Prop} (g : xCtx RX11 cX11_arrivesIn 6 d 0 0 yX11_arrivesIn.name ro J) (hr : xRet cX11_arrivesIn (some .int) 0 0 Z J) {μ : Hp} {a0 : Nat} {a1 : Nat} {x2 : Int32} {x3 : Int32} {x4 : Int32} {x5 : Int32} {a0_finder : Nat} (hs_a0 : hS μ a0 = some (14, 18)) (hr_a0_finder : hR μ a0 2 = some a0_finder) (hs_a0_finder : hS μ a0_finder = some (7, 9))
    (h : xCall d yX3_find cX3_find 7 (some .boolean) [.ref a0_finder, .ref a1, .int x2, .int x3, .int x4, .int x5, .int 0] μ ro (fun r1 μ2 => ∃ y3 : Int32, r1 = some (.int y3) ∧ ((y3 = 0 → Z (some (.int (-1))) μ2) ∧ (¬ y3 = 0 → hS μ2 a0 = some (14, 18) ∧ ∃ finder_5 : Nat, hR μ2 a0 2 = some finder_5 ∧ hS μ2 finder_5 = some (7, 9) ∧ ∃ best_6 : Nat, hR μ2 finder_5 0 = some best_6 ∧ hS μ2 best_6 = some (13, 5) ∧ Z (some (.int (hI μ2 best_6 3))) μ2)))) :
    J μ 0 0 0 [(0, .ref a0), (1, .ref a1), (2, .int x2), (3, .int x3), (4, .int x4), (5, .int x5)] [] := by
  refine r_aload_n g dX11_arrivesIn_0 rfl ?_
  refine r_getR g fX11_25 rfl hs_a0 hr_a0_finder dX11_arrivesIn_1 ?_
  refine r_aload_n g dX11_arrivesIn_4 rfl ?_
  refine r_iload_n g dX11_arrivesIn_5 rfl ?_
  refine r_iload_n g dX11_arrivesIn_6 rfl ?_
  refine r_iload g dX11_arrivesIn_7 rfl ?_
  refine r_iload g dX11_arrivesIn_9 rfl ?_
  refine r_iconst g 0 dX11_arrivesIn_11 (by decide) ?_
  obtain ⟨d1, Z1, hc1, hd1, h1⟩ := h
  refine r_callV (st := []) (As := [.ref a1, .int x2, .int x3, .int x4, .int x5, .int 0]) g sX11_247 iX3_find eX3_find rfl hs_a0_finder rfl (Nat.le_of_ble_eq_true rfl) dX11_arrivesIn_12 hd1 (Nat.le_refl 0) (Nat.le_refl 0) hc1 (fun r1 μ2 hZ1 => ?_)
  replace h := h1 _ _ hZ1
  clear h1 hc1 hd1 hZ1 Z1 d1
  obtain ⟨y3, rfl, h⟩ := h
  refine r_if_eq g 31 dX11_arrivesIn_15 (by decide) (fun c4 => ?_) (fun c4 => ?_)
  · replace h := h.1 c4
    refine r_iconst g (-1) dX11_arrivesIn_31 (by decide) ?_
    exact hr.2.1 _ rfl _ _ _ _ _ _ dX11_arrivesIn_32 rfl (Nat.le_refl 0) (Nat.le_refl 0) h
  · replace h := h.2 c4
    refine r_aload_n g dX11_arrivesIn_18 rfl ?_
    obtain ⟨hs_a0_, h⟩ := h
    obtain ⟨finder_5, hr_finder_5, h⟩ := h
    refine r_getR g fX11_25 rfl hs_a0_ hr_finder_5 dX11_arrivesIn_19 ?_
    obtain ⟨hs_finder_5, h⟩ := h
    obtain ⟨best_6, hr_best_6, h⟩ := h
    refine r_getR g fX11_251 rfl hs_finder_5 hr_best_6 dX11_arrivesIn_22 ?_
    obtain ⟨hs_best_6, h⟩ := h
    refine r_getI g fX11_255 rfl hs_best_6 dX11_arrivesIn_25 ?_
    refine r_goto g 32 dX11_arrivesIn_28 (by decide) ?_
    exact hr.2.1 _ rfl _ _ _ _ _ _ dX11_arrivesIn_32 rfl (Nat.le_refl 0) (Nat.le_refl 0) h
theorem I_X11_arrivesIn {d : Nat} {ro : Nat → Nat} {Z : Option Value → Hp → Prop} {μ : Hp} {a0 : Nat} {a1 : Nat} {x2 : Int32} {x3 : Int32} {x4 : Int32} {x5 : Int32} (h : ∀ J, xCtx RX11 cX11_arrivesIn 6 d 0 0 yX11_arrivesIn.name ro J → xRet cX11_arrivesIn (some .int) 0 0 Z J → J μ 0 0 0 [(0, .ref a0), (1, .ref a1), (2, .int x2), (3, .int x3), (4, .int x4), (5, .int x5)] []) : xC d yX11_arrivesIn cX11_arrivesIn 6 (some .int) 0 0 [.ref a0, .ref a1, .int x2, .int x3, .int x4, .int x5] μ ro Z :=
  xC_intro (own := RX11) (lv := [(0, .ref a0), (1, .ref a1), (2, .int x2), (3, .int x3), (4, .int x4), (5, .int x5)]) (by decide) rfl (Nat.le_of_ble_eq_true rfl) rfl (fun J g hr => r_sub g (lv' := [(0, .ref a0), (1, .ref a1), (2, .int x2), (3, .int x3), (4, .int x4), (5, .int x5)]) (⟨rfl, rfl, rfl, rfl, rfl, rfl, trivial⟩) (h J g hr))
theorem dX11_best_0 : decode cX11_best 0 = .ok (.iload 5, 2) := by decide +kernel
theorem dX11_best_2 : decode cX11_best 2 = .ok (.ifCond .lt 21, 3) := by decide +kernel
theorem dX11_best_5 : decode cX11_best 5 = .ok (.iload 5, 2) := by decide +kernel
theorem dX11_best_7 : decode cX11_best 7 = .ok (.iconst 3, 1) := by decide +kernel
theorem dX11_best_8 : decode cX11_best 8 = .ok (.if_icmp .gt 15, 3) := by decide +kernel
theorem dX11_best_11 : decode cX11_best 11 = .ok (.aload_n 0, 1) := by decide +kernel
theorem dX11_best_12 : decode cX11_best 12 = .ok (.iload_n 1, 1) := by decide +kernel
theorem dX11_best_13 : decode cX11_best 13 = .ok (.iload_n 2, 1) := by decide +kernel
theorem dX11_best_14 : decode cX11_best 14 = .ok (.iload_n 3, 1) := by decide +kernel
theorem dX11_best_15 : decode cX11_best 15 = .ok (.iload 4, 2) := by decide +kernel
theorem dX11_best_17 : decode cX11_best 17 = .ok (.invokevirtual 260, 3) := by decide +kernel
theorem dX11_best_20 : decode cX11_best 20 = .ok (.ifCond .ne 5, 3) := by decide +kernel
theorem dX11_best_23 : decode cX11_best 23 = .ok (.iconst (-1), 1) := by decide +kernel
theorem dX11_best_24 : decode cX11_best 24 = .ok (.ireturn, 1) := by decide +kernel
theorem dX11_best_25 : decode cX11_best 25 = .ok (.iload 5, 2) := by decide +kernel
theorem dX11_best_27 : decode cX11_best 27 = .ok (.tableswitch 58 0 2 #[25, 36, 47], 25) := by decide +kernel
theorem dX11_best_52 : decode cX11_best 52 = .ok (.aload_n 0, 1) := by decide +kernel
theorem dX11_best_53 : decode cX11_best 53 = .ok (.getfield 25, 3) := by decide +kernel
theorem dX11_best_56 : decode cX11_best 56 = .ok (.getfield 251, 3) := by decide +kernel
theorem dX11_best_59 : decode cX11_best 59 = .ok (.getfield 255, 3) := by decide +kernel
theorem dX11_best_62 : decode cX11_best 62 = .ok (.ireturn, 1) := by decide +kernel
theorem dX11_best_63 : decode cX11_best 63 = .ok (.aload_n 0, 1) := by decide +kernel
theorem dX11_best_64 : decode cX11_best 64 = .ok (.getfield 25, 3) := by decide +kernel
theorem dX11_best_67 : decode cX11_best 67 = .ok (.getfield 251, 3) := by decide +kernel
theorem dX11_best_70 : decode cX11_best 70 = .ok (.getfield 263, 3) := by decide +kernel
theorem dX11_best_73 : decode cX11_best 73 = .ok (.ireturn, 1) := by decide +kernel
theorem dX11_best_74 : decode cX11_best 74 = .ok (.aload_n 0, 1) := by decide +kernel
theorem dX11_best_75 : decode cX11_best 75 = .ok (.getfield 25, 3) := by decide +kernel
theorem dX11_best_78 : decode cX11_best 78 = .ok (.getfield 251, 3) := by decide +kernel
theorem dX11_best_81 : decode cX11_best 81 = .ok (.getfield 266, 3) := by decide +kernel
theorem dX11_best_84 : decode cX11_best 84 = .ok (.ireturn, 1) := by decide +kernel
theorem dX11_best_85 : decode cX11_best 85 = .ok (.aload_n 0, 1) := by decide +kernel
theorem dX11_best_86 : decode cX11_best 86 = .ok (.getfield 25, 3) := by decide +kernel
theorem dX11_best_89 : decode cX11_best 89 = .ok (.getfield 251, 3) := by decide +kernel
theorem dX11_best_92 : decode cX11_best 92 = .ok (.invokevirtual 269, 3) := by decide +kernel
theorem dX11_best_95 : decode cX11_best 95 = .ok (.ireturn, 1) := by decide +kernel
set_option maxHeartbeats 4000000 in
set_option maxRecDepth 100000 in
theorem B_X11_best_0 {d : Nat} {ro : Nat → Nat} {J : JT} {Z : Option Value → Hp → Prop} (g : xCtx RX11 cX11_best 6 d 0 0 yX11_best.name ro J) (hr : xRet cX11_best (some .int) 0 0 Z J) {μ : Hp} {a0 : Nat} {x1 : Int32} {x2 : Int32} {x3 : Int32} {x4 : Int32} {x5 : Int32} (hs_a0 : hS μ a0 = some (14, 18))
    (h : ((x5 < 0 → Z (some (.int (-1))) μ) ∧ (¬ x5 < 0 → ((3 < x5 → Z (some (.int (-1))) μ) ∧ (¬ 3 < x5 → xCall d yX11_isFound cX11_isFound 5 (some .boolean) [.ref a0, .int x1, .int x2, .int x3, .int x4] μ ro (fun r3 μ4 => ∃ y5 : Int32, r3 = some (.int y5) ∧ ((¬ y5 = 0 → (((x5).toInt < 0 ∨ 2 < (x5).toInt → hS μ4 a0 = some (14, 18) ∧ ∃ finder_8 : Nat, hR μ4 a0 2 = some finder_8 ∧ hS μ4 finder_8 = some (7, 9) ∧ ∃ best_9 : Nat, hR μ4 finder_8 0 = some best_9 ∧ hS μ4 best_9 = some (13, 5) ∧ xCall d yX9_duePaid cX9_duePaid 3 (some .int) [.ref best_9] μ4 ro (fun r10 μ11 => ∃ y12 : Int32, r10 = some (.int y12) ∧ Z (some (.int y12)) μ11)) ∧ (x5 = 0 → hS μ4 a0 = some (14, 18) ∧ ∃ finder_13 : Nat, hR μ4 a0 2 = some finder_13 ∧ hS μ4 finder_13 = some (7, 9) ∧ ∃ best_14 : Nat, hR μ4 finder_13 0 = some best_14 ∧ hS μ4 best_14 = some (13, 5) ∧ Z (some (.int (hI μ4 best_14 3))) μ4) ∧ (x5 = 1 → hS μ4 a0 = some (14, 18) ∧ ∃ finder_15 : Nat, hR μ4 a0 2 = some finder_15 ∧ hS μ4 finder_15 = some (7, 9) ∧ ∃ best_16 : Nat, hR μ4 finder_15 0 = some best_16 ∧ hS μ4 best_16 = some (13, 5) ∧ Z (some (.int (hI μ4 best_16 2))) μ4) ∧ (x5 = 2 → hS μ4 a0 = some (14, 18) ∧ ∃ finder_17 : Nat, hR μ4 a0 2 = some finder_17 ∧ hS μ4 finder_17 = some (7, 9) ∧ ∃ best_18 : Nat, hR μ4 finder_17 0 = some best_18 ∧ hS μ4 best_18 = some (13, 5) ∧ Z (some (.int (hI μ4 best_18 4))) μ4))) ∧ (y5 = 0 → Z (some (.int (-1))) μ4)))))))) :
    J μ 0 0 0 [(0, .ref a0), (1, .int x1), (2, .int x2), (3, .int x3), (4, .int x4), (5, .int x5)] [] := by
  refine r_iload g dX11_best_0 rfl ?_
  refine r_if_lt g 23 dX11_best_2 (by decide) (fun c1 => ?_) (fun c1 => ?_)
  · replace h := h.1 c1
    refine r_iconst g (-1) dX11_best_23 (by decide) ?_
    exact hr.2.1 _ rfl _ _ _ _ _ _ dX11_best_24 rfl (Nat.le_refl 0) (Nat.le_refl 0) h
  · replace h := h.2 c1
    refine r_iload g dX11_best_5 rfl ?_
    refine r_iconst g 3 dX11_best_7 (by decide) ?_
    refine r_icmp_gt g 23 dX11_best_8 (by decide) (fun c2 => ?_) (fun c2 => ?_)
    · replace h := h.1 c2
      refine r_iconst g (-1) dX11_best_23 (by decide) ?_
      exact hr.2.1 _ rfl _ _ _ _ _ _ dX11_best_24 rfl (Nat.le_refl 0) (Nat.le_refl 0) h
    · replace h := h.2 c2
      refine r_aload_n g dX11_best_11 rfl ?_
      refine r_iload_n g dX11_best_12 rfl ?_
      refine r_iload_n g dX11_best_13 rfl ?_
      refine r_iload_n g dX11_best_14 rfl ?_
      refine r_iload g dX11_best_15 rfl ?_
      obtain ⟨d1, Z1, hc1, hd1, h1⟩ := h
      refine r_callV (st := []) (As := [.int x1, .int x2, .int x3, .int x4]) g sX11_260 iX11_isFound eX11_isFound rfl hs_a0 rfl (Nat.le_of_ble_eq_true rfl) dX11_best_17 hd1 (Nat.le_refl 0) (Nat.le_refl 0) hc1 (fun r3 μ4 hZ1 => ?_)
      replace h := h1 _ _ hZ1
      clear h1 hc1 hd1 hZ1 Z1 d1
      obtain ⟨y5, rfl, h⟩ := h
      refine r_if_ne g 25 dX11_best_20 (by decide) (fun c6 => ?_) (fun c6 => ?_)
      · replace h := h.1 c6
        refine r_iload g dX11_best_25 rfl ?_
        rcases sw_cases (x := x5) 0 2 (by decide) (by decide) with c7 | ⟨z, hz1, hz2, c7⟩
        · refine r_tableOut g 85 dX11_best_27 c7 (by decide) ?_
          replace h := h.1 c7
          refine r_aload_n g dX11_best_85 rfl ?_
          obtain ⟨hs_a0_, h⟩ := h
          obtain ⟨finder_8, hr_finder_8, h⟩ := h
          refine r_getR g fX11_25 rfl hs_a0_ hr_finder_8 dX11_best_86 ?_
          obtain ⟨hs_finder_8, h⟩ := h
          obtain ⟨best_9, hr_best_9, h⟩ := h
          refine r_getR g fX11_251 rfl hs_finder_8 hr_best_9 dX11_best_89 ?_
          obtain ⟨hs_best_9, h⟩ := h
          obtain ⟨d1, Z1, hc1, hd1, h1⟩ := h
          refine r_callV (st := []) (As := []) g sX11_269 iX9_duePaid eX9_duePaid rfl hs_best_9 rfl (Nat.le_of_ble_eq_true rfl) dX11_best_92 hd1 (Nat.le_refl 0) (Nat.le_refl 0) hc1 (fun r10 μ11 hZ1 => ?_)
          replace h := h1 _ _ hZ1
          clear h1 hc1 hd1 hZ1 Z1 d1
          obtain ⟨y12, rfl, h⟩ := h
          exact hr.2.1 _ rfl _ _ _ _ _ _ dX11_best_95 rfl (Nat.le_refl 0) (Nat.le_refl 0) h
        · have hz : z = 0 ∨ z = 1 ∨ z = 2 := by omega
          rcases hz with rfl | rfl | rfl
          · refine r_tableIn g 52 dX11_best_27 (by rw [c7]; decide) (by rw [c7]; decide) (off := 25) (by rw [c7]; decide) (by decide) ?_
            replace h := h.2.1 c7
            refine r_aload_n g dX11_best_52 rfl ?_
            obtain ⟨hs_a0__, h⟩ := h
            obtain ⟨finder_13, hr_finder_13, h⟩ := h
            refine r_getR g fX11_25 rfl hs_a0__ hr_finder_13 dX11_best_53 ?_
            obtain ⟨hs_finder_13, h⟩ := h
            obtain ⟨best_14, hr_best_14, h⟩ := h
            refine r_getR g fX11_251 rfl hs_finder_13 hr_best_14 dX11_best_56 ?_
            obtain ⟨hs_best_14, h⟩ := h
            refine r_getI g fX11_255 rfl hs_best_14 dX11_best_59 ?_
            exact hr.2.1 _ rfl _ _ _ _ _ _ dX11_best_62 rfl (Nat.le_refl 0) (Nat.le_refl 0) h
          · refine r_tableIn g 63 dX11_best_27 (by rw [c7]; decide) (by rw [c7]; decide) (off := 36) (by rw [c7]; decide) (by decide) ?_
            replace h := h.2.2.1 c7
            refine r_aload_n g dX11_best_63 rfl ?_
            obtain ⟨hs_a0___, h⟩ := h
            obtain ⟨finder_15, hr_finder_15, h⟩ := h
            refine r_getR g fX11_25 rfl hs_a0___ hr_finder_15 dX11_best_64 ?_
            obtain ⟨hs_finder_15, h⟩ := h
            obtain ⟨best_16, hr_best_16, h⟩ := h
            refine r_getR g fX11_251 rfl hs_finder_15 hr_best_16 dX11_best_67 ?_
            obtain ⟨hs_best_16, h⟩ := h
            refine r_getI g fX11_263 rfl hs_best_16 dX11_best_70 ?_
            exact hr.2.1 _ rfl _ _ _ _ _ _ dX11_best_73 rfl (Nat.le_refl 0) (Nat.le_refl 0) h
          · refine r_tableIn g 74 dX11_best_27 (by rw [c7]; decide) (by rw [c7]; decide) (off := 47) (by rw [c7]; decide) (by decide) ?_
            replace h := h.2.2.2 c7
            refine r_aload_n g dX11_best_74 rfl ?_
            obtain ⟨hs_a0____, h⟩ := h
            obtain ⟨finder_17, hr_finder_17, h⟩ := h
            refine r_getR g fX11_25 rfl hs_a0____ hr_finder_17 dX11_best_75 ?_
            obtain ⟨hs_finder_17, h⟩ := h
            obtain ⟨best_18, hr_best_18, h⟩ := h
            refine r_getR g fX11_251 rfl hs_finder_17 hr_best_18 dX11_best_78 ?_
            obtain ⟨hs_best_18, h⟩ := h
            refine r_getI g fX11_266 rfl hs_best_18 dX11_best_81 ?_
            exact hr.2.1 _ rfl _ _ _ _ _ _ dX11_best_84 rfl (Nat.le_refl 0) (Nat.le_refl 0) h
      · replace h := h.2 c6
        refine r_iconst g (-1) dX11_best_23 (by decide) ?_
        exact hr.2.1 _ rfl _ _ _ _ _ _ dX11_best_24 rfl (Nat.le_refl 0) (Nat.le_refl 0) h
theorem I_X11_best {d : Nat} {ro : Nat → Nat} {Z : Option Value → Hp → Prop} {μ : Hp} {a0 : Nat} {x1 : Int32} {x2 : Int32} {x3 : Int32} {x4 : Int32} {x5 : Int32} (h : ∀ J, xCtx RX11 cX11_best 6 d 0 0 yX11_best.name ro J → xRet cX11_best (some .int) 0 0 Z J → J μ 0 0 0 [(0, .ref a0), (1, .int x1), (2, .int x2), (3, .int x3), (4, .int x4), (5, .int x5)] []) : xC d yX11_best cX11_best 6 (some .int) 0 0 [.ref a0, .int x1, .int x2, .int x3, .int x4, .int x5] μ ro Z :=
  xC_intro (own := RX11) (lv := [(0, .ref a0), (1, .int x1), (2, .int x2), (3, .int x3), (4, .int x4), (5, .int x5)]) (by decide) rfl (Nat.le_of_ble_eq_true rfl) rfl (fun J g hr => r_sub g (lv' := [(0, .ref a0), (1, .int x1), (2, .int x2), (3, .int x3), (4, .int x4), (5, .int x5)]) (⟨rfl, rfl, rfl, rfl, rfl, rfl, trivial⟩) (h J g hr))
theorem dX11_stop_0 : decode cX11_stop 0 = .ok (.iload 5, 2) := by decide +kernel
theorem dX11_stop_2 : decode cX11_stop 2 = .ok (.ifCond .lt 26, 3) := by decide +kernel
theorem dX11_stop_5 : decode cX11_stop 5 = .ok (.iload 6, 2) := by decide +kernel
theorem dX11_stop_7 : decode cX11_stop 7 = .ok (.ifCond .lt 21, 3) := by decide +kernel
theorem dX11_stop_10 : decode cX11_stop 10 = .ok (.iload 6, 2) := by decide +kernel
theorem dX11_stop_12 : decode cX11_stop 12 = .ok (.iconst 4, 1) := by decide +kernel
theorem dX11_stop_13 : decode cX11_stop 13 = .ok (.if_icmp .gt 15, 3) := by decide +kernel
theorem dX11_stop_16 : decode cX11_stop 16 = .ok (.aload_n 0, 1) := by decide +kernel
theorem dX11_stop_17 : decode cX11_stop 17 = .ok (.iload_n 1, 1) := by decide +kernel
theorem dX11_stop_18 : decode cX11_stop 18 = .ok (.iload_n 2, 1) := by decide +kernel
theorem dX11_stop_19 : decode cX11_stop 19 = .ok (.iload_n 3, 1) := by decide +kernel
theorem dX11_stop_20 : decode cX11_stop 20 = .ok (.iload 4, 2) := by decide +kernel
theorem dX11_stop_22 : decode cX11_stop 22 = .ok (.invokevirtual 260, 3) := by decide +kernel
theorem dX11_stop_25 : decode cX11_stop 25 = .ok (.ifCond .ne 5, 3) := by decide +kernel
theorem dX11_stop_28 : decode cX11_stop 28 = .ok (.iconst (-1), 1) := by decide +kernel
theorem dX11_stop_29 : decode cX11_stop 29 = .ok (.ireturn, 1) := by decide +kernel
theorem dX11_stop_30 : decode cX11_stop 30 = .ok (.iload 5, 2) := by decide +kernel
theorem dX11_stop_32 : decode cX11_stop 32 = .ok (.aload_n 0, 1) := by decide +kernel
theorem dX11_stop_33 : decode cX11_stop 33 = .ok (.getfield 25, 3) := by decide +kernel
theorem dX11_stop_36 : decode cX11_stop 36 = .ok (.getfield 251, 3) := by decide +kernel
theorem dX11_stop_39 : decode cX11_stop 39 = .ok (.getfield 263, 3) := by decide +kernel
theorem dX11_stop_42 : decode cX11_stop 42 = .ok (.if_icmp .ge 24, 3) := by decide +kernel
theorem dX11_stop_45 : decode cX11_stop 45 = .ok (.aload_n 0, 1) := by decide +kernel
theorem dX11_stop_46 : decode cX11_stop 46 = .ok (.getfield 25, 3) := by decide +kernel
theorem dX11_stop_49 : decode cX11_stop 49 = .ok (.getfield 251, 3) := by decide +kernel
theorem dX11_stop_52 : decode cX11_stop 52 = .ok (.getfield 272, 3) := by decide +kernel
theorem dX11_stop_55 : decode cX11_stop 55 = .ok (.iload 6, 2) := by decide +kernel
theorem dX11_stop_57 : decode cX11_stop 57 = .ok (.iconst 5, 1) := by decide +kernel
theorem dX11_stop_58 : decode cX11_stop 58 = .ok (.imul, 1) := by decide +kernel
theorem dX11_stop_59 : decode cX11_stop 59 = .ok (.iload 5, 2) := by decide +kernel
theorem dX11_stop_61 : decode cX11_stop 61 = .ok (.iadd, 1) := by decide +kernel
theorem dX11_stop_62 : decode cX11_stop 62 = .ok (.iaload, 1) := by decide +kernel
theorem dX11_stop_63 : decode cX11_stop 63 = .ok (.goto 4, 3) := by decide +kernel
theorem dX11_stop_66 : decode cX11_stop 66 = .ok (.iconst (-1), 1) := by decide +kernel
theorem dX11_stop_67 : decode cX11_stop 67 = .ok (.ireturn, 1) := by decide +kernel
set_option maxHeartbeats 4000000 in
set_option maxRecDepth 100000 in
theorem B_X11_stop_0 {d : Nat} {ro : Nat → Nat} {J : JT} {Z : Option Value → Hp → Prop} (g : xCtx RX11 cX11_stop 7 d 0 0 yX11_stop.name ro J) (hr : xRet cX11_stop (some .int) 0 0 Z J) {μ : Hp} {a0 : Nat} {x1 : Int32} {x2 : Int32} {x3 : Int32} {x4 : Int32} {x5 : Int32} {x6 : Int32} (hs_a0 : hS μ a0 = some (14, 18))
    (h : ((x5 < 0 → Z (some (.int (-1))) μ) ∧ (¬ x5 < 0 → ((x6 < 0 → Z (some (.int (-1))) μ) ∧ (¬ x6 < 0 → ((4 < x6 → Z (some (.int (-1))) μ) ∧ (¬ 4 < x6 → xCall d yX11_isFound cX11_isFound 5 (some .boolean) [.ref a0, .int x1, .int x2, .int x3, .int x4] μ ro (fun r4 μ5 => ∃ y6 : Int32, r4 = some (.int y6) ∧ ((¬ y6 = 0 → hS μ5 a0 = some (14, 18) ∧ ∃ finder_8 : Nat, hR μ5 a0 2 = some finder_8 ∧ hS μ5 finder_8 = some (7, 9) ∧ ∃ best_9 : Nat, hR μ5 finder_8 0 = some best_9 ∧ hS μ5 best_9 = some (13, 5) ∧ (((hI μ5 best_9 2) ≤ x5 → Z (some (.int (-1))) μ5) ∧ (¬ (hI μ5 best_9 2) ≤ x5 → ∃ row_11 : Nat, hR μ5 best_9 0 = some row_11 ∧ ∃ N12 : Nat, hS μ5 row_11 = some (0, N12) ∧ vp_in ((x6 * 5) + x5) N12 ∧ Z (some (.int (hI μ5 row_11 (((x6 * 5) + x5).toNatClampNeg)))) μ5))) ∧ (y6 = 0 → Z (some (.int (-1))) μ5)))))))))) :
    J μ 0 0 0 [(0, .ref a0), (1, .int x1), (2, .int x2), (3, .int x3), (4, .int x4), (5, .int x5), (6, .int x6)] [] := by
  refine r_iload g dX11_stop_0 rfl ?_
  refine r_if_lt g 28 dX11_stop_2 (by decide) (fun c1 => ?_) (fun c1 => ?_)
  · replace h := h.1 c1
    refine r_iconst g (-1) dX11_stop_28 (by decide) ?_
    exact hr.2.1 _ rfl _ _ _ _ _ _ dX11_stop_29 rfl (Nat.le_refl 0) (Nat.le_refl 0) h
  · replace h := h.2 c1
    refine r_iload g dX11_stop_5 rfl ?_
    refine r_if_lt g 28 dX11_stop_7 (by decide) (fun c2 => ?_) (fun c2 => ?_)
    · replace h := h.1 c2
      refine r_iconst g (-1) dX11_stop_28 (by decide) ?_
      exact hr.2.1 _ rfl _ _ _ _ _ _ dX11_stop_29 rfl (Nat.le_refl 0) (Nat.le_refl 0) h
    · replace h := h.2 c2
      refine r_iload g dX11_stop_10 rfl ?_
      refine r_iconst g 4 dX11_stop_12 (by decide) ?_
      refine r_icmp_gt g 28 dX11_stop_13 (by decide) (fun c3 => ?_) (fun c3 => ?_)
      · replace h := h.1 c3
        refine r_iconst g (-1) dX11_stop_28 (by decide) ?_
        exact hr.2.1 _ rfl _ _ _ _ _ _ dX11_stop_29 rfl (Nat.le_refl 0) (Nat.le_refl 0) h
      · replace h := h.2 c3
        refine r_aload_n g dX11_stop_16 rfl ?_
        refine r_iload_n g dX11_stop_17 rfl ?_
        refine r_iload_n g dX11_stop_18 rfl ?_
        refine r_iload_n g dX11_stop_19 rfl ?_
        refine r_iload g dX11_stop_20 rfl ?_
        obtain ⟨d1, Z1, hc1, hd1, h1⟩ := h
        refine r_callV (st := []) (As := [.int x1, .int x2, .int x3, .int x4]) g sX11_260 iX11_isFound eX11_isFound rfl hs_a0 rfl (Nat.le_of_ble_eq_true rfl) dX11_stop_22 hd1 (Nat.le_refl 0) (Nat.le_refl 0) hc1 (fun r4 μ5 hZ1 => ?_)
        replace h := h1 _ _ hZ1
        clear h1 hc1 hd1 hZ1 Z1 d1
        obtain ⟨y6, rfl, h⟩ := h
        refine r_if_ne g 30 dX11_stop_25 (by decide) (fun c7 => ?_) (fun c7 => ?_)
        · replace h := h.1 c7
          refine r_iload g dX11_stop_30 rfl ?_
          refine r_aload_n g dX11_stop_32 rfl ?_
          obtain ⟨hs_a0_, h⟩ := h
          obtain ⟨finder_8, hr_finder_8, h⟩ := h
          refine r_getR g fX11_25 rfl hs_a0_ hr_finder_8 dX11_stop_33 ?_
          obtain ⟨hs_finder_8, h⟩ := h
          obtain ⟨best_9, hr_best_9, h⟩ := h
          refine r_getR g fX11_251 rfl hs_finder_8 hr_best_9 dX11_stop_36 ?_
          obtain ⟨hs_best_9, h⟩ := h
          refine r_getI g fX11_263 rfl hs_best_9 dX11_stop_39 ?_
          refine r_icmp_ge g 66 dX11_stop_42 (by decide) (fun c10 => ?_) (fun c10 => ?_)
          · replace h := h.1 c10
            refine r_iconst g (-1) dX11_stop_66 (by decide) ?_
            exact hr.2.1 _ rfl _ _ _ _ _ _ dX11_stop_67 rfl (Nat.le_refl 0) (Nat.le_refl 0) h
          · replace h := h.2 c10
            refine r_aload_n g dX11_stop_45 rfl ?_
            refine r_getR g fX11_25 rfl hs_a0_ hr_finder_8 dX11_stop_46 ?_
            refine r_getR g fX11_251 rfl hs_finder_8 hr_best_9 dX11_stop_49 ?_
            obtain ⟨row_11, hr_row_11, h⟩ := h
            refine r_getR g fX11_272 rfl hs_best_9 hr_row_11 dX11_stop_52 ?_
            refine r_iload g dX11_stop_55 rfl ?_
            refine r_iconst g 5 dX11_stop_57 (by decide) ?_
            refine r_imul g dX11_stop_58 ?_
            refine r_iload g dX11_stop_59 rfl ?_
            refine r_iadd g dX11_stop_61 ?_
            obtain ⟨N12, hs_row_11, h⟩ := h
            obtain ⟨hi13, h⟩ := h
            refine r_iaload g hs_row_11 hi13 dX11_stop_62 ?_
            refine r_goto g 67 dX11_stop_63 (by decide) ?_
            exact hr.2.1 _ rfl _ _ _ _ _ _ dX11_stop_67 rfl (Nat.le_refl 0) (Nat.le_refl 0) h
        · replace h := h.2 c7
          refine r_iconst g (-1) dX11_stop_28 (by decide) ?_
          exact hr.2.1 _ rfl _ _ _ _ _ _ dX11_stop_29 rfl (Nat.le_refl 0) (Nat.le_refl 0) h
theorem I_X11_stop {d : Nat} {ro : Nat → Nat} {Z : Option Value → Hp → Prop} {μ : Hp} {a0 : Nat} {x1 : Int32} {x2 : Int32} {x3 : Int32} {x4 : Int32} {x5 : Int32} {x6 : Int32} (h : ∀ J, xCtx RX11 cX11_stop 7 d 0 0 yX11_stop.name ro J → xRet cX11_stop (some .int) 0 0 Z J → J μ 0 0 0 [(0, .ref a0), (1, .int x1), (2, .int x2), (3, .int x3), (4, .int x4), (5, .int x5), (6, .int x6)] []) : xC d yX11_stop cX11_stop 7 (some .int) 0 0 [.ref a0, .int x1, .int x2, .int x3, .int x4, .int x5, .int x6] μ ro Z :=
  xC_intro (own := RX11) (lv := [(0, .ref a0), (1, .int x1), (2, .int x2), (3, .int x3), (4, .int x4), (5, .int x5), (6, .int x6)]) (by decide) rfl (Nat.le_of_ble_eq_true rfl) rfl (fun J g hr => r_sub g (lv' := [(0, .ref a0), (1, .int x1), (2, .int x2), (3, .int x3), (4, .int x4), (5, .int x5), (6, .int x6)]) (⟨rfl, rfl, rfl, rfl, rfl, rfl, rfl, trivial⟩) (h J g hr))
theorem dX11_loops_0 : decode cX11_loops 0 = .ok (.aload_n 0, 1) := by decide +kernel
theorem dX11_loops_1 : decode cX11_loops 1 = .ok (.iload_n 1, 1) := by decide +kernel
theorem dX11_loops_2 : decode cX11_loops 2 = .ok (.iload_n 2, 1) := by decide +kernel
theorem dX11_loops_3 : decode cX11_loops 3 = .ok (.iload_n 3, 1) := by decide +kernel
theorem dX11_loops_4 : decode cX11_loops 4 = .ok (.iconst 1, 1) := by decide +kernel
theorem dX11_loops_5 : decode cX11_loops 5 = .ok (.invokevirtual 243, 3) := by decide +kernel
theorem dX11_loops_8 : decode cX11_loops 8 = .ok (.ifCond .ne 5, 3) := by decide +kernel
theorem dX11_loops_11 : decode cX11_loops 11 = .ok (.iconst (-1), 1) := by decide +kernel
theorem dX11_loops_12 : decode cX11_loops 12 = .ok (.ireturn, 1) := by decide +kernel
theorem dX11_loops_13 : decode cX11_loops 13 = .ok (.aload_n 0, 1) := by decide +kernel
theorem dX11_loops_14 : decode cX11_loops 14 = .ok (.getfield 25, 3) := by decide +kernel
theorem dX11_loops_17 : decode cX11_loops 17 = .ok (.aload_n 0, 1) := by decide +kernel
theorem dX11_loops_18 : decode cX11_loops 18 = .ok (.getfield 96, 3) := by decide +kernel
theorem dX11_loops_21 : decode cX11_loops 21 = .ok (.iload_n 1, 1) := by decide +kernel
theorem dX11_loops_22 : decode cX11_loops 22 = .ok (.iload_n 2, 1) := by decide +kernel
theorem dX11_loops_23 : decode cX11_loops 23 = .ok (.iload_n 3, 1) := by decide +kernel
theorem dX11_loops_24 : decode cX11_loops 24 = .ok (.iconst 1, 1) := by decide +kernel
theorem dX11_loops_25 : decode cX11_loops 25 = .ok (.iconst 0, 1) := by decide +kernel
theorem dX11_loops_26 : decode cX11_loops 26 = .ok (.invokevirtual 247, 3) := by decide +kernel
theorem dX11_loops_29 : decode cX11_loops 29 = .ok (.pop, 1) := by decide +kernel
theorem dX11_loops_30 : decode cX11_loops 30 = .ok (.aload_n 0, 1) := by decide +kernel
theorem dX11_loops_31 : decode cX11_loops 31 = .ok (.getfield 25, 3) := by decide +kernel
theorem dX11_loops_34 : decode cX11_loops 34 = .ok (.getfield 286, 3) := by decide +kernel
theorem dX11_loops_37 : decode cX11_loops 37 = .ok (.ireturn, 1) := by decide +kernel
set_option maxHeartbeats 4000000 in
set_option maxRecDepth 100000 in
theorem B_X11_loops_0 {d : Nat} {ro : Nat → Nat} {J : JT} {Z : Option Value → Hp → Prop} (g : xCtx RX11 cX11_loops 4 d 0 0 yX11_loops.name ro J) (hr : xRet cX11_loops (some .int) 0 0 Z J) {μ : Hp} {a0 : Nat} {x1 : Int32} {x2 : Int32} {x3 : Int32} (hs_a0 : hS μ a0 = some (14, 18))
    (h : xCall d yX11_isAsked cX11_isAsked 5 (some .boolean) [.ref a0, .int x1, .int x2, .int x3, .int 1] μ ro (fun r1 μ2 => ∃ y3 : Int32, r1 = some (.int y3) ∧ ((¬ y3 = 0 → hS μ2 a0 = some (14, 18) ∧ ∃ finder_5 : Nat, hR μ2 a0 2 = some finder_5 ∧ ∃ now_6 : Nat, hR μ2 a0 10 = some now_6 ∧ hS μ2 finder_5 = some (7, 9) ∧ xCall d yX3_find cX3_find 7 (some .boolean) [.ref finder_5, .ref now_6, .int x1, .int x2, .int x3, .int 1, .int 0] μ2 ro (fun r7 μ8 => ∃ y9 : Int32, r7 = some (.int y9) ∧ hS μ8 a0 = some (14, 18) ∧ ∃ finder_10 : Nat, hR μ8 a0 2 = some finder_10 ∧ hS μ8 finder_10 = some (7, 9) ∧ Z (some (.int (hI μ8 finder_10 1))) μ8)) ∧ (y3 = 0 → Z (some (.int (-1))) μ2)))) :
    J μ 0 0 0 [(0, .ref a0), (1, .int x1), (2, .int x2), (3, .int x3)] [] := by
  refine r_aload_n g dX11_loops_0 rfl ?_
  refine r_iload_n g dX11_loops_1 rfl ?_
  refine r_iload_n g dX11_loops_2 rfl ?_
  refine r_iload_n g dX11_loops_3 rfl ?_
  refine r_iconst g 1 dX11_loops_4 (by decide) ?_
  obtain ⟨d1, Z1, hc1, hd1, h1⟩ := h
  refine r_callV (st := []) (As := [.int x1, .int x2, .int x3, .int 1]) g sX11_243 iX11_isAsked eX11_isAsked rfl hs_a0 rfl (Nat.le_of_ble_eq_true rfl) dX11_loops_5 hd1 (Nat.le_refl 0) (Nat.le_refl 0) hc1 (fun r1 μ2 hZ1 => ?_)
  replace h := h1 _ _ hZ1
  clear h1 hc1 hd1 hZ1 Z1 d1
  obtain ⟨y3, rfl, h⟩ := h
  refine r_if_ne g 13 dX11_loops_8 (by decide) (fun c4 => ?_) (fun c4 => ?_)
  · replace h := h.1 c4
    refine r_aload_n g dX11_loops_13 rfl ?_
    obtain ⟨hs_a0_, h⟩ := h
    obtain ⟨finder_5, hr_finder_5, h⟩ := h
    refine r_getR g fX11_25 rfl hs_a0_ hr_finder_5 dX11_loops_14 ?_
    refine r_aload_n g dX11_loops_17 rfl ?_
    obtain ⟨now_6, hr_now_6, h⟩ := h
    refine r_getR g fX11_96 rfl hs_a0_ hr_now_6 dX11_loops_18 ?_
    refine r_iload_n g dX11_loops_21 rfl ?_
    refine r_iload_n g dX11_loops_22 rfl ?_
    refine r_iload_n g dX11_loops_23 rfl ?_
    refine r_iconst g 1 dX11_loops_24 (by decide) ?_
    refine r_iconst g 0 dX11_loops_25 (by decide) ?_
    obtain ⟨hs_finder_5, h⟩ := h
    obtain ⟨d1, Z1, hc1, hd1, h1⟩ := h
    refine r_callV (st := []) (As := [.ref now_6, .int x1, .int x2, .int x3, .int 1, .int 0]) g sX11_247 iX3_find eX3_find rfl hs_finder_5 rfl (Nat.le_of_ble_eq_true rfl) dX11_loops_26 hd1 (Nat.le_refl 0) (Nat.le_refl 0) hc1 (fun r7 μ8 hZ1 => ?_)
    replace h := h1 _ _ hZ1
    clear h1 hc1 hd1 hZ1 Z1 d1
    obtain ⟨y9, rfl, h⟩ := h
    refine r_pop g dX11_loops_29 rfl ?_
    refine r_aload_n g dX11_loops_30 rfl ?_
    obtain ⟨hs_a0__, h⟩ := h
    obtain ⟨finder_10, hr_finder_10, h⟩ := h
    refine r_getR g fX11_25 rfl hs_a0__ hr_finder_10 dX11_loops_31 ?_
    obtain ⟨hs_finder_10, h⟩ := h
    refine r_getI g fX11_286 rfl hs_finder_10 dX11_loops_34 ?_
    exact hr.2.1 _ rfl _ _ _ _ _ _ dX11_loops_37 rfl (Nat.le_refl 0) (Nat.le_refl 0) h
  · replace h := h.2 c4
    refine r_iconst g (-1) dX11_loops_11 (by decide) ?_
    exact hr.2.1 _ rfl _ _ _ _ _ _ dX11_loops_12 rfl (Nat.le_refl 0) (Nat.le_refl 0) h
theorem I_X11_loops {d : Nat} {ro : Nat → Nat} {Z : Option Value → Hp → Prop} {μ : Hp} {a0 : Nat} {x1 : Int32} {x2 : Int32} {x3 : Int32} (h : ∀ J, xCtx RX11 cX11_loops 4 d 0 0 yX11_loops.name ro J → xRet cX11_loops (some .int) 0 0 Z J → J μ 0 0 0 [(0, .ref a0), (1, .int x1), (2, .int x2), (3, .int x3)] []) : xC d yX11_loops cX11_loops 4 (some .int) 0 0 [.ref a0, .int x1, .int x2, .int x3] μ ro Z :=
  xC_intro (own := RX11) (lv := [(0, .ref a0), (1, .int x1), (2, .int x2), (3, .int x3)]) (by decide) rfl (Nat.le_of_ble_eq_true rfl) rfl (fun J g hr => r_sub g (lv' := [(0, .ref a0), (1, .int x1), (2, .int x2), (3, .int x3)]) (⟨rfl, rfl, rfl, rfl, trivial⟩) (h J g hr))
theorem dX11_least_0 : decode cX11_least 0 = .ok (.iload 5, 2) := by decide +kernel
theorem dX11_least_2 : decode cX11_least 2 = .ok (.ifCond .lt 21, 3) := by decide +kernel
theorem dX11_least_5 : decode cX11_least 5 = .ok (.iload 5, 2) := by decide +kernel
theorem dX11_least_7 : decode cX11_least 7 = .ok (.iconst 2, 1) := by decide +kernel
theorem dX11_least_8 : decode cX11_least 8 = .ok (.if_icmp .gt 15, 3) := by decide +kernel
theorem dX11_least_11 : decode cX11_least 11 = .ok (.aload_n 0, 1) := by decide +kernel
theorem dX11_least_12 : decode cX11_least 12 = .ok (.iload_n 1, 1) := by decide +kernel
theorem dX11_least_13 : decode cX11_least 13 = .ok (.iload_n 2, 1) := by decide +kernel
theorem dX11_least_14 : decode cX11_least 14 = .ok (.iload_n 3, 1) := by decide +kernel
theorem dX11_least_15 : decode cX11_least 15 = .ok (.iload 4, 2) := by decide +kernel
theorem dX11_least_17 : decode cX11_least 17 = .ok (.invokevirtual 243, 3) := by decide +kernel
theorem dX11_least_20 : decode cX11_least 20 = .ok (.ifCond .ne 5, 3) := by decide +kernel
theorem dX11_least_23 : decode cX11_least 23 = .ok (.iconst (-1), 1) := by decide +kernel
theorem dX11_least_24 : decode cX11_least 24 = .ok (.ireturn, 1) := by decide +kernel
theorem dX11_least_25 : decode cX11_least 25 = .ok (.aload_n 0, 1) := by decide +kernel
theorem dX11_least_26 : decode cX11_least 26 = .ok (.getfield 25, 3) := by decide +kernel
theorem dX11_least_29 : decode cX11_least 29 = .ok (.aload_n 0, 1) := by decide +kernel
theorem dX11_least_30 : decode cX11_least 30 = .ok (.getfield 96, 3) := by decide +kernel
theorem dX11_least_33 : decode cX11_least 33 = .ok (.iload_n 1, 1) := by decide +kernel
theorem dX11_least_34 : decode cX11_least 34 = .ok (.iload_n 2, 1) := by decide +kernel
theorem dX11_least_35 : decode cX11_least 35 = .ok (.iload_n 3, 1) := by decide +kernel
theorem dX11_least_36 : decode cX11_least 36 = .ok (.iload 4, 2) := by decide +kernel
theorem dX11_least_38 : decode cX11_least 38 = .ok (.invokevirtual 289, 3) := by decide +kernel
theorem dX11_least_41 : decode cX11_least 41 = .ok (.ifCond .ne 5, 3) := by decide +kernel
theorem dX11_least_44 : decode cX11_least 44 = .ok (.iconst (-1), 1) := by decide +kernel
theorem dX11_least_45 : decode cX11_least 45 = .ok (.ireturn, 1) := by decide +kernel
theorem dX11_least_46 : decode cX11_least 46 = .ok (.iload 5, 2) := by decide +kernel
theorem dX11_least_48 : decode cX11_least 48 = .ok (.ifCond .ne 14, 3) := by decide +kernel
theorem dX11_least_51 : decode cX11_least 51 = .ok (.aload_n 0, 1) := by decide +kernel
theorem dX11_least_52 : decode cX11_least 52 = .ok (.getfield 25, 3) := by decide +kernel
theorem dX11_least_55 : decode cX11_least 55 = .ok (.getfield 251, 3) := by decide +kernel
theorem dX11_least_58 : decode cX11_least 58 = .ok (.getfield 266, 3) := by decide +kernel
theorem dX11_least_61 : decode cX11_least 61 = .ok (.ireturn, 1) := by decide +kernel
theorem dX11_least_62 : decode cX11_least 62 = .ok (.iload 5, 2) := by decide +kernel
theorem dX11_least_64 : decode cX11_least 64 = .ok (.iconst 1, 1) := by decide +kernel
theorem dX11_least_65 : decode cX11_least 65 = .ok (.if_icmp .ne 16, 3) := by decide +kernel
theorem dX11_least_68 : decode cX11_least 68 = .ok (.aload_n 0, 1) := by decide +kernel
theorem dX11_least_69 : decode cX11_least 69 = .ok (.getfield 25, 3) := by decide +kernel
theorem dX11_least_72 : decode cX11_least 72 = .ok (.getfield 251, 3) := by decide +kernel
theorem dX11_least_75 : decode cX11_least 75 = .ok (.getfield 263, 3) := by decide +kernel
theorem dX11_least_78 : decode cX11_least 78 = .ok (.goto 13, 3) := by decide +kernel
theorem dX11_least_81 : decode cX11_least 81 = .ok (.aload_n 0, 1) := by decide +kernel
theorem dX11_least_82 : decode cX11_least 82 = .ok (.getfield 25, 3) := by decide +kernel
theorem dX11_least_85 : decode cX11_least 85 = .ok (.getfield 251, 3) := by decide +kernel
theorem dX11_least_88 : decode cX11_least 88 = .ok (.getfield 255, 3) := by decide +kernel
theorem dX11_least_91 : decode cX11_least 91 = .ok (.ireturn, 1) := by decide +kernel
set_option maxHeartbeats 4000000 in
set_option maxRecDepth 100000 in
theorem B_X11_least_0 {d : Nat} {ro : Nat → Nat} {J : JT} {Z : Option Value → Hp → Prop} (g : xCtx RX11 cX11_least 6 d 0 0 yX11_least.name ro J) (hr : xRet cX11_least (some .int) 0 0 Z J) {μ : Hp} {a0 : Nat} {x1 : Int32} {x2 : Int32} {x3 : Int32} {x4 : Int32} {x5 : Int32} (hs_a0 : hS μ a0 = some (14, 18))
    (h : ((x5 < 0 → Z (some (.int (-1))) μ) ∧ (¬ x5 < 0 → ((2 < x5 → Z (some (.int (-1))) μ) ∧ (¬ 2 < x5 → xCall d yX11_isAsked cX11_isAsked 5 (some .boolean) [.ref a0, .int x1, .int x2, .int x3, .int x4] μ ro (fun r3 μ4 => ∃ y5 : Int32, r3 = some (.int y5) ∧ ((¬ y5 = 0 → hS μ4 a0 = some (14, 18) ∧ ∃ finder_7 : Nat, hR μ4 a0 2 = some finder_7 ∧ ∃ now_8 : Nat, hR μ4 a0 10 = some now_8 ∧ hS μ4 finder_7 = some (7, 9) ∧ xCall d yX3_findSparing cX3_findSparing 7 (some .boolean) [.ref finder_7, .ref now_8, .int x1, .int x2, .int x3, .int x4] μ4 ro (fun r9 μ10 => ∃ y11 : Int32, r9 = some (.int y11) ∧ ((¬ y11 = 0 → ((¬ x5 = 0 → ((¬ x5 = 1 → hS μ10 a0 = some (14, 18) ∧ ∃ finder_15 : Nat, hR μ10 a0 2 = some finder_15 ∧ hS μ10 finder_15 = some (7, 9) ∧ ∃ best_16 : Nat, hR μ10 finder_15 0 = some best_16 ∧ hS μ10 best_16 = some (13, 5) ∧ Z (some (.int (hI μ10 best_16 3))) μ10) ∧ (x5 = 1 → hS μ10 a0 = some (14, 18) ∧ ∃ finder_17 : Nat, hR μ10 a0 2 = some finder_17 ∧ hS μ10 finder_17 = some (7, 9) ∧ ∃ best_18 : Nat, hR μ10 finder_17 0 = some best_18 ∧ hS μ10 best_18 = some (13, 5) ∧ Z (some (.int (hI μ10 best_18 2))) μ10))) ∧ (x5 = 0 → hS μ10 a0 = some (14, 18) ∧ ∃ finder_19 : Nat, hR μ10 a0 2 = some finder_19 ∧ hS μ10 finder_19 = some (7, 9) ∧ ∃ best_20 : Nat, hR μ10 finder_19 0 = some best_20 ∧ hS μ10 best_20 = some (13, 5) ∧ Z (some (.int (hI μ10 best_20 4))) μ10))) ∧ (y11 = 0 → Z (some (.int (-1))) μ10)))) ∧ (y5 = 0 → Z (some (.int (-1))) μ4)))))))) :
    J μ 0 0 0 [(0, .ref a0), (1, .int x1), (2, .int x2), (3, .int x3), (4, .int x4), (5, .int x5)] [] := by
  refine r_iload g dX11_least_0 rfl ?_
  refine r_if_lt g 23 dX11_least_2 (by decide) (fun c1 => ?_) (fun c1 => ?_)
  · replace h := h.1 c1
    refine r_iconst g (-1) dX11_least_23 (by decide) ?_
    exact hr.2.1 _ rfl _ _ _ _ _ _ dX11_least_24 rfl (Nat.le_refl 0) (Nat.le_refl 0) h
  · replace h := h.2 c1
    refine r_iload g dX11_least_5 rfl ?_
    refine r_iconst g 2 dX11_least_7 (by decide) ?_
    refine r_icmp_gt g 23 dX11_least_8 (by decide) (fun c2 => ?_) (fun c2 => ?_)
    · replace h := h.1 c2
      refine r_iconst g (-1) dX11_least_23 (by decide) ?_
      exact hr.2.1 _ rfl _ _ _ _ _ _ dX11_least_24 rfl (Nat.le_refl 0) (Nat.le_refl 0) h
    · replace h := h.2 c2
      refine r_aload_n g dX11_least_11 rfl ?_
      refine r_iload_n g dX11_least_12 rfl ?_
      refine r_iload_n g dX11_least_13 rfl ?_
      refine r_iload_n g dX11_least_14 rfl ?_
      refine r_iload g dX11_least_15 rfl ?_
      obtain ⟨d1, Z1, hc1, hd1, h1⟩ := h
      refine r_callV (st := []) (As := [.int x1, .int x2, .int x3, .int x4]) g sX11_243 iX11_isAsked eX11_isAsked rfl hs_a0 rfl (Nat.le_of_ble_eq_true rfl) dX11_least_17 hd1 (Nat.le_refl 0) (Nat.le_refl 0) hc1 (fun r3 μ4 hZ1 => ?_)
      replace h := h1 _ _ hZ1
      clear h1 hc1 hd1 hZ1 Z1 d1
      obtain ⟨y5, rfl, h⟩ := h
      refine r_if_ne g 25 dX11_least_20 (by decide) (fun c6 => ?_) (fun c6 => ?_)
      · replace h := h.1 c6
        refine r_aload_n g dX11_least_25 rfl ?_
        obtain ⟨hs_a0_, h⟩ := h
        obtain ⟨finder_7, hr_finder_7, h⟩ := h
        refine r_getR g fX11_25 rfl hs_a0_ hr_finder_7 dX11_least_26 ?_
        refine r_aload_n g dX11_least_29 rfl ?_
        obtain ⟨now_8, hr_now_8, h⟩ := h
        refine r_getR g fX11_96 rfl hs_a0_ hr_now_8 dX11_least_30 ?_
        refine r_iload_n g dX11_least_33 rfl ?_
        refine r_iload_n g dX11_least_34 rfl ?_
        refine r_iload_n g dX11_least_35 rfl ?_
        refine r_iload g dX11_least_36 rfl ?_
        obtain ⟨hs_finder_7, h⟩ := h
        obtain ⟨d1, Z1, hc1, hd1, h1⟩ := h
        refine r_callV (st := []) (As := [.ref now_8, .int x1, .int x2, .int x3, .int x4]) g sX11_289 iX3_findSparing eX3_findSparing rfl hs_finder_7 rfl (Nat.le_of_ble_eq_true rfl) dX11_least_38 hd1 (Nat.le_refl 0) (Nat.le_refl 0) hc1 (fun r9 μ10 hZ1 => ?_)
        replace h := h1 _ _ hZ1
        clear h1 hc1 hd1 hZ1 Z1 d1
        obtain ⟨y11, rfl, h⟩ := h
        refine r_if_ne g 46 dX11_least_41 (by decide) (fun c12 => ?_) (fun c12 => ?_)
        · replace h := h.1 c12
          refine r_iload g dX11_least_46 rfl ?_
          refine r_if_ne g 62 dX11_least_48 (by decide) (fun c13 => ?_) (fun c13 => ?_)
          · replace h := h.1 c13
            refine r_iload g dX11_least_62 rfl ?_
            refine r_iconst g 1 dX11_least_64 (by decide) ?_
            refine r_icmp_ne g 81 dX11_least_65 (by decide) (fun c14 => ?_) (fun c14 => ?_)
            · replace h := h.1 c14
              refine r_aload_n g dX11_least_81 rfl ?_
              obtain ⟨hs_a0__, h⟩ := h
              obtain ⟨finder_15, hr_finder_15, h⟩ := h
              refine r_getR g fX11_25 rfl hs_a0__ hr_finder_15 dX11_least_82 ?_
              obtain ⟨hs_finder_15, h⟩ := h
              obtain ⟨best_16, hr_best_16, h⟩ := h
              refine r_getR g fX11_251 rfl hs_finder_15 hr_best_16 dX11_least_85 ?_
              obtain ⟨hs_best_16, h⟩ := h
              refine r_getI g fX11_255 rfl hs_best_16 dX11_least_88 ?_
              exact hr.2.1 _ rfl _ _ _ _ _ _ dX11_least_91 rfl (Nat.le_refl 0) (Nat.le_refl 0) h
            · replace h := h.2 c14
              refine r_aload_n g dX11_least_68 rfl ?_
              obtain ⟨hs_a0___, h⟩ := h
              obtain ⟨finder_17, hr_finder_17, h⟩ := h
              refine r_getR g fX11_25 rfl hs_a0___ hr_finder_17 dX11_least_69 ?_
              obtain ⟨hs_finder_17, h⟩ := h
              obtain ⟨best_18, hr_best_18, h⟩ := h
              refine r_getR g fX11_251 rfl hs_finder_17 hr_best_18 dX11_least_72 ?_
              obtain ⟨hs_best_18, h⟩ := h
              refine r_getI g fX11_263 rfl hs_best_18 dX11_least_75 ?_
              refine r_goto g 91 dX11_least_78 (by decide) ?_
              exact hr.2.1 _ rfl _ _ _ _ _ _ dX11_least_91 rfl (Nat.le_refl 0) (Nat.le_refl 0) h
          · replace h := h.2 c13
            refine r_aload_n g dX11_least_51 rfl ?_
            obtain ⟨hs_a0____, h⟩ := h
            obtain ⟨finder_19, hr_finder_19, h⟩ := h
            refine r_getR g fX11_25 rfl hs_a0____ hr_finder_19 dX11_least_52 ?_
            obtain ⟨hs_finder_19, h⟩ := h
            obtain ⟨best_20, hr_best_20, h⟩ := h
            refine r_getR g fX11_251 rfl hs_finder_19 hr_best_20 dX11_least_55 ?_
            obtain ⟨hs_best_20, h⟩ := h
            refine r_getI g fX11_266 rfl hs_best_20 dX11_least_58 ?_
            exact hr.2.1 _ rfl _ _ _ _ _ _ dX11_least_61 rfl (Nat.le_refl 0) (Nat.le_refl 0) h
        · replace h := h.2 c12
          refine r_iconst g (-1) dX11_least_44 (by decide) ?_
          exact hr.2.1 _ rfl _ _ _ _ _ _ dX11_least_45 rfl (Nat.le_refl 0) (Nat.le_refl 0) h
      · replace h := h.2 c6
        refine r_iconst g (-1) dX11_least_23 (by decide) ?_
        exact hr.2.1 _ rfl _ _ _ _ _ _ dX11_least_24 rfl (Nat.le_refl 0) (Nat.le_refl 0) h
theorem I_X11_least {d : Nat} {ro : Nat → Nat} {Z : Option Value → Hp → Prop} {μ : Hp} {a0 : Nat} {x1 : Int32} {x2 : Int32} {x3 : Int32} {x4 : Int32} {x5 : Int32} (h : ∀ J, xCtx RX11 cX11_least 6 d 0 0 yX11_least.name ro J → xRet cX11_least (some .int) 0 0 Z J → J μ 0 0 0 [(0, .ref a0), (1, .int x1), (2, .int x2), (3, .int x3), (4, .int x4), (5, .int x5)] []) : xC d yX11_least cX11_least 6 (some .int) 0 0 [.ref a0, .int x1, .int x2, .int x3, .int x4, .int x5] μ ro Z :=
  xC_intro (own := RX11) (lv := [(0, .ref a0), (1, .int x1), (2, .int x2), (3, .int x3), (4, .int x4), (5, .int x5)]) (by decide) rfl (Nat.le_of_ble_eq_true rfl) rfl (fun J g hr => r_sub g (lv' := [(0, .ref a0), (1, .int x1), (2, .int x2), (3, .int x3), (4, .int x4), (5, .int x5)]) (⟨rfl, rfl, rfl, rfl, rfl, rfl, trivial⟩) (h J g hr))
theorem dX11_direct_0 : decode cX11_direct 0 = .ok (.aload_n 0, 1) := by decide +kernel
theorem dX11_direct_1 : decode cX11_direct 1 = .ok (.iload_n 1, 1) := by decide +kernel
theorem dX11_direct_2 : decode cX11_direct 2 = .ok (.iload_n 2, 1) := by decide +kernel
theorem dX11_direct_3 : decode cX11_direct 3 = .ok (.iload_n 3, 1) := by decide +kernel
theorem dX11_direct_4 : decode cX11_direct 4 = .ok (.iload 4, 2) := by decide +kernel
theorem dX11_direct_6 : decode cX11_direct 6 = .ok (.invokevirtual 243, 3) := by decide +kernel
theorem dX11_direct_9 : decode cX11_direct 9 = .ok (.ifCond .ne 5, 3) := by decide +kernel
theorem dX11_direct_12 : decode cX11_direct 12 = .ok (.iconst (-1), 1) := by decide +kernel
theorem dX11_direct_13 : decode cX11_direct 13 = .ok (.ireturn, 1) := by decide +kernel
theorem dX11_direct_14 : decode cX11_direct 14 = .ok (.aload_n 0, 1) := by decide +kernel
theorem dX11_direct_15 : decode cX11_direct 15 = .ok (.getfield 25, 3) := by decide +kernel
theorem dX11_direct_18 : decode cX11_direct 18 = .ok (.aload_n 0, 1) := by decide +kernel
theorem dX11_direct_19 : decode cX11_direct 19 = .ok (.getfield 96, 3) := by decide +kernel
theorem dX11_direct_22 : decode cX11_direct 22 = .ok (.invokevirtual 196, 3) := by decide +kernel
theorem dX11_direct_25 : decode cX11_direct 25 = .ok (.aload_n 0, 1) := by decide +kernel
theorem dX11_direct_26 : decode cX11_direct 26 = .ok (.getfield 25, 3) := by decide +kernel
theorem dX11_direct_29 : decode cX11_direct 29 = .ok (.aload_n 0, 1) := by decide +kernel
theorem dX11_direct_30 : decode cX11_direct 30 = .ok (.getfield 96, 3) := by decide +kernel
theorem dX11_direct_33 : decode cX11_direct 33 = .ok (.iload_n 1, 1) := by decide +kernel
theorem dX11_direct_34 : decode cX11_direct 34 = .ok (.iload_n 3, 1) := by decide +kernel
theorem dX11_direct_35 : decode cX11_direct 35 = .ok (.invokevirtual 199, 3) := by decide +kernel
theorem dX11_direct_38 : decode cX11_direct 38 = .ok (.iload_n 2, 1) := by decide +kernel
theorem dX11_direct_39 : decode cX11_direct 39 = .ok (.bipush 8, 2) := by decide +kernel
theorem dX11_direct_41 : decode cX11_direct 41 = .ok (.imul, 1) := by decide +kernel
theorem dX11_direct_42 : decode cX11_direct 42 = .ok (.iload_n 3, 1) := by decide +kernel
theorem dX11_direct_43 : decode cX11_direct 43 = .ok (.iadd, 1) := by decide +kernel
theorem dX11_direct_44 : decode cX11_direct 44 = .ok (.istore 5, 2) := by decide +kernel
theorem dX11_direct_46 : decode cX11_direct 46 = .ok (.aload_n 0, 1) := by decide +kernel
theorem dX11_direct_47 : decode cX11_direct 47 = .ok (.getfield 25, 3) := by decide +kernel
theorem dX11_direct_50 : decode cX11_direct 50 = .ok (.getfield 203, 3) := by decide +kernel
theorem dX11_direct_53 : decode cX11_direct 53 = .ok (.iload 5, 2) := by decide +kernel
theorem dX11_direct_55 : decode cX11_direct 55 = .ok (.iaload, 1) := by decide +kernel
theorem dX11_direct_56 : decode cX11_direct 56 = .ok (.iconst (-1), 1) := by decide +kernel
theorem dX11_direct_57 : decode cX11_direct 57 = .ok (.if_icmp .ne 7, 3) := by decide +kernel
theorem dX11_direct_60 : decode cX11_direct 60 = .ok (.iconst (-1), 1) := by decide +kernel
theorem dX11_direct_61 : decode cX11_direct 61 = .ok (.goto 23, 3) := by decide +kernel
theorem dX11_direct_64 : decode cX11_direct 64 = .ok (.iload 4, 2) := by decide +kernel
theorem dX11_direct_66 : decode cX11_direct 66 = .ok (.iload 4, 2) := by decide +kernel
theorem dX11_direct_68 : decode cX11_direct 68 = .ok (.aload_n 0, 1) := by decide +kernel
theorem dX11_direct_69 : decode cX11_direct 69 = .ok (.getfield 25, 3) := by decide +kernel
theorem dX11_direct_72 : decode cX11_direct 72 = .ok (.getfield 206, 3) := by decide +kernel
theorem dX11_direct_75 : decode cX11_direct 75 = .ok (.iload 5, 2) := by decide +kernel
theorem dX11_direct_77 : decode cX11_direct 77 = .ok (.iaload, 1) := by decide +kernel
theorem dX11_direct_78 : decode cX11_direct 78 = .ok (.imul, 1) := by decide +kernel
theorem dX11_direct_79 : decode cX11_direct 79 = .ok (.sipush 1000, 3) := by decide +kernel
theorem dX11_direct_82 : decode cX11_direct 82 = .ok (.idiv, 1) := by decide +kernel
theorem dX11_direct_83 : decode cX11_direct 83 = .ok (.isub, 1) := by decide +kernel
theorem dX11_direct_84 : decode cX11_direct 84 = .ok (.ireturn, 1) := by decide +kernel
set_option maxHeartbeats 4000000 in
set_option maxRecDepth 100000 in
theorem B_X11_direct_0 {d : Nat} {ro : Nat → Nat} {J : JT} {Z : Option Value → Hp → Prop} (g : xCtx RX11 cX11_direct 6 d 0 0 yX11_direct.name ro J) (hr : xRet cX11_direct (some .int) 0 0 Z J) {μ : Hp} {a0 : Nat} {x1 : Int32} {x2 : Int32} {x3 : Int32} {x4 : Int32} (hs_a0 : hS μ a0 = some (14, 18))
    (h : xCall d yX11_isAsked cX11_isAsked 5 (some .boolean) [.ref a0, .int x1, .int x2, .int x3, .int x4] μ ro (fun r1 μ2 => ∃ y3 : Int32, r1 = some (.int y3) ∧ ((¬ y3 = 0 → hS μ2 a0 = some (14, 18) ∧ ∃ finder_5 : Nat, hR μ2 a0 2 = some finder_5 ∧ ∃ now_6 : Nat, hR μ2 a0 10 = some now_6 ∧ hS μ2 finder_5 = some (7, 9) ∧ xCall d yX3_findTreaties cX3_findTreaties 6 none [.ref finder_5, .ref now_6] μ2 ro (fun r7 μ8 => r7 = none ∧ hS μ8 a0 = some (14, 18) ∧ ∃ finder_9 : Nat, hR μ8 a0 2 = some finder_9 ∧ ∃ now_10 : Nat, hR μ8 a0 10 = some now_10 ∧ hS μ8 finder_9 = some (7, 9) ∧ xCall d yX3_judgeHops cX3_judgeHops 6 none [.ref finder_9, .ref now_10, .int x1, .int x3] μ8 ro (fun r11 μ12 => r11 = none ∧ hS μ12 a0 = some (14, 18) ∧ ∃ finder_13 : Nat, hR μ12 a0 2 = some finder_13 ∧ hS μ12 finder_13 = some (7, 9) ∧ ∃ linkAt_14 : Nat, hR μ12 finder_13 2 = some linkAt_14 ∧ ∃ N15 : Nat, hS μ12 linkAt_14 = some (0, N15) ∧ vp_in ((x2 * 8) + x3) N15 ∧ ((¬ (hI μ12 linkAt_14 (((x2 * 8) + x3).toNatClampNeg)) = (-1) → ∃ rateAt_18 : Nat, hR μ12 finder_13 3 = some rateAt_18 ∧ ∃ N19 : Nat, hS μ12 rateAt_18 = some (0, N19) ∧ vp_in ((x2 * 8) + x3) N19 ∧ (∀ v21 : Int32, v21 = ((x4 * (hI μ12 rateAt_18 (((x2 * 8) + x3).toNatClampNeg))) / 1000) → Z (some (.int (x4 - v21))) μ12)) ∧ ((hI μ12 linkAt_14 (((x2 * 8) + x3).toNatClampNeg)) = (-1) → Z (some (.int (-1))) μ12))))) ∧ (y3 = 0 → Z (some (.int (-1))) μ2)))) :
    J μ 0 0 0 [(0, .ref a0), (1, .int x1), (2, .int x2), (3, .int x3), (4, .int x4)] [] := by
  refine r_aload_n g dX11_direct_0 rfl ?_
  refine r_iload_n g dX11_direct_1 rfl ?_
  refine r_iload_n g dX11_direct_2 rfl ?_
  refine r_iload_n g dX11_direct_3 rfl ?_
  refine r_iload g dX11_direct_4 rfl ?_
  obtain ⟨d1, Z1, hc1, hd1, h1⟩ := h
  refine r_callV (st := []) (As := [.int x1, .int x2, .int x3, .int x4]) g sX11_243 iX11_isAsked eX11_isAsked rfl hs_a0 rfl (Nat.le_of_ble_eq_true rfl) dX11_direct_6 hd1 (Nat.le_refl 0) (Nat.le_refl 0) hc1 (fun r1 μ2 hZ1 => ?_)
  replace h := h1 _ _ hZ1
  clear h1 hc1 hd1 hZ1 Z1 d1
  obtain ⟨y3, rfl, h⟩ := h
  refine r_if_ne g 14 dX11_direct_9 (by decide) (fun c4 => ?_) (fun c4 => ?_)
  · replace h := h.1 c4
    refine r_aload_n g dX11_direct_14 rfl ?_
    obtain ⟨hs_a0_, h⟩ := h
    obtain ⟨finder_5, hr_finder_5, h⟩ := h
    refine r_getR g fX11_25 rfl hs_a0_ hr_finder_5 dX11_direct_15 ?_
    refine r_aload_n g dX11_direct_18 rfl ?_
    obtain ⟨now_6, hr_now_6, h⟩ := h
    refine r_getR g fX11_96 rfl hs_a0_ hr_now_6 dX11_direct_19 ?_
    obtain ⟨hs_finder_5, h⟩ := h
    obtain ⟨d1, Z1, hc1, hd1, h1⟩ := h
    refine r_callV (st := []) (As := [.ref now_6]) g sX11_196 iX3_findTreaties eX3_findTreaties rfl hs_finder_5 rfl (Nat.le_of_ble_eq_true rfl) dX11_direct_22 hd1 (Nat.le_refl 0) (Nat.le_refl 0) hc1 (fun r7 μ8 hZ1 => ?_)
    replace h := h1 _ _ hZ1
    clear h1 hc1 hd1 hZ1 Z1 d1
    obtain ⟨rfl, h⟩ := h
    refine r_aload_n g dX11_direct_25 rfl ?_
    obtain ⟨hs_a0__, h⟩ := h
    obtain ⟨finder_9, hr_finder_9, h⟩ := h
    refine r_getR g fX11_25 rfl hs_a0__ hr_finder_9 dX11_direct_26 ?_
    refine r_aload_n g dX11_direct_29 rfl ?_
    obtain ⟨now_10, hr_now_10, h⟩ := h
    refine r_getR g fX11_96 rfl hs_a0__ hr_now_10 dX11_direct_30 ?_
    refine r_iload_n g dX11_direct_33 rfl ?_
    refine r_iload_n g dX11_direct_34 rfl ?_
    obtain ⟨hs_finder_9, h⟩ := h
    obtain ⟨d1, Z1, hc1, hd1, h1⟩ := h
    refine r_callV (st := []) (As := [.ref now_10, .int x1, .int x3]) g sX11_199 iX3_judgeHops eX3_judgeHops rfl hs_finder_9 rfl (Nat.le_of_ble_eq_true rfl) dX11_direct_35 hd1 (Nat.le_refl 0) (Nat.le_refl 0) hc1 (fun r11 μ12 hZ1 => ?_)
    replace h := h1 _ _ hZ1
    clear h1 hc1 hd1 hZ1 Z1 d1
    obtain ⟨rfl, h⟩ := h
    refine r_iload_n g dX11_direct_38 rfl ?_
    refine r_bipush g 8 dX11_direct_39 (by decide) ?_
    refine r_imul g dX11_direct_41 ?_
    refine r_iload_n g dX11_direct_42 rfl ?_
    refine r_iadd g dX11_direct_43 ?_
    refine r_istore g [(5, .int ((x2 * 8) + x3)), (0, .ref a0), (1, .int x1), (2, .int x2), (3, .int x3), (4, .int x4)] dX11_direct_44 (by decide) rfl ?_
    refine r_aload_n g dX11_direct_46 rfl ?_
    obtain ⟨hs_a0___, h⟩ := h
    obtain ⟨finder_13, hr_finder_13, h⟩ := h
    refine r_getR g fX11_25 rfl hs_a0___ hr_finder_13 dX11_direct_47 ?_
    obtain ⟨hs_finder_13, h⟩ := h
    obtain ⟨linkAt_14, hr_linkAt_14, h⟩ := h
    refine r_getR g fX11_203 rfl hs_finder_13 hr_linkAt_14 dX11_direct_50 ?_
    refine r_iload g dX11_direct_53 rfl ?_
    obtain ⟨N15, hs_linkAt_14, h⟩ := h
    obtain ⟨hi16, h⟩ := h
    refine r_iaload g hs_linkAt_14 hi16 dX11_direct_55 ?_
    refine r_iconst g (-1) dX11_direct_56 (by decide) ?_
    refine r_icmp_ne g 64 dX11_direct_57 (by decide) (fun c17 => ?_) (fun c17 => ?_)
    · replace h := h.1 c17
      refine r_iload g dX11_direct_64 rfl ?_
      refine r_iload g dX11_direct_66 rfl ?_
      refine r_aload_n g dX11_direct_68 rfl ?_
      refine r_getR g fX11_25 rfl hs_a0___ hr_finder_13 dX11_direct_69 ?_
      obtain ⟨rateAt_18, hr_rateAt_18, h⟩ := h
      refine r_getR g fX11_206 rfl hs_finder_13 hr_rateAt_18 dX11_direct_72 ?_
      refine r_iload g dX11_direct_75 rfl ?_
      obtain ⟨N19, hs_rateAt_18, h⟩ := h
      obtain ⟨hi20, h⟩ := h
      refine r_iaload g hs_rateAt_18 hi20 dX11_direct_77 ?_
      refine r_imul g dX11_direct_78 ?_
      refine r_sipush g 1000 dX11_direct_79 (by decide) ?_
      refine r_idiv g (by decide) dX11_direct_82 ?_
      refine r_nmI (fun v21 ev21 => ?_)
      replace h := h v21 ev21
      refine r_isub g dX11_direct_83 ?_
      exact hr.2.1 _ rfl _ _ _ _ _ _ dX11_direct_84 rfl (Nat.le_refl 0) (Nat.le_refl 0) h
    · replace h := h.2 c17
      refine r_iconst g (-1) dX11_direct_60 (by decide) ?_
      refine r_goto g 84 dX11_direct_61 (by decide) ?_
      exact hr.2.1 _ rfl _ _ _ _ _ _ dX11_direct_84 rfl (Nat.le_refl 0) (Nat.le_refl 0) h
  · replace h := h.2 c4
    refine r_iconst g (-1) dX11_direct_12 (by decide) ?_
    exact hr.2.1 _ rfl _ _ _ _ _ _ dX11_direct_13 rfl (Nat.le_refl 0) (Nat.le_refl 0) h
theorem I_X11_direct {d : Nat} {ro : Nat → Nat} {Z : Option Value → Hp → Prop} {μ : Hp} {a0 : Nat} {x1 : Int32} {x2 : Int32} {x3 : Int32} {x4 : Int32} (h : ∀ J, xCtx RX11 cX11_direct 6 d 0 0 yX11_direct.name ro J → xRet cX11_direct (some .int) 0 0 Z J → J μ 0 0 0 [(0, .ref a0), (1, .int x1), (2, .int x2), (3, .int x3), (4, .int x4)] []) : xC d yX11_direct cX11_direct 6 (some .int) 0 0 [.ref a0, .int x1, .int x2, .int x3, .int x4] μ ro Z :=
  xC_intro (own := RX11) (lv := [(0, .ref a0), (1, .int x1), (2, .int x2), (3, .int x3), (4, .int x4)]) (by decide) rfl (Nat.le_of_ble_eq_true rfl) rfl (fun J g hr => r_sub g (lv' := [(0, .ref a0), (1, .int x1), (2, .int x2), (3, .int x3), (4, .int x4)]) (⟨rfl, rfl, rfl, rfl, rfl, trivial⟩) (h J g hr))
theorem dX11_take_0 : decode cX11_take 0 = .ok (.aload_n 0, 1) := by decide +kernel
theorem dX11_take_1 : decode cX11_take 1 = .ok (.getfield 72, 3) := by decide +kernel
theorem dX11_take_4 : decode cX11_take 4 = .ok (.iload 5, 2) := by decide +kernel
theorem dX11_take_6 : decode cX11_take 6 = .ok (.invokevirtual 147, 3) := by decide +kernel
theorem dX11_take_9 : decode cX11_take 9 = .ok (.ifCond .eq 15, 3) := by decide +kernel
theorem dX11_take_12 : decode cX11_take 12 = .ok (.aload_n 0, 1) := by decide +kernel
theorem dX11_take_13 : decode cX11_take 13 = .ok (.iload_n 1, 1) := by decide +kernel
theorem dX11_take_14 : decode cX11_take 14 = .ok (.iload_n 2, 1) := by decide +kernel
theorem dX11_take_15 : decode cX11_take 15 = .ok (.iload_n 3, 1) := by decide +kernel
theorem dX11_take_16 : decode cX11_take 16 = .ok (.iload 4, 2) := by decide +kernel
theorem dX11_take_18 : decode cX11_take 18 = .ok (.invokevirtual 260, 3) := by decide +kernel
theorem dX11_take_21 : decode cX11_take 21 = .ok (.ifCond .ne 5, 3) := by decide +kernel
theorem dX11_take_24 : decode cX11_take 24 = .ok (.iconst (-1), 1) := by decide +kernel
theorem dX11_take_25 : decode cX11_take 25 = .ok (.ireturn, 1) := by decide +kernel
theorem dX11_take_26 : decode cX11_take 26 = .ok (.aload_n 0, 1) := by decide +kernel
theorem dX11_take_27 : decode cX11_take 27 = .ok (.getfield 25, 3) := by decide +kernel
theorem dX11_take_30 : decode cX11_take 30 = .ok (.getfield 251, 3) := by decide +kernel
theorem dX11_take_33 : decode cX11_take 33 = .ok (.aload_n 0, 1) := by decide +kernel
theorem dX11_take_34 : decode cX11_take 34 = .ok (.getfield 72, 3) := by decide +kernel
theorem dX11_take_37 : decode cX11_take 37 = .ok (.iload 5, 2) := by decide +kernel
theorem dX11_take_39 : decode cX11_take 39 = .ok (.invokevirtual 293, 3) := by decide +kernel
theorem dX11_take_42 : decode cX11_take 42 = .ok (.ireturn, 1) := by decide +kernel
set_option maxHeartbeats 4000000 in
set_option maxRecDepth 100000 in
theorem B_X11_take_0 {d : Nat} {ro : Nat → Nat} {J : JT} {Z : Option Value → Hp → Prop} (g : xCtx RX11 cX11_take 6 d 0 0 yX11_take.name ro J) (hr : xRet cX11_take (some .int) 0 0 Z J) {μ : Hp} {a0 : Nat} {x1 : Int32} {x2 : Int32} {x3 : Int32} {x4 : Int32} {x5 : Int32} {a0_book : Nat} (hs_a0 : hS μ a0 = some (14, 18)) (hr_a0_book : hR μ a0 13 = some a0_book) (hs_a0_book : hS μ a0_book = some (6, 9)) (hd9 : 1 ≤ d)
    (h : ((x5 < 0 → Z (some (.int (-1))) μ) ∧ (¬ x5 < 0 → (((hI μ a0_book 5) ≤ x5 → Z (some (.int (-1))) μ) ∧ (¬ (hI μ a0_book 5) ≤ x5 → xCall d yX11_isFound cX11_isFound 5 (some .boolean) [.ref a0, .int x1, .int x2, .int x3, .int x4] μ ro (fun r9 μ10 => ∃ y11 : Int32, r9 = some (.int y11) ∧ ((¬ y11 = 0 → hS μ10 a0 = some (14, 18) ∧ ∃ finder_13 : Nat, hR μ10 a0 2 = some finder_13 ∧ hS μ10 finder_13 = some (7, 9) ∧ ∃ best_14 : Nat, hR μ10 finder_13 0 = some best_14 ∧ ∃ book_15 : Nat, hR μ10 a0 13 = some book_15 ∧ hS μ10 best_14 = some (13, 5) ∧ xCall d yX9_takenBy cX9_takenBy 7 (some .int) [.ref best_14, .ref book_15, .int x5] μ10 ro (fun r16 μ17 => ∃ y18 : Int32, r16 = some (.int y18) ∧ Z (some (.int y18)) μ17)) ∧ (y11 = 0 → Z (some (.int (-1))) μ10)))))))) :
    J μ 0 0 0 [(0, .ref a0), (1, .int x1), (2, .int x2), (3, .int x3), (4, .int x4), (5, .int x5)] [] := by
  refine r_aload_n g dX11_take_0 rfl ?_
  refine r_getR g fX11_72 rfl hs_a0 hr_a0_book dX11_take_1 ?_
  refine r_iload g dX11_take_4 rfl ?_
  by_cases c1 : x5 < 0
  · replace h := h.1 c1
    refine r_callV (st := []) (As := [.int x5]) g sX11_147 iX2_hasLand eX2_hasLand rfl hs_a0_book rfl (Nat.le_of_ble_eq_true rfl) dX11_take_6 (by omega) (Nat.le_refl 0) (Nat.le_refl 0) (P_X2_hasLand_0 (d := d - 1) hs_a0_book c1) (fun r2 μ3 hZ1 => ?_)
    obtain ⟨rfl, e9⟩ := hZ1
    replace e9 := e9.symm
    subst e9
    refine r_if_eq g 24 dX11_take_9 (by decide) (fun _ => ?_) (fun hz => absurd hz (by decide))
    refine r_iconst g (-1) dX11_take_24 (by decide) ?_
    exact hr.2.1 _ rfl _ _ _ _ _ _ dX11_take_25 rfl (Nat.le_refl 0) (Nat.le_refl 0) h
  · replace h := h.2 c1
    by_cases c4 : (hI μ a0_book 5) ≤ x5
    · replace h := h.1 c4
      refine r_callV (st := []) (As := [.int x5]) g sX11_147 iX2_hasLand eX2_hasLand rfl hs_a0_book rfl (Nat.le_of_ble_eq_true rfl) dX11_take_6 (by omega) (Nat.le_refl 0) (Nat.le_refl 0) (P_X2_hasLand_1 (d := d - 1) hs_a0_book c1 c4) (fun r5 μ6 hZ1 => ?_)
      obtain ⟨rfl, e9⟩ := hZ1
      replace e9 := e9.symm
      subst e9
      refine r_if_eq g 24 dX11_take_9 (by decide) (fun _ => ?_) (fun hz => absurd hz (by decide))
      refine r_iconst g (-1) dX11_take_24 (by decide) ?_
      exact hr.2.1 _ rfl _ _ _ _ _ _ dX11_take_25 rfl (Nat.le_refl 0) (Nat.le_refl 0) h
    · replace h := h.2 c4
      refine r_callV (st := []) (As := [.int x5]) g sX11_147 iX2_hasLand eX2_hasLand rfl hs_a0_book rfl (Nat.le_of_ble_eq_true rfl) dX11_take_6 (by omega) (Nat.le_refl 0) (Nat.le_refl 0) (P_X2_hasLand_2 (d := d - 1) hs_a0_book c1 c4) (fun r7 μ8 hZ1 => ?_)
      obtain ⟨rfl, e9⟩ := hZ1
      replace e9 := e9.symm
      subst e9
      refine r_if_eq g 24 dX11_take_9 (by decide) (fun hz => absurd hz (by decide)) (fun _ => ?_)
      refine r_aload_n g dX11_take_12 rfl ?_
      refine r_iload_n g dX11_take_13 rfl ?_
      refine r_iload_n g dX11_take_14 rfl ?_
      refine r_iload_n g dX11_take_15 rfl ?_
      refine r_iload g dX11_take_16 rfl ?_
      obtain ⟨d1, Z1, hc1, hd1, h1⟩ := h
      refine r_callV (st := []) (As := [.int x1, .int x2, .int x3, .int x4]) g sX11_260 iX11_isFound eX11_isFound rfl hs_a0 rfl (Nat.le_of_ble_eq_true rfl) dX11_take_18 hd1 (Nat.le_refl 0) (Nat.le_refl 0) hc1 (fun r9 μ10 hZ1 => ?_)
      replace h := h1 _ _ hZ1
      clear h1 hc1 hd1 hZ1 Z1 d1
      obtain ⟨y11, rfl, h⟩ := h
      refine r_if_ne g 26 dX11_take_21 (by decide) (fun c12 => ?_) (fun c12 => ?_)
      · replace h := h.1 c12
        refine r_aload_n g dX11_take_26 rfl ?_
        obtain ⟨hs_a0_, h⟩ := h
        obtain ⟨finder_13, hr_finder_13, h⟩ := h
        refine r_getR g fX11_25 rfl hs_a0_ hr_finder_13 dX11_take_27 ?_
        obtain ⟨hs_finder_13, h⟩ := h
        obtain ⟨best_14, hr_best_14, h⟩ := h
        refine r_getR g fX11_251 rfl hs_finder_13 hr_best_14 dX11_take_30 ?_
        refine r_aload_n g dX11_take_33 rfl ?_
        obtain ⟨book_15, hr_book_15, h⟩ := h
        refine r_getR g fX11_72 rfl hs_a0_ hr_book_15 dX11_take_34 ?_
        refine r_iload g dX11_take_37 rfl ?_
        obtain ⟨hs_best_14, h⟩ := h
        obtain ⟨d1, Z1, hc1, hd1, h1⟩ := h
        refine r_callV (st := []) (As := [.ref book_15, .int x5]) g sX11_293 iX9_takenBy eX9_takenBy rfl hs_best_14 rfl (Nat.le_of_ble_eq_true rfl) dX11_take_39 hd1 (Nat.le_refl 0) (Nat.le_refl 0) hc1 (fun r16 μ17 hZ1 => ?_)
        replace h := h1 _ _ hZ1
        clear h1 hc1 hd1 hZ1 Z1 d1
        obtain ⟨y18, rfl, h⟩ := h
        exact hr.2.1 _ rfl _ _ _ _ _ _ dX11_take_42 rfl (Nat.le_refl 0) (Nat.le_refl 0) h
      · replace h := h.2 c12
        refine r_iconst g (-1) dX11_take_24 (by decide) ?_
        exact hr.2.1 _ rfl _ _ _ _ _ _ dX11_take_25 rfl (Nat.le_refl 0) (Nat.le_refl 0) h
theorem I_X11_take {d : Nat} {ro : Nat → Nat} {Z : Option Value → Hp → Prop} {μ : Hp} {a0 : Nat} {x1 : Int32} {x2 : Int32} {x3 : Int32} {x4 : Int32} {x5 : Int32} (h : ∀ J, xCtx RX11 cX11_take 6 d 0 0 yX11_take.name ro J → xRet cX11_take (some .int) 0 0 Z J → J μ 0 0 0 [(0, .ref a0), (1, .int x1), (2, .int x2), (3, .int x3), (4, .int x4), (5, .int x5)] []) : xC d yX11_take cX11_take 6 (some .int) 0 0 [.ref a0, .int x1, .int x2, .int x3, .int x4, .int x5] μ ro Z :=
  xC_intro (own := RX11) (lv := [(0, .ref a0), (1, .int x1), (2, .int x2), (3, .int x3), (4, .int x4), (5, .int x5)]) (by decide) rfl (Nat.le_of_ble_eq_true rfl) rfl (fun J g hr => r_sub g (lv' := [(0, .ref a0), (1, .int x1), (2, .int x2), (3, .int x3), (4, .int x4), (5, .int x5)]) (⟨rfl, rfl, rfl, rfl, rfl, rfl, trivial⟩) (h J g hr))
theorem dX11_asOf_0 : decode cX11_asOf 0 = .ok (.iload 6, 2) := by decide +kernel
theorem dX11_asOf_2 : decode cX11_asOf 2 = .ok (.ifCond .lt 29, 3) := by decide +kernel
theorem dX11_asOf_5 : decode cX11_asOf 5 = .ok (.iload 6, 2) := by decide +kernel
theorem dX11_asOf_7 : decode cX11_asOf 7 = .ok (.iconst 1, 1) := by decide +kernel
theorem dX11_asOf_8 : decode cX11_asOf 8 = .ok (.if_icmp .gt 23, 3) := by decide +kernel
theorem dX11_asOf_11 : decode cX11_asOf 11 = .ok (.iload 5, 2) := by decide +kernel
theorem dX11_asOf_13 : decode cX11_asOf 13 = .ok (.invokestatic 183, 3) := by decide +kernel
theorem dX11_asOf_16 : decode cX11_asOf 16 = .ok (.ifCond .eq 15, 3) := by decide +kernel
theorem dX11_asOf_19 : decode cX11_asOf 19 = .ok (.aload_n 0, 1) := by decide +kernel
theorem dX11_asOf_20 : decode cX11_asOf 20 = .ok (.iload_n 1, 1) := by decide +kernel
theorem dX11_asOf_21 : decode cX11_asOf 21 = .ok (.iload_n 2, 1) := by decide +kernel
theorem dX11_asOf_22 : decode cX11_asOf 22 = .ok (.iload_n 3, 1) := by decide +kernel
theorem dX11_asOf_23 : decode cX11_asOf 23 = .ok (.iload 4, 2) := by decide +kernel
theorem dX11_asOf_25 : decode cX11_asOf 25 = .ok (.invokevirtual 243, 3) := by decide +kernel
theorem dX11_asOf_28 : decode cX11_asOf 28 = .ok (.ifCond .ne 5, 3) := by decide +kernel
theorem dX11_asOf_31 : decode cX11_asOf 31 = .ok (.iconst (-1), 1) := by decide +kernel
theorem dX11_asOf_32 : decode cX11_asOf 32 = .ok (.ireturn, 1) := by decide +kernel
theorem dX11_asOf_33 : decode cX11_asOf 33 = .ok (.aload_n 0, 1) := by decide +kernel
theorem dX11_asOf_34 : decode cX11_asOf 34 = .ok (.getfield 100, 3) := by decide +kernel
theorem dX11_asOf_37 : decode cX11_asOf 37 = .ok (.aload_n 0, 1) := by decide +kernel
theorem dX11_asOf_38 : decode cX11_asOf 38 = .ok (.getfield 96, 3) := by decide +kernel
theorem dX11_asOf_41 : decode cX11_asOf 41 = .ok (.invokevirtual 136, 3) := by decide +kernel
theorem dX11_asOf_44 : decode cX11_asOf 44 = .ok (.aload_n 0, 1) := by decide +kernel
theorem dX11_asOf_45 : decode cX11_asOf 45 = .ok (.getfield 100, 3) := by decide +kernel
theorem dX11_asOf_48 : decode cX11_asOf 48 = .ok (.getfield 151, 3) := by decide +kernel
theorem dX11_asOf_51 : decode cX11_asOf 51 = .ok (.iconst 0, 1) := by decide +kernel
theorem dX11_asOf_52 : decode cX11_asOf 52 = .ok (.iload 5, 2) := by decide +kernel
theorem dX11_asOf_54 : decode cX11_asOf 54 = .ok (.iastore, 1) := by decide +kernel
theorem dX11_asOf_55 : decode cX11_asOf 55 = .ok (.aload_n 0, 1) := by decide +kernel
theorem dX11_asOf_56 : decode cX11_asOf 56 = .ok (.aload_n 0, 1) := by decide +kernel
theorem dX11_asOf_57 : decode cX11_asOf 57 = .ok (.getfield 100, 3) := by decide +kernel
theorem dX11_asOf_60 : decode cX11_asOf 60 = .ok (.iload_n 1, 1) := by decide +kernel
theorem dX11_asOf_61 : decode cX11_asOf 61 = .ok (.iload_n 2, 1) := by decide +kernel
theorem dX11_asOf_62 : decode cX11_asOf 62 = .ok (.iload_n 3, 1) := by decide +kernel
theorem dX11_asOf_63 : decode cX11_asOf 63 = .ok (.iload 4, 2) := by decide +kernel
theorem dX11_asOf_65 : decode cX11_asOf 65 = .ok (.invokevirtual 297, 3) := by decide +kernel
theorem dX11_asOf_68 : decode cX11_asOf 68 = .ok (.istore 7, 2) := by decide +kernel
theorem dX11_asOf_70 : decode cX11_asOf 70 = .ok (.iload 6, 2) := by decide +kernel
theorem dX11_asOf_72 : decode cX11_asOf 72 = .ok (.ifCond .eq 9, 3) := by decide +kernel
theorem dX11_asOf_75 : decode cX11_asOf 75 = .ok (.iload 7, 2) := by decide +kernel
theorem dX11_asOf_77 : decode cX11_asOf 77 = .ok (.iconst (-1), 1) := by decide +kernel
theorem dX11_asOf_78 : decode cX11_asOf 78 = .ok (.if_icmp .ne 8, 3) := by decide +kernel
theorem dX11_asOf_81 : decode cX11_asOf 81 = .ok (.iload 7, 2) := by decide +kernel
theorem dX11_asOf_83 : decode cX11_asOf 83 = .ok (.goto 13, 3) := by decide +kernel
theorem dX11_asOf_86 : decode cX11_asOf 86 = .ok (.aload_n 0, 1) := by decide +kernel
theorem dX11_asOf_87 : decode cX11_asOf 87 = .ok (.getfield 25, 3) := by decide +kernel
theorem dX11_asOf_90 : decode cX11_asOf 90 = .ok (.getfield 251, 3) := by decide +kernel
theorem dX11_asOf_93 : decode cX11_asOf 93 = .ok (.getfield 263, 3) := by decide +kernel
theorem dX11_asOf_96 : decode cX11_asOf 96 = .ok (.ireturn, 1) := by decide +kernel
set_option maxHeartbeats 4000000 in
set_option maxRecDepth 100000 in
theorem B_X11_asOf_0 {d : Nat} {ro : Nat → Nat} {J : JT} {Z : Option Value → Hp → Prop} (g : xCtx RX11 cX11_asOf 8 d 0 0 yX11_asOf.name ro J) (hr : xRet cX11_asOf (some .int) 0 0 Z J) {μ : Hp} {a0 : Nat} {x1 : Int32} {x2 : Int32} {x3 : Int32} {x4 : Int32} {x5 : Int32} {x6 : Int32} (hs_a0 : hS μ a0 = some (14, 18)) (hd9 : 1 ≤ d)
    (h : ((x6 < 0 → Z (some (.int (-1))) μ) ∧ (¬ x6 < 0 → ((1 < x6 → Z (some (.int (-1))) μ) ∧ (¬ 1 < x6 → ((x5 < 0 → Z (some (.int (-1))) μ) ∧ (¬ x5 < 0 → ((199 < x5 → Z (some (.int (-1))) μ) ∧ (¬ 199 < x5 → xCall d yX11_isAsked cX11_isAsked 5 (some .boolean) [.ref a0, .int x1, .int x2, .int x3, .int x4] μ ro (fun r11 μ12 => ∃ y13 : Int32, r11 = some (.int y13) ∧ ((¬ y13 = 0 → hS μ12 a0 = some (14, 18) ∧ ∃ scratch_15 : Nat, hR μ12 a0 11 = some scratch_15 ∧ ∃ now_16 : Nat, hR μ12 a0 10 = some now_16 ∧ hS μ12 scratch_15 = some (12, 4) ∧ xCall d yX8_copyFrom cX8_copyFrom 2 none [.ref scratch_15, .ref now_16] μ12 ro (fun r17 μ18 => r17 = none ∧ hS μ18 a0 = some (14, 18) ∧ ∃ scratch_19 : Nat, hR μ18 a0 11 = some scratch_19 ∧ hS μ18 scratch_19 = some (12, 4) ∧ ∃ row_20 : Nat, hR μ18 scratch_19 0 = some row_20 ∧ ∃ N21 : Nat, hS μ18 row_20 = some (0, N21) ∧ vp_in 0 N21 ∧ xCall d yX11_arrivesIn cX11_arrivesIn 6 (some .int) [.ref a0, .ref scratch_19, .int x1, .int x2, .int x3, .int x4] (wI μ18 row_20 0 x5) ro (fun r23 μ24 => ∃ y25 : Int32, r23 = some (.int y25) ∧ ((x6 = 0 → Z (some (.int y25)) μ24) ∧ (¬ x6 = 0 → ((¬ y25 = (-1) → hS μ24 a0 = some (14, 18) ∧ ∃ finder_28 : Nat, hR μ24 a0 2 = some finder_28 ∧ hS μ24 finder_28 = some (7, 9) ∧ ∃ best_29 : Nat, hR μ24 finder_28 0 = some best_29 ∧ hS μ24 best_29 = some (13, 5) ∧ Z (some (.int (hI μ24 best_29 2))) μ24) ∧ (y25 = (-1) → Z (some (.int y25)) μ24))))))) ∧ (y13 = 0 → Z (some (.int (-1))) μ12)))))))))))) :
    J μ 0 0 0 [(0, .ref a0), (1, .int x1), (2, .int x2), (3, .int x3), (4, .int x4), (5, .int x5), (6, .int x6)] [] := by
  refine r_iload g dX11_asOf_0 rfl ?_
  refine r_if_lt g 31 dX11_asOf_2 (by decide) (fun c1 => ?_) (fun c1 => ?_)
  · replace h := h.1 c1
    refine r_iconst g (-1) dX11_asOf_31 (by decide) ?_
    exact hr.2.1 _ rfl _ _ _ _ _ _ dX11_asOf_32 rfl (Nat.le_refl 0) (Nat.le_refl 0) h
  · replace h := h.2 c1
    refine r_iload g dX11_asOf_5 rfl ?_
    refine r_iconst g 1 dX11_asOf_7 (by decide) ?_
    refine r_icmp_gt g 31 dX11_asOf_8 (by decide) (fun c2 => ?_) (fun c2 => ?_)
    · replace h := h.1 c2
      refine r_iconst g (-1) dX11_asOf_31 (by decide) ?_
      exact hr.2.1 _ rfl _ _ _ _ _ _ dX11_asOf_32 rfl (Nat.le_refl 0) (Nat.le_refl 0) h
    · replace h := h.2 c2
      refine r_iload g dX11_asOf_11 rfl ?_
      by_cases c3 : x5 < 0
      · replace h := h.1 c3
        refine r_callS (st := []) (As := [.int x5]) g sX11_183 iX11_isYear rfl (Nat.le_of_ble_eq_true rfl) dX11_asOf_13 (by omega) (Nat.le_refl 0) (Nat.le_refl 0) (P_X11_isYear_0 (d := d - 1)  c3) (fun r4 μ5 hZ1 => ?_)
        obtain ⟨rfl, e9⟩ := hZ1
        replace e9 := e9.symm
        subst e9
        refine r_if_eq g 31 dX11_asOf_16 (by decide) (fun _ => ?_) (fun hz => absurd hz (by decide))
        refine r_iconst g (-1) dX11_asOf_31 (by decide) ?_
        exact hr.2.1 _ rfl _ _ _ _ _ _ dX11_asOf_32 rfl (Nat.le_refl 0) (Nat.le_refl 0) h
      · replace h := h.2 c3
        by_cases c6 : 199 < x5
        · replace h := h.1 c6
          refine r_callS (st := []) (As := [.int x5]) g sX11_183 iX11_isYear rfl (Nat.le_of_ble_eq_true rfl) dX11_asOf_13 (by omega) (Nat.le_refl 0) (Nat.le_refl 0) (P_X11_isYear_1 (d := d - 1)  c3 c6) (fun r7 μ8 hZ1 => ?_)
          obtain ⟨rfl, e9⟩ := hZ1
          replace e9 := e9.symm
          subst e9
          refine r_if_eq g 31 dX11_asOf_16 (by decide) (fun _ => ?_) (fun hz => absurd hz (by decide))
          refine r_iconst g (-1) dX11_asOf_31 (by decide) ?_
          exact hr.2.1 _ rfl _ _ _ _ _ _ dX11_asOf_32 rfl (Nat.le_refl 0) (Nat.le_refl 0) h
        · replace h := h.2 c6
          refine r_callS (st := []) (As := [.int x5]) g sX11_183 iX11_isYear rfl (Nat.le_of_ble_eq_true rfl) dX11_asOf_13 (by omega) (Nat.le_refl 0) (Nat.le_refl 0) (P_X11_isYear_2 (d := d - 1)  c3 c6) (fun r9 μ10 hZ1 => ?_)
          obtain ⟨rfl, e9⟩ := hZ1
          replace e9 := e9.symm
          subst e9
          refine r_if_eq g 31 dX11_asOf_16 (by decide) (fun hz => absurd hz (by decide)) (fun _ => ?_)
          refine r_aload_n g dX11_asOf_19 rfl ?_
          refine r_iload_n g dX11_asOf_20 rfl ?_
          refine r_iload_n g dX11_asOf_21 rfl ?_
          refine r_iload_n g dX11_asOf_22 rfl ?_
          refine r_iload g dX11_asOf_23 rfl ?_
          obtain ⟨d1, Z1, hc1, hd1, h1⟩ := h
          refine r_callV (st := []) (As := [.int x1, .int x2, .int x3, .int x4]) g sX11_243 iX11_isAsked eX11_isAsked rfl hs_a0 rfl (Nat.le_of_ble_eq_true rfl) dX11_asOf_25 hd1 (Nat.le_refl 0) (Nat.le_refl 0) hc1 (fun r11 μ12 hZ1 => ?_)
          replace h := h1 _ _ hZ1
          clear h1 hc1 hd1 hZ1 Z1 d1
          obtain ⟨y13, rfl, h⟩ := h
          refine r_if_ne g 33 dX11_asOf_28 (by decide) (fun c14 => ?_) (fun c14 => ?_)
          · replace h := h.1 c14
            refine r_aload_n g dX11_asOf_33 rfl ?_
            obtain ⟨hs_a0_, h⟩ := h
            obtain ⟨scratch_15, hr_scratch_15, h⟩ := h
            refine r_getR g fX11_100 rfl hs_a0_ hr_scratch_15 dX11_asOf_34 ?_
            refine r_aload_n g dX11_asOf_37 rfl ?_
            obtain ⟨now_16, hr_now_16, h⟩ := h
            refine r_getR g fX11_96 rfl hs_a0_ hr_now_16 dX11_asOf_38 ?_
            obtain ⟨hs_scratch_15, h⟩ := h
            obtain ⟨d1, Z1, hc1, hd1, h1⟩ := h
            refine r_callV (st := []) (As := [.ref now_16]) g sX11_136 iX8_copyFrom eX8_copyFrom rfl hs_scratch_15 rfl (Nat.le_of_ble_eq_true rfl) dX11_asOf_41 hd1 (Nat.le_refl 0) (Nat.le_refl 0) hc1 (fun r17 μ18 hZ1 => ?_)
            replace h := h1 _ _ hZ1
            clear h1 hc1 hd1 hZ1 Z1 d1
            obtain ⟨rfl, h⟩ := h
            refine r_aload_n g dX11_asOf_44 rfl ?_
            obtain ⟨hs_a0__, h⟩ := h
            obtain ⟨scratch_19, hr_scratch_19, h⟩ := h
            refine r_getR g fX11_100 rfl hs_a0__ hr_scratch_19 dX11_asOf_45 ?_
            obtain ⟨hs_scratch_19, h⟩ := h
            obtain ⟨row_20, hr_row_20, h⟩ := h
            refine r_getR g fX11_151 rfl hs_scratch_19 hr_row_20 dX11_asOf_48 ?_
            refine r_iconst g 0 dX11_asOf_51 (by decide) ?_
            refine r_iload g dX11_asOf_52 rfl ?_
            obtain ⟨N21, hs_row_20, h⟩ := h
            obtain ⟨hi22, h⟩ := h
            refine r_iastore g hs_row_20 hi22 dX11_asOf_54 ?_
            refine r_aload_n g dX11_asOf_55 rfl ?_
            refine r_aload_n g dX11_asOf_56 rfl ?_
            refine r_getR g fX11_100 rfl hs_a0__ hr_scratch_19 dX11_asOf_57 ?_
            refine r_iload_n g dX11_asOf_60 rfl ?_
            refine r_iload_n g dX11_asOf_61 rfl ?_
            refine r_iload_n g dX11_asOf_62 rfl ?_
            refine r_iload g dX11_asOf_63 rfl ?_
            obtain ⟨d1, Z1, hc1, hd1, h1⟩ := h
            refine r_callV (st := []) (As := [.ref scratch_19, .int x1, .int x2, .int x3, .int x4]) g sX11_297 iX11_arrivesIn eX11_arrivesIn rfl hs_a0__ rfl (Nat.le_of_ble_eq_true rfl) dX11_asOf_65 hd1 (Nat.le_refl 0) (Nat.le_refl 0) hc1 (fun r23 μ24 hZ1 => ?_)
            replace h := h1 _ _ hZ1
            clear h1 hc1 hd1 hZ1 Z1 d1
            obtain ⟨y25, rfl, h⟩ := h
            refine r_istore g [(7, .int y25), (0, .ref a0), (1, .int x1), (2, .int x2), (3, .int x3), (4, .int x4), (5, .int x5), (6, .int x6)] dX11_asOf_68 (by decide) rfl ?_
            refine r_iload g dX11_asOf_70 rfl ?_
            refine r_if_eq g 81 dX11_asOf_72 (by decide) (fun c26 => ?_) (fun c26 => ?_)
            · replace h := h.1 c26
              refine r_iload g dX11_asOf_81 rfl ?_
              refine r_goto g 96 dX11_asOf_83 (by decide) ?_
              exact hr.2.1 _ rfl _ _ _ _ _ _ dX11_asOf_96 rfl (Nat.le_refl 0) (Nat.le_refl 0) h
            · replace h := h.2 c26
              refine r_iload g dX11_asOf_75 rfl ?_
              refine r_iconst g (-1) dX11_asOf_77 (by decide) ?_
              refine r_icmp_ne g 86 dX11_asOf_78 (by decide) (fun c27 => ?_) (fun c27 => ?_)
              · replace h := h.1 c27
                refine r_aload_n g dX11_asOf_86 rfl ?_
                obtain ⟨hs_a0___, h⟩ := h
                obtain ⟨finder_28, hr_finder_28, h⟩ := h
                refine r_getR g fX11_25 rfl hs_a0___ hr_finder_28 dX11_asOf_87 ?_
                obtain ⟨hs_finder_28, h⟩ := h
                obtain ⟨best_29, hr_best_29, h⟩ := h
                refine r_getR g fX11_251 rfl hs_finder_28 hr_best_29 dX11_asOf_90 ?_
                obtain ⟨hs_best_29, h⟩ := h
                refine r_getI g fX11_263 rfl hs_best_29 dX11_asOf_93 ?_
                exact hr.2.1 _ rfl _ _ _ _ _ _ dX11_asOf_96 rfl (Nat.le_refl 0) (Nat.le_refl 0) h
              · replace h := h.2 c27
                refine r_iload g dX11_asOf_81 rfl ?_
                refine r_goto g 96 dX11_asOf_83 (by decide) ?_
                exact hr.2.1 _ rfl _ _ _ _ _ _ dX11_asOf_96 rfl (Nat.le_refl 0) (Nat.le_refl 0) h
          · replace h := h.2 c14
            refine r_iconst g (-1) dX11_asOf_31 (by decide) ?_
            exact hr.2.1 _ rfl _ _ _ _ _ _ dX11_asOf_32 rfl (Nat.le_refl 0) (Nat.le_refl 0) h
theorem I_X11_asOf {d : Nat} {ro : Nat → Nat} {Z : Option Value → Hp → Prop} {μ : Hp} {a0 : Nat} {x1 : Int32} {x2 : Int32} {x3 : Int32} {x4 : Int32} {x5 : Int32} {x6 : Int32} (h : ∀ J, xCtx RX11 cX11_asOf 8 d 0 0 yX11_asOf.name ro J → xRet cX11_asOf (some .int) 0 0 Z J → J μ 0 0 0 [(0, .ref a0), (1, .int x1), (2, .int x2), (3, .int x3), (4, .int x4), (5, .int x5), (6, .int x6)] []) : xC d yX11_asOf cX11_asOf 8 (some .int) 0 0 [.ref a0, .int x1, .int x2, .int x3, .int x4, .int x5, .int x6] μ ro Z :=
  xC_intro (own := RX11) (lv := [(0, .ref a0), (1, .int x1), (2, .int x2), (3, .int x3), (4, .int x4), (5, .int x5), (6, .int x6)]) (by decide) rfl (Nat.le_of_ble_eq_true rfl) rfl (fun J g hr => r_sub g (lv' := [(0, .ref a0), (1, .int x1), (2, .int x2), (3, .int x3), (4, .int x4), (5, .int x5), (6, .int x6)]) (⟨rfl, rfl, rfl, rfl, rfl, rfl, rfl, trivial⟩) (h J g hr))
theorem dX11_hire_0 : decode cX11_hire 0 = .ok (.aload_n 0, 1) := by decide +kernel
theorem dX11_hire_1 : decode cX11_hire 1 = .ok (.getfield 72, 3) := by decide +kernel
theorem dX11_hire_4 : decode cX11_hire 4 = .ok (.iload 5, 2) := by decide +kernel
theorem dX11_hire_6 : decode cX11_hire 6 = .ok (.invokevirtual 157, 3) := by decide +kernel
theorem dX11_hire_9 : decode cX11_hire 9 = .ok (.ifCond .eq 15, 3) := by decide +kernel
theorem dX11_hire_12 : decode cX11_hire 12 = .ok (.aload_n 0, 1) := by decide +kernel
theorem dX11_hire_13 : decode cX11_hire 13 = .ok (.iload_n 1, 1) := by decide +kernel
theorem dX11_hire_14 : decode cX11_hire 14 = .ok (.iload_n 2, 1) := by decide +kernel
theorem dX11_hire_15 : decode cX11_hire 15 = .ok (.iload_n 3, 1) := by decide +kernel
theorem dX11_hire_16 : decode cX11_hire 16 = .ok (.iload 4, 2) := by decide +kernel
theorem dX11_hire_18 : decode cX11_hire 18 = .ok (.invokevirtual 243, 3) := by decide +kernel
theorem dX11_hire_21 : decode cX11_hire 21 = .ok (.ifCond .ne 5, 3) := by decide +kernel
theorem dX11_hire_24 : decode cX11_hire 24 = .ok (.iconst (-1), 1) := by decide +kernel
theorem dX11_hire_25 : decode cX11_hire 25 = .ok (.ireturn, 1) := by decide +kernel
theorem dX11_hire_26 : decode cX11_hire 26 = .ok (.aload_n 0, 1) := by decide +kernel
theorem dX11_hire_27 : decode cX11_hire 27 = .ok (.getfield 100, 3) := by decide +kernel
theorem dX11_hire_30 : decode cX11_hire 30 = .ok (.aload_n 0, 1) := by decide +kernel
theorem dX11_hire_31 : decode cX11_hire 31 = .ok (.getfield 96, 3) := by decide +kernel
theorem dX11_hire_34 : decode cX11_hire 34 = .ok (.invokevirtual 136, 3) := by decide +kernel
theorem dX11_hire_37 : decode cX11_hire 37 = .ok (.iconst (-1), 1) := by decide +kernel
theorem dX11_hire_38 : decode cX11_hire 38 = .ok (.istore 6, 2) := by decide +kernel
theorem dX11_hire_40 : decode cX11_hire 40 = .ok (.iconst (-1), 1) := by decide +kernel
theorem dX11_hire_41 : decode cX11_hire 41 = .ok (.istore 7, 2) := by decide +kernel
theorem dX11_hire_43 : decode cX11_hire 43 = .ok (.iconst 0, 1) := by decide +kernel
theorem dX11_hire_44 : decode cX11_hire 44 = .ok (.istore 8, 2) := by decide +kernel
theorem dX11_hire_46 : decode cX11_hire 46 = .ok (.iload 8, 2) := by decide +kernel
theorem dX11_hire_48 : decode cX11_hire 48 = .ok (.bipush 99, 2) := by decide +kernel
theorem dX11_hire_50 : decode cX11_hire 50 = .ok (.if_icmp .gt 70, 3) := by decide +kernel
theorem dX11_hire_53 : decode cX11_hire 53 = .ok (.iload 8, 2) := by decide +kernel
theorem dX11_hire_55 : decode cX11_hire 55 = .ok (.ifCond .eq 15, 3) := by decide +kernel
theorem dX11_hire_58 : decode cX11_hire 58 = .ok (.aload_n 0, 1) := by decide +kernel
theorem dX11_hire_59 : decode cX11_hire 59 = .ok (.getfield 72, 3) := by decide +kernel
theorem dX11_hire_62 : decode cX11_hire 62 = .ok (.iload 8, 2) := by decide +kernel
theorem dX11_hire_64 : decode cX11_hire 64 = .ok (.invokevirtual 301, 3) := by decide +kernel
theorem dX11_hire_67 : decode cX11_hire 67 = .ok (.ifCond .eq 47, 3) := by decide +kernel
theorem dX11_hire_70 : decode cX11_hire 70 = .ok (.aload_n 0, 1) := by decide +kernel
theorem dX11_hire_71 : decode cX11_hire 71 = .ok (.getfield 100, 3) := by decide +kernel
theorem dX11_hire_74 : decode cX11_hire 74 = .ok (.getfield 151, 3) := by decide +kernel
theorem dX11_hire_77 : decode cX11_hire 77 = .ok (.iconst 2, 1) := by decide +kernel
theorem dX11_hire_78 : decode cX11_hire 78 = .ok (.iload 5, 2) := by decide +kernel
theorem dX11_hire_80 : decode cX11_hire 80 = .ok (.iadd, 1) := by decide +kernel
theorem dX11_hire_81 : decode cX11_hire 81 = .ok (.iload 8, 2) := by decide +kernel
theorem dX11_hire_83 : decode cX11_hire 83 = .ok (.iastore, 1) := by decide +kernel
theorem dX11_hire_84 : decode cX11_hire 84 = .ok (.aload_n 0, 1) := by decide +kernel
theorem dX11_hire_85 : decode cX11_hire 85 = .ok (.aload_n 0, 1) := by decide +kernel
theorem dX11_hire_86 : decode cX11_hire 86 = .ok (.getfield 100, 3) := by decide +kernel
theorem dX11_hire_89 : decode cX11_hire 89 = .ok (.iload_n 1, 1) := by decide +kernel
theorem dX11_hire_90 : decode cX11_hire 90 = .ok (.iload_n 2, 1) := by decide +kernel
theorem dX11_hire_91 : decode cX11_hire 91 = .ok (.iload_n 3, 1) := by decide +kernel
theorem dX11_hire_92 : decode cX11_hire 92 = .ok (.iload 4, 2) := by decide +kernel
theorem dX11_hire_94 : decode cX11_hire 94 = .ok (.invokevirtual 297, 3) := by decide +kernel
theorem dX11_hire_97 : decode cX11_hire 97 = .ok (.istore 9, 2) := by decide +kernel
theorem dX11_hire_99 : decode cX11_hire 99 = .ok (.iload 9, 2) := by decide +kernel
theorem dX11_hire_101 : decode cX11_hire 101 = .ok (.iload 6, 2) := by decide +kernel
theorem dX11_hire_103 : decode cX11_hire 103 = .ok (.if_icmp .le 11, 3) := by decide +kernel
theorem dX11_hire_106 : decode cX11_hire 106 = .ok (.iload 9, 2) := by decide +kernel
theorem dX11_hire_108 : decode cX11_hire 108 = .ok (.istore 6, 2) := by decide +kernel
theorem dX11_hire_110 : decode cX11_hire 110 = .ok (.iload 8, 2) := by decide +kernel
theorem dX11_hire_112 : decode cX11_hire 112 = .ok (.istore 7, 2) := by decide +kernel
theorem dX11_hire_114 : decode cX11_hire 114 = .ok (.iinc 8 1, 3) := by decide +kernel
theorem dX11_hire_117 : decode cX11_hire 117 = .ok (.goto (-71), 3) := by decide +kernel
theorem dX11_hire_120 : decode cX11_hire 120 = .ok (.iload 7, 2) := by decide +kernel
theorem dX11_hire_122 : decode cX11_hire 122 = .ok (.ireturn, 1) := by decide +kernel
set_option maxHeartbeats 4000000 in
set_option maxRecDepth 100000 in
theorem B_X11_hire_0 {d : Nat} {ro : Nat → Nat} {J : JT} {Z : Option Value → Hp → Prop} (g : xCtx RX11 cX11_hire 10 d 0 0 yX11_hire.name ro J) (hr : xRet cX11_hire (some .int) 0 0 Z J) {μ : Hp} {a0 : Nat} {x1 : Int32} {x2 : Int32} {x3 : Int32} {x4 : Int32} {x5 : Int32} {a0_book : Nat} (hs_a0 : hS μ a0 = some (14, 18)) (hr_a0_book : hR μ a0 13 = some a0_book) (hs_a0_book : hS μ a0_book = some (6, 9)) (hd9 : 1 ≤ d)
    (h : ((x5 < 0 → Z (some (.int (-1))) μ) ∧ (¬ x5 < 0 → (((hI μ a0_book 6) ≤ x5 → Z (some (.int (-1))) μ) ∧ (¬ (hI μ a0_book 6) ≤ x5 → xCall d yX11_isAsked cX11_isAsked 5 (some .boolean) [.ref a0, .int x1, .int x2, .int x3, .int x4] μ ro (fun r9 μ10 => ∃ y11 : Int32, r9 = some (.int y11) ∧ ((¬ y11 = 0 → hS μ10 a0 = some (14, 18) ∧ ∃ scratch_13 : Nat, hR μ10 a0 11 = some scratch_13 ∧ ∃ now_14 : Nat, hR μ10 a0 10 = some now_14 ∧ hS μ10 scratch_13 = some (12, 4) ∧ xCall d yX8_copyFrom cX8_copyFrom 2 none [.ref scratch_13, .ref now_14] μ10 ro (fun r15 μ16 => r15 = none ∧ J μ16 0 0 46 [(0, .ref a0), (1, .int x1), (2, .int x2), (3, .int x3), (4, .int x4), (5, .int x5), (6, .int (-1)), (7, .int (-1)), (8, .int 0)] [])) ∧ (y11 = 0 → Z (some (.int (-1))) μ10)))))))) :
    J μ 0 0 0 [(0, .ref a0), (1, .int x1), (2, .int x2), (3, .int x3), (4, .int x4), (5, .int x5)] [] := by
  refine r_aload_n g dX11_hire_0 rfl ?_
  refine r_getR g fX11_72 rfl hs_a0 hr_a0_book dX11_hire_1 ?_
  refine r_iload g dX11_hire_4 rfl ?_
  by_cases c1 : x5 < 0
  · replace h := h.1 c1
    refine r_callV (st := []) (As := [.int x5]) g sX11_157 iX2_hasFirm eX2_hasFirm rfl hs_a0_book rfl (Nat.le_of_ble_eq_true rfl) dX11_hire_6 (by omega) (Nat.le_refl 0) (Nat.le_refl 0) (P_X2_hasFirm_0 (d := d - 1) hs_a0_book c1) (fun r2 μ3 hZ1 => ?_)
    obtain ⟨rfl, e9⟩ := hZ1
    replace e9 := e9.symm
    subst e9
    refine r_if_eq g 24 dX11_hire_9 (by decide) (fun _ => ?_) (fun hz => absurd hz (by decide))
    refine r_iconst g (-1) dX11_hire_24 (by decide) ?_
    exact hr.2.1 _ rfl _ _ _ _ _ _ dX11_hire_25 rfl (Nat.le_refl 0) (Nat.le_refl 0) h
  · replace h := h.2 c1
    by_cases c4 : (hI μ a0_book 6) ≤ x5
    · replace h := h.1 c4
      refine r_callV (st := []) (As := [.int x5]) g sX11_157 iX2_hasFirm eX2_hasFirm rfl hs_a0_book rfl (Nat.le_of_ble_eq_true rfl) dX11_hire_6 (by omega) (Nat.le_refl 0) (Nat.le_refl 0) (P_X2_hasFirm_1 (d := d - 1) hs_a0_book c1 c4) (fun r5 μ6 hZ1 => ?_)
      obtain ⟨rfl, e9⟩ := hZ1
      replace e9 := e9.symm
      subst e9
      refine r_if_eq g 24 dX11_hire_9 (by decide) (fun _ => ?_) (fun hz => absurd hz (by decide))
      refine r_iconst g (-1) dX11_hire_24 (by decide) ?_
      exact hr.2.1 _ rfl _ _ _ _ _ _ dX11_hire_25 rfl (Nat.le_refl 0) (Nat.le_refl 0) h
    · replace h := h.2 c4
      refine r_callV (st := []) (As := [.int x5]) g sX11_157 iX2_hasFirm eX2_hasFirm rfl hs_a0_book rfl (Nat.le_of_ble_eq_true rfl) dX11_hire_6 (by omega) (Nat.le_refl 0) (Nat.le_refl 0) (P_X2_hasFirm_2 (d := d - 1) hs_a0_book c1 c4) (fun r7 μ8 hZ1 => ?_)
      obtain ⟨rfl, e9⟩ := hZ1
      replace e9 := e9.symm
      subst e9
      refine r_if_eq g 24 dX11_hire_9 (by decide) (fun hz => absurd hz (by decide)) (fun _ => ?_)
      refine r_aload_n g dX11_hire_12 rfl ?_
      refine r_iload_n g dX11_hire_13 rfl ?_
      refine r_iload_n g dX11_hire_14 rfl ?_
      refine r_iload_n g dX11_hire_15 rfl ?_
      refine r_iload g dX11_hire_16 rfl ?_
      obtain ⟨d1, Z1, hc1, hd1, h1⟩ := h
      refine r_callV (st := []) (As := [.int x1, .int x2, .int x3, .int x4]) g sX11_243 iX11_isAsked eX11_isAsked rfl hs_a0 rfl (Nat.le_of_ble_eq_true rfl) dX11_hire_18 hd1 (Nat.le_refl 0) (Nat.le_refl 0) hc1 (fun r9 μ10 hZ1 => ?_)
      replace h := h1 _ _ hZ1
      clear h1 hc1 hd1 hZ1 Z1 d1
      obtain ⟨y11, rfl, h⟩ := h
      refine r_if_ne g 26 dX11_hire_21 (by decide) (fun c12 => ?_) (fun c12 => ?_)
      · replace h := h.1 c12
        refine r_aload_n g dX11_hire_26 rfl ?_
        obtain ⟨hs_a0_, h⟩ := h
        obtain ⟨scratch_13, hr_scratch_13, h⟩ := h
        refine r_getR g fX11_100 rfl hs_a0_ hr_scratch_13 dX11_hire_27 ?_
        refine r_aload_n g dX11_hire_30 rfl ?_
        obtain ⟨now_14, hr_now_14, h⟩ := h
        refine r_getR g fX11_96 rfl hs_a0_ hr_now_14 dX11_hire_31 ?_
        obtain ⟨hs_scratch_13, h⟩ := h
        obtain ⟨d1, Z1, hc1, hd1, h1⟩ := h
        refine r_callV (st := []) (As := [.ref now_14]) g sX11_136 iX8_copyFrom eX8_copyFrom rfl hs_scratch_13 rfl (Nat.le_of_ble_eq_true rfl) dX11_hire_34 hd1 (Nat.le_refl 0) (Nat.le_refl 0) hc1 (fun r15 μ16 hZ1 => ?_)
        replace h := h1 _ _ hZ1
        clear h1 hc1 hd1 hZ1 Z1 d1
        obtain ⟨rfl, h⟩ := h
        refine r_iconst g (-1) dX11_hire_37 (by decide) ?_
        refine r_istore g [(6, .int (-1)), (0, .ref a0), (1, .int x1), (2, .int x2), (3, .int x3), (4, .int x4), (5, .int x5)] dX11_hire_38 (by decide) rfl ?_
        refine r_iconst g (-1) dX11_hire_40 (by decide) ?_
        refine r_istore g [(7, .int (-1)), (6, .int (-1)), (0, .ref a0), (1, .int x1), (2, .int x2), (3, .int x3), (4, .int x4), (5, .int x5)] dX11_hire_41 (by decide) rfl ?_
        refine r_iconst g 0 dX11_hire_43 (by decide) ?_
        refine r_istore g [(8, .int 0), (7, .int (-1)), (6, .int (-1)), (0, .ref a0), (1, .int x1), (2, .int x2), (3, .int x3), (4, .int x4), (5, .int x5)] dX11_hire_44 (by decide) rfl ?_
        refine r_sub g (lv' := [(0, .ref a0), (1, .int x1), (2, .int x2), (3, .int x3), (4, .int x4), (5, .int x5), (6, .int (-1)), (7, .int (-1)), (8, .int 0)]) (⟨rfl, rfl, rfl, rfl, rfl, rfl, rfl, rfl, rfl, trivial⟩) ?_
        exact h
      · replace h := h.2 c12
        refine r_iconst g (-1) dX11_hire_24 (by decide) ?_
        exact hr.2.1 _ rfl _ _ _ _ _ _ dX11_hire_25 rfl (Nat.le_refl 0) (Nat.le_refl 0) h
set_option maxHeartbeats 4000000 in
set_option maxRecDepth 100000 in
theorem B_X11_hire_46 {d : Nat} {ro : Nat → Nat} {J : JT} {Z : Option Value → Hp → Prop} (g : xCtx RX11 cX11_hire 10 d 0 0 yX11_hire.name ro J) (hr : xRet cX11_hire (some .int) 0 0 Z J) {μ : Hp} {a0 : Nat} {x1 : Int32} {x2 : Int32} {x3 : Int32} {x4 : Int32} {x5 : Int32} {x6 : Int32} {x7 : Int32} {x8 : Int32} {a0_book : Nat} (hs_a0 : hS μ a0 = some (14, 18)) (hr_a0_book : hR μ a0 13 = some a0_book) (hs_a0_book : hS μ a0_book = some (6, 9))
    (h : ((99 < x8 → Z (some (.int x7)) μ) ∧ (¬ 99 < x8 → ((x8 = 0 → J μ 0 0 70 [(0, .ref a0), (1, .int x1), (2, .int x2), (3, .int x3), (4, .int x4), (5, .int x5), (6, .int x6), (7, .int x7), (8, .int x8)] []) ∧ (¬ x8 = 0 → xCall d yX2_asksForStaff cX2_asksForStaff 3 (some .boolean) [.ref a0_book, .int x8] μ ro (fun r3 μ4 => ∃ y5 : Int32, r3 = some (.int y5) ∧ ((y5 = 0 → J μ4 0 0 46 [(0, .ref a0), (1, .int x1), (2, .int x2), (3, .int x3), (4, .int x4), (5, .int x5), (6, .int x6), (7, .int x7), (8, .int (x8 + 1))] []) ∧ (¬ y5 = 0 → J μ4 0 0 70 [(0, .ref a0), (1, .int x1), (2, .int x2), (3, .int x3), (4, .int x4), (5, .int x5), (6, .int x6), (7, .int x7), (8, .int x8)] [])))))))) :
    J μ 0 0 46 [(0, .ref a0), (1, .int x1), (2, .int x2), (3, .int x3), (4, .int x4), (5, .int x5), (6, .int x6), (7, .int x7), (8, .int x8)] [] := by
  refine r_iload g dX11_hire_46 rfl ?_
  refine r_bipush g 99 dX11_hire_48 (by decide) ?_
  refine r_icmp_gt g 120 dX11_hire_50 (by decide) (fun c1 => ?_) (fun c1 => ?_)
  · replace h := h.1 c1
    refine r_iload g dX11_hire_120 rfl ?_
    exact hr.2.1 _ rfl _ _ _ _ _ _ dX11_hire_122 rfl (Nat.le_refl 0) (Nat.le_refl 0) h
  · replace h := h.2 c1
    refine r_iload g dX11_hire_53 rfl ?_
    refine r_if_eq g 70 dX11_hire_55 (by decide) (fun c2 => ?_) (fun c2 => ?_)
    · replace h := h.1 c2
      refine r_sub g (lv' := [(0, .ref a0), (1, .int x1), (2, .int x2), (3, .int x3), (4, .int x4), (5, .int x5), (6, .int x6), (7, .int x7), (8, .int x8)]) (⟨rfl, rfl, rfl, rfl, rfl, rfl, rfl, rfl, rfl, trivial⟩) ?_
      exact h
    · replace h := h.2 c2
      refine r_aload_n g dX11_hire_58 rfl ?_
      refine r_getR g fX11_72 rfl hs_a0 hr_a0_book dX11_hire_59 ?_
      refine r_iload g dX11_hire_62 rfl ?_
      obtain ⟨d1, Z1, hc1, hd1, h1⟩ := h
      refine r_callV (st := []) (As := [.int x8]) g sX11_301 iX2_asksForStaff eX2_asksForStaff rfl hs_a0_book rfl (Nat.le_of_ble_eq_true rfl) dX11_hire_64 hd1 (Nat.le_refl 0) (Nat.le_refl 0) hc1 (fun r3 μ4 hZ1 => ?_)
      replace h := h1 _ _ hZ1
      clear h1 hc1 hd1 hZ1 Z1 d1
      obtain ⟨y5, rfl, h⟩ := h
      refine r_if_eq g 114 dX11_hire_67 (by decide) (fun c6 => ?_) (fun c6 => ?_)
      · replace h := h.1 c6
        refine r_iinc g (x8 + 1) [(8, .int (x8 + 1)), (0, .ref a0), (1, .int x1), (2, .int x2), (3, .int x3), (4, .int x4), (5, .int x5), (6, .int x6), (7, .int x7)] dX11_hire_114 rfl rfl (by decide) rfl ?_
        refine r_goto g 46 dX11_hire_117 (by decide) ?_
        refine r_sub g (lv' := [(0, .ref a0), (1, .int x1), (2, .int x2), (3, .int x3), (4, .int x4), (5, .int x5), (6, .int x6), (7, .int x7), (8, .int (x8 + 1))]) (⟨rfl, rfl, rfl, rfl, rfl, rfl, rfl, rfl, rfl, trivial⟩) ?_
        exact h
      · replace h := h.2 c6
        refine r_sub g (lv' := [(0, .ref a0), (1, .int x1), (2, .int x2), (3, .int x3), (4, .int x4), (5, .int x5), (6, .int x6), (7, .int x7), (8, .int x8)]) (⟨rfl, rfl, rfl, rfl, rfl, rfl, rfl, rfl, rfl, trivial⟩) ?_
        exact h
set_option maxHeartbeats 4000000 in
set_option maxRecDepth 100000 in
theorem B_X11_hire_70 {d : Nat} {ro : Nat → Nat} {J : JT} {Z : Option Value → Hp → Prop} (g : xCtx RX11 cX11_hire 10 d 0 0 yX11_hire.name ro J) (hr : xRet cX11_hire (some .int) 0 0 Z J) {μ : Hp} {a0 : Nat} {x1 : Int32} {x2 : Int32} {x3 : Int32} {x4 : Int32} {x5 : Int32} {x6 : Int32} {x7 : Int32} {x8 : Int32} {a0_scratch : Nat} {a0_scratch_row : Nat} {N_a0_scratch_row : Nat} (hs_a0 : hS μ a0 = some (14, 18)) (hr_a0_scratch : hR μ a0 11 = some a0_scratch) (hs_a0_scratch : hS μ a0_scratch = some (12, 4)) (hr_a0_scratch_row : hR μ a0_scratch 0 = some a0_scratch_row) (hs_a0_scratch_row : hS μ a0_scratch_row = some (0, N_a0_scratch_row))
    (h : vp_in (2 + x5) N_a0_scratch_row ∧ xCall d yX11_arrivesIn cX11_arrivesIn 6 (some .int) [.ref a0, .ref a0_scratch, .int x1, .int x2, .int x3, .int x4] (wI μ a0_scratch_row ((2 + x5).toNatClampNeg) x8) ro (fun r2 μ3 => ∃ y4 : Int32, r2 = some (.int y4) ∧ ((y4 ≤ x6 → J μ3 0 0 46 [(0, .ref a0), (1, .int x1), (2, .int x2), (3, .int x3), (4, .int x4), (5, .int x5), (6, .int x6), (7, .int x7), (8, .int (x8 + 1))] []) ∧ (¬ y4 ≤ x6 → J μ3 0 0 46 [(0, .ref a0), (1, .int x1), (2, .int x2), (3, .int x3), (4, .int x4), (5, .int x5), (6, .int y4), (7, .int x8), (8, .int (x8 + 1))] [])))) :
    J μ 0 0 70 [(0, .ref a0), (1, .int x1), (2, .int x2), (3, .int x3), (4, .int x4), (5, .int x5), (6, .int x6), (7, .int x7), (8, .int x8)] [] := by
  refine r_aload_n g dX11_hire_70 rfl ?_
  refine r_getR g fX11_100 rfl hs_a0 hr_a0_scratch dX11_hire_71 ?_
  refine r_getR g fX11_151 rfl hs_a0_scratch hr_a0_scratch_row dX11_hire_74 ?_
  refine r_iconst g 2 dX11_hire_77 (by decide) ?_
  refine r_iload g dX11_hire_78 rfl ?_
  refine r_iadd g dX11_hire_80 ?_
  refine r_iload g dX11_hire_81 rfl ?_
  obtain ⟨hi1, h⟩ := h
  refine r_iastore g hs_a0_scratch_row hi1 dX11_hire_83 ?_
  refine r_aload_n g dX11_hire_84 rfl ?_
  refine r_aload_n g dX11_hire_85 rfl ?_
  refine r_getR g fX11_100 rfl hs_a0 hr_a0_scratch dX11_hire_86 ?_
  refine r_iload_n g dX11_hire_89 rfl ?_
  refine r_iload_n g dX11_hire_90 rfl ?_
  refine r_iload_n g dX11_hire_91 rfl ?_
  refine r_iload g dX11_hire_92 rfl ?_
  obtain ⟨d1, Z1, hc1, hd1, h1⟩ := h
  refine r_callV (st := []) (As := [.ref a0_scratch, .int x1, .int x2, .int x3, .int x4]) g sX11_297 iX11_arrivesIn eX11_arrivesIn rfl hs_a0 rfl (Nat.le_of_ble_eq_true rfl) dX11_hire_94 hd1 (Nat.le_refl 0) (Nat.le_refl 0) hc1 (fun r2 μ3 hZ1 => ?_)
  replace h := h1 _ _ hZ1
  clear h1 hc1 hd1 hZ1 Z1 d1
  obtain ⟨y4, rfl, h⟩ := h
  refine r_istore g [(9, .int y4), (0, .ref a0), (1, .int x1), (2, .int x2), (3, .int x3), (4, .int x4), (5, .int x5), (6, .int x6), (7, .int x7), (8, .int x8)] dX11_hire_97 (by decide) rfl ?_
  refine r_iload g dX11_hire_99 rfl ?_
  refine r_iload g dX11_hire_101 rfl ?_
  refine r_icmp_le g 114 dX11_hire_103 (by decide) (fun c5 => ?_) (fun c5 => ?_)
  · replace h := h.1 c5
    refine r_iinc g (x8 + 1) [(8, .int (x8 + 1)), (9, .int y4), (0, .ref a0), (1, .int x1), (2, .int x2), (3, .int x3), (4, .int x4), (5, .int x5), (6, .int x6), (7, .int x7)] dX11_hire_114 rfl rfl (by decide) rfl ?_
    refine r_goto g 46 dX11_hire_117 (by decide) ?_
    refine r_sub g (lv' := [(0, .ref a0), (1, .int x1), (2, .int x2), (3, .int x3), (4, .int x4), (5, .int x5), (6, .int x6), (7, .int x7), (8, .int (x8 + 1))]) (⟨rfl, rfl, rfl, rfl, rfl, rfl, rfl, rfl, rfl, trivial⟩) ?_
    exact h
  · replace h := h.2 c5
    refine r_iload g dX11_hire_106 rfl ?_
    refine r_istore g [(6, .int y4), (9, .int y4), (0, .ref a0), (1, .int x1), (2, .int x2), (3, .int x3), (4, .int x4), (5, .int x5), (7, .int x7), (8, .int x8)] dX11_hire_108 (by decide) rfl ?_
    refine r_iload g dX11_hire_110 rfl ?_
    refine r_istore g [(7, .int x8), (6, .int y4), (9, .int y4), (0, .ref a0), (1, .int x1), (2, .int x2), (3, .int x3), (4, .int x4), (5, .int x5), (8, .int x8)] dX11_hire_112 (by decide) rfl ?_
    refine r_iinc g (x8 + 1) [(8, .int (x8 + 1)), (7, .int x8), (6, .int y4), (9, .int y4), (0, .ref a0), (1, .int x1), (2, .int x2), (3, .int x3), (4, .int x4), (5, .int x5)] dX11_hire_114 rfl rfl (by decide) rfl ?_
    refine r_goto g 46 dX11_hire_117 (by decide) ?_
    refine r_sub g (lv' := [(0, .ref a0), (1, .int x1), (2, .int x2), (3, .int x3), (4, .int x4), (5, .int x5), (6, .int y4), (7, .int x8), (8, .int (x8 + 1))]) (⟨rfl, rfl, rfl, rfl, rfl, rfl, rfl, rfl, rfl, trivial⟩) ?_
    exact h
theorem I_X11_hire {d : Nat} {ro : Nat → Nat} {Z : Option Value → Hp → Prop} {μ : Hp} {a0 : Nat} {x1 : Int32} {x2 : Int32} {x3 : Int32} {x4 : Int32} {x5 : Int32} (h : ∀ J, xCtx RX11 cX11_hire 10 d 0 0 yX11_hire.name ro J → xRet cX11_hire (some .int) 0 0 Z J → J μ 0 0 0 [(0, .ref a0), (1, .int x1), (2, .int x2), (3, .int x3), (4, .int x4), (5, .int x5)] []) : xC d yX11_hire cX11_hire 10 (some .int) 0 0 [.ref a0, .int x1, .int x2, .int x3, .int x4, .int x5] μ ro Z :=
  xC_intro (own := RX11) (lv := [(0, .ref a0), (1, .int x1), (2, .int x2), (3, .int x3), (4, .int x4), (5, .int x5)]) (by decide) rfl (Nat.le_of_ble_eq_true rfl) rfl (fun J g hr => r_sub g (lv' := [(0, .ref a0), (1, .int x1), (2, .int x2), (3, .int x3), (4, .int x4), (5, .int x5)]) (⟨rfl, rfl, rfl, rfl, rfl, rfl, trivial⟩) (h J g hr))
theorem dX11_without_0 : decode cX11_without 0 = .ok (.aload_n 0, 1) := by decide +kernel
theorem dX11_without_1 : decode cX11_without 1 = .ok (.getfield 72, 3) := by decide +kernel
theorem dX11_without_4 : decode cX11_without 4 = .ok (.iload 5, 2) := by decide +kernel
theorem dX11_without_6 : decode cX11_without 6 = .ok (.invokevirtual 157, 3) := by decide +kernel
theorem dX11_without_9 : decode cX11_without 9 = .ok (.ifCond .eq 27, 3) := by decide +kernel
theorem dX11_without_12 : decode cX11_without 12 = .ok (.iload 5, 2) := by decide +kernel
theorem dX11_without_14 : decode cX11_without 14 = .ok (.iload_n 2, 1) := by decide +kernel
theorem dX11_without_15 : decode cX11_without 15 = .ok (.if_icmp .eq 21, 3) := by decide +kernel
theorem dX11_without_18 : decode cX11_without 18 = .ok (.iload 5, 2) := by decide +kernel
theorem dX11_without_20 : decode cX11_without 20 = .ok (.iload_n 3, 1) := by decide +kernel
theorem dX11_without_21 : decode cX11_without 21 = .ok (.if_icmp .eq 15, 3) := by decide +kernel
theorem dX11_without_24 : decode cX11_without 24 = .ok (.aload_n 0, 1) := by decide +kernel
theorem dX11_without_25 : decode cX11_without 25 = .ok (.iload_n 1, 1) := by decide +kernel
theorem dX11_without_26 : decode cX11_without 26 = .ok (.iload_n 2, 1) := by decide +kernel
theorem dX11_without_27 : decode cX11_without 27 = .ok (.iload_n 3, 1) := by decide +kernel
theorem dX11_without_28 : decode cX11_without 28 = .ok (.iload 4, 2) := by decide +kernel
theorem dX11_without_30 : decode cX11_without 30 = .ok (.invokevirtual 243, 3) := by decide +kernel
theorem dX11_without_33 : decode cX11_without 33 = .ok (.ifCond .ne 5, 3) := by decide +kernel
theorem dX11_without_36 : decode cX11_without 36 = .ok (.iconst (-1), 1) := by decide +kernel
theorem dX11_without_37 : decode cX11_without 37 = .ok (.ireturn, 1) := by decide +kernel
theorem dX11_without_38 : decode cX11_without 38 = .ok (.aload_n 0, 1) := by decide +kernel
theorem dX11_without_39 : decode cX11_without 39 = .ok (.getfield 25, 3) := by decide +kernel
theorem dX11_without_42 : decode cX11_without 42 = .ok (.aload_n 0, 1) := by decide +kernel
theorem dX11_without_43 : decode cX11_without 43 = .ok (.getfield 96, 3) := by decide +kernel
theorem dX11_without_46 : decode cX11_without 46 = .ok (.iload_n 1, 1) := by decide +kernel
theorem dX11_without_47 : decode cX11_without 47 = .ok (.iload_n 2, 1) := by decide +kernel
theorem dX11_without_48 : decode cX11_without 48 = .ok (.iload_n 3, 1) := by decide +kernel
theorem dX11_without_49 : decode cX11_without 49 = .ok (.iload 4, 2) := by decide +kernel
theorem dX11_without_51 : decode cX11_without 51 = .ok (.iconst 1, 1) := by decide +kernel
theorem dX11_without_52 : decode cX11_without 52 = .ok (.iload 5, 2) := by decide +kernel
theorem dX11_without_54 : decode cX11_without 54 = .ok (.ishl, 1) := by decide +kernel
theorem dX11_without_55 : decode cX11_without 55 = .ok (.invokevirtual 247, 3) := by decide +kernel
theorem dX11_without_58 : decode cX11_without 58 = .ok (.ifCond .eq 16, 3) := by decide +kernel
theorem dX11_without_61 : decode cX11_without 61 = .ok (.aload_n 0, 1) := by decide +kernel
theorem dX11_without_62 : decode cX11_without 62 = .ok (.getfield 25, 3) := by decide +kernel
theorem dX11_without_65 : decode cX11_without 65 = .ok (.getfield 251, 3) := by decide +kernel
theorem dX11_without_68 : decode cX11_without 68 = .ok (.getfield 255, 3) := by decide +kernel
theorem dX11_without_71 : decode cX11_without 71 = .ok (.goto 4, 3) := by decide +kernel
theorem dX11_without_74 : decode cX11_without 74 = .ok (.iconst (-1), 1) := by decide +kernel
theorem dX11_without_75 : decode cX11_without 75 = .ok (.ireturn, 1) := by decide +kernel
set_option maxHeartbeats 4000000 in
set_option maxRecDepth 100000 in
theorem B_X11_without_0 {d : Nat} {ro : Nat → Nat} {J : JT} {Z : Option Value → Hp → Prop} (g : xCtx RX11 cX11_without 6 d 0 0 yX11_without.name ro J) (hr : xRet cX11_without (some .int) 0 0 Z J) {μ : Hp} {a0 : Nat} {x1 : Int32} {x2 : Int32} {x3 : Int32} {x4 : Int32} {x5 : Int32} {a0_book : Nat} (hs_a0 : hS μ a0 = some (14, 18)) (hr_a0_book : hR μ a0 13 = some a0_book) (hs_a0_book : hS μ a0_book = some (6, 9)) (hd9 : 1 ≤ d)
    (h : ((x5 < 0 → Z (some (.int (-1))) μ) ∧ (¬ x5 < 0 → (((hI μ a0_book 6) ≤ x5 → Z (some (.int (-1))) μ) ∧ (¬ (hI μ a0_book 6) ≤ x5 → ((x5 = x2 → Z (some (.int (-1))) μ) ∧ (¬ x5 = x2 → ((x5 = x3 → Z (some (.int (-1))) μ) ∧ (¬ x5 = x3 → xCall d yX11_isAsked cX11_isAsked 5 (some .boolean) [.ref a0, .int x1, .int x2, .int x3, .int x4] μ ro (fun r11 μ12 => ∃ y13 : Int32, r11 = some (.int y13) ∧ ((¬ y13 = 0 → hS μ12 a0 = some (14, 18) ∧ ∃ finder_15 : Nat, hR μ12 a0 2 = some finder_15 ∧ ∃ now_16 : Nat, hR μ12 a0 10 = some now_16 ∧ hS μ12 finder_15 = some (7, 9) ∧ xCall d yX3_find cX3_find 7 (some .boolean) [.ref finder_15, .ref now_16, .int x1, .int x2, .int x3, .int x4, .int (1 <<< (x5 &&& 31))] μ12 ro (fun r17 μ18 => ∃ y19 : Int32, r17 = some (.int y19) ∧ ((y19 = 0 → Z (some (.int (-1))) μ18) ∧ (¬ y19 = 0 → hS μ18 a0 = some (14, 18) ∧ ∃ finder_21 : Nat, hR μ18 a0 2 = some finder_21 ∧ hS μ18 finder_21 = some (7, 9) ∧ ∃ best_22 : Nat, hR μ18 finder_21 0 = some best_22 ∧ hS μ18 best_22 = some (13, 5) ∧ Z (some (.int (hI μ18 best_22 3))) μ18)))) ∧ (y13 = 0 → Z (some (.int (-1))) μ12)))))))))))) :
    J μ 0 0 0 [(0, .ref a0), (1, .int x1), (2, .int x2), (3, .int x3), (4, .int x4), (5, .int x5)] [] := by
  refine r_aload_n g dX11_without_0 rfl ?_
  refine r_getR g fX11_72 rfl hs_a0 hr_a0_book dX11_without_1 ?_
  refine r_iload g dX11_without_4 rfl ?_
  by_cases c1 : x5 < 0
  · replace h := h.1 c1
    refine r_callV (st := []) (As := [.int x5]) g sX11_157 iX2_hasFirm eX2_hasFirm rfl hs_a0_book rfl (Nat.le_of_ble_eq_true rfl) dX11_without_6 (by omega) (Nat.le_refl 0) (Nat.le_refl 0) (P_X2_hasFirm_0 (d := d - 1) hs_a0_book c1) (fun r2 μ3 hZ1 => ?_)
    obtain ⟨rfl, e9⟩ := hZ1
    replace e9 := e9.symm
    subst e9
    refine r_if_eq g 36 dX11_without_9 (by decide) (fun _ => ?_) (fun hz => absurd hz (by decide))
    refine r_iconst g (-1) dX11_without_36 (by decide) ?_
    exact hr.2.1 _ rfl _ _ _ _ _ _ dX11_without_37 rfl (Nat.le_refl 0) (Nat.le_refl 0) h
  · replace h := h.2 c1
    by_cases c4 : (hI μ a0_book 6) ≤ x5
    · replace h := h.1 c4
      refine r_callV (st := []) (As := [.int x5]) g sX11_157 iX2_hasFirm eX2_hasFirm rfl hs_a0_book rfl (Nat.le_of_ble_eq_true rfl) dX11_without_6 (by omega) (Nat.le_refl 0) (Nat.le_refl 0) (P_X2_hasFirm_1 (d := d - 1) hs_a0_book c1 c4) (fun r5 μ6 hZ1 => ?_)
      obtain ⟨rfl, e9⟩ := hZ1
      replace e9 := e9.symm
      subst e9
      refine r_if_eq g 36 dX11_without_9 (by decide) (fun _ => ?_) (fun hz => absurd hz (by decide))
      refine r_iconst g (-1) dX11_without_36 (by decide) ?_
      exact hr.2.1 _ rfl _ _ _ _ _ _ dX11_without_37 rfl (Nat.le_refl 0) (Nat.le_refl 0) h
    · replace h := h.2 c4
      refine r_callV (st := []) (As := [.int x5]) g sX11_157 iX2_hasFirm eX2_hasFirm rfl hs_a0_book rfl (Nat.le_of_ble_eq_true rfl) dX11_without_6 (by omega) (Nat.le_refl 0) (Nat.le_refl 0) (P_X2_hasFirm_2 (d := d - 1) hs_a0_book c1 c4) (fun r7 μ8 hZ1 => ?_)
      obtain ⟨rfl, e9⟩ := hZ1
      replace e9 := e9.symm
      subst e9
      refine r_if_eq g 36 dX11_without_9 (by decide) (fun hz => absurd hz (by decide)) (fun _ => ?_)
      refine r_iload g dX11_without_12 rfl ?_
      refine r_iload_n g dX11_without_14 rfl ?_
      refine r_icmp_eq g 36 dX11_without_15 (by decide) (fun c9 => ?_) (fun c9 => ?_)
      · replace h := h.1 c9
        refine r_iconst g (-1) dX11_without_36 (by decide) ?_
        exact hr.2.1 _ rfl _ _ _ _ _ _ dX11_without_37 rfl (Nat.le_refl 0) (Nat.le_refl 0) h
      · replace h := h.2 c9
        refine r_iload g dX11_without_18 rfl ?_
        refine r_iload_n g dX11_without_20 rfl ?_
        refine r_icmp_eq g 36 dX11_without_21 (by decide) (fun c10 => ?_) (fun c10 => ?_)
        · replace h := h.1 c10
          refine r_iconst g (-1) dX11_without_36 (by decide) ?_
          exact hr.2.1 _ rfl _ _ _ _ _ _ dX11_without_37 rfl (Nat.le_refl 0) (Nat.le_refl 0) h
        · replace h := h.2 c10
          refine r_aload_n g dX11_without_24 rfl ?_
          refine r_iload_n g dX11_without_25 rfl ?_
          refine r_iload_n g dX11_without_26 rfl ?_
          refine r_iload_n g dX11_without_27 rfl ?_
          refine r_iload g dX11_without_28 rfl ?_
          obtain ⟨d1, Z1, hc1, hd1, h1⟩ := h
          refine r_callV (st := []) (As := [.int x1, .int x2, .int x3, .int x4]) g sX11_243 iX11_isAsked eX11_isAsked rfl hs_a0 rfl (Nat.le_of_ble_eq_true rfl) dX11_without_30 hd1 (Nat.le_refl 0) (Nat.le_refl 0) hc1 (fun r11 μ12 hZ1 => ?_)
          replace h := h1 _ _ hZ1
          clear h1 hc1 hd1 hZ1 Z1 d1
          obtain ⟨y13, rfl, h⟩ := h
          refine r_if_ne g 38 dX11_without_33 (by decide) (fun c14 => ?_) (fun c14 => ?_)
          · replace h := h.1 c14
            refine r_aload_n g dX11_without_38 rfl ?_
            obtain ⟨hs_a0_, h⟩ := h
            obtain ⟨finder_15, hr_finder_15, h⟩ := h
            refine r_getR g fX11_25 rfl hs_a0_ hr_finder_15 dX11_without_39 ?_
            refine r_aload_n g dX11_without_42 rfl ?_
            obtain ⟨now_16, hr_now_16, h⟩ := h
            refine r_getR g fX11_96 rfl hs_a0_ hr_now_16 dX11_without_43 ?_
            refine r_iload_n g dX11_without_46 rfl ?_
            refine r_iload_n g dX11_without_47 rfl ?_
            refine r_iload_n g dX11_without_48 rfl ?_
            refine r_iload g dX11_without_49 rfl ?_
            refine r_iconst g 1 dX11_without_51 (by decide) ?_
            refine r_iload g dX11_without_52 rfl ?_
            refine r_ishl g dX11_without_54 ?_
            obtain ⟨hs_finder_15, h⟩ := h
            obtain ⟨d1, Z1, hc1, hd1, h1⟩ := h
            refine r_callV (st := []) (As := [.ref now_16, .int x1, .int x2, .int x3, .int x4, .int (1 <<< (x5 &&& 31))]) g sX11_247 iX3_find eX3_find rfl hs_finder_15 rfl (Nat.le_of_ble_eq_true rfl) dX11_without_55 hd1 (Nat.le_refl 0) (Nat.le_refl 0) hc1 (fun r17 μ18 hZ1 => ?_)
            replace h := h1 _ _ hZ1
            clear h1 hc1 hd1 hZ1 Z1 d1
            obtain ⟨y19, rfl, h⟩ := h
            refine r_if_eq g 74 dX11_without_58 (by decide) (fun c20 => ?_) (fun c20 => ?_)
            · replace h := h.1 c20
              refine r_iconst g (-1) dX11_without_74 (by decide) ?_
              exact hr.2.1 _ rfl _ _ _ _ _ _ dX11_without_75 rfl (Nat.le_refl 0) (Nat.le_refl 0) h
            · replace h := h.2 c20
              refine r_aload_n g dX11_without_61 rfl ?_
              obtain ⟨hs_a0__, h⟩ := h
              obtain ⟨finder_21, hr_finder_21, h⟩ := h
              refine r_getR g fX11_25 rfl hs_a0__ hr_finder_21 dX11_without_62 ?_
              obtain ⟨hs_finder_21, h⟩ := h
              obtain ⟨best_22, hr_best_22, h⟩ := h
              refine r_getR g fX11_251 rfl hs_finder_21 hr_best_22 dX11_without_65 ?_
              obtain ⟨hs_best_22, h⟩ := h
              refine r_getI g fX11_255 rfl hs_best_22 dX11_without_68 ?_
              refine r_goto g 75 dX11_without_71 (by decide) ?_
              exact hr.2.1 _ rfl _ _ _ _ _ _ dX11_without_75 rfl (Nat.le_refl 0) (Nat.le_refl 0) h
          · replace h := h.2 c14
            refine r_iconst g (-1) dX11_without_36 (by decide) ?_
            exact hr.2.1 _ rfl _ _ _ _ _ _ dX11_without_37 rfl (Nat.le_refl 0) (Nat.le_refl 0) h
theorem I_X11_without {d : Nat} {ro : Nat → Nat} {Z : Option Value → Hp → Prop} {μ : Hp} {a0 : Nat} {x1 : Int32} {x2 : Int32} {x3 : Int32} {x4 : Int32} {x5 : Int32} (h : ∀ J, xCtx RX11 cX11_without 6 d 0 0 yX11_without.name ro J → xRet cX11_without (some .int) 0 0 Z J → J μ 0 0 0 [(0, .ref a0), (1, .int x1), (2, .int x2), (3, .int x3), (4, .int x4), (5, .int x5)] []) : xC d yX11_without cX11_without 6 (some .int) 0 0 [.ref a0, .int x1, .int x2, .int x3, .int x4, .int x5] μ ro Z :=
  xC_intro (own := RX11) (lv := [(0, .ref a0), (1, .int x1), (2, .int x2), (3, .int x3), (4, .int x4), (5, .int x5)]) (by decide) rfl (Nat.le_of_ble_eq_true rfl) rfl (fun J g hr => r_sub g (lv' := [(0, .ref a0), (1, .int x1), (2, .int x2), (3, .int x3), (4, .int x4), (5, .int x5)]) (⟨rfl, rfl, rfl, rfl, rfl, rfl, trivial⟩) (h J g hr))
theorem dX11_key_0 : decode cX11_key 0 = .ok (.aload_n 0, 1) := by decide +kernel
theorem dX11_key_1 : decode cX11_key 1 = .ok (.iload_n 1, 1) := by decide +kernel
theorem dX11_key_2 : decode cX11_key 2 = .ok (.iload_n 2, 1) := by decide +kernel
theorem dX11_key_3 : decode cX11_key 3 = .ok (.iload_n 3, 1) := by decide +kernel
theorem dX11_key_4 : decode cX11_key 4 = .ok (.iload 4, 2) := by decide +kernel
theorem dX11_key_6 : decode cX11_key 6 = .ok (.invokevirtual 260, 3) := by decide +kernel
theorem dX11_key_9 : decode cX11_key 9 = .ok (.ifCond .ne 5, 3) := by decide +kernel
theorem dX11_key_12 : decode cX11_key 12 = .ok (.iconst (-1), 1) := by decide +kernel
theorem dX11_key_13 : decode cX11_key 13 = .ok (.ireturn, 1) := by decide +kernel
theorem dX11_key_14 : decode cX11_key 14 = .ok (.ldc_w 304, 3) := by decide +kernel
theorem dX11_key_17 : decode cX11_key 17 = .ok (.istore 5, 2) := by decide +kernel
theorem dX11_key_19 : decode cX11_key 19 = .ok (.iconst (-1), 1) := by decide +kernel
theorem dX11_key_20 : decode cX11_key 20 = .ok (.istore 6, 2) := by decide +kernel
theorem dX11_key_22 : decode cX11_key 22 = .ok (.iconst 0, 1) := by decide +kernel
theorem dX11_key_23 : decode cX11_key 23 = .ok (.istore 7, 2) := by decide +kernel
theorem dX11_key_25 : decode cX11_key 25 = .ok (.iload 7, 2) := by decide +kernel
theorem dX11_key_27 : decode cX11_key 27 = .ok (.aload_n 0, 1) := by decide +kernel
theorem dX11_key_28 : decode cX11_key 28 = .ok (.getfield 72, 3) := by decide +kernel
theorem dX11_key_31 : decode cX11_key 31 = .ok (.getfield 144, 3) := by decide +kernel
theorem dX11_key_34 : decode cX11_key 34 = .ok (.if_icmp .ge 79, 3) := by decide +kernel
theorem dX11_key_37 : decode cX11_key 37 = .ok (.iload 7, 2) := by decide +kernel
theorem dX11_key_39 : decode cX11_key 39 = .ok (.iload_n 2, 1) := by decide +kernel
theorem dX11_key_40 : decode cX11_key 40 = .ok (.if_icmp .eq 67, 3) := by decide +kernel
theorem dX11_key_43 : decode cX11_key 43 = .ok (.iload 7, 2) := by decide +kernel
theorem dX11_key_45 : decode cX11_key 45 = .ok (.iload_n 3, 1) := by decide +kernel
theorem dX11_key_46 : decode cX11_key 46 = .ok (.if_icmp .eq 61, 3) := by decide +kernel
theorem dX11_key_49 : decode cX11_key 49 = .ok (.aload_n 0, 1) := by decide +kernel
theorem dX11_key_50 : decode cX11_key 50 = .ok (.getfield 25, 3) := by decide +kernel
theorem dX11_key_53 : decode cX11_key 53 = .ok (.aload_n 0, 1) := by decide +kernel
theorem dX11_key_54 : decode cX11_key 54 = .ok (.getfield 96, 3) := by decide +kernel
theorem dX11_key_57 : decode cX11_key 57 = .ok (.iload_n 1, 1) := by decide +kernel
theorem dX11_key_58 : decode cX11_key 58 = .ok (.iload_n 2, 1) := by decide +kernel
theorem dX11_key_59 : decode cX11_key 59 = .ok (.iload_n 3, 1) := by decide +kernel
theorem dX11_key_60 : decode cX11_key 60 = .ok (.iload 4, 2) := by decide +kernel
theorem dX11_key_62 : decode cX11_key 62 = .ok (.iconst 1, 1) := by decide +kernel
theorem dX11_key_63 : decode cX11_key 63 = .ok (.iload 7, 2) := by decide +kernel
theorem dX11_key_65 : decode cX11_key 65 = .ok (.ishl, 1) := by decide +kernel
theorem dX11_key_66 : decode cX11_key 66 = .ok (.invokevirtual 247, 3) := by decide +kernel
theorem dX11_key_69 : decode cX11_key 69 = .ok (.istore 8, 2) := by decide +kernel
theorem dX11_key_71 : decode cX11_key 71 = .ok (.iload 8, 2) := by decide +kernel
theorem dX11_key_73 : decode cX11_key 73 = .ok (.ifCond .eq 16, 3) := by decide +kernel
theorem dX11_key_76 : decode cX11_key 76 = .ok (.aload_n 0, 1) := by decide +kernel
theorem dX11_key_77 : decode cX11_key 77 = .ok (.getfield 25, 3) := by decide +kernel
theorem dX11_key_80 : decode cX11_key 80 = .ok (.getfield 251, 3) := by decide +kernel
theorem dX11_key_83 : decode cX11_key 83 = .ok (.getfield 255, 3) := by decide +kernel
theorem dX11_key_86 : decode cX11_key 86 = .ok (.goto 4, 3) := by decide +kernel
theorem dX11_key_89 : decode cX11_key 89 = .ok (.iconst (-1), 1) := by decide +kernel
theorem dX11_key_90 : decode cX11_key 90 = .ok (.istore 9, 2) := by decide +kernel
theorem dX11_key_92 : decode cX11_key 92 = .ok (.iload 9, 2) := by decide +kernel
theorem dX11_key_94 : decode cX11_key 94 = .ok (.iload 5, 2) := by decide +kernel
theorem dX11_key_96 : decode cX11_key 96 = .ok (.if_icmp .ge 11, 3) := by decide +kernel
theorem dX11_key_99 : decode cX11_key 99 = .ok (.iload 9, 2) := by decide +kernel
theorem dX11_key_101 : decode cX11_key 101 = .ok (.istore 5, 2) := by decide +kernel
theorem dX11_key_103 : decode cX11_key 103 = .ok (.iload 7, 2) := by decide +kernel
theorem dX11_key_105 : decode cX11_key 105 = .ok (.istore 6, 2) := by decide +kernel
theorem dX11_key_107 : decode cX11_key 107 = .ok (.iinc 7 1, 3) := by decide +kernel
theorem dX11_key_110 : decode cX11_key 110 = .ok (.goto (-85), 3) := by decide +kernel
theorem dX11_key_113 : decode cX11_key 113 = .ok (.iload 6, 2) := by decide +kernel
theorem dX11_key_115 : decode cX11_key 115 = .ok (.ireturn, 1) := by decide +kernel
set_option maxHeartbeats 4000000 in
set_option maxRecDepth 100000 in
theorem B_X11_key_0 {d : Nat} {ro : Nat → Nat} {J : JT} {Z : Option Value → Hp → Prop} (g : xCtx RX11 cX11_key 10 d 0 0 yX11_key.name ro J) (hr : xRet cX11_key (some .int) 0 0 Z J) {μ : Hp} {a0 : Nat} {x1 : Int32} {x2 : Int32} {x3 : Int32} {x4 : Int32} (hs_a0 : hS μ a0 = some (14, 18))
    (h : xCall d yX11_isFound cX11_isFound 5 (some .boolean) [.ref a0, .int x1, .int x2, .int x3, .int x4] μ ro (fun r1 μ2 => ∃ y3 : Int32, r1 = some (.int y3) ∧ ((¬ y3 = 0 → J μ2 0 0 25 [(0, .ref a0), (1, .int x1), (2, .int x2), (3, .int x3), (4, .int x4), (5, .int 1000001), (6, .int (-1)), (7, .int 0)] []) ∧ (y3 = 0 → Z (some (.int (-1))) μ2)))) :
    J μ 0 0 0 [(0, .ref a0), (1, .int x1), (2, .int x2), (3, .int x3), (4, .int x4)] [] := by
  refine r_aload_n g dX11_key_0 rfl ?_
  refine r_iload_n g dX11_key_1 rfl ?_
  refine r_iload_n g dX11_key_2 rfl ?_
  refine r_iload_n g dX11_key_3 rfl ?_
  refine r_iload g dX11_key_4 rfl ?_
  obtain ⟨d1, Z1, hc1, hd1, h1⟩ := h
  refine r_callV (st := []) (As := [.int x1, .int x2, .int x3, .int x4]) g sX11_260 iX11_isFound eX11_isFound rfl hs_a0 rfl (Nat.le_of_ble_eq_true rfl) dX11_key_6 hd1 (Nat.le_refl 0) (Nat.le_refl 0) hc1 (fun r1 μ2 hZ1 => ?_)
  replace h := h1 _ _ hZ1
  clear h1 hc1 hd1 hZ1 Z1 d1
  obtain ⟨y3, rfl, h⟩ := h
  refine r_if_ne g 14 dX11_key_9 (by decide) (fun c4 => ?_) (fun c4 => ?_)
  · replace h := h.1 c4
    refine r_ldcw g 1000001 kX11_304 dX11_key_14 ?_
    refine r_istore g [(5, .int 1000001), (0, .ref a0), (1, .int x1), (2, .int x2), (3, .int x3), (4, .int x4)] dX11_key_17 (by decide) rfl ?_
    refine r_iconst g (-1) dX11_key_19 (by decide) ?_
    refine r_istore g [(6, .int (-1)), (5, .int 1000001), (0, .ref a0), (1, .int x1), (2, .int x2), (3, .int x3), (4, .int x4)] dX11_key_20 (by decide) rfl ?_
    refine r_iconst g 0 dX11_key_22 (by decide) ?_
    refine r_istore g [(7, .int 0), (6, .int (-1)), (5, .int 1000001), (0, .ref a0), (1, .int x1), (2, .int x2), (3, .int x3), (4, .int x4)] dX11_key_23 (by decide) rfl ?_
    refine r_sub g (lv' := [(0, .ref a0), (1, .int x1), (2, .int x2), (3, .int x3), (4, .int x4), (5, .int 1000001), (6, .int (-1)), (7, .int 0)]) (⟨rfl, rfl, rfl, rfl, rfl, rfl, rfl, rfl, trivial⟩) ?_
    exact h
  · replace h := h.2 c4
    refine r_iconst g (-1) dX11_key_12 (by decide) ?_
    exact hr.2.1 _ rfl _ _ _ _ _ _ dX11_key_13 rfl (Nat.le_refl 0) (Nat.le_refl 0) h
set_option maxHeartbeats 4000000 in
set_option maxRecDepth 100000 in
theorem B_X11_key_25 {d : Nat} {ro : Nat → Nat} {J : JT} {Z : Option Value → Hp → Prop} (g : xCtx RX11 cX11_key 10 d 0 0 yX11_key.name ro J) (hr : xRet cX11_key (some .int) 0 0 Z J) {μ : Hp} {a0 : Nat} {x1 : Int32} {x2 : Int32} {x3 : Int32} {x4 : Int32} {x5 : Int32} {x6 : Int32} {x7 : Int32} {a0_book : Nat} {a0_finder : Nat} {a0_now : Nat} (hs_a0 : hS μ a0 = some (14, 18)) (hr_a0_book : hR μ a0 13 = some a0_book) (hs_a0_book : hS μ a0_book = some (6, 9)) (hr_a0_finder : hR μ a0 2 = some a0_finder) (hr_a0_now : hR μ a0 10 = some a0_now) (hs_a0_finder : hS μ a0_finder = some (7, 9))
    (h : (((hI μ a0_book 6) ≤ x7 → Z (some (.int x6)) μ) ∧ (¬ (hI μ a0_book 6) ≤ x7 → ((x7 = x2 → J μ 0 0 25 [(0, .ref a0), (1, .int x1), (2, .int x2), (3, .int x3), (4, .int x4), (5, .int x5), (6, .int x6), (7, .int (x7 + 1))] []) ∧ (¬ x7 = x2 → ((x7 = x3 → J μ 0 0 25 [(0, .ref a0), (1, .int x1), (2, .int x2), (3, .int x3), (4, .int x4), (5, .int x5), (6, .int x6), (7, .int (x7 + 1))] []) ∧ (¬ x7 = x3 → xCall d yX3_find cX3_find 7 (some .boolean) [.ref a0_finder, .ref a0_now, .int x1, .int x2, .int x3, .int x4, .int (1 <<< (x7 &&& 31))] μ ro (fun r4 μ5 => ∃ y6 : Int32, r4 = some (.int y6) ∧ ((y6 = 0 → ((x5 ≤ (-1) → J μ5 0 0 25 [(0, .ref a0), (1, .int x1), (2, .int x2), (3, .int x3), (4, .int x4), (5, .int x5), (6, .int x6), (7, .int (x7 + 1))] []) ∧ (¬ x5 ≤ (-1) → J μ5 0 0 25 [(0, .ref a0), (1, .int x1), (2, .int x2), (3, .int x3), (4, .int x4), (5, .int (-1)), (6, .int x7), (7, .int (x7 + 1))] []))) ∧ (¬ y6 = 0 → hS μ5 a0 = some (14, 18) ∧ ∃ finder_9 : Nat, hR μ5 a0 2 = some finder_9 ∧ hS μ5 finder_9 = some (7, 9) ∧ ∃ best_10 : Nat, hR μ5 finder_9 0 = some best_10 ∧ hS μ5 best_10 = some (13, 5) ∧ ((x5 ≤ (hI μ5 best_10 3) → J μ5 0 0 25 [(0, .ref a0), (1, .int x1), (2, .int x2), (3, .int x3), (4, .int x4), (5, .int x5), (6, .int x6), (7, .int (x7 + 1))] []) ∧ (¬ x5 ≤ (hI μ5 best_10 3) → J μ5 0 0 25 [(0, .ref a0), (1, .int x1), (2, .int x2), (3, .int x3), (4, .int x4), (5, .int (hI μ5 best_10 3)), (6, .int x7), (7, .int (x7 + 1))] [])))))))))))) :
    J μ 0 0 25 [(0, .ref a0), (1, .int x1), (2, .int x2), (3, .int x3), (4, .int x4), (5, .int x5), (6, .int x6), (7, .int x7)] [] := by
  refine r_iload g dX11_key_25 rfl ?_
  refine r_aload_n g dX11_key_27 rfl ?_
  refine r_getR g fX11_72 rfl hs_a0 hr_a0_book dX11_key_28 ?_
  refine r_getI g fX11_144 rfl hs_a0_book dX11_key_31 ?_
  refine r_icmp_ge g 113 dX11_key_34 (by decide) (fun c1 => ?_) (fun c1 => ?_)
  · replace h := h.1 c1
    refine r_iload g dX11_key_113 rfl ?_
    exact hr.2.1 _ rfl _ _ _ _ _ _ dX11_key_115 rfl (Nat.le_refl 0) (Nat.le_refl 0) h
  · replace h := h.2 c1
    refine r_iload g dX11_key_37 rfl ?_
    refine r_iload_n g dX11_key_39 rfl ?_
    refine r_icmp_eq g 107 dX11_key_40 (by decide) (fun c2 => ?_) (fun c2 => ?_)
    · replace h := h.1 c2
      refine r_iinc g (x7 + 1) [(7, .int (x7 + 1)), (0, .ref a0), (1, .int x1), (2, .int x2), (3, .int x3), (4, .int x4), (5, .int x5), (6, .int x6)] dX11_key_107 rfl rfl (by decide) rfl ?_
      refine r_goto g 25 dX11_key_110 (by decide) ?_
      refine r_sub g (lv' := [(0, .ref a0), (1, .int x1), (2, .int x2), (3, .int x3), (4, .int x4), (5, .int x5), (6, .int x6), (7, .int (x7 + 1))]) (⟨rfl, rfl, rfl, rfl, rfl, rfl, rfl, rfl, trivial⟩) ?_
      exact h
    · replace h := h.2 c2
      refine r_iload g dX11_key_43 rfl ?_
      refine r_iload_n g dX11_key_45 rfl ?_
      refine r_icmp_eq g 107 dX11_key_46 (by decide) (fun c3 => ?_) (fun c3 => ?_)
      · replace h := h.1 c3
        refine r_iinc g (x7 + 1) [(7, .int (x7 + 1)), (0, .ref a0), (1, .int x1), (2, .int x2), (3, .int x3), (4, .int x4), (5, .int x5), (6, .int x6)] dX11_key_107 rfl rfl (by decide) rfl ?_
        refine r_goto g 25 dX11_key_110 (by decide) ?_
        refine r_sub g (lv' := [(0, .ref a0), (1, .int x1), (2, .int x2), (3, .int x3), (4, .int x4), (5, .int x5), (6, .int x6), (7, .int (x7 + 1))]) (⟨rfl, rfl, rfl, rfl, rfl, rfl, rfl, rfl, trivial⟩) ?_
        exact h
      · replace h := h.2 c3
        refine r_aload_n g dX11_key_49 rfl ?_
        refine r_getR g fX11_25 rfl hs_a0 hr_a0_finder dX11_key_50 ?_
        refine r_aload_n g dX11_key_53 rfl ?_
        refine r_getR g fX11_96 rfl hs_a0 hr_a0_now dX11_key_54 ?_
        refine r_iload_n g dX11_key_57 rfl ?_
        refine r_iload_n g dX11_key_58 rfl ?_
        refine r_iload_n g dX11_key_59 rfl ?_
        refine r_iload g dX11_key_60 rfl ?_
        refine r_iconst g 1 dX11_key_62 (by decide) ?_
        refine r_iload g dX11_key_63 rfl ?_
        refine r_ishl g dX11_key_65 ?_
        obtain ⟨d1, Z1, hc1, hd1, h1⟩ := h
        refine r_callV (st := []) (As := [.ref a0_now, .int x1, .int x2, .int x3, .int x4, .int (1 <<< (x7 &&& 31))]) g sX11_247 iX3_find eX3_find rfl hs_a0_finder rfl (Nat.le_of_ble_eq_true rfl) dX11_key_66 hd1 (Nat.le_refl 0) (Nat.le_refl 0) hc1 (fun r4 μ5 hZ1 => ?_)
        replace h := h1 _ _ hZ1
        clear h1 hc1 hd1 hZ1 Z1 d1
        obtain ⟨y6, rfl, h⟩ := h
        refine r_istore g [(8, .int y6), (0, .ref a0), (1, .int x1), (2, .int x2), (3, .int x3), (4, .int x4), (5, .int x5), (6, .int x6), (7, .int x7)] dX11_key_69 (by decide) rfl ?_
        refine r_iload g dX11_key_71 rfl ?_
        refine r_if_eq g 89 dX11_key_73 (by decide) (fun c7 => ?_) (fun c7 => ?_)
        · replace h := h.1 c7
          refine r_iconst g (-1) dX11_key_89 (by decide) ?_
          refine r_istore g [(9, .int (-1)), (8, .int y6), (0, .ref a0), (1, .int x1), (2, .int x2), (3, .int x3), (4, .int x4), (5, .int x5), (6, .int x6), (7, .int x7)] dX11_key_90 (by decide) rfl ?_
          refine r_iload g dX11_key_92 rfl ?_
          refine r_iload g dX11_key_94 rfl ?_
          refine r_icmp_ge g 107 dX11_key_96 (by decide) (fun c8 => ?_) (fun c8 => ?_)
          · replace h := h.1 c8
            refine r_iinc g (x7 + 1) [(7, .int (x7 + 1)), (9, .int (-1)), (8, .int y6), (0, .ref a0), (1, .int x1), (2, .int x2), (3, .int x3), (4, .int x4), (5, .int x5), (6, .int x6)] dX11_key_107 rfl rfl (by decide) rfl ?_
            refine r_goto g 25 dX11_key_110 (by decide) ?_
            refine r_sub g (lv' := [(0, .ref a0), (1, .int x1), (2, .int x2), (3, .int x3), (4, .int x4), (5, .int x5), (6, .int x6), (7, .int (x7 + 1))]) (⟨rfl, rfl, rfl, rfl, rfl, rfl, rfl, rfl, trivial⟩) ?_
            exact h
          · replace h := h.2 c8
            refine r_iload g dX11_key_99 rfl ?_
            refine r_istore g [(5, .int (-1)), (9, .int (-1)), (8, .int y6), (0, .ref a0), (1, .int x1), (2, .int x2), (3, .int x3), (4, .int x4), (6, .int x6), (7, .int x7)] dX11_key_101 (by decide) rfl ?_
            refine r_iload g dX11_key_103 rfl ?_
            refine r_istore g [(6, .int x7), (5, .int (-1)), (9, .int (-1)), (8, .int y6), (0, .ref a0), (1, .int x1), (2, .int x2), (3, .int x3), (4, .int x4), (7, .int x7)] dX11_key_105 (by decide) rfl ?_
            refine r_iinc g (x7 + 1) [(7, .int (x7 + 1)), (6, .int x7), (5, .int (-1)), (9, .int (-1)), (8, .int y6), (0, .ref a0), (1, .int x1), (2, .int x2), (3, .int x3), (4, .int x4)] dX11_key_107 rfl rfl (by decide) rfl ?_
            refine r_goto g 25 dX11_key_110 (by decide) ?_
            refine r_sub g (lv' := [(0, .ref a0), (1, .int x1), (2, .int x2), (3, .int x3), (4, .int x4), (5, .int (-1)), (6, .int x7), (7, .int (x7 + 1))]) (⟨rfl, rfl, rfl, rfl, rfl, rfl, rfl, rfl, trivial⟩) ?_
            exact h
        · replace h := h.2 c7
          refine r_aload_n g dX11_key_76 rfl ?_
          obtain ⟨hs_a0_, h⟩ := h
          obtain ⟨finder_9, hr_finder_9, h⟩ := h
          refine r_getR g fX11_25 rfl hs_a0_ hr_finder_9 dX11_key_77 ?_
          obtain ⟨hs_finder_9, h⟩ := h
          obtain ⟨best_10, hr_best_10, h⟩ := h
          refine r_getR g fX11_251 rfl hs_finder_9 hr_best_10 dX11_key_80 ?_
          obtain ⟨hs_best_10, h⟩ := h
          refine r_getI g fX11_255 rfl hs_best_10 dX11_key_83 ?_
          refine r_goto g 90 dX11_key_86 (by decide) ?_
          refine r_istore g [(9, .int (hI μ5 best_10 3)), (8, .int y6), (0, .ref a0), (1, .int x1), (2, .int x2), (3, .int x3), (4, .int x4), (5, .int x5), (6, .int x6), (7, .int x7)] dX11_key_90 (by decide) rfl ?_
          refine r_iload g dX11_key_92 rfl ?_
          refine r_iload g dX11_key_94 rfl ?_
          refine r_icmp_ge g 107 dX11_key_96 (by decide) (fun c11 => ?_) (fun c11 => ?_)
          · replace h := h.1 c11
            refine r_iinc g (x7 + 1) [(7, .int (x7 + 1)), (9, .int (hI μ5 best_10 3)), (8, .int y6), (0, .ref a0), (1, .int x1), (2, .int x2), (3, .int x3), (4, .int x4), (5, .int x5), (6, .int x6)] dX11_key_107 rfl rfl (by decide) rfl ?_
            refine r_goto g 25 dX11_key_110 (by decide) ?_
            refine r_sub g (lv' := [(0, .ref a0), (1, .int x1), (2, .int x2), (3, .int x3), (4, .int x4), (5, .int x5), (6, .int x6), (7, .int (x7 + 1))]) (⟨rfl, rfl, rfl, rfl, rfl, rfl, rfl, rfl, trivial⟩) ?_
            exact h
          · replace h := h.2 c11
            refine r_iload g dX11_key_99 rfl ?_
            refine r_istore g [(5, .int (hI μ5 best_10 3)), (9, .int (hI μ5 best_10 3)), (8, .int y6), (0, .ref a0), (1, .int x1), (2, .int x2), (3, .int x3), (4, .int x4), (6, .int x6), (7, .int x7)] dX11_key_101 (by decide) rfl ?_
            refine r_iload g dX11_key_103 rfl ?_
            refine r_istore g [(6, .int x7), (5, .int (hI μ5 best_10 3)), (9, .int (hI μ5 best_10 3)), (8, .int y6), (0, .ref a0), (1, .int x1), (2, .int x2), (3, .int x3), (4, .int x4), (7, .int x7)] dX11_key_105 (by decide) rfl ?_
            refine r_iinc g (x7 + 1) [(7, .int (x7 + 1)), (6, .int x7), (5, .int (hI μ5 best_10 3)), (9, .int (hI μ5 best_10 3)), (8, .int y6), (0, .ref a0), (1, .int x1), (2, .int x2), (3, .int x3), (4, .int x4)] dX11_key_107 rfl rfl (by decide) rfl ?_
            refine r_goto g 25 dX11_key_110 (by decide) ?_
            refine r_sub g (lv' := [(0, .ref a0), (1, .int x1), (2, .int x2), (3, .int x3), (4, .int x4), (5, .int (hI μ5 best_10 3)), (6, .int x7), (7, .int (x7 + 1))]) (⟨rfl, rfl, rfl, rfl, rfl, rfl, rfl, rfl, trivial⟩) ?_
            exact h
theorem I_X11_key {d : Nat} {ro : Nat → Nat} {Z : Option Value → Hp → Prop} {μ : Hp} {a0 : Nat} {x1 : Int32} {x2 : Int32} {x3 : Int32} {x4 : Int32} (h : ∀ J, xCtx RX11 cX11_key 10 d 0 0 yX11_key.name ro J → xRet cX11_key (some .int) 0 0 Z J → J μ 0 0 0 [(0, .ref a0), (1, .int x1), (2, .int x2), (3, .int x3), (4, .int x4)] []) : xC d yX11_key cX11_key 10 (some .int) 0 0 [.ref a0, .int x1, .int x2, .int x3, .int x4] μ ro Z :=
  xC_intro (own := RX11) (lv := [(0, .ref a0), (1, .int x1), (2, .int x2), (3, .int x3), (4, .int x4)]) (by decide) rfl (Nat.le_of_ble_eq_true rfl) rfl (fun J g hr => r_sub g (lv' := [(0, .ref a0), (1, .int x1), (2, .int x2), (3, .int x3), (4, .int x4)]) (⟨rfl, rfl, rfl, rfl, rfl, trivial⟩) (h J g hr))
theorem dX11_lapsed_0 : decode cX11_lapsed 0 = .ok (.aload_n 0, 1) := by decide +kernel
theorem dX11_lapsed_1 : decode cX11_lapsed 1 = .ok (.getfield 72, 3) := by decide +kernel
theorem dX11_lapsed_4 : decode cX11_lapsed 4 = .ok (.iload 5, 2) := by decide +kernel
theorem dX11_lapsed_6 : decode cX11_lapsed 6 = .ok (.invokevirtual 147, 3) := by decide +kernel
theorem dX11_lapsed_9 : decode cX11_lapsed 9 = .ok (.ifCond .eq 34, 3) := by decide +kernel
theorem dX11_lapsed_12 : decode cX11_lapsed 12 = .ok (.aload_n 0, 1) := by decide +kernel
theorem dX11_lapsed_13 : decode cX11_lapsed 13 = .ok (.getfield 72, 3) := by decide +kernel
theorem dX11_lapsed_16 : decode cX11_lapsed 16 = .ok (.iload 6, 2) := by decide +kernel
theorem dX11_lapsed_18 : decode cX11_lapsed 18 = .ok (.invokevirtual 147, 3) := by decide +kernel
theorem dX11_lapsed_21 : decode cX11_lapsed 21 = .ok (.ifCond .eq 22, 3) := by decide +kernel
theorem dX11_lapsed_24 : decode cX11_lapsed 24 = .ok (.iload 5, 2) := by decide +kernel
theorem dX11_lapsed_26 : decode cX11_lapsed 26 = .ok (.iload 6, 2) := by decide +kernel
theorem dX11_lapsed_28 : decode cX11_lapsed 28 = .ok (.if_icmp .eq 15, 3) := by decide +kernel
theorem dX11_lapsed_31 : decode cX11_lapsed 31 = .ok (.aload_n 0, 1) := by decide +kernel
theorem dX11_lapsed_32 : decode cX11_lapsed 32 = .ok (.iload_n 1, 1) := by decide +kernel
theorem dX11_lapsed_33 : decode cX11_lapsed 33 = .ok (.iload_n 2, 1) := by decide +kernel
theorem dX11_lapsed_34 : decode cX11_lapsed 34 = .ok (.iload_n 3, 1) := by decide +kernel
theorem dX11_lapsed_35 : decode cX11_lapsed 35 = .ok (.iload 4, 2) := by decide +kernel
theorem dX11_lapsed_37 : decode cX11_lapsed 37 = .ok (.invokevirtual 243, 3) := by decide +kernel
theorem dX11_lapsed_40 : decode cX11_lapsed 40 = .ok (.ifCond .ne 5, 3) := by decide +kernel
theorem dX11_lapsed_43 : decode cX11_lapsed 43 = .ok (.iconst (-1), 1) := by decide +kernel
theorem dX11_lapsed_44 : decode cX11_lapsed 44 = .ok (.ireturn, 1) := by decide +kernel
theorem dX11_lapsed_45 : decode cX11_lapsed 45 = .ok (.aload_n 0, 1) := by decide +kernel
theorem dX11_lapsed_46 : decode cX11_lapsed 46 = .ok (.getfield 100, 3) := by decide +kernel
theorem dX11_lapsed_49 : decode cX11_lapsed 49 = .ok (.aload_n 0, 1) := by decide +kernel
theorem dX11_lapsed_50 : decode cX11_lapsed 50 = .ok (.getfield 96, 3) := by decide +kernel
theorem dX11_lapsed_53 : decode cX11_lapsed 53 = .ok (.invokevirtual 136, 3) := by decide +kernel
theorem dX11_lapsed_56 : decode cX11_lapsed 56 = .ok (.aload_n 0, 1) := by decide +kernel
theorem dX11_lapsed_57 : decode cX11_lapsed 57 = .ok (.getfield 100, 3) := by decide +kernel
theorem dX11_lapsed_60 : decode cX11_lapsed 60 = .ok (.iload 5, 2) := by decide +kernel
theorem dX11_lapsed_62 : decode cX11_lapsed 62 = .ok (.iload 6, 2) := by decide +kernel
theorem dX11_lapsed_64 : decode cX11_lapsed 64 = .ok (.invokevirtual 305, 3) := by decide +kernel
theorem dX11_lapsed_67 : decode cX11_lapsed 67 = .ok (.aload_n 0, 1) := by decide +kernel
theorem dX11_lapsed_68 : decode cX11_lapsed 68 = .ok (.aload_n 0, 1) := by decide +kernel
theorem dX11_lapsed_69 : decode cX11_lapsed 69 = .ok (.getfield 100, 3) := by decide +kernel
theorem dX11_lapsed_72 : decode cX11_lapsed 72 = .ok (.iload_n 1, 1) := by decide +kernel
theorem dX11_lapsed_73 : decode cX11_lapsed 73 = .ok (.iload_n 2, 1) := by decide +kernel
theorem dX11_lapsed_74 : decode cX11_lapsed 74 = .ok (.iload_n 3, 1) := by decide +kernel
theorem dX11_lapsed_75 : decode cX11_lapsed 75 = .ok (.iload 4, 2) := by decide +kernel
theorem dX11_lapsed_77 : decode cX11_lapsed 77 = .ok (.invokevirtual 297, 3) := by decide +kernel
theorem dX11_lapsed_80 : decode cX11_lapsed 80 = .ok (.ireturn, 1) := by decide +kernel
set_option maxHeartbeats 4000000 in
set_option maxRecDepth 100000 in
theorem B_X11_lapsed_0 {d : Nat} {ro : Nat → Nat} {J : JT} {Z : Option Value → Hp → Prop} (g : xCtx RX11 cX11_lapsed 7 d 0 0 yX11_lapsed.name ro J) (hr : xRet cX11_lapsed (some .int) 0 0 Z J) {μ : Hp} {a0 : Nat} {x1 : Int32} {x2 : Int32} {x3 : Int32} {x4 : Int32} {x5 : Int32} {x6 : Int32} {a0_book : Nat} (hs_a0 : hS μ a0 = some (14, 18)) (hr_a0_book : hR μ a0 13 = some a0_book) (hs_a0_book : hS μ a0_book = some (6, 9)) (hd9 : 1 ≤ d)
    (h : ((x5 < 0 → Z (some (.int (-1))) μ) ∧ (¬ x5 < 0 → (((hI μ a0_book 5) ≤ x5 → Z (some (.int (-1))) μ) ∧ (¬ (hI μ a0_book 5) ≤ x5 → ((x6 < 0 → Z (some (.int (-1))) μ) ∧ (¬ x6 < 0 → (((hI μ a0_book 5) ≤ x6 → Z (some (.int (-1))) μ) ∧ (¬ (hI μ a0_book 5) ≤ x6 → ((x5 = x6 → Z (some (.int (-1))) μ) ∧ (¬ x5 = x6 → xCall d yX11_isAsked cX11_isAsked 5 (some .boolean) [.ref a0, .int x1, .int x2, .int x3, .int x4] μ ro (fun r18 μ19 => ∃ y20 : Int32, r18 = some (.int y20) ∧ ((¬ y20 = 0 → hS μ19 a0 = some (14, 18) ∧ ∃ scratch_22 : Nat, hR μ19 a0 11 = some scratch_22 ∧ ∃ now_23 : Nat, hR μ19 a0 10 = some now_23 ∧ hS μ19 scratch_22 = some (12, 4) ∧ xCall d yX8_copyFrom cX8_copyFrom 2 none [.ref scratch_22, .ref now_23] μ19 ro (fun r24 μ25 => r24 = none ∧ hS μ25 a0 = some (14, 18) ∧ ∃ scratch_26 : Nat, hR μ25 a0 11 = some scratch_26 ∧ hS μ25 scratch_26 = some (12, 4) ∧ xCall d yX8_lapse cX8_lapse 3 none [.ref scratch_26, .int x5, .int x6] μ25 ro (fun r27 μ28 => r27 = none ∧ hS μ28 a0 = some (14, 18) ∧ ∃ scratch_29 : Nat, hR μ28 a0 11 = some scratch_29 ∧ xCall d yX11_arrivesIn cX11_arrivesIn 6 (some .int) [.ref a0, .ref scratch_29, .int x1, .int x2, .int x3, .int x4] μ28 ro (fun r30 μ31 => ∃ y32 : Int32, r30 = some (.int y32) ∧ Z (some (.int y32)) μ31)))) ∧ (y20 = 0 → Z (some (.int (-1))) μ19)))))))))))))) :
    J μ 0 0 0 [(0, .ref a0), (1, .int x1), (2, .int x2), (3, .int x3), (4, .int x4), (5, .int x5), (6, .int x6)] [] := by
  refine r_aload_n g dX11_lapsed_0 rfl ?_
  refine r_getR g fX11_72 rfl hs_a0 hr_a0_book dX11_lapsed_1 ?_
  refine r_iload g dX11_lapsed_4 rfl ?_
  by_cases c1 : x5 < 0
  · replace h := h.1 c1
    refine r_callV (st := []) (As := [.int x5]) g sX11_147 iX2_hasLand eX2_hasLand rfl hs_a0_book rfl (Nat.le_of_ble_eq_true rfl) dX11_lapsed_6 (by omega) (Nat.le_refl 0) (Nat.le_refl 0) (P_X2_hasLand_0 (d := d - 1) hs_a0_book c1) (fun r2 μ3 hZ1 => ?_)
    obtain ⟨rfl, e9⟩ := hZ1
    replace e9 := e9.symm
    subst e9
    refine r_if_eq g 43 dX11_lapsed_9 (by decide) (fun _ => ?_) (fun hz => absurd hz (by decide))
    refine r_iconst g (-1) dX11_lapsed_43 (by decide) ?_
    exact hr.2.1 _ rfl _ _ _ _ _ _ dX11_lapsed_44 rfl (Nat.le_refl 0) (Nat.le_refl 0) h
  · replace h := h.2 c1
    by_cases c4 : (hI μ a0_book 5) ≤ x5
    · replace h := h.1 c4
      refine r_callV (st := []) (As := [.int x5]) g sX11_147 iX2_hasLand eX2_hasLand rfl hs_a0_book rfl (Nat.le_of_ble_eq_true rfl) dX11_lapsed_6 (by omega) (Nat.le_refl 0) (Nat.le_refl 0) (P_X2_hasLand_1 (d := d - 1) hs_a0_book c1 c4) (fun r5 μ6 hZ1 => ?_)
      obtain ⟨rfl, e9⟩ := hZ1
      replace e9 := e9.symm
      subst e9
      refine r_if_eq g 43 dX11_lapsed_9 (by decide) (fun _ => ?_) (fun hz => absurd hz (by decide))
      refine r_iconst g (-1) dX11_lapsed_43 (by decide) ?_
      exact hr.2.1 _ rfl _ _ _ _ _ _ dX11_lapsed_44 rfl (Nat.le_refl 0) (Nat.le_refl 0) h
    · replace h := h.2 c4
      refine r_callV (st := []) (As := [.int x5]) g sX11_147 iX2_hasLand eX2_hasLand rfl hs_a0_book rfl (Nat.le_of_ble_eq_true rfl) dX11_lapsed_6 (by omega) (Nat.le_refl 0) (Nat.le_refl 0) (P_X2_hasLand_2 (d := d - 1) hs_a0_book c1 c4) (fun r7 μ8 hZ1 => ?_)
      obtain ⟨rfl, e9⟩ := hZ1
      replace e9 := e9.symm
      subst e9
      refine r_if_eq g 43 dX11_lapsed_9 (by decide) (fun hz => absurd hz (by decide)) (fun _ => ?_)
      refine r_aload_n g dX11_lapsed_12 rfl ?_
      refine r_getR g fX11_72 rfl hs_a0 hr_a0_book dX11_lapsed_13 ?_
      refine r_iload g dX11_lapsed_16 rfl ?_
      by_cases c9 : x6 < 0
      · replace h := h.1 c9
        refine r_callV (st := []) (As := [.int x6]) g sX11_147 iX2_hasLand eX2_hasLand rfl hs_a0_book rfl (Nat.le_of_ble_eq_true rfl) dX11_lapsed_18 (by omega) (Nat.le_refl 0) (Nat.le_refl 0) (P_X2_hasLand_0 (d := d - 1) hs_a0_book c9) (fun r10 μ11 hZ1 => ?_)
        obtain ⟨rfl, e9⟩ := hZ1
        replace e9 := e9.symm
        subst e9
        refine r_if_eq g 43 dX11_lapsed_21 (by decide) (fun _ => ?_) (fun hz => absurd hz (by decide))
        refine r_iconst g (-1) dX11_lapsed_43 (by decide) ?_
        exact hr.2.1 _ rfl _ _ _ _ _ _ dX11_lapsed_44 rfl (Nat.le_refl 0) (Nat.le_refl 0) h
      · replace h := h.2 c9
        by_cases c12 : (hI μ a0_book 5) ≤ x6
        · replace h := h.1 c12
          refine r_callV (st := []) (As := [.int x6]) g sX11_147 iX2_hasLand eX2_hasLand rfl hs_a0_book rfl (Nat.le_of_ble_eq_true rfl) dX11_lapsed_18 (by omega) (Nat.le_refl 0) (Nat.le_refl 0) (P_X2_hasLand_1 (d := d - 1) hs_a0_book c9 c12) (fun r13 μ14 hZ1 => ?_)
          obtain ⟨rfl, e9⟩ := hZ1
          replace e9 := e9.symm
          subst e9
          refine r_if_eq g 43 dX11_lapsed_21 (by decide) (fun _ => ?_) (fun hz => absurd hz (by decide))
          refine r_iconst g (-1) dX11_lapsed_43 (by decide) ?_
          exact hr.2.1 _ rfl _ _ _ _ _ _ dX11_lapsed_44 rfl (Nat.le_refl 0) (Nat.le_refl 0) h
        · replace h := h.2 c12
          refine r_callV (st := []) (As := [.int x6]) g sX11_147 iX2_hasLand eX2_hasLand rfl hs_a0_book rfl (Nat.le_of_ble_eq_true rfl) dX11_lapsed_18 (by omega) (Nat.le_refl 0) (Nat.le_refl 0) (P_X2_hasLand_2 (d := d - 1) hs_a0_book c9 c12) (fun r15 μ16 hZ1 => ?_)
          obtain ⟨rfl, e9⟩ := hZ1
          replace e9 := e9.symm
          subst e9
          refine r_if_eq g 43 dX11_lapsed_21 (by decide) (fun hz => absurd hz (by decide)) (fun _ => ?_)
          refine r_iload g dX11_lapsed_24 rfl ?_
          refine r_iload g dX11_lapsed_26 rfl ?_
          refine r_icmp_eq g 43 dX11_lapsed_28 (by decide) (fun c17 => ?_) (fun c17 => ?_)
          · replace h := h.1 c17
            refine r_iconst g (-1) dX11_lapsed_43 (by decide) ?_
            exact hr.2.1 _ rfl _ _ _ _ _ _ dX11_lapsed_44 rfl (Nat.le_refl 0) (Nat.le_refl 0) h
          · replace h := h.2 c17
            refine r_aload_n g dX11_lapsed_31 rfl ?_
            refine r_iload_n g dX11_lapsed_32 rfl ?_
            refine r_iload_n g dX11_lapsed_33 rfl ?_
            refine r_iload_n g dX11_lapsed_34 rfl ?_
            refine r_iload g dX11_lapsed_35 rfl ?_
            obtain ⟨d1, Z1, hc1, hd1, h1⟩ := h
            refine r_callV (st := []) (As := [.int x1, .int x2, .int x3, .int x4]) g sX11_243 iX11_isAsked eX11_isAsked rfl hs_a0 rfl (Nat.le_of_ble_eq_true rfl) dX11_lapsed_37 hd1 (Nat.le_refl 0) (Nat.le_refl 0) hc1 (fun r18 μ19 hZ1 => ?_)
            replace h := h1 _ _ hZ1
            clear h1 hc1 hd1 hZ1 Z1 d1
            obtain ⟨y20, rfl, h⟩ := h
            refine r_if_ne g 45 dX11_lapsed_40 (by decide) (fun c21 => ?_) (fun c21 => ?_)
            · replace h := h.1 c21
              refine r_aload_n g dX11_lapsed_45 rfl ?_
              obtain ⟨hs_a0_, h⟩ := h
              obtain ⟨scratch_22, hr_scratch_22, h⟩ := h
              refine r_getR g fX11_100 rfl hs_a0_ hr_scratch_22 dX11_lapsed_46 ?_
              refine r_aload_n g dX11_lapsed_49 rfl ?_
              obtain ⟨now_23, hr_now_23, h⟩ := h
              refine r_getR g fX11_96 rfl hs_a0_ hr_now_23 dX11_lapsed_50 ?_
              obtain ⟨hs_scratch_22, h⟩ := h
              obtain ⟨d1, Z1, hc1, hd1, h1⟩ := h
              refine r_callV (st := []) (As := [.ref now_23]) g sX11_136 iX8_copyFrom eX8_copyFrom rfl hs_scratch_22 rfl (Nat.le_of_ble_eq_true rfl) dX11_lapsed_53 hd1 (Nat.le_refl 0) (Nat.le_refl 0) hc1 (fun r24 μ25 hZ1 => ?_)
              replace h := h1 _ _ hZ1
              clear h1 hc1 hd1 hZ1 Z1 d1
              obtain ⟨rfl, h⟩ := h
              refine r_aload_n g dX11_lapsed_56 rfl ?_
              obtain ⟨hs_a0__, h⟩ := h
              obtain ⟨scratch_26, hr_scratch_26, h⟩ := h
              refine r_getR g fX11_100 rfl hs_a0__ hr_scratch_26 dX11_lapsed_57 ?_
              refine r_iload g dX11_lapsed_60 rfl ?_
              refine r_iload g dX11_lapsed_62 rfl ?_
              obtain ⟨hs_scratch_26, h⟩ := h
              obtain ⟨d1, Z1, hc1, hd1, h1⟩ := h
              refine r_callV (st := []) (As := [.int x5, .int x6]) g sX11_305 iX8_lapse eX8_lapse rfl hs_scratch_26 rfl (Nat.le_of_ble_eq_true rfl) dX11_lapsed_64 hd1 (Nat.le_refl 0) (Nat.le_refl 0) hc1 (fun r27 μ28 hZ1 => ?_)
              replace h := h1 _ _ hZ1
              clear h1 hc1 hd1 hZ1 Z1 d1
              obtain ⟨rfl, h⟩ := h
              refine r_aload_n g dX11_lapsed_67 rfl ?_
              refine r_aload_n g dX11_lapsed_68 rfl ?_
              obtain ⟨hs_a0___, h⟩ := h
              obtain ⟨scratch_29, hr_scratch_29, h⟩ := h
              refine r_getR g fX11_100 rfl hs_a0___ hr_scratch_29 dX11_lapsed_69 ?_
              refine r_iload_n g dX11_lapsed_72 rfl ?_
              refine r_iload_n g dX11_lapsed_73 rfl ?_
              refine r_iload_n g dX11_lapsed_74 rfl ?_
              refine r_iload g dX11_lapsed_75 rfl ?_
              obtain ⟨d1, Z1, hc1, hd1, h1⟩ := h
              refine r_callV (st := []) (As := [.ref scratch_29, .int x1, .int x2, .int x3, .int x4]) g sX11_297 iX11_arrivesIn eX11_arrivesIn rfl hs_a0___ rfl (Nat.le_of_ble_eq_true rfl) dX11_lapsed_77 hd1 (Nat.le_refl 0) (Nat.le_refl 0) hc1 (fun r30 μ31 hZ1 => ?_)
              replace h := h1 _ _ hZ1
              clear h1 hc1 hd1 hZ1 Z1 d1
              obtain ⟨y32, rfl, h⟩ := h
              exact hr.2.1 _ rfl _ _ _ _ _ _ dX11_lapsed_80 rfl (Nat.le_refl 0) (Nat.le_refl 0) h
            · replace h := h.2 c21
              refine r_iconst g (-1) dX11_lapsed_43 (by decide) ?_
              exact hr.2.1 _ rfl _ _ _ _ _ _ dX11_lapsed_44 rfl (Nat.le_refl 0) (Nat.le_refl 0) h
theorem I_X11_lapsed {d : Nat} {ro : Nat → Nat} {Z : Option Value → Hp → Prop} {μ : Hp} {a0 : Nat} {x1 : Int32} {x2 : Int32} {x3 : Int32} {x4 : Int32} {x5 : Int32} {x6 : Int32} (h : ∀ J, xCtx RX11 cX11_lapsed 7 d 0 0 yX11_lapsed.name ro J → xRet cX11_lapsed (some .int) 0 0 Z J → J μ 0 0 0 [(0, .ref a0), (1, .int x1), (2, .int x2), (3, .int x3), (4, .int x4), (5, .int x5), (6, .int x6)] []) : xC d yX11_lapsed cX11_lapsed 7 (some .int) 0 0 [.ref a0, .int x1, .int x2, .int x3, .int x4, .int x5, .int x6] μ ro Z :=
  xC_intro (own := RX11) (lv := [(0, .ref a0), (1, .int x1), (2, .int x2), (3, .int x3), (4, .int x4), (5, .int x5), (6, .int x6)]) (by decide) rfl (Nat.le_of_ble_eq_true rfl) rfl (fun J g hr => r_sub g (lv' := [(0, .ref a0), (1, .int x1), (2, .int x2), (3, .int x3), (4, .int x4), (5, .int x5), (6, .int x6)]) (⟨rfl, rfl, rfl, rfl, rfl, rfl, rfl, trivial⟩) (h J g hr))
theorem dX11_soon_0 : decode cX11_soon 0 = .ok (.aload_n 0, 1) := by decide +kernel
theorem dX11_soon_1 : decode cX11_soon 1 = .ok (.iload_n 1, 1) := by decide +kernel
theorem dX11_soon_2 : decode cX11_soon 2 = .ok (.iload_n 2, 1) := by decide +kernel
theorem dX11_soon_3 : decode cX11_soon 3 = .ok (.iload_n 3, 1) := by decide +kernel
theorem dX11_soon_4 : decode cX11_soon 4 = .ok (.iload 4, 2) := by decide +kernel
theorem dX11_soon_6 : decode cX11_soon 6 = .ok (.invokevirtual 243, 3) := by decide +kernel
theorem dX11_soon_9 : decode cX11_soon 9 = .ok (.ifCond .ne 5, 3) := by decide +kernel
theorem dX11_soon_12 : decode cX11_soon 12 = .ok (.iconst (-1), 1) := by decide +kernel
theorem dX11_soon_13 : decode cX11_soon 13 = .ok (.ireturn, 1) := by decide +kernel
theorem dX11_soon_14 : decode cX11_soon 14 = .ok (.aload_n 0, 1) := by decide +kernel
theorem dX11_soon_15 : decode cX11_soon 15 = .ok (.getfield 100, 3) := by decide +kernel
theorem dX11_soon_18 : decode cX11_soon 18 = .ok (.aload_n 0, 1) := by decide +kernel
theorem dX11_soon_19 : decode cX11_soon 19 = .ok (.getfield 96, 3) := by decide +kernel
theorem dX11_soon_22 : decode cX11_soon 22 = .ok (.invokevirtual 136, 3) := by decide +kernel
theorem dX11_soon_25 : decode cX11_soon 25 = .ok (.iconst (-1), 1) := by decide +kernel
theorem dX11_soon_26 : decode cX11_soon 26 = .ok (.istore 5, 2) := by decide +kernel
theorem dX11_soon_28 : decode cX11_soon 28 = .ok (.iconst (-1), 1) := by decide +kernel
theorem dX11_soon_29 : decode cX11_soon 29 = .ok (.istore 6, 2) := by decide +kernel
theorem dX11_soon_31 : decode cX11_soon 31 = .ok (.aload_n 0, 1) := by decide +kernel
theorem dX11_soon_32 : decode cX11_soon 32 = .ok (.getfield 96, 3) := by decide +kernel
theorem dX11_soon_35 : decode cX11_soon 35 = .ok (.getfield 151, 3) := by decide +kernel
theorem dX11_soon_38 : decode cX11_soon 38 = .ok (.iconst 0, 1) := by decide +kernel
theorem dX11_soon_39 : decode cX11_soon 39 = .ok (.iaload, 1) := by decide +kernel
theorem dX11_soon_40 : decode cX11_soon 40 = .ok (.bipush 20, 2) := by decide +kernel
theorem dX11_soon_42 : decode cX11_soon 42 = .ok (.iadd, 1) := by decide +kernel
theorem dX11_soon_43 : decode cX11_soon 43 = .ok (.sipush 199, 3) := by decide +kernel
theorem dX11_soon_46 : decode cX11_soon 46 = .ok (.invokestatic 309, 3) := by decide +kernel
theorem dX11_soon_49 : decode cX11_soon 49 = .ok (.istore 7, 2) := by decide +kernel
theorem dX11_soon_51 : decode cX11_soon 51 = .ok (.aload_n 0, 1) := by decide +kernel
theorem dX11_soon_52 : decode cX11_soon 52 = .ok (.getfield 96, 3) := by decide +kernel
theorem dX11_soon_55 : decode cX11_soon 55 = .ok (.getfield 151, 3) := by decide +kernel
theorem dX11_soon_58 : decode cX11_soon 58 = .ok (.iconst 0, 1) := by decide +kernel
theorem dX11_soon_59 : decode cX11_soon 59 = .ok (.iaload, 1) := by decide +kernel
theorem dX11_soon_60 : decode cX11_soon 60 = .ok (.istore 8, 2) := by decide +kernel
theorem dX11_soon_62 : decode cX11_soon 62 = .ok (.iload 8, 2) := by decide +kernel
theorem dX11_soon_64 : decode cX11_soon 64 = .ok (.iload 7, 2) := by decide +kernel
theorem dX11_soon_66 : decode cX11_soon 66 = .ok (.if_icmp .gt 50, 3) := by decide +kernel
theorem dX11_soon_69 : decode cX11_soon 69 = .ok (.aload_n 0, 1) := by decide +kernel
theorem dX11_soon_70 : decode cX11_soon 70 = .ok (.getfield 100, 3) := by decide +kernel
theorem dX11_soon_73 : decode cX11_soon 73 = .ok (.getfield 151, 3) := by decide +kernel
theorem dX11_soon_76 : decode cX11_soon 76 = .ok (.iconst 0, 1) := by decide +kernel
theorem dX11_soon_77 : decode cX11_soon 77 = .ok (.iload 8, 2) := by decide +kernel
theorem dX11_soon_79 : decode cX11_soon 79 = .ok (.iastore, 1) := by decide +kernel
theorem dX11_soon_80 : decode cX11_soon 80 = .ok (.aload_n 0, 1) := by decide +kernel
theorem dX11_soon_81 : decode cX11_soon 81 = .ok (.aload_n 0, 1) := by decide +kernel
theorem dX11_soon_82 : decode cX11_soon 82 = .ok (.getfield 100, 3) := by decide +kernel
theorem dX11_soon_85 : decode cX11_soon 85 = .ok (.iload_n 1, 1) := by decide +kernel
theorem dX11_soon_86 : decode cX11_soon 86 = .ok (.iload_n 2, 1) := by decide +kernel
theorem dX11_soon_87 : decode cX11_soon 87 = .ok (.iload_n 3, 1) := by decide +kernel
theorem dX11_soon_88 : decode cX11_soon 88 = .ok (.iload 4, 2) := by decide +kernel
theorem dX11_soon_90 : decode cX11_soon 90 = .ok (.invokevirtual 297, 3) := by decide +kernel
theorem dX11_soon_93 : decode cX11_soon 93 = .ok (.istore 9, 2) := by decide +kernel
theorem dX11_soon_95 : decode cX11_soon 95 = .ok (.iload 9, 2) := by decide +kernel
theorem dX11_soon_97 : decode cX11_soon 97 = .ok (.iload 5, 2) := by decide +kernel
theorem dX11_soon_99 : decode cX11_soon 99 = .ok (.if_icmp .le 11, 3) := by decide +kernel
theorem dX11_soon_102 : decode cX11_soon 102 = .ok (.iload 9, 2) := by decide +kernel
theorem dX11_soon_104 : decode cX11_soon 104 = .ok (.istore 5, 2) := by decide +kernel
theorem dX11_soon_106 : decode cX11_soon 106 = .ok (.iload 8, 2) := by decide +kernel
theorem dX11_soon_108 : decode cX11_soon 108 = .ok (.istore 6, 2) := by decide +kernel
theorem dX11_soon_110 : decode cX11_soon 110 = .ok (.iinc 8 1, 3) := by decide +kernel
theorem dX11_soon_113 : decode cX11_soon 113 = .ok (.goto (-51), 3) := by decide +kernel
theorem dX11_soon_116 : decode cX11_soon 116 = .ok (.iload 6, 2) := by decide +kernel
theorem dX11_soon_118 : decode cX11_soon 118 = .ok (.ireturn, 1) := by decide +kernel
set_option maxHeartbeats 4000000 in
set_option maxRecDepth 100000 in
theorem B_X11_soon_0 {d : Nat} {ro : Nat → Nat} {J : JT} {Z : Option Value → Hp → Prop} (g : xCtx RX11 cX11_soon 10 d 0 0 yX11_soon.name ro J) (hr : xRet cX11_soon (some .int) 0 0 Z J) {μ : Hp} {a0 : Nat} {x1 : Int32} {x2 : Int32} {x3 : Int32} {x4 : Int32} (hs_a0 : hS μ a0 = some (14, 18)) (hd9 : 1 ≤ d)
    (h : xCall d yX11_isAsked cX11_isAsked 5 (some .boolean) [.ref a0, .int x1, .int x2, .int x3, .int x4] μ ro (fun r1 μ2 => ∃ y3 : Int32, r1 = some (.int y3) ∧ ((¬ y3 = 0 → hS μ2 a0 = some (14, 18) ∧ ∃ scratch_5 : Nat, hR μ2 a0 11 = some scratch_5 ∧ ∃ now_6 : Nat, hR μ2 a0 10 = some now_6 ∧ hS μ2 scratch_5 = some (12, 4) ∧ xCall d yX8_copyFrom cX8_copyFrom 2 none [.ref scratch_5, .ref now_6] μ2 ro (fun r7 μ8 => r7 = none ∧ hS μ8 a0 = some (14, 18) ∧ ∃ now_9 : Nat, hR μ8 a0 10 = some now_9 ∧ hS μ8 now_9 = some (12, 4) ∧ ∃ row_10 : Nat, hR μ8 now_9 0 = some row_10 ∧ ∃ N11 : Nat, hS μ8 row_10 = some (0, N11) ∧ vp_in 0 N11 ∧ (∀ v13 : Int32, v13 = (if 199 < ((hI μ8 row_10 0) + 20) then 199 else ((hI μ8 row_10 0) + 20)) → J μ8 0 0 62 [(0, .ref a0), (1, .int x1), (2, .int x2), (3, .int x3), (4, .int x4), (5, .int (-1)), (6, .int (-1)), (7, .int v13), (8, .int (hI μ8 row_10 0))] []))) ∧ (y3 = 0 → Z (some (.int (-1))) μ2)))) :
    J μ 0 0 0 [(0, .ref a0), (1, .int x1), (2, .int x2), (3, .int x3), (4, .int x4)] [] := by
  refine r_aload_n g dX11_soon_0 rfl ?_
  refine r_iload_n g dX11_soon_1 rfl ?_
  refine r_iload_n g dX11_soon_2 rfl ?_
  refine r_iload_n g dX11_soon_3 rfl ?_
  refine r_iload g dX11_soon_4 rfl ?_
  obtain ⟨d1, Z1, hc1, hd1, h1⟩ := h
  refine r_callV (st := []) (As := [.int x1, .int x2, .int x3, .int x4]) g sX11_243 iX11_isAsked eX11_isAsked rfl hs_a0 rfl (Nat.le_of_ble_eq_true rfl) dX11_soon_6 hd1 (Nat.le_refl 0) (Nat.le_refl 0) hc1 (fun r1 μ2 hZ1 => ?_)
  replace h := h1 _ _ hZ1
  clear h1 hc1 hd1 hZ1 Z1 d1
  obtain ⟨y3, rfl, h⟩ := h
  refine r_if_ne g 14 dX11_soon_9 (by decide) (fun c4 => ?_) (fun c4 => ?_)
  · replace h := h.1 c4
    refine r_aload_n g dX11_soon_14 rfl ?_
    obtain ⟨hs_a0_, h⟩ := h
    obtain ⟨scratch_5, hr_scratch_5, h⟩ := h
    refine r_getR g fX11_100 rfl hs_a0_ hr_scratch_5 dX11_soon_15 ?_
    refine r_aload_n g dX11_soon_18 rfl ?_
    obtain ⟨now_6, hr_now_6, h⟩ := h
    refine r_getR g fX11_96 rfl hs_a0_ hr_now_6 dX11_soon_19 ?_
    obtain ⟨hs_scratch_5, h⟩ := h
    obtain ⟨d1, Z1, hc1, hd1, h1⟩ := h
    refine r_callV (st := []) (As := [.ref now_6]) g sX11_136 iX8_copyFrom eX8_copyFrom rfl hs_scratch_5 rfl (Nat.le_of_ble_eq_true rfl) dX11_soon_22 hd1 (Nat.le_refl 0) (Nat.le_refl 0) hc1 (fun r7 μ8 hZ1 => ?_)
    replace h := h1 _ _ hZ1
    clear h1 hc1 hd1 hZ1 Z1 d1
    obtain ⟨rfl, h⟩ := h
    refine r_iconst g (-1) dX11_soon_25 (by decide) ?_
    refine r_istore g [(5, .int (-1)), (0, .ref a0), (1, .int x1), (2, .int x2), (3, .int x3), (4, .int x4)] dX11_soon_26 (by decide) rfl ?_
    refine r_iconst g (-1) dX11_soon_28 (by decide) ?_
    refine r_istore g [(6, .int (-1)), (5, .int (-1)), (0, .ref a0), (1, .int x1), (2, .int x2), (3, .int x3), (4, .int x4)] dX11_soon_29 (by decide) rfl ?_
    refine r_aload_n g dX11_soon_31 rfl ?_
    obtain ⟨hs_a0__, h⟩ := h
    obtain ⟨now_9, hr_now_9, h⟩ := h
    refine r_getR g fX11_96 rfl hs_a0__ hr_now_9 dX11_soon_32 ?_
    obtain ⟨hs_now_9, h⟩ := h
    obtain ⟨row_10, hr_row_10, h⟩ := h
    refine r_getR g fX11_151 rfl hs_now_9 hr_row_10 dX11_soon_35 ?_
    refine r_iconst g 0 dX11_soon_38 (by decide) ?_
    obtain ⟨N11, hs_row_10, h⟩ := h
    obtain ⟨hi12, h⟩ := h
    refine r_iaload g hs_row_10 hi12 dX11_soon_39 ?_
    refine r_bipush g 20 dX11_soon_40 (by decide) ?_
    refine r_iadd g dX11_soon_42 ?_
    refine r_sipush g 199 dX11_soon_43 (by decide) ?_
    refine r_mmin g tX11_309 hd9 (Nat.le_refl 0) (Nat.le_refl 0) (Nat.le_of_ble_eq_true rfl) dX11_soon_46 ?_
    refine r_nmI (fun v13 ev13 => ?_)
    replace h := h v13 ev13
    refine r_istore g [(7, .int v13), (6, .int (-1)), (5, .int (-1)), (0, .ref a0), (1, .int x1), (2, .int x2), (3, .int x3), (4, .int x4)] dX11_soon_49 (by decide) rfl ?_
    refine r_aload_n g dX11_soon_51 rfl ?_
    refine r_getR g fX11_96 rfl hs_a0__ hr_now_9 dX11_soon_52 ?_
    refine r_getR g fX11_151 rfl hs_now_9 hr_row_10 dX11_soon_55 ?_
    refine r_iconst g 0 dX11_soon_58 (by decide) ?_
    refine r_iaload g hs_row_10 hi12 dX11_soon_59 ?_
    refine r_istore g [(8, .int (hI μ8 row_10 0)), (7, .int v13), (6, .int (-1)), (5, .int (-1)), (0, .ref a0), (1, .int x1), (2, .int x2), (3, .int x3), (4, .int x4)] dX11_soon_60 (by decide) rfl ?_
    refine r_sub g (lv' := [(0, .ref a0), (1, .int x1), (2, .int x2), (3, .int x3), (4, .int x4), (5, .int (-1)), (6, .int (-1)), (7, .int v13), (8, .int (hI μ8 row_10 0))]) (⟨rfl, rfl, rfl, rfl, rfl, rfl, rfl, rfl, rfl, trivial⟩) ?_
    exact h
  · replace h := h.2 c4
    refine r_iconst g (-1) dX11_soon_12 (by decide) ?_
    exact hr.2.1 _ rfl _ _ _ _ _ _ dX11_soon_13 rfl (Nat.le_refl 0) (Nat.le_refl 0) h
set_option maxHeartbeats 4000000 in
set_option maxRecDepth 100000 in
theorem B_X11_soon_62 {d : Nat} {ro : Nat → Nat} {J : JT} {Z : Option Value → Hp → Prop} (g : xCtx RX11 cX11_soon 10 d 0 0 yX11_soon.name ro J) (hr : xRet cX11_soon (some .int) 0 0 Z J) {μ : Hp} {a0 : Nat} {x1 : Int32} {x2 : Int32} {x3 : Int32} {x4 : Int32} {x5 : Int32} {x6 : Int32} {x7 : Int32} {x8 : Int32} {a0_scratch : Nat} {a0_scratch_row : Nat} {N_a0_scratch_row : Nat} (hs_a0 : hS μ a0 = some (14, 18)) (hr_a0_scratch : hR μ a0 11 = some a0_scratch) (hs_a0_scratch : hS μ a0_scratch = some (12, 4)) (hr_a0_scratch_row : hR μ a0_scratch 0 = some a0_scratch_row) (hs_a0_scratch_row : hS μ a0_scratch_row = some (0, N_a0_scratch_row))
    (h : ((x7 < x8 → Z (some (.int x6)) μ) ∧ (¬ x7 < x8 → vp_in 0 N_a0_scratch_row ∧ xCall d yX11_arrivesIn cX11_arrivesIn 6 (some .int) [.ref a0, .ref a0_scratch, .int x1, .int x2, .int x3, .int x4] (wI μ a0_scratch_row 0 x8) ro (fun r3 μ4 => ∃ y5 : Int32, r3 = some (.int y5) ∧ ((y5 ≤ x5 → J μ4 0 0 62 [(0, .ref a0), (1, .int x1), (2, .int x2), (3, .int x3), (4, .int x4), (5, .int x5), (6, .int x6), (7, .int x7), (8, .int (x8 + 1))] []) ∧ (¬ y5 ≤ x5 → J μ4 0 0 62 [(0, .ref a0), (1, .int x1), (2, .int x2), (3, .int x3), (4, .int x4), (5, .int y5), (6, .int x8), (7, .int x7), (8, .int (x8 + 1))] [])))))) :
    J μ 0 0 62 [(0, .ref a0), (1, .int x1), (2, .int x2), (3, .int x3), (4, .int x4), (5, .int x5), (6, .int x6), (7, .int x7), (8, .int x8)] [] := by
  refine r_iload g dX11_soon_62 rfl ?_
  refine r_iload g dX11_soon_64 rfl ?_
  refine r_icmp_gt g 116 dX11_soon_66 (by decide) (fun c1 => ?_) (fun c1 => ?_)
  · replace h := h.1 c1
    refine r_iload g dX11_soon_116 rfl ?_
    exact hr.2.1 _ rfl _ _ _ _ _ _ dX11_soon_118 rfl (Nat.le_refl 0) (Nat.le_refl 0) h
  · replace h := h.2 c1
    refine r_aload_n g dX11_soon_69 rfl ?_
    refine r_getR g fX11_100 rfl hs_a0 hr_a0_scratch dX11_soon_70 ?_
    refine r_getR g fX11_151 rfl hs_a0_scratch hr_a0_scratch_row dX11_soon_73 ?_
    refine r_iconst g 0 dX11_soon_76 (by decide) ?_
    refine r_iload g dX11_soon_77 rfl ?_
    obtain ⟨hi2, h⟩ := h
    refine r_iastore g hs_a0_scratch_row hi2 dX11_soon_79 ?_
    refine r_aload_n g dX11_soon_80 rfl ?_
    refine r_aload_n g dX11_soon_81 rfl ?_
    refine r_getR g fX11_100 rfl hs_a0 hr_a0_scratch dX11_soon_82 ?_
    refine r_iload_n g dX11_soon_85 rfl ?_
    refine r_iload_n g dX11_soon_86 rfl ?_
    refine r_iload_n g dX11_soon_87 rfl ?_
    refine r_iload g dX11_soon_88 rfl ?_
    obtain ⟨d1, Z1, hc1, hd1, h1⟩ := h
    refine r_callV (st := []) (As := [.ref a0_scratch, .int x1, .int x2, .int x3, .int x4]) g sX11_297 iX11_arrivesIn eX11_arrivesIn rfl hs_a0 rfl (Nat.le_of_ble_eq_true rfl) dX11_soon_90 hd1 (Nat.le_refl 0) (Nat.le_refl 0) hc1 (fun r3 μ4 hZ1 => ?_)
    replace h := h1 _ _ hZ1
    clear h1 hc1 hd1 hZ1 Z1 d1
    obtain ⟨y5, rfl, h⟩ := h
    refine r_istore g [(9, .int y5), (0, .ref a0), (1, .int x1), (2, .int x2), (3, .int x3), (4, .int x4), (5, .int x5), (6, .int x6), (7, .int x7), (8, .int x8)] dX11_soon_93 (by decide) rfl ?_
    refine r_iload g dX11_soon_95 rfl ?_
    refine r_iload g dX11_soon_97 rfl ?_
    refine r_icmp_le g 110 dX11_soon_99 (by decide) (fun c6 => ?_) (fun c6 => ?_)
    · replace h := h.1 c6
      refine r_iinc g (x8 + 1) [(8, .int (x8 + 1)), (9, .int y5), (0, .ref a0), (1, .int x1), (2, .int x2), (3, .int x3), (4, .int x4), (5, .int x5), (6, .int x6), (7, .int x7)] dX11_soon_110 rfl rfl (by decide) rfl ?_
      refine r_goto g 62 dX11_soon_113 (by decide) ?_
      refine r_sub g (lv' := [(0, .ref a0), (1, .int x1), (2, .int x2), (3, .int x3), (4, .int x4), (5, .int x5), (6, .int x6), (7, .int x7), (8, .int (x8 + 1))]) (⟨rfl, rfl, rfl, rfl, rfl, rfl, rfl, rfl, rfl, trivial⟩) ?_
      exact h
    · replace h := h.2 c6
      refine r_iload g dX11_soon_102 rfl ?_
      refine r_istore g [(5, .int y5), (9, .int y5), (0, .ref a0), (1, .int x1), (2, .int x2), (3, .int x3), (4, .int x4), (6, .int x6), (7, .int x7), (8, .int x8)] dX11_soon_104 (by decide) rfl ?_
      refine r_iload g dX11_soon_106 rfl ?_
      refine r_istore g [(6, .int x8), (5, .int y5), (9, .int y5), (0, .ref a0), (1, .int x1), (2, .int x2), (3, .int x3), (4, .int x4), (7, .int x7), (8, .int x8)] dX11_soon_108 (by decide) rfl ?_
      refine r_iinc g (x8 + 1) [(8, .int (x8 + 1)), (6, .int x8), (5, .int y5), (9, .int y5), (0, .ref a0), (1, .int x1), (2, .int x2), (3, .int x3), (4, .int x4), (7, .int x7)] dX11_soon_110 rfl rfl (by decide) rfl ?_
      refine r_goto g 62 dX11_soon_113 (by decide) ?_
      refine r_sub g (lv' := [(0, .ref a0), (1, .int x1), (2, .int x2), (3, .int x3), (4, .int x4), (5, .int y5), (6, .int x8), (7, .int x7), (8, .int (x8 + 1))]) (⟨rfl, rfl, rfl, rfl, rfl, rfl, rfl, rfl, rfl, trivial⟩) ?_
      exact h
theorem I_X11_soon {d : Nat} {ro : Nat → Nat} {Z : Option Value → Hp → Prop} {μ : Hp} {a0 : Nat} {x1 : Int32} {x2 : Int32} {x3 : Int32} {x4 : Int32} (h : ∀ J, xCtx RX11 cX11_soon 10 d 0 0 yX11_soon.name ro J → xRet cX11_soon (some .int) 0 0 Z J → J μ 0 0 0 [(0, .ref a0), (1, .int x1), (2, .int x2), (3, .int x3), (4, .int x4)] []) : xC d yX11_soon cX11_soon 10 (some .int) 0 0 [.ref a0, .int x1, .int x2, .int x3, .int x4] μ ro Z :=
  xC_intro (own := RX11) (lv := [(0, .ref a0), (1, .int x1), (2, .int x2), (3, .int x3), (4, .int x4)]) (by decide) rfl (Nat.le_of_ble_eq_true rfl) rfl (fun J g hr => r_sub g (lv' := [(0, .ref a0), (1, .int x1), (2, .int x2), (3, .int x3), (4, .int x4)]) (⟨rfl, rfl, rfl, rfl, rfl, trivial⟩) (h J g hr))
theorem dX11_twice_0 : decode cX11_twice 0 = .ok (.aload_n 0, 1) := by decide +kernel
theorem dX11_twice_1 : decode cX11_twice 1 = .ok (.iload_n 1, 1) := by decide +kernel
theorem dX11_twice_2 : decode cX11_twice 2 = .ok (.iload_n 2, 1) := by decide +kernel
theorem dX11_twice_3 : decode cX11_twice 3 = .ok (.iload_n 3, 1) := by decide +kernel
theorem dX11_twice_4 : decode cX11_twice 4 = .ok (.iload 4, 2) := by decide +kernel
theorem dX11_twice_6 : decode cX11_twice 6 = .ok (.invokevirtual 260, 3) := by decide +kernel
theorem dX11_twice_9 : decode cX11_twice 9 = .ok (.ifCond .ne 5, 3) := by decide +kernel
theorem dX11_twice_12 : decode cX11_twice 12 = .ok (.iconst (-1), 1) := by decide +kernel
theorem dX11_twice_13 : decode cX11_twice 13 = .ok (.ireturn, 1) := by decide +kernel
theorem dX11_twice_14 : decode cX11_twice 14 = .ok (.aload_n 0, 1) := by decide +kernel
theorem dX11_twice_15 : decode cX11_twice 15 = .ok (.getfield 100, 3) := by decide +kernel
theorem dX11_twice_18 : decode cX11_twice 18 = .ok (.aload_n 0, 1) := by decide +kernel
theorem dX11_twice_19 : decode cX11_twice 19 = .ok (.getfield 96, 3) := by decide +kernel
theorem dX11_twice_22 : decode cX11_twice 22 = .ok (.invokevirtual 136, 3) := by decide +kernel
theorem dX11_twice_25 : decode cX11_twice 25 = .ok (.aload_n 0, 1) := by decide +kernel
theorem dX11_twice_26 : decode cX11_twice 26 = .ok (.getfield 25, 3) := by decide +kernel
theorem dX11_twice_29 : decode cX11_twice 29 = .ok (.getfield 251, 3) := by decide +kernel
theorem dX11_twice_32 : decode cX11_twice 32 = .ok (.getfield 255, 3) := by decide +kernel
theorem dX11_twice_35 : decode cX11_twice 35 = .ok (.istore 5, 2) := by decide +kernel
theorem dX11_twice_37 : decode cX11_twice 37 = .ok (.aload_n 0, 1) := by decide +kernel
theorem dX11_twice_38 : decode cX11_twice 38 = .ok (.getfield 34, 3) := by decide +kernel
theorem dX11_twice_41 : decode cX11_twice 41 = .ok (.aload_n 0, 1) := by decide +kernel
theorem dX11_twice_42 : decode cX11_twice 42 = .ok (.getfield 100, 3) := by decide +kernel
theorem dX11_twice_45 : decode cX11_twice 45 = .ok (.iload_n 3, 1) := by decide +kernel
theorem dX11_twice_46 : decode cX11_twice 46 = .ok (.invokevirtual 314, 3) := by decide +kernel
theorem dX11_twice_49 : decode cX11_twice 49 = .ok (.iload 5, 2) := by decide +kernel
theorem dX11_twice_51 : decode cX11_twice 51 = .ok (.aload_n 0, 1) := by decide +kernel
theorem dX11_twice_52 : decode cX11_twice 52 = .ok (.aload_n 0, 1) := by decide +kernel
theorem dX11_twice_53 : decode cX11_twice 53 = .ok (.getfield 100, 3) := by decide +kernel
theorem dX11_twice_56 : decode cX11_twice 56 = .ok (.iload_n 1, 1) := by decide +kernel
theorem dX11_twice_57 : decode cX11_twice 57 = .ok (.iload_n 2, 1) := by decide +kernel
theorem dX11_twice_58 : decode cX11_twice 58 = .ok (.iload_n 3, 1) := by decide +kernel
theorem dX11_twice_59 : decode cX11_twice 59 = .ok (.iload 4, 2) := by decide +kernel
theorem dX11_twice_61 : decode cX11_twice 61 = .ok (.invokevirtual 297, 3) := by decide +kernel
theorem dX11_twice_64 : decode cX11_twice 64 = .ok (.iadd, 1) := by decide +kernel
theorem dX11_twice_65 : decode cX11_twice 65 = .ok (.ireturn, 1) := by decide +kernel
set_option maxHeartbeats 4000000 in
set_option maxRecDepth 100000 in
theorem B_X11_twice_0 {d : Nat} {ro : Nat → Nat} {J : JT} {Z : Option Value → Hp → Prop} (g : xCtx RX11 cX11_twice 6 d 0 0 yX11_twice.name ro J) (hr : xRet cX11_twice (some .int) 0 0 Z J) {μ : Hp} {a0 : Nat} {x1 : Int32} {x2 : Int32} {x3 : Int32} {x4 : Int32} (hs_a0 : hS μ a0 = some (14, 18))
    (h : xCall d yX11_isFound cX11_isFound 5 (some .boolean) [.ref a0, .int x1, .int x2, .int x3, .int x4] μ ro (fun r1 μ2 => ∃ y3 : Int32, r1 = some (.int y3) ∧ ((¬ y3 = 0 → hS μ2 a0 = some (14, 18) ∧ ∃ scratch_5 : Nat, hR μ2 a0 11 = some scratch_5 ∧ ∃ now_6 : Nat, hR μ2 a0 10 = some now_6 ∧ hS μ2 scratch_5 = some (12, 4) ∧ xCall d yX8_copyFrom cX8_copyFrom 2 none [.ref scratch_5, .ref now_6] μ2 ro (fun r7 μ8 => r7 = none ∧ hS μ8 a0 = some (14, 18) ∧ ∃ finder_9 : Nat, hR μ8 a0 2 = some finder_9 ∧ hS μ8 finder_9 = some (7, 9) ∧ ∃ best_10 : Nat, hR μ8 finder_9 0 = some best_10 ∧ hS μ8 best_10 = some (13, 5) ∧ ∃ acts_11 : Nat, hR μ8 a0 3 = some acts_11 ∧ ∃ scratch_12 : Nat, hR μ8 a0 11 = some scratch_12 ∧ hS μ8 acts_11 = some (5, 1) ∧ xCall d yX1_payByBest cX1_payByBest 5 none [.ref acts_11, .ref scratch_12, .int x3] μ8 ro (fun r13 μ14 => r13 = none ∧ hS μ14 a0 = some (14, 18) ∧ ∃ scratch_15 : Nat, hR μ14 a0 11 = some scratch_15 ∧ xCall d yX11_arrivesIn cX11_arrivesIn 6 (some .int) [.ref a0, .ref scratch_15, .int x1, .int x2, .int x3, .int x4] μ14 ro (fun r16 μ17 => ∃ y18 : Int32, r16 = some (.int y18) ∧ Z (some (.int ((hI μ8 best_10 3) + y18))) μ17)))) ∧ (y3 = 0 → Z (some (.int (-1))) μ2)))) :
    J μ 0 0 0 [(0, .ref a0), (1, .int x1), (2, .int x2), (3, .int x3), (4, .int x4)] [] := by
  refine r_aload_n g dX11_twice_0 rfl ?_
  refine r_iload_n g dX11_twice_1 rfl ?_
  refine r_iload_n g dX11_twice_2 rfl ?_
  refine r_iload_n g dX11_twice_3 rfl ?_
  refine r_iload g dX11_twice_4 rfl ?_
  obtain ⟨d1, Z1, hc1, hd1, h1⟩ := h
  refine r_callV (st := []) (As := [.int x1, .int x2, .int x3, .int x4]) g sX11_260 iX11_isFound eX11_isFound rfl hs_a0 rfl (Nat.le_of_ble_eq_true rfl) dX11_twice_6 hd1 (Nat.le_refl 0) (Nat.le_refl 0) hc1 (fun r1 μ2 hZ1 => ?_)
  replace h := h1 _ _ hZ1
  clear h1 hc1 hd1 hZ1 Z1 d1
  obtain ⟨y3, rfl, h⟩ := h
  refine r_if_ne g 14 dX11_twice_9 (by decide) (fun c4 => ?_) (fun c4 => ?_)
  · replace h := h.1 c4
    refine r_aload_n g dX11_twice_14 rfl ?_
    obtain ⟨hs_a0_, h⟩ := h
    obtain ⟨scratch_5, hr_scratch_5, h⟩ := h
    refine r_getR g fX11_100 rfl hs_a0_ hr_scratch_5 dX11_twice_15 ?_
    refine r_aload_n g dX11_twice_18 rfl ?_
    obtain ⟨now_6, hr_now_6, h⟩ := h
    refine r_getR g fX11_96 rfl hs_a0_ hr_now_6 dX11_twice_19 ?_
    obtain ⟨hs_scratch_5, h⟩ := h
    obtain ⟨d1, Z1, hc1, hd1, h1⟩ := h
    refine r_callV (st := []) (As := [.ref now_6]) g sX11_136 iX8_copyFrom eX8_copyFrom rfl hs_scratch_5 rfl (Nat.le_of_ble_eq_true rfl) dX11_twice_22 hd1 (Nat.le_refl 0) (Nat.le_refl 0) hc1 (fun r7 μ8 hZ1 => ?_)
    replace h := h1 _ _ hZ1
    clear h1 hc1 hd1 hZ1 Z1 d1
    obtain ⟨rfl, h⟩ := h
    refine r_aload_n g dX11_twice_25 rfl ?_
    obtain ⟨hs_a0__, h⟩ := h
    obtain ⟨finder_9, hr_finder_9, h⟩ := h
    refine r_getR g fX11_25 rfl hs_a0__ hr_finder_9 dX11_twice_26 ?_
    obtain ⟨hs_finder_9, h⟩ := h
    obtain ⟨best_10, hr_best_10, h⟩ := h
    refine r_getR g fX11_251 rfl hs_finder_9 hr_best_10 dX11_twice_29 ?_
    obtain ⟨hs_best_10, h⟩ := h
    refine r_getI g fX11_255 rfl hs_best_10 dX11_twice_32 ?_
    refine r_istore g [(5, .int (hI μ8 best_10 3)), (0, .ref a0), (1, .int x1), (2, .int x2), (3, .int x3), (4, .int x4)] dX11_twice_35 (by decide) rfl ?_
    refine r_aload_n g dX11_twice_37 rfl ?_
    obtain ⟨acts_11, hr_acts_11, h⟩ := h
    refine r_getR g fX11_34 rfl hs_a0__ hr_acts_11 dX11_twice_38 ?_
    refine r_aload_n g dX11_twice_41 rfl ?_
    obtain ⟨scratch_12, hr_scratch_12, h⟩ := h
    refine r_getR g fX11_100 rfl hs_a0__ hr_scratch_12 dX11_twice_42 ?_
    refine r_iload_n g dX11_twice_45 rfl ?_
    obtain ⟨hs_acts_11, h⟩ := h
    obtain ⟨d1, Z1, hc1, hd1, h1⟩ := h
    refine r_callV (st := []) (As := [.ref scratch_12, .int x3]) g sX11_314 iX1_payByBest eX1_payByBest rfl hs_acts_11 rfl (Nat.le_of_ble_eq_true rfl) dX11_twice_46 hd1 (Nat.le_refl 0) (Nat.le_refl 0) hc1 (fun r13 μ14 hZ1 => ?_)
    replace h := h1 _ _ hZ1
    clear h1 hc1 hd1 hZ1 Z1 d1
    obtain ⟨rfl, h⟩ := h
    refine r_iload g dX11_twice_49 rfl ?_
    refine r_aload_n g dX11_twice_51 rfl ?_
    refine r_aload_n g dX11_twice_52 rfl ?_
    obtain ⟨hs_a0___, h⟩ := h
    obtain ⟨scratch_15, hr_scratch_15, h⟩ := h
    refine r_getR g fX11_100 rfl hs_a0___ hr_scratch_15 dX11_twice_53 ?_
    refine r_iload_n g dX11_twice_56 rfl ?_
    refine r_iload_n g dX11_twice_57 rfl ?_
    refine r_iload_n g dX11_twice_58 rfl ?_
    refine r_iload g dX11_twice_59 rfl ?_
    obtain ⟨d1, Z1, hc1, hd1, h1⟩ := h
    refine r_callV (st := [.int (hI μ8 best_10 3)]) (As := [.ref scratch_15, .int x1, .int x2, .int x3, .int x4]) g sX11_297 iX11_arrivesIn eX11_arrivesIn rfl hs_a0___ rfl (Nat.le_of_ble_eq_true rfl) dX11_twice_61 hd1 (Nat.le_refl 0) (Nat.le_refl 0) hc1 (fun r16 μ17 hZ1 => ?_)
    replace h := h1 _ _ hZ1
    clear h1 hc1 hd1 hZ1 Z1 d1
    obtain ⟨y18, rfl, h⟩ := h
    refine r_iadd g dX11_twice_64 ?_
    exact hr.2.1 _ rfl _ _ _ _ _ _ dX11_twice_65 rfl (Nat.le_refl 0) (Nat.le_refl 0) h
  · replace h := h.2 c4
    refine r_iconst g (-1) dX11_twice_12 (by decide) ?_
    exact hr.2.1 _ rfl _ _ _ _ _ _ dX11_twice_13 rfl (Nat.le_refl 0) (Nat.le_refl 0) h
theorem I_X11_twice {d : Nat} {ro : Nat → Nat} {Z : Option Value → Hp → Prop} {μ : Hp} {a0 : Nat} {x1 : Int32} {x2 : Int32} {x3 : Int32} {x4 : Int32} (h : ∀ J, xCtx RX11 cX11_twice 6 d 0 0 yX11_twice.name ro J → xRet cX11_twice (some .int) 0 0 Z J → J μ 0 0 0 [(0, .ref a0), (1, .int x1), (2, .int x2), (3, .int x3), (4, .int x4)] []) : xC d yX11_twice cX11_twice 6 (some .int) 0 0 [.ref a0, .int x1, .int x2, .int x3, .int x4] μ ro Z :=
  xC_intro (own := RX11) (lv := [(0, .ref a0), (1, .int x1), (2, .int x2), (3, .int x3), (4, .int x4)]) (by decide) rfl (Nat.le_of_ble_eq_true rfl) rfl (fun J g hr => r_sub g (lv' := [(0, .ref a0), (1, .int x1), (2, .int x2), (3, .int x3), (4, .int x4)]) (⟨rfl, rfl, rfl, rfl, rfl, trivial⟩) (h J g hr))
theorem dX11_gross_0 : decode cX11_gross 0 = .ok (.aload_n 0, 1) := by decide +kernel
theorem dX11_gross_1 : decode cX11_gross 1 = .ok (.iload_n 1, 1) := by decide +kernel
theorem dX11_gross_2 : decode cX11_gross 2 = .ok (.iload_n 2, 1) := by decide +kernel
theorem dX11_gross_3 : decode cX11_gross 3 = .ok (.iload_n 3, 1) := by decide +kernel
theorem dX11_gross_4 : decode cX11_gross 4 = .ok (.iload 4, 2) := by decide +kernel
theorem dX11_gross_6 : decode cX11_gross 6 = .ok (.invokevirtual 243, 3) := by decide +kernel
theorem dX11_gross_9 : decode cX11_gross 9 = .ok (.ifCond .eq 21, 3) := by decide +kernel
theorem dX11_gross_12 : decode cX11_gross 12 = .ok (.aload_n 0, 1) := by decide +kernel
theorem dX11_gross_13 : decode cX11_gross 13 = .ok (.aload_n 0, 1) := by decide +kernel
theorem dX11_gross_14 : decode cX11_gross 14 = .ok (.getfield 96, 3) := by decide +kernel
theorem dX11_gross_17 : decode cX11_gross 17 = .ok (.iload_n 1, 1) := by decide +kernel
theorem dX11_gross_18 : decode cX11_gross 18 = .ok (.iload_n 2, 1) := by decide +kernel
theorem dX11_gross_19 : decode cX11_gross 19 = .ok (.iload_n 3, 1) := by decide +kernel
theorem dX11_gross_20 : decode cX11_gross 20 = .ok (.ldc 239, 2) := by decide +kernel
theorem dX11_gross_22 : decode cX11_gross 22 = .ok (.invokevirtual 297, 3) := by decide +kernel
theorem dX11_gross_25 : decode cX11_gross 25 = .ok (.iload 4, 2) := by decide +kernel
theorem dX11_gross_27 : decode cX11_gross 27 = .ok (.if_icmp .ge 5, 3) := by decide +kernel
theorem dX11_gross_30 : decode cX11_gross 30 = .ok (.iconst (-1), 1) := by decide +kernel
theorem dX11_gross_31 : decode cX11_gross 31 = .ok (.ireturn, 1) := by decide +kernel
theorem dX11_gross_32 : decode cX11_gross 32 = .ok (.iload 4, 2) := by decide +kernel
theorem dX11_gross_34 : decode cX11_gross 34 = .ok (.istore 5, 2) := by decide +kernel
theorem dX11_gross_36 : decode cX11_gross 36 = .ok (.ldc 239, 2) := by decide +kernel
theorem dX11_gross_38 : decode cX11_gross 38 = .ok (.istore 6, 2) := by decide +kernel
theorem dX11_gross_40 : decode cX11_gross 40 = .ok (.iconst 0, 1) := by decide +kernel
theorem dX11_gross_41 : decode cX11_gross 41 = .ok (.istore 7, 2) := by decide +kernel
theorem dX11_gross_43 : decode cX11_gross 43 = .ok (.iload 5, 2) := by decide +kernel
theorem dX11_gross_45 : decode cX11_gross 45 = .ok (.iload 6, 2) := by decide +kernel
theorem dX11_gross_47 : decode cX11_gross 47 = .ok (.if_icmp .ge 59, 3) := by decide +kernel
theorem dX11_gross_50 : decode cX11_gross 50 = .ok (.iload 7, 2) := by decide +kernel
theorem dX11_gross_52 : decode cX11_gross 52 = .ok (.bipush 20, 2) := by decide +kernel
theorem dX11_gross_54 : decode cX11_gross 54 = .ok (.if_icmp .ge 52, 3) := by decide +kernel
theorem dX11_gross_57 : decode cX11_gross 57 = .ok (.iload 5, 2) := by decide +kernel
theorem dX11_gross_59 : decode cX11_gross 59 = .ok (.iload 6, 2) := by decide +kernel
theorem dX11_gross_61 : decode cX11_gross 61 = .ok (.iload 5, 2) := by decide +kernel
theorem dX11_gross_63 : decode cX11_gross 63 = .ok (.isub, 1) := by decide +kernel
theorem dX11_gross_64 : decode cX11_gross 64 = .ok (.iconst 2, 1) := by decide +kernel
theorem dX11_gross_65 : decode cX11_gross 65 = .ok (.idiv, 1) := by decide +kernel
theorem dX11_gross_66 : decode cX11_gross 66 = .ok (.iadd, 1) := by decide +kernel
theorem dX11_gross_67 : decode cX11_gross 67 = .ok (.istore 8, 2) := by decide +kernel
theorem dX11_gross_69 : decode cX11_gross 69 = .ok (.aload_n 0, 1) := by decide +kernel
theorem dX11_gross_70 : decode cX11_gross 70 = .ok (.aload_n 0, 1) := by decide +kernel
theorem dX11_gross_71 : decode cX11_gross 71 = .ok (.getfield 96, 3) := by decide +kernel
theorem dX11_gross_74 : decode cX11_gross 74 = .ok (.iload_n 1, 1) := by decide +kernel
theorem dX11_gross_75 : decode cX11_gross 75 = .ok (.iload_n 2, 1) := by decide +kernel
theorem dX11_gross_76 : decode cX11_gross 76 = .ok (.iload_n 3, 1) := by decide +kernel
theorem dX11_gross_77 : decode cX11_gross 77 = .ok (.iload 8, 2) := by decide +kernel
theorem dX11_gross_79 : decode cX11_gross 79 = .ok (.invokevirtual 297, 3) := by decide +kernel
theorem dX11_gross_82 : decode cX11_gross 82 = .ok (.iload 4, 2) := by decide +kernel
theorem dX11_gross_84 : decode cX11_gross 84 = .ok (.if_icmp .lt 10, 3) := by decide +kernel
theorem dX11_gross_87 : decode cX11_gross 87 = .ok (.iload 8, 2) := by decide +kernel
theorem dX11_gross_89 : decode cX11_gross 89 = .ok (.istore 6, 2) := by decide +kernel
theorem dX11_gross_91 : decode cX11_gross 91 = .ok (.goto 9, 3) := by decide +kernel
theorem dX11_gross_94 : decode cX11_gross 94 = .ok (.iload 8, 2) := by decide +kernel
theorem dX11_gross_96 : decode cX11_gross 96 = .ok (.iconst 1, 1) := by decide +kernel
theorem dX11_gross_97 : decode cX11_gross 97 = .ok (.iadd, 1) := by decide +kernel
theorem dX11_gross_98 : decode cX11_gross 98 = .ok (.istore 5, 2) := by decide +kernel
theorem dX11_gross_100 : decode cX11_gross 100 = .ok (.iinc 7 1, 3) := by decide +kernel
theorem dX11_gross_103 : decode cX11_gross 103 = .ok (.goto (-60), 3) := by decide +kernel
theorem dX11_gross_106 : decode cX11_gross 106 = .ok (.iload 5, 2) := by decide +kernel
theorem dX11_gross_108 : decode cX11_gross 108 = .ok (.ireturn, 1) := by decide +kernel
set_option maxHeartbeats 4000000 in
set_option maxRecDepth 100000 in
theorem B_X11_gross_0 {d : Nat} {ro : Nat → Nat} {J : JT} {Z : Option Value → Hp → Prop} (g : xCtx RX11 cX11_gross 9 d 0 0 yX11_gross.name ro J) (hr : xRet cX11_gross (some .int) 0 0 Z J) {μ : Hp} {a0 : Nat} {x1 : Int32} {x2 : Int32} {x3 : Int32} {x4 : Int32} (hs_a0 : hS μ a0 = some (14, 18))
    (h : xCall d yX11_isAsked cX11_isAsked 5 (some .boolean) [.ref a0, .int x1, .int x2, .int x3, .int x4] μ ro (fun r1 μ2 => ∃ y3 : Int32, r1 = some (.int y3) ∧ ((y3 = 0 → Z (some (.int (-1))) μ2) ∧ (¬ y3 = 0 → hS μ2 a0 = some (14, 18) ∧ ∃ now_5 : Nat, hR μ2 a0 10 = some now_5 ∧ xCall d yX11_arrivesIn cX11_arrivesIn 6 (some .int) [.ref a0, .ref now_5, .int x1, .int x2, .int x3, .int 1000000] μ2 ro (fun r6 μ7 => ∃ y8 : Int32, r6 = some (.int y8) ∧ ((x4 ≤ y8 → J μ7 0 0 43 [(0, .ref a0), (1, .int x1), (2, .int x2), (3, .int x3), (4, .int x4), (5, .int x4), (6, .int 1000000), (7, .int 0)] []) ∧ (¬ x4 ≤ y8 → Z (some (.int (-1))) μ7))))))) :
    J μ 0 0 0 [(0, .ref a0), (1, .int x1), (2, .int x2), (3, .int x3), (4, .int x4)] [] := by
  refine r_aload_n g dX11_gross_0 rfl ?_
  refine r_iload_n g dX11_gross_1 rfl ?_
  refine r_iload_n g dX11_gross_2 rfl ?_
  refine r_iload_n g dX11_gross_3 rfl ?_
  refine r_iload g dX11_gross_4 rfl ?_
  obtain ⟨d1, Z1, hc1, hd1, h1⟩ := h
  refine r_callV (st := []) (As := [.int x1, .int x2, .int x3, .int x4]) g sX11_243 iX11_isAsked eX11_isAsked rfl hs_a0 rfl (Nat.le_of_ble_eq_true rfl) dX11_gross_6 hd1 (Nat.le_refl 0) (Nat.le_refl 0) hc1 (fun r1 μ2 hZ1 => ?_)
  replace h := h1 _ _ hZ1
  clear h1 hc1 hd1 hZ1 Z1 d1
  obtain ⟨y3, rfl, h⟩ := h
  refine r_if_eq g 30 dX11_gross_9 (by decide) (fun c4 => ?_) (fun c4 => ?_)
  · replace h := h.1 c4
    refine r_iconst g (-1) dX11_gross_30 (by decide) ?_
    exact hr.2.1 _ rfl _ _ _ _ _ _ dX11_gross_31 rfl (Nat.le_refl 0) (Nat.le_refl 0) h
  · replace h := h.2 c4
    refine r_aload_n g dX11_gross_12 rfl ?_
    refine r_aload_n g dX11_gross_13 rfl ?_
    obtain ⟨hs_a0_, h⟩ := h
    obtain ⟨now_5, hr_now_5, h⟩ := h
    refine r_getR g fX11_96 rfl hs_a0_ hr_now_5 dX11_gross_14 ?_
    refine r_iload_n g dX11_gross_17 rfl ?_
    refine r_iload_n g dX11_gross_18 rfl ?_
    refine r_iload_n g dX11_gross_19 rfl ?_
    refine r_ldc g 1000000 kX11_239 dX11_gross_20 ?_
    obtain ⟨d1, Z1, hc1, hd1, h1⟩ := h
    refine r_callV (st := []) (As := [.ref now_5, .int x1, .int x2, .int x3, .int 1000000]) g sX11_297 iX11_arrivesIn eX11_arrivesIn rfl hs_a0_ rfl (Nat.le_of_ble_eq_true rfl) dX11_gross_22 hd1 (Nat.le_refl 0) (Nat.le_refl 0) hc1 (fun r6 μ7 hZ1 => ?_)
    replace h := h1 _ _ hZ1
    clear h1 hc1 hd1 hZ1 Z1 d1
    obtain ⟨y8, rfl, h⟩ := h
    refine r_iload g dX11_gross_25 rfl ?_
    refine r_icmp_ge g 32 dX11_gross_27 (by decide) (fun c9 => ?_) (fun c9 => ?_)
    · replace h := h.1 c9
      refine r_iload g dX11_gross_32 rfl ?_
      refine r_istore g [(5, .int x4), (0, .ref a0), (1, .int x1), (2, .int x2), (3, .int x3), (4, .int x4)] dX11_gross_34 (by decide) rfl ?_
      refine r_ldc g 1000000 kX11_239 dX11_gross_36 ?_
      refine r_istore g [(6, .int 1000000), (5, .int x4), (0, .ref a0), (1, .int x1), (2, .int x2), (3, .int x3), (4, .int x4)] dX11_gross_38 (by decide) rfl ?_
      refine r_iconst g 0 dX11_gross_40 (by decide) ?_
      refine r_istore g [(7, .int 0), (6, .int 1000000), (5, .int x4), (0, .ref a0), (1, .int x1), (2, .int x2), (3, .int x3), (4, .int x4)] dX11_gross_41 (by decide) rfl ?_
      refine r_sub g (lv' := [(0, .ref a0), (1, .int x1), (2, .int x2), (3, .int x3), (4, .int x4), (5, .int x4), (6, .int 1000000), (7, .int 0)]) (⟨rfl, rfl, rfl, rfl, rfl, rfl, rfl, rfl, trivial⟩) ?_
      exact h
    · replace h := h.2 c9
      refine r_iconst g (-1) dX11_gross_30 (by decide) ?_
      exact hr.2.1 _ rfl _ _ _ _ _ _ dX11_gross_31 rfl (Nat.le_refl 0) (Nat.le_refl 0) h
set_option maxHeartbeats 4000000 in
set_option maxRecDepth 100000 in
theorem B_X11_gross_43 {d : Nat} {ro : Nat → Nat} {J : JT} {Z : Option Value → Hp → Prop} (g : xCtx RX11 cX11_gross 9 d 0 0 yX11_gross.name ro J) (hr : xRet cX11_gross (some .int) 0 0 Z J) {μ : Hp} {a0 : Nat} {x1 : Int32} {x2 : Int32} {x3 : Int32} {x4 : Int32} {x5 : Int32} {x6 : Int32} {x7 : Int32} {a0_now : Nat} (hs_a0 : hS μ a0 = some (14, 18)) (hr_a0_now : hR μ a0 10 = some a0_now)
    (h : ((x6 ≤ x5 → Z (some (.int x5)) μ) ∧ (¬ x6 ≤ x5 → ((20 ≤ x7 → Z (some (.int x5)) μ) ∧ (¬ 20 ≤ x7 → xCall d yX11_arrivesIn cX11_arrivesIn 6 (some .int) [.ref a0, .ref a0_now, .int x1, .int x2, .int x3, .int (x5 + ((x6 - x5) / 2))] μ ro (fun r3 μ4 => ∃ y5 : Int32, r3 = some (.int y5) ∧ ((y5 < x4 → J μ4 0 0 43 [(0, .ref a0), (1, .int x1), (2, .int x2), (3, .int x3), (4, .int x4), (5, .int ((x5 + ((x6 - x5) / 2)) + 1)), (6, .int x6), (7, .int (x7 + 1))] []) ∧ (¬ y5 < x4 → J μ4 0 0 43 [(0, .ref a0), (1, .int x1), (2, .int x2), (3, .int x3), (4, .int x4), (5, .int x5), (6, .int (x5 + ((x6 - x5) / 2))), (7, .int (x7 + 1))] [])))))))) :
    J μ 0 0 43 [(0, .ref a0), (1, .int x1), (2, .int x2), (3, .int x3), (4, .int x4), (5, .int x5), (6, .int x6), (7, .int x7)] [] := by
  refine r_iload g dX11_gross_43 rfl ?_
  refine r_iload g dX11_gross_45 rfl ?_
  refine r_icmp_ge g 106 dX11_gross_47 (by decide) (fun c1 => ?_) (fun c1 => ?_)
  · replace h := h.1 c1
    refine r_iload g dX11_gross_106 rfl ?_
    exact hr.2.1 _ rfl _ _ _ _ _ _ dX11_gross_108 rfl (Nat.le_refl 0) (Nat.le_refl 0) h
  · replace h := h.2 c1
    refine r_iload g dX11_gross_50 rfl ?_
    refine r_bipush g 20 dX11_gross_52 (by decide) ?_
    refine r_icmp_ge g 106 dX11_gross_54 (by decide) (fun c2 => ?_) (fun c2 => ?_)
    · replace h := h.1 c2
      refine r_iload g dX11_gross_106 rfl ?_
      exact hr.2.1 _ rfl _ _ _ _ _ _ dX11_gross_108 rfl (Nat.le_refl 0) (Nat.le_refl 0) h
    · replace h := h.2 c2
      refine r_iload g dX11_gross_57 rfl ?_
      refine r_iload g dX11_gross_59 rfl ?_
      refine r_iload g dX11_gross_61 rfl ?_
      refine r_isub g dX11_gross_63 ?_
      refine r_iconst g 2 dX11_gross_64 (by decide) ?_
      refine r_idiv g (by decide) dX11_gross_65 ?_
      refine r_iadd g dX11_gross_66 ?_
      refine r_istore g [(8, .int (x5 + ((x6 - x5) / 2))), (0, .ref a0), (1, .int x1), (2, .int x2), (3, .int x3), (4, .int x4), (5, .int x5), (6, .int x6), (7, .int x7)] dX11_gross_67 (by decide) rfl ?_
      refine r_aload_n g dX11_gross_69 rfl ?_
      refine r_aload_n g dX11_gross_70 rfl ?_
      refine r_getR g fX11_96 rfl hs_a0 hr_a0_now dX11_gross_71 ?_
      refine r_iload_n g dX11_gross_74 rfl ?_
      refine r_iload_n g dX11_gross_75 rfl ?_
      refine r_iload_n g dX11_gross_76 rfl ?_
      refine r_iload g dX11_gross_77 rfl ?_
      obtain ⟨d1, Z1, hc1, hd1, h1⟩ := h
      refine r_callV (st := []) (As := [.ref a0_now, .int x1, .int x2, .int x3, .int (x5 + ((x6 - x5) / 2))]) g sX11_297 iX11_arrivesIn eX11_arrivesIn rfl hs_a0 rfl (Nat.le_of_ble_eq_true rfl) dX11_gross_79 hd1 (Nat.le_refl 0) (Nat.le_refl 0) hc1 (fun r3 μ4 hZ1 => ?_)
      replace h := h1 _ _ hZ1
      clear h1 hc1 hd1 hZ1 Z1 d1
      obtain ⟨y5, rfl, h⟩ := h
      refine r_iload g dX11_gross_82 rfl ?_
      refine r_icmp_lt g 94 dX11_gross_84 (by decide) (fun c6 => ?_) (fun c6 => ?_)
      · replace h := h.1 c6
        refine r_iload g dX11_gross_94 rfl ?_
        refine r_iconst g 1 dX11_gross_96 (by decide) ?_
        refine r_iadd g dX11_gross_97 ?_
        refine r_istore g [(5, .int ((x5 + ((x6 - x5) / 2)) + 1)), (8, .int (x5 + ((x6 - x5) / 2))), (0, .ref a0), (1, .int x1), (2, .int x2), (3, .int x3), (4, .int x4), (6, .int x6), (7, .int x7)] dX11_gross_98 (by decide) rfl ?_
        refine r_iinc g (x7 + 1) [(7, .int (x7 + 1)), (5, .int ((x5 + ((x6 - x5) / 2)) + 1)), (8, .int (x5 + ((x6 - x5) / 2))), (0, .ref a0), (1, .int x1), (2, .int x2), (3, .int x3), (4, .int x4), (6, .int x6)] dX11_gross_100 rfl rfl (by decide) rfl ?_
        refine r_goto g 43 dX11_gross_103 (by decide) ?_
        refine r_sub g (lv' := [(0, .ref a0), (1, .int x1), (2, .int x2), (3, .int x3), (4, .int x4), (5, .int ((x5 + ((x6 - x5) / 2)) + 1)), (6, .int x6), (7, .int (x7 + 1))]) (⟨rfl, rfl, rfl, rfl, rfl, rfl, rfl, rfl, trivial⟩) ?_
        exact h
      · replace h := h.2 c6
        refine r_iload g dX11_gross_87 rfl ?_
        refine r_istore g [(6, .int (x5 + ((x6 - x5) / 2))), (8, .int (x5 + ((x6 - x5) / 2))), (0, .ref a0), (1, .int x1), (2, .int x2), (3, .int x3), (4, .int x4), (5, .int x5), (7, .int x7)] dX11_gross_89 (by decide) rfl ?_
        refine r_goto g 100 dX11_gross_91 (by decide) ?_
        refine r_iinc g (x7 + 1) [(7, .int (x7 + 1)), (6, .int (x5 + ((x6 - x5) / 2))), (8, .int (x5 + ((x6 - x5) / 2))), (0, .ref a0), (1, .int x1), (2, .int x2), (3, .int x3), (4, .int x4), (5, .int x5)] dX11_gross_100 rfl rfl (by decide) rfl ?_
        refine r_goto g 43 dX11_gross_103 (by decide) ?_
        refine r_sub g (lv' := [(0, .ref a0), (1, .int x1), (2, .int x2), (3, .int x3), (4, .int x4), (5, .int x5), (6, .int (x5 + ((x6 - x5) / 2))), (7, .int (x7 + 1))]) (⟨rfl, rfl, rfl, rfl, rfl, rfl, rfl, rfl, trivial⟩) ?_
        exact h
theorem I_X11_gross {d : Nat} {ro : Nat → Nat} {Z : Option Value → Hp → Prop} {μ : Hp} {a0 : Nat} {x1 : Int32} {x2 : Int32} {x3 : Int32} {x4 : Int32} (h : ∀ J, xCtx RX11 cX11_gross 9 d 0 0 yX11_gross.name ro J → xRet cX11_gross (some .int) 0 0 Z J → J μ 0 0 0 [(0, .ref a0), (1, .int x1), (2, .int x2), (3, .int x3), (4, .int x4)] []) : xC d yX11_gross cX11_gross 9 (some .int) 0 0 [.ref a0, .int x1, .int x2, .int x3, .int x4] μ ro Z :=
  xC_intro (own := RX11) (lv := [(0, .ref a0), (1, .int x1), (2, .int x2), (3, .int x3), (4, .int x4)]) (by decide) rfl (Nat.le_of_ble_eq_true rfl) rfl (fun J g hr => r_sub g (lv' := [(0, .ref a0), (1, .int x1), (2, .int x2), (3, .int x3), (4, .int x4)]) (⟨rfl, rfl, rfl, rfl, rfl, trivial⟩) (h J g hr))
theorem dX11_worth_0 : decode cX11_worth 0 = .ok (.aload_n 0, 1) := by decide +kernel
theorem dX11_worth_1 : decode cX11_worth 1 = .ok (.getfield 96, 3) := by decide +kernel
theorem dX11_worth_4 : decode cX11_worth 4 = .ok (.iload 5, 2) := by decide +kernel
theorem dX11_worth_6 : decode cX11_worth 6 = .ok (.invokevirtual 180, 3) := by decide +kernel
theorem dX11_worth_9 : decode cX11_worth 9 = .ok (.ifCond .eq 15, 3) := by decide +kernel
theorem dX11_worth_12 : decode cX11_worth 12 = .ok (.aload_n 0, 1) := by decide +kernel
theorem dX11_worth_13 : decode cX11_worth 13 = .ok (.iload_n 1, 1) := by decide +kernel
theorem dX11_worth_14 : decode cX11_worth 14 = .ok (.iload_n 2, 1) := by decide +kernel
theorem dX11_worth_15 : decode cX11_worth 15 = .ok (.iload_n 3, 1) := by decide +kernel
theorem dX11_worth_16 : decode cX11_worth 16 = .ok (.iload 4, 2) := by decide +kernel
theorem dX11_worth_18 : decode cX11_worth 18 = .ok (.invokevirtual 260, 3) := by decide +kernel
theorem dX11_worth_21 : decode cX11_worth 21 = .ok (.ifCond .ne 5, 3) := by decide +kernel
theorem dX11_worth_24 : decode cX11_worth 24 = .ok (.iconst (-1), 1) := by decide +kernel
theorem dX11_worth_25 : decode cX11_worth 25 = .ok (.ireturn, 1) := by decide +kernel
theorem dX11_worth_26 : decode cX11_worth 26 = .ok (.aload_n 0, 1) := by decide +kernel
theorem dX11_worth_27 : decode cX11_worth 27 = .ok (.getfield 25, 3) := by decide +kernel
theorem dX11_worth_30 : decode cX11_worth 30 = .ok (.getfield 251, 3) := by decide +kernel
theorem dX11_worth_33 : decode cX11_worth 33 = .ok (.getfield 255, 3) := by decide +kernel
theorem dX11_worth_36 : decode cX11_worth 36 = .ok (.istore 6, 2) := by decide +kernel
theorem dX11_worth_38 : decode cX11_worth 38 = .ok (.aload_n 0, 1) := by decide +kernel
theorem dX11_worth_39 : decode cX11_worth 39 = .ok (.getfield 100, 3) := by decide +kernel
theorem dX11_worth_42 : decode cX11_worth 42 = .ok (.aload_n 0, 1) := by decide +kernel
theorem dX11_worth_43 : decode cX11_worth 43 = .ok (.getfield 96, 3) := by decide +kernel
theorem dX11_worth_46 : decode cX11_worth 46 = .ok (.invokevirtual 136, 3) := by decide +kernel
theorem dX11_worth_49 : decode cX11_worth 49 = .ok (.aload_n 0, 1) := by decide +kernel
theorem dX11_worth_50 : decode cX11_worth 50 = .ok (.getfield 100, 3) := by decide +kernel
theorem dX11_worth_53 : decode cX11_worth 53 = .ok (.iload 5, 2) := by decide +kernel
theorem dX11_worth_55 : decode cX11_worth 55 = .ok (.invokevirtual 318, 3) := by decide +kernel
theorem dX11_worth_58 : decode cX11_worth 58 = .ok (.iload 6, 2) := by decide +kernel
theorem dX11_worth_60 : decode cX11_worth 60 = .ok (.iconst 0, 1) := by decide +kernel
theorem dX11_worth_61 : decode cX11_worth 61 = .ok (.aload_n 0, 1) := by decide +kernel
theorem dX11_worth_62 : decode cX11_worth 62 = .ok (.aload_n 0, 1) := by decide +kernel
theorem dX11_worth_63 : decode cX11_worth 63 = .ok (.getfield 100, 3) := by decide +kernel
theorem dX11_worth_66 : decode cX11_worth 66 = .ok (.iload_n 1, 1) := by decide +kernel
theorem dX11_worth_67 : decode cX11_worth 67 = .ok (.iload_n 2, 1) := by decide +kernel
theorem dX11_worth_68 : decode cX11_worth 68 = .ok (.iload_n 3, 1) := by decide +kernel
theorem dX11_worth_69 : decode cX11_worth 69 = .ok (.iload 4, 2) := by decide +kernel
theorem dX11_worth_71 : decode cX11_worth 71 = .ok (.invokevirtual 297, 3) := by decide +kernel
theorem dX11_worth_74 : decode cX11_worth 74 = .ok (.invokestatic 321, 3) := by decide +kernel
theorem dX11_worth_77 : decode cX11_worth 77 = .ok (.isub, 1) := by decide +kernel
theorem dX11_worth_78 : decode cX11_worth 78 = .ok (.ireturn, 1) := by decide +kernel
set_option maxHeartbeats 4000000 in
set_option maxRecDepth 100000 in
theorem B_X11_worth_0 {d : Nat} {ro : Nat → Nat} {J : JT} {Z : Option Value → Hp → Prop} (g : xCtx RX11 cX11_worth 7 d 0 0 yX11_worth.name ro J) (hr : xRet cX11_worth (some .int) 0 0 Z J) {μ : Hp} {a0 : Nat} {x1 : Int32} {x2 : Int32} {x3 : Int32} {x4 : Int32} {x5 : Int32} {a0_now : Nat} {a0_now_row : Nat} {N_a0_now_row : Nat} (hs_a0 : hS μ a0 = some (14, 18)) (hr_a0_now : hR μ a0 10 = some a0_now) (hs_a0_now : hS μ a0_now = some (12, 4)) (hr_a0_now_row : hR μ a0_now 0 = some a0_now_row) (hs_a0_now_row : hS μ a0_now_row = some (0, N_a0_now_row)) (hd9 : 1 ≤ d)
    (h : ((x5 < 0 → Z (some (.int (-1))) μ) ∧ (¬ x5 < 0 → vp_in 1 N_a0_now_row ∧ (((hI μ a0_now_row 1) ≤ x5 → Z (some (.int (-1))) μ) ∧ (¬ (hI μ a0_now_row 1) ≤ x5 → xCall d yX11_isFound cX11_isFound 5 (some .boolean) [.ref a0, .int x1, .int x2, .int x3, .int x4] μ ro (fun r10 μ11 => ∃ y12 : Int32, r10 = some (.int y12) ∧ ((¬ y12 = 0 → hS μ11 a0 = some (14, 18) ∧ ∃ finder_14 : Nat, hR μ11 a0 2 = some finder_14 ∧ hS μ11 finder_14 = some (7, 9) ∧ ∃ best_15 : Nat, hR μ11 finder_14 0 = some best_15 ∧ hS μ11 best_15 = some (13, 5) ∧ ∃ scratch_16 : Nat, hR μ11 a0 11 = some scratch_16 ∧ ∃ now_17 : Nat, hR μ11 a0 10 = some now_17 ∧ hS μ11 scratch_16 = some (12, 4) ∧ xCall d yX8_copyFrom cX8_copyFrom 2 none [.ref scratch_16, .ref now_17] μ11 ro (fun r18 μ19 => r18 = none ∧ hS μ19 a0 = some (14, 18) ∧ ∃ scratch_20 : Nat, hR μ19 a0 11 = some scratch_20 ∧ hS μ19 scratch_20 = some (12, 4) ∧ xCall d yX8_removeLink cX8_removeLink 3 none [.ref scratch_20, .int x5] μ19 ro (fun r21 μ22 => r21 = none ∧ hS μ22 a0 = some (14, 18) ∧ ∃ scratch_23 : Nat, hR μ22 a0 11 = some scratch_23 ∧ xCall d yX11_arrivesIn cX11_arrivesIn 6 (some .int) [.ref a0, .ref scratch_23, .int x1, .int x2, .int x3, .int x4] μ22 ro (fun r24 μ25 => ∃ y26 : Int32, r24 = some (.int y26) ∧ Z (some (.int ((hI μ11 best_15 3) - (if 0 < y26 then y26 else 0)))) μ25)))) ∧ (y12 = 0 → Z (some (.int (-1))) μ11)))))))) :
    J μ 0 0 0 [(0, .ref a0), (1, .int x1), (2, .int x2), (3, .int x3), (4, .int x4), (5, .int x5)] [] := by
  refine r_aload_n g dX11_worth_0 rfl ?_
  refine r_getR g fX11_96 rfl hs_a0 hr_a0_now dX11_worth_1 ?_
  refine r_iload g dX11_worth_4 rfl ?_
  by_cases c1 : x5 < 0
  · replace h := h.1 c1
    refine r_callV (st := []) (As := [.int x5]) g sX11_180 iX8_hasLink eX8_hasLink rfl hs_a0_now rfl (Nat.le_of_ble_eq_true rfl) dX11_worth_6 (by omega) (Nat.le_refl 0) (Nat.le_refl 0) (P_X8_hasLink_0 (d := d - 1) hs_a0_now hr_a0_now_row hs_a0_now_row c1) (fun r2 μ3 hZ1 => ?_)
    obtain ⟨rfl, e9⟩ := hZ1
    replace e9 := e9.symm
    subst e9
    refine r_if_eq g 24 dX11_worth_9 (by decide) (fun _ => ?_) (fun hz => absurd hz (by decide))
    refine r_iconst g (-1) dX11_worth_24 (by decide) ?_
    exact hr.2.1 _ rfl _ _ _ _ _ _ dX11_worth_25 rfl (Nat.le_refl 0) (Nat.le_refl 0) h
  · replace h := h.2 c1
    obtain ⟨hi4, h⟩ := h
    by_cases c5 : (hI μ a0_now_row 1) ≤ x5
    · replace h := h.1 c5
      refine r_callV (st := []) (As := [.int x5]) g sX11_180 iX8_hasLink eX8_hasLink rfl hs_a0_now rfl (Nat.le_of_ble_eq_true rfl) dX11_worth_6 (by omega) (Nat.le_refl 0) (Nat.le_refl 0) (P_X8_hasLink_1 (d := d - 1) hs_a0_now hr_a0_now_row hs_a0_now_row c1 hi4 c5) (fun r6 μ7 hZ1 => ?_)
      obtain ⟨rfl, e9⟩ := hZ1
      replace e9 := e9.symm
      subst e9
      refine r_if_eq g 24 dX11_worth_9 (by decide) (fun _ => ?_) (fun hz => absurd hz (by decide))
      refine r_iconst g (-1) dX11_worth_24 (by decide) ?_
      exact hr.2.1 _ rfl _ _ _ _ _ _ dX11_worth_25 rfl (Nat.le_refl 0) (Nat.le_refl 0) h
    · replace h := h.2 c5
      refine r_callV (st := []) (As := [.int x5]) g sX11_180 iX8_hasLink eX8_hasLink rfl hs_a0_now rfl (Nat.le_of_ble_eq_true rfl) dX11_worth_6 (by omega) (Nat.le_refl 0) (Nat.le_refl 0) (P_X8_hasLink_2 (d := d - 1) hs_a0_now hr_a0_now_row hs_a0_now_row c1 hi4 c5) (fun r8 μ9 hZ1 => ?_)
      obtain ⟨rfl, e9⟩ := hZ1
      replace e9 := e9.symm
      subst e9
      refine r_if_eq g 24 dX11_worth_9 (by decide) (fun hz => absurd hz (by decide)) (fun _ => ?_)
      refine r_aload_n g dX11_worth_12 rfl ?_
      refine r_iload_n g dX11_worth_13 rfl ?_
      refine r_iload_n g dX11_worth_14 rfl ?_
      refine r_iload_n g dX11_worth_15 rfl ?_
      refine r_iload g dX11_worth_16 rfl ?_
      obtain ⟨d1, Z1, hc1, hd1, h1⟩ := h
      refine r_callV (st := []) (As := [.int x1, .int x2, .int x3, .int x4]) g sX11_260 iX11_isFound eX11_isFound rfl hs_a0 rfl (Nat.le_of_ble_eq_true rfl) dX11_worth_18 hd1 (Nat.le_refl 0) (Nat.le_refl 0) hc1 (fun r10 μ11 hZ1 => ?_)
      replace h := h1 _ _ hZ1
      clear h1 hc1 hd1 hZ1 Z1 d1
      obtain ⟨y12, rfl, h⟩ := h
      refine r_if_ne g 26 dX11_worth_21 (by decide) (fun c13 => ?_) (fun c13 => ?_)
      · replace h := h.1 c13
        refine r_aload_n g dX11_worth_26 rfl ?_
        obtain ⟨hs_a0_, h⟩ := h
        obtain ⟨finder_14, hr_finder_14, h⟩ := h
        refine r_getR g fX11_25 rfl hs_a0_ hr_finder_14 dX11_worth_27 ?_
        obtain ⟨hs_finder_14, h⟩ := h
        obtain ⟨best_15, hr_best_15, h⟩ := h
        refine r_getR g fX11_251 rfl hs_finder_14 hr_best_15 dX11_worth_30 ?_
        obtain ⟨hs_best_15, h⟩ := h
        refine r_getI g fX11_255 rfl hs_best_15 dX11_worth_33 ?_
        refine r_istore g [(6, .int (hI μ11 best_15 3)), (0, .ref a0), (1, .int x1), (2, .int x2), (3, .int x3), (4, .int x4), (5, .int x5)] dX11_worth_36 (by decide) rfl ?_
        refine r_aload_n g dX11_worth_38 rfl ?_
        obtain ⟨scratch_16, hr_scratch_16, h⟩ := h
        refine r_getR g fX11_100 rfl hs_a0_ hr_scratch_16 dX11_worth_39 ?_
        refine r_aload_n g dX11_worth_42 rfl ?_
        obtain ⟨now_17, hr_now_17, h⟩ := h
        refine r_getR g fX11_96 rfl hs_a0_ hr_now_17 dX11_worth_43 ?_
        obtain ⟨hs_scratch_16, h⟩ := h
        obtain ⟨d1, Z1, hc1, hd1, h1⟩ := h
        refine r_callV (st := []) (As := [.ref now_17]) g sX11_136 iX8_copyFrom eX8_copyFrom rfl hs_scratch_16 rfl (Nat.le_of_ble_eq_true rfl) dX11_worth_46 hd1 (Nat.le_refl 0) (Nat.le_refl 0) hc1 (fun r18 μ19 hZ1 => ?_)
        replace h := h1 _ _ hZ1
        clear h1 hc1 hd1 hZ1 Z1 d1
        obtain ⟨rfl, h⟩ := h
        refine r_aload_n g dX11_worth_49 rfl ?_
        obtain ⟨hs_a0__, h⟩ := h
        obtain ⟨scratch_20, hr_scratch_20, h⟩ := h
        refine r_getR g fX11_100 rfl hs_a0__ hr_scratch_20 dX11_worth_50 ?_
        refine r_iload g dX11_worth_53 rfl ?_
        obtain ⟨hs_scratch_20, h⟩ := h
        obtain ⟨d1, Z1, hc1, hd1, h1⟩ := h
        refine r_callV (st := []) (As := [.int x5]) g sX11_318 iX8_removeLink eX8_removeLink rfl hs_scratch_20 rfl (Nat.le_of_ble_eq_true rfl) dX11_worth_55 hd1 (Nat.le_refl 0) (Nat.le_refl 0) hc1 (fun r21 μ22 hZ1 => ?_)
        replace h := h1 _ _ hZ1
        clear h1 hc1 hd1 hZ1 Z1 d1
        obtain ⟨rfl, h⟩ := h
        refine r_iload g dX11_worth_58 rfl ?_
        refine r_iconst g 0 dX11_worth_60 (by decide) ?_
        refine r_aload_n g dX11_worth_61 rfl ?_
        refine r_aload_n g dX11_worth_62 rfl ?_
        obtain ⟨hs_a0___, h⟩ := h
        obtain ⟨scratch_23, hr_scratch_23, h⟩ := h
        refine r_getR g fX11_100 rfl hs_a0___ hr_scratch_23 dX11_worth_63 ?_
        refine r_iload_n g dX11_worth_66 rfl ?_
        refine r_iload_n g dX11_worth_67 rfl ?_
        refine r_iload_n g dX11_worth_68 rfl ?_
        refine r_iload g dX11_worth_69 rfl ?_
        obtain ⟨d1, Z1, hc1, hd1, h1⟩ := h
        refine r_callV (st := [.int 0, .int (hI μ11 best_15 3)]) (As := [.ref scratch_23, .int x1, .int x2, .int x3, .int x4]) g sX11_297 iX11_arrivesIn eX11_arrivesIn rfl hs_a0___ rfl (Nat.le_of_ble_eq_true rfl) dX11_worth_71 hd1 (Nat.le_refl 0) (Nat.le_refl 0) hc1 (fun r24 μ25 hZ1 => ?_)
        replace h := h1 _ _ hZ1
        clear h1 hc1 hd1 hZ1 Z1 d1
        obtain ⟨y26, rfl, h⟩ := h
        refine r_mmax g tX11_321 hd9 (Nat.le_refl 0) (Nat.le_refl 0) (Nat.le_of_ble_eq_true rfl) dX11_worth_74 ?_
        refine r_isub g dX11_worth_77 ?_
        exact hr.2.1 _ rfl _ _ _ _ _ _ dX11_worth_78 rfl (Nat.le_refl 0) (Nat.le_refl 0) h
      · replace h := h.2 c13
        refine r_iconst g (-1) dX11_worth_24 (by decide) ?_
        exact hr.2.1 _ rfl _ _ _ _ _ _ dX11_worth_25 rfl (Nat.le_refl 0) (Nat.le_refl 0) h
theorem I_X11_worth {d : Nat} {ro : Nat → Nat} {Z : Option Value → Hp → Prop} {μ : Hp} {a0 : Nat} {x1 : Int32} {x2 : Int32} {x3 : Int32} {x4 : Int32} {x5 : Int32} (h : ∀ J, xCtx RX11 cX11_worth 7 d 0 0 yX11_worth.name ro J → xRet cX11_worth (some .int) 0 0 Z J → J μ 0 0 0 [(0, .ref a0), (1, .int x1), (2, .int x2), (3, .int x3), (4, .int x4), (5, .int x5)] []) : xC d yX11_worth cX11_worth 7 (some .int) 0 0 [.ref a0, .int x1, .int x2, .int x3, .int x4, .int x5] μ ro Z :=
  xC_intro (own := RX11) (lv := [(0, .ref a0), (1, .int x1), (2, .int x2), (3, .int x3), (4, .int x4), (5, .int x5)]) (by decide) rfl (Nat.le_of_ble_eq_true rfl) rfl (fun J g hr => r_sub g (lv' := [(0, .ref a0), (1, .int x1), (2, .int x2), (3, .int x3), (4, .int x4), (5, .int x5)]) (⟨rfl, rfl, rfl, rfl, rfl, rfl, trivial⟩) (h J g hr))
theorem dX11_pay_0 : decode cX11_pay 0 = .ok (.aload_n 0, 1) := by decide +kernel
theorem dX11_pay_1 : decode cX11_pay 1 = .ok (.iconst 0, 1) := by decide +kernel
theorem dX11_pay_2 : decode cX11_pay 2 = .ok (.iload_n 1, 1) := by decide +kernel
theorem dX11_pay_3 : decode cX11_pay 3 = .ok (.iload_n 2, 1) := by decide +kernel
theorem dX11_pay_4 : decode cX11_pay 4 = .ok (.iload_n 3, 1) := by decide +kernel
theorem dX11_pay_5 : decode cX11_pay 5 = .ok (.iload 4, 2) := by decide +kernel
theorem dX11_pay_7 : decode cX11_pay 7 = .ok (.invokevirtual 324, 3) := by decide +kernel
theorem dX11_pay_10 : decode cX11_pay 10 = .ok (.ireturn, 1) := by decide +kernel
set_option maxHeartbeats 4000000 in
set_option maxRecDepth 100000 in
theorem B_X11_pay_0 {d : Nat} {ro : Nat → Nat} {J : JT} {Z : Option Value → Hp → Prop} (g : xCtx RX11 cX11_pay 5 d 0 0 yX11_pay.name ro J) (hr : xRet cX11_pay (some .int) 0 0 Z J) {μ : Hp} {a0 : Nat} {x1 : Int32} {x2 : Int32} {x3 : Int32} {x4 : Int32} (hs_a0 : hS μ a0 = some (14, 18))
    (h : xCall d yX11_actByHand cX11_actByHand 7 (some .int) [.ref a0, .int 0, .int x1, .int x2, .int x3, .int x4] μ ro (fun r1 μ2 => ∃ y3 : Int32, r1 = some (.int y3) ∧ Z (some (.int y3)) μ2)) :
    J μ 0 0 0 [(0, .ref a0), (1, .int x1), (2, .int x2), (3, .int x3), (4, .int x4)] [] := by
  refine r_aload_n g dX11_pay_0 rfl ?_
  refine r_iconst g 0 dX11_pay_1 (by decide) ?_
  refine r_iload_n g dX11_pay_2 rfl ?_
  refine r_iload_n g dX11_pay_3 rfl ?_
  refine r_iload_n g dX11_pay_4 rfl ?_
  refine r_iload g dX11_pay_5 rfl ?_
  obtain ⟨d1, Z1, hc1, hd1, h1⟩ := h
  refine r_callV (st := []) (As := [.int 0, .int x1, .int x2, .int x3, .int x4]) g sX11_324 iX11_actByHand eX11_actByHand rfl hs_a0 rfl (Nat.le_of_ble_eq_true rfl) dX11_pay_7 hd1 (Nat.le_refl 0) (Nat.le_refl 0) hc1 (fun r1 μ2 hZ1 => ?_)
  replace h := h1 _ _ hZ1
  clear h1 hc1 hd1 hZ1 Z1 d1
  obtain ⟨y3, rfl, h⟩ := h
  exact hr.2.1 _ rfl _ _ _ _ _ _ dX11_pay_10 rfl (Nat.le_refl 0) (Nat.le_refl 0) h
theorem I_X11_pay {d : Nat} {ro : Nat → Nat} {Z : Option Value → Hp → Prop} {μ : Hp} {a0 : Nat} {x1 : Int32} {x2 : Int32} {x3 : Int32} {x4 : Int32} (h : ∀ J, xCtx RX11 cX11_pay 5 d 0 0 yX11_pay.name ro J → xRet cX11_pay (some .int) 0 0 Z J → J μ 0 0 0 [(0, .ref a0), (1, .int x1), (2, .int x2), (3, .int x3), (4, .int x4)] []) : xC d yX11_pay cX11_pay 5 (some .int) 0 0 [.ref a0, .int x1, .int x2, .int x3, .int x4] μ ro Z :=
  xC_intro (own := RX11) (lv := [(0, .ref a0), (1, .int x1), (2, .int x2), (3, .int x3), (4, .int x4)]) (by decide) rfl (Nat.le_of_ble_eq_true rfl) rfl (fun J g hr => r_sub g (lv' := [(0, .ref a0), (1, .int x1), (2, .int x2), (3, .int x3), (4, .int x4)]) (⟨rfl, rfl, rfl, rfl, rfl, trivial⟩) (h J g hr))
theorem dX11_pass_0 : decode cX11_pass 0 = .ok (.aload_n 0, 1) := by decide +kernel
theorem dX11_pass_1 : decode cX11_pass 1 = .ok (.iconst 1, 1) := by decide +kernel
theorem dX11_pass_2 : decode cX11_pass 2 = .ok (.iload_n 1, 1) := by decide +kernel
theorem dX11_pass_3 : decode cX11_pass 3 = .ok (.iconst (-1), 1) := by decide +kernel
theorem dX11_pass_4 : decode cX11_pass 4 = .ok (.iconst (-1), 1) := by decide +kernel
theorem dX11_pass_5 : decode cX11_pass 5 = .ok (.iconst (-1), 1) := by decide +kernel
theorem dX11_pass_6 : decode cX11_pass 6 = .ok (.invokevirtual 324, 3) := by decide +kernel
theorem dX11_pass_9 : decode cX11_pass 9 = .ok (.ireturn, 1) := by decide +kernel
set_option maxHeartbeats 4000000 in
set_option maxRecDepth 100000 in
theorem B_X11_pass_0 {d : Nat} {ro : Nat → Nat} {J : JT} {Z : Option Value → Hp → Prop} (g : xCtx RX11 cX11_pass 2 d 0 0 yX11_pass.name ro J) (hr : xRet cX11_pass (some .int) 0 0 Z J) {μ : Hp} {a0 : Nat} {x1 : Int32} (hs_a0 : hS μ a0 = some (14, 18))
    (h : xCall d yX11_actByHand cX11_actByHand 7 (some .int) [.ref a0, .int 1, .int x1, .int (-1), .int (-1), .int (-1)] μ ro (fun r1 μ2 => ∃ y3 : Int32, r1 = some (.int y3) ∧ Z (some (.int y3)) μ2)) :
    J μ 0 0 0 [(0, .ref a0), (1, .int x1)] [] := by
  refine r_aload_n g dX11_pass_0 rfl ?_
  refine r_iconst g 1 dX11_pass_1 (by decide) ?_
  refine r_iload_n g dX11_pass_2 rfl ?_
  refine r_iconst g (-1) dX11_pass_3 (by decide) ?_
  refine r_iconst g (-1) dX11_pass_4 (by decide) ?_
  refine r_iconst g (-1) dX11_pass_5 (by decide) ?_
  obtain ⟨d1, Z1, hc1, hd1, h1⟩ := h
  refine r_callV (st := []) (As := [.int 1, .int x1, .int (-1), .int (-1), .int (-1)]) g sX11_324 iX11_actByHand eX11_actByHand rfl hs_a0 rfl (Nat.le_of_ble_eq_true rfl) dX11_pass_6 hd1 (Nat.le_refl 0) (Nat.le_refl 0) hc1 (fun r1 μ2 hZ1 => ?_)
  replace h := h1 _ _ hZ1
  clear h1 hc1 hd1 hZ1 Z1 d1
  obtain ⟨y3, rfl, h⟩ := h
  exact hr.2.1 _ rfl _ _ _ _ _ _ dX11_pass_9 rfl (Nat.le_refl 0) (Nat.le_refl 0) h
theorem I_X11_pass {d : Nat} {ro : Nat → Nat} {Z : Option Value → Hp → Prop} {μ : Hp} {a0 : Nat} {x1 : Int32} (h : ∀ J, xCtx RX11 cX11_pass 2 d 0 0 yX11_pass.name ro J → xRet cX11_pass (some .int) 0 0 Z J → J μ 0 0 0 [(0, .ref a0), (1, .int x1)] []) : xC d yX11_pass cX11_pass 2 (some .int) 0 0 [.ref a0, .int x1] μ ro Z :=
  xC_intro (own := RX11) (lv := [(0, .ref a0), (1, .int x1)]) (by decide) rfl (Nat.le_of_ble_eq_true rfl) rfl (fun J g hr => r_sub g (lv' := [(0, .ref a0), (1, .int x1)]) (⟨rfl, rfl, trivial⟩) (h J g hr))
theorem dX11_staff_0 : decode cX11_staff 0 = .ok (.aload_n 0, 1) := by decide +kernel
theorem dX11_staff_1 : decode cX11_staff 1 = .ok (.iconst 2, 1) := by decide +kernel
theorem dX11_staff_2 : decode cX11_staff 2 = .ok (.iload_n 1, 1) := by decide +kernel
theorem dX11_staff_3 : decode cX11_staff 3 = .ok (.iload_n 2, 1) := by decide +kernel
theorem dX11_staff_4 : decode cX11_staff 4 = .ok (.iconst (-1), 1) := by decide +kernel
theorem dX11_staff_5 : decode cX11_staff 5 = .ok (.iconst (-1), 1) := by decide +kernel
theorem dX11_staff_6 : decode cX11_staff 6 = .ok (.invokevirtual 324, 3) := by decide +kernel
theorem dX11_staff_9 : decode cX11_staff 9 = .ok (.ireturn, 1) := by decide +kernel
set_option maxHeartbeats 4000000 in
set_option maxRecDepth 100000 in
theorem B_X11_staff_0 {d : Nat} {ro : Nat → Nat} {J : JT} {Z : Option Value → Hp → Prop} (g : xCtx RX11 cX11_staff 3 d 0 0 yX11_staff.name ro J) (hr : xRet cX11_staff (some .int) 0 0 Z J) {μ : Hp} {a0 : Nat} {x1 : Int32} {x2 : Int32} (hs_a0 : hS μ a0 = some (14, 18))
    (h : xCall d yX11_actByHand cX11_actByHand 7 (some .int) [.ref a0, .int 2, .int x1, .int x2, .int (-1), .int (-1)] μ ro (fun r1 μ2 => ∃ y3 : Int32, r1 = some (.int y3) ∧ Z (some (.int y3)) μ2)) :
    J μ 0 0 0 [(0, .ref a0), (1, .int x1), (2, .int x2)] [] := by
  refine r_aload_n g dX11_staff_0 rfl ?_
  refine r_iconst g 2 dX11_staff_1 (by decide) ?_
  refine r_iload_n g dX11_staff_2 rfl ?_
  refine r_iload_n g dX11_staff_3 rfl ?_
  refine r_iconst g (-1) dX11_staff_4 (by decide) ?_
  refine r_iconst g (-1) dX11_staff_5 (by decide) ?_
  obtain ⟨d1, Z1, hc1, hd1, h1⟩ := h
  refine r_callV (st := []) (As := [.int 2, .int x1, .int x2, .int (-1), .int (-1)]) g sX11_324 iX11_actByHand eX11_actByHand rfl hs_a0 rfl (Nat.le_of_ble_eq_true rfl) dX11_staff_6 hd1 (Nat.le_refl 0) (Nat.le_refl 0) hc1 (fun r1 μ2 hZ1 => ?_)
  replace h := h1 _ _ hZ1
  clear h1 hc1 hd1 hZ1 Z1 d1
  obtain ⟨y3, rfl, h⟩ := h
  exact hr.2.1 _ rfl _ _ _ _ _ _ dX11_staff_9 rfl (Nat.le_refl 0) (Nat.le_refl 0) h
theorem I_X11_staff {d : Nat} {ro : Nat → Nat} {Z : Option Value → Hp → Prop} {μ : Hp} {a0 : Nat} {x1 : Int32} {x2 : Int32} (h : ∀ J, xCtx RX11 cX11_staff 3 d 0 0 yX11_staff.name ro J → xRet cX11_staff (some .int) 0 0 Z J → J μ 0 0 0 [(0, .ref a0), (1, .int x1), (2, .int x2)] []) : xC d yX11_staff cX11_staff 3 (some .int) 0 0 [.ref a0, .int x1, .int x2] μ ro Z :=
  xC_intro (own := RX11) (lv := [(0, .ref a0), (1, .int x1), (2, .int x2)]) (by decide) rfl (Nat.le_of_ble_eq_true rfl) rfl (fun J g hr => r_sub g (lv' := [(0, .ref a0), (1, .int x1), (2, .int x2)]) (⟨rfl, rfl, rfl, trivial⟩) (h J g hr))
theorem dX11_own_0 : decode cX11_own 0 = .ok (.aload_n 0, 1) := by decide +kernel
theorem dX11_own_1 : decode cX11_own 1 = .ok (.iconst 3, 1) := by decide +kernel
theorem dX11_own_2 : decode cX11_own 2 = .ok (.iload_n 1, 1) := by decide +kernel
theorem dX11_own_3 : decode cX11_own 3 = .ok (.iload_n 2, 1) := by decide +kernel
theorem dX11_own_4 : decode cX11_own 4 = .ok (.iload_n 3, 1) := by decide +kernel
theorem dX11_own_5 : decode cX11_own 5 = .ok (.iconst (-1), 1) := by decide +kernel
theorem dX11_own_6 : decode cX11_own 6 = .ok (.invokevirtual 324, 3) := by decide +kernel
theorem dX11_own_9 : decode cX11_own 9 = .ok (.ireturn, 1) := by decide +kernel
set_option maxHeartbeats 4000000 in
set_option maxRecDepth 100000 in
theorem B_X11_own_0 {d : Nat} {ro : Nat → Nat} {J : JT} {Z : Option Value → Hp → Prop} (g : xCtx RX11 cX11_own 4 d 0 0 yX11_own.name ro J) (hr : xRet cX11_own (some .int) 0 0 Z J) {μ : Hp} {a0 : Nat} {x1 : Int32} {x2 : Int32} {x3 : Int32} (hs_a0 : hS μ a0 = some (14, 18))
    (h : xCall d yX11_actByHand cX11_actByHand 7 (some .int) [.ref a0, .int 3, .int x1, .int x2, .int x3, .int (-1)] μ ro (fun r1 μ2 => ∃ y3 : Int32, r1 = some (.int y3) ∧ Z (some (.int y3)) μ2)) :
    J μ 0 0 0 [(0, .ref a0), (1, .int x1), (2, .int x2), (3, .int x3)] [] := by
  refine r_aload_n g dX11_own_0 rfl ?_
  refine r_iconst g 3 dX11_own_1 (by decide) ?_
  refine r_iload_n g dX11_own_2 rfl ?_
  refine r_iload_n g dX11_own_3 rfl ?_
  refine r_iload_n g dX11_own_4 rfl ?_
  refine r_iconst g (-1) dX11_own_5 (by decide) ?_
  obtain ⟨d1, Z1, hc1, hd1, h1⟩ := h
  refine r_callV (st := []) (As := [.int 3, .int x1, .int x2, .int x3, .int (-1)]) g sX11_324 iX11_actByHand eX11_actByHand rfl hs_a0 rfl (Nat.le_of_ble_eq_true rfl) dX11_own_6 hd1 (Nat.le_refl 0) (Nat.le_refl 0) hc1 (fun r1 μ2 hZ1 => ?_)
  replace h := h1 _ _ hZ1
  clear h1 hc1 hd1 hZ1 Z1 d1
  obtain ⟨y3, rfl, h⟩ := h
  exact hr.2.1 _ rfl _ _ _ _ _ _ dX11_own_9 rfl (Nat.le_refl 0) (Nat.le_refl 0) h
theorem I_X11_own {d : Nat} {ro : Nat → Nat} {Z : Option Value → Hp → Prop} {μ : Hp} {a0 : Nat} {x1 : Int32} {x2 : Int32} {x3 : Int32} (h : ∀ J, xCtx RX11 cX11_own 4 d 0 0 yX11_own.name ro J → xRet cX11_own (some .int) 0 0 Z J → J μ 0 0 0 [(0, .ref a0), (1, .int x1), (2, .int x2), (3, .int x3)] []) : xC d yX11_own cX11_own 4 (some .int) 0 0 [.ref a0, .int x1, .int x2, .int x3] μ ro Z :=
  xC_intro (own := RX11) (lv := [(0, .ref a0), (1, .int x1), (2, .int x2), (3, .int x3)]) (by decide) rfl (Nat.le_of_ble_eq_true rfl) rfl (fun J g hr => r_sub g (lv' := [(0, .ref a0), (1, .int x1), (2, .int x2), (3, .int x3)]) (⟨rfl, rfl, rfl, rfl, trivial⟩) (h J g hr))
theorem dX11_lend_0 : decode cX11_lend 0 = .ok (.aload_n 0, 1) := by decide +kernel
theorem dX11_lend_1 : decode cX11_lend 1 = .ok (.iconst 4, 1) := by decide +kernel
theorem dX11_lend_2 : decode cX11_lend 2 = .ok (.iload_n 1, 1) := by decide +kernel
theorem dX11_lend_3 : decode cX11_lend 3 = .ok (.iload_n 2, 1) := by decide +kernel
theorem dX11_lend_4 : decode cX11_lend 4 = .ok (.iconst (-1), 1) := by decide +kernel
theorem dX11_lend_5 : decode cX11_lend 5 = .ok (.iconst (-1), 1) := by decide +kernel
theorem dX11_lend_6 : decode cX11_lend 6 = .ok (.invokevirtual 324, 3) := by decide +kernel
theorem dX11_lend_9 : decode cX11_lend 9 = .ok (.ireturn, 1) := by decide +kernel
set_option maxHeartbeats 4000000 in
set_option maxRecDepth 100000 in
theorem B_X11_lend_0 {d : Nat} {ro : Nat → Nat} {J : JT} {Z : Option Value → Hp → Prop} (g : xCtx RX11 cX11_lend 3 d 0 0 yX11_lend.name ro J) (hr : xRet cX11_lend (some .int) 0 0 Z J) {μ : Hp} {a0 : Nat} {x1 : Int32} {x2 : Int32} (hs_a0 : hS μ a0 = some (14, 18))
    (h : xCall d yX11_actByHand cX11_actByHand 7 (some .int) [.ref a0, .int 4, .int x1, .int x2, .int (-1), .int (-1)] μ ro (fun r1 μ2 => ∃ y3 : Int32, r1 = some (.int y3) ∧ Z (some (.int y3)) μ2)) :
    J μ 0 0 0 [(0, .ref a0), (1, .int x1), (2, .int x2)] [] := by
  refine r_aload_n g dX11_lend_0 rfl ?_
  refine r_iconst g 4 dX11_lend_1 (by decide) ?_
  refine r_iload_n g dX11_lend_2 rfl ?_
  refine r_iload_n g dX11_lend_3 rfl ?_
  refine r_iconst g (-1) dX11_lend_4 (by decide) ?_
  refine r_iconst g (-1) dX11_lend_5 (by decide) ?_
  obtain ⟨d1, Z1, hc1, hd1, h1⟩ := h
  refine r_callV (st := []) (As := [.int 4, .int x1, .int x2, .int (-1), .int (-1)]) g sX11_324 iX11_actByHand eX11_actByHand rfl hs_a0 rfl (Nat.le_of_ble_eq_true rfl) dX11_lend_6 hd1 (Nat.le_refl 0) (Nat.le_refl 0) hc1 (fun r1 μ2 hZ1 => ?_)
  replace h := h1 _ _ hZ1
  clear h1 hc1 hd1 hZ1 Z1 d1
  obtain ⟨y3, rfl, h⟩ := h
  exact hr.2.1 _ rfl _ _ _ _ _ _ dX11_lend_9 rfl (Nat.le_refl 0) (Nat.le_refl 0) h
theorem I_X11_lend {d : Nat} {ro : Nat → Nat} {Z : Option Value → Hp → Prop} {μ : Hp} {a0 : Nat} {x1 : Int32} {x2 : Int32} (h : ∀ J, xCtx RX11 cX11_lend 3 d 0 0 yX11_lend.name ro J → xRet cX11_lend (some .int) 0 0 Z J → J μ 0 0 0 [(0, .ref a0), (1, .int x1), (2, .int x2)] []) : xC d yX11_lend cX11_lend 3 (some .int) 0 0 [.ref a0, .int x1, .int x2] μ ro Z :=
  xC_intro (own := RX11) (lv := [(0, .ref a0), (1, .int x1), (2, .int x2)]) (by decide) rfl (Nat.le_of_ble_eq_true rfl) rfl (fun J g hr => r_sub g (lv' := [(0, .ref a0), (1, .int x1), (2, .int x2)]) (⟨rfl, rfl, rfl, trivial⟩) (h J g hr))
theorem dX11_actByHand_0 : decode cX11_actByHand 0 = .ok (.aload_n 0, 1) := by decide +kernel
theorem dX11_actByHand_1 : decode cX11_actByHand 1 = .ok (.getfield 34, 3) := by decide +kernel
theorem dX11_actByHand_4 : decode cX11_actByHand 4 = .ok (.aload_n 0, 1) := by decide +kernel
theorem dX11_actByHand_5 : decode cX11_actByHand 5 = .ok (.getfield 96, 3) := by decide +kernel
theorem dX11_actByHand_8 : decode cX11_actByHand 8 = .ok (.iload_n 1, 1) := by decide +kernel
theorem dX11_actByHand_9 : decode cX11_actByHand 9 = .ok (.iload_n 2, 1) := by decide +kernel
theorem dX11_actByHand_10 : decode cX11_actByHand 10 = .ok (.iload_n 3, 1) := by decide +kernel
theorem dX11_actByHand_11 : decode cX11_actByHand 11 = .ok (.iload 4, 2) := by decide +kernel
theorem dX11_actByHand_13 : decode cX11_actByHand 13 = .ok (.iload 5, 2) := by decide +kernel
theorem dX11_actByHand_15 : decode cX11_actByHand 15 = .ok (.invokevirtual 328, 3) := by decide +kernel
theorem dX11_actByHand_18 : decode cX11_actByHand 18 = .ok (.istore 6, 2) := by decide +kernel
theorem dX11_actByHand_20 : decode cX11_actByHand 20 = .ok (.iload 6, 2) := by decide +kernel
theorem dX11_actByHand_22 : decode cX11_actByHand 22 = .ok (.iconst (-1), 1) := by decide +kernel
theorem dX11_actByHand_23 : decode cX11_actByHand 23 = .ok (.if_icmp .eq 16, 3) := by decide +kernel
theorem dX11_actByHand_26 : decode cX11_actByHand 26 = .ok (.aload_n 0, 1) := by decide +kernel
theorem dX11_actByHand_27 : decode cX11_actByHand 27 = .ok (.getfield 62, 3) := by decide +kernel
theorem dX11_actByHand_30 : decode cX11_actByHand 30 = .ok (.iload 6, 2) := by decide +kernel
theorem dX11_actByHand_32 : decode cX11_actByHand 32 = .ok (.dup2, 1) := by decide +kernel
theorem dX11_actByHand_33 : decode cX11_actByHand 33 = .ok (.iaload, 1) := by decide +kernel
theorem dX11_actByHand_34 : decode cX11_actByHand 34 = .ok (.iconst 1, 1) := by decide +kernel
theorem dX11_actByHand_35 : decode cX11_actByHand 35 = .ok (.iadd, 1) := by decide +kernel
theorem dX11_actByHand_36 : decode cX11_actByHand 36 = .ok (.iastore, 1) := by decide +kernel
theorem dX11_actByHand_37 : decode cX11_actByHand 37 = .ok (.iconst (-1), 1) := by decide +kernel
theorem dX11_actByHand_38 : decode cX11_actByHand 38 = .ok (.ireturn, 1) := by decide +kernel
theorem dX11_actByHand_39 : decode cX11_actByHand 39 = .ok (.aload_n 0, 1) := by decide +kernel
theorem dX11_actByHand_40 : decode cX11_actByHand 40 = .ok (.iload_n 1, 1) := by decide +kernel
theorem dX11_actByHand_41 : decode cX11_actByHand 41 = .ok (.iload_n 2, 1) := by decide +kernel
theorem dX11_actByHand_42 : decode cX11_actByHand 42 = .ok (.iload_n 3, 1) := by decide +kernel
theorem dX11_actByHand_43 : decode cX11_actByHand 43 = .ok (.iload 4, 2) := by decide +kernel
theorem dX11_actByHand_45 : decode cX11_actByHand 45 = .ok (.invokevirtual 332, 3) := by decide +kernel
theorem dX11_actByHand_48 : decode cX11_actByHand 48 = .ok (.ireturn, 1) := by decide +kernel
set_option maxHeartbeats 4000000 in
set_option maxRecDepth 100000 in
theorem B_X11_actByHand_0 {d : Nat} {ro : Nat → Nat} {J : JT} {Z : Option Value → Hp → Prop} (g : xCtx RX11 cX11_actByHand 7 d 0 0 yX11_actByHand.name ro J) (hr : xRet cX11_actByHand (some .int) 0 0 Z J) {μ : Hp} {a0 : Nat} {x1 : Int32} {x2 : Int32} {x3 : Int32} {x4 : Int32} {x5 : Int32} {a0_acts : Nat} {a0_now : Nat} (hs_a0 : hS μ a0 = some (14, 18)) (hr_a0_acts : hR μ a0 3 = some a0_acts) (hr_a0_now : hR μ a0 10 = some a0_now) (hs_a0_acts : hS μ a0_acts = some (5, 1))
    (h : xCall d yX1_reasonAgainst cX1_reasonAgainst 7 (some .int) [.ref a0_acts, .ref a0_now, .int x1, .int x2, .int x3, .int x4, .int x5] μ ro (fun r1 μ2 => ∃ y3 : Int32, r1 = some (.int y3) ∧ ((y3 = (-1) → hS μ2 a0 = some (14, 18) ∧ xCall d yX11_actNow cX11_actNow 6 (some .int) [.ref a0, .int x1, .int x2, .int x3, .int x4] μ2 ro (fun r5 μ6 => ∃ y7 : Int32, r5 = some (.int y7) ∧ Z (some (.int y7)) μ6)) ∧ (¬ y3 = (-1) → hS μ2 a0 = some (14, 18) ∧ ∃ refused_8 : Nat, hR μ2 a0 8 = some refused_8 ∧ ∃ N9 : Nat, hS μ2 refused_8 = some (0, N9) ∧ vp_in y3 N9 ∧ Z (some (.int (-1))) (wI μ2 refused_8 y3.toNatClampNeg ((hI μ2 refused_8 y3.toNatClampNeg) + 1)))))) :
    J μ 0 0 0 [(0, .ref a0), (1, .int x1), (2, .int x2), (3, .int x3), (4, .int x4), (5, .int x5)] [] := by
  refine r_aload_n g dX11_actByHand_0 rfl ?_
  refine r_getR g fX11_34 rfl hs_a0 hr_a0_acts dX11_actByHand_1 ?_
  refine r_aload_n g dX11_actByHand_4 rfl ?_
  refine r_getR g fX11_96 rfl hs_a0 hr_a0_now dX11_actByHand_5 ?_
  refine r_iload_n g dX11_actByHand_8 rfl ?_
  refine r_iload_n g dX11_actByHand_9 rfl ?_
  refine r_iload_n g dX11_actByHand_10 rfl ?_
  refine r_iload g dX11_actByHand_11 rfl ?_
  refine r_iload g dX11_actByHand_13 rfl ?_
  obtain ⟨d1, Z1, hc1, hd1, h1⟩ := h
  refine r_callV (st := []) (As := [.ref a0_now, .int x1, .int x2, .int x3, .int x4, .int x5]) g sX11_328 iX1_reasonAgainst eX1_reasonAgainst rfl hs_a0_acts rfl (Nat.le_of_ble_eq_true rfl) dX11_actByHand_15 hd1 (Nat.le_refl 0) (Nat.le_refl 0) hc1 (fun r1 μ2 hZ1 => ?_)
  replace h := h1 _ _ hZ1
  clear h1 hc1 hd1 hZ1 Z1 d1
  obtain ⟨y3, rfl, h⟩ := h
  refine r_istore g [(6, .int y3), (0, .ref a0), (1, .int x1), (2, .int x2), (3, .int x3), (4, .int x4), (5, .int x5)] dX11_actByHand_18 (by decide) rfl ?_
  refine r_iload g dX11_actByHand_20 rfl ?_
  refine r_iconst g (-1) dX11_actByHand_22 (by decide) ?_
  refine r_icmp_eq g 39 dX11_actByHand_23 (by decide) (fun c4 => ?_) (fun c4 => ?_)
  · replace h := h.1 c4
    refine r_aload_n g dX11_actByHand_39 rfl ?_
    refine r_iload_n g dX11_actByHand_40 rfl ?_
    refine r_iload_n g dX11_actByHand_41 rfl ?_
    refine r_iload_n g dX11_actByHand_42 rfl ?_
    refine r_iload g dX11_actByHand_43 rfl ?_
    obtain ⟨hs_a0_, h⟩ := h
    obtain ⟨d1, Z1, hc1, hd1, h1⟩ := h
    refine r_callV (st := []) (As := [.int x1, .int x2, .int x3, .int x4]) g sX11_332 iX11_actNow eX11_actNow rfl hs_a0_ rfl (Nat.le_of_ble_eq_true rfl) dX11_actByHand_45 hd1 (Nat.le_refl 0) (Nat.le_refl 0) hc1 (fun r5 μ6 hZ1 => ?_)
    replace h := h1 _ _ hZ1
    clear h1 hc1 hd1 hZ1 Z1 d1
    obtain ⟨y7, rfl, h⟩ := h
    exact hr.2.1 _ rfl _ _ _ _ _ _ dX11_actByHand_48 rfl (Nat.le_refl 0) (Nat.le_refl 0) h
  · replace h := h.2 c4
    refine r_aload_n g dX11_actByHand_26 rfl ?_
    obtain ⟨hs_a0__, h⟩ := h
    obtain ⟨refused_8, hr_refused_8, h⟩ := h
    refine r_getR g fX11_62 rfl hs_a0__ hr_refused_8 dX11_actByHand_27 ?_
    refine r_iload g dX11_actByHand_30 rfl ?_
    refine r_dup2_11 g dX11_actByHand_32 rfl rfl ?_
    obtain ⟨N9, hs_refused_8, h⟩ := h
    obtain ⟨hi10, h⟩ := h
    refine r_iaload g hs_refused_8 hi10 dX11_actByHand_33 ?_
    refine r_iconst g 1 dX11_actByHand_34 (by decide) ?_
    refine r_iadd g dX11_actByHand_35 ?_
    refine r_iastore g hs_refused_8 hi10 dX11_actByHand_36 ?_
    refine r_iconst g (-1) dX11_actByHand_37 (by decide) ?_
    exact hr.2.1 _ rfl _ _ _ _ _ _ dX11_actByHand_38 rfl (Nat.le_refl 0) (Nat.le_refl 0) h
theorem I_X11_actByHand {d : Nat} {ro : Nat → Nat} {Z : Option Value → Hp → Prop} {μ : Hp} {a0 : Nat} {x1 : Int32} {x2 : Int32} {x3 : Int32} {x4 : Int32} {x5 : Int32} (h : ∀ J, xCtx RX11 cX11_actByHand 7 d 0 0 yX11_actByHand.name ro J → xRet cX11_actByHand (some .int) 0 0 Z J → J μ 0 0 0 [(0, .ref a0), (1, .int x1), (2, .int x2), (3, .int x3), (4, .int x4), (5, .int x5)] []) : xC d yX11_actByHand cX11_actByHand 7 (some .int) 0 0 [.ref a0, .int x1, .int x2, .int x3, .int x4, .int x5] μ ro Z :=
  xC_intro (own := RX11) (lv := [(0, .ref a0), (1, .int x1), (2, .int x2), (3, .int x3), (4, .int x4), (5, .int x5)]) (by decide) rfl (Nat.le_of_ble_eq_true rfl) rfl (fun J g hr => r_sub g (lv' := [(0, .ref a0), (1, .int x1), (2, .int x2), (3, .int x3), (4, .int x4), (5, .int x5)]) (⟨rfl, rfl, rfl, rfl, rfl, rfl, trivial⟩) (h J g hr))
theorem dX11_actIfItCanBe_0 : decode cX11_actIfItCanBe 0 = .ok (.aload_n 0, 1) := by decide +kernel
theorem dX11_actIfItCanBe_1 : decode cX11_actIfItCanBe 1 = .ok (.getfield 34, 3) := by decide +kernel
theorem dX11_actIfItCanBe_4 : decode cX11_actIfItCanBe 4 = .ok (.aload_n 0, 1) := by decide +kernel
theorem dX11_actIfItCanBe_5 : decode cX11_actIfItCanBe 5 = .ok (.getfield 96, 3) := by decide +kernel
theorem dX11_actIfItCanBe_8 : decode cX11_actIfItCanBe 8 = .ok (.aload_n 1, 1) := by decide +kernel
theorem dX11_actIfItCanBe_9 : decode cX11_actIfItCanBe 9 = .ok (.iload_n 2, 1) := by decide +kernel
theorem dX11_actIfItCanBe_10 : decode cX11_actIfItCanBe 10 = .ok (.iaload, 1) := by decide +kernel
theorem dX11_actIfItCanBe_11 : decode cX11_actIfItCanBe 11 = .ok (.aload_n 1, 1) := by decide +kernel
theorem dX11_actIfItCanBe_12 : decode cX11_actIfItCanBe 12 = .ok (.iload_n 2, 1) := by decide +kernel
theorem dX11_actIfItCanBe_13 : decode cX11_actIfItCanBe 13 = .ok (.iconst 1, 1) := by decide +kernel
theorem dX11_actIfItCanBe_14 : decode cX11_actIfItCanBe 14 = .ok (.iadd, 1) := by decide +kernel
theorem dX11_actIfItCanBe_15 : decode cX11_actIfItCanBe 15 = .ok (.iaload, 1) := by decide +kernel
theorem dX11_actIfItCanBe_16 : decode cX11_actIfItCanBe 16 = .ok (.aload_n 1, 1) := by decide +kernel
theorem dX11_actIfItCanBe_17 : decode cX11_actIfItCanBe 17 = .ok (.iload_n 2, 1) := by decide +kernel
theorem dX11_actIfItCanBe_18 : decode cX11_actIfItCanBe 18 = .ok (.iconst 2, 1) := by decide +kernel
theorem dX11_actIfItCanBe_19 : decode cX11_actIfItCanBe 19 = .ok (.iadd, 1) := by decide +kernel
theorem dX11_actIfItCanBe_20 : decode cX11_actIfItCanBe 20 = .ok (.iaload, 1) := by decide +kernel
theorem dX11_actIfItCanBe_21 : decode cX11_actIfItCanBe 21 = .ok (.aload_n 1, 1) := by decide +kernel
theorem dX11_actIfItCanBe_22 : decode cX11_actIfItCanBe 22 = .ok (.iload_n 2, 1) := by decide +kernel
theorem dX11_actIfItCanBe_23 : decode cX11_actIfItCanBe 23 = .ok (.iconst 3, 1) := by decide +kernel
theorem dX11_actIfItCanBe_24 : decode cX11_actIfItCanBe 24 = .ok (.iadd, 1) := by decide +kernel
theorem dX11_actIfItCanBe_25 : decode cX11_actIfItCanBe 25 = .ok (.iaload, 1) := by decide +kernel
theorem dX11_actIfItCanBe_26 : decode cX11_actIfItCanBe 26 = .ok (.aload_n 1, 1) := by decide +kernel
theorem dX11_actIfItCanBe_27 : decode cX11_actIfItCanBe 27 = .ok (.iload_n 2, 1) := by decide +kernel
theorem dX11_actIfItCanBe_28 : decode cX11_actIfItCanBe 28 = .ok (.iconst 4, 1) := by decide +kernel
theorem dX11_actIfItCanBe_29 : decode cX11_actIfItCanBe 29 = .ok (.iadd, 1) := by decide +kernel
theorem dX11_actIfItCanBe_30 : decode cX11_actIfItCanBe 30 = .ok (.iaload, 1) := by decide +kernel
theorem dX11_actIfItCanBe_31 : decode cX11_actIfItCanBe 31 = .ok (.invokevirtual 328, 3) := by decide +kernel
theorem dX11_actIfItCanBe_34 : decode cX11_actIfItCanBe 34 = .ok (.iconst (-1), 1) := by decide +kernel
theorem dX11_actIfItCanBe_35 : decode cX11_actIfItCanBe 35 = .ok (.if_icmp .eq 5, 3) := by decide +kernel
theorem dX11_actIfItCanBe_38 : decode cX11_actIfItCanBe 38 = .ok (.iconst 0, 1) := by decide +kernel
theorem dX11_actIfItCanBe_39 : decode cX11_actIfItCanBe 39 = .ok (.ireturn, 1) := by decide +kernel
theorem dX11_actIfItCanBe_40 : decode cX11_actIfItCanBe 40 = .ok (.aload_n 0, 1) := by decide +kernel
theorem dX11_actIfItCanBe_41 : decode cX11_actIfItCanBe 41 = .ok (.aload_n 1, 1) := by decide +kernel
theorem dX11_actIfItCanBe_42 : decode cX11_actIfItCanBe 42 = .ok (.iload_n 2, 1) := by decide +kernel
theorem dX11_actIfItCanBe_43 : decode cX11_actIfItCanBe 43 = .ok (.iaload, 1) := by decide +kernel
theorem dX11_actIfItCanBe_44 : decode cX11_actIfItCanBe 44 = .ok (.aload_n 1, 1) := by decide +kernel
theorem dX11_actIfItCanBe_45 : decode cX11_actIfItCanBe 45 = .ok (.iload_n 2, 1) := by decide +kernel
theorem dX11_actIfItCanBe_46 : decode cX11_actIfItCanBe 46 = .ok (.iconst 1, 1) := by decide +kernel
theorem dX11_actIfItCanBe_47 : decode cX11_actIfItCanBe 47 = .ok (.iadd, 1) := by decide +kernel
theorem dX11_actIfItCanBe_48 : decode cX11_actIfItCanBe 48 = .ok (.iaload, 1) := by decide +kernel
theorem dX11_actIfItCanBe_49 : decode cX11_actIfItCanBe 49 = .ok (.aload_n 1, 1) := by decide +kernel
theorem dX11_actIfItCanBe_50 : decode cX11_actIfItCanBe 50 = .ok (.iload_n 2, 1) := by decide +kernel
theorem dX11_actIfItCanBe_51 : decode cX11_actIfItCanBe 51 = .ok (.iconst 2, 1) := by decide +kernel
theorem dX11_actIfItCanBe_52 : decode cX11_actIfItCanBe 52 = .ok (.iadd, 1) := by decide +kernel
theorem dX11_actIfItCanBe_53 : decode cX11_actIfItCanBe 53 = .ok (.iaload, 1) := by decide +kernel
theorem dX11_actIfItCanBe_54 : decode cX11_actIfItCanBe 54 = .ok (.aload_n 1, 1) := by decide +kernel
theorem dX11_actIfItCanBe_55 : decode cX11_actIfItCanBe 55 = .ok (.iload_n 2, 1) := by decide +kernel
theorem dX11_actIfItCanBe_56 : decode cX11_actIfItCanBe 56 = .ok (.iconst 3, 1) := by decide +kernel
theorem dX11_actIfItCanBe_57 : decode cX11_actIfItCanBe 57 = .ok (.iadd, 1) := by decide +kernel
theorem dX11_actIfItCanBe_58 : decode cX11_actIfItCanBe 58 = .ok (.iaload, 1) := by decide +kernel
theorem dX11_actIfItCanBe_59 : decode cX11_actIfItCanBe 59 = .ok (.invokevirtual 332, 3) := by decide +kernel
theorem dX11_actIfItCanBe_62 : decode cX11_actIfItCanBe 62 = .ok (.pop, 1) := by decide +kernel
theorem dX11_actIfItCanBe_63 : decode cX11_actIfItCanBe 63 = .ok (.iconst 1, 1) := by decide +kernel
theorem dX11_actIfItCanBe_64 : decode cX11_actIfItCanBe 64 = .ok (.ireturn, 1) := by decide +kernel
set_option maxHeartbeats 4000000 in
set_option maxRecDepth 100000 in
theorem B_X11_actIfItCanBe_0 {d : Nat} {ro : Nat → Nat} {J : JT} {Z : Option Value → Hp → Prop} (g : xCtx RX11 cX11_actIfItCanBe 3 d 0 0 yX11_actIfItCanBe.name ro J) (hr : xRet cX11_actIfItCanBe (some .boolean) 0 0 Z J) {μ : Hp} {a0 : Nat} {a1 : Nat} {x2 : Int32} {a0_acts : Nat} {a0_now : Nat} {N_a1 : Nat} (hs_a0 : hS μ a0 = some (14, 18)) (hr_a0_acts : hR μ a0 3 = some a0_acts) (hr_a0_now : hR μ a0 10 = some a0_now) (hs_a1 : hS μ a1 = some (0, N_a1)) (hs_a0_acts : hS μ a0_acts = some (5, 1))
    (h : vp_in x2 N_a1 ∧ vp_in (x2 + 1) N_a1 ∧ vp_in (x2 + 2) N_a1 ∧ vp_in (x2 + 3) N_a1 ∧ vp_in (x2 + 4) N_a1 ∧ xCall d yX1_reasonAgainst cX1_reasonAgainst 7 (some .int) [.ref a0_acts, .ref a0_now, .int (hI μ a1 x2.toNatClampNeg), .int (hI μ a1 ((x2 + 1).toNatClampNeg)), .int (hI μ a1 ((x2 + 2).toNatClampNeg)), .int (hI μ a1 ((x2 + 3).toNatClampNeg)), .int (hI μ a1 ((x2 + 4).toNatClampNeg))] μ ro (fun r6 μ7 => ∃ y8 : Int32, r6 = some (.int y8) ∧ ((y8 = (-1) → ∃ N10 : Nat, hS μ7 a1 = some (0, N10) ∧ vp_in x2 N10 ∧ vp_in (x2 + 1) N10 ∧ vp_in (x2 + 2) N10 ∧ vp_in (x2 + 3) N10 ∧ hS μ7 a0 = some (14, 18) ∧ xCall d yX11_actNow cX11_actNow 6 (some .int) [.ref a0, .int (hI μ7 a1 x2.toNatClampNeg), .int (hI μ7 a1 ((x2 + 1).toNatClampNeg)), .int (hI μ7 a1 ((x2 + 2).toNatClampNeg)), .int (hI μ7 a1 ((x2 + 3).toNatClampNeg))] μ7 ro (fun r15 μ16 => ∃ y17 : Int32, r15 = some (.int y17) ∧ Z (some (.int 1)) μ16)) ∧ (¬ y8 = (-1) → Z (some (.int 0)) μ7)))) :
    J μ 0 0 0 [(0, .ref a0), (1, .ref a1), (2, .int x2)] [] := by
  refine r_aload_n g dX11_actIfItCanBe_0 rfl ?_
  refine r_getR g fX11_34 rfl hs_a0 hr_a0_acts dX11_actIfItCanBe_1 ?_
  refine r_aload_n g dX11_actIfItCanBe_4 rfl ?_
  refine r_getR g fX11_96 rfl hs_a0 hr_a0_now dX11_actIfItCanBe_5 ?_
  refine r_aload_n g dX11_actIfItCanBe_8 rfl ?_
  refine r_iload_n g dX11_actIfItCanBe_9 rfl ?_
  obtain ⟨hi1, h⟩ := h
  refine r_iaload g hs_a1 hi1 dX11_actIfItCanBe_10 ?_
  refine r_aload_n g dX11_actIfItCanBe_11 rfl ?_
  refine r_iload_n g dX11_actIfItCanBe_12 rfl ?_
  refine r_iconst g 1 dX11_actIfItCanBe_13 (by decide) ?_
  refine r_iadd g dX11_actIfItCanBe_14 ?_
  obtain ⟨hi2, h⟩ := h
  refine r_iaload g hs_a1 hi2 dX11_actIfItCanBe_15 ?_
  refine r_aload_n g dX11_actIfItCanBe_16 rfl ?_
  refine r_iload_n g dX11_actIfItCanBe_17 rfl ?_
  refine r_iconst g 2 dX11_actIfItCanBe_18 (by decide) ?_
  refine r_iadd g dX11_actIfItCanBe_19 ?_
  obtain ⟨hi3, h⟩ := h
  refine r_iaload g hs_a1 hi3 dX11_actIfItCanBe_20 ?_
  refine r_aload_n g dX11_actIfItCanBe_21 rfl ?_
  refine r_iload_n g dX11_actIfItCanBe_22 rfl ?_
  refine r_iconst g 3 dX11_actIfItCanBe_23 (by decide) ?_
  refine r_iadd g dX11_actIfItCanBe_24 ?_
  obtain ⟨hi4, h⟩ := h
  refine r_iaload g hs_a1 hi4 dX11_actIfItCanBe_25 ?_
  refine r_aload_n g dX11_actIfItCanBe_26 rfl ?_
  refine r_iload_n g dX11_actIfItCanBe_27 rfl ?_
  refine r_iconst g 4 dX11_actIfItCanBe_28 (by decide) ?_
  refine r_iadd g dX11_actIfItCanBe_29 ?_
  obtain ⟨hi5, h⟩ := h
  refine r_iaload g hs_a1 hi5 dX11_actIfItCanBe_30 ?_
  obtain ⟨d1, Z1, hc1, hd1, h1⟩ := h
  refine r_callV (st := []) (As := [.ref a0_now, .int (hI μ a1 x2.toNatClampNeg), .int (hI μ a1 ((x2 + 1).toNatClampNeg)), .int (hI μ a1 ((x2 + 2).toNatClampNeg)), .int (hI μ a1 ((x2 + 3).toNatClampNeg)), .int (hI μ a1 ((x2 + 4).toNatClampNeg))]) g sX11_328 iX1_reasonAgainst eX1_reasonAgainst rfl hs_a0_acts rfl (Nat.le_of_ble_eq_true rfl) dX11_actIfItCanBe_31 hd1 (Nat.le_refl 0) (Nat.le_refl 0) hc1 (fun r6 μ7 hZ1 => ?_)
  replace h := h1 _ _ hZ1
  clear h1 hc1 hd1 hZ1 Z1 d1
  obtain ⟨y8, rfl, h⟩ := h
  refine r_iconst g (-1) dX11_actIfItCanBe_34 (by decide) ?_
  refine r_icmp_eq g 40 dX11_actIfItCanBe_35 (by decide) (fun c9 => ?_) (fun c9 => ?_)
  · replace h := h.1 c9
    refine r_aload_n g dX11_actIfItCanBe_40 rfl ?_
    refine r_aload_n g dX11_actIfItCanBe_41 rfl ?_
    refine r_iload_n g dX11_actIfItCanBe_42 rfl ?_
    obtain ⟨N10, hs_a1_, h⟩ := h
    obtain ⟨hi11, h⟩ := h
    refine r_iaload g hs_a1_ hi11 dX11_actIfItCanBe_43 ?_
    refine r_aload_n g dX11_actIfItCanBe_44 rfl ?_
    refine r_iload_n g dX11_actIfItCanBe_45 rfl ?_
    refine r_iconst g 1 dX11_actIfItCanBe_46 (by decide) ?_
    refine r_iadd g dX11_actIfItCanBe_47 ?_
    obtain ⟨hi12, h⟩ := h
    refine r_iaload g hs_a1_ hi12 dX11_actIfItCanBe_48 ?_
    refine r_aload_n g dX11_actIfItCanBe_49 rfl ?_
    refine r_iload_n g dX11_actIfItCanBe_50 rfl ?_
    refine r_iconst g 2 dX11_actIfItCanBe_51 (by decide) ?_
    refine r_iadd g dX11_actIfItCanBe_52 ?_
    obtain ⟨hi13, h⟩ := h
    refine r_iaload g hs_a1_ hi13 dX11_actIfItCanBe_53 ?_
    refine r_aload_n g dX11_actIfItCanBe_54 rfl ?_
    refine r_iload_n g dX11_actIfItCanBe_55 rfl ?_
    refine r_iconst g 3 dX11_actIfItCanBe_56 (by decide) ?_
    refine r_iadd g dX11_actIfItCanBe_57 ?_
    obtain ⟨hi14, h⟩ := h
    refine r_iaload g hs_a1_ hi14 dX11_actIfItCanBe_58 ?_
    obtain ⟨hs_a0_, h⟩ := h
    obtain ⟨d1, Z1, hc1, hd1, h1⟩ := h
    refine r_callV (st := []) (As := [.int (hI μ7 a1 x2.toNatClampNeg), .int (hI μ7 a1 ((x2 + 1).toNatClampNeg)), .int (hI μ7 a1 ((x2 + 2).toNatClampNeg)), .int (hI μ7 a1 ((x2 + 3).toNatClampNeg))]) g sX11_332 iX11_actNow eX11_actNow rfl hs_a0_ rfl (Nat.le_of_ble_eq_true rfl) dX11_actIfItCanBe_59 hd1 (Nat.le_refl 0) (Nat.le_refl 0) hc1 (fun r15 μ16 hZ1 => ?_)
    replace h := h1 _ _ hZ1
    clear h1 hc1 hd1 hZ1 Z1 d1
    obtain ⟨y17, rfl, h⟩ := h
    refine r_pop g dX11_actIfItCanBe_62 rfl ?_
    refine r_iconst g 1 dX11_actIfItCanBe_63 (by decide) ?_
    exact hr.2.1 _ rfl _ _ _ _ _ _ dX11_actIfItCanBe_64 (by decide) (Nat.le_refl 0) (Nat.le_refl 0) h
  · replace h := h.2 c9
    refine r_iconst g 0 dX11_actIfItCanBe_38 (by decide) ?_
    exact hr.2.1 _ rfl _ _ _ _ _ _ dX11_actIfItCanBe_39 (by decide) (Nat.le_refl 0) (Nat.le_refl 0) h
theorem I_X11_actIfItCanBe {d : Nat} {ro : Nat → Nat} {Z : Option Value → Hp → Prop} {μ : Hp} {a0 : Nat} {a1 : Nat} {x2 : Int32} (h : ∀ J, xCtx RX11 cX11_actIfItCanBe 3 d 0 0 yX11_actIfItCanBe.name ro J → xRet cX11_actIfItCanBe (some .boolean) 0 0 Z J → J μ 0 0 0 [(0, .ref a0), (1, .ref a1), (2, .int x2)] []) : xC d yX11_actIfItCanBe cX11_actIfItCanBe 3 (some .boolean) 0 0 [.ref a0, .ref a1, .int x2] μ ro Z :=
  xC_intro (own := RX11) (lv := [(0, .ref a0), (1, .ref a1), (2, .int x2)]) (by decide) rfl (Nat.le_of_ble_eq_true rfl) rfl (fun J g hr => r_sub g (lv' := [(0, .ref a0), (1, .ref a1), (2, .int x2)]) (⟨rfl, rfl, rfl, trivial⟩) (h J g hr))
theorem dX11_actNow_0 : decode cX11_actNow 0 = .ok (.aload_n 0, 1) := by decide +kernel
theorem dX11_actNow_1 : decode cX11_actNow 1 = .ok (.getfield 41, 3) := by decide +kernel
theorem dX11_actNow_4 : decode cX11_actNow 4 = .ok (.aload_n 0, 1) := by decide +kernel
theorem dX11_actNow_5 : decode cX11_actNow 5 = .ok (.getfield 96, 3) := by decide +kernel
theorem dX11_actNow_8 : decode cX11_actNow 8 = .ok (.invokevirtual 336, 3) := by decide +kernel
theorem dX11_actNow_11 : decode cX11_actNow 11 = .ok (.aload_n 0, 1) := by decide +kernel
theorem dX11_actNow_12 : decode cX11_actNow 12 = .ok (.getfield 34, 3) := by decide +kernel
theorem dX11_actNow_15 : decode cX11_actNow 15 = .ok (.aload_n 0, 1) := by decide +kernel
theorem dX11_actNow_16 : decode cX11_actNow 16 = .ok (.getfield 96, 3) := by decide +kernel
theorem dX11_actNow_19 : decode cX11_actNow 19 = .ok (.iload_n 1, 1) := by decide +kernel
theorem dX11_actNow_20 : decode cX11_actNow 20 = .ok (.iload_n 2, 1) := by decide +kernel
theorem dX11_actNow_21 : decode cX11_actNow 21 = .ok (.iload_n 3, 1) := by decide +kernel
theorem dX11_actNow_22 : decode cX11_actNow 22 = .ok (.iload 4, 2) := by decide +kernel
theorem dX11_actNow_24 : decode cX11_actNow 24 = .ok (.invokevirtual 339, 3) := by decide +kernel
theorem dX11_actNow_27 : decode cX11_actNow 27 = .ok (.istore 5, 2) := by decide +kernel
theorem dX11_actNow_29 : decode cX11_actNow 29 = .ok (.aload_n 0, 1) := by decide +kernel
theorem dX11_actNow_30 : decode cX11_actNow 30 = .ok (.getfield 48, 3) := by decide +kernel
theorem dX11_actNow_33 : decode cX11_actNow 33 = .ok (.iload_n 1, 1) := by decide +kernel
theorem dX11_actNow_34 : decode cX11_actNow 34 = .ok (.iload 5, 2) := by decide +kernel
theorem dX11_actNow_36 : decode cX11_actNow 36 = .ok (.iload_n 1, 1) := by decide +kernel
theorem dX11_actNow_37 : decode cX11_actNow 37 = .ok (.iload_n 2, 1) := by decide +kernel
theorem dX11_actNow_38 : decode cX11_actNow 38 = .ok (.iload 4, 2) := by decide +kernel
theorem dX11_actNow_40 : decode cX11_actNow 40 = .ok (.invokestatic 342, 3) := by decide +kernel
theorem dX11_actNow_43 : decode cX11_actNow 43 = .ok (.invokevirtual 345, 3) := by decide +kernel
theorem dX11_actNow_46 : decode cX11_actNow 46 = .ok (.iload 5, 2) := by decide +kernel
theorem dX11_actNow_48 : decode cX11_actNow 48 = .ok (.ireturn, 1) := by decide +kernel
set_option maxHeartbeats 4000000 in
set_option maxRecDepth 100000 in
theorem B_X11_actNow_0 {d : Nat} {ro : Nat → Nat} {J : JT} {Z : Option Value → Hp → Prop} (g : xCtx RX11 cX11_actNow 6 d 0 0 yX11_actNow.name ro J) (hr : xRet cX11_actNow (some .int) 0 0 Z J) {μ : Hp} {a0 : Nat} {x1 : Int32} {x2 : Int32} {x3 : Int32} {x4 : Int32} {a0_history : Nat} {a0_now : Nat} (hs_a0 : hS μ a0 = some (14, 18)) (hr_a0_history : hR μ a0 4 = some a0_history) (hr_a0_now : hR μ a0 10 = some a0_now) (hs_a0_history : hS μ a0_history = some (8, 3))
    (h : xCall d yX4_keep cX4_keep 2 none [.ref a0_history, .ref a0_now] μ ro (fun r1 μ2 => r1 = none ∧ hS μ2 a0 = some (14, 18) ∧ ∃ acts_3 : Nat, hR μ2 a0 3 = some acts_3 ∧ ∃ now_4 : Nat, hR μ2 a0 10 = some now_4 ∧ hS μ2 acts_3 = some (5, 1) ∧ xCall d yX1_carryOut cX1_carryOut 7 (some .int) [.ref acts_3, .ref now_4, .int x1, .int x2, .int x3, .int x4] μ2 ro (fun r5 μ6 => ∃ y7 : Int32, r5 = some (.int y7) ∧ hS μ6 a0 = some (14, 18) ∧ ∃ acted_8 : Nat, hR μ6 a0 5 = some acted_8 ∧ xCall d yX1_firmOf cX1_firmOf 3 (some .int) [.int x1, .int x2, .int x4] μ6 ro (fun r9 μ10 => ∃ y11 : Int32, r9 = some (.int y11) ∧ hS μ10 acted_8 = some (9, 3) ∧ xCall d yX5_add cX5_add 5 none [.ref acted_8, .int x1, .int y7, .int y11] μ10 ro (fun r12 μ13 => r12 = none ∧ Z (some (.int y7)) μ13))))) :
    J μ 0 0 0 [(0, .ref a0), (1, .int x1), (2, .int x2), (3, .int x3), (4, .int x4)] [] := by
  refine r_aload_n g dX11_actNow_0 rfl ?_
  refine r_getR g fX11_41 rfl hs_a0 hr_a0_history dX11_actNow_1 ?_
  refine r_aload_n g dX11_actNow_4 rfl ?_
  refine r_getR g fX11_96 rfl hs_a0 hr_a0_now dX11_actNow_5 ?_
  obtain ⟨d1, Z1, hc1, hd1, h1⟩ := h
  refine r_callV (st := []) (As := [.ref a0_now]) g sX11_336 iX4_keep eX4_keep rfl hs_a0_history rfl (Nat.le_of_ble_eq_true rfl) dX11_actNow_8 hd1 (Nat.le_refl 0) (Nat.le_refl 0) hc1 (fun r1 μ2 hZ1 => ?_)
  replace h := h1 _ _ hZ1
  clear h1 hc1 hd1 hZ1 Z1 d1
  obtain ⟨rfl, h⟩ := h
  refine r_aload_n g dX11_actNow_11 rfl ?_
  obtain ⟨hs_a0_, h⟩ := h
  obtain ⟨acts_3, hr_acts_3, h⟩ := h
  refine r_getR g fX11_34 rfl hs_a0_ hr_acts_3 dX11_actNow_12 ?_
  refine r_aload_n g dX11_actNow_15 rfl ?_
  obtain ⟨now_4, hr_now_4, h⟩ := h
  refine r_getR g fX11_96 rfl hs_a0_ hr_now_4 dX11_actNow_16 ?_
  refine r_iload_n g dX11_actNow_19 rfl ?_
  refine r_iload_n g dX11_actNow_20 rfl ?_
  refine r_iload_n g dX11_actNow_21 rfl ?_
  refine r_iload g dX11_actNow_22 rfl ?_
  obtain ⟨hs_acts_3, h⟩ := h
  obtain ⟨d1, Z1, hc1, hd1, h1⟩ := h
  refine r_callV (st := []) (As := [.ref now_4, .int x1, .int x2, .int x3, .int x4]) g sX11_339 iX1_carryOut eX1_carryOut rfl hs_acts_3 rfl (Nat.le_of_ble_eq_true rfl) dX11_actNow_24 hd1 (Nat.le_refl 0) (Nat.le_refl 0) hc1 (fun r5 μ6 hZ1 => ?_)
  replace h := h1 _ _ hZ1
  clear h1 hc1 hd1 hZ1 Z1 d1
  obtain ⟨y7, rfl, h⟩ := h
  refine r_istore g [(5, .int y7), (0, .ref a0), (1, .int x1), (2, .int x2), (3, .int x3), (4, .int x4)] dX11_actNow_27 (by decide) rfl ?_
  refine r_aload_n g dX11_actNow_29 rfl ?_
  obtain ⟨hs_a0__, h⟩ := h
  obtain ⟨acted_8, hr_acted_8, h⟩ := h
  refine r_getR g fX11_48 rfl hs_a0__ hr_acted_8 dX11_actNow_30 ?_
  refine r_iload_n g dX11_actNow_33 rfl ?_
  refine r_iload g dX11_actNow_34 rfl ?_
  refine r_iload_n g dX11_actNow_36 rfl ?_
  refine r_iload_n g dX11_actNow_37 rfl ?_
  refine r_iload g dX11_actNow_38 rfl ?_
  obtain ⟨d1, Z1, hc1, hd1, h1⟩ := h
  refine r_callS (st := [.int y7, .int x1, .ref acted_8]) (As := [.int x1, .int x2, .int x4]) g sX11_342 iX1_firmOf rfl (Nat.le_of_ble_eq_true rfl) dX11_actNow_40 hd1 (Nat.le_refl 0) (Nat.le_refl 0) hc1 (fun r9 μ10 hZ1 => ?_)
  replace h := h1 _ _ hZ1
  clear h1 hc1 hd1 hZ1 Z1 d1
  obtain ⟨y11, rfl, h⟩ := h
  obtain ⟨hs_acted_8, h⟩ := h
  obtain ⟨d1, Z1, hc1, hd1, h1⟩ := h
  refine r_callV (st := []) (As := [.int x1, .int y7, .int y11]) g sX11_345 iX5_add eX5_add rfl hs_acted_8 rfl (Nat.le_of_ble_eq_true rfl) dX11_actNow_43 hd1 (Nat.le_refl 0) (Nat.le_refl 0) hc1 (fun r12 μ13 hZ1 => ?_)
  replace h := h1 _ _ hZ1
  clear h1 hc1 hd1 hZ1 Z1 d1
  obtain ⟨rfl, h⟩ := h
  refine r_iload g dX11_actNow_46 rfl ?_
  exact hr.2.1 _ rfl _ _ _ _ _ _ dX11_actNow_48 rfl (Nat.le_refl 0) (Nat.le_refl 0) h
theorem I_X11_actNow {d : Nat} {ro : Nat → Nat} {Z : Option Value → Hp → Prop} {μ : Hp} {a0 : Nat} {x1 : Int32} {x2 : Int32} {x3 : Int32} {x4 : Int32} (h : ∀ J, xCtx RX11 cX11_actNow 6 d 0 0 yX11_actNow.name ro J → xRet cX11_actNow (some .int) 0 0 Z J → J μ 0 0 0 [(0, .ref a0), (1, .int x1), (2, .int x2), (3, .int x3), (4, .int x4)] []) : xC d yX11_actNow cX11_actNow 6 (some .int) 0 0 [.ref a0, .int x1, .int x2, .int x3, .int x4] μ ro Z :=
  xC_intro (own := RX11) (lv := [(0, .ref a0), (1, .int x1), (2, .int x2), (3, .int x3), (4, .int x4)]) (by decide) rfl (Nat.le_of_ble_eq_true rfl) rfl (fun J g hr => r_sub g (lv' := [(0, .ref a0), (1, .int x1), (2, .int x2), (3, .int x3), (4, .int x4)]) (⟨rfl, rfl, rfl, rfl, rfl, trivial⟩) (h J g hr))
theorem dX11_years_0 : decode cX11_years 0 = .ok (.aload_n 0, 1) := by decide +kernel
theorem dX11_years_1 : decode cX11_years 1 = .ok (.invokevirtual 212, 3) := by decide +kernel
theorem dX11_years_4 : decode cX11_years 4 = .ok (.ifCond .eq 14, 3) := by decide +kernel
theorem dX11_years_7 : decode cX11_years 7 = .ok (.iload_n 1, 1) := by decide +kernel
theorem dX11_years_8 : decode cX11_years 8 = .ok (.iconst 1, 1) := by decide +kernel
theorem dX11_years_9 : decode cX11_years 9 = .ok (.if_icmp .lt 9, 3) := by decide +kernel
theorem dX11_years_12 : decode cX11_years 12 = .ok (.iload_n 1, 1) := by decide +kernel
theorem dX11_years_13 : decode cX11_years 13 = .ok (.bipush 40, 2) := by decide +kernel
theorem dX11_years_15 : decode cX11_years 15 = .ok (.if_icmp .le 5, 3) := by decide +kernel
theorem dX11_years_18 : decode cX11_years 18 = .ok (.iconst (-1), 1) := by decide +kernel
theorem dX11_years_19 : decode cX11_years 19 = .ok (.ireturn, 1) := by decide +kernel
theorem dX11_years_20 : decode cX11_years 20 = .ok (.aload_n 0, 1) := by decide +kernel
theorem dX11_years_21 : decode cX11_years 21 = .ok (.lload_n 2, 1) := by decide +kernel
theorem dX11_years_22 : decode cX11_years 22 = .ok (.putfield 87, 3) := by decide +kernel
theorem dX11_years_25 : decode cX11_years 25 = .ok (.iconst 0, 1) := by decide +kernel
theorem dX11_years_26 : decode cX11_years 26 = .ok (.istore 4, 2) := by decide +kernel
theorem dX11_years_28 : decode cX11_years 28 = .ok (.iload 4, 2) := by decide +kernel
theorem dX11_years_30 : decode cX11_years 30 = .ok (.iload_n 1, 1) := by decide +kernel
theorem dX11_years_31 : decode cX11_years 31 = .ok (.if_icmp .ge 29, 3) := by decide +kernel
theorem dX11_years_34 : decode cX11_years 34 = .ok (.aload_n 0, 1) := by decide +kernel
theorem dX11_years_35 : decode cX11_years 35 = .ok (.aload_n 0, 1) := by decide +kernel
theorem dX11_years_36 : decode cX11_years 36 = .ok (.bipush 8, 2) := by decide +kernel
theorem dX11_years_38 : decode cX11_years 38 = .ok (.invokevirtual 349, 3) := by decide +kernel
theorem dX11_years_41 : decode cX11_years 41 = .ok (.invokevirtual 352, 3) := by decide +kernel
theorem dX11_years_44 : decode cX11_years 44 = .ok (.aload_n 0, 1) := by decide +kernel
theorem dX11_years_45 : decode cX11_years 45 = .ok (.aload_n 0, 1) := by decide +kernel
theorem dX11_years_46 : decode cX11_years 46 = .ok (.getfield 66, 3) := by decide +kernel
theorem dX11_years_49 : decode cX11_years 49 = .ok (.iconst 0, 1) := by decide +kernel
theorem dX11_years_50 : decode cX11_years 50 = .ok (.invokevirtual 355, 3) := by decide +kernel
theorem dX11_years_53 : decode cX11_years 53 = .ok (.pop, 1) := by decide +kernel
theorem dX11_years_54 : decode cX11_years 54 = .ok (.iinc 4 1, 3) := by decide +kernel
theorem dX11_years_57 : decode cX11_years 57 = .ok (.goto (-29), 3) := by decide +kernel
theorem dX11_years_60 : decode cX11_years 60 = .ok (.aload_n 0, 1) := by decide +kernel
theorem dX11_years_61 : decode cX11_years 61 = .ok (.getfield 96, 3) := by decide +kernel
theorem dX11_years_64 : decode cX11_years 64 = .ok (.getfield 151, 3) := by decide +kernel
theorem dX11_years_67 : decode cX11_years 67 = .ok (.iconst 0, 1) := by decide +kernel
theorem dX11_years_68 : decode cX11_years 68 = .ok (.iaload, 1) := by decide +kernel
theorem dX11_years_69 : decode cX11_years 69 = .ok (.ireturn, 1) := by decide +kernel
set_option maxHeartbeats 4000000 in
set_option maxRecDepth 100000 in
theorem B_X11_years_0 {d : Nat} {ro : Nat → Nat} {J : JT} {Z : Option Value → Hp → Prop} (g : xCtx RX11 cX11_years 5 d 0 0 yX11_years.name ro J) (hr : xRet cX11_years (some .int) 0 0 Z J) {μ : Hp} {a0 : Nat} {x1 : Int32} {x2 : Int64} {a0_book : Nat} (hs_a0 : hS μ a0 = some (14, 18)) (hr_a0_book : hR μ a0 13 = some a0_book) (hs_a0_book : hS μ a0_book = some (6, 9)) (hd9 : 1 ≤ d)
    (h : (((hI μ a0_book 6) ≤ 0 → Z (some (.int (-1))) μ) ∧ (¬ (hI μ a0_book 6) ≤ 0 → ((x1 < 1 → Z (some (.int (-1))) μ) ∧ (¬ x1 < 1 → ((x1 ≤ 40 → J (wL μ a0 17 x2) 0 0 28 [(0, .ref a0), (1, .int x1), (4, .int 0)] []) ∧ (¬ x1 ≤ 40 → Z (some (.int (-1))) μ))))))) :
    J μ 0 0 0 [(0, .ref a0), (1, .int x1), (2, .long x2)] [] := by
  refine r_aload_n g dX11_years_0 rfl ?_
  by_cases c1 : (hI μ a0_book 6) ≤ 0
  · replace h := h.1 c1
    refine r_callV (st := []) (As := []) g sX11_212 iX11_hasBook eX11_hasBook rfl hs_a0 rfl (Nat.le_of_ble_eq_true rfl) dX11_years_1 (by omega) (Nat.le_refl 0) (Nat.le_refl 0) (P_X11_hasBook_0 (d := d - 1) hs_a0 hr_a0_book hs_a0_book c1) (fun r2 μ3 hZ1 => ?_)
    obtain ⟨rfl, e9⟩ := hZ1
    replace e9 := e9.symm
    subst e9
    refine r_if_eq g 18 dX11_years_4 (by decide) (fun _ => ?_) (fun hz => absurd hz (by decide))
    refine r_iconst g (-1) dX11_years_18 (by decide) ?_
    exact hr.2.1 _ rfl _ _ _ _ _ _ dX11_years_19 rfl (Nat.le_refl 0) (Nat.le_refl 0) h
  · replace h := h.2 c1
    refine r_callV (st := []) (As := []) g sX11_212 iX11_hasBook eX11_hasBook rfl hs_a0 rfl (Nat.le_of_ble_eq_true rfl) dX11_years_1 (by omega) (Nat.le_refl 0) (Nat.le_refl 0) (P_X11_hasBook_1 (d := d - 1) hs_a0 hr_a0_book hs_a0_book c1) (fun r4 μ5 hZ1 => ?_)
    obtain ⟨rfl, e9⟩ := hZ1
    replace e9 := e9.symm
    subst e9
    refine r_if_eq g 18 dX11_years_4 (by decide) (fun hz => absurd hz (by decide)) (fun _ => ?_)
    refine r_iload_n g dX11_years_7 rfl ?_
    refine r_iconst g 1 dX11_years_8 (by decide) ?_
    refine r_icmp_lt g 18 dX11_years_9 (by decide) (fun c6 => ?_) (fun c6 => ?_)
    · replace h := h.1 c6
      refine r_iconst g (-1) dX11_years_18 (by decide) ?_
      exact hr.2.1 _ rfl _ _ _ _ _ _ dX11_years_19 rfl (Nat.le_refl 0) (Nat.le_refl 0) h
    · replace h := h.2 c6
      refine r_iload_n g dX11_years_12 rfl ?_
      refine r_bipush g 40 dX11_years_13 (by decide) ?_
      refine r_icmp_le g 20 dX11_years_15 (by decide) (fun c7 => ?_) (fun c7 => ?_)
      · replace h := h.1 c7
        refine r_aload_n g dX11_years_20 rfl ?_
        refine r_lload_n g dX11_years_21 rfl ?_
        refine r_putL g fX11_87 rfl hs_a0 rfl rfl dX11_years_22 ?_
        refine r_iconst g 0 dX11_years_25 (by decide) ?_
        refine r_istore g [(4, .int 0), (0, .ref a0), (1, .int x1), (2, .long x2)] dX11_years_26 (by decide) rfl ?_
        refine r_sub g (lv' := [(0, .ref a0), (1, .int x1), (4, .int 0)]) (⟨rfl, rfl, rfl, trivial⟩) ?_
        exact h
      · replace h := h.2 c7
        refine r_iconst g (-1) dX11_years_18 (by decide) ?_
        exact hr.2.1 _ rfl _ _ _ _ _ _ dX11_years_19 rfl (Nat.le_refl 0) (Nat.le_refl 0) h
set_option maxHeartbeats 4000000 in
set_option maxRecDepth 100000 in
theorem B_X11_years_28 {d : Nat} {ro : Nat → Nat} {J : JT} {Z : Option Value → Hp → Prop} (g : xCtx RX11 cX11_years 5 d 0 0 yX11_years.name ro J) (hr : xRet cX11_years (some .int) 0 0 Z J) {μ : Hp} {a0 : Nat} {x1 : Int32} {x4 : Int32} {a0_now : Nat} {a0_now_row : Nat} {N_a0_now_row : Nat} (hs_a0 : hS μ a0 = some (14, 18)) (hr_a0_now : hR μ a0 10 = some a0_now) (hs_a0_now : hS μ a0_now = some (12, 4)) (hr_a0_now_row : hR μ a0_now 0 = some a0_now_row) (hs_a0_now_row : hS μ a0_now_row = some (0, N_a0_now_row))
    (h : ((x1 ≤ x4 → vp_in 0 N_a0_now_row ∧ Z (some (.int (hI μ a0_now_row 0))) μ) ∧ (¬ x1 ≤ x4 → xCall d yX11_draw cX11_draw 2 (some .int) [.ref a0, .int 8] μ ro (fun r3 μ4 => ∃ y5 : Int32, r3 = some (.int y5) ∧ hS μ4 a0 = some (14, 18) ∧ xCall d yX11_drawStep cX11_drawStep 2 none [.ref a0, .int y5] μ4 ro (fun r6 μ7 => r6 = none ∧ hS μ7 a0 = some (14, 18) ∧ ∃ drawnStep_8 : Nat, hR μ7 a0 9 = some drawnStep_8 ∧ xCall d yX11_actIfItCanBe cX11_actIfItCanBe 3 (some .boolean) [.ref a0, .ref drawnStep_8, .int 0] μ7 ro (fun r9 μ10 => ∃ y11 : Int32, r9 = some (.int y11) ∧ J μ10 0 0 28 [(0, .ref a0), (1, .int x1), (4, .int (x4 + 1))] [])))))) :
    J μ 0 0 28 [(0, .ref a0), (1, .int x1), (4, .int x4)] [] := by
  refine r_iload g dX11_years_28 rfl ?_
  refine r_iload_n g dX11_years_30 rfl ?_
  refine r_icmp_ge g 60 dX11_years_31 (by decide) (fun c1 => ?_) (fun c1 => ?_)
  · replace h := h.1 c1
    refine r_aload_n g dX11_years_60 rfl ?_
    refine r_getR g fX11_96 rfl hs_a0 hr_a0_now dX11_years_61 ?_
    refine r_getR g fX11_151 rfl hs_a0_now hr_a0_now_row dX11_years_64 ?_
    refine r_iconst g 0 dX11_years_67 (by decide) ?_
    obtain ⟨hi2, h⟩ := h
    refine r_iaload g hs_a0_now_row hi2 dX11_years_68 ?_
    exact hr.2.1 _ rfl _ _ _ _ _ _ dX11_years_69 rfl (Nat.le_refl 0) (Nat.le_refl 0) h
  · replace h := h.2 c1
    refine r_aload_n g dX11_years_34 rfl ?_
    refine r_aload_n g dX11_years_35 rfl ?_
    refine r_bipush g 8 dX11_years_36 (by decide) ?_
    obtain ⟨d1, Z1, hc1, hd1, h1⟩ := h
    refine r_callV (st := [.ref a0]) (As := [.int 8]) g sX11_349 iX11_draw eX11_draw rfl hs_a0 rfl (Nat.le_of_ble_eq_true rfl) dX11_years_38 hd1 (Nat.le_refl 0) (Nat.le_refl 0) hc1 (fun r3 μ4 hZ1 => ?_)
    replace h := h1 _ _ hZ1
    clear h1 hc1 hd1 hZ1 Z1 d1
    obtain ⟨y5, rfl, h⟩ := h
    obtain ⟨hs_a0__, h⟩ := h
    obtain ⟨d1, Z1, hc1, hd1, h1⟩ := h
    refine r_callV (st := []) (As := [.int y5]) g sX11_352 iX11_drawStep eX11_drawStep rfl hs_a0__ rfl (Nat.le_of_ble_eq_true rfl) dX11_years_41 hd1 (Nat.le_refl 0) (Nat.le_refl 0) hc1 (fun r6 μ7 hZ1 => ?_)
    replace h := h1 _ _ hZ1
    clear h1 hc1 hd1 hZ1 Z1 d1
    obtain ⟨rfl, h⟩ := h
    refine r_aload_n g dX11_years_44 rfl ?_
    refine r_aload_n g dX11_years_45 rfl ?_
    obtain ⟨hs_a0___, h⟩ := h
    obtain ⟨drawnStep_8, hr_drawnStep_8, h⟩ := h
    refine r_getR g fX11_66 rfl hs_a0___ hr_drawnStep_8 dX11_years_46 ?_
    refine r_iconst g 0 dX11_years_49 (by decide) ?_
    obtain ⟨d1, Z1, hc1, hd1, h1⟩ := h
    refine r_callV (st := []) (As := [.ref drawnStep_8, .int 0]) g sX11_355 iX11_actIfItCanBe eX11_actIfItCanBe rfl hs_a0___ rfl (Nat.le_of_ble_eq_true rfl) dX11_years_50 hd1 (Nat.le_refl 0) (Nat.le_refl 0) hc1 (fun r9 μ10 hZ1 => ?_)
    replace h := h1 _ _ hZ1
    clear h1 hc1 hd1 hZ1 Z1 d1
    obtain ⟨y11, rfl, h⟩ := h
    refine r_pop g dX11_years_53 rfl ?_
    refine r_iinc g (x4 + 1) [(4, .int (x4 + 1)), (0, .ref a0), (1, .int x1)] dX11_years_54 rfl rfl (by decide) rfl ?_
    refine r_goto g 28 dX11_years_57 (by decide) ?_
    refine r_sub g (lv' := [(0, .ref a0), (1, .int x1), (4, .int (x4 + 1))]) (⟨rfl, rfl, rfl, trivial⟩) ?_
    exact h
theorem I_X11_years {d : Nat} {ro : Nat → Nat} {Z : Option Value → Hp → Prop} {μ : Hp} {a0 : Nat} {x1 : Int32} {x2 : Int64} (h : ∀ J, xCtx RX11 cX11_years 5 d 0 0 yX11_years.name ro J → xRet cX11_years (some .int) 0 0 Z J → J μ 0 0 0 [(0, .ref a0), (1, .int x1), (2, .long x2)] []) : xC d yX11_years cX11_years 5 (some .int) 0 0 [.ref a0, .int x1, .long x2] μ ro Z :=
  xC_intro (own := RX11) (lv := [(0, .ref a0), (1, .int x1), (2, .long x2)]) (by decide) rfl (Nat.le_of_ble_eq_true rfl) rfl (fun J g hr => r_sub g (lv' := [(0, .ref a0), (1, .int x1), (2, .long x2)]) (⟨rfl, rfl, rfl, trivial⟩) (h J g hr))
theorem dX11_drawStep_0 : decode cX11_drawStep 0 = .ok (.iload_n 1, 1) := by decide +kernel
theorem dX11_drawStep_1 : decode cX11_drawStep 1 = .ok (.iconst 3, 1) := by decide +kernel
theorem dX11_drawStep_2 : decode cX11_drawStep 2 = .ok (.if_icmp .gt 71, 3) := by decide +kernel
theorem dX11_drawStep_5 : decode cX11_drawStep 5 = .ok (.aload_n 0, 1) := by decide +kernel
theorem dX11_drawStep_6 : decode cX11_drawStep 6 = .ok (.getfield 66, 3) := by decide +kernel
theorem dX11_drawStep_9 : decode cX11_drawStep 9 = .ok (.iconst 0, 1) := by decide +kernel
theorem dX11_drawStep_10 : decode cX11_drawStep 10 = .ok (.iconst 0, 1) := by decide +kernel
theorem dX11_drawStep_11 : decode cX11_drawStep 11 = .ok (.iastore, 1) := by decide +kernel
theorem dX11_drawStep_12 : decode cX11_drawStep 12 = .ok (.aload_n 0, 1) := by decide +kernel
theorem dX11_drawStep_13 : decode cX11_drawStep 13 = .ok (.getfield 66, 3) := by decide +kernel
theorem dX11_drawStep_16 : decode cX11_drawStep 16 = .ok (.iconst 1, 1) := by decide +kernel
theorem dX11_drawStep_17 : decode cX11_drawStep 17 = .ok (.aload_n 0, 1) := by decide +kernel
theorem dX11_drawStep_18 : decode cX11_drawStep 18 = .ok (.iconst 2, 1) := by decide +kernel
theorem dX11_drawStep_19 : decode cX11_drawStep 19 = .ok (.invokevirtual 349, 3) := by decide +kernel
theorem dX11_drawStep_22 : decode cX11_drawStep 22 = .ok (.iastore, 1) := by decide +kernel
theorem dX11_drawStep_23 : decode cX11_drawStep 23 = .ok (.aload_n 0, 1) := by decide +kernel
theorem dX11_drawStep_24 : decode cX11_drawStep 24 = .ok (.getfield 66, 3) := by decide +kernel
theorem dX11_drawStep_27 : decode cX11_drawStep 27 = .ok (.iconst 2, 1) := by decide +kernel
theorem dX11_drawStep_28 : decode cX11_drawStep 28 = .ok (.aload_n 0, 1) := by decide +kernel
theorem dX11_drawStep_29 : decode cX11_drawStep 29 = .ok (.aload_n 0, 1) := by decide +kernel
theorem dX11_drawStep_30 : decode cX11_drawStep 30 = .ok (.getfield 72, 3) := by decide +kernel
theorem dX11_drawStep_33 : decode cX11_drawStep 33 = .ok (.getfield 144, 3) := by decide +kernel
theorem dX11_drawStep_36 : decode cX11_drawStep 36 = .ok (.invokevirtual 349, 3) := by decide +kernel
theorem dX11_drawStep_39 : decode cX11_drawStep 39 = .ok (.iastore, 1) := by decide +kernel
theorem dX11_drawStep_40 : decode cX11_drawStep 40 = .ok (.aload_n 0, 1) := by decide +kernel
theorem dX11_drawStep_41 : decode cX11_drawStep 41 = .ok (.getfield 66, 3) := by decide +kernel
theorem dX11_drawStep_44 : decode cX11_drawStep 44 = .ok (.iconst 3, 1) := by decide +kernel
theorem dX11_drawStep_45 : decode cX11_drawStep 45 = .ok (.aload_n 0, 1) := by decide +kernel
theorem dX11_drawStep_46 : decode cX11_drawStep 46 = .ok (.aload_n 0, 1) := by decide +kernel
theorem dX11_drawStep_47 : decode cX11_drawStep 47 = .ok (.getfield 72, 3) := by decide +kernel
theorem dX11_drawStep_50 : decode cX11_drawStep 50 = .ok (.getfield 144, 3) := by decide +kernel
theorem dX11_drawStep_53 : decode cX11_drawStep 53 = .ok (.invokevirtual 349, 3) := by decide +kernel
theorem dX11_drawStep_56 : decode cX11_drawStep 56 = .ok (.iastore, 1) := by decide +kernel
theorem dX11_drawStep_57 : decode cX11_drawStep 57 = .ok (.aload_n 0, 1) := by decide +kernel
theorem dX11_drawStep_58 : decode cX11_drawStep 58 = .ok (.getfield 66, 3) := by decide +kernel
theorem dX11_drawStep_61 : decode cX11_drawStep 61 = .ok (.iconst 4, 1) := by decide +kernel
theorem dX11_drawStep_62 : decode cX11_drawStep 62 = .ok (.aload_n 0, 1) := by decide +kernel
theorem dX11_drawStep_63 : decode cX11_drawStep 63 = .ok (.sipush 1000, 3) := by decide +kernel
theorem dX11_drawStep_66 : decode cX11_drawStep 66 = .ok (.invokevirtual 349, 3) := by decide +kernel
theorem dX11_drawStep_69 : decode cX11_drawStep 69 = .ok (.iconst 1, 1) := by decide +kernel
theorem dX11_drawStep_70 : decode cX11_drawStep 70 = .ok (.iadd, 1) := by decide +kernel
theorem dX11_drawStep_71 : decode cX11_drawStep 71 = .ok (.iastore, 1) := by decide +kernel
theorem dX11_drawStep_72 : decode cX11_drawStep 72 = .ok (.return_, 1) := by decide +kernel
theorem dX11_drawStep_73 : decode cX11_drawStep 73 = .ok (.iload_n 1, 1) := by decide +kernel
theorem dX11_drawStep_74 : decode cX11_drawStep 74 = .ok (.iconst 4, 1) := by decide +kernel
theorem dX11_drawStep_75 : decode cX11_drawStep 75 = .ok (.if_icmp .ne 24, 3) := by decide +kernel
theorem dX11_drawStep_78 : decode cX11_drawStep 78 = .ok (.aload_n 0, 1) := by decide +kernel
theorem dX11_drawStep_79 : decode cX11_drawStep 79 = .ok (.getfield 66, 3) := by decide +kernel
theorem dX11_drawStep_82 : decode cX11_drawStep 82 = .ok (.iconst 0, 1) := by decide +kernel
theorem dX11_drawStep_83 : decode cX11_drawStep 83 = .ok (.iconst 1, 1) := by decide +kernel
theorem dX11_drawStep_84 : decode cX11_drawStep 84 = .ok (.iastore, 1) := by decide +kernel
theorem dX11_drawStep_85 : decode cX11_drawStep 85 = .ok (.aload_n 0, 1) := by decide +kernel
theorem dX11_drawStep_86 : decode cX11_drawStep 86 = .ok (.getfield 66, 3) := by decide +kernel
theorem dX11_drawStep_89 : decode cX11_drawStep 89 = .ok (.iconst 1, 1) := by decide +kernel
theorem dX11_drawStep_90 : decode cX11_drawStep 90 = .ok (.aload_n 0, 1) := by decide +kernel
theorem dX11_drawStep_91 : decode cX11_drawStep 91 = .ok (.iconst 5, 1) := by decide +kernel
theorem dX11_drawStep_92 : decode cX11_drawStep 92 = .ok (.invokevirtual 349, 3) := by decide +kernel
theorem dX11_drawStep_95 : decode cX11_drawStep 95 = .ok (.iconst 1, 1) := by decide +kernel
theorem dX11_drawStep_96 : decode cX11_drawStep 96 = .ok (.iadd, 1) := by decide +kernel
theorem dX11_drawStep_97 : decode cX11_drawStep 97 = .ok (.iastore, 1) := by decide +kernel
theorem dX11_drawStep_98 : decode cX11_drawStep 98 = .ok (.return_, 1) := by decide +kernel
theorem dX11_drawStep_99 : decode cX11_drawStep 99 = .ok (.aload_n 0, 1) := by decide +kernel
theorem dX11_drawStep_100 : decode cX11_drawStep 100 = .ok (.getfield 66, 3) := by decide +kernel
theorem dX11_drawStep_103 : decode cX11_drawStep 103 = .ok (.iconst 1, 1) := by decide +kernel
theorem dX11_drawStep_104 : decode cX11_drawStep 104 = .ok (.aload_n 0, 1) := by decide +kernel
theorem dX11_drawStep_105 : decode cX11_drawStep 105 = .ok (.aload_n 0, 1) := by decide +kernel
theorem dX11_drawStep_106 : decode cX11_drawStep 106 = .ok (.getfield 72, 3) := by decide +kernel
theorem dX11_drawStep_109 : decode cX11_drawStep 109 = .ok (.getfield 144, 3) := by decide +kernel
theorem dX11_drawStep_112 : decode cX11_drawStep 112 = .ok (.invokevirtual 349, 3) := by decide +kernel
theorem dX11_drawStep_115 : decode cX11_drawStep 115 = .ok (.iastore, 1) := by decide +kernel
theorem dX11_drawStep_116 : decode cX11_drawStep 116 = .ok (.iload_n 1, 1) := by decide +kernel
theorem dX11_drawStep_117 : decode cX11_drawStep 117 = .ok (.iconst 5, 1) := by decide +kernel
theorem dX11_drawStep_118 : decode cX11_drawStep 118 = .ok (.if_icmp .ne 23, 3) := by decide +kernel
theorem dX11_drawStep_121 : decode cX11_drawStep 121 = .ok (.aload_n 0, 1) := by decide +kernel
theorem dX11_drawStep_122 : decode cX11_drawStep 122 = .ok (.getfield 66, 3) := by decide +kernel
theorem dX11_drawStep_125 : decode cX11_drawStep 125 = .ok (.iconst 0, 1) := by decide +kernel
theorem dX11_drawStep_126 : decode cX11_drawStep 126 = .ok (.iconst 2, 1) := by decide +kernel
theorem dX11_drawStep_127 : decode cX11_drawStep 127 = .ok (.iastore, 1) := by decide +kernel
theorem dX11_drawStep_128 : decode cX11_drawStep 128 = .ok (.aload_n 0, 1) := by decide +kernel
theorem dX11_drawStep_129 : decode cX11_drawStep 129 = .ok (.getfield 66, 3) := by decide +kernel
theorem dX11_drawStep_132 : decode cX11_drawStep 132 = .ok (.iconst 2, 1) := by decide +kernel
theorem dX11_drawStep_133 : decode cX11_drawStep 133 = .ok (.aload_n 0, 1) := by decide +kernel
theorem dX11_drawStep_134 : decode cX11_drawStep 134 = .ok (.bipush 100, 2) := by decide +kernel
theorem dX11_drawStep_136 : decode cX11_drawStep 136 = .ok (.invokevirtual 349, 3) := by decide +kernel
theorem dX11_drawStep_139 : decode cX11_drawStep 139 = .ok (.iastore, 1) := by decide +kernel
theorem dX11_drawStep_140 : decode cX11_drawStep 140 = .ok (.return_, 1) := by decide +kernel
theorem dX11_drawStep_141 : decode cX11_drawStep 141 = .ok (.aload_n 0, 1) := by decide +kernel
theorem dX11_drawStep_142 : decode cX11_drawStep 142 = .ok (.getfield 66, 3) := by decide +kernel
theorem dX11_drawStep_145 : decode cX11_drawStep 145 = .ok (.iconst 0, 1) := by decide +kernel
theorem dX11_drawStep_146 : decode cX11_drawStep 146 = .ok (.iload_n 1, 1) := by decide +kernel
theorem dX11_drawStep_147 : decode cX11_drawStep 147 = .ok (.bipush 6, 2) := by decide +kernel
theorem dX11_drawStep_149 : decode cX11_drawStep 149 = .ok (.if_icmp .ne 7, 3) := by decide +kernel
theorem dX11_drawStep_152 : decode cX11_drawStep 152 = .ok (.iconst 3, 1) := by decide +kernel
theorem dX11_drawStep_153 : decode cX11_drawStep 153 = .ok (.goto 4, 3) := by decide +kernel
theorem dX11_drawStep_156 : decode cX11_drawStep 156 = .ok (.iconst 4, 1) := by decide +kernel
theorem dX11_drawStep_157 : decode cX11_drawStep 157 = .ok (.iastore, 1) := by decide +kernel
theorem dX11_drawStep_158 : decode cX11_drawStep 158 = .ok (.aload_n 0, 1) := by decide +kernel
theorem dX11_drawStep_159 : decode cX11_drawStep 159 = .ok (.getfield 66, 3) := by decide +kernel
theorem dX11_drawStep_162 : decode cX11_drawStep 162 = .ok (.iconst 2, 1) := by decide +kernel
theorem dX11_drawStep_163 : decode cX11_drawStep 163 = .ok (.aload_n 0, 1) := by decide +kernel
theorem dX11_drawStep_164 : decode cX11_drawStep 164 = .ok (.aload_n 0, 1) := by decide +kernel
theorem dX11_drawStep_165 : decode cX11_drawStep 165 = .ok (.getfield 72, 3) := by decide +kernel
theorem dX11_drawStep_168 : decode cX11_drawStep 168 = .ok (.getfield 144, 3) := by decide +kernel
theorem dX11_drawStep_171 : decode cX11_drawStep 171 = .ok (.invokevirtual 349, 3) := by decide +kernel
theorem dX11_drawStep_174 : decode cX11_drawStep 174 = .ok (.iastore, 1) := by decide +kernel
theorem dX11_drawStep_175 : decode cX11_drawStep 175 = .ok (.aload_n 0, 1) := by decide +kernel
theorem dX11_drawStep_176 : decode cX11_drawStep 176 = .ok (.getfield 66, 3) := by decide +kernel
theorem dX11_drawStep_179 : decode cX11_drawStep 179 = .ok (.iconst 3, 1) := by decide +kernel
theorem dX11_drawStep_180 : decode cX11_drawStep 180 = .ok (.iload_n 1, 1) := by decide +kernel
theorem dX11_drawStep_181 : decode cX11_drawStep 181 = .ok (.bipush 6, 2) := by decide +kernel
theorem dX11_drawStep_183 : decode cX11_drawStep 183 = .ok (.if_icmp .ne 12, 3) := by decide +kernel
theorem dX11_drawStep_186 : decode cX11_drawStep 186 = .ok (.aload_n 0, 1) := by decide +kernel
theorem dX11_drawStep_187 : decode cX11_drawStep 187 = .ok (.bipush 101, 2) := by decide +kernel
theorem dX11_drawStep_189 : decode cX11_drawStep 189 = .ok (.invokevirtual 349, 3) := by decide +kernel
theorem dX11_drawStep_192 : decode cX11_drawStep 192 = .ok (.goto 4, 3) := by decide +kernel
theorem dX11_drawStep_195 : decode cX11_drawStep 195 = .ok (.iconst (-1), 1) := by decide +kernel
theorem dX11_drawStep_196 : decode cX11_drawStep 196 = .ok (.iastore, 1) := by decide +kernel
theorem dX11_drawStep_197 : decode cX11_drawStep 197 = .ok (.return_, 1) := by decide +kernel
set_option maxHeartbeats 4000000 in
set_option maxRecDepth 100000 in
theorem B_X11_drawStep_0 {d : Nat} {ro : Nat → Nat} {J : JT} {Z : Option Value → Hp → Prop} (g : xCtx RX11 cX11_drawStep 2 d 0 0 yX11_drawStep.name ro J) (hr : xRet cX11_drawStep none 0 0 Z J) {μ : Hp} {a0 : Nat} {x1 : Int32} {a0_drawnStep : Nat} {a0_book : Nat} {N_a0_drawnStep : Nat} (hs_a0 : hS μ a0 = some (14, 18)) (hr_a0_drawnStep : hR μ a0 9 = some a0_drawnStep) (hr_a0_book : hR μ a0 13 = some a0_book) (hs_a0_book : hS μ a0_book = some (6, 9)) (hs_a0_drawnStep_ : hS μ a0_drawnStep = some (0, N_a0_drawnStep))
    (h : ((3 < x1 → ((¬ x1 = 4 → xCall d yX11_draw cX11_draw 2 (some .int) [.ref a0, .int (hI μ a0_book 6)] μ ro (fun r3 μ4 => ∃ y5 : Int32, r3 = some (.int y5) ∧ ∃ N6 : Nat, hS μ4 a0_drawnStep = some (0, N6) ∧ vp_in 1 N6 ∧ ((¬ x1 = 5 → hS μ4 a0 = some (14, 18) ∧ ∃ drawnStep_9 : Nat, hR μ4 a0 9 = some drawnStep_9 ∧ ((¬ x1 = 6 → ∃ N11 : Nat, hS μ4 drawnStep_9 = some (0, N11) ∧ vp_in 0 N11 ∧ ∃ book_13 : Nat, hR μ4 a0 13 = some book_13 ∧ hS μ4 book_13 = some (6, 9) ∧ xCall d yX11_draw cX11_draw 2 (some .int) [.ref a0, .int (hI (wI (wI μ4 a0_drawnStep 1 y5) drawnStep_9 0 4) book_13 6)] (wI (wI μ4 a0_drawnStep 1 y5) drawnStep_9 0 4) ro (fun r14 μ15 => ∃ y16 : Int32, r14 = some (.int y16) ∧ ∃ N17 : Nat, hS μ15 drawnStep_9 = some (0, N17) ∧ vp_in 2 N17 ∧ hS μ15 a0 = some (14, 18) ∧ ∃ drawnStep_19 : Nat, hR μ15 a0 9 = some drawnStep_19 ∧ ((¬ x1 = 6 → ∃ N21 : Nat, hS μ15 drawnStep_19 = some (0, N21) ∧ vp_in 3 N21 ∧ Z none (wI (wI μ15 drawnStep_9 2 y16) drawnStep_19 3 (-1))) ∧ (x1 = 6 → xCall d yX11_draw cX11_draw 2 (some .int) [.ref a0, .int 101] (wI μ15 drawnStep_9 2 y16) ro (fun r23 μ24 => ∃ y25 : Int32, r23 = some (.int y25) ∧ ∃ N26 : Nat, hS μ24 drawnStep_19 = some (0, N26) ∧ vp_in 3 N26 ∧ Z none (wI μ24 drawnStep_19 3 y25)))))) ∧ (x1 = 6 → ∃ N28 : Nat, hS μ4 drawnStep_9 = some (0, N28) ∧ vp_in 0 N28 ∧ ∃ book_30 : Nat, hR μ4 a0 13 = some book_30 ∧ hS μ4 book_30 = some (6, 9) ∧ xCall d yX11_draw cX11_draw 2 (some .int) [.ref a0, .int (hI (wI (wI μ4 a0_drawnStep 1 y5) drawnStep_9 0 3) book_30 6)] (wI (wI μ4 a0_drawnStep 1 y5) drawnStep_9 0 3) ro (fun r31 μ32 => ∃ y33 : Int32, r31 = some (.int y33) ∧ ∃ N34 : Nat, hS μ32 drawnStep_9 = some (0, N34) ∧ vp_in 2 N34 ∧ hS μ32 a0 = some (14, 18) ∧ ∃ drawnStep_36 : Nat, hR μ32 a0 9 = some drawnStep_36 ∧ ((¬ x1 = 6 → ∃ N38 : Nat, hS μ32 drawnStep_36 = some (0, N38) ∧ vp_in 3 N38 ∧ Z none (wI (wI μ32 drawnStep_9 2 y33) drawnStep_36 3 (-1))) ∧ (x1 = 6 → xCall d yX11_draw cX11_draw 2 (some .int) [.ref a0, .int 101] (wI μ32 drawnStep_9 2 y33) ro (fun r40 μ41 => ∃ y42 : Int32, r40 = some (.int y42) ∧ ∃ N43 : Nat, hS μ41 drawnStep_36 = some (0, N43) ∧ vp_in 3 N43 ∧ Z none (wI μ41 drawnStep_36 3 y42)))))))) ∧ (x1 = 5 → hS μ4 a0 = some (14, 18) ∧ ∃ drawnStep_45 : Nat, hR μ4 a0 9 = some drawnStep_45 ∧ ∃ N46 : Nat, hS μ4 drawnStep_45 = some (0, N46) ∧ vp_in 0 N46 ∧ xCall d yX11_draw cX11_draw 2 (some .int) [.ref a0, .int 100] (wI (wI μ4 a0_drawnStep 1 y5) drawnStep_45 0 2) ro (fun r48 μ49 => ∃ y50 : Int32, r48 = some (.int y50) ∧ ∃ N51 : Nat, hS μ49 drawnStep_45 = some (0, N51) ∧ vp_in 2 N51 ∧ Z none (wI μ49 drawnStep_45 2 y50)))))) ∧ (x1 = 4 → vp_in 0 N_a0_drawnStep ∧ xCall d yX11_draw cX11_draw 2 (some .int) [.ref a0, .int 5] (wI μ a0_drawnStep 0 1) ro (fun r54 μ55 => ∃ y56 : Int32, r54 = some (.int y56) ∧ ∃ N57 : Nat, hS μ55 a0_drawnStep = some (0, N57) ∧ vp_in 1 N57 ∧ Z none (wI μ55 a0_drawnStep 1 (y56 + 1)))))) ∧ (¬ 3 < x1 → vp_in 0 N_a0_drawnStep ∧ xCall d yX11_draw cX11_draw 2 (some .int) [.ref a0, .int 2] (wI μ a0_drawnStep 0 0) ro (fun r60 μ61 => ∃ y62 : Int32, r60 = some (.int y62) ∧ ∃ N63 : Nat, hS μ61 a0_drawnStep = some (0, N63) ∧ vp_in 1 N63 ∧ hS μ61 a0 = some (14, 18) ∧ ∃ drawnStep_65 : Nat, hR μ61 a0 9 = some drawnStep_65 ∧ ∃ book_66 : Nat, hR μ61 a0 13 = some book_66 ∧ hS μ61 book_66 = some (6, 9) ∧ xCall d yX11_draw cX11_draw 2 (some .int) [.ref a0, .int (hI (wI μ61 a0_drawnStep 1 y62) book_66 6)] (wI μ61 a0_drawnStep 1 y62) ro (fun r67 μ68 => ∃ y69 : Int32, r67 = some (.int y69) ∧ ∃ N70 : Nat, hS μ68 drawnStep_65 = some (0, N70) ∧ vp_in 2 N70 ∧ hS μ68 a0 = some (14, 18) ∧ ∃ drawnStep_72 : Nat, hR μ68 a0 9 = some drawnStep_72 ∧ ∃ book_73 : Nat, hR μ68 a0 13 = some book_73 ∧ hS μ68 book_73 = some (6, 9) ∧ xCall d yX11_draw cX11_draw 2 (some .int) [.ref a0, .int (hI (wI μ68 drawnStep_65 2 y69) book_73 6)] (wI μ68 drawnStep_65 2 y69) ro (fun r74 μ75 => ∃ y76 : Int32, r74 = some (.int y76) ∧ ∃ N77 : Nat, hS μ75 drawnStep_72 = some (0, N77) ∧ vp_in 3 N77 ∧ hS μ75 a0 = some (14, 18) ∧ ∃ drawnStep_79 : Nat, hR μ75 a0 9 = some drawnStep_79 ∧ xCall d yX11_draw cX11_draw 2 (some .int) [.ref a0, .int 1000] (wI μ75 drawnStep_72 3 y76) ro (fun r80 μ81 => ∃ y82 : Int32, r80 = some (.int y82) ∧ ∃ N83 : Nat, hS μ81 drawnStep_79 = some (0, N83) ∧ vp_in 4 N83 ∧ Z none (wI μ81 drawnStep_79 4 (y82 + 1))))))))) :
    J μ 0 0 0 [(0, .ref a0), (1, .int x1)] [] := by
  refine r_iload_n g dX11_drawStep_0 rfl ?_
  refine r_iconst g 3 dX11_drawStep_1 (by decide) ?_
  refine r_icmp_gt g 73 dX11_drawStep_2 (by decide) (fun c1 => ?_) (fun c1 => ?_)
  · replace h := h.1 c1
    refine r_iload_n g dX11_drawStep_73 rfl ?_
    refine r_iconst g 4 dX11_drawStep_74 (by decide) ?_
    refine r_icmp_ne g 99 dX11_drawStep_75 (by decide) (fun c2 => ?_) (fun c2 => ?_)
    · replace h := h.1 c2
      refine r_aload_n g dX11_drawStep_99 rfl ?_
      refine r_getR g fX11_66 rfl hs_a0 hr_a0_drawnStep dX11_drawStep_100 ?_
      refine r_iconst g 1 dX11_drawStep_103 (by decide) ?_
      refine r_aload_n g dX11_drawStep_104 rfl ?_
      refine r_aload_n g dX11_drawStep_105 rfl ?_
      refine r_getR g fX11_72 rfl hs_a0 hr_a0_book dX11_drawStep_106 ?_
      refine r_getI g fX11_144 rfl hs_a0_book dX11_drawStep_109 ?_
      obtain ⟨d1, Z1, hc1, hd1, h1⟩ := h
      refine r_callV (st := [.int 1, .ref a0_drawnStep]) (As := [.int (hI μ a0_book 6)]) g sX11_349 iX11_draw eX11_draw rfl hs_a0 rfl (Nat.le_of_ble_eq_true rfl) dX11_drawStep_112 hd1 (Nat.le_refl 0) (Nat.le_refl 0) hc1 (fun r3 μ4 hZ1 => ?_)
      replace h := h1 _ _ hZ1
      clear h1 hc1 hd1 hZ1 Z1 d1
      obtain ⟨y5, rfl, h⟩ := h
      obtain ⟨N6, hs_a0_drawnStep, h⟩ := h
      obtain ⟨hi7, h⟩ := h
      refine r_iastore g hs_a0_drawnStep hi7 dX11_drawStep_115 ?_
      refine r_iload_n g dX11_drawStep_116 rfl ?_
      refine r_iconst g 5 dX11_drawStep_117 (by decide) ?_
      refine r_icmp_ne g 141 dX11_drawStep_118 (by decide) (fun c8 => ?_) (fun c8 => ?_)
      · replace h := h.1 c8
        refine r_aload_n g dX11_drawStep_141 rfl ?_
        obtain ⟨hs_a0_, h⟩ := h
        obtain ⟨drawnStep_9, hr_drawnStep_9, h⟩ := h
        refine r_getR g fX11_66 rfl hs_a0_ hr_drawnStep_9 dX11_drawStep_142 ?_
        refine r_iconst g 0 dX11_drawStep_145 (by decide) ?_
        refine r_iload_n g dX11_drawStep_146 rfl ?_
        refine r_bipush g 6 dX11_drawStep_147 (by decide) ?_
        refine r_icmp_ne g 156 dX11_drawStep_149 (by decide) (fun c10 => ?_) (fun c10 => ?_)
        · replace h := h.1 c10
          refine r_iconst g 4 dX11_drawStep_156 (by decide) ?_
          obtain ⟨N11, hs_drawnStep_9, h⟩ := h
          obtain ⟨hi12, h⟩ := h
          refine r_iastore g hs_drawnStep_9 hi12 dX11_drawStep_157 ?_
          refine r_aload_n g dX11_drawStep_158 rfl ?_
          refine r_getR g fX11_66 rfl hs_a0_ hr_drawnStep_9 dX11_drawStep_159 ?_
          refine r_iconst g 2 dX11_drawStep_162 (by decide) ?_
          refine r_aload_n g dX11_drawStep_163 rfl ?_
          refine r_aload_n g dX11_drawStep_164 rfl ?_
          obtain ⟨book_13, hr_book_13, h⟩ := h
          refine r_getR g fX11_72 rfl hs_a0_ hr_book_13 dX11_drawStep_165 ?_
          obtain ⟨hs_book_13, h⟩ := h
          refine r_getI g fX11_144 rfl hs_book_13 dX11_drawStep_168 ?_
          obtain ⟨d1, Z1, hc1, hd1, h1⟩ := h
          refine r_callV (st := [.int 2, .ref drawnStep_9]) (As := [.int (hI (wI (wI μ4 a0_drawnStep 1 y5) drawnStep_9 0 4) book_13 6)]) g sX11_349 iX11_draw eX11_draw rfl hs_a0_ rfl (Nat.le_of_ble_eq_true rfl) dX11_drawStep_171 hd1 (Nat.le_refl 0) (Nat.le_refl 0) hc1 (fun r14 μ15 hZ1 => ?_)
          replace h := h1 _ _ hZ1
          clear h1 hc1 hd1 hZ1 Z1 d1
          obtain ⟨y16, rfl, h⟩ := h
          obtain ⟨N17, hs_drawnStep_9_, h⟩ := h
          obtain ⟨hi18, h⟩ := h
          refine r_iastore g hs_drawnStep_9_ hi18 dX11_drawStep_174 ?_
          refine r_aload_n g dX11_drawStep_175 rfl ?_
          obtain ⟨hs_a0__, h⟩ := h
          obtain ⟨drawnStep_19, hr_drawnStep_19, h⟩ := h
          refine r_getR g fX11_66 rfl hs_a0__ hr_drawnStep_19 dX11_drawStep_176 ?_
          refine r_iconst g 3 dX11_drawStep_179 (by decide) ?_
          refine r_iload_n g dX11_drawStep_180 rfl ?_
          refine r_bipush g 6 dX11_drawStep_181 (by decide) ?_
          refine r_icmp_ne g 195 dX11_drawStep_183 (by decide) (fun c20 => ?_) (fun c20 => ?_)
          · replace h := h.1 c20
            refine r_iconst g (-1) dX11_drawStep_195 (by decide) ?_
            obtain ⟨N21, hs_drawnStep_19, h⟩ := h
            obtain ⟨hi22, h⟩ := h
            refine r_iastore g hs_drawnStep_19 hi22 dX11_drawStep_196 ?_
            exact hr.1 rfl _ _ _ _ _ dX11_drawStep_197 (Nat.le_refl 0) (Nat.le_refl 0) h
          · replace h := h.2 c20
            refine r_aload_n g dX11_drawStep_186 rfl ?_
            refine r_bipush g 101 dX11_drawStep_187 (by decide) ?_
            obtain ⟨d1, Z1, hc1, hd1, h1⟩ := h
            refine r_callV (st := [.int 3, .ref drawnStep_19]) (As := [.int 101]) g sX11_349 iX11_draw eX11_draw rfl hs_a0__ rfl (Nat.le_of_ble_eq_true rfl) dX11_drawStep_189 hd1 (Nat.le_refl 0) (Nat.le_refl 0) hc1 (fun r23 μ24 hZ1 => ?_)
            replace h := h1 _ _ hZ1
            clear h1 hc1 hd1 hZ1 Z1 d1
            obtain ⟨y25, rfl, h⟩ := h
            refine r_goto g 196 dX11_drawStep_192 (by decide) ?_
            obtain ⟨N26, hs_drawnStep_19_, h⟩ := h
            obtain ⟨hi27, h⟩ := h
            refine r_iastore g hs_drawnStep_19_ hi27 dX11_drawStep_196 ?_
            exact hr.1 rfl _ _ _ _ _ dX11_drawStep_197 (Nat.le_refl 0) (Nat.le_refl 0) h
        · replace h := h.2 c10
          refine r_iconst g 3 dX11_drawStep_152 (by decide) ?_
          refine r_goto g 157 dX11_drawStep_153 (by decide) ?_
          obtain ⟨N28, hs_drawnStep_9__, h⟩ := h
          obtain ⟨hi29, h⟩ := h
          refine r_iastore g hs_drawnStep_9__ hi29 dX11_drawStep_157 ?_
          refine r_aload_n g dX11_drawStep_158 rfl ?_
          refine r_getR g fX11_66 rfl hs_a0_ hr_drawnStep_9 dX11_drawStep_159 ?_
          refine r_iconst g 2 dX11_drawStep_162 (by decide) ?_
          refine r_aload_n g dX11_drawStep_163 rfl ?_
          refine r_aload_n g dX11_drawStep_164 rfl ?_
          obtain ⟨book_30, hr_book_30, h⟩ := h
          refine r_getR g fX11_72 rfl hs_a0_ hr_book_30 dX11_drawStep_165 ?_
          obtain ⟨hs_book_30, h⟩ := h
          refine r_getI g fX11_144 rfl hs_book_30 dX11_drawStep_168 ?_
          obtain ⟨d1, Z1, hc1, hd1, h1⟩ := h
          refine r_callV (st := [.int 2, .ref drawnStep_9]) (As := [.int (hI (wI (wI μ4 a0_drawnStep 1 y5) drawnStep_9 0 3) book_30 6)]) g sX11_349 iX11_draw eX11_draw rfl hs_a0_ rfl (Nat.le_of_ble_eq_true rfl) dX11_drawStep_171 hd1 (Nat.le_refl 0) (Nat.le_refl 0) hc1 (fun r31 μ32 hZ1 => ?_)
          replace h := h1 _ _ hZ1
          clear h1 hc1 hd1 hZ1 Z1 d1
          obtain ⟨y33, rfl, h⟩ := h
          obtain ⟨N34, hs_drawnStep_9___, h⟩ := h
          obtain ⟨hi35, h⟩ := h
          refine r_iastore g hs_drawnStep_9___ hi35 dX11_drawStep_174 ?_
          refine r_aload_n g dX11_drawStep_175 rfl ?_
          obtain ⟨hs_a0___, h⟩ := h
          obtain ⟨drawnStep_36, hr_drawnStep_36, h⟩ := h
          refine r_getR g fX11_66 rfl hs_a0___ hr_drawnStep_36 dX11_drawStep_176 ?_
          refine r_iconst g 3 dX11_drawStep_179 (by decide) ?_
          refine r_iload_n g dX11_drawStep_180 rfl ?_
          refine r_bipush g 6 dX11_drawStep_181 (by decide) ?_
          refine r_icmp_ne g 195 dX11_drawStep_183 (by decide) (fun c37 => ?_) (fun c37 => ?_)
          · replace h := h.1 c37
            refine r_iconst g (-1) dX11_drawStep_195 (by decide) ?_
            obtain ⟨N38, hs_drawnStep_36, h⟩ := h
            obtain ⟨hi39, h⟩ := h
            refine r_iastore g hs_drawnStep_36 hi39 dX11_drawStep_196 ?_
            exact hr.1 rfl _ _ _ _ _ dX11_drawStep_197 (Nat.le_refl 0) (Nat.le_refl 0) h
          · replace h := h.2 c37
            refine r_aload_n g dX11_drawStep_186 rfl ?_
            refine r_bipush g 101 dX11_drawStep_187 (by decide) ?_
            obtain ⟨d1, Z1, hc1, hd1, h1⟩ := h
            refine r_callV (st := [.int 3, .ref drawnStep_36]) (As := [.int 101]) g sX11_349 iX11_draw eX11_draw rfl hs_a0___ rfl (Nat.le_of_ble_eq_true rfl) dX11_drawStep_189 hd1 (Nat.le_refl 0) (Nat.le_refl 0) hc1 (fun r40 μ41 hZ1 => ?_)
            replace h := h1 _ _ hZ1
            clear h1 hc1 hd1 hZ1 Z1 d1
            obtain ⟨y42, rfl, h⟩ := h
            refine r_goto g 196 dX11_drawStep_192 (by decide) ?_
            obtain ⟨N43, hs_drawnStep_36_, h⟩ := h
            obtain ⟨hi44, h⟩ := h
            refine r_iastore g hs_drawnStep_36_ hi44 dX11_drawStep_196 ?_
            exact hr.1 rfl _ _ _ _ _ dX11_drawStep_197 (Nat.le_refl 0) (Nat.le_refl 0) h
      · replace h := h.2 c8
        refine r_aload_n g dX11_drawStep_121 rfl ?_
        obtain ⟨hs_a0____, h⟩ := h
        obtain ⟨drawnStep_45, hr_drawnStep_45, h⟩ := h
        refine r_getR g fX11_66 rfl hs_a0____ hr_drawnStep_45 dX11_drawStep_122 ?_
        refine r_iconst g 0 dX11_drawStep_125 (by decide) ?_
        refine r_iconst g 2 dX11_drawStep_126 (by decide) ?_
        obtain ⟨N46, hs_drawnStep_45, h⟩ := h
        obtain ⟨hi47, h⟩ := h
        refine r_iastore g hs_drawnStep_45 hi47 dX11_drawStep_127 ?_
        refine r_aload_n g dX11_drawStep_128 rfl ?_
        refine r_getR g fX11_66 rfl hs_a0____ hr_drawnStep_45 dX11_drawStep_129 ?_
        refine r_iconst g 2 dX11_drawStep_132 (by decide) ?_
        refine r_aload_n g dX11_drawStep_133 rfl ?_
        refine r_bipush g 100 dX11_drawStep_134 (by decide) ?_
        obtain ⟨d1, Z1, hc1, hd1, h1⟩ := h
        refine r_callV (st := [.int 2, .ref drawnStep_45]) (As := [.int 100]) g sX11_349 iX11_draw eX11_draw rfl hs_a0____ rfl (Nat.le_of_ble_eq_true rfl) dX11_drawStep_136 hd1 (Nat.le_refl 0) (Nat.le_refl 0) hc1 (fun r48 μ49 hZ1 => ?_)
        replace h := h1 _ _ hZ1
        clear h1 hc1 hd1 hZ1 Z1 d1
        obtain ⟨y50, rfl, h⟩ := h
        obtain ⟨N51, hs_drawnStep_45_, h⟩ := h
        obtain ⟨hi52, h⟩ := h
        refine r_iastore g hs_drawnStep_45_ hi52 dX11_drawStep_139 ?_
        exact hr.1 rfl _ _ _ _ _ dX11_drawStep_140 (Nat.le_refl 0) (Nat.le_refl 0) h
    · replace h := h.2 c2
      refine r_aload_n g dX11_drawStep_78 rfl ?_
      refine r_getR g fX11_66 rfl hs_a0 hr_a0_drawnStep dX11_drawStep_79 ?_
      refine r_iconst g 0 dX11_drawStep_82 (by decide) ?_
      refine r_iconst g 1 dX11_drawStep_83 (by decide) ?_
      obtain ⟨hi53, h⟩ := h
      refine r_iastore g hs_a0_drawnStep_ hi53 dX11_drawStep_84 ?_
      refine r_aload_n g dX11_drawStep_85 rfl ?_
      refine r_getR g fX11_66 rfl hs_a0 hr_a0_drawnStep dX11_drawStep_86 ?_
      refine r_iconst g 1 dX11_drawStep_89 (by decide) ?_
      refine r_aload_n g dX11_drawStep_90 rfl ?_
      refine r_iconst g 5 dX11_drawStep_91 (by decide) ?_
      obtain ⟨d1, Z1, hc1, hd1, h1⟩ := h
      refine r_callV (st := [.int 1, .ref a0_drawnStep]) (As := [.int 5]) g sX11_349 iX11_draw eX11_draw rfl hs_a0 rfl (Nat.le_of_ble_eq_true rfl) dX11_drawStep_92 hd1 (Nat.le_refl 0) (Nat.le_refl 0) hc1 (fun r54 μ55 hZ1 => ?_)
      replace h := h1 _ _ hZ1
      clear h1 hc1 hd1 hZ1 Z1 d1
      obtain ⟨y56, rfl, h⟩ := h
      refine r_iconst g 1 dX11_drawStep_95 (by decide) ?_
      refine r_iadd g dX11_drawStep_96 ?_
      obtain ⟨N57, hs_a0_drawnStep__, h⟩ := h
      obtain ⟨hi58, h⟩ := h
      refine r_iastore g hs_a0_drawnStep__ hi58 dX11_drawStep_97 ?_
      exact hr.1 rfl _ _ _ _ _ dX11_drawStep_98 (Nat.le_refl 0) (Nat.le_refl 0) h
  · replace h := h.2 c1
    refine r_aload_n g dX11_drawStep_5 rfl ?_
    refine r_getR g fX11_66 rfl hs_a0 hr_a0_drawnStep dX11_drawStep_6 ?_
    refine r_iconst g 0 dX11_drawStep_9 (by decide) ?_
    refine r_iconst g 0 dX11_drawStep_10 (by decide) ?_
    obtain ⟨hi59, h⟩ := h
    refine r_iastore g hs_a0_drawnStep_ hi59 dX11_drawStep_11 ?_
    refine r_aload_n g dX11_drawStep_12 rfl ?_
    refine r_getR g fX11_66 rfl hs_a0 hr_a0_drawnStep dX11_drawStep_13 ?_
    refine r_iconst g 1 dX11_drawStep_16 (by decide) ?_
    refine r_aload_n g dX11_drawStep_17 rfl ?_
    refine r_iconst g 2 dX11_drawStep_18 (by decide) ?_
    obtain ⟨d1, Z1, hc1, hd1, h1⟩ := h
    refine r_callV (st := [.int 1, .ref a0_drawnStep]) (As := [.int 2]) g sX11_349 iX11_draw eX11_draw rfl hs_a0 rfl (Nat.le_of_ble_eq_true rfl) dX11_drawStep_19 hd1 (Nat.le_refl 0) (Nat.le_refl 0) hc1 (fun r60 μ61 hZ1 => ?_)
    replace h := h1 _ _ hZ1
    clear h1 hc1 hd1 hZ1 Z1 d1
    obtain ⟨y62, rfl, h⟩ := h
    obtain ⟨N63, hs_a0_drawnStep____, h⟩ := h
    obtain ⟨hi64, h⟩ := h
    refine r_iastore g hs_a0_drawnStep____ hi64 dX11_drawStep_22 ?_
    refine r_aload_n g dX11_drawStep_23 rfl ?_
    obtain ⟨hs_a0_______, h⟩ := h
    obtain ⟨drawnStep_65, hr_drawnStep_65, h⟩ := h
    refine r_getR g fX11_66 rfl hs_a0_______ hr_drawnStep_65 dX11_drawStep_24 ?_
    refine r_iconst g 2 dX11_drawStep_27 (by decide) ?_
    refine r_aload_n g dX11_drawStep_28 rfl ?_
    refine r_aload_n g dX11_drawStep_29 rfl ?_
    obtain ⟨book_66, hr_book_66, h⟩ := h
    refine r_getR g fX11_72 rfl hs_a0_______ hr_book_66 dX11_drawStep_30 ?_
    obtain ⟨hs_book_66, h⟩ := h
    refine r_getI g fX11_144 rfl hs_book_66 dX11_drawStep_33 ?_
    obtain ⟨d1, Z1, hc1, hd1, h1⟩ := h
    refine r_callV (st := [.int 2, .ref drawnStep_65]) (As := [.int (hI (wI μ61 a0_drawnStep 1 y62) book_66 6)]) g sX11_349 iX11_draw eX11_draw rfl hs_a0_______ rfl (Nat.le_of_ble_eq_true rfl) dX11_drawStep_36 hd1 (Nat.le_refl 0) (Nat.le_refl 0) hc1 (fun r67 μ68 hZ1 => ?_)
    replace h := h1 _ _ hZ1
    clear h1 hc1 hd1 hZ1 Z1 d1
    obtain ⟨y69, rfl, h⟩ := h
    obtain ⟨N70, hs_drawnStep_65, h⟩ := h
    obtain ⟨hi71, h⟩ := h
    refine r_iastore g hs_drawnStep_65 hi71 dX11_drawStep_39 ?_
    refine r_aload_n g dX11_drawStep_40 rfl ?_
    obtain ⟨hs_a0________, h⟩ := h
    obtain ⟨drawnStep_72, hr_drawnStep_72, h⟩ := h
    refine r_getR g fX11_66 rfl hs_a0________ hr_drawnStep_72 dX11_drawStep_41 ?_
    refine r_iconst g 3 dX11_drawStep_44 (by decide) ?_
    refine r_aload_n g dX11_drawStep_45 rfl ?_
    refine r_aload_n g dX11_drawStep_46 rfl ?_
    obtain ⟨book_73, hr_book_73, h⟩ := h
    refine r_getR g fX11_72 rfl hs_a0________ hr_book_73 dX11_drawStep_47 ?_
    obtain ⟨hs_book_73, h⟩ := h
    refine r_getI g fX11_144 rfl hs_book_73 dX11_drawStep_50 ?_
    obtain ⟨d1, Z1, hc1, hd1, h1⟩ := h
    refine r_callV (st := [.int 3, .ref drawnStep_72]) (As := [.int (hI (wI μ68 drawnStep_65 2 y69) book_73 6)]) g sX11_349 iX11_draw eX11_draw rfl hs_a0________ rfl (Nat.le_of_ble_eq_true rfl) dX11_drawStep_53 hd1 (Nat.le_refl 0) (Nat.le_refl 0) hc1 (fun r74 μ75 hZ1 => ?_)
    replace h := h1 _ _ hZ1
    clear h1 hc1 hd1 hZ1 Z1 d1
    obtain ⟨y76, rfl, h⟩ := h
    obtain ⟨N77, hs_drawnStep_72, h⟩ := h
    obtain ⟨hi78, h⟩ := h
    refine r_iastore g hs_drawnStep_72 hi78 dX11_drawStep_56 ?_
    refine r_aload_n g dX11_drawStep_57 rfl ?_
    obtain ⟨hs_a0_________, h⟩ := h
    obtain ⟨drawnStep_79, hr_drawnStep_79, h⟩ := h
    refine r_getR g fX11_66 rfl hs_a0_________ hr_drawnStep_79 dX11_drawStep_58 ?_
    refine r_iconst g 4 dX11_drawStep_61 (by decide) ?_
    refine r_aload_n g dX11_drawStep_62 rfl ?_
    refine r_sipush g 1000 dX11_drawStep_63 (by decide) ?_
    obtain ⟨d1, Z1, hc1, hd1, h1⟩ := h
    refine r_callV (st := [.int 4, .ref drawnStep_79]) (As := [.int 1000]) g sX11_349 iX11_draw eX11_draw rfl hs_a0_________ rfl (Nat.le_of_ble_eq_true rfl) dX11_drawStep_66 hd1 (Nat.le_refl 0) (Nat.le_refl 0) hc1 (fun r80 μ81 hZ1 => ?_)
    replace h := h1 _ _ hZ1
    clear h1 hc1 hd1 hZ1 Z1 d1
    obtain ⟨y82, rfl, h⟩ := h
    refine r_iconst g 1 dX11_drawStep_69 (by decide) ?_
    refine r_iadd g dX11_drawStep_70 ?_
    obtain ⟨N83, hs_drawnStep_79, h⟩ := h
    obtain ⟨hi84, h⟩ := h
    refine r_iastore g hs_drawnStep_79 hi84 dX11_drawStep_71 ?_
    exact hr.1 rfl _ _ _ _ _ dX11_drawStep_72 (Nat.le_refl 0) (Nat.le_refl 0) h
theorem I_X11_drawStep {d : Nat} {ro : Nat → Nat} {Z : Option Value → Hp → Prop} {μ : Hp} {a0 : Nat} {x1 : Int32} (h : ∀ J, xCtx RX11 cX11_drawStep 2 d 0 0 yX11_drawStep.name ro J → xRet cX11_drawStep none 0 0 Z J → J μ 0 0 0 [(0, .ref a0), (1, .int x1)] []) : xC d yX11_drawStep cX11_drawStep 2 none 0 0 [.ref a0, .int x1] μ ro Z :=
  xC_intro (own := RX11) (lv := [(0, .ref a0), (1, .int x1)]) (by decide) rfl (Nat.le_of_ble_eq_true rfl) rfl (fun J g hr => r_sub g (lv' := [(0, .ref a0), (1, .int x1)]) (⟨rfl, rfl, trivial⟩) (h J g hr))
theorem dX11_draw_0 : decode cX11_draw 0 = .ok (.aload_n 0, 1) := by decide +kernel
theorem dX11_draw_1 : decode cX11_draw 1 = .ok (.aload_n 0, 1) := by decide +kernel
theorem dX11_draw_2 : decode cX11_draw 2 = .ok (.getfield 87, 3) := by decide +kernel
theorem dX11_draw_5 : decode cX11_draw 5 = .ok (.ldc2_w 359, 3) := by decide +kernel
theorem dX11_draw_8 : decode cX11_draw 8 = .ok (.lmul, 1) := by decide +kernel
theorem dX11_draw_9 : decode cX11_draw 9 = .ok (.ldc2_w 361, 3) := by decide +kernel
theorem dX11_draw_12 : decode cX11_draw 12 = .ok (.ladd, 1) := by decide +kernel
theorem dX11_draw_13 : decode cX11_draw 13 = .ok (.putfield 87, 3) := by decide +kernel
theorem dX11_draw_16 : decode cX11_draw 16 = .ok (.iload_n 1, 1) := by decide +kernel
theorem dX11_draw_17 : decode cX11_draw 17 = .ok (.ifCond .le 17, 3) := by decide +kernel
theorem dX11_draw_20 : decode cX11_draw 20 = .ok (.aload_n 0, 1) := by decide +kernel
theorem dX11_draw_21 : decode cX11_draw 21 = .ok (.getfield 87, 3) := by decide +kernel
theorem dX11_draw_24 : decode cX11_draw 24 = .ok (.bipush 33, 2) := by decide +kernel
theorem dX11_draw_26 : decode cX11_draw 26 = .ok (.lushr, 1) := by decide +kernel
theorem dX11_draw_27 : decode cX11_draw 27 = .ok (.iload_n 1, 1) := by decide +kernel
theorem dX11_draw_28 : decode cX11_draw 28 = .ok (.i2l, 1) := by decide +kernel
theorem dX11_draw_29 : decode cX11_draw 29 = .ok (.lrem, 1) := by decide +kernel
theorem dX11_draw_30 : decode cX11_draw 30 = .ok (.l2i, 1) := by decide +kernel
theorem dX11_draw_31 : decode cX11_draw 31 = .ok (.goto 4, 3) := by decide +kernel
theorem dX11_draw_34 : decode cX11_draw 34 = .ok (.iconst 0, 1) := by decide +kernel
theorem dX11_draw_35 : decode cX11_draw 35 = .ok (.ireturn, 1) := by decide +kernel
set_option maxHeartbeats 4000000 in
set_option maxRecDepth 100000 in
theorem B_X11_draw_0 {d : Nat} {ro : Nat → Nat} {J : JT} {Z : Option Value → Hp → Prop} (g : xCtx RX11 cX11_draw 2 d 0 0 yX11_draw.name ro J) (hr : xRet cX11_draw (some .int) 0 0 Z J) {μ : Hp} {a0 : Nat} {x1 : Int32} (hs_a0 : hS μ a0 = some (14, 18))
    (h : ((x1 ≤ 0 → Z (some (.int 0)) (wL μ a0 17 (((hL μ a0 17) * 6364136223846793005) + 1442695040888963407))) ∧ (¬ x1 ≤ 0 → (∀ v2 : Int64, v2 = (hL (wL μ a0 17 (((hL μ a0 17) * 6364136223846793005) + 1442695040888963407)) a0 17) → (∀ v3 : Int64, v3 = (v2.toUInt64 >>> ((33 : Int32).toInt64.toUInt64 &&& Int64.toUInt64 63)).toInt64 → ¬ x1.toInt64 = 0 ∧ Z (some (.int (v3 - v3 / x1.toInt64 * x1.toInt64).toInt32)) (wL μ a0 17 (((hL μ a0 17) * 6364136223846793005) + 1442695040888963407))))))) :
    J μ 0 0 0 [(0, .ref a0), (1, .int x1)] [] := by
  refine r_aload_n g dX11_draw_0 rfl ?_
  refine r_aload_n g dX11_draw_1 rfl ?_
  refine r_getL g fX11_87 rfl hs_a0 dX11_draw_2 ?_
  refine r_ldc2 g 6364136223846793005 kX11_359 dX11_draw_5 ?_
  refine r_lmul g dX11_draw_8 ?_
  refine r_ldc2 g 1442695040888963407 kX11_361 dX11_draw_9 ?_
  refine r_ladd g dX11_draw_12 ?_
  refine r_putL g fX11_87 rfl hs_a0 rfl rfl dX11_draw_13 ?_
  refine r_iload_n g dX11_draw_16 rfl ?_
  refine r_if_le g 34 dX11_draw_17 (by decide) (fun c1 => ?_) (fun c1 => ?_)
  · replace h := h.1 c1
    refine r_iconst g 0 dX11_draw_34 (by decide) ?_
    exact hr.2.1 _ rfl _ _ _ _ _ _ dX11_draw_35 rfl (Nat.le_refl 0) (Nat.le_refl 0) h
  · replace h := h.2 c1
    refine r_aload_n g dX11_draw_20 rfl ?_
    refine r_getL g fX11_87 rfl hs_a0 dX11_draw_21 ?_
    refine r_nmL (fun v2 ev2 => ?_)
    replace h := h v2 ev2
    refine r_bipush g 33 dX11_draw_24 (by decide) ?_
    refine r_lushr g dX11_draw_26 ?_
    refine r_nmL (fun v3 ev3 => ?_)
    replace h := h v3 ev3
    refine r_iload_n g dX11_draw_27 rfl ?_
    refine r_i2l g dX11_draw_28 ?_
    obtain ⟨hz4, h⟩ := h
    refine r_lrem g hz4 dX11_draw_29 ?_
    refine r_l2i g dX11_draw_30 ?_
    refine r_goto g 35 dX11_draw_31 (by decide) ?_
    exact hr.2.1 _ rfl _ _ _ _ _ _ dX11_draw_35 rfl (Nat.le_refl 0) (Nat.le_refl 0) h
theorem I_X11_draw {d : Nat} {ro : Nat → Nat} {Z : Option Value → Hp → Prop} {μ : Hp} {a0 : Nat} {x1 : Int32} (h : ∀ J, xCtx RX11 cX11_draw 2 d 0 0 yX11_draw.name ro J → xRet cX11_draw (some .int) 0 0 Z J → J μ 0 0 0 [(0, .ref a0), (1, .int x1)] []) : xC d yX11_draw cX11_draw 2 (some .int) 0 0 [.ref a0, .int x1] μ ro Z :=
  xC_intro (own := RX11) (lv := [(0, .ref a0), (1, .int x1)]) (by decide) rfl (Nat.le_of_ble_eq_true rfl) rfl (fun J g hr => r_sub g (lv' := [(0, .ref a0), (1, .int x1)]) (⟨rfl, rfl, trivial⟩) (h J g hr))
theorem dX11_status_0 : decode cX11_status 0 = .ok (.iload_n 1, 1) := by decide +kernel
theorem dX11_status_1 : decode cX11_status 1 = .ok (.ifCond .lt 17, 3) := by decide +kernel
theorem dX11_status_4 : decode cX11_status 4 = .ok (.iload_n 1, 1) := by decide +kernel
theorem dX11_status_5 : decode cX11_status 5 = .ok (.iconst 4, 1) := by decide +kernel
theorem dX11_status_6 : decode cX11_status 6 = .ok (.if_icmp .ge 12, 3) := by decide +kernel
theorem dX11_status_9 : decode cX11_status 9 = .ok (.aload_n 0, 1) := by decide +kernel
theorem dX11_status_10 : decode cX11_status 10 = .ok (.getfield 62, 3) := by decide +kernel
theorem dX11_status_13 : decode cX11_status 13 = .ok (.iload_n 1, 1) := by decide +kernel
theorem dX11_status_14 : decode cX11_status 14 = .ok (.iaload, 1) := by decide +kernel
theorem dX11_status_15 : decode cX11_status 15 = .ok (.goto 4, 3) := by decide +kernel
theorem dX11_status_18 : decode cX11_status 18 = .ok (.iconst (-1), 1) := by decide +kernel
theorem dX11_status_19 : decode cX11_status 19 = .ok (.ireturn, 1) := by decide +kernel
set_option maxHeartbeats 4000000 in
set_option maxRecDepth 100000 in
theorem B_X11_status_0 {d : Nat} {ro : Nat → Nat} {J : JT} {Z : Option Value → Hp → Prop} (g : xCtx RX11 cX11_status 2 d 0 0 yX11_status.name ro J) (hr : xRet cX11_status (some .int) 0 0 Z J) {μ : Hp} {a0 : Nat} {x1 : Int32} {a0_refused : Nat} {N_a0_refused : Nat} (hs_a0 : hS μ a0 = some (14, 18)) (hr_a0_refused : hR μ a0 8 = some a0_refused) (hs_a0_refused : hS μ a0_refused = some (0, N_a0_refused))
    (h : ((x1 < 0 → Z (some (.int (-1))) μ) ∧ (¬ x1 < 0 → ((4 ≤ x1 → Z (some (.int (-1))) μ) ∧ (¬ 4 ≤ x1 → vp_in x1 N_a0_refused ∧ Z (some (.int (hI μ a0_refused x1.toNatClampNeg))) μ))))) :
    J μ 0 0 0 [(0, .ref a0), (1, .int x1)] [] := by
  refine r_iload_n g dX11_status_0 rfl ?_
  refine r_if_lt g 18 dX11_status_1 (by decide) (fun c1 => ?_) (fun c1 => ?_)
  · replace h := h.1 c1
    refine r_iconst g (-1) dX11_status_18 (by decide) ?_
    exact hr.2.1 _ rfl _ _ _ _ _ _ dX11_status_19 rfl (Nat.le_refl 0) (Nat.le_refl 0) h
  · replace h := h.2 c1
    refine r_iload_n g dX11_status_4 rfl ?_
    refine r_iconst g 4 dX11_status_5 (by decide) ?_
    refine r_icmp_ge g 18 dX11_status_6 (by decide) (fun c2 => ?_) (fun c2 => ?_)
    · replace h := h.1 c2
      refine r_iconst g (-1) dX11_status_18 (by decide) ?_
      exact hr.2.1 _ rfl _ _ _ _ _ _ dX11_status_19 rfl (Nat.le_refl 0) (Nat.le_refl 0) h
    · replace h := h.2 c2
      refine r_aload_n g dX11_status_9 rfl ?_
      refine r_getR g fX11_62 rfl hs_a0 hr_a0_refused dX11_status_10 ?_
      refine r_iload_n g dX11_status_13 rfl ?_
      obtain ⟨hi3, h⟩ := h
      refine r_iaload g hs_a0_refused hi3 dX11_status_14 ?_
      refine r_goto g 19 dX11_status_15 (by decide) ?_
      exact hr.2.1 _ rfl _ _ _ _ _ _ dX11_status_19 rfl (Nat.le_refl 0) (Nat.le_refl 0) h
theorem I_X11_status {d : Nat} {ro : Nat → Nat} {Z : Option Value → Hp → Prop} {μ : Hp} {a0 : Nat} {x1 : Int32} (h : ∀ J, xCtx RX11 cX11_status 2 d 0 0 yX11_status.name ro J → xRet cX11_status (some .int) 0 0 Z J → J μ 0 0 0 [(0, .ref a0), (1, .int x1)] []) : xC d yX11_status cX11_status 2 (some .int) 0 0 [.ref a0, .int x1] μ ro Z :=
  xC_intro (own := RX11) (lv := [(0, .ref a0), (1, .int x1)]) (by decide) rfl (Nat.le_of_ble_eq_true rfl) rfl (fun J g hr => r_sub g (lv' := [(0, .ref a0), (1, .int x1)]) (⟨rfl, rfl, trivial⟩) (h J g hr))
theorem dX11_undo_0 : decode cX11_undo 0 = .ok (.aload_n 0, 1) := by decide +kernel
theorem dX11_undo_1 : decode cX11_undo 1 = .ok (.getfield 41, 3) := by decide +kernel
theorem dX11_undo_4 : decode cX11_undo 4 = .ok (.aload_n 0, 1) := by decide +kernel
theorem dX11_undo_5 : decode cX11_undo 5 = .ok (.getfield 96, 3) := by decide +kernel
theorem dX11_undo_8 : decode cX11_undo 8 = .ok (.invokevirtual 363, 3) := by decide +kernel
theorem dX11_undo_11 : decode cX11_undo 11 = .ok (.ifCond .ne 5, 3) := by decide +kernel
theorem dX11_undo_14 : decode cX11_undo 14 = .ok (.iconst (-1), 1) := by decide +kernel
theorem dX11_undo_15 : decode cX11_undo 15 = .ok (.ireturn, 1) := by decide +kernel
theorem dX11_undo_16 : decode cX11_undo 16 = .ok (.aload_n 0, 1) := by decide +kernel
theorem dX11_undo_17 : decode cX11_undo 17 = .ok (.getfield 48, 3) := by decide +kernel
theorem dX11_undo_20 : decode cX11_undo 20 = .ok (.invokevirtual 367, 3) := by decide +kernel
theorem dX11_undo_23 : decode cX11_undo 23 = .ok (.aload_n 0, 1) := by decide +kernel
theorem dX11_undo_24 : decode cX11_undo 24 = .ok (.getfield 41, 3) := by decide +kernel
theorem dX11_undo_27 : decode cX11_undo 27 = .ok (.getfield 236, 3) := by decide +kernel
theorem dX11_undo_30 : decode cX11_undo 30 = .ok (.ireturn, 1) := by decide +kernel
set_option maxHeartbeats 4000000 in
set_option maxRecDepth 100000 in
theorem B_X11_undo_0 {d : Nat} {ro : Nat → Nat} {J : JT} {Z : Option Value → Hp → Prop} (g : xCtx RX11 cX11_undo 1 d 0 0 yX11_undo.name ro J) (hr : xRet cX11_undo (some .int) 0 0 Z J) {μ : Hp} {a0 : Nat} {a0_history : Nat} {a0_now : Nat} (hs_a0 : hS μ a0 = some (14, 18)) (hr_a0_history : hR μ a0 4 = some a0_history) (hr_a0_now : hR μ a0 10 = some a0_now) (hs_a0_history : hS μ a0_history = some (8, 3))
    (h : xCall d yX4_giveBack cX4_giveBack 2 (some .boolean) [.ref a0_history, .ref a0_now] μ ro (fun r1 μ2 => ∃ y3 : Int32, r1 = some (.int y3) ∧ ((¬ y3 = 0 → hS μ2 a0 = some (14, 18) ∧ ∃ acted_5 : Nat, hR μ2 a0 5 = some acted_5 ∧ hS μ2 acted_5 = some (9, 3) ∧ xCall d yX5_dropLatest cX5_dropLatest 1 none [.ref acted_5] μ2 ro (fun r6 μ7 => r6 = none ∧ hS μ7 a0 = some (14, 18) ∧ ∃ history_8 : Nat, hR μ7 a0 4 = some history_8 ∧ hS μ7 history_8 = some (8, 3) ∧ Z (some (.int (hI μ7 history_8 0))) μ7)) ∧ (y3 = 0 → Z (some (.int (-1))) μ2)))) :
    J μ 0 0 0 [(0, .ref a0)] [] := by
  refine r_aload_n g dX11_undo_0 rfl ?_
  refine r_getR g fX11_41 rfl hs_a0 hr_a0_history dX11_undo_1 ?_
  refine r_aload_n g dX11_undo_4 rfl ?_
  refine r_getR g fX11_96 rfl hs_a0 hr_a0_now dX11_undo_5 ?_
  obtain ⟨d1, Z1, hc1, hd1, h1⟩ := h
  refine r_callV (st := []) (As := [.ref a0_now]) g sX11_363 iX4_giveBack eX4_giveBack rfl hs_a0_history rfl (Nat.le_of_ble_eq_true rfl) dX11_undo_8 hd1 (Nat.le_refl 0) (Nat.le_refl 0) hc1 (fun r1 μ2 hZ1 => ?_)
  replace h := h1 _ _ hZ1
  clear h1 hc1 hd1 hZ1 Z1 d1
  obtain ⟨y3, rfl, h⟩ := h
  refine r_if_ne g 16 dX11_undo_11 (by decide) (fun c4 => ?_) (fun c4 => ?_)
  · replace h := h.1 c4
    refine r_aload_n g dX11_undo_16 rfl ?_
    obtain ⟨hs_a0_, h⟩ := h
    obtain ⟨acted_5, hr_acted_5, h⟩ := h
    refine r_getR g fX11_48 rfl hs_a0_ hr_acted_5 dX11_undo_17 ?_
    obtain ⟨hs_acted_5, h⟩ := h
    obtain ⟨d1, Z1, hc1, hd1, h1⟩ := h
    refine r_callV (st := []) (As := []) g sX11_367 iX5_dropLatest eX5_dropLatest rfl hs_acted_5 rfl (Nat.le_of_ble_eq_true rfl) dX11_undo_20 hd1 (Nat.le_refl 0) (Nat.le_refl 0) hc1 (fun r6 μ7 hZ1 => ?_)
    replace h := h1 _ _ hZ1
    clear h1 hc1 hd1 hZ1 Z1 d1
    obtain ⟨rfl, h⟩ := h
    refine r_aload_n g dX11_undo_23 rfl ?_
    obtain ⟨hs_a0__, h⟩ := h
    obtain ⟨history_8, hr_history_8, h⟩ := h
    refine r_getR g fX11_41 rfl hs_a0__ hr_history_8 dX11_undo_24 ?_
    obtain ⟨hs_history_8, h⟩ := h
    refine r_getI g fX11_236 rfl hs_history_8 dX11_undo_27 ?_
    exact hr.2.1 _ rfl _ _ _ _ _ _ dX11_undo_30 rfl (Nat.le_refl 0) (Nat.le_refl 0) h
  · replace h := h.2 c4
    refine r_iconst g (-1) dX11_undo_14 (by decide) ?_
    exact hr.2.1 _ rfl _ _ _ _ _ _ dX11_undo_15 rfl (Nat.le_refl 0) (Nat.le_refl 0) h
theorem I_X11_undo {d : Nat} {ro : Nat → Nat} {Z : Option Value → Hp → Prop} {μ : Hp} {a0 : Nat} (h : ∀ J, xCtx RX11 cX11_undo 1 d 0 0 yX11_undo.name ro J → xRet cX11_undo (some .int) 0 0 Z J → J μ 0 0 0 [(0, .ref a0)] []) : xC d yX11_undo cX11_undo 1 (some .int) 0 0 [.ref a0] μ ro Z :=
  xC_intro (own := RX11) (lv := [(0, .ref a0)]) (by decide) rfl (Nat.le_of_ble_eq_true rfl) rfl (fun J g hr => r_sub g (lv' := [(0, .ref a0)]) (⟨rfl, trivial⟩) (h J g hr))
theorem dX11_log_0 : decode cX11_log 0 = .ok (.iload_n 1, 1) := by decide +kernel
theorem dX11_log_1 : decode cX11_log 1 = .ok (.ifCond .lt 23, 3) := by decide +kernel
theorem dX11_log_4 : decode cX11_log 4 = .ok (.iload_n 1, 1) := by decide +kernel
theorem dX11_log_5 : decode cX11_log 5 = .ok (.aload_n 0, 1) := by decide +kernel
theorem dX11_log_6 : decode cX11_log 6 = .ok (.getfield 48, 3) := by decide +kernel
theorem dX11_log_9 : decode cX11_log 9 = .ok (.invokevirtual 233, 3) := by decide +kernel
theorem dX11_log_12 : decode cX11_log 12 = .ok (.if_icmp .ge 12, 3) := by decide +kernel
theorem dX11_log_15 : decode cX11_log 15 = .ok (.iload_n 2, 1) := by decide +kernel
theorem dX11_log_16 : decode cX11_log 16 = .ok (.ifCond .lt 8, 3) := by decide +kernel
theorem dX11_log_19 : decode cX11_log 19 = .ok (.iload_n 2, 1) := by decide +kernel
theorem dX11_log_20 : decode cX11_log 20 = .ok (.iconst 3, 1) := by decide +kernel
theorem dX11_log_21 : decode cX11_log 21 = .ok (.if_icmp .lt 6, 3) := by decide +kernel
theorem dX11_log_24 : decode cX11_log 24 = .ok (.ldc 216, 2) := by decide +kernel
theorem dX11_log_26 : decode cX11_log 26 = .ok (.ireturn, 1) := by decide +kernel
theorem dX11_log_27 : decode cX11_log 27 = .ok (.aload_n 0, 1) := by decide +kernel
theorem dX11_log_28 : decode cX11_log 28 = .ok (.getfield 48, 3) := by decide +kernel
theorem dX11_log_31 : decode cX11_log 31 = .ok (.iload_n 1, 1) := by decide +kernel
theorem dX11_log_32 : decode cX11_log 32 = .ok (.iload_n 2, 1) := by decide +kernel
theorem dX11_log_33 : decode cX11_log 33 = .ok (.invokevirtual 370, 3) := by decide +kernel
theorem dX11_log_36 : decode cX11_log 36 = .ok (.ireturn, 1) := by decide +kernel
set_option maxHeartbeats 4000000 in
set_option maxRecDepth 100000 in
theorem B_X11_log_0 {d : Nat} {ro : Nat → Nat} {J : JT} {Z : Option Value → Hp → Prop} (g : xCtx RX11 cX11_log 3 d 0 0 yX11_log.name ro J) (hr : xRet cX11_log (some .int) 0 0 Z J) {μ : Hp} {a0 : Nat} {x1 : Int32} {x2 : Int32} {a0_acted : Nat} (hs_a0 : hS μ a0 = some (14, 18)) (hr_a0_acted : hR μ a0 5 = some a0_acted) (hs_a0_acted : hS μ a0_acted = some (9, 3))
    (h : ((x1 < 0 → Z (some (.int (-1000000))) μ) ∧ (¬ x1 < 0 → xCall d yX5_size cX5_size 1 (some .int) [.ref a0_acted] μ ro (fun r2 μ3 => ∃ y4 : Int32, r2 = some (.int y4) ∧ ((y4 ≤ x1 → Z (some (.int (-1000000))) μ3) ∧ (¬ y4 ≤ x1 → ((x2 < 0 → Z (some (.int (-1000000))) μ3) ∧ (¬ x2 < 0 → ((x2 < 3 → hS μ3 a0 = some (14, 18) ∧ ∃ acted_8 : Nat, hR μ3 a0 5 = some acted_8 ∧ hS μ3 acted_8 = some (9, 3) ∧ xCall d yX5_part cX5_part 3 (some .int) [.ref acted_8, .int x1, .int x2] μ3 ro (fun r9 μ10 => ∃ y11 : Int32, r9 = some (.int y11) ∧ Z (some (.int y11)) μ10)) ∧ (¬ x2 < 3 → Z (some (.int (-1000000))) μ3)))))))))) :
    J μ 0 0 0 [(0, .ref a0), (1, .int x1), (2, .int x2)] [] := by
  refine r_iload_n g dX11_log_0 rfl ?_
  refine r_if_lt g 24 dX11_log_1 (by decide) (fun c1 => ?_) (fun c1 => ?_)
  · replace h := h.1 c1
    refine r_ldc g (-1000000) kX11_216 dX11_log_24 ?_
    exact hr.2.1 _ rfl _ _ _ _ _ _ dX11_log_26 rfl (Nat.le_refl 0) (Nat.le_refl 0) h
  · replace h := h.2 c1
    refine r_iload_n g dX11_log_4 rfl ?_
    refine r_aload_n g dX11_log_5 rfl ?_
    refine r_getR g fX11_48 rfl hs_a0 hr_a0_acted dX11_log_6 ?_
    obtain ⟨d1, Z1, hc1, hd1, h1⟩ := h
    refine r_callV (st := [.int x1]) (As := []) g sX11_233 iX5_size eX5_size rfl hs_a0_acted rfl (Nat.le_of_ble_eq_true rfl) dX11_log_9 hd1 (Nat.le_refl 0) (Nat.le_refl 0) hc1 (fun r2 μ3 hZ1 => ?_)
    replace h := h1 _ _ hZ1
    clear h1 hc1 hd1 hZ1 Z1 d1
    obtain ⟨y4, rfl, h⟩ := h
    refine r_icmp_ge g 24 dX11_log_12 (by decide) (fun c5 => ?_) (fun c5 => ?_)
    · replace h := h.1 c5
      refine r_ldc g (-1000000) kX11_216 dX11_log_24 ?_
      exact hr.2.1 _ rfl _ _ _ _ _ _ dX11_log_26 rfl (Nat.le_refl 0) (Nat.le_refl 0) h
    · replace h := h.2 c5
      refine r_iload_n g dX11_log_15 rfl ?_
      refine r_if_lt g 24 dX11_log_16 (by decide) (fun c6 => ?_) (fun c6 => ?_)
      · replace h := h.1 c6
        refine r_ldc g (-1000000) kX11_216 dX11_log_24 ?_
        exact hr.2.1 _ rfl _ _ _ _ _ _ dX11_log_26 rfl (Nat.le_refl 0) (Nat.le_refl 0) h
      · replace h := h.2 c6
        refine r_iload_n g dX11_log_19 rfl ?_
        refine r_iconst g 3 dX11_log_20 (by decide) ?_
        refine r_icmp_lt g 27 dX11_log_21 (by decide) (fun c7 => ?_) (fun c7 => ?_)
        · replace h := h.1 c7
          refine r_aload_n g dX11_log_27 rfl ?_
          obtain ⟨hs_a0_, h⟩ := h
          obtain ⟨acted_8, hr_acted_8, h⟩ := h
          refine r_getR g fX11_48 rfl hs_a0_ hr_acted_8 dX11_log_28 ?_
          refine r_iload_n g dX11_log_31 rfl ?_
          refine r_iload_n g dX11_log_32 rfl ?_
          obtain ⟨hs_acted_8, h⟩ := h
          obtain ⟨d1, Z1, hc1, hd1, h1⟩ := h
          refine r_callV (st := []) (As := [.int x1, .int x2]) g sX11_370 iX5_part eX5_part rfl hs_acted_8 rfl (Nat.le_of_ble_eq_true rfl) dX11_log_33 hd1 (Nat.le_refl 0) (Nat.le_refl 0) hc1 (fun r9 μ10 hZ1 => ?_)
          replace h := h1 _ _ hZ1
          clear h1 hc1 hd1 hZ1 Z1 d1
          obtain ⟨y11, rfl, h⟩ := h
          exact hr.2.1 _ rfl _ _ _ _ _ _ dX11_log_36 rfl (Nat.le_refl 0) (Nat.le_refl 0) h
        · replace h := h.2 c7
          refine r_ldc g (-1000000) kX11_216 dX11_log_24 ?_
          exact hr.2.1 _ rfl _ _ _ _ _ _ dX11_log_26 rfl (Nat.le_refl 0) (Nat.le_refl 0) h
theorem I_X11_log {d : Nat} {ro : Nat → Nat} {Z : Option Value → Hp → Prop} {μ : Hp} {a0 : Nat} {x1 : Int32} {x2 : Int32} (h : ∀ J, xCtx RX11 cX11_log 3 d 0 0 yX11_log.name ro J → xRet cX11_log (some .int) 0 0 Z J → J μ 0 0 0 [(0, .ref a0), (1, .int x1), (2, .int x2)] []) : xC d yX11_log cX11_log 3 (some .int) 0 0 [.ref a0, .int x1, .int x2] μ ro Z :=
  xC_intro (own := RX11) (lv := [(0, .ref a0), (1, .int x1), (2, .int x2)]) (by decide) rfl (Nat.le_of_ble_eq_true rfl) rfl (fun J g hr => r_sub g (lv' := [(0, .ref a0), (1, .int x1), (2, .int x2)]) (⟨rfl, rfl, rfl, trivial⟩) (h J g hr))
theorem dX11_step_0 : decode cX11_step 0 = .ok (.aload_n 0, 1) := by decide +kernel
theorem dX11_step_1 : decode cX11_step 1 = .ok (.iload_n 1, 1) := by decide +kernel
theorem dX11_step_2 : decode cX11_step 2 = .ok (.invokevirtual 373, 3) := by decide +kernel
theorem dX11_step_5 : decode cX11_step 5 = .ok (.ifCond .eq 29, 3) := by decide +kernel
theorem dX11_step_8 : decode cX11_step 8 = .ok (.iload_n 2, 1) := by decide +kernel
theorem dX11_step_9 : decode cX11_step 9 = .ok (.ifCond .lt 25, 3) := by decide +kernel
theorem dX11_step_12 : decode cX11_step 12 = .ok (.iload_n 2, 1) := by decide +kernel
theorem dX11_step_13 : decode cX11_step 13 = .ok (.aload_n 0, 1) := by decide +kernel
theorem dX11_step_14 : decode cX11_step 14 = .ok (.getfield 18, 3) := by decide +kernel
theorem dX11_step_17 : decode cX11_step 17 = .ok (.iload_n 1, 1) := by decide +kernel
theorem dX11_step_18 : decode cX11_step 18 = .ok (.aaload, 1) := by decide +kernel
theorem dX11_step_19 : decode cX11_step 19 = .ok (.getfield 376, 3) := by decide +kernel
theorem dX11_step_22 : decode cX11_step 22 = .ok (.if_icmp .ge 12, 3) := by decide +kernel
theorem dX11_step_25 : decode cX11_step 25 = .ok (.iload_n 3, 1) := by decide +kernel
theorem dX11_step_26 : decode cX11_step 26 = .ok (.ifCond .lt 8, 3) := by decide +kernel
theorem dX11_step_29 : decode cX11_step 29 = .ok (.iload_n 3, 1) := by decide +kernel
theorem dX11_step_30 : decode cX11_step 30 = .ok (.iconst 5, 1) := by decide +kernel
theorem dX11_step_31 : decode cX11_step 31 = .ok (.if_icmp .lt 6, 3) := by decide +kernel
theorem dX11_step_34 : decode cX11_step 34 = .ok (.ldc 216, 2) := by decide +kernel
theorem dX11_step_36 : decode cX11_step 36 = .ok (.ireturn, 1) := by decide +kernel
theorem dX11_step_37 : decode cX11_step 37 = .ok (.aload_n 0, 1) := by decide +kernel
theorem dX11_step_38 : decode cX11_step 38 = .ok (.getfield 18, 3) := by decide +kernel
theorem dX11_step_41 : decode cX11_step 41 = .ok (.iload_n 1, 1) := by decide +kernel
theorem dX11_step_42 : decode cX11_step 42 = .ok (.aaload, 1) := by decide +kernel
theorem dX11_step_43 : decode cX11_step 43 = .ok (.getfield 379, 3) := by decide +kernel
theorem dX11_step_46 : decode cX11_step 46 = .ok (.iload_n 2, 1) := by decide +kernel
theorem dX11_step_47 : decode cX11_step 47 = .ok (.iconst 5, 1) := by decide +kernel
theorem dX11_step_48 : decode cX11_step 48 = .ok (.imul, 1) := by decide +kernel
theorem dX11_step_49 : decode cX11_step 49 = .ok (.iload_n 3, 1) := by decide +kernel
theorem dX11_step_50 : decode cX11_step 50 = .ok (.iadd, 1) := by decide +kernel
theorem dX11_step_51 : decode cX11_step 51 = .ok (.iaload, 1) := by decide +kernel
theorem dX11_step_52 : decode cX11_step 52 = .ok (.ireturn, 1) := by decide +kernel
set_option maxHeartbeats 4000000 in
set_option maxRecDepth 100000 in
theorem B_X11_step_0 {d : Nat} {ro : Nat → Nat} {J : JT} {Z : Option Value → Hp → Prop} (g : xCtx RX11 cX11_step 4 d 0 0 yX11_step.name ro J) (hr : xRet cX11_step (some .int) 0 0 Z J) {μ : Hp} {a0 : Nat} {x1 : Int32} {x2 : Int32} {x3 : Int32} {a0_scripts : Nat} {N_a0_scripts : Nat} (hs_a0 : hS μ a0 = some (14, 18)) (hr_a0_scripts : hR μ a0 1 = some a0_scripts) (hs_a0_scripts : hS μ a0_scripts = some (3, N_a0_scripts)) (hd9 : 1 ≤ d)
    (h : ((x1 < 0 → Z (some (.int (-1000000))) μ) ∧ (¬ x1 < 0 → (((hI μ a0 15) ≤ x1 → Z (some (.int (-1000000))) μ) ∧ (¬ (hI μ a0 15) ≤ x1 → ((x2 < 0 → Z (some (.int (-1000000))) μ) ∧ (¬ x2 < 0 → vp_in x1 N_a0_scripts ∧ ∃ b11 : Nat, hR μ a0_scripts x1.toNatClampNeg = some b11 ∧ hS μ b11 = some (11, 2) ∧ (((hI μ b11 1) ≤ x2 → Z (some (.int (-1000000))) μ) ∧ (¬ (hI μ b11 1) ≤ x2 → ((x3 < 0 → Z (some (.int (-1000000))) μ) ∧ (¬ x3 < 0 → ((x3 < 5 → ∃ b15 : Nat, hR μ a0_scripts x1.toNatClampNeg = some b15 ∧ hS μ b15 = some (11, 2) ∧ ∃ row_16 : Nat, hR μ b15 0 = some row_16 ∧ ∃ N17 : Nat, hS μ row_16 = some (0, N17) ∧ vp_in ((x2 * 5) + x3) N17 ∧ Z (some (.int (hI μ row_16 (((x2 * 5) + x3).toNatClampNeg)))) μ) ∧ (¬ x3 < 5 → Z (some (.int (-1000000))) μ))))))))))))) :
    J μ 0 0 0 [(0, .ref a0), (1, .int x1), (2, .int x2), (3, .int x3)] [] := by
  refine r_aload_n g dX11_step_0 rfl ?_
  refine r_iload_n g dX11_step_1 rfl ?_
  by_cases c1 : x1 < 0
  · replace h := h.1 c1
    refine r_callV (st := []) (As := [.int x1]) g sX11_373 iX11_hasScript eX11_hasScript rfl hs_a0 rfl (Nat.le_of_ble_eq_true rfl) dX11_step_2 (by omega) (Nat.le_refl 0) (Nat.le_refl 0) (P_X11_hasScript_0 (d := d - 1) hs_a0 c1) (fun r2 μ3 hZ1 => ?_)
    obtain ⟨rfl, e9⟩ := hZ1
    replace e9 := e9.symm
    subst e9
    refine r_if_eq g 34 dX11_step_5 (by decide) (fun _ => ?_) (fun hz => absurd hz (by decide))
    refine r_ldc g (-1000000) kX11_216 dX11_step_34 ?_
    exact hr.2.1 _ rfl _ _ _ _ _ _ dX11_step_36 rfl (Nat.le_refl 0) (Nat.le_refl 0) h
  · replace h := h.2 c1
    by_cases c4 : (hI μ a0 15) ≤ x1
    · replace h := h.1 c4
      refine r_callV (st := []) (As := [.int x1]) g sX11_373 iX11_hasScript eX11_hasScript rfl hs_a0 rfl (Nat.le_of_ble_eq_true rfl) dX11_step_2 (by omega) (Nat.le_refl 0) (Nat.le_refl 0) (P_X11_hasScript_1 (d := d - 1) hs_a0 c1 c4) (fun r5 μ6 hZ1 => ?_)
      obtain ⟨rfl, e9⟩ := hZ1
      replace e9 := e9.symm
      subst e9
      refine r_if_eq g 34 dX11_step_5 (by decide) (fun _ => ?_) (fun hz => absurd hz (by decide))
      refine r_ldc g (-1000000) kX11_216 dX11_step_34 ?_
      exact hr.2.1 _ rfl _ _ _ _ _ _ dX11_step_36 rfl (Nat.le_refl 0) (Nat.le_refl 0) h
    · replace h := h.2 c4
      refine r_callV (st := []) (As := [.int x1]) g sX11_373 iX11_hasScript eX11_hasScript rfl hs_a0 rfl (Nat.le_of_ble_eq_true rfl) dX11_step_2 (by omega) (Nat.le_refl 0) (Nat.le_refl 0) (P_X11_hasScript_2 (d := d - 1) hs_a0 c1 c4) (fun r7 μ8 hZ1 => ?_)
      obtain ⟨rfl, e9⟩ := hZ1
      replace e9 := e9.symm
      subst e9
      refine r_if_eq g 34 dX11_step_5 (by decide) (fun hz => absurd hz (by decide)) (fun _ => ?_)
      refine r_iload_n g dX11_step_8 rfl ?_
      refine r_if_lt g 34 dX11_step_9 (by decide) (fun c9 => ?_) (fun c9 => ?_)
      · replace h := h.1 c9
        refine r_ldc g (-1000000) kX11_216 dX11_step_34 ?_
        exact hr.2.1 _ rfl _ _ _ _ _ _ dX11_step_36 rfl (Nat.le_refl 0) (Nat.le_refl 0) h
      · replace h := h.2 c9
        refine r_iload_n g dX11_step_12 rfl ?_
        refine r_aload_n g dX11_step_13 rfl ?_
        refine r_getR g fX11_18 rfl hs_a0 hr_a0_scripts dX11_step_14 ?_
        refine r_iload_n g dX11_step_17 rfl ?_
        obtain ⟨hi10, h⟩ := h
        obtain ⟨b11, hr_b11, h⟩ := h
        refine r_aaload g hs_a0_scripts hi10 hr_b11 dX11_step_18 ?_
        obtain ⟨hs_b11, h⟩ := h
        refine r_getI g fX11_376 rfl hs_b11 dX11_step_19 ?_
        refine r_icmp_ge g 34 dX11_step_22 (by decide) (fun c12 => ?_) (fun c12 => ?_)
        · replace h := h.1 c12
          refine r_ldc g (-1000000) kX11_216 dX11_step_34 ?_
          exact hr.2.1 _ rfl _ _ _ _ _ _ dX11_step_36 rfl (Nat.le_refl 0) (Nat.le_refl 0) h
        · replace h := h.2 c12
          refine r_iload_n g dX11_step_25 rfl ?_
          refine r_if_lt g 34 dX11_step_26 (by decide) (fun c13 => ?_) (fun c13 => ?_)
          · replace h := h.1 c13
            refine r_ldc g (-1000000) kX11_216 dX11_step_34 ?_
            exact hr.2.1 _ rfl _ _ _ _ _ _ dX11_step_36 rfl (Nat.le_refl 0) (Nat.le_refl 0) h
          · replace h := h.2 c13
            refine r_iload_n g dX11_step_29 rfl ?_
            refine r_iconst g 5 dX11_step_30 (by decide) ?_
            refine r_icmp_lt g 37 dX11_step_31 (by decide) (fun c14 => ?_) (fun c14 => ?_)
            · replace h := h.1 c14
              refine r_aload_n g dX11_step_37 rfl ?_
              refine r_getR g fX11_18 rfl hs_a0 hr_a0_scripts dX11_step_38 ?_
              refine r_iload_n g dX11_step_41 rfl ?_
              obtain ⟨b15, hr_b15, h⟩ := h
              refine r_aaload g hs_a0_scripts hi10 hr_b15 dX11_step_42 ?_
              obtain ⟨hs_b15, h⟩ := h
              obtain ⟨row_16, hr_row_16, h⟩ := h
              refine r_getR g fX11_379 rfl hs_b15 hr_row_16 dX11_step_43 ?_
              refine r_iload_n g dX11_step_46 rfl ?_
              refine r_iconst g 5 dX11_step_47 (by decide) ?_
              refine r_imul g dX11_step_48 ?_
              refine r_iload_n g dX11_step_49 rfl ?_
              refine r_iadd g dX11_step_50 ?_
              obtain ⟨N17, hs_row_16, h⟩ := h
              obtain ⟨hi18, h⟩ := h
              refine r_iaload g hs_row_16 hi18 dX11_step_51 ?_
              exact hr.2.1 _ rfl _ _ _ _ _ _ dX11_step_52 rfl (Nat.le_refl 0) (Nat.le_refl 0) h
            · replace h := h.2 c14
              refine r_ldc g (-1000000) kX11_216 dX11_step_34 ?_
              exact hr.2.1 _ rfl _ _ _ _ _ _ dX11_step_36 rfl (Nat.le_refl 0) (Nat.le_refl 0) h
theorem I_X11_step {d : Nat} {ro : Nat → Nat} {Z : Option Value → Hp → Prop} {μ : Hp} {a0 : Nat} {x1 : Int32} {x2 : Int32} {x3 : Int32} (h : ∀ J, xCtx RX11 cX11_step 4 d 0 0 yX11_step.name ro J → xRet cX11_step (some .int) 0 0 Z J → J μ 0 0 0 [(0, .ref a0), (1, .int x1), (2, .int x2), (3, .int x3)] []) : xC d yX11_step cX11_step 4 (some .int) 0 0 [.ref a0, .int x1, .int x2, .int x3] μ ro Z :=
  xC_intro (own := RX11) (lv := [(0, .ref a0), (1, .int x1), (2, .int x2), (3, .int x3)]) (by decide) rfl (Nat.le_of_ble_eq_true rfl) rfl (fun J g hr => r_sub g (lv' := [(0, .ref a0), (1, .int x1), (2, .int x2), (3, .int x3)]) (⟨rfl, rfl, rfl, rfl, trivial⟩) (h J g hr))
theorem dX11_run_0 : decode cX11_run 0 = .ok (.aload_n 0, 1) := by decide +kernel
theorem dX11_run_1 : decode cX11_run 1 = .ok (.iload_n 1, 1) := by decide +kernel
theorem dX11_run_2 : decode cX11_run 2 = .ok (.invokevirtual 373, 3) := by decide +kernel
theorem dX11_run_5 : decode cX11_run 5 = .ok (.ifCond .eq 19, 3) := by decide +kernel
theorem dX11_run_8 : decode cX11_run 8 = .ok (.aload_n 0, 1) := by decide +kernel
theorem dX11_run_9 : decode cX11_run 9 = .ok (.invokevirtual 212, 3) := by decide +kernel
theorem dX11_run_12 : decode cX11_run 12 = .ok (.ifCond .eq 12, 3) := by decide +kernel
theorem dX11_run_15 : decode cX11_run 15 = .ok (.iload_n 2, 1) := by decide +kernel
theorem dX11_run_16 : decode cX11_run 16 = .ok (.ifCond .lt 8, 3) := by decide +kernel
theorem dX11_run_19 : decode cX11_run 19 = .ok (.iload_n 2, 1) := by decide +kernel
theorem dX11_run_20 : decode cX11_run 20 = .ok (.iconst 1, 1) := by decide +kernel
theorem dX11_run_21 : decode cX11_run 21 = .ok (.if_icmp .le 6, 3) := by decide +kernel
theorem dX11_run_24 : decode cX11_run 24 = .ok (.ldc 216, 2) := by decide +kernel
theorem dX11_run_26 : decode cX11_run 26 = .ok (.ireturn, 1) := by decide +kernel
theorem dX11_run_27 : decode cX11_run 27 = .ok (.aload_n 0, 1) := by decide +kernel
theorem dX11_run_28 : decode cX11_run 28 = .ok (.aload_n 0, 1) := by decide +kernel
theorem dX11_run_29 : decode cX11_run 29 = .ok (.getfield 18, 3) := by decide +kernel
theorem dX11_run_32 : decode cX11_run 32 = .ok (.iload_n 1, 1) := by decide +kernel
theorem dX11_run_33 : decode cX11_run 33 = .ok (.aaload, 1) := by decide +kernel
theorem dX11_run_34 : decode cX11_run 34 = .ok (.invokevirtual 380, 3) := by decide +kernel
theorem dX11_run_37 : decode cX11_run 37 = .ok (.istore_n 3, 1) := by decide +kernel
theorem dX11_run_38 : decode cX11_run 38 = .ok (.iload_n 2, 1) := by decide +kernel
theorem dX11_run_39 : decode cX11_run 39 = .ok (.iconst 1, 1) := by decide +kernel
theorem dX11_run_40 : decode cX11_run 40 = .ok (.if_icmp .ne 20, 3) := by decide +kernel
theorem dX11_run_43 : decode cX11_run 43 = .ok (.aload_n 0, 1) := by decide +kernel
theorem dX11_run_44 : decode cX11_run 44 = .ok (.getfield 100, 3) := by decide +kernel
theorem dX11_run_47 : decode cX11_run 47 = .ok (.bipush 26, 2) := by decide +kernel
theorem dX11_run_49 : decode cX11_run 49 = .ok (.aload_n 0, 1) := by decide +kernel
theorem dX11_run_50 : decode cX11_run 50 = .ok (.getfield 72, 3) := by decide +kernel
theorem dX11_run_53 : decode cX11_run 53 = .ok (.getfield 221, 3) := by decide +kernel
theorem dX11_run_56 : decode cX11_run 56 = .ok (.invokevirtual 217, 3) := by decide +kernel
theorem dX11_run_59 : decode cX11_run 59 = .ok (.ireturn, 1) := by decide +kernel
theorem dX11_run_60 : decode cX11_run 60 = .ok (.iload_n 3, 1) := by decide +kernel
theorem dX11_run_61 : decode cX11_run 61 = .ok (.aload_n 0, 1) := by decide +kernel
theorem dX11_run_62 : decode cX11_run 62 = .ok (.getfield 18, 3) := by decide +kernel
theorem dX11_run_65 : decode cX11_run 65 = .ok (.iload_n 1, 1) := by decide +kernel
theorem dX11_run_66 : decode cX11_run 66 = .ok (.aaload, 1) := by decide +kernel
theorem dX11_run_67 : decode cX11_run 67 = .ok (.getfield 376, 3) := by decide +kernel
theorem dX11_run_70 : decode cX11_run 70 = .ok (.if_icmp .ne 7, 3) := by decide +kernel
theorem dX11_run_73 : decode cX11_run 73 = .ok (.iconst (-1), 1) := by decide +kernel
theorem dX11_run_74 : decode cX11_run 74 = .ok (.goto 4, 3) := by decide +kernel
theorem dX11_run_77 : decode cX11_run 77 = .ok (.iload_n 3, 1) := by decide +kernel
theorem dX11_run_78 : decode cX11_run 78 = .ok (.ireturn, 1) := by decide +kernel
set_option maxHeartbeats 4000000 in
set_option maxRecDepth 100000 in
theorem B_X11_run_0 {d : Nat} {ro : Nat → Nat} {J : JT} {Z : Option Value → Hp → Prop} (g : xCtx RX11 cX11_run 4 d 0 0 yX11_run.name ro J) (hr : xRet cX11_run (some .int) 0 0 Z J) {μ : Hp} {a0 : Nat} {x1 : Int32} {x2 : Int32} {a0_book : Nat} {a0_scripts : Nat} {N_a0_scripts : Nat} (hs_a0 : hS μ a0 = some (14, 18)) (hr_a0_book : hR μ a0 13 = some a0_book) (hs_a0_book : hS μ a0_book = some (6, 9)) (hr_a0_scripts : hR μ a0 1 = some a0_scripts) (hs_a0_scripts : hS μ a0_scripts = some (3, N_a0_scripts)) (hd9 : 1 ≤ d)
    (h : ((x1 < 0 → Z (some (.int (-1000000))) μ) ∧ (¬ x1 < 0 → (((hI μ a0 15) ≤ x1 → Z (some (.int (-1000000))) μ) ∧ (¬ (hI μ a0 15) ≤ x1 → (((hI μ a0_book 6) ≤ 0 → Z (some (.int (-1000000))) μ) ∧ (¬ (hI μ a0_book 6) ≤ 0 → ((x2 < 0 → Z (some (.int (-1000000))) μ) ∧ (¬ x2 < 0 → ((x2 ≤ 1 → vp_in x1 N_a0_scripts ∧ ∃ b17 : Nat, hR μ a0_scripts x1.toNatClampNeg = some b17 ∧ xCall d yX11_runApart cX11_runApart 8 (some .int) [.ref a0, .ref b17] μ ro (fun r18 μ19 => ∃ y20 : Int32, r18 = some (.int y20) ∧ ((¬ x2 = 1 → hS μ19 a0 = some (14, 18) ∧ ∃ scripts_22 : Nat, hR μ19 a0 1 = some scripts_22 ∧ ∃ N23 : Nat, hS μ19 scripts_22 = some (3, N23) ∧ vp_in x1 N23 ∧ ∃ b25 : Nat, hR μ19 scripts_22 x1.toNatClampNeg = some b25 ∧ hS μ19 b25 = some (11, 2) ∧ ((¬ y20 = (hI μ19 b25 1) → Z (some (.int y20)) μ19) ∧ (y20 = (hI μ19 b25 1) → Z (some (.int (-1))) μ19))) ∧ (x2 = 1 → hS μ19 a0 = some (14, 18) ∧ ∃ scratch_27 : Nat, hR μ19 a0 11 = some scratch_27 ∧ ∃ book_28 : Nat, hR μ19 a0 13 = some book_28 ∧ hS μ19 book_28 = some (6, 9) ∧ hS μ19 scratch_27 = some (12, 4) ∧ xCall d yX8_sum cX8_sum 5 (some .int) [.ref scratch_27, .int 26, .int (hI μ19 book_28 5)] μ19 ro (fun r29 μ30 => ∃ y31 : Int32, r29 = some (.int y31) ∧ Z (some (.int y31)) μ30))))) ∧ (¬ x2 ≤ 1 → Z (some (.int (-1000000))) μ))))))))))) :
    J μ 0 0 0 [(0, .ref a0), (1, .int x1), (2, .int x2)] [] := by
  refine r_aload_n g dX11_run_0 rfl ?_
  refine r_iload_n g dX11_run_1 rfl ?_
  by_cases c1 : x1 < 0
  · replace h := h.1 c1
    refine r_callV (st := []) (As := [.int x1]) g sX11_373 iX11_hasScript eX11_hasScript rfl hs_a0 rfl (Nat.le_of_ble_eq_true rfl) dX11_run_2 (by omega) (Nat.le_refl 0) (Nat.le_refl 0) (P_X11_hasScript_0 (d := d - 1) hs_a0 c1) (fun r2 μ3 hZ1 => ?_)
    obtain ⟨rfl, e9⟩ := hZ1
    replace e9 := e9.symm
    subst e9
    refine r_if_eq g 24 dX11_run_5 (by decide) (fun _ => ?_) (fun hz => absurd hz (by decide))
    refine r_ldc g (-1000000) kX11_216 dX11_run_24 ?_
    exact hr.2.1 _ rfl _ _ _ _ _ _ dX11_run_26 rfl (Nat.le_refl 0) (Nat.le_refl 0) h
  · replace h := h.2 c1
    by_cases c4 : (hI μ a0 15) ≤ x1
    · replace h := h.1 c4
      refine r_callV (st := []) (As := [.int x1]) g sX11_373 iX11_hasScript eX11_hasScript rfl hs_a0 rfl (Nat.le_of_ble_eq_true rfl) dX11_run_2 (by omega) (Nat.le_refl 0) (Nat.le_refl 0) (P_X11_hasScript_1 (d := d - 1) hs_a0 c1 c4) (fun r5 μ6 hZ1 => ?_)
      obtain ⟨rfl, e9⟩ := hZ1
      replace e9 := e9.symm
      subst e9
      refine r_if_eq g 24 dX11_run_5 (by decide) (fun _ => ?_) (fun hz => absurd hz (by decide))
      refine r_ldc g (-1000000) kX11_216 dX11_run_24 ?_
      exact hr.2.1 _ rfl _ _ _ _ _ _ dX11_run_26 rfl (Nat.le_refl 0) (Nat.le_refl 0) h
    · replace h := h.2 c4
      refine r_callV (st := []) (As := [.int x1]) g sX11_373 iX11_hasScript eX11_hasScript rfl hs_a0 rfl (Nat.le_of_ble_eq_true rfl) dX11_run_2 (by omega) (Nat.le_refl 0) (Nat.le_refl 0) (P_X11_hasScript_2 (d := d - 1) hs_a0 c1 c4) (fun r7 μ8 hZ1 => ?_)
      obtain ⟨rfl, e9⟩ := hZ1
      replace e9 := e9.symm
      subst e9
      refine r_if_eq g 24 dX11_run_5 (by decide) (fun hz => absurd hz (by decide)) (fun _ => ?_)
      refine r_aload_n g dX11_run_8 rfl ?_
      by_cases c9 : (hI μ a0_book 6) ≤ 0
      · replace h := h.1 c9
        refine r_callV (st := []) (As := []) g sX11_212 iX11_hasBook eX11_hasBook rfl hs_a0 rfl (Nat.le_of_ble_eq_true rfl) dX11_run_9 (by omega) (Nat.le_refl 0) (Nat.le_refl 0) (P_X11_hasBook_0 (d := d - 1) hs_a0 hr_a0_book hs_a0_book c9) (fun r10 μ11 hZ1 => ?_)
        obtain ⟨rfl, e9⟩ := hZ1
        replace e9 := e9.symm
        subst e9
        refine r_if_eq g 24 dX11_run_12 (by decide) (fun _ => ?_) (fun hz => absurd hz (by decide))
        refine r_ldc g (-1000000) kX11_216 dX11_run_24 ?_
        exact hr.2.1 _ rfl _ _ _ _ _ _ dX11_run_26 rfl (Nat.le_refl 0) (Nat.le_refl 0) h
      · replace h := h.2 c9
        refine r_callV (st := []) (As := []) g sX11_212 iX11_hasBook eX11_hasBook rfl hs_a0 rfl (Nat.le_of_ble_eq_true rfl) dX11_run_9 (by omega) (Nat.le_refl 0) (Nat.le_refl 0) (P_X11_hasBook_1 (d := d - 1) hs_a0 hr_a0_book hs_a0_book c9) (fun r12 μ13 hZ1 => ?_)
        obtain ⟨rfl, e9⟩ := hZ1
        replace e9 := e9.symm
        subst e9
        refine r_if_eq g 24 dX11_run_12 (by decide) (fun hz => absurd hz (by decide)) (fun _ => ?_)
        refine r_iload_n g dX11_run_15 rfl ?_
        refine r_if_lt g 24 dX11_run_16 (by decide) (fun c14 => ?_) (fun c14 => ?_)
        · replace h := h.1 c14
          refine r_ldc g (-1000000) kX11_216 dX11_run_24 ?_
          exact hr.2.1 _ rfl _ _ _ _ _ _ dX11_run_26 rfl (Nat.le_refl 0) (Nat.le_refl 0) h
        · replace h := h.2 c14
          refine r_iload_n g dX11_run_19 rfl ?_
          refine r_iconst g 1 dX11_run_20 (by decide) ?_
          refine r_icmp_le g 27 dX11_run_21 (by decide) (fun c15 => ?_) (fun c15 => ?_)
          · replace h := h.1 c15
            refine r_aload_n g dX11_run_27 rfl ?_
            refine r_aload_n g dX11_run_28 rfl ?_
            refine r_getR g fX11_18 rfl hs_a0 hr_a0_scripts dX11_run_29 ?_
            refine r_iload_n g dX11_run_32 rfl ?_
            obtain ⟨hi16, h⟩ := h
            obtain ⟨b17, hr_b17, h⟩ := h
            refine r_aaload g hs_a0_scripts hi16 hr_b17 dX11_run_33 ?_
            obtain ⟨d1, Z1, hc1, hd1, h1⟩ := h
            refine r_callV (st := []) (As := [.ref b17]) g sX11_380 iX11_runApart eX11_runApart rfl hs_a0 rfl (Nat.le_of_ble_eq_true rfl) dX11_run_34 hd1 (Nat.le_refl 0) (Nat.le_refl 0) hc1 (fun r18 μ19 hZ1 => ?_)
            replace h := h1 _ _ hZ1
            clear h1 hc1 hd1 hZ1 Z1 d1
            obtain ⟨y20, rfl, h⟩ := h
            refine r_istore_n g [(3, .int y20), (0, .ref a0), (1, .int x1), (2, .int x2)] dX11_run_37 (by decide) rfl ?_
            refine r_iload_n g dX11_run_38 rfl ?_
            refine r_iconst g 1 dX11_run_39 (by decide) ?_
            refine r_icmp_ne g 60 dX11_run_40 (by decide) (fun c21 => ?_) (fun c21 => ?_)
            · replace h := h.1 c21
              refine r_iload_n g dX11_run_60 rfl ?_
              refine r_aload_n g dX11_run_61 rfl ?_
              obtain ⟨hs_a0_, h⟩ := h
              obtain ⟨scripts_22, hr_scripts_22, h⟩ := h
              refine r_getR g fX11_18 rfl hs_a0_ hr_scripts_22 dX11_run_62 ?_
              refine r_iload_n g dX11_run_65 rfl ?_
              obtain ⟨N23, hs_scripts_22, h⟩ := h
              obtain ⟨hi24, h⟩ := h
              obtain ⟨b25, hr_b25, h⟩ := h
              refine r_aaload g hs_scripts_22 hi24 hr_b25 dX11_run_66 ?_
              obtain ⟨hs_b25, h⟩ := h
              refine r_getI g fX11_376 rfl hs_b25 dX11_run_67 ?_
              refine r_icmp_ne g 77 dX11_run_70 (by decide) (fun c26 => ?_) (fun c26 => ?_)
              · replace h := h.1 c26
                refine r_iload_n g dX11_run_77 rfl ?_
                exact hr.2.1 _ rfl _ _ _ _ _ _ dX11_run_78 rfl (Nat.le_refl 0) (Nat.le_refl 0) h
              · replace h := h.2 c26
                refine r_iconst g (-1) dX11_run_73 (by decide) ?_
                refine r_goto g 78 dX11_run_74 (by decide) ?_
                exact hr.2.1 _ rfl _ _ _ _ _ _ dX11_run_78 rfl (Nat.le_refl 0) (Nat.le_refl 0) h
            · replace h := h.2 c21
              refine r_aload_n g dX11_run_43 rfl ?_
              obtain ⟨hs_a0__, h⟩ := h
              obtain ⟨scratch_27, hr_scratch_27, h⟩ := h
              refine r_getR g fX11_100 rfl hs_a0__ hr_scratch_27 dX11_run_44 ?_
              refine r_bipush g 26 dX11_run_47 (by decide) ?_
              refine r_aload_n g dX11_run_49 rfl ?_
              obtain ⟨book_28, hr_book_28, h⟩ := h
              refine r_getR g fX11_72 rfl hs_a0__ hr_book_28 dX11_run_50 ?_
              obtain ⟨hs_book_28, h⟩ := h
              refine r_getI g fX11_221 rfl hs_book_28 dX11_run_53 ?_
              obtain ⟨hs_scratch_27, h⟩ := h
              obtain ⟨d1, Z1, hc1, hd1, h1⟩ := h
              refine r_callV (st := []) (As := [.int 26, .int (hI μ19 book_28 5)]) g sX11_217 iX8_sum eX8_sum rfl hs_scratch_27 rfl (Nat.le_of_ble_eq_true rfl) dX11_run_56 hd1 (Nat.le_refl 0) (Nat.le_refl 0) hc1 (fun r29 μ30 hZ1 => ?_)
              replace h := h1 _ _ hZ1
              clear h1 hc1 hd1 hZ1 Z1 d1
              obtain ⟨y31, rfl, h⟩ := h
              exact hr.2.1 _ rfl _ _ _ _ _ _ dX11_run_59 rfl (Nat.le_refl 0) (Nat.le_refl 0) h
          · replace h := h.2 c15
            refine r_ldc g (-1000000) kX11_216 dX11_run_24 ?_
            exact hr.2.1 _ rfl _ _ _ _ _ _ dX11_run_26 rfl (Nat.le_refl 0) (Nat.le_refl 0) h
theorem I_X11_run {d : Nat} {ro : Nat → Nat} {Z : Option Value → Hp → Prop} {μ : Hp} {a0 : Nat} {x1 : Int32} {x2 : Int32} (h : ∀ J, xCtx RX11 cX11_run 4 d 0 0 yX11_run.name ro J → xRet cX11_run (some .int) 0 0 Z J → J μ 0 0 0 [(0, .ref a0), (1, .int x1), (2, .int x2)] []) : xC d yX11_run cX11_run 4 (some .int) 0 0 [.ref a0, .int x1, .int x2] μ ro Z :=
  xC_intro (own := RX11) (lv := [(0, .ref a0), (1, .int x1), (2, .int x2)]) (by decide) rfl (Nat.le_of_ble_eq_true rfl) rfl (fun J g hr => r_sub g (lv' := [(0, .ref a0), (1, .int x1), (2, .int x2)]) (⟨rfl, rfl, rfl, trivial⟩) (h J g hr))
theorem dX11_runApart_0 : decode cX11_runApart 0 = .ok (.aload_n 0, 1) := by decide +kernel
theorem dX11_runApart_1 : decode cX11_runApart 1 = .ok (.getfield 100, 3) := by decide +kernel
theorem dX11_runApart_4 : decode cX11_runApart 4 = .ok (.aload_n 0, 1) := by decide +kernel
theorem dX11_runApart_5 : decode cX11_runApart 5 = .ok (.getfield 96, 3) := by decide +kernel
theorem dX11_runApart_8 : decode cX11_runApart 8 = .ok (.invokevirtual 136, 3) := by decide +kernel
theorem dX11_runApart_11 : decode cX11_runApart 11 = .ok (.iconst 0, 1) := by decide +kernel
theorem dX11_runApart_12 : decode cX11_runApart 12 = .ok (.istore_n 2, 1) := by decide +kernel
theorem dX11_runApart_13 : decode cX11_runApart 13 = .ok (.iload_n 2, 1) := by decide +kernel
theorem dX11_runApart_14 : decode cX11_runApart 14 = .ok (.aload_n 1, 1) := by decide +kernel
theorem dX11_runApart_15 : decode cX11_runApart 15 = .ok (.getfield 376, 3) := by decide +kernel
theorem dX11_runApart_18 : decode cX11_runApart 18 = .ok (.if_icmp .ge 104, 3) := by decide +kernel
theorem dX11_runApart_21 : decode cX11_runApart 21 = .ok (.iload_n 2, 1) := by decide +kernel
theorem dX11_runApart_22 : decode cX11_runApart 22 = .ok (.iconst 5, 1) := by decide +kernel
theorem dX11_runApart_23 : decode cX11_runApart 23 = .ok (.imul, 1) := by decide +kernel
theorem dX11_runApart_24 : decode cX11_runApart 24 = .ok (.istore_n 3, 1) := by decide +kernel
theorem dX11_runApart_25 : decode cX11_runApart 25 = .ok (.aload_n 1, 1) := by decide +kernel
theorem dX11_runApart_26 : decode cX11_runApart 26 = .ok (.getfield 379, 3) := by decide +kernel
theorem dX11_runApart_29 : decode cX11_runApart 29 = .ok (.iload_n 3, 1) := by decide +kernel
theorem dX11_runApart_30 : decode cX11_runApart 30 = .ok (.iaload, 1) := by decide +kernel
theorem dX11_runApart_31 : decode cX11_runApart 31 = .ok (.istore 4, 2) := by decide +kernel
theorem dX11_runApart_33 : decode cX11_runApart 33 = .ok (.aload_n 1, 1) := by decide +kernel
theorem dX11_runApart_34 : decode cX11_runApart 34 = .ok (.getfield 379, 3) := by decide +kernel
theorem dX11_runApart_37 : decode cX11_runApart 37 = .ok (.iload_n 3, 1) := by decide +kernel
theorem dX11_runApart_38 : decode cX11_runApart 38 = .ok (.iconst 1, 1) := by decide +kernel
theorem dX11_runApart_39 : decode cX11_runApart 39 = .ok (.iadd, 1) := by decide +kernel
theorem dX11_runApart_40 : decode cX11_runApart 40 = .ok (.iaload, 1) := by decide +kernel
theorem dX11_runApart_41 : decode cX11_runApart 41 = .ok (.istore 5, 2) := by decide +kernel
theorem dX11_runApart_43 : decode cX11_runApart 43 = .ok (.aload_n 1, 1) := by decide +kernel
theorem dX11_runApart_44 : decode cX11_runApart 44 = .ok (.getfield 379, 3) := by decide +kernel
theorem dX11_runApart_47 : decode cX11_runApart 47 = .ok (.iload_n 3, 1) := by decide +kernel
theorem dX11_runApart_48 : decode cX11_runApart 48 = .ok (.iconst 2, 1) := by decide +kernel
theorem dX11_runApart_49 : decode cX11_runApart 49 = .ok (.iadd, 1) := by decide +kernel
theorem dX11_runApart_50 : decode cX11_runApart 50 = .ok (.iaload, 1) := by decide +kernel
theorem dX11_runApart_51 : decode cX11_runApart 51 = .ok (.istore 6, 2) := by decide +kernel
theorem dX11_runApart_53 : decode cX11_runApart 53 = .ok (.aload_n 1, 1) := by decide +kernel
theorem dX11_runApart_54 : decode cX11_runApart 54 = .ok (.getfield 379, 3) := by decide +kernel
theorem dX11_runApart_57 : decode cX11_runApart 57 = .ok (.iload_n 3, 1) := by decide +kernel
theorem dX11_runApart_58 : decode cX11_runApart 58 = .ok (.iconst 3, 1) := by decide +kernel
theorem dX11_runApart_59 : decode cX11_runApart 59 = .ok (.iadd, 1) := by decide +kernel
theorem dX11_runApart_60 : decode cX11_runApart 60 = .ok (.iaload, 1) := by decide +kernel
theorem dX11_runApart_61 : decode cX11_runApart 61 = .ok (.istore 7, 2) := by decide +kernel
theorem dX11_runApart_63 : decode cX11_runApart 63 = .ok (.aload_n 0, 1) := by decide +kernel
theorem dX11_runApart_64 : decode cX11_runApart 64 = .ok (.getfield 34, 3) := by decide +kernel
theorem dX11_runApart_67 : decode cX11_runApart 67 = .ok (.aload_n 0, 1) := by decide +kernel
theorem dX11_runApart_68 : decode cX11_runApart 68 = .ok (.getfield 100, 3) := by decide +kernel
theorem dX11_runApart_71 : decode cX11_runApart 71 = .ok (.iload 4, 2) := by decide +kernel
theorem dX11_runApart_73 : decode cX11_runApart 73 = .ok (.iload 5, 2) := by decide +kernel
theorem dX11_runApart_75 : decode cX11_runApart 75 = .ok (.iload 6, 2) := by decide +kernel
theorem dX11_runApart_77 : decode cX11_runApart 77 = .ok (.iload 7, 2) := by decide +kernel
theorem dX11_runApart_79 : decode cX11_runApart 79 = .ok (.aload_n 1, 1) := by decide +kernel
theorem dX11_runApart_80 : decode cX11_runApart 80 = .ok (.getfield 379, 3) := by decide +kernel
theorem dX11_runApart_83 : decode cX11_runApart 83 = .ok (.iload_n 3, 1) := by decide +kernel
theorem dX11_runApart_84 : decode cX11_runApart 84 = .ok (.iconst 4, 1) := by decide +kernel
theorem dX11_runApart_85 : decode cX11_runApart 85 = .ok (.iadd, 1) := by decide +kernel
theorem dX11_runApart_86 : decode cX11_runApart 86 = .ok (.iaload, 1) := by decide +kernel
theorem dX11_runApart_87 : decode cX11_runApart 87 = .ok (.invokevirtual 328, 3) := by decide +kernel
theorem dX11_runApart_90 : decode cX11_runApart 90 = .ok (.iconst (-1), 1) := by decide +kernel
theorem dX11_runApart_91 : decode cX11_runApart 91 = .ok (.if_icmp .eq 5, 3) := by decide +kernel
theorem dX11_runApart_94 : decode cX11_runApart 94 = .ok (.iload_n 2, 1) := by decide +kernel
theorem dX11_runApart_95 : decode cX11_runApart 95 = .ok (.ireturn, 1) := by decide +kernel
theorem dX11_runApart_96 : decode cX11_runApart 96 = .ok (.aload_n 0, 1) := by decide +kernel
theorem dX11_runApart_97 : decode cX11_runApart 97 = .ok (.getfield 34, 3) := by decide +kernel
theorem dX11_runApart_100 : decode cX11_runApart 100 = .ok (.aload_n 0, 1) := by decide +kernel
theorem dX11_runApart_101 : decode cX11_runApart 101 = .ok (.getfield 100, 3) := by decide +kernel
theorem dX11_runApart_104 : decode cX11_runApart 104 = .ok (.iload 4, 2) := by decide +kernel
theorem dX11_runApart_106 : decode cX11_runApart 106 = .ok (.iload 5, 2) := by decide +kernel
theorem dX11_runApart_108 : decode cX11_runApart 108 = .ok (.iload 6, 2) := by decide +kernel
theorem dX11_runApart_110 : decode cX11_runApart 110 = .ok (.iload 7, 2) := by decide +kernel
theorem dX11_runApart_112 : decode cX11_runApart 112 = .ok (.invokevirtual 339, 3) := by decide +kernel
theorem dX11_runApart_115 : decode cX11_runApart 115 = .ok (.pop, 1) := by decide +kernel
theorem dX11_runApart_116 : decode cX11_runApart 116 = .ok (.iinc 2 1, 3) := by decide +kernel
theorem dX11_runApart_119 : decode cX11_runApart 119 = .ok (.goto (-106), 3) := by decide +kernel
theorem dX11_runApart_122 : decode cX11_runApart 122 = .ok (.aload_n 1, 1) := by decide +kernel
theorem dX11_runApart_123 : decode cX11_runApart 123 = .ok (.getfield 376, 3) := by decide +kernel
theorem dX11_runApart_126 : decode cX11_runApart 126 = .ok (.ireturn, 1) := by decide +kernel
set_option maxHeartbeats 4000000 in
set_option maxRecDepth 100000 in
theorem B_X11_runApart_0 {d : Nat} {ro : Nat → Nat} {J : JT} {Z : Option Value → Hp → Prop} (g : xCtx RX11 cX11_runApart 8 d 0 0 yX11_runApart.name ro J) (hr : xRet cX11_runApart (some .int) 0 0 Z J) {μ : Hp} {a0 : Nat} {a1 : Nat} {a0_scratch : Nat} {a0_now : Nat} (hs_a0 : hS μ a0 = some (14, 18)) (hr_a0_scratch : hR μ a0 11 = some a0_scratch) (hr_a0_now : hR μ a0 10 = some a0_now) (hs_a0_scratch : hS μ a0_scratch = some (12, 4))
    (h : xCall d yX8_copyFrom cX8_copyFrom 2 none [.ref a0_scratch, .ref a0_now] μ ro (fun r1 μ2 => r1 = none ∧ J μ2 0 0 13 [(0, .ref a0), (1, .ref a1), (2, .int 0)] [])) :
    J μ 0 0 0 [(0, .ref a0), (1, .ref a1)] [] := by
  refine r_aload_n g dX11_runApart_0 rfl ?_
  refine r_getR g fX11_100 rfl hs_a0 hr_a0_scratch dX11_runApart_1 ?_
  refine r_aload_n g dX11_runApart_4 rfl ?_
  refine r_getR g fX11_96 rfl hs_a0 hr_a0_now dX11_runApart_5 ?_
  obtain ⟨d1, Z1, hc1, hd1, h1⟩ := h
  refine r_callV (st := []) (As := [.ref a0_now]) g sX11_136 iX8_copyFrom eX8_copyFrom rfl hs_a0_scratch rfl (Nat.le_of_ble_eq_true rfl) dX11_runApart_8 hd1 (Nat.le_refl 0) (Nat.le_refl 0) hc1 (fun r1 μ2 hZ1 => ?_)
  replace h := h1 _ _ hZ1
  clear h1 hc1 hd1 hZ1 Z1 d1
  obtain ⟨rfl, h⟩ := h
  refine r_iconst g 0 dX11_runApart_11 (by decide) ?_
  refine r_istore_n g [(2, .int 0), (0, .ref a0), (1, .ref a1)] dX11_runApart_12 (by decide) rfl ?_
  refine r_sub g (lv' := [(0, .ref a0), (1, .ref a1), (2, .int 0)]) (⟨rfl, rfl, rfl, trivial⟩) ?_
  exact h
set_option maxHeartbeats 4000000 in
set_option maxRecDepth 100000 in
theorem B_X11_runApart_13 {d : Nat} {ro : Nat → Nat} {J : JT} {Z : Option Value → Hp → Prop} (g : xCtx RX11 cX11_runApart 8 d 0 0 yX11_runApart.name ro J) (hr : xRet cX11_runApart (some .int) 0 0 Z J) {μ : Hp} {a0 : Nat} {a1 : Nat} {x2 : Int32} {a1_row : Nat} {N_a1_row : Nat} {a0_acts : Nat} {a0_scratch : Nat} (hs_a1 : hS μ a1 = some (11, 2)) (hr_a1_row : hR μ a1 0 = some a1_row) (hs_a1_row : hS μ a1_row = some (0, N_a1_row)) (hs_a0 : hS μ a0 = some (14, 18)) (hr_a0_acts : hR μ a0 3 = some a0_acts) (hr_a0_scratch : hR μ a0 11 = some a0_scratch) (hs_a0_acts : hS μ a0_acts = some (5, 1))
    (h : (((hI μ a1 1) ≤ x2 → Z (some (.int (hI μ a1 1))) μ) ∧ (¬ (hI μ a1 1) ≤ x2 → vp_in (x2 * 5) N_a1_row ∧ vp_in ((x2 * 5) + 1) N_a1_row ∧ vp_in ((x2 * 5) + 2) N_a1_row ∧ vp_in ((x2 * 5) + 3) N_a1_row ∧ vp_in ((x2 * 5) + 4) N_a1_row ∧ xCall d yX1_reasonAgainst cX1_reasonAgainst 7 (some .int) [.ref a0_acts, .ref a0_scratch, .int (hI μ a1_row ((x2 * 5).toNatClampNeg)), .int (hI μ a1_row (((x2 * 5) + 1).toNatClampNeg)), .int (hI μ a1_row (((x2 * 5) + 2).toNatClampNeg)), .int (hI μ a1_row (((x2 * 5) + 3).toNatClampNeg)), .int (hI μ a1_row (((x2 * 5) + 4).toNatClampNeg))] μ ro (fun r7 μ8 => ∃ y9 : Int32, r7 = some (.int y9) ∧ ((y9 = (-1) → hS μ8 a0 = some (14, 18) ∧ ∃ acts_11 : Nat, hR μ8 a0 3 = some acts_11 ∧ ∃ scratch_12 : Nat, hR μ8 a0 11 = some scratch_12 ∧ hS μ8 acts_11 = some (5, 1) ∧ xCall d yX1_carryOut cX1_carryOut 7 (some .int) [.ref acts_11, .ref scratch_12, .int (hI μ a1_row ((x2 * 5).toNatClampNeg)), .int (hI μ a1_row (((x2 * 5) + 1).toNatClampNeg)), .int (hI μ a1_row (((x2 * 5) + 2).toNatClampNeg)), .int (hI μ a1_row (((x2 * 5) + 3).toNatClampNeg))] μ8 ro (fun r13 μ14 => ∃ y15 : Int32, r13 = some (.int y15) ∧ J μ14 0 0 13 [(0, .ref a0), (1, .ref a1), (2, .int (x2 + 1))] [])) ∧ (¬ y9 = (-1) → Z (some (.int x2)) μ8)))))) :
    J μ 0 0 13 [(0, .ref a0), (1, .ref a1), (2, .int x2)] [] := by
  refine r_iload_n g dX11_runApart_13 rfl ?_
  refine r_aload_n g dX11_runApart_14 rfl ?_
  refine r_getI g fX11_376 rfl hs_a1 dX11_runApart_15 ?_
  refine r_icmp_ge g 122 dX11_runApart_18 (by decide) (fun c1 => ?_) (fun c1 => ?_)
  · replace h := h.1 c1
    refine r_aload_n g dX11_runApart_122 rfl ?_
    refine r_getI g fX11_376 rfl hs_a1 dX11_runApart_123 ?_
    exact hr.2.1 _ rfl _ _ _ _ _ _ dX11_runApart_126 rfl (Nat.le_refl 0) (Nat.le_refl 0) h
  · replace h := h.2 c1
    refine r_iload_n g dX11_runApart_21 rfl ?_
    refine r_iconst g 5 dX11_runApart_22 (by decide) ?_
    refine r_imul g dX11_runApart_23 ?_
    refine r_istore_n g [(3, .int (x2 * 5)), (0, .ref a0), (1, .ref a1), (2, .int x2)] dX11_runApart_24 (by decide) rfl ?_
    refine r_aload_n g dX11_runApart_25 rfl ?_
    refine r_getR g fX11_379 rfl hs_a1 hr_a1_row dX11_runApart_26 ?_
    refine r_iload_n g dX11_runApart_29 rfl ?_
    obtain ⟨hi2, h⟩ := h
    refine r_iaload g hs_a1_row hi2 dX11_runApart_30 ?_
    refine r_istore g [(4, .int (hI μ a1_row ((x2 * 5).toNatClampNeg))), (3, .int (x2 * 5)), (0, .ref a0), (1, .ref a1), (2, .int x2)] dX11_runApart_31 (by decide) rfl ?_
    refine r_aload_n g dX11_runApart_33 rfl ?_
    refine r_getR g fX11_379 rfl hs_a1 hr_a1_row dX11_runApart_34 ?_
    refine r_iload_n g dX11_runApart_37 rfl ?_
    refine r_iconst g 1 dX11_runApart_38 (by decide) ?_
    refine r_iadd g dX11_runApart_39 ?_
    obtain ⟨hi3, h⟩ := h
    refine r_iaload g hs_a1_row hi3 dX11_runApart_40 ?_
    refine r_istore g [(5, .int (hI μ a1_row (((x2 * 5) + 1).toNatClampNeg))), (4, .int (hI μ a1_row ((x2 * 5).toNatClampNeg))), (3, .int (x2 * 5)), (0, .ref a0), (1, .ref a1), (2, .int x2)] dX11_runApart_41 (by decide) rfl ?_
    refine r_aload_n g dX11_runApart_43 rfl ?_
    refine r_getR g fX11_379 rfl hs_a1 hr_a1_row dX11_runApart_44 ?_
    refine r_iload_n g dX11_runApart_47 rfl ?_
    refine r_iconst g 2 dX11_runApart_48 (by decide) ?_
    refine r_iadd g dX11_runApart_49 ?_
    obtain ⟨hi4, h⟩ := h
    refine r_iaload g hs_a1_row hi4 dX11_runApart_50 ?_
    refine r_istore g [(6, .int (hI μ a1_row (((x2 * 5) + 2).toNatClampNeg))), (5, .int (hI μ a1_row (((x2 * 5) + 1).toNatClampNeg))), (4, .int (hI μ a1_row ((x2 * 5).toNatClampNeg))), (3, .int (x2 * 5)), (0, .ref a0), (1, .ref a1), (2, .int x2)] dX11_runApart_51 (by decide) rfl ?_
    refine r_aload_n g dX11_runApart_53 rfl ?_
    refine r_getR g fX11_379 rfl hs_a1 hr_a1_row dX11_runApart_54 ?_
    refine r_iload_n g dX11_runApart_57 rfl ?_
    refine r_iconst g 3 dX11_runApart_58 (by decide) ?_
    refine r_iadd g dX11_runApart_59 ?_
    obtain ⟨hi5, h⟩ := h
    refine r_iaload g hs_a1_row hi5 dX11_runApart_60 ?_
    refine r_istore g [(7, .int (hI μ a1_row (((x2 * 5) + 3).toNatClampNeg))), (6, .int (hI μ a1_row (((x2 * 5) + 2).toNatClampNeg))), (5, .int (hI μ a1_row (((x2 * 5) + 1).toNatClampNeg))), (4, .int (hI μ a1_row ((x2 * 5).toNatClampNeg))), (3, .int (x2 * 5)), (0, .ref a0), (1, .ref a1), (2, .int x2)] dX11_runApart_61 (by decide) rfl ?_
    refine r_aload_n g dX11_runApart_63 rfl ?_
    refine r_getR g fX11_34 rfl hs_a0 hr_a0_acts dX11_runApart_64 ?_
    refine r_aload_n g dX11_runApart_67 rfl ?_
    refine r_getR g fX11_100 rfl hs_a0 hr_a0_scratch dX11_runApart_68 ?_
    refine r_iload g dX11_runApart_71 rfl ?_
    refine r_iload g dX11_runApart_73 rfl ?_
    refine r_iload g dX11_runApart_75 rfl ?_
    refine r_iload g dX11_runApart_77 rfl ?_
    refine r_aload_n g dX11_runApart_79 rfl ?_
    refine r_getR g fX11_379 rfl hs_a1 hr_a1_row dX11_runApart_80 ?_
    refine r_iload_n g dX11_runApart_83 rfl ?_
    refine r_iconst g 4 dX11_runApart_84 (by decide) ?_
    refine r_iadd g dX11_runApart_85 ?_
    obtain ⟨hi6, h⟩ := h
    refine r_iaload g hs_a1_row hi6 dX11_runApart_86 ?_
    obtain ⟨d1, Z1, hc1, hd1, h1⟩ := h
    refine r_callV (st := []) (As := [.ref a0_scratch, .int (hI μ a1_row ((x2 * 5).toNatClampNeg)), .int (hI μ a1_row (((x2 * 5) + 1).toNatClampNeg)), .int (hI μ a1_row (((x2 * 5) + 2).toNatClampNeg)), .int (hI μ a1_row (((x2 * 5) + 3).toNatClampNeg)), .int (hI μ a1_row (((x2 * 5) + 4).toNatClampNeg))]) g sX11_328 iX1_reasonAgainst eX1_reasonAgainst rfl hs_a0_acts rfl (Nat.le_of_ble_eq_true rfl) dX11_runApart_87 hd1 (Nat.le_refl 0) (Nat.le_refl 0) hc1 (fun r7 μ8 hZ1 => ?_)
    replace h := h1 _ _ hZ1
    clear h1 hc1 hd1 hZ1 Z1 d1
    obtain ⟨y9, rfl, h⟩ := h
    refine r_iconst g (-1) dX11_runApart_90 (by decide) ?_
    refine r_icmp_eq g 96 dX11_runApart_91 (by decide) (fun c10 => ?_) (fun c10 => ?_)
    · replace h := h.1 c10
      refine r_aload_n g dX11_runApart_96 rfl ?_
      obtain ⟨hs_a0_, h⟩ := h
      obtain ⟨acts_11, hr_acts_11, h⟩ := h
      refine r_getR g fX11_34 rfl hs_a0_ hr_acts_11 dX11_runApart_97 ?_
      refine r_aload_n g dX11_runApart_100 rfl ?_
      obtain ⟨scratch_12, hr_scratch_12, h⟩ := h
      refine r_getR g fX11_100 rfl hs_a0_ hr_scratch_12 dX11_runApart_101 ?_
      refine r_iload g dX11_runApart_104 rfl ?_
      refine r_iload g dX11_runApart_106 rfl ?_
      refine r_iload g dX11_runApart_108 rfl ?_
      refine r_iload g dX11_runApart_110 rfl ?_
      obtain ⟨hs_acts_11, h⟩ := h
      obtain ⟨d1, Z1, hc1, hd1, h1⟩ := h
      refine r_callV (st := []) (As := [.ref scratch_12, .int (hI μ a1_row ((x2 * 5).toNatClampNeg)), .int (hI μ a1_row (((x2 * 5) + 1).toNatClampNeg)), .int (hI μ a1_row (((x2 * 5) + 2).toNatClampNeg)), .int (hI μ a1_row (((x2 * 5) + 3).toNatClampNeg))]) g sX11_339 iX1_carryOut eX1_carryOut rfl hs_acts_11 rfl (Nat.le_of_ble_eq_true rfl) dX11_runApart_112 hd1 (Nat.le_refl 0) (Nat.le_refl 0) hc1 (fun r13 μ14 hZ1 => ?_)
      replace h := h1 _ _ hZ1
      clear h1 hc1 hd1 hZ1 Z1 d1
      obtain ⟨y15, rfl, h⟩ := h
      refine r_pop g dX11_runApart_115 rfl ?_
      refine r_iinc g (x2 + 1) [(2, .int (x2 + 1)), (7, .int (hI μ a1_row (((x2 * 5) + 3).toNatClampNeg))), (6, .int (hI μ a1_row (((x2 * 5) + 2).toNatClampNeg))), (5, .int (hI μ a1_row (((x2 * 5) + 1).toNatClampNeg))), (4, .int (hI μ a1_row ((x2 * 5).toNatClampNeg))), (3, .int (x2 * 5)), (0, .ref a0), (1, .ref a1)] dX11_runApart_116 rfl rfl (by decide) rfl ?_
      refine r_goto g 13 dX11_runApart_119 (by decide) ?_
      refine r_sub g (lv' := [(0, .ref a0), (1, .ref a1), (2, .int (x2 + 1))]) (⟨rfl, rfl, rfl, trivial⟩) ?_
      exact h
    · replace h := h.2 c10
      refine r_iload_n g dX11_runApart_94 rfl ?_
      exact hr.2.1 _ rfl _ _ _ _ _ _ dX11_runApart_95 rfl (Nat.le_refl 0) (Nat.le_refl 0) h
theorem I_X11_runApart {d : Nat} {ro : Nat → Nat} {Z : Option Value → Hp → Prop} {μ : Hp} {a0 : Nat} {a1 : Nat} (h : ∀ J, xCtx RX11 cX11_runApart 8 d 0 0 yX11_runApart.name ro J → xRet cX11_runApart (some .int) 0 0 Z J → J μ 0 0 0 [(0, .ref a0), (1, .ref a1)] []) : xC d yX11_runApart cX11_runApart 8 (some .int) 0 0 [.ref a0, .ref a1] μ ro Z :=
  xC_intro (own := RX11) (lv := [(0, .ref a0), (1, .ref a1)]) (by decide) rfl (Nat.le_of_ble_eq_true rfl) rfl (fun J g hr => r_sub g (lv' := [(0, .ref a0), (1, .ref a1)]) (⟨rfl, rfl, trivial⟩) (h J g hr))
theorem dX11_perform_0 : decode cX11_perform 0 = .ok (.aload_n 0, 1) := by decide +kernel
theorem dX11_perform_1 : decode cX11_perform 1 = .ok (.iload_n 1, 1) := by decide +kernel
theorem dX11_perform_2 : decode cX11_perform 2 = .ok (.invokevirtual 373, 3) := by decide +kernel
theorem dX11_perform_5 : decode cX11_perform 5 = .ok (.ifCond .eq 10, 3) := by decide +kernel
theorem dX11_perform_8 : decode cX11_perform 8 = .ok (.aload_n 0, 1) := by decide +kernel
theorem dX11_perform_9 : decode cX11_perform 9 = .ok (.invokevirtual 212, 3) := by decide +kernel
theorem dX11_perform_12 : decode cX11_perform 12 = .ok (.ifCond .ne 5, 3) := by decide +kernel
theorem dX11_perform_15 : decode cX11_perform 15 = .ok (.iconst (-1), 1) := by decide +kernel
theorem dX11_perform_16 : decode cX11_perform 16 = .ok (.ireturn, 1) := by decide +kernel
theorem dX11_perform_17 : decode cX11_perform 17 = .ok (.aload_n 0, 1) := by decide +kernel
theorem dX11_perform_18 : decode cX11_perform 18 = .ok (.getfield 18, 3) := by decide +kernel
theorem dX11_perform_21 : decode cX11_perform 21 = .ok (.iload_n 1, 1) := by decide +kernel
theorem dX11_perform_22 : decode cX11_perform 22 = .ok (.aaload, 1) := by decide +kernel
theorem dX11_perform_23 : decode cX11_perform 23 = .ok (.astore_n 2, 1) := by decide +kernel
theorem dX11_perform_24 : decode cX11_perform 24 = .ok (.iconst 0, 1) := by decide +kernel
theorem dX11_perform_25 : decode cX11_perform 25 = .ok (.istore_n 3, 1) := by decide +kernel
theorem dX11_perform_26 : decode cX11_perform 26 = .ok (.iload_n 3, 1) := by decide +kernel
theorem dX11_perform_27 : decode cX11_perform 27 = .ok (.aload_n 2, 1) := by decide +kernel
theorem dX11_perform_28 : decode cX11_perform 28 = .ok (.getfield 376, 3) := by decide +kernel
theorem dX11_perform_31 : decode cX11_perform 31 = .ok (.if_icmp .ge 25, 3) := by decide +kernel
theorem dX11_perform_34 : decode cX11_perform 34 = .ok (.aload_n 0, 1) := by decide +kernel
theorem dX11_perform_35 : decode cX11_perform 35 = .ok (.aload_n 2, 1) := by decide +kernel
theorem dX11_perform_36 : decode cX11_perform 36 = .ok (.getfield 379, 3) := by decide +kernel
theorem dX11_perform_39 : decode cX11_perform 39 = .ok (.iload_n 3, 1) := by decide +kernel
theorem dX11_perform_40 : decode cX11_perform 40 = .ok (.iconst 5, 1) := by decide +kernel
theorem dX11_perform_41 : decode cX11_perform 41 = .ok (.imul, 1) := by decide +kernel
theorem dX11_perform_42 : decode cX11_perform 42 = .ok (.invokevirtual 355, 3) := by decide +kernel
theorem dX11_perform_45 : decode cX11_perform 45 = .ok (.ifCond .ne 5, 3) := by decide +kernel
theorem dX11_perform_48 : decode cX11_perform 48 = .ok (.iload_n 3, 1) := by decide +kernel
theorem dX11_perform_49 : decode cX11_perform 49 = .ok (.ireturn, 1) := by decide +kernel
theorem dX11_perform_50 : decode cX11_perform 50 = .ok (.iinc 3 1, 3) := by decide +kernel
theorem dX11_perform_53 : decode cX11_perform 53 = .ok (.goto (-27), 3) := by decide +kernel
theorem dX11_perform_56 : decode cX11_perform 56 = .ok (.aload_n 2, 1) := by decide +kernel
theorem dX11_perform_57 : decode cX11_perform 57 = .ok (.getfield 376, 3) := by decide +kernel
theorem dX11_perform_60 : decode cX11_perform 60 = .ok (.ireturn, 1) := by decide +kernel
set_option maxHeartbeats 4000000 in
set_option maxRecDepth 100000 in
theorem B_X11_perform_0 {d : Nat} {ro : Nat → Nat} {J : JT} {Z : Option Value → Hp → Prop} (g : xCtx RX11 cX11_perform 4 d 0 0 yX11_perform.name ro J) (hr : xRet cX11_perform (some .int) 0 0 Z J) {μ : Hp} {a0 : Nat} {x1 : Int32} {a0_book : Nat} {a0_scripts : Nat} {N_a0_scripts : Nat} (hs_a0 : hS μ a0 = some (14, 18)) (hr_a0_book : hR μ a0 13 = some a0_book) (hs_a0_book : hS μ a0_book = some (6, 9)) (hr_a0_scripts : hR μ a0 1 = some a0_scripts) (hs_a0_scripts : hS μ a0_scripts = some (3, N_a0_scripts)) (hd9 : 1 ≤ d)
    (h : ((x1 < 0 → Z (some (.int (-1))) μ) ∧ (¬ x1 < 0 → (((hI μ a0 15) ≤ x1 → Z (some (.int (-1))) μ) ∧ (¬ (hI μ a0 15) ≤ x1 → (((hI μ a0_book 6) ≤ 0 → Z (some (.int (-1))) μ) ∧ (¬ (hI μ a0_book 6) ≤ 0 → vp_in x1 N_a0_scripts ∧ ∃ b15 : Nat, hR μ a0_scripts x1.toNatClampNeg = some b15 ∧ J μ 0 0 26 [(0, .ref a0), (2, .ref b15), (3, .int 0)] []))))))) :
    J μ 0 0 0 [(0, .ref a0), (1, .int x1)] [] := by
  refine r_aload_n g dX11_perform_0 rfl ?_
  refine r_iload_n g dX11_perform_1 rfl ?_
  by_cases c1 : x1 < 0
  · replace h := h.1 c1
    refine r_callV (st := []) (As := [.int x1]) g sX11_373 iX11_hasScript eX11_hasScript rfl hs_a0 rfl (Nat.le_of_ble_eq_true rfl) dX11_perform_2 (by omega) (Nat.le_refl 0) (Nat.le_refl 0) (P_X11_hasScript_0 (d := d - 1) hs_a0 c1) (fun r2 μ3 hZ1 => ?_)
    obtain ⟨rfl, e9⟩ := hZ1
    replace e9 := e9.symm
    subst e9
    refine r_if_eq g 15 dX11_perform_5 (by decide) (fun _ => ?_) (fun hz => absurd hz (by decide))
    refine r_iconst g (-1) dX11_perform_15 (by decide) ?_
    exact hr.2.1 _ rfl _ _ _ _ _ _ dX11_perform_16 rfl (Nat.le_refl 0) (Nat.le_refl 0) h
  · replace h := h.2 c1
    by_cases c4 : (hI μ a0 15) ≤ x1
    · replace h := h.1 c4
      refine r_callV (st := []) (As := [.int x1]) g sX11_373 iX11_hasScript eX11_hasScript rfl hs_a0 rfl (Nat.le_of_ble_eq_true rfl) dX11_perform_2 (by omega) (Nat.le_refl 0) (Nat.le_refl 0) (P_X11_hasScript_1 (d := d - 1) hs_a0 c1 c4) (fun r5 μ6 hZ1 => ?_)
      obtain ⟨rfl, e9⟩ := hZ1
      replace e9 := e9.symm
      subst e9
      refine r_if_eq g 15 dX11_perform_5 (by decide) (fun _ => ?_) (fun hz => absurd hz (by decide))
      refine r_iconst g (-1) dX11_perform_15 (by decide) ?_
      exact hr.2.1 _ rfl _ _ _ _ _ _ dX11_perform_16 rfl (Nat.le_refl 0) (Nat.le_refl 0) h
    · replace h := h.2 c4
      refine r_callV (st := []) (As := [.int x1]) g sX11_373 iX11_hasScript eX11_hasScript rfl hs_a0 rfl (Nat.le_of_ble_eq_true rfl) dX11_perform_2 (by omega) (Nat.le_refl 0) (Nat.le_refl 0) (P_X11_hasScript_2 (d := d - 1) hs_a0 c1 c4) (fun r7 μ8 hZ1 => ?_)
      obtain ⟨rfl, e9⟩ := hZ1
      replace e9 := e9.symm
      subst e9
      refine r_if_eq g 15 dX11_perform_5 (by decide) (fun hz => absurd hz (by decide)) (fun _ => ?_)
      refine r_aload_n g dX11_perform_8 rfl ?_
      by_cases c9 : (hI μ a0_book 6) ≤ 0
      · replace h := h.1 c9
        refine r_callV (st := []) (As := []) g sX11_212 iX11_hasBook eX11_hasBook rfl hs_a0 rfl (Nat.le_of_ble_eq_true rfl) dX11_perform_9 (by omega) (Nat.le_refl 0) (Nat.le_refl 0) (P_X11_hasBook_0 (d := d - 1) hs_a0 hr_a0_book hs_a0_book c9) (fun r10 μ11 hZ1 => ?_)
        obtain ⟨rfl, e9⟩ := hZ1
        replace e9 := e9.symm
        subst e9
        refine r_if_ne g 17 dX11_perform_12 (by decide) (fun hz => absurd hz (by decide)) (fun _ => ?_)
        refine r_iconst g (-1) dX11_perform_15 (by decide) ?_
        exact hr.2.1 _ rfl _ _ _ _ _ _ dX11_perform_16 rfl (Nat.le_refl 0) (Nat.le_refl 0) h
      · replace h := h.2 c9
        refine r_callV (st := []) (As := []) g sX11_212 iX11_hasBook eX11_hasBook rfl hs_a0 rfl (Nat.le_of_ble_eq_true rfl) dX11_perform_9 (by omega) (Nat.le_refl 0) (Nat.le_refl 0) (P_X11_hasBook_1 (d := d - 1) hs_a0 hr_a0_book hs_a0_book c9) (fun r12 μ13 hZ1 => ?_)
        obtain ⟨rfl, e9⟩ := hZ1
        replace e9 := e9.symm
        subst e9
        refine r_if_ne g 17 dX11_perform_12 (by decide) (fun _ => ?_) (fun hz => absurd hz (by decide))
        refine r_aload_n g dX11_perform_17 rfl ?_
        refine r_getR g fX11_18 rfl hs_a0 hr_a0_scripts dX11_perform_18 ?_
        refine r_iload_n g dX11_perform_21 rfl ?_
        obtain ⟨hi14, h⟩ := h
        obtain ⟨b15, hr_b15, h⟩ := h
        refine r_aaload g hs_a0_scripts hi14 hr_b15 dX11_perform_22 ?_
        refine r_astore_n g [(2, .ref b15), (0, .ref a0), (1, .int x1)] dX11_perform_23 (by decide) rfl ?_
        refine r_iconst g 0 dX11_perform_24 (by decide) ?_
        refine r_istore_n g [(3, .int 0), (2, .ref b15), (0, .ref a0), (1, .int x1)] dX11_perform_25 (by decide) rfl ?_
        refine r_sub g (lv' := [(0, .ref a0), (2, .ref b15), (3, .int 0)]) (⟨rfl, rfl, rfl, trivial⟩) ?_
        exact h
set_option maxHeartbeats 4000000 in
set_option maxRecDepth 100000 in
theorem B_X11_perform_26 {d : Nat} {ro : Nat → Nat} {J : JT} {Z : Option Value → Hp → Prop} (g : xCtx RX11 cX11_perform 4 d 0 0 yX11_perform.name ro J) (hr : xRet cX11_perform (some .int) 0 0 Z J) {μ : Hp} {a0 : Nat} {a2 : Nat} {x3 : Int32} {a2_row : Nat} (hs_a2 : hS μ a2 = some (11, 2)) (hr_a2_row : hR μ a2 0 = some a2_row) (hs_a0 : hS μ a0 = some (14, 18))
    (h : (((hI μ a2 1) ≤ x3 → Z (some (.int (hI μ a2 1))) μ) ∧ (¬ (hI μ a2 1) ≤ x3 → xCall d yX11_actIfItCanBe cX11_actIfItCanBe 3 (some .boolean) [.ref a0, .ref a2_row, .int (x3 * 5)] μ ro (fun r2 μ3 => ∃ y4 : Int32, r2 = some (.int y4) ∧ ((¬ y4 = 0 → J μ3 0 0 26 [(0, .ref a0), (2, .ref a2), (3, .int (x3 + 1))] []) ∧ (y4 = 0 → Z (some (.int x3)) μ3)))))) :
    J μ 0 0 26 [(0, .ref a0), (2, .ref a2), (3, .int x3)] [] := by
  refine r_iload_n g dX11_perform_26 rfl ?_
  refine r_aload_n g dX11_perform_27 rfl ?_
  refine r_getI g fX11_376 rfl hs_a2 dX11_perform_28 ?_
  refine r_icmp_ge g 56 dX11_perform_31 (by decide) (fun c1 => ?_) (fun c1 => ?_)
  · replace h := h.1 c1
    refine r_aload_n g dX11_perform_56 rfl ?_
    refine r_getI g fX11_376 rfl hs_a2 dX11_perform_57 ?_
    exact hr.2.1 _ rfl _ _ _ _ _ _ dX11_perform_60 rfl (Nat.le_refl 0) (Nat.le_refl 0) h
  · replace h := h.2 c1
    refine r_aload_n g dX11_perform_34 rfl ?_
    refine r_aload_n g dX11_perform_35 rfl ?_
    refine r_getR g fX11_379 rfl hs_a2 hr_a2_row dX11_perform_36 ?_
    refine r_iload_n g dX11_perform_39 rfl ?_
    refine r_iconst g 5 dX11_perform_40 (by decide) ?_
    refine r_imul g dX11_perform_41 ?_
    obtain ⟨d1, Z1, hc1, hd1, h1⟩ := h
    refine r_callV (st := []) (As := [.ref a2_row, .int (x3 * 5)]) g sX11_355 iX11_actIfItCanBe eX11_actIfItCanBe rfl hs_a0 rfl (Nat.le_of_ble_eq_true rfl) dX11_perform_42 hd1 (Nat.le_refl 0) (Nat.le_refl 0) hc1 (fun r2 μ3 hZ1 => ?_)
    replace h := h1 _ _ hZ1
    clear h1 hc1 hd1 hZ1 Z1 d1
    obtain ⟨y4, rfl, h⟩ := h
    refine r_if_ne g 50 dX11_perform_45 (by decide) (fun c5 => ?_) (fun c5 => ?_)
    · replace h := h.1 c5
      refine r_iinc g (x3 + 1) [(3, .int (x3 + 1)), (0, .ref a0), (2, .ref a2)] dX11_perform_50 rfl rfl (by decide) rfl ?_
      refine r_goto g 26 dX11_perform_53 (by decide) ?_
      refine r_sub g (lv' := [(0, .ref a0), (2, .ref a2), (3, .int (x3 + 1))]) (⟨rfl, rfl, rfl, trivial⟩) ?_
      exact h
    · replace h := h.2 c5
      refine r_iload_n g dX11_perform_48 rfl ?_
      exact hr.2.1 _ rfl _ _ _ _ _ _ dX11_perform_49 rfl (Nat.le_refl 0) (Nat.le_refl 0) h
theorem I_X11_perform {d : Nat} {ro : Nat → Nat} {Z : Option Value → Hp → Prop} {μ : Hp} {a0 : Nat} {x1 : Int32} (h : ∀ J, xCtx RX11 cX11_perform 4 d 0 0 yX11_perform.name ro J → xRet cX11_perform (some .int) 0 0 Z J → J μ 0 0 0 [(0, .ref a0), (1, .int x1)] []) : xC d yX11_perform cX11_perform 4 (some .int) 0 0 [.ref a0, .int x1] μ ro Z :=
  xC_intro (own := RX11) (lv := [(0, .ref a0), (1, .int x1)]) (by decide) rfl (Nat.le_of_ble_eq_true rfl) rfl (fun J g hr => r_sub g (lv' := [(0, .ref a0), (1, .int x1)]) (⟨rfl, rfl, trivial⟩) (h J g hr))
theorem dX11_image_0 : decode cX11_image 0 = .ok (.aload_n 0, 1) := by decide +kernel
theorem dX11_image_1 : decode cX11_image 1 = .ok (.invokevirtual 212, 3) := by decide +kernel
theorem dX11_image_4 : decode cX11_image 4 = .ok (.ifCond .ne 5, 3) := by decide +kernel
theorem dX11_image_7 : decode cX11_image 7 = .ok (.iconst (-1), 1) := by decide +kernel
theorem dX11_image_8 : decode cX11_image 8 = .ok (.ireturn, 1) := by decide +kernel
theorem dX11_image_9 : decode cX11_image 9 = .ok (.aload_n 0, 1) := by decide +kernel
theorem dX11_image_10 : decode cX11_image 10 = .ok (.getfield 103, 3) := by decide +kernel
theorem dX11_image_13 : decode cX11_image 13 = .ok (.aload_n 0, 1) := by decide +kernel
theorem dX11_image_14 : decode cX11_image 14 = .ok (.getfield 96, 3) := by decide +kernel
theorem dX11_image_17 : decode cX11_image 17 = .ok (.invokevirtual 136, 3) := by decide +kernel
theorem dX11_image_20 : decode cX11_image 20 = .ok (.aload_n 0, 1) := by decide +kernel
theorem dX11_image_21 : decode cX11_image 21 = .ok (.getfield 52, 3) := by decide +kernel
theorem dX11_image_24 : decode cX11_image 24 = .ok (.aload_n 0, 1) := by decide +kernel
theorem dX11_image_25 : decode cX11_image 25 = .ok (.getfield 48, 3) := by decide +kernel
theorem dX11_image_28 : decode cX11_image 28 = .ok (.invokevirtual 384, 3) := by decide +kernel
theorem dX11_image_31 : decode cX11_image 31 = .ok (.aload_n 0, 1) := by decide +kernel
theorem dX11_image_32 : decode cX11_image 32 = .ok (.iconst 1, 1) := by decide +kernel
theorem dX11_image_33 : decode cX11_image 33 = .ok (.putfield 83, 3) := by decide +kernel
theorem dX11_image_36 : decode cX11_image 36 = .ok (.aload_n 0, 1) := by decide +kernel
theorem dX11_image_37 : decode cX11_image 37 = .ok (.getfield 96, 3) := by decide +kernel
theorem dX11_image_40 : decode cX11_image 40 = .ok (.getfield 151, 3) := by decide +kernel
theorem dX11_image_43 : decode cX11_image 43 = .ok (.iconst 0, 1) := by decide +kernel
theorem dX11_image_44 : decode cX11_image 44 = .ok (.iaload, 1) := by decide +kernel
theorem dX11_image_45 : decode cX11_image 45 = .ok (.ireturn, 1) := by decide +kernel
set_option maxHeartbeats 4000000 in
set_option maxRecDepth 100000 in
theorem B_X11_image_0 {d : Nat} {ro : Nat → Nat} {J : JT} {Z : Option Value → Hp → Prop} (g : xCtx RX11 cX11_image 1 d 0 0 yX11_image.name ro J) (hr : xRet cX11_image (some .int) 0 0 Z J) {μ : Hp} {a0 : Nat} {a0_book : Nat} {a0_imaged : Nat} {a0_now : Nat} (hs_a0 : hS μ a0 = some (14, 18)) (hr_a0_book : hR μ a0 13 = some a0_book) (hs_a0_book : hS μ a0_book = some (6, 9)) (hr_a0_imaged : hR μ a0 12 = some a0_imaged) (hr_a0_now : hR μ a0 10 = some a0_now) (hs_a0_imaged : hS μ a0_imaged = some (12, 4)) (hd9 : 1 ≤ d)
    (h : (((hI μ a0_book 6) ≤ 0 → Z (some (.int (-1))) μ) ∧ (¬ (hI μ a0_book 6) ≤ 0 → xCall d yX8_copyFrom cX8_copyFrom 2 none [.ref a0_imaged, .ref a0_now] μ ro (fun r6 μ7 => r6 = none ∧ hS μ7 a0 = some (14, 18) ∧ ∃ imagedLog_8 : Nat, hR μ7 a0 6 = some imagedLog_8 ∧ ∃ acted_9 : Nat, hR μ7 a0 5 = some acted_9 ∧ hS μ7 imagedLog_8 = some (9, 3) ∧ xCall d yX5_copyFrom cX5_copyFrom 2 none [.ref imagedLog_8, .ref acted_9] μ7 ro (fun r10 μ11 => r10 = none ∧ hS μ11 a0 = some (14, 18) ∧ ∃ now_12 : Nat, hR μ11 a0 10 = some now_12 ∧ hS μ11 now_12 = some (12, 4) ∧ ∃ row_13 : Nat, hR μ11 now_12 0 = some row_13 ∧ ∃ N14 : Nat, hS μ11 row_13 = some (0, N14) ∧ vp_in 0 N14 ∧ Z (some (.int (hI (wI μ11 a0 16 1) row_13 0))) (wI μ11 a0 16 1)))))) :
    J μ 0 0 0 [(0, .ref a0)] [] := by
  refine r_aload_n g dX11_image_0 rfl ?_
  by_cases c1 : (hI μ a0_book 6) ≤ 0
  · replace h := h.1 c1
    refine r_callV (st := []) (As := []) g sX11_212 iX11_hasBook eX11_hasBook rfl hs_a0 rfl (Nat.le_of_ble_eq_true rfl) dX11_image_1 (by omega) (Nat.le_refl 0) (Nat.le_refl 0) (P_X11_hasBook_0 (d := d - 1) hs_a0 hr_a0_book hs_a0_book c1) (fun r2 μ3 hZ1 => ?_)
    obtain ⟨rfl, e9⟩ := hZ1
    replace e9 := e9.symm
    subst e9
    refine r_if_ne g 9 dX11_image_4 (by decide) (fun hz => absurd hz (by decide)) (fun _ => ?_)
    refine r_iconst g (-1) dX11_image_7 (by decide) ?_
    exact hr.2.1 _ rfl _ _ _ _ _ _ dX11_image_8 rfl (Nat.le_refl 0) (Nat.le_refl 0) h
  · replace h := h.2 c1
    refine r_callV (st := []) (As := []) g sX11_212 iX11_hasBook eX11_hasBook rfl hs_a0 rfl (Nat.le_of_ble_eq_true rfl) dX11_image_1 (by omega) (Nat.le_refl 0) (Nat.le_refl 0) (P_X11_hasBook_1 (d := d - 1) hs_a0 hr_a0_book hs_a0_book c1) (fun r4 μ5 hZ1 => ?_)
    obtain ⟨rfl, e9⟩ := hZ1
    replace e9 := e9.symm
    subst e9
    refine r_if_ne g 9 dX11_image_4 (by decide) (fun _ => ?_) (fun hz => absurd hz (by decide))
    refine r_aload_n g dX11_image_9 rfl ?_
    refine r_getR g fX11_103 rfl hs_a0 hr_a0_imaged dX11_image_10 ?_
    refine r_aload_n g dX11_image_13 rfl ?_
    refine r_getR g fX11_96 rfl hs_a0 hr_a0_now dX11_image_14 ?_
    obtain ⟨d1, Z1, hc1, hd1, h1⟩ := h
    refine r_callV (st := []) (As := [.ref a0_now]) g sX11_136 iX8_copyFrom eX8_copyFrom rfl hs_a0_imaged rfl (Nat.le_of_ble_eq_true rfl) dX11_image_17 hd1 (Nat.le_refl 0) (Nat.le_refl 0) hc1 (fun r6 μ7 hZ1 => ?_)
    replace h := h1 _ _ hZ1
    clear h1 hc1 hd1 hZ1 Z1 d1
    obtain ⟨rfl, h⟩ := h
    refine r_aload_n g dX11_image_20 rfl ?_
    obtain ⟨hs_a0_, h⟩ := h
    obtain ⟨imagedLog_8, hr_imagedLog_8, h⟩ := h
    refine r_getR g fX11_52 rfl hs_a0_ hr_imagedLog_8 dX11_image_21 ?_
    refine r_aload_n g dX11_image_24 rfl ?_
    obtain ⟨acted_9, hr_acted_9, h⟩ := h
    refine r_getR g fX11_48 rfl hs_a0_ hr_acted_9 dX11_image_25 ?_
    obtain ⟨hs_imagedLog_8, h⟩ := h
    obtain ⟨d1, Z1, hc1, hd1, h1⟩ := h
    refine r_callV (st := []) (As := [.ref acted_9]) g sX11_384 iX5_copyFrom eX5_copyFrom rfl hs_imagedLog_8 rfl (Nat.le_of_ble_eq_true rfl) dX11_image_28 hd1 (Nat.le_refl 0) (Nat.le_refl 0) hc1 (fun r10 μ11 hZ1 => ?_)
    replace h := h1 _ _ hZ1
    clear h1 hc1 hd1 hZ1 Z1 d1
    obtain ⟨rfl, h⟩ := h
    refine r_aload_n g dX11_image_31 rfl ?_
    refine r_iconst g 1 dX11_image_32 (by decide) ?_
    obtain ⟨hs_a0__, h⟩ := h
    refine r_putI g fX11_83 rfl hs_a0__ (by decide) (by decide) dX11_image_33 ?_
    refine r_aload_n g dX11_image_36 rfl ?_
    obtain ⟨now_12, hr_now_12, h⟩ := h
    refine r_getR g fX11_96 rfl hs_a0__ hr_now_12 dX11_image_37 ?_
    obtain ⟨hs_now_12, h⟩ := h
    obtain ⟨row_13, hr_row_13, h⟩ := h
    refine r_getR g fX11_151 rfl hs_now_12 hr_row_13 dX11_image_40 ?_
    refine r_iconst g 0 dX11_image_43 (by decide) ?_
    obtain ⟨N14, hs_row_13, h⟩ := h
    obtain ⟨hi15, h⟩ := h
    refine r_iaload g hs_row_13 hi15 dX11_image_44 ?_
    exact hr.2.1 _ rfl _ _ _ _ _ _ dX11_image_45 rfl (Nat.le_refl 0) (Nat.le_refl 0) h
theorem I_X11_image {d : Nat} {ro : Nat → Nat} {Z : Option Value → Hp → Prop} {μ : Hp} {a0 : Nat} (h : ∀ J, xCtx RX11 cX11_image 1 d 0 0 yX11_image.name ro J → xRet cX11_image (some .int) 0 0 Z J → J μ 0 0 0 [(0, .ref a0)] []) : xC d yX11_image cX11_image 1 (some .int) 0 0 [.ref a0] μ ro Z :=
  xC_intro (own := RX11) (lv := [(0, .ref a0)]) (by decide) rfl (Nat.le_of_ble_eq_true rfl) rfl (fun J g hr => r_sub g (lv' := [(0, .ref a0)]) (⟨rfl, trivial⟩) (h J g hr))
theorem dX11_back_0 : decode cX11_back 0 = .ok (.aload_n 0, 1) := by decide +kernel
theorem dX11_back_1 : decode cX11_back 1 = .ok (.getfield 83, 3) := by decide +kernel
theorem dX11_back_4 : decode cX11_back 4 = .ok (.ifCond .ne 5, 3) := by decide +kernel
theorem dX11_back_7 : decode cX11_back 7 = .ok (.iconst (-1), 1) := by decide +kernel
theorem dX11_back_8 : decode cX11_back 8 = .ok (.ireturn, 1) := by decide +kernel
theorem dX11_back_9 : decode cX11_back 9 = .ok (.aload_n 0, 1) := by decide +kernel
theorem dX11_back_10 : decode cX11_back 10 = .ok (.getfield 96, 3) := by decide +kernel
theorem dX11_back_13 : decode cX11_back 13 = .ok (.aload_n 0, 1) := by decide +kernel
theorem dX11_back_14 : decode cX11_back 14 = .ok (.getfield 103, 3) := by decide +kernel
theorem dX11_back_17 : decode cX11_back 17 = .ok (.invokevirtual 136, 3) := by decide +kernel
theorem dX11_back_20 : decode cX11_back 20 = .ok (.aload_n 0, 1) := by decide +kernel
theorem dX11_back_21 : decode cX11_back 21 = .ok (.getfield 48, 3) := by decide +kernel
theorem dX11_back_24 : decode cX11_back 24 = .ok (.aload_n 0, 1) := by decide +kernel
theorem dX11_back_25 : decode cX11_back 25 = .ok (.getfield 52, 3) := by decide +kernel
theorem dX11_back_28 : decode cX11_back 28 = .ok (.invokevirtual 384, 3) := by decide +kernel
theorem dX11_back_31 : decode cX11_back 31 = .ok (.aload_n 0, 1) := by decide +kernel
theorem dX11_back_32 : decode cX11_back 32 = .ok (.getfield 41, 3) := by decide +kernel
theorem dX11_back_35 : decode cX11_back 35 = .ok (.invokevirtual 140, 3) := by decide +kernel
theorem dX11_back_38 : decode cX11_back 38 = .ok (.aload_n 0, 1) := by decide +kernel
theorem dX11_back_39 : decode cX11_back 39 = .ok (.getfield 96, 3) := by decide +kernel
theorem dX11_back_42 : decode cX11_back 42 = .ok (.getfield 151, 3) := by decide +kernel
theorem dX11_back_45 : decode cX11_back 45 = .ok (.iconst 0, 1) := by decide +kernel
theorem dX11_back_46 : decode cX11_back 46 = .ok (.iaload, 1) := by decide +kernel
theorem dX11_back_47 : decode cX11_back 47 = .ok (.ireturn, 1) := by decide +kernel
set_option maxHeartbeats 4000000 in
set_option maxRecDepth 100000 in
theorem B_X11_back_0 {d : Nat} {ro : Nat → Nat} {J : JT} {Z : Option Value → Hp → Prop} (g : xCtx RX11 cX11_back 1 d 0 0 yX11_back.name ro J) (hr : xRet cX11_back (some .int) 0 0 Z J) {μ : Hp} {a0 : Nat} {a0_now : Nat} {a0_imaged : Nat} (hs_a0 : hS μ a0 = some (14, 18)) (hr_a0_now : hR μ a0 10 = some a0_now) (hr_a0_imaged : hR μ a0 12 = some a0_imaged) (hs_a0_now : hS μ a0_now = some (12, 4))
    (h : ((¬ (hI μ a0 16) = 0 → xCall d yX8_copyFrom cX8_copyFrom 2 none [.ref a0_now, .ref a0_imaged] μ ro (fun r2 μ3 => r2 = none ∧ hS μ3 a0 = some (14, 18) ∧ ∃ acted_4 : Nat, hR μ3 a0 5 = some acted_4 ∧ ∃ imagedLog_5 : Nat, hR μ3 a0 6 = some imagedLog_5 ∧ hS μ3 acted_4 = some (9, 3) ∧ xCall d yX5_copyFrom cX5_copyFrom 2 none [.ref acted_4, .ref imagedLog_5] μ3 ro (fun r6 μ7 => r6 = none ∧ hS μ7 a0 = some (14, 18) ∧ ∃ history_8 : Nat, hR μ7 a0 4 = some history_8 ∧ hS μ7 history_8 = some (8, 3) ∧ xCall d yX4_forget cX4_forget 1 none [.ref history_8] μ7 ro (fun r9 μ10 => r9 = none ∧ hS μ10 a0 = some (14, 18) ∧ ∃ now_11 : Nat, hR μ10 a0 10 = some now_11 ∧ hS μ10 now_11 = some (12, 4) ∧ ∃ row_12 : Nat, hR μ10 now_11 0 = some row_12 ∧ ∃ N13 : Nat, hS μ10 row_12 = some (0, N13) ∧ vp_in 0 N13 ∧ Z (some (.int (hI μ10 row_12 0))) μ10)))) ∧ ((hI μ a0 16) = 0 → Z (some (.int (-1))) μ))) :
    J μ 0 0 0 [(0, .ref a0)] [] := by
  refine r_aload_n g dX11_back_0 rfl ?_
  refine r_getI g fX11_83 rfl hs_a0 dX11_back_1 ?_
  refine r_if_ne g 9 dX11_back_4 (by decide) (fun c1 => ?_) (fun c1 => ?_)
  · replace h := h.1 c1
    refine r_aload_n g dX11_back_9 rfl ?_
    refine r_getR g fX11_96 rfl hs_a0 hr_a0_now dX11_back_10 ?_
    refine r_aload_n g dX11_back_13 rfl ?_
    refine r_getR g fX11_103 rfl hs_a0 hr_a0_imaged dX11_back_14 ?_
    obtain ⟨d1, Z1, hc1, hd1, h1⟩ := h
    refine r_callV (st := []) (As := [.ref a0_imaged]) g sX11_136 iX8_copyFrom eX8_copyFrom rfl hs_a0_now rfl (Nat.le_of_ble_eq_true rfl) dX11_back_17 hd1 (Nat.le_refl 0) (Nat.le_refl 0) hc1 (fun r2 μ3 hZ1 => ?_)
    replace h := h1 _ _ hZ1
    clear h1 hc1 hd1 hZ1 Z1 d1
    obtain ⟨rfl, h⟩ := h
    refine r_aload_n g dX11_back_20 rfl ?_
    obtain ⟨hs_a0_, h⟩ := h
    obtain ⟨acted_4, hr_acted_4, h⟩ := h
    refine r_getR g fX11_48 rfl hs_a0_ hr_acted_4 dX11_back_21 ?_
    refine r_aload_n g dX11_back_24 rfl ?_
    obtain ⟨imagedLog_5, hr_imagedLog_5, h⟩ := h
    refine r_getR g fX11_52 rfl hs_a0_ hr_imagedLog_5 dX11_back_25 ?_
    obtain ⟨hs_acted_4, h⟩ := h
    obtain ⟨d1, Z1, hc1, hd1, h1⟩ := h
    refine r_callV (st := []) (As := [.ref imagedLog_5]) g sX11_384 iX5_copyFrom eX5_copyFrom rfl hs_acted_4 rfl (Nat.le_of_ble_eq_true rfl) dX11_back_28 hd1 (Nat.le_refl 0) (Nat.le_refl 0) hc1 (fun r6 μ7 hZ1 => ?_)
    replace h := h1 _ _ hZ1
    clear h1 hc1 hd1 hZ1 Z1 d1
    obtain ⟨rfl, h⟩ := h
    refine r_aload_n g dX11_back_31 rfl ?_
    obtain ⟨hs_a0__, h⟩ := h
    obtain ⟨history_8, hr_history_8, h⟩ := h
    refine r_getR g fX11_41 rfl hs_a0__ hr_history_8 dX11_back_32 ?_
    obtain ⟨hs_history_8, h⟩ := h
    obtain ⟨d1, Z1, hc1, hd1, h1⟩ := h
    refine r_callV (st := []) (As := []) g sX11_140 iX4_forget eX4_forget rfl hs_history_8 rfl (Nat.le_of_ble_eq_true rfl) dX11_back_35 hd1 (Nat.le_refl 0) (Nat.le_refl 0) hc1 (fun r9 μ10 hZ1 => ?_)
    replace h := h1 _ _ hZ1
    clear h1 hc1 hd1 hZ1 Z1 d1
    obtain ⟨rfl, h⟩ := h
    refine r_aload_n g dX11_back_38 rfl ?_
    obtain ⟨hs_a0___, h⟩ := h
    obtain ⟨now_11, hr_now_11, h⟩ := h
    refine r_getR g fX11_96 rfl hs_a0___ hr_now_11 dX11_back_39 ?_
    obtain ⟨hs_now_11, h⟩ := h
    obtain ⟨row_12, hr_row_12, h⟩ := h
    refine r_getR g fX11_151 rfl hs_now_11 hr_row_12 dX11_back_42 ?_
    refine r_iconst g 0 dX11_back_45 (by decide) ?_
    obtain ⟨N13, hs_row_12, h⟩ := h
    obtain ⟨hi14, h⟩ := h
    refine r_iaload g hs_row_12 hi14 dX11_back_46 ?_
    exact hr.2.1 _ rfl _ _ _ _ _ _ dX11_back_47 rfl (Nat.le_refl 0) (Nat.le_refl 0) h
  · replace h := h.2 c1
    refine r_iconst g (-1) dX11_back_7 (by decide) ?_
    exact hr.2.1 _ rfl _ _ _ _ _ _ dX11_back_8 rfl (Nat.le_refl 0) (Nat.le_refl 0) h
theorem I_X11_back {d : Nat} {ro : Nat → Nat} {Z : Option Value → Hp → Prop} {μ : Hp} {a0 : Nat} (h : ∀ J, xCtx RX11 cX11_back 1 d 0 0 yX11_back.name ro J → xRet cX11_back (some .int) 0 0 Z J → J μ 0 0 0 [(0, .ref a0)] []) : xC d yX11_back cX11_back 1 (some .int) 0 0 [.ref a0] μ ro Z :=
  xC_intro (own := RX11) (lv := [(0, .ref a0)]) (by decide) rfl (Nat.le_of_ble_eq_true rfl) rfl (fun J g hr => r_sub g (lv' := [(0, .ref a0)]) (⟨rfl, trivial⟩) (h J g hr))
