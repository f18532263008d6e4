theorem dX12_text_0 : decode cX12_text 0 = .ok (.aload_n 0, 1) := by decide +kernel
theorem dX12_text_1 : decode cX12_text 1 = .ok (.iconst 0, 1) := by decide +kernel
theorem dX12_text_2 : decode cX12_text 2 = .ok (.putfield 106, 3) := by decide +kernel
theorem dX12_text_5 : decode cX12_text 5 = .ok (.iload_n 1, 1) := by decide +kernel
theorem dX12_text_6 : decode cX12_text 6 = .ok (.i2l, 1) := by decide +kernel
theorem dX12_text_7 : decode cX12_text 7 = .ok (.lconst 0, 1) := by decide +kernel
theorem dX12_text_8 : decode cX12_text 8 = .ok (.lconst 1, 1) := by decide +kernel
theorem dX12_text_9 : decode cX12_text 9 = .ok (.invokestatic 161, 3) := by decide +kernel
theorem dX12_text_12 : decode cX12_text 12 = .ok (.ifCond .eq 25, 3) := by decide +kernel
theorem dX12_text_15 : decode cX12_text 15 = .ok (.iload_n 1, 1) := by decide +kernel
theorem dX12_text_16 : decode cX12_text 16 = .ok (.iconst 1, 1) := by decide +kernel
theorem dX12_text_17 : decode cX12_text 17 = .ok (.if_icmp .ne 11, 3) := by decide +kernel
theorem dX12_text_20 : decode cX12_text 20 = .ok (.aload_n 0, 1) := by decide +kernel
theorem dX12_text_21 : decode cX12_text 21 = .ok (.getfield 258, 3) := by decide +kernel
theorem dX12_text_24 : decode cX12_text 24 = .ok (.iconst 4, 1) := by decide +kernel
theorem dX12_text_25 : decode cX12_text 25 = .ok (.if_icmp .eq 12, 3) := by decide +kernel
theorem dX12_text_28 : decode cX12_text 28 = .ok (.aload_n 0, 1) := by decide +kernel
theorem dX12_text_29 : decode cX12_text 29 = .ok (.iload_n 1, 1) := by decide +kernel
theorem dX12_text_30 : decode cX12_text 30 = .ok (.invokevirtual 261, 3) := by decide +kernel
theorem dX12_text_33 : decode cX12_text 33 = .ok (.iconst (-1), 1) := by decide +kernel
theorem dX12_text_34 : decode cX12_text 34 = .ok (.if_icmp .eq 5, 3) := by decide +kernel
theorem dX12_text_37 : decode cX12_text 37 = .ok (.iconst (-1), 1) := by decide +kernel
theorem dX12_text_38 : decode cX12_text 38 = .ok (.ireturn, 1) := by decide +kernel
theorem dX12_text_39 : decode cX12_text 39 = .ok (.aload_n 0, 1) := by decide +kernel
theorem dX12_text_40 : decode cX12_text 40 = .ok (.iconst 0, 1) := by decide +kernel
theorem dX12_text_41 : decode cX12_text 41 = .ok (.putfield 109, 3) := by decide +kernel
theorem dX12_text_44 : decode cX12_text 44 = .ok (.iload_n 1, 1) := by decide +kernel
theorem dX12_text_45 : decode cX12_text 45 = .ok (.iconst 1, 1) := by decide +kernel
theorem dX12_text_46 : decode cX12_text 46 = .ok (.if_icmp .ne 74, 3) := by decide +kernel
theorem dX12_text_49 : decode cX12_text 49 = .ok (.bipush 60, 2) := by decide +kernel
theorem dX12_text_51 : decode cX12_text 51 = .ok (.istore_n 2, 1) := by decide +kernel
theorem dX12_text_52 : decode cX12_text 52 = .ok (.iconst 0, 1) := by decide +kernel
theorem dX12_text_53 : decode cX12_text 53 = .ok (.istore_n 3, 1) := by decide +kernel
theorem dX12_text_54 : decode cX12_text 54 = .ok (.iload_n 3, 1) := by decide +kernel
theorem dX12_text_55 : decode cX12_text 55 = .ok (.iload_n 2, 1) := by decide +kernel
theorem dX12_text_56 : decode cX12_text 56 = .ok (.if_icmp .ge 32, 3) := by decide +kernel
theorem dX12_text_59 : decode cX12_text 59 = .ok (.aload_n 0, 1) := by decide +kernel
theorem dX12_text_60 : decode cX12_text 60 = .ok (.getfield 51, 3) := by decide +kernel
theorem dX12_text_63 : decode cX12_text 63 = .ok (.iload_n 2, 1) := by decide +kernel
theorem dX12_text_64 : decode cX12_text 64 = .ok (.aload_n 0, 1) := by decide +kernel
theorem dX12_text_65 : decode cX12_text 65 = .ok (.getfield 258, 3) := by decide +kernel
theorem dX12_text_68 : decode cX12_text 68 = .ok (.imul, 1) := by decide +kernel
theorem dX12_text_69 : decode cX12_text 69 = .ok (.iload_n 3, 1) := by decide +kernel
theorem dX12_text_70 : decode cX12_text 70 = .ok (.iadd, 1) := by decide +kernel
theorem dX12_text_71 : decode cX12_text 71 = .ok (.aload_n 0, 1) := by decide +kernel
theorem dX12_text_72 : decode cX12_text 72 = .ok (.getfield 51, 3) := by decide +kernel
theorem dX12_text_75 : decode cX12_text 75 = .ok (.iload_n 2, 1) := by decide +kernel
theorem dX12_text_76 : decode cX12_text 76 = .ok (.iconst 4, 1) := by decide +kernel
theorem dX12_text_77 : decode cX12_text 77 = .ok (.imul, 1) := by decide +kernel
theorem dX12_text_78 : decode cX12_text 78 = .ok (.iload_n 3, 1) := by decide +kernel
theorem dX12_text_79 : decode cX12_text 79 = .ok (.iadd, 1) := by decide +kernel
theorem dX12_text_80 : decode cX12_text 80 = .ok (.iaload, 1) := by decide +kernel
theorem dX12_text_81 : decode cX12_text 81 = .ok (.iastore, 1) := by decide +kernel
theorem dX12_text_82 : decode cX12_text 82 = .ok (.iinc 3 1, 3) := by decide +kernel
theorem dX12_text_85 : decode cX12_text 85 = .ok (.goto (-31), 3) := by decide +kernel
theorem dX12_text_88 : decode cX12_text 88 = .ok (.aload_n 0, 1) := by decide +kernel
theorem dX12_text_89 : decode cX12_text 89 = .ok (.getfield 54, 3) := by decide +kernel
theorem dX12_text_92 : decode cX12_text 92 = .ok (.aload_n 0, 1) := by decide +kernel
theorem dX12_text_93 : decode cX12_text 93 = .ok (.getfield 258, 3) := by decide +kernel
theorem dX12_text_96 : decode cX12_text 96 = .ok (.aload_n 0, 1) := by decide +kernel
theorem dX12_text_97 : decode cX12_text 97 = .ok (.getfield 54, 3) := by decide +kernel
theorem dX12_text_100 : decode cX12_text 100 = .ok (.iconst 4, 1) := by decide +kernel
theorem dX12_text_101 : decode cX12_text 101 = .ok (.iaload, 1) := by decide +kernel
theorem dX12_text_102 : decode cX12_text 102 = .ok (.iastore, 1) := by decide +kernel
theorem dX12_text_103 : decode cX12_text 103 = .ok (.aload_n 0, 1) := by decide +kernel
theorem dX12_text_104 : decode cX12_text 104 = .ok (.dup, 1) := by decide +kernel
theorem dX12_text_105 : decode cX12_text 105 = .ok (.getfield 258, 3) := by decide +kernel
theorem dX12_text_108 : decode cX12_text 108 = .ok (.iconst 1, 1) := by decide +kernel
theorem dX12_text_109 : decode cX12_text 109 = .ok (.iadd, 1) := by decide +kernel
theorem dX12_text_110 : decode cX12_text 110 = .ok (.putfield 258, 3) := by decide +kernel
theorem dX12_text_113 : decode cX12_text 113 = .ok (.aload_n 0, 1) := by decide +kernel
theorem dX12_text_114 : decode cX12_text 114 = .ok (.getfield 258, 3) := by decide +kernel
theorem dX12_text_117 : decode cX12_text 117 = .ok (.iconst 1, 1) := by decide +kernel
theorem dX12_text_118 : decode cX12_text 118 = .ok (.isub, 1) := by decide +kernel
theorem dX12_text_119 : decode cX12_text 119 = .ok (.ireturn, 1) := by decide +kernel
theorem dX12_text_120 : decode cX12_text 120 = .ok (.aload_n 0, 1) := by decide +kernel
theorem dX12_text_121 : decode cX12_text 121 = .ok (.invokevirtual 263, 3) := by decide +kernel
theorem dX12_text_124 : decode cX12_text 124 = .ok (.aload_n 0, 1) := by decide +kernel
theorem dX12_text_125 : decode cX12_text 125 = .ok (.getfield 245, 3) := by decide +kernel
theorem dX12_text_128 : decode cX12_text 128 = .ok (.ireturn, 1) := by decide +kernel
set_option maxHeartbeats 4000000 in
set_option maxRecDepth 100000 in
theorem B_X12_text_0 {d : Nat} {ro : Nat → Nat} {J : JT} {Z : Option Value → Hp → Prop} (g : xCtx RX12 cX12_text 4 d 0 0 yX12_text.name ro J) (hr : xRet cX12_text (some .int) 0 0 Z J) {μ : Hp} {a0 : Nat} {x1 : Int32} (hs_a0 : hS μ a0 = some (15, 65)) (hd9 : 1 ≤ d)
    (h : ((x1 < 0 → Z (some (.int (-1))) (wI μ a0 0 0)) ∧ (¬ x1 < 0 → ((1 < x1 → Z (some (.int (-1))) (wI μ a0 0 0)) ∧ (¬ 1 < x1 → ((¬ x1 = 1 → xCall d yX12_fault cX12_fault 2 (some .int) [.ref a0, .int x1] (wI μ a0 0 0) ro (fun r10 μ11 => ∃ y12 : Int32, r10 = some (.int y12) ∧ ((y12 = (-1) → hS μ11 a0 = some (15, 65) ∧ ((¬ x1 = 1 → xCall d yX12_begins cX12_begins 2 none [.ref a0] (wI μ11 a0 2 0) ro (fun r15 μ16 => r15 = none ∧ hS μ16 a0 = some (15, 65) ∧ Z (some (.int (hI μ16 a0 22))) μ16)) ∧ (x1 = 1 → J (wI μ11 a0 2 0) 0 0 54 [(0, .ref a0), (2, .int 60), (3, .int 0)] []))) ∧ (¬ y12 = (-1) → Z (some (.int (-1))) μ11)))) ∧ (x1 = 1 → (((hI (wI μ a0 0 0) a0 27) = 4 → Z (some (.int (-1))) (wI μ a0 0 0)) ∧ (¬ (hI (wI μ a0 0 0) a0 27) = 4 → xCall d yX12_fault cX12_fault 2 (some .int) [.ref a0, .int x1] (wI μ a0 0 0) ro (fun r18 μ19 => ∃ y20 : Int32, r18 = some (.int y20) ∧ ((y20 = (-1) → hS μ19 a0 = some (15, 65) ∧ ((¬ x1 = 1 → xCall d yX12_begins cX12_begins 2 none [.ref a0] (wI μ19 a0 2 0) ro (fun r23 μ24 => r23 = none ∧ hS μ24 a0 = some (15, 65) ∧ Z (some (.int (hI μ24 a0 22))) μ24)) ∧ (x1 = 1 → J (wI μ19 a0 2 0) 0 0 54 [(0, .ref a0), (2, .int 60), (3, .int 0)] []))) ∧ (¬ y20 = (-1) → Z (some (.int (-1))) μ19)))))))))))) :
    J μ 0 0 0 [(0, .ref a0), (1, .int x1)] [] := by
  refine r_aload_n g dX12_text_0 rfl ?_
  refine r_iconst g 0 dX12_text_1 (by decide) ?_
  refine r_putI g fX12_106 rfl hs_a0 rfl rfl dX12_text_2 ?_
  refine r_iload_n g dX12_text_5 rfl ?_
  refine r_i2l g dX12_text_6 ?_
  refine r_lconst g 0 dX12_text_7 (by decide) ?_
  refine r_lconst g 1 dX12_text_8 (by decide) ?_
  by_cases c1 : x1 < 0
  · replace h := h.1 c1
    refine r_callS (st := []) (As := [.long x1.toInt64, .long 0, .long 1]) g sX12_161 iX12_isIn rfl (Nat.le_of_ble_eq_true rfl) dX12_text_9 (by omega) (Nat.le_refl 0) (Nat.le_refl 0) (Q_isIn_0 (d := d - 1) (x := x1) (a := 0) (b := 1) rfl (by decide) (by decide) c1) (fun r2 μ3 hZ1 => ?_)
    obtain ⟨rfl, e9⟩ := hZ1
    replace e9 := e9.symm
    subst e9
    refine r_if_eq g 37 dX12_text_12 (by decide) (fun _ => ?_) (fun hz => absurd hz (by decide))
    refine r_iconst g (-1) dX12_text_37 (by decide) ?_
    exact hr.2.1 _ rfl _ _ _ _ _ _ dX12_text_38 rfl (Nat.le_refl 0) (Nat.le_refl 0) h
  · replace h := h.2 c1
    by_cases c4 : 1 < x1
    · replace h := h.1 c4
      refine r_callS (st := []) (As := [.long x1.toInt64, .long 0, .long 1]) g sX12_161 iX12_isIn rfl (Nat.le_of_ble_eq_true rfl) dX12_text_9 (by omega) (Nat.le_refl 0) (Nat.le_refl 0) (Q_isIn_1 (d := d - 1) (x := x1) (a := 0) (b := 1) rfl (by decide) (by decide) c1 c4) (fun r5 μ6 hZ1 => ?_)
      obtain ⟨rfl, e9⟩ := hZ1
      replace e9 := e9.symm
      subst e9
      refine r_if_eq g 37 dX12_text_12 (by decide) (fun _ => ?_) (fun hz => absurd hz (by decide))
      refine r_iconst g (-1) dX12_text_37 (by decide) ?_
      exact hr.2.1 _ rfl _ _ _ _ _ _ dX12_text_38 rfl (Nat.le_refl 0) (Nat.le_refl 0) h
    · replace h := h.2 c4
      refine r_callS (st := []) (As := [.long x1.toInt64, .long 0, .long 1]) g sX12_161 iX12_isIn rfl (Nat.le_of_ble_eq_true rfl) dX12_text_9 (by omega) (Nat.le_refl 0) (Nat.le_refl 0) (Q_isIn_2 (d := d - 1) (x := x1) (a := 0) (b := 1) rfl (by decide) (by decide) c1 c4) (fun r7 μ8 hZ1 => ?_)
      obtain ⟨rfl, e9⟩ := hZ1
      replace e9 := e9.symm
      subst e9
      refine r_if_eq g 37 dX12_text_12 (by decide) (fun hz => absurd hz (by decide)) (fun _ => ?_)
      refine r_iload_n g dX12_text_15 rfl ?_
      refine r_iconst g 1 dX12_text_16 (by decide) ?_
      refine r_icmp_ne g 28 dX12_text_17 (by decide) (fun c9 => ?_) (fun c9 => ?_)
      · replace h := h.1 c9
        refine r_aload_n g dX12_text_28 rfl ?_
        refine r_iload_n g dX12_text_29 rfl ?_
        obtain ⟨d1, Z1, hc1, hd1, h1⟩ := h
        refine r_callV (st := []) (As := [.int x1]) g sX12_261 iX12_fault eX12_fault rfl hs_a0 rfl (Nat.le_of_ble_eq_true rfl) dX12_text_30 hd1 (Nat.le_refl 0) (Nat.le_refl 0) hc1 (fun r10 μ11 hZ1 => ?_)
        replace h := h1 _ _ hZ1
        clear h1 hc1 hd1 hZ1 Z1 d1
        obtain ⟨y12, rfl, h⟩ := h
        refine r_iconst g (-1) dX12_text_33 (by decide) ?_
        refine r_icmp_eq g 39 dX12_text_34 (by decide) (fun c13 => ?_) (fun c13 => ?_)
        · replace h := h.1 c13
          refine r_aload_n g dX12_text_39 rfl ?_
          refine r_iconst g 0 dX12_text_40 (by decide) ?_
          obtain ⟨hs_a0_, h⟩ := h
          refine r_putI g fX12_109 rfl hs_a0_ rfl rfl dX12_text_41 ?_
          refine r_iload_n g dX12_text_44 rfl ?_
          refine r_iconst g 1 dX12_text_45 (by decide) ?_
          refine r_icmp_ne g 120 dX12_text_46 (by decide) (fun c14 => ?_) (fun c14 => ?_)
          · replace h := h.1 c14
            refine r_aload_n g dX12_text_120 rfl ?_
            obtain ⟨d1, Z1, hc1, hd1, h1⟩ := h
            refine r_callV (st := []) (As := []) g sX12_263 iX12_begins eX12_begins rfl hs_a0_ rfl (Nat.le_of_ble_eq_true rfl) dX12_text_121 hd1 (Nat.le_refl 0) (Nat.le_refl 0) hc1 (fun r15 μ16 hZ1 => ?_)
            replace h := h1 _ _ hZ1
            clear h1 hc1 hd1 hZ1 Z1 d1
            obtain ⟨rfl, h⟩ := h
            refine r_aload_n g dX12_text_124 rfl ?_
            obtain ⟨hs_a0__, h⟩ := h
            refine r_getI g fX12_245 rfl hs_a0__ dX12_text_125 ?_
            exact hr.2.1 _ rfl _ _ _ _ _ _ dX12_text_128 rfl (Nat.le_refl 0) (Nat.le_refl 0) h
          · replace h := h.2 c14
            refine r_bipush g 60 dX12_text_49 (by decide) ?_
            refine r_istore_n g [(2, .int 60), (0, .ref a0), (1, .int x1)] dX12_text_51 (by decide) rfl ?_
            refine r_iconst g 0 dX12_text_52 (by decide) ?_
            refine r_istore_n g [(3, .int 0), (2, .int 60), (0, .ref a0), (1, .int x1)] dX12_text_53 (by decide) rfl ?_
            refine r_sub g (lv' := [(0, .ref a0), (2, .int 60), (3, .int 0)]) (⟨rfl, rfl, rfl, trivial⟩) ?_
            exact h
        · replace h := h.2 c13
          refine r_iconst g (-1) dX12_text_37 (by decide) ?_
          exact hr.2.1 _ rfl _ _ _ _ _ _ dX12_text_38 rfl (Nat.le_refl 0) (Nat.le_refl 0) h
      · replace h := h.2 c9
        refine r_aload_n g dX12_text_20 rfl ?_
        refine r_getI g fX12_258 rfl hs_a0 dX12_text_21 ?_
        refine r_iconst g 4 dX12_text_24 (by decide) ?_
        refine r_icmp_eq g 37 dX12_text_25 (by decide) (fun c17 => ?_) (fun c17 => ?_)
        · replace h := h.1 c17
          refine r_iconst g (-1) dX12_text_37 (by decide) ?_
          exact hr.2.1 _ rfl _ _ _ _ _ _ dX12_text_38 rfl (Nat.le_refl 0) (Nat.le_refl 0) h
        · replace h := h.2 c17
          refine r_aload_n g dX12_text_28 rfl ?_
          refine r_iload_n g dX12_text_29 rfl ?_
          obtain ⟨d1, Z1, hc1, hd1, h1⟩ := h
          refine r_callV (st := []) (As := [.int x1]) g sX12_261 iX12_fault eX12_fault rfl hs_a0 rfl (Nat.le_of_ble_eq_true rfl) dX12_text_30 hd1 (Nat.le_refl 0) (Nat.le_refl 0) hc1 (fun r18 μ19 hZ1 => ?_)
          replace h := h1 _ _ hZ1
          clear h1 hc1 hd1 hZ1 Z1 d1
          obtain ⟨y20, rfl, h⟩ := h
          refine r_iconst g (-1) dX12_text_33 (by decide) ?_
          refine r_icmp_eq g 39 dX12_text_34 (by decide) (fun c21 => ?_) (fun c21 => ?_)
          · replace h := h.1 c21
            refine r_aload_n g dX12_text_39 rfl ?_
            refine r_iconst g 0 dX12_text_40 (by decide) ?_
            obtain ⟨hs_a0___, h⟩ := h
            refine r_putI g fX12_109 rfl hs_a0___ rfl rfl dX12_text_41 ?_
            refine r_iload_n g dX12_text_44 rfl ?_
            refine r_iconst g 1 dX12_text_45 (by decide) ?_
            refine r_icmp_ne g 120 dX12_text_46 (by decide) (fun c22 => ?_) (fun c22 => ?_)
            · replace h := h.1 c22
              refine r_aload_n g dX12_text_120 rfl ?_
              obtain ⟨d1, Z1, hc1, hd1, h1⟩ := h
              refine r_callV (st := []) (As := []) g sX12_263 iX12_begins eX12_begins rfl hs_a0___ rfl (Nat.le_of_ble_eq_true rfl) dX12_text_121 hd1 (Nat.le_refl 0) (Nat.le_refl 0) hc1 (fun r23 μ24 hZ1 => ?_)
              replace h := h1 _ _ hZ1
              clear h1 hc1 hd1 hZ1 Z1 d1
              obtain ⟨rfl, h⟩ := h
              refine r_aload_n g dX12_text_124 rfl ?_
              obtain ⟨hs_a0____, h⟩ := h
              refine r_getI g fX12_245 rfl hs_a0____ dX12_text_125 ?_
              exact hr.2.1 _ rfl _ _ _ _ _ _ dX12_text_128 rfl (Nat.le_refl 0) (Nat.le_refl 0) h
            · replace h := h.2 c22
              refine r_bipush g 60 dX12_text_49 (by decide) ?_
              refine r_istore_n g [(2, .int 60), (0, .ref a0), (1, .int x1)] dX12_text_51 (by decide) rfl ?_
              refine r_iconst g 0 dX12_text_52 (by decide) ?_
              refine r_istore_n g [(3, .int 0), (2, .int 60), (0, .ref a0), (1, .int x1)] dX12_text_53 (by decide) rfl ?_
              refine r_sub g (lv' := [(0, .ref a0), (2, .int 60), (3, .int 0)]) (⟨rfl, rfl, rfl, trivial⟩) ?_
              exact h
          · replace h := h.2 c21
            refine r_iconst g (-1) dX12_text_37 (by decide) ?_
            exact hr.2.1 _ rfl _ _ _ _ _ _ dX12_text_38 rfl (Nat.le_refl 0) (Nat.le_refl 0) h
set_option maxHeartbeats 4000000 in
set_option maxRecDepth 100000 in
theorem B_X12_text_54 {d : Nat} {ro : Nat → Nat} {J : JT} {Z : Option Value → Hp → Prop} (g : xCtx RX12 cX12_text 4 d 0 0 yX12_text.name ro J) (hr : xRet cX12_text (some .int) 0 0 Z J) {μ : Hp} {a0 : Nat} {x2 : Int32} {x3 : Int32} {a0_stepsOf : Nat} {N_a0_stepsOf : Nat} {a0_script : Nat} {N_a0_script : Nat} (hs_a0 : hS μ a0 = some (15, 65)) (hr_a0_stepsOf : hR μ a0 29 = some a0_stepsOf) (hs_a0_stepsOf : hS μ a0_stepsOf = some (0, N_a0_stepsOf)) (hr_a0_script : hR μ a0 28 = some a0_script) (hs_a0_script : hS μ a0_script = some (0, N_a0_script))
    (h : ((x2 ≤ x3 → vp_in 4 N_a0_stepsOf ∧ vp_in (hI μ a0 27) N_a0_stepsOf ∧ (∀ v4 : Int32, v4 = (hI (wI μ a0_stepsOf ((hI μ a0 27).toNatClampNeg) (hI μ a0_stepsOf 4)) a0 27) → (∀ v5 : Int32, v5 = (hI (wI (wI μ a0_stepsOf ((hI μ a0 27).toNatClampNeg) (hI μ a0_stepsOf 4)) a0 27 (v4 + 1)) a0 27) → Z (some (.int (v5 - 1))) (wI (wI μ a0_stepsOf ((hI μ a0 27).toNatClampNeg) (hI μ a0_stepsOf 4)) a0 27 (v4 + 1))))) ∧ (¬ x2 ≤ x3 → vp_in ((x2 * 4) + x3) N_a0_script ∧ vp_in ((x2 * (hI μ a0 27)) + x3) N_a0_script ∧ J (wI μ a0_script (((x2 * (hI μ a0 27)) + x3).toNatClampNeg) (hI μ a0_script (((x2 * 4) + x3).toNatClampNeg))) 0 0 54 [(0, .ref a0), (2, .int x2), (3, .int (x3 + 1))] []))) :
    J μ 0 0 54 [(0, .ref a0), (2, .int x2), (3, .int x3)] [] := by
  refine r_iload_n g dX12_text_54 rfl ?_
  refine r_iload_n g dX12_text_55 rfl ?_
  refine r_icmp_ge g 88 dX12_text_56 (by decide) (fun c1 => ?_) (fun c1 => ?_)
  · replace h := h.1 c1
    refine r_aload_n g dX12_text_88 rfl ?_
    refine r_getR g fX12_54 rfl hs_a0 hr_a0_stepsOf dX12_text_89 ?_
    refine r_aload_n g dX12_text_92 rfl ?_
    refine r_getI g fX12_258 rfl hs_a0 dX12_text_93 ?_
    refine r_aload_n g dX12_text_96 rfl ?_
    refine r_getR g fX12_54 rfl hs_a0 hr_a0_stepsOf dX12_text_97 ?_
    refine r_iconst g 4 dX12_text_100 (by decide) ?_
    obtain ⟨hi2, h⟩ := h
    refine r_iaload g hs_a0_stepsOf hi2 dX12_text_101 ?_
    obtain ⟨hi3, h⟩ := h
    refine r_iastore g hs_a0_stepsOf hi3 dX12_text_102 ?_
    refine r_aload_n g dX12_text_103 rfl ?_
    refine r_dup g dX12_text_104 rfl ?_
    refine r_getI g fX12_258 rfl hs_a0 dX12_text_105 ?_
    refine r_nmI (fun v4 ev4 => ?_)
    replace h := h v4 ev4
    refine r_iconst g 1 dX12_text_108 (by decide) ?_
    refine r_iadd g dX12_text_109 ?_
    refine r_putI g fX12_258 rfl hs_a0 rfl rfl dX12_text_110 ?_
    refine r_aload_n g dX12_text_113 rfl ?_
    refine r_getI g fX12_258 rfl hs_a0 dX12_text_114 ?_
    refine r_nmI (fun v5 ev5 => ?_)
    replace h := h v5 ev5
    refine r_iconst g 1 dX12_text_117 (by decide) ?_
    refine r_isub g dX12_text_118 ?_
    exact hr.2.1 _ rfl _ _ _ _ _ _ dX12_text_119 rfl (Nat.le_refl 0) (Nat.le_refl 0) h
  · replace h := h.2 c1
    refine r_aload_n g dX12_text_59 rfl ?_
    refine r_getR g fX12_51 rfl hs_a0 hr_a0_script dX12_text_60 ?_
    refine r_iload_n g dX12_text_63 rfl ?_
    refine r_aload_n g dX12_text_64 rfl ?_
    refine r_getI g fX12_258 rfl hs_a0 dX12_text_65 ?_
    refine r_imul g dX12_text_68 ?_
    refine r_iload_n g dX12_text_69 rfl ?_
    refine r_iadd g dX12_text_70 ?_
    refine r_aload_n g dX12_text_71 rfl ?_
    refine r_getR g fX12_51 rfl hs_a0 hr_a0_script dX12_text_72 ?_
    refine r_iload_n g dX12_text_75 rfl ?_
    refine r_iconst g 4 dX12_text_76 (by decide) ?_
    refine r_imul g dX12_text_77 ?_
    refine r_iload_n g dX12_text_78 rfl ?_
    refine r_iadd g dX12_text_79 ?_
    obtain ⟨hi6, h⟩ := h
    refine r_iaload g hs_a0_script hi6 dX12_text_80 ?_
    obtain ⟨hi7, h⟩ := h
    refine r_iastore g hs_a0_script hi7 dX12_text_81 ?_
    refine r_iinc g (x3 + 1) [(3, .int (x3 + 1)), (0, .ref a0), (2, .int x2)] dX12_text_82 rfl rfl (by decide) rfl ?_
    refine r_goto g 54 dX12_text_85 (by decide) ?_
    refine r_sub g (lv' := [(0, .ref a0), (2, .int x2), (3, .int (x3 + 1))]) (⟨rfl, rfl, rfl, trivial⟩) ?_
    exact h
theorem I_X12_text {d : Nat} {ro : Nat → Nat} {Z : Option Value → Hp → Prop} {μ : Hp} {a0 : Nat} {x1 : Int32} (h : ∀ J, xCtx RX12 cX12_text 4 d 0 0 yX12_text.name ro J → xRet cX12_text (some .int) 0 0 Z J → J μ 0 0 0 [(0, .ref a0), (1, .int x1)] []) : xC d yX12_text cX12_text 4 (some .int) 0 0 [.ref a0, .int x1] μ ro Z :=
  xC_intro (own := RX12) (lv := [(0, .ref a0), (1, .int x1)]) (by decide) rfl (Nat.le_of_ble_eq_true rfl) rfl (fun J g hr => r_sub g (lv' := [(0, .ref a0), (1, .int x1)]) (⟨rfl, rfl, trivial⟩) (h J g hr))
theorem dX12_copyRow_0 : decode cX12_copyRow 0 = .ok (.iconst 0, 1) := by decide +kernel
theorem dX12_copyRow_1 : decode cX12_copyRow 1 = .ok (.istore 4, 2) := by decide +kernel
theorem dX12_copyRow_3 : decode cX12_copyRow 3 = .ok (.iload 4, 2) := by decide +kernel
theorem dX12_copyRow_5 : decode cX12_copyRow 5 = .ok (.sipush 293, 3) := by decide +kernel
theorem dX12_copyRow_8 : decode cX12_copyRow 8 = .ok (.if_icmp .ge 21, 3) := by decide +kernel
theorem dX12_copyRow_11 : decode cX12_copyRow 11 = .ok (.aload_n 2, 1) := by decide +kernel
theorem dX12_copyRow_12 : decode cX12_copyRow 12 = .ok (.iload_n 3, 1) := by decide +kernel
theorem dX12_copyRow_13 : decode cX12_copyRow 13 = .ok (.iload 4, 2) := by decide +kernel
theorem dX12_copyRow_15 : decode cX12_copyRow 15 = .ok (.iadd, 1) := by decide +kernel
theorem dX12_copyRow_16 : decode cX12_copyRow 16 = .ok (.aload_n 0, 1) := by decide +kernel
theorem dX12_copyRow_17 : decode cX12_copyRow 17 = .ok (.iload_n 1, 1) := by decide +kernel
theorem dX12_copyRow_18 : decode cX12_copyRow 18 = .ok (.iload 4, 2) := by decide +kernel
theorem dX12_copyRow_20 : decode cX12_copyRow 20 = .ok (.iadd, 1) := by decide +kernel
theorem dX12_copyRow_21 : decode cX12_copyRow 21 = .ok (.iaload, 1) := by decide +kernel
theorem dX12_copyRow_22 : decode cX12_copyRow 22 = .ok (.iastore, 1) := by decide +kernel
theorem dX12_copyRow_23 : decode cX12_copyRow 23 = .ok (.iinc 4 1, 3) := by decide +kernel
theorem dX12_copyRow_26 : decode cX12_copyRow 26 = .ok (.goto (-23), 3) := by decide +kernel
theorem dX12_copyRow_29 : decode cX12_copyRow 29 = .ok (.return_, 1) := by decide +kernel
set_option maxHeartbeats 4000000 in
set_option maxRecDepth 100000 in
theorem B_X12_copyRow_0 {d : Nat} {ro : Nat → Nat} {J : JT} {Z : Option Value → Hp → Prop} (g : xCtx RX12 cX12_copyRow 5 d 0 0 yX12_copyRow.name ro J) (hr : xRet cX12_copyRow none 0 0 Z J) {μ : Hp} {a0 : Nat} {x1 : Int32} {a2 : Nat} {x3 : Int32} 
    (h : J μ 0 0 3 [(0, .ref a0), (1, .int x1), (2, .ref a2), (3, .int x3), (4, .int 0)] []) :
    J μ 0 0 0 [(0, .ref a0), (1, .int x1), (2, .ref a2), (3, .int x3)] [] := by
  refine r_iconst g 0 dX12_copyRow_0 (by decide) ?_
  refine r_istore g [(4, .int 0), (0, .ref a0), (1, .int x1), (2, .ref a2), (3, .int x3)] dX12_copyRow_1 (by decide) rfl ?_
  refine r_sub g (lv' := [(0, .ref a0), (1, .int x1), (2, .ref a2), (3, .int x3), (4, .int 0)]) (⟨rfl, rfl, rfl, rfl, rfl, trivial⟩) ?_
  exact h
set_option maxHeartbeats 4000000 in
set_option maxRecDepth 100000 in
theorem B_X12_copyRow_3 {d : Nat} {ro : Nat → Nat} {J : JT} {Z : Option Value → Hp → Prop} (g : xCtx RX12 cX12_copyRow 5 d 0 0 yX12_copyRow.name ro J) (hr : xRet cX12_copyRow none 0 0 Z J) {μ : Hp} {a0 : Nat} {x1 : Int32} {a2 : Nat} {x3 : Int32} {x4 : Int32} {N_a0 : Nat} {N_a2 : Nat} (hs_a0 : hS μ a0 = some (0, N_a0)) (hs_a2 : hS μ a2 = some (0, N_a2))
    (h : ((293 ≤ x4 → Z none μ) ∧ (¬ 293 ≤ x4 → vp_in (x1 + x4) N_a0 ∧ vp_in (x3 + x4) N_a2 ∧ J (wI μ a2 ((x3 + x4).toNatClampNeg) (hI μ a0 ((x1 + x4).toNatClampNeg))) 0 0 3 [(0, .ref a0), (1, .int x1), (2, .ref a2), (3, .int x3), (4, .int (x4 + 1))] []))) :
    J μ 0 0 3 [(0, .ref a0), (1, .int x1), (2, .ref a2), (3, .int x3), (4, .int x4)] [] := by
  refine r_iload g dX12_copyRow_3 rfl ?_
  refine r_sipush g 293 dX12_copyRow_5 (by decide) ?_
  refine r_icmp_ge g 29 dX12_copyRow_8 (by decide) (fun c1 => ?_) (fun c1 => ?_)
  · replace h := h.1 c1
    exact hr.1 rfl _ _ _ _ _ dX12_copyRow_29 (Nat.le_refl 0) (Nat.le_refl 0) h
  · replace h := h.2 c1
    refine r_aload_n g dX12_copyRow_11 rfl ?_
    refine r_iload_n g dX12_copyRow_12 rfl ?_
    refine r_iload g dX12_copyRow_13 rfl ?_
    refine r_iadd g dX12_copyRow_15 ?_
    refine r_aload_n g dX12_copyRow_16 rfl ?_
    refine r_iload_n g dX12_copyRow_17 rfl ?_
    refine r_iload g dX12_copyRow_18 rfl ?_
    refine r_iadd g dX12_copyRow_20 ?_
    obtain ⟨hi2, h⟩ := h
    refine r_iaload g hs_a0 hi2 dX12_copyRow_21 ?_
    obtain ⟨hi3, h⟩ := h
    refine r_iastore g hs_a2 hi3 dX12_copyRow_22 ?_
    refine r_iinc g (x4 + 1) [(4, .int (x4 + 1)), (0, .ref a0), (1, .int x1), (2, .ref a2), (3, .int x3)] dX12_copyRow_23 rfl rfl (by decide) rfl ?_
    refine r_goto g 3 dX12_copyRow_26 (by decide) ?_
    refine r_sub g (lv' := [(0, .ref a0), (1, .int x1), (2, .ref a2), (3, .int x3), (4, .int (x4 + 1))]) (⟨rfl, rfl, rfl, rfl, rfl, trivial⟩) ?_
    exact h
theorem I_X12_copyRow {d : Nat} {ro : Nat → Nat} {Z : Option Value → Hp → Prop} {μ : Hp} {a0 : Nat} {x1 : Int32} {a2 : Nat} {x3 : Int32} (h : ∀ J, xCtx RX12 cX12_copyRow 5 d 0 0 yX12_copyRow.name ro J → xRet cX12_copyRow none 0 0 Z J → J μ 0 0 0 [(0, .ref a0), (1, .int x1), (2, .ref a2), (3, .int x3)] []) : xC d yX12_copyRow cX12_copyRow 5 none 0 0 [.ref a0, .int x1, .ref a2, .int x3] μ ro Z :=
  xC_intro (own := RX12) (lv := [(0, .ref a0), (1, .int x1), (2, .ref a2), (3, .int x3)]) (by decide) rfl (Nat.le_of_ble_eq_true rfl) rfl (fun J g hr => r_sub g (lv' := [(0, .ref a0), (1, .int x1), (2, .ref a2), (3, .int x3)]) (⟨rfl, rfl, rfl, rfl, trivial⟩) (h J g hr))
theorem dX12_treatyOf_0 : decode cX12_treatyOf 0 = .ok (.aload_n 0, 1) := by decide +kernel
theorem dX12_treatyOf_1 : decode cX12_treatyOf 1 = .ok (.iload_n 1, 1) := by decide +kernel
theorem dX12_treatyOf_2 : decode cX12_treatyOf 2 = .ok (.iload_n 2, 1) := by decide +kernel
theorem dX12_treatyOf_3 : decode cX12_treatyOf 3 = .ok (.invokevirtual 266, 3) := by decide +kernel
theorem dX12_treatyOf_6 : decode cX12_treatyOf 6 = .ok (.ifCond .eq 5, 3) := by decide +kernel
theorem dX12_treatyOf_9 : decode cX12_treatyOf 9 = .ok (.iconst (-1), 1) := by decide +kernel
theorem dX12_treatyOf_10 : decode cX12_treatyOf 10 = .ok (.ireturn, 1) := by decide +kernel
theorem dX12_treatyOf_11 : decode cX12_treatyOf 11 = .ok (.iconst (-1), 1) := by decide +kernel
theorem dX12_treatyOf_12 : decode cX12_treatyOf 12 = .ok (.istore 4, 2) := by decide +kernel
theorem dX12_treatyOf_14 : decode cX12_treatyOf 14 = .ok (.iconst 0, 1) := by decide +kernel
theorem dX12_treatyOf_15 : decode cX12_treatyOf 15 = .ok (.istore 5, 2) := by decide +kernel
theorem dX12_treatyOf_17 : decode cX12_treatyOf 17 = .ok (.iload 5, 2) := by decide +kernel
theorem dX12_treatyOf_19 : decode cX12_treatyOf 19 = .ok (.aload_n 0, 1) := by decide +kernel
theorem dX12_treatyOf_20 : decode cX12_treatyOf 20 = .ok (.getfield 248, 3) := by decide +kernel
theorem dX12_treatyOf_23 : decode cX12_treatyOf 23 = .ok (.if_icmp .ge 120, 3) := by decide +kernel
theorem dX12_treatyOf_26 : decode cX12_treatyOf 26 = .ok (.bipush 11, 2) := by decide +kernel
theorem dX12_treatyOf_28 : decode cX12_treatyOf 28 = .ok (.iload 5, 2) := by decide +kernel
theorem dX12_treatyOf_30 : decode cX12_treatyOf 30 = .ok (.imul, 1) := by decide +kernel
theorem dX12_treatyOf_31 : decode cX12_treatyOf 31 = .ok (.istore 6, 2) := by decide +kernel
theorem dX12_treatyOf_33 : decode cX12_treatyOf 33 = .ok (.aload_n 0, 1) := by decide +kernel
theorem dX12_treatyOf_34 : decode cX12_treatyOf 34 = .ok (.getfield 29, 3) := by decide +kernel
theorem dX12_treatyOf_37 : decode cX12_treatyOf 37 = .ok (.iload 6, 2) := by decide +kernel
theorem dX12_treatyOf_39 : decode cX12_treatyOf 39 = .ok (.iaload, 1) := by decide +kernel
theorem dX12_treatyOf_40 : decode cX12_treatyOf 40 = .ok (.iload_n 1, 1) := by decide +kernel
theorem dX12_treatyOf_41 : decode cX12_treatyOf 41 = .ok (.if_icmp .ne 16, 3) := by decide +kernel
theorem dX12_treatyOf_44 : decode cX12_treatyOf 44 = .ok (.aload_n 0, 1) := by decide +kernel
theorem dX12_treatyOf_45 : decode cX12_treatyOf 45 = .ok (.getfield 29, 3) := by decide +kernel
theorem dX12_treatyOf_48 : decode cX12_treatyOf 48 = .ok (.iload 6, 2) := by decide +kernel
theorem dX12_treatyOf_50 : decode cX12_treatyOf 50 = .ok (.iconst 1, 1) := by decide +kernel
theorem dX12_treatyOf_51 : decode cX12_treatyOf 51 = .ok (.iadd, 1) := by decide +kernel
theorem dX12_treatyOf_52 : decode cX12_treatyOf 52 = .ok (.iaload, 1) := by decide +kernel
theorem dX12_treatyOf_53 : decode cX12_treatyOf 53 = .ok (.iload_n 2, 1) := by decide +kernel
theorem dX12_treatyOf_54 : decode cX12_treatyOf 54 = .ok (.if_icmp .eq 27, 3) := by decide +kernel
theorem dX12_treatyOf_57 : decode cX12_treatyOf 57 = .ok (.aload_n 0, 1) := by decide +kernel
theorem dX12_treatyOf_58 : decode cX12_treatyOf 58 = .ok (.getfield 29, 3) := by decide +kernel
theorem dX12_treatyOf_61 : decode cX12_treatyOf 61 = .ok (.iload 6, 2) := by decide +kernel
theorem dX12_treatyOf_63 : decode cX12_treatyOf 63 = .ok (.iaload, 1) := by decide +kernel
theorem dX12_treatyOf_64 : decode cX12_treatyOf 64 = .ok (.iload_n 2, 1) := by decide +kernel
theorem dX12_treatyOf_65 : decode cX12_treatyOf 65 = .ok (.if_icmp .ne 20, 3) := by decide +kernel
theorem dX12_treatyOf_68 : decode cX12_treatyOf 68 = .ok (.aload_n 0, 1) := by decide +kernel
theorem dX12_treatyOf_69 : decode cX12_treatyOf 69 = .ok (.getfield 29, 3) := by decide +kernel
theorem dX12_treatyOf_72 : decode cX12_treatyOf 72 = .ok (.iload 6, 2) := by decide +kernel
theorem dX12_treatyOf_74 : decode cX12_treatyOf 74 = .ok (.iconst 1, 1) := by decide +kernel
theorem dX12_treatyOf_75 : decode cX12_treatyOf 75 = .ok (.iadd, 1) := by decide +kernel
theorem dX12_treatyOf_76 : decode cX12_treatyOf 76 = .ok (.iaload, 1) := by decide +kernel
theorem dX12_treatyOf_77 : decode cX12_treatyOf 77 = .ok (.iload_n 1, 1) := by decide +kernel
theorem dX12_treatyOf_78 : decode cX12_treatyOf 78 = .ok (.if_icmp .ne 7, 3) := by decide +kernel
theorem dX12_treatyOf_81 : decode cX12_treatyOf 81 = .ok (.iconst 1, 1) := by decide +kernel
theorem dX12_treatyOf_82 : decode cX12_treatyOf 82 = .ok (.goto 4, 3) := by decide +kernel
theorem dX12_treatyOf_85 : decode cX12_treatyOf 85 = .ok (.iconst 0, 1) := by decide +kernel
theorem dX12_treatyOf_86 : decode cX12_treatyOf 86 = .ok (.istore 7, 2) := by decide +kernel
theorem dX12_treatyOf_88 : decode cX12_treatyOf 88 = .ok (.iload 7, 2) := by decide +kernel
theorem dX12_treatyOf_90 : decode cX12_treatyOf 90 = .ok (.ifCond .eq 47, 3) := by decide +kernel
theorem dX12_treatyOf_93 : decode cX12_treatyOf 93 = .ok (.aload_n 0, 1) := by decide +kernel
theorem dX12_treatyOf_94 : decode cX12_treatyOf 94 = .ok (.getfield 29, 3) := by decide +kernel
theorem dX12_treatyOf_97 : decode cX12_treatyOf 97 = .ok (.iload 6, 2) := by decide +kernel
theorem dX12_treatyOf_99 : decode cX12_treatyOf 99 = .ok (.iconst 2, 1) := by decide +kernel
theorem dX12_treatyOf_100 : decode cX12_treatyOf 100 = .ok (.iadd, 1) := by decide +kernel
theorem dX12_treatyOf_101 : decode cX12_treatyOf 101 = .ok (.iaload, 1) := by decide +kernel
theorem dX12_treatyOf_102 : decode cX12_treatyOf 102 = .ok (.iload_n 3, 1) := by decide +kernel
theorem dX12_treatyOf_103 : decode cX12_treatyOf 103 = .ok (.if_icmp .gt 34, 3) := by decide +kernel
theorem dX12_treatyOf_106 : decode cX12_treatyOf 106 = .ok (.iload 4, 2) := by decide +kernel
theorem dX12_treatyOf_108 : decode cX12_treatyOf 108 = .ok (.iconst (-1), 1) := by decide +kernel
theorem dX12_treatyOf_109 : decode cX12_treatyOf 109 = .ok (.if_icmp .eq 24, 3) := by decide +kernel
theorem dX12_treatyOf_112 : decode cX12_treatyOf 112 = .ok (.aload_n 0, 1) := by decide +kernel
theorem dX12_treatyOf_113 : decode cX12_treatyOf 113 = .ok (.getfield 29, 3) := by decide +kernel
theorem dX12_treatyOf_116 : decode cX12_treatyOf 116 = .ok (.iload 6, 2) := by decide +kernel
theorem dX12_treatyOf_118 : decode cX12_treatyOf 118 = .ok (.iconst 2, 1) := by decide +kernel
theorem dX12_treatyOf_119 : decode cX12_treatyOf 119 = .ok (.iadd, 1) := by decide +kernel
theorem dX12_treatyOf_120 : decode cX12_treatyOf 120 = .ok (.iaload, 1) := by decide +kernel
theorem dX12_treatyOf_121 : decode cX12_treatyOf 121 = .ok (.aload_n 0, 1) := by decide +kernel
theorem dX12_treatyOf_122 : decode cX12_treatyOf 122 = .ok (.getfield 29, 3) := by decide +kernel
theorem dX12_treatyOf_125 : decode cX12_treatyOf 125 = .ok (.iload 4, 2) := by decide +kernel
theorem dX12_treatyOf_127 : decode cX12_treatyOf 127 = .ok (.iconst 2, 1) := by decide +kernel
theorem dX12_treatyOf_128 : decode cX12_treatyOf 128 = .ok (.iadd, 1) := by decide +kernel
theorem dX12_treatyOf_129 : decode cX12_treatyOf 129 = .ok (.iaload, 1) := by decide +kernel
theorem dX12_treatyOf_130 : decode cX12_treatyOf 130 = .ok (.if_icmp .lt 7, 3) := by decide +kernel
theorem dX12_treatyOf_133 : decode cX12_treatyOf 133 = .ok (.iload 6, 2) := by decide +kernel
theorem dX12_treatyOf_135 : decode cX12_treatyOf 135 = .ok (.istore 4, 2) := by decide +kernel
theorem dX12_treatyOf_137 : decode cX12_treatyOf 137 = .ok (.iinc 5 1, 3) := by decide +kernel
theorem dX12_treatyOf_140 : decode cX12_treatyOf 140 = .ok (.goto (-123), 3) := by decide +kernel
theorem dX12_treatyOf_143 : decode cX12_treatyOf 143 = .ok (.iload 4, 2) := by decide +kernel
theorem dX12_treatyOf_145 : decode cX12_treatyOf 145 = .ok (.iconst (-1), 1) := by decide +kernel
theorem dX12_treatyOf_146 : decode cX12_treatyOf 146 = .ok (.if_icmp .eq 21, 3) := by decide +kernel
theorem dX12_treatyOf_149 : decode cX12_treatyOf 149 = .ok (.aload_n 0, 1) := by decide +kernel
theorem dX12_treatyOf_150 : decode cX12_treatyOf 150 = .ok (.getfield 29, 3) := by decide +kernel
theorem dX12_treatyOf_153 : decode cX12_treatyOf 153 = .ok (.iload 4, 2) := by decide +kernel
theorem dX12_treatyOf_155 : decode cX12_treatyOf 155 = .ok (.bipush 10, 2) := by decide +kernel
theorem dX12_treatyOf_157 : decode cX12_treatyOf 157 = .ok (.iadd, 1) := by decide +kernel
theorem dX12_treatyOf_158 : decode cX12_treatyOf 158 = .ok (.iaload, 1) := by decide +kernel
theorem dX12_treatyOf_159 : decode cX12_treatyOf 159 = .ok (.iconst 1, 1) := by decide +kernel
theorem dX12_treatyOf_160 : decode cX12_treatyOf 160 = .ok (.if_icmp .ne 7, 3) := by decide +kernel
theorem dX12_treatyOf_163 : decode cX12_treatyOf 163 = .ok (.iconst (-1), 1) := by decide +kernel
theorem dX12_treatyOf_164 : decode cX12_treatyOf 164 = .ok (.goto 5, 3) := by decide +kernel
theorem dX12_treatyOf_167 : decode cX12_treatyOf 167 = .ok (.iload 4, 2) := by decide +kernel
theorem dX12_treatyOf_169 : decode cX12_treatyOf 169 = .ok (.ireturn, 1) := by decide +kernel
set_option maxHeartbeats 4000000 in
set_option maxRecDepth 100000 in
theorem B_X12_treatyOf_0 {d : Nat} {ro : Nat → Nat} {J : JT} {Z : Option Value → Hp → Prop} (g : xCtx RX12 cX12_treatyOf 8 d 0 0 yX12_treatyOf.name ro J) (hr : xRet cX12_treatyOf (some .int) 0 0 Z J) {μ : Hp} {a0 : Nat} {x1 : Int32} {x2 : Int32} {x3 : Int32} (hs_a0 : hS μ a0 = some (15, 65)) (hd9 : 1 ≤ d)
    (h : ((¬ x1 = (hI μ a0 38) → ((¬ x1 = (hI μ a0 39) → J μ 0 0 17 [(0, .ref a0), (1, .int x1), (2, .int x2), (3, .int x3), (4, .int (-1)), (5, .int 0)] []) ∧ (x1 = (hI μ a0 39) → ((¬ x2 = (hI μ a0 38) → J μ 0 0 17 [(0, .ref a0), (1, .int x1), (2, .int x2), (3, .int x3), (4, .int (-1)), (5, .int 0)] []) ∧ (x2 = (hI μ a0 38) → Z (some (.int (-1))) μ))))) ∧ (x1 = (hI μ a0 38) → ((x2 = (hI μ a0 39) → Z (some (.int (-1))) μ) ∧ (¬ x2 = (hI μ a0 39) → ((¬ x1 = (hI μ a0 39) → J μ 0 0 17 [(0, .ref a0), (1, .int x1), (2, .int x2), (3, .int x3), (4, .int (-1)), (5, .int 0)] []) ∧ (x1 = (hI μ a0 39) → ((¬ x2 = (hI μ a0 38) → J μ 0 0 17 [(0, .ref a0), (1, .int x1), (2, .int x2), (3, .int x3), (4, .int (-1)), (5, .int 0)] []) ∧ (x2 = (hI μ a0 38) → Z (some (.int (-1))) μ))))))))) :
    J μ 0 0 0 [(0, .ref a0), (1, .int x1), (2, .int x2), (3, .int x3)] [] := by
  refine r_aload_n g dX12_treatyOf_0 rfl ?_
  refine r_iload_n g dX12_treatyOf_1 rfl ?_
  refine r_iload_n g dX12_treatyOf_2 rfl ?_
  by_cases c1 : x1 = (hI μ a0 38)
  · replace h := h.2 c1
    by_cases c10 : x2 = (hI μ a0 39)
    · replace h := h.1 c10
      refine r_callV (st := []) (As := [.int x1, .int x2]) g sX12_266 iX12_areLapsed eX12_areLapsed rfl hs_a0 rfl (Nat.le_of_ble_eq_true rfl) dX12_treatyOf_3 (by omega) (Nat.le_refl 0) (Nat.le_refl 0) (P_X12_areLapsed_3 (d := d - 1) hs_a0 c1 c10) (fun r11 μ12 hZ1 => ?_)
      obtain ⟨rfl, e9⟩ := hZ1
      replace e9 := e9.symm
      subst e9
      refine r_if_eq g 11 dX12_treatyOf_6 (by decide) (fun hz => absurd hz (by decide)) (fun _ => ?_)
      refine r_iconst g (-1) dX12_treatyOf_9 (by decide) ?_
      exact hr.2.1 _ rfl _ _ _ _ _ _ dX12_treatyOf_10 rfl (Nat.le_refl 0) (Nat.le_refl 0) h
    · replace h := h.2 c10
      by_cases c13 : x1 = (hI μ a0 39)
      · replace h := h.2 c13
        by_cases c16 : x2 = (hI μ a0 38)
        · replace h := h.2 c16
          refine r_callV (st := []) (As := [.int x1, .int x2]) g sX12_266 iX12_areLapsed eX12_areLapsed rfl hs_a0 rfl (Nat.le_of_ble_eq_true rfl) dX12_treatyOf_3 (by omega) (Nat.le_refl 0) (Nat.le_refl 0) (P_X12_areLapsed_6 (d := d - 1) hs_a0 c1 c10 c13 c16) (fun r19 μ20 hZ1 => ?_)
          obtain ⟨rfl, e9⟩ := hZ1
          replace e9 := e9.symm
          subst e9
          refine r_if_eq g 11 dX12_treatyOf_6 (by decide) (fun hz => absurd hz (by decide)) (fun _ => ?_)
          refine r_iconst g (-1) dX12_treatyOf_9 (by decide) ?_
          exact hr.2.1 _ rfl _ _ _ _ _ _ dX12_treatyOf_10 rfl (Nat.le_refl 0) (Nat.le_refl 0) h
        · replace h := h.1 c16
          refine r_callV (st := []) (As := [.int x1, .int x2]) g sX12_266 iX12_areLapsed eX12_areLapsed rfl hs_a0 rfl (Nat.le_of_ble_eq_true rfl) dX12_treatyOf_3 (by omega) (Nat.le_refl 0) (Nat.le_refl 0) (P_X12_areLapsed_5 (d := d - 1) hs_a0 c1 c10 c13 c16) (fun r17 μ18 hZ1 => ?_)
          obtain ⟨rfl, e9⟩ := hZ1
          replace e9 := e9.symm
          subst e9
          refine r_if_eq g 11 dX12_treatyOf_6 (by decide) (fun _ => ?_) (fun hz => absurd hz (by decide))
          refine r_iconst g (-1) dX12_treatyOf_11 (by decide) ?_
          refine r_istore g [(4, .int (-1)), (0, .ref a0), (1, .int x1), (2, .int x2), (3, .int x3)] dX12_treatyOf_12 (by decide) rfl ?_
          refine r_iconst g 0 dX12_treatyOf_14 (by decide) ?_
          refine r_istore g [(5, .int 0), (4, .int (-1)), (0, .ref a0), (1, .int x1), (2, .int x2), (3, .int x3)] dX12_treatyOf_15 (by decide) rfl ?_
          refine r_sub g (lv' := [(0, .ref a0), (1, .int x1), (2, .int x2), (3, .int x3), (4, .int (-1)), (5, .int 0)]) (⟨rfl, rfl, rfl, rfl, rfl, rfl, trivial⟩) ?_
          exact h
      · replace h := h.1 c13
        refine r_callV (st := []) (As := [.int x1, .int x2]) g sX12_266 iX12_areLapsed eX12_areLapsed rfl hs_a0 rfl (Nat.le_of_ble_eq_true rfl) dX12_treatyOf_3 (by omega) (Nat.le_refl 0) (Nat.le_refl 0) (P_X12_areLapsed_4 (d := d - 1) hs_a0 c1 c10 c13) (fun r14 μ15 hZ1 => ?_)
        obtain ⟨rfl, e9⟩ := hZ1
        replace e9 := e9.symm
        subst e9
        refine r_if_eq g 11 dX12_treatyOf_6 (by decide) (fun _ => ?_) (fun hz => absurd hz (by decide))
        refine r_iconst g (-1) dX12_treatyOf_11 (by decide) ?_
        refine r_istore g [(4, .int (-1)), (0, .ref a0), (1, .int x1), (2, .int x2), (3, .int x3)] dX12_treatyOf_12 (by decide) rfl ?_
        refine r_iconst g 0 dX12_treatyOf_14 (by decide) ?_
        refine r_istore g [(5, .int 0), (4, .int (-1)), (0, .ref a0), (1, .int x1), (2, .int x2), (3, .int x3)] dX12_treatyOf_15 (by decide) rfl ?_
        refine r_sub g (lv' := [(0, .ref a0), (1, .int x1), (2, .int x2), (3, .int x3), (4, .int (-1)), (5, .int 0)]) (⟨rfl, rfl, rfl, rfl, rfl, rfl, trivial⟩) ?_
        exact h
  · replace h := h.1 c1
    by_cases c2 : x1 = (hI μ a0 39)
    · replace h := h.2 c2
      by_cases c5 : x2 = (hI μ a0 38)
      · replace h := h.2 c5
        refine r_callV (st := []) (As := [.int x1, .int x2]) g sX12_266 iX12_areLapsed eX12_areLapsed rfl hs_a0 rfl (Nat.le_of_ble_eq_true rfl) dX12_treatyOf_3 (by omega) (Nat.le_refl 0) (Nat.le_refl 0) (P_X12_areLapsed_2 (d := d - 1) hs_a0 c1 c2 c5) (fun r8 μ9 hZ1 => ?_)
        obtain ⟨rfl, e9⟩ := hZ1
        replace e9 := e9.symm
        subst e9
        refine r_if_eq g 11 dX12_treatyOf_6 (by decide) (fun hz => absurd hz (by decide)) (fun _ => ?_)
        refine r_iconst g (-1) dX12_treatyOf_9 (by decide) ?_
        exact hr.2.1 _ rfl _ _ _ _ _ _ dX12_treatyOf_10 rfl (Nat.le_refl 0) (Nat.le_refl 0) h
      · replace h := h.1 c5
        refine r_callV (st := []) (As := [.int x1, .int x2]) g sX12_266 iX12_areLapsed eX12_areLapsed rfl hs_a0 rfl (Nat.le_of_ble_eq_true rfl) dX12_treatyOf_3 (by omega) (Nat.le_refl 0) (Nat.le_refl 0) (P_X12_areLapsed_1 (d := d - 1) hs_a0 c1 c2 c5) (fun r6 μ7 hZ1 => ?_)
        obtain ⟨rfl, e9⟩ := hZ1
        replace e9 := e9.symm
        subst e9
        refine r_if_eq g 11 dX12_treatyOf_6 (by decide) (fun _ => ?_) (fun hz => absurd hz (by decide))
        refine r_iconst g (-1) dX12_treatyOf_11 (by decide) ?_
        refine r_istore g [(4, .int (-1)), (0, .ref a0), (1, .int x1), (2, .int x2), (3, .int x3)] dX12_treatyOf_12 (by decide) rfl ?_
        refine r_iconst g 0 dX12_treatyOf_14 (by decide) ?_
        refine r_istore g [(5, .int 0), (4, .int (-1)), (0, .ref a0), (1, .int x1), (2, .int x2), (3, .int x3)] dX12_treatyOf_15 (by decide) rfl ?_
        refine r_sub g (lv' := [(0, .ref a0), (1, .int x1), (2, .int x2), (3, .int x3), (4, .int (-1)), (5, .int 0)]) (⟨rfl, rfl, rfl, rfl, rfl, rfl, trivial⟩) ?_
        exact h
    · replace h := h.1 c2
      refine r_callV (st := []) (As := [.int x1, .int x2]) g sX12_266 iX12_areLapsed eX12_areLapsed rfl hs_a0 rfl (Nat.le_of_ble_eq_true rfl) dX12_treatyOf_3 (by omega) (Nat.le_refl 0) (Nat.le_refl 0) (P_X12_areLapsed_0 (d := d - 1) hs_a0 c1 c2) (fun r3 μ4 hZ1 => ?_)
      obtain ⟨rfl, e9⟩ := hZ1
      replace e9 := e9.symm
      subst e9
      refine r_if_eq g 11 dX12_treatyOf_6 (by decide) (fun _ => ?_) (fun hz => absurd hz (by decide))
      refine r_iconst g (-1) dX12_treatyOf_11 (by decide) ?_
      refine r_istore g [(4, .int (-1)), (0, .ref a0), (1, .int x1), (2, .int x2), (3, .int x3)] dX12_treatyOf_12 (by decide) rfl ?_
      refine r_iconst g 0 dX12_treatyOf_14 (by decide) ?_
      refine r_istore g [(5, .int 0), (4, .int (-1)), (0, .ref a0), (1, .int x1), (2, .int x2), (3, .int x3)] dX12_treatyOf_15 (by decide) rfl ?_
      refine r_sub g (lv' := [(0, .ref a0), (1, .int x1), (2, .int x2), (3, .int x3), (4, .int (-1)), (5, .int 0)]) (⟨rfl, rfl, rfl, rfl, rfl, rfl, trivial⟩) ?_
      exact h
set_option maxHeartbeats 4000000 in
set_option maxRecDepth 100000 in
theorem B_X12_treatyOf_17 {d : Nat} {ro : Nat → Nat} {J : JT} {Z : Option Value → Hp → Prop} (g : xCtx RX12 cX12_treatyOf 8 d 0 0 yX12_treatyOf.name ro J) (hr : xRet cX12_treatyOf (some .int) 0 0 Z J) {μ : Hp} {a0 : Nat} {x1 : Int32} {x2 : Int32} {x3 : Int32} {x4 : Int32} {x5 : Int32} {a0_treaty : Nat} {N_a0_treaty : Nat} (hs_a0 : hS μ a0 = some (15, 65)) (hr_a0_treaty : hR μ a0 12 = some a0_treaty) (hs_a0_treaty : hS μ a0_treaty = some (0, N_a0_treaty))
    (h : (((hI μ a0 24) ≤ x5 → ((x4 = (-1) → Z (some (.int x4)) μ) ∧ (¬ x4 = (-1) → vp_in (x4 + 10) N_a0_treaty ∧ ((¬ (hI μ a0_treaty ((x4 + 10).toNatClampNeg)) = 1 → Z (some (.int x4)) μ) ∧ ((hI μ a0_treaty ((x4 + 10).toNatClampNeg)) = 1 → Z (some (.int (-1))) μ))))) ∧ (¬ (hI μ a0 24) ≤ x5 → vp_in (11 * x5) N_a0_treaty ∧ ((¬ (hI μ a0_treaty ((11 * x5).toNatClampNeg)) = x1 → J μ 0 0 57 [(0, .ref a0), (1, .int x1), (2, .int x2), (3, .int x3), (4, .int x4), (5, .int x5), (6, .int (11 * x5))] []) ∧ ((hI μ a0_treaty ((11 * x5).toNatClampNeg)) = x1 → vp_in ((11 * x5) + 1) N_a0_treaty ∧ (((hI μ a0_treaty (((11 * x5) + 1).toNatClampNeg)) = x2 → J μ 0 0 81 [(0, .ref a0), (1, .int x1), (2, .int x2), (3, .int x3), (4, .int x4), (5, .int x5), (6, .int (11 * x5))] []) ∧ (¬ (hI μ a0_treaty (((11 * x5) + 1).toNatClampNeg)) = x2 → J μ 0 0 57 [(0, .ref a0), (1, .int x1), (2, .int x2), (3, .int x3), (4, .int x4), (5, .int x5), (6, .int (11 * x5))] []))))))) :
    J μ 0 0 17 [(0, .ref a0), (1, .int x1), (2, .int x2), (3, .int x3), (4, .int x4), (5, .int x5)] [] := by
  refine r_iload g dX12_treatyOf_17 rfl ?_
  refine r_aload_n g dX12_treatyOf_19 rfl ?_
  refine r_getI g fX12_248 rfl hs_a0 dX12_treatyOf_20 ?_
  refine r_icmp_ge g 143 dX12_treatyOf_23 (by decide) (fun c1 => ?_) (fun c1 => ?_)
  · replace h := h.1 c1
    refine r_iload g dX12_treatyOf_143 rfl ?_
    refine r_iconst g (-1) dX12_treatyOf_145 (by decide) ?_
    refine r_icmp_eq g 167 dX12_treatyOf_146 (by decide) (fun c2 => ?_) (fun c2 => ?_)
    · replace h := h.1 c2
      refine r_iload g dX12_treatyOf_167 rfl ?_
      exact hr.2.1 _ rfl _ _ _ _ _ _ dX12_treatyOf_169 rfl (Nat.le_refl 0) (Nat.le_refl 0) h
    · replace h := h.2 c2
      refine r_aload_n g dX12_treatyOf_149 rfl ?_
      refine r_getR g fX12_29 rfl hs_a0 hr_a0_treaty dX12_treatyOf_150 ?_
      refine r_iload g dX12_treatyOf_153 rfl ?_
      refine r_bipush g 10 dX12_treatyOf_155 (by decide) ?_
      refine r_iadd g dX12_treatyOf_157 ?_
      obtain ⟨hi3, h⟩ := h
      refine r_iaload g hs_a0_treaty hi3 dX12_treatyOf_158 ?_
      refine r_iconst g 1 dX12_treatyOf_159 (by decide) ?_
      refine r_icmp_ne g 167 dX12_treatyOf_160 (by decide) (fun c4 => ?_) (fun c4 => ?_)
      · replace h := h.1 c4
        refine r_iload g dX12_treatyOf_167 rfl ?_
        exact hr.2.1 _ rfl _ _ _ _ _ _ dX12_treatyOf_169 rfl (Nat.le_refl 0) (Nat.le_refl 0) h
      · replace h := h.2 c4
        refine r_iconst g (-1) dX12_treatyOf_163 (by decide) ?_
        refine r_goto g 169 dX12_treatyOf_164 (by decide) ?_
        exact hr.2.1 _ rfl _ _ _ _ _ _ dX12_treatyOf_169 rfl (Nat.le_refl 0) (Nat.le_refl 0) h
  · replace h := h.2 c1
    refine r_bipush g 11 dX12_treatyOf_26 (by decide) ?_
    refine r_iload g dX12_treatyOf_28 rfl ?_
    refine r_imul g dX12_treatyOf_30 ?_
    refine r_istore g [(6, .int (11 * x5)), (0, .ref a0), (1, .int x1), (2, .int x2), (3, .int x3), (4, .int x4), (5, .int x5)] dX12_treatyOf_31 (by decide) rfl ?_
    refine r_aload_n g dX12_treatyOf_33 rfl ?_
    refine r_getR g fX12_29 rfl hs_a0 hr_a0_treaty dX12_treatyOf_34 ?_
    refine r_iload g dX12_treatyOf_37 rfl ?_
    obtain ⟨hi5, h⟩ := h
    refine r_iaload g hs_a0_treaty hi5 dX12_treatyOf_39 ?_
    refine r_iload_n g dX12_treatyOf_40 rfl ?_
    refine r_icmp_ne g 57 dX12_treatyOf_41 (by decide) (fun c6 => ?_) (fun c6 => ?_)
    · replace h := h.1 c6
      refine r_sub g (lv' := [(0, .ref a0), (1, .int x1), (2, .int x2), (3, .int x3), (4, .int x4), (5, .int x5), (6, .int (11 * x5))]) (⟨rfl, rfl, rfl, rfl, rfl, rfl, rfl, trivial⟩) ?_
      exact h
    · replace h := h.2 c6
      refine r_aload_n g dX12_treatyOf_44 rfl ?_
      refine r_getR g fX12_29 rfl hs_a0 hr_a0_treaty dX12_treatyOf_45 ?_
      refine r_iload g dX12_treatyOf_48 rfl ?_
      refine r_iconst g 1 dX12_treatyOf_50 (by decide) ?_
      refine r_iadd g dX12_treatyOf_51 ?_
      obtain ⟨hi7, h⟩ := h
      refine r_iaload g hs_a0_treaty hi7 dX12_treatyOf_52 ?_
      refine r_iload_n g dX12_treatyOf_53 rfl ?_
      refine r_icmp_eq g 81 dX12_treatyOf_54 (by decide) (fun c8 => ?_) (fun c8 => ?_)
      · replace h := h.1 c8
        refine r_sub g (lv' := [(0, .ref a0), (1, .int x1), (2, .int x2), (3, .int x3), (4, .int x4), (5, .int x5), (6, .int (11 * x5))]) (⟨rfl, rfl, rfl, rfl, rfl, rfl, rfl, trivial⟩) ?_
        exact h
      · replace h := h.2 c8
        refine r_sub g (lv' := [(0, .ref a0), (1, .int x1), (2, .int x2), (3, .int x3), (4, .int x4), (5, .int x5), (6, .int (11 * x5))]) (⟨rfl, rfl, rfl, rfl, rfl, rfl, rfl, trivial⟩) ?_
        exact h
set_option maxHeartbeats 4000000 in
set_option maxRecDepth 100000 in
theorem B_X12_treatyOf_57 {d : Nat} {ro : Nat → Nat} {J : JT} {Z : Option Value → Hp → Prop} (g : xCtx RX12 cX12_treatyOf 8 d 0 0 yX12_treatyOf.name ro J) (hr : xRet cX12_treatyOf (some .int) 0 0 Z J) {μ : Hp} {a0 : Nat} {x1 : Int32} {x2 : Int32} {x3 : Int32} {x4 : Int32} {x5 : Int32} {x6 : Int32} {a0_treaty : Nat} {N_a0_treaty : Nat} (hs_a0 : hS μ a0 = some (15, 65)) (hr_a0_treaty : hR μ a0 12 = some a0_treaty) (hs_a0_treaty : hS μ a0_treaty = some (0, N_a0_treaty))
    (h : vp_in x6 N_a0_treaty ∧ ((¬ (hI μ a0_treaty x6.toNatClampNeg) = x2 → J μ 0 0 85 [(0, .ref a0), (1, .int x1), (2, .int x2), (3, .int x3), (4, .int x4), (5, .int x5), (6, .int x6)] []) ∧ ((hI μ a0_treaty x6.toNatClampNeg) = x2 → vp_in (x6 + 1) N_a0_treaty ∧ ((¬ (hI μ a0_treaty ((x6 + 1).toNatClampNeg)) = x1 → J μ 0 0 85 [(0, .ref a0), (1, .int x1), (2, .int x2), (3, .int x3), (4, .int x4), (5, .int x5), (6, .int x6)] []) ∧ ((hI μ a0_treaty ((x6 + 1).toNatClampNeg)) = x1 → J μ 0 0 81 [(0, .ref a0), (1, .int x1), (2, .int x2), (3, .int x3), (4, .int x4), (5, .int x5), (6, .int x6)] []))))) :
    J μ 0 0 57 [(0, .ref a0), (1, .int x1), (2, .int x2), (3, .int x3), (4, .int x4), (5, .int x5), (6, .int x6)] [] := by
  refine r_aload_n g dX12_treatyOf_57 rfl ?_
  refine r_getR g fX12_29 rfl hs_a0 hr_a0_treaty dX12_treatyOf_58 ?_
  refine r_iload g dX12_treatyOf_61 rfl ?_
  obtain ⟨hi1, h⟩ := h
  refine r_iaload g hs_a0_treaty hi1 dX12_treatyOf_63 ?_
  refine r_iload_n g dX12_treatyOf_64 rfl ?_
  refine r_icmp_ne g 85 dX12_treatyOf_65 (by decide) (fun c2 => ?_) (fun c2 => ?_)
  · replace h := h.1 c2
    refine r_sub g (lv' := [(0, .ref a0), (1, .int x1), (2, .int x2), (3, .int x3), (4, .int x4), (5, .int x5), (6, .int x6)]) (⟨rfl, rfl, rfl, rfl, rfl, rfl, rfl, trivial⟩) ?_
    exact h
  · replace h := h.2 c2
    refine r_aload_n g dX12_treatyOf_68 rfl ?_
    refine r_getR g fX12_29 rfl hs_a0 hr_a0_treaty dX12_treatyOf_69 ?_
    refine r_iload g dX12_treatyOf_72 rfl ?_
    refine r_iconst g 1 dX12_treatyOf_74 (by decide) ?_
    refine r_iadd g dX12_treatyOf_75 ?_
    obtain ⟨hi3, h⟩ := h
    refine r_iaload g hs_a0_treaty hi3 dX12_treatyOf_76 ?_
    refine r_iload_n g dX12_treatyOf_77 rfl ?_
    refine r_icmp_ne g 85 dX12_treatyOf_78 (by decide) (fun c4 => ?_) (fun c4 => ?_)
    · replace h := h.1 c4
      refine r_sub g (lv' := [(0, .ref a0), (1, .int x1), (2, .int x2), (3, .int x3), (4, .int x4), (5, .int x5), (6, .int x6)]) (⟨rfl, rfl, rfl, rfl, rfl, rfl, rfl, trivial⟩) ?_
      exact h
    · replace h := h.2 c4
      refine r_sub g (lv' := [(0, .ref a0), (1, .int x1), (2, .int x2), (3, .int x3), (4, .int x4), (5, .int x5), (6, .int x6)]) (⟨rfl, rfl, rfl, rfl, rfl, rfl, rfl, trivial⟩) ?_
      exact h
set_option maxHeartbeats 4000000 in
set_option maxRecDepth 100000 in
theorem B_X12_treatyOf_81 {d : Nat} {ro : Nat → Nat} {J : JT} {Z : Option Value → Hp → Prop} (g : xCtx RX12 cX12_treatyOf 8 d 0 0 yX12_treatyOf.name ro J) (hr : xRet cX12_treatyOf (some .int) 0 0 Z J) {μ : Hp} {a0 : Nat} {x1 : Int32} {x2 : Int32} {x3 : Int32} {x4 : Int32} {x5 : Int32} {x6 : Int32} {a0_treaty : Nat} {N_a0_treaty : Nat} (hs_a0 : hS μ a0 = some (15, 65)) (hr_a0_treaty : hR μ a0 12 = some a0_treaty) (hs_a0_treaty : hS μ a0_treaty = some (0, N_a0_treaty))
    (h : vp_in (x6 + 2) N_a0_treaty ∧ ((x3 < (hI μ a0_treaty ((x6 + 2).toNatClampNeg)) → J μ 0 0 17 [(0, .ref a0), (1, .int x1), (2, .int x2), (3, .int x3), (4, .int x4), (5, .int (x5 + 1))] []) ∧ (¬ x3 < (hI μ a0_treaty ((x6 + 2).toNatClampNeg)) → ((x4 = (-1) → J μ 0 0 17 [(0, .ref a0), (1, .int x1), (2, .int x2), (3, .int x3), (4, .int x6), (5, .int (x5 + 1))] []) ∧ (¬ x4 = (-1) → vp_in (x4 + 2) N_a0_treaty ∧ (((hI μ a0_treaty ((x6 + 2).toNatClampNeg)) < (hI μ a0_treaty ((x4 + 2).toNatClampNeg)) → J μ 0 0 17 [(0, .ref a0), (1, .int x1), (2, .int x2), (3, .int x3), (4, .int x4), (5, .int (x5 + 1))] []) ∧ (¬ (hI μ a0_treaty ((x6 + 2).toNatClampNeg)) < (hI μ a0_treaty ((x4 + 2).toNatClampNeg)) → J μ 0 0 17 [(0, .ref a0), (1, .int x1), (2, .int x2), (3, .int x3), (4, .int x6), (5, .int (x5 + 1))] []))))))) :
    J μ 0 0 81 [(0, .ref a0), (1, .int x1), (2, .int x2), (3, .int x3), (4, .int x4), (5, .int x5), (6, .int x6)] [] := by
  refine r_iconst g 1 dX12_treatyOf_81 (by decide) ?_
  refine r_goto g 86 dX12_treatyOf_82 (by decide) ?_
  refine r_istore g [(7, .int 1), (0, .ref a0), (1, .int x1), (2, .int x2), (3, .int x3), (4, .int x4), (5, .int x5), (6, .int x6)] dX12_treatyOf_86 (by decide) rfl ?_
  refine r_iload g dX12_treatyOf_88 rfl ?_
  refine r_if_eq g 137 dX12_treatyOf_90 (by decide) (fun hz => absurd hz (by decide)) (fun _ => ?_)
  refine r_aload_n g dX12_treatyOf_93 rfl ?_
  refine r_getR g fX12_29 rfl hs_a0 hr_a0_treaty dX12_treatyOf_94 ?_
  refine r_iload g dX12_treatyOf_97 rfl ?_
  refine r_iconst g 2 dX12_treatyOf_99 (by decide) ?_
  refine r_iadd g dX12_treatyOf_100 ?_
  obtain ⟨hi1, h⟩ := h
  refine r_iaload g hs_a0_treaty hi1 dX12_treatyOf_101 ?_
  refine r_iload_n g dX12_treatyOf_102 rfl ?_
  refine r_icmp_gt g 137 dX12_treatyOf_103 (by decide) (fun c2 => ?_) (fun c2 => ?_)
  · replace h := h.1 c2
    refine r_iinc g (x5 + 1) [(5, .int (x5 + 1)), (7, .int 1), (0, .ref a0), (1, .int x1), (2, .int x2), (3, .int x3), (4, .int x4), (6, .int x6)] dX12_treatyOf_137 rfl rfl (by decide) rfl ?_
    refine r_goto g 17 dX12_treatyOf_140 (by decide) ?_
    refine r_sub g (lv' := [(0, .ref a0), (1, .int x1), (2, .int x2), (3, .int x3), (4, .int x4), (5, .int (x5 + 1))]) (⟨rfl, rfl, rfl, rfl, rfl, rfl, trivial⟩) ?_
    exact h
  · replace h := h.2 c2
    refine r_iload g dX12_treatyOf_106 rfl ?_
    refine r_iconst g (-1) dX12_treatyOf_108 (by decide) ?_
    refine r_icmp_eq g 133 dX12_treatyOf_109 (by decide) (fun c3 => ?_) (fun c3 => ?_)
    · replace h := h.1 c3
      refine r_iload g dX12_treatyOf_133 rfl ?_
      refine r_istore g [(4, .int x6), (7, .int 1), (0, .ref a0), (1, .int x1), (2, .int x2), (3, .int x3), (5, .int x5), (6, .int x6)] dX12_treatyOf_135 (by decide) rfl ?_
      refine r_iinc g (x5 + 1) [(5, .int (x5 + 1)), (4, .int x6), (7, .int 1), (0, .ref a0), (1, .int x1), (2, .int x2), (3, .int x3), (6, .int x6)] dX12_treatyOf_137 rfl rfl (by decide) rfl ?_
      refine r_goto g 17 dX12_treatyOf_140 (by decide) ?_
      refine r_sub g (lv' := [(0, .ref a0), (1, .int x1), (2, .int x2), (3, .int x3), (4, .int x6), (5, .int (x5 + 1))]) (⟨rfl, rfl, rfl, rfl, rfl, rfl, trivial⟩) ?_
      exact h
    · replace h := h.2 c3
      refine r_aload_n g dX12_treatyOf_112 rfl ?_
      refine r_getR g fX12_29 rfl hs_a0 hr_a0_treaty dX12_treatyOf_113 ?_
      refine r_iload g dX12_treatyOf_116 rfl ?_
      refine r_iconst g 2 dX12_treatyOf_118 (by decide) ?_
      refine r_iadd g dX12_treatyOf_119 ?_
      refine r_iaload g hs_a0_treaty hi1 dX12_treatyOf_120 ?_
      refine r_aload_n g dX12_treatyOf_121 rfl ?_
      refine r_getR g fX12_29 rfl hs_a0 hr_a0_treaty dX12_treatyOf_122 ?_
      refine r_iload g dX12_treatyOf_125 rfl ?_
      refine r_iconst g 2 dX12_treatyOf_127 (by decide) ?_
      refine r_iadd g dX12_treatyOf_128 ?_
      obtain ⟨hi4, h⟩ := h
      refine r_iaload g hs_a0_treaty hi4 dX12_treatyOf_129 ?_
      refine r_icmp_lt g 137 dX12_treatyOf_130 (by decide) (fun c5 => ?_) (fun c5 => ?_)
      · replace h := h.1 c5
        refine r_iinc g (x5 + 1) [(5, .int (x5 + 1)), (7, .int 1), (0, .ref a0), (1, .int x1), (2, .int x2), (3, .int x3), (4, .int x4), (6, .int x6)] dX12_treatyOf_137 rfl rfl (by decide) rfl ?_
        refine r_goto g 17 dX12_treatyOf_140 (by decide) ?_
        refine r_sub g (lv' := [(0, .ref a0), (1, .int x1), (2, .int x2), (3, .int x3), (4, .int x4), (5, .int (x5 + 1))]) (⟨rfl, rfl, rfl, rfl, rfl, rfl, trivial⟩) ?_
        exact h
      · replace h := h.2 c5
        refine r_iload g dX12_treatyOf_133 rfl ?_
        refine r_istore g [(4, .int x6), (7, .int 1), (0, .ref a0), (1, .int x1), (2, .int x2), (3, .int x3), (5, .int x5), (6, .int x6)] dX12_treatyOf_135 (by decide) rfl ?_
        refine r_iinc g (x5 + 1) [(5, .int (x5 + 1)), (4, .int x6), (7, .int 1), (0, .ref a0), (1, .int x1), (2, .int x2), (3, .int x3), (6, .int x6)] dX12_treatyOf_137 rfl rfl (by decide) rfl ?_
        refine r_goto g 17 dX12_treatyOf_140 (by decide) ?_
        refine r_sub g (lv' := [(0, .ref a0), (1, .int x1), (2, .int x2), (3, .int x3), (4, .int x6), (5, .int (x5 + 1))]) (⟨rfl, rfl, rfl, rfl, rfl, rfl, trivial⟩) ?_
        exact h
set_option maxHeartbeats 4000000 in
set_option maxRecDepth 100000 in
theorem B_X12_treatyOf_85 {d : Nat} {ro : Nat → Nat} {J : JT} {Z : Option Value → Hp → Prop} (g : xCtx RX12 cX12_treatyOf 8 d 0 0 yX12_treatyOf.name ro J) (hr : xRet cX12_treatyOf (some .int) 0 0 Z J) {μ : Hp} {a0 : Nat} {x1 : Int32} {x2 : Int32} {x3 : Int32} {x4 : Int32} {x5 : Int32} {x6 : Int32} 
    (h : J μ 0 0 17 [(0, .ref a0), (1, .int x1), (2, .int x2), (3, .int x3), (4, .int x4), (5, .int (x5 + 1))] []) :
    J μ 0 0 85 [(0, .ref a0), (1, .int x1), (2, .int x2), (3, .int x3), (4, .int x4), (5, .int x5), (6, .int x6)] [] := by
  refine r_iconst g 0 dX12_treatyOf_85 (by decide) ?_
  refine r_istore g [(7, .int 0), (0, .ref a0), (1, .int x1), (2, .int x2), (3, .int x3), (4, .int x4), (5, .int x5), (6, .int x6)] dX12_treatyOf_86 (by decide) rfl ?_
  refine r_iload g dX12_treatyOf_88 rfl ?_
  refine r_if_eq g 137 dX12_treatyOf_90 (by decide) (fun _ => ?_) (fun hz => absurd hz (by decide))
  refine r_iinc g (x5 + 1) [(5, .int (x5 + 1)), (7, .int 0), (0, .ref a0), (1, .int x1), (2, .int x2), (3, .int x3), (4, .int x4), (6, .int x6)] dX12_treatyOf_137 rfl rfl (by decide) rfl ?_
  refine r_goto g 17 dX12_treatyOf_140 (by decide) ?_
  refine r_sub g (lv' := [(0, .ref a0), (1, .int x1), (2, .int x2), (3, .int x3), (4, .int x4), (5, .int (x5 + 1))]) (⟨rfl, rfl, rfl, rfl, rfl, rfl, trivial⟩) ?_
  exact h
theorem I_X12_treatyOf {d : Nat} {ro : Nat → Nat} {Z : Option Value → Hp → Prop} {μ : Hp} {a0 : Nat} {x1 : Int32} {x2 : Int32} {x3 : Int32} (h : ∀ J, xCtx RX12 cX12_treatyOf 8 d 0 0 yX12_treatyOf.name ro J → xRet cX12_treatyOf (some .int) 0 0 Z J → J μ 0 0 0 [(0, .ref a0), (1, .int x1), (2, .int x2), (3, .int x3)] []) : xC d yX12_treatyOf cX12_treatyOf 8 (some .int) 0 0 [.ref a0, .int x1, .int x2, .int x3] μ ro Z :=
  xC_intro (own := RX12) (lv := [(0, .ref a0), (1, .int x1), (2, .int x2), (3, .int x3)]) (by decide) rfl (Nat.le_of_ble_eq_true rfl) rfl (fun J g hr => r_sub g (lv' := [(0, .ref a0), (1, .int x1), (2, .int x2), (3, .int x3)]) (⟨rfl, rfl, rfl, rfl, trivial⟩) (h J g hr))
theorem dX12_linkOf_0 : decode cX12_linkOf 0 = .ok (.iconst 0, 1) := by decide +kernel
theorem dX12_linkOf_1 : decode cX12_linkOf 1 = .ok (.istore 4, 2) := by decide +kernel
theorem dX12_linkOf_3 : decode cX12_linkOf 3 = .ok (.iload 4, 2) := by decide +kernel
theorem dX12_linkOf_5 : decode cX12_linkOf 5 = .ok (.aload_n 0, 1) := by decide +kernel
theorem dX12_linkOf_6 : decode cX12_linkOf 6 = .ok (.bipush 31, 2) := by decide +kernel
theorem dX12_linkOf_8 : decode cX12_linkOf 8 = .ok (.iaload, 1) := by decide +kernel
theorem dX12_linkOf_9 : decode cX12_linkOf 9 = .ok (.if_icmp .ge 49, 3) := by decide +kernel
theorem dX12_linkOf_12 : decode cX12_linkOf 12 = .ok (.aload_n 0, 1) := by decide +kernel
theorem dX12_linkOf_13 : decode cX12_linkOf 13 = .ok (.iload 4, 2) := by decide +kernel
theorem dX12_linkOf_15 : decode cX12_linkOf 15 = .ok (.invokestatic 270, 3) := by decide +kernel
theorem dX12_linkOf_18 : decode cX12_linkOf 18 = .ok (.iaload, 1) := by decide +kernel
theorem dX12_linkOf_19 : decode cX12_linkOf 19 = .ok (.iload_n 1, 1) := by decide +kernel
theorem dX12_linkOf_20 : decode cX12_linkOf 20 = .ok (.if_icmp .ne 32, 3) := by decide +kernel
theorem dX12_linkOf_23 : decode cX12_linkOf 23 = .ok (.aload_n 0, 1) := by decide +kernel
theorem dX12_linkOf_24 : decode cX12_linkOf 24 = .ok (.iload 4, 2) := by decide +kernel
theorem dX12_linkOf_26 : decode cX12_linkOf 26 = .ok (.invokestatic 270, 3) := by decide +kernel
theorem dX12_linkOf_29 : decode cX12_linkOf 29 = .ok (.iconst 1, 1) := by decide +kernel
theorem dX12_linkOf_30 : decode cX12_linkOf 30 = .ok (.iadd, 1) := by decide +kernel
theorem dX12_linkOf_31 : decode cX12_linkOf 31 = .ok (.iaload, 1) := by decide +kernel
theorem dX12_linkOf_32 : decode cX12_linkOf 32 = .ok (.iload_n 2, 1) := by decide +kernel
theorem dX12_linkOf_33 : decode cX12_linkOf 33 = .ok (.if_icmp .ne 19, 3) := by decide +kernel
theorem dX12_linkOf_36 : decode cX12_linkOf 36 = .ok (.aload_n 0, 1) := by decide +kernel
theorem dX12_linkOf_37 : decode cX12_linkOf 37 = .ok (.iload 4, 2) := by decide +kernel
theorem dX12_linkOf_39 : decode cX12_linkOf 39 = .ok (.invokestatic 270, 3) := by decide +kernel
theorem dX12_linkOf_42 : decode cX12_linkOf 42 = .ok (.iconst 2, 1) := by decide +kernel
theorem dX12_linkOf_43 : decode cX12_linkOf 43 = .ok (.iadd, 1) := by decide +kernel
theorem dX12_linkOf_44 : decode cX12_linkOf 44 = .ok (.iaload, 1) := by decide +kernel
theorem dX12_linkOf_45 : decode cX12_linkOf 45 = .ok (.iload_n 3, 1) := by decide +kernel
theorem dX12_linkOf_46 : decode cX12_linkOf 46 = .ok (.if_icmp .ne 6, 3) := by decide +kernel
theorem dX12_linkOf_49 : decode cX12_linkOf 49 = .ok (.iload 4, 2) := by decide +kernel
theorem dX12_linkOf_51 : decode cX12_linkOf 51 = .ok (.ireturn, 1) := by decide +kernel
theorem dX12_linkOf_52 : decode cX12_linkOf 52 = .ok (.iinc 4 1, 3) := by decide +kernel
theorem dX12_linkOf_55 : decode cX12_linkOf 55 = .ok (.goto (-52), 3) := by decide +kernel
theorem dX12_linkOf_58 : decode cX12_linkOf 58 = .ok (.iconst (-1), 1) := by decide +kernel
theorem dX12_linkOf_59 : decode cX12_linkOf 59 = .ok (.ireturn, 1) := by decide +kernel
set_option maxHeartbeats 4000000 in
set_option maxRecDepth 100000 in
theorem B_X12_linkOf_0 {d : Nat} {ro : Nat → Nat} {J : JT} {Z : Option Value → Hp → Prop} (g : xCtx RX12 cX12_linkOf 5 d 0 0 yX12_linkOf.name ro J) (hr : xRet cX12_linkOf (some .int) 0 0 Z J) {μ : Hp} {a0 : Nat} {x1 : Int32} {x2 : Int32} {x3 : Int32} 
    (h : J μ 0 0 3 [(0, .ref a0), (1, .int x1), (2, .int x2), (3, .int x3), (4, .int 0)] []) :
    J μ 0 0 0 [(0, .ref a0), (1, .int x1), (2, .int x2), (3, .int x3)] [] := by
  refine r_iconst g 0 dX12_linkOf_0 (by decide) ?_
  refine r_istore g [(4, .int 0), (0, .ref a0), (1, .int x1), (2, .int x2), (3, .int x3)] dX12_linkOf_1 (by decide) rfl ?_
  refine r_sub g (lv' := [(0, .ref a0), (1, .int x1), (2, .int x2), (3, .int x3), (4, .int 0)]) (⟨rfl, rfl, rfl, rfl, rfl, trivial⟩) ?_
  exact h
set_option maxHeartbeats 4000000 in
set_option maxRecDepth 100000 in
theorem B_X12_linkOf_3 {d : Nat} {ro : Nat → Nat} {J : JT} {Z : Option Value → Hp → Prop} (g : xCtx RX12 cX12_linkOf 5 d 0 0 yX12_linkOf.name ro J) (hr : xRet cX12_linkOf (some .int) 0 0 Z J) {μ : Hp} {a0 : Nat} {x1 : Int32} {x2 : Int32} {x3 : Int32} {x4 : Int32} {N_a0 : Nat} (hs_a0 : hS μ a0 = some (0, N_a0)) (hd9 : 1 ≤ d)
    (h : vp_in 31 N_a0 ∧ (((hI μ a0 31) ≤ x4 → Z (some (.int (-1))) μ) ∧ (¬ (hI μ a0 31) ≤ x4 → vp_in (32 + (5 * x4)) N_a0 ∧ ((¬ (hI μ a0 ((32 + (5 * x4)).toNatClampNeg)) = x1 → J μ 0 0 3 [(0, .ref a0), (1, .int x1), (2, .int x2), (3, .int x3), (4, .int (x4 + 1))] []) ∧ ((hI μ a0 ((32 + (5 * x4)).toNatClampNeg)) = x1 → vp_in ((32 + (5 * x4)) + 1) N_a0 ∧ ((¬ (hI μ a0 (((32 + (5 * x4)) + 1).toNatClampNeg)) = x2 → J μ 0 0 3 [(0, .ref a0), (1, .int x1), (2, .int x2), (3, .int x3), (4, .int (x4 + 1))] []) ∧ ((hI μ a0 (((32 + (5 * x4)) + 1).toNatClampNeg)) = x2 → vp_in ((32 + (5 * x4)) + 2) N_a0 ∧ ((¬ (hI μ a0 (((32 + (5 * x4)) + 2).toNatClampNeg)) = x3 → J μ 0 0 3 [(0, .ref a0), (1, .int x1), (2, .int x2), (3, .int x3), (4, .int (x4 + 1))] []) ∧ ((hI μ a0 (((32 + (5 * x4)) + 2).toNatClampNeg)) = x3 → Z (some (.int x4)) μ))))))))) :
    J μ 0 0 3 [(0, .ref a0), (1, .int x1), (2, .int x2), (3, .int x3), (4, .int x4)] [] := by
  refine r_iload g dX12_linkOf_3 rfl ?_
  refine r_aload_n g dX12_linkOf_5 rfl ?_
  refine r_bipush g 31 dX12_linkOf_6 (by decide) ?_
  obtain ⟨hi1, h⟩ := h
  refine r_iaload g hs_a0 hi1 dX12_linkOf_8 ?_
  refine r_icmp_ge g 58 dX12_linkOf_9 (by decide) (fun c2 => ?_) (fun c2 => ?_)
  · replace h := h.1 c2
    refine r_iconst g (-1) dX12_linkOf_58 (by decide) ?_
    exact hr.2.1 _ rfl _ _ _ _ _ _ dX12_linkOf_59 rfl (Nat.le_refl 0) (Nat.le_refl 0) h
  · replace h := h.2 c2
    refine r_aload_n g dX12_linkOf_12 rfl ?_
    refine r_iload g dX12_linkOf_13 rfl ?_
    refine r_callS (st := [.ref a0]) (As := [.int x4]) g sX12_270 iX12_linkRow rfl (Nat.le_of_ble_eq_true rfl) dX12_linkOf_15 (by omega) (Nat.le_refl 0) (Nat.le_refl 0) (P_X12_linkRow_0 (d := d - 1)  ) (fun r3 μ4 hZ1 => ?_)
    obtain ⟨rfl, e9⟩ := hZ1
    replace e9 := e9.symm
    subst e9
    obtain ⟨hi5, h⟩ := h
    refine r_iaload g hs_a0 hi5 dX12_linkOf_18 ?_
    refine r_iload_n g dX12_linkOf_19 rfl ?_
    refine r_icmp_ne g 52 dX12_linkOf_20 (by decide) (fun c6 => ?_) (fun c6 => ?_)
    · replace h := h.1 c6
      refine r_iinc g (x4 + 1) [(4, .int (x4 + 1)), (0, .ref a0), (1, .int x1), (2, .int x2), (3, .int x3)] dX12_linkOf_52 rfl rfl (by decide) rfl ?_
      refine r_goto g 3 dX12_linkOf_55 (by decide) ?_
      refine r_sub g (lv' := [(0, .ref a0), (1, .int x1), (2, .int x2), (3, .int x3), (4, .int (x4 + 1))]) (⟨rfl, rfl, rfl, rfl, rfl, trivial⟩) ?_
      exact h
    · replace h := h.2 c6
      refine r_aload_n g dX12_linkOf_23 rfl ?_
      refine r_iload g dX12_linkOf_24 rfl ?_
      refine r_callS (st := [.ref a0]) (As := [.int x4]) g sX12_270 iX12_linkRow rfl (Nat.le_of_ble_eq_true rfl) dX12_linkOf_26 (by omega) (Nat.le_refl 0) (Nat.le_refl 0) (P_X12_linkRow_0 (d := d - 1)  ) (fun r7 μ8 hZ1 => ?_)
      obtain ⟨rfl, e9⟩ := hZ1
      replace e9 := e9.symm
      subst e9
      refine r_iconst g 1 dX12_linkOf_29 (by decide) ?_
      refine r_iadd g dX12_linkOf_30 ?_
      obtain ⟨hi9, h⟩ := h
      refine r_iaload g hs_a0 hi9 dX12_linkOf_31 ?_
      refine r_iload_n g dX12_linkOf_32 rfl ?_
      refine r_icmp_ne g 52 dX12_linkOf_33 (by decide) (fun c10 => ?_) (fun c10 => ?_)
      · replace h := h.1 c10
        refine r_iinc g (x4 + 1) [(4, .int (x4 + 1)), (0, .ref a0), (1, .int x1), (2, .int x2), (3, .int x3)] dX12_linkOf_52 rfl rfl (by decide) rfl ?_
        refine r_goto g 3 dX12_linkOf_55 (by decide) ?_
        refine r_sub g (lv' := [(0, .ref a0), (1, .int x1), (2, .int x2), (3, .int x3), (4, .int (x4 + 1))]) (⟨rfl, rfl, rfl, rfl, rfl, trivial⟩) ?_
        exact h
      · replace h := h.2 c10
        refine r_aload_n g dX12_linkOf_36 rfl ?_
        refine r_iload g dX12_linkOf_37 rfl ?_
        refine r_callS (st := [.ref a0]) (As := [.int x4]) g sX12_270 iX12_linkRow rfl (Nat.le_of_ble_eq_true rfl) dX12_linkOf_39 (by omega) (Nat.le_refl 0) (Nat.le_refl 0) (P_X12_linkRow_0 (d := d - 1)  ) (fun r11 μ12 hZ1 => ?_)
        obtain ⟨rfl, e9⟩ := hZ1
        replace e9 := e9.symm
        subst e9
        refine r_iconst g 2 dX12_linkOf_42 (by decide) ?_
        refine r_iadd g dX12_linkOf_43 ?_
        obtain ⟨hi13, h⟩ := h
        refine r_iaload g hs_a0 hi13 dX12_linkOf_44 ?_
        refine r_iload_n g dX12_linkOf_45 rfl ?_
        refine r_icmp_ne g 52 dX12_linkOf_46 (by decide) (fun c14 => ?_) (fun c14 => ?_)
        · replace h := h.1 c14
          refine r_iinc g (x4 + 1) [(4, .int (x4 + 1)), (0, .ref a0), (1, .int x1), (2, .int x2), (3, .int x3)] dX12_linkOf_52 rfl rfl (by decide) rfl ?_
          refine r_goto g 3 dX12_linkOf_55 (by decide) ?_
          refine r_sub g (lv' := [(0, .ref a0), (1, .int x1), (2, .int x2), (3, .int x3), (4, .int (x4 + 1))]) (⟨rfl, rfl, rfl, rfl, rfl, trivial⟩) ?_
          exact h
        · replace h := h.2 c14
          refine r_iload g dX12_linkOf_49 rfl ?_
          exact hr.2.1 _ rfl _ _ _ _ _ _ dX12_linkOf_51 rfl (Nat.le_refl 0) (Nat.le_refl 0) h
theorem I_X12_linkOf {d : Nat} {ro : Nat → Nat} {Z : Option Value → Hp → Prop} {μ : Hp} {a0 : Nat} {x1 : Int32} {x2 : Int32} {x3 : Int32} (h : ∀ J, xCtx RX12 cX12_linkOf 5 d 0 0 yX12_linkOf.name ro J → xRet cX12_linkOf (some .int) 0 0 Z J → J μ 0 0 0 [(0, .ref a0), (1, .int x1), (2, .int x2), (3, .int x3)] []) : xC d yX12_linkOf cX12_linkOf 5 (some .int) 0 0 [.ref a0, .int x1, .int x2, .int x3] μ ro Z :=
  xC_intro (own := RX12) (lv := [(0, .ref a0), (1, .int x1), (2, .int x2), (3, .int x3)]) (by decide) rfl (Nat.le_of_ble_eq_true rfl) rfl (fun J g hr => r_sub g (lv' := [(0, .ref a0), (1, .int x1), (2, .int x2), (3, .int x3)]) (⟨rfl, rfl, rfl, rfl, trivial⟩) (h J g hr))
theorem dX12_hopOf_0 : decode cX12_hopOf 0 = .ok (.aload_n 1, 1) := by decide +kernel
theorem dX12_hopOf_1 : decode cX12_hopOf 1 = .ok (.iload_n 2, 1) := by decide +kernel
theorem dX12_hopOf_2 : decode cX12_hopOf 2 = .ok (.iload 4, 2) := by decide +kernel
theorem dX12_hopOf_4 : decode cX12_hopOf 4 = .ok (.iload_n 3, 1) := by decide +kernel
theorem dX12_hopOf_5 : decode cX12_hopOf 5 = .ok (.invokestatic 273, 3) := by decide +kernel
theorem dX12_hopOf_8 : decode cX12_hopOf 8 = .ok (.istore 5, 2) := by decide +kernel
theorem dX12_hopOf_10 : decode cX12_hopOf 10 = .ok (.iload 5, 2) := by decide +kernel
theorem dX12_hopOf_12 : decode cX12_hopOf 12 = .ok (.iconst (-1), 1) := by decide +kernel
theorem dX12_hopOf_13 : decode cX12_hopOf 13 = .ok (.if_icmp .eq 19, 3) := by decide +kernel
theorem dX12_hopOf_16 : decode cX12_hopOf 16 = .ok (.aload_n 1, 1) := by decide +kernel
theorem dX12_hopOf_17 : decode cX12_hopOf 17 = .ok (.iload 5, 2) := by decide +kernel
theorem dX12_hopOf_19 : decode cX12_hopOf 19 = .ok (.invokestatic 270, 3) := by decide +kernel
theorem dX12_hopOf_22 : decode cX12_hopOf 22 = .ok (.iconst 4, 1) := by decide +kernel
theorem dX12_hopOf_23 : decode cX12_hopOf 23 = .ok (.iadd, 1) := by decide +kernel
theorem dX12_hopOf_24 : decode cX12_hopOf 24 = .ok (.iaload, 1) := by decide +kernel
theorem dX12_hopOf_25 : decode cX12_hopOf 25 = .ok (.aload_n 0, 1) := by decide +kernel
theorem dX12_hopOf_26 : decode cX12_hopOf 26 = .ok (.getfield 277, 3) := by decide +kernel
theorem dX12_hopOf_29 : decode cX12_hopOf 29 = .ok (.if_icmp .le 7, 3) := by decide +kernel
theorem dX12_hopOf_32 : decode cX12_hopOf 32 = .ok (.iconst (-1), 1) := by decide +kernel
theorem dX12_hopOf_33 : decode cX12_hopOf 33 = .ok (.goto 8, 3) := by decide +kernel
theorem dX12_hopOf_36 : decode cX12_hopOf 36 = .ok (.iload 5, 2) := by decide +kernel
theorem dX12_hopOf_38 : decode cX12_hopOf 38 = .ok (.invokestatic 270, 3) := by decide +kernel
theorem dX12_hopOf_41 : decode cX12_hopOf 41 = .ok (.ireturn, 1) := by decide +kernel
set_option maxHeartbeats 4000000 in
set_option maxRecDepth 100000 in
theorem B_X12_hopOf_0 {d : Nat} {ro : Nat → Nat} {J : JT} {Z : Option Value → Hp → Prop} (g : xCtx RX12 cX12_hopOf 6 d 0 0 yX12_hopOf.name ro J) (hr : xRet cX12_hopOf (some .int) 0 0 Z J) {μ : Hp} {a0 : Nat} {a1 : Nat} {x2 : Int32} {x3 : Int32} {x4 : Int32}  (hd9 : 1 ≤ d)
    (h : xCall d yX12_linkOf cX12_linkOf 5 (some .int) [.ref a1, .int x2, .int x4, .int x3] μ ro (fun r1 μ2 => ∃ y3 : Int32, r1 = some (.int y3) ∧ ((y3 = (-1) → Z (some (.int (-1))) μ2) ∧ (¬ y3 = (-1) → ∃ N7 : Nat, hS μ2 a1 = some (0, N7) ∧ vp_in ((32 + (5 * y3)) + 4) N7 ∧ hS μ2 a0 = some (15, 65) ∧ (((hI μ2 a1 (((32 + (5 * y3)) + 4).toNatClampNeg)) ≤ (hI μ2 a0 37) → Z (some (.int (32 + (5 * y3)))) μ2) ∧ (¬ (hI μ2 a1 (((32 + (5 * y3)) + 4).toNatClampNeg)) ≤ (hI μ2 a0 37) → Z (some (.int (-1))) μ2)))))) :
    J μ 0 0 0 [(0, .ref a0), (1, .ref a1), (2, .int x2), (3, .int x3), (4, .int x4)] [] := by
  refine r_aload_n g dX12_hopOf_0 rfl ?_
  refine r_iload_n g dX12_hopOf_1 rfl ?_
  refine r_iload g dX12_hopOf_2 rfl ?_
  refine r_iload_n g dX12_hopOf_4 rfl ?_
  obtain ⟨d1, Z1, hc1, hd1, h1⟩ := h
  refine r_callS (st := []) (As := [.ref a1, .int x2, .int x4, .int x3]) g sX12_273 iX12_linkOf rfl (Nat.le_of_ble_eq_true rfl) dX12_hopOf_5 hd1 (Nat.le_refl 0) (Nat.le_refl 0) hc1 (fun r1 μ2 hZ1 => ?_)
  replace h := h1 _ _ hZ1
  clear h1 hc1 hd1 hZ1 Z1 d1
  obtain ⟨y3, rfl, h⟩ := h
  refine r_istore g [(5, .int y3), (0, .ref a0), (1, .ref a1), (2, .int x2), (3, .int x3), (4, .int x4)] dX12_hopOf_8 (by decide) rfl ?_
  refine r_iload g dX12_hopOf_10 rfl ?_
  refine r_iconst g (-1) dX12_hopOf_12 (by decide) ?_
  refine r_icmp_eq g 32 dX12_hopOf_13 (by decide) (fun c4 => ?_) (fun c4 => ?_)
  · replace h := h.1 c4
    refine r_iconst g (-1) dX12_hopOf_32 (by decide) ?_
    refine r_goto g 41 dX12_hopOf_33 (by decide) ?_
    exact hr.2.1 _ rfl _ _ _ _ _ _ dX12_hopOf_41 rfl (Nat.le_refl 0) (Nat.le_refl 0) h
  · replace h := h.2 c4
    refine r_aload_n g dX12_hopOf_16 rfl ?_
    refine r_iload g dX12_hopOf_17 rfl ?_
    refine r_callS (st := [.ref a1]) (As := [.int y3]) g sX12_270 iX12_linkRow rfl (Nat.le_of_ble_eq_true rfl) dX12_hopOf_19 (by omega) (Nat.le_refl 0) (Nat.le_refl 0) (P_X12_linkRow_0 (d := d - 1)  ) (fun r5 μ6 hZ1 => ?_)
    obtain ⟨rfl, e9⟩ := hZ1
    replace e9 := e9.symm
    subst e9
    refine r_iconst g 4 dX12_hopOf_22 (by decide) ?_
    refine r_iadd g dX12_hopOf_23 ?_
    obtain ⟨N7, hs_a1, h⟩ := h
    obtain ⟨hi8, h⟩ := h
    refine r_iaload g hs_a1 hi8 dX12_hopOf_24 ?_
    refine r_aload_n g dX12_hopOf_25 rfl ?_
    obtain ⟨hs_a0, h⟩ := h
    refine r_getI g fX12_277 rfl hs_a0 dX12_hopOf_26 ?_
    refine r_icmp_le g 36 dX12_hopOf_29 (by decide) (fun c9 => ?_) (fun c9 => ?_)
    · replace h := h.1 c9
      refine r_iload g dX12_hopOf_36 rfl ?_
      refine r_callS (st := []) (As := [.int y3]) g sX12_270 iX12_linkRow rfl (Nat.le_of_ble_eq_true rfl) dX12_hopOf_38 (by omega) (Nat.le_refl 0) (Nat.le_refl 0) (P_X12_linkRow_0 (d := d - 1)  ) (fun r10 μ11 hZ1 => ?_)
      obtain ⟨rfl, e9⟩ := hZ1
      replace e9 := e9.symm
      subst e9
      exact hr.2.1 _ rfl _ _ _ _ _ _ dX12_hopOf_41 rfl (Nat.le_refl 0) (Nat.le_refl 0) h
    · replace h := h.2 c9
      refine r_iconst g (-1) dX12_hopOf_32 (by decide) ?_
      refine r_goto g 41 dX12_hopOf_33 (by decide) ?_
      exact hr.2.1 _ rfl _ _ _ _ _ _ dX12_hopOf_41 rfl (Nat.le_refl 0) (Nat.le_refl 0) h
theorem I_X12_hopOf {d : Nat} {ro : Nat → Nat} {Z : Option Value → Hp → Prop} {μ : Hp} {a0 : Nat} {a1 : Nat} {x2 : Int32} {x3 : Int32} {x4 : Int32} (h : ∀ J, xCtx RX12 cX12_hopOf 6 d 0 0 yX12_hopOf.name ro J → xRet cX12_hopOf (some .int) 0 0 Z J → J μ 0 0 0 [(0, .ref a0), (1, .ref a1), (2, .int x2), (3, .int x3), (4, .int x4)] []) : xC d yX12_hopOf cX12_hopOf 6 (some .int) 0 0 [.ref a0, .ref a1, .int x2, .int x3, .int x4] μ ro Z :=
  xC_intro (own := RX12) (lv := [(0, .ref a0), (1, .ref a1), (2, .int x2), (3, .int x3), (4, .int x4)]) (by decide) rfl (Nat.le_of_ble_eq_true rfl) rfl (fun J g hr => r_sub g (lv' := [(0, .ref a0), (1, .ref a1), (2, .int x2), (3, .int x3), (4, .int x4)]) (⟨rfl, rfl, rfl, rfl, rfl, trivial⟩) (h J g hr))
theorem dX12_articleOf_0 : decode cX12_articleOf 0 = .ok (.aload_n 0, 1) := by decide +kernel
theorem dX12_articleOf_1 : decode cX12_articleOf 1 = .ok (.iload_n 3, 1) := by decide +kernel
theorem dX12_articleOf_2 : decode cX12_articleOf 2 = .ok (.invokevirtual 280, 3) := by decide +kernel
theorem dX12_articleOf_5 : decode cX12_articleOf 5 = .ok (.istore 7, 2) := by decide +kernel
theorem dX12_articleOf_7 : decode cX12_articleOf 7 = .ok (.aload_n 0, 1) := by decide +kernel
theorem dX12_articleOf_8 : decode cX12_articleOf 8 = .ok (.iload 4, 2) := by decide +kernel
theorem dX12_articleOf_10 : decode cX12_articleOf 10 = .ok (.invokevirtual 280, 3) := by decide +kernel
theorem dX12_articleOf_13 : decode cX12_articleOf 13 = .ok (.istore 8, 2) := by decide +kernel
theorem dX12_articleOf_15 : decode cX12_articleOf 15 = .ok (.aload_n 0, 1) := by decide +kernel
theorem dX12_articleOf_16 : decode cX12_articleOf 16 = .ok (.iload 5, 2) := by decide +kernel
theorem dX12_articleOf_18 : decode cX12_articleOf 18 = .ok (.invokevirtual 280, 3) := by decide +kernel
theorem dX12_articleOf_21 : decode cX12_articleOf 21 = .ok (.istore 9, 2) := by decide +kernel
theorem dX12_articleOf_23 : decode cX12_articleOf 23 = .ok (.aload_n 0, 1) := by decide +kernel
theorem dX12_articleOf_24 : decode cX12_articleOf 24 = .ok (.iload 7, 2) := by decide +kernel
theorem dX12_articleOf_26 : decode cX12_articleOf 26 = .ok (.iload 8, 2) := by decide +kernel
theorem dX12_articleOf_28 : decode cX12_articleOf 28 = .ok (.aload_n 0, 1) := by decide +kernel
theorem dX12_articleOf_29 : decode cX12_articleOf 29 = .ok (.getfield 277, 3) := by decide +kernel
theorem dX12_articleOf_32 : decode cX12_articleOf 32 = .ok (.invokevirtual 283, 3) := by decide +kernel
theorem dX12_articleOf_35 : decode cX12_articleOf 35 = .ok (.istore 10, 2) := by decide +kernel
theorem dX12_articleOf_37 : decode cX12_articleOf 37 = .ok (.iload 10, 2) := by decide +kernel
theorem dX12_articleOf_39 : decode cX12_articleOf 39 = .ok (.iconst (-1), 1) := by decide +kernel
theorem dX12_articleOf_40 : decode cX12_articleOf 40 = .ok (.if_icmp .ne 5, 3) := by decide +kernel
theorem dX12_articleOf_43 : decode cX12_articleOf 43 = .ok (.iconst 1, 1) := by decide +kernel
theorem dX12_articleOf_44 : decode cX12_articleOf 44 = .ok (.ireturn, 1) := by decide +kernel
theorem dX12_articleOf_45 : decode cX12_articleOf 45 = .ok (.aload_n 1, 1) := by decide +kernel
theorem dX12_articleOf_46 : decode cX12_articleOf 46 = .ok (.bipush 8, 2) := by decide +kernel
theorem dX12_articleOf_48 : decode cX12_articleOf 48 = .ok (.iload 4, 2) := by decide +kernel
theorem dX12_articleOf_50 : decode cX12_articleOf 50 = .ok (.iadd, 1) := by decide +kernel
theorem dX12_articleOf_51 : decode cX12_articleOf 51 = .ok (.iaload, 1) := by decide +kernel
theorem dX12_articleOf_52 : decode cX12_articleOf 52 = .ok (.aload_n 0, 1) := by decide +kernel
theorem dX12_articleOf_53 : decode cX12_articleOf 53 = .ok (.getfield 29, 3) := by decide +kernel
theorem dX12_articleOf_56 : decode cX12_articleOf 56 = .ok (.iload 10, 2) := by decide +kernel
theorem dX12_articleOf_58 : decode cX12_articleOf 58 = .ok (.bipush 8, 2) := by decide +kernel
theorem dX12_articleOf_60 : decode cX12_articleOf 60 = .ok (.iadd, 1) := by decide +kernel
theorem dX12_articleOf_61 : decode cX12_articleOf 61 = .ok (.iaload, 1) := by decide +kernel
theorem dX12_articleOf_62 : decode cX12_articleOf 62 = .ok (.if_icmp .ge 5, 3) := by decide +kernel
theorem dX12_articleOf_65 : decode cX12_articleOf 65 = .ok (.iconst 2, 1) := by decide +kernel
theorem dX12_articleOf_66 : decode cX12_articleOf 66 = .ok (.ireturn, 1) := by decide +kernel
theorem dX12_articleOf_67 : decode cX12_articleOf 67 = .ok (.aload_n 0, 1) := by decide +kernel
theorem dX12_articleOf_68 : decode cX12_articleOf 68 = .ok (.getfield 29, 3) := by decide +kernel
theorem dX12_articleOf_71 : decode cX12_articleOf 71 = .ok (.iload 10, 2) := by decide +kernel
theorem dX12_articleOf_73 : decode cX12_articleOf 73 = .ok (.bipush 9, 2) := by decide +kernel
theorem dX12_articleOf_75 : decode cX12_articleOf 75 = .ok (.iadd, 1) := by decide +kernel
theorem dX12_articleOf_76 : decode cX12_articleOf 76 = .ok (.iaload, 1) := by decide +kernel
theorem dX12_articleOf_77 : decode cX12_articleOf 77 = .ok (.iconst 1, 1) := by decide +kernel
theorem dX12_articleOf_78 : decode cX12_articleOf 78 = .ok (.if_icmp .ne 10, 3) := by decide +kernel
theorem dX12_articleOf_81 : decode cX12_articleOf 81 = .ok (.iload 9, 2) := by decide +kernel
theorem dX12_articleOf_83 : decode cX12_articleOf 83 = .ok (.iload 8, 2) := by decide +kernel
theorem dX12_articleOf_85 : decode cX12_articleOf 85 = .ok (.if_icmp .ne 40, 3) := by decide +kernel
theorem dX12_articleOf_88 : decode cX12_articleOf 88 = .ok (.aload_n 0, 1) := by decide +kernel
theorem dX12_articleOf_89 : decode cX12_articleOf 89 = .ok (.getfield 29, 3) := by decide +kernel
theorem dX12_articleOf_92 : decode cX12_articleOf 92 = .ok (.iload 10, 2) := by decide +kernel
theorem dX12_articleOf_94 : decode cX12_articleOf 94 = .ok (.bipush 9, 2) := by decide +kernel
theorem dX12_articleOf_96 : decode cX12_articleOf 96 = .ok (.iadd, 1) := by decide +kernel
theorem dX12_articleOf_97 : decode cX12_articleOf 97 = .ok (.iaload, 1) := by decide +kernel
theorem dX12_articleOf_98 : decode cX12_articleOf 98 = .ok (.iconst 2, 1) := by decide +kernel
theorem dX12_articleOf_99 : decode cX12_articleOf 99 = .ok (.if_icmp .ne 28, 3) := by decide +kernel
theorem dX12_articleOf_102 : decode cX12_articleOf 102 = .ok (.iload 9, 2) := by decide +kernel
theorem dX12_articleOf_104 : decode cX12_articleOf 104 = .ok (.iload 7, 2) := by decide +kernel
theorem dX12_articleOf_106 : decode cX12_articleOf 106 = .ok (.if_icmp .eq 21, 3) := by decide +kernel
theorem dX12_articleOf_109 : decode cX12_articleOf 109 = .ok (.aload_n 0, 1) := by decide +kernel
theorem dX12_articleOf_110 : decode cX12_articleOf 110 = .ok (.iload 9, 2) := by decide +kernel
theorem dX12_articleOf_112 : decode cX12_articleOf 112 = .ok (.iload 7, 2) := by decide +kernel
theorem dX12_articleOf_114 : decode cX12_articleOf 114 = .ok (.aload_n 0, 1) := by decide +kernel
theorem dX12_articleOf_115 : decode cX12_articleOf 115 = .ok (.getfield 277, 3) := by decide +kernel
theorem dX12_articleOf_118 : decode cX12_articleOf 118 = .ok (.invokevirtual 283, 3) := by decide +kernel
theorem dX12_articleOf_121 : decode cX12_articleOf 121 = .ok (.iconst (-1), 1) := by decide +kernel
theorem dX12_articleOf_122 : decode cX12_articleOf 122 = .ok (.if_icmp .ne 5, 3) := by decide +kernel
theorem dX12_articleOf_125 : decode cX12_articleOf 125 = .ok (.iconst 3, 1) := by decide +kernel
theorem dX12_articleOf_126 : decode cX12_articleOf 126 = .ok (.ireturn, 1) := by decide +kernel
theorem dX12_articleOf_127 : decode cX12_articleOf 127 = .ok (.iload_n 2, 1) := by decide +kernel
theorem dX12_articleOf_128 : decode cX12_articleOf 128 = .ok (.ifCond .ne 24, 3) := by decide +kernel
theorem dX12_articleOf_131 : decode cX12_articleOf 131 = .ok (.aload_n 1, 1) := by decide +kernel
theorem dX12_articleOf_132 : decode cX12_articleOf 132 = .ok (.iload 6, 2) := by decide +kernel
theorem dX12_articleOf_134 : decode cX12_articleOf 134 = .ok (.iconst 3, 1) := by decide +kernel
theorem dX12_articleOf_135 : decode cX12_articleOf 135 = .ok (.iadd, 1) := by decide +kernel
theorem dX12_articleOf_136 : decode cX12_articleOf 136 = .ok (.iaload, 1) := by decide +kernel
theorem dX12_articleOf_137 : decode cX12_articleOf 137 = .ok (.aload_n 0, 1) := by decide +kernel
theorem dX12_articleOf_138 : decode cX12_articleOf 138 = .ok (.getfield 29, 3) := by decide +kernel
theorem dX12_articleOf_141 : decode cX12_articleOf 141 = .ok (.iload 10, 2) := by decide +kernel
theorem dX12_articleOf_143 : decode cX12_articleOf 143 = .ok (.bipush 6, 2) := by decide +kernel
theorem dX12_articleOf_145 : decode cX12_articleOf 145 = .ok (.iadd, 1) := by decide +kernel
theorem dX12_articleOf_146 : decode cX12_articleOf 146 = .ok (.iaload, 1) := by decide +kernel
theorem dX12_articleOf_147 : decode cX12_articleOf 147 = .ok (.if_icmp .ge 5, 3) := by decide +kernel
theorem dX12_articleOf_150 : decode cX12_articleOf 150 = .ok (.iconst 4, 1) := by decide +kernel
theorem dX12_articleOf_151 : decode cX12_articleOf 151 = .ok (.ireturn, 1) := by decide +kernel
theorem dX12_articleOf_152 : decode cX12_articleOf 152 = .ok (.iload_n 2, 1) := by decide +kernel
theorem dX12_articleOf_153 : decode cX12_articleOf 153 = .ok (.ifCond .ne 31, 3) := by decide +kernel
theorem dX12_articleOf_156 : decode cX12_articleOf 156 = .ok (.aload_n 0, 1) := by decide +kernel
theorem dX12_articleOf_157 : decode cX12_articleOf 157 = .ok (.getfield 277, 3) := by decide +kernel
theorem dX12_articleOf_160 : decode cX12_articleOf 160 = .ok (.aload_n 1, 1) := by decide +kernel
theorem dX12_articleOf_161 : decode cX12_articleOf 161 = .ok (.iload 6, 2) := by decide +kernel
theorem dX12_articleOf_163 : decode cX12_articleOf 163 = .ok (.iconst 4, 1) := by decide +kernel
theorem dX12_articleOf_164 : decode cX12_articleOf 164 = .ok (.iadd, 1) := by decide +kernel
theorem dX12_articleOf_165 : decode cX12_articleOf 165 = .ok (.iaload, 1) := by decide +kernel
theorem dX12_articleOf_166 : decode cX12_articleOf 166 = .ok (.isub, 1) := by decide +kernel
theorem dX12_articleOf_167 : decode cX12_articleOf 167 = .ok (.aload_n 0, 1) := by decide +kernel
theorem dX12_articleOf_168 : decode cX12_articleOf 168 = .ok (.getfield 29, 3) := by decide +kernel
theorem dX12_articleOf_171 : decode cX12_articleOf 171 = .ok (.iload 10, 2) := by decide +kernel
theorem dX12_articleOf_173 : decode cX12_articleOf 173 = .ok (.bipush 7, 2) := by decide +kernel
theorem dX12_articleOf_175 : decode cX12_articleOf 175 = .ok (.iadd, 1) := by decide +kernel
theorem dX12_articleOf_176 : decode cX12_articleOf 176 = .ok (.iaload, 1) := by decide +kernel
theorem dX12_articleOf_177 : decode cX12_articleOf 177 = .ok (.if_icmp .ge 7, 3) := by decide +kernel
theorem dX12_articleOf_180 : decode cX12_articleOf 180 = .ok (.iconst 5, 1) := by decide +kernel
theorem dX12_articleOf_181 : decode cX12_articleOf 181 = .ok (.goto 4, 3) := by decide +kernel
theorem dX12_articleOf_184 : decode cX12_articleOf 184 = .ok (.iconst 0, 1) := by decide +kernel
theorem dX12_articleOf_185 : decode cX12_articleOf 185 = .ok (.ireturn, 1) := by decide +kernel
set_option maxHeartbeats 4000000 in
set_option maxRecDepth 100000 in
theorem B_X12_articleOf_0 {d : Nat} {ro : Nat → Nat} {J : JT} {Z : Option Value → Hp → Prop} (g : xCtx RX12 cX12_articleOf 11 d 0 0 yX12_articleOf.name ro J) (hr : xRet cX12_articleOf (some .int) 0 0 Z J) {μ : Hp} {a0 : Nat} {a1 : Nat} {x2 : Int32} {x3 : Int32} {x4 : Int32} {x5 : Int32} {x6 : Int32} {a0_firm : Nat} {N_a0_firm : Nat} (hs_a0 : hS μ a0 = some (15, 65)) (hr_a0_firm : hR μ a0 10 = some a0_firm) (hs_a0_firm : hS μ a0_firm = some (0, N_a0_firm)) (hd9 : 1 ≤ d)
    (h : vp_in (2 * x3) N_a0_firm ∧ vp_in (2 * x4) N_a0_firm ∧ vp_in (2 * x5) N_a0_firm ∧ xCall d yX12_treatyOf cX12_treatyOf 8 (some .int) [.ref a0, .int (hI μ a0_firm ((2 * x3).toNatClampNeg)), .int (hI μ a0_firm ((2 * x4).toNatClampNeg)), .int (hI μ a0 37)] μ ro (fun r10 μ11 => ∃ y12 : Int32, r10 = some (.int y12) ∧ ((¬ y12 = (-1) → ∃ N14 : Nat, hS μ11 a1 = some (0, N14) ∧ vp_in (8 + x4) N14 ∧ hS μ11 a0 = some (15, 65) ∧ ∃ treaty_16 : Nat, hR μ11 a0 12 = some treaty_16 ∧ ∃ N17 : Nat, hS μ11 treaty_16 = some (0, N17) ∧ vp_in (y12 + 8) N17 ∧ (((hI μ11 treaty_16 ((y12 + 8).toNatClampNeg)) ≤ (hI μ11 a1 ((8 + x4).toNatClampNeg)) → vp_in (y12 + 9) N17 ∧ ((¬ (hI μ11 treaty_16 ((y12 + 9).toNatClampNeg)) = 1 → ((¬ (hI μ11 treaty_16 ((y12 + 9).toNatClampNeg)) = 2 → J μ11 0 0 127 [(0, .ref a0), (1, .ref a1), (2, .int x2), (6, .int x6), (10, .int y12)] []) ∧ ((hI μ11 treaty_16 ((y12 + 9).toNatClampNeg)) = 2 → (((hI μ a0_firm ((2 * x5).toNatClampNeg)) = (hI μ a0_firm ((2 * x3).toNatClampNeg)) → J μ11 0 0 127 [(0, .ref a0), (1, .ref a1), (2, .int x2), (6, .int x6), (10, .int y12)] []) ∧ (¬ (hI μ a0_firm ((2 * x5).toNatClampNeg)) = (hI μ a0_firm ((2 * x3).toNatClampNeg)) → xCall d yX12_treatyOf cX12_treatyOf 8 (some .int) [.ref a0, .int (hI μ a0_firm ((2 * x5).toNatClampNeg)), .int (hI μ a0_firm ((2 * x3).toNatClampNeg)), .int (hI μ11 a0 37)] μ11 ro (fun r24 μ25 => ∃ y26 : Int32, r24 = some (.int y26) ∧ ((¬ y26 = (-1) → J μ25 0 0 127 [(0, .ref a0), (1, .ref a1), (2, .int x2), (6, .int x6), (10, .int y12)] []) ∧ (y26 = (-1) → Z (some (.int 3)) μ25)))))))) ∧ ((hI μ11 treaty_16 ((y12 + 9).toNatClampNeg)) = 1 → ((¬ (hI μ a0_firm ((2 * x5).toNatClampNeg)) = (hI μ a0_firm ((2 * x4).toNatClampNeg)) → Z (some (.int 3)) μ11) ∧ ((hI μ a0_firm ((2 * x5).toNatClampNeg)) = (hI μ a0_firm ((2 * x4).toNatClampNeg)) → ((¬ (hI μ11 treaty_16 ((y12 + 9).toNatClampNeg)) = 2 → J μ11 0 0 127 [(0, .ref a0), (1, .ref a1), (2, .int x2), (6, .int x6), (10, .int y12)] []) ∧ ((hI μ11 treaty_16 ((y12 + 9).toNatClampNeg)) = 2 → (((hI μ a0_firm ((2 * x5).toNatClampNeg)) = (hI μ a0_firm ((2 * x3).toNatClampNeg)) → J μ11 0 0 127 [(0, .ref a0), (1, .ref a1), (2, .int x2), (6, .int x6), (10, .int y12)] []) ∧ (¬ (hI μ a0_firm ((2 * x5).toNatClampNeg)) = (hI μ a0_firm ((2 * x3).toNatClampNeg)) → xCall d yX12_treatyOf cX12_treatyOf 8 (some .int) [.ref a0, .int (hI μ a0_firm ((2 * x5).toNatClampNeg)), .int (hI μ a0_firm ((2 * x3).toNatClampNeg)), .int (hI μ11 a0 37)] μ11 ro (fun r31 μ32 => ∃ y33 : Int32, r31 = some (.int y33) ∧ ((¬ y33 = (-1) → J μ32 0 0 127 [(0, .ref a0), (1, .ref a1), (2, .int x2), (6, .int x6), (10, .int y12)] []) ∧ (y33 = (-1) → Z (some (.int 3)) μ32)))))))))))) ∧ (¬ (hI μ11 treaty_16 ((y12 + 8).toNatClampNeg)) ≤ (hI μ11 a1 ((8 + x4).toNatClampNeg)) → Z (some (.int 2)) μ11))) ∧ (y12 = (-1) → Z (some (.int 1)) μ11)))) :
    J μ 0 0 0 [(0, .ref a0), (1, .ref a1), (2, .int x2), (3, .int x3), (4, .int x4), (5, .int x5), (6, .int x6)] [] := by
  refine r_aload_n g dX12_articleOf_0 rfl ?_
  refine r_iload_n g dX12_articleOf_1 rfl ?_
  obtain ⟨hi1, h⟩ := h
  refine r_callV (st := []) (As := [.int x3]) g sX12_280 iX12_landOf eX12_landOf rfl hs_a0 rfl (Nat.le_of_ble_eq_true rfl) dX12_articleOf_2 (by omega) (Nat.le_refl 0) (Nat.le_refl 0) (P_X12_landOf_0 (d := d - 1) hs_a0 hr_a0_firm hs_a0_firm hi1) (fun r2 μ3 hZ1 => ?_)
  obtain ⟨rfl, e9⟩ := hZ1
  replace e9 := e9.symm
  subst e9
  refine r_istore g [(7, .int (hI μ a0_firm ((2 * x3).toNatClampNeg))), (0, .ref a0), (1, .ref a1), (2, .int x2), (3, .int x3), (4, .int x4), (5, .int x5), (6, .int x6)] dX12_articleOf_5 (by decide) rfl ?_
  refine r_aload_n g dX12_articleOf_7 rfl ?_
  refine r_iload g dX12_articleOf_8 rfl ?_
  obtain ⟨hi4, h⟩ := h
  refine r_callV (st := []) (As := [.int x4]) g sX12_280 iX12_landOf eX12_landOf rfl hs_a0 rfl (Nat.le_of_ble_eq_true rfl) dX12_articleOf_10 (by omega) (Nat.le_refl 0) (Nat.le_refl 0) (P_X12_landOf_0 (d := d - 1) hs_a0 hr_a0_firm hs_a0_firm hi4) (fun r5 μ6 hZ1 => ?_)
  obtain ⟨rfl, e9⟩ := hZ1
  replace e9 := e9.symm
  subst e9
  refine r_istore g [(8, .int (hI μ a0_firm ((2 * x4).toNatClampNeg))), (7, .int (hI μ a0_firm ((2 * x3).toNatClampNeg))), (0, .ref a0), (1, .ref a1), (2, .int x2), (3, .int x3), (4, .int x4), (5, .int x5), (6, .int x6)] dX12_articleOf_13 (by decide) rfl ?_
  refine r_aload_n g dX12_articleOf_15 rfl ?_
  refine r_iload g dX12_articleOf_16 rfl ?_
  obtain ⟨hi7, h⟩ := h
  refine r_callV (st := []) (As := [.int x5]) g sX12_280 iX12_landOf eX12_landOf rfl hs_a0 rfl (Nat.le_of_ble_eq_true rfl) dX12_articleOf_18 (by omega) (Nat.le_refl 0) (Nat.le_refl 0) (P_X12_landOf_0 (d := d - 1) hs_a0 hr_a0_firm hs_a0_firm hi7) (fun r8 μ9 hZ1 => ?_)
  obtain ⟨rfl, e9⟩ := hZ1
  replace e9 := e9.symm
  subst e9
  refine r_istore g [(9, .int (hI μ a0_firm ((2 * x5).toNatClampNeg))), (8, .int (hI μ a0_firm ((2 * x4).toNatClampNeg))), (7, .int (hI μ a0_firm ((2 * x3).toNatClampNeg))), (0, .ref a0), (1, .ref a1), (2, .int x2), (3, .int x3), (4, .int x4), (5, .int x5), (6, .int x6)] dX12_articleOf_21 (by decide) rfl ?_
  refine r_aload_n g dX12_articleOf_23 rfl ?_
  refine r_iload g dX12_articleOf_24 rfl ?_
  refine r_iload g dX12_articleOf_26 rfl ?_
  refine r_aload_n g dX12_articleOf_28 rfl ?_
  refine r_getI g fX12_277 rfl hs_a0 dX12_articleOf_29 ?_
  obtain ⟨d1, Z1, hc1, hd1, h1⟩ := h
  refine r_callV (st := []) (As := [.int (hI μ a0_firm ((2 * x3).toNatClampNeg)), .int (hI μ a0_firm ((2 * x4).toNatClampNeg)), .int (hI μ a0 37)]) g sX12_283 iX12_treatyOf eX12_treatyOf rfl hs_a0 rfl (Nat.le_of_ble_eq_true rfl) dX12_articleOf_32 hd1 (Nat.le_refl 0) (Nat.le_refl 0) hc1 (fun r10 μ11 hZ1 => ?_)
  replace h := h1 _ _ hZ1
  clear h1 hc1 hd1 hZ1 Z1 d1
  obtain ⟨y12, rfl, h⟩ := h
  refine r_istore g [(10, .int y12), (9, .int (hI μ a0_firm ((2 * x5).toNatClampNeg))), (8, .int (hI μ a0_firm ((2 * x4).toNatClampNeg))), (7, .int (hI μ a0_firm ((2 * x3).toNatClampNeg))), (0, .ref a0), (1, .ref a1), (2, .int x2), (3, .int x3), (4, .int x4), (5, .int x5), (6, .int x6)] dX12_articleOf_35 (by decide) rfl ?_
  refine r_iload g dX12_articleOf_37 rfl ?_
  refine r_iconst g (-1) dX12_articleOf_39 (by decide) ?_
  refine r_icmp_ne g 45 dX12_articleOf_40 (by decide) (fun c13 => ?_) (fun c13 => ?_)
  · replace h := h.1 c13
    refine r_aload_n g dX12_articleOf_45 rfl ?_
    refine r_bipush g 8 dX12_articleOf_46 (by decide) ?_
    refine r_iload g dX12_articleOf_48 rfl ?_
    refine r_iadd g dX12_articleOf_50 ?_
    obtain ⟨N14, hs_a1, h⟩ := h
    obtain ⟨hi15, h⟩ := h
    refine r_iaload g hs_a1 hi15 dX12_articleOf_51 ?_
    refine r_aload_n g dX12_articleOf_52 rfl ?_
    obtain ⟨hs_a0_, h⟩ := h
    obtain ⟨treaty_16, hr_treaty_16, h⟩ := h
    refine r_getR g fX12_29 rfl hs_a0_ hr_treaty_16 dX12_articleOf_53 ?_
    refine r_iload g dX12_articleOf_56 rfl ?_
    refine r_bipush g 8 dX12_articleOf_58 (by decide) ?_
    refine r_iadd g dX12_articleOf_60 ?_
    obtain ⟨N17, hs_treaty_16, h⟩ := h
    obtain ⟨hi18, h⟩ := h
    refine r_iaload g hs_treaty_16 hi18 dX12_articleOf_61 ?_
    refine r_icmp_ge g 67 dX12_articleOf_62 (by decide) (fun c19 => ?_) (fun c19 => ?_)
    · replace h := h.1 c19
      refine r_aload_n g dX12_articleOf_67 rfl ?_
      refine r_getR g fX12_29 rfl hs_a0_ hr_treaty_16 dX12_articleOf_68 ?_
      refine r_iload g dX12_articleOf_71 rfl ?_
      refine r_bipush g 9 dX12_articleOf_73 (by decide) ?_
      refine r_iadd g dX12_articleOf_75 ?_
      obtain ⟨hi20, h⟩ := h
      refine r_iaload g hs_treaty_16 hi20 dX12_articleOf_76 ?_
      refine r_iconst g 1 dX12_articleOf_77 (by decide) ?_
      refine r_icmp_ne g 88 dX12_articleOf_78 (by decide) (fun c21 => ?_) (fun c21 => ?_)
      · replace h := h.1 c21
        refine r_aload_n g dX12_articleOf_88 rfl ?_
        refine r_getR g fX12_29 rfl hs_a0_ hr_treaty_16 dX12_articleOf_89 ?_
        refine r_iload g dX12_articleOf_92 rfl ?_
        refine r_bipush g 9 dX12_articleOf_94 (by decide) ?_
        refine r_iadd g dX12_articleOf_96 ?_
        refine r_iaload g hs_treaty_16 hi20 dX12_articleOf_97 ?_
        refine r_iconst g 2 dX12_articleOf_98 (by decide) ?_
        refine r_icmp_ne g 127 dX12_articleOf_99 (by decide) (fun c22 => ?_) (fun c22 => ?_)
        · replace h := h.1 c22
          refine r_sub g (lv' := [(0, .ref a0), (1, .ref a1), (2, .int x2), (6, .int x6), (10, .int y12)]) (⟨rfl, rfl, rfl, rfl, rfl, trivial⟩) ?_
          exact h
        · replace h := h.2 c22
          refine r_iload g dX12_articleOf_102 rfl ?_
          refine r_iload g dX12_articleOf_104 rfl ?_
          refine r_icmp_eq g 127 dX12_articleOf_106 (by decide) (fun c23 => ?_) (fun c23 => ?_)
          · replace h := h.1 c23
            refine r_sub g (lv' := [(0, .ref a0), (1, .ref a1), (2, .int x2), (6, .int x6), (10, .int y12)]) (⟨rfl, rfl, rfl, rfl, rfl, trivial⟩) ?_
            exact h
          · replace h := h.2 c23
            refine r_aload_n g dX12_articleOf_109 rfl ?_
            refine r_iload g dX12_articleOf_110 rfl ?_
            refine r_iload g dX12_articleOf_112 rfl ?_
            refine r_aload_n g dX12_articleOf_114 rfl ?_
            refine r_getI g fX12_277 rfl hs_a0_ dX12_articleOf_115 ?_
            obtain ⟨d1, Z1, hc1, hd1, h1⟩ := h
            refine r_callV (st := []) (As := [.int (hI μ a0_firm ((2 * x5).toNatClampNeg)), .int (hI μ a0_firm ((2 * x3).toNatClampNeg)), .int (hI μ11 a0 37)]) g sX12_283 iX12_treatyOf eX12_treatyOf rfl hs_a0_ rfl (Nat.le_of_ble_eq_true rfl) dX12_articleOf_118 hd1 (Nat.le_refl 0) (Nat.le_refl 0) hc1 (fun r24 μ25 hZ1 => ?_)
            replace h := h1 _ _ hZ1
            clear h1 hc1 hd1 hZ1 Z1 d1
            obtain ⟨y26, rfl, h⟩ := h
            refine r_iconst g (-1) dX12_articleOf_121 (by decide) ?_
            refine r_icmp_ne g 127 dX12_articleOf_122 (by decide) (fun c27 => ?_) (fun c27 => ?_)
            · replace h := h.1 c27
              refine r_sub g (lv' := [(0, .ref a0), (1, .ref a1), (2, .int x2), (6, .int x6), (10, .int y12)]) (⟨rfl, rfl, rfl, rfl, rfl, trivial⟩) ?_
              exact h
            · replace h := h.2 c27
              refine r_iconst g 3 dX12_articleOf_125 (by decide) ?_
              exact hr.2.1 _ rfl _ _ _ _ _ _ dX12_articleOf_126 rfl (Nat.le_refl 0) (Nat.le_refl 0) h
      · replace h := h.2 c21
        refine r_iload g dX12_articleOf_81 rfl ?_
        refine r_iload g dX12_articleOf_83 rfl ?_
        refine r_icmp_ne g 125 dX12_articleOf_85 (by decide) (fun c28 => ?_) (fun c28 => ?_)
        · replace h := h.1 c28
          refine r_iconst g 3 dX12_articleOf_125 (by decide) ?_
          exact hr.2.1 _ rfl _ _ _ _ _ _ dX12_articleOf_126 rfl (Nat.le_refl 0) (Nat.le_refl 0) h
        · replace h := h.2 c28
          refine r_aload_n g dX12_articleOf_88 rfl ?_
          refine r_getR g fX12_29 rfl hs_a0_ hr_treaty_16 dX12_articleOf_89 ?_
          refine r_iload g dX12_articleOf_92 rfl ?_
          refine r_bipush g 9 dX12_articleOf_94 (by decide) ?_
          refine r_iadd g dX12_articleOf_96 ?_
          refine r_iaload g hs_treaty_16 hi20 dX12_articleOf_97 ?_
          refine r_iconst g 2 dX12_articleOf_98 (by decide) ?_
          refine r_icmp_ne g 127 dX12_articleOf_99 (by decide) (fun c29 => ?_) (fun c29 => ?_)
          · replace h := h.1 c29
            refine r_sub g (lv' := [(0, .ref a0), (1, .ref a1), (2, .int x2), (6, .int x6), (10, .int y12)]) (⟨rfl, rfl, rfl, rfl, rfl, trivial⟩) ?_
            exact h
          · replace h := h.2 c29
            refine r_iload g dX12_articleOf_102 rfl ?_
            refine r_iload g dX12_articleOf_104 rfl ?_
            refine r_icmp_eq g 127 dX12_articleOf_106 (by decide) (fun c30 => ?_) (fun c30 => ?_)
            · replace h := h.1 c30
              refine r_sub g (lv' := [(0, .ref a0), (1, .ref a1), (2, .int x2), (6, .int x6), (10, .int y12)]) (⟨rfl, rfl, rfl, rfl, rfl, trivial⟩) ?_
              exact h
            · replace h := h.2 c30
              refine r_aload_n g dX12_articleOf_109 rfl ?_
              refine r_iload g dX12_articleOf_110 rfl ?_
              refine r_iload g dX12_articleOf_112 rfl ?_
              refine r_aload_n g dX12_articleOf_114 rfl ?_
              refine r_getI g fX12_277 rfl hs_a0_ dX12_articleOf_115 ?_
              obtain ⟨d1, Z1, hc1, hd1, h1⟩ := h
              refine r_callV (st := []) (As := [.int (hI μ a0_firm ((2 * x5).toNatClampNeg)), .int (hI μ a0_firm ((2 * x3).toNatClampNeg)), .int (hI μ11 a0 37)]) g sX12_283 iX12_treatyOf eX12_treatyOf rfl hs_a0_ rfl (Nat.le_of_ble_eq_true rfl) dX12_articleOf_118 hd1 (Nat.le_refl 0) (Nat.le_refl 0) hc1 (fun r31 μ32 hZ1 => ?_)
              replace h := h1 _ _ hZ1
              clear h1 hc1 hd1 hZ1 Z1 d1
              obtain ⟨y33, rfl, h⟩ := h
              refine r_iconst g (-1) dX12_articleOf_121 (by decide) ?_
              refine r_icmp_ne g 127 dX12_articleOf_122 (by decide) (fun c34 => ?_) (fun c34 => ?_)
              · replace h := h.1 c34
                refine r_sub g (lv' := [(0, .ref a0), (1, .ref a1), (2, .int x2), (6, .int x6), (10, .int y12)]) (⟨rfl, rfl, rfl, rfl, rfl, trivial⟩) ?_
                exact h
              · replace h := h.2 c34
                refine r_iconst g 3 dX12_articleOf_125 (by decide) ?_
                exact hr.2.1 _ rfl _ _ _ _ _ _ dX12_articleOf_126 rfl (Nat.le_refl 0) (Nat.le_refl 0) h
    · replace h := h.2 c19
      refine r_iconst g 2 dX12_articleOf_65 (by decide) ?_
      exact hr.2.1 _ rfl _ _ _ _ _ _ dX12_articleOf_66 rfl (Nat.le_refl 0) (Nat.le_refl 0) h
  · replace h := h.2 c13
    refine r_iconst g 1 dX12_articleOf_43 (by decide) ?_
    exact hr.2.1 _ rfl _ _ _ _ _ _ dX12_articleOf_44 rfl (Nat.le_refl 0) (Nat.le_refl 0) h
set_option maxHeartbeats 4000000 in
set_option maxRecDepth 100000 in
theorem B_X12_articleOf_127 {d : Nat} {ro : Nat → Nat} {J : JT} {Z : Option Value → Hp → Prop} (g : xCtx RX12 cX12_articleOf 11 d 0 0 yX12_articleOf.name ro J) (hr : xRet cX12_articleOf (some .int) 0 0 Z J) {μ : Hp} {a0 : Nat} {a1 : Nat} {x2 : Int32} {x6 : Int32} {x10 : Int32} {N_a1 : Nat} {a0_treaty : Nat} {N_a0_treaty : Nat} (hs_a0 : hS μ a0 = some (15, 65)) (hs_a1 : hS μ a1 = some (0, N_a1)) (hr_a0_treaty : hR μ a0 12 = some a0_treaty) (hs_a0_treaty : hS μ a0_treaty = some (0, N_a0_treaty))
    (h : ((¬ x2 = 0 → ((¬ x2 = 0 → Z (some (.int 0)) μ) ∧ (x2 = 0 → vp_in (x6 + 4) N_a1 ∧ vp_in (x10 + 7) N_a0_treaty ∧ (((hI μ a0_treaty ((x10 + 7).toNatClampNeg)) ≤ ((hI μ a0 37) - (hI μ a1 ((x6 + 4).toNatClampNeg))) → Z (some (.int 0)) μ) ∧ (¬ (hI μ a0_treaty ((x10 + 7).toNatClampNeg)) ≤ ((hI μ a0 37) - (hI μ a1 ((x6 + 4).toNatClampNeg))) → Z (some (.int 5)) μ))))) ∧ (x2 = 0 → vp_in (x6 + 3) N_a1 ∧ vp_in (x10 + 6) N_a0_treaty ∧ (((hI μ a0_treaty ((x10 + 6).toNatClampNeg)) ≤ (hI μ a1 ((x6 + 3).toNatClampNeg)) → ((¬ x2 = 0 → Z (some (.int 0)) μ) ∧ (x2 = 0 → vp_in (x6 + 4) N_a1 ∧ vp_in (x10 + 7) N_a0_treaty ∧ (((hI μ a0_treaty ((x10 + 7).toNatClampNeg)) ≤ ((hI μ a0 37) - (hI μ a1 ((x6 + 4).toNatClampNeg))) → Z (some (.int 0)) μ) ∧ (¬ (hI μ a0_treaty ((x10 + 7).toNatClampNeg)) ≤ ((hI μ a0 37) - (hI μ a1 ((x6 + 4).toNatClampNeg))) → Z (some (.int 5)) μ))))) ∧ (¬ (hI μ a0_treaty ((x10 + 6).toNatClampNeg)) ≤ (hI μ a1 ((x6 + 3).toNatClampNeg)) → Z (some (.int 4)) μ))))) :
    J μ 0 0 127 [(0, .ref a0), (1, .ref a1), (2, .int x2), (6, .int x6), (10, .int x10)] [] := by
  refine r_iload_n g dX12_articleOf_127 rfl ?_
  refine r_if_ne g 152 dX12_articleOf_128 (by decide) (fun c1 => ?_) (fun c1 => ?_)
  · replace h := h.1 c1
    refine r_iload_n g dX12_articleOf_152 rfl ?_
    refine r_if_ne g 184 dX12_articleOf_153 (by decide) (fun c2 => ?_) (fun c2 => ?_)
    · replace h := h.1 c2
      refine r_iconst g 0 dX12_articleOf_184 (by decide) ?_
      exact hr.2.1 _ rfl _ _ _ _ _ _ dX12_articleOf_185 rfl (Nat.le_refl 0) (Nat.le_refl 0) h
    · replace h := h.2 c2
      refine r_aload_n g dX12_articleOf_156 rfl ?_
      refine r_getI g fX12_277 rfl hs_a0 dX12_articleOf_157 ?_
      refine r_aload_n g dX12_articleOf_160 rfl ?_
      refine r_iload g dX12_articleOf_161 rfl ?_
      refine r_iconst g 4 dX12_articleOf_163 (by decide) ?_
      refine r_iadd g dX12_articleOf_164 ?_
      obtain ⟨hi3, h⟩ := h
      refine r_iaload g hs_a1 hi3 dX12_articleOf_165 ?_
      refine r_isub g dX12_articleOf_166 ?_
      refine r_aload_n g dX12_articleOf_167 rfl ?_
      refine r_getR g fX12_29 rfl hs_a0 hr_a0_treaty dX12_articleOf_168 ?_
      refine r_iload g dX12_articleOf_171 rfl ?_
      refine r_bipush g 7 dX12_articleOf_173 (by decide) ?_
      refine r_iadd g dX12_articleOf_175 ?_
      obtain ⟨hi4, h⟩ := h
      refine r_iaload g hs_a0_treaty hi4 dX12_articleOf_176 ?_
      refine r_icmp_ge g 184 dX12_articleOf_177 (by decide) (fun c5 => ?_) (fun c5 => ?_)
      · replace h := h.1 c5
        refine r_iconst g 0 dX12_articleOf_184 (by decide) ?_
        exact hr.2.1 _ rfl _ _ _ _ _ _ dX12_articleOf_185 rfl (Nat.le_refl 0) (Nat.le_refl 0) h
      · replace h := h.2 c5
        refine r_iconst g 5 dX12_articleOf_180 (by decide) ?_
        refine r_goto g 185 dX12_articleOf_181 (by decide) ?_
        exact hr.2.1 _ rfl _ _ _ _ _ _ dX12_articleOf_185 rfl (Nat.le_refl 0) (Nat.le_refl 0) h
  · replace h := h.2 c1
    refine r_aload_n g dX12_articleOf_131 rfl ?_
    refine r_iload g dX12_articleOf_132 rfl ?_
    refine r_iconst g 3 dX12_articleOf_134 (by decide) ?_
    refine r_iadd g dX12_articleOf_135 ?_
    obtain ⟨hi6, h⟩ := h
    refine r_iaload g hs_a1 hi6 dX12_articleOf_136 ?_
    refine r_aload_n g dX12_articleOf_137 rfl ?_
    refine r_getR g fX12_29 rfl hs_a0 hr_a0_treaty dX12_articleOf_138 ?_
    refine r_iload g dX12_articleOf_141 rfl ?_
    refine r_bipush g 6 dX12_articleOf_143 (by decide) ?_
    refine r_iadd g dX12_articleOf_145 ?_
    obtain ⟨hi7, h⟩ := h
    refine r_iaload g hs_a0_treaty hi7 dX12_articleOf_146 ?_
    refine r_icmp_ge g 152 dX12_articleOf_147 (by decide) (fun c8 => ?_) (fun c8 => ?_)
    · replace h := h.1 c8
      refine r_iload_n g dX12_articleOf_152 rfl ?_
      refine r_if_ne g 184 dX12_articleOf_153 (by decide) (fun c9 => ?_) (fun c9 => ?_)
      · replace h := h.1 c9
        refine r_iconst g 0 dX12_articleOf_184 (by decide) ?_
        exact hr.2.1 _ rfl _ _ _ _ _ _ dX12_articleOf_185 rfl (Nat.le_refl 0) (Nat.le_refl 0) h
      · replace h := h.2 c9
        refine r_aload_n g dX12_articleOf_156 rfl ?_
        refine r_getI g fX12_277 rfl hs_a0 dX12_articleOf_157 ?_
        refine r_aload_n g dX12_articleOf_160 rfl ?_
        refine r_iload g dX12_articleOf_161 rfl ?_
        refine r_iconst g 4 dX12_articleOf_163 (by decide) ?_
        refine r_iadd g dX12_articleOf_164 ?_
        obtain ⟨hi10, h⟩ := h
        refine r_iaload g hs_a1 hi10 dX12_articleOf_165 ?_
        refine r_isub g dX12_articleOf_166 ?_
        refine r_aload_n g dX12_articleOf_167 rfl ?_
        refine r_getR g fX12_29 rfl hs_a0 hr_a0_treaty dX12_articleOf_168 ?_
        refine r_iload g dX12_articleOf_171 rfl ?_
        refine r_bipush g 7 dX12_articleOf_173 (by decide) ?_
        refine r_iadd g dX12_articleOf_175 ?_
        obtain ⟨hi11, h⟩ := h
        refine r_iaload g hs_a0_treaty hi11 dX12_articleOf_176 ?_
        refine r_icmp_ge g 184 dX12_articleOf_177 (by decide) (fun c12 => ?_) (fun c12 => ?_)
        · replace h := h.1 c12
          refine r_iconst g 0 dX12_articleOf_184 (by decide) ?_
          exact hr.2.1 _ rfl _ _ _ _ _ _ dX12_articleOf_185 rfl (Nat.le_refl 0) (Nat.le_refl 0) h
        · replace h := h.2 c12
          refine r_iconst g 5 dX12_articleOf_180 (by decide) ?_
          refine r_goto g 185 dX12_articleOf_181 (by decide) ?_
          exact hr.2.1 _ rfl _ _ _ _ _ _ dX12_articleOf_185 rfl (Nat.le_refl 0) (Nat.le_refl 0) h
    · replace h := h.2 c8
      refine r_iconst g 4 dX12_articleOf_150 (by decide) ?_
      exact hr.2.1 _ rfl _ _ _ _ _ _ dX12_articleOf_151 rfl (Nat.le_refl 0) (Nat.le_refl 0) h
theorem I_X12_articleOf {d : Nat} {ro : Nat → Nat} {Z : Option Value → Hp → Prop} {μ : Hp} {a0 : Nat} {a1 : Nat} {x2 : Int32} {x3 : Int32} {x4 : Int32} {x5 : Int32} {x6 : Int32} (h : ∀ J, xCtx RX12 cX12_articleOf 11 d 0 0 yX12_articleOf.name ro J → xRet cX12_articleOf (some .int) 0 0 Z J → J μ 0 0 0 [(0, .ref a0), (1, .ref a1), (2, .int x2), (3, .int x3), (4, .int x4), (5, .int x5), (6, .int x6)] []) : xC d yX12_articleOf cX12_articleOf 11 (some .int) 0 0 [.ref a0, .ref a1, .int x2, .int x3, .int x4, .int x5, .int x6] μ ro Z :=
  xC_intro (own := RX12) (lv := [(0, .ref a0), (1, .ref a1), (2, .int x2), (3, .int x3), (4, .int x4), (5, .int x5), (6, .int x6)]) (by decide) rfl (Nat.le_of_ble_eq_true rfl) rfl (fun J g hr => r_sub g (lv' := [(0, .ref a0), (1, .ref a1), (2, .int x2), (3, .int x3), (4, .int x4), (5, .int x5), (6, .int x6)]) (⟨rfl, rfl, rfl, rfl, rfl, rfl, rfl, trivial⟩) (h J g hr))
theorem dX12_laysHop_0 : decode cX12_laysHop 0 = .ok (.aload_n 0, 1) := by decide +kernel
theorem dX12_laysHop_1 : decode cX12_laysHop 1 = .ok (.iload_n 3, 1) := by decide +kernel
theorem dX12_laysHop_2 : decode cX12_laysHop 2 = .ok (.invokevirtual 280, 3) := by decide +kernel
theorem dX12_laysHop_5 : decode cX12_laysHop 5 = .ok (.istore 7, 2) := by decide +kernel
theorem dX12_laysHop_7 : decode cX12_laysHop 7 = .ok (.aload_n 0, 1) := by decide +kernel
theorem dX12_laysHop_8 : decode cX12_laysHop 8 = .ok (.iload 7, 2) := by decide +kernel
theorem dX12_laysHop_10 : decode cX12_laysHop 10 = .ok (.aload_n 0, 1) := by decide +kernel
theorem dX12_laysHop_11 : decode cX12_laysHop 11 = .ok (.iload 4, 2) := by decide +kernel
theorem dX12_laysHop_13 : decode cX12_laysHop 13 = .ok (.invokevirtual 280, 3) := by decide +kernel
theorem dX12_laysHop_16 : decode cX12_laysHop 16 = .ok (.if_icmp .ne 7, 3) := by decide +kernel
theorem dX12_laysHop_19 : decode cX12_laysHop 19 = .ok (.iconst 0, 1) := by decide +kernel
theorem dX12_laysHop_20 : decode cX12_laysHop 20 = .ok (.goto 16, 3) := by decide +kernel
theorem dX12_laysHop_23 : decode cX12_laysHop 23 = .ok (.aload_n 0, 1) := by decide +kernel
theorem dX12_laysHop_24 : decode cX12_laysHop 24 = .ok (.aload_n 1, 1) := by decide +kernel
theorem dX12_laysHop_25 : decode cX12_laysHop 25 = .ok (.iload_n 2, 1) := by decide +kernel
theorem dX12_laysHop_26 : decode cX12_laysHop 26 = .ok (.iload_n 3, 1) := by decide +kernel
theorem dX12_laysHop_27 : decode cX12_laysHop 27 = .ok (.iload 4, 2) := by decide +kernel
theorem dX12_laysHop_29 : decode cX12_laysHop 29 = .ok (.iload 5, 2) := by decide +kernel
theorem dX12_laysHop_31 : decode cX12_laysHop 31 = .ok (.iload 6, 2) := by decide +kernel
theorem dX12_laysHop_33 : decode cX12_laysHop 33 = .ok (.invokevirtual 287, 3) := by decide +kernel
theorem dX12_laysHop_36 : decode cX12_laysHop 36 = .ok (.putfield 291, 3) := by decide +kernel
theorem dX12_laysHop_39 : decode cX12_laysHop 39 = .ok (.aload_n 0, 1) := by decide +kernel
theorem dX12_laysHop_40 : decode cX12_laysHop 40 = .ok (.iload 7, 2) := by decide +kernel
theorem dX12_laysHop_42 : decode cX12_laysHop 42 = .ok (.aload_n 0, 1) := by decide +kernel
theorem dX12_laysHop_43 : decode cX12_laysHop 43 = .ok (.iload 4, 2) := by decide +kernel
theorem dX12_laysHop_45 : decode cX12_laysHop 45 = .ok (.invokevirtual 280, 3) := by decide +kernel
theorem dX12_laysHop_48 : decode cX12_laysHop 48 = .ok (.aload_n 0, 1) := by decide +kernel
theorem dX12_laysHop_49 : decode cX12_laysHop 49 = .ok (.getfield 277, 3) := by decide +kernel
theorem dX12_laysHop_52 : decode cX12_laysHop 52 = .ok (.invokevirtual 283, 3) := by decide +kernel
theorem dX12_laysHop_55 : decode cX12_laysHop 55 = .ok (.istore 8, 2) := by decide +kernel
theorem dX12_laysHop_57 : decode cX12_laysHop 57 = .ok (.iload 7, 2) := by decide +kernel
theorem dX12_laysHop_59 : decode cX12_laysHop 59 = .ok (.aload_n 0, 1) := by decide +kernel
theorem dX12_laysHop_60 : decode cX12_laysHop 60 = .ok (.iload 4, 2) := by decide +kernel
theorem dX12_laysHop_62 : decode cX12_laysHop 62 = .ok (.invokevirtual 280, 3) := by decide +kernel
theorem dX12_laysHop_65 : decode cX12_laysHop 65 = .ok (.if_icmp .ne 11, 3) := by decide +kernel
theorem dX12_laysHop_68 : decode cX12_laysHop 68 = .ok (.aload_n 0, 1) := by decide +kernel
theorem dX12_laysHop_69 : decode cX12_laysHop 69 = .ok (.iconst 0, 1) := by decide +kernel
theorem dX12_laysHop_70 : decode cX12_laysHop 70 = .ok (.putfield 294, 3) := by decide +kernel
theorem dX12_laysHop_73 : decode cX12_laysHop 73 = .ok (.goto 76, 3) := by decide +kernel
theorem dX12_laysHop_76 : decode cX12_laysHop 76 = .ok (.aload_n 0, 1) := by decide +kernel
theorem dX12_laysHop_77 : decode cX12_laysHop 77 = .ok (.getfield 291, 3) := by decide +kernel
theorem dX12_laysHop_80 : decode cX12_laysHop 80 = .ok (.i2l, 1) := by decide +kernel
theorem dX12_laysHop_81 : decode cX12_laysHop 81 = .ok (.lconst 1, 1) := by decide +kernel
theorem dX12_laysHop_82 : decode cX12_laysHop 82 = .ok (.ldc2_w 297, 3) := by decide +kernel
theorem dX12_laysHop_85 : decode cX12_laysHop 85 = .ok (.invokestatic 161, 3) := by decide +kernel
theorem dX12_laysHop_88 : decode cX12_laysHop 88 = .ok (.ifCond .eq 21, 3) := by decide +kernel
theorem dX12_laysHop_91 : decode cX12_laysHop 91 = .ok (.aload_n 0, 1) := by decide +kernel
theorem dX12_laysHop_92 : decode cX12_laysHop 92 = .ok (.aload_n 0, 1) := by decide +kernel
theorem dX12_laysHop_93 : decode cX12_laysHop 93 = .ok (.getfield 17, 3) := by decide +kernel
theorem dX12_laysHop_96 : decode cX12_laysHop 96 = .ok (.iconst 3, 1) := by decide +kernel
theorem dX12_laysHop_97 : decode cX12_laysHop 97 = .ok (.iload 7, 2) := by decide +kernel
theorem dX12_laysHop_99 : decode cX12_laysHop 99 = .ok (.imul, 1) := by decide +kernel
theorem dX12_laysHop_100 : decode cX12_laysHop 100 = .ok (.iload_n 2, 1) := by decide +kernel
theorem dX12_laysHop_101 : decode cX12_laysHop 101 = .ok (.iadd, 1) := by decide +kernel
theorem dX12_laysHop_102 : decode cX12_laysHop 102 = .ok (.iaload, 1) := by decide +kernel
theorem dX12_laysHop_103 : decode cX12_laysHop 103 = .ok (.putfield 294, 3) := by decide +kernel
theorem dX12_laysHop_106 : decode cX12_laysHop 106 = .ok (.goto 43, 3) := by decide +kernel
theorem dX12_laysHop_109 : decode cX12_laysHop 109 = .ok (.aload_n 0, 1) := by decide +kernel
theorem dX12_laysHop_110 : decode cX12_laysHop 110 = .ok (.aload_n 0, 1) := by decide +kernel
theorem dX12_laysHop_111 : decode cX12_laysHop 111 = .ok (.getfield 291, 3) := by decide +kernel
theorem dX12_laysHop_114 : decode cX12_laysHop 114 = .ok (.ifCond .le 15, 3) := by decide +kernel
theorem dX12_laysHop_117 : decode cX12_laysHop 117 = .ok (.aload_n 0, 1) := by decide +kernel
theorem dX12_laysHop_118 : decode cX12_laysHop 118 = .ok (.getfield 29, 3) := by decide +kernel
theorem dX12_laysHop_121 : decode cX12_laysHop 121 = .ok (.iload 8, 2) := by decide +kernel
theorem dX12_laysHop_123 : decode cX12_laysHop 123 = .ok (.iconst 4, 1) := by decide +kernel
theorem dX12_laysHop_124 : decode cX12_laysHop 124 = .ok (.iadd, 1) := by decide +kernel
theorem dX12_laysHop_125 : decode cX12_laysHop 125 = .ok (.iaload, 1) := by decide +kernel
theorem dX12_laysHop_126 : decode cX12_laysHop 126 = .ok (.goto 20, 3) := by decide +kernel
theorem dX12_laysHop_129 : decode cX12_laysHop 129 = .ok (.aload_n 0, 1) := by decide +kernel
theorem dX12_laysHop_130 : decode cX12_laysHop 130 = .ok (.getfield 29, 3) := by decide +kernel
theorem dX12_laysHop_133 : decode cX12_laysHop 133 = .ok (.iload 8, 2) := by decide +kernel
theorem dX12_laysHop_135 : decode cX12_laysHop 135 = .ok (.iload_n 2, 1) := by decide +kernel
theorem dX12_laysHop_136 : decode cX12_laysHop 136 = .ok (.ifCond .ne 7, 3) := by decide +kernel
theorem dX12_laysHop_139 : decode cX12_laysHop 139 = .ok (.iconst 3, 1) := by decide +kernel
theorem dX12_laysHop_140 : decode cX12_laysHop 140 = .ok (.goto 4, 3) := by decide +kernel
theorem dX12_laysHop_143 : decode cX12_laysHop 143 = .ok (.iconst 5, 1) := by decide +kernel
theorem dX12_laysHop_144 : decode cX12_laysHop 144 = .ok (.iadd, 1) := by decide +kernel
theorem dX12_laysHop_145 : decode cX12_laysHop 145 = .ok (.iaload, 1) := by decide +kernel
theorem dX12_laysHop_146 : decode cX12_laysHop 146 = .ok (.putfield 294, 3) := by decide +kernel
theorem dX12_laysHop_149 : decode cX12_laysHop 149 = .ok (.return_, 1) := by decide +kernel
set_option maxHeartbeats 4000000 in
set_option maxRecDepth 100000 in
theorem B_X12_laysHop_0 {d : Nat} {ro : Nat → Nat} {J : JT} {Z : Option Value → Hp → Prop} (g : xCtx RX12 cX12_laysHop 9 d 0 0 yX12_laysHop.name ro J) (hr : xRet cX12_laysHop none 0 0 Z J) {μ : Hp} {a0 : Nat} {a1 : Nat} {x2 : Int32} {x3 : Int32} {x4 : Int32} {x5 : Int32} {x6 : Int32} {a0_firm : Nat} {N_a0_firm : Nat} (hs_a0 : hS μ a0 = some (15, 65)) (hr_a0_firm : hR μ a0 10 = some a0_firm) (hs_a0_firm : hS μ a0_firm = some (0, N_a0_firm)) (hd9 : 1 ≤ d)
    (h : vp_in (2 * x3) N_a0_firm ∧ vp_in (2 * x4) N_a0_firm ∧ ((¬ (hI μ a0_firm ((2 * x3).toNatClampNeg)) = (hI μ a0_firm ((2 * x4).toNatClampNeg)) → xCall d yX12_articleOf cX12_articleOf 11 (some .int) [.ref a0, .ref a1, .int x2, .int x3, .int x4, .int x5, .int x6] μ ro (fun r8 μ9 => ∃ y10 : Int32, r8 = some (.int y10) ∧ hS μ9 a0 = some (15, 65) ∧ ∃ firm_11 : Nat, hR μ9 a0 10 = some firm_11 ∧ ∃ N12 : Nat, hS μ9 firm_11 = some (0, N12) ∧ vp_in (2 * x4) N12 ∧ xCall d yX12_treatyOf cX12_treatyOf 8 (some .int) [.ref a0, .int (hI μ a0_firm ((2 * x3).toNatClampNeg)), .int (hI (wI μ9 a0 42 y10) firm_11 ((2 * x4).toNatClampNeg)), .int (hI (wI μ9 a0 42 y10) a0 37)] (wI μ9 a0 42 y10) ro (fun r16 μ17 => ∃ y18 : Int32, r16 = some (.int y18) ∧ hS μ17 a0 = some (15, 65) ∧ ∃ firm_19 : Nat, hR μ17 a0 10 = some firm_19 ∧ ∃ N20 : Nat, hS μ17 firm_19 = some (0, N20) ∧ vp_in (2 * x4) N20 ∧ ((¬ (hI μ a0_firm ((2 * x3).toNatClampNeg)) = (hI μ17 firm_19 ((2 * x4).toNatClampNeg)) → (((hI μ17 a0 42) < 1 → (((hI μ17 a0 42) ≤ 0 → ∃ treaty_29 : Nat, hR μ17 a0 12 = some treaty_29 ∧ ((¬ x2 = 0 → ∃ N31 : Nat, hS μ17 treaty_29 = some (0, N31) ∧ vp_in (y18 + 5) N31 ∧ Z none (wI μ17 a0 41 (hI μ17 treaty_29 ((y18 + 5).toNatClampNeg)))) ∧ (x2 = 0 → ∃ N33 : Nat, hS μ17 treaty_29 = some (0, N33) ∧ vp_in (y18 + 3) N33 ∧ Z none (wI μ17 a0 41 (hI μ17 treaty_29 ((y18 + 3).toNatClampNeg)))))) ∧ (¬ (hI μ17 a0 42) ≤ 0 → ∃ treaty_35 : Nat, hR μ17 a0 12 = some treaty_35 ∧ ∃ N36 : Nat, hS μ17 treaty_35 = some (0, N36) ∧ vp_in (y18 + 4) N36 ∧ Z none (wI μ17 a0 41 (hI μ17 treaty_35 ((y18 + 4).toNatClampNeg)))))) ∧ (¬ (hI μ17 a0 42) < 1 → ((3 < (hI μ17 a0 42) → (((hI μ17 a0 42) ≤ 0 → ∃ treaty_42 : Nat, hR μ17 a0 12 = some treaty_42 ∧ ((¬ x2 = 0 → ∃ N44 : Nat, hS μ17 treaty_42 = some (0, N44) ∧ vp_in (y18 + 5) N44 ∧ Z none (wI μ17 a0 41 (hI μ17 treaty_42 ((y18 + 5).toNatClampNeg)))) ∧ (x2 = 0 → ∃ N46 : Nat, hS μ17 treaty_42 = some (0, N46) ∧ vp_in (y18 + 3) N46 ∧ Z none (wI μ17 a0 41 (hI μ17 treaty_42 ((y18 + 3).toNatClampNeg)))))) ∧ (¬ (hI μ17 a0 42) ≤ 0 → ∃ treaty_48 : Nat, hR μ17 a0 12 = some treaty_48 ∧ ∃ N49 : Nat, hS μ17 treaty_48 = some (0, N49) ∧ vp_in (y18 + 4) N49 ∧ Z none (wI μ17 a0 41 (hI μ17 treaty_48 ((y18 + 4).toNatClampNeg)))))) ∧ (¬ 3 < (hI μ17 a0 42) → ∃ land_53 : Nat, hR μ17 a0 8 = some land_53 ∧ ∃ N54 : Nat, hS μ17 land_53 = some (0, N54) ∧ vp_in ((3 * (hI μ a0_firm ((2 * x3).toNatClampNeg))) + x2) N54 ∧ (∀ v56 : Int32, v56 = (hI μ17 land_53 (((3 * (hI μ a0_firm ((2 * x3).toNatClampNeg))) + x2).toNatClampNeg)) → Z none (wI μ17 a0 41 v56))))))) ∧ ((hI μ a0_firm ((2 * x3).toNatClampNeg)) = (hI μ17 firm_19 ((2 * x4).toNatClampNeg)) → Z none (wI μ17 a0 41 0)))))) ∧ ((hI μ a0_firm ((2 * x3).toNatClampNeg)) = (hI μ a0_firm ((2 * x4).toNatClampNeg)) → xCall d yX12_treatyOf cX12_treatyOf 8 (some .int) [.ref a0, .int (hI μ a0_firm ((2 * x3).toNatClampNeg)), .int (hI (wI μ a0 42 0) a0_firm ((2 * x4).toNatClampNeg)), .int (hI (wI μ a0 42 0) a0 37)] (wI μ a0 42 0) ro (fun r59 μ60 => ∃ y61 : Int32, r59 = some (.int y61) ∧ hS μ60 a0 = some (15, 65) ∧ ∃ firm_62 : Nat, hR μ60 a0 10 = some firm_62 ∧ ∃ N63 : Nat, hS μ60 firm_62 = some (0, N63) ∧ vp_in (2 * x4) N63 ∧ ((¬ (hI μ a0_firm ((2 * x3).toNatClampNeg)) = (hI μ60 firm_62 ((2 * x4).toNatClampNeg)) → (((hI μ60 a0 42) < 1 → (((hI μ60 a0 42) ≤ 0 → ∃ treaty_72 : Nat, hR μ60 a0 12 = some treaty_72 ∧ ((¬ x2 = 0 → ∃ N74 : Nat, hS μ60 treaty_72 = some (0, N74) ∧ vp_in (y61 + 5) N74 ∧ Z none (wI μ60 a0 41 (hI μ60 treaty_72 ((y61 + 5).toNatClampNeg)))) ∧ (x2 = 0 → ∃ N76 : Nat, hS μ60 treaty_72 = some (0, N76) ∧ vp_in (y61 + 3) N76 ∧ Z none (wI μ60 a0 41 (hI μ60 treaty_72 ((y61 + 3).toNatClampNeg)))))) ∧ (¬ (hI μ60 a0 42) ≤ 0 → ∃ treaty_78 : Nat, hR μ60 a0 12 = some treaty_78 ∧ ∃ N79 : Nat, hS μ60 treaty_78 = some (0, N79) ∧ vp_in (y61 + 4) N79 ∧ Z none (wI μ60 a0 41 (hI μ60 treaty_78 ((y61 + 4).toNatClampNeg)))))) ∧ (¬ (hI μ60 a0 42) < 1 → ((3 < (hI μ60 a0 42) → (((hI μ60 a0 42) ≤ 0 → ∃ treaty_85 : Nat, hR μ60 a0 12 = some treaty_85 ∧ ((¬ x2 = 0 → ∃ N87 : Nat, hS μ60 treaty_85 = some (0, N87) ∧ vp_in (y61 + 5) N87 ∧ Z none (wI μ60 a0 41 (hI μ60 treaty_85 ((y61 + 5).toNatClampNeg)))) ∧ (x2 = 0 → ∃ N89 : Nat, hS μ60 treaty_85 = some (0, N89) ∧ vp_in (y61 + 3) N89 ∧ Z none (wI μ60 a0 41 (hI μ60 treaty_85 ((y61 + 3).toNatClampNeg)))))) ∧ (¬ (hI μ60 a0 42) ≤ 0 → ∃ treaty_91 : Nat, hR μ60 a0 12 = some treaty_91 ∧ ∃ N92 : Nat, hS μ60 treaty_91 = some (0, N92) ∧ vp_in (y61 + 4) N92 ∧ Z none (wI μ60 a0 41 (hI μ60 treaty_91 ((y61 + 4).toNatClampNeg)))))) ∧ (¬ 3 < (hI μ60 a0 42) → ∃ land_96 : Nat, hR μ60 a0 8 = some land_96 ∧ ∃ N97 : Nat, hS μ60 land_96 = some (0, N97) ∧ vp_in ((3 * (hI μ a0_firm ((2 * x3).toNatClampNeg))) + x2) N97 ∧ (∀ v99 : Int32, v99 = (hI μ60 land_96 (((3 * (hI μ a0_firm ((2 * x3).toNatClampNeg))) + x2).toNatClampNeg)) → Z none (wI μ60 a0 41 v99))))))) ∧ ((hI μ a0_firm ((2 * x3).toNatClampNeg)) = (hI μ60 firm_62 ((2 * x4).toNatClampNeg)) → Z none (wI μ60 a0 41 0))))))) :
    J μ 0 0 0 [(0, .ref a0), (1, .ref a1), (2, .int x2), (3, .int x3), (4, .int x4), (5, .int x5), (6, .int x6)] [] := by
  refine r_aload_n g dX12_laysHop_0 rfl ?_
  refine r_iload_n g dX12_laysHop_1 rfl ?_
  obtain ⟨hi1, h⟩ := h
  refine r_callV (st := []) (As := [.int x3]) g sX12_280 iX12_landOf eX12_landOf rfl hs_a0 rfl (Nat.le_of_ble_eq_true rfl) dX12_laysHop_2 (by omega) (Nat.le_refl 0) (Nat.le_refl 0) (P_X12_landOf_0 (d := d - 1) hs_a0 hr_a0_firm hs_a0_firm hi1) (fun r2 μ3 hZ1 => ?_)
  obtain ⟨rfl, e9⟩ := hZ1
  replace e9 := e9.symm
  subst e9
  refine r_istore g [(7, .int (hI μ a0_firm ((2 * x3).toNatClampNeg))), (0, .ref a0), (1, .ref a1), (2, .int x2), (3, .int x3), (4, .int x4), (5, .int x5), (6, .int x6)] dX12_laysHop_5 (by decide) rfl ?_
  refine r_aload_n g dX12_laysHop_7 rfl ?_
  refine r_iload g dX12_laysHop_8 rfl ?_
  refine r_aload_n g dX12_laysHop_10 rfl ?_
  refine r_iload g dX12_laysHop_11 rfl ?_
  obtain ⟨hi4, h⟩ := h
  refine r_callV (st := [.int (hI μ a0_firm ((2 * x3).toNatClampNeg)), .ref a0]) (As := [.int x4]) g sX12_280 iX12_landOf eX12_landOf rfl hs_a0 rfl (Nat.le_of_ble_eq_true rfl) dX12_laysHop_13 (by omega) (Nat.le_refl 0) (Nat.le_refl 0) (P_X12_landOf_0 (d := d - 1) hs_a0 hr_a0_firm hs_a0_firm hi4) (fun r5 μ6 hZ1 => ?_)
  obtain ⟨rfl, e9⟩ := hZ1
  replace e9 := e9.symm
  subst e9
  refine r_icmp_ne g 23 dX12_laysHop_16 (by decide) (fun c7 => ?_) (fun c7 => ?_)
  · replace h := h.1 c7
    refine r_aload_n g dX12_laysHop_23 rfl ?_
    refine r_aload_n g dX12_laysHop_24 rfl ?_
    refine r_iload_n g dX12_laysHop_25 rfl ?_
    refine r_iload_n g dX12_laysHop_26 rfl ?_
    refine r_iload g dX12_laysHop_27 rfl ?_
    refine r_iload g dX12_laysHop_29 rfl ?_
    refine r_iload g dX12_laysHop_31 rfl ?_
    obtain ⟨d1, Z1, hc1, hd1, h1⟩ := h
    refine r_callV (st := [.ref a0]) (As := [.ref a1, .int x2, .int x3, .int x4, .int x5, .int x6]) g sX12_287 iX12_articleOf eX12_articleOf rfl hs_a0 rfl (Nat.le_of_ble_eq_true rfl) dX12_laysHop_33 hd1 (Nat.le_refl 0) (Nat.le_refl 0) hc1 (fun r8 μ9 hZ1 => ?_)
    replace h := h1 _ _ hZ1
    clear h1 hc1 hd1 hZ1 Z1 d1
    obtain ⟨y10, rfl, h⟩ := h
    obtain ⟨hs_a0_, h⟩ := h
    refine r_putI g fX12_291 rfl hs_a0_ rfl rfl dX12_laysHop_36 ?_
    refine r_aload_n g dX12_laysHop_39 rfl ?_
    refine r_iload g dX12_laysHop_40 rfl ?_
    refine r_aload_n g dX12_laysHop_42 rfl ?_
    refine r_iload g dX12_laysHop_43 rfl ?_
    obtain ⟨firm_11, hr_firm_11, h⟩ := h
    obtain ⟨N12, hs_firm_11, h⟩ := h
    obtain ⟨hi13, h⟩ := h
    refine r_callV (st := [.int (hI μ a0_firm ((2 * x3).toNatClampNeg)), .ref a0]) (As := [.int x4]) g sX12_280 iX12_landOf eX12_landOf rfl hs_a0_ rfl (Nat.le_of_ble_eq_true rfl) dX12_laysHop_45 (by omega) (Nat.le_refl 0) (Nat.le_refl 0) (P_X12_landOf_0 (d := d - 1) hs_a0_ hr_firm_11 hs_firm_11 hi13) (fun r14 μ15 hZ1 => ?_)
    obtain ⟨rfl, e9⟩ := hZ1
    replace e9 := e9.symm
    subst e9
    refine r_aload_n g dX12_laysHop_48 rfl ?_
    refine r_getI g fX12_277 rfl hs_a0_ dX12_laysHop_49 ?_
    obtain ⟨d1, Z1, hc1, hd1, h1⟩ := h
    refine r_callV (st := []) (As := [.int (hI μ a0_firm ((2 * x3).toNatClampNeg)), .int (hI (wI μ9 a0 42 y10) firm_11 ((2 * x4).toNatClampNeg)), .int (hI (wI μ9 a0 42 y10) a0 37)]) g sX12_283 iX12_treatyOf eX12_treatyOf rfl hs_a0_ rfl (Nat.le_of_ble_eq_true rfl) dX12_laysHop_52 hd1 (Nat.le_refl 0) (Nat.le_refl 0) hc1 (fun r16 μ17 hZ1 => ?_)
    replace h := h1 _ _ hZ1
    clear h1 hc1 hd1 hZ1 Z1 d1
    obtain ⟨y18, rfl, h⟩ := h
    refine r_istore g [(8, .int y18), (7, .int (hI μ a0_firm ((2 * x3).toNatClampNeg))), (0, .ref a0), (1, .ref a1), (2, .int x2), (3, .int x3), (4, .int x4), (5, .int x5), (6, .int x6)] dX12_laysHop_55 (by decide) rfl ?_
    refine r_iload g dX12_laysHop_57 rfl ?_
    refine r_aload_n g dX12_laysHop_59 rfl ?_
    refine r_iload g dX12_laysHop_60 rfl ?_
    obtain ⟨hs_a0__, h⟩ := h
    obtain ⟨firm_19, hr_firm_19, h⟩ := h
    obtain ⟨N20, hs_firm_19, h⟩ := h
    obtain ⟨hi21, h⟩ := h
    refine r_callV (st := [.int (hI μ a0_firm ((2 * x3).toNatClampNeg))]) (As := [.int x4]) g sX12_280 iX12_landOf eX12_landOf rfl hs_a0__ rfl (Nat.le_of_ble_eq_true rfl) dX12_laysHop_62 (by omega) (Nat.le_refl 0) (Nat.le_refl 0) (P_X12_landOf_0 (d := d - 1) hs_a0__ hr_firm_19 hs_firm_19 hi21) (fun r22 μ23 hZ1 => ?_)
    obtain ⟨rfl, e9⟩ := hZ1
    replace e9 := e9.symm
    subst e9
    refine r_icmp_ne g 76 dX12_laysHop_65 (by decide) (fun c24 => ?_) (fun c24 => ?_)
    · replace h := h.1 c24
      refine r_aload_n g dX12_laysHop_76 rfl ?_
      refine r_getI g fX12_291 rfl hs_a0__ dX12_laysHop_77 ?_
      refine r_i2l g dX12_laysHop_80 ?_
      refine r_lconst g 1 dX12_laysHop_81 (by decide) ?_
      refine r_ldc2 g 3 kX12_297 dX12_laysHop_82 ?_
      by_cases c25 : (hI μ17 a0 42) < 1
      · replace h := h.1 c25
        refine r_callS (st := []) (As := [.long (hI μ17 a0 42).toInt64, .long 1, .long 3]) g sX12_161 iX12_isIn rfl (Nat.le_of_ble_eq_true rfl) dX12_laysHop_85 (by omega) (Nat.le_refl 0) (Nat.le_refl 0) (Q_isIn_0 (d := d - 1) (x := (hI μ17 a0 42)) (a := 1) (b := 3) rfl (by decide) (by decide) c25) (fun r26 μ27 hZ1 => ?_)
        obtain ⟨rfl, e9⟩ := hZ1
        replace e9 := e9.symm
        subst e9
        refine r_if_eq g 109 dX12_laysHop_88 (by decide) (fun _ => ?_) (fun hz => absurd hz (by decide))
        refine r_aload_n g dX12_laysHop_109 rfl ?_
        refine r_aload_n g dX12_laysHop_110 rfl ?_
        refine r_getI g fX12_291 rfl hs_a0__ dX12_laysHop_111 ?_
        refine r_if_le g 129 dX12_laysHop_114 (by decide) (fun c28 => ?_) (fun c28 => ?_)
        · replace h := h.1 c28
          refine r_aload_n g dX12_laysHop_129 rfl ?_
          obtain ⟨treaty_29, hr_treaty_29, h⟩ := h
          refine r_getR g fX12_29 rfl hs_a0__ hr_treaty_29 dX12_laysHop_130 ?_
          refine r_iload g dX12_laysHop_133 rfl ?_
          refine r_iload_n g dX12_laysHop_135 rfl ?_
          refine r_if_ne g 143 dX12_laysHop_136 (by decide) (fun c30 => ?_) (fun c30 => ?_)
          · replace h := h.1 c30
            refine r_iconst g 5 dX12_laysHop_143 (by decide) ?_
            refine r_iadd g dX12_laysHop_144 ?_
            obtain ⟨N31, hs_treaty_29, h⟩ := h
            obtain ⟨hi32, h⟩ := h
            refine r_iaload g hs_treaty_29 hi32 dX12_laysHop_145 ?_
            refine r_putI g fX12_294 rfl hs_a0__ rfl rfl dX12_laysHop_146 ?_
            exact hr.1 rfl _ _ _ _ _ dX12_laysHop_149 (Nat.le_refl 0) (Nat.le_refl 0) h
          · replace h := h.2 c30
            refine r_iconst g 3 dX12_laysHop_139 (by decide) ?_
            refine r_goto g 144 dX12_laysHop_140 (by decide) ?_
            refine r_iadd g dX12_laysHop_144 ?_
            obtain ⟨N33, hs_treaty_29_, h⟩ := h
            obtain ⟨hi34, h⟩ := h
            refine r_iaload g hs_treaty_29_ hi34 dX12_laysHop_145 ?_
            refine r_putI g fX12_294 rfl hs_a0__ rfl rfl dX12_laysHop_146 ?_
            exact hr.1 rfl _ _ _ _ _ dX12_laysHop_149 (Nat.le_refl 0) (Nat.le_refl 0) h
        · replace h := h.2 c28
          refine r_aload_n g dX12_laysHop_117 rfl ?_
          obtain ⟨treaty_35, hr_treaty_35, h⟩ := h
          refine r_getR g fX12_29 rfl hs_a0__ hr_treaty_35 dX12_laysHop_118 ?_
          refine r_iload g dX12_laysHop_121 rfl ?_
          refine r_iconst g 4 dX12_laysHop_123 (by decide) ?_
          refine r_iadd g dX12_laysHop_124 ?_
          obtain ⟨N36, hs_treaty_35, h⟩ := h
          obtain ⟨hi37, h⟩ := h
          refine r_iaload g hs_treaty_35 hi37 dX12_laysHop_125 ?_
          refine r_goto g 146 dX12_laysHop_126 (by decide) ?_
          refine r_putI g fX12_294 rfl hs_a0__ rfl rfl dX12_laysHop_146 ?_
          exact hr.1 rfl _ _ _ _ _ dX12_laysHop_149 (Nat.le_refl 0) (Nat.le_refl 0) h
      · replace h := h.2 c25
        by_cases c38 : 3 < (hI μ17 a0 42)
        · replace h := h.1 c38
          refine r_callS (st := []) (As := [.long (hI μ17 a0 42).toInt64, .long 1, .long 3]) g sX12_161 iX12_isIn rfl (Nat.le_of_ble_eq_true rfl) dX12_laysHop_85 (by omega) (Nat.le_refl 0) (Nat.le_refl 0) (Q_isIn_1 (d := d - 1) (x := (hI μ17 a0 42)) (a := 1) (b := 3) rfl (by decide) (by decide) c25 c38) (fun r39 μ40 hZ1 => ?_)
          obtain ⟨rfl, e9⟩ := hZ1
          replace e9 := e9.symm
          subst e9
          refine r_if_eq g 109 dX12_laysHop_88 (by decide) (fun _ => ?_) (fun hz => absurd hz (by decide))
          refine r_aload_n g dX12_laysHop_109 rfl ?_
          refine r_aload_n g dX12_laysHop_110 rfl ?_
          refine r_getI g fX12_291 rfl hs_a0__ dX12_laysHop_111 ?_
          refine r_if_le g 129 dX12_laysHop_114 (by decide) (fun c41 => ?_) (fun c41 => ?_)
          · replace h := h.1 c41
            refine r_aload_n g dX12_laysHop_129 rfl ?_
            obtain ⟨treaty_42, hr_treaty_42, h⟩ := h
            refine r_getR g fX12_29 rfl hs_a0__ hr_treaty_42 dX12_laysHop_130 ?_
            refine r_iload g dX12_laysHop_133 rfl ?_
            refine r_iload_n g dX12_laysHop_135 rfl ?_
            refine r_if_ne g 143 dX12_laysHop_136 (by decide) (fun c43 => ?_) (fun c43 => ?_)
            · replace h := h.1 c43
              refine r_iconst g 5 dX12_laysHop_143 (by decide) ?_
              refine r_iadd g dX12_laysHop_144 ?_
              obtain ⟨N44, hs_treaty_42, h⟩ := h
              obtain ⟨hi45, h⟩ := h
              refine r_iaload g hs_treaty_42 hi45 dX12_laysHop_145 ?_
              refine r_putI g fX12_294 rfl hs_a0__ rfl rfl dX12_laysHop_146 ?_
              exact hr.1 rfl _ _ _ _ _ dX12_laysHop_149 (Nat.le_refl 0) (Nat.le_refl 0) h
            · replace h := h.2 c43
              refine r_iconst g 3 dX12_laysHop_139 (by decide) ?_
              refine r_goto g 144 dX12_laysHop_140 (by decide) ?_
              refine r_iadd g dX12_laysHop_144 ?_
              obtain ⟨N46, hs_treaty_42_, h⟩ := h
              obtain ⟨hi47, h⟩ := h
              refine r_iaload g hs_treaty_42_ hi47 dX12_laysHop_145 ?_
              refine r_putI g fX12_294 rfl hs_a0__ rfl rfl dX12_laysHop_146 ?_
              exact hr.1 rfl _ _ _ _ _ dX12_laysHop_149 (Nat.le_refl 0) (Nat.le_refl 0) h
          · replace h := h.2 c41
            refine r_aload_n g dX12_laysHop_117 rfl ?_
            obtain ⟨treaty_48, hr_treaty_48, h⟩ := h
            refine r_getR g fX12_29 rfl hs_a0__ hr_treaty_48 dX12_laysHop_118 ?_
            refine r_iload g dX12_laysHop_121 rfl ?_
            refine r_iconst g 4 dX12_laysHop_123 (by decide) ?_
            refine r_iadd g dX12_laysHop_124 ?_
            obtain ⟨N49, hs_treaty_48, h⟩ := h
            obtain ⟨hi50, h⟩ := h
            refine r_iaload g hs_treaty_48 hi50 dX12_laysHop_125 ?_
            refine r_goto g 146 dX12_laysHop_126 (by decide) ?_
            refine r_putI g fX12_294 rfl hs_a0__ rfl rfl dX12_laysHop_146 ?_
            exact hr.1 rfl _ _ _ _ _ dX12_laysHop_149 (Nat.le_refl 0) (Nat.le_refl 0) h
        · replace h := h.2 c38
          refine r_callS (st := []) (As := [.long (hI μ17 a0 42).toInt64, .long 1, .long 3]) g sX12_161 iX12_isIn rfl (Nat.le_of_ble_eq_true rfl) dX12_laysHop_85 (by omega) (Nat.le_refl 0) (Nat.le_refl 0) (Q_isIn_2 (d := d - 1) (x := (hI μ17 a0 42)) (a := 1) (b := 3) rfl (by decide) (by decide) c25 c38) (fun r51 μ52 hZ1 => ?_)
          obtain ⟨rfl, e9⟩ := hZ1
          replace e9 := e9.symm
          subst e9
          refine r_if_eq g 109 dX12_laysHop_88 (by decide) (fun hz => absurd hz (by decide)) (fun _ => ?_)
          refine r_aload_n g dX12_laysHop_91 rfl ?_
          refine r_aload_n g dX12_laysHop_92 rfl ?_
          obtain ⟨land_53, hr_land_53, h⟩ := h
          refine r_getR g fX12_17 rfl hs_a0__ hr_land_53 dX12_laysHop_93 ?_
          refine r_iconst g 3 dX12_laysHop_96 (by decide) ?_
          refine r_iload g dX12_laysHop_97 rfl ?_
          refine r_imul g dX12_laysHop_99 ?_
          refine r_iload_n g dX12_laysHop_100 rfl ?_
          refine r_iadd g dX12_laysHop_101 ?_
          obtain ⟨N54, hs_land_53, h⟩ := h
          obtain ⟨hi55, h⟩ := h
          refine r_iaload g hs_land_53 hi55 dX12_laysHop_102 ?_
          refine r_nmI (fun v56 ev56 => ?_)
          replace h := h v56 ev56
          refine r_putI g fX12_294 rfl hs_a0__ rfl rfl dX12_laysHop_103 ?_
          refine r_goto g 149 dX12_laysHop_106 (by decide) ?_
          exact hr.1 rfl _ _ _ _ _ dX12_laysHop_149 (Nat.le_refl 0) (Nat.le_refl 0) h
    · replace h := h.2 c24
      refine r_aload_n g dX12_laysHop_68 rfl ?_
      refine r_iconst g 0 dX12_laysHop_69 (by decide) ?_
      refine r_putI g fX12_294 rfl hs_a0__ rfl rfl dX12_laysHop_70 ?_
      refine r_goto g 149 dX12_laysHop_73 (by decide) ?_
      exact hr.1 rfl _ _ _ _ _ dX12_laysHop_149 (Nat.le_refl 0) (Nat.le_refl 0) h
  · replace h := h.2 c7
    refine r_iconst g 0 dX12_laysHop_19 (by decide) ?_
    refine r_goto g 36 dX12_laysHop_20 (by decide) ?_
    refine r_putI g fX12_291 rfl hs_a0 rfl rfl dX12_laysHop_36 ?_
    refine r_aload_n g dX12_laysHop_39 rfl ?_
    refine r_iload g dX12_laysHop_40 rfl ?_
    refine r_aload_n g dX12_laysHop_42 rfl ?_
    refine r_iload g dX12_laysHop_43 rfl ?_
    refine r_callV (st := [.int (hI μ a0_firm ((2 * x3).toNatClampNeg)), .ref a0]) (As := [.int x4]) g sX12_280 iX12_landOf eX12_landOf rfl hs_a0 rfl (Nat.le_of_ble_eq_true rfl) dX12_laysHop_45 (by omega) (Nat.le_refl 0) (Nat.le_refl 0) (P_X12_landOf_0 (d := d - 1) hs_a0 hr_a0_firm hs_a0_firm hi4) (fun r57 μ58 hZ1 => ?_)
    obtain ⟨rfl, e9⟩ := hZ1
    replace e9 := e9.symm
    subst e9
    refine r_aload_n g dX12_laysHop_48 rfl ?_
    refine r_getI g fX12_277 rfl hs_a0 dX12_laysHop_49 ?_
    obtain ⟨d1, Z1, hc1, hd1, h1⟩ := h
    refine r_callV (st := []) (As := [.int (hI μ a0_firm ((2 * x3).toNatClampNeg)), .int (hI (wI μ a0 42 0) a0_firm ((2 * x4).toNatClampNeg)), .int (hI (wI μ a0 42 0) a0 37)]) g sX12_283 iX12_treatyOf eX12_treatyOf rfl hs_a0 rfl (Nat.le_of_ble_eq_true rfl) dX12_laysHop_52 hd1 (Nat.le_refl 0) (Nat.le_refl 0) hc1 (fun r59 μ60 hZ1 => ?_)
    replace h := h1 _ _ hZ1
    clear h1 hc1 hd1 hZ1 Z1 d1
    obtain ⟨y61, rfl, h⟩ := h
    refine r_istore g [(8, .int y61), (7, .int (hI μ a0_firm ((2 * x3).toNatClampNeg))), (0, .ref a0), (1, .ref a1), (2, .int x2), (3, .int x3), (4, .int x4), (5, .int x5), (6, .int x6)] dX12_laysHop_55 (by decide) rfl ?_
    refine r_iload g dX12_laysHop_57 rfl ?_
    refine r_aload_n g dX12_laysHop_59 rfl ?_
    refine r_iload g dX12_laysHop_60 rfl ?_
    obtain ⟨hs_a0___, h⟩ := h
    obtain ⟨firm_62, hr_firm_62, h⟩ := h
    obtain ⟨N63, hs_firm_62, h⟩ := h
    obtain ⟨hi64, h⟩ := h
    refine r_callV (st := [.int (hI μ a0_firm ((2 * x3).toNatClampNeg))]) (As := [.int x4]) g sX12_280 iX12_landOf eX12_landOf rfl hs_a0___ rfl (Nat.le_of_ble_eq_true rfl) dX12_laysHop_62 (by omega) (Nat.le_refl 0) (Nat.le_refl 0) (P_X12_landOf_0 (d := d - 1) hs_a0___ hr_firm_62 hs_firm_62 hi64) (fun r65 μ66 hZ1 => ?_)
    obtain ⟨rfl, e9⟩ := hZ1
    replace e9 := e9.symm
    subst e9
    refine r_icmp_ne g 76 dX12_laysHop_65 (by decide) (fun c67 => ?_) (fun c67 => ?_)
    · replace h := h.1 c67
      refine r_aload_n g dX12_laysHop_76 rfl ?_
      refine r_getI g fX12_291 rfl hs_a0___ dX12_laysHop_77 ?_
      refine r_i2l g dX12_laysHop_80 ?_
      refine r_lconst g 1 dX12_laysHop_81 (by decide) ?_
      refine r_ldc2 g 3 kX12_297 dX12_laysHop_82 ?_
      by_cases c68 : (hI μ60 a0 42) < 1
      · replace h := h.1 c68
        refine r_callS (st := []) (As := [.long (hI μ60 a0 42).toInt64, .long 1, .long 3]) g sX12_161 iX12_isIn rfl (Nat.le_of_ble_eq_true rfl) dX12_laysHop_85 (by omega) (Nat.le_refl 0) (Nat.le_refl 0) (Q_isIn_0 (d := d - 1) (x := (hI μ60 a0 42)) (a := 1) (b := 3) rfl (by decide) (by decide) c68) (fun r69 μ70 hZ1 => ?_)
        obtain ⟨rfl, e9⟩ := hZ1
        replace e9 := e9.symm
        subst e9
        refine r_if_eq g 109 dX12_laysHop_88 (by decide) (fun _ => ?_) (fun hz => absurd hz (by decide))
        refine r_aload_n g dX12_laysHop_109 rfl ?_
        refine r_aload_n g dX12_laysHop_110 rfl ?_
        refine r_getI g fX12_291 rfl hs_a0___ dX12_laysHop_111 ?_
        refine r_if_le g 129 dX12_laysHop_114 (by decide) (fun c71 => ?_) (fun c71 => ?_)
        · replace h := h.1 c71
          refine r_aload_n g dX12_laysHop_129 rfl ?_
          obtain ⟨treaty_72, hr_treaty_72, h⟩ := h
          refine r_getR g fX12_29 rfl hs_a0___ hr_treaty_72 dX12_laysHop_130 ?_
          refine r_iload g dX12_laysHop_133 rfl ?_
          refine r_iload_n g dX12_laysHop_135 rfl ?_
          refine r_if_ne g 143 dX12_laysHop_136 (by decide) (fun c73 => ?_) (fun c73 => ?_)
          · replace h := h.1 c73
            refine r_iconst g 5 dX12_laysHop_143 (by decide) ?_
            refine r_iadd g dX12_laysHop_144 ?_
            obtain ⟨N74, hs_treaty_72, h⟩ := h
            obtain ⟨hi75, h⟩ := h
            refine r_iaload g hs_treaty_72 hi75 dX12_laysHop_145 ?_
            refine r_putI g fX12_294 rfl hs_a0___ rfl rfl dX12_laysHop_146 ?_
            exact hr.1 rfl _ _ _ _ _ dX12_laysHop_149 (Nat.le_refl 0) (Nat.le_refl 0) h
          · replace h := h.2 c73
            refine r_iconst g 3 dX12_laysHop_139 (by decide) ?_
            refine r_goto g 144 dX12_laysHop_140 (by decide) ?_
            refine r_iadd g dX12_laysHop_144 ?_
            obtain ⟨N76, hs_treaty_72_, h⟩ := h
            obtain ⟨hi77, h⟩ := h
            refine r_iaload g hs_treaty_72_ hi77 dX12_laysHop_145 ?_
            refine r_putI g fX12_294 rfl hs_a0___ rfl rfl dX12_laysHop_146 ?_
            exact hr.1 rfl _ _ _ _ _ dX12_laysHop_149 (Nat.le_refl 0) (Nat.le_refl 0) h
        · replace h := h.2 c71
          refine r_aload_n g dX12_laysHop_117 rfl ?_
          obtain ⟨treaty_78, hr_treaty_78, h⟩ := h
          refine r_getR g fX12_29 rfl hs_a0___ hr_treaty_78 dX12_laysHop_118 ?_
          refine r_iload g dX12_laysHop_121 rfl ?_
          refine r_iconst g 4 dX12_laysHop_123 (by decide) ?_
          refine r_iadd g dX12_laysHop_124 ?_
          obtain ⟨N79, hs_treaty_78, h⟩ := h
          obtain ⟨hi80, h⟩ := h
          refine r_iaload g hs_treaty_78 hi80 dX12_laysHop_125 ?_
          refine r_goto g 146 dX12_laysHop_126 (by decide) ?_
          refine r_putI g fX12_294 rfl hs_a0___ rfl rfl dX12_laysHop_146 ?_
          exact hr.1 rfl _ _ _ _ _ dX12_laysHop_149 (Nat.le_refl 0) (Nat.le_refl 0) h
      · replace h := h.2 c68
        by_cases c81 : 3 < (hI μ60 a0 42)
        · replace h := h.1 c81
          refine r_callS (st := []) (As := [.long (hI μ60 a0 42).toInt64, .long 1, .long 3]) g sX12_161 iX12_isIn rfl (Nat.le_of_ble_eq_true rfl) dX12_laysHop_85 (by omega) (Nat.le_refl 0) (Nat.le_refl 0) (Q_isIn_1 (d := d - 1) (x := (hI μ60 a0 42)) (a := 1) (b := 3) rfl (by decide) (by decide) c68 c81) (fun r82 μ83 hZ1 => ?_)
          obtain ⟨rfl, e9⟩ := hZ1
          replace e9 := e9.symm
          subst e9
          refine r_if_eq g 109 dX12_laysHop_88 (by decide) (fun _ => ?_) (fun hz => absurd hz (by decide))
          refine r_aload_n g dX12_laysHop_109 rfl ?_
          refine r_aload_n g dX12_laysHop_110 rfl ?_
          refine r_getI g fX12_291 rfl hs_a0___ dX12_laysHop_111 ?_
          refine r_if_le g 129 dX12_laysHop_114 (by decide) (fun c84 => ?_) (fun c84 => ?_)
          · replace h := h.1 c84
            refine r_aload_n g dX12_laysHop_129 rfl ?_
            obtain ⟨treaty_85, hr_treaty_85, h⟩ := h
            refine r_getR g fX12_29 rfl hs_a0___ hr_treaty_85 dX12_laysHop_130 ?_
            refine r_iload g dX12_laysHop_133 rfl ?_
            refine r_iload_n g dX12_laysHop_135 rfl ?_
            refine r_if_ne g 143 dX12_laysHop_136 (by decide) (fun c86 => ?_) (fun c86 => ?_)
            · replace h := h.1 c86
              refine r_iconst g 5 dX12_laysHop_143 (by decide) ?_
              refine r_iadd g dX12_laysHop_144 ?_
              obtain ⟨N87, hs_treaty_85, h⟩ := h
              obtain ⟨hi88, h⟩ := h
              refine r_iaload g hs_treaty_85 hi88 dX12_laysHop_145 ?_
              refine r_putI g fX12_294 rfl hs_a0___ rfl rfl dX12_laysHop_146 ?_
              exact hr.1 rfl _ _ _ _ _ dX12_laysHop_149 (Nat.le_refl 0) (Nat.le_refl 0) h
            · replace h := h.2 c86
              refine r_iconst g 3 dX12_laysHop_139 (by decide) ?_
              refine r_goto g 144 dX12_laysHop_140 (by decide) ?_
              refine r_iadd g dX12_laysHop_144 ?_
              obtain ⟨N89, hs_treaty_85_, h⟩ := h
              obtain ⟨hi90, h⟩ := h
              refine r_iaload g hs_treaty_85_ hi90 dX12_laysHop_145 ?_
              refine r_putI g fX12_294 rfl hs_a0___ rfl rfl dX12_laysHop_146 ?_
              exact hr.1 rfl _ _ _ _ _ dX12_laysHop_149 (Nat.le_refl 0) (Nat.le_refl 0) h
          · replace h := h.2 c84
            refine r_aload_n g dX12_laysHop_117 rfl ?_
            obtain ⟨treaty_91, hr_treaty_91, h⟩ := h
            refine r_getR g fX12_29 rfl hs_a0___ hr_treaty_91 dX12_laysHop_118 ?_
            refine r_iload g dX12_laysHop_121 rfl ?_
            refine r_iconst g 4 dX12_laysHop_123 (by decide) ?_
            refine r_iadd g dX12_laysHop_124 ?_
            obtain ⟨N92, hs_treaty_91, h⟩ := h
            obtain ⟨hi93, h⟩ := h
            refine r_iaload g hs_treaty_91 hi93 dX12_laysHop_125 ?_
            refine r_goto g 146 dX12_laysHop_126 (by decide) ?_
            refine r_putI g fX12_294 rfl hs_a0___ rfl rfl dX12_laysHop_146 ?_
            exact hr.1 rfl _ _ _ _ _ dX12_laysHop_149 (Nat.le_refl 0) (Nat.le_refl 0) h
        · replace h := h.2 c81
          refine r_callS (st := []) (As := [.long (hI μ60 a0 42).toInt64, .long 1, .long 3]) g sX12_161 iX12_isIn rfl (Nat.le_of_ble_eq_true rfl) dX12_laysHop_85 (by omega) (Nat.le_refl 0) (Nat.le_refl 0) (Q_isIn_2 (d := d - 1) (x := (hI μ60 a0 42)) (a := 1) (b := 3) rfl (by decide) (by decide) c68 c81) (fun r94 μ95 hZ1 => ?_)
          obtain ⟨rfl, e9⟩ := hZ1
          replace e9 := e9.symm
          subst e9
          refine r_if_eq g 109 dX12_laysHop_88 (by decide) (fun hz => absurd hz (by decide)) (fun _ => ?_)
          refine r_aload_n g dX12_laysHop_91 rfl ?_
          refine r_aload_n g dX12_laysHop_92 rfl ?_
          obtain ⟨land_96, hr_land_96, h⟩ := h
          refine r_getR g fX12_17 rfl hs_a0___ hr_land_96 dX12_laysHop_93 ?_
          refine r_iconst g 3 dX12_laysHop_96 (by decide) ?_
          refine r_iload g dX12_laysHop_97 rfl ?_
          refine r_imul g dX12_laysHop_99 ?_
          refine r_iload_n g dX12_laysHop_100 rfl ?_
          refine r_iadd g dX12_laysHop_101 ?_
          obtain ⟨N97, hs_land_96, h⟩ := h
          obtain ⟨hi98, h⟩ := h
          refine r_iaload g hs_land_96 hi98 dX12_laysHop_102 ?_
          refine r_nmI (fun v99 ev99 => ?_)
          replace h := h v99 ev99
          refine r_putI g fX12_294 rfl hs_a0___ rfl rfl dX12_laysHop_103 ?_
          refine r_goto g 149 dX12_laysHop_106 (by decide) ?_
          exact hr.1 rfl _ _ _ _ _ dX12_laysHop_149 (Nat.le_refl 0) (Nat.le_refl 0) h
    · replace h := h.2 c67
      refine r_aload_n g dX12_laysHop_68 rfl ?_
      refine r_iconst g 0 dX12_laysHop_69 (by decide) ?_
      refine r_putI g fX12_294 rfl hs_a0___ rfl rfl dX12_laysHop_70 ?_
      refine r_goto g 149 dX12_laysHop_73 (by decide) ?_
      exact hr.1 rfl _ _ _ _ _ dX12_laysHop_149 (Nat.le_refl 0) (Nat.le_refl 0) h
theorem I_X12_laysHop {d : Nat} {ro : Nat → Nat} {Z : Option Value → Hp → Prop} {μ : Hp} {a0 : Nat} {a1 : Nat} {x2 : Int32} {x3 : Int32} {x4 : Int32} {x5 : Int32} {x6 : Int32} (h : ∀ J, xCtx RX12 cX12_laysHop 9 d 0 0 yX12_laysHop.name ro J → xRet cX12_laysHop none 0 0 Z J → J μ 0 0 0 [(0, .ref a0), (1, .ref a1), (2, .int x2), (3, .int x3), (4, .int x4), (5, .int x5), (6, .int x6)] []) : xC d yX12_laysHop cX12_laysHop 9 none 0 0 [.ref a0, .ref a1, .int x2, .int x3, .int x4, .int x5, .int x6] μ ro Z :=
  xC_intro (own := RX12) (lv := [(0, .ref a0), (1, .ref a1), (2, .int x2), (3, .int x3), (4, .int x4), (5, .int x5), (6, .int x6)]) (by decide) rfl (Nat.le_of_ble_eq_true rfl) rfl (fun J g hr => r_sub g (lv' := [(0, .ref a0), (1, .ref a1), (2, .int x2), (3, .int x3), (4, .int x4), (5, .int x5), (6, .int x6)]) (⟨rfl, rfl, rfl, rfl, rfl, rfl, rfl, trivial⟩) (h J g hr))
theorem dX12_dueOf_0 : decode cX12_dueOf 0 = .ok (.aload_n 0, 1) := by decide +kernel
theorem dX12_dueOf_1 : decode cX12_dueOf 1 = .ok (.getfield 79, 3) := by decide +kernel
theorem dX12_dueOf_4 : decode cX12_dueOf 4 = .ok (.iload_n 3, 1) := by decide +kernel
theorem dX12_dueOf_5 : decode cX12_dueOf 5 = .ok (.iconst 1, 1) := by decide +kernel
theorem dX12_dueOf_6 : decode cX12_dueOf 6 = .ok (.iadd, 1) := by decide +kernel
theorem dX12_dueOf_7 : decode cX12_dueOf 7 = .ok (.iaload, 1) := by decide +kernel
theorem dX12_dueOf_8 : decode cX12_dueOf 8 = .ok (.istore 5, 2) := by decide +kernel
theorem dX12_dueOf_10 : decode cX12_dueOf 10 = .ok (.aload_n 0, 1) := by decide +kernel
theorem dX12_dueOf_11 : decode cX12_dueOf 11 = .ok (.getfield 97, 3) := by decide +kernel
theorem dX12_dueOf_14 : decode cX12_dueOf 14 = .ok (.iload_n 3, 1) := by decide +kernel
theorem dX12_dueOf_15 : decode cX12_dueOf 15 = .ok (.aload_n 1, 1) := by decide +kernel
theorem dX12_dueOf_16 : decode cX12_dueOf 16 = .ok (.iconst 0, 1) := by decide +kernel
theorem dX12_dueOf_17 : decode cX12_dueOf 17 = .ok (.iload 5, 2) := by decide +kernel
theorem dX12_dueOf_19 : decode cX12_dueOf 19 = .ok (.iadd, 1) := by decide +kernel
theorem dX12_dueOf_20 : decode cX12_dueOf 20 = .ok (.iaload, 1) := by decide +kernel
theorem dX12_dueOf_21 : decode cX12_dueOf 21 = .ok (.iastore, 1) := by decide +kernel
theorem dX12_dueOf_22 : decode cX12_dueOf 22 = .ok (.iload_n 2, 1) := by decide +kernel
theorem dX12_dueOf_23 : decode cX12_dueOf 23 = .ok (.ifCond .ne 12, 3) := by decide +kernel
theorem dX12_dueOf_26 : decode cX12_dueOf 26 = .ok (.iload 4, 2) := by decide +kernel
theorem dX12_dueOf_28 : decode cX12_dueOf 28 = .ok (.bipush 25, 2) := by decide +kernel
theorem dX12_dueOf_30 : decode cX12_dueOf 30 = .ok (.if_icmp .lt 5, 3) := by decide +kernel
theorem dX12_dueOf_33 : decode cX12_dueOf 33 = .ok (.iconst 0, 1) := by decide +kernel
theorem dX12_dueOf_34 : decode cX12_dueOf 34 = .ok (.ireturn, 1) := by decide +kernel
theorem dX12_dueOf_35 : decode cX12_dueOf 35 = .ok (.aload_n 0, 1) := by decide +kernel
theorem dX12_dueOf_36 : decode cX12_dueOf 36 = .ok (.getfield 88, 3) := by decide +kernel
theorem dX12_dueOf_39 : decode cX12_dueOf 39 = .ok (.iload_n 3, 1) := by decide +kernel
theorem dX12_dueOf_40 : decode cX12_dueOf 40 = .ok (.iaload, 1) := by decide +kernel
theorem dX12_dueOf_41 : decode cX12_dueOf 41 = .ok (.aload_n 0, 1) := by decide +kernel
theorem dX12_dueOf_42 : decode cX12_dueOf 42 = .ok (.getfield 17, 3) := by decide +kernel
theorem dX12_dueOf_45 : decode cX12_dueOf 45 = .ok (.iconst 3, 1) := by decide +kernel
theorem dX12_dueOf_46 : decode cX12_dueOf 46 = .ok (.aload_n 0, 1) := by decide +kernel
theorem dX12_dueOf_47 : decode cX12_dueOf 47 = .ok (.iload 5, 2) := by decide +kernel
theorem dX12_dueOf_49 : decode cX12_dueOf 49 = .ok (.invokevirtual 280, 3) := by decide +kernel
theorem dX12_dueOf_52 : decode cX12_dueOf 52 = .ok (.imul, 1) := by decide +kernel
theorem dX12_dueOf_53 : decode cX12_dueOf 53 = .ok (.iconst 2, 1) := by decide +kernel
theorem dX12_dueOf_54 : decode cX12_dueOf 54 = .ok (.iadd, 1) := by decide +kernel
theorem dX12_dueOf_55 : decode cX12_dueOf 55 = .ok (.iaload, 1) := by decide +kernel
theorem dX12_dueOf_56 : decode cX12_dueOf 56 = .ok (.imul, 1) := by decide +kernel
theorem dX12_dueOf_57 : decode cX12_dueOf 57 = .ok (.sipush 1000, 3) := by decide +kernel
theorem dX12_dueOf_60 : decode cX12_dueOf 60 = .ok (.idiv, 1) := by decide +kernel
theorem dX12_dueOf_61 : decode cX12_dueOf 61 = .ok (.istore 6, 2) := by decide +kernel
theorem dX12_dueOf_63 : decode cX12_dueOf 63 = .ok (.aload_n 0, 1) := by decide +kernel
theorem dX12_dueOf_64 : decode cX12_dueOf 64 = .ok (.getfield 91, 3) := by decide +kernel
theorem dX12_dueOf_67 : decode cX12_dueOf 67 = .ok (.iload_n 3, 1) := by decide +kernel
theorem dX12_dueOf_68 : decode cX12_dueOf 68 = .ok (.iaload, 1) := by decide +kernel
theorem dX12_dueOf_69 : decode cX12_dueOf 69 = .ok (.aload_n 0, 1) := by decide +kernel
theorem dX12_dueOf_70 : decode cX12_dueOf 70 = .ok (.getfield 97, 3) := by decide +kernel
theorem dX12_dueOf_73 : decode cX12_dueOf 73 = .ok (.iload_n 3, 1) := by decide +kernel
theorem dX12_dueOf_74 : decode cX12_dueOf 74 = .ok (.iaload, 1) := by decide +kernel
theorem dX12_dueOf_75 : decode cX12_dueOf 75 = .ok (.iadd, 1) := by decide +kernel
theorem dX12_dueOf_76 : decode cX12_dueOf 76 = .ok (.istore 7, 2) := by decide +kernel
theorem dX12_dueOf_78 : decode cX12_dueOf 78 = .ok (.iload 6, 2) := by decide +kernel
theorem dX12_dueOf_80 : decode cX12_dueOf 80 = .ok (.iload 7, 2) := by decide +kernel
theorem dX12_dueOf_82 : decode cX12_dueOf 82 = .ok (.if_icmp .ge 8, 3) := by decide +kernel
theorem dX12_dueOf_85 : decode cX12_dueOf 85 = .ok (.iload 6, 2) := by decide +kernel
theorem dX12_dueOf_87 : decode cX12_dueOf 87 = .ok (.goto 5, 3) := by decide +kernel
theorem dX12_dueOf_90 : decode cX12_dueOf 90 = .ok (.iload 7, 2) := by decide +kernel
theorem dX12_dueOf_92 : decode cX12_dueOf 92 = .ok (.istore 8, 2) := by decide +kernel
theorem dX12_dueOf_94 : decode cX12_dueOf 94 = .ok (.aload_n 0, 1) := by decide +kernel
theorem dX12_dueOf_95 : decode cX12_dueOf 95 = .ok (.getfield 97, 3) := by decide +kernel
theorem dX12_dueOf_98 : decode cX12_dueOf 98 = .ok (.iload_n 3, 1) := by decide +kernel
theorem dX12_dueOf_99 : decode cX12_dueOf 99 = .ok (.iload 7, 2) := by decide +kernel
theorem dX12_dueOf_101 : decode cX12_dueOf 101 = .ok (.iload 8, 2) := by decide +kernel
theorem dX12_dueOf_103 : decode cX12_dueOf 103 = .ok (.isub, 1) := by decide +kernel
theorem dX12_dueOf_104 : decode cX12_dueOf 104 = .ok (.ldc_w 299, 3) := by decide +kernel
theorem dX12_dueOf_107 : decode cX12_dueOf 107 = .ok (.if_icmp .le 9, 3) := by decide +kernel
theorem dX12_dueOf_110 : decode cX12_dueOf 110 = .ok (.ldc_w 299, 3) := by decide +kernel
theorem dX12_dueOf_113 : decode cX12_dueOf 113 = .ok (.goto 8, 3) := by decide +kernel
theorem dX12_dueOf_116 : decode cX12_dueOf 116 = .ok (.iload 7, 2) := by decide +kernel
theorem dX12_dueOf_118 : decode cX12_dueOf 118 = .ok (.iload 8, 2) := by decide +kernel
theorem dX12_dueOf_120 : decode cX12_dueOf 120 = .ok (.isub, 1) := by decide +kernel
theorem dX12_dueOf_121 : decode cX12_dueOf 121 = .ok (.iastore, 1) := by decide +kernel
theorem dX12_dueOf_122 : decode cX12_dueOf 122 = .ok (.iload 6, 2) := by decide +kernel
theorem dX12_dueOf_124 : decode cX12_dueOf 124 = .ok (.iload 8, 2) := by decide +kernel
theorem dX12_dueOf_126 : decode cX12_dueOf 126 = .ok (.isub, 1) := by decide +kernel
theorem dX12_dueOf_127 : decode cX12_dueOf 127 = .ok (.ireturn, 1) := by decide +kernel
set_option maxHeartbeats 4000000 in
set_option maxRecDepth 100000 in
theorem B_X12_dueOf_0 {d : Nat} {ro : Nat → Nat} {J : JT} {Z : Option Value → Hp → Prop} (g : xCtx RX12 cX12_dueOf 9 d 0 0 yX12_dueOf.name ro J) (hr : xRet cX12_dueOf (some .int) 0 0 Z J) {μ : Hp} {a0 : Nat} {a1 : Nat} {x2 : Int32} {x3 : Int32} {x4 : Int32} {a0_way : Nat} {N_a0_way : Nat} {a0_credits : Nat} {N_a1 : Nat} {N_a0_credits : Nat} (hs_a0 : hS μ a0 = some (15, 65)) (hr_a0_way : hR μ a0 43 = some a0_way) (hs_a0_way : hS μ a0_way = some (0, N_a0_way)) (hr_a0_credits : hR μ a0 49 = some a0_credits) (hs_a1 : hS μ a1 = some (0, N_a1)) (hs_a0_credits : hS μ a0_credits = some (0, N_a0_credits))
    (h : vp_in (x3 + 1) N_a0_way ∧ vp_in (0 + (hI μ a0_way ((x3 + 1).toNatClampNeg))) N_a1 ∧ (∀ v3 : Int32, v3 = (hI μ a1 ((0 + (hI μ a0_way ((x3 + 1).toNatClampNeg))).toNatClampNeg)) → vp_in x3 N_a0_credits ∧ ((¬ x2 = 0 → J (wI μ a0_credits x3.toNatClampNeg v3) 0 0 35 [(0, .ref a0), (3, .int x3), (5, .int (hI μ a0_way ((x3 + 1).toNatClampNeg)))] []) ∧ (x2 = 0 → ((x4 < 25 → J (wI μ a0_credits x3.toNatClampNeg v3) 0 0 35 [(0, .ref a0), (3, .int x3), (5, .int (hI μ a0_way ((x3 + 1).toNatClampNeg)))] []) ∧ (¬ x4 < 25 → Z (some (.int 0)) (wI μ a0_credits x3.toNatClampNeg v3))))))) :
    J μ 0 0 0 [(0, .ref a0), (1, .ref a1), (2, .int x2), (3, .int x3), (4, .int x4)] [] := by
  refine r_aload_n g dX12_dueOf_0 rfl ?_
  refine r_getR g fX12_79 rfl hs_a0 hr_a0_way dX12_dueOf_1 ?_
  refine r_iload_n g dX12_dueOf_4 rfl ?_
  refine r_iconst g 1 dX12_dueOf_5 (by decide) ?_
  refine r_iadd g dX12_dueOf_6 ?_
  obtain ⟨hi1, h⟩ := h
  refine r_iaload g hs_a0_way hi1 dX12_dueOf_7 ?_
  refine r_istore g [(5, .int (hI μ a0_way ((x3 + 1).toNatClampNeg))), (0, .ref a0), (1, .ref a1), (2, .int x2), (3, .int x3), (4, .int x4)] dX12_dueOf_8 (by decide) rfl ?_
  refine r_aload_n g dX12_dueOf_10 rfl ?_
  refine r_getR g fX12_97 rfl hs_a0 hr_a0_credits dX12_dueOf_11 ?_
  refine r_iload_n g dX12_dueOf_14 rfl ?_
  refine r_aload_n g dX12_dueOf_15 rfl ?_
  refine r_iconst g 0 dX12_dueOf_16 (by decide) ?_
  refine r_iload g dX12_dueOf_17 rfl ?_
  refine r_iadd g dX12_dueOf_19 ?_
  obtain ⟨hi2, h⟩ := h
  refine r_iaload g hs_a1 hi2 dX12_dueOf_20 ?_
  refine r_nmI (fun v3 ev3 => ?_)
  replace h := h v3 ev3
  obtain ⟨hi4, h⟩ := h
  refine r_iastore g hs_a0_credits hi4 dX12_dueOf_21 ?_
  refine r_iload_n g dX12_dueOf_22 rfl ?_
  refine r_if_ne g 35 dX12_dueOf_23 (by decide) (fun c5 => ?_) (fun c5 => ?_)
  · replace h := h.1 c5
    refine r_sub g (lv' := [(0, .ref a0), (3, .int x3), (5, .int (hI μ a0_way ((x3 + 1).toNatClampNeg)))]) (⟨rfl, rfl, rfl, trivial⟩) ?_
    exact h
  · replace h := h.2 c5
    refine r_iload g dX12_dueOf_26 rfl ?_
    refine r_bipush g 25 dX12_dueOf_28 (by decide) ?_
    refine r_icmp_lt g 35 dX12_dueOf_30 (by decide) (fun c6 => ?_) (fun c6 => ?_)
    · replace h := h.1 c6
      refine r_sub g (lv' := [(0, .ref a0), (3, .int x3), (5, .int (hI μ a0_way ((x3 + 1).toNatClampNeg)))]) (⟨rfl, rfl, rfl, trivial⟩) ?_
      exact h
    · replace h := h.2 c6
      refine r_iconst g 0 dX12_dueOf_33 (by decide) ?_
      exact hr.2.1 _ rfl _ _ _ _ _ _ dX12_dueOf_34 rfl (Nat.le_refl 0) (Nat.le_refl 0) h
set_option maxHeartbeats 4000000 in
set_option maxRecDepth 100000 in
theorem B_X12_dueOf_35 {d : Nat} {ro : Nat → Nat} {J : JT} {Z : Option Value → Hp → Prop} (g : xCtx RX12 cX12_dueOf 9 d 0 0 yX12_dueOf.name ro J) (hr : xRet cX12_dueOf (some .int) 0 0 Z J) {μ : Hp} {a0 : Nat} {x3 : Int32} {x5 : Int32} {a0_paid : Nat} {N_a0_paid : Nat} {a0_land : Nat} {a0_firm : Nat} {N_a0_firm : Nat} {N_a0_land : Nat} {a0_held : Nat} {N_a0_held : Nat} {a0_credits : Nat} {N_a0_credits : Nat} (hs_a0 : hS μ a0 = some (15, 65)) (hr_a0_paid : hR μ a0 46 = some a0_paid) (hs_a0_paid : hS μ a0_paid = some (0, N_a0_paid)) (hr_a0_land : hR μ a0 8 = some a0_land) (hr_a0_firm : hR μ a0 10 = some a0_firm) (hs_a0_firm : hS μ a0_firm = some (0, N_a0_firm)) (hs_a0_land : hS μ a0_land = some (0, N_a0_land)) (hr_a0_held : hR μ a0 47 = some a0_held) (hs_a0_held : hS μ a0_held = some (0, N_a0_held)) (hr_a0_credits : hR μ a0 49 = some a0_credits) (hs_a0_credits : hS μ a0_credits = some (0, N_a0_credits)) (hd9 : 1 ≤ d)
    (h : vp_in x3 N_a0_paid ∧ vp_in (2 * x5) N_a0_firm ∧ vp_in ((3 * (hI μ a0_firm ((2 * x5).toNatClampNeg))) + 2) N_a0_land ∧ (∀ v6 : Int32, v6 = (hI μ a0_land (((3 * (hI μ a0_firm ((2 * x5).toNatClampNeg))) + 2).toNatClampNeg)) → vp_in x3 N_a0_held ∧ vp_in x3 N_a0_credits ∧ (∀ v9 : Int32, v9 = ((hI μ a0_held x3.toNatClampNeg) + (hI μ a0_credits x3.toNatClampNeg)) → ((v9 ≤ (((hI μ a0_paid x3.toNatClampNeg) * v6) / 1000) → (((v9 - v9) ≤ 1000000000 → Z (some (.int ((((hI μ a0_paid x3.toNatClampNeg) * v6) / 1000) - v9))) (wI μ a0_credits x3.toNatClampNeg (v9 - v9))) ∧ (¬ (v9 - v9) ≤ 1000000000 → Z (some (.int ((((hI μ a0_paid x3.toNatClampNeg) * v6) / 1000) - v9))) (wI μ a0_credits x3.toNatClampNeg 1000000000)))) ∧ (¬ v9 ≤ (((hI μ a0_paid x3.toNatClampNeg) * v6) / 1000) → (((v9 - (((hI μ a0_paid x3.toNatClampNeg) * v6) / 1000)) ≤ 1000000000 → (∀ v13 : Int32, v13 = ((((hI μ a0_paid x3.toNatClampNeg) * v6) / 1000) - (((hI μ a0_paid x3.toNatClampNeg) * v6) / 1000)) → Z (some (.int v13)) (wI μ a0_credits x3.toNatClampNeg (v9 - (((hI μ a0_paid x3.toNatClampNeg) * v6) / 1000))))) ∧ (¬ (v9 - (((hI μ a0_paid x3.toNatClampNeg) * v6) / 1000)) ≤ 1000000000 → (∀ v14 : Int32, v14 = ((((hI μ a0_paid x3.toNatClampNeg) * v6) / 1000) - (((hI μ a0_paid x3.toNatClampNeg) * v6) / 1000)) → Z (some (.int v14)) (wI μ a0_credits x3.toNatClampNeg 1000000000))))))))) :
    J μ 0 0 35 [(0, .ref a0), (3, .int x3), (5, .int x5)] [] := by
  refine r_aload_n g dX12_dueOf_35 rfl ?_
  refine r_getR g fX12_88 rfl hs_a0 hr_a0_paid dX12_dueOf_36 ?_
  refine r_iload_n g dX12_dueOf_39 rfl ?_
  obtain ⟨hi1, h⟩ := h
  refine r_iaload g hs_a0_paid hi1 dX12_dueOf_40 ?_
  refine r_aload_n g dX12_dueOf_41 rfl ?_
  refine r_getR g fX12_17 rfl hs_a0 hr_a0_land dX12_dueOf_42 ?_
  refine r_iconst g 3 dX12_dueOf_45 (by decide) ?_
  refine r_aload_n g dX12_dueOf_46 rfl ?_
  refine r_iload g dX12_dueOf_47 rfl ?_
  obtain ⟨hi2, h⟩ := h
  refine r_callV (st := [.int 3, .ref a0_land, .int (hI μ a0_paid x3.toNatClampNeg)]) (As := [.int x5]) g sX12_280 iX12_landOf eX12_landOf rfl hs_a0 rfl (Nat.le_of_ble_eq_true rfl) dX12_dueOf_49 (by omega) (Nat.le_refl 0) (Nat.le_refl 0) (P_X12_landOf_0 (d := d - 1) hs_a0 hr_a0_firm hs_a0_firm hi2) (fun r3 μ4 hZ1 => ?_)
  obtain ⟨rfl, e9⟩ := hZ1
  replace e9 := e9.symm
  subst e9
  refine r_imul g dX12_dueOf_52 ?_
  refine r_iconst g 2 dX12_dueOf_53 (by decide) ?_
  refine r_iadd g dX12_dueOf_54 ?_
  obtain ⟨hi5, h⟩ := h
  refine r_iaload g hs_a0_land hi5 dX12_dueOf_55 ?_
  refine r_nmI (fun v6 ev6 => ?_)
  replace h := h v6 ev6
  refine r_imul g dX12_dueOf_56 ?_
  refine r_sipush g 1000 dX12_dueOf_57 (by decide) ?_
  refine r_idiv g (by decide) dX12_dueOf_60 ?_
  refine r_istore g [(6, .int (((hI μ a0_paid x3.toNatClampNeg) * v6) / 1000)), (0, .ref a0), (3, .int x3), (5, .int x5)] dX12_dueOf_61 (by decide) rfl ?_
  refine r_aload_n g dX12_dueOf_63 rfl ?_
  refine r_getR g fX12_91 rfl hs_a0 hr_a0_held dX12_dueOf_64 ?_
  refine r_iload_n g dX12_dueOf_67 rfl ?_
  obtain ⟨hi7, h⟩ := h
  refine r_iaload g hs_a0_held hi7 dX12_dueOf_68 ?_
  refine r_aload_n g dX12_dueOf_69 rfl ?_
  refine r_getR g fX12_97 rfl hs_a0 hr_a0_credits dX12_dueOf_70 ?_
  refine r_iload_n g dX12_dueOf_73 rfl ?_
  obtain ⟨hi8, h⟩ := h
  refine r_iaload g hs_a0_credits hi8 dX12_dueOf_74 ?_
  refine r_iadd g dX12_dueOf_75 ?_
  refine r_nmI (fun v9 ev9 => ?_)
  replace h := h v9 ev9
  refine r_istore g [(7, .int v9), (6, .int (((hI μ a0_paid x3.toNatClampNeg) * v6) / 1000)), (0, .ref a0), (3, .int x3), (5, .int x5)] dX12_dueOf_76 (by decide) rfl ?_
  refine r_iload g dX12_dueOf_78 rfl ?_
  refine r_iload g dX12_dueOf_80 rfl ?_
  refine r_icmp_ge g 90 dX12_dueOf_82 (by decide) (fun c10 => ?_) (fun c10 => ?_)
  · replace h := h.1 c10
    refine r_iload g dX12_dueOf_90 rfl ?_
    refine r_istore g [(8, .int v9), (7, .int v9), (6, .int (((hI μ a0_paid x3.toNatClampNeg) * v6) / 1000)), (0, .ref a0), (3, .int x3), (5, .int x5)] dX12_dueOf_92 (by decide) rfl ?_
    refine r_aload_n g dX12_dueOf_94 rfl ?_
    refine r_getR g fX12_97 rfl hs_a0 hr_a0_credits dX12_dueOf_95 ?_
    refine r_iload_n g dX12_dueOf_98 rfl ?_
    refine r_iload g dX12_dueOf_99 rfl ?_
    refine r_iload g dX12_dueOf_101 rfl ?_
    refine r_isub g dX12_dueOf_103 ?_
    refine r_ldcw g 1000000000 kX12_299 dX12_dueOf_104 ?_
    refine r_icmp_le g 116 dX12_dueOf_107 (by decide) (fun c11 => ?_) (fun c11 => ?_)
    · replace h := h.1 c11
      refine r_iload g dX12_dueOf_116 rfl ?_
      refine r_iload g dX12_dueOf_118 rfl ?_
      refine r_isub g dX12_dueOf_120 ?_
      refine r_iastore g hs_a0_credits hi8 dX12_dueOf_121 ?_
      refine r_iload g dX12_dueOf_122 rfl ?_
      refine r_iload g dX12_dueOf_124 rfl ?_
      refine r_isub g dX12_dueOf_126 ?_
      exact hr.2.1 _ rfl _ _ _ _ _ _ dX12_dueOf_127 rfl (Nat.le_refl 0) (Nat.le_refl 0) h
    · replace h := h.2 c11
      refine r_ldcw g 1000000000 kX12_299 dX12_dueOf_110 ?_
      refine r_goto g 121 dX12_dueOf_113 (by decide) ?_
      refine r_iastore g hs_a0_credits hi8 dX12_dueOf_121 ?_
      refine r_iload g dX12_dueOf_122 rfl ?_
      refine r_iload g dX12_dueOf_124 rfl ?_
      refine r_isub g dX12_dueOf_126 ?_
      exact hr.2.1 _ rfl _ _ _ _ _ _ dX12_dueOf_127 rfl (Nat.le_refl 0) (Nat.le_refl 0) h
  · replace h := h.2 c10
    refine r_iload g dX12_dueOf_85 rfl ?_
    refine r_goto g 92 dX12_dueOf_87 (by decide) ?_
    refine r_istore g [(8, .int (((hI μ a0_paid x3.toNatClampNeg) * v6) / 1000)), (7, .int v9), (6, .int (((hI μ a0_paid x3.toNatClampNeg) * v6) / 1000)), (0, .ref a0), (3, .int x3), (5, .int x5)] dX12_dueOf_92 (by decide) rfl ?_
    refine r_aload_n g dX12_dueOf_94 rfl ?_
    refine r_getR g fX12_97 rfl hs_a0 hr_a0_credits dX12_dueOf_95 ?_
    refine r_iload_n g dX12_dueOf_98 rfl ?_
    refine r_iload g dX12_dueOf_99 rfl ?_
    refine r_iload g dX12_dueOf_101 rfl ?_
    refine r_isub g dX12_dueOf_103 ?_
    refine r_ldcw g 1000000000 kX12_299 dX12_dueOf_104 ?_
    refine r_icmp_le g 116 dX12_dueOf_107 (by decide) (fun c12 => ?_) (fun c12 => ?_)
    · replace h := h.1 c12
      refine r_iload g dX12_dueOf_116 rfl ?_
      refine r_iload g dX12_dueOf_118 rfl ?_
      refine r_isub g dX12_dueOf_120 ?_
      refine r_iastore g hs_a0_credits hi8 dX12_dueOf_121 ?_
      refine r_iload g dX12_dueOf_122 rfl ?_
      refine r_iload g dX12_dueOf_124 rfl ?_
      refine r_isub g dX12_dueOf_126 ?_
      refine r_nmI (fun v13 ev13 => ?_)
      replace h := h v13 ev13
      exact hr.2.1 _ rfl _ _ _ _ _ _ dX12_dueOf_127 rfl (Nat.le_refl 0) (Nat.le_refl 0) h
    · replace h := h.2 c12
      refine r_ldcw g 1000000000 kX12_299 dX12_dueOf_110 ?_
      refine r_goto g 121 dX12_dueOf_113 (by decide) ?_
      refine r_iastore g hs_a0_credits hi8 dX12_dueOf_121 ?_
      refine r_iload g dX12_dueOf_122 rfl ?_
      refine r_iload g dX12_dueOf_124 rfl ?_
      refine r_isub g dX12_dueOf_126 ?_
      refine r_nmI (fun v14 ev14 => ?_)
      replace h := h v14 ev14
      exact hr.2.1 _ rfl _ _ _ _ _ _ dX12_dueOf_127 rfl (Nat.le_refl 0) (Nat.le_refl 0) h
theorem I_X12_dueOf {d : Nat} {ro : Nat → Nat} {Z : Option Value → Hp → Prop} {μ : Hp} {a0 : Nat} {a1 : Nat} {x2 : Int32} {x3 : Int32} {x4 : Int32} (h : ∀ J, xCtx RX12 cX12_dueOf 9 d 0 0 yX12_dueOf.name ro J → xRet cX12_dueOf (some .int) 0 0 Z J → J μ 0 0 0 [(0, .ref a0), (1, .ref a1), (2, .int x2), (3, .int x3), (4, .int x4)] []) : xC d yX12_dueOf cX12_dueOf 9 (some .int) 0 0 [.ref a0, .ref a1, .int x2, .int x3, .int x4] μ ro Z :=
  xC_intro (own := RX12) (lv := [(0, .ref a0), (1, .ref a1), (2, .int x2), (3, .int x3), (4, .int x4)]) (by decide) rfl (Nat.le_of_ble_eq_true rfl) rfl (fun J g hr => r_sub g (lv' := [(0, .ref a0), (1, .ref a1), (2, .int x2), (3, .int x3), (4, .int x4)]) (⟨rfl, rfl, rfl, rfl, rfl, trivial⟩) (h J g hr))
theorem dX12_reckons_0 : decode cX12_reckons 0 = .ok (.iload_n 3, 1) := by decide +kernel
theorem dX12_reckons_1 : decode cX12_reckons 1 = .ok (.istore 4, 2) := by decide +kernel
theorem dX12_reckons_3 : decode cX12_reckons 3 = .ok (.aload_n 0, 1) := by decide +kernel
theorem dX12_reckons_4 : decode cX12_reckons 4 = .ok (.iconst 0, 1) := by decide +kernel
theorem dX12_reckons_5 : decode cX12_reckons 5 = .ok (.putfield 300, 3) := by decide +kernel
theorem dX12_reckons_8 : decode cX12_reckons 8 = .ok (.aload_n 0, 1) := by decide +kernel
theorem dX12_reckons_9 : decode cX12_reckons 9 = .ok (.iconst 0, 1) := by decide +kernel
theorem dX12_reckons_10 : decode cX12_reckons 10 = .ok (.putfield 303, 3) := by decide +kernel
theorem dX12_reckons_13 : decode cX12_reckons 13 = .ok (.iconst 0, 1) := by decide +kernel
theorem dX12_reckons_14 : decode cX12_reckons 14 = .ok (.istore 5, 2) := by decide +kernel
theorem dX12_reckons_16 : decode cX12_reckons 16 = .ok (.iload 5, 2) := by decide +kernel
theorem dX12_reckons_18 : decode cX12_reckons 18 = .ok (.aload_n 0, 1) := by decide +kernel
theorem dX12_reckons_19 : decode cX12_reckons 19 = .ok (.getfield 306, 3) := by decide +kernel
theorem dX12_reckons_22 : decode cX12_reckons 22 = .ok (.if_icmp .ge 206, 3) := by decide +kernel
theorem dX12_reckons_25 : decode cX12_reckons 25 = .ok (.aload_n 0, 1) := by decide +kernel
theorem dX12_reckons_26 : decode cX12_reckons 26 = .ok (.aload_n 1, 1) := by decide +kernel
theorem dX12_reckons_27 : decode cX12_reckons 27 = .ok (.iload_n 2, 1) := by decide +kernel
theorem dX12_reckons_28 : decode cX12_reckons 28 = .ok (.aload_n 0, 1) := by decide +kernel
theorem dX12_reckons_29 : decode cX12_reckons 29 = .ok (.getfield 79, 3) := by decide +kernel
theorem dX12_reckons_32 : decode cX12_reckons 32 = .ok (.iload 5, 2) := by decide +kernel
theorem dX12_reckons_34 : decode cX12_reckons 34 = .ok (.iaload, 1) := by decide +kernel
theorem dX12_reckons_35 : decode cX12_reckons 35 = .ok (.aload_n 0, 1) := by decide +kernel
theorem dX12_reckons_36 : decode cX12_reckons 36 = .ok (.getfield 79, 3) := by decide +kernel
theorem dX12_reckons_39 : decode cX12_reckons 39 = .ok (.iload 5, 2) := by decide +kernel
theorem dX12_reckons_41 : decode cX12_reckons 41 = .ok (.iconst 1, 1) := by decide +kernel
theorem dX12_reckons_42 : decode cX12_reckons 42 = .ok (.iadd, 1) := by decide +kernel
theorem dX12_reckons_43 : decode cX12_reckons 43 = .ok (.iaload, 1) := by decide +kernel
theorem dX12_reckons_44 : decode cX12_reckons 44 = .ok (.invokevirtual 309, 3) := by decide +kernel
theorem dX12_reckons_47 : decode cX12_reckons 47 = .ok (.istore 6, 2) := by decide +kernel
theorem dX12_reckons_49 : decode cX12_reckons 49 = .ok (.aload_n 0, 1) := by decide +kernel
theorem dX12_reckons_50 : decode cX12_reckons 50 = .ok (.aload_n 1, 1) := by decide +kernel
theorem dX12_reckons_51 : decode cX12_reckons 51 = .ok (.iload_n 2, 1) := by decide +kernel
theorem dX12_reckons_52 : decode cX12_reckons 52 = .ok (.aload_n 0, 1) := by decide +kernel
theorem dX12_reckons_53 : decode cX12_reckons 53 = .ok (.getfield 79, 3) := by decide +kernel
theorem dX12_reckons_56 : decode cX12_reckons 56 = .ok (.iload 5, 2) := by decide +kernel
theorem dX12_reckons_58 : decode cX12_reckons 58 = .ok (.iaload, 1) := by decide +kernel
theorem dX12_reckons_59 : decode cX12_reckons 59 = .ok (.aload_n 0, 1) := by decide +kernel
theorem dX12_reckons_60 : decode cX12_reckons 60 = .ok (.getfield 79, 3) := by decide +kernel
theorem dX12_reckons_63 : decode cX12_reckons 63 = .ok (.iload 5, 2) := by decide +kernel
theorem dX12_reckons_65 : decode cX12_reckons 65 = .ok (.iconst 1, 1) := by decide +kernel
theorem dX12_reckons_66 : decode cX12_reckons 66 = .ok (.iadd, 1) := by decide +kernel
theorem dX12_reckons_67 : decode cX12_reckons 67 = .ok (.iaload, 1) := by decide +kernel
theorem dX12_reckons_68 : decode cX12_reckons 68 = .ok (.aload_n 0, 1) := by decide +kernel
theorem dX12_reckons_69 : decode cX12_reckons 69 = .ok (.getfield 79, 3) := by decide +kernel
theorem dX12_reckons_72 : decode cX12_reckons 72 = .ok (.aload_n 0, 1) := by decide +kernel
theorem dX12_reckons_73 : decode cX12_reckons 73 = .ok (.getfield 306, 3) := by decide +kernel
theorem dX12_reckons_76 : decode cX12_reckons 76 = .ok (.iaload, 1) := by decide +kernel
theorem dX12_reckons_77 : decode cX12_reckons 77 = .ok (.iload 6, 2) := by decide +kernel
theorem dX12_reckons_79 : decode cX12_reckons 79 = .ok (.invokevirtual 312, 3) := by decide +kernel
theorem dX12_reckons_82 : decode cX12_reckons 82 = .ok (.aload_n 0, 1) := by decide +kernel
theorem dX12_reckons_83 : decode cX12_reckons 83 = .ok (.getfield 82, 3) := by decide +kernel
theorem dX12_reckons_86 : decode cX12_reckons 86 = .ok (.iload 5, 2) := by decide +kernel
theorem dX12_reckons_88 : decode cX12_reckons 88 = .ok (.aload_n 0, 1) := by decide +kernel
theorem dX12_reckons_89 : decode cX12_reckons 89 = .ok (.getfield 294, 3) := by decide +kernel
theorem dX12_reckons_92 : decode cX12_reckons 92 = .ok (.iastore, 1) := by decide +kernel
theorem dX12_reckons_93 : decode cX12_reckons 93 = .ok (.aload_n 0, 1) := by decide +kernel
theorem dX12_reckons_94 : decode cX12_reckons 94 = .ok (.getfield 85, 3) := by decide +kernel
theorem dX12_reckons_97 : decode cX12_reckons 97 = .ok (.iload 5, 2) := by decide +kernel
theorem dX12_reckons_99 : decode cX12_reckons 99 = .ok (.aload_n 0, 1) := by decide +kernel
theorem dX12_reckons_100 : decode cX12_reckons 100 = .ok (.getfield 291, 3) := by decide +kernel
theorem dX12_reckons_103 : decode cX12_reckons 103 = .ok (.iastore, 1) := by decide +kernel
theorem dX12_reckons_104 : decode cX12_reckons 104 = .ok (.aload_n 0, 1) := by decide +kernel
theorem dX12_reckons_105 : decode cX12_reckons 105 = .ok (.getfield 88, 3) := by decide +kernel
theorem dX12_reckons_108 : decode cX12_reckons 108 = .ok (.iload 5, 2) := by decide +kernel
theorem dX12_reckons_110 : decode cX12_reckons 110 = .ok (.iload 4, 2) := by decide +kernel
theorem dX12_reckons_112 : decode cX12_reckons 112 = .ok (.iastore, 1) := by decide +kernel
theorem dX12_reckons_113 : decode cX12_reckons 113 = .ok (.aload_n 0, 1) := by decide +kernel
theorem dX12_reckons_114 : decode cX12_reckons 114 = .ok (.getfield 91, 3) := by decide +kernel
theorem dX12_reckons_117 : decode cX12_reckons 117 = .ok (.iload 5, 2) := by decide +kernel
theorem dX12_reckons_119 : decode cX12_reckons 119 = .ok (.iload 4, 2) := by decide +kernel
theorem dX12_reckons_121 : decode cX12_reckons 121 = .ok (.i2l, 1) := by decide +kernel
theorem dX12_reckons_122 : decode cX12_reckons 122 = .ok (.aload_n 0, 1) := by decide +kernel
theorem dX12_reckons_123 : decode cX12_reckons 123 = .ok (.getfield 294, 3) := by decide +kernel
theorem dX12_reckons_126 : decode cX12_reckons 126 = .ok (.i2l, 1) := by decide +kernel
theorem dX12_reckons_127 : decode cX12_reckons 127 = .ok (.lmul, 1) := by decide +kernel
theorem dX12_reckons_128 : decode cX12_reckons 128 = .ok (.ldc2_w 316, 3) := by decide +kernel
theorem dX12_reckons_131 : decode cX12_reckons 131 = .ok (.ldiv, 1) := by decide +kernel
theorem dX12_reckons_132 : decode cX12_reckons 132 = .ok (.l2i, 1) := by decide +kernel
theorem dX12_reckons_133 : decode cX12_reckons 133 = .ok (.iastore, 1) := by decide +kernel
theorem dX12_reckons_134 : decode cX12_reckons 134 = .ok (.aload_n 0, 1) := by decide +kernel
theorem dX12_reckons_135 : decode cX12_reckons 135 = .ok (.getfield 94, 3) := by decide +kernel
theorem dX12_reckons_138 : decode cX12_reckons 138 = .ok (.iload 5, 2) := by decide +kernel
theorem dX12_reckons_140 : decode cX12_reckons 140 = .ok (.iload 5, 2) := by decide +kernel
theorem dX12_reckons_142 : decode cX12_reckons 142 = .ok (.aload_n 0, 1) := by decide +kernel
theorem dX12_reckons_143 : decode cX12_reckons 143 = .ok (.getfield 306, 3) := by decide +kernel
theorem dX12_reckons_146 : decode cX12_reckons 146 = .ok (.iconst 1, 1) := by decide +kernel
theorem dX12_reckons_147 : decode cX12_reckons 147 = .ok (.isub, 1) := by decide +kernel
theorem dX12_reckons_148 : decode cX12_reckons 148 = .ok (.if_icmp .ne 7, 3) := by decide +kernel
theorem dX12_reckons_151 : decode cX12_reckons 151 = .ok (.iconst 0, 1) := by decide +kernel
theorem dX12_reckons_152 : decode cX12_reckons 152 = .ok (.goto 17, 3) := by decide +kernel
theorem dX12_reckons_155 : decode cX12_reckons 155 = .ok (.aload_n 0, 1) := by decide +kernel
theorem dX12_reckons_156 : decode cX12_reckons 156 = .ok (.aload_n 1, 1) := by decide +kernel
theorem dX12_reckons_157 : decode cX12_reckons 157 = .ok (.iload_n 2, 1) := by decide +kernel
theorem dX12_reckons_158 : decode cX12_reckons 158 = .ok (.iload 5, 2) := by decide +kernel
theorem dX12_reckons_160 : decode cX12_reckons 160 = .ok (.aload_n 1, 1) := by decide +kernel
theorem dX12_reckons_161 : decode cX12_reckons 161 = .ok (.iload 6, 2) := by decide +kernel
theorem dX12_reckons_163 : decode cX12_reckons 163 = .ok (.iconst 3, 1) := by decide +kernel
theorem dX12_reckons_164 : decode cX12_reckons 164 = .ok (.iadd, 1) := by decide +kernel
theorem dX12_reckons_165 : decode cX12_reckons 165 = .ok (.iaload, 1) := by decide +kernel
theorem dX12_reckons_166 : decode cX12_reckons 166 = .ok (.invokevirtual 318, 3) := by decide +kernel
theorem dX12_reckons_169 : decode cX12_reckons 169 = .ok (.iastore, 1) := by decide +kernel
theorem dX12_reckons_170 : decode cX12_reckons 170 = .ok (.iload 4, 2) := by decide +kernel
theorem dX12_reckons_172 : decode cX12_reckons 172 = .ok (.aload_n 0, 1) := by decide +kernel
theorem dX12_reckons_173 : decode cX12_reckons 173 = .ok (.getfield 91, 3) := by decide +kernel
theorem dX12_reckons_176 : decode cX12_reckons 176 = .ok (.iload 5, 2) := by decide +kernel
theorem dX12_reckons_178 : decode cX12_reckons 178 = .ok (.iaload, 1) := by decide +kernel
theorem dX12_reckons_179 : decode cX12_reckons 179 = .ok (.aload_n 0, 1) := by decide +kernel
theorem dX12_reckons_180 : decode cX12_reckons 180 = .ok (.getfield 94, 3) := by decide +kernel
theorem dX12_reckons_183 : decode cX12_reckons 183 = .ok (.iload 5, 2) := by decide +kernel
theorem dX12_reckons_185 : decode cX12_reckons 185 = .ok (.iaload, 1) := by decide +kernel
theorem dX12_reckons_186 : decode cX12_reckons 186 = .ok (.iadd, 1) := by decide +kernel
theorem dX12_reckons_187 : decode cX12_reckons 187 = .ok (.isub, 1) := by decide +kernel
theorem dX12_reckons_188 : decode cX12_reckons 188 = .ok (.istore 4, 2) := by decide +kernel
theorem dX12_reckons_190 : decode cX12_reckons 190 = .ok (.aload_n 0, 1) := by decide +kernel
theorem dX12_reckons_191 : decode cX12_reckons 191 = .ok (.dup, 1) := by decide +kernel
theorem dX12_reckons_192 : decode cX12_reckons 192 = .ok (.getfield 300, 3) := by decide +kernel
theorem dX12_reckons_195 : decode cX12_reckons 195 = .ok (.aload_n 0, 1) := by decide +kernel
theorem dX12_reckons_196 : decode cX12_reckons 196 = .ok (.getfield 91, 3) := by decide +kernel
theorem dX12_reckons_199 : decode cX12_reckons 199 = .ok (.iload 5, 2) := by decide +kernel
theorem dX12_reckons_201 : decode cX12_reckons 201 = .ok (.iaload, 1) := by decide +kernel
theorem dX12_reckons_202 : decode cX12_reckons 202 = .ok (.iadd, 1) := by decide +kernel
theorem dX12_reckons_203 : decode cX12_reckons 203 = .ok (.putfield 300, 3) := by decide +kernel
theorem dX12_reckons_206 : decode cX12_reckons 206 = .ok (.aload_n 0, 1) := by decide +kernel
theorem dX12_reckons_207 : decode cX12_reckons 207 = .ok (.dup, 1) := by decide +kernel
theorem dX12_reckons_208 : decode cX12_reckons 208 = .ok (.getfield 303, 3) := by decide +kernel
theorem dX12_reckons_211 : decode cX12_reckons 211 = .ok (.aload_n 0, 1) := by decide +kernel
theorem dX12_reckons_212 : decode cX12_reckons 212 = .ok (.getfield 94, 3) := by decide +kernel
theorem dX12_reckons_215 : decode cX12_reckons 215 = .ok (.iload 5, 2) := by decide +kernel
theorem dX12_reckons_217 : decode cX12_reckons 217 = .ok (.iaload, 1) := by decide +kernel
theorem dX12_reckons_218 : decode cX12_reckons 218 = .ok (.iadd, 1) := by decide +kernel
theorem dX12_reckons_219 : decode cX12_reckons 219 = .ok (.putfield 303, 3) := by decide +kernel
theorem dX12_reckons_222 : decode cX12_reckons 222 = .ok (.iinc 5 1, 3) := by decide +kernel
theorem dX12_reckons_225 : decode cX12_reckons 225 = .ok (.goto (-209), 3) := by decide +kernel
theorem dX12_reckons_228 : decode cX12_reckons 228 = .ok (.aload_n 0, 1) := by decide +kernel
theorem dX12_reckons_229 : decode cX12_reckons 229 = .ok (.iload 4, 2) := by decide +kernel
theorem dX12_reckons_231 : decode cX12_reckons 231 = .ok (.putfield 321, 3) := by decide +kernel
theorem dX12_reckons_234 : decode cX12_reckons 234 = .ok (.return_, 1) := by decide +kernel
set_option maxHeartbeats 4000000 in
set_option maxRecDepth 100000 in
theorem B_X12_reckons_0 {d : Nat} {ro : Nat → Nat} {J : JT} {Z : Option Value → Hp → Prop} (g : xCtx RX12 cX12_reckons 7 d 0 0 yX12_reckons.name ro J) (hr : xRet cX12_reckons none 0 0 Z J) {μ : Hp} {a0 : Nat} {a1 : Nat} {x2 : Int32} {x3 : Int32} (hs_a0 : hS μ a0 = some (15, 65))
    (h : J (wI (wI μ a0 52 0) a0 53 0) 0 0 16 [(0, .ref a0), (1, .ref a1), (2, .int x2), (4, .int x3), (5, .int 0)] []) :
    J μ 0 0 0 [(0, .ref a0), (1, .ref a1), (2, .int x2), (3, .int x3)] [] := by
  refine r_iload_n g dX12_reckons_0 rfl ?_
  refine r_istore g [(4, .int x3), (0, .ref a0), (1, .ref a1), (2, .int x2), (3, .int x3)] dX12_reckons_1 (by decide) rfl ?_
  refine r_aload_n g dX12_reckons_3 rfl ?_
  refine r_iconst g 0 dX12_reckons_4 (by decide) ?_
  refine r_putI g fX12_300 rfl hs_a0 rfl rfl dX12_reckons_5 ?_
  refine r_aload_n g dX12_reckons_8 rfl ?_
  refine r_iconst g 0 dX12_reckons_9 (by decide) ?_
  refine r_putI g fX12_303 rfl hs_a0 rfl rfl dX12_reckons_10 ?_
  refine r_iconst g 0 dX12_reckons_13 (by decide) ?_
  refine r_istore g [(5, .int 0), (4, .int x3), (0, .ref a0), (1, .ref a1), (2, .int x2), (3, .int x3)] dX12_reckons_14 (by decide) rfl ?_
  refine r_sub g (lv' := [(0, .ref a0), (1, .ref a1), (2, .int x2), (4, .int x3), (5, .int 0)]) (⟨rfl, rfl, rfl, rfl, rfl, trivial⟩) ?_
  exact h
set_option maxHeartbeats 4000000 in
set_option maxRecDepth 100000 in
theorem B_X12_reckons_16 {d : Nat} {ro : Nat → Nat} {J : JT} {Z : Option Value → Hp → Prop} (g : xCtx RX12 cX12_reckons 7 d 0 0 yX12_reckons.name ro J) (hr : xRet cX12_reckons none 0 0 Z J) {μ : Hp} {a0 : Nat} {a1 : Nat} {x2 : Int32} {x4 : Int32} {x5 : Int32} {a0_way : Nat} {N_a0_way : Nat} (hs_a0 : hS μ a0 = some (15, 65)) (hr_a0_way : hR μ a0 43 = some a0_way) (hs_a0_way : hS μ a0_way = some (0, N_a0_way))
    (h : (((hI μ a0 50) ≤ x5 → Z none (wI μ a0 51 x4)) ∧ (¬ (hI μ a0 50) ≤ x5 → vp_in x5 N_a0_way ∧ vp_in (x5 + 1) N_a0_way ∧ xCall d yX12_hopOf cX12_hopOf 6 (some .int) [.ref a0, .ref a1, .int x2, .int (hI μ a0_way x5.toNatClampNeg), .int (hI μ a0_way ((x5 + 1).toNatClampNeg))] μ ro (fun r4 μ5 => ∃ y6 : Int32, r4 = some (.int y6) ∧ hS μ5 a0 = some (15, 65) ∧ ∃ way_7 : Nat, hR μ5 a0 43 = some way_7 ∧ ∃ N8 : Nat, hS μ5 way_7 = some (0, N8) ∧ vp_in x5 N8 ∧ vp_in (x5 + 1) N8 ∧ vp_in (hI μ5 a0 50) N8 ∧ xCall d yX12_laysHop cX12_laysHop 9 none [.ref a0, .ref a1, .int x2, .int (hI μ5 way_7 x5.toNatClampNeg), .int (hI μ5 way_7 ((x5 + 1).toNatClampNeg)), .int (hI μ5 way_7 ((hI μ5 a0 50).toNatClampNeg)), .int y6] μ5 ro (fun r12 μ13 => r12 = none ∧ hS μ13 a0 = some (15, 65) ∧ ∃ rates_14 : Nat, hR μ13 a0 44 = some rates_14 ∧ ∃ N15 : Nat, hS μ13 rates_14 = some (0, N15) ∧ vp_in x5 N15 ∧ ∃ articles_17 : Nat, hR μ13 a0 45 = some articles_17 ∧ ∃ N18 : Nat, hS μ13 articles_17 = some (0, N18) ∧ vp_in x5 N18 ∧ ∃ paid_20 : Nat, hR μ13 a0 46 = some paid_20 ∧ ∃ N21 : Nat, hS μ13 paid_20 = some (0, N21) ∧ vp_in x5 N21 ∧ ∃ held_23 : Nat, hR μ13 a0 47 = some held_23 ∧ (∀ v24 : Int32, v24 = (hI (wI (wI (wI μ13 rates_14 x5.toNatClampNeg (hI μ13 a0 41)) articles_17 x5.toNatClampNeg (hI (wI μ13 rates_14 x5.toNatClampNeg (hI μ13 a0 41)) a0 42)) paid_20 x5.toNatClampNeg x4) a0 41) → ∃ N25 : Nat, hS μ13 held_23 = some (0, N25) ∧ vp_in x5 N25 ∧ ∃ dues_27 : Nat, hR μ13 a0 48 = some dues_27 ∧ (∀ v28 : Int32, v28 = (hI (wI (wI (wI (wI μ13 rates_14 x5.toNatClampNeg (hI μ13 a0 41)) articles_17 x5.toNatClampNeg (hI (wI μ13 rates_14 x5.toNatClampNeg (hI μ13 a0 41)) a0 42)) paid_20 x5.toNatClampNeg x4) held_23 x5.toNatClampNeg (((x4.toInt64 * v24.toInt64) / 1000).toInt32)) a0 50) → ((¬ x5 = (v28 - 1) → ∃ N30 : Nat, hS μ13 a1 = some (0, N30) ∧ vp_in (y6 + 3) N30 ∧ (∀ v32 : Int32, v32 = (hI (wI (wI (wI (wI μ13 rates_14 x5.toNatClampNeg (hI μ13 a0 41)) articles_17 x5.toNatClampNeg (hI (wI μ13 rates_14 x5.toNatClampNeg (hI μ13 a0 41)) a0 42)) paid_20 x5.toNatClampNeg x4) held_23 x5.toNatClampNeg (((x4.toInt64 * v24.toInt64) / 1000).toInt32)) a1 ((y6 + 3).toNatClampNeg)) → xCall d yX12_dueOf cX12_dueOf 9 (some .int) [.ref a0, .ref a1, .int x2, .int x5, .int v32] (wI (wI (wI (wI μ13 rates_14 x5.toNatClampNeg (hI μ13 a0 41)) articles_17 x5.toNatClampNeg (hI (wI μ13 rates_14 x5.toNatClampNeg (hI μ13 a0 41)) a0 42)) paid_20 x5.toNatClampNeg x4) held_23 x5.toNatClampNeg (((x4.toInt64 * v24.toInt64) / 1000).toInt32)) ro (fun r33 μ34 => ∃ y35 : Int32, r33 = some (.int y35) ∧ ∃ N36 : Nat, hS μ34 dues_27 = some (0, N36) ∧ vp_in x5 N36 ∧ hS μ34 a0 = some (15, 65) ∧ ∃ held_38 : Nat, hR μ34 a0 47 = some held_38 ∧ ∃ N39 : Nat, hS μ34 held_38 = some (0, N39) ∧ vp_in x5 N39 ∧ (∀ v41 : Int32, v41 = (hI (wI μ34 dues_27 x5.toNatClampNeg y35) held_38 x5.toNatClampNeg) → ∃ dues_42 : Nat, hR μ34 a0 48 = some dues_42 ∧ ∃ N43 : Nat, hS μ34 dues_42 = some (0, N43) ∧ vp_in x5 N43 ∧ (∀ v45 : Int32, v45 = (hI (wI μ34 dues_27 x5.toNatClampNeg y35) dues_42 x5.toNatClampNeg) → (∀ v46 : Int32, v46 = (hI (wI μ34 dues_27 x5.toNatClampNeg y35) held_38 x5.toNatClampNeg) → (∀ v47 : Int32, v47 = (hI (wI (wI μ34 dues_27 x5.toNatClampNeg y35) a0 52 ((hI (wI μ34 dues_27 x5.toNatClampNeg y35) a0 52) + v46)) a0 53) → (∀ v48 : Int32, v48 = (hI (wI (wI μ34 dues_27 x5.toNatClampNeg y35) a0 52 ((hI (wI μ34 dues_27 x5.toNatClampNeg y35) a0 52) + v46)) dues_42 x5.toNatClampNeg) → J (wI (wI (wI μ34 dues_27 x5.toNatClampNeg y35) a0 52 ((hI (wI μ34 dues_27 x5.toNatClampNeg y35) a0 52) + v46)) a0 53 (v47 + v48)) 0 0 16 [(0, .ref a0), (1, .ref a1), (2, .int x2), (4, .int (x4 - (v41 + v45))), (5, .int (x5 + 1))] [])))))))) ∧ (x5 = (v28 - 1) → ∃ N49 : Nat, hS μ13 dues_27 = some (0, N49) ∧ vp_in x5 N49 ∧ (∀ v51 : Int32, v51 = (hI (wI (wI (wI (wI (wI μ13 rates_14 x5.toNatClampNeg (hI μ13 a0 41)) articles_17 x5.toNatClampNeg (hI (wI μ13 rates_14 x5.toNatClampNeg (hI μ13 a0 41)) a0 42)) paid_20 x5.toNatClampNeg x4) held_23 x5.toNatClampNeg (((x4.toInt64 * v24.toInt64) / 1000).toInt32)) dues_27 x5.toNatClampNeg 0) held_23 x5.toNatClampNeg) → (∀ v52 : Int32, v52 = (hI (wI (wI (wI (wI (wI μ13 rates_14 x5.toNatClampNeg (hI μ13 a0 41)) articles_17 x5.toNatClampNeg (hI (wI μ13 rates_14 x5.toNatClampNeg (hI μ13 a0 41)) a0 42)) paid_20 x5.toNatClampNeg x4) held_23 x5.toNatClampNeg (((x4.toInt64 * v24.toInt64) / 1000).toInt32)) dues_27 x5.toNatClampNeg 0) dues_27 x5.toNatClampNeg) → (∀ v53 : Int32, v53 = (hI (wI (wI (wI (wI (wI μ13 rates_14 x5.toNatClampNeg (hI μ13 a0 41)) articles_17 x5.toNatClampNeg (hI (wI μ13 rates_14 x5.toNatClampNeg (hI μ13 a0 41)) a0 42)) paid_20 x5.toNatClampNeg x4) held_23 x5.toNatClampNeg (((x4.toInt64 * v24.toInt64) / 1000).toInt32)) dues_27 x5.toNatClampNeg 0) a0 52) → (∀ v54 : Int32, v54 = (hI (wI (wI (wI (wI (wI μ13 rates_14 x5.toNatClampNeg (hI μ13 a0 41)) articles_17 x5.toNatClampNeg (hI (wI μ13 rates_14 x5.toNatClampNeg (hI μ13 a0 41)) a0 42)) paid_20 x5.toNatClampNeg x4) held_23 x5.toNatClampNeg (((x4.toInt64 * v24.toInt64) / 1000).toInt32)) dues_27 x5.toNatClampNeg 0) held_23 x5.toNatClampNeg) → (∀ v55 : Int32, v55 = (hI (wI (wI (wI (wI (wI (wI μ13 rates_14 x5.toNatClampNeg (hI μ13 a0 41)) articles_17 x5.toNatClampNeg (hI (wI μ13 rates_14 x5.toNatClampNeg (hI μ13 a0 41)) a0 42)) paid_20 x5.toNatClampNeg x4) held_23 x5.toNatClampNeg (((x4.toInt64 * v24.toInt64) / 1000).toInt32)) dues_27 x5.toNatClampNeg 0) a0 52 (v53 + v54)) a0 53) → (∀ v56 : Int32, v56 = (hI (wI (wI (wI (wI (wI (wI μ13 rates_14 x5.toNatClampNeg (hI μ13 a0 41)) articles_17 x5.toNatClampNeg (hI (wI μ13 rates_14 x5.toNatClampNeg (hI μ13 a0 41)) a0 42)) paid_20 x5.toNatClampNeg x4) held_23 x5.toNatClampNeg (((x4.toInt64 * v24.toInt64) / 1000).toInt32)) dues_27 x5.toNatClampNeg 0) a0 52 (v53 + v54)) dues_27 x5.toNatClampNeg) → J (wI (wI (wI (wI (wI (wI (wI μ13 rates_14 x5.toNatClampNeg (hI μ13 a0 41)) articles_17 x5.toNatClampNeg (hI (wI μ13 rates_14 x5.toNatClampNeg (hI μ13 a0 41)) a0 42)) paid_20 x5.toNatClampNeg x4) held_23 x5.toNatClampNeg (((x4.toInt64 * v24.toInt64) / 1000).toInt32)) dues_27 x5.toNatClampNeg 0) a0 52 (v53 + v54)) a0 53 (v55 + v56)) 0 0 16 [(0, .ref a0), (1, .ref a1), (2, .int x2), (4, .int (x4 - (v51 + v52))), (5, .int (x5 + 1))] []))))))))))))))) :
    J μ 0 0 16 [(0, .ref a0), (1, .ref a1), (2, .int x2), (4, .int x4), (5, .int x5)] [] := by
  refine r_iload g dX12_reckons_16 rfl ?_
  refine r_aload_n g dX12_reckons_18 rfl ?_
  refine r_getI g fX12_306 rfl hs_a0 dX12_reckons_19 ?_
  refine r_icmp_ge g 228 dX12_reckons_22 (by decide) (fun c1 => ?_) (fun c1 => ?_)
  · replace h := h.1 c1
    refine r_aload_n g dX12_reckons_228 rfl ?_
    refine r_iload g dX12_reckons_229 rfl ?_
    refine r_putI g fX12_321 rfl hs_a0 rfl rfl dX12_reckons_231 ?_
    exact hr.1 rfl _ _ _ _ _ dX12_reckons_234 (Nat.le_refl 0) (Nat.le_refl 0) h
  · replace h := h.2 c1
    refine r_aload_n g dX12_reckons_25 rfl ?_
    refine r_aload_n g dX12_reckons_26 rfl ?_
    refine r_iload_n g dX12_reckons_27 rfl ?_
    refine r_aload_n g dX12_reckons_28 rfl ?_
    refine r_getR g fX12_79 rfl hs_a0 hr_a0_way dX12_reckons_29 ?_
    refine r_iload g dX12_reckons_32 rfl ?_
    obtain ⟨hi2, h⟩ := h
    refine r_iaload g hs_a0_way hi2 dX12_reckons_34 ?_
    refine r_aload_n g dX12_reckons_35 rfl ?_
    refine r_getR g fX12_79 rfl hs_a0 hr_a0_way dX12_reckons_36 ?_
    refine r_iload g dX12_reckons_39 rfl ?_
    refine r_iconst g 1 dX12_reckons_41 (by decide) ?_
    refine r_iadd g dX12_reckons_42 ?_
    obtain ⟨hi3, h⟩ := h
    refine r_iaload g hs_a0_way hi3 dX12_reckons_43 ?_
    obtain ⟨d1, Z1, hc1, hd1, h1⟩ := h
    refine r_callV (st := []) (As := [.ref a1, .int x2, .int (hI μ a0_way x5.toNatClampNeg), .int (hI μ a0_way ((x5 + 1).toNatClampNeg))]) g sX12_309 iX12_hopOf eX12_hopOf rfl hs_a0 rfl (Nat.le_of_ble_eq_true rfl) dX12_reckons_44 hd1 (Nat.le_refl 0) (Nat.le_refl 0) hc1 (fun r4 μ5 hZ1 => ?_)
    replace h := h1 _ _ hZ1
    clear h1 hc1 hd1 hZ1 Z1 d1
    obtain ⟨y6, rfl, h⟩ := h
    refine r_istore g [(6, .int y6), (0, .ref a0), (1, .ref a1), (2, .int x2), (4, .int x4), (5, .int x5)] dX12_reckons_47 (by decide) rfl ?_
    refine r_aload_n g dX12_reckons_49 rfl ?_
    refine r_aload_n g dX12_reckons_50 rfl ?_
    refine r_iload_n g dX12_reckons_51 rfl ?_
    refine r_aload_n g dX12_reckons_52 rfl ?_
    obtain ⟨hs_a0_, h⟩ := h
    obtain ⟨way_7, hr_way_7, h⟩ := h
    refine r_getR g fX12_79 rfl hs_a0_ hr_way_7 dX12_reckons_53 ?_
    refine r_iload g dX12_reckons_56 rfl ?_
    obtain ⟨N8, hs_way_7, h⟩ := h
    obtain ⟨hi9, h⟩ := h
    refine r_iaload g hs_way_7 hi9 dX12_reckons_58 ?_
    refine r_aload_n g dX12_reckons_59 rfl ?_
    refine r_getR g fX12_79 rfl hs_a0_ hr_way_7 dX12_reckons_60 ?_
    refine r_iload g dX12_reckons_63 rfl ?_
    refine r_iconst g 1 dX12_reckons_65 (by decide) ?_
    refine r_iadd g dX12_reckons_66 ?_
    obtain ⟨hi10, h⟩ := h
    refine r_iaload g hs_way_7 hi10 dX12_reckons_67 ?_
    refine r_aload_n g dX12_reckons_68 rfl ?_
    refine r_getR g fX12_79 rfl hs_a0_ hr_way_7 dX12_reckons_69 ?_
    refine r_aload_n g dX12_reckons_72 rfl ?_
    refine r_getI g fX12_306 rfl hs_a0_ dX12_reckons_73 ?_
    obtain ⟨hi11, h⟩ := h
    refine r_iaload g hs_way_7 hi11 dX12_reckons_76 ?_
    refine r_iload g dX12_reckons_77 rfl ?_
    obtain ⟨d1, Z1, hc1, hd1, h1⟩ := h
    refine r_callV (st := []) (As := [.ref a1, .int x2, .int (hI μ5 way_7 x5.toNatClampNeg), .int (hI μ5 way_7 ((x5 + 1).toNatClampNeg)), .int (hI μ5 way_7 ((hI μ5 a0 50).toNatClampNeg)), .int y6]) g sX12_312 iX12_laysHop eX12_laysHop rfl hs_a0_ rfl (Nat.le_of_ble_eq_true rfl) dX12_reckons_79 hd1 (Nat.le_refl 0) (Nat.le_refl 0) hc1 (fun r12 μ13 hZ1 => ?_)
    replace h := h1 _ _ hZ1
    clear h1 hc1 hd1 hZ1 Z1 d1
    obtain ⟨rfl, h⟩ := h
    refine r_aload_n g dX12_reckons_82 rfl ?_
    obtain ⟨hs_a0__, h⟩ := h
    obtain ⟨rates_14, hr_rates_14, h⟩ := h
    refine r_getR g fX12_82 rfl hs_a0__ hr_rates_14 dX12_reckons_83 ?_
    refine r_iload g dX12_reckons_86 rfl ?_
    refine r_aload_n g dX12_reckons_88 rfl ?_
    refine r_getI g fX12_294 rfl hs_a0__ dX12_reckons_89 ?_
    obtain ⟨N15, hs_rates_14, h⟩ := h
    obtain ⟨hi16, h⟩ := h
    refine r_iastore g hs_rates_14 hi16 dX12_reckons_92 ?_
    refine r_aload_n g dX12_reckons_93 rfl ?_
    obtain ⟨articles_17, hr_articles_17, h⟩ := h
    refine r_getR g fX12_85 rfl hs_a0__ hr_articles_17 dX12_reckons_94 ?_
    refine r_iload g dX12_reckons_97 rfl ?_
    refine r_aload_n g dX12_reckons_99 rfl ?_
    refine r_getI g fX12_291 rfl hs_a0__ dX12_reckons_100 ?_
    obtain ⟨N18, hs_articles_17, h⟩ := h
    obtain ⟨hi19, h⟩ := h
    refine r_iastore g hs_articles_17 hi19 dX12_reckons_103 ?_
    refine r_aload_n g dX12_reckons_104 rfl ?_
    obtain ⟨paid_20, hr_paid_20, h⟩ := h
    refine r_getR g fX12_88 rfl hs_a0__ hr_paid_20 dX12_reckons_105 ?_
    refine r_iload g dX12_reckons_108 rfl ?_
    refine r_iload g dX12_reckons_110 rfl ?_
    obtain ⟨N21, hs_paid_20, h⟩ := h
    obtain ⟨hi22, h⟩ := h
    refine r_iastore g hs_paid_20 hi22 dX12_reckons_112 ?_
    refine r_aload_n g dX12_reckons_113 rfl ?_
    obtain ⟨held_23, hr_held_23, h⟩ := h
    refine r_getR g fX12_91 rfl hs_a0__ hr_held_23 dX12_reckons_114 ?_
    refine r_iload g dX12_reckons_117 rfl ?_
    refine r_iload g dX12_reckons_119 rfl ?_
    refine r_i2l g dX12_reckons_121 ?_
    refine r_aload_n g dX12_reckons_122 rfl ?_
    refine r_getI g fX12_294 rfl hs_a0__ dX12_reckons_123 ?_
    refine r_nmI (fun v24 ev24 => ?_)
    replace h := h v24 ev24
    refine r_i2l g dX12_reckons_126 ?_
    refine r_lmul g dX12_reckons_127 ?_
    refine r_ldc2 g 1000 kX12_316 dX12_reckons_128 ?_
    refine r_ldiv g (by decide) dX12_reckons_131 ?_
    refine r_l2i g dX12_reckons_132 ?_
    obtain ⟨N25, hs_held_23, h⟩ := h
    obtain ⟨hi26, h⟩ := h
    refine r_iastore g hs_held_23 hi26 dX12_reckons_133 ?_
    refine r_aload_n g dX12_reckons_134 rfl ?_
    obtain ⟨dues_27, hr_dues_27, h⟩ := h
    refine r_getR g fX12_94 rfl hs_a0__ hr_dues_27 dX12_reckons_135 ?_
    refine r_iload g dX12_reckons_138 rfl ?_
    refine r_iload g dX12_reckons_140 rfl ?_
    refine r_aload_n g dX12_reckons_142 rfl ?_
    refine r_getI g fX12_306 rfl hs_a0__ dX12_reckons_143 ?_
    refine r_nmI (fun v28 ev28 => ?_)
    replace h := h v28 ev28
    refine r_iconst g 1 dX12_reckons_146 (by decide) ?_
    refine r_isub g dX12_reckons_147 ?_
    refine r_icmp_ne g 155 dX12_reckons_148 (by decide) (fun c29 => ?_) (fun c29 => ?_)
    · replace h := h.1 c29
      refine r_aload_n g dX12_reckons_155 rfl ?_
      refine r_aload_n g dX12_reckons_156 rfl ?_
      refine r_iload_n g dX12_reckons_157 rfl ?_
      refine r_iload g dX12_reckons_158 rfl ?_
      refine r_aload_n g dX12_reckons_160 rfl ?_
      refine r_iload g dX12_reckons_161 rfl ?_
      refine r_iconst g 3 dX12_reckons_163 (by decide) ?_
      refine r_iadd g dX12_reckons_164 ?_
      obtain ⟨N30, hs_a1, h⟩ := h
      obtain ⟨hi31, h⟩ := h
      refine r_iaload g hs_a1 hi31 dX12_reckons_165 ?_
      refine r_nmI (fun v32 ev32 => ?_)
      replace h := h v32 ev32
      obtain ⟨d1, Z1, hc1, hd1, h1⟩ := h
      refine r_callV (st := [.int x5, .ref dues_27]) (As := [.ref a1, .int x2, .int x5, .int v32]) g sX12_318 iX12_dueOf eX12_dueOf rfl hs_a0__ rfl (Nat.le_of_ble_eq_true rfl) dX12_reckons_166 hd1 (Nat.le_refl 0) (Nat.le_refl 0) hc1 (fun r33 μ34 hZ1 => ?_)
      replace h := h1 _ _ hZ1
      clear h1 hc1 hd1 hZ1 Z1 d1
      obtain ⟨y35, rfl, h⟩ := h
      obtain ⟨N36, hs_dues_27, h⟩ := h
      obtain ⟨hi37, h⟩ := h
      refine r_iastore g hs_dues_27 hi37 dX12_reckons_169 ?_
      refine r_iload g dX12_reckons_170 rfl ?_
      refine r_aload_n g dX12_reckons_172 rfl ?_
      obtain ⟨hs_a0___, h⟩ := h
      obtain ⟨held_38, hr_held_38, h⟩ := h
      refine r_getR g fX12_91 rfl hs_a0___ hr_held_38 dX12_reckons_173 ?_
      refine r_iload g dX12_reckons_176 rfl ?_
      obtain ⟨N39, hs_held_38, h⟩ := h
      obtain ⟨hi40, h⟩ := h
      refine r_iaload g hs_held_38 hi40 dX12_reckons_178 ?_
      refine r_nmI (fun v41 ev41 => ?_)
      replace h := h v41 ev41
      refine r_aload_n g dX12_reckons_179 rfl ?_
      obtain ⟨dues_42, hr_dues_42, h⟩ := h
      refine r_getR g fX12_94 rfl hs_a0___ hr_dues_42 dX12_reckons_180 ?_
      refine r_iload g dX12_reckons_183 rfl ?_
      obtain ⟨N43, hs_dues_42, h⟩ := h
      obtain ⟨hi44, h⟩ := h
      refine r_iaload g hs_dues_42 hi44 dX12_reckons_185 ?_
      refine r_nmI (fun v45 ev45 => ?_)
      replace h := h v45 ev45
      refine r_iadd g dX12_reckons_186 ?_
      refine r_isub g dX12_reckons_187 ?_
      refine r_istore g [(4, .int (x4 - (v41 + v45))), (6, .int y6), (0, .ref a0), (1, .ref a1), (2, .int x2), (5, .int x5)] dX12_reckons_188 (by decide) rfl ?_
      refine r_aload_n g dX12_reckons_190 rfl ?_
      refine r_dup g dX12_reckons_191 rfl ?_
      refine r_getI g fX12_300 rfl hs_a0___ dX12_reckons_192 ?_
      refine r_aload_n g dX12_reckons_195 rfl ?_
      refine r_getR g fX12_91 rfl hs_a0___ hr_held_38 dX12_reckons_196 ?_
      refine r_iload g dX12_reckons_199 rfl ?_
      refine r_iaload g hs_held_38 hi40 dX12_reckons_201 ?_
      refine r_nmI (fun v46 ev46 => ?_)
      replace h := h v46 ev46
      refine r_iadd g dX12_reckons_202 ?_
      refine r_putI g fX12_300 rfl hs_a0___ rfl rfl dX12_reckons_203 ?_
      refine r_aload_n g dX12_reckons_206 rfl ?_
      refine r_dup g dX12_reckons_207 rfl ?_
      refine r_getI g fX12_303 rfl hs_a0___ dX12_reckons_208 ?_
      refine r_nmI (fun v47 ev47 => ?_)
      replace h := h v47 ev47
      refine r_aload_n g dX12_reckons_211 rfl ?_
      refine r_getR g fX12_94 rfl hs_a0___ hr_dues_42 dX12_reckons_212 ?_
      refine r_iload g dX12_reckons_215 rfl ?_
      refine r_iaload g hs_dues_42 hi44 dX12_reckons_217 ?_
      refine r_nmI (fun v48 ev48 => ?_)
      replace h := h v48 ev48
      refine r_iadd g dX12_reckons_218 ?_
      refine r_putI g fX12_303 rfl hs_a0___ rfl rfl dX12_reckons_219 ?_
      refine r_iinc g (x5 + 1) [(5, .int (x5 + 1)), (4, .int (x4 - (v41 + v45))), (6, .int y6), (0, .ref a0), (1, .ref a1), (2, .int x2)] dX12_reckons_222 rfl rfl (by decide) rfl ?_
      refine r_goto g 16 dX12_reckons_225 (by decide) ?_
      refine r_sub g (lv' := [(0, .ref a0), (1, .ref a1), (2, .int x2), (4, .int (x4 - (v41 + v45))), (5, .int (x5 + 1))]) (⟨rfl, rfl, rfl, rfl, rfl, trivial⟩) ?_
      exact h
    · replace h := h.2 c29
      refine r_iconst g 0 dX12_reckons_151 (by decide) ?_
      refine r_goto g 169 dX12_reckons_152 (by decide) ?_
      obtain ⟨N49, hs_dues_27_, h⟩ := h
      obtain ⟨hi50, h⟩ := h
      refine r_iastore g hs_dues_27_ hi50 dX12_reckons_169 ?_
      refine r_iload g dX12_reckons_170 rfl ?_
      refine r_aload_n g dX12_reckons_172 rfl ?_
      refine r_getR g fX12_91 rfl hs_a0__ hr_held_23 dX12_reckons_173 ?_
      refine r_iload g dX12_reckons_176 rfl ?_
      refine r_iaload g hs_held_23 hi26 dX12_reckons_178 ?_
      refine r_nmI (fun v51 ev51 => ?_)
      replace h := h v51 ev51
      refine r_aload_n g dX12_reckons_179 rfl ?_
      refine r_getR g fX12_94 rfl hs_a0__ hr_dues_27 dX12_reckons_180 ?_
      refine r_iload g dX12_reckons_183 rfl ?_
      refine r_iaload g hs_dues_27_ hi50 dX12_reckons_185 ?_
      refine r_nmI (fun v52 ev52 => ?_)
      replace h := h v52 ev52
      refine r_iadd g dX12_reckons_186 ?_
      refine r_isub g dX12_reckons_187 ?_
      refine r_istore g [(4, .int (x4 - (v51 + v52))), (6, .int y6), (0, .ref a0), (1, .ref a1), (2, .int x2), (5, .int x5)] dX12_reckons_188 (by decide) rfl ?_
      refine r_aload_n g dX12_reckons_190 rfl ?_
      refine r_dup g dX12_reckons_191 rfl ?_
      refine r_getI g fX12_300 rfl hs_a0__ dX12_reckons_192 ?_
      refine r_nmI (fun v53 ev53 => ?_)
      replace h := h v53 ev53
      refine r_aload_n g dX12_reckons_195 rfl ?_
      refine r_getR g fX12_91 rfl hs_a0__ hr_held_23 dX12_reckons_196 ?_
      refine r_iload g dX12_reckons_199 rfl ?_
      refine r_iaload g hs_held_23 hi26 dX12_reckons_201 ?_
      refine r_nmI (fun v54 ev54 => ?_)
      replace h := h v54 ev54
      refine r_iadd g dX12_reckons_202 ?_
      refine r_putI g fX12_300 rfl hs_a0__ rfl rfl dX12_reckons_203 ?_
      refine r_aload_n g dX12_reckons_206 rfl ?_
      refine r_dup g dX12_reckons_207 rfl ?_
      refine r_getI g fX12_303 rfl hs_a0__ dX12_reckons_208 ?_
      refine r_nmI (fun v55 ev55 => ?_)
      replace h := h v55 ev55
      refine r_aload_n g dX12_reckons_211 rfl ?_
      refine r_getR g fX12_94 rfl hs_a0__ hr_dues_27 dX12_reckons_212 ?_
      refine r_iload g dX12_reckons_215 rfl ?_
      refine r_iaload g hs_dues_27_ hi50 dX12_reckons_217 ?_
      refine r_nmI (fun v56 ev56 => ?_)
      replace h := h v56 ev56
      refine r_iadd g dX12_reckons_218 ?_
      refine r_putI g fX12_303 rfl hs_a0__ rfl rfl dX12_reckons_219 ?_
      refine r_iinc g (x5 + 1) [(5, .int (x5 + 1)), (4, .int (x4 - (v51 + v52))), (6, .int y6), (0, .ref a0), (1, .ref a1), (2, .int x2)] dX12_reckons_222 rfl rfl (by decide) rfl ?_
      refine r_goto g 16 dX12_reckons_225 (by decide) ?_
      refine r_sub g (lv' := [(0, .ref a0), (1, .ref a1), (2, .int x2), (4, .int (x4 - (v51 + v52))), (5, .int (x5 + 1))]) (⟨rfl, rfl, rfl, rfl, rfl, trivial⟩) ?_
      exact h
theorem I_X12_reckons {d : Nat} {ro : Nat → Nat} {Z : Option Value → Hp → Prop} {μ : Hp} {a0 : Nat} {a1 : Nat} {x2 : Int32} {x3 : Int32} (h : ∀ J, xCtx RX12 cX12_reckons 7 d 0 0 yX12_reckons.name ro J → xRet cX12_reckons none 0 0 Z J → J μ 0 0 0 [(0, .ref a0), (1, .ref a1), (2, .int x2), (3, .int x3)] []) : xC d yX12_reckons cX12_reckons 7 none 0 0 [.ref a0, .ref a1, .int x2, .int x3] μ ro Z :=
  xC_intro (own := RX12) (lv := [(0, .ref a0), (1, .ref a1), (2, .int x2), (3, .int x3)]) (by decide) rfl (Nat.le_of_ble_eq_true rfl) rfl (fun J g hr => r_sub g (lv' := [(0, .ref a0), (1, .ref a1), (2, .int x2), (3, .int x3)]) (⟨rfl, rfl, rfl, rfl, trivial⟩) (h J g hr))
theorem dX12_isOn_0 : decode cX12_isOn 0 = .ok (.iconst 0, 1) := by decide +kernel
theorem dX12_isOn_1 : decode cX12_isOn 1 = .ok (.istore_n 3, 1) := by decide +kernel
theorem dX12_isOn_2 : decode cX12_isOn 2 = .ok (.iload_n 3, 1) := by decide +kernel
theorem dX12_isOn_3 : decode cX12_isOn 3 = .ok (.iload_n 2, 1) := by decide +kernel
theorem dX12_isOn_4 : decode cX12_isOn 4 = .ok (.if_icmp .ge 21, 3) := by decide +kernel
theorem dX12_isOn_7 : decode cX12_isOn 7 = .ok (.aload_n 0, 1) := by decide +kernel
theorem dX12_isOn_8 : decode cX12_isOn 8 = .ok (.getfield 79, 3) := by decide +kernel
theorem dX12_isOn_11 : decode cX12_isOn 11 = .ok (.iload_n 3, 1) := by decide +kernel
theorem dX12_isOn_12 : decode cX12_isOn 12 = .ok (.iaload, 1) := by decide +kernel
theorem dX12_isOn_13 : decode cX12_isOn 13 = .ok (.iload_n 1, 1) := by decide +kernel
theorem dX12_isOn_14 : decode cX12_isOn 14 = .ok (.if_icmp .ne 5, 3) := by decide +kernel
theorem dX12_isOn_17 : decode cX12_isOn 17 = .ok (.iconst 1, 1) := by decide +kernel
theorem dX12_isOn_18 : decode cX12_isOn 18 = .ok (.ireturn, 1) := by decide +kernel
theorem dX12_isOn_19 : decode cX12_isOn 19 = .ok (.iinc 3 1, 3) := by decide +kernel
theorem dX12_isOn_22 : decode cX12_isOn 22 = .ok (.goto (-20), 3) := by decide +kernel
theorem dX12_isOn_25 : decode cX12_isOn 25 = .ok (.iconst 0, 1) := by decide +kernel
theorem dX12_isOn_26 : decode cX12_isOn 26 = .ok (.ireturn, 1) := by decide +kernel
set_option maxHeartbeats 4000000 in
set_option maxRecDepth 100000 in
theorem B_X12_isOn_0 {d : Nat} {ro : Nat → Nat} {J : JT} {Z : Option Value → Hp → Prop} (g : xCtx RX12 cX12_isOn 4 d 0 0 yX12_isOn.name ro J) (hr : xRet cX12_isOn (some .boolean) 0 0 Z J) {μ : Hp} {a0 : Nat} {x1 : Int32} {x2 : Int32} 
    (h : J μ 0 0 2 [(0, .ref a0), (1, .int x1), (2, .int x2), (3, .int 0)] []) :
    J μ 0 0 0 [(0, .ref a0), (1, .int x1), (2, .int x2)] [] := by
  refine r_iconst g 0 dX12_isOn_0 (by decide) ?_
  refine r_istore_n g [(3, .int 0), (0, .ref a0), (1, .int x1), (2, .int x2)] dX12_isOn_1 (by decide) rfl ?_
  refine r_sub g (lv' := [(0, .ref a0), (1, .int x1), (2, .int x2), (3, .int 0)]) (⟨rfl, rfl, rfl, rfl, trivial⟩) ?_
  exact h
set_option maxHeartbeats 4000000 in
set_option maxRecDepth 100000 in
theorem B_X12_isOn_2 {d : Nat} {ro : Nat → Nat} {J : JT} {Z : Option Value → Hp → Prop} (g : xCtx RX12 cX12_isOn 4 d 0 0 yX12_isOn.name ro J) (hr : xRet cX12_isOn (some .boolean) 0 0 Z J) {μ : Hp} {a0 : Nat} {x1 : Int32} {x2 : Int32} {x3 : Int32} {a0_way : Nat} {N_a0_way : Nat} (hs_a0 : hS μ a0 = some (15, 65)) (hr_a0_way : hR μ a0 43 = some a0_way) (hs_a0_way : hS μ a0_way = some (0, N_a0_way))
    (h : ((x2 ≤ x3 → Z (some (.int 0)) μ) ∧ (¬ x2 ≤ x3 → vp_in x3 N_a0_way ∧ ((¬ (hI μ a0_way x3.toNatClampNeg) = x1 → J μ 0 0 2 [(0, .ref a0), (1, .int x1), (2, .int x2), (3, .int (x3 + 1))] []) ∧ ((hI μ a0_way x3.toNatClampNeg) = x1 → Z (some (.int 1)) μ))))) :
    J μ 0 0 2 [(0, .ref a0), (1, .int x1), (2, .int x2), (3, .int x3)] [] := by
  refine r_iload_n g dX12_isOn_2 rfl ?_
  refine r_iload_n g dX12_isOn_3 rfl ?_
  refine r_icmp_ge g 25 dX12_isOn_4 (by decide) (fun c1 => ?_) (fun c1 => ?_)
  · replace h := h.1 c1
    refine r_iconst g 0 dX12_isOn_25 (by decide) ?_
    exact hr.2.1 _ rfl _ _ _ _ _ _ dX12_isOn_26 (by decide) (Nat.le_refl 0) (Nat.le_refl 0) h
  · replace h := h.2 c1
    refine r_aload_n g dX12_isOn_7 rfl ?_
    refine r_getR g fX12_79 rfl hs_a0 hr_a0_way dX12_isOn_8 ?_
    refine r_iload_n g dX12_isOn_11 rfl ?_
    obtain ⟨hi2, h⟩ := h
    refine r_iaload g hs_a0_way hi2 dX12_isOn_12 ?_
    refine r_iload_n g dX12_isOn_13 rfl ?_
    refine r_icmp_ne g 19 dX12_isOn_14 (by decide) (fun c3 => ?_) (fun c3 => ?_)
    · replace h := h.1 c3
      refine r_iinc g (x3 + 1) [(3, .int (x3 + 1)), (0, .ref a0), (1, .int x1), (2, .int x2)] dX12_isOn_19 rfl rfl (by decide) rfl ?_
      refine r_goto g 2 dX12_isOn_22 (by decide) ?_
      refine r_sub g (lv' := [(0, .ref a0), (1, .int x1), (2, .int x2), (3, .int (x3 + 1))]) (⟨rfl, rfl, rfl, rfl, trivial⟩) ?_
      exact h
    · replace h := h.2 c3
      refine r_iconst g 1 dX12_isOn_17 (by decide) ?_
      exact hr.2.1 _ rfl _ _ _ _ _ _ dX12_isOn_18 (by decide) (Nat.le_refl 0) (Nat.le_refl 0) h
theorem I_X12_isOn {d : Nat} {ro : Nat → Nat} {Z : Option Value → Hp → Prop} {μ : Hp} {a0 : Nat} {x1 : Int32} {x2 : Int32} (h : ∀ J, xCtx RX12 cX12_isOn 4 d 0 0 yX12_isOn.name ro J → xRet cX12_isOn (some .boolean) 0 0 Z J → J μ 0 0 0 [(0, .ref a0), (1, .int x1), (2, .int x2)] []) : xC d yX12_isOn cX12_isOn 4 (some .boolean) 0 0 [.ref a0, .int x1, .int x2] μ ro Z :=
  xC_intro (own := RX12) (lv := [(0, .ref a0), (1, .int x1), (2, .int x2)]) (by decide) rfl (Nat.le_of_ble_eq_true rfl) rfl (fun J g hr => r_sub g (lv' := [(0, .ref a0), (1, .int x1), (2, .int x2)]) (⟨rfl, rfl, rfl, trivial⟩) (h J g hr))
theorem dX12_ends_0 : decode cX12_ends 0 = .ok (.aload_n 0, 1) := by decide +kernel
theorem dX12_ends_1 : decode cX12_ends 1 = .ok (.dup, 1) := by decide +kernel
theorem dX12_ends_2 : decode cX12_ends 2 = .ok (.getfield 324, 3) := by decide +kernel
theorem dX12_ends_5 : decode cX12_ends 5 = .ok (.iconst 1, 1) := by decide +kernel
theorem dX12_ends_6 : decode cX12_ends 6 = .ok (.iadd, 1) := by decide +kernel
theorem dX12_ends_7 : decode cX12_ends 7 = .ok (.putfield 324, 3) := by decide +kernel
theorem dX12_ends_10 : decode cX12_ends 10 = .ok (.aload_n 0, 1) := by decide +kernel
theorem dX12_ends_11 : decode cX12_ends 11 = .ok (.aload_n 1, 1) := by decide +kernel
theorem dX12_ends_12 : decode cX12_ends 12 = .ok (.iload_n 2, 1) := by decide +kernel
theorem dX12_ends_13 : decode cX12_ends 13 = .ok (.iload_n 3, 1) := by decide +kernel
theorem dX12_ends_14 : decode cX12_ends 14 = .ok (.invokevirtual 327, 3) := by decide +kernel
theorem dX12_ends_17 : decode cX12_ends 17 = .ok (.iload 4, 2) := by decide +kernel
theorem dX12_ends_19 : decode cX12_ends 19 = .ok (.ifCond .eq 15, 3) := by decide +kernel
theorem dX12_ends_22 : decode cX12_ends 22 = .ok (.aload_n 0, 1) := by decide +kernel
theorem dX12_ends_23 : decode cX12_ends 23 = .ok (.getfield 331, 3) := by decide +kernel
theorem dX12_ends_26 : decode cX12_ends 26 = .ok (.aload_n 0, 1) := by decide +kernel
theorem dX12_ends_27 : decode cX12_ends 27 = .ok (.getfield 300, 3) := by decide +kernel
theorem dX12_ends_30 : decode cX12_ends 30 = .ok (.isub, 1) := by decide +kernel
theorem dX12_ends_31 : decode cX12_ends 31 = .ok (.goto 12, 3) := by decide +kernel
theorem dX12_ends_34 : decode cX12_ends 34 = .ok (.aload_n 0, 1) := by decide +kernel
theorem dX12_ends_35 : decode cX12_ends 35 = .ok (.getfield 321, 3) := by decide +kernel
theorem dX12_ends_38 : decode cX12_ends 38 = .ok (.aload_n 0, 1) := by decide +kernel
theorem dX12_ends_39 : decode cX12_ends 39 = .ok (.getfield 334, 3) := by decide +kernel
theorem dX12_ends_42 : decode cX12_ends 42 = .ok (.isub, 1) := by decide +kernel
theorem dX12_ends_43 : decode cX12_ends 43 = .ok (.istore 5, 2) := by decide +kernel
theorem dX12_ends_45 : decode cX12_ends 45 = .ok (.aload_n 0, 1) := by decide +kernel
theorem dX12_ends_46 : decode cX12_ends 46 = .ok (.getfield 337, 3) := by decide +kernel
theorem dX12_ends_49 : decode cX12_ends 49 = .ok (.ifCond .le 25, 3) := by decide +kernel
theorem dX12_ends_52 : decode cX12_ends 52 = .ok (.iload 5, 2) := by decide +kernel
theorem dX12_ends_54 : decode cX12_ends 54 = .ok (.ifCond .lt 19, 3) := by decide +kernel
theorem dX12_ends_57 : decode cX12_ends 57 = .ok (.iload 5, 2) := by decide +kernel
theorem dX12_ends_59 : decode cX12_ends 59 = .ok (.ifCond .ne 15, 3) := by decide +kernel
theorem dX12_ends_62 : decode cX12_ends 62 = .ok (.aload_n 0, 1) := by decide +kernel
theorem dX12_ends_63 : decode cX12_ends 63 = .ok (.getfield 306, 3) := by decide +kernel
theorem dX12_ends_66 : decode cX12_ends 66 = .ok (.aload_n 0, 1) := by decide +kernel
theorem dX12_ends_67 : decode cX12_ends 67 = .ok (.getfield 337, 3) := by decide +kernel
theorem dX12_ends_70 : decode cX12_ends 70 = .ok (.if_icmp .lt 4, 3) := by decide +kernel
theorem dX12_ends_73 : decode cX12_ends 73 = .ok (.return_, 1) := by decide +kernel
theorem dX12_ends_74 : decode cX12_ends 74 = .ok (.iconst 0, 1) := by decide +kernel
theorem dX12_ends_75 : decode cX12_ends 75 = .ok (.istore 6, 2) := by decide +kernel
theorem dX12_ends_77 : decode cX12_ends 77 = .ok (.iload 6, 2) := by decide +kernel
theorem dX12_ends_79 : decode cX12_ends 79 = .ok (.aload_n 0, 1) := by decide +kernel
theorem dX12_ends_80 : decode cX12_ends 80 = .ok (.getfield 306, 3) := by decide +kernel
theorem dX12_ends_83 : decode cX12_ends 83 = .ok (.if_icmp .gt 23, 3) := by decide +kernel
theorem dX12_ends_86 : decode cX12_ends 86 = .ok (.aload_n 0, 1) := by decide +kernel
theorem dX12_ends_87 : decode cX12_ends 87 = .ok (.getfield 100, 3) := by decide +kernel
theorem dX12_ends_90 : decode cX12_ends 90 = .ok (.iload 6, 2) := by decide +kernel
theorem dX12_ends_92 : decode cX12_ends 92 = .ok (.aload_n 0, 1) := by decide +kernel
theorem dX12_ends_93 : decode cX12_ends 93 = .ok (.getfield 79, 3) := by decide +kernel
theorem dX12_ends_96 : decode cX12_ends 96 = .ok (.iload 6, 2) := by decide +kernel
theorem dX12_ends_98 : decode cX12_ends 98 = .ok (.iaload, 1) := by decide +kernel
theorem dX12_ends_99 : decode cX12_ends 99 = .ok (.iastore, 1) := by decide +kernel
theorem dX12_ends_100 : decode cX12_ends 100 = .ok (.iinc 6 1, 3) := by decide +kernel
theorem dX12_ends_103 : decode cX12_ends 103 = .ok (.goto (-26), 3) := by decide +kernel
theorem dX12_ends_106 : decode cX12_ends 106 = .ok (.aload_n 0, 1) := by decide +kernel
theorem dX12_ends_107 : decode cX12_ends 107 = .ok (.aload_n 0, 1) := by decide +kernel
theorem dX12_ends_108 : decode cX12_ends 108 = .ok (.getfield 306, 3) := by decide +kernel
theorem dX12_ends_111 : decode cX12_ends 111 = .ok (.putfield 337, 3) := by decide +kernel
theorem dX12_ends_114 : decode cX12_ends 114 = .ok (.aload_n 0, 1) := by decide +kernel
theorem dX12_ends_115 : decode cX12_ends 115 = .ok (.aload_n 0, 1) := by decide +kernel
theorem dX12_ends_116 : decode cX12_ends 116 = .ok (.getfield 321, 3) := by decide +kernel
theorem dX12_ends_119 : decode cX12_ends 119 = .ok (.putfield 334, 3) := by decide +kernel
theorem dX12_ends_122 : decode cX12_ends 122 = .ok (.aload_n 0, 1) := by decide +kernel
theorem dX12_ends_123 : decode cX12_ends 123 = .ok (.aload_n 0, 1) := by decide +kernel
theorem dX12_ends_124 : decode cX12_ends 124 = .ok (.getfield 300, 3) := by decide +kernel
theorem dX12_ends_127 : decode cX12_ends 127 = .ok (.putfield 331, 3) := by decide +kernel
theorem dX12_ends_130 : decode cX12_ends 130 = .ok (.return_, 1) := by decide +kernel
set_option maxHeartbeats 4000000 in
set_option maxRecDepth 100000 in
theorem B_X12_ends_0 {d : Nat} {ro : Nat → Nat} {J : JT} {Z : Option Value → Hp → Prop} (g : xCtx RX12 cX12_ends 7 d 0 0 yX12_ends.name ro J) (hr : xRet cX12_ends none 0 0 Z J) {μ : Hp} {a0 : Nat} {a1 : Nat} {x2 : Int32} {x3 : Int32} {x4 : Int32} (hs_a0 : hS μ a0 = some (15, 65))
    (h : xCall d yX12_reckons cX12_reckons 7 none [.ref a0, .ref a1, .int x2, .int x3] (wI μ a0 54 ((hI μ a0 54) + 1)) ro (fun r1 μ2 => r1 = none ∧ ((x4 = 0 → hS μ2 a0 = some (15, 65) ∧ (((hI μ2 a0 56) ≤ 0 → J μ2 0 0 77 [(0, .ref a0), (6, .int 0)] []) ∧ (¬ (hI μ2 a0 56) ≤ 0 → ((((hI μ2 a0 51) - (hI μ2 a0 57)) < 0 → Z none μ2) ∧ (¬ ((hI μ2 a0 51) - (hI μ2 a0 57)) < 0 → ((¬ ((hI μ2 a0 51) - (hI μ2 a0 57)) = 0 → J μ2 0 0 77 [(0, .ref a0), (6, .int 0)] []) ∧ (((hI μ2 a0 51) - (hI μ2 a0 57)) = 0 → (((hI μ2 a0 50) < (hI μ2 a0 56) → J μ2 0 0 77 [(0, .ref a0), (6, .int 0)] []) ∧ (¬ (hI μ2 a0 50) < (hI μ2 a0 56) → Z none μ2))))))))) ∧ (¬ x4 = 0 → hS μ2 a0 = some (15, 65) ∧ (((hI μ2 a0 56) ≤ 0 → J μ2 0 0 77 [(0, .ref a0), (6, .int 0)] []) ∧ (¬ (hI μ2 a0 56) ≤ 0 → ((((hI μ2 a0 58) - (hI μ2 a0 52)) < 0 → Z none μ2) ∧ (¬ ((hI μ2 a0 58) - (hI μ2 a0 52)) < 0 → ((¬ ((hI μ2 a0 58) - (hI μ2 a0 52)) = 0 → J μ2 0 0 77 [(0, .ref a0), (6, .int 0)] []) ∧ (((hI μ2 a0 58) - (hI μ2 a0 52)) = 0 → (((hI μ2 a0 50) < (hI μ2 a0 56) → J μ2 0 0 77 [(0, .ref a0), (6, .int 0)] []) ∧ (¬ (hI μ2 a0 50) < (hI μ2 a0 56) → Z none μ2)))))))))))) :
    J μ 0 0 0 [(0, .ref a0), (1, .ref a1), (2, .int x2), (3, .int x3), (4, .int x4)] [] := by
  refine r_aload_n g dX12_ends_0 rfl ?_
  refine r_dup g dX12_ends_1 rfl ?_
  refine r_getI g fX12_324 rfl hs_a0 dX12_ends_2 ?_
  refine r_iconst g 1 dX12_ends_5 (by decide) ?_
  refine r_iadd g dX12_ends_6 ?_
  refine r_putI g fX12_324 rfl hs_a0 rfl rfl dX12_ends_7 ?_
  refine r_aload_n g dX12_ends_10 rfl ?_
  refine r_aload_n g dX12_ends_11 rfl ?_
  refine r_iload_n g dX12_ends_12 rfl ?_
  refine r_iload_n g dX12_ends_13 rfl ?_
  obtain ⟨d1, Z1, hc1, hd1, h1⟩ := h
  refine r_callV (st := []) (As := [.ref a1, .int x2, .int x3]) g sX12_327 iX12_reckons eX12_reckons rfl hs_a0 rfl (Nat.le_of_ble_eq_true rfl) dX12_ends_14 hd1 (Nat.le_refl 0) (Nat.le_refl 0) hc1 (fun r1 μ2 hZ1 => ?_)
  replace h := h1 _ _ hZ1
  clear h1 hc1 hd1 hZ1 Z1 d1
  obtain ⟨rfl, h⟩ := h
  refine r_iload g dX12_ends_17 rfl ?_
  refine r_if_eq g 34 dX12_ends_19 (by decide) (fun c3 => ?_) (fun c3 => ?_)
  · replace h := h.1 c3
    refine r_aload_n g dX12_ends_34 rfl ?_
    obtain ⟨hs_a0_, h⟩ := h
    refine r_getI g fX12_321 rfl hs_a0_ dX12_ends_35 ?_
    refine r_aload_n g dX12_ends_38 rfl ?_
    refine r_getI g fX12_334 rfl hs_a0_ dX12_ends_39 ?_
    refine r_isub g dX12_ends_42 ?_
    refine r_istore g [(5, .int ((hI μ2 a0 51) - (hI μ2 a0 57))), (0, .ref a0), (1, .ref a1), (2, .int x2), (3, .int x3), (4, .int x4)] dX12_ends_43 (by decide) rfl ?_
    refine r_aload_n g dX12_ends_45 rfl ?_
    refine r_getI g fX12_337 rfl hs_a0_ dX12_ends_46 ?_
    refine r_if_le g 74 dX12_ends_49 (by decide) (fun c4 => ?_) (fun c4 => ?_)
    · replace h := h.1 c4
      refine r_iconst g 0 dX12_ends_74 (by decide) ?_
      refine r_istore g [(6, .int 0), (5, .int ((hI μ2 a0 51) - (hI μ2 a0 57))), (0, .ref a0), (1, .ref a1), (2, .int x2), (3, .int x3), (4, .int x4)] dX12_ends_75 (by decide) rfl ?_
      refine r_sub g (lv' := [(0, .ref a0), (6, .int 0)]) (⟨rfl, rfl, trivial⟩) ?_
      exact h
    · replace h := h.2 c4
      refine r_iload g dX12_ends_52 rfl ?_
      refine r_if_lt g 73 dX12_ends_54 (by decide) (fun c5 => ?_) (fun c5 => ?_)
      · replace h := h.1 c5
        exact hr.1 rfl _ _ _ _ _ dX12_ends_73 (Nat.le_refl 0) (Nat.le_refl 0) h
      · replace h := h.2 c5
        refine r_iload g dX12_ends_57 rfl ?_
        refine r_if_ne g 74 dX12_ends_59 (by decide) (fun c6 => ?_) (fun c6 => ?_)
        · replace h := h.1 c6
          refine r_iconst g 0 dX12_ends_74 (by decide) ?_
          refine r_istore g [(6, .int 0), (5, .int ((hI μ2 a0 51) - (hI μ2 a0 57))), (0, .ref a0), (1, .ref a1), (2, .int x2), (3, .int x3), (4, .int x4)] dX12_ends_75 (by decide) rfl ?_
          refine r_sub g (lv' := [(0, .ref a0), (6, .int 0)]) (⟨rfl, rfl, trivial⟩) ?_
          exact h
        · replace h := h.2 c6
          refine r_aload_n g dX12_ends_62 rfl ?_
          refine r_getI g fX12_306 rfl hs_a0_ dX12_ends_63 ?_
          refine r_aload_n g dX12_ends_66 rfl ?_
          refine r_getI g fX12_337 rfl hs_a0_ dX12_ends_67 ?_
          refine r_icmp_lt g 74 dX12_ends_70 (by decide) (fun c7 => ?_) (fun c7 => ?_)
          · replace h := h.1 c7
            refine r_iconst g 0 dX12_ends_74 (by decide) ?_
            refine r_istore g [(6, .int 0), (5, .int ((hI μ2 a0 51) - (hI μ2 a0 57))), (0, .ref a0), (1, .ref a1), (2, .int x2), (3, .int x3), (4, .int x4)] dX12_ends_75 (by decide) rfl ?_
            refine r_sub g (lv' := [(0, .ref a0), (6, .int 0)]) (⟨rfl, rfl, trivial⟩) ?_
            exact h
          · replace h := h.2 c7
            exact hr.1 rfl _ _ _ _ _ dX12_ends_73 (Nat.le_refl 0) (Nat.le_refl 0) h
  · replace h := h.2 c3
    refine r_aload_n g dX12_ends_22 rfl ?_
    obtain ⟨hs_a0__, h⟩ := h
    refine r_getI g fX12_331 rfl hs_a0__ dX12_ends_23 ?_
    refine r_aload_n g dX12_ends_26 rfl ?_
    refine r_getI g fX12_300 rfl hs_a0__ dX12_ends_27 ?_
    refine r_isub g dX12_ends_30 ?_
    refine r_goto g 43 dX12_ends_31 (by decide) ?_
    refine r_istore g [(5, .int ((hI μ2 a0 58) - (hI μ2 a0 52))), (0, .ref a0), (1, .ref a1), (2, .int x2), (3, .int x3), (4, .int x4)] dX12_ends_43 (by decide) rfl ?_
    refine r_aload_n g dX12_ends_45 rfl ?_
    refine r_getI g fX12_337 rfl hs_a0__ dX12_ends_46 ?_
    refine r_if_le g 74 dX12_ends_49 (by decide) (fun c8 => ?_) (fun c8 => ?_)
    · replace h := h.1 c8
      refine r_iconst g 0 dX12_ends_74 (by decide) ?_
      refine r_istore g [(6, .int 0), (5, .int ((hI μ2 a0 58) - (hI μ2 a0 52))), (0, .ref a0), (1, .ref a1), (2, .int x2), (3, .int x3), (4, .int x4)] dX12_ends_75 (by decide) rfl ?_
      refine r_sub g (lv' := [(0, .ref a0), (6, .int 0)]) (⟨rfl, rfl, trivial⟩) ?_
      exact h
    · replace h := h.2 c8
      refine r_iload g dX12_ends_52 rfl ?_
      refine r_if_lt g 73 dX12_ends_54 (by decide) (fun c9 => ?_) (fun c9 => ?_)
      · replace h := h.1 c9
        exact hr.1 rfl _ _ _ _ _ dX12_ends_73 (Nat.le_refl 0) (Nat.le_refl 0) h
      · replace h := h.2 c9
        refine r_iload g dX12_ends_57 rfl ?_
        refine r_if_ne g 74 dX12_ends_59 (by decide) (fun c10 => ?_) (fun c10 => ?_)
        · replace h := h.1 c10
          refine r_iconst g 0 dX12_ends_74 (by decide) ?_
          refine r_istore g [(6, .int 0), (5, .int ((hI μ2 a0 58) - (hI μ2 a0 52))), (0, .ref a0), (1, .ref a1), (2, .int x2), (3, .int x3), (4, .int x4)] dX12_ends_75 (by decide) rfl ?_
          refine r_sub g (lv' := [(0, .ref a0), (6, .int 0)]) (⟨rfl, rfl, trivial⟩) ?_
          exact h
        · replace h := h.2 c10
          refine r_aload_n g dX12_ends_62 rfl ?_
          refine r_getI g fX12_306 rfl hs_a0__ dX12_ends_63 ?_
          refine r_aload_n g dX12_ends_66 rfl ?_
          refine r_getI g fX12_337 rfl hs_a0__ dX12_ends_67 ?_
          refine r_icmp_lt g 74 dX12_ends_70 (by decide) (fun c11 => ?_) (fun c11 => ?_)
          · replace h := h.1 c11
            refine r_iconst g 0 dX12_ends_74 (by decide) ?_
            refine r_istore g [(6, .int 0), (5, .int ((hI μ2 a0 58) - (hI μ2 a0 52))), (0, .ref a0), (1, .ref a1), (2, .int x2), (3, .int x3), (4, .int x4)] dX12_ends_75 (by decide) rfl ?_
            refine r_sub g (lv' := [(0, .ref a0), (6, .int 0)]) (⟨rfl, rfl, trivial⟩) ?_
            exact h
          · replace h := h.2 c11
            exact hr.1 rfl _ _ _ _ _ dX12_ends_73 (Nat.le_refl 0) (Nat.le_refl 0) h
set_option maxHeartbeats 4000000 in
set_option maxRecDepth 100000 in
theorem B_X12_ends_77 {d : Nat} {ro : Nat → Nat} {J : JT} {Z : Option Value → Hp → Prop} (g : xCtx RX12 cX12_ends 7 d 0 0 yX12_ends.name ro J) (hr : xRet cX12_ends none 0 0 Z J) {μ : Hp} {a0 : Nat} {x6 : Int32} {a0_bestWay : Nat} {a0_way : Nat} {N_a0_way : Nat} {N_a0_bestWay : Nat} (hs_a0 : hS μ a0 = some (15, 65)) (hr_a0_bestWay : hR μ a0 55 = some a0_bestWay) (hr_a0_way : hR μ a0 43 = some a0_way) (hs_a0_way : hS μ a0_way = some (0, N_a0_way)) (hs_a0_bestWay : hS μ a0_bestWay = some (0, N_a0_bestWay))
    (h : (((hI μ a0 50) < x6 → (∀ v2 : Int32, v2 = (hI (wI (wI μ a0 56 (hI μ a0 50)) a0 57 (hI (wI μ a0 56 (hI μ a0 50)) a0 51)) a0 52) → Z none (wI (wI (wI μ a0 56 (hI μ a0 50)) a0 57 (hI (wI μ a0 56 (hI μ a0 50)) a0 51)) a0 58 v2))) ∧ (¬ (hI μ a0 50) < x6 → vp_in x6 N_a0_way ∧ vp_in x6 N_a0_bestWay ∧ J (wI μ a0_bestWay x6.toNatClampNeg (hI μ a0_way x6.toNatClampNeg)) 0 0 77 [(0, .ref a0), (6, .int (x6 + 1))] []))) :
    J μ 0 0 77 [(0, .ref a0), (6, .int x6)] [] := by
  refine r_iload g dX12_ends_77 rfl ?_
  refine r_aload_n g dX12_ends_79 rfl ?_
  refine r_getI g fX12_306 rfl hs_a0 dX12_ends_80 ?_
  refine r_icmp_gt g 106 dX12_ends_83 (by decide) (fun c1 => ?_) (fun c1 => ?_)
  · replace h := h.1 c1
    refine r_aload_n g dX12_ends_106 rfl ?_
    refine r_aload_n g dX12_ends_107 rfl ?_
    refine r_getI g fX12_306 rfl hs_a0 dX12_ends_108 ?_
    refine r_putI g fX12_337 rfl hs_a0 rfl rfl dX12_ends_111 ?_
    refine r_aload_n g dX12_ends_114 rfl ?_
    refine r_aload_n g dX12_ends_115 rfl ?_
    refine r_getI g fX12_321 rfl hs_a0 dX12_ends_116 ?_
    refine r_putI g fX12_334 rfl hs_a0 rfl rfl dX12_ends_119 ?_
    refine r_aload_n g dX12_ends_122 rfl ?_
    refine r_aload_n g dX12_ends_123 rfl ?_
    refine r_getI g fX12_300 rfl hs_a0 dX12_ends_124 ?_
    refine r_nmI (fun v2 ev2 => ?_)
    replace h := h v2 ev2
    refine r_putI g fX12_331 rfl hs_a0 rfl rfl dX12_ends_127 ?_
    exact hr.1 rfl _ _ _ _ _ dX12_ends_130 (Nat.le_refl 0) (Nat.le_refl 0) h
  · replace h := h.2 c1
    refine r_aload_n g dX12_ends_86 rfl ?_
    refine r_getR g fX12_100 rfl hs_a0 hr_a0_bestWay dX12_ends_87 ?_
    refine r_iload g dX12_ends_90 rfl ?_
    refine r_aload_n g dX12_ends_92 rfl ?_
    refine r_getR g fX12_79 rfl hs_a0 hr_a0_way dX12_ends_93 ?_
    refine r_iload g dX12_ends_96 rfl ?_
    obtain ⟨hi3, h⟩ := h
    refine r_iaload g hs_a0_way hi3 dX12_ends_98 ?_
    obtain ⟨hi4, h⟩ := h
    refine r_iastore g hs_a0_bestWay hi4 dX12_ends_99 ?_
    refine r_iinc g (x6 + 1) [(6, .int (x6 + 1)), (0, .ref a0)] dX12_ends_100 rfl rfl (by decide) rfl ?_
    refine r_goto g 77 dX12_ends_103 (by decide) ?_
    refine r_sub g (lv' := [(0, .ref a0), (6, .int (x6 + 1))]) (⟨rfl, rfl, trivial⟩) ?_
    exact h
theorem I_X12_ends {d : Nat} {ro : Nat → Nat} {Z : Option Value → Hp → Prop} {μ : Hp} {a0 : Nat} {a1 : Nat} {x2 : Int32} {x3 : Int32} {x4 : Int32} (h : ∀ J, xCtx RX12 cX12_ends 7 d 0 0 yX12_ends.name ro J → xRet cX12_ends none 0 0 Z J → J μ 0 0 0 [(0, .ref a0), (1, .ref a1), (2, .int x2), (3, .int x3), (4, .int x4)] []) : xC d yX12_ends cX12_ends 7 none 0 0 [.ref a0, .ref a1, .int x2, .int x3, .int x4] μ ro Z :=
  xC_intro (own := RX12) (lv := [(0, .ref a0), (1, .ref a1), (2, .int x2), (3, .int x3), (4, .int x4)]) (by decide) rfl (Nat.le_of_ble_eq_true rfl) rfl (fun J g hr => r_sub g (lv' := [(0, .ref a0), (1, .ref a1), (2, .int x2), (3, .int x3), (4, .int x4)]) (⟨rfl, rfl, rfl, rfl, rfl, trivial⟩) (h J g hr))
theorem dX12_goesFrom_0 : decode cX12_goesFrom 0 = .ok (.iconst 0, 1) := by decide +kernel
theorem dX12_goesFrom_1 : decode cX12_goesFrom 1 = .ok (.istore 7, 2) := by decide +kernel
theorem dX12_goesFrom_3 : decode cX12_goesFrom 3 = .ok (.iload 7, 2) := by decide +kernel
theorem dX12_goesFrom_5 : decode cX12_goesFrom 5 = .ok (.aload_n 0, 1) := by decide +kernel
theorem dX12_goesFrom_6 : decode cX12_goesFrom 6 = .ok (.getfield 245, 3) := by decide +kernel
theorem dX12_goesFrom_9 : decode cX12_goesFrom 9 = .ok (.if_icmp .ge 108, 3) := by decide +kernel
theorem dX12_goesFrom_12 : decode cX12_goesFrom 12 = .ok (.iload 7, 2) := by decide +kernel
theorem dX12_goesFrom_14 : decode cX12_goesFrom 14 = .ok (.aload_n 0, 1) := by decide +kernel
theorem dX12_goesFrom_15 : decode cX12_goesFrom 15 = .ok (.getfield 76, 3) := by decide +kernel
theorem dX12_goesFrom_18 : decode cX12_goesFrom 18 = .ok (.if_icmp .eq 93, 3) := by decide +kernel
theorem dX12_goesFrom_21 : decode cX12_goesFrom 21 = .ok (.aload_n 0, 1) := by decide +kernel
theorem dX12_goesFrom_22 : decode cX12_goesFrom 22 = .ok (.iload 7, 2) := by decide +kernel
theorem dX12_goesFrom_24 : decode cX12_goesFrom 24 = .ok (.iload 5, 2) := by decide +kernel
theorem dX12_goesFrom_26 : decode cX12_goesFrom 26 = .ok (.invokevirtual 340, 3) := by decide +kernel
theorem dX12_goesFrom_29 : decode cX12_goesFrom 29 = .ok (.ifCond .ne 82, 3) := by decide +kernel
theorem dX12_goesFrom_32 : decode cX12_goesFrom 32 = .ok (.aload_n 0, 1) := by decide +kernel
theorem dX12_goesFrom_33 : decode cX12_goesFrom 33 = .ok (.aload_n 1, 1) := by decide +kernel
theorem dX12_goesFrom_34 : decode cX12_goesFrom 34 = .ok (.iload_n 2, 1) := by decide +kernel
theorem dX12_goesFrom_35 : decode cX12_goesFrom 35 = .ok (.aload_n 0, 1) := by decide +kernel
theorem dX12_goesFrom_36 : decode cX12_goesFrom 36 = .ok (.getfield 79, 3) := by decide +kernel
theorem dX12_goesFrom_39 : decode cX12_goesFrom 39 = .ok (.iload 5, 2) := by decide +kernel
theorem dX12_goesFrom_41 : decode cX12_goesFrom 41 = .ok (.iconst 1, 1) := by decide +kernel
theorem dX12_goesFrom_42 : decode cX12_goesFrom 42 = .ok (.isub, 1) := by decide +kernel
theorem dX12_goesFrom_43 : decode cX12_goesFrom 43 = .ok (.iaload, 1) := by decide +kernel
theorem dX12_goesFrom_44 : decode cX12_goesFrom 44 = .ok (.iload 7, 2) := by decide +kernel
theorem dX12_goesFrom_46 : decode cX12_goesFrom 46 = .ok (.invokevirtual 309, 3) := by decide +kernel
theorem dX12_goesFrom_49 : decode cX12_goesFrom 49 = .ok (.iconst (-1), 1) := by decide +kernel
theorem dX12_goesFrom_50 : decode cX12_goesFrom 50 = .ok (.if_icmp .ne 6, 3) := by decide +kernel
theorem dX12_goesFrom_53 : decode cX12_goesFrom 53 = .ok (.goto 58, 3) := by decide +kernel
theorem dX12_goesFrom_56 : decode cX12_goesFrom 56 = .ok (.aload_n 0, 1) := by decide +kernel
theorem dX12_goesFrom_57 : decode cX12_goesFrom 57 = .ok (.getfield 79, 3) := by decide +kernel
theorem dX12_goesFrom_60 : decode cX12_goesFrom 60 = .ok (.iload 5, 2) := by decide +kernel
theorem dX12_goesFrom_62 : decode cX12_goesFrom 62 = .ok (.iload 7, 2) := by decide +kernel
theorem dX12_goesFrom_64 : decode cX12_goesFrom 64 = .ok (.iastore, 1) := by decide +kernel
theorem dX12_goesFrom_65 : decode cX12_goesFrom 65 = .ok (.iload 7, 2) := by decide +kernel
theorem dX12_goesFrom_67 : decode cX12_goesFrom 67 = .ok (.iload_n 3, 1) := by decide +kernel
theorem dX12_goesFrom_68 : decode cX12_goesFrom 68 = .ok (.if_icmp .ne 22, 3) := by decide +kernel
theorem dX12_goesFrom_71 : decode cX12_goesFrom 71 = .ok (.aload_n 0, 1) := by decide +kernel
theorem dX12_goesFrom_72 : decode cX12_goesFrom 72 = .ok (.iload 5, 2) := by decide +kernel
theorem dX12_goesFrom_74 : decode cX12_goesFrom 74 = .ok (.putfield 306, 3) := by decide +kernel
theorem dX12_goesFrom_77 : decode cX12_goesFrom 77 = .ok (.aload_n 0, 1) := by decide +kernel
theorem dX12_goesFrom_78 : decode cX12_goesFrom 78 = .ok (.aload_n 1, 1) := by decide +kernel
theorem dX12_goesFrom_79 : decode cX12_goesFrom 79 = .ok (.iload_n 2, 1) := by decide +kernel
theorem dX12_goesFrom_80 : decode cX12_goesFrom 80 = .ok (.iload 4, 2) := by decide +kernel
theorem dX12_goesFrom_82 : decode cX12_goesFrom 82 = .ok (.iload 6, 2) := by decide +kernel
theorem dX12_goesFrom_84 : decode cX12_goesFrom 84 = .ok (.invokevirtual 343, 3) := by decide +kernel
theorem dX12_goesFrom_87 : decode cX12_goesFrom 87 = .ok (.goto 24, 3) := by decide +kernel
theorem dX12_goesFrom_90 : decode cX12_goesFrom 90 = .ok (.iload 5, 2) := by decide +kernel
theorem dX12_goesFrom_92 : decode cX12_goesFrom 92 = .ok (.iconst 5, 1) := by decide +kernel
theorem dX12_goesFrom_93 : decode cX12_goesFrom 93 = .ok (.if_icmp .ge 18, 3) := by decide +kernel
theorem dX12_goesFrom_96 : decode cX12_goesFrom 96 = .ok (.aload_n 0, 1) := by decide +kernel
theorem dX12_goesFrom_97 : decode cX12_goesFrom 97 = .ok (.aload_n 1, 1) := by decide +kernel
theorem dX12_goesFrom_98 : decode cX12_goesFrom 98 = .ok (.iload_n 2, 1) := by decide +kernel
theorem dX12_goesFrom_99 : decode cX12_goesFrom 99 = .ok (.iload_n 3, 1) := by decide +kernel
theorem dX12_goesFrom_100 : decode cX12_goesFrom 100 = .ok (.iload 4, 2) := by decide +kernel
theorem dX12_goesFrom_102 : decode cX12_goesFrom 102 = .ok (.iload 5, 2) := by decide +kernel
theorem dX12_goesFrom_104 : decode cX12_goesFrom 104 = .ok (.iconst 1, 1) := by decide +kernel
theorem dX12_goesFrom_105 : decode cX12_goesFrom 105 = .ok (.iadd, 1) := by decide +kernel
theorem dX12_goesFrom_106 : decode cX12_goesFrom 106 = .ok (.iload 6, 2) := by decide +kernel
theorem dX12_goesFrom_108 : decode cX12_goesFrom 108 = .ok (.invokevirtual 347, 3) := by decide +kernel
theorem dX12_goesFrom_111 : decode cX12_goesFrom 111 = .ok (.iinc 7 1, 3) := by decide +kernel
theorem dX12_goesFrom_114 : decode cX12_goesFrom 114 = .ok (.goto (-111), 3) := by decide +kernel
theorem dX12_goesFrom_117 : decode cX12_goesFrom 117 = .ok (.return_, 1) := by decide +kernel
set_option maxHeartbeats 4000000 in
set_option maxRecDepth 100000 in
theorem B_X12_goesFrom_0 {d : Nat} {ro : Nat → Nat} {J : JT} {Z : Option Value → Hp → Prop} (g : xCtx RX12 cX12_goesFrom 8 d 0 0 yX12_goesFrom.name ro J) (hr : xRet cX12_goesFrom none 0 0 Z J) {μ : Hp} {a0 : Nat} {a1 : Nat} {x2 : Int32} {x3 : Int32} {x4 : Int32} {x5 : Int32} {x6 : Int32} 
    (h : J μ 0 0 3 [(0, .ref a0), (1, .ref a1), (2, .int x2), (3, .int x3), (4, .int x4), (5, .int x5), (6, .int x6), (7, .int 0)] []) :
    J μ 0 0 0 [(0, .ref a0), (1, .ref a1), (2, .int x2), (3, .int x3), (4, .int x4), (5, .int x5), (6, .int x6)] [] := by
  refine r_iconst g 0 dX12_goesFrom_0 (by decide) ?_
  refine r_istore g [(7, .int 0), (0, .ref a0), (1, .ref a1), (2, .int x2), (3, .int x3), (4, .int x4), (5, .int x5), (6, .int x6)] dX12_goesFrom_1 (by decide) rfl ?_
  refine r_sub g (lv' := [(0, .ref a0), (1, .ref a1), (2, .int x2), (3, .int x3), (4, .int x4), (5, .int x5), (6, .int x6), (7, .int 0)]) (⟨rfl, rfl, rfl, rfl, rfl, rfl, rfl, rfl, trivial⟩) ?_
  exact h
set_option maxHeartbeats 4000000 in
set_option maxRecDepth 100000 in
theorem B_X12_goesFrom_3 {d : Nat} {ro : Nat → Nat} {J : JT} {Z : Option Value → Hp → Prop} (g : xCtx RX12 cX12_goesFrom 8 d 0 0 yX12_goesFrom.name ro J) (hr : xRet cX12_goesFrom none 0 0 Z J) {μ : Hp} {a0 : Nat} {a1 : Nat} {x2 : Int32} {x3 : Int32} {x4 : Int32} {x5 : Int32} {x6 : Int32} {x7 : Int32} (hs_a0 : hS μ a0 = some (15, 65))
    (h : (((hI μ a0 22) ≤ x7 → Z none μ) ∧ (¬ (hI μ a0 22) ≤ x7 → ((x7 = (hI μ a0 40) → J μ 0 0 3 [(0, .ref a0), (1, .ref a1), (2, .int x2), (3, .int x3), (4, .int x4), (5, .int x5), (6, .int x6), (7, .int (x7 + 1))] []) ∧ (¬ x7 = (hI μ a0 40) → xCall d yX12_isOn cX12_isOn 4 (some .boolean) [.ref a0, .int x7, .int x5] μ ro (fun r3 μ4 => ∃ y5 : Int32, r3 = some (.int y5) ∧ ((¬ y5 = 0 → J μ4 0 0 3 [(0, .ref a0), (1, .ref a1), (2, .int x2), (3, .int x3), (4, .int x4), (5, .int x5), (6, .int x6), (7, .int (x7 + 1))] []) ∧ (y5 = 0 → hS μ4 a0 = some (15, 65) ∧ ∃ way_7 : Nat, hR μ4 a0 43 = some way_7 ∧ ∃ N8 : Nat, hS μ4 way_7 = some (0, N8) ∧ vp_in (x5 - 1) N8 ∧ xCall d yX12_hopOf cX12_hopOf 6 (some .int) [.ref a0, .ref a1, .int x2, .int (hI μ4 way_7 ((x5 - 1).toNatClampNeg)), .int x7] μ4 ro (fun r10 μ11 => ∃ y12 : Int32, r10 = some (.int y12) ∧ ((¬ y12 = (-1) → hS μ11 a0 = some (15, 65) ∧ ∃ way_14 : Nat, hR μ11 a0 43 = some way_14 ∧ ∃ N15 : Nat, hS μ11 way_14 = some (0, N15) ∧ vp_in x5 N15 ∧ ((¬ x7 = x3 → ((5 ≤ x5 → J (wI μ11 way_14 x5.toNatClampNeg x7) 0 0 3 [(0, .ref a0), (1, .ref a1), (2, .int x2), (3, .int x3), (4, .int x4), (5, .int x5), (6, .int x6), (7, .int (x7 + 1))] []) ∧ (¬ 5 ≤ x5 → xCall d yX12_goesFrom cX12_goesFrom 8 none [.ref a0, .ref a1, .int x2, .int x3, .int x4, .int (x5 + 1), .int x6] (wI μ11 way_14 x5.toNatClampNeg x7) ro (fun r19 μ20 => r19 = none ∧ J μ20 0 0 3 [(0, .ref a0), (1, .ref a1), (2, .int x2), (3, .int x3), (4, .int x4), (5, .int x5), (6, .int x6), (7, .int (x7 + 1))] [])))) ∧ (x7 = x3 → xCall d yX12_ends cX12_ends 7 none [.ref a0, .ref a1, .int x2, .int x4, .int x6] (wI (wI μ11 way_14 x5.toNatClampNeg x7) a0 50 x5) ro (fun r21 μ22 => r21 = none ∧ J μ22 0 0 3 [(0, .ref a0), (1, .ref a1), (2, .int x2), (3, .int x3), (4, .int x4), (5, .int x5), (6, .int x6), (7, .int (x7 + 1))] [])))) ∧ (y12 = (-1) → J μ11 0 0 3 [(0, .ref a0), (1, .ref a1), (2, .int x2), (3, .int x3), (4, .int x4), (5, .int x5), (6, .int x6), (7, .int (x7 + 1))] []))))))))))) :
    J μ 0 0 3 [(0, .ref a0), (1, .ref a1), (2, .int x2), (3, .int x3), (4, .int x4), (5, .int x5), (6, .int x6), (7, .int x7)] [] := by
  refine r_iload g dX12_goesFrom_3 rfl ?_
  refine r_aload_n g dX12_goesFrom_5 rfl ?_
  refine r_getI g fX12_245 rfl hs_a0 dX12_goesFrom_6 ?_
  refine r_icmp_ge g 117 dX12_goesFrom_9 (by decide) (fun c1 => ?_) (fun c1 => ?_)
  · replace h := h.1 c1
    exact hr.1 rfl _ _ _ _ _ dX12_goesFrom_117 (Nat.le_refl 0) (Nat.le_refl 0) h
  · replace h := h.2 c1
    refine r_iload g dX12_goesFrom_12 rfl ?_
    refine r_aload_n g dX12_goesFrom_14 rfl ?_
    refine r_getI g fX12_76 rfl hs_a0 dX12_goesFrom_15 ?_
    refine r_icmp_eq g 111 dX12_goesFrom_18 (by decide) (fun c2 => ?_) (fun c2 => ?_)
    · replace h := h.1 c2
      refine r_iinc g (x7 + 1) [(7, .int (x7 + 1)), (0, .ref a0), (1, .ref a1), (2, .int x2), (3, .int x3), (4, .int x4), (5, .int x5), (6, .int x6)] dX12_goesFrom_111 rfl rfl (by decide) rfl ?_
      refine r_goto g 3 dX12_goesFrom_114 (by decide) ?_
      refine r_sub g (lv' := [(0, .ref a0), (1, .ref a1), (2, .int x2), (3, .int x3), (4, .int x4), (5, .int x5), (6, .int x6), (7, .int (x7 + 1))]) (⟨rfl, rfl, rfl, rfl, rfl, rfl, rfl, rfl, trivial⟩) ?_
      exact h
    · replace h := h.2 c2
      refine r_aload_n g dX12_goesFrom_21 rfl ?_
      refine r_iload g dX12_goesFrom_22 rfl ?_
      refine r_iload g dX12_goesFrom_24 rfl ?_
      obtain ⟨d1, Z1, hc1, hd1, h1⟩ := h
      refine r_callV (st := []) (As := [.int x7, .int x5]) g sX12_340 iX12_isOn eX12_isOn rfl hs_a0 rfl (Nat.le_of_ble_eq_true rfl) dX12_goesFrom_26 hd1 (Nat.le_refl 0) (Nat.le_refl 0) hc1 (fun r3 μ4 hZ1 => ?_)
      replace h := h1 _ _ hZ1
      clear h1 hc1 hd1 hZ1 Z1 d1
      obtain ⟨y5, rfl, h⟩ := h
      refine r_if_ne g 111 dX12_goesFrom_29 (by decide) (fun c6 => ?_) (fun c6 => ?_)
      · replace h := h.1 c6
        refine r_iinc g (x7 + 1) [(7, .int (x7 + 1)), (0, .ref a0), (1, .ref a1), (2, .int x2), (3, .int x3), (4, .int x4), (5, .int x5), (6, .int x6)] dX12_goesFrom_111 rfl rfl (by decide) rfl ?_
        refine r_goto g 3 dX12_goesFrom_114 (by decide) ?_
        refine r_sub g (lv' := [(0, .ref a0), (1, .ref a1), (2, .int x2), (3, .int x3), (4, .int x4), (5, .int x5), (6, .int x6), (7, .int (x7 + 1))]) (⟨rfl, rfl, rfl, rfl, rfl, rfl, rfl, rfl, trivial⟩) ?_
        exact h
      · replace h := h.2 c6
        refine r_aload_n g dX12_goesFrom_32 rfl ?_
        refine r_aload_n g dX12_goesFrom_33 rfl ?_
        refine r_iload_n g dX12_goesFrom_34 rfl ?_
        refine r_aload_n g dX12_goesFrom_35 rfl ?_
        obtain ⟨hs_a0_, h⟩ := h
        obtain ⟨way_7, hr_way_7, h⟩ := h
        refine r_getR g fX12_79 rfl hs_a0_ hr_way_7 dX12_goesFrom_36 ?_
        refine r_iload g dX12_goesFrom_39 rfl ?_
        refine r_iconst g 1 dX12_goesFrom_41 (by decide) ?_
        refine r_isub g dX12_goesFrom_42 ?_
        obtain ⟨N8, hs_way_7, h⟩ := h
        obtain ⟨hi9, h⟩ := h
        refine r_iaload g hs_way_7 hi9 dX12_goesFrom_43 ?_
        refine r_iload g dX12_goesFrom_44 rfl ?_
        obtain ⟨d1, Z1, hc1, hd1, h1⟩ := h
        refine r_callV (st := []) (As := [.ref a1, .int x2, .int (hI μ4 way_7 ((x5 - 1).toNatClampNeg)), .int x7]) g sX12_309 iX12_hopOf eX12_hopOf rfl hs_a0_ rfl (Nat.le_of_ble_eq_true rfl) dX12_goesFrom_46 hd1 (Nat.le_refl 0) (Nat.le_refl 0) hc1 (fun r10 μ11 hZ1 => ?_)
        replace h := h1 _ _ hZ1
        clear h1 hc1 hd1 hZ1 Z1 d1
        obtain ⟨y12, rfl, h⟩ := h
        refine r_iconst g (-1) dX12_goesFrom_49 (by decide) ?_
        refine r_icmp_ne g 56 dX12_goesFrom_50 (by decide) (fun c13 => ?_) (fun c13 => ?_)
        · replace h := h.1 c13
          refine r_aload_n g dX12_goesFrom_56 rfl ?_
          obtain ⟨hs_a0__, h⟩ := h
          obtain ⟨way_14, hr_way_14, h⟩ := h
          refine r_getR g fX12_79 rfl hs_a0__ hr_way_14 dX12_goesFrom_57 ?_
          refine r_iload g dX12_goesFrom_60 rfl ?_
          refine r_iload g dX12_goesFrom_62 rfl ?_
          obtain ⟨N15, hs_way_14, h⟩ := h
          obtain ⟨hi16, h⟩ := h
          refine r_iastore g hs_way_14 hi16 dX12_goesFrom_64 ?_
          refine r_iload g dX12_goesFrom_65 rfl ?_
          refine r_iload_n g dX12_goesFrom_67 rfl ?_
          refine r_icmp_ne g 90 dX12_goesFrom_68 (by decide) (fun c17 => ?_) (fun c17 => ?_)
          · replace h := h.1 c17
            refine r_iload g dX12_goesFrom_90 rfl ?_
            refine r_iconst g 5 dX12_goesFrom_92 (by decide) ?_
            refine r_icmp_ge g 111 dX12_goesFrom_93 (by decide) (fun c18 => ?_) (fun c18 => ?_)
            · replace h := h.1 c18
              refine r_iinc g (x7 + 1) [(7, .int (x7 + 1)), (0, .ref a0), (1, .ref a1), (2, .int x2), (3, .int x3), (4, .int x4), (5, .int x5), (6, .int x6)] dX12_goesFrom_111 rfl rfl (by decide) rfl ?_
              refine r_goto g 3 dX12_goesFrom_114 (by decide) ?_
              refine r_sub g (lv' := [(0, .ref a0), (1, .ref a1), (2, .int x2), (3, .int x3), (4, .int x4), (5, .int x5), (6, .int x6), (7, .int (x7 + 1))]) (⟨rfl, rfl, rfl, rfl, rfl, rfl, rfl, rfl, trivial⟩) ?_
              exact h
            · replace h := h.2 c18
              refine r_aload_n g dX12_goesFrom_96 rfl ?_
              refine r_aload_n g dX12_goesFrom_97 rfl ?_
              refine r_iload_n g dX12_goesFrom_98 rfl ?_
              refine r_iload_n g dX12_goesFrom_99 rfl ?_
              refine r_iload g dX12_goesFrom_100 rfl ?_
              refine r_iload g dX12_goesFrom_102 rfl ?_
              refine r_iconst g 1 dX12_goesFrom_104 (by decide) ?_
              refine r_iadd g dX12_goesFrom_105 ?_
              refine r_iload g dX12_goesFrom_106 rfl ?_
              obtain ⟨d1, Z1, hc1, hd1, h1⟩ := h
              refine r_callV (st := []) (As := [.ref a1, .int x2, .int x3, .int x4, .int (x5 + 1), .int x6]) g sX12_347 iX12_goesFrom eX12_goesFrom rfl hs_a0__ rfl (Nat.le_of_ble_eq_true rfl) dX12_goesFrom_108 hd1 (Nat.le_refl 0) (Nat.le_refl 0) hc1 (fun r19 μ20 hZ1 => ?_)
              replace h := h1 _ _ hZ1
              clear h1 hc1 hd1 hZ1 Z1 d1
              obtain ⟨rfl, h⟩ := h
              refine r_iinc g (x7 + 1) [(7, .int (x7 + 1)), (0, .ref a0), (1, .ref a1), (2, .int x2), (3, .int x3), (4, .int x4), (5, .int x5), (6, .int x6)] dX12_goesFrom_111 rfl rfl (by decide) rfl ?_
              refine r_goto g 3 dX12_goesFrom_114 (by decide) ?_
              refine r_sub g (lv' := [(0, .ref a0), (1, .ref a1), (2, .int x2), (3, .int x3), (4, .int x4), (5, .int x5), (6, .int x6), (7, .int (x7 + 1))]) (⟨rfl, rfl, rfl, rfl, rfl, rfl, rfl, rfl, trivial⟩) ?_
              exact h
          · replace h := h.2 c17
            refine r_aload_n g dX12_goesFrom_71 rfl ?_
            refine r_iload g dX12_goesFrom_72 rfl ?_
            refine r_putI g fX12_306 rfl hs_a0__ rfl rfl dX12_goesFrom_74 ?_
            refine r_aload_n g dX12_goesFrom_77 rfl ?_
            refine r_aload_n g dX12_goesFrom_78 rfl ?_
            refine r_iload_n g dX12_goesFrom_79 rfl ?_
            refine r_iload g dX12_goesFrom_80 rfl ?_
            refine r_iload g dX12_goesFrom_82 rfl ?_
            obtain ⟨d1, Z1, hc1, hd1, h1⟩ := h
            refine r_callV (st := []) (As := [.ref a1, .int x2, .int x4, .int x6]) g sX12_343 iX12_ends eX12_ends rfl hs_a0__ rfl (Nat.le_of_ble_eq_true rfl) dX12_goesFrom_84 hd1 (Nat.le_refl 0) (Nat.le_refl 0) hc1 (fun r21 μ22 hZ1 => ?_)
            replace h := h1 _ _ hZ1
            clear h1 hc1 hd1 hZ1 Z1 d1
            obtain ⟨rfl, h⟩ := h
            refine r_goto g 111 dX12_goesFrom_87 (by decide) ?_
            refine r_iinc g (x7 + 1) [(7, .int (x7 + 1)), (0, .ref a0), (1, .ref a1), (2, .int x2), (3, .int x3), (4, .int x4), (5, .int x5), (6, .int x6)] dX12_goesFrom_111 rfl rfl (by decide) rfl ?_
            refine r_goto g 3 dX12_goesFrom_114 (by decide) ?_
            refine r_sub g (lv' := [(0, .ref a0), (1, .ref a1), (2, .int x2), (3, .int x3), (4, .int x4), (5, .int x5), (6, .int x6), (7, .int (x7 + 1))]) (⟨rfl, rfl, rfl, rfl, rfl, rfl, rfl, rfl, trivial⟩) ?_
            exact h
        · replace h := h.2 c13
          refine r_goto g 111 dX12_goesFrom_53 (by decide) ?_
          refine r_iinc g (x7 + 1) [(7, .int (x7 + 1)), (0, .ref a0), (1, .ref a1), (2, .int x2), (3, .int x3), (4, .int x4), (5, .int x5), (6, .int x6)] dX12_goesFrom_111 rfl rfl (by decide) rfl ?_
          refine r_goto g 3 dX12_goesFrom_114 (by decide) ?_
          refine r_sub g (lv' := [(0, .ref a0), (1, .ref a1), (2, .int x2), (3, .int x3), (4, .int x4), (5, .int x5), (6, .int x6), (7, .int (x7 + 1))]) (⟨rfl, rfl, rfl, rfl, rfl, rfl, rfl, rfl, trivial⟩) ?_
          exact h
theorem I_X12_goesFrom {d : Nat} {ro : Nat → Nat} {Z : Option Value → Hp → Prop} {μ : Hp} {a0 : Nat} {a1 : Nat} {x2 : Int32} {x3 : Int32} {x4 : Int32} {x5 : Int32} {x6 : Int32} (h : ∀ J, xCtx RX12 cX12_goesFrom 8 d 0 0 yX12_goesFrom.name ro J → xRet cX12_goesFrom none 0 0 Z J → J μ 0 0 0 [(0, .ref a0), (1, .ref a1), (2, .int x2), (3, .int x3), (4, .int x4), (5, .int x5), (6, .int x6)] []) : xC d yX12_goesFrom cX12_goesFrom 8 none 0 0 [.ref a0, .ref a1, .int x2, .int x3, .int x4, .int x5, .int x6] μ ro Z :=
  xC_intro (own := RX12) (lv := [(0, .ref a0), (1, .ref a1), (2, .int x2), (3, .int x3), (4, .int x4), (5, .int x5), (6, .int x6)]) (by decide) rfl (Nat.le_of_ble_eq_true rfl) rfl (fun J g hr => r_sub g (lv' := [(0, .ref a0), (1, .ref a1), (2, .int x2), (3, .int x3), (4, .int x4), (5, .int x5), (6, .int x6)]) (⟨rfl, rfl, rfl, rfl, rfl, rfl, rfl, trivial⟩) (h J g hr))
theorem dX12_searches_0 : decode cX12_searches 0 = .ok (.aload_n 0, 1) := by decide +kernel
theorem dX12_searches_1 : decode cX12_searches 1 = .ok (.getfield 79, 3) := by decide +kernel
theorem dX12_searches_4 : decode cX12_searches 4 = .ok (.iconst 0, 1) := by decide +kernel
theorem dX12_searches_5 : decode cX12_searches 5 = .ok (.iload_n 3, 1) := by decide +kernel
theorem dX12_searches_6 : decode cX12_searches 6 = .ok (.iastore, 1) := by decide +kernel
theorem dX12_searches_7 : decode cX12_searches 7 = .ok (.aload_n 0, 1) := by decide +kernel
theorem dX12_searches_8 : decode cX12_searches 8 = .ok (.iconst 0, 1) := by decide +kernel
theorem dX12_searches_9 : decode cX12_searches 9 = .ok (.putfield 324, 3) := by decide +kernel
theorem dX12_searches_12 : decode cX12_searches 12 = .ok (.aload_n 0, 1) := by decide +kernel
theorem dX12_searches_13 : decode cX12_searches 13 = .ok (.iconst 0, 1) := by decide +kernel
theorem dX12_searches_14 : decode cX12_searches 14 = .ok (.putfield 337, 3) := by decide +kernel
theorem dX12_searches_17 : decode cX12_searches 17 = .ok (.aload_n 0, 1) := by decide +kernel
theorem dX12_searches_18 : decode cX12_searches 18 = .ok (.aload_n 1, 1) := by decide +kernel
theorem dX12_searches_19 : decode cX12_searches 19 = .ok (.iload_n 2, 1) := by decide +kernel
theorem dX12_searches_20 : decode cX12_searches 20 = .ok (.iload 4, 2) := by decide +kernel
theorem dX12_searches_22 : decode cX12_searches 22 = .ok (.iload 5, 2) := by decide +kernel
theorem dX12_searches_24 : decode cX12_searches 24 = .ok (.iconst 1, 1) := by decide +kernel
theorem dX12_searches_25 : decode cX12_searches 25 = .ok (.iload 6, 2) := by decide +kernel
theorem dX12_searches_27 : decode cX12_searches 27 = .ok (.invokevirtual 347, 3) := by decide +kernel
theorem dX12_searches_30 : decode cX12_searches 30 = .ok (.aload_n 0, 1) := by decide +kernel
theorem dX12_searches_31 : decode cX12_searches 31 = .ok (.getfield 337, 3) := by decide +kernel
theorem dX12_searches_34 : decode cX12_searches 34 = .ok (.ifCond .ne 5, 3) := by decide +kernel
theorem dX12_searches_37 : decode cX12_searches 37 = .ok (.iconst 0, 1) := by decide +kernel
theorem dX12_searches_38 : decode cX12_searches 38 = .ok (.ireturn, 1) := by decide +kernel
theorem dX12_searches_39 : decode cX12_searches 39 = .ok (.aload_n 0, 1) := by decide +kernel
theorem dX12_searches_40 : decode cX12_searches 40 = .ok (.aload_n 0, 1) := by decide +kernel
theorem dX12_searches_41 : decode cX12_searches 41 = .ok (.getfield 337, 3) := by decide +kernel
theorem dX12_searches_44 : decode cX12_searches 44 = .ok (.putfield 306, 3) := by decide +kernel
theorem dX12_searches_47 : decode cX12_searches 47 = .ok (.iconst 0, 1) := by decide +kernel
theorem dX12_searches_48 : decode cX12_searches 48 = .ok (.istore 7, 2) := by decide +kernel
theorem dX12_searches_50 : decode cX12_searches 50 = .ok (.iload 7, 2) := by decide +kernel
theorem dX12_searches_52 : decode cX12_searches 52 = .ok (.aload_n 0, 1) := by decide +kernel
theorem dX12_searches_53 : decode cX12_searches 53 = .ok (.getfield 306, 3) := by decide +kernel
theorem dX12_searches_56 : decode cX12_searches 56 = .ok (.if_icmp .gt 23, 3) := by decide +kernel
theorem dX12_searches_59 : decode cX12_searches 59 = .ok (.aload_n 0, 1) := by decide +kernel
theorem dX12_searches_60 : decode cX12_searches 60 = .ok (.getfield 79, 3) := by decide +kernel
theorem dX12_searches_63 : decode cX12_searches 63 = .ok (.iload 7, 2) := by decide +kernel
theorem dX12_searches_65 : decode cX12_searches 65 = .ok (.aload_n 0, 1) := by decide +kernel
theorem dX12_searches_66 : decode cX12_searches 66 = .ok (.getfield 100, 3) := by decide +kernel
theorem dX12_searches_69 : decode cX12_searches 69 = .ok (.iload 7, 2) := by decide +kernel
theorem dX12_searches_71 : decode cX12_searches 71 = .ok (.iaload, 1) := by decide +kernel
theorem dX12_searches_72 : decode cX12_searches 72 = .ok (.iastore, 1) := by decide +kernel
theorem dX12_searches_73 : decode cX12_searches 73 = .ok (.iinc 7 1, 3) := by decide +kernel
theorem dX12_searches_76 : decode cX12_searches 76 = .ok (.goto (-26), 3) := by decide +kernel
theorem dX12_searches_79 : decode cX12_searches 79 = .ok (.aload_n 0, 1) := by decide +kernel
theorem dX12_searches_80 : decode cX12_searches 80 = .ok (.aload_n 1, 1) := by decide +kernel
theorem dX12_searches_81 : decode cX12_searches 81 = .ok (.iload_n 2, 1) := by decide +kernel
theorem dX12_searches_82 : decode cX12_searches 82 = .ok (.iload 5, 2) := by decide +kernel
theorem dX12_searches_84 : decode cX12_searches 84 = .ok (.invokevirtual 327, 3) := by decide +kernel
theorem dX12_searches_87 : decode cX12_searches 87 = .ok (.iconst 1, 1) := by decide +kernel
theorem dX12_searches_88 : decode cX12_searches 88 = .ok (.ireturn, 1) := by decide +kernel
set_option maxHeartbeats 4000000 in
set_option maxRecDepth 100000 in
theorem B_X12_searches_0 {d : Nat} {ro : Nat → Nat} {J : JT} {Z : Option Value → Hp → Prop} (g : xCtx RX12 cX12_searches 8 d 0 0 yX12_searches.name ro J) (hr : xRet cX12_searches (some .boolean) 0 0 Z J) {μ : Hp} {a0 : Nat} {a1 : Nat} {x2 : Int32} {x3 : Int32} {x4 : Int32} {x5 : Int32} {x6 : Int32} {a0_way : Nat} {N_a0_way : Nat} (hs_a0 : hS μ a0 = some (15, 65)) (hr_a0_way : hR μ a0 43 = some a0_way) (hs_a0_way : hS μ a0_way = some (0, N_a0_way))
    (h : vp_in 0 N_a0_way ∧ xCall d yX12_goesFrom cX12_goesFrom 8 none [.ref a0, .ref a1, .int x2, .int x4, .int x5, .int 1, .int x6] (wI (wI (wI μ a0_way 0 x3) a0 54 0) a0 56 0) ro (fun r2 μ3 => r2 = none ∧ hS μ3 a0 = some (15, 65) ∧ ((¬ (hI μ3 a0 56) = 0 → J (wI μ3 a0 50 (hI μ3 a0 56)) 0 0 50 [(0, .ref a0), (1, .ref a1), (2, .int x2), (5, .int x5), (7, .int 0)] []) ∧ ((hI μ3 a0 56) = 0 → Z (some (.int 0)) μ3)))) :
    J μ 0 0 0 [(0, .ref a0), (1, .ref a1), (2, .int x2), (3, .int x3), (4, .int x4), (5, .int x5), (6, .int x6)] [] := by
  refine r_aload_n g dX12_searches_0 rfl ?_
  refine r_getR g fX12_79 rfl hs_a0 hr_a0_way dX12_searches_1 ?_
  refine r_iconst g 0 dX12_searches_4 (by decide) ?_
  refine r_iload_n g dX12_searches_5 rfl ?_
  obtain ⟨hi1, h⟩ := h
  refine r_iastore g hs_a0_way hi1 dX12_searches_6 ?_
  refine r_aload_n g dX12_searches_7 rfl ?_
  refine r_iconst g 0 dX12_searches_8 (by decide) ?_
  refine r_putI g fX12_324 rfl hs_a0 rfl rfl dX12_searches_9 ?_
  refine r_aload_n g dX12_searches_12 rfl ?_
  refine r_iconst g 0 dX12_searches_13 (by decide) ?_
  refine r_putI g fX12_337 rfl hs_a0 rfl rfl dX12_searches_14 ?_
  refine r_aload_n g dX12_searches_17 rfl ?_
  refine r_aload_n g dX12_searches_18 rfl ?_
  refine r_iload_n g dX12_searches_19 rfl ?_
  refine r_iload g dX12_searches_20 rfl ?_
  refine r_iload g dX12_searches_22 rfl ?_
  refine r_iconst g 1 dX12_searches_24 (by decide) ?_
  refine r_iload g dX12_searches_25 rfl ?_
  obtain ⟨d1, Z1, hc1, hd1, h1⟩ := h
  refine r_callV (st := []) (As := [.ref a1, .int x2, .int x4, .int x5, .int 1, .int x6]) g sX12_347 iX12_goesFrom eX12_goesFrom rfl hs_a0 rfl (Nat.le_of_ble_eq_true rfl) dX12_searches_27 hd1 (Nat.le_refl 0) (Nat.le_refl 0) hc1 (fun r2 μ3 hZ1 => ?_)
  replace h := h1 _ _ hZ1
  clear h1 hc1 hd1 hZ1 Z1 d1
  obtain ⟨rfl, h⟩ := h
  refine r_aload_n g dX12_searches_30 rfl ?_
  obtain ⟨hs_a0_, h⟩ := h
  refine r_getI g fX12_337 rfl hs_a0_ dX12_searches_31 ?_
  refine r_if_ne g 39 dX12_searches_34 (by decide) (fun c4 => ?_) (fun c4 => ?_)
  · replace h := h.1 c4
    refine r_aload_n g dX12_searches_39 rfl ?_
    refine r_aload_n g dX12_searches_40 rfl ?_
    refine r_getI g fX12_337 rfl hs_a0_ dX12_searches_41 ?_
    refine r_putI g fX12_306 rfl hs_a0_ rfl rfl dX12_searches_44 ?_
    refine r_iconst g 0 dX12_searches_47 (by decide) ?_
    refine r_istore g [(7, .int 0), (0, .ref a0), (1, .ref a1), (2, .int x2), (3, .int x3), (4, .int x4), (5, .int x5), (6, .int x6)] dX12_searches_48 (by decide) rfl ?_
    refine r_sub g (lv' := [(0, .ref a0), (1, .ref a1), (2, .int x2), (5, .int x5), (7, .int 0)]) (⟨rfl, rfl, rfl, rfl, rfl, trivial⟩) ?_
    exact h
  · replace h := h.2 c4
    refine r_iconst g 0 dX12_searches_37 (by decide) ?_
    exact hr.2.1 _ rfl _ _ _ _ _ _ dX12_searches_38 (by decide) (Nat.le_refl 0) (Nat.le_refl 0) h
set_option maxHeartbeats 4000000 in
set_option maxRecDepth 100000 in
theorem B_X12_searches_50 {d : Nat} {ro : Nat → Nat} {J : JT} {Z : Option Value → Hp → Prop} (g : xCtx RX12 cX12_searches 8 d 0 0 yX12_searches.name ro J) (hr : xRet cX12_searches (some .boolean) 0 0 Z J) {μ : Hp} {a0 : Nat} {a1 : Nat} {x2 : Int32} {x5 : Int32} {x7 : Int32} {a0_way : Nat} {a0_bestWay : Nat} {N_a0_bestWay : Nat} {N_a0_way : Nat} (hs_a0 : hS μ a0 = some (15, 65)) (hr_a0_way : hR μ a0 43 = some a0_way) (hr_a0_bestWay : hR μ a0 55 = some a0_bestWay) (hs_a0_bestWay : hS μ a0_bestWay = some (0, N_a0_bestWay)) (hs_a0_way : hS μ a0_way = some (0, N_a0_way))
    (h : (((hI μ a0 50) < x7 → xCall d yX12_reckons cX12_reckons 7 none [.ref a0, .ref a1, .int x2, .int x5] μ ro (fun r2 μ3 => r2 = none ∧ Z (some (.int 1)) μ3)) ∧ (¬ (hI μ a0 50) < x7 → vp_in x7 N_a0_bestWay ∧ vp_in x7 N_a0_way ∧ J (wI μ a0_way x7.toNatClampNeg (hI μ a0_bestWay x7.toNatClampNeg)) 0 0 50 [(0, .ref a0), (1, .ref a1), (2, .int x2), (5, .int x5), (7, .int (x7 + 1))] []))) :
    J μ 0 0 50 [(0, .ref a0), (1, .ref a1), (2, .int x2), (5, .int x5), (7, .int x7)] [] := by
  refine r_iload g dX12_searches_50 rfl ?_
  refine r_aload_n g dX12_searches_52 rfl ?_
  refine r_getI g fX12_306 rfl hs_a0 dX12_searches_53 ?_
  refine r_icmp_gt g 79 dX12_searches_56 (by decide) (fun c1 => ?_) (fun c1 => ?_)
  · replace h := h.1 c1
    refine r_aload_n g dX12_searches_79 rfl ?_
    refine r_aload_n g dX12_searches_80 rfl ?_
    refine r_iload_n g dX12_searches_81 rfl ?_
    refine r_iload g dX12_searches_82 rfl ?_
    obtain ⟨d1, Z1, hc1, hd1, h1⟩ := h
    refine r_callV (st := []) (As := [.ref a1, .int x2, .int x5]) g sX12_327 iX12_reckons eX12_reckons rfl hs_a0 rfl (Nat.le_of_ble_eq_true rfl) dX12_searches_84 hd1 (Nat.le_refl 0) (Nat.le_refl 0) hc1 (fun r2 μ3 hZ1 => ?_)
    replace h := h1 _ _ hZ1
    clear h1 hc1 hd1 hZ1 Z1 d1
    obtain ⟨rfl, h⟩ := h
    refine r_iconst g 1 dX12_searches_87 (by decide) ?_
    exact hr.2.1 _ rfl _ _ _ _ _ _ dX12_searches_88 (by decide) (Nat.le_refl 0) (Nat.le_refl 0) h
  · replace h := h.2 c1
    refine r_aload_n g dX12_searches_59 rfl ?_
    refine r_getR g fX12_79 rfl hs_a0 hr_a0_way dX12_searches_60 ?_
    refine r_iload g dX12_searches_63 rfl ?_
    refine r_aload_n g dX12_searches_65 rfl ?_
    refine r_getR g fX12_100 rfl hs_a0 hr_a0_bestWay dX12_searches_66 ?_
    refine r_iload g dX12_searches_69 rfl ?_
    obtain ⟨hi4, h⟩ := h
    refine r_iaload g hs_a0_bestWay hi4 dX12_searches_71 ?_
    obtain ⟨hi5, h⟩ := h
    refine r_iastore g hs_a0_way hi5 dX12_searches_72 ?_
    refine r_iinc g (x7 + 1) [(7, .int (x7 + 1)), (0, .ref a0), (1, .ref a1), (2, .int x2), (5, .int x5)] dX12_searches_73 rfl rfl (by decide) rfl ?_
    refine r_goto g 50 dX12_searches_76 (by decide) ?_
    refine r_sub g (lv' := [(0, .ref a0), (1, .ref a1), (2, .int x2), (5, .int x5), (7, .int (x7 + 1))]) (⟨rfl, rfl, rfl, rfl, rfl, trivial⟩) ?_
    exact h
theorem I_X12_searches {d : Nat} {ro : Nat → Nat} {Z : Option Value → Hp → Prop} {μ : Hp} {a0 : Nat} {a1 : Nat} {x2 : Int32} {x3 : Int32} {x4 : Int32} {x5 : Int32} {x6 : Int32} (h : ∀ J, xCtx RX12 cX12_searches 8 d 0 0 yX12_searches.name ro J → xRet cX12_searches (some .boolean) 0 0 Z J → J μ 0 0 0 [(0, .ref a0), (1, .ref a1), (2, .int x2), (3, .int x3), (4, .int x4), (5, .int x5), (6, .int x6)] []) : xC d yX12_searches cX12_searches 8 (some .boolean) 0 0 [.ref a0, .ref a1, .int x2, .int x3, .int x4, .int x5, .int x6] μ ro Z :=
  xC_intro (own := RX12) (lv := [(0, .ref a0), (1, .ref a1), (2, .int x2), (3, .int x3), (4, .int x4), (5, .int x5), (6, .int x6)]) (by decide) rfl (Nat.le_of_ble_eq_true rfl) rfl (fun J g hr => r_sub g (lv' := [(0, .ref a0), (1, .ref a1), (2, .int x2), (3, .int x3), (4, .int x4), (5, .int x5), (6, .int x6)]) (⟨rfl, rfl, rfl, rfl, rfl, rfl, rfl, trivial⟩) (h J g hr))
theorem dX12_isAsked_0 : decode cX12_isAsked 0 = .ok (.aload_n 0, 1) := by decide +kernel
theorem dX12_isAsked_1 : decode cX12_isAsked 1 = .ok (.aload_n 0, 1) := by decide +kernel
theorem dX12_isAsked_2 : decode cX12_isAsked 2 = .ok (.getfield 57, 3) := by decide +kernel
theorem dX12_isAsked_5 : decode cX12_isAsked 5 = .ok (.bipush 30, 2) := by decide +kernel
theorem dX12_isAsked_7 : decode cX12_isAsked 7 = .ok (.iaload, 1) := by decide +kernel
theorem dX12_isAsked_8 : decode cX12_isAsked 8 = .ok (.putfield 277, 3) := by decide +kernel
theorem dX12_isAsked_11 : decode cX12_isAsked 11 = .ok (.aload_n 0, 1) := by decide +kernel
theorem dX12_isAsked_12 : decode cX12_isAsked 12 = .ok (.iload_n 2, 1) := by decide +kernel
theorem dX12_isAsked_13 : decode cX12_isAsked 13 = .ok (.invokevirtual 351, 3) := by decide +kernel
theorem dX12_isAsked_16 : decode cX12_isAsked 16 = .ok (.ifCond .eq 43, 3) := by decide +kernel
theorem dX12_isAsked_19 : decode cX12_isAsked 19 = .ok (.aload_n 0, 1) := by decide +kernel
theorem dX12_isAsked_20 : decode cX12_isAsked 20 = .ok (.iload_n 3, 1) := by decide +kernel
theorem dX12_isAsked_21 : decode cX12_isAsked 21 = .ok (.invokevirtual 351, 3) := by decide +kernel
theorem dX12_isAsked_24 : decode cX12_isAsked 24 = .ok (.ifCond .eq 35, 3) := by decide +kernel
theorem dX12_isAsked_27 : decode cX12_isAsked 27 = .ok (.iload_n 2, 1) := by decide +kernel
theorem dX12_isAsked_28 : decode cX12_isAsked 28 = .ok (.iload_n 3, 1) := by decide +kernel
theorem dX12_isAsked_29 : decode cX12_isAsked 29 = .ok (.if_icmp .eq 30, 3) := by decide +kernel
theorem dX12_isAsked_32 : decode cX12_isAsked 32 = .ok (.iload_n 1, 1) := by decide +kernel
theorem dX12_isAsked_33 : decode cX12_isAsked 33 = .ok (.i2l, 1) := by decide +kernel
theorem dX12_isAsked_34 : decode cX12_isAsked 34 = .ok (.lconst 0, 1) := by decide +kernel
theorem dX12_isAsked_35 : decode cX12_isAsked 35 = .ok (.lconst 1, 1) := by decide +kernel
theorem dX12_isAsked_36 : decode cX12_isAsked 36 = .ok (.invokestatic 161, 3) := by decide +kernel
theorem dX12_isAsked_39 : decode cX12_isAsked 39 = .ok (.ifCond .eq 20, 3) := by decide +kernel
theorem dX12_isAsked_42 : decode cX12_isAsked 42 = .ok (.iload 4, 2) := by decide +kernel
theorem dX12_isAsked_44 : decode cX12_isAsked 44 = .ok (.i2l, 1) := by decide +kernel
theorem dX12_isAsked_45 : decode cX12_isAsked 45 = .ok (.lconst 1, 1) := by decide +kernel
theorem dX12_isAsked_46 : decode cX12_isAsked 46 = .ok (.ldc2_w 355, 3) := by decide +kernel
theorem dX12_isAsked_49 : decode cX12_isAsked 49 = .ok (.invokestatic 161, 3) := by decide +kernel
theorem dX12_isAsked_52 : decode cX12_isAsked 52 = .ok (.ifCond .eq 7, 3) := by decide +kernel
theorem dX12_isAsked_55 : decode cX12_isAsked 55 = .ok (.iconst 1, 1) := by decide +kernel
theorem dX12_isAsked_56 : decode cX12_isAsked 56 = .ok (.goto 4, 3) := by decide +kernel
theorem dX12_isAsked_59 : decode cX12_isAsked 59 = .ok (.iconst 0, 1) := by decide +kernel
theorem dX12_isAsked_60 : decode cX12_isAsked 60 = .ok (.ireturn, 1) := by decide +kernel
set_option maxHeartbeats 4000000 in
set_option maxRecDepth 100000 in
theorem B_X12_isAsked_0 {d : Nat} {ro : Nat → Nat} {J : JT} {Z : Option Value → Hp → Prop} (g : xCtx RX12 cX12_isAsked 5 d 0 0 yX12_isAsked.name ro J) (hr : xRet cX12_isAsked (some .boolean) 0 0 Z J) {μ : Hp} {a0 : Nat} {x1 : Int32} {x2 : Int32} {x3 : Int32} {x4 : Int32} {a0_now : Nat} {N_a0_now : Nat} (hs_a0 : hS μ a0 = some (15, 65)) (hr_a0_now : hR μ a0 30 = some a0_now) (hs_a0_now : hS μ a0_now = some (0, N_a0_now)) (hd9 : 1 ≤ d)
    (h : vp_in 30 N_a0_now ∧ ((x2 < 0 → Z (some (.int 0)) (wI μ a0 37 (hI μ a0_now 30))) ∧ (¬ x2 < 0 → (((hI (wI μ a0 37 (hI μ a0_now 30)) a0 22) ≤ x2 → Z (some (.int 0)) (wI μ a0 37 (hI μ a0_now 30))) ∧ (¬ (hI (wI μ a0 37 (hI μ a0_now 30)) a0 22) ≤ x2 → ((x3 < 0 → Z (some (.int 0)) (wI μ a0 37 (hI μ a0_now 30))) ∧ (¬ x3 < 0 → (((hI (wI μ a0 37 (hI μ a0_now 30)) a0 22) ≤ x3 → Z (some (.int 0)) (wI μ a0 37 (hI μ a0_now 30))) ∧ (¬ (hI (wI μ a0 37 (hI μ a0_now 30)) a0 22) ≤ x3 → ((x2 = x3 → Z (some (.int 0)) (wI μ a0 37 (hI μ a0_now 30))) ∧ (¬ x2 = x3 → ((x1 < 0 → Z (some (.int 0)) (wI μ a0 37 (hI μ a0_now 30))) ∧ (¬ x1 < 0 → ((1 < x1 → Z (some (.int 0)) (wI μ a0 37 (hI μ a0_now 30))) ∧ (¬ 1 < x1 → ((x4 < 1 → Z (some (.int 0)) (wI μ a0 37 (hI μ a0_now 30))) ∧ (¬ x4 < 1 → ((1000000 < x4 → Z (some (.int 0)) (wI μ a0 37 (hI μ a0_now 30))) ∧ (¬ 1000000 < x4 → Z (some (.int 1)) (wI μ a0 37 (hI μ a0_now 30))))))))))))))))))))) :
    J μ 0 0 0 [(0, .ref a0), (1, .int x1), (2, .int x2), (3, .int x3), (4, .int x4)] [] := by
  refine r_aload_n g dX12_isAsked_0 rfl ?_
  refine r_aload_n g dX12_isAsked_1 rfl ?_
  refine r_getR g fX12_57 rfl hs_a0 hr_a0_now dX12_isAsked_2 ?_
  refine r_bipush g 30 dX12_isAsked_5 (by decide) ?_
  obtain ⟨hi1, h⟩ := h
  refine r_iaload g hs_a0_now hi1 dX12_isAsked_7 ?_
  refine r_putI g fX12_277 rfl hs_a0 rfl rfl dX12_isAsked_8 ?_
  refine r_aload_n g dX12_isAsked_11 rfl ?_
  refine r_iload_n g dX12_isAsked_12 rfl ?_
  by_cases c2 : x2 < 0
  · replace h := h.1 c2
    refine r_callV (st := []) (As := [.int x2]) g sX12_351 iX12_isFirm eX12_isFirm rfl hs_a0 rfl (Nat.le_of_ble_eq_true rfl) dX12_isAsked_13 (by omega) (Nat.le_refl 0) (Nat.le_refl 0) (P_X12_isFirm_0 (d := d - 1) hs_a0 c2) (fun r3 μ4 hZ1 => ?_)
    obtain ⟨rfl, e9⟩ := hZ1
    replace e9 := e9.symm
    subst e9
    refine r_if_eq g 59 dX12_isAsked_16 (by decide) (fun _ => ?_) (fun hz => absurd hz (by decide))
    refine r_iconst g 0 dX12_isAsked_59 (by decide) ?_
    exact hr.2.1 _ rfl _ _ _ _ _ _ dX12_isAsked_60 (by decide) (Nat.le_refl 0) (Nat.le_refl 0) h
  · replace h := h.2 c2
    by_cases c5 : (hI (wI μ a0 37 (hI μ a0_now 30)) a0 22) ≤ x2
    · replace h := h.1 c5
      refine r_callV (st := []) (As := [.int x2]) g sX12_351 iX12_isFirm eX12_isFirm rfl hs_a0 rfl (Nat.le_of_ble_eq_true rfl) dX12_isAsked_13 (by omega) (Nat.le_refl 0) (Nat.le_refl 0) (P_X12_isFirm_1 (d := d - 1) hs_a0 c2 c5) (fun r6 μ7 hZ1 => ?_)
      obtain ⟨rfl, e9⟩ := hZ1
      replace e9 := e9.symm
      subst e9
      refine r_if_eq g 59 dX12_isAsked_16 (by decide) (fun _ => ?_) (fun hz => absurd hz (by decide))
      refine r_iconst g 0 dX12_isAsked_59 (by decide) ?_
      exact hr.2.1 _ rfl _ _ _ _ _ _ dX12_isAsked_60 (by decide) (Nat.le_refl 0) (Nat.le_refl 0) h
    · replace h := h.2 c5
      refine r_callV (st := []) (As := [.int x2]) g sX12_351 iX12_isFirm eX12_isFirm rfl hs_a0 rfl (Nat.le_of_ble_eq_true rfl) dX12_isAsked_13 (by omega) (Nat.le_refl 0) (Nat.le_refl 0) (P_X12_isFirm_2 (d := d - 1) hs_a0 c2 c5) (fun r8 μ9 hZ1 => ?_)
      obtain ⟨rfl, e9⟩ := hZ1
      replace e9 := e9.symm
      subst e9
      refine r_if_eq g 59 dX12_isAsked_16 (by decide) (fun hz => absurd hz (by decide)) (fun _ => ?_)
      refine r_aload_n g dX12_isAsked_19 rfl ?_
      refine r_iload_n g dX12_isAsked_20 rfl ?_
      by_cases c10 : x3 < 0
      · replace h := h.1 c10
        refine r_callV (st := []) (As := [.int x3]) g sX12_351 iX12_isFirm eX12_isFirm rfl hs_a0 rfl (Nat.le_of_ble_eq_true rfl) dX12_isAsked_21 (by omega) (Nat.le_refl 0) (Nat.le_refl 0) (P_X12_isFirm_0 (d := d - 1) hs_a0 c10) (fun r11 μ12 hZ1 => ?_)
        obtain ⟨rfl, e9⟩ := hZ1
        replace e9 := e9.symm
        subst e9
        refine r_if_eq g 59 dX12_isAsked_24 (by decide) (fun _ => ?_) (fun hz => absurd hz (by decide))
        refine r_iconst g 0 dX12_isAsked_59 (by decide) ?_
        exact hr.2.1 _ rfl _ _ _ _ _ _ dX12_isAsked_60 (by decide) (Nat.le_refl 0) (Nat.le_refl 0) h
      · replace h := h.2 c10
        by_cases c13 : (hI (wI μ a0 37 (hI μ a0_now 30)) a0 22) ≤ x3
        · replace h := h.1 c13
          refine r_callV (st := []) (As := [.int x3]) g sX12_351 iX12_isFirm eX12_isFirm rfl hs_a0 rfl (Nat.le_of_ble_eq_true rfl) dX12_isAsked_21 (by omega) (Nat.le_refl 0) (Nat.le_refl 0) (P_X12_isFirm_1 (d := d - 1) hs_a0 c10 c13) (fun r14 μ15 hZ1 => ?_)
          obtain ⟨rfl, e9⟩ := hZ1
          replace e9 := e9.symm
          subst e9
          refine r_if_eq g 59 dX12_isAsked_24 (by decide) (fun _ => ?_) (fun hz => absurd hz (by decide))
          refine r_iconst g 0 dX12_isAsked_59 (by decide) ?_
          exact hr.2.1 _ rfl _ _ _ _ _ _ dX12_isAsked_60 (by decide) (Nat.le_refl 0) (Nat.le_refl 0) h
        · replace h := h.2 c13
          refine r_callV (st := []) (As := [.int x3]) g sX12_351 iX12_isFirm eX12_isFirm rfl hs_a0 rfl (Nat.le_of_ble_eq_true rfl) dX12_isAsked_21 (by omega) (Nat.le_refl 0) (Nat.le_refl 0) (P_X12_isFirm_2 (d := d - 1) hs_a0 c10 c13) (fun r16 μ17 hZ1 => ?_)
          obtain ⟨rfl, e9⟩ := hZ1
          replace e9 := e9.symm
          subst e9
          refine r_if_eq g 59 dX12_isAsked_24 (by decide) (fun hz => absurd hz (by decide)) (fun _ => ?_)
          refine r_iload_n g dX12_isAsked_27 rfl ?_
          refine r_iload_n g dX12_isAsked_28 rfl ?_
          refine r_icmp_eq g 59 dX12_isAsked_29 (by decide) (fun c18 => ?_) (fun c18 => ?_)
          · replace h := h.1 c18
            refine r_iconst g 0 dX12_isAsked_59 (by decide) ?_
            exact hr.2.1 _ rfl _ _ _ _ _ _ dX12_isAsked_60 (by decide) (Nat.le_refl 0) (Nat.le_refl 0) h
          · replace h := h.2 c18
            refine r_iload_n g dX12_isAsked_32 rfl ?_
            refine r_i2l g dX12_isAsked_33 ?_
            refine r_lconst g 0 dX12_isAsked_34 (by decide) ?_
            refine r_lconst g 1 dX12_isAsked_35 (by decide) ?_
            by_cases c19 : x1 < 0
            · replace h := h.1 c19
              refine r_callS (st := []) (As := [.long x1.toInt64, .long 0, .long 1]) g sX12_161 iX12_isIn rfl (Nat.le_of_ble_eq_true rfl) dX12_isAsked_36 (by omega) (Nat.le_refl 0) (Nat.le_refl 0) (Q_isIn_0 (d := d - 1) (x := x1) (a := 0) (b := 1) rfl (by decide) (by decide) c19) (fun r20 μ21 hZ1 => ?_)
              obtain ⟨rfl, e9⟩ := hZ1
              replace e9 := e9.symm
              subst e9
              refine r_if_eq g 59 dX12_isAsked_39 (by decide) (fun _ => ?_) (fun hz => absurd hz (by decide))
              refine r_iconst g 0 dX12_isAsked_59 (by decide) ?_
              exact hr.2.1 _ rfl _ _ _ _ _ _ dX12_isAsked_60 (by decide) (Nat.le_refl 0) (Nat.le_refl 0) h
            · replace h := h.2 c19
              by_cases c22 : 1 < x1
              · replace h := h.1 c22
                refine r_callS (st := []) (As := [.long x1.toInt64, .long 0, .long 1]) g sX12_161 iX12_isIn rfl (Nat.le_of_ble_eq_true rfl) dX12_isAsked_36 (by omega) (Nat.le_refl 0) (Nat.le_refl 0) (Q_isIn_1 (d := d - 1) (x := x1) (a := 0) (b := 1) rfl (by decide) (by decide) c19 c22) (fun r23 μ24 hZ1 => ?_)
                obtain ⟨rfl, e9⟩ := hZ1
                replace e9 := e9.symm
                subst e9
                refine r_if_eq g 59 dX12_isAsked_39 (by decide) (fun _ => ?_) (fun hz => absurd hz (by decide))
                refine r_iconst g 0 dX12_isAsked_59 (by decide) ?_
                exact hr.2.1 _ rfl _ _ _ _ _ _ dX12_isAsked_60 (by decide) (Nat.le_refl 0) (Nat.le_refl 0) h
              · replace h := h.2 c22
                refine r_callS (st := []) (As := [.long x1.toInt64, .long 0, .long 1]) g sX12_161 iX12_isIn rfl (Nat.le_of_ble_eq_true rfl) dX12_isAsked_36 (by omega) (Nat.le_refl 0) (Nat.le_refl 0) (Q_isIn_2 (d := d - 1) (x := x1) (a := 0) (b := 1) rfl (by decide) (by decide) c19 c22) (fun r25 μ26 hZ1 => ?_)
                obtain ⟨rfl, e9⟩ := hZ1
                replace e9 := e9.symm
                subst e9
                refine r_if_eq g 59 dX12_isAsked_39 (by decide) (fun hz => absurd hz (by decide)) (fun _ => ?_)
                refine r_iload g dX12_isAsked_42 rfl ?_
                refine r_i2l g dX12_isAsked_44 ?_
                refine r_lconst g 1 dX12_isAsked_45 (by decide) ?_
                refine r_ldc2 g 1000000 kX12_355 dX12_isAsked_46 ?_
                by_cases c27 : x4 < 1
                · replace h := h.1 c27
                  refine r_callS (st := []) (As := [.long x4.toInt64, .long 1, .long 1000000]) g sX12_161 iX12_isIn rfl (Nat.le_of_ble_eq_true rfl) dX12_isAsked_49 (by omega) (Nat.le_refl 0) (Nat.le_refl 0) (Q_isIn_0 (d := d - 1) (x := x4) (a := 1) (b := 1000000) rfl (by decide) (by decide) c27) (fun r28 μ29 hZ1 => ?_)
                  obtain ⟨rfl, e9⟩ := hZ1
                  replace e9 := e9.symm
                  subst e9
                  refine r_if_eq g 59 dX12_isAsked_52 (by decide) (fun _ => ?_) (fun hz => absurd hz (by decide))
                  refine r_iconst g 0 dX12_isAsked_59 (by decide) ?_
                  exact hr.2.1 _ rfl _ _ _ _ _ _ dX12_isAsked_60 (by decide) (Nat.le_refl 0) (Nat.le_refl 0) h
                · replace h := h.2 c27
                  by_cases c30 : 1000000 < x4
                  · replace h := h.1 c30
                    refine r_callS (st := []) (As := [.long x4.toInt64, .long 1, .long 1000000]) g sX12_161 iX12_isIn rfl (Nat.le_of_ble_eq_true rfl) dX12_isAsked_49 (by omega) (Nat.le_refl 0) (Nat.le_refl 0) (Q_isIn_1 (d := d - 1) (x := x4) (a := 1) (b := 1000000) rfl (by decide) (by decide) c27 c30) (fun r31 μ32 hZ1 => ?_)
                    obtain ⟨rfl, e9⟩ := hZ1
                    replace e9 := e9.symm
                    subst e9
                    refine r_if_eq g 59 dX12_isAsked_52 (by decide) (fun _ => ?_) (fun hz => absurd hz (by decide))
                    refine r_iconst g 0 dX12_isAsked_59 (by decide) ?_
                    exact hr.2.1 _ rfl _ _ _ _ _ _ dX12_isAsked_60 (by decide) (Nat.le_refl 0) (Nat.le_refl 0) h
                  · replace h := h.2 c30
                    refine r_callS (st := []) (As := [.long x4.toInt64, .long 1, .long 1000000]) g sX12_161 iX12_isIn rfl (Nat.le_of_ble_eq_true rfl) dX12_isAsked_49 (by omega) (Nat.le_refl 0) (Nat.le_refl 0) (Q_isIn_2 (d := d - 1) (x := x4) (a := 1) (b := 1000000) rfl (by decide) (by decide) c27 c30) (fun r33 μ34 hZ1 => ?_)
                    obtain ⟨rfl, e9⟩ := hZ1
                    replace e9 := e9.symm
                    subst e9
                    refine r_if_eq g 59 dX12_isAsked_52 (by decide) (fun hz => absurd hz (by decide)) (fun _ => ?_)
                    refine r_iconst g 1 dX12_isAsked_55 (by decide) ?_
                    refine r_goto g 60 dX12_isAsked_56 (by decide) ?_
                    exact hr.2.1 _ rfl _ _ _ _ _ _ dX12_isAsked_60 (by decide) (Nat.le_refl 0) (Nat.le_refl 0) h
theorem I_X12_isAsked {d : Nat} {ro : Nat → Nat} {Z : Option Value → Hp → Prop} {μ : Hp} {a0 : Nat} {x1 : Int32} {x2 : Int32} {x3 : Int32} {x4 : Int32} (h : ∀ J, xCtx RX12 cX12_isAsked 5 d 0 0 yX12_isAsked.name ro J → xRet cX12_isAsked (some .boolean) 0 0 Z J → J μ 0 0 0 [(0, .ref a0), (1, .int x1), (2, .int x2), (3, .int x3), (4, .int x4)] []) : xC d yX12_isAsked cX12_isAsked 5 (some .boolean) 0 0 [.ref a0, .int x1, .int x2, .int x3, .int x4] μ ro Z :=
  xC_intro (own := RX12) (lv := [(0, .ref a0), (1, .int x1), (2, .int x2), (3, .int x3), (4, .int x4)]) (by decide) rfl (Nat.le_of_ble_eq_true rfl) rfl (fun J g hr => r_sub g (lv' := [(0, .ref a0), (1, .int x1), (2, .int x2), (3, .int x3), (4, .int x4)]) (⟨rfl, rfl, rfl, rfl, rfl, trivial⟩) (h J g hr))
theorem dX12_finds_0 : decode cX12_finds 0 = .ok (.aload_n 0, 1) := by decide +kernel
theorem dX12_finds_1 : decode cX12_finds 1 = .ok (.iload_n 1, 1) := by decide +kernel
theorem dX12_finds_2 : decode cX12_finds 2 = .ok (.iload_n 2, 1) := by decide +kernel
theorem dX12_finds_3 : decode cX12_finds 3 = .ok (.iload_n 3, 1) := by decide +kernel
theorem dX12_finds_4 : decode cX12_finds 4 = .ok (.iload 4, 2) := by decide +kernel
theorem dX12_finds_6 : decode cX12_finds 6 = .ok (.invokevirtual 357, 3) := by decide +kernel
theorem dX12_finds_9 : decode cX12_finds 9 = .ok (.ifCond .eq 24, 3) := by decide +kernel
theorem dX12_finds_12 : decode cX12_finds 12 = .ok (.aload_n 0, 1) := by decide +kernel
theorem dX12_finds_13 : decode cX12_finds 13 = .ok (.aload_n 0, 1) := by decide +kernel
theorem dX12_finds_14 : decode cX12_finds 14 = .ok (.getfield 57, 3) := by decide +kernel
theorem dX12_finds_17 : decode cX12_finds 17 = .ok (.iload_n 1, 1) := by decide +kernel
theorem dX12_finds_18 : decode cX12_finds 18 = .ok (.iload_n 2, 1) := by decide +kernel
theorem dX12_finds_19 : decode cX12_finds 19 = .ok (.iload_n 3, 1) := by decide +kernel
theorem dX12_finds_20 : decode cX12_finds 20 = .ok (.iload 4, 2) := by decide +kernel
theorem dX12_finds_22 : decode cX12_finds 22 = .ok (.iconst 0, 1) := by decide +kernel
theorem dX12_finds_23 : decode cX12_finds 23 = .ok (.invokevirtual 361, 3) := by decide +kernel
theorem dX12_finds_26 : decode cX12_finds 26 = .ok (.ifCond .eq 7, 3) := by decide +kernel
theorem dX12_finds_29 : decode cX12_finds 29 = .ok (.iconst 1, 1) := by decide +kernel
theorem dX12_finds_30 : decode cX12_finds 30 = .ok (.goto 4, 3) := by decide +kernel
theorem dX12_finds_33 : decode cX12_finds 33 = .ok (.iconst 0, 1) := by decide +kernel
theorem dX12_finds_34 : decode cX12_finds 34 = .ok (.ireturn, 1) := by decide +kernel
set_option maxHeartbeats 4000000 in
set_option maxRecDepth 100000 in
theorem B_X12_finds_0 {d : Nat} {ro : Nat → Nat} {J : JT} {Z : Option Value → Hp → Prop} (g : xCtx RX12 cX12_finds 5 d 0 0 yX12_finds.name ro J) (hr : xRet cX12_finds (some .boolean) 0 0 Z J) {μ : Hp} {a0 : Nat} {x1 : Int32} {x2 : Int32} {x3 : Int32} {x4 : Int32} (hs_a0 : hS μ a0 = some (15, 65))
    (h : xCall d yX12_isAsked cX12_isAsked 5 (some .boolean) [.ref a0, .int x1, .int x2, .int x3, .int x4] μ ro (fun r1 μ2 => ∃ y3 : Int32, r1 = some (.int y3) ∧ ((y3 = 0 → Z (some (.int 0)) μ2) ∧ (¬ y3 = 0 → hS μ2 a0 = some (15, 65) ∧ ∃ now_5 : Nat, hR μ2 a0 30 = some now_5 ∧ xCall d yX12_searches cX12_searches 8 (some .boolean) [.ref a0, .ref now_5, .int x1, .int x2, .int x3, .int x4, .int 0] μ2 ro (fun r6 μ7 => ∃ y8 : Int32, r6 = some (.int y8) ∧ ((y8 = 0 → Z (some (.int 0)) μ7) ∧ (¬ y8 = 0 → Z (some (.int 1)) μ7))))))) :
    J μ 0 0 0 [(0, .ref a0), (1, .int x1), (2, .int x2), (3, .int x3), (4, .int x4)] [] := by
  refine r_aload_n g dX12_finds_0 rfl ?_
  refine r_iload_n g dX12_finds_1 rfl ?_
  refine r_iload_n g dX12_finds_2 rfl ?_
  refine r_iload_n g dX12_finds_3 rfl ?_
  refine r_iload g dX12_finds_4 rfl ?_
  obtain ⟨d1, Z1, hc1, hd1, h1⟩ := h
  refine r_callV (st := []) (As := [.int x1, .int x2, .int x3, .int x4]) g sX12_357 iX12_isAsked eX12_isAsked rfl hs_a0 rfl (Nat.le_of_ble_eq_true rfl) dX12_finds_6 hd1 (Nat.le_refl 0) (Nat.le_refl 0) hc1 (fun r1 μ2 hZ1 => ?_)
  replace h := h1 _ _ hZ1
  clear h1 hc1 hd1 hZ1 Z1 d1
  obtain ⟨y3, rfl, h⟩ := h
  refine r_if_eq g 33 dX12_finds_9 (by decide) (fun c4 => ?_) (fun c4 => ?_)
  · replace h := h.1 c4
    refine r_iconst g 0 dX12_finds_33 (by decide) ?_
    exact hr.2.1 _ rfl _ _ _ _ _ _ dX12_finds_34 (by decide) (Nat.le_refl 0) (Nat.le_refl 0) h
  · replace h := h.2 c4
    refine r_aload_n g dX12_finds_12 rfl ?_
    refine r_aload_n g dX12_finds_13 rfl ?_
    obtain ⟨hs_a0_, h⟩ := h
    obtain ⟨now_5, hr_now_5, h⟩ := h
    refine r_getR g fX12_57 rfl hs_a0_ hr_now_5 dX12_finds_14 ?_
    refine r_iload_n g dX12_finds_17 rfl ?_
    refine r_iload_n g dX12_finds_18 rfl ?_
    refine r_iload_n g dX12_finds_19 rfl ?_
    refine r_iload g dX12_finds_20 rfl ?_
    refine r_iconst g 0 dX12_finds_22 (by decide) ?_
    obtain ⟨d1, Z1, hc1, hd1, h1⟩ := h
    refine r_callV (st := []) (As := [.ref now_5, .int x1, .int x2, .int x3, .int x4, .int 0]) g sX12_361 iX12_searches eX12_searches rfl hs_a0_ rfl (Nat.le_of_ble_eq_true rfl) dX12_finds_23 hd1 (Nat.le_refl 0) (Nat.le_refl 0) hc1 (fun r6 μ7 hZ1 => ?_)
    replace h := h1 _ _ hZ1
    clear h1 hc1 hd1 hZ1 Z1 d1
    obtain ⟨y8, rfl, h⟩ := h
    refine r_if_eq g 33 dX12_finds_26 (by decide) (fun c9 => ?_) (fun c9 => ?_)
    · replace h := h.1 c9
      refine r_iconst g 0 dX12_finds_33 (by decide) ?_
      exact hr.2.1 _ rfl _ _ _ _ _ _ dX12_finds_34 (by decide) (Nat.le_refl 0) (Nat.le_refl 0) h
    · replace h := h.2 c9
      refine r_iconst g 1 dX12_finds_29 (by decide) ?_
      refine r_goto g 34 dX12_finds_30 (by decide) ?_
      exact hr.2.1 _ rfl _ _ _ _ _ _ dX12_finds_34 (by decide) (Nat.le_refl 0) (Nat.le_refl 0) h
theorem I_X12_finds {d : Nat} {ro : Nat → Nat} {Z : Option Value → Hp → Prop} {μ : Hp} {a0 : Nat} {x1 : Int32} {x2 : Int32} {x3 : Int32} {x4 : Int32} (h : ∀ J, xCtx RX12 cX12_finds 5 d 0 0 yX12_finds.name ro J → xRet cX12_finds (some .boolean) 0 0 Z J → J μ 0 0 0 [(0, .ref a0), (1, .int x1), (2, .int x2), (3, .int x3), (4, .int x4)] []) : xC d yX12_finds cX12_finds 5 (some .boolean) 0 0 [.ref a0, .int x1, .int x2, .int x3, .int x4] μ ro Z :=
  xC_intro (own := RX12) (lv := [(0, .ref a0), (1, .int x1), (2, .int x2), (3, .int x3), (4, .int x4)]) (by decide) rfl (Nat.le_of_ble_eq_true rfl) rfl (fun J g hr => r_sub g (lv' := [(0, .ref a0), (1, .int x1), (2, .int x2), (3, .int x3), (4, .int x4)]) (⟨rfl, rfl, rfl, rfl, rfl, trivial⟩) (h J g hr))
theorem dX12_stops_0 : decode cX12_stops 0 = .ok (.aload_n 0, 1) := by decide +kernel
theorem dX12_stops_1 : decode cX12_stops 1 = .ok (.getfield 245, 3) := by decide +kernel
theorem dX12_stops_4 : decode cX12_stops 4 = .ok (.ifCond .ne 5, 3) := by decide +kernel
theorem dX12_stops_7 : decode cX12_stops 7 = .ok (.iconst 0, 1) := by decide +kernel
theorem dX12_stops_8 : decode cX12_stops 8 = .ok (.ireturn, 1) := by decide +kernel
theorem dX12_stops_9 : decode cX12_stops 9 = .ok (.iload_n 2, 1) := by decide +kernel
theorem dX12_stops_10 : decode cX12_stops 10 = .ok (.tableswitch 134 0 3 #[30, 43, 77, 123], 30) := by decide +kernel
theorem dX12_stops_40 : decode cX12_stops 40 = .ok (.aload_n 0, 1) := by decide +kernel
theorem dX12_stops_41 : decode cX12_stops 41 = .ok (.aload_n 1, 1) := by decide +kernel
theorem dX12_stops_42 : decode cX12_stops 42 = .ok (.iload_n 3, 1) := by decide +kernel
theorem dX12_stops_43 : decode cX12_stops 43 = .ok (.iload 4, 2) := by decide +kernel
theorem dX12_stops_45 : decode cX12_stops 45 = .ok (.iload 5, 2) := by decide +kernel
theorem dX12_stops_47 : decode cX12_stops 47 = .ok (.iload 6, 2) := by decide +kernel
theorem dX12_stops_49 : decode cX12_stops 49 = .ok (.invokevirtual 365, 3) := by decide +kernel
theorem dX12_stops_52 : decode cX12_stops 52 = .ok (.ireturn, 1) := by decide +kernel
theorem dX12_stops_53 : decode cX12_stops 53 = .ok (.iload_n 3, 1) := by decide +kernel
theorem dX12_stops_54 : decode cX12_stops 54 = .ok (.i2l, 1) := by decide +kernel
theorem dX12_stops_55 : decode cX12_stops 55 = .ok (.lconst 1, 1) := by decide +kernel
theorem dX12_stops_56 : decode cX12_stops 56 = .ok (.ldc2_w 369, 3) := by decide +kernel
theorem dX12_stops_59 : decode cX12_stops 59 = .ok (.invokestatic 161, 3) := by decide +kernel
theorem dX12_stops_62 : decode cX12_stops 62 = .ok (.ifCond .ne 7, 3) := by decide +kernel
theorem dX12_stops_65 : decode cX12_stops 65 = .ok (.iconst 1, 1) := by decide +kernel
theorem dX12_stops_66 : decode cX12_stops 66 = .ok (.goto 20, 3) := by decide +kernel
theorem dX12_stops_69 : decode cX12_stops 69 = .ok (.aload_n 1, 1) := by decide +kernel
theorem dX12_stops_70 : decode cX12_stops 70 = .ok (.bipush 30, 2) := by decide +kernel
theorem dX12_stops_72 : decode cX12_stops 72 = .ok (.iaload, 1) := by decide +kernel
theorem dX12_stops_73 : decode cX12_stops 73 = .ok (.iload_n 3, 1) := by decide +kernel
theorem dX12_stops_74 : decode cX12_stops 74 = .ok (.iadd, 1) := by decide +kernel
theorem dX12_stops_75 : decode cX12_stops 75 = .ok (.sipush 199, 3) := by decide +kernel
theorem dX12_stops_78 : decode cX12_stops 78 = .ok (.if_icmp .le 7, 3) := by decide +kernel
theorem dX12_stops_81 : decode cX12_stops 81 = .ok (.iconst 3, 1) := by decide +kernel
theorem dX12_stops_82 : decode cX12_stops 82 = .ok (.goto 4, 3) := by decide +kernel
theorem dX12_stops_85 : decode cX12_stops 85 = .ok (.iconst (-1), 1) := by decide +kernel
theorem dX12_stops_86 : decode cX12_stops 86 = .ok (.ireturn, 1) := by decide +kernel
theorem dX12_stops_87 : decode cX12_stops 87 = .ok (.aload_n 0, 1) := by decide +kernel
theorem dX12_stops_88 : decode cX12_stops 88 = .ok (.iload_n 3, 1) := by decide +kernel
theorem dX12_stops_89 : decode cX12_stops 89 = .ok (.invokevirtual 351, 3) := by decide +kernel
theorem dX12_stops_92 : decode cX12_stops 92 = .ok (.ifCond .ne 7, 3) := by decide +kernel
theorem dX12_stops_95 : decode cX12_stops 95 = .ok (.iconst 0, 1) := by decide +kernel
theorem dX12_stops_96 : decode cX12_stops 96 = .ok (.goto 36, 3) := by decide +kernel
theorem dX12_stops_99 : decode cX12_stops 99 = .ok (.iload 4, 2) := by decide +kernel
theorem dX12_stops_101 : decode cX12_stops 101 = .ok (.i2l, 1) := by decide +kernel
theorem dX12_stops_102 : decode cX12_stops 102 = .ok (.lconst 0, 1) := by decide +kernel
theorem dX12_stops_103 : decode cX12_stops 103 = .ok (.ldc2_w 371, 3) := by decide +kernel
theorem dX12_stops_106 : decode cX12_stops 106 = .ok (.invokestatic 161, 3) := by decide +kernel
theorem dX12_stops_109 : decode cX12_stops 109 = .ok (.ifCond .ne 7, 3) := by decide +kernel
theorem dX12_stops_112 : decode cX12_stops 112 = .ok (.iconst 1, 1) := by decide +kernel
theorem dX12_stops_113 : decode cX12_stops 113 = .ok (.goto 19, 3) := by decide +kernel
theorem dX12_stops_116 : decode cX12_stops 116 = .ok (.aload_n 1, 1) := by decide +kernel
theorem dX12_stops_117 : decode cX12_stops 117 = .ok (.bipush 8, 2) := by decide +kernel
theorem dX12_stops_119 : decode cX12_stops 119 = .ok (.iload_n 3, 1) := by decide +kernel
theorem dX12_stops_120 : decode cX12_stops 120 = .ok (.iadd, 1) := by decide +kernel
theorem dX12_stops_121 : decode cX12_stops 121 = .ok (.iaload, 1) := by decide +kernel
theorem dX12_stops_122 : decode cX12_stops 122 = .ok (.iload 4, 2) := by decide +kernel
theorem dX12_stops_124 : decode cX12_stops 124 = .ok (.if_icmp .ne 7, 3) := by decide +kernel
theorem dX12_stops_127 : decode cX12_stops 127 = .ok (.iconst 2, 1) := by decide +kernel
theorem dX12_stops_128 : decode cX12_stops 128 = .ok (.goto 4, 3) := by decide +kernel
theorem dX12_stops_131 : decode cX12_stops 131 = .ok (.iconst (-1), 1) := by decide +kernel
theorem dX12_stops_132 : decode cX12_stops 132 = .ok (.ireturn, 1) := by decide +kernel
theorem dX12_stops_133 : decode cX12_stops 133 = .ok (.aload_n 0, 1) := by decide +kernel
theorem dX12_stops_134 : decode cX12_stops 134 = .ok (.aload_n 1, 1) := by decide +kernel
theorem dX12_stops_135 : decode cX12_stops 135 = .ok (.iload_n 3, 1) := by decide +kernel
theorem dX12_stops_136 : decode cX12_stops 136 = .ok (.iload 4, 2) := by decide +kernel
theorem dX12_stops_138 : decode cX12_stops 138 = .ok (.iload 5, 2) := by decide +kernel
theorem dX12_stops_140 : decode cX12_stops 140 = .ok (.invokevirtual 373, 3) := by decide +kernel
theorem dX12_stops_143 : decode cX12_stops 143 = .ok (.ireturn, 1) := by decide +kernel
theorem dX12_stops_144 : decode cX12_stops 144 = .ok (.aload_n 0, 1) := by decide +kernel
theorem dX12_stops_145 : decode cX12_stops 145 = .ok (.iload_n 3, 1) := by decide +kernel
theorem dX12_stops_146 : decode cX12_stops 146 = .ok (.invokevirtual 351, 3) := by decide +kernel
theorem dX12_stops_149 : decode cX12_stops 149 = .ok (.ifCond .eq 12, 3) := by decide +kernel
theorem dX12_stops_152 : decode cX12_stops 152 = .ok (.aload_n 0, 1) := by decide +kernel
theorem dX12_stops_153 : decode cX12_stops 153 = .ok (.iload 4, 2) := by decide +kernel
theorem dX12_stops_155 : decode cX12_stops 155 = .ok (.invokevirtual 351, 3) := by decide +kernel
theorem dX12_stops_158 : decode cX12_stops 158 = .ok (.ifCond .ne 7, 3) := by decide +kernel
theorem dX12_stops_161 : decode cX12_stops 161 = .ok (.iconst 0, 1) := by decide +kernel
theorem dX12_stops_162 : decode cX12_stops 162 = .ok (.goto 39, 3) := by decide +kernel
theorem dX12_stops_165 : decode cX12_stops 165 = .ok (.iload_n 3, 1) := by decide +kernel
theorem dX12_stops_166 : decode cX12_stops 166 = .ok (.iload 4, 2) := by decide +kernel
theorem dX12_stops_168 : decode cX12_stops 168 = .ok (.if_icmp .ne 7, 3) := by decide +kernel
theorem dX12_stops_171 : decode cX12_stops 171 = .ok (.iconst 2, 1) := by decide +kernel
theorem dX12_stops_172 : decode cX12_stops 172 = .ok (.goto 29, 3) := by decide +kernel
theorem dX12_stops_175 : decode cX12_stops 175 = .ok (.aload_n 1, 1) := by decide +kernel
theorem dX12_stops_176 : decode cX12_stops 176 = .ok (.iconst 1, 1) := by decide +kernel
theorem dX12_stops_177 : decode cX12_stops 177 = .ok (.iload_n 3, 1) := by decide +kernel
theorem dX12_stops_178 : decode cX12_stops 178 = .ok (.iload 4, 2) := by decide +kernel
theorem dX12_stops_180 : decode cX12_stops 180 = .ok (.invokestatic 273, 3) := by decide +kernel
theorem dX12_stops_183 : decode cX12_stops 183 = .ok (.iconst (-1), 1) := by decide +kernel
theorem dX12_stops_184 : decode cX12_stops 184 = .ok (.if_icmp .ne 16, 3) := by decide +kernel
theorem dX12_stops_187 : decode cX12_stops 187 = .ok (.aload_n 1, 1) := by decide +kernel
theorem dX12_stops_188 : decode cX12_stops 188 = .ok (.bipush 31, 2) := by decide +kernel
theorem dX12_stops_190 : decode cX12_stops 190 = .ok (.iaload, 1) := by decide +kernel
theorem dX12_stops_191 : decode cX12_stops 191 = .ok (.bipush 16, 2) := by decide +kernel
theorem dX12_stops_193 : decode cX12_stops 193 = .ok (.if_icmp .ne 7, 3) := by decide +kernel
theorem dX12_stops_196 : decode cX12_stops 196 = .ok (.iconst 3, 1) := by decide +kernel
theorem dX12_stops_197 : decode cX12_stops 197 = .ok (.goto 4, 3) := by decide +kernel
theorem dX12_stops_200 : decode cX12_stops 200 = .ok (.iconst (-1), 1) := by decide +kernel
theorem dX12_stops_201 : decode cX12_stops 201 = .ok (.ireturn, 1) := by decide +kernel
set_option maxHeartbeats 4000000 in
set_option maxRecDepth 100000 in
theorem B_X12_stops_0 {d : Nat} {ro : Nat → Nat} {J : JT} {Z : Option Value → Hp → Prop} (g : xCtx RX12 cX12_stops 7 d 0 0 yX12_stops.name ro J) (hr : xRet cX12_stops (some .int) 0 0 Z J) {μ : Hp} {a0 : Nat} {a1 : Nat} {x2 : Int32} {x3 : Int32} {x4 : Int32} {x5 : Int32} {x6 : Int32} {N_a1 : Nat} (hs_a0 : hS μ a0 = some (15, 65)) (hs_a1_ : hS μ a1 = some (0, N_a1)) (hd9 : 1 ≤ d)
    (h : ((¬ (hI μ a0 22) = 0 → (((x2).toInt < 0 ∨ 3 < (x2).toInt → ((x3 < 0 → Z (some (.int 0)) μ) ∧ (¬ x3 < 0 → (((hI μ a0 22) ≤ x3 → Z (some (.int 0)) μ) ∧ (¬ (hI μ a0 22) ≤ x3 → ((x4 < 0 → Z (some (.int 0)) μ) ∧ (¬ x4 < 0 → (((hI μ a0 22) ≤ x4 → Z (some (.int 0)) μ) ∧ (¬ (hI μ a0 22) ≤ x4 → ((¬ x3 = x4 → xCall d yX12_linkOf cX12_linkOf 5 (some .int) [.ref a1, .int 1, .int x3, .int x4] μ ro (fun r20 μ21 => ∃ y22 : Int32, r20 = some (.int y22) ∧ ((¬ y22 = (-1) → Z (some (.int (-1))) μ21) ∧ (y22 = (-1) → ∃ N24 : Nat, hS μ21 a1 = some (0, N24) ∧ vp_in 31 N24 ∧ ((¬ (hI μ21 a1 31) = 16 → Z (some (.int (-1))) μ21) ∧ ((hI μ21 a1 31) = 16 → Z (some (.int 3)) μ21)))))) ∧ (x3 = x4 → Z (some (.int 2)) μ))))))))))) ∧ (x2 = 0 → xCall d yX12_stopsPaying cX12_stopsPaying 6 (some .int) [.ref a0, .ref a1, .int x3, .int x4, .int x5, .int x6] μ ro (fun r27 μ28 => ∃ y29 : Int32, r27 = some (.int y29) ∧ Z (some (.int y29)) μ28)) ∧ (x2 = 1 → ((x3 < 1 → Z (some (.int 1)) μ) ∧ (¬ x3 < 1 → ((20 < x3 → Z (some (.int 1)) μ) ∧ (¬ 20 < x3 → vp_in 30 N_a1 ∧ ((((hI μ a1 30) + x3) ≤ 199 → Z (some (.int (-1))) μ) ∧ (¬ ((hI μ a1 30) + x3) ≤ 199 → Z (some (.int 3)) μ))))))) ∧ (x2 = 2 → ((x3 < 0 → Z (some (.int 0)) μ) ∧ (¬ x3 < 0 → (((hI μ a0 22) ≤ x3 → Z (some (.int 0)) μ) ∧ (¬ (hI μ a0 22) ≤ x3 → ((x4 < 0 → Z (some (.int 1)) μ) ∧ (¬ x4 < 0 → ((99 < x4 → Z (some (.int 1)) μ) ∧ (¬ 99 < x4 → vp_in (8 + x3) N_a1 ∧ ((¬ (hI μ a1 ((8 + x3).toNatClampNeg)) = x4 → Z (some (.int (-1))) μ) ∧ ((hI μ a1 ((8 + x3).toNatClampNeg)) = x4 → Z (some (.int 2)) μ))))))))))) ∧ (x2 = 3 → xCall d yX12_stopsOwning cX12_stopsOwning 7 (some .int) [.ref a0, .ref a1, .int x3, .int x4, .int x5] μ ro (fun r58 μ59 => ∃ y60 : Int32, r58 = some (.int y60) ∧ Z (some (.int y60)) μ59)))) ∧ ((hI μ a0 22) = 0 → Z (some (.int 0)) μ))) :
    J μ 0 0 0 [(0, .ref a0), (1, .ref a1), (2, .int x2), (3, .int x3), (4, .int x4), (5, .int x5), (6, .int x6)] [] := by
  refine r_aload_n g dX12_stops_0 rfl ?_
  refine r_getI g fX12_245 rfl hs_a0 dX12_stops_1 ?_
  refine r_if_ne g 9 dX12_stops_4 (by decide) (fun c1 => ?_) (fun c1 => ?_)
  · replace h := h.1 c1
    refine r_iload_n g dX12_stops_9 rfl ?_
    rcases sw_cases (x := x2) 0 3 (by decide) (by decide) with c2 | ⟨z, hz1, hz2, c2⟩
    · refine r_tableOut g 144 dX12_stops_10 c2 (by decide) ?_
      replace h := h.1 c2
      refine r_aload_n g dX12_stops_144 rfl ?_
      refine r_iload_n g dX12_stops_145 rfl ?_
      by_cases c3 : x3 < 0
      · replace h := h.1 c3
        refine r_callV (st := []) (As := [.int x3]) g sX12_351 iX12_isFirm eX12_isFirm rfl hs_a0 rfl (Nat.le_of_ble_eq_true rfl) dX12_stops_146 (by omega) (Nat.le_refl 0) (Nat.le_refl 0) (P_X12_isFirm_0 (d := d - 1) hs_a0 c3) (fun r4 μ5 hZ1 => ?_)
        obtain ⟨rfl, e9⟩ := hZ1
        replace e9 := e9.symm
        subst e9
        refine r_if_eq g 161 dX12_stops_149 (by decide) (fun _ => ?_) (fun hz => absurd hz (by decide))
        refine r_iconst g 0 dX12_stops_161 (by decide) ?_
        refine r_goto g 201 dX12_stops_162 (by decide) ?_
        exact hr.2.1 _ rfl _ _ _ _ _ _ dX12_stops_201 rfl (Nat.le_refl 0) (Nat.le_refl 0) h
      · replace h := h.2 c3
        by_cases c6 : (hI μ a0 22) ≤ x3
        · replace h := h.1 c6
          refine r_callV (st := []) (As := [.int x3]) g sX12_351 iX12_isFirm eX12_isFirm rfl hs_a0 rfl (Nat.le_of_ble_eq_true rfl) dX12_stops_146 (by omega) (Nat.le_refl 0) (Nat.le_refl 0) (P_X12_isFirm_1 (d := d - 1) hs_a0 c3 c6) (fun r7 μ8 hZ1 => ?_)
          obtain ⟨rfl, e9⟩ := hZ1
          replace e9 := e9.symm
          subst e9
          refine r_if_eq g 161 dX12_stops_149 (by decide) (fun _ => ?_) (fun hz => absurd hz (by decide))
          refine r_iconst g 0 dX12_stops_161 (by decide) ?_
          refine r_goto g 201 dX12_stops_162 (by decide) ?_
          exact hr.2.1 _ rfl _ _ _ _ _ _ dX12_stops_201 rfl (Nat.le_refl 0) (Nat.le_refl 0) h
        · replace h := h.2 c6
          refine r_callV (st := []) (As := [.int x3]) g sX12_351 iX12_isFirm eX12_isFirm rfl hs_a0 rfl (Nat.le_of_ble_eq_true rfl) dX12_stops_146 (by omega) (Nat.le_refl 0) (Nat.le_refl 0) (P_X12_isFirm_2 (d := d - 1) hs_a0 c3 c6) (fun r9 μ10 hZ1 => ?_)
          obtain ⟨rfl, e9⟩ := hZ1
          replace e9 := e9.symm
          subst e9
          refine r_if_eq g 161 dX12_stops_149 (by decide) (fun hz => absurd hz (by decide)) (fun _ => ?_)
          refine r_aload_n g dX12_stops_152 rfl ?_
          refine r_iload g dX12_stops_153 rfl ?_
          by_cases c11 : x4 < 0
          · replace h := h.1 c11
            refine r_callV (st := []) (As := [.int x4]) g sX12_351 iX12_isFirm eX12_isFirm rfl hs_a0 rfl (Nat.le_of_ble_eq_true rfl) dX12_stops_155 (by omega) (Nat.le_refl 0) (Nat.le_refl 0) (P_X12_isFirm_0 (d := d - 1) hs_a0 c11) (fun r12 μ13 hZ1 => ?_)
            obtain ⟨rfl, e9⟩ := hZ1
            replace e9 := e9.symm
            subst e9
            refine r_if_ne g 165 dX12_stops_158 (by decide) (fun hz => absurd hz (by decide)) (fun _ => ?_)
            refine r_iconst g 0 dX12_stops_161 (by decide) ?_
            refine r_goto g 201 dX12_stops_162 (by decide) ?_
            exact hr.2.1 _ rfl _ _ _ _ _ _ dX12_stops_201 rfl (Nat.le_refl 0) (Nat.le_refl 0) h
          · replace h := h.2 c11
            by_cases c14 : (hI μ a0 22) ≤ x4
            · replace h := h.1 c14
              refine r_callV (st := []) (As := [.int x4]) g sX12_351 iX12_isFirm eX12_isFirm rfl hs_a0 rfl (Nat.le_of_ble_eq_true rfl) dX12_stops_155 (by omega) (Nat.le_refl 0) (Nat.le_refl 0) (P_X12_isFirm_1 (d := d - 1) hs_a0 c11 c14) (fun r15 μ16 hZ1 => ?_)
              obtain ⟨rfl, e9⟩ := hZ1
              replace e9 := e9.symm
              subst e9
              refine r_if_ne g 165 dX12_stops_158 (by decide) (fun hz => absurd hz (by decide)) (fun _ => ?_)
              refine r_iconst g 0 dX12_stops_161 (by decide) ?_
              refine r_goto g 201 dX12_stops_162 (by decide) ?_
              exact hr.2.1 _ rfl _ _ _ _ _ _ dX12_stops_201 rfl (Nat.le_refl 0) (Nat.le_refl 0) h
            · replace h := h.2 c14
              refine r_callV (st := []) (As := [.int x4]) g sX12_351 iX12_isFirm eX12_isFirm rfl hs_a0 rfl (Nat.le_of_ble_eq_true rfl) dX12_stops_155 (by omega) (Nat.le_refl 0) (Nat.le_refl 0) (P_X12_isFirm_2 (d := d - 1) hs_a0 c11 c14) (fun r17 μ18 hZ1 => ?_)
              obtain ⟨rfl, e9⟩ := hZ1
              replace e9 := e9.symm
              subst e9
              refine r_if_ne g 165 dX12_stops_158 (by decide) (fun _ => ?_) (fun hz => absurd hz (by decide))
              refine r_iload_n g dX12_stops_165 rfl ?_
              refine r_iload g dX12_stops_166 rfl ?_
              refine r_icmp_ne g 175 dX12_stops_168 (by decide) (fun c19 => ?_) (fun c19 => ?_)
              · replace h := h.1 c19
                refine r_aload_n g dX12_stops_175 rfl ?_
                refine r_iconst g 1 dX12_stops_176 (by decide) ?_
                refine r_iload_n g dX12_stops_177 rfl ?_
                refine r_iload g dX12_stops_178 rfl ?_
                obtain ⟨d1, Z1, hc1, hd1, h1⟩ := h
                refine r_callS (st := []) (As := [.ref a1, .int 1, .int x3, .int x4]) g sX12_273 iX12_linkOf rfl (Nat.le_of_ble_eq_true rfl) dX12_stops_180 hd1 (Nat.le_refl 0) (Nat.le_refl 0) hc1 (fun r20 μ21 hZ1 => ?_)
                replace h := h1 _ _ hZ1
                clear h1 hc1 hd1 hZ1 Z1 d1
                obtain ⟨y22, rfl, h⟩ := h
                refine r_iconst g (-1) dX12_stops_183 (by decide) ?_
                refine r_icmp_ne g 200 dX12_stops_184 (by decide) (fun c23 => ?_) (fun c23 => ?_)
                · replace h := h.1 c23
                  refine r_iconst g (-1) dX12_stops_200 (by decide) ?_
                  exact hr.2.1 _ rfl _ _ _ _ _ _ dX12_stops_201 rfl (Nat.le_refl 0) (Nat.le_refl 0) h
                · replace h := h.2 c23
                  refine r_aload_n g dX12_stops_187 rfl ?_
                  refine r_bipush g 31 dX12_stops_188 (by decide) ?_
                  obtain ⟨N24, hs_a1, h⟩ := h
                  obtain ⟨hi25, h⟩ := h
                  refine r_iaload g hs_a1 hi25 dX12_stops_190 ?_
                  refine r_bipush g 16 dX12_stops_191 (by decide) ?_
                  refine r_icmp_ne g 200 dX12_stops_193 (by decide) (fun c26 => ?_) (fun c26 => ?_)
                  · replace h := h.1 c26
                    refine r_iconst g (-1) dX12_stops_200 (by decide) ?_
                    exact hr.2.1 _ rfl _ _ _ _ _ _ dX12_stops_201 rfl (Nat.le_refl 0) (Nat.le_refl 0) h
                  · replace h := h.2 c26
                    refine r_iconst g 3 dX12_stops_196 (by decide) ?_
                    refine r_goto g 201 dX12_stops_197 (by decide) ?_
                    exact hr.2.1 _ rfl _ _ _ _ _ _ dX12_stops_201 rfl (Nat.le_refl 0) (Nat.le_refl 0) h
              · replace h := h.2 c19
                refine r_iconst g 2 dX12_stops_171 (by decide) ?_
                refine r_goto g 201 dX12_stops_172 (by decide) ?_
                exact hr.2.1 _ rfl _ _ _ _ _ _ dX12_stops_201 rfl (Nat.le_refl 0) (Nat.le_refl 0) h
    · have hz : z = 0 ∨ z = 1 ∨ z = 2 ∨ z = 3 := by omega
      rcases hz with rfl | rfl | rfl | rfl
      · refine r_tableIn g 40 dX12_stops_10 (by rw [c2]; decide) (by rw [c2]; decide) (off := 30) (by rw [c2]; decide) (by decide) ?_
        replace h := h.2.1 c2
        refine r_aload_n g dX12_stops_40 rfl ?_
        refine r_aload_n g dX12_stops_41 rfl ?_
        refine r_iload_n g dX12_stops_42 rfl ?_
        refine r_iload g dX12_stops_43 rfl ?_
        refine r_iload g dX12_stops_45 rfl ?_
        refine r_iload g dX12_stops_47 rfl ?_
        obtain ⟨d1, Z1, hc1, hd1, h1⟩ := h
        refine r_callV (st := []) (As := [.ref a1, .int x3, .int x4, .int x5, .int x6]) g sX12_365 iX12_stopsPaying eX12_stopsPaying rfl hs_a0 rfl (Nat.le_of_ble_eq_true rfl) dX12_stops_49 hd1 (Nat.le_refl 0) (Nat.le_refl 0) hc1 (fun r27 μ28 hZ1 => ?_)
        replace h := h1 _ _ hZ1
        clear h1 hc1 hd1 hZ1 Z1 d1
        obtain ⟨y29, rfl, h⟩ := h
        exact hr.2.1 _ rfl _ _ _ _ _ _ dX12_stops_52 rfl (Nat.le_refl 0) (Nat.le_refl 0) h
      · refine r_tableIn g 53 dX12_stops_10 (by rw [c2]; decide) (by rw [c2]; decide) (off := 43) (by rw [c2]; decide) (by decide) ?_
        replace h := h.2.2.1 c2
        refine r_iload_n g dX12_stops_53 rfl ?_
        refine r_i2l g dX12_stops_54 ?_
        refine r_lconst g 1 dX12_stops_55 (by decide) ?_
        refine r_ldc2 g 20 kX12_369 dX12_stops_56 ?_
        by_cases c30 : x3 < 1
        · replace h := h.1 c30
          refine r_callS (st := []) (As := [.long x3.toInt64, .long 1, .long 20]) g sX12_161 iX12_isIn rfl (Nat.le_of_ble_eq_true rfl) dX12_stops_59 (by omega) (Nat.le_refl 0) (Nat.le_refl 0) (Q_isIn_0 (d := d - 1) (x := x3) (a := 1) (b := 20) rfl (by decide) (by decide) c30) (fun r31 μ32 hZ1 => ?_)
          obtain ⟨rfl, e9⟩ := hZ1
          replace e9 := e9.symm
          subst e9
          refine r_if_ne g 69 dX12_stops_62 (by decide) (fun hz => absurd hz (by decide)) (fun _ => ?_)
          refine r_iconst g 1 dX12_stops_65 (by decide) ?_
          refine r_goto g 86 dX12_stops_66 (by decide) ?_
          exact hr.2.1 _ rfl _ _ _ _ _ _ dX12_stops_86 rfl (Nat.le_refl 0) (Nat.le_refl 0) h
        · replace h := h.2 c30
          by_cases c33 : 20 < x3
          · replace h := h.1 c33
            refine r_callS (st := []) (As := [.long x3.toInt64, .long 1, .long 20]) g sX12_161 iX12_isIn rfl (Nat.le_of_ble_eq_true rfl) dX12_stops_59 (by omega) (Nat.le_refl 0) (Nat.le_refl 0) (Q_isIn_1 (d := d - 1) (x := x3) (a := 1) (b := 20) rfl (by decide) (by decide) c30 c33) (fun r34 μ35 hZ1 => ?_)
            obtain ⟨rfl, e9⟩ := hZ1
            replace e9 := e9.symm
            subst e9
            refine r_if_ne g 69 dX12_stops_62 (by decide) (fun hz => absurd hz (by decide)) (fun _ => ?_)
            refine r_iconst g 1 dX12_stops_65 (by decide) ?_
            refine r_goto g 86 dX12_stops_66 (by decide) ?_
            exact hr.2.1 _ rfl _ _ _ _ _ _ dX12_stops_86 rfl (Nat.le_refl 0) (Nat.le_refl 0) h
          · replace h := h.2 c33
            refine r_callS (st := []) (As := [.long x3.toInt64, .long 1, .long 20]) g sX12_161 iX12_isIn rfl (Nat.le_of_ble_eq_true rfl) dX12_stops_59 (by omega) (Nat.le_refl 0) (Nat.le_refl 0) (Q_isIn_2 (d := d - 1) (x := x3) (a := 1) (b := 20) rfl (by decide) (by decide) c30 c33) (fun r36 μ37 hZ1 => ?_)
            obtain ⟨rfl, e9⟩ := hZ1
            replace e9 := e9.symm
            subst e9
            refine r_if_ne g 69 dX12_stops_62 (by decide) (fun _ => ?_) (fun hz => absurd hz (by decide))
            refine r_aload_n g dX12_stops_69 rfl ?_
            refine r_bipush g 30 dX12_stops_70 (by decide) ?_
            obtain ⟨hi38, h⟩ := h
            refine r_iaload g hs_a1_ hi38 dX12_stops_72 ?_
            refine r_iload_n g dX12_stops_73 rfl ?_
            refine r_iadd g dX12_stops_74 ?_
            refine r_sipush g 199 dX12_stops_75 (by decide) ?_
            refine r_icmp_le g 85 dX12_stops_78 (by decide) (fun c39 => ?_) (fun c39 => ?_)
            · replace h := h.1 c39
              refine r_iconst g (-1) dX12_stops_85 (by decide) ?_
              exact hr.2.1 _ rfl _ _ _ _ _ _ dX12_stops_86 rfl (Nat.le_refl 0) (Nat.le_refl 0) h
            · replace h := h.2 c39
              refine r_iconst g 3 dX12_stops_81 (by decide) ?_
              refine r_goto g 86 dX12_stops_82 (by decide) ?_
              exact hr.2.1 _ rfl _ _ _ _ _ _ dX12_stops_86 rfl (Nat.le_refl 0) (Nat.le_refl 0) h
      · refine r_tableIn g 87 dX12_stops_10 (by rw [c2]; decide) (by rw [c2]; decide) (off := 77) (by rw [c2]; decide) (by decide) ?_
        replace h := h.2.2.2.1 c2
        refine r_aload_n g dX12_stops_87 rfl ?_
        refine r_iload_n g dX12_stops_88 rfl ?_
        by_cases c40 : x3 < 0
        · replace h := h.1 c40
          refine r_callV (st := []) (As := [.int x3]) g sX12_351 iX12_isFirm eX12_isFirm rfl hs_a0 rfl (Nat.le_of_ble_eq_true rfl) dX12_stops_89 (by omega) (Nat.le_refl 0) (Nat.le_refl 0) (P_X12_isFirm_0 (d := d - 1) hs_a0 c40) (fun r41 μ42 hZ1 => ?_)
          obtain ⟨rfl, e9⟩ := hZ1
          replace e9 := e9.symm
          subst e9
          refine r_if_ne g 99 dX12_stops_92 (by decide) (fun hz => absurd hz (by decide)) (fun _ => ?_)
          refine r_iconst g 0 dX12_stops_95 (by decide) ?_
          refine r_goto g 132 dX12_stops_96 (by decide) ?_
          exact hr.2.1 _ rfl _ _ _ _ _ _ dX12_stops_132 rfl (Nat.le_refl 0) (Nat.le_refl 0) h
        · replace h := h.2 c40
          by_cases c43 : (hI μ a0 22) ≤ x3
          · replace h := h.1 c43
            refine r_callV (st := []) (As := [.int x3]) g sX12_351 iX12_isFirm eX12_isFirm rfl hs_a0 rfl (Nat.le_of_ble_eq_true rfl) dX12_stops_89 (by omega) (Nat.le_refl 0) (Nat.le_refl 0) (P_X12_isFirm_1 (d := d - 1) hs_a0 c40 c43) (fun r44 μ45 hZ1 => ?_)
            obtain ⟨rfl, e9⟩ := hZ1
            replace e9 := e9.symm
            subst e9
            refine r_if_ne g 99 dX12_stops_92 (by decide) (fun hz => absurd hz (by decide)) (fun _ => ?_)
            refine r_iconst g 0 dX12_stops_95 (by decide) ?_
            refine r_goto g 132 dX12_stops_96 (by decide) ?_
            exact hr.2.1 _ rfl _ _ _ _ _ _ dX12_stops_132 rfl (Nat.le_refl 0) (Nat.le_refl 0) h
          · replace h := h.2 c43
            refine r_callV (st := []) (As := [.int x3]) g sX12_351 iX12_isFirm eX12_isFirm rfl hs_a0 rfl (Nat.le_of_ble_eq_true rfl) dX12_stops_89 (by omega) (Nat.le_refl 0) (Nat.le_refl 0) (P_X12_isFirm_2 (d := d - 1) hs_a0 c40 c43) (fun r46 μ47 hZ1 => ?_)
            obtain ⟨rfl, e9⟩ := hZ1
            replace e9 := e9.symm
            subst e9
            refine r_if_ne g 99 dX12_stops_92 (by decide) (fun _ => ?_) (fun hz => absurd hz (by decide))
            refine r_iload g dX12_stops_99 rfl ?_
            refine r_i2l g dX12_stops_101 ?_
            refine r_lconst g 0 dX12_stops_102 (by decide) ?_
            refine r_ldc2 g 99 kX12_371 dX12_stops_103 ?_
            by_cases c48 : x4 < 0
            · replace h := h.1 c48
              refine r_callS (st := []) (As := [.long x4.toInt64, .long 0, .long 99]) g sX12_161 iX12_isIn rfl (Nat.le_of_ble_eq_true rfl) dX12_stops_106 (by omega) (Nat.le_refl 0) (Nat.le_refl 0) (Q_isIn_0 (d := d - 1) (x := x4) (a := 0) (b := 99) rfl (by decide) (by decide) c48) (fun r49 μ50 hZ1 => ?_)
              obtain ⟨rfl, e9⟩ := hZ1
              replace e9 := e9.symm
              subst e9
              refine r_if_ne g 116 dX12_stops_109 (by decide) (fun hz => absurd hz (by decide)) (fun _ => ?_)
              refine r_iconst g 1 dX12_stops_112 (by decide) ?_
              refine r_goto g 132 dX12_stops_113 (by decide) ?_
              exact hr.2.1 _ rfl _ _ _ _ _ _ dX12_stops_132 rfl (Nat.le_refl 0) (Nat.le_refl 0) h
            · replace h := h.2 c48
              by_cases c51 : 99 < x4
              · replace h := h.1 c51
                refine r_callS (st := []) (As := [.long x4.toInt64, .long 0, .long 99]) g sX12_161 iX12_isIn rfl (Nat.le_of_ble_eq_true rfl) dX12_stops_106 (by omega) (Nat.le_refl 0) (Nat.le_refl 0) (Q_isIn_1 (d := d - 1) (x := x4) (a := 0) (b := 99) rfl (by decide) (by decide) c48 c51) (fun r52 μ53 hZ1 => ?_)
                obtain ⟨rfl, e9⟩ := hZ1
                replace e9 := e9.symm
                subst e9
                refine r_if_ne g 116 dX12_stops_109 (by decide) (fun hz => absurd hz (by decide)) (fun _ => ?_)
                refine r_iconst g 1 dX12_stops_112 (by decide) ?_
                refine r_goto g 132 dX12_stops_113 (by decide) ?_
                exact hr.2.1 _ rfl _ _ _ _ _ _ dX12_stops_132 rfl (Nat.le_refl 0) (Nat.le_refl 0) h
              · replace h := h.2 c51
                refine r_callS (st := []) (As := [.long x4.toInt64, .long 0, .long 99]) g sX12_161 iX12_isIn rfl (Nat.le_of_ble_eq_true rfl) dX12_stops_106 (by omega) (Nat.le_refl 0) (Nat.le_refl 0) (Q_isIn_2 (d := d - 1) (x := x4) (a := 0) (b := 99) rfl (by decide) (by decide) c48 c51) (fun r54 μ55 hZ1 => ?_)
                obtain ⟨rfl, e9⟩ := hZ1
                replace e9 := e9.symm
                subst e9
                refine r_if_ne g 116 dX12_stops_109 (by decide) (fun _ => ?_) (fun hz => absurd hz (by decide))
                refine r_aload_n g dX12_stops_116 rfl ?_
                refine r_bipush g 8 dX12_stops_117 (by decide) ?_
                refine r_iload_n g dX12_stops_119 rfl ?_
                refine r_iadd g dX12_stops_120 ?_
                obtain ⟨hi56, h⟩ := h
                refine r_iaload g hs_a1_ hi56 dX12_stops_121 ?_
                refine r_iload g dX12_stops_122 rfl ?_
                refine r_icmp_ne g 131 dX12_stops_124 (by decide) (fun c57 => ?_) (fun c57 => ?_)
                · replace h := h.1 c57
                  refine r_iconst g (-1) dX12_stops_131 (by decide) ?_
                  exact hr.2.1 _ rfl _ _ _ _ _ _ dX12_stops_132 rfl (Nat.le_refl 0) (Nat.le_refl 0) h
                · replace h := h.2 c57
                  refine r_iconst g 2 dX12_stops_127 (by decide) ?_
                  refine r_goto g 132 dX12_stops_128 (by decide) ?_
                  exact hr.2.1 _ rfl _ _ _ _ _ _ dX12_stops_132 rfl (Nat.le_refl 0) (Nat.le_refl 0) h
      · refine r_tableIn g 133 dX12_stops_10 (by rw [c2]; decide) (by rw [c2]; decide) (off := 123) (by rw [c2]; decide) (by decide) ?_
        replace h := h.2.2.2.2 c2
        refine r_aload_n g dX12_stops_133 rfl ?_
        refine r_aload_n g dX12_stops_134 rfl ?_
        refine r_iload_n g dX12_stops_135 rfl ?_
        refine r_iload g dX12_stops_136 rfl ?_
        refine r_iload g dX12_stops_138 rfl ?_
        obtain ⟨d1, Z1, hc1, hd1, h1⟩ := h
        refine r_callV (st := []) (As := [.ref a1, .int x3, .int x4, .int x5]) g sX12_373 iX12_stopsOwning eX12_stopsOwning rfl hs_a0 rfl (Nat.le_of_ble_eq_true rfl) dX12_stops_140 hd1 (Nat.le_refl 0) (Nat.le_refl 0) hc1 (fun r58 μ59 hZ1 => ?_)
        replace h := h1 _ _ hZ1
        clear h1 hc1 hd1 hZ1 Z1 d1
        obtain ⟨y60, rfl, h⟩ := h
        exact hr.2.1 _ rfl _ _ _ _ _ _ dX12_stops_143 rfl (Nat.le_refl 0) (Nat.le_refl 0) h
  · replace h := h.2 c1
    refine r_iconst g 0 dX12_stops_7 (by decide) ?_
    exact hr.2.1 _ rfl _ _ _ _ _ _ dX12_stops_8 rfl (Nat.le_refl 0) (Nat.le_refl 0) h
theorem I_X12_stops {d : Nat} {ro : Nat → Nat} {Z : Option Value → Hp → Prop} {μ : Hp} {a0 : Nat} {a1 : Nat} {x2 : Int32} {x3 : Int32} {x4 : Int32} {x5 : Int32} {x6 : Int32} (h : ∀ J, xCtx RX12 cX12_stops 7 d 0 0 yX12_stops.name ro J → xRet cX12_stops (some .int) 0 0 Z J → J μ 0 0 0 [(0, .ref a0), (1, .ref a1), (2, .int x2), (3, .int x3), (4, .int x4), (5, .int x5), (6, .int x6)] []) : xC d yX12_stops cX12_stops 7 (some .int) 0 0 [.ref a0, .ref a1, .int x2, .int x3, .int x4, .int x5, .int x6] μ ro Z :=
  xC_intro (own := RX12) (lv := [(0, .ref a0), (1, .ref a1), (2, .int x2), (3, .int x3), (4, .int x4), (5, .int x5), (6, .int x6)]) (by decide) rfl (Nat.le_of_ble_eq_true rfl) rfl (fun J g hr => r_sub g (lv' := [(0, .ref a0), (1, .ref a1), (2, .int x2), (3, .int x3), (4, .int x4), (5, .int x5), (6, .int x6)]) (⟨rfl, rfl, rfl, rfl, rfl, rfl, rfl, trivial⟩) (h J g hr))
theorem dX12_stopsPaying_0 : decode cX12_stopsPaying 0 = .ok (.aload_n 0, 1) := by decide +kernel
theorem dX12_stopsPaying_1 : decode cX12_stopsPaying 1 = .ok (.iload_n 3, 1) := by decide +kernel
theorem dX12_stopsPaying_2 : decode cX12_stopsPaying 2 = .ok (.invokevirtual 351, 3) := by decide +kernel
theorem dX12_stopsPaying_5 : decode cX12_stopsPaying 5 = .ok (.ifCond .eq 12, 3) := by decide +kernel
theorem dX12_stopsPaying_8 : decode cX12_stopsPaying 8 = .ok (.aload_n 0, 1) := by decide +kernel
theorem dX12_stopsPaying_9 : decode cX12_stopsPaying 9 = .ok (.iload 4, 2) := by decide +kernel
theorem dX12_stopsPaying_11 : decode cX12_stopsPaying 11 = .ok (.invokevirtual 351, 3) := by decide +kernel
theorem dX12_stopsPaying_14 : decode cX12_stopsPaying 14 = .ok (.ifCond .ne 5, 3) := by decide +kernel
theorem dX12_stopsPaying_17 : decode cX12_stopsPaying 17 = .ok (.iconst 0, 1) := by decide +kernel
theorem dX12_stopsPaying_18 : decode cX12_stopsPaying 18 = .ok (.ireturn, 1) := by decide +kernel
theorem dX12_stopsPaying_19 : decode cX12_stopsPaying 19 = .ok (.iload_n 2, 1) := by decide +kernel
theorem dX12_stopsPaying_20 : decode cX12_stopsPaying 20 = .ok (.i2l, 1) := by decide +kernel
theorem dX12_stopsPaying_21 : decode cX12_stopsPaying 21 = .ok (.lconst 0, 1) := by decide +kernel
theorem dX12_stopsPaying_22 : decode cX12_stopsPaying 22 = .ok (.lconst 1, 1) := by decide +kernel
theorem dX12_stopsPaying_23 : decode cX12_stopsPaying 23 = .ok (.invokestatic 161, 3) := by decide +kernel
theorem dX12_stopsPaying_26 : decode cX12_stopsPaying 26 = .ok (.ifCond .eq 16, 3) := by decide +kernel
theorem dX12_stopsPaying_29 : decode cX12_stopsPaying 29 = .ok (.iload 5, 2) := by decide +kernel
theorem dX12_stopsPaying_31 : decode cX12_stopsPaying 31 = .ok (.i2l, 1) := by decide +kernel
theorem dX12_stopsPaying_32 : decode cX12_stopsPaying 32 = .ok (.lconst 1, 1) := by decide +kernel
theorem dX12_stopsPaying_33 : decode cX12_stopsPaying 33 = .ok (.ldc2_w 355, 3) := by decide +kernel
theorem dX12_stopsPaying_36 : decode cX12_stopsPaying 36 = .ok (.invokestatic 161, 3) := by decide +kernel
theorem dX12_stopsPaying_39 : decode cX12_stopsPaying 39 = .ok (.ifCond .ne 5, 3) := by decide +kernel
theorem dX12_stopsPaying_42 : decode cX12_stopsPaying 42 = .ok (.iconst 1, 1) := by decide +kernel
theorem dX12_stopsPaying_43 : decode cX12_stopsPaying 43 = .ok (.ireturn, 1) := by decide +kernel
theorem dX12_stopsPaying_44 : decode cX12_stopsPaying 44 = .ok (.aload_n 0, 1) := by decide +kernel
theorem dX12_stopsPaying_45 : decode cX12_stopsPaying 45 = .ok (.aload_n 1, 1) := by decide +kernel
theorem dX12_stopsPaying_46 : decode cX12_stopsPaying 46 = .ok (.bipush 30, 2) := by decide +kernel
theorem dX12_stopsPaying_48 : decode cX12_stopsPaying 48 = .ok (.iaload, 1) := by decide +kernel
theorem dX12_stopsPaying_49 : decode cX12_stopsPaying 49 = .ok (.putfield 277, 3) := by decide +kernel
theorem dX12_stopsPaying_52 : decode cX12_stopsPaying 52 = .ok (.iload_n 3, 1) := by decide +kernel
theorem dX12_stopsPaying_53 : decode cX12_stopsPaying 53 = .ok (.iload 4, 2) := by decide +kernel
theorem dX12_stopsPaying_55 : decode cX12_stopsPaying 55 = .ok (.if_icmp .eq 18, 3) := by decide +kernel
theorem dX12_stopsPaying_58 : decode cX12_stopsPaying 58 = .ok (.aload_n 0, 1) := by decide +kernel
theorem dX12_stopsPaying_59 : decode cX12_stopsPaying 59 = .ok (.aload_n 1, 1) := by decide +kernel
theorem dX12_stopsPaying_60 : decode cX12_stopsPaying 60 = .ok (.iload_n 2, 1) := by decide +kernel
theorem dX12_stopsPaying_61 : decode cX12_stopsPaying 61 = .ok (.iload_n 3, 1) := by decide +kernel
theorem dX12_stopsPaying_62 : decode cX12_stopsPaying 62 = .ok (.iload 4, 2) := by decide +kernel
theorem dX12_stopsPaying_64 : decode cX12_stopsPaying 64 = .ok (.iload 5, 2) := by decide +kernel
theorem dX12_stopsPaying_66 : decode cX12_stopsPaying 66 = .ok (.iconst 0, 1) := by decide +kernel
theorem dX12_stopsPaying_67 : decode cX12_stopsPaying 67 = .ok (.invokevirtual 361, 3) := by decide +kernel
theorem dX12_stopsPaying_70 : decode cX12_stopsPaying 70 = .ok (.ifCond .ne 7, 3) := by decide +kernel
theorem dX12_stopsPaying_73 : decode cX12_stopsPaying 73 = .ok (.iconst 2, 1) := by decide +kernel
theorem dX12_stopsPaying_74 : decode cX12_stopsPaying 74 = .ok (.goto 4, 3) := by decide +kernel
theorem dX12_stopsPaying_77 : decode cX12_stopsPaying 77 = .ok (.iconst (-1), 1) := by decide +kernel
theorem dX12_stopsPaying_78 : decode cX12_stopsPaying 78 = .ok (.ireturn, 1) := by decide +kernel
set_option maxHeartbeats 4000000 in
set_option maxRecDepth 100000 in
theorem B_X12_stopsPaying_0 {d : Nat} {ro : Nat → Nat} {J : JT} {Z : Option Value → Hp → Prop} (g : xCtx RX12 cX12_stopsPaying 6 d 0 0 yX12_stopsPaying.name ro J) (hr : xRet cX12_stopsPaying (some .int) 0 0 Z J) {μ : Hp} {a0 : Nat} {a1 : Nat} {x2 : Int32} {x3 : Int32} {x4 : Int32} {x5 : Int32} {N_a1 : Nat} (hs_a0 : hS μ a0 = some (15, 65)) (hs_a1 : hS μ a1 = some (0, N_a1)) (hd9 : 1 ≤ d)
    (h : ((x3 < 0 → Z (some (.int 0)) μ) ∧ (¬ x3 < 0 → (((hI μ a0 22) ≤ x3 → Z (some (.int 0)) μ) ∧ (¬ (hI μ a0 22) ≤ x3 → ((x4 < 0 → Z (some (.int 0)) μ) ∧ (¬ x4 < 0 → (((hI μ a0 22) ≤ x4 → Z (some (.int 0)) μ) ∧ (¬ (hI μ a0 22) ≤ x4 → ((x2 < 0 → Z (some (.int 1)) μ) ∧ (¬ x2 < 0 → ((1 < x2 → Z (some (.int 1)) μ) ∧ (¬ 1 < x2 → ((x5 < 1 → Z (some (.int 1)) μ) ∧ (¬ x5 < 1 → ((1000000 < x5 → Z (some (.int 1)) μ) ∧ (¬ 1000000 < x5 → vp_in 30 N_a1 ∧ ((x3 = x4 → Z (some (.int 2)) (wI μ a0 37 (hI μ a1 30))) ∧ (¬ x3 = x4 → xCall d yX12_searches cX12_searches 8 (some .boolean) [.ref a0, .ref a1, .int x2, .int x3, .int x4, .int x5, .int 0] (wI μ a0 37 (hI μ a1 30)) ro (fun r35 μ36 => ∃ y37 : Int32, r35 = some (.int y37) ∧ ((¬ y37 = 0 → Z (some (.int (-1))) μ36) ∧ (y37 = 0 → Z (some (.int 2)) μ36)))))))))))))))))))))) :
    J μ 0 0 0 [(0, .ref a0), (1, .ref a1), (2, .int x2), (3, .int x3), (4, .int x4), (5, .int x5)] [] := by
  refine r_aload_n g dX12_stopsPaying_0 rfl ?_
  refine r_iload_n g dX12_stopsPaying_1 rfl ?_
  by_cases c1 : x3 < 0
  · replace h := h.1 c1
    refine r_callV (st := []) (As := [.int x3]) g sX12_351 iX12_isFirm eX12_isFirm rfl hs_a0 rfl (Nat.le_of_ble_eq_true rfl) dX12_stopsPaying_2 (by omega) (Nat.le_refl 0) (Nat.le_refl 0) (P_X12_isFirm_0 (d := d - 1) hs_a0 c1) (fun r2 μ3 hZ1 => ?_)
    obtain ⟨rfl, e9⟩ := hZ1
    replace e9 := e9.symm
    subst e9
    refine r_if_eq g 17 dX12_stopsPaying_5 (by decide) (fun _ => ?_) (fun hz => absurd hz (by decide))
    refine r_iconst g 0 dX12_stopsPaying_17 (by decide) ?_
    exact hr.2.1 _ rfl _ _ _ _ _ _ dX12_stopsPaying_18 rfl (Nat.le_refl 0) (Nat.le_refl 0) h
  · replace h := h.2 c1
    by_cases c4 : (hI μ a0 22) ≤ x3
    · replace h := h.1 c4
      refine r_callV (st := []) (As := [.int x3]) g sX12_351 iX12_isFirm eX12_isFirm rfl hs_a0 rfl (Nat.le_of_ble_eq_true rfl) dX12_stopsPaying_2 (by omega) (Nat.le_refl 0) (Nat.le_refl 0) (P_X12_isFirm_1 (d := d - 1) hs_a0 c1 c4) (fun r5 μ6 hZ1 => ?_)
      obtain ⟨rfl, e9⟩ := hZ1
      replace e9 := e9.symm
      subst e9
      refine r_if_eq g 17 dX12_stopsPaying_5 (by decide) (fun _ => ?_) (fun hz => absurd hz (by decide))
      refine r_iconst g 0 dX12_stopsPaying_17 (by decide) ?_
      exact hr.2.1 _ rfl _ _ _ _ _ _ dX12_stopsPaying_18 rfl (Nat.le_refl 0) (Nat.le_refl 0) h
    · replace h := h.2 c4
      refine r_callV (st := []) (As := [.int x3]) g sX12_351 iX12_isFirm eX12_isFirm rfl hs_a0 rfl (Nat.le_of_ble_eq_true rfl) dX12_stopsPaying_2 (by omega) (Nat.le_refl 0) (Nat.le_refl 0) (P_X12_isFirm_2 (d := d - 1) hs_a0 c1 c4) (fun r7 μ8 hZ1 => ?_)
      obtain ⟨rfl, e9⟩ := hZ1
      replace e9 := e9.symm
      subst e9
      refine r_if_eq g 17 dX12_stopsPaying_5 (by decide) (fun hz => absurd hz (by decide)) (fun _ => ?_)
      refine r_aload_n g dX12_stopsPaying_8 rfl ?_
      refine r_iload g dX12_stopsPaying_9 rfl ?_
      by_cases c9 : x4 < 0
      · replace h := h.1 c9
        refine r_callV (st := []) (As := [.int x4]) g sX12_351 iX12_isFirm eX12_isFirm rfl hs_a0 rfl (Nat.le_of_ble_eq_true rfl) dX12_stopsPaying_11 (by omega) (Nat.le_refl 0) (Nat.le_refl 0) (P_X12_isFirm_0 (d := d - 1) hs_a0 c9) (fun r10 μ11 hZ1 => ?_)
        obtain ⟨rfl, e9⟩ := hZ1
        replace e9 := e9.symm
        subst e9
        refine r_if_ne g 19 dX12_stopsPaying_14 (by decide) (fun hz => absurd hz (by decide)) (fun _ => ?_)
        refine r_iconst g 0 dX12_stopsPaying_17 (by decide) ?_
        exact hr.2.1 _ rfl _ _ _ _ _ _ dX12_stopsPaying_18 rfl (Nat.le_refl 0) (Nat.le_refl 0) h
      · replace h := h.2 c9
        by_cases c12 : (hI μ a0 22) ≤ x4
        · replace h := h.1 c12
          refine r_callV (st := []) (As := [.int x4]) g sX12_351 iX12_isFirm eX12_isFirm rfl hs_a0 rfl (Nat.le_of_ble_eq_true rfl) dX12_stopsPaying_11 (by omega) (Nat.le_refl 0) (Nat.le_refl 0) (P_X12_isFirm_1 (d := d - 1) hs_a0 c9 c12) (fun r13 μ14 hZ1 => ?_)
          obtain ⟨rfl, e9⟩ := hZ1
          replace e9 := e9.symm
          subst e9
          refine r_if_ne g 19 dX12_stopsPaying_14 (by decide) (fun hz => absurd hz (by decide)) (fun _ => ?_)
          refine r_iconst g 0 dX12_stopsPaying_17 (by decide) ?_
          exact hr.2.1 _ rfl _ _ _ _ _ _ dX12_stopsPaying_18 rfl (Nat.le_refl 0) (Nat.le_refl 0) h
        · replace h := h.2 c12
          refine r_callV (st := []) (As := [.int x4]) g sX12_351 iX12_isFirm eX12_isFirm rfl hs_a0 rfl (Nat.le_of_ble_eq_true rfl) dX12_stopsPaying_11 (by omega) (Nat.le_refl 0) (Nat.le_refl 0) (P_X12_isFirm_2 (d := d - 1) hs_a0 c9 c12) (fun r15 μ16 hZ1 => ?_)
          obtain ⟨rfl, e9⟩ := hZ1
          replace e9 := e9.symm
          subst e9
          refine r_if_ne g 19 dX12_stopsPaying_14 (by decide) (fun _ => ?_) (fun hz => absurd hz (by decide))
          refine r_iload_n g dX12_stopsPaying_19 rfl ?_
          refine r_i2l g dX12_stopsPaying_20 ?_
          refine r_lconst g 0 dX12_stopsPaying_21 (by decide) ?_
          refine r_lconst g 1 dX12_stopsPaying_22 (by decide) ?_
          by_cases c17 : x2 < 0
          · replace h := h.1 c17
            refine r_callS (st := []) (As := [.long x2.toInt64, .long 0, .long 1]) g sX12_161 iX12_isIn rfl (Nat.le_of_ble_eq_true rfl) dX12_stopsPaying_23 (by omega) (Nat.le_refl 0) (Nat.le_refl 0) (Q_isIn_0 (d := d - 1) (x := x2) (a := 0) (b := 1) rfl (by decide) (by decide) c17) (fun r18 μ19 hZ1 => ?_)
            obtain ⟨rfl, e9⟩ := hZ1
            replace e9 := e9.symm
            subst e9
            refine r_if_eq g 42 dX12_stopsPaying_26 (by decide) (fun _ => ?_) (fun hz => absurd hz (by decide))
            refine r_iconst g 1 dX12_stopsPaying_42 (by decide) ?_
            exact hr.2.1 _ rfl _ _ _ _ _ _ dX12_stopsPaying_43 rfl (Nat.le_refl 0) (Nat.le_refl 0) h
          · replace h := h.2 c17
            by_cases c20 : 1 < x2
            · replace h := h.1 c20
              refine r_callS (st := []) (As := [.long x2.toInt64, .long 0, .long 1]) g sX12_161 iX12_isIn rfl (Nat.le_of_ble_eq_true rfl) dX12_stopsPaying_23 (by omega) (Nat.le_refl 0) (Nat.le_refl 0) (Q_isIn_1 (d := d - 1) (x := x2) (a := 0) (b := 1) rfl (by decide) (by decide) c17 c20) (fun r21 μ22 hZ1 => ?_)
              obtain ⟨rfl, e9⟩ := hZ1
              replace e9 := e9.symm
              subst e9
              refine r_if_eq g 42 dX12_stopsPaying_26 (by decide) (fun _ => ?_) (fun hz => absurd hz (by decide))
              refine r_iconst g 1 dX12_stopsPaying_42 (by decide) ?_
              exact hr.2.1 _ rfl _ _ _ _ _ _ dX12_stopsPaying_43 rfl (Nat.le_refl 0) (Nat.le_refl 0) h
            · replace h := h.2 c20
              refine r_callS (st := []) (As := [.long x2.toInt64, .long 0, .long 1]) g sX12_161 iX12_isIn rfl (Nat.le_of_ble_eq_true rfl) dX12_stopsPaying_23 (by omega) (Nat.le_refl 0) (Nat.le_refl 0) (Q_isIn_2 (d := d - 1) (x := x2) (a := 0) (b := 1) rfl (by decide) (by decide) c17 c20) (fun r23 μ24 hZ1 => ?_)
              obtain ⟨rfl, e9⟩ := hZ1
              replace e9 := e9.symm
              subst e9
              refine r_if_eq g 42 dX12_stopsPaying_26 (by decide) (fun hz => absurd hz (by decide)) (fun _ => ?_)
              refine r_iload g dX12_stopsPaying_29 rfl ?_
              refine r_i2l g dX12_stopsPaying_31 ?_
              refine r_lconst g 1 dX12_stopsPaying_32 (by decide) ?_
              refine r_ldc2 g 1000000 kX12_355 dX12_stopsPaying_33 ?_
              by_cases c25 : x5 < 1
              · replace h := h.1 c25
                refine r_callS (st := []) (As := [.long x5.toInt64, .long 1, .long 1000000]) g sX12_161 iX12_isIn rfl (Nat.le_of_ble_eq_true rfl) dX12_stopsPaying_36 (by omega) (Nat.le_refl 0) (Nat.le_refl 0) (Q_isIn_0 (d := d - 1) (x := x5) (a := 1) (b := 1000000) rfl (by decide) (by decide) c25) (fun r26 μ27 hZ1 => ?_)
                obtain ⟨rfl, e9⟩ := hZ1
                replace e9 := e9.symm
                subst e9
                refine r_if_ne g 44 dX12_stopsPaying_39 (by decide) (fun hz => absurd hz (by decide)) (fun _ => ?_)
                refine r_iconst g 1 dX12_stopsPaying_42 (by decide) ?_
                exact hr.2.1 _ rfl _ _ _ _ _ _ dX12_stopsPaying_43 rfl (Nat.le_refl 0) (Nat.le_refl 0) h
              · replace h := h.2 c25
                by_cases c28 : 1000000 < x5
                · replace h := h.1 c28
                  refine r_callS (st := []) (As := [.long x5.toInt64, .long 1, .long 1000000]) g sX12_161 iX12_isIn rfl (Nat.le_of_ble_eq_true rfl) dX12_stopsPaying_36 (by omega) (Nat.le_refl 0) (Nat.le_refl 0) (Q_isIn_1 (d := d - 1) (x := x5) (a := 1) (b := 1000000) rfl (by decide) (by decide) c25 c28) (fun r29 μ30 hZ1 => ?_)
                  obtain ⟨rfl, e9⟩ := hZ1
                  replace e9 := e9.symm
                  subst e9
                  refine r_if_ne g 44 dX12_stopsPaying_39 (by decide) (fun hz => absurd hz (by decide)) (fun _ => ?_)
                  refine r_iconst g 1 dX12_stopsPaying_42 (by decide) ?_
                  exact hr.2.1 _ rfl _ _ _ _ _ _ dX12_stopsPaying_43 rfl (Nat.le_refl 0) (Nat.le_refl 0) h
                · replace h := h.2 c28
                  refine r_callS (st := []) (As := [.long x5.toInt64, .long 1, .long 1000000]) g sX12_161 iX12_isIn rfl (Nat.le_of_ble_eq_true rfl) dX12_stopsPaying_36 (by omega) (Nat.le_refl 0) (Nat.le_refl 0) (Q_isIn_2 (d := d - 1) (x := x5) (a := 1) (b := 1000000) rfl (by decide) (by decide) c25 c28) (fun r31 μ32 hZ1 => ?_)
                  obtain ⟨rfl, e9⟩ := hZ1
                  replace e9 := e9.symm
                  subst e9
                  refine r_if_ne g 44 dX12_stopsPaying_39 (by decide) (fun _ => ?_) (fun hz => absurd hz (by decide))
                  refine r_aload_n g dX12_stopsPaying_44 rfl ?_
                  refine r_aload_n g dX12_stopsPaying_45 rfl ?_
                  refine r_bipush g 30 dX12_stopsPaying_46 (by decide) ?_
                  obtain ⟨hi33, h⟩ := h
                  refine r_iaload g hs_a1 hi33 dX12_stopsPaying_48 ?_
                  refine r_putI g fX12_277 rfl hs_a0 rfl rfl dX12_stopsPaying_49 ?_
                  refine r_iload_n g dX12_stopsPaying_52 rfl ?_
                  refine r_iload g dX12_stopsPaying_53 rfl ?_
                  refine r_icmp_eq g 73 dX12_stopsPaying_55 (by decide) (fun c34 => ?_) (fun c34 => ?_)
                  · replace h := h.1 c34
                    refine r_iconst g 2 dX12_stopsPaying_73 (by decide) ?_
                    refine r_goto g 78 dX12_stopsPaying_74 (by decide) ?_
                    exact hr.2.1 _ rfl _ _ _ _ _ _ dX12_stopsPaying_78 rfl (Nat.le_refl 0) (Nat.le_refl 0) h
                  · replace h := h.2 c34
                    refine r_aload_n g dX12_stopsPaying_58 rfl ?_
                    refine r_aload_n g dX12_stopsPaying_59 rfl ?_
                    refine r_iload_n g dX12_stopsPaying_60 rfl ?_
                    refine r_iload_n g dX12_stopsPaying_61 rfl ?_
                    refine r_iload g dX12_stopsPaying_62 rfl ?_
                    refine r_iload g dX12_stopsPaying_64 rfl ?_
                    refine r_iconst g 0 dX12_stopsPaying_66 (by decide) ?_
                    obtain ⟨d1, Z1, hc1, hd1, h1⟩ := h
                    refine r_callV (st := []) (As := [.ref a1, .int x2, .int x3, .int x4, .int x5, .int 0]) g sX12_361 iX12_searches eX12_searches rfl hs_a0 rfl (Nat.le_of_ble_eq_true rfl) dX12_stopsPaying_67 hd1 (Nat.le_refl 0) (Nat.le_refl 0) hc1 (fun r35 μ36 hZ1 => ?_)
                    replace h := h1 _ _ hZ1
                    clear h1 hc1 hd1 hZ1 Z1 d1
                    obtain ⟨y37, rfl, h⟩ := h
                    refine r_if_ne g 77 dX12_stopsPaying_70 (by decide) (fun c38 => ?_) (fun c38 => ?_)
                    · replace h := h.1 c38
                      refine r_iconst g (-1) dX12_stopsPaying_77 (by decide) ?_
                      exact hr.2.1 _ rfl _ _ _ _ _ _ dX12_stopsPaying_78 rfl (Nat.le_refl 0) (Nat.le_refl 0) h
                    · replace h := h.2 c38
                      refine r_iconst g 2 dX12_stopsPaying_73 (by decide) ?_
                      refine r_goto g 78 dX12_stopsPaying_74 (by decide) ?_
                      exact hr.2.1 _ rfl _ _ _ _ _ _ dX12_stopsPaying_78 rfl (Nat.le_refl 0) (Nat.le_refl 0) h
theorem I_X12_stopsPaying {d : Nat} {ro : Nat → Nat} {Z : Option Value → Hp → Prop} {μ : Hp} {a0 : Nat} {a1 : Nat} {x2 : Int32} {x3 : Int32} {x4 : Int32} {x5 : Int32} (h : ∀ J, xCtx RX12 cX12_stopsPaying 6 d 0 0 yX12_stopsPaying.name ro J → xRet cX12_stopsPaying (some .int) 0 0 Z J → J μ 0 0 0 [(0, .ref a0), (1, .ref a1), (2, .int x2), (3, .int x3), (4, .int x4), (5, .int x5)] []) : xC d yX12_stopsPaying cX12_stopsPaying 6 (some .int) 0 0 [.ref a0, .ref a1, .int x2, .int x3, .int x4, .int x5] μ ro Z :=
  xC_intro (own := RX12) (lv := [(0, .ref a0), (1, .ref a1), (2, .int x2), (3, .int x3), (4, .int x4), (5, .int x5)]) (by decide) rfl (Nat.le_of_ble_eq_true rfl) rfl (fun J g hr => r_sub g (lv' := [(0, .ref a0), (1, .ref a1), (2, .int x2), (3, .int x3), (4, .int x4), (5, .int x5)]) (⟨rfl, rfl, rfl, rfl, rfl, rfl, trivial⟩) (h J g hr))
theorem dX12_stopsOwning_0 : decode cX12_stopsOwning 0 = .ok (.aload_n 0, 1) := by decide +kernel
theorem dX12_stopsOwning_1 : decode cX12_stopsOwning 1 = .ok (.iload_n 2, 1) := by decide +kernel
theorem dX12_stopsOwning_2 : decode cX12_stopsOwning 2 = .ok (.invokevirtual 351, 3) := by decide +kernel
theorem dX12_stopsOwning_5 : decode cX12_stopsOwning 5 = .ok (.ifCond .eq 11, 3) := by decide +kernel
theorem dX12_stopsOwning_8 : decode cX12_stopsOwning 8 = .ok (.aload_n 0, 1) := by decide +kernel
theorem dX12_stopsOwning_9 : decode cX12_stopsOwning 9 = .ok (.iload_n 3, 1) := by decide +kernel
theorem dX12_stopsOwning_10 : decode cX12_stopsOwning 10 = .ok (.invokevirtual 351, 3) := by decide +kernel
theorem dX12_stopsOwning_13 : decode cX12_stopsOwning 13 = .ok (.ifCond .ne 5, 3) := by decide +kernel
theorem dX12_stopsOwning_16 : decode cX12_stopsOwning 16 = .ok (.iconst 0, 1) := by decide +kernel
theorem dX12_stopsOwning_17 : decode cX12_stopsOwning 17 = .ok (.ireturn, 1) := by decide +kernel
theorem dX12_stopsOwning_18 : decode cX12_stopsOwning 18 = .ok (.iload 4, 2) := by decide +kernel
theorem dX12_stopsOwning_20 : decode cX12_stopsOwning 20 = .ok (.i2l, 1) := by decide +kernel
theorem dX12_stopsOwning_21 : decode cX12_stopsOwning 21 = .ok (.lconst 0, 1) := by decide +kernel
theorem dX12_stopsOwning_22 : decode cX12_stopsOwning 22 = .ok (.ldc2_w 376, 3) := by decide +kernel
theorem dX12_stopsOwning_25 : decode cX12_stopsOwning 25 = .ok (.invokestatic 161, 3) := by decide +kernel
theorem dX12_stopsOwning_28 : decode cX12_stopsOwning 28 = .ok (.ifCond .ne 5, 3) := by decide +kernel
theorem dX12_stopsOwning_31 : decode cX12_stopsOwning 31 = .ok (.iconst 1, 1) := by decide +kernel
theorem dX12_stopsOwning_32 : decode cX12_stopsOwning 32 = .ok (.ireturn, 1) := by decide +kernel
theorem dX12_stopsOwning_33 : decode cX12_stopsOwning 33 = .ok (.aload_n 1, 1) := by decide +kernel
theorem dX12_stopsOwning_34 : decode cX12_stopsOwning 34 = .ok (.iconst 0, 1) := by decide +kernel
theorem dX12_stopsOwning_35 : decode cX12_stopsOwning 35 = .ok (.iload_n 2, 1) := by decide +kernel
theorem dX12_stopsOwning_36 : decode cX12_stopsOwning 36 = .ok (.iload_n 3, 1) := by decide +kernel
theorem dX12_stopsOwning_37 : decode cX12_stopsOwning 37 = .ok (.invokestatic 273, 3) := by decide +kernel
theorem dX12_stopsOwning_40 : decode cX12_stopsOwning 40 = .ok (.istore 5, 2) := by decide +kernel
theorem dX12_stopsOwning_42 : decode cX12_stopsOwning 42 = .ok (.iload 5, 2) := by decide +kernel
theorem dX12_stopsOwning_44 : decode cX12_stopsOwning 44 = .ok (.iconst (-1), 1) := by decide +kernel
theorem dX12_stopsOwning_45 : decode cX12_stopsOwning 45 = .ok (.if_icmp .ne 7, 3) := by decide +kernel
theorem dX12_stopsOwning_48 : decode cX12_stopsOwning 48 = .ok (.iconst 0, 1) := by decide +kernel
theorem dX12_stopsOwning_49 : decode cX12_stopsOwning 49 = .ok (.goto 12, 3) := by decide +kernel
theorem dX12_stopsOwning_52 : decode cX12_stopsOwning 52 = .ok (.aload_n 1, 1) := by decide +kernel
theorem dX12_stopsOwning_53 : decode cX12_stopsOwning 53 = .ok (.iload 5, 2) := by decide +kernel
theorem dX12_stopsOwning_55 : decode cX12_stopsOwning 55 = .ok (.invokestatic 270, 3) := by decide +kernel
theorem dX12_stopsOwning_58 : decode cX12_stopsOwning 58 = .ok (.iconst 3, 1) := by decide +kernel
theorem dX12_stopsOwning_59 : decode cX12_stopsOwning 59 = .ok (.iadd, 1) := by decide +kernel
theorem dX12_stopsOwning_60 : decode cX12_stopsOwning 60 = .ok (.iaload, 1) := by decide +kernel
theorem dX12_stopsOwning_61 : decode cX12_stopsOwning 61 = .ok (.istore 6, 2) := by decide +kernel
theorem dX12_stopsOwning_63 : decode cX12_stopsOwning 63 = .ok (.iload_n 2, 1) := by decide +kernel
theorem dX12_stopsOwning_64 : decode cX12_stopsOwning 64 = .ok (.iload_n 3, 1) := by decide +kernel
theorem dX12_stopsOwning_65 : decode cX12_stopsOwning 65 = .ok (.if_icmp .eq 10, 3) := by decide +kernel
theorem dX12_stopsOwning_68 : decode cX12_stopsOwning 68 = .ok (.iload 6, 2) := by decide +kernel
theorem dX12_stopsOwning_70 : decode cX12_stopsOwning 70 = .ok (.iload 4, 2) := by decide +kernel
theorem dX12_stopsOwning_72 : decode cX12_stopsOwning 72 = .ok (.if_icmp .ne 5, 3) := by decide +kernel
theorem dX12_stopsOwning_75 : decode cX12_stopsOwning 75 = .ok (.iconst 2, 1) := by decide +kernel
theorem dX12_stopsOwning_76 : decode cX12_stopsOwning 76 = .ok (.ireturn, 1) := by decide +kernel
theorem dX12_stopsOwning_77 : decode cX12_stopsOwning 77 = .ok (.iload 5, 2) := by decide +kernel
theorem dX12_stopsOwning_79 : decode cX12_stopsOwning 79 = .ok (.iconst (-1), 1) := by decide +kernel
theorem dX12_stopsOwning_80 : decode cX12_stopsOwning 80 = .ok (.if_icmp .ne 16, 3) := by decide +kernel
theorem dX12_stopsOwning_83 : decode cX12_stopsOwning 83 = .ok (.aload_n 1, 1) := by decide +kernel
theorem dX12_stopsOwning_84 : decode cX12_stopsOwning 84 = .ok (.bipush 31, 2) := by decide +kernel
theorem dX12_stopsOwning_86 : decode cX12_stopsOwning 86 = .ok (.iaload, 1) := by decide +kernel
theorem dX12_stopsOwning_87 : decode cX12_stopsOwning 87 = .ok (.bipush 16, 2) := by decide +kernel
theorem dX12_stopsOwning_89 : decode cX12_stopsOwning 89 = .ok (.if_icmp .ne 7, 3) := by decide +kernel
theorem dX12_stopsOwning_92 : decode cX12_stopsOwning 92 = .ok (.iconst 3, 1) := by decide +kernel
theorem dX12_stopsOwning_93 : decode cX12_stopsOwning 93 = .ok (.goto 4, 3) := by decide +kernel
theorem dX12_stopsOwning_96 : decode cX12_stopsOwning 96 = .ok (.iconst (-1), 1) := by decide +kernel
theorem dX12_stopsOwning_97 : decode cX12_stopsOwning 97 = .ok (.ireturn, 1) := by decide +kernel
set_option maxHeartbeats 4000000 in
set_option maxRecDepth 100000 in
theorem B_X12_stopsOwning_0 {d : Nat} {ro : Nat → Nat} {J : JT} {Z : Option Value → Hp → Prop} (g : xCtx RX12 cX12_stopsOwning 7 d 0 0 yX12_stopsOwning.name ro J) (hr : xRet cX12_stopsOwning (some .int) 0 0 Z J) {μ : Hp} {a0 : Nat} {a1 : Nat} {x2 : Int32} {x3 : Int32} {x4 : Int32} (hs_a0 : hS μ a0 = some (15, 65)) (hd9 : 1 ≤ d)
    (h : ((x2 < 0 → Z (some (.int 0)) μ) ∧ (¬ x2 < 0 → (((hI μ a0 22) ≤ x2 → Z (some (.int 0)) μ) ∧ (¬ (hI μ a0 22) ≤ x2 → ((x3 < 0 → Z (some (.int 0)) μ) ∧ (¬ x3 < 0 → (((hI μ a0 22) ≤ x3 → Z (some (.int 0)) μ) ∧ (¬ (hI μ a0 22) ≤ x3 → ((x4 < 0 → Z (some (.int 1)) μ) ∧ (¬ x4 < 0 → ((100 < x4 → Z (some (.int 1)) μ) ∧ (¬ 100 < x4 → xCall d yX12_linkOf cX12_linkOf 5 (some .int) [.ref a1, .int 0, .int x2, .int x3] μ ro (fun r25 μ26 => ∃ y27 : Int32, r25 = some (.int y27) ∧ ((¬ y27 = (-1) → ∃ N31 : Nat, hS μ26 a1 = some (0, N31) ∧ vp_in ((32 + (5 * y27)) + 3) N31 ∧ ((x2 = x3 → Z (some (.int 2)) μ26) ∧ (¬ x2 = x3 → ((¬ (hI μ26 a1 (((32 + (5 * y27)) + 3).toNatClampNeg)) = x4 → ((¬ y27 = (-1) → Z (some (.int (-1))) μ26) ∧ (y27 = (-1) → vp_in 31 N31 ∧ ((¬ (hI μ26 a1 31) = 16 → Z (some (.int (-1))) μ26) ∧ ((hI μ26 a1 31) = 16 → Z (some (.int 3)) μ26))))) ∧ ((hI μ26 a1 (((32 + (5 * y27)) + 3).toNatClampNeg)) = x4 → Z (some (.int 2)) μ26))))) ∧ (y27 = (-1) → ((x2 = x3 → Z (some (.int 2)) μ26) ∧ (¬ x2 = x3 → ((¬ 0 = x4 → ((¬ y27 = (-1) → Z (some (.int (-1))) μ26) ∧ (y27 = (-1) → ∃ N41 : Nat, hS μ26 a1 = some (0, N41) ∧ vp_in 31 N41 ∧ ((¬ (hI μ26 a1 31) = 16 → Z (some (.int (-1))) μ26) ∧ ((hI μ26 a1 31) = 16 → Z (some (.int 3)) μ26))))) ∧ (0 = x4 → Z (some (.int 2)) μ26)))))))))))))))))))) :
    J μ 0 0 0 [(0, .ref a0), (1, .ref a1), (2, .int x2), (3, .int x3), (4, .int x4)] [] := by
  refine r_aload_n g dX12_stopsOwning_0 rfl ?_
  refine r_iload_n g dX12_stopsOwning_1 rfl ?_
  by_cases c1 : x2 < 0
  · replace h := h.1 c1
    refine r_callV (st := []) (As := [.int x2]) g sX12_351 iX12_isFirm eX12_isFirm rfl hs_a0 rfl (Nat.le_of_ble_eq_true rfl) dX12_stopsOwning_2 (by omega) (Nat.le_refl 0) (Nat.le_refl 0) (P_X12_isFirm_0 (d := d - 1) hs_a0 c1) (fun r2 μ3 hZ1 => ?_)
    obtain ⟨rfl, e9⟩ := hZ1
    replace e9 := e9.symm
    subst e9
    refine r_if_eq g 16 dX12_stopsOwning_5 (by decide) (fun _ => ?_) (fun hz => absurd hz (by decide))
    refine r_iconst g 0 dX12_stopsOwning_16 (by decide) ?_
    exact hr.2.1 _ rfl _ _ _ _ _ _ dX12_stopsOwning_17 rfl (Nat.le_refl 0) (Nat.le_refl 0) h
  · replace h := h.2 c1
    by_cases c4 : (hI μ a0 22) ≤ x2
    · replace h := h.1 c4
      refine r_callV (st := []) (As := [.int x2]) g sX12_351 iX12_isFirm eX12_isFirm rfl hs_a0 rfl (Nat.le_of_ble_eq_true rfl) dX12_stopsOwning_2 (by omega) (Nat.le_refl 0) (Nat.le_refl 0) (P_X12_isFirm_1 (d := d - 1) hs_a0 c1 c4) (fun r5 μ6 hZ1 => ?_)
      obtain ⟨rfl, e9⟩ := hZ1
      replace e9 := e9.symm
      subst e9
      refine r_if_eq g 16 dX12_stopsOwning_5 (by decide) (fun _ => ?_) (fun hz => absurd hz (by decide))
      refine r_iconst g 0 dX12_stopsOwning_16 (by decide) ?_
      exact hr.2.1 _ rfl _ _ _ _ _ _ dX12_stopsOwning_17 rfl (Nat.le_refl 0) (Nat.le_refl 0) h
    · replace h := h.2 c4
      refine r_callV (st := []) (As := [.int x2]) g sX12_351 iX12_isFirm eX12_isFirm rfl hs_a0 rfl (Nat.le_of_ble_eq_true rfl) dX12_stopsOwning_2 (by omega) (Nat.le_refl 0) (Nat.le_refl 0) (P_X12_isFirm_2 (d := d - 1) hs_a0 c1 c4) (fun r7 μ8 hZ1 => ?_)
      obtain ⟨rfl, e9⟩ := hZ1
      replace e9 := e9.symm
      subst e9
      refine r_if_eq g 16 dX12_stopsOwning_5 (by decide) (fun hz => absurd hz (by decide)) (fun _ => ?_)
      refine r_aload_n g dX12_stopsOwning_8 rfl ?_
      refine r_iload_n g dX12_stopsOwning_9 rfl ?_
      by_cases c9 : x3 < 0
      · replace h := h.1 c9
        refine r_callV (st := []) (As := [.int x3]) g sX12_351 iX12_isFirm eX12_isFirm rfl hs_a0 rfl (Nat.le_of_ble_eq_true rfl) dX12_stopsOwning_10 (by omega) (Nat.le_refl 0) (Nat.le_refl 0) (P_X12_isFirm_0 (d := d - 1) hs_a0 c9) (fun r10 μ11 hZ1 => ?_)
        obtain ⟨rfl, e9⟩ := hZ1
        replace e9 := e9.symm
        subst e9
        refine r_if_ne g 18 dX12_stopsOwning_13 (by decide) (fun hz => absurd hz (by decide)) (fun _ => ?_)
        refine r_iconst g 0 dX12_stopsOwning_16 (by decide) ?_
        exact hr.2.1 _ rfl _ _ _ _ _ _ dX12_stopsOwning_17 rfl (Nat.le_refl 0) (Nat.le_refl 0) h
      · replace h := h.2 c9
        by_cases c12 : (hI μ a0 22) ≤ x3
        · replace h := h.1 c12
          refine r_callV (st := []) (As := [.int x3]) g sX12_351 iX12_isFirm eX12_isFirm rfl hs_a0 rfl (Nat.le_of_ble_eq_true rfl) dX12_stopsOwning_10 (by omega) (Nat.le_refl 0) (Nat.le_refl 0) (P_X12_isFirm_1 (d := d - 1) hs_a0 c9 c12) (fun r13 μ14 hZ1 => ?_)
          obtain ⟨rfl, e9⟩ := hZ1
          replace e9 := e9.symm
          subst e9
          refine r_if_ne g 18 dX12_stopsOwning_13 (by decide) (fun hz => absurd hz (by decide)) (fun _ => ?_)
          refine r_iconst g 0 dX12_stopsOwning_16 (by decide) ?_
          exact hr.2.1 _ rfl _ _ _ _ _ _ dX12_stopsOwning_17 rfl (Nat.le_refl 0) (Nat.le_refl 0) h
        · replace h := h.2 c12
          refine r_callV (st := []) (As := [.int x3]) g sX12_351 iX12_isFirm eX12_isFirm rfl hs_a0 rfl (Nat.le_of_ble_eq_true rfl) dX12_stopsOwning_10 (by omega) (Nat.le_refl 0) (Nat.le_refl 0) (P_X12_isFirm_2 (d := d - 1) hs_a0 c9 c12) (fun r15 μ16 hZ1 => ?_)
          obtain ⟨rfl, e9⟩ := hZ1
          replace e9 := e9.symm
          subst e9
          refine r_if_ne g 18 dX12_stopsOwning_13 (by decide) (fun _ => ?_) (fun hz => absurd hz (by decide))
          refine r_iload g dX12_stopsOwning_18 rfl ?_
          refine r_i2l g dX12_stopsOwning_20 ?_
          refine r_lconst g 0 dX12_stopsOwning_21 (by decide) ?_
          refine r_ldc2 g 100 kX12_376 dX12_stopsOwning_22 ?_
          by_cases c17 : x4 < 0
          · replace h := h.1 c17
            refine r_callS (st := []) (As := [.long x4.toInt64, .long 0, .long 100]) g sX12_161 iX12_isIn rfl (Nat.le_of_ble_eq_true rfl) dX12_stopsOwning_25 (by omega) (Nat.le_refl 0) (Nat.le_refl 0) (Q_isIn_0 (d := d - 1) (x := x4) (a := 0) (b := 100) rfl (by decide) (by decide) c17) (fun r18 μ19 hZ1 => ?_)
            obtain ⟨rfl, e9⟩ := hZ1
            replace e9 := e9.symm
            subst e9
            refine r_if_ne g 33 dX12_stopsOwning_28 (by decide) (fun hz => absurd hz (by decide)) (fun _ => ?_)
            refine r_iconst g 1 dX12_stopsOwning_31 (by decide) ?_
            exact hr.2.1 _ rfl _ _ _ _ _ _ dX12_stopsOwning_32 rfl (Nat.le_refl 0) (Nat.le_refl 0) h
          · replace h := h.2 c17
            by_cases c20 : 100 < x4
            · replace h := h.1 c20
              refine r_callS (st := []) (As := [.long x4.toInt64, .long 0, .long 100]) g sX12_161 iX12_isIn rfl (Nat.le_of_ble_eq_true rfl) dX12_stopsOwning_25 (by omega) (Nat.le_refl 0) (Nat.le_refl 0) (Q_isIn_1 (d := d - 1) (x := x4) (a := 0) (b := 100) rfl (by decide) (by decide) c17 c20) (fun r21 μ22 hZ1 => ?_)
              obtain ⟨rfl, e9⟩ := hZ1
              replace e9 := e9.symm
              subst e9
              refine r_if_ne g 33 dX12_stopsOwning_28 (by decide) (fun hz => absurd hz (by decide)) (fun _ => ?_)
              refine r_iconst g 1 dX12_stopsOwning_31 (by decide) ?_
              exact hr.2.1 _ rfl _ _ _ _ _ _ dX12_stopsOwning_32 rfl (Nat.le_refl 0) (Nat.le_refl 0) h
            · replace h := h.2 c20
              refine r_callS (st := []) (As := [.long x4.toInt64, .long 0, .long 100]) g sX12_161 iX12_isIn rfl (Nat.le_of_ble_eq_true rfl) dX12_stopsOwning_25 (by omega) (Nat.le_refl 0) (Nat.le_refl 0) (Q_isIn_2 (d := d - 1) (x := x4) (a := 0) (b := 100) rfl (by decide) (by decide) c17 c20) (fun r23 μ24 hZ1 => ?_)
              obtain ⟨rfl, e9⟩ := hZ1
              replace e9 := e9.symm
              subst e9
              refine r_if_ne g 33 dX12_stopsOwning_28 (by decide) (fun _ => ?_) (fun hz => absurd hz (by decide))
              refine r_aload_n g dX12_stopsOwning_33 rfl ?_
              refine r_iconst g 0 dX12_stopsOwning_34 (by decide) ?_
              refine r_iload_n g dX12_stopsOwning_35 rfl ?_
              refine r_iload_n g dX12_stopsOwning_36 rfl ?_
              obtain ⟨d1, Z1, hc1, hd1, h1⟩ := h
              refine r_callS (st := []) (As := [.ref a1, .int 0, .int x2, .int x3]) g sX12_273 iX12_linkOf rfl (Nat.le_of_ble_eq_true rfl) dX12_stopsOwning_37 hd1 (Nat.le_refl 0) (Nat.le_refl 0) hc1 (fun r25 μ26 hZ1 => ?_)
              replace h := h1 _ _ hZ1
              clear h1 hc1 hd1 hZ1 Z1 d1
              obtain ⟨y27, rfl, h⟩ := h
              refine r_istore g [(5, .int y27), (0, .ref a0), (1, .ref a1), (2, .int x2), (3, .int x3), (4, .int x4)] dX12_stopsOwning_40 (by decide) rfl ?_
              refine r_iload g dX12_stopsOwning_42 rfl ?_
              refine r_iconst g (-1) dX12_stopsOwning_44 (by decide) ?_
              refine r_icmp_ne g 52 dX12_stopsOwning_45 (by decide) (fun c28 => ?_) (fun c28 => ?_)
              · replace h := h.1 c28
                refine r_aload_n g dX12_stopsOwning_52 rfl ?_
                refine r_iload g dX12_stopsOwning_53 rfl ?_
                refine r_callS (st := [.ref a1]) (As := [.int y27]) g sX12_270 iX12_linkRow rfl (Nat.le_of_ble_eq_true rfl) dX12_stopsOwning_55 (by omega) (Nat.le_refl 0) (Nat.le_refl 0) (P_X12_linkRow_0 (d := d - 1)  ) (fun r29 μ30 hZ1 => ?_)
                obtain ⟨rfl, e9⟩ := hZ1
                replace e9 := e9.symm
                subst e9
                refine r_iconst g 3 dX12_stopsOwning_58 (by decide) ?_
                refine r_iadd g dX12_stopsOwning_59 ?_
                obtain ⟨N31, hs_a1, h⟩ := h
                obtain ⟨hi32, h⟩ := h
                refine r_iaload g hs_a1 hi32 dX12_stopsOwning_60 ?_
                refine r_istore g [(6, .int (hI μ26 a1 (((32 + (5 * y27)) + 3).toNatClampNeg))), (5, .int y27), (0, .ref a0), (1, .ref a1), (2, .int x2), (3, .int x3), (4, .int x4)] dX12_stopsOwning_61 (by decide) rfl ?_
                refine r_iload_n g dX12_stopsOwning_63 rfl ?_
                refine r_iload_n g dX12_stopsOwning_64 rfl ?_
                refine r_icmp_eq g 75 dX12_stopsOwning_65 (by decide) (fun c33 => ?_) (fun c33 => ?_)
                · replace h := h.1 c33
                  refine r_iconst g 2 dX12_stopsOwning_75 (by decide) ?_
                  exact hr.2.1 _ rfl _ _ _ _ _ _ dX12_stopsOwning_76 rfl (Nat.le_refl 0) (Nat.le_refl 0) h
                · replace h := h.2 c33
                  refine r_iload g dX12_stopsOwning_68 rfl ?_
                  refine r_iload g dX12_stopsOwning_70 rfl ?_
                  refine r_icmp_ne g 77 dX12_stopsOwning_72 (by decide) (fun c34 => ?_) (fun c34 => ?_)
                  · replace h := h.1 c34
                    refine r_iload g dX12_stopsOwning_77 rfl ?_
                    refine r_iconst g (-1) dX12_stopsOwning_79 (by decide) ?_
                    refine r_icmp_ne g 96 dX12_stopsOwning_80 (by decide) (fun c35 => ?_) (fun c35 => ?_)
                    · replace h := h.1 c35
                      refine r_iconst g (-1) dX12_stopsOwning_96 (by decide) ?_
                      exact hr.2.1 _ rfl _ _ _ _ _ _ dX12_stopsOwning_97 rfl (Nat.le_refl 0) (Nat.le_refl 0) h
                    · replace h := h.2 c35
                      refine r_aload_n g dX12_stopsOwning_83 rfl ?_
                      refine r_bipush g 31 dX12_stopsOwning_84 (by decide) ?_
                      obtain ⟨hi36, h⟩ := h
                      refine r_iaload g hs_a1 hi36 dX12_stopsOwning_86 ?_
                      refine r_bipush g 16 dX12_stopsOwning_87 (by decide) ?_
                      refine r_icmp_ne g 96 dX12_stopsOwning_89 (by decide) (fun c37 => ?_) (fun c37 => ?_)
                      · replace h := h.1 c37
                        refine r_iconst g (-1) dX12_stopsOwning_96 (by decide) ?_
                        exact hr.2.1 _ rfl _ _ _ _ _ _ dX12_stopsOwning_97 rfl (Nat.le_refl 0) (Nat.le_refl 0) h
                      · replace h := h.2 c37
                        refine r_iconst g 3 dX12_stopsOwning_92 (by decide) ?_
                        refine r_goto g 97 dX12_stopsOwning_93 (by decide) ?_
                        exact hr.2.1 _ rfl _ _ _ _ _ _ dX12_stopsOwning_97 rfl (Nat.le_refl 0) (Nat.le_refl 0) h
                  · replace h := h.2 c34
                    refine r_iconst g 2 dX12_stopsOwning_75 (by decide) ?_
                    exact hr.2.1 _ rfl _ _ _ _ _ _ dX12_stopsOwning_76 rfl (Nat.le_refl 0) (Nat.le_refl 0) h
              · replace h := h.2 c28
                refine r_iconst g 0 dX12_stopsOwning_48 (by decide) ?_
                refine r_goto g 61 dX12_stopsOwning_49 (by decide) ?_
                refine r_istore g [(6, .int 0), (5, .int y27), (0, .ref a0), (1, .ref a1), (2, .int x2), (3, .int x3), (4, .int x4)] dX12_stopsOwning_61 (by decide) rfl ?_
                refine r_iload_n g dX12_stopsOwning_63 rfl ?_
                refine r_iload_n g dX12_stopsOwning_64 rfl ?_
                refine r_icmp_eq g 75 dX12_stopsOwning_65 (by decide) (fun c38 => ?_) (fun c38 => ?_)
                · replace h := h.1 c38
                  refine r_iconst g 2 dX12_stopsOwning_75 (by decide) ?_
                  exact hr.2.1 _ rfl _ _ _ _ _ _ dX12_stopsOwning_76 rfl (Nat.le_refl 0) (Nat.le_refl 0) h
                · replace h := h.2 c38
                  refine r_iload g dX12_stopsOwning_68 rfl ?_
                  refine r_iload g dX12_stopsOwning_70 rfl ?_
                  refine r_icmp_ne g 77 dX12_stopsOwning_72 (by decide) (fun c39 => ?_) (fun c39 => ?_)
                  · replace h := h.1 c39
                    refine r_iload g dX12_stopsOwning_77 rfl ?_
                    refine r_iconst g (-1) dX12_stopsOwning_79 (by decide) ?_
                    refine r_icmp_ne g 96 dX12_stopsOwning_80 (by decide) (fun c40 => ?_) (fun c40 => ?_)
                    · replace h := h.1 c40
                      refine r_iconst g (-1) dX12_stopsOwning_96 (by decide) ?_
                      exact hr.2.1 _ rfl _ _ _ _ _ _ dX12_stopsOwning_97 rfl (Nat.le_refl 0) (Nat.le_refl 0) h
                    · replace h := h.2 c40
                      refine r_aload_n g dX12_stopsOwning_83 rfl ?_
                      refine r_bipush g 31 dX12_stopsOwning_84 (by decide) ?_
                      obtain ⟨N41, hs_a1_, h⟩ := h
                      obtain ⟨hi42, h⟩ := h
                      refine r_iaload g hs_a1_ hi42 dX12_stopsOwning_86 ?_
                      refine r_bipush g 16 dX12_stopsOwning_87 (by decide) ?_
                      refine r_icmp_ne g 96 dX12_stopsOwning_89 (by decide) (fun c43 => ?_) (fun c43 => ?_)
                      · replace h := h.1 c43
                        refine r_iconst g (-1) dX12_stopsOwning_96 (by decide) ?_
                        exact hr.2.1 _ rfl _ _ _ _ _ _ dX12_stopsOwning_97 rfl (Nat.le_refl 0) (Nat.le_refl 0) h
                      · replace h := h.2 c43
                        refine r_iconst g 3 dX12_stopsOwning_92 (by decide) ?_
                        refine r_goto g 97 dX12_stopsOwning_93 (by decide) ?_
                        exact hr.2.1 _ rfl _ _ _ _ _ _ dX12_stopsOwning_97 rfl (Nat.le_refl 0) (Nat.le_refl 0) h
                  · replace h := h.2 c39
                    refine r_iconst g 2 dX12_stopsOwning_75 (by decide) ?_
                    exact hr.2.1 _ rfl _ _ _ _ _ _ dX12_stopsOwning_76 rfl (Nat.le_refl 0) (Nat.le_refl 0) h
theorem I_X12_stopsOwning {d : Nat} {ro : Nat → Nat} {Z : Option Value → Hp → Prop} {μ : Hp} {a0 : Nat} {a1 : Nat} {x2 : Int32} {x3 : Int32} {x4 : Int32} (h : ∀ J, xCtx RX12 cX12_stopsOwning 7 d 0 0 yX12_stopsOwning.name ro J → xRet cX12_stopsOwning (some .int) 0 0 Z J → J μ 0 0 0 [(0, .ref a0), (1, .ref a1), (2, .int x2), (3, .int x3), (4, .int x4)] []) : xC d yX12_stopsOwning cX12_stopsOwning 7 (some .int) 0 0 [.ref a0, .ref a1, .int x2, .int x3, .int x4] μ ro Z :=
  xC_intro (own := RX12) (lv := [(0, .ref a0), (1, .ref a1), (2, .int x2), (3, .int x3), (4, .int x4)]) (by decide) rfl (Nat.le_of_ble_eq_true rfl) rfl (fun J g hr => r_sub g (lv' := [(0, .ref a0), (1, .ref a1), (2, .int x2), (3, .int x3), (4, .int x4)]) (⟨rfl, rfl, rfl, rfl, rfl, trivial⟩) (h J g hr))
