theorem dX12_does_0 : decode cX12_does 0 = .ok (.aload_n 0, 1) := by decide +kernel
theorem dX12_does_1 : decode cX12_does 1 = .ok (.iload_n 3, 1) := by decide +kernel
theorem dX12_does_2 : decode cX12_does 2 = .ok (.putfield 378, 3) := by decide +kernel
theorem dX12_does_5 : decode cX12_does 5 = .ok (.iload_n 2, 1) := by decide +kernel
theorem dX12_does_6 : decode cX12_does 6 = .ok (.tableswitch 123 0 3 #[30, 65, 89, 110], 30) := by decide +kernel
theorem dX12_does_36 : decode cX12_does 36 = .ok (.aload_n 0, 1) := by decide +kernel
theorem dX12_does_37 : decode cX12_does 37 = .ok (.aload_n 1, 1) := by decide +kernel
theorem dX12_does_38 : decode cX12_does 38 = .ok (.iload_n 3, 1) := by decide +kernel
theorem dX12_does_39 : decode cX12_does 39 = .ok (.iload 4, 2) := by decide +kernel
theorem dX12_does_41 : decode cX12_does 41 = .ok (.iload 5, 2) := by decide +kernel
theorem dX12_does_43 : decode cX12_does 43 = .ok (.iload 6, 2) := by decide +kernel
theorem dX12_does_45 : decode cX12_does 45 = .ok (.invokevirtual 381, 3) := by decide +kernel
theorem dX12_does_48 : decode cX12_does 48 = .ok (.aload_n 0, 1) := by decide +kernel
theorem dX12_does_49 : decode cX12_does 49 = .ok (.aload_n 0, 1) := by decide +kernel
theorem dX12_does_50 : decode cX12_does 50 = .ok (.getfield 321, 3) := by decide +kernel
theorem dX12_does_53 : decode cX12_does 53 = .ok (.putfield 385, 3) := by decide +kernel
theorem dX12_does_56 : decode cX12_does 56 = .ok (.aload_n 0, 1) := by decide +kernel
theorem dX12_does_57 : decode cX12_does 57 = .ok (.aload_n 0, 1) := by decide +kernel
theorem dX12_does_58 : decode cX12_does 58 = .ok (.getfield 321, 3) := by decide +kernel
theorem dX12_does_61 : decode cX12_does 61 = .ok (.putfield 388, 3) := by decide +kernel
theorem dX12_does_64 : decode cX12_does 64 = .ok (.aload_n 0, 1) := by decide +kernel
theorem dX12_does_65 : decode cX12_does 65 = .ok (.iload 5, 2) := by decide +kernel
theorem dX12_does_67 : decode cX12_does 67 = .ok (.putfield 378, 3) := by decide +kernel
theorem dX12_does_70 : decode cX12_does 70 = .ok (.return_, 1) := by decide +kernel
theorem dX12_does_71 : decode cX12_does 71 = .ok (.aload_n 1, 1) := by decide +kernel
theorem dX12_does_72 : decode cX12_does 72 = .ok (.bipush 30, 2) := by decide +kernel
theorem dX12_does_74 : decode cX12_does 74 = .ok (.dup2, 1) := by decide +kernel
theorem dX12_does_75 : decode cX12_does 75 = .ok (.iaload, 1) := by decide +kernel
theorem dX12_does_76 : decode cX12_does 76 = .ok (.iload_n 3, 1) := by decide +kernel
theorem dX12_does_77 : decode cX12_does 77 = .ok (.iadd, 1) := by decide +kernel
theorem dX12_does_78 : decode cX12_does 78 = .ok (.iastore, 1) := by decide +kernel
theorem dX12_does_79 : decode cX12_does 79 = .ok (.aload_n 0, 1) := by decide +kernel
theorem dX12_does_80 : decode cX12_does 80 = .ok (.aload_n 1, 1) := by decide +kernel
theorem dX12_does_81 : decode cX12_does 81 = .ok (.bipush 30, 2) := by decide +kernel
theorem dX12_does_83 : decode cX12_does 83 = .ok (.iaload, 1) := by decide +kernel
theorem dX12_does_84 : decode cX12_does 84 = .ok (.putfield 385, 3) := by decide +kernel
theorem dX12_does_87 : decode cX12_does 87 = .ok (.aload_n 0, 1) := by decide +kernel
theorem dX12_does_88 : decode cX12_does 88 = .ok (.iconst (-1), 1) := by decide +kernel
theorem dX12_does_89 : decode cX12_does 89 = .ok (.putfield 378, 3) := by decide +kernel
theorem dX12_does_92 : decode cX12_does 92 = .ok (.goto 45, 3) := by decide +kernel
theorem dX12_does_95 : decode cX12_does 95 = .ok (.aload_n 0, 1) := by decide +kernel
theorem dX12_does_96 : decode cX12_does 96 = .ok (.aload_n 1, 1) := by decide +kernel
theorem dX12_does_97 : decode cX12_does 97 = .ok (.bipush 8, 2) := by decide +kernel
theorem dX12_does_99 : decode cX12_does 99 = .ok (.iload_n 3, 1) := by decide +kernel
theorem dX12_does_100 : decode cX12_does 100 = .ok (.iadd, 1) := by decide +kernel
theorem dX12_does_101 : decode cX12_does 101 = .ok (.iaload, 1) := by decide +kernel
theorem dX12_does_102 : decode cX12_does 102 = .ok (.putfield 385, 3) := by decide +kernel
theorem dX12_does_105 : decode cX12_does 105 = .ok (.aload_n 1, 1) := by decide +kernel
theorem dX12_does_106 : decode cX12_does 106 = .ok (.bipush 8, 2) := by decide +kernel
theorem dX12_does_108 : decode cX12_does 108 = .ok (.iload_n 3, 1) := by decide +kernel
theorem dX12_does_109 : decode cX12_does 109 = .ok (.iadd, 1) := by decide +kernel
theorem dX12_does_110 : decode cX12_does 110 = .ok (.iload 4, 2) := by decide +kernel
theorem dX12_does_112 : decode cX12_does 112 = .ok (.iastore, 1) := by decide +kernel
theorem dX12_does_113 : decode cX12_does 113 = .ok (.goto 24, 3) := by decide +kernel
theorem dX12_does_116 : decode cX12_does 116 = .ok (.aload_n 0, 1) := by decide +kernel
theorem dX12_does_117 : decode cX12_does 117 = .ok (.aload_n 1, 1) := by decide +kernel
theorem dX12_does_118 : decode cX12_does 118 = .ok (.iload_n 3, 1) := by decide +kernel
theorem dX12_does_119 : decode cX12_does 119 = .ok (.iload 4, 2) := by decide +kernel
theorem dX12_does_121 : decode cX12_does 121 = .ok (.iload 5, 2) := by decide +kernel
theorem dX12_does_123 : decode cX12_does 123 = .ok (.invokevirtual 391, 3) := by decide +kernel
theorem dX12_does_126 : decode cX12_does 126 = .ok (.goto 11, 3) := by decide +kernel
theorem dX12_does_129 : decode cX12_does 129 = .ok (.aload_n 0, 1) := by decide +kernel
theorem dX12_does_130 : decode cX12_does 130 = .ok (.aload_n 1, 1) := by decide +kernel
theorem dX12_does_131 : decode cX12_does 131 = .ok (.iload_n 3, 1) := by decide +kernel
theorem dX12_does_132 : decode cX12_does 132 = .ok (.iload 4, 2) := by decide +kernel
theorem dX12_does_134 : decode cX12_does 134 = .ok (.invokevirtual 395, 3) := by decide +kernel
theorem dX12_does_137 : decode cX12_does 137 = .ok (.aload_n 0, 1) := by decide +kernel
theorem dX12_does_138 : decode cX12_does 138 = .ok (.aload_n 0, 1) := by decide +kernel
theorem dX12_does_139 : decode cX12_does 139 = .ok (.getfield 385, 3) := by decide +kernel
theorem dX12_does_142 : decode cX12_does 142 = .ok (.putfield 388, 3) := by decide +kernel
theorem dX12_does_145 : decode cX12_does 145 = .ok (.return_, 1) := by decide +kernel
set_option maxHeartbeats 4000000 in
set_option maxRecDepth 100000 in
theorem B_X12_does_0 {d : Nat} {ro : Nat → Nat} {J : JT} {Z : Option Value → Hp → Prop} (g : xCtx RX12 cX12_does 7 d 0 0 yX12_does.name ro J) (hr : xRet cX12_does none 0 0 Z J) {μ : Hp} {a0 : Nat} {a1 : Nat} {x2 : Int32} {x3 : Int32} {x4 : Int32} {x5 : Int32} {x6 : Int32} {N_a1 : Nat} (hs_a0 : hS μ a0 = some (15, 65)) (hs_a1 : hS μ a1 = some (0, N_a1))
    (h : (((x2).toInt < 0 ∨ 3 < (x2).toInt → xCall d yX12_lends cX12_lends 5 none [.ref a0, .ref a1, .int x3, .int x4] (wI μ a0 61 x3) ro (fun r2 μ3 => r2 = none ∧ hS μ3 a0 = some (15, 65) ∧ Z none (wI μ3 a0 60 (hI μ3 a0 59)))) ∧ (x2 = 0 → xCall d yX12_pays cX12_pays 8 none [.ref a0, .ref a1, .int x3, .int x4, .int x5, .int x6] (wI μ a0 61 x3) ro (fun r4 μ5 => r4 = none ∧ hS μ5 a0 = some (15, 65) ∧ Z none (wI (wI (wI μ5 a0 59 (hI μ5 a0 51)) a0 60 (hI (wI μ5 a0 59 (hI μ5 a0 51)) a0 51)) a0 61 x5))) ∧ (x2 = 1 → vp_in 30 N_a1 ∧ (∀ v7 : Int32, v7 = (hI (wI (wI μ a0 61 x3) a1 30 ((hI (wI μ a0 61 x3) a1 30) + x3)) a1 30) → (∀ v8 : Int32, v8 = (hI (wI (wI (wI (wI μ a0 61 x3) a1 30 ((hI (wI μ a0 61 x3) a1 30) + x3)) a0 59 v7) a0 61 (-1)) a0 59) → Z none (wI (wI (wI (wI (wI μ a0 61 x3) a1 30 ((hI (wI μ a0 61 x3) a1 30) + x3)) a0 59 v7) a0 61 (-1)) a0 60 v8)))) ∧ (x2 = 2 → vp_in (8 + x3) N_a1 ∧ (∀ v10 : Int32, v10 = (hI (wI (wI (wI μ a0 61 x3) a0 59 (hI (wI μ a0 61 x3) a1 ((8 + x3).toNatClampNeg))) a1 ((8 + x3).toNatClampNeg) x4) a0 59) → Z none (wI (wI (wI (wI μ a0 61 x3) a0 59 (hI (wI μ a0 61 x3) a1 ((8 + x3).toNatClampNeg))) a1 ((8 + x3).toNatClampNeg) x4) a0 60 v10))) ∧ (x2 = 3 → xCall d yX12_owns cX12_owns 6 none [.ref a0, .ref a1, .int x3, .int x4, .int x5] (wI μ a0 61 x3) ro (fun r11 μ12 => r11 = none ∧ hS μ12 a0 = some (15, 65) ∧ Z none (wI μ12 a0 60 (hI μ12 a0 59)))))) :
    J μ 0 0 0 [(0, .ref a0), (1, .ref a1), (2, .int x2), (3, .int x3), (4, .int x4), (5, .int x5), (6, .int x6)] [] := by
  refine r_aload_n g dX12_does_0 rfl ?_
  refine r_iload_n g dX12_does_1 rfl ?_
  refine r_putI g fX12_378 rfl hs_a0 rfl rfl dX12_does_2 ?_
  refine r_iload_n g dX12_does_5 rfl ?_
  rcases sw_cases (x := x2) 0 3 (by decide) (by decide) with c1 | ⟨z, hz1, hz2, c1⟩
  · refine r_tableOut g 129 dX12_does_6 c1 (by decide) ?_
    replace h := h.1 c1
    refine r_aload_n g dX12_does_129 rfl ?_
    refine r_aload_n g dX12_does_130 rfl ?_
    refine r_iload_n g dX12_does_131 rfl ?_
    refine r_iload g dX12_does_132 rfl ?_
    obtain ⟨d1, Z1, hc1, hd1, h1⟩ := h
    refine r_callV (st := []) (As := [.ref a1, .int x3, .int x4]) g sX12_395 iX12_lends eX12_lends rfl hs_a0 rfl (Nat.le_of_ble_eq_true rfl) dX12_does_134 hd1 (Nat.le_refl 0) (Nat.le_refl 0) hc1 (fun r2 μ3 hZ1 => ?_)
    replace h := h1 _ _ hZ1
    clear h1 hc1 hd1 hZ1 Z1 d1
    obtain ⟨rfl, h⟩ := h
    refine r_aload_n g dX12_does_137 rfl ?_
    refine r_aload_n g dX12_does_138 rfl ?_
    obtain ⟨hs_a0_, h⟩ := h
    refine r_getI g fX12_385 rfl hs_a0_ dX12_does_139 ?_
    refine r_putI g fX12_388 rfl hs_a0_ rfl rfl dX12_does_142 ?_
    exact hr.1 rfl _ _ _ _ _ dX12_does_145 (Nat.le_refl 0) (Nat.le_refl 0) h
  · have hz : z = 0 ∨ z = 1 ∨ z = 2 ∨ z = 3 := by omega
    rcases hz with rfl | rfl | rfl | rfl
    · refine r_tableIn g 36 dX12_does_6 (by rw [c1]; decide) (by rw [c1]; decide) (off := 30) (by rw [c1]; decide) (by decide) ?_
      replace h := h.2.1 c1
      refine r_aload_n g dX12_does_36 rfl ?_
      refine r_aload_n g dX12_does_37 rfl ?_
      refine r_iload_n g dX12_does_38 rfl ?_
      refine r_iload g dX12_does_39 rfl ?_
      refine r_iload g dX12_does_41 rfl ?_
      refine r_iload g dX12_does_43 rfl ?_
      obtain ⟨d1, Z1, hc1, hd1, h1⟩ := h
      refine r_callV (st := []) (As := [.ref a1, .int x3, .int x4, .int x5, .int x6]) g sX12_381 iX12_pays eX12_pays rfl hs_a0 rfl (Nat.le_of_ble_eq_true rfl) dX12_does_45 hd1 (Nat.le_refl 0) (Nat.le_refl 0) hc1 (fun r4 μ5 hZ1 => ?_)
      replace h := h1 _ _ hZ1
      clear h1 hc1 hd1 hZ1 Z1 d1
      obtain ⟨rfl, h⟩ := h
      refine r_aload_n g dX12_does_48 rfl ?_
      refine r_aload_n g dX12_does_49 rfl ?_
      obtain ⟨hs_a0__, h⟩ := h
      refine r_getI g fX12_321 rfl hs_a0__ dX12_does_50 ?_
      refine r_putI g fX12_385 rfl hs_a0__ rfl rfl dX12_does_53 ?_
      refine r_aload_n g dX12_does_56 rfl ?_
      refine r_aload_n g dX12_does_57 rfl ?_
      refine r_getI g fX12_321 rfl hs_a0__ dX12_does_58 ?_
      refine r_putI g fX12_388 rfl hs_a0__ rfl rfl dX12_does_61 ?_
      refine r_aload_n g dX12_does_64 rfl ?_
      refine r_iload g dX12_does_65 rfl ?_
      refine r_putI g fX12_378 rfl hs_a0__ rfl rfl dX12_does_67 ?_
      exact hr.1 rfl _ _ _ _ _ dX12_does_70 (Nat.le_refl 0) (Nat.le_refl 0) h
    · refine r_tableIn g 71 dX12_does_6 (by rw [c1]; decide) (by rw [c1]; decide) (off := 65) (by rw [c1]; decide) (by decide) ?_
      replace h := h.2.2.1 c1
      refine r_aload_n g dX12_does_71 rfl ?_
      refine r_bipush g 30 dX12_does_72 (by decide) ?_
      refine r_dup2_11 g dX12_does_74 rfl rfl ?_
      obtain ⟨hi6, h⟩ := h
      refine r_iaload g hs_a1 hi6 dX12_does_75 ?_
      refine r_iload_n g dX12_does_76 rfl ?_
      refine r_iadd g dX12_does_77 ?_
      refine r_iastore g hs_a1 hi6 dX12_does_78 ?_
      refine r_aload_n g dX12_does_79 rfl ?_
      refine r_aload_n g dX12_does_80 rfl ?_
      refine r_bipush g 30 dX12_does_81 (by decide) ?_
      refine r_iaload g hs_a1 hi6 dX12_does_83 ?_
      refine r_nmI (fun v7 ev7 => ?_)
      replace h := h v7 ev7
      refine r_putI g fX12_385 rfl hs_a0 rfl rfl dX12_does_84 ?_
      refine r_aload_n g dX12_does_87 rfl ?_
      refine r_iconst g (-1) dX12_does_88 (by decide) ?_
      refine r_putI g fX12_378 rfl hs_a0 rfl rfl dX12_does_89 ?_
      refine r_goto g 137 dX12_does_92 (by decide) ?_
      refine r_aload_n g dX12_does_137 rfl ?_
      refine r_aload_n g dX12_does_138 rfl ?_
      refine r_getI g fX12_385 rfl hs_a0 dX12_does_139 ?_
      refine r_nmI (fun v8 ev8 => ?_)
      replace h := h v8 ev8
      refine r_putI g fX12_388 rfl hs_a0 rfl rfl dX12_does_142 ?_
      exact hr.1 rfl _ _ _ _ _ dX12_does_145 (Nat.le_refl 0) (Nat.le_refl 0) h
    · refine r_tableIn g 95 dX12_does_6 (by rw [c1]; decide) (by rw [c1]; decide) (off := 89) (by rw [c1]; decide) (by decide) ?_
      replace h := h.2.2.2.1 c1
      refine r_aload_n g dX12_does_95 rfl ?_
      refine r_aload_n g dX12_does_96 rfl ?_
      refine r_bipush g 8 dX12_does_97 (by decide) ?_
      refine r_iload_n g dX12_does_99 rfl ?_
      refine r_iadd g dX12_does_100 ?_
      obtain ⟨hi9, h⟩ := h
      refine r_iaload g hs_a1 hi9 dX12_does_101 ?_
      refine r_putI g fX12_385 rfl hs_a0 rfl rfl dX12_does_102 ?_
      refine r_aload_n g dX12_does_105 rfl ?_
      refine r_bipush g 8 dX12_does_106 (by decide) ?_
      refine r_iload_n g dX12_does_108 rfl ?_
      refine r_iadd g dX12_does_109 ?_
      refine r_iload g dX12_does_110 rfl ?_
      refine r_iastore g hs_a1 hi9 dX12_does_112 ?_
      refine r_goto g 137 dX12_does_113 (by decide) ?_
      refine r_aload_n g dX12_does_137 rfl ?_
      refine r_aload_n g dX12_does_138 rfl ?_
      refine r_getI g fX12_385 rfl hs_a0 dX12_does_139 ?_
      refine r_nmI (fun v10 ev10 => ?_)
      replace h := h v10 ev10
      refine r_putI g fX12_388 rfl hs_a0 rfl rfl dX12_does_142 ?_
      exact hr.1 rfl _ _ _ _ _ dX12_does_145 (Nat.le_refl 0) (Nat.le_refl 0) h
    · refine r_tableIn g 116 dX12_does_6 (by rw [c1]; decide) (by rw [c1]; decide) (off := 110) (by rw [c1]; decide) (by decide) ?_
      replace h := h.2.2.2.2 c1
      refine r_aload_n g dX12_does_116 rfl ?_
      refine r_aload_n g dX12_does_117 rfl ?_
      refine r_iload_n g dX12_does_118 rfl ?_
      refine r_iload g dX12_does_119 rfl ?_
      refine r_iload g dX12_does_121 rfl ?_
      obtain ⟨d1, Z1, hc1, hd1, h1⟩ := h
      refine r_callV (st := []) (As := [.ref a1, .int x3, .int x4, .int x5]) g sX12_391 iX12_owns eX12_owns rfl hs_a0 rfl (Nat.le_of_ble_eq_true rfl) dX12_does_123 hd1 (Nat.le_refl 0) (Nat.le_refl 0) hc1 (fun r11 μ12 hZ1 => ?_)
      replace h := h1 _ _ hZ1
      clear h1 hc1 hd1 hZ1 Z1 d1
      obtain ⟨rfl, h⟩ := h
      refine r_goto g 137 dX12_does_126 (by decide) ?_
      refine r_aload_n g dX12_does_137 rfl ?_
      refine r_aload_n g dX12_does_138 rfl ?_
      obtain ⟨hs_a0___, h⟩ := h
      refine r_getI g fX12_385 rfl hs_a0___ dX12_does_139 ?_
      refine r_putI g fX12_388 rfl hs_a0___ rfl rfl dX12_does_142 ?_
      exact hr.1 rfl _ _ _ _ _ dX12_does_145 (Nat.le_refl 0) (Nat.le_refl 0) h
theorem I_X12_does {d : Nat} {ro : Nat → Nat} {Z : Option Value → Hp → Prop} {μ : Hp} {a0 : Nat} {a1 : Nat} {x2 : Int32} {x3 : Int32} {x4 : Int32} {x5 : Int32} {x6 : Int32} (h : ∀ J, xCtx RX12 cX12_does 7 d 0 0 yX12_does.name ro J → xRet cX12_does none 0 0 Z J → J μ 0 0 0 [(0, .ref a0), (1, .ref a1), (2, .int x2), (3, .int x3), (4, .int x4), (5, .int x5), (6, .int x6)] []) : xC d yX12_does cX12_does 7 none 0 0 [.ref a0, .ref a1, .int x2, .int x3, .int x4, .int x5, .int x6] μ ro Z :=
  xC_intro (own := RX12) (lv := [(0, .ref a0), (1, .ref a1), (2, .int x2), (3, .int x3), (4, .int x4), (5, .int x5), (6, .int x6)]) (by decide) rfl (Nat.le_of_ble_eq_true rfl) rfl (fun J g hr => r_sub g (lv' := [(0, .ref a0), (1, .ref a1), (2, .int x2), (3, .int x3), (4, .int x4), (5, .int x5), (6, .int x6)]) (⟨rfl, rfl, rfl, rfl, rfl, rfl, rfl, trivial⟩) (h J g hr))
theorem dX12_pays_0 : decode cX12_pays 0 = .ok (.aload_n 0, 1) := by decide +kernel
theorem dX12_pays_1 : decode cX12_pays 1 = .ok (.aload_n 1, 1) := by decide +kernel
theorem dX12_pays_2 : decode cX12_pays 2 = .ok (.bipush 30, 2) := by decide +kernel
theorem dX12_pays_4 : decode cX12_pays 4 = .ok (.iaload, 1) := by decide +kernel
theorem dX12_pays_5 : decode cX12_pays 5 = .ok (.putfield 277, 3) := by decide +kernel
theorem dX12_pays_8 : decode cX12_pays 8 = .ok (.aload_n 0, 1) := by decide +kernel
theorem dX12_pays_9 : decode cX12_pays 9 = .ok (.aload_n 1, 1) := by decide +kernel
theorem dX12_pays_10 : decode cX12_pays 10 = .ok (.iload_n 2, 1) := by decide +kernel
theorem dX12_pays_11 : decode cX12_pays 11 = .ok (.iload_n 3, 1) := by decide +kernel
theorem dX12_pays_12 : decode cX12_pays 12 = .ok (.iload 4, 2) := by decide +kernel
theorem dX12_pays_14 : decode cX12_pays 14 = .ok (.iload 5, 2) := by decide +kernel
theorem dX12_pays_16 : decode cX12_pays 16 = .ok (.iconst 0, 1) := by decide +kernel
theorem dX12_pays_17 : decode cX12_pays 17 = .ok (.invokevirtual 361, 3) := by decide +kernel
theorem dX12_pays_20 : decode cX12_pays 20 = .ok (.istore 6, 2) := by decide +kernel
theorem dX12_pays_22 : decode cX12_pays 22 = .ok (.iconst 0, 1) := by decide +kernel
theorem dX12_pays_23 : decode cX12_pays 23 = .ok (.istore 7, 2) := by decide +kernel
theorem dX12_pays_25 : decode cX12_pays 25 = .ok (.iload 7, 2) := by decide +kernel
theorem dX12_pays_27 : decode cX12_pays 27 = .ok (.aload_n 0, 1) := by decide +kernel
theorem dX12_pays_28 : decode cX12_pays 28 = .ok (.getfield 306, 3) := by decide +kernel
theorem dX12_pays_31 : decode cX12_pays 31 = .ok (.if_icmp .ge 97, 3) := by decide +kernel
theorem dX12_pays_34 : decode cX12_pays 34 = .ok (.aload_n 1, 1) := by decide +kernel
theorem dX12_pays_35 : decode cX12_pays 35 = .ok (.bipush 24, 2) := by decide +kernel
theorem dX12_pays_37 : decode cX12_pays 37 = .ok (.aload_n 0, 1) := by decide +kernel
theorem dX12_pays_38 : decode cX12_pays 38 = .ok (.aload_n 0, 1) := by decide +kernel
theorem dX12_pays_39 : decode cX12_pays 39 = .ok (.getfield 79, 3) := by decide +kernel
theorem dX12_pays_42 : decode cX12_pays 42 = .ok (.iload 7, 2) := by decide +kernel
theorem dX12_pays_44 : decode cX12_pays 44 = .ok (.iaload, 1) := by decide +kernel
theorem dX12_pays_45 : decode cX12_pays 45 = .ok (.invokevirtual 280, 3) := by decide +kernel
theorem dX12_pays_48 : decode cX12_pays 48 = .ok (.iadd, 1) := by decide +kernel
theorem dX12_pays_49 : decode cX12_pays 49 = .ok (.dup2, 1) := by decide +kernel
theorem dX12_pays_50 : decode cX12_pays 50 = .ok (.iaload, 1) := by decide +kernel
theorem dX12_pays_51 : decode cX12_pays 51 = .ok (.aload_n 0, 1) := by decide +kernel
theorem dX12_pays_52 : decode cX12_pays 52 = .ok (.getfield 91, 3) := by decide +kernel
theorem dX12_pays_55 : decode cX12_pays 55 = .ok (.iload 7, 2) := by decide +kernel
theorem dX12_pays_57 : decode cX12_pays 57 = .ok (.iaload, 1) := by decide +kernel
theorem dX12_pays_58 : decode cX12_pays 58 = .ok (.iadd, 1) := by decide +kernel
theorem dX12_pays_59 : decode cX12_pays 59 = .ok (.iastore, 1) := by decide +kernel
theorem dX12_pays_60 : decode cX12_pays 60 = .ok (.iload 7, 2) := by decide +kernel
theorem dX12_pays_62 : decode cX12_pays 62 = .ok (.aload_n 0, 1) := by decide +kernel
theorem dX12_pays_63 : decode cX12_pays 63 = .ok (.getfield 306, 3) := by decide +kernel
theorem dX12_pays_66 : decode cX12_pays 66 = .ok (.iconst 1, 1) := by decide +kernel
theorem dX12_pays_67 : decode cX12_pays 67 = .ok (.isub, 1) := by decide +kernel
theorem dX12_pays_68 : decode cX12_pays 68 = .ok (.if_icmp .ne 6, 3) := by decide +kernel
theorem dX12_pays_71 : decode cX12_pays 71 = .ok (.goto 51, 3) := by decide +kernel
theorem dX12_pays_74 : decode cX12_pays 74 = .ok (.aload_n 1, 1) := by decide +kernel
theorem dX12_pays_75 : decode cX12_pays 75 = .ok (.bipush 24, 2) := by decide +kernel
theorem dX12_pays_77 : decode cX12_pays 77 = .ok (.aload_n 0, 1) := by decide +kernel
theorem dX12_pays_78 : decode cX12_pays 78 = .ok (.aload_n 0, 1) := by decide +kernel
theorem dX12_pays_79 : decode cX12_pays 79 = .ok (.getfield 79, 3) := by decide +kernel
theorem dX12_pays_82 : decode cX12_pays 82 = .ok (.iload 7, 2) := by decide +kernel
theorem dX12_pays_84 : decode cX12_pays 84 = .ok (.iconst 1, 1) := by decide +kernel
theorem dX12_pays_85 : decode cX12_pays 85 = .ok (.iadd, 1) := by decide +kernel
theorem dX12_pays_86 : decode cX12_pays 86 = .ok (.iaload, 1) := by decide +kernel
theorem dX12_pays_87 : decode cX12_pays 87 = .ok (.invokevirtual 280, 3) := by decide +kernel
theorem dX12_pays_90 : decode cX12_pays 90 = .ok (.iadd, 1) := by decide +kernel
theorem dX12_pays_91 : decode cX12_pays 91 = .ok (.dup2, 1) := by decide +kernel
theorem dX12_pays_92 : decode cX12_pays 92 = .ok (.iaload, 1) := by decide +kernel
theorem dX12_pays_93 : decode cX12_pays 93 = .ok (.aload_n 0, 1) := by decide +kernel
theorem dX12_pays_94 : decode cX12_pays 94 = .ok (.getfield 94, 3) := by decide +kernel
theorem dX12_pays_97 : decode cX12_pays 97 = .ok (.iload 7, 2) := by decide +kernel
theorem dX12_pays_99 : decode cX12_pays 99 = .ok (.iaload, 1) := by decide +kernel
theorem dX12_pays_100 : decode cX12_pays 100 = .ok (.iadd, 1) := by decide +kernel
theorem dX12_pays_101 : decode cX12_pays 101 = .ok (.iastore, 1) := by decide +kernel
theorem dX12_pays_102 : decode cX12_pays 102 = .ok (.aload_n 1, 1) := by decide +kernel
theorem dX12_pays_103 : decode cX12_pays 103 = .ok (.iconst 0, 1) := by decide +kernel
theorem dX12_pays_104 : decode cX12_pays 104 = .ok (.aload_n 0, 1) := by decide +kernel
theorem dX12_pays_105 : decode cX12_pays 105 = .ok (.getfield 79, 3) := by decide +kernel
theorem dX12_pays_108 : decode cX12_pays 108 = .ok (.iload 7, 2) := by decide +kernel
theorem dX12_pays_110 : decode cX12_pays 110 = .ok (.iconst 1, 1) := by decide +kernel
theorem dX12_pays_111 : decode cX12_pays 111 = .ok (.iadd, 1) := by decide +kernel
theorem dX12_pays_112 : decode cX12_pays 112 = .ok (.iaload, 1) := by decide +kernel
theorem dX12_pays_113 : decode cX12_pays 113 = .ok (.iadd, 1) := by decide +kernel
theorem dX12_pays_114 : decode cX12_pays 114 = .ok (.aload_n 0, 1) := by decide +kernel
theorem dX12_pays_115 : decode cX12_pays 115 = .ok (.getfield 97, 3) := by decide +kernel
theorem dX12_pays_118 : decode cX12_pays 118 = .ok (.iload 7, 2) := by decide +kernel
theorem dX12_pays_120 : decode cX12_pays 120 = .ok (.iaload, 1) := by decide +kernel
theorem dX12_pays_121 : decode cX12_pays 121 = .ok (.iastore, 1) := by decide +kernel
theorem dX12_pays_122 : decode cX12_pays 122 = .ok (.iinc 7 1, 3) := by decide +kernel
theorem dX12_pays_125 : decode cX12_pays 125 = .ok (.goto (-100), 3) := by decide +kernel
theorem dX12_pays_128 : decode cX12_pays 128 = .ok (.aload_n 1, 1) := by decide +kernel
theorem dX12_pays_129 : decode cX12_pays 129 = .ok (.bipush 16, 2) := by decide +kernel
theorem dX12_pays_131 : decode cX12_pays 131 = .ok (.iload 4, 2) := by decide +kernel
theorem dX12_pays_133 : decode cX12_pays 133 = .ok (.iadd, 1) := by decide +kernel
theorem dX12_pays_134 : decode cX12_pays 134 = .ok (.dup2, 1) := by decide +kernel
theorem dX12_pays_135 : decode cX12_pays 135 = .ok (.iaload, 1) := by decide +kernel
theorem dX12_pays_136 : decode cX12_pays 136 = .ok (.aload_n 0, 1) := by decide +kernel
theorem dX12_pays_137 : decode cX12_pays 137 = .ok (.getfield 321, 3) := by decide +kernel
theorem dX12_pays_140 : decode cX12_pays 140 = .ok (.iadd, 1) := by decide +kernel
theorem dX12_pays_141 : decode cX12_pays 141 = .ok (.iastore, 1) := by decide +kernel
theorem dX12_pays_142 : decode cX12_pays 142 = .ok (.return_, 1) := by decide +kernel
set_option maxHeartbeats 4000000 in
set_option maxRecDepth 100000 in
theorem B_X12_pays_0 {d : Nat} {ro : Nat → Nat} {J : JT} {Z : Option Value → Hp → Prop} (g : xCtx RX12 cX12_pays 8 d 0 0 yX12_pays.name ro J) (hr : xRet cX12_pays none 0 0 Z J) {μ : Hp} {a0 : Nat} {a1 : Nat} {x2 : Int32} {x3 : Int32} {x4 : Int32} {x5 : Int32} {N_a1 : Nat} (hs_a1 : hS μ a1 = some (0, N_a1)) (hs_a0 : hS μ a0 = some (15, 65))
    (h : vp_in 30 N_a1 ∧ xCall d yX12_searches cX12_searches 8 (some .boolean) [.ref a0, .ref a1, .int x2, .int x3, .int x4, .int x5, .int 0] (wI μ a0 37 (hI μ a1 30)) ro (fun r2 μ3 => ∃ y4 : Int32, r2 = some (.int y4) ∧ J μ3 0 0 25 [(0, .ref a0), (1, .ref a1), (4, .int x4), (7, .int 0)] [])) :
    J μ 0 0 0 [(0, .ref a0), (1, .ref a1), (2, .int x2), (3, .int x3), (4, .int x4), (5, .int x5)] [] := by
  refine r_aload_n g dX12_pays_0 rfl ?_
  refine r_aload_n g dX12_pays_1 rfl ?_
  refine r_bipush g 30 dX12_pays_2 (by decide) ?_
  obtain ⟨hi1, h⟩ := h
  refine r_iaload g hs_a1 hi1 dX12_pays_4 ?_
  refine r_putI g fX12_277 rfl hs_a0 rfl rfl dX12_pays_5 ?_
  refine r_aload_n g dX12_pays_8 rfl ?_
  refine r_aload_n g dX12_pays_9 rfl ?_
  refine r_iload_n g dX12_pays_10 rfl ?_
  refine r_iload_n g dX12_pays_11 rfl ?_
  refine r_iload g dX12_pays_12 rfl ?_
  refine r_iload g dX12_pays_14 rfl ?_
  refine r_iconst g 0 dX12_pays_16 (by decide) ?_
  obtain ⟨d1, Z1, hc1, hd1, h1⟩ := h
  refine r_callV (st := []) (As := [.ref a1, .int x2, .int x3, .int x4, .int x5, .int 0]) g sX12_361 iX12_searches eX12_searches rfl hs_a0 rfl (Nat.le_of_ble_eq_true rfl) dX12_pays_17 hd1 (Nat.le_refl 0) (Nat.le_refl 0) hc1 (fun r2 μ3 hZ1 => ?_)
  replace h := h1 _ _ hZ1
  clear h1 hc1 hd1 hZ1 Z1 d1
  obtain ⟨y4, rfl, h⟩ := h
  refine r_istore g [(6, .int y4), (0, .ref a0), (1, .ref a1), (2, .int x2), (3, .int x3), (4, .int x4), (5, .int x5)] dX12_pays_20 (by decide) rfl ?_
  refine r_iconst g 0 dX12_pays_22 (by decide) ?_
  refine r_istore g [(7, .int 0), (6, .int y4), (0, .ref a0), (1, .ref a1), (2, .int x2), (3, .int x3), (4, .int x4), (5, .int x5)] dX12_pays_23 (by decide) rfl ?_
  refine r_sub g (lv' := [(0, .ref a0), (1, .ref a1), (4, .int x4), (7, .int 0)]) (⟨rfl, rfl, rfl, rfl, trivial⟩) ?_
  exact h
set_option maxHeartbeats 4000000 in
set_option maxRecDepth 100000 in
theorem B_X12_pays_25 {d : Nat} {ro : Nat → Nat} {J : JT} {Z : Option Value → Hp → Prop} (g : xCtx RX12 cX12_pays 8 d 0 0 yX12_pays.name ro J) (hr : xRet cX12_pays none 0 0 Z J) {μ : Hp} {a0 : Nat} {a1 : Nat} {x4 : Int32} {x7 : Int32} {N_a1 : Nat} {a0_way : Nat} {N_a0_way : Nat} {a0_firm : Nat} {N_a0_firm : Nat} {a0_held : Nat} {N_a0_held : Nat} {a0_dues : Nat} {N_a0_dues : Nat} {a0_credits : Nat} {N_a0_credits : Nat} (hs_a0 : hS μ a0 = some (15, 65)) (hs_a1 : hS μ a1 = some (0, N_a1)) (hr_a0_way : hR μ a0 43 = some a0_way) (hs_a0_way : hS μ a0_way = some (0, N_a0_way)) (hr_a0_firm : hR μ a0 10 = some a0_firm) (hs_a0_firm : hS μ a0_firm = some (0, N_a0_firm)) (hr_a0_held : hR μ a0 47 = some a0_held) (hs_a0_held : hS μ a0_held = some (0, N_a0_held)) (hr_a0_dues : hR μ a0 48 = some a0_dues) (hs_a0_dues : hS μ a0_dues = some (0, N_a0_dues)) (hr_a0_credits : hR μ a0 49 = some a0_credits) (hs_a0_credits : hS μ a0_credits = some (0, N_a0_credits)) (hd9 : 1 ≤ d)
    (h : (((hI μ a0 50) ≤ x7 → vp_in (16 + x4) N_a1 ∧ Z none (wI μ a1 ((16 + x4).toNatClampNeg) ((hI μ a1 ((16 + x4).toNatClampNeg)) + (hI μ a0 51)))) ∧ (¬ (hI μ a0 50) ≤ x7 → vp_in x7 N_a0_way ∧ vp_in (2 * (hI μ a0_way x7.toNatClampNeg)) N_a0_firm ∧ (∀ v7 : Int32, v7 = (hI μ a0_firm ((2 * (hI μ a0_way x7.toNatClampNeg)).toNatClampNeg)) → vp_in (24 + v7) N_a1 ∧ vp_in x7 N_a0_held ∧ (∀ v10 : Int32, v10 = ((hI μ a1 ((24 + v7).toNatClampNeg)) + (hI μ a0_held x7.toNatClampNeg)) → ((¬ x7 = ((hI (wI μ a1 ((24 + v7).toNatClampNeg) v10) a0 50) - 1) → vp_in (x7 + 1) N_a0_way ∧ (∀ v13 : Int32, v13 = (hI (wI μ a1 ((24 + v7).toNatClampNeg) v10) a0_way ((x7 + 1).toNatClampNeg)) → vp_in (2 * v13) N_a0_firm ∧ (∀ v17 : Int32, v17 = (hI (wI μ a1 ((24 + v7).toNatClampNeg) v10) a0_firm ((2 * v13).toNatClampNeg)) → vp_in (24 + v17) N_a1 ∧ (∀ v19 : Int32, v19 = (hI (wI μ a1 ((24 + v7).toNatClampNeg) v10) a1 ((24 + v17).toNatClampNeg)) → vp_in x7 N_a0_dues ∧ (∀ v21 : Int32, v21 = (hI (wI μ a1 ((24 + v7).toNatClampNeg) v10) a0_dues x7.toNatClampNeg) → (∀ v22 : Int32, v22 = (hI (wI (wI μ a1 ((24 + v7).toNatClampNeg) v10) a1 ((24 + v17).toNatClampNeg) (v19 + v21)) a0_way ((x7 + 1).toNatClampNeg)) → vp_in x7 N_a0_credits ∧ (∀ v24 : Int32, v24 = (hI (wI (wI μ a1 ((24 + v7).toNatClampNeg) v10) a1 ((24 + v17).toNatClampNeg) (v19 + v21)) a0_credits x7.toNatClampNeg) → vp_in (0 + v22) N_a1 ∧ J (wI (wI (wI μ a1 ((24 + v7).toNatClampNeg) v10) a1 ((24 + v17).toNatClampNeg) (v19 + v21)) a1 ((0 + v22).toNatClampNeg) v24) 0 0 25 [(0, .ref a0), (1, .ref a1), (4, .int x4), (7, .int (x7 + 1))] []))))))) ∧ (x7 = ((hI (wI μ a1 ((24 + v7).toNatClampNeg) v10) a0 50) - 1) → J (wI μ a1 ((24 + v7).toNatClampNeg) v10) 0 0 25 [(0, .ref a0), (1, .ref a1), (4, .int x4), (7, .int (x7 + 1))] []))))))) :
    J μ 0 0 25 [(0, .ref a0), (1, .ref a1), (4, .int x4), (7, .int x7)] [] := by
  refine r_iload g dX12_pays_25 rfl ?_
  refine r_aload_n g dX12_pays_27 rfl ?_
  refine r_getI g fX12_306 rfl hs_a0 dX12_pays_28 ?_
  refine r_icmp_ge g 128 dX12_pays_31 (by decide) (fun c1 => ?_) (fun c1 => ?_)
  · replace h := h.1 c1
    refine r_aload_n g dX12_pays_128 rfl ?_
    refine r_bipush g 16 dX12_pays_129 (by decide) ?_
    refine r_iload g dX12_pays_131 rfl ?_
    refine r_iadd g dX12_pays_133 ?_
    refine r_dup2_11 g dX12_pays_134 rfl rfl ?_
    obtain ⟨hi2, h⟩ := h
    refine r_iaload g hs_a1 hi2 dX12_pays_135 ?_
    refine r_aload_n g dX12_pays_136 rfl ?_
    refine r_getI g fX12_321 rfl hs_a0 dX12_pays_137 ?_
    refine r_iadd g dX12_pays_140 ?_
    refine r_iastore g hs_a1 hi2 dX12_pays_141 ?_
    exact hr.1 rfl _ _ _ _ _ dX12_pays_142 (Nat.le_refl 0) (Nat.le_refl 0) h
  · replace h := h.2 c1
    refine r_aload_n g dX12_pays_34 rfl ?_
    refine r_bipush g 24 dX12_pays_35 (by decide) ?_
    refine r_aload_n g dX12_pays_37 rfl ?_
    refine r_aload_n g dX12_pays_38 rfl ?_
    refine r_getR g fX12_79 rfl hs_a0 hr_a0_way dX12_pays_39 ?_
    refine r_iload g dX12_pays_42 rfl ?_
    obtain ⟨hi3, h⟩ := h
    refine r_iaload g hs_a0_way hi3 dX12_pays_44 ?_
    obtain ⟨hi4, h⟩ := h
    refine r_callV (st := [.int 24, .ref a1]) (As := [.int (hI μ a0_way x7.toNatClampNeg)]) g sX12_280 iX12_landOf eX12_landOf rfl hs_a0 rfl (Nat.le_of_ble_eq_true rfl) dX12_pays_45 (by omega) (Nat.le_refl 0) (Nat.le_refl 0) (P_X12_landOf_0 (d := d - 1) hs_a0 hr_a0_firm hs_a0_firm hi4) (fun r5 μ6 hZ1 => ?_)
    obtain ⟨rfl, e9⟩ := hZ1
    replace e9 := e9.symm
    subst e9
    refine r_nmI (fun v7 ev7 => ?_)
    replace h := h v7 ev7
    refine r_iadd g dX12_pays_48 ?_
    refine r_dup2_11 g dX12_pays_49 rfl rfl ?_
    obtain ⟨hi8, h⟩ := h
    refine r_iaload g hs_a1 hi8 dX12_pays_50 ?_
    refine r_aload_n g dX12_pays_51 rfl ?_
    refine r_getR g fX12_91 rfl hs_a0 hr_a0_held dX12_pays_52 ?_
    refine r_iload g dX12_pays_55 rfl ?_
    obtain ⟨hi9, h⟩ := h
    refine r_iaload g hs_a0_held hi9 dX12_pays_57 ?_
    refine r_iadd g dX12_pays_58 ?_
    refine r_nmI (fun v10 ev10 => ?_)
    replace h := h v10 ev10
    refine r_iastore g hs_a1 hi8 dX12_pays_59 ?_
    refine r_iload g dX12_pays_60 rfl ?_
    refine r_aload_n g dX12_pays_62 rfl ?_
    refine r_getI g fX12_306 rfl hs_a0 dX12_pays_63 ?_
    refine r_iconst g 1 dX12_pays_66 (by decide) ?_
    refine r_isub g dX12_pays_67 ?_
    refine r_icmp_ne g 74 dX12_pays_68 (by decide) (fun c11 => ?_) (fun c11 => ?_)
    · replace h := h.1 c11
      refine r_aload_n g dX12_pays_74 rfl ?_
      refine r_bipush g 24 dX12_pays_75 (by decide) ?_
      refine r_aload_n g dX12_pays_77 rfl ?_
      refine r_aload_n g dX12_pays_78 rfl ?_
      refine r_getR g fX12_79 rfl hs_a0 hr_a0_way dX12_pays_79 ?_
      refine r_iload g dX12_pays_82 rfl ?_
      refine r_iconst g 1 dX12_pays_84 (by decide) ?_
      refine r_iadd g dX12_pays_85 ?_
      obtain ⟨hi12, h⟩ := h
      refine r_iaload g hs_a0_way hi12 dX12_pays_86 ?_
      refine r_nmI (fun v13 ev13 => ?_)
      replace h := h v13 ev13
      obtain ⟨hi14, h⟩ := h
      refine r_callV (st := [.int 24, .ref a1]) (As := [.int v13]) g sX12_280 iX12_landOf eX12_landOf rfl hs_a0 rfl (Nat.le_of_ble_eq_true rfl) dX12_pays_87 (by omega) (Nat.le_refl 0) (Nat.le_refl 0) (P_X12_landOf_0 (d := d - 1) hs_a0 hr_a0_firm hs_a0_firm hi14) (fun r15 μ16 hZ1 => ?_)
      obtain ⟨rfl, e9⟩ := hZ1
      replace e9 := e9.symm
      subst e9
      refine r_nmI (fun v17 ev17 => ?_)
      replace h := h v17 ev17
      refine r_iadd g dX12_pays_90 ?_
      refine r_dup2_11 g dX12_pays_91 rfl rfl ?_
      obtain ⟨hi18, h⟩ := h
      refine r_iaload g hs_a1 hi18 dX12_pays_92 ?_
      refine r_nmI (fun v19 ev19 => ?_)
      replace h := h v19 ev19
      refine r_aload_n g dX12_pays_93 rfl ?_
      refine r_getR g fX12_94 rfl hs_a0 hr_a0_dues dX12_pays_94 ?_
      refine r_iload g dX12_pays_97 rfl ?_
      obtain ⟨hi20, h⟩ := h
      refine r_iaload g hs_a0_dues hi20 dX12_pays_99 ?_
      refine r_nmI (fun v21 ev21 => ?_)
      replace h := h v21 ev21
      refine r_iadd g dX12_pays_100 ?_
      refine r_iastore g hs_a1 hi18 dX12_pays_101 ?_
      refine r_aload_n g dX12_pays_102 rfl ?_
      refine r_iconst g 0 dX12_pays_103 (by decide) ?_
      refine r_aload_n g dX12_pays_104 rfl ?_
      refine r_getR g fX12_79 rfl hs_a0 hr_a0_way dX12_pays_105 ?_
      refine r_iload g dX12_pays_108 rfl ?_
      refine r_iconst g 1 dX12_pays_110 (by decide) ?_
      refine r_iadd g dX12_pays_111 ?_
      refine r_iaload g hs_a0_way hi12 dX12_pays_112 ?_
      refine r_nmI (fun v22 ev22 => ?_)
      replace h := h v22 ev22
      refine r_iadd g dX12_pays_113 ?_
      refine r_aload_n g dX12_pays_114 rfl ?_
      refine r_getR g fX12_97 rfl hs_a0 hr_a0_credits dX12_pays_115 ?_
      refine r_iload g dX12_pays_118 rfl ?_
      obtain ⟨hi23, h⟩ := h
      refine r_iaload g hs_a0_credits hi23 dX12_pays_120 ?_
      refine r_nmI (fun v24 ev24 => ?_)
      replace h := h v24 ev24
      obtain ⟨hi25, h⟩ := h
      refine r_iastore g hs_a1 hi25 dX12_pays_121 ?_
      refine r_iinc g (x7 + 1) [(7, .int (x7 + 1)), (0, .ref a0), (1, .ref a1), (4, .int x4)] dX12_pays_122 rfl rfl (by decide) rfl ?_
      refine r_goto g 25 dX12_pays_125 (by decide) ?_
      refine r_sub g (lv' := [(0, .ref a0), (1, .ref a1), (4, .int x4), (7, .int (x7 + 1))]) (⟨rfl, rfl, rfl, rfl, trivial⟩) ?_
      exact h
    · replace h := h.2 c11
      refine r_goto g 122 dX12_pays_71 (by decide) ?_
      refine r_iinc g (x7 + 1) [(7, .int (x7 + 1)), (0, .ref a0), (1, .ref a1), (4, .int x4)] dX12_pays_122 rfl rfl (by decide) rfl ?_
      refine r_goto g 25 dX12_pays_125 (by decide) ?_
      refine r_sub g (lv' := [(0, .ref a0), (1, .ref a1), (4, .int x4), (7, .int (x7 + 1))]) (⟨rfl, rfl, rfl, rfl, trivial⟩) ?_
      exact h
theorem I_X12_pays {d : Nat} {ro : Nat → Nat} {Z : Option Value → Hp → Prop} {μ : Hp} {a0 : Nat} {a1 : Nat} {x2 : Int32} {x3 : Int32} {x4 : Int32} {x5 : Int32} (h : ∀ J, xCtx RX12 cX12_pays 8 d 0 0 yX12_pays.name ro J → xRet cX12_pays none 0 0 Z J → J μ 0 0 0 [(0, .ref a0), (1, .ref a1), (2, .int x2), (3, .int x3), (4, .int x4), (5, .int x5)] []) : xC d yX12_pays cX12_pays 8 none 0 0 [.ref a0, .ref a1, .int x2, .int x3, .int x4, .int x5] μ ro Z :=
  xC_intro (own := RX12) (lv := [(0, .ref a0), (1, .ref a1), (2, .int x2), (3, .int x3), (4, .int x4), (5, .int x5)]) (by decide) rfl (Nat.le_of_ble_eq_true rfl) rfl (fun J g hr => r_sub g (lv' := [(0, .ref a0), (1, .ref a1), (2, .int x2), (3, .int x3), (4, .int x4), (5, .int x5)]) (⟨rfl, rfl, rfl, rfl, rfl, rfl, trivial⟩) (h J g hr))
theorem dX12_makes_0 : decode cX12_makes 0 = .ok (.aload_n 0, 1) := by decide +kernel
theorem dX12_makes_1 : decode cX12_makes 1 = .ok (.bipush 31, 2) := by decide +kernel
theorem dX12_makes_3 : decode cX12_makes 3 = .ok (.iaload, 1) := by decide +kernel
theorem dX12_makes_4 : decode cX12_makes 4 = .ok (.invokestatic 270, 3) := by decide +kernel
theorem dX12_makes_7 : decode cX12_makes 7 = .ok (.istore 5, 2) := by decide +kernel
theorem dX12_makes_9 : decode cX12_makes 9 = .ok (.aload_n 0, 1) := by decide +kernel
theorem dX12_makes_10 : decode cX12_makes 10 = .ok (.iload 5, 2) := by decide +kernel
theorem dX12_makes_12 : decode cX12_makes 12 = .ok (.iload_n 1, 1) := by decide +kernel
theorem dX12_makes_13 : decode cX12_makes 13 = .ok (.iastore, 1) := by decide +kernel
theorem dX12_makes_14 : decode cX12_makes 14 = .ok (.aload_n 0, 1) := by decide +kernel
theorem dX12_makes_15 : decode cX12_makes 15 = .ok (.iload 5, 2) := by decide +kernel
theorem dX12_makes_17 : decode cX12_makes 17 = .ok (.iconst 1, 1) := by decide +kernel
theorem dX12_makes_18 : decode cX12_makes 18 = .ok (.iadd, 1) := by decide +kernel
theorem dX12_makes_19 : decode cX12_makes 19 = .ok (.iload_n 2, 1) := by decide +kernel
theorem dX12_makes_20 : decode cX12_makes 20 = .ok (.iastore, 1) := by decide +kernel
theorem dX12_makes_21 : decode cX12_makes 21 = .ok (.aload_n 0, 1) := by decide +kernel
theorem dX12_makes_22 : decode cX12_makes 22 = .ok (.iload 5, 2) := by decide +kernel
theorem dX12_makes_24 : decode cX12_makes 24 = .ok (.iconst 2, 1) := by decide +kernel
theorem dX12_makes_25 : decode cX12_makes 25 = .ok (.iadd, 1) := by decide +kernel
theorem dX12_makes_26 : decode cX12_makes 26 = .ok (.iload_n 3, 1) := by decide +kernel
theorem dX12_makes_27 : decode cX12_makes 27 = .ok (.iastore, 1) := by decide +kernel
theorem dX12_makes_28 : decode cX12_makes 28 = .ok (.aload_n 0, 1) := by decide +kernel
theorem dX12_makes_29 : decode cX12_makes 29 = .ok (.iload 5, 2) := by decide +kernel
theorem dX12_makes_31 : decode cX12_makes 31 = .ok (.iconst 3, 1) := by decide +kernel
theorem dX12_makes_32 : decode cX12_makes 32 = .ok (.iadd, 1) := by decide +kernel
theorem dX12_makes_33 : decode cX12_makes 33 = .ok (.iload 4, 2) := by decide +kernel
theorem dX12_makes_35 : decode cX12_makes 35 = .ok (.iastore, 1) := by decide +kernel
theorem dX12_makes_36 : decode cX12_makes 36 = .ok (.aload_n 0, 1) := by decide +kernel
theorem dX12_makes_37 : decode cX12_makes 37 = .ok (.iload 5, 2) := by decide +kernel
theorem dX12_makes_39 : decode cX12_makes 39 = .ok (.iconst 4, 1) := by decide +kernel
theorem dX12_makes_40 : decode cX12_makes 40 = .ok (.iadd, 1) := by decide +kernel
theorem dX12_makes_41 : decode cX12_makes 41 = .ok (.aload_n 0, 1) := by decide +kernel
theorem dX12_makes_42 : decode cX12_makes 42 = .ok (.bipush 30, 2) := by decide +kernel
theorem dX12_makes_44 : decode cX12_makes 44 = .ok (.iaload, 1) := by decide +kernel
theorem dX12_makes_45 : decode cX12_makes 45 = .ok (.iastore, 1) := by decide +kernel
theorem dX12_makes_46 : decode cX12_makes 46 = .ok (.aload_n 0, 1) := by decide +kernel
theorem dX12_makes_47 : decode cX12_makes 47 = .ok (.bipush 31, 2) := by decide +kernel
theorem dX12_makes_49 : decode cX12_makes 49 = .ok (.dup2, 1) := by decide +kernel
theorem dX12_makes_50 : decode cX12_makes 50 = .ok (.iaload, 1) := by decide +kernel
theorem dX12_makes_51 : decode cX12_makes 51 = .ok (.iconst 1, 1) := by decide +kernel
theorem dX12_makes_52 : decode cX12_makes 52 = .ok (.iadd, 1) := by decide +kernel
theorem dX12_makes_53 : decode cX12_makes 53 = .ok (.iastore, 1) := by decide +kernel
theorem dX12_makes_54 : decode cX12_makes 54 = .ok (.return_, 1) := by decide +kernel
set_option maxHeartbeats 4000000 in
set_option maxRecDepth 100000 in
theorem B_X12_makes_0 {d : Nat} {ro : Nat → Nat} {J : JT} {Z : Option Value → Hp → Prop} (g : xCtx RX12 cX12_makes 6 d 0 0 yX12_makes.name ro J) (hr : xRet cX12_makes none 0 0 Z J) {μ : Hp} {a0 : Nat} {x1 : Int32} {x2 : Int32} {x3 : Int32} {x4 : Int32} {N_a0 : Nat} (hs_a0 : hS μ a0 = some (0, N_a0)) (hd9 : 1 ≤ d)
    (h : vp_in 31 N_a0 ∧ vp_in (32 + (5 * (hI μ a0 31))) N_a0 ∧ vp_in ((32 + (5 * (hI μ a0 31))) + 1) N_a0 ∧ vp_in ((32 + (5 * (hI μ a0 31))) + 2) N_a0 ∧ vp_in ((32 + (5 * (hI μ a0 31))) + 3) N_a0 ∧ vp_in 30 N_a0 ∧ (∀ v9 : Int32, v9 = (hI (wI (wI (wI (wI μ a0 ((32 + (5 * (hI μ a0 31))).toNatClampNeg) x1) a0 (((32 + (5 * (hI μ a0 31))) + 1).toNatClampNeg) x2) a0 (((32 + (5 * (hI μ a0 31))) + 2).toNatClampNeg) x3) a0 (((32 + (5 * (hI μ a0 31))) + 3).toNatClampNeg) x4) a0 30) → vp_in ((32 + (5 * (hI μ a0 31))) + 4) N_a0 ∧ (∀ v11 : Int32, v11 = (hI (wI (wI (wI (wI (wI μ a0 ((32 + (5 * (hI μ a0 31))).toNatClampNeg) x1) a0 (((32 + (5 * (hI μ a0 31))) + 1).toNatClampNeg) x2) a0 (((32 + (5 * (hI μ a0 31))) + 2).toNatClampNeg) x3) a0 (((32 + (5 * (hI μ a0 31))) + 3).toNatClampNeg) x4) a0 (((32 + (5 * (hI μ a0 31))) + 4).toNatClampNeg) v9) a0 31) → Z none (wI (wI (wI (wI (wI (wI μ a0 ((32 + (5 * (hI μ a0 31))).toNatClampNeg) x1) a0 (((32 + (5 * (hI μ a0 31))) + 1).toNatClampNeg) x2) a0 (((32 + (5 * (hI μ a0 31))) + 2).toNatClampNeg) x3) a0 (((32 + (5 * (hI μ a0 31))) + 3).toNatClampNeg) x4) a0 (((32 + (5 * (hI μ a0 31))) + 4).toNatClampNeg) v9) a0 31 (v11 + 1))))) :
    J μ 0 0 0 [(0, .ref a0), (1, .int x1), (2, .int x2), (3, .int x3), (4, .int x4)] [] := by
  refine r_aload_n g dX12_makes_0 rfl ?_
  refine r_bipush g 31 dX12_makes_1 (by decide) ?_
  obtain ⟨hi1, h⟩ := h
  refine r_iaload g hs_a0 hi1 dX12_makes_3 ?_
  refine r_callS (st := []) (As := [.int (hI μ a0 31)]) g sX12_270 iX12_linkRow rfl (Nat.le_of_ble_eq_true rfl) dX12_makes_4 (by omega) (Nat.le_refl 0) (Nat.le_refl 0) (P_X12_linkRow_0 (d := d - 1)  ) (fun r2 μ3 hZ1 => ?_)
  obtain ⟨rfl, e9⟩ := hZ1
  replace e9 := e9.symm
  subst e9
  refine r_istore g [(5, .int (32 + (5 * (hI μ a0 31)))), (0, .ref a0), (1, .int x1), (2, .int x2), (3, .int x3), (4, .int x4)] dX12_makes_7 (by decide) rfl ?_
  refine r_aload_n g dX12_makes_9 rfl ?_
  refine r_iload g dX12_makes_10 rfl ?_
  refine r_iload_n g dX12_makes_12 rfl ?_
  obtain ⟨hi4, h⟩ := h
  refine r_iastore g hs_a0 hi4 dX12_makes_13 ?_
  refine r_aload_n g dX12_makes_14 rfl ?_
  refine r_iload g dX12_makes_15 rfl ?_
  refine r_iconst g 1 dX12_makes_17 (by decide) ?_
  refine r_iadd g dX12_makes_18 ?_
  refine r_iload_n g dX12_makes_19 rfl ?_
  obtain ⟨hi5, h⟩ := h
  refine r_iastore g hs_a0 hi5 dX12_makes_20 ?_
  refine r_aload_n g dX12_makes_21 rfl ?_
  refine r_iload g dX12_makes_22 rfl ?_
  refine r_iconst g 2 dX12_makes_24 (by decide) ?_
  refine r_iadd g dX12_makes_25 ?_
  refine r_iload_n g dX12_makes_26 rfl ?_
  obtain ⟨hi6, h⟩ := h
  refine r_iastore g hs_a0 hi6 dX12_makes_27 ?_
  refine r_aload_n g dX12_makes_28 rfl ?_
  refine r_iload g dX12_makes_29 rfl ?_
  refine r_iconst g 3 dX12_makes_31 (by decide) ?_
  refine r_iadd g dX12_makes_32 ?_
  refine r_iload g dX12_makes_33 rfl ?_
  obtain ⟨hi7, h⟩ := h
  refine r_iastore g hs_a0 hi7 dX12_makes_35 ?_
  refine r_aload_n g dX12_makes_36 rfl ?_
  refine r_iload g dX12_makes_37 rfl ?_
  refine r_iconst g 4 dX12_makes_39 (by decide) ?_
  refine r_iadd g dX12_makes_40 ?_
  refine r_aload_n g dX12_makes_41 rfl ?_
  refine r_bipush g 30 dX12_makes_42 (by decide) ?_
  obtain ⟨hi8, h⟩ := h
  refine r_iaload g hs_a0 hi8 dX12_makes_44 ?_
  refine r_nmI (fun v9 ev9 => ?_)
  replace h := h v9 ev9
  obtain ⟨hi10, h⟩ := h
  refine r_iastore g hs_a0 hi10 dX12_makes_45 ?_
  refine r_aload_n g dX12_makes_46 rfl ?_
  refine r_bipush g 31 dX12_makes_47 (by decide) ?_
  refine r_dup2_11 g dX12_makes_49 rfl rfl ?_
  refine r_iaload g hs_a0 hi1 dX12_makes_50 ?_
  refine r_nmI (fun v11 ev11 => ?_)
  replace h := h v11 ev11
  refine r_iconst g 1 dX12_makes_51 (by decide) ?_
  refine r_iadd g dX12_makes_52 ?_
  refine r_iastore g hs_a0 hi1 dX12_makes_53 ?_
  exact hr.1 rfl _ _ _ _ _ dX12_makes_54 (Nat.le_refl 0) (Nat.le_refl 0) h
theorem I_X12_makes {d : Nat} {ro : Nat → Nat} {Z : Option Value → Hp → Prop} {μ : Hp} {a0 : Nat} {x1 : Int32} {x2 : Int32} {x3 : Int32} {x4 : Int32} (h : ∀ J, xCtx RX12 cX12_makes 6 d 0 0 yX12_makes.name ro J → xRet cX12_makes none 0 0 Z J → J μ 0 0 0 [(0, .ref a0), (1, .int x1), (2, .int x2), (3, .int x3), (4, .int x4)] []) : xC d yX12_makes cX12_makes 6 none 0 0 [.ref a0, .int x1, .int x2, .int x3, .int x4] μ ro Z :=
  xC_intro (own := RX12) (lv := [(0, .ref a0), (1, .int x1), (2, .int x2), (3, .int x3), (4, .int x4)]) (by decide) rfl (Nat.le_of_ble_eq_true rfl) rfl (fun J g hr => r_sub g (lv' := [(0, .ref a0), (1, .int x1), (2, .int x2), (3, .int x3), (4, .int x4)]) (⟨rfl, rfl, rfl, rfl, rfl, trivial⟩) (h J g hr))
theorem dX12_unmakes_0 : decode cX12_unmakes 0 = .ok (.iload_n 1, 1) := by decide +kernel
theorem dX12_unmakes_1 : decode cX12_unmakes 1 = .ok (.invokestatic 270, 3) := by decide +kernel
theorem dX12_unmakes_4 : decode cX12_unmakes 4 = .ok (.istore_n 2, 1) := by decide +kernel
theorem dX12_unmakes_5 : decode cX12_unmakes 5 = .ok (.iload_n 2, 1) := by decide +kernel
theorem dX12_unmakes_6 : decode cX12_unmakes 6 = .ok (.aload_n 0, 1) := by decide +kernel
theorem dX12_unmakes_7 : decode cX12_unmakes 7 = .ok (.bipush 31, 2) := by decide +kernel
theorem dX12_unmakes_9 : decode cX12_unmakes 9 = .ok (.iaload, 1) := by decide +kernel
theorem dX12_unmakes_10 : decode cX12_unmakes 10 = .ok (.iconst 1, 1) := by decide +kernel
theorem dX12_unmakes_11 : decode cX12_unmakes 11 = .ok (.isub, 1) := by decide +kernel
theorem dX12_unmakes_12 : decode cX12_unmakes 12 = .ok (.invokestatic 270, 3) := by decide +kernel
theorem dX12_unmakes_15 : decode cX12_unmakes 15 = .ok (.if_icmp .ge 17, 3) := by decide +kernel
theorem dX12_unmakes_18 : decode cX12_unmakes 18 = .ok (.aload_n 0, 1) := by decide +kernel
theorem dX12_unmakes_19 : decode cX12_unmakes 19 = .ok (.iload_n 2, 1) := by decide +kernel
theorem dX12_unmakes_20 : decode cX12_unmakes 20 = .ok (.aload_n 0, 1) := by decide +kernel
theorem dX12_unmakes_21 : decode cX12_unmakes 21 = .ok (.iload_n 2, 1) := by decide +kernel
theorem dX12_unmakes_22 : decode cX12_unmakes 22 = .ok (.iconst 5, 1) := by decide +kernel
theorem dX12_unmakes_23 : decode cX12_unmakes 23 = .ok (.iadd, 1) := by decide +kernel
theorem dX12_unmakes_24 : decode cX12_unmakes 24 = .ok (.iaload, 1) := by decide +kernel
theorem dX12_unmakes_25 : decode cX12_unmakes 25 = .ok (.iastore, 1) := by decide +kernel
theorem dX12_unmakes_26 : decode cX12_unmakes 26 = .ok (.iinc 2 1, 3) := by decide +kernel
theorem dX12_unmakes_29 : decode cX12_unmakes 29 = .ok (.goto (-24), 3) := by decide +kernel
theorem dX12_unmakes_32 : decode cX12_unmakes 32 = .ok (.aload_n 0, 1) := by decide +kernel
theorem dX12_unmakes_33 : decode cX12_unmakes 33 = .ok (.bipush 31, 2) := by decide +kernel
theorem dX12_unmakes_35 : decode cX12_unmakes 35 = .ok (.dup2, 1) := by decide +kernel
theorem dX12_unmakes_36 : decode cX12_unmakes 36 = .ok (.iaload, 1) := by decide +kernel
theorem dX12_unmakes_37 : decode cX12_unmakes 37 = .ok (.iconst 1, 1) := by decide +kernel
theorem dX12_unmakes_38 : decode cX12_unmakes 38 = .ok (.isub, 1) := by decide +kernel
theorem dX12_unmakes_39 : decode cX12_unmakes 39 = .ok (.iastore, 1) := by decide +kernel
theorem dX12_unmakes_40 : decode cX12_unmakes 40 = .ok (.return_, 1) := by decide +kernel
set_option maxHeartbeats 4000000 in
set_option maxRecDepth 100000 in
theorem B_X12_unmakes_0 {d : Nat} {ro : Nat → Nat} {J : JT} {Z : Option Value → Hp → Prop} (g : xCtx RX12 cX12_unmakes 3 d 0 0 yX12_unmakes.name ro J) (hr : xRet cX12_unmakes none 0 0 Z J) {μ : Hp} {a0 : Nat} {x1 : Int32}  (hd9 : 1 ≤ d)
    (h : J μ 0 0 5 [(0, .ref a0), (2, .int (32 + (5 * x1)))] []) :
    J μ 0 0 0 [(0, .ref a0), (1, .int x1)] [] := by
  refine r_iload_n g dX12_unmakes_0 rfl ?_
  refine r_callS (st := []) (As := [.int x1]) g sX12_270 iX12_linkRow rfl (Nat.le_of_ble_eq_true rfl) dX12_unmakes_1 (by omega) (Nat.le_refl 0) (Nat.le_refl 0) (P_X12_linkRow_0 (d := d - 1)  ) (fun r1 μ2 hZ1 => ?_)
  obtain ⟨rfl, e9⟩ := hZ1
  replace e9 := e9.symm
  subst e9
  refine r_istore_n g [(2, .int (32 + (5 * x1))), (0, .ref a0), (1, .int x1)] dX12_unmakes_4 (by decide) rfl ?_
  refine r_sub g (lv' := [(0, .ref a0), (2, .int (32 + (5 * x1)))]) (⟨rfl, rfl, trivial⟩) ?_
  exact h
set_option maxHeartbeats 4000000 in
set_option maxRecDepth 100000 in
theorem B_X12_unmakes_5 {d : Nat} {ro : Nat → Nat} {J : JT} {Z : Option Value → Hp → Prop} (g : xCtx RX12 cX12_unmakes 3 d 0 0 yX12_unmakes.name ro J) (hr : xRet cX12_unmakes none 0 0 Z J) {μ : Hp} {a0 : Nat} {x2 : Int32} {N_a0 : Nat} (hs_a0 : hS μ a0 = some (0, N_a0)) (hd9 : 1 ≤ d)
    (h : vp_in 31 N_a0 ∧ (((32 + (5 * ((hI μ a0 31) - 1))) ≤ x2 → Z none (wI μ a0 31 ((hI μ a0 31) - 1))) ∧ (¬ (32 + (5 * ((hI μ a0 31) - 1))) ≤ x2 → vp_in (x2 + 5) N_a0 ∧ vp_in x2 N_a0 ∧ J (wI μ a0 x2.toNatClampNeg (hI μ a0 ((x2 + 5).toNatClampNeg))) 0 0 5 [(0, .ref a0), (2, .int (x2 + 1))] []))) :
    J μ 0 0 5 [(0, .ref a0), (2, .int x2)] [] := by
  refine r_iload_n g dX12_unmakes_5 rfl ?_
  refine r_aload_n g dX12_unmakes_6 rfl ?_
  refine r_bipush g 31 dX12_unmakes_7 (by decide) ?_
  obtain ⟨hi1, h⟩ := h
  refine r_iaload g hs_a0 hi1 dX12_unmakes_9 ?_
  refine r_iconst g 1 dX12_unmakes_10 (by decide) ?_
  refine r_isub g dX12_unmakes_11 ?_
  refine r_callS (st := [.int x2]) (As := [.int ((hI μ a0 31) - 1)]) g sX12_270 iX12_linkRow rfl (Nat.le_of_ble_eq_true rfl) dX12_unmakes_12 (by omega) (Nat.le_refl 0) (Nat.le_refl 0) (P_X12_linkRow_0 (d := d - 1)  ) (fun r2 μ3 hZ1 => ?_)
  obtain ⟨rfl, e9⟩ := hZ1
  replace e9 := e9.symm
  subst e9
  refine r_icmp_ge g 32 dX12_unmakes_15 (by decide) (fun c4 => ?_) (fun c4 => ?_)
  · replace h := h.1 c4
    refine r_aload_n g dX12_unmakes_32 rfl ?_
    refine r_bipush g 31 dX12_unmakes_33 (by decide) ?_
    refine r_dup2_11 g dX12_unmakes_35 rfl rfl ?_
    refine r_iaload g hs_a0 hi1 dX12_unmakes_36 ?_
    refine r_iconst g 1 dX12_unmakes_37 (by decide) ?_
    refine r_isub g dX12_unmakes_38 ?_
    refine r_iastore g hs_a0 hi1 dX12_unmakes_39 ?_
    exact hr.1 rfl _ _ _ _ _ dX12_unmakes_40 (Nat.le_refl 0) (Nat.le_refl 0) h
  · replace h := h.2 c4
    refine r_aload_n g dX12_unmakes_18 rfl ?_
    refine r_iload_n g dX12_unmakes_19 rfl ?_
    refine r_aload_n g dX12_unmakes_20 rfl ?_
    refine r_iload_n g dX12_unmakes_21 rfl ?_
    refine r_iconst g 5 dX12_unmakes_22 (by decide) ?_
    refine r_iadd g dX12_unmakes_23 ?_
    obtain ⟨hi5, h⟩ := h
    refine r_iaload g hs_a0 hi5 dX12_unmakes_24 ?_
    obtain ⟨hi6, h⟩ := h
    refine r_iastore g hs_a0 hi6 dX12_unmakes_25 ?_
    refine r_iinc g (x2 + 1) [(2, .int (x2 + 1)), (0, .ref a0)] dX12_unmakes_26 rfl rfl (by decide) rfl ?_
    refine r_goto g 5 dX12_unmakes_29 (by decide) ?_
    refine r_sub g (lv' := [(0, .ref a0), (2, .int (x2 + 1))]) (⟨rfl, rfl, trivial⟩) ?_
    exact h
theorem I_X12_unmakes {d : Nat} {ro : Nat → Nat} {Z : Option Value → Hp → Prop} {μ : Hp} {a0 : Nat} {x1 : Int32} (h : ∀ J, xCtx RX12 cX12_unmakes 3 d 0 0 yX12_unmakes.name ro J → xRet cX12_unmakes none 0 0 Z J → J μ 0 0 0 [(0, .ref a0), (1, .int x1)] []) : xC d yX12_unmakes cX12_unmakes 3 none 0 0 [.ref a0, .int x1] μ ro Z :=
  xC_intro (own := RX12) (lv := [(0, .ref a0), (1, .int x1)]) (by decide) rfl (Nat.le_of_ble_eq_true rfl) rfl (fun J g hr => r_sub g (lv' := [(0, .ref a0), (1, .int x1)]) (⟨rfl, rfl, trivial⟩) (h J g hr))
theorem dX12_owns_0 : decode cX12_owns 0 = .ok (.aload_n 1, 1) := by decide +kernel
theorem dX12_owns_1 : decode cX12_owns 1 = .ok (.iconst 0, 1) := by decide +kernel
theorem dX12_owns_2 : decode cX12_owns 2 = .ok (.iload_n 2, 1) := by decide +kernel
theorem dX12_owns_3 : decode cX12_owns 3 = .ok (.iload_n 3, 1) := by decide +kernel
theorem dX12_owns_4 : decode cX12_owns 4 = .ok (.invokestatic 273, 3) := by decide +kernel
theorem dX12_owns_7 : decode cX12_owns 7 = .ok (.istore 5, 2) := by decide +kernel
theorem dX12_owns_9 : decode cX12_owns 9 = .ok (.aload_n 0, 1) := by decide +kernel
theorem dX12_owns_10 : decode cX12_owns 10 = .ok (.iload 5, 2) := by decide +kernel
theorem dX12_owns_12 : decode cX12_owns 12 = .ok (.iconst (-1), 1) := by decide +kernel
theorem dX12_owns_13 : decode cX12_owns 13 = .ok (.if_icmp .ne 7, 3) := by decide +kernel
theorem dX12_owns_16 : decode cX12_owns 16 = .ok (.iconst 0, 1) := by decide +kernel
theorem dX12_owns_17 : decode cX12_owns 17 = .ok (.goto 12, 3) := by decide +kernel
theorem dX12_owns_20 : decode cX12_owns 20 = .ok (.aload_n 1, 1) := by decide +kernel
theorem dX12_owns_21 : decode cX12_owns 21 = .ok (.iload 5, 2) := by decide +kernel
theorem dX12_owns_23 : decode cX12_owns 23 = .ok (.invokestatic 270, 3) := by decide +kernel
theorem dX12_owns_26 : decode cX12_owns 26 = .ok (.iconst 3, 1) := by decide +kernel
theorem dX12_owns_27 : decode cX12_owns 27 = .ok (.iadd, 1) := by decide +kernel
theorem dX12_owns_28 : decode cX12_owns 28 = .ok (.iaload, 1) := by decide +kernel
theorem dX12_owns_29 : decode cX12_owns 29 = .ok (.putfield 385, 3) := by decide +kernel
theorem dX12_owns_32 : decode cX12_owns 32 = .ok (.iload 5, 2) := by decide +kernel
theorem dX12_owns_34 : decode cX12_owns 34 = .ok (.iconst (-1), 1) := by decide +kernel
theorem dX12_owns_35 : decode cX12_owns 35 = .ok (.if_icmp .ne 15, 3) := by decide +kernel
theorem dX12_owns_38 : decode cX12_owns 38 = .ok (.aload_n 1, 1) := by decide +kernel
theorem dX12_owns_39 : decode cX12_owns 39 = .ok (.iconst 0, 1) := by decide +kernel
theorem dX12_owns_40 : decode cX12_owns 40 = .ok (.iload_n 2, 1) := by decide +kernel
theorem dX12_owns_41 : decode cX12_owns 41 = .ok (.iload_n 3, 1) := by decide +kernel
theorem dX12_owns_42 : decode cX12_owns 42 = .ok (.iload 4, 2) := by decide +kernel
theorem dX12_owns_44 : decode cX12_owns 44 = .ok (.invokestatic 398, 3) := by decide +kernel
theorem dX12_owns_47 : decode cX12_owns 47 = .ok (.goto 28, 3) := by decide +kernel
theorem dX12_owns_50 : decode cX12_owns 50 = .ok (.iload 4, 2) := by decide +kernel
theorem dX12_owns_52 : decode cX12_owns 52 = .ok (.ifCond .ne 12, 3) := by decide +kernel
theorem dX12_owns_55 : decode cX12_owns 55 = .ok (.aload_n 1, 1) := by decide +kernel
theorem dX12_owns_56 : decode cX12_owns 56 = .ok (.iload 5, 2) := by decide +kernel
theorem dX12_owns_58 : decode cX12_owns 58 = .ok (.invokestatic 401, 3) := by decide +kernel
theorem dX12_owns_61 : decode cX12_owns 61 = .ok (.goto 14, 3) := by decide +kernel
theorem dX12_owns_64 : decode cX12_owns 64 = .ok (.aload_n 1, 1) := by decide +kernel
theorem dX12_owns_65 : decode cX12_owns 65 = .ok (.iload 5, 2) := by decide +kernel
theorem dX12_owns_67 : decode cX12_owns 67 = .ok (.invokestatic 270, 3) := by decide +kernel
theorem dX12_owns_70 : decode cX12_owns 70 = .ok (.iconst 3, 1) := by decide +kernel
theorem dX12_owns_71 : decode cX12_owns 71 = .ok (.iadd, 1) := by decide +kernel
theorem dX12_owns_72 : decode cX12_owns 72 = .ok (.iload 4, 2) := by decide +kernel
theorem dX12_owns_74 : decode cX12_owns 74 = .ok (.iastore, 1) := by decide +kernel
theorem dX12_owns_75 : decode cX12_owns 75 = .ok (.return_, 1) := by decide +kernel
set_option maxHeartbeats 4000000 in
set_option maxRecDepth 100000 in
theorem B_X12_owns_0 {d : Nat} {ro : Nat → Nat} {J : JT} {Z : Option Value → Hp → Prop} (g : xCtx RX12 cX12_owns 6 d 0 0 yX12_owns.name ro J) (hr : xRet cX12_owns none 0 0 Z J) {μ : Hp} {a0 : Nat} {a1 : Nat} {x2 : Int32} {x3 : Int32} {x4 : Int32}  (hd9 : 1 ≤ d)
    (h : xCall d yX12_linkOf cX12_linkOf 5 (some .int) [.ref a1, .int 0, .int x2, .int x3] μ ro (fun r1 μ2 => ∃ y3 : Int32, r1 = some (.int y3) ∧ ((¬ y3 = (-1) → ∃ N7 : Nat, hS μ2 a1 = some (0, N7) ∧ vp_in ((32 + (5 * y3)) + 3) N7 ∧ hS μ2 a0 = some (15, 65) ∧ ((¬ y3 = (-1) → ((¬ x4 = 0 → Z none (wI (wI μ2 a0 59 (hI μ2 a1 (((32 + (5 * y3)) + 3).toNatClampNeg))) a1 (((32 + (5 * y3)) + 3).toNatClampNeg) x4)) ∧ (x4 = 0 → xCall d yX12_unmakes cX12_unmakes 3 none [.ref a1, .int y3] (wI μ2 a0 59 (hI μ2 a1 (((32 + (5 * y3)) + 3).toNatClampNeg))) ro (fun r13 μ14 => r13 = none ∧ Z none μ14)))) ∧ (y3 = (-1) → xCall d yX12_makes cX12_makes 6 none [.ref a1, .int 0, .int x2, .int x3, .int x4] (wI μ2 a0 59 (hI μ2 a1 (((32 + (5 * y3)) + 3).toNatClampNeg))) ro (fun r15 μ16 => r15 = none ∧ Z none μ16)))) ∧ (y3 = (-1) → hS μ2 a0 = some (15, 65) ∧ ((¬ y3 = (-1) → ((¬ x4 = 0 → ∃ N21 : Nat, hS μ2 a1 = some (0, N21) ∧ vp_in ((32 + (5 * y3)) + 3) N21 ∧ Z none (wI (wI μ2 a0 59 0) a1 (((32 + (5 * y3)) + 3).toNatClampNeg) x4)) ∧ (x4 = 0 → xCall d yX12_unmakes cX12_unmakes 3 none [.ref a1, .int y3] (wI μ2 a0 59 0) ro (fun r23 μ24 => r23 = none ∧ Z none μ24)))) ∧ (y3 = (-1) → xCall d yX12_makes cX12_makes 6 none [.ref a1, .int 0, .int x2, .int x3, .int x4] (wI μ2 a0 59 0) ro (fun r25 μ26 => r25 = none ∧ Z none μ26))))))) :
    J μ 0 0 0 [(0, .ref a0), (1, .ref a1), (2, .int x2), (3, .int x3), (4, .int x4)] [] := by
  refine r_aload_n g dX12_owns_0 rfl ?_
  refine r_iconst g 0 dX12_owns_1 (by decide) ?_
  refine r_iload_n g dX12_owns_2 rfl ?_
  refine r_iload_n g dX12_owns_3 rfl ?_
  obtain ⟨d1, Z1, hc1, hd1, h1⟩ := h
  refine r_callS (st := []) (As := [.ref a1, .int 0, .int x2, .int x3]) g sX12_273 iX12_linkOf rfl (Nat.le_of_ble_eq_true rfl) dX12_owns_4 hd1 (Nat.le_refl 0) (Nat.le_refl 0) hc1 (fun r1 μ2 hZ1 => ?_)
  replace h := h1 _ _ hZ1
  clear h1 hc1 hd1 hZ1 Z1 d1
  obtain ⟨y3, rfl, h⟩ := h
  refine r_istore g [(5, .int y3), (0, .ref a0), (1, .ref a1), (2, .int x2), (3, .int x3), (4, .int x4)] dX12_owns_7 (by decide) rfl ?_
  refine r_aload_n g dX12_owns_9 rfl ?_
  refine r_iload g dX12_owns_10 rfl ?_
  refine r_iconst g (-1) dX12_owns_12 (by decide) ?_
  refine r_icmp_ne g 20 dX12_owns_13 (by decide) (fun c4 => ?_) (fun c4 => ?_)
  · replace h := h.1 c4
    refine r_aload_n g dX12_owns_20 rfl ?_
    refine r_iload g dX12_owns_21 rfl ?_
    refine r_callS (st := [.ref a1, .ref a0]) (As := [.int y3]) g sX12_270 iX12_linkRow rfl (Nat.le_of_ble_eq_true rfl) dX12_owns_23 (by omega) (Nat.le_refl 0) (Nat.le_refl 0) (P_X12_linkRow_0 (d := d - 1)  ) (fun r5 μ6 hZ1 => ?_)
    obtain ⟨rfl, e9⟩ := hZ1
    replace e9 := e9.symm
    subst e9
    refine r_iconst g 3 dX12_owns_26 (by decide) ?_
    refine r_iadd g dX12_owns_27 ?_
    obtain ⟨N7, hs_a1, h⟩ := h
    obtain ⟨hi8, h⟩ := h
    refine r_iaload g hs_a1 hi8 dX12_owns_28 ?_
    obtain ⟨hs_a0, h⟩ := h
    refine r_putI g fX12_385 rfl hs_a0 rfl rfl dX12_owns_29 ?_
    refine r_iload g dX12_owns_32 rfl ?_
    refine r_iconst g (-1) dX12_owns_34 (by decide) ?_
    refine r_icmp_ne g 50 dX12_owns_35 (by decide) (fun c9 => ?_) (fun c9 => ?_)
    · replace h := h.1 c9
      refine r_iload g dX12_owns_50 rfl ?_
      refine r_if_ne g 64 dX12_owns_52 (by decide) (fun c10 => ?_) (fun c10 => ?_)
      · replace h := h.1 c10
        refine r_aload_n g dX12_owns_64 rfl ?_
        refine r_iload g dX12_owns_65 rfl ?_
        refine r_callS (st := [.ref a1]) (As := [.int y3]) g sX12_270 iX12_linkRow rfl (Nat.le_of_ble_eq_true rfl) dX12_owns_67 (by omega) (Nat.le_refl 0) (Nat.le_refl 0) (P_X12_linkRow_0 (d := d - 1)  ) (fun r11 μ12 hZ1 => ?_)
        obtain ⟨rfl, e9⟩ := hZ1
        replace e9 := e9.symm
        subst e9
        refine r_iconst g 3 dX12_owns_70 (by decide) ?_
        refine r_iadd g dX12_owns_71 ?_
        refine r_iload g dX12_owns_72 rfl ?_
        refine r_iastore g hs_a1 hi8 dX12_owns_74 ?_
        exact hr.1 rfl _ _ _ _ _ dX12_owns_75 (Nat.le_refl 0) (Nat.le_refl 0) h
      · replace h := h.2 c10
        refine r_aload_n g dX12_owns_55 rfl ?_
        refine r_iload g dX12_owns_56 rfl ?_
        obtain ⟨d1, Z1, hc1, hd1, h1⟩ := h
        refine r_callS (st := []) (As := [.ref a1, .int y3]) g sX12_401 iX12_unmakes rfl (Nat.le_of_ble_eq_true rfl) dX12_owns_58 hd1 (Nat.le_refl 0) (Nat.le_refl 0) hc1 (fun r13 μ14 hZ1 => ?_)
        replace h := h1 _ _ hZ1
        clear h1 hc1 hd1 hZ1 Z1 d1
        obtain ⟨rfl, h⟩ := h
        refine r_goto g 75 dX12_owns_61 (by decide) ?_
        exact hr.1 rfl _ _ _ _ _ dX12_owns_75 (Nat.le_refl 0) (Nat.le_refl 0) h
    · replace h := h.2 c9
      refine r_aload_n g dX12_owns_38 rfl ?_
      refine r_iconst g 0 dX12_owns_39 (by decide) ?_
      refine r_iload_n g dX12_owns_40 rfl ?_
      refine r_iload_n g dX12_owns_41 rfl ?_
      refine r_iload g dX12_owns_42 rfl ?_
      obtain ⟨d1, Z1, hc1, hd1, h1⟩ := h
      refine r_callS (st := []) (As := [.ref a1, .int 0, .int x2, .int x3, .int x4]) g sX12_398 iX12_makes rfl (Nat.le_of_ble_eq_true rfl) dX12_owns_44 hd1 (Nat.le_refl 0) (Nat.le_refl 0) hc1 (fun r15 μ16 hZ1 => ?_)
      replace h := h1 _ _ hZ1
      clear h1 hc1 hd1 hZ1 Z1 d1
      obtain ⟨rfl, h⟩ := h
      refine r_goto g 75 dX12_owns_47 (by decide) ?_
      exact hr.1 rfl _ _ _ _ _ dX12_owns_75 (Nat.le_refl 0) (Nat.le_refl 0) h
  · replace h := h.2 c4
    refine r_iconst g 0 dX12_owns_16 (by decide) ?_
    refine r_goto g 29 dX12_owns_17 (by decide) ?_
    obtain ⟨hs_a0_, h⟩ := h
    refine r_putI g fX12_385 rfl hs_a0_ rfl rfl dX12_owns_29 ?_
    refine r_iload g dX12_owns_32 rfl ?_
    refine r_iconst g (-1) dX12_owns_34 (by decide) ?_
    refine r_icmp_ne g 50 dX12_owns_35 (by decide) (fun c17 => ?_) (fun c17 => ?_)
    · replace h := h.1 c17
      refine r_iload g dX12_owns_50 rfl ?_
      refine r_if_ne g 64 dX12_owns_52 (by decide) (fun c18 => ?_) (fun c18 => ?_)
      · replace h := h.1 c18
        refine r_aload_n g dX12_owns_64 rfl ?_
        refine r_iload g dX12_owns_65 rfl ?_
        refine r_callS (st := [.ref a1]) (As := [.int y3]) g sX12_270 iX12_linkRow rfl (Nat.le_of_ble_eq_true rfl) dX12_owns_67 (by omega) (Nat.le_refl 0) (Nat.le_refl 0) (P_X12_linkRow_0 (d := d - 1)  ) (fun r19 μ20 hZ1 => ?_)
        obtain ⟨rfl, e9⟩ := hZ1
        replace e9 := e9.symm
        subst e9
        refine r_iconst g 3 dX12_owns_70 (by decide) ?_
        refine r_iadd g dX12_owns_71 ?_
        refine r_iload g dX12_owns_72 rfl ?_
        obtain ⟨N21, hs_a1_, h⟩ := h
        obtain ⟨hi22, h⟩ := h
        refine r_iastore g hs_a1_ hi22 dX12_owns_74 ?_
        exact hr.1 rfl _ _ _ _ _ dX12_owns_75 (Nat.le_refl 0) (Nat.le_refl 0) h
      · replace h := h.2 c18
        refine r_aload_n g dX12_owns_55 rfl ?_
        refine r_iload g dX12_owns_56 rfl ?_
        obtain ⟨d1, Z1, hc1, hd1, h1⟩ := h
        refine r_callS (st := []) (As := [.ref a1, .int y3]) g sX12_401 iX12_unmakes rfl (Nat.le_of_ble_eq_true rfl) dX12_owns_58 hd1 (Nat.le_refl 0) (Nat.le_refl 0) hc1 (fun r23 μ24 hZ1 => ?_)
        replace h := h1 _ _ hZ1
        clear h1 hc1 hd1 hZ1 Z1 d1
        obtain ⟨rfl, h⟩ := h
        refine r_goto g 75 dX12_owns_61 (by decide) ?_
        exact hr.1 rfl _ _ _ _ _ dX12_owns_75 (Nat.le_refl 0) (Nat.le_refl 0) h
    · replace h := h.2 c17
      refine r_aload_n g dX12_owns_38 rfl ?_
      refine r_iconst g 0 dX12_owns_39 (by decide) ?_
      refine r_iload_n g dX12_owns_40 rfl ?_
      refine r_iload_n g dX12_owns_41 rfl ?_
      refine r_iload g dX12_owns_42 rfl ?_
      obtain ⟨d1, Z1, hc1, hd1, h1⟩ := h
      refine r_callS (st := []) (As := [.ref a1, .int 0, .int x2, .int x3, .int x4]) g sX12_398 iX12_makes rfl (Nat.le_of_ble_eq_true rfl) dX12_owns_44 hd1 (Nat.le_refl 0) (Nat.le_refl 0) hc1 (fun r25 μ26 hZ1 => ?_)
      replace h := h1 _ _ hZ1
      clear h1 hc1 hd1 hZ1 Z1 d1
      obtain ⟨rfl, h⟩ := h
      refine r_goto g 75 dX12_owns_47 (by decide) ?_
      exact hr.1 rfl _ _ _ _ _ dX12_owns_75 (Nat.le_refl 0) (Nat.le_refl 0) h
theorem I_X12_owns {d : Nat} {ro : Nat → Nat} {Z : Option Value → Hp → Prop} {μ : Hp} {a0 : Nat} {a1 : Nat} {x2 : Int32} {x3 : Int32} {x4 : Int32} (h : ∀ J, xCtx RX12 cX12_owns 6 d 0 0 yX12_owns.name ro J → xRet cX12_owns none 0 0 Z J → J μ 0 0 0 [(0, .ref a0), (1, .ref a1), (2, .int x2), (3, .int x3), (4, .int x4)] []) : xC d yX12_owns cX12_owns 6 none 0 0 [.ref a0, .ref a1, .int x2, .int x3, .int x4] μ ro Z :=
  xC_intro (own := RX12) (lv := [(0, .ref a0), (1, .ref a1), (2, .int x2), (3, .int x3), (4, .int x4)]) (by decide) rfl (Nat.le_of_ble_eq_true rfl) rfl (fun J g hr => r_sub g (lv' := [(0, .ref a0), (1, .ref a1), (2, .int x2), (3, .int x3), (4, .int x4)]) (⟨rfl, rfl, rfl, rfl, rfl, trivial⟩) (h J g hr))
theorem dX12_lends_0 : decode cX12_lends 0 = .ok (.aload_n 1, 1) := by decide +kernel
theorem dX12_lends_1 : decode cX12_lends 1 = .ok (.iconst 1, 1) := by decide +kernel
theorem dX12_lends_2 : decode cX12_lends 2 = .ok (.iload_n 2, 1) := by decide +kernel
theorem dX12_lends_3 : decode cX12_lends 3 = .ok (.iload_n 3, 1) := by decide +kernel
theorem dX12_lends_4 : decode cX12_lends 4 = .ok (.invokestatic 273, 3) := by decide +kernel
theorem dX12_lends_7 : decode cX12_lends 7 = .ok (.istore 4, 2) := by decide +kernel
theorem dX12_lends_9 : decode cX12_lends 9 = .ok (.aload_n 0, 1) := by decide +kernel
theorem dX12_lends_10 : decode cX12_lends 10 = .ok (.iload 4, 2) := by decide +kernel
theorem dX12_lends_12 : decode cX12_lends 12 = .ok (.iconst (-1), 1) := by decide +kernel
theorem dX12_lends_13 : decode cX12_lends 13 = .ok (.if_icmp .ne 7, 3) := by decide +kernel
theorem dX12_lends_16 : decode cX12_lends 16 = .ok (.iconst 1, 1) := by decide +kernel
theorem dX12_lends_17 : decode cX12_lends 17 = .ok (.goto 4, 3) := by decide +kernel
theorem dX12_lends_20 : decode cX12_lends 20 = .ok (.iconst 0, 1) := by decide +kernel
theorem dX12_lends_21 : decode cX12_lends 21 = .ok (.putfield 385, 3) := by decide +kernel
theorem dX12_lends_24 : decode cX12_lends 24 = .ok (.iload 4, 2) := by decide +kernel
theorem dX12_lends_26 : decode cX12_lends 26 = .ok (.iconst (-1), 1) := by decide +kernel
theorem dX12_lends_27 : decode cX12_lends 27 = .ok (.if_icmp .ne 14, 3) := by decide +kernel
theorem dX12_lends_30 : decode cX12_lends 30 = .ok (.aload_n 1, 1) := by decide +kernel
theorem dX12_lends_31 : decode cX12_lends 31 = .ok (.iconst 1, 1) := by decide +kernel
theorem dX12_lends_32 : decode cX12_lends 32 = .ok (.iload_n 2, 1) := by decide +kernel
theorem dX12_lends_33 : decode cX12_lends 33 = .ok (.iload_n 3, 1) := by decide +kernel
theorem dX12_lends_34 : decode cX12_lends 34 = .ok (.iconst 0, 1) := by decide +kernel
theorem dX12_lends_35 : decode cX12_lends 35 = .ok (.invokestatic 398, 3) := by decide +kernel
theorem dX12_lends_38 : decode cX12_lends 38 = .ok (.goto 9, 3) := by decide +kernel
theorem dX12_lends_41 : decode cX12_lends 41 = .ok (.aload_n 1, 1) := by decide +kernel
theorem dX12_lends_42 : decode cX12_lends 42 = .ok (.iload 4, 2) := by decide +kernel
theorem dX12_lends_44 : decode cX12_lends 44 = .ok (.invokestatic 401, 3) := by decide +kernel
theorem dX12_lends_47 : decode cX12_lends 47 = .ok (.return_, 1) := by decide +kernel
set_option maxHeartbeats 4000000 in
set_option maxRecDepth 100000 in
theorem B_X12_lends_0 {d : Nat} {ro : Nat → Nat} {J : JT} {Z : Option Value → Hp → Prop} (g : xCtx RX12 cX12_lends 5 d 0 0 yX12_lends.name ro J) (hr : xRet cX12_lends none 0 0 Z J) {μ : Hp} {a0 : Nat} {a1 : Nat} {x2 : Int32} {x3 : Int32} 
    (h : xCall d yX12_linkOf cX12_linkOf 5 (some .int) [.ref a1, .int 1, .int x2, .int x3] μ ro (fun r1 μ2 => ∃ y3 : Int32, r1 = some (.int y3) ∧ ((¬ y3 = (-1) → hS μ2 a0 = some (15, 65) ∧ ((¬ y3 = (-1) → xCall d yX12_unmakes cX12_unmakes 3 none [.ref a1, .int y3] (wI μ2 a0 59 0) ro (fun r6 μ7 => r6 = none ∧ Z none μ7)) ∧ (y3 = (-1) → xCall d yX12_makes cX12_makes 6 none [.ref a1, .int 1, .int x2, .int x3, .int 0] (wI μ2 a0 59 0) ro (fun r8 μ9 => r8 = none ∧ Z none μ9)))) ∧ (y3 = (-1) → hS μ2 a0 = some (15, 65) ∧ ((¬ y3 = (-1) → xCall d yX12_unmakes cX12_unmakes 3 none [.ref a1, .int y3] (wI μ2 a0 59 1) ro (fun r11 μ12 => r11 = none ∧ Z none μ12)) ∧ (y3 = (-1) → xCall d yX12_makes cX12_makes 6 none [.ref a1, .int 1, .int x2, .int x3, .int 0] (wI μ2 a0 59 1) ro (fun r13 μ14 => r13 = none ∧ Z none μ14))))))) :
    J μ 0 0 0 [(0, .ref a0), (1, .ref a1), (2, .int x2), (3, .int x3)] [] := by
  refine r_aload_n g dX12_lends_0 rfl ?_
  refine r_iconst g 1 dX12_lends_1 (by decide) ?_
  refine r_iload_n g dX12_lends_2 rfl ?_
  refine r_iload_n g dX12_lends_3 rfl ?_
  obtain ⟨d1, Z1, hc1, hd1, h1⟩ := h
  refine r_callS (st := []) (As := [.ref a1, .int 1, .int x2, .int x3]) g sX12_273 iX12_linkOf rfl (Nat.le_of_ble_eq_true rfl) dX12_lends_4 hd1 (Nat.le_refl 0) (Nat.le_refl 0) hc1 (fun r1 μ2 hZ1 => ?_)
  replace h := h1 _ _ hZ1
  clear h1 hc1 hd1 hZ1 Z1 d1
  obtain ⟨y3, rfl, h⟩ := h
  refine r_istore g [(4, .int y3), (0, .ref a0), (1, .ref a1), (2, .int x2), (3, .int x3)] dX12_lends_7 (by decide) rfl ?_
  refine r_aload_n g dX12_lends_9 rfl ?_
  refine r_iload g dX12_lends_10 rfl ?_
  refine r_iconst g (-1) dX12_lends_12 (by decide) ?_
  refine r_icmp_ne g 20 dX12_lends_13 (by decide) (fun c4 => ?_) (fun c4 => ?_)
  · replace h := h.1 c4
    refine r_iconst g 0 dX12_lends_20 (by decide) ?_
    obtain ⟨hs_a0, h⟩ := h
    refine r_putI g fX12_385 rfl hs_a0 rfl rfl dX12_lends_21 ?_
    refine r_iload g dX12_lends_24 rfl ?_
    refine r_iconst g (-1) dX12_lends_26 (by decide) ?_
    refine r_icmp_ne g 41 dX12_lends_27 (by decide) (fun c5 => ?_) (fun c5 => ?_)
    · replace h := h.1 c5
      refine r_aload_n g dX12_lends_41 rfl ?_
      refine r_iload g dX12_lends_42 rfl ?_
      obtain ⟨d1, Z1, hc1, hd1, h1⟩ := h
      refine r_callS (st := []) (As := [.ref a1, .int y3]) g sX12_401 iX12_unmakes rfl (Nat.le_of_ble_eq_true rfl) dX12_lends_44 hd1 (Nat.le_refl 0) (Nat.le_refl 0) hc1 (fun r6 μ7 hZ1 => ?_)
      replace h := h1 _ _ hZ1
      clear h1 hc1 hd1 hZ1 Z1 d1
      obtain ⟨rfl, h⟩ := h
      exact hr.1 rfl _ _ _ _ _ dX12_lends_47 (Nat.le_refl 0) (Nat.le_refl 0) h
    · replace h := h.2 c5
      refine r_aload_n g dX12_lends_30 rfl ?_
      refine r_iconst g 1 dX12_lends_31 (by decide) ?_
      refine r_iload_n g dX12_lends_32 rfl ?_
      refine r_iload_n g dX12_lends_33 rfl ?_
      refine r_iconst g 0 dX12_lends_34 (by decide) ?_
      obtain ⟨d1, Z1, hc1, hd1, h1⟩ := h
      refine r_callS (st := []) (As := [.ref a1, .int 1, .int x2, .int x3, .int 0]) g sX12_398 iX12_makes rfl (Nat.le_of_ble_eq_true rfl) dX12_lends_35 hd1 (Nat.le_refl 0) (Nat.le_refl 0) hc1 (fun r8 μ9 hZ1 => ?_)
      replace h := h1 _ _ hZ1
      clear h1 hc1 hd1 hZ1 Z1 d1
      obtain ⟨rfl, h⟩ := h
      refine r_goto g 47 dX12_lends_38 (by decide) ?_
      exact hr.1 rfl _ _ _ _ _ dX12_lends_47 (Nat.le_refl 0) (Nat.le_refl 0) h
  · replace h := h.2 c4
    refine r_iconst g 1 dX12_lends_16 (by decide) ?_
    refine r_goto g 21 dX12_lends_17 (by decide) ?_
    obtain ⟨hs_a0_, h⟩ := h
    refine r_putI g fX12_385 rfl hs_a0_ rfl rfl dX12_lends_21 ?_
    refine r_iload g dX12_lends_24 rfl ?_
    refine r_iconst g (-1) dX12_lends_26 (by decide) ?_
    refine r_icmp_ne g 41 dX12_lends_27 (by decide) (fun c10 => ?_) (fun c10 => ?_)
    · replace h := h.1 c10
      refine r_aload_n g dX12_lends_41 rfl ?_
      refine r_iload g dX12_lends_42 rfl ?_
      obtain ⟨d1, Z1, hc1, hd1, h1⟩ := h
      refine r_callS (st := []) (As := [.ref a1, .int y3]) g sX12_401 iX12_unmakes rfl (Nat.le_of_ble_eq_true rfl) dX12_lends_44 hd1 (Nat.le_refl 0) (Nat.le_refl 0) hc1 (fun r11 μ12 hZ1 => ?_)
      replace h := h1 _ _ hZ1
      clear h1 hc1 hd1 hZ1 Z1 d1
      obtain ⟨rfl, h⟩ := h
      exact hr.1 rfl _ _ _ _ _ dX12_lends_47 (Nat.le_refl 0) (Nat.le_refl 0) h
    · replace h := h.2 c10
      refine r_aload_n g dX12_lends_30 rfl ?_
      refine r_iconst g 1 dX12_lends_31 (by decide) ?_
      refine r_iload_n g dX12_lends_32 rfl ?_
      refine r_iload_n g dX12_lends_33 rfl ?_
      refine r_iconst g 0 dX12_lends_34 (by decide) ?_
      obtain ⟨d1, Z1, hc1, hd1, h1⟩ := h
      refine r_callS (st := []) (As := [.ref a1, .int 1, .int x2, .int x3, .int 0]) g sX12_398 iX12_makes rfl (Nat.le_of_ble_eq_true rfl) dX12_lends_35 hd1 (Nat.le_refl 0) (Nat.le_refl 0) hc1 (fun r13 μ14 hZ1 => ?_)
      replace h := h1 _ _ hZ1
      clear h1 hc1 hd1 hZ1 Z1 d1
      obtain ⟨rfl, h⟩ := h
      refine r_goto g 47 dX12_lends_38 (by decide) ?_
      exact hr.1 rfl _ _ _ _ _ dX12_lends_47 (Nat.le_refl 0) (Nat.le_refl 0) h
theorem I_X12_lends {d : Nat} {ro : Nat → Nat} {Z : Option Value → Hp → Prop} {μ : Hp} {a0 : Nat} {a1 : Nat} {x2 : Int32} {x3 : Int32} (h : ∀ J, xCtx RX12 cX12_lends 5 d 0 0 yX12_lends.name ro J → xRet cX12_lends none 0 0 Z J → J μ 0 0 0 [(0, .ref a0), (1, .ref a1), (2, .int x2), (3, .int x3)] []) : xC d yX12_lends cX12_lends 5 none 0 0 [.ref a0, .ref a1, .int x2, .int x3] μ ro Z :=
  xC_intro (own := RX12) (lv := [(0, .ref a0), (1, .ref a1), (2, .int x2), (3, .int x3)]) (by decide) rfl (Nat.le_of_ble_eq_true rfl) rfl (fun J g hr => r_sub g (lv' := [(0, .ref a0), (1, .ref a1), (2, .int x2), (3, .int x3)]) (⟨rfl, rfl, rfl, rfl, trivial⟩) (h J g hr))
theorem dX12_remember_0 : decode cX12_remember 0 = .ok (.aload_n 0, 1) := by decide +kernel
theorem dX12_remember_1 : decode cX12_remember 1 = .ok (.getfield 251, 3) := by decide +kernel
theorem dX12_remember_4 : decode cX12_remember 4 = .ok (.bipush 40, 2) := by decide +kernel
theorem dX12_remember_6 : decode cX12_remember 6 = .ok (.if_icmp .ne 19, 3) := by decide +kernel
theorem dX12_remember_9 : decode cX12_remember 9 = .ok (.aload_n 0, 1) := by decide +kernel
theorem dX12_remember_10 : decode cX12_remember 10 = .ok (.aload_n 0, 1) := by decide +kernel
theorem dX12_remember_11 : decode cX12_remember 11 = .ok (.getfield 405, 3) := by decide +kernel
theorem dX12_remember_14 : decode cX12_remember 14 = .ok (.iconst 1, 1) := by decide +kernel
theorem dX12_remember_15 : decode cX12_remember 15 = .ok (.iadd, 1) := by decide +kernel
theorem dX12_remember_16 : decode cX12_remember 16 = .ok (.bipush 40, 2) := by decide +kernel
theorem dX12_remember_18 : decode cX12_remember 18 = .ok (.irem, 1) := by decide +kernel
theorem dX12_remember_19 : decode cX12_remember 19 = .ok (.putfield 405, 3) := by decide +kernel
theorem dX12_remember_22 : decode cX12_remember 22 = .ok (.goto 13, 3) := by decide +kernel
theorem dX12_remember_25 : decode cX12_remember 25 = .ok (.aload_n 0, 1) := by decide +kernel
theorem dX12_remember_26 : decode cX12_remember 26 = .ok (.dup, 1) := by decide +kernel
theorem dX12_remember_27 : decode cX12_remember 27 = .ok (.getfield 251, 3) := by decide +kernel
theorem dX12_remember_30 : decode cX12_remember 30 = .ok (.iconst 1, 1) := by decide +kernel
theorem dX12_remember_31 : decode cX12_remember 31 = .ok (.iadd, 1) := by decide +kernel
theorem dX12_remember_32 : decode cX12_remember 32 = .ok (.putfield 251, 3) := by decide +kernel
theorem dX12_remember_35 : decode cX12_remember 35 = .ok (.aload_n 0, 1) := by decide +kernel
theorem dX12_remember_36 : decode cX12_remember 36 = .ok (.getfield 57, 3) := by decide +kernel
theorem dX12_remember_39 : decode cX12_remember 39 = .ok (.iconst 0, 1) := by decide +kernel
theorem dX12_remember_40 : decode cX12_remember 40 = .ok (.aload_n 0, 1) := by decide +kernel
theorem dX12_remember_41 : decode cX12_remember 41 = .ok (.getfield 66, 3) := by decide +kernel
theorem dX12_remember_44 : decode cX12_remember 44 = .ok (.sipush 293, 3) := by decide +kernel
theorem dX12_remember_47 : decode cX12_remember 47 = .ok (.aload_n 0, 1) := by decide +kernel
theorem dX12_remember_48 : decode cX12_remember 48 = .ok (.getfield 405, 3) := by decide +kernel
theorem dX12_remember_51 : decode cX12_remember 51 = .ok (.aload_n 0, 1) := by decide +kernel
theorem dX12_remember_52 : decode cX12_remember 52 = .ok (.getfield 251, 3) := by decide +kernel
theorem dX12_remember_55 : decode cX12_remember 55 = .ok (.iadd, 1) := by decide +kernel
theorem dX12_remember_56 : decode cX12_remember 56 = .ok (.iconst 1, 1) := by decide +kernel
theorem dX12_remember_57 : decode cX12_remember 57 = .ok (.isub, 1) := by decide +kernel
theorem dX12_remember_58 : decode cX12_remember 58 = .ok (.bipush 40, 2) := by decide +kernel
theorem dX12_remember_60 : decode cX12_remember 60 = .ok (.irem, 1) := by decide +kernel
theorem dX12_remember_61 : decode cX12_remember 61 = .ok (.imul, 1) := by decide +kernel
theorem dX12_remember_62 : decode cX12_remember 62 = .ok (.invokestatic 408, 3) := by decide +kernel
theorem dX12_remember_65 : decode cX12_remember 65 = .ok (.return_, 1) := by decide +kernel
set_option maxHeartbeats 4000000 in
set_option maxRecDepth 100000 in
theorem B_X12_remember_0 {d : Nat} {ro : Nat → Nat} {J : JT} {Z : Option Value → Hp → Prop} (g : xCtx RX12 cX12_remember 1 d 0 0 yX12_remember.name ro J) (hr : xRet cX12_remember none 0 0 Z J) {μ : Hp} {a0 : Nat} {a0_now : Nat} {a0_kept : Nat} (hs_a0 : hS μ a0 = some (15, 65)) (hr_a0_now : hR μ a0 30 = some a0_now) (hr_a0_kept : hR μ a0 33 = some a0_kept)
    (h : ((¬ (hI μ a0 35) = 40 → (∀ v2 : Int32, v2 = ((hI (wI μ a0 35 ((hI μ a0 35) + 1)) a0 34) + (hI (wI μ a0 35 ((hI μ a0 35) + 1)) a0 35)) → xCall d yX12_copyRow cX12_copyRow 5 none [.ref a0_now, .int 0, .ref a0_kept, .int (293 * ((v2 - 1) - (v2 - 1) / 40 * 40))] (wI μ a0 35 ((hI μ a0 35) + 1)) ro (fun r3 μ4 => r3 = none ∧ Z none μ4))) ∧ ((hI μ a0 35) = 40 → (∀ v5 : Int32, v5 = (hI (wI μ a0 34 (((hI μ a0 34) + 1) - ((hI μ a0 34) + 1) / 40 * 40)) a0 34) → (∀ v6 : Int32, v6 = (hI (wI μ a0 34 (((hI μ a0 34) + 1) - ((hI μ a0 34) + 1) / 40 * 40)) a0 35) → xCall d yX12_copyRow cX12_copyRow 5 none [.ref a0_now, .int 0, .ref a0_kept, .int (293 * (((v5 + v6) - 1) - ((v5 + v6) - 1) / 40 * 40))] (wI μ a0 34 (((hI μ a0 34) + 1) - ((hI μ a0 34) + 1) / 40 * 40)) ro (fun r7 μ8 => r7 = none ∧ Z none μ8)))))) :
    J μ 0 0 0 [(0, .ref a0)] [] := by
  refine r_aload_n g dX12_remember_0 rfl ?_
  refine r_getI g fX12_251 rfl hs_a0 dX12_remember_1 ?_
  refine r_bipush g 40 dX12_remember_4 (by decide) ?_
  refine r_icmp_ne g 25 dX12_remember_6 (by decide) (fun c1 => ?_) (fun c1 => ?_)
  · replace h := h.1 c1
    refine r_aload_n g dX12_remember_25 rfl ?_
    refine r_dup g dX12_remember_26 rfl ?_
    refine r_getI g fX12_251 rfl hs_a0 dX12_remember_27 ?_
    refine r_iconst g 1 dX12_remember_30 (by decide) ?_
    refine r_iadd g dX12_remember_31 ?_
    refine r_putI g fX12_251 rfl hs_a0 rfl rfl dX12_remember_32 ?_
    refine r_aload_n g dX12_remember_35 rfl ?_
    refine r_getR g fX12_57 rfl hs_a0 hr_a0_now dX12_remember_36 ?_
    refine r_iconst g 0 dX12_remember_39 (by decide) ?_
    refine r_aload_n g dX12_remember_40 rfl ?_
    refine r_getR g fX12_66 rfl hs_a0 hr_a0_kept dX12_remember_41 ?_
    refine r_sipush g 293 dX12_remember_44 (by decide) ?_
    refine r_aload_n g dX12_remember_47 rfl ?_
    refine r_getI g fX12_405 rfl hs_a0 dX12_remember_48 ?_
    refine r_aload_n g dX12_remember_51 rfl ?_
    refine r_getI g fX12_251 rfl hs_a0 dX12_remember_52 ?_
    refine r_iadd g dX12_remember_55 ?_
    refine r_nmI (fun v2 ev2 => ?_)
    replace h := h v2 ev2
    refine r_iconst g 1 dX12_remember_56 (by decide) ?_
    refine r_isub g dX12_remember_57 ?_
    refine r_bipush g 40 dX12_remember_58 (by decide) ?_
    refine r_irem g (by decide) dX12_remember_60 ?_
    refine r_imul g dX12_remember_61 ?_
    obtain ⟨d1, Z1, hc1, hd1, h1⟩ := h
    refine r_callS (st := []) (As := [.ref a0_now, .int 0, .ref a0_kept, .int (293 * ((v2 - 1) - (v2 - 1) / 40 * 40))]) g sX12_408 iX12_copyRow rfl (Nat.le_of_ble_eq_true rfl) dX12_remember_62 hd1 (Nat.le_refl 0) (Nat.le_refl 0) hc1 (fun r3 μ4 hZ1 => ?_)
    replace h := h1 _ _ hZ1
    clear h1 hc1 hd1 hZ1 Z1 d1
    obtain ⟨rfl, h⟩ := h
    exact hr.1 rfl _ _ _ _ _ dX12_remember_65 (Nat.le_refl 0) (Nat.le_refl 0) h
  · replace h := h.2 c1
    refine r_aload_n g dX12_remember_9 rfl ?_
    refine r_aload_n g dX12_remember_10 rfl ?_
    refine r_getI g fX12_405 rfl hs_a0 dX12_remember_11 ?_
    refine r_iconst g 1 dX12_remember_14 (by decide) ?_
    refine r_iadd g dX12_remember_15 ?_
    refine r_bipush g 40 dX12_remember_16 (by decide) ?_
    refine r_irem g (by decide) dX12_remember_18 ?_
    refine r_putI g fX12_405 rfl hs_a0 rfl rfl dX12_remember_19 ?_
    refine r_goto g 35 dX12_remember_22 (by decide) ?_
    refine r_aload_n g dX12_remember_35 rfl ?_
    refine r_getR g fX12_57 rfl hs_a0 hr_a0_now dX12_remember_36 ?_
    refine r_iconst g 0 dX12_remember_39 (by decide) ?_
    refine r_aload_n g dX12_remember_40 rfl ?_
    refine r_getR g fX12_66 rfl hs_a0 hr_a0_kept dX12_remember_41 ?_
    refine r_sipush g 293 dX12_remember_44 (by decide) ?_
    refine r_aload_n g dX12_remember_47 rfl ?_
    refine r_getI g fX12_405 rfl hs_a0 dX12_remember_48 ?_
    refine r_nmI (fun v5 ev5 => ?_)
    replace h := h v5 ev5
    refine r_aload_n g dX12_remember_51 rfl ?_
    refine r_getI g fX12_251 rfl hs_a0 dX12_remember_52 ?_
    refine r_nmI (fun v6 ev6 => ?_)
    replace h := h v6 ev6
    refine r_iadd g dX12_remember_55 ?_
    refine r_iconst g 1 dX12_remember_56 (by decide) ?_
    refine r_isub g dX12_remember_57 ?_
    refine r_bipush g 40 dX12_remember_58 (by decide) ?_
    refine r_irem g (by decide) dX12_remember_60 ?_
    refine r_imul g dX12_remember_61 ?_
    obtain ⟨d1, Z1, hc1, hd1, h1⟩ := h
    refine r_callS (st := []) (As := [.ref a0_now, .int 0, .ref a0_kept, .int (293 * (((v5 + v6) - 1) - ((v5 + v6) - 1) / 40 * 40))]) g sX12_408 iX12_copyRow rfl (Nat.le_of_ble_eq_true rfl) dX12_remember_62 hd1 (Nat.le_refl 0) (Nat.le_refl 0) hc1 (fun r7 μ8 hZ1 => ?_)
    replace h := h1 _ _ hZ1
    clear h1 hc1 hd1 hZ1 Z1 d1
    obtain ⟨rfl, h⟩ := h
    exact hr.1 rfl _ _ _ _ _ dX12_remember_65 (Nat.le_refl 0) (Nat.le_refl 0) h
theorem I_X12_remember {d : Nat} {ro : Nat → Nat} {Z : Option Value → Hp → Prop} {μ : Hp} {a0 : Nat} (h : ∀ J, xCtx RX12 cX12_remember 1 d 0 0 yX12_remember.name ro J → xRet cX12_remember none 0 0 Z J → J μ 0 0 0 [(0, .ref a0)] []) : xC d yX12_remember cX12_remember 1 none 0 0 [.ref a0] μ ro Z :=
  xC_intro (own := RX12) (lv := [(0, .ref a0)]) (by decide) rfl (Nat.le_of_ble_eq_true rfl) rfl (fun J g hr => r_sub g (lv' := [(0, .ref a0)]) (⟨rfl, trivial⟩) (h J g hr))
theorem dX12_notes_0 : decode cX12_notes 0 = .ok (.aload_n 0, 1) := by decide +kernel
theorem dX12_notes_1 : decode cX12_notes 1 = .ok (.getfield 57, 3) := by decide +kernel
theorem dX12_notes_4 : decode cX12_notes 4 = .ok (.bipush 112, 2) := by decide +kernel
theorem dX12_notes_6 : decode cX12_notes 6 = .ok (.iaload, 1) := by decide +kernel
theorem dX12_notes_7 : decode cX12_notes 7 = .ok (.bipush 60, 2) := by decide +kernel
theorem dX12_notes_9 : decode cX12_notes 9 = .ok (.if_icmp .ne 49, 3) := by decide +kernel
theorem dX12_notes_12 : decode cX12_notes 12 = .ok (.iconst 1, 1) := by decide +kernel
theorem dX12_notes_13 : decode cX12_notes 13 = .ok (.istore_n 2, 1) := by decide +kernel
theorem dX12_notes_14 : decode cX12_notes 14 = .ok (.iload_n 2, 1) := by decide +kernel
theorem dX12_notes_15 : decode cX12_notes 15 = .ok (.sipush 177, 3) := by decide +kernel
theorem dX12_notes_18 : decode cX12_notes 18 = .ok (.if_icmp .gt 29, 3) := by decide +kernel
theorem dX12_notes_21 : decode cX12_notes 21 = .ok (.aload_n 0, 1) := by decide +kernel
theorem dX12_notes_22 : decode cX12_notes 22 = .ok (.getfield 57, 3) := by decide +kernel
theorem dX12_notes_25 : decode cX12_notes 25 = .ok (.bipush 112, 2) := by decide +kernel
theorem dX12_notes_27 : decode cX12_notes 27 = .ok (.iload_n 2, 1) := by decide +kernel
theorem dX12_notes_28 : decode cX12_notes 28 = .ok (.iadd, 1) := by decide +kernel
theorem dX12_notes_29 : decode cX12_notes 29 = .ok (.aload_n 0, 1) := by decide +kernel
theorem dX12_notes_30 : decode cX12_notes 30 = .ok (.getfield 57, 3) := by decide +kernel
theorem dX12_notes_33 : decode cX12_notes 33 = .ok (.bipush 112, 2) := by decide +kernel
theorem dX12_notes_35 : decode cX12_notes 35 = .ok (.iload_n 2, 1) := by decide +kernel
theorem dX12_notes_36 : decode cX12_notes 36 = .ok (.iadd, 1) := by decide +kernel
theorem dX12_notes_37 : decode cX12_notes 37 = .ok (.iconst 3, 1) := by decide +kernel
theorem dX12_notes_38 : decode cX12_notes 38 = .ok (.iadd, 1) := by decide +kernel
theorem dX12_notes_39 : decode cX12_notes 39 = .ok (.iaload, 1) := by decide +kernel
theorem dX12_notes_40 : decode cX12_notes 40 = .ok (.iastore, 1) := by decide +kernel
theorem dX12_notes_41 : decode cX12_notes 41 = .ok (.iinc 2 1, 3) := by decide +kernel
theorem dX12_notes_44 : decode cX12_notes 44 = .ok (.goto (-30), 3) := by decide +kernel
theorem dX12_notes_47 : decode cX12_notes 47 = .ok (.aload_n 0, 1) := by decide +kernel
theorem dX12_notes_48 : decode cX12_notes 48 = .ok (.getfield 57, 3) := by decide +kernel
theorem dX12_notes_51 : decode cX12_notes 51 = .ok (.bipush 112, 2) := by decide +kernel
theorem dX12_notes_53 : decode cX12_notes 53 = .ok (.dup2, 1) := by decide +kernel
theorem dX12_notes_54 : decode cX12_notes 54 = .ok (.iaload, 1) := by decide +kernel
theorem dX12_notes_55 : decode cX12_notes 55 = .ok (.iconst 1, 1) := by decide +kernel
theorem dX12_notes_56 : decode cX12_notes 56 = .ok (.isub, 1) := by decide +kernel
theorem dX12_notes_57 : decode cX12_notes 57 = .ok (.iastore, 1) := by decide +kernel
theorem dX12_notes_58 : decode cX12_notes 58 = .ok (.bipush 113, 2) := by decide +kernel
theorem dX12_notes_60 : decode cX12_notes 60 = .ok (.iconst 3, 1) := by decide +kernel
theorem dX12_notes_61 : decode cX12_notes 61 = .ok (.aload_n 0, 1) := by decide +kernel
theorem dX12_notes_62 : decode cX12_notes 62 = .ok (.getfield 57, 3) := by decide +kernel
theorem dX12_notes_65 : decode cX12_notes 65 = .ok (.bipush 112, 2) := by decide +kernel
theorem dX12_notes_67 : decode cX12_notes 67 = .ok (.iaload, 1) := by decide +kernel
theorem dX12_notes_68 : decode cX12_notes 68 = .ok (.imul, 1) := by decide +kernel
theorem dX12_notes_69 : decode cX12_notes 69 = .ok (.iadd, 1) := by decide +kernel
theorem dX12_notes_70 : decode cX12_notes 70 = .ok (.istore_n 2, 1) := by decide +kernel
theorem dX12_notes_71 : decode cX12_notes 71 = .ok (.aload_n 0, 1) := by decide +kernel
theorem dX12_notes_72 : decode cX12_notes 72 = .ok (.getfield 57, 3) := by decide +kernel
theorem dX12_notes_75 : decode cX12_notes 75 = .ok (.iload_n 2, 1) := by decide +kernel
theorem dX12_notes_76 : decode cX12_notes 76 = .ok (.iload_n 1, 1) := by decide +kernel
theorem dX12_notes_77 : decode cX12_notes 77 = .ok (.iastore, 1) := by decide +kernel
theorem dX12_notes_78 : decode cX12_notes 78 = .ok (.aload_n 0, 1) := by decide +kernel
theorem dX12_notes_79 : decode cX12_notes 79 = .ok (.getfield 57, 3) := by decide +kernel
theorem dX12_notes_82 : decode cX12_notes 82 = .ok (.iload_n 2, 1) := by decide +kernel
theorem dX12_notes_83 : decode cX12_notes 83 = .ok (.iconst 1, 1) := by decide +kernel
theorem dX12_notes_84 : decode cX12_notes 84 = .ok (.iadd, 1) := by decide +kernel
theorem dX12_notes_85 : decode cX12_notes 85 = .ok (.aload_n 0, 1) := by decide +kernel
theorem dX12_notes_86 : decode cX12_notes 86 = .ok (.getfield 388, 3) := by decide +kernel
theorem dX12_notes_89 : decode cX12_notes 89 = .ok (.iastore, 1) := by decide +kernel
theorem dX12_notes_90 : decode cX12_notes 90 = .ok (.aload_n 0, 1) := by decide +kernel
theorem dX12_notes_91 : decode cX12_notes 91 = .ok (.getfield 57, 3) := by decide +kernel
theorem dX12_notes_94 : decode cX12_notes 94 = .ok (.iload_n 2, 1) := by decide +kernel
theorem dX12_notes_95 : decode cX12_notes 95 = .ok (.iconst 2, 1) := by decide +kernel
theorem dX12_notes_96 : decode cX12_notes 96 = .ok (.iadd, 1) := by decide +kernel
theorem dX12_notes_97 : decode cX12_notes 97 = .ok (.aload_n 0, 1) := by decide +kernel
theorem dX12_notes_98 : decode cX12_notes 98 = .ok (.getfield 378, 3) := by decide +kernel
theorem dX12_notes_101 : decode cX12_notes 101 = .ok (.iastore, 1) := by decide +kernel
theorem dX12_notes_102 : decode cX12_notes 102 = .ok (.aload_n 0, 1) := by decide +kernel
theorem dX12_notes_103 : decode cX12_notes 103 = .ok (.getfield 57, 3) := by decide +kernel
theorem dX12_notes_106 : decode cX12_notes 106 = .ok (.bipush 112, 2) := by decide +kernel
theorem dX12_notes_108 : decode cX12_notes 108 = .ok (.dup2, 1) := by decide +kernel
theorem dX12_notes_109 : decode cX12_notes 109 = .ok (.iaload, 1) := by decide +kernel
theorem dX12_notes_110 : decode cX12_notes 110 = .ok (.iconst 1, 1) := by decide +kernel
theorem dX12_notes_111 : decode cX12_notes 111 = .ok (.iadd, 1) := by decide +kernel
theorem dX12_notes_112 : decode cX12_notes 112 = .ok (.iastore, 1) := by decide +kernel
theorem dX12_notes_113 : decode cX12_notes 113 = .ok (.return_, 1) := by decide +kernel
set_option maxHeartbeats 4000000 in
set_option maxRecDepth 100000 in
theorem B_X12_notes_0 {d : Nat} {ro : Nat → Nat} {J : JT} {Z : Option Value → Hp → Prop} (g : xCtx RX12 cX12_notes 3 d 0 0 yX12_notes.name ro J) (hr : xRet cX12_notes none 0 0 Z J) {μ : Hp} {a0 : Nat} {x1 : Int32} {a0_now : Nat} {N_a0_now : Nat} (hs_a0 : hS μ a0 = some (15, 65)) (hr_a0_now : hR μ a0 30 = some a0_now) (hs_a0_now : hS μ a0_now = some (0, N_a0_now))
    (h : vp_in 112 N_a0_now ∧ ((¬ (hI μ a0_now 112) = 60 → J μ 0 0 58 [(0, .ref a0), (1, .int x1)] []) ∧ ((hI μ a0_now 112) = 60 → J μ 0 0 14 [(0, .ref a0), (1, .int x1), (2, .int 1)] []))) :
    J μ 0 0 0 [(0, .ref a0), (1, .int x1)] [] := by
  refine r_aload_n g dX12_notes_0 rfl ?_
  refine r_getR g fX12_57 rfl hs_a0 hr_a0_now dX12_notes_1 ?_
  refine r_bipush g 112 dX12_notes_4 (by decide) ?_
  obtain ⟨hi1, h⟩ := h
  refine r_iaload g hs_a0_now hi1 dX12_notes_6 ?_
  refine r_bipush g 60 dX12_notes_7 (by decide) ?_
  refine r_icmp_ne g 58 dX12_notes_9 (by decide) (fun c2 => ?_) (fun c2 => ?_)
  · replace h := h.1 c2
    refine r_sub g (lv' := [(0, .ref a0), (1, .int x1)]) (⟨rfl, rfl, trivial⟩) ?_
    exact h
  · replace h := h.2 c2
    refine r_iconst g 1 dX12_notes_12 (by decide) ?_
    refine r_istore_n g [(2, .int 1), (0, .ref a0), (1, .int x1)] dX12_notes_13 (by decide) rfl ?_
    refine r_sub g (lv' := [(0, .ref a0), (1, .int x1), (2, .int 1)]) (⟨rfl, rfl, rfl, trivial⟩) ?_
    exact h
set_option maxHeartbeats 4000000 in
set_option maxRecDepth 100000 in
theorem B_X12_notes_14 {d : Nat} {ro : Nat → Nat} {J : JT} {Z : Option Value → Hp → Prop} (g : xCtx RX12 cX12_notes 3 d 0 0 yX12_notes.name ro J) (hr : xRet cX12_notes none 0 0 Z J) {μ : Hp} {a0 : Nat} {x1 : Int32} {x2 : Int32} {a0_now : Nat} {N_a0_now : Nat} (hs_a0 : hS μ a0 = some (15, 65)) (hr_a0_now : hR μ a0 30 = some a0_now) (hs_a0_now : hS μ a0_now = some (0, N_a0_now))
    (h : ((177 < x2 → vp_in 112 N_a0_now ∧ J (wI μ a0_now 112 ((hI μ a0_now 112) - 1)) 0 0 58 [(0, .ref a0), (1, .int x1)] []) ∧ (¬ 177 < x2 → vp_in ((112 + x2) + 3) N_a0_now ∧ vp_in (112 + x2) N_a0_now ∧ J (wI μ a0_now ((112 + x2).toNatClampNeg) (hI μ a0_now (((112 + x2) + 3).toNatClampNeg))) 0 0 14 [(0, .ref a0), (1, .int x1), (2, .int (x2 + 1))] []))) :
    J μ 0 0 14 [(0, .ref a0), (1, .int x1), (2, .int x2)] [] := by
  refine r_iload_n g dX12_notes_14 rfl ?_
  refine r_sipush g 177 dX12_notes_15 (by decide) ?_
  refine r_icmp_gt g 47 dX12_notes_18 (by decide) (fun c1 => ?_) (fun c1 => ?_)
  · replace h := h.1 c1
    refine r_aload_n g dX12_notes_47 rfl ?_
    refine r_getR g fX12_57 rfl hs_a0 hr_a0_now dX12_notes_48 ?_
    refine r_bipush g 112 dX12_notes_51 (by decide) ?_
    refine r_dup2_11 g dX12_notes_53 rfl rfl ?_
    obtain ⟨hi2, h⟩ := h
    refine r_iaload g hs_a0_now hi2 dX12_notes_54 ?_
    refine r_iconst g 1 dX12_notes_55 (by decide) ?_
    refine r_isub g dX12_notes_56 ?_
    refine r_iastore g hs_a0_now hi2 dX12_notes_57 ?_
    refine r_sub g (lv' := [(0, .ref a0), (1, .int x1)]) (⟨rfl, rfl, trivial⟩) ?_
    exact h
  · replace h := h.2 c1
    refine r_aload_n g dX12_notes_21 rfl ?_
    refine r_getR g fX12_57 rfl hs_a0 hr_a0_now dX12_notes_22 ?_
    refine r_bipush g 112 dX12_notes_25 (by decide) ?_
    refine r_iload_n g dX12_notes_27 rfl ?_
    refine r_iadd g dX12_notes_28 ?_
    refine r_aload_n g dX12_notes_29 rfl ?_
    refine r_getR g fX12_57 rfl hs_a0 hr_a0_now dX12_notes_30 ?_
    refine r_bipush g 112 dX12_notes_33 (by decide) ?_
    refine r_iload_n g dX12_notes_35 rfl ?_
    refine r_iadd g dX12_notes_36 ?_
    refine r_iconst g 3 dX12_notes_37 (by decide) ?_
    refine r_iadd g dX12_notes_38 ?_
    obtain ⟨hi3, h⟩ := h
    refine r_iaload g hs_a0_now hi3 dX12_notes_39 ?_
    obtain ⟨hi4, h⟩ := h
    refine r_iastore g hs_a0_now hi4 dX12_notes_40 ?_
    refine r_iinc g (x2 + 1) [(2, .int (x2 + 1)), (0, .ref a0), (1, .int x1)] dX12_notes_41 rfl rfl (by decide) rfl ?_
    refine r_goto g 14 dX12_notes_44 (by decide) ?_
    refine r_sub g (lv' := [(0, .ref a0), (1, .int x1), (2, .int (x2 + 1))]) (⟨rfl, rfl, rfl, trivial⟩) ?_
    exact h
set_option maxHeartbeats 4000000 in
set_option maxRecDepth 100000 in
theorem B_X12_notes_58 {d : Nat} {ro : Nat → Nat} {J : JT} {Z : Option Value → Hp → Prop} (g : xCtx RX12 cX12_notes 3 d 0 0 yX12_notes.name ro J) (hr : xRet cX12_notes none 0 0 Z J) {μ : Hp} {a0 : Nat} {x1 : Int32} {a0_now : Nat} {N_a0_now : Nat} (hs_a0 : hS μ a0 = some (15, 65)) (hr_a0_now : hR μ a0 30 = some a0_now) (hs_a0_now : hS μ a0_now = some (0, N_a0_now))
    (h : vp_in 112 N_a0_now ∧ vp_in (113 + (3 * (hI μ a0_now 112))) N_a0_now ∧ (∀ v3 : Int32, v3 = (hI (wI μ a0_now ((113 + (3 * (hI μ a0_now 112))).toNatClampNeg) x1) a0 60) → vp_in ((113 + (3 * (hI μ a0_now 112))) + 1) N_a0_now ∧ (∀ v5 : Int32, v5 = (hI (wI (wI μ a0_now ((113 + (3 * (hI μ a0_now 112))).toNatClampNeg) x1) a0_now (((113 + (3 * (hI μ a0_now 112))) + 1).toNatClampNeg) v3) a0 61) → vp_in ((113 + (3 * (hI μ a0_now 112))) + 2) N_a0_now ∧ (∀ v7 : Int32, v7 = (hI (wI (wI (wI μ a0_now ((113 + (3 * (hI μ a0_now 112))).toNatClampNeg) x1) a0_now (((113 + (3 * (hI μ a0_now 112))) + 1).toNatClampNeg) v3) a0_now (((113 + (3 * (hI μ a0_now 112))) + 2).toNatClampNeg) v5) a0_now 112) → Z none (wI (wI (wI (wI μ a0_now ((113 + (3 * (hI μ a0_now 112))).toNatClampNeg) x1) a0_now (((113 + (3 * (hI μ a0_now 112))) + 1).toNatClampNeg) v3) a0_now (((113 + (3 * (hI μ a0_now 112))) + 2).toNatClampNeg) v5) a0_now 112 (v7 + 1)))))) :
    J μ 0 0 58 [(0, .ref a0), (1, .int x1)] [] := by
  refine r_bipush g 113 dX12_notes_58 (by decide) ?_
  refine r_iconst g 3 dX12_notes_60 (by decide) ?_
  refine r_aload_n g dX12_notes_61 rfl ?_
  refine r_getR g fX12_57 rfl hs_a0 hr_a0_now dX12_notes_62 ?_
  refine r_bipush g 112 dX12_notes_65 (by decide) ?_
  obtain ⟨hi1, h⟩ := h
  refine r_iaload g hs_a0_now hi1 dX12_notes_67 ?_
  refine r_imul g dX12_notes_68 ?_
  refine r_iadd g dX12_notes_69 ?_
  refine r_istore_n g [(2, .int (113 + (3 * (hI μ a0_now 112)))), (0, .ref a0), (1, .int x1)] dX12_notes_70 (by decide) rfl ?_
  refine r_aload_n g dX12_notes_71 rfl ?_
  refine r_getR g fX12_57 rfl hs_a0 hr_a0_now dX12_notes_72 ?_
  refine r_iload_n g dX12_notes_75 rfl ?_
  refine r_iload_n g dX12_notes_76 rfl ?_
  obtain ⟨hi2, h⟩ := h
  refine r_iastore g hs_a0_now hi2 dX12_notes_77 ?_
  refine r_aload_n g dX12_notes_78 rfl ?_
  refine r_getR g fX12_57 rfl hs_a0 hr_a0_now dX12_notes_79 ?_
  refine r_iload_n g dX12_notes_82 rfl ?_
  refine r_iconst g 1 dX12_notes_83 (by decide) ?_
  refine r_iadd g dX12_notes_84 ?_
  refine r_aload_n g dX12_notes_85 rfl ?_
  refine r_getI g fX12_388 rfl hs_a0 dX12_notes_86 ?_
  refine r_nmI (fun v3 ev3 => ?_)
  replace h := h v3 ev3
  obtain ⟨hi4, h⟩ := h
  refine r_iastore g hs_a0_now hi4 dX12_notes_89 ?_
  refine r_aload_n g dX12_notes_90 rfl ?_
  refine r_getR g fX12_57 rfl hs_a0 hr_a0_now dX12_notes_91 ?_
  refine r_iload_n g dX12_notes_94 rfl ?_
  refine r_iconst g 2 dX12_notes_95 (by decide) ?_
  refine r_iadd g dX12_notes_96 ?_
  refine r_aload_n g dX12_notes_97 rfl ?_
  refine r_getI g fX12_378 rfl hs_a0 dX12_notes_98 ?_
  refine r_nmI (fun v5 ev5 => ?_)
  replace h := h v5 ev5
  obtain ⟨hi6, h⟩ := h
  refine r_iastore g hs_a0_now hi6 dX12_notes_101 ?_
  refine r_aload_n g dX12_notes_102 rfl ?_
  refine r_getR g fX12_57 rfl hs_a0 hr_a0_now dX12_notes_103 ?_
  refine r_bipush g 112 dX12_notes_106 (by decide) ?_
  refine r_dup2_11 g dX12_notes_108 rfl rfl ?_
  refine r_iaload g hs_a0_now hi1 dX12_notes_109 ?_
  refine r_nmI (fun v7 ev7 => ?_)
  replace h := h v7 ev7
  refine r_iconst g 1 dX12_notes_110 (by decide) ?_
  refine r_iadd g dX12_notes_111 ?_
  refine r_iastore g hs_a0_now hi1 dX12_notes_112 ?_
  exact hr.1 rfl _ _ _ _ _ dX12_notes_113 (Nat.le_refl 0) (Nat.le_refl 0) h
theorem I_X12_notes {d : Nat} {ro : Nat → Nat} {Z : Option Value → Hp → Prop} {μ : Hp} {a0 : Nat} {x1 : Int32} (h : ∀ J, xCtx RX12 cX12_notes 3 d 0 0 yX12_notes.name ro J → xRet cX12_notes none 0 0 Z J → J μ 0 0 0 [(0, .ref a0), (1, .int x1)] []) : xC d yX12_notes cX12_notes 3 none 0 0 [.ref a0, .int x1] μ ro Z :=
  xC_intro (own := RX12) (lv := [(0, .ref a0), (1, .int x1)]) (by decide) rfl (Nat.le_of_ble_eq_true rfl) rfl (fun J g hr => r_sub g (lv' := [(0, .ref a0), (1, .int x1)]) (⟨rfl, rfl, trivial⟩) (h J g hr))
theorem dX12_tries_0 : decode cX12_tries 0 = .ok (.aload_n 0, 1) := by decide +kernel
theorem dX12_tries_1 : decode cX12_tries 1 = .ok (.aload_n 0, 1) := by decide +kernel
theorem dX12_tries_2 : decode cX12_tries 2 = .ok (.getfield 57, 3) := by decide +kernel
theorem dX12_tries_5 : decode cX12_tries 5 = .ok (.iload_n 1, 1) := by decide +kernel
theorem dX12_tries_6 : decode cX12_tries 6 = .ok (.iload_n 2, 1) := by decide +kernel
theorem dX12_tries_7 : decode cX12_tries 7 = .ok (.iload_n 3, 1) := by decide +kernel
theorem dX12_tries_8 : decode cX12_tries 8 = .ok (.iload 4, 2) := by decide +kernel
theorem dX12_tries_10 : decode cX12_tries 10 = .ok (.iload 5, 2) := by decide +kernel
theorem dX12_tries_12 : decode cX12_tries 12 = .ok (.invokevirtual 412, 3) := by decide +kernel
theorem dX12_tries_15 : decode cX12_tries 15 = .ok (.istore 6, 2) := by decide +kernel
theorem dX12_tries_17 : decode cX12_tries 17 = .ok (.iload 6, 2) := by decide +kernel
theorem dX12_tries_19 : decode cX12_tries 19 = .ok (.iconst (-1), 1) := by decide +kernel
theorem dX12_tries_20 : decode cX12_tries 20 = .ok (.if_icmp .eq 6, 3) := by decide +kernel
theorem dX12_tries_23 : decode cX12_tries 23 = .ok (.iload 6, 2) := by decide +kernel
theorem dX12_tries_25 : decode cX12_tries 25 = .ok (.ireturn, 1) := by decide +kernel
theorem dX12_tries_26 : decode cX12_tries 26 = .ok (.aload_n 0, 1) := by decide +kernel
theorem dX12_tries_27 : decode cX12_tries 27 = .ok (.invokevirtual 415, 3) := by decide +kernel
theorem dX12_tries_30 : decode cX12_tries 30 = .ok (.aload_n 0, 1) := by decide +kernel
theorem dX12_tries_31 : decode cX12_tries 31 = .ok (.aload_n 0, 1) := by decide +kernel
theorem dX12_tries_32 : decode cX12_tries 32 = .ok (.getfield 57, 3) := by decide +kernel
theorem dX12_tries_35 : decode cX12_tries 35 = .ok (.iload_n 1, 1) := by decide +kernel
theorem dX12_tries_36 : decode cX12_tries 36 = .ok (.iload_n 2, 1) := by decide +kernel
theorem dX12_tries_37 : decode cX12_tries 37 = .ok (.iload_n 3, 1) := by decide +kernel
theorem dX12_tries_38 : decode cX12_tries 38 = .ok (.iload 4, 2) := by decide +kernel
theorem dX12_tries_40 : decode cX12_tries 40 = .ok (.iload 5, 2) := by decide +kernel
theorem dX12_tries_42 : decode cX12_tries 42 = .ok (.invokevirtual 418, 3) := by decide +kernel
theorem dX12_tries_45 : decode cX12_tries 45 = .ok (.aload_n 0, 1) := by decide +kernel
theorem dX12_tries_46 : decode cX12_tries 46 = .ok (.iload_n 1, 1) := by decide +kernel
theorem dX12_tries_47 : decode cX12_tries 47 = .ok (.invokevirtual 421, 3) := by decide +kernel
theorem dX12_tries_50 : decode cX12_tries 50 = .ok (.iconst (-1), 1) := by decide +kernel
theorem dX12_tries_51 : decode cX12_tries 51 = .ok (.ireturn, 1) := by decide +kernel
set_option maxHeartbeats 4000000 in
set_option maxRecDepth 100000 in
theorem B_X12_tries_0 {d : Nat} {ro : Nat → Nat} {J : JT} {Z : Option Value → Hp → Prop} (g : xCtx RX12 cX12_tries 7 d 0 0 yX12_tries.name ro J) (hr : xRet cX12_tries (some .int) 0 0 Z J) {μ : Hp} {a0 : Nat} {x1 : Int32} {x2 : Int32} {x3 : Int32} {x4 : Int32} {x5 : Int32} {a0_now : Nat} (hs_a0 : hS μ a0 = some (15, 65)) (hr_a0_now : hR μ a0 30 = some a0_now)
    (h : xCall d yX12_stops cX12_stops 7 (some .int) [.ref a0, .ref a0_now, .int x1, .int x2, .int x3, .int x4, .int x5] μ ro (fun r1 μ2 => ∃ y3 : Int32, r1 = some (.int y3) ∧ ((y3 = (-1) → hS μ2 a0 = some (15, 65) ∧ xCall d yX12_remember cX12_remember 1 none [.ref a0] μ2 ro (fun r5 μ6 => r5 = none ∧ hS μ6 a0 = some (15, 65) ∧ ∃ now_7 : Nat, hR μ6 a0 30 = some now_7 ∧ xCall d yX12_does cX12_does 7 none [.ref a0, .ref now_7, .int x1, .int x2, .int x3, .int x4, .int x5] μ6 ro (fun r8 μ9 => r8 = none ∧ hS μ9 a0 = some (15, 65) ∧ xCall d yX12_notes cX12_notes 3 none [.ref a0, .int x1] μ9 ro (fun r10 μ11 => r10 = none ∧ Z (some (.int (-1))) μ11)))) ∧ (¬ y3 = (-1) → Z (some (.int y3)) μ2)))) :
    J μ 0 0 0 [(0, .ref a0), (1, .int x1), (2, .int x2), (3, .int x3), (4, .int x4), (5, .int x5)] [] := by
  refine r_aload_n g dX12_tries_0 rfl ?_
  refine r_aload_n g dX12_tries_1 rfl ?_
  refine r_getR g fX12_57 rfl hs_a0 hr_a0_now dX12_tries_2 ?_
  refine r_iload_n g dX12_tries_5 rfl ?_
  refine r_iload_n g dX12_tries_6 rfl ?_
  refine r_iload_n g dX12_tries_7 rfl ?_
  refine r_iload g dX12_tries_8 rfl ?_
  refine r_iload g dX12_tries_10 rfl ?_
  obtain ⟨d1, Z1, hc1, hd1, h1⟩ := h
  refine r_callV (st := []) (As := [.ref a0_now, .int x1, .int x2, .int x3, .int x4, .int x5]) g sX12_412 iX12_stops eX12_stops rfl hs_a0 rfl (Nat.le_of_ble_eq_true rfl) dX12_tries_12 hd1 (Nat.le_refl 0) (Nat.le_refl 0) hc1 (fun r1 μ2 hZ1 => ?_)
  replace h := h1 _ _ hZ1
  clear h1 hc1 hd1 hZ1 Z1 d1
  obtain ⟨y3, rfl, h⟩ := h
  refine r_istore g [(6, .int y3), (0, .ref a0), (1, .int x1), (2, .int x2), (3, .int x3), (4, .int x4), (5, .int x5)] dX12_tries_15 (by decide) rfl ?_
  refine r_iload g dX12_tries_17 rfl ?_
  refine r_iconst g (-1) dX12_tries_19 (by decide) ?_
  refine r_icmp_eq g 26 dX12_tries_20 (by decide) (fun c4 => ?_) (fun c4 => ?_)
  · replace h := h.1 c4
    refine r_aload_n g dX12_tries_26 rfl ?_
    obtain ⟨hs_a0_, h⟩ := h
    obtain ⟨d1, Z1, hc1, hd1, h1⟩ := h
    refine r_callV (st := []) (As := []) g sX12_415 iX12_remember eX12_remember rfl hs_a0_ rfl (Nat.le_of_ble_eq_true rfl) dX12_tries_27 hd1 (Nat.le_refl 0) (Nat.le_refl 0) hc1 (fun r5 μ6 hZ1 => ?_)
    replace h := h1 _ _ hZ1
    clear h1 hc1 hd1 hZ1 Z1 d1
    obtain ⟨rfl, h⟩ := h
    refine r_aload_n g dX12_tries_30 rfl ?_
    refine r_aload_n g dX12_tries_31 rfl ?_
    obtain ⟨hs_a0__, h⟩ := h
    obtain ⟨now_7, hr_now_7, h⟩ := h
    refine r_getR g fX12_57 rfl hs_a0__ hr_now_7 dX12_tries_32 ?_
    refine r_iload_n g dX12_tries_35 rfl ?_
    refine r_iload_n g dX12_tries_36 rfl ?_
    refine r_iload_n g dX12_tries_37 rfl ?_
    refine r_iload g dX12_tries_38 rfl ?_
    refine r_iload g dX12_tries_40 rfl ?_
    obtain ⟨d1, Z1, hc1, hd1, h1⟩ := h
    refine r_callV (st := []) (As := [.ref now_7, .int x1, .int x2, .int x3, .int x4, .int x5]) g sX12_418 iX12_does eX12_does rfl hs_a0__ rfl (Nat.le_of_ble_eq_true rfl) dX12_tries_42 hd1 (Nat.le_refl 0) (Nat.le_refl 0) hc1 (fun r8 μ9 hZ1 => ?_)
    replace h := h1 _ _ hZ1
    clear h1 hc1 hd1 hZ1 Z1 d1
    obtain ⟨rfl, h⟩ := h
    refine r_aload_n g dX12_tries_45 rfl ?_
    refine r_iload_n g dX12_tries_46 rfl ?_
    obtain ⟨hs_a0___, h⟩ := h
    obtain ⟨d1, Z1, hc1, hd1, h1⟩ := h
    refine r_callV (st := []) (As := [.int x1]) g sX12_421 iX12_notes eX12_notes rfl hs_a0___ rfl (Nat.le_of_ble_eq_true rfl) dX12_tries_47 hd1 (Nat.le_refl 0) (Nat.le_refl 0) hc1 (fun r10 μ11 hZ1 => ?_)
    replace h := h1 _ _ hZ1
    clear h1 hc1 hd1 hZ1 Z1 d1
    obtain ⟨rfl, h⟩ := h
    refine r_iconst g (-1) dX12_tries_50 (by decide) ?_
    exact hr.2.1 _ rfl _ _ _ _ _ _ dX12_tries_51 rfl (Nat.le_refl 0) (Nat.le_refl 0) h
  · replace h := h.2 c4
    refine r_iload g dX12_tries_23 rfl ?_
    exact hr.2.1 _ rfl _ _ _ _ _ _ dX12_tries_25 rfl (Nat.le_refl 0) (Nat.le_refl 0) h
theorem I_X12_tries {d : Nat} {ro : Nat → Nat} {Z : Option Value → Hp → Prop} {μ : Hp} {a0 : Nat} {x1 : Int32} {x2 : Int32} {x3 : Int32} {x4 : Int32} {x5 : Int32} (h : ∀ J, xCtx RX12 cX12_tries 7 d 0 0 yX12_tries.name ro J → xRet cX12_tries (some .int) 0 0 Z J → J μ 0 0 0 [(0, .ref a0), (1, .int x1), (2, .int x2), (3, .int x3), (4, .int x4), (5, .int x5)] []) : xC d yX12_tries cX12_tries 7 (some .int) 0 0 [.ref a0, .int x1, .int x2, .int x3, .int x4, .int x5] μ ro Z :=
  xC_intro (own := RX12) (lv := [(0, .ref a0), (1, .int x1), (2, .int x2), (3, .int x3), (4, .int x4), (5, .int x5)]) (by decide) rfl (Nat.le_of_ble_eq_true rfl) rfl (fun J g hr => r_sub g (lv' := [(0, .ref a0), (1, .int x1), (2, .int x2), (3, .int x3), (4, .int x4), (5, .int x5)]) (⟨rfl, rfl, rfl, rfl, rfl, rfl, trivial⟩) (h J g hr))
theorem dX12_act_0 : decode cX12_act 0 = .ok (.aload_n 0, 1) := by decide +kernel
theorem dX12_act_1 : decode cX12_act 1 = .ok (.iconst 0, 1) := by decide +kernel
theorem dX12_act_2 : decode cX12_act 2 = .ok (.putfield 106, 3) := by decide +kernel
theorem dX12_act_5 : decode cX12_act 5 = .ok (.aload_n 0, 1) := by decide +kernel
theorem dX12_act_6 : decode cX12_act 6 = .ok (.iload_n 1, 1) := by decide +kernel
theorem dX12_act_7 : decode cX12_act 7 = .ok (.iload_n 2, 1) := by decide +kernel
theorem dX12_act_8 : decode cX12_act 8 = .ok (.iload_n 3, 1) := by decide +kernel
theorem dX12_act_9 : decode cX12_act 9 = .ok (.iload 4, 2) := by decide +kernel
theorem dX12_act_11 : decode cX12_act 11 = .ok (.iload 5, 2) := by decide +kernel
theorem dX12_act_13 : decode cX12_act 13 = .ok (.invokevirtual 424, 3) := by decide +kernel
theorem dX12_act_16 : decode cX12_act 16 = .ok (.istore 6, 2) := by decide +kernel
theorem dX12_act_18 : decode cX12_act 18 = .ok (.iload 6, 2) := by decide +kernel
theorem dX12_act_20 : decode cX12_act 20 = .ok (.iconst (-1), 1) := by decide +kernel
theorem dX12_act_21 : decode cX12_act 21 = .ok (.if_icmp .ne 8, 3) := by decide +kernel
theorem dX12_act_24 : decode cX12_act 24 = .ok (.aload_n 0, 1) := by decide +kernel
theorem dX12_act_25 : decode cX12_act 25 = .ok (.getfield 385, 3) := by decide +kernel
theorem dX12_act_28 : decode cX12_act 28 = .ok (.ireturn, 1) := by decide +kernel
theorem dX12_act_29 : decode cX12_act 29 = .ok (.aload_n 0, 1) := by decide +kernel
theorem dX12_act_30 : decode cX12_act 30 = .ok (.getfield 35, 3) := by decide +kernel
theorem dX12_act_33 : decode cX12_act 33 = .ok (.iload 6, 2) := by decide +kernel
theorem dX12_act_35 : decode cX12_act 35 = .ok (.dup2, 1) := by decide +kernel
theorem dX12_act_36 : decode cX12_act 36 = .ok (.iaload, 1) := by decide +kernel
theorem dX12_act_37 : decode cX12_act 37 = .ok (.iconst 1, 1) := by decide +kernel
theorem dX12_act_38 : decode cX12_act 38 = .ok (.iadd, 1) := by decide +kernel
theorem dX12_act_39 : decode cX12_act 39 = .ok (.iastore, 1) := by decide +kernel
theorem dX12_act_40 : decode cX12_act 40 = .ok (.iconst (-1), 1) := by decide +kernel
theorem dX12_act_41 : decode cX12_act 41 = .ok (.ireturn, 1) := by decide +kernel
set_option maxHeartbeats 4000000 in
set_option maxRecDepth 100000 in
theorem B_X12_act_0 {d : Nat} {ro : Nat → Nat} {J : JT} {Z : Option Value → Hp → Prop} (g : xCtx RX12 cX12_act 7 d 0 0 yX12_act.name ro J) (hr : xRet cX12_act (some .int) 0 0 Z J) {μ : Hp} {a0 : Nat} {x1 : Int32} {x2 : Int32} {x3 : Int32} {x4 : Int32} {x5 : Int32} (hs_a0 : hS μ a0 = some (15, 65))
    (h : xCall d yX12_tries cX12_tries 7 (some .int) [.ref a0, .int x1, .int x2, .int x3, .int x4, .int x5] (wI μ a0 0 0) ro (fun r1 μ2 => ∃ y3 : Int32, r1 = some (.int y3) ∧ ((¬ y3 = (-1) → hS μ2 a0 = some (15, 65) ∧ ∃ status_5 : Nat, hR μ2 a0 14 = some status_5 ∧ ∃ N6 : Nat, hS μ2 status_5 = some (0, N6) ∧ vp_in y3 N6 ∧ Z (some (.int (-1))) (wI μ2 status_5 y3.toNatClampNeg ((hI μ2 status_5 y3.toNatClampNeg) + 1))) ∧ (y3 = (-1) → hS μ2 a0 = some (15, 65) ∧ Z (some (.int (hI μ2 a0 59))) μ2)))) :
    J μ 0 0 0 [(0, .ref a0), (1, .int x1), (2, .int x2), (3, .int x3), (4, .int x4), (5, .int x5)] [] := by
  refine r_aload_n g dX12_act_0 rfl ?_
  refine r_iconst g 0 dX12_act_1 (by decide) ?_
  refine r_putI g fX12_106 rfl hs_a0 rfl rfl dX12_act_2 ?_
  refine r_aload_n g dX12_act_5 rfl ?_
  refine r_iload_n g dX12_act_6 rfl ?_
  refine r_iload_n g dX12_act_7 rfl ?_
  refine r_iload_n g dX12_act_8 rfl ?_
  refine r_iload g dX12_act_9 rfl ?_
  refine r_iload g dX12_act_11 rfl ?_
  obtain ⟨d1, Z1, hc1, hd1, h1⟩ := h
  refine r_callV (st := []) (As := [.int x1, .int x2, .int x3, .int x4, .int x5]) g sX12_424 iX12_tries eX12_tries rfl hs_a0 rfl (Nat.le_of_ble_eq_true rfl) dX12_act_13 hd1 (Nat.le_refl 0) (Nat.le_refl 0) hc1 (fun r1 μ2 hZ1 => ?_)
  replace h := h1 _ _ hZ1
  clear h1 hc1 hd1 hZ1 Z1 d1
  obtain ⟨y3, rfl, h⟩ := h
  refine r_istore g [(6, .int y3), (0, .ref a0), (1, .int x1), (2, .int x2), (3, .int x3), (4, .int x4), (5, .int x5)] dX12_act_16 (by decide) rfl ?_
  refine r_iload g dX12_act_18 rfl ?_
  refine r_iconst g (-1) dX12_act_20 (by decide) ?_
  refine r_icmp_ne g 29 dX12_act_21 (by decide) (fun c4 => ?_) (fun c4 => ?_)
  · replace h := h.1 c4
    refine r_aload_n g dX12_act_29 rfl ?_
    obtain ⟨hs_a0_, h⟩ := h
    obtain ⟨status_5, hr_status_5, h⟩ := h
    refine r_getR g fX12_35 rfl hs_a0_ hr_status_5 dX12_act_30 ?_
    refine r_iload g dX12_act_33 rfl ?_
    refine r_dup2_11 g dX12_act_35 rfl rfl ?_
    obtain ⟨N6, hs_status_5, h⟩ := h
    obtain ⟨hi7, h⟩ := h
    refine r_iaload g hs_status_5 hi7 dX12_act_36 ?_
    refine r_iconst g 1 dX12_act_37 (by decide) ?_
    refine r_iadd g dX12_act_38 ?_
    refine r_iastore g hs_status_5 hi7 dX12_act_39 ?_
    refine r_iconst g (-1) dX12_act_40 (by decide) ?_
    exact hr.2.1 _ rfl _ _ _ _ _ _ dX12_act_41 rfl (Nat.le_refl 0) (Nat.le_refl 0) h
  · replace h := h.2 c4
    refine r_aload_n g dX12_act_24 rfl ?_
    obtain ⟨hs_a0__, h⟩ := h
    refine r_getI g fX12_385 rfl hs_a0__ dX12_act_25 ?_
    exact hr.2.1 _ rfl _ _ _ _ _ _ dX12_act_28 rfl (Nat.le_refl 0) (Nat.le_refl 0) h
theorem I_X12_act {d : Nat} {ro : Nat → Nat} {Z : Option Value → Hp → Prop} {μ : Hp} {a0 : Nat} {x1 : Int32} {x2 : Int32} {x3 : Int32} {x4 : Int32} {x5 : Int32} (h : ∀ J, xCtx RX12 cX12_act 7 d 0 0 yX12_act.name ro J → xRet cX12_act (some .int) 0 0 Z J → J μ 0 0 0 [(0, .ref a0), (1, .int x1), (2, .int x2), (3, .int x3), (4, .int x4), (5, .int x5)] []) : xC d yX12_act cX12_act 7 (some .int) 0 0 [.ref a0, .int x1, .int x2, .int x3, .int x4, .int x5] μ ro Z :=
  xC_intro (own := RX12) (lv := [(0, .ref a0), (1, .int x1), (2, .int x2), (3, .int x3), (4, .int x4), (5, .int x5)]) (by decide) rfl (Nat.le_of_ble_eq_true rfl) rfl (fun J g hr => r_sub g (lv' := [(0, .ref a0), (1, .int x1), (2, .int x2), (3, .int x3), (4, .int x4), (5, .int x5)]) (⟨rfl, rfl, rfl, rfl, rfl, rfl, trivial⟩) (h J g hr))
theorem dX12_pay_0 : decode cX12_pay 0 = .ok (.aload_n 0, 1) := by decide +kernel
theorem dX12_pay_1 : decode cX12_pay 1 = .ok (.iconst 0, 1) := by decide +kernel
theorem dX12_pay_2 : decode cX12_pay 2 = .ok (.iload_n 1, 1) := by decide +kernel
theorem dX12_pay_3 : decode cX12_pay 3 = .ok (.iload_n 2, 1) := by decide +kernel
theorem dX12_pay_4 : decode cX12_pay 4 = .ok (.iload_n 3, 1) := by decide +kernel
theorem dX12_pay_5 : decode cX12_pay 5 = .ok (.iload 4, 2) := by decide +kernel
theorem dX12_pay_7 : decode cX12_pay 7 = .ok (.invokevirtual 428, 3) := by decide +kernel
theorem dX12_pay_10 : decode cX12_pay 10 = .ok (.ireturn, 1) := by decide +kernel
set_option maxHeartbeats 4000000 in
set_option maxRecDepth 100000 in
theorem B_X12_pay_0 {d : Nat} {ro : Nat → Nat} {J : JT} {Z : Option Value → Hp → Prop} (g : xCtx RX12 cX12_pay 5 d 0 0 yX12_pay.name ro J) (hr : xRet cX12_pay (some .int) 0 0 Z J) {μ : Hp} {a0 : Nat} {x1 : Int32} {x2 : Int32} {x3 : Int32} {x4 : Int32} (hs_a0 : hS μ a0 = some (15, 65))
    (h : xCall d yX12_act cX12_act 7 (some .int) [.ref a0, .int 0, .int x1, .int x2, .int x3, .int x4] μ ro (fun r1 μ2 => ∃ y3 : Int32, r1 = some (.int y3) ∧ Z (some (.int y3)) μ2)) :
    J μ 0 0 0 [(0, .ref a0), (1, .int x1), (2, .int x2), (3, .int x3), (4, .int x4)] [] := by
  refine r_aload_n g dX12_pay_0 rfl ?_
  refine r_iconst g 0 dX12_pay_1 (by decide) ?_
  refine r_iload_n g dX12_pay_2 rfl ?_
  refine r_iload_n g dX12_pay_3 rfl ?_
  refine r_iload_n g dX12_pay_4 rfl ?_
  refine r_iload g dX12_pay_5 rfl ?_
  obtain ⟨d1, Z1, hc1, hd1, h1⟩ := h
  refine r_callV (st := []) (As := [.int 0, .int x1, .int x2, .int x3, .int x4]) g sX12_428 iX12_act eX12_act rfl hs_a0 rfl (Nat.le_of_ble_eq_true rfl) dX12_pay_7 hd1 (Nat.le_refl 0) (Nat.le_refl 0) hc1 (fun r1 μ2 hZ1 => ?_)
  replace h := h1 _ _ hZ1
  clear h1 hc1 hd1 hZ1 Z1 d1
  obtain ⟨y3, rfl, h⟩ := h
  exact hr.2.1 _ rfl _ _ _ _ _ _ dX12_pay_10 rfl (Nat.le_refl 0) (Nat.le_refl 0) h
theorem I_X12_pay {d : Nat} {ro : Nat → Nat} {Z : Option Value → Hp → Prop} {μ : Hp} {a0 : Nat} {x1 : Int32} {x2 : Int32} {x3 : Int32} {x4 : Int32} (h : ∀ J, xCtx RX12 cX12_pay 5 d 0 0 yX12_pay.name ro J → xRet cX12_pay (some .int) 0 0 Z J → J μ 0 0 0 [(0, .ref a0), (1, .int x1), (2, .int x2), (3, .int x3), (4, .int x4)] []) : xC d yX12_pay cX12_pay 5 (some .int) 0 0 [.ref a0, .int x1, .int x2, .int x3, .int x4] μ ro Z :=
  xC_intro (own := RX12) (lv := [(0, .ref a0), (1, .int x1), (2, .int x2), (3, .int x3), (4, .int x4)]) (by decide) rfl (Nat.le_of_ble_eq_true rfl) rfl (fun J g hr => r_sub g (lv' := [(0, .ref a0), (1, .int x1), (2, .int x2), (3, .int x3), (4, .int x4)]) (⟨rfl, rfl, rfl, rfl, rfl, trivial⟩) (h J g hr))
theorem dX12_pass_0 : decode cX12_pass 0 = .ok (.aload_n 0, 1) := by decide +kernel
theorem dX12_pass_1 : decode cX12_pass 1 = .ok (.iconst 1, 1) := by decide +kernel
theorem dX12_pass_2 : decode cX12_pass 2 = .ok (.iload_n 1, 1) := by decide +kernel
theorem dX12_pass_3 : decode cX12_pass 3 = .ok (.iconst 0, 1) := by decide +kernel
theorem dX12_pass_4 : decode cX12_pass 4 = .ok (.iconst 0, 1) := by decide +kernel
theorem dX12_pass_5 : decode cX12_pass 5 = .ok (.iconst 0, 1) := by decide +kernel
theorem dX12_pass_6 : decode cX12_pass 6 = .ok (.invokevirtual 428, 3) := by decide +kernel
theorem dX12_pass_9 : decode cX12_pass 9 = .ok (.ireturn, 1) := by decide +kernel
set_option maxHeartbeats 4000000 in
set_option maxRecDepth 100000 in
theorem B_X12_pass_0 {d : Nat} {ro : Nat → Nat} {J : JT} {Z : Option Value → Hp → Prop} (g : xCtx RX12 cX12_pass 2 d 0 0 yX12_pass.name ro J) (hr : xRet cX12_pass (some .int) 0 0 Z J) {μ : Hp} {a0 : Nat} {x1 : Int32} (hs_a0 : hS μ a0 = some (15, 65))
    (h : xCall d yX12_act cX12_act 7 (some .int) [.ref a0, .int 1, .int x1, .int 0, .int 0, .int 0] μ ro (fun r1 μ2 => ∃ y3 : Int32, r1 = some (.int y3) ∧ Z (some (.int y3)) μ2)) :
    J μ 0 0 0 [(0, .ref a0), (1, .int x1)] [] := by
  refine r_aload_n g dX12_pass_0 rfl ?_
  refine r_iconst g 1 dX12_pass_1 (by decide) ?_
  refine r_iload_n g dX12_pass_2 rfl ?_
  refine r_iconst g 0 dX12_pass_3 (by decide) ?_
  refine r_iconst g 0 dX12_pass_4 (by decide) ?_
  refine r_iconst g 0 dX12_pass_5 (by decide) ?_
  obtain ⟨d1, Z1, hc1, hd1, h1⟩ := h
  refine r_callV (st := []) (As := [.int 1, .int x1, .int 0, .int 0, .int 0]) g sX12_428 iX12_act eX12_act rfl hs_a0 rfl (Nat.le_of_ble_eq_true rfl) dX12_pass_6 hd1 (Nat.le_refl 0) (Nat.le_refl 0) hc1 (fun r1 μ2 hZ1 => ?_)
  replace h := h1 _ _ hZ1
  clear h1 hc1 hd1 hZ1 Z1 d1
  obtain ⟨y3, rfl, h⟩ := h
  exact hr.2.1 _ rfl _ _ _ _ _ _ dX12_pass_9 rfl (Nat.le_refl 0) (Nat.le_refl 0) h
theorem I_X12_pass {d : Nat} {ro : Nat → Nat} {Z : Option Value → Hp → Prop} {μ : Hp} {a0 : Nat} {x1 : Int32} (h : ∀ J, xCtx RX12 cX12_pass 2 d 0 0 yX12_pass.name ro J → xRet cX12_pass (some .int) 0 0 Z J → J μ 0 0 0 [(0, .ref a0), (1, .int x1)] []) : xC d yX12_pass cX12_pass 2 (some .int) 0 0 [.ref a0, .int x1] μ ro Z :=
  xC_intro (own := RX12) (lv := [(0, .ref a0), (1, .int x1)]) (by decide) rfl (Nat.le_of_ble_eq_true rfl) rfl (fun J g hr => r_sub g (lv' := [(0, .ref a0), (1, .int x1)]) (⟨rfl, rfl, trivial⟩) (h J g hr))
theorem dX12_staff_0 : decode cX12_staff 0 = .ok (.aload_n 0, 1) := by decide +kernel
theorem dX12_staff_1 : decode cX12_staff 1 = .ok (.iconst 2, 1) := by decide +kernel
theorem dX12_staff_2 : decode cX12_staff 2 = .ok (.iload_n 1, 1) := by decide +kernel
theorem dX12_staff_3 : decode cX12_staff 3 = .ok (.iload_n 2, 1) := by decide +kernel
theorem dX12_staff_4 : decode cX12_staff 4 = .ok (.iconst 0, 1) := by decide +kernel
theorem dX12_staff_5 : decode cX12_staff 5 = .ok (.iconst 0, 1) := by decide +kernel
theorem dX12_staff_6 : decode cX12_staff 6 = .ok (.invokevirtual 428, 3) := by decide +kernel
theorem dX12_staff_9 : decode cX12_staff 9 = .ok (.ireturn, 1) := by decide +kernel
set_option maxHeartbeats 4000000 in
set_option maxRecDepth 100000 in
theorem B_X12_staff_0 {d : Nat} {ro : Nat → Nat} {J : JT} {Z : Option Value → Hp → Prop} (g : xCtx RX12 cX12_staff 3 d 0 0 yX12_staff.name ro J) (hr : xRet cX12_staff (some .int) 0 0 Z J) {μ : Hp} {a0 : Nat} {x1 : Int32} {x2 : Int32} (hs_a0 : hS μ a0 = some (15, 65))
    (h : xCall d yX12_act cX12_act 7 (some .int) [.ref a0, .int 2, .int x1, .int x2, .int 0, .int 0] μ ro (fun r1 μ2 => ∃ y3 : Int32, r1 = some (.int y3) ∧ Z (some (.int y3)) μ2)) :
    J μ 0 0 0 [(0, .ref a0), (1, .int x1), (2, .int x2)] [] := by
  refine r_aload_n g dX12_staff_0 rfl ?_
  refine r_iconst g 2 dX12_staff_1 (by decide) ?_
  refine r_iload_n g dX12_staff_2 rfl ?_
  refine r_iload_n g dX12_staff_3 rfl ?_
  refine r_iconst g 0 dX12_staff_4 (by decide) ?_
  refine r_iconst g 0 dX12_staff_5 (by decide) ?_
  obtain ⟨d1, Z1, hc1, hd1, h1⟩ := h
  refine r_callV (st := []) (As := [.int 2, .int x1, .int x2, .int 0, .int 0]) g sX12_428 iX12_act eX12_act rfl hs_a0 rfl (Nat.le_of_ble_eq_true rfl) dX12_staff_6 hd1 (Nat.le_refl 0) (Nat.le_refl 0) hc1 (fun r1 μ2 hZ1 => ?_)
  replace h := h1 _ _ hZ1
  clear h1 hc1 hd1 hZ1 Z1 d1
  obtain ⟨y3, rfl, h⟩ := h
  exact hr.2.1 _ rfl _ _ _ _ _ _ dX12_staff_9 rfl (Nat.le_refl 0) (Nat.le_refl 0) h
theorem I_X12_staff {d : Nat} {ro : Nat → Nat} {Z : Option Value → Hp → Prop} {μ : Hp} {a0 : Nat} {x1 : Int32} {x2 : Int32} (h : ∀ J, xCtx RX12 cX12_staff 3 d 0 0 yX12_staff.name ro J → xRet cX12_staff (some .int) 0 0 Z J → J μ 0 0 0 [(0, .ref a0), (1, .int x1), (2, .int x2)] []) : xC d yX12_staff cX12_staff 3 (some .int) 0 0 [.ref a0, .int x1, .int x2] μ ro Z :=
  xC_intro (own := RX12) (lv := [(0, .ref a0), (1, .int x1), (2, .int x2)]) (by decide) rfl (Nat.le_of_ble_eq_true rfl) rfl (fun J g hr => r_sub g (lv' := [(0, .ref a0), (1, .int x1), (2, .int x2)]) (⟨rfl, rfl, rfl, trivial⟩) (h J g hr))
theorem dX12_own_0 : decode cX12_own 0 = .ok (.aload_n 0, 1) := by decide +kernel
theorem dX12_own_1 : decode cX12_own 1 = .ok (.iconst 3, 1) := by decide +kernel
theorem dX12_own_2 : decode cX12_own 2 = .ok (.iload_n 1, 1) := by decide +kernel
theorem dX12_own_3 : decode cX12_own 3 = .ok (.iload_n 2, 1) := by decide +kernel
theorem dX12_own_4 : decode cX12_own 4 = .ok (.iload_n 3, 1) := by decide +kernel
theorem dX12_own_5 : decode cX12_own 5 = .ok (.iconst 0, 1) := by decide +kernel
theorem dX12_own_6 : decode cX12_own 6 = .ok (.invokevirtual 428, 3) := by decide +kernel
theorem dX12_own_9 : decode cX12_own 9 = .ok (.ireturn, 1) := by decide +kernel
set_option maxHeartbeats 4000000 in
set_option maxRecDepth 100000 in
theorem B_X12_own_0 {d : Nat} {ro : Nat → Nat} {J : JT} {Z : Option Value → Hp → Prop} (g : xCtx RX12 cX12_own 4 d 0 0 yX12_own.name ro J) (hr : xRet cX12_own (some .int) 0 0 Z J) {μ : Hp} {a0 : Nat} {x1 : Int32} {x2 : Int32} {x3 : Int32} (hs_a0 : hS μ a0 = some (15, 65))
    (h : xCall d yX12_act cX12_act 7 (some .int) [.ref a0, .int 3, .int x1, .int x2, .int x3, .int 0] μ ro (fun r1 μ2 => ∃ y3 : Int32, r1 = some (.int y3) ∧ Z (some (.int y3)) μ2)) :
    J μ 0 0 0 [(0, .ref a0), (1, .int x1), (2, .int x2), (3, .int x3)] [] := by
  refine r_aload_n g dX12_own_0 rfl ?_
  refine r_iconst g 3 dX12_own_1 (by decide) ?_
  refine r_iload_n g dX12_own_2 rfl ?_
  refine r_iload_n g dX12_own_3 rfl ?_
  refine r_iload_n g dX12_own_4 rfl ?_
  refine r_iconst g 0 dX12_own_5 (by decide) ?_
  obtain ⟨d1, Z1, hc1, hd1, h1⟩ := h
  refine r_callV (st := []) (As := [.int 3, .int x1, .int x2, .int x3, .int 0]) g sX12_428 iX12_act eX12_act rfl hs_a0 rfl (Nat.le_of_ble_eq_true rfl) dX12_own_6 hd1 (Nat.le_refl 0) (Nat.le_refl 0) hc1 (fun r1 μ2 hZ1 => ?_)
  replace h := h1 _ _ hZ1
  clear h1 hc1 hd1 hZ1 Z1 d1
  obtain ⟨y3, rfl, h⟩ := h
  exact hr.2.1 _ rfl _ _ _ _ _ _ dX12_own_9 rfl (Nat.le_refl 0) (Nat.le_refl 0) h
theorem I_X12_own {d : Nat} {ro : Nat → Nat} {Z : Option Value → Hp → Prop} {μ : Hp} {a0 : Nat} {x1 : Int32} {x2 : Int32} {x3 : Int32} (h : ∀ J, xCtx RX12 cX12_own 4 d 0 0 yX12_own.name ro J → xRet cX12_own (some .int) 0 0 Z J → J μ 0 0 0 [(0, .ref a0), (1, .int x1), (2, .int x2), (3, .int x3)] []) : xC d yX12_own cX12_own 4 (some .int) 0 0 [.ref a0, .int x1, .int x2, .int x3] μ ro Z :=
  xC_intro (own := RX12) (lv := [(0, .ref a0), (1, .int x1), (2, .int x2), (3, .int x3)]) (by decide) rfl (Nat.le_of_ble_eq_true rfl) rfl (fun J g hr => r_sub g (lv' := [(0, .ref a0), (1, .int x1), (2, .int x2), (3, .int x3)]) (⟨rfl, rfl, rfl, rfl, trivial⟩) (h J g hr))
theorem dX12_lend_0 : decode cX12_lend 0 = .ok (.aload_n 0, 1) := by decide +kernel
theorem dX12_lend_1 : decode cX12_lend 1 = .ok (.iconst 4, 1) := by decide +kernel
theorem dX12_lend_2 : decode cX12_lend 2 = .ok (.iload_n 1, 1) := by decide +kernel
theorem dX12_lend_3 : decode cX12_lend 3 = .ok (.iload_n 2, 1) := by decide +kernel
theorem dX12_lend_4 : decode cX12_lend 4 = .ok (.iconst 0, 1) := by decide +kernel
theorem dX12_lend_5 : decode cX12_lend 5 = .ok (.iconst 0, 1) := by decide +kernel
theorem dX12_lend_6 : decode cX12_lend 6 = .ok (.invokevirtual 428, 3) := by decide +kernel
theorem dX12_lend_9 : decode cX12_lend 9 = .ok (.ireturn, 1) := by decide +kernel
set_option maxHeartbeats 4000000 in
set_option maxRecDepth 100000 in
theorem B_X12_lend_0 {d : Nat} {ro : Nat → Nat} {J : JT} {Z : Option Value → Hp → Prop} (g : xCtx RX12 cX12_lend 3 d 0 0 yX12_lend.name ro J) (hr : xRet cX12_lend (some .int) 0 0 Z J) {μ : Hp} {a0 : Nat} {x1 : Int32} {x2 : Int32} (hs_a0 : hS μ a0 = some (15, 65))
    (h : xCall d yX12_act cX12_act 7 (some .int) [.ref a0, .int 4, .int x1, .int x2, .int 0, .int 0] μ ro (fun r1 μ2 => ∃ y3 : Int32, r1 = some (.int y3) ∧ Z (some (.int y3)) μ2)) :
    J μ 0 0 0 [(0, .ref a0), (1, .int x1), (2, .int x2)] [] := by
  refine r_aload_n g dX12_lend_0 rfl ?_
  refine r_iconst g 4 dX12_lend_1 (by decide) ?_
  refine r_iload_n g dX12_lend_2 rfl ?_
  refine r_iload_n g dX12_lend_3 rfl ?_
  refine r_iconst g 0 dX12_lend_4 (by decide) ?_
  refine r_iconst g 0 dX12_lend_5 (by decide) ?_
  obtain ⟨d1, Z1, hc1, hd1, h1⟩ := h
  refine r_callV (st := []) (As := [.int 4, .int x1, .int x2, .int 0, .int 0]) g sX12_428 iX12_act eX12_act rfl hs_a0 rfl (Nat.le_of_ble_eq_true rfl) dX12_lend_6 hd1 (Nat.le_refl 0) (Nat.le_refl 0) hc1 (fun r1 μ2 hZ1 => ?_)
  replace h := h1 _ _ hZ1
  clear h1 hc1 hd1 hZ1 Z1 d1
  obtain ⟨y3, rfl, h⟩ := h
  exact hr.2.1 _ rfl _ _ _ _ _ _ dX12_lend_9 rfl (Nat.le_refl 0) (Nat.le_refl 0) h
theorem I_X12_lend {d : Nat} {ro : Nat → Nat} {Z : Option Value → Hp → Prop} {μ : Hp} {a0 : Nat} {x1 : Int32} {x2 : Int32} (h : ∀ J, xCtx RX12 cX12_lend 3 d 0 0 yX12_lend.name ro J → xRet cX12_lend (some .int) 0 0 Z J → J μ 0 0 0 [(0, .ref a0), (1, .int x1), (2, .int x2)] []) : xC d yX12_lend cX12_lend 3 (some .int) 0 0 [.ref a0, .int x1, .int x2] μ ro Z :=
  xC_intro (own := RX12) (lv := [(0, .ref a0), (1, .int x1), (2, .int x2)]) (by decide) rfl (Nat.le_of_ble_eq_true rfl) rfl (fun J g hr => r_sub g (lv' := [(0, .ref a0), (1, .int x1), (2, .int x2)]) (⟨rfl, rfl, rfl, trivial⟩) (h J g hr))
theorem dX12_draw_0 : decode cX12_draw 0 = .ok (.aload_n 0, 1) := by decide +kernel
theorem dX12_draw_1 : decode cX12_draw 1 = .ok (.aload_n 0, 1) := by decide +kernel
theorem dX12_draw_2 : decode cX12_draw 2 = .ok (.getfield 431, 3) := by decide +kernel
theorem dX12_draw_5 : decode cX12_draw 5 = .ok (.ldc2_w 434, 3) := by decide +kernel
theorem dX12_draw_8 : decode cX12_draw 8 = .ok (.lmul, 1) := by decide +kernel
theorem dX12_draw_9 : decode cX12_draw 9 = .ok (.ldc2_w 436, 3) := by decide +kernel
theorem dX12_draw_12 : decode cX12_draw 12 = .ok (.ladd, 1) := by decide +kernel
theorem dX12_draw_13 : decode cX12_draw 13 = .ok (.putfield 431, 3) := by decide +kernel
theorem dX12_draw_16 : decode cX12_draw 16 = .ok (.aload_n 0, 1) := by decide +kernel
theorem dX12_draw_17 : decode cX12_draw 17 = .ok (.getfield 431, 3) := by decide +kernel
theorem dX12_draw_20 : decode cX12_draw 20 = .ok (.bipush 33, 2) := by decide +kernel
theorem dX12_draw_22 : decode cX12_draw 22 = .ok (.lushr, 1) := by decide +kernel
theorem dX12_draw_23 : decode cX12_draw 23 = .ok (.iload_n 1, 1) := by decide +kernel
theorem dX12_draw_24 : decode cX12_draw 24 = .ok (.i2l, 1) := by decide +kernel
theorem dX12_draw_25 : decode cX12_draw 25 = .ok (.lrem, 1) := by decide +kernel
theorem dX12_draw_26 : decode cX12_draw 26 = .ok (.l2i, 1) := by decide +kernel
theorem dX12_draw_27 : decode cX12_draw 27 = .ok (.ireturn, 1) := by decide +kernel
set_option maxHeartbeats 4000000 in
set_option maxRecDepth 100000 in
theorem B_X12_draw_0 {d : Nat} {ro : Nat → Nat} {J : JT} {Z : Option Value → Hp → Prop} (g : xCtx RX12 cX12_draw 2 d 0 0 yX12_draw.name ro J) (hr : xRet cX12_draw (some .int) 0 0 Z J) {μ : Hp} {a0 : Nat} {x1 : Int32} (hs_a0 : hS μ a0 = some (15, 65))
    (h : (∀ v1 : Int64, v1 = (hL (wL μ a0 62 (((hL μ a0 62) * 6364136223846793005) + 1442695040888963407)) a0 62) → (∀ v2 : Int64, v2 = (v1.toUInt64 >>> ((33 : Int32).toInt64.toUInt64 &&& Int64.toUInt64 63)).toInt64 → ¬ x1.toInt64 = 0 ∧ Z (some (.int (v2 - v2 / x1.toInt64 * x1.toInt64).toInt32)) (wL μ a0 62 (((hL μ a0 62) * 6364136223846793005) + 1442695040888963407))))) :
    J μ 0 0 0 [(0, .ref a0), (1, .int x1)] [] := by
  refine r_aload_n g dX12_draw_0 rfl ?_
  refine r_aload_n g dX12_draw_1 rfl ?_
  refine r_getL g fX12_431 rfl hs_a0 dX12_draw_2 ?_
  refine r_ldc2 g 6364136223846793005 kX12_434 dX12_draw_5 ?_
  refine r_lmul g dX12_draw_8 ?_
  refine r_ldc2 g 1442695040888963407 kX12_436 dX12_draw_9 ?_
  refine r_ladd g dX12_draw_12 ?_
  refine r_putL g fX12_431 rfl hs_a0 rfl rfl dX12_draw_13 ?_
  refine r_aload_n g dX12_draw_16 rfl ?_
  refine r_getL g fX12_431 rfl hs_a0 dX12_draw_17 ?_
  refine r_nmL (fun v1 ev1 => ?_)
  replace h := h v1 ev1
  refine r_bipush g 33 dX12_draw_20 (by decide) ?_
  refine r_lushr g dX12_draw_22 ?_
  refine r_nmL (fun v2 ev2 => ?_)
  replace h := h v2 ev2
  refine r_iload_n g dX12_draw_23 rfl ?_
  refine r_i2l g dX12_draw_24 ?_
  obtain ⟨hz3, h⟩ := h
  refine r_lrem g hz3 dX12_draw_25 ?_
  refine r_l2i g dX12_draw_26 ?_
  exact hr.2.1 _ rfl _ _ _ _ _ _ dX12_draw_27 rfl (Nat.le_refl 0) (Nat.le_refl 0) h
theorem I_X12_draw {d : Nat} {ro : Nat → Nat} {Z : Option Value → Hp → Prop} {μ : Hp} {a0 : Nat} {x1 : Int32} (h : ∀ J, xCtx RX12 cX12_draw 2 d 0 0 yX12_draw.name ro J → xRet cX12_draw (some .int) 0 0 Z J → J μ 0 0 0 [(0, .ref a0), (1, .int x1)] []) : xC d yX12_draw cX12_draw 2 (some .int) 0 0 [.ref a0, .int x1] μ ro Z :=
  xC_intro (own := RX12) (lv := [(0, .ref a0), (1, .int x1)]) (by decide) rfl (Nat.le_of_ble_eq_true rfl) rfl (fun J g hr => r_sub g (lv' := [(0, .ref a0), (1, .int x1)]) (⟨rfl, rfl, trivial⟩) (h J g hr))
theorem dX12_happens_0 : decode cX12_happens 0 = .ok (.aload_n 0, 1) := by decide +kernel
theorem dX12_happens_1 : decode cX12_happens 1 = .ok (.bipush 8, 2) := by decide +kernel
theorem dX12_happens_3 : decode cX12_happens 3 = .ok (.invokevirtual 438, 3) := by decide +kernel
theorem dX12_happens_6 : decode cX12_happens 6 = .ok (.istore_n 1, 1) := by decide +kernel
theorem dX12_happens_7 : decode cX12_happens 7 = .ok (.iload_n 1, 1) := by decide +kernel
theorem dX12_happens_8 : decode cX12_happens 8 = .ok (.iconst 4, 1) := by decide +kernel
theorem dX12_happens_9 : decode cX12_happens 9 = .ok (.if_icmp .ge 47, 3) := by decide +kernel
theorem dX12_happens_12 : decode cX12_happens 12 = .ok (.aload_n 0, 1) := by decide +kernel
theorem dX12_happens_13 : decode cX12_happens 13 = .ok (.iconst 2, 1) := by decide +kernel
theorem dX12_happens_14 : decode cX12_happens 14 = .ok (.invokevirtual 438, 3) := by decide +kernel
theorem dX12_happens_17 : decode cX12_happens 17 = .ok (.istore_n 2, 1) := by decide +kernel
theorem dX12_happens_18 : decode cX12_happens 18 = .ok (.aload_n 0, 1) := by decide +kernel
theorem dX12_happens_19 : decode cX12_happens 19 = .ok (.aload_n 0, 1) := by decide +kernel
theorem dX12_happens_20 : decode cX12_happens 20 = .ok (.getfield 245, 3) := by decide +kernel
theorem dX12_happens_23 : decode cX12_happens 23 = .ok (.invokevirtual 438, 3) := by decide +kernel
theorem dX12_happens_26 : decode cX12_happens 26 = .ok (.istore_n 3, 1) := by decide +kernel
theorem dX12_happens_27 : decode cX12_happens 27 = .ok (.aload_n 0, 1) := by decide +kernel
theorem dX12_happens_28 : decode cX12_happens 28 = .ok (.aload_n 0, 1) := by decide +kernel
theorem dX12_happens_29 : decode cX12_happens 29 = .ok (.getfield 245, 3) := by decide +kernel
theorem dX12_happens_32 : decode cX12_happens 32 = .ok (.invokevirtual 438, 3) := by decide +kernel
theorem dX12_happens_35 : decode cX12_happens 35 = .ok (.istore 4, 2) := by decide +kernel
theorem dX12_happens_37 : decode cX12_happens 37 = .ok (.aload_n 0, 1) := by decide +kernel
theorem dX12_happens_38 : decode cX12_happens 38 = .ok (.iconst 0, 1) := by decide +kernel
theorem dX12_happens_39 : decode cX12_happens 39 = .ok (.iload_n 2, 1) := by decide +kernel
theorem dX12_happens_40 : decode cX12_happens 40 = .ok (.iload_n 3, 1) := by decide +kernel
theorem dX12_happens_41 : decode cX12_happens 41 = .ok (.iload 4, 2) := by decide +kernel
theorem dX12_happens_43 : decode cX12_happens 43 = .ok (.aload_n 0, 1) := by decide +kernel
theorem dX12_happens_44 : decode cX12_happens 44 = .ok (.sipush 1000, 3) := by decide +kernel
theorem dX12_happens_47 : decode cX12_happens 47 = .ok (.invokevirtual 438, 3) := by decide +kernel
theorem dX12_happens_50 : decode cX12_happens 50 = .ok (.iconst 1, 1) := by decide +kernel
theorem dX12_happens_51 : decode cX12_happens 51 = .ok (.iadd, 1) := by decide +kernel
theorem dX12_happens_52 : decode cX12_happens 52 = .ok (.invokevirtual 424, 3) := by decide +kernel
theorem dX12_happens_55 : decode cX12_happens 55 = .ok (.ireturn, 1) := by decide +kernel
theorem dX12_happens_56 : decode cX12_happens 56 = .ok (.iload_n 1, 1) := by decide +kernel
theorem dX12_happens_57 : decode cX12_happens 57 = .ok (.iconst 4, 1) := by decide +kernel
theorem dX12_happens_58 : decode cX12_happens 58 = .ok (.if_icmp .ne 19, 3) := by decide +kernel
theorem dX12_happens_61 : decode cX12_happens 61 = .ok (.aload_n 0, 1) := by decide +kernel
theorem dX12_happens_62 : decode cX12_happens 62 = .ok (.iconst 1, 1) := by decide +kernel
theorem dX12_happens_63 : decode cX12_happens 63 = .ok (.aload_n 0, 1) := by decide +kernel
theorem dX12_happens_64 : decode cX12_happens 64 = .ok (.iconst 5, 1) := by decide +kernel
theorem dX12_happens_65 : decode cX12_happens 65 = .ok (.invokevirtual 438, 3) := by decide +kernel
theorem dX12_happens_68 : decode cX12_happens 68 = .ok (.iconst 1, 1) := by decide +kernel
theorem dX12_happens_69 : decode cX12_happens 69 = .ok (.iadd, 1) := by decide +kernel
theorem dX12_happens_70 : decode cX12_happens 70 = .ok (.iconst 0, 1) := by decide +kernel
theorem dX12_happens_71 : decode cX12_happens 71 = .ok (.iconst 0, 1) := by decide +kernel
theorem dX12_happens_72 : decode cX12_happens 72 = .ok (.iconst 0, 1) := by decide +kernel
theorem dX12_happens_73 : decode cX12_happens 73 = .ok (.invokevirtual 424, 3) := by decide +kernel
theorem dX12_happens_76 : decode cX12_happens 76 = .ok (.ireturn, 1) := by decide +kernel
theorem dX12_happens_77 : decode cX12_happens 77 = .ok (.aload_n 0, 1) := by decide +kernel
theorem dX12_happens_78 : decode cX12_happens 78 = .ok (.aload_n 0, 1) := by decide +kernel
theorem dX12_happens_79 : decode cX12_happens 79 = .ok (.getfield 245, 3) := by decide +kernel
theorem dX12_happens_82 : decode cX12_happens 82 = .ok (.invokevirtual 438, 3) := by decide +kernel
theorem dX12_happens_85 : decode cX12_happens 85 = .ok (.istore_n 2, 1) := by decide +kernel
theorem dX12_happens_86 : decode cX12_happens 86 = .ok (.iload_n 1, 1) := by decide +kernel
theorem dX12_happens_87 : decode cX12_happens 87 = .ok (.iconst 5, 1) := by decide +kernel
theorem dX12_happens_88 : decode cX12_happens 88 = .ok (.if_icmp .ne 18, 3) := by decide +kernel
theorem dX12_happens_91 : decode cX12_happens 91 = .ok (.aload_n 0, 1) := by decide +kernel
theorem dX12_happens_92 : decode cX12_happens 92 = .ok (.iconst 2, 1) := by decide +kernel
theorem dX12_happens_93 : decode cX12_happens 93 = .ok (.iload_n 2, 1) := by decide +kernel
theorem dX12_happens_94 : decode cX12_happens 94 = .ok (.aload_n 0, 1) := by decide +kernel
theorem dX12_happens_95 : decode cX12_happens 95 = .ok (.bipush 100, 2) := by decide +kernel
theorem dX12_happens_97 : decode cX12_happens 97 = .ok (.invokevirtual 438, 3) := by decide +kernel
theorem dX12_happens_100 : decode cX12_happens 100 = .ok (.iconst 0, 1) := by decide +kernel
theorem dX12_happens_101 : decode cX12_happens 101 = .ok (.iconst 0, 1) := by decide +kernel
theorem dX12_happens_102 : decode cX12_happens 102 = .ok (.invokevirtual 424, 3) := by decide +kernel
theorem dX12_happens_105 : decode cX12_happens 105 = .ok (.ireturn, 1) := by decide +kernel
theorem dX12_happens_106 : decode cX12_happens 106 = .ok (.aload_n 0, 1) := by decide +kernel
theorem dX12_happens_107 : decode cX12_happens 107 = .ok (.aload_n 0, 1) := by decide +kernel
theorem dX12_happens_108 : decode cX12_happens 108 = .ok (.getfield 245, 3) := by decide +kernel
theorem dX12_happens_111 : decode cX12_happens 111 = .ok (.invokevirtual 438, 3) := by decide +kernel
theorem dX12_happens_114 : decode cX12_happens 114 = .ok (.istore_n 3, 1) := by decide +kernel
theorem dX12_happens_115 : decode cX12_happens 115 = .ok (.iload_n 1, 1) := by decide +kernel
theorem dX12_happens_116 : decode cX12_happens 116 = .ok (.bipush 6, 2) := by decide +kernel
theorem dX12_happens_118 : decode cX12_happens 118 = .ok (.if_icmp .ne 20, 3) := by decide +kernel
theorem dX12_happens_121 : decode cX12_happens 121 = .ok (.aload_n 0, 1) := by decide +kernel
theorem dX12_happens_122 : decode cX12_happens 122 = .ok (.iconst 3, 1) := by decide +kernel
theorem dX12_happens_123 : decode cX12_happens 123 = .ok (.iload_n 2, 1) := by decide +kernel
theorem dX12_happens_124 : decode cX12_happens 124 = .ok (.iload_n 3, 1) := by decide +kernel
theorem dX12_happens_125 : decode cX12_happens 125 = .ok (.aload_n 0, 1) := by decide +kernel
theorem dX12_happens_126 : decode cX12_happens 126 = .ok (.bipush 101, 2) := by decide +kernel
theorem dX12_happens_128 : decode cX12_happens 128 = .ok (.invokevirtual 438, 3) := by decide +kernel
theorem dX12_happens_131 : decode cX12_happens 131 = .ok (.iconst 0, 1) := by decide +kernel
theorem dX12_happens_132 : decode cX12_happens 132 = .ok (.invokevirtual 424, 3) := by decide +kernel
theorem dX12_happens_135 : decode cX12_happens 135 = .ok (.goto 12, 3) := by decide +kernel
theorem dX12_happens_138 : decode cX12_happens 138 = .ok (.aload_n 0, 1) := by decide +kernel
theorem dX12_happens_139 : decode cX12_happens 139 = .ok (.iconst 4, 1) := by decide +kernel
theorem dX12_happens_140 : decode cX12_happens 140 = .ok (.iload_n 2, 1) := by decide +kernel
theorem dX12_happens_141 : decode cX12_happens 141 = .ok (.iload_n 3, 1) := by decide +kernel
theorem dX12_happens_142 : decode cX12_happens 142 = .ok (.iconst 0, 1) := by decide +kernel
theorem dX12_happens_143 : decode cX12_happens 143 = .ok (.iconst 0, 1) := by decide +kernel
theorem dX12_happens_144 : decode cX12_happens 144 = .ok (.invokevirtual 424, 3) := by decide +kernel
theorem dX12_happens_147 : decode cX12_happens 147 = .ok (.ireturn, 1) := by decide +kernel
set_option maxHeartbeats 4000000 in
set_option maxRecDepth 100000 in
theorem B_X12_happens_0 {d : Nat} {ro : Nat → Nat} {J : JT} {Z : Option Value → Hp → Prop} (g : xCtx RX12 cX12_happens 5 d 0 0 yX12_happens.name ro J) (hr : xRet cX12_happens (some .int) 0 0 Z J) {μ : Hp} {a0 : Nat} (hs_a0 : hS μ a0 = some (15, 65))
    (h : xCall d yX12_draw cX12_draw 2 (some .int) [.ref a0, .int 8] μ ro (fun r1 μ2 => ∃ y3 : Int32, r1 = some (.int y3) ∧ ((4 ≤ y3 → ((¬ y3 = 4 → hS μ2 a0 = some (15, 65) ∧ xCall d yX12_draw cX12_draw 2 (some .int) [.ref a0, .int (hI μ2 a0 22)] μ2 ro (fun r6 μ7 => ∃ y8 : Int32, r6 = some (.int y8) ∧ ((¬ y3 = 5 → hS μ7 a0 = some (15, 65) ∧ xCall d yX12_draw cX12_draw 2 (some .int) [.ref a0, .int (hI μ7 a0 22)] μ7 ro (fun r10 μ11 => ∃ y12 : Int32, r10 = some (.int y12) ∧ ((¬ y3 = 6 → hS μ11 a0 = some (15, 65) ∧ xCall d yX12_tries cX12_tries 7 (some .int) [.ref a0, .int 4, .int y8, .int y12, .int 0, .int 0] μ11 ro (fun r14 μ15 => ∃ y16 : Int32, r14 = some (.int y16) ∧ Z (some (.int y16)) μ15)) ∧ (y3 = 6 → hS μ11 a0 = some (15, 65) ∧ xCall d yX12_draw cX12_draw 2 (some .int) [.ref a0, .int 101] μ11 ro (fun r17 μ18 => ∃ y19 : Int32, r17 = some (.int y19) ∧ hS μ18 a0 = some (15, 65) ∧ xCall d yX12_tries cX12_tries 7 (some .int) [.ref a0, .int 3, .int y8, .int y12, .int y19, .int 0] μ18 ro (fun r20 μ21 => ∃ y22 : Int32, r20 = some (.int y22) ∧ Z (some (.int y22)) μ21)))))) ∧ (y3 = 5 → hS μ7 a0 = some (15, 65) ∧ xCall d yX12_draw cX12_draw 2 (some .int) [.ref a0, .int 100] μ7 ro (fun r23 μ24 => ∃ y25 : Int32, r23 = some (.int y25) ∧ hS μ24 a0 = some (15, 65) ∧ xCall d yX12_tries cX12_tries 7 (some .int) [.ref a0, .int 2, .int y8, .int y25, .int 0, .int 0] μ24 ro (fun r26 μ27 => ∃ y28 : Int32, r26 = some (.int y28) ∧ Z (some (.int y28)) μ27)))))) ∧ (y3 = 4 → hS μ2 a0 = some (15, 65) ∧ xCall d yX12_draw cX12_draw 2 (some .int) [.ref a0, .int 5] μ2 ro (fun r29 μ30 => ∃ y31 : Int32, r29 = some (.int y31) ∧ hS μ30 a0 = some (15, 65) ∧ xCall d yX12_tries cX12_tries 7 (some .int) [.ref a0, .int 1, .int (y31 + 1), .int 0, .int 0, .int 0] μ30 ro (fun r32 μ33 => ∃ y34 : Int32, r32 = some (.int y34) ∧ Z (some (.int y34)) μ33))))) ∧ (¬ 4 ≤ y3 → hS μ2 a0 = some (15, 65) ∧ xCall d yX12_draw cX12_draw 2 (some .int) [.ref a0, .int 2] μ2 ro (fun r35 μ36 => ∃ y37 : Int32, r35 = some (.int y37) ∧ hS μ36 a0 = some (15, 65) ∧ xCall d yX12_draw cX12_draw 2 (some .int) [.ref a0, .int (hI μ36 a0 22)] μ36 ro (fun r38 μ39 => ∃ y40 : Int32, r38 = some (.int y40) ∧ hS μ39 a0 = some (15, 65) ∧ xCall d yX12_draw cX12_draw 2 (some .int) [.ref a0, .int (hI μ39 a0 22)] μ39 ro (fun r41 μ42 => ∃ y43 : Int32, r41 = some (.int y43) ∧ hS μ42 a0 = some (15, 65) ∧ xCall d yX12_draw cX12_draw 2 (some .int) [.ref a0, .int 1000] μ42 ro (fun r44 μ45 => ∃ y46 : Int32, r44 = some (.int y46) ∧ hS μ45 a0 = some (15, 65) ∧ xCall d yX12_tries cX12_tries 7 (some .int) [.ref a0, .int 0, .int y37, .int y40, .int y43, .int (y46 + 1)] μ45 ro (fun r47 μ48 => ∃ y49 : Int32, r47 = some (.int y49) ∧ Z (some (.int y49)) μ48))))))))) :
    J μ 0 0 0 [(0, .ref a0)] [] := by
  refine r_aload_n g dX12_happens_0 rfl ?_
  refine r_bipush g 8 dX12_happens_1 (by decide) ?_
  obtain ⟨d1, Z1, hc1, hd1, h1⟩ := h
  refine r_callV (st := []) (As := [.int 8]) g sX12_438 iX12_draw eX12_draw rfl hs_a0 rfl (Nat.le_of_ble_eq_true rfl) dX12_happens_3 hd1 (Nat.le_refl 0) (Nat.le_refl 0) hc1 (fun r1 μ2 hZ1 => ?_)
  replace h := h1 _ _ hZ1
  clear h1 hc1 hd1 hZ1 Z1 d1
  obtain ⟨y3, rfl, h⟩ := h
  refine r_istore_n g [(1, .int y3), (0, .ref a0)] dX12_happens_6 (by decide) rfl ?_
  refine r_iload_n g dX12_happens_7 rfl ?_
  refine r_iconst g 4 dX12_happens_8 (by decide) ?_
  refine r_icmp_ge g 56 dX12_happens_9 (by decide) (fun c4 => ?_) (fun c4 => ?_)
  · replace h := h.1 c4
    refine r_iload_n g dX12_happens_56 rfl ?_
    refine r_iconst g 4 dX12_happens_57 (by decide) ?_
    refine r_icmp_ne g 77 dX12_happens_58 (by decide) (fun c5 => ?_) (fun c5 => ?_)
    · replace h := h.1 c5
      refine r_aload_n g dX12_happens_77 rfl ?_
      refine r_aload_n g dX12_happens_78 rfl ?_
      obtain ⟨hs_a0_, h⟩ := h
      refine r_getI g fX12_245 rfl hs_a0_ dX12_happens_79 ?_
      obtain ⟨d1, Z1, hc1, hd1, h1⟩ := h
      refine r_callV (st := []) (As := [.int (hI μ2 a0 22)]) g sX12_438 iX12_draw eX12_draw rfl hs_a0_ rfl (Nat.le_of_ble_eq_true rfl) dX12_happens_82 hd1 (Nat.le_refl 0) (Nat.le_refl 0) hc1 (fun r6 μ7 hZ1 => ?_)
      replace h := h1 _ _ hZ1
      clear h1 hc1 hd1 hZ1 Z1 d1
      obtain ⟨y8, rfl, h⟩ := h
      refine r_istore_n g [(2, .int y8), (1, .int y3), (0, .ref a0)] dX12_happens_85 (by decide) rfl ?_
      refine r_iload_n g dX12_happens_86 rfl ?_
      refine r_iconst g 5 dX12_happens_87 (by decide) ?_
      refine r_icmp_ne g 106 dX12_happens_88 (by decide) (fun c9 => ?_) (fun c9 => ?_)
      · replace h := h.1 c9
        refine r_aload_n g dX12_happens_106 rfl ?_
        refine r_aload_n g dX12_happens_107 rfl ?_
        obtain ⟨hs_a0__, h⟩ := h
        refine r_getI g fX12_245 rfl hs_a0__ dX12_happens_108 ?_
        obtain ⟨d1, Z1, hc1, hd1, h1⟩ := h
        refine r_callV (st := []) (As := [.int (hI μ7 a0 22)]) g sX12_438 iX12_draw eX12_draw rfl hs_a0__ rfl (Nat.le_of_ble_eq_true rfl) dX12_happens_111 hd1 (Nat.le_refl 0) (Nat.le_refl 0) hc1 (fun r10 μ11 hZ1 => ?_)
        replace h := h1 _ _ hZ1
        clear h1 hc1 hd1 hZ1 Z1 d1
        obtain ⟨y12, rfl, h⟩ := h
        refine r_istore_n g [(3, .int y12), (2, .int y8), (1, .int y3), (0, .ref a0)] dX12_happens_114 (by decide) rfl ?_
        refine r_iload_n g dX12_happens_115 rfl ?_
        refine r_bipush g 6 dX12_happens_116 (by decide) ?_
        refine r_icmp_ne g 138 dX12_happens_118 (by decide) (fun c13 => ?_) (fun c13 => ?_)
        · replace h := h.1 c13
          refine r_aload_n g dX12_happens_138 rfl ?_
          refine r_iconst g 4 dX12_happens_139 (by decide) ?_
          refine r_iload_n g dX12_happens_140 rfl ?_
          refine r_iload_n g dX12_happens_141 rfl ?_
          refine r_iconst g 0 dX12_happens_142 (by decide) ?_
          refine r_iconst g 0 dX12_happens_143 (by decide) ?_
          obtain ⟨hs_a0___, h⟩ := h
          obtain ⟨d1, Z1, hc1, hd1, h1⟩ := h
          refine r_callV (st := []) (As := [.int 4, .int y8, .int y12, .int 0, .int 0]) g sX12_424 iX12_tries eX12_tries rfl hs_a0___ rfl (Nat.le_of_ble_eq_true rfl) dX12_happens_144 hd1 (Nat.le_refl 0) (Nat.le_refl 0) hc1 (fun r14 μ15 hZ1 => ?_)
          replace h := h1 _ _ hZ1
          clear h1 hc1 hd1 hZ1 Z1 d1
          obtain ⟨y16, rfl, h⟩ := h
          exact hr.2.1 _ rfl _ _ _ _ _ _ dX12_happens_147 rfl (Nat.le_refl 0) (Nat.le_refl 0) h
        · replace h := h.2 c13
          refine r_aload_n g dX12_happens_121 rfl ?_
          refine r_iconst g 3 dX12_happens_122 (by decide) ?_
          refine r_iload_n g dX12_happens_123 rfl ?_
          refine r_iload_n g dX12_happens_124 rfl ?_
          refine r_aload_n g dX12_happens_125 rfl ?_
          refine r_bipush g 101 dX12_happens_126 (by decide) ?_
          obtain ⟨hs_a0____, h⟩ := h
          obtain ⟨d1, Z1, hc1, hd1, h1⟩ := h
          refine r_callV (st := [.int y12, .int y8, .int 3, .ref a0]) (As := [.int 101]) g sX12_438 iX12_draw eX12_draw rfl hs_a0____ rfl (Nat.le_of_ble_eq_true rfl) dX12_happens_128 hd1 (Nat.le_refl 0) (Nat.le_refl 0) hc1 (fun r17 μ18 hZ1 => ?_)
          replace h := h1 _ _ hZ1
          clear h1 hc1 hd1 hZ1 Z1 d1
          obtain ⟨y19, rfl, h⟩ := h
          refine r_iconst g 0 dX12_happens_131 (by decide) ?_
          obtain ⟨hs_a0_____, h⟩ := h
          obtain ⟨d1, Z1, hc1, hd1, h1⟩ := h
          refine r_callV (st := []) (As := [.int 3, .int y8, .int y12, .int y19, .int 0]) g sX12_424 iX12_tries eX12_tries rfl hs_a0_____ rfl (Nat.le_of_ble_eq_true rfl) dX12_happens_132 hd1 (Nat.le_refl 0) (Nat.le_refl 0) hc1 (fun r20 μ21 hZ1 => ?_)
          replace h := h1 _ _ hZ1
          clear h1 hc1 hd1 hZ1 Z1 d1
          obtain ⟨y22, rfl, h⟩ := h
          refine r_goto g 147 dX12_happens_135 (by decide) ?_
          exact hr.2.1 _ rfl _ _ _ _ _ _ dX12_happens_147 rfl (Nat.le_refl 0) (Nat.le_refl 0) h
      · replace h := h.2 c9
        refine r_aload_n g dX12_happens_91 rfl ?_
        refine r_iconst g 2 dX12_happens_92 (by decide) ?_
        refine r_iload_n g dX12_happens_93 rfl ?_
        refine r_aload_n g dX12_happens_94 rfl ?_
        refine r_bipush g 100 dX12_happens_95 (by decide) ?_
        obtain ⟨hs_a0______, h⟩ := h
        obtain ⟨d1, Z1, hc1, hd1, h1⟩ := h
        refine r_callV (st := [.int y8, .int 2, .ref a0]) (As := [.int 100]) g sX12_438 iX12_draw eX12_draw rfl hs_a0______ rfl (Nat.le_of_ble_eq_true rfl) dX12_happens_97 hd1 (Nat.le_refl 0) (Nat.le_refl 0) hc1 (fun r23 μ24 hZ1 => ?_)
        replace h := h1 _ _ hZ1
        clear h1 hc1 hd1 hZ1 Z1 d1
        obtain ⟨y25, rfl, h⟩ := h
        refine r_iconst g 0 dX12_happens_100 (by decide) ?_
        refine r_iconst g 0 dX12_happens_101 (by decide) ?_
        obtain ⟨hs_a0_______, h⟩ := h
        obtain ⟨d1, Z1, hc1, hd1, h1⟩ := h
        refine r_callV (st := []) (As := [.int 2, .int y8, .int y25, .int 0, .int 0]) g sX12_424 iX12_tries eX12_tries rfl hs_a0_______ rfl (Nat.le_of_ble_eq_true rfl) dX12_happens_102 hd1 (Nat.le_refl 0) (Nat.le_refl 0) hc1 (fun r26 μ27 hZ1 => ?_)
        replace h := h1 _ _ hZ1
        clear h1 hc1 hd1 hZ1 Z1 d1
        obtain ⟨y28, rfl, h⟩ := h
        exact hr.2.1 _ rfl _ _ _ _ _ _ dX12_happens_105 rfl (Nat.le_refl 0) (Nat.le_refl 0) h
    · replace h := h.2 c5
      refine r_aload_n g dX12_happens_61 rfl ?_
      refine r_iconst g 1 dX12_happens_62 (by decide) ?_
      refine r_aload_n g dX12_happens_63 rfl ?_
      refine r_iconst g 5 dX12_happens_64 (by decide) ?_
      obtain ⟨hs_a0________, h⟩ := h
      obtain ⟨d1, Z1, hc1, hd1, h1⟩ := h
      refine r_callV (st := [.int 1, .ref a0]) (As := [.int 5]) g sX12_438 iX12_draw eX12_draw rfl hs_a0________ rfl (Nat.le_of_ble_eq_true rfl) dX12_happens_65 hd1 (Nat.le_refl 0) (Nat.le_refl 0) hc1 (fun r29 μ30 hZ1 => ?_)
      replace h := h1 _ _ hZ1
      clear h1 hc1 hd1 hZ1 Z1 d1
      obtain ⟨y31, rfl, h⟩ := h
      refine r_iconst g 1 dX12_happens_68 (by decide) ?_
      refine r_iadd g dX12_happens_69 ?_
      refine r_iconst g 0 dX12_happens_70 (by decide) ?_
      refine r_iconst g 0 dX12_happens_71 (by decide) ?_
      refine r_iconst g 0 dX12_happens_72 (by decide) ?_
      obtain ⟨hs_a0_________, h⟩ := h
      obtain ⟨d1, Z1, hc1, hd1, h1⟩ := h
      refine r_callV (st := []) (As := [.int 1, .int (y31 + 1), .int 0, .int 0, .int 0]) g sX12_424 iX12_tries eX12_tries rfl hs_a0_________ rfl (Nat.le_of_ble_eq_true rfl) dX12_happens_73 hd1 (Nat.le_refl 0) (Nat.le_refl 0) hc1 (fun r32 μ33 hZ1 => ?_)
      replace h := h1 _ _ hZ1
      clear h1 hc1 hd1 hZ1 Z1 d1
      obtain ⟨y34, rfl, h⟩ := h
      exact hr.2.1 _ rfl _ _ _ _ _ _ dX12_happens_76 rfl (Nat.le_refl 0) (Nat.le_refl 0) h
  · replace h := h.2 c4
    refine r_aload_n g dX12_happens_12 rfl ?_
    refine r_iconst g 2 dX12_happens_13 (by decide) ?_
    obtain ⟨hs_a0__________, h⟩ := h
    obtain ⟨d1, Z1, hc1, hd1, h1⟩ := h
    refine r_callV (st := []) (As := [.int 2]) g sX12_438 iX12_draw eX12_draw rfl hs_a0__________ rfl (Nat.le_of_ble_eq_true rfl) dX12_happens_14 hd1 (Nat.le_refl 0) (Nat.le_refl 0) hc1 (fun r35 μ36 hZ1 => ?_)
    replace h := h1 _ _ hZ1
    clear h1 hc1 hd1 hZ1 Z1 d1
    obtain ⟨y37, rfl, h⟩ := h
    refine r_istore_n g [(2, .int y37), (1, .int y3), (0, .ref a0)] dX12_happens_17 (by decide) rfl ?_
    refine r_aload_n g dX12_happens_18 rfl ?_
    refine r_aload_n g dX12_happens_19 rfl ?_
    obtain ⟨hs_a0___________, h⟩ := h
    refine r_getI g fX12_245 rfl hs_a0___________ dX12_happens_20 ?_
    obtain ⟨d1, Z1, hc1, hd1, h1⟩ := h
    refine r_callV (st := []) (As := [.int (hI μ36 a0 22)]) g sX12_438 iX12_draw eX12_draw rfl hs_a0___________ rfl (Nat.le_of_ble_eq_true rfl) dX12_happens_23 hd1 (Nat.le_refl 0) (Nat.le_refl 0) hc1 (fun r38 μ39 hZ1 => ?_)
    replace h := h1 _ _ hZ1
    clear h1 hc1 hd1 hZ1 Z1 d1
    obtain ⟨y40, rfl, h⟩ := h
    refine r_istore_n g [(3, .int y40), (2, .int y37), (1, .int y3), (0, .ref a0)] dX12_happens_26 (by decide) rfl ?_
    refine r_aload_n g dX12_happens_27 rfl ?_
    refine r_aload_n g dX12_happens_28 rfl ?_
    obtain ⟨hs_a0____________, h⟩ := h
    refine r_getI g fX12_245 rfl hs_a0____________ dX12_happens_29 ?_
    obtain ⟨d1, Z1, hc1, hd1, h1⟩ := h
    refine r_callV (st := []) (As := [.int (hI μ39 a0 22)]) g sX12_438 iX12_draw eX12_draw rfl hs_a0____________ rfl (Nat.le_of_ble_eq_true rfl) dX12_happens_32 hd1 (Nat.le_refl 0) (Nat.le_refl 0) hc1 (fun r41 μ42 hZ1 => ?_)
    replace h := h1 _ _ hZ1
    clear h1 hc1 hd1 hZ1 Z1 d1
    obtain ⟨y43, rfl, h⟩ := h
    refine r_istore g [(4, .int y43), (3, .int y40), (2, .int y37), (1, .int y3), (0, .ref a0)] dX12_happens_35 (by decide) rfl ?_
    refine r_aload_n g dX12_happens_37 rfl ?_
    refine r_iconst g 0 dX12_happens_38 (by decide) ?_
    refine r_iload_n g dX12_happens_39 rfl ?_
    refine r_iload_n g dX12_happens_40 rfl ?_
    refine r_iload g dX12_happens_41 rfl ?_
    refine r_aload_n g dX12_happens_43 rfl ?_
    refine r_sipush g 1000 dX12_happens_44 (by decide) ?_
    obtain ⟨hs_a0_____________, h⟩ := h
    obtain ⟨d1, Z1, hc1, hd1, h1⟩ := h
    refine r_callV (st := [.int y43, .int y40, .int y37, .int 0, .ref a0]) (As := [.int 1000]) g sX12_438 iX12_draw eX12_draw rfl hs_a0_____________ rfl (Nat.le_of_ble_eq_true rfl) dX12_happens_47 hd1 (Nat.le_refl 0) (Nat.le_refl 0) hc1 (fun r44 μ45 hZ1 => ?_)
    replace h := h1 _ _ hZ1
    clear h1 hc1 hd1 hZ1 Z1 d1
    obtain ⟨y46, rfl, h⟩ := h
    refine r_iconst g 1 dX12_happens_50 (by decide) ?_
    refine r_iadd g dX12_happens_51 ?_
    obtain ⟨hs_a0______________, h⟩ := h
    obtain ⟨d1, Z1, hc1, hd1, h1⟩ := h
    refine r_callV (st := []) (As := [.int 0, .int y37, .int y40, .int y43, .int (y46 + 1)]) g sX12_424 iX12_tries eX12_tries rfl hs_a0______________ rfl (Nat.le_of_ble_eq_true rfl) dX12_happens_52 hd1 (Nat.le_refl 0) (Nat.le_refl 0) hc1 (fun r47 μ48 hZ1 => ?_)
    replace h := h1 _ _ hZ1
    clear h1 hc1 hd1 hZ1 Z1 d1
    obtain ⟨y49, rfl, h⟩ := h
    exact hr.2.1 _ rfl _ _ _ _ _ _ dX12_happens_55 rfl (Nat.le_refl 0) (Nat.le_refl 0) h
theorem I_X12_happens {d : Nat} {ro : Nat → Nat} {Z : Option Value → Hp → Prop} {μ : Hp} {a0 : Nat} (h : ∀ J, xCtx RX12 cX12_happens 5 d 0 0 yX12_happens.name ro J → xRet cX12_happens (some .int) 0 0 Z J → J μ 0 0 0 [(0, .ref a0)] []) : xC d yX12_happens cX12_happens 5 (some .int) 0 0 [.ref a0] μ ro Z :=
  xC_intro (own := RX12) (lv := [(0, .ref a0)]) (by decide) rfl (Nat.le_of_ble_eq_true rfl) rfl (fun J g hr => r_sub g (lv' := [(0, .ref a0)]) (⟨rfl, trivial⟩) (h J g hr))
theorem dX12_years_0 : decode cX12_years 0 = .ok (.aload_n 0, 1) := by decide +kernel
theorem dX12_years_1 : decode cX12_years 1 = .ok (.iconst 0, 1) := by decide +kernel
theorem dX12_years_2 : decode cX12_years 2 = .ok (.putfield 106, 3) := by decide +kernel
theorem dX12_years_5 : decode cX12_years 5 = .ok (.aload_n 0, 1) := by decide +kernel
theorem dX12_years_6 : decode cX12_years 6 = .ok (.getfield 245, 3) := by decide +kernel
theorem dX12_years_9 : decode cX12_years 9 = .ok (.ifCond .eq 15, 3) := by decide +kernel
theorem dX12_years_12 : decode cX12_years 12 = .ok (.iload_n 1, 1) := by decide +kernel
theorem dX12_years_13 : decode cX12_years 13 = .ok (.i2l, 1) := by decide +kernel
theorem dX12_years_14 : decode cX12_years 14 = .ok (.lconst 1, 1) := by decide +kernel
theorem dX12_years_15 : decode cX12_years 15 = .ok (.ldc2_w 441, 3) := by decide +kernel
theorem dX12_years_18 : decode cX12_years 18 = .ok (.invokestatic 161, 3) := by decide +kernel
theorem dX12_years_21 : decode cX12_years 21 = .ok (.ifCond .ne 5, 3) := by decide +kernel
theorem dX12_years_24 : decode cX12_years 24 = .ok (.iconst (-1), 1) := by decide +kernel
theorem dX12_years_25 : decode cX12_years 25 = .ok (.ireturn, 1) := by decide +kernel
theorem dX12_years_26 : decode cX12_years 26 = .ok (.aload_n 0, 1) := by decide +kernel
theorem dX12_years_27 : decode cX12_years 27 = .ok (.lload_n 2, 1) := by decide +kernel
theorem dX12_years_28 : decode cX12_years 28 = .ok (.putfield 431, 3) := by decide +kernel
theorem dX12_years_31 : decode cX12_years 31 = .ok (.iconst 0, 1) := by decide +kernel
theorem dX12_years_32 : decode cX12_years 32 = .ok (.istore 4, 2) := by decide +kernel
theorem dX12_years_34 : decode cX12_years 34 = .ok (.iload 4, 2) := by decide +kernel
theorem dX12_years_36 : decode cX12_years 36 = .ok (.iload_n 1, 1) := by decide +kernel
theorem dX12_years_37 : decode cX12_years 37 = .ok (.if_icmp .ge 15, 3) := by decide +kernel
theorem dX12_years_40 : decode cX12_years 40 = .ok (.aload_n 0, 1) := by decide +kernel
theorem dX12_years_41 : decode cX12_years 41 = .ok (.invokevirtual 443, 3) := by decide +kernel
theorem dX12_years_44 : decode cX12_years 44 = .ok (.istore 5, 2) := by decide +kernel
theorem dX12_years_46 : decode cX12_years 46 = .ok (.iinc 4 1, 3) := by decide +kernel
theorem dX12_years_49 : decode cX12_years 49 = .ok (.goto (-15), 3) := by decide +kernel
theorem dX12_years_52 : decode cX12_years 52 = .ok (.aload_n 0, 1) := by decide +kernel
theorem dX12_years_53 : decode cX12_years 53 = .ok (.getfield 57, 3) := by decide +kernel
theorem dX12_years_56 : decode cX12_years 56 = .ok (.bipush 30, 2) := by decide +kernel
theorem dX12_years_58 : decode cX12_years 58 = .ok (.iaload, 1) := by decide +kernel
theorem dX12_years_59 : decode cX12_years 59 = .ok (.ireturn, 1) := by decide +kernel
set_option maxHeartbeats 4000000 in
set_option maxRecDepth 100000 in
theorem B_X12_years_0 {d : Nat} {ro : Nat → Nat} {J : JT} {Z : Option Value → Hp → Prop} (g : xCtx RX12 cX12_years 6 d 0 0 yX12_years.name ro J) (hr : xRet cX12_years (some .int) 0 0 Z J) {μ : Hp} {a0 : Nat} {x1 : Int32} {x2 : Int64} (hs_a0 : hS μ a0 = some (15, 65)) (hd9 : 1 ≤ d)
    (h : (((hI (wI μ a0 0 0) a0 22) = 0 → Z (some (.int (-1))) (wI μ a0 0 0)) ∧ (¬ (hI (wI μ a0 0 0) a0 22) = 0 → ((x1 < 1 → Z (some (.int (-1))) (wI μ a0 0 0)) ∧ (¬ x1 < 1 → ((40 < x1 → Z (some (.int (-1))) (wI μ a0 0 0)) ∧ (¬ 40 < x1 → J (wL (wI μ a0 0 0) a0 62 x2) 0 0 34 [(0, .ref a0), (1, .int x1), (4, .int 0)] []))))))) :
    J μ 0 0 0 [(0, .ref a0), (1, .int x1), (2, .long x2)] [] := by
  refine r_aload_n g dX12_years_0 rfl ?_
  refine r_iconst g 0 dX12_years_1 (by decide) ?_
  refine r_putI g fX12_106 rfl hs_a0 rfl rfl dX12_years_2 ?_
  refine r_aload_n g dX12_years_5 rfl ?_
  refine r_getI g fX12_245 rfl hs_a0 dX12_years_6 ?_
  refine r_if_eq g 24 dX12_years_9 (by decide) (fun c1 => ?_) (fun c1 => ?_)
  · replace h := h.1 c1
    refine r_iconst g (-1) dX12_years_24 (by decide) ?_
    exact hr.2.1 _ rfl _ _ _ _ _ _ dX12_years_25 rfl (Nat.le_refl 0) (Nat.le_refl 0) h
  · replace h := h.2 c1
    refine r_iload_n g dX12_years_12 rfl ?_
    refine r_i2l g dX12_years_13 ?_
    refine r_lconst g 1 dX12_years_14 (by decide) ?_
    refine r_ldc2 g 40 kX12_441 dX12_years_15 ?_
    by_cases c2 : x1 < 1
    · replace h := h.1 c2
      refine r_callS (st := []) (As := [.long x1.toInt64, .long 1, .long 40]) g sX12_161 iX12_isIn rfl (Nat.le_of_ble_eq_true rfl) dX12_years_18 (by omega) (Nat.le_refl 0) (Nat.le_refl 0) (Q_isIn_0 (d := d - 1) (x := x1) (a := 1) (b := 40) rfl (by decide) (by decide) c2) (fun r3 μ4 hZ1 => ?_)
      obtain ⟨rfl, e9⟩ := hZ1
      replace e9 := e9.symm
      subst e9
      refine r_if_ne g 26 dX12_years_21 (by decide) (fun hz => absurd hz (by decide)) (fun _ => ?_)
      refine r_iconst g (-1) dX12_years_24 (by decide) ?_
      exact hr.2.1 _ rfl _ _ _ _ _ _ dX12_years_25 rfl (Nat.le_refl 0) (Nat.le_refl 0) h
    · replace h := h.2 c2
      by_cases c5 : 40 < x1
      · replace h := h.1 c5
        refine r_callS (st := []) (As := [.long x1.toInt64, .long 1, .long 40]) g sX12_161 iX12_isIn rfl (Nat.le_of_ble_eq_true rfl) dX12_years_18 (by omega) (Nat.le_refl 0) (Nat.le_refl 0) (Q_isIn_1 (d := d - 1) (x := x1) (a := 1) (b := 40) rfl (by decide) (by decide) c2 c5) (fun r6 μ7 hZ1 => ?_)
        obtain ⟨rfl, e9⟩ := hZ1
        replace e9 := e9.symm
        subst e9
        refine r_if_ne g 26 dX12_years_21 (by decide) (fun hz => absurd hz (by decide)) (fun _ => ?_)
        refine r_iconst g (-1) dX12_years_24 (by decide) ?_
        exact hr.2.1 _ rfl _ _ _ _ _ _ dX12_years_25 rfl (Nat.le_refl 0) (Nat.le_refl 0) h
      · replace h := h.2 c5
        refine r_callS (st := []) (As := [.long x1.toInt64, .long 1, .long 40]) g sX12_161 iX12_isIn rfl (Nat.le_of_ble_eq_true rfl) dX12_years_18 (by omega) (Nat.le_refl 0) (Nat.le_refl 0) (Q_isIn_2 (d := d - 1) (x := x1) (a := 1) (b := 40) rfl (by decide) (by decide) c2 c5) (fun r8 μ9 hZ1 => ?_)
        obtain ⟨rfl, e9⟩ := hZ1
        replace e9 := e9.symm
        subst e9
        refine r_if_ne g 26 dX12_years_21 (by decide) (fun _ => ?_) (fun hz => absurd hz (by decide))
        refine r_aload_n g dX12_years_26 rfl ?_
        refine r_lload_n g dX12_years_27 rfl ?_
        refine r_putL g fX12_431 rfl hs_a0 rfl rfl dX12_years_28 ?_
        refine r_iconst g 0 dX12_years_31 (by decide) ?_
        refine r_istore g [(4, .int 0), (0, .ref a0), (1, .int x1), (2, .long x2)] dX12_years_32 (by decide) rfl ?_
        refine r_sub g (lv' := [(0, .ref a0), (1, .int x1), (4, .int 0)]) (⟨rfl, rfl, rfl, trivial⟩) ?_
        exact h
set_option maxHeartbeats 4000000 in
set_option maxRecDepth 100000 in
theorem B_X12_years_34 {d : Nat} {ro : Nat → Nat} {J : JT} {Z : Option Value → Hp → Prop} (g : xCtx RX12 cX12_years 6 d 0 0 yX12_years.name ro J) (hr : xRet cX12_years (some .int) 0 0 Z J) {μ : Hp} {a0 : Nat} {x1 : Int32} {x4 : Int32} {a0_now : Nat} {N_a0_now : Nat} (hs_a0 : hS μ a0 = some (15, 65)) (hr_a0_now : hR μ a0 30 = some a0_now) (hs_a0_now : hS μ a0_now = some (0, N_a0_now))
    (h : ((x1 ≤ x4 → vp_in 30 N_a0_now ∧ Z (some (.int (hI μ a0_now 30))) μ) ∧ (¬ x1 ≤ x4 → xCall d yX12_happens cX12_happens 5 (some .int) [.ref a0] μ ro (fun r3 μ4 => ∃ y5 : Int32, r3 = some (.int y5) ∧ J μ4 0 0 34 [(0, .ref a0), (1, .int x1), (4, .int (x4 + 1))] [])))) :
    J μ 0 0 34 [(0, .ref a0), (1, .int x1), (4, .int x4)] [] := by
  refine r_iload g dX12_years_34 rfl ?_
  refine r_iload_n g dX12_years_36 rfl ?_
  refine r_icmp_ge g 52 dX12_years_37 (by decide) (fun c1 => ?_) (fun c1 => ?_)
  · replace h := h.1 c1
    refine r_aload_n g dX12_years_52 rfl ?_
    refine r_getR g fX12_57 rfl hs_a0 hr_a0_now dX12_years_53 ?_
    refine r_bipush g 30 dX12_years_56 (by decide) ?_
    obtain ⟨hi2, h⟩ := h
    refine r_iaload g hs_a0_now hi2 dX12_years_58 ?_
    exact hr.2.1 _ rfl _ _ _ _ _ _ dX12_years_59 rfl (Nat.le_refl 0) (Nat.le_refl 0) h
  · replace h := h.2 c1
    refine r_aload_n g dX12_years_40 rfl ?_
    obtain ⟨d1, Z1, hc1, hd1, h1⟩ := h
    refine r_callV (st := []) (As := []) g sX12_443 iX12_happens eX12_happens rfl hs_a0 rfl (Nat.le_of_ble_eq_true rfl) dX12_years_41 hd1 (Nat.le_refl 0) (Nat.le_refl 0) hc1 (fun r3 μ4 hZ1 => ?_)
    replace h := h1 _ _ hZ1
    clear h1 hc1 hd1 hZ1 Z1 d1
    obtain ⟨y5, rfl, h⟩ := h
    refine r_istore g [(5, .int y5), (0, .ref a0), (1, .int x1), (4, .int x4)] dX12_years_44 (by decide) rfl ?_
    refine r_iinc g (x4 + 1) [(4, .int (x4 + 1)), (5, .int y5), (0, .ref a0), (1, .int x1)] dX12_years_46 rfl rfl (by decide) rfl ?_
    refine r_goto g 34 dX12_years_49 (by decide) ?_
    refine r_sub g (lv' := [(0, .ref a0), (1, .int x1), (4, .int (x4 + 1))]) (⟨rfl, rfl, rfl, trivial⟩) ?_
    exact h
theorem I_X12_years {d : Nat} {ro : Nat → Nat} {Z : Option Value → Hp → Prop} {μ : Hp} {a0 : Nat} {x1 : Int32} {x2 : Int64} (h : ∀ J, xCtx RX12 cX12_years 6 d 0 0 yX12_years.name ro J → xRet cX12_years (some .int) 0 0 Z J → J μ 0 0 0 [(0, .ref a0), (1, .int x1), (2, .long x2)] []) : xC d yX12_years cX12_years 6 (some .int) 0 0 [.ref a0, .int x1, .long x2] μ ro Z :=
  xC_intro (own := RX12) (lv := [(0, .ref a0), (1, .int x1), (2, .long x2)]) (by decide) rfl (Nat.le_of_ble_eq_true rfl) rfl (fun J g hr => r_sub g (lv' := [(0, .ref a0), (1, .int x1), (2, .long x2)]) (⟨rfl, rfl, rfl, trivial⟩) (h J g hr))
theorem dX12_status_0 : decode cX12_status 0 = .ok (.aload_n 0, 1) := by decide +kernel
theorem dX12_status_1 : decode cX12_status 1 = .ok (.iconst 0, 1) := by decide +kernel
theorem dX12_status_2 : decode cX12_status 2 = .ok (.putfield 106, 3) := by decide +kernel
theorem dX12_status_5 : decode cX12_status 5 = .ok (.iload_n 1, 1) := by decide +kernel
theorem dX12_status_6 : decode cX12_status 6 = .ok (.i2l, 1) := by decide +kernel
theorem dX12_status_7 : decode cX12_status 7 = .ok (.lconst 0, 1) := by decide +kernel
theorem dX12_status_8 : decode cX12_status 8 = .ok (.ldc2_w 297, 3) := by decide +kernel
theorem dX12_status_11 : decode cX12_status 11 = .ok (.invokestatic 161, 3) := by decide +kernel
theorem dX12_status_14 : decode cX12_status 14 = .ok (.ifCond .eq 12, 3) := by decide +kernel
theorem dX12_status_17 : decode cX12_status 17 = .ok (.aload_n 0, 1) := by decide +kernel
theorem dX12_status_18 : decode cX12_status 18 = .ok (.getfield 35, 3) := by decide +kernel
theorem dX12_status_21 : decode cX12_status 21 = .ok (.iload_n 1, 1) := by decide +kernel
theorem dX12_status_22 : decode cX12_status 22 = .ok (.iaload, 1) := by decide +kernel
theorem dX12_status_23 : decode cX12_status 23 = .ok (.goto 4, 3) := by decide +kernel
theorem dX12_status_26 : decode cX12_status 26 = .ok (.iconst (-1), 1) := by decide +kernel
theorem dX12_status_27 : decode cX12_status 27 = .ok (.ireturn, 1) := by decide +kernel
set_option maxHeartbeats 4000000 in
set_option maxRecDepth 100000 in
theorem B_X12_status_0 {d : Nat} {ro : Nat → Nat} {J : JT} {Z : Option Value → Hp → Prop} (g : xCtx RX12 cX12_status 2 d 0 0 yX12_status.name ro J) (hr : xRet cX12_status (some .int) 0 0 Z J) {μ : Hp} {a0 : Nat} {x1 : Int32} {a0_status : Nat} {N_a0_status : Nat} (hs_a0 : hS μ a0 = some (15, 65)) (hr_a0_status : hR μ a0 14 = some a0_status) (hs_a0_status : hS μ a0_status = some (0, N_a0_status)) (hd9 : 1 ≤ d)
    (h : ((x1 < 0 → Z (some (.int (-1))) (wI μ a0 0 0)) ∧ (¬ x1 < 0 → ((3 < x1 → Z (some (.int (-1))) (wI μ a0 0 0)) ∧ (¬ 3 < x1 → vp_in x1 N_a0_status ∧ Z (some (.int (hI (wI μ a0 0 0) a0_status x1.toNatClampNeg))) (wI μ a0 0 0)))))) :
    J μ 0 0 0 [(0, .ref a0), (1, .int x1)] [] := by
  refine r_aload_n g dX12_status_0 rfl ?_
  refine r_iconst g 0 dX12_status_1 (by decide) ?_
  refine r_putI g fX12_106 rfl hs_a0 rfl rfl dX12_status_2 ?_
  refine r_iload_n g dX12_status_5 rfl ?_
  refine r_i2l g dX12_status_6 ?_
  refine r_lconst g 0 dX12_status_7 (by decide) ?_
  refine r_ldc2 g 3 kX12_297 dX12_status_8 ?_
  by_cases c1 : x1 < 0
  · replace h := h.1 c1
    refine r_callS (st := []) (As := [.long x1.toInt64, .long 0, .long 3]) g sX12_161 iX12_isIn rfl (Nat.le_of_ble_eq_true rfl) dX12_status_11 (by omega) (Nat.le_refl 0) (Nat.le_refl 0) (Q_isIn_0 (d := d - 1) (x := x1) (a := 0) (b := 3) rfl (by decide) (by decide) c1) (fun r2 μ3 hZ1 => ?_)
    obtain ⟨rfl, e9⟩ := hZ1
    replace e9 := e9.symm
    subst e9
    refine r_if_eq g 26 dX12_status_14 (by decide) (fun _ => ?_) (fun hz => absurd hz (by decide))
    refine r_iconst g (-1) dX12_status_26 (by decide) ?_
    exact hr.2.1 _ rfl _ _ _ _ _ _ dX12_status_27 rfl (Nat.le_refl 0) (Nat.le_refl 0) h
  · replace h := h.2 c1
    by_cases c4 : 3 < x1
    · replace h := h.1 c4
      refine r_callS (st := []) (As := [.long x1.toInt64, .long 0, .long 3]) g sX12_161 iX12_isIn rfl (Nat.le_of_ble_eq_true rfl) dX12_status_11 (by omega) (Nat.le_refl 0) (Nat.le_refl 0) (Q_isIn_1 (d := d - 1) (x := x1) (a := 0) (b := 3) rfl (by decide) (by decide) c1 c4) (fun r5 μ6 hZ1 => ?_)
      obtain ⟨rfl, e9⟩ := hZ1
      replace e9 := e9.symm
      subst e9
      refine r_if_eq g 26 dX12_status_14 (by decide) (fun _ => ?_) (fun hz => absurd hz (by decide))
      refine r_iconst g (-1) dX12_status_26 (by decide) ?_
      exact hr.2.1 _ rfl _ _ _ _ _ _ dX12_status_27 rfl (Nat.le_refl 0) (Nat.le_refl 0) h
    · replace h := h.2 c4
      refine r_callS (st := []) (As := [.long x1.toInt64, .long 0, .long 3]) g sX12_161 iX12_isIn rfl (Nat.le_of_ble_eq_true rfl) dX12_status_11 (by omega) (Nat.le_refl 0) (Nat.le_refl 0) (Q_isIn_2 (d := d - 1) (x := x1) (a := 0) (b := 3) rfl (by decide) (by decide) c1 c4) (fun r7 μ8 hZ1 => ?_)
      obtain ⟨rfl, e9⟩ := hZ1
      replace e9 := e9.symm
      subst e9
      refine r_if_eq g 26 dX12_status_14 (by decide) (fun hz => absurd hz (by decide)) (fun _ => ?_)
      refine r_aload_n g dX12_status_17 rfl ?_
      refine r_getR g fX12_35 rfl hs_a0 hr_a0_status dX12_status_18 ?_
      refine r_iload_n g dX12_status_21 rfl ?_
      obtain ⟨hi9, h⟩ := h
      refine r_iaload g hs_a0_status hi9 dX12_status_22 ?_
      refine r_goto g 27 dX12_status_23 (by decide) ?_
      exact hr.2.1 _ rfl _ _ _ _ _ _ dX12_status_27 rfl (Nat.le_refl 0) (Nat.le_refl 0) h
theorem I_X12_status {d : Nat} {ro : Nat → Nat} {Z : Option Value → Hp → Prop} {μ : Hp} {a0 : Nat} {x1 : Int32} (h : ∀ J, xCtx RX12 cX12_status 2 d 0 0 yX12_status.name ro J → xRet cX12_status (some .int) 0 0 Z J → J μ 0 0 0 [(0, .ref a0), (1, .int x1)] []) : xC d yX12_status cX12_status 2 (some .int) 0 0 [.ref a0, .int x1] μ ro Z :=
  xC_intro (own := RX12) (lv := [(0, .ref a0), (1, .int x1)]) (by decide) rfl (Nat.le_of_ble_eq_true rfl) rfl (fun J g hr => r_sub g (lv' := [(0, .ref a0), (1, .int x1)]) (⟨rfl, rfl, trivial⟩) (h J g hr))
theorem dX12_undo_0 : decode cX12_undo 0 = .ok (.aload_n 0, 1) := by decide +kernel
theorem dX12_undo_1 : decode cX12_undo 1 = .ok (.iconst 0, 1) := by decide +kernel
theorem dX12_undo_2 : decode cX12_undo 2 = .ok (.putfield 106, 3) := by decide +kernel
theorem dX12_undo_5 : decode cX12_undo 5 = .ok (.aload_n 0, 1) := by decide +kernel
theorem dX12_undo_6 : decode cX12_undo 6 = .ok (.getfield 251, 3) := by decide +kernel
theorem dX12_undo_9 : decode cX12_undo 9 = .ok (.ifCond .ne 5, 3) := by decide +kernel
theorem dX12_undo_12 : decode cX12_undo 12 = .ok (.iconst (-1), 1) := by decide +kernel
theorem dX12_undo_13 : decode cX12_undo 13 = .ok (.ireturn, 1) := by decide +kernel
theorem dX12_undo_14 : decode cX12_undo 14 = .ok (.aload_n 0, 1) := by decide +kernel
theorem dX12_undo_15 : decode cX12_undo 15 = .ok (.dup, 1) := by decide +kernel
theorem dX12_undo_16 : decode cX12_undo 16 = .ok (.getfield 251, 3) := by decide +kernel
theorem dX12_undo_19 : decode cX12_undo 19 = .ok (.iconst 1, 1) := by decide +kernel
theorem dX12_undo_20 : decode cX12_undo 20 = .ok (.isub, 1) := by decide +kernel
theorem dX12_undo_21 : decode cX12_undo 21 = .ok (.putfield 251, 3) := by decide +kernel
theorem dX12_undo_24 : decode cX12_undo 24 = .ok (.aload_n 0, 1) := by decide +kernel
theorem dX12_undo_25 : decode cX12_undo 25 = .ok (.getfield 66, 3) := by decide +kernel
theorem dX12_undo_28 : decode cX12_undo 28 = .ok (.sipush 293, 3) := by decide +kernel
theorem dX12_undo_31 : decode cX12_undo 31 = .ok (.aload_n 0, 1) := by decide +kernel
theorem dX12_undo_32 : decode cX12_undo 32 = .ok (.getfield 405, 3) := by decide +kernel
theorem dX12_undo_35 : decode cX12_undo 35 = .ok (.aload_n 0, 1) := by decide +kernel
theorem dX12_undo_36 : decode cX12_undo 36 = .ok (.getfield 251, 3) := by decide +kernel
theorem dX12_undo_39 : decode cX12_undo 39 = .ok (.iadd, 1) := by decide +kernel
theorem dX12_undo_40 : decode cX12_undo 40 = .ok (.bipush 40, 2) := by decide +kernel
theorem dX12_undo_42 : decode cX12_undo 42 = .ok (.irem, 1) := by decide +kernel
theorem dX12_undo_43 : decode cX12_undo 43 = .ok (.imul, 1) := by decide +kernel
theorem dX12_undo_44 : decode cX12_undo 44 = .ok (.aload_n 0, 1) := by decide +kernel
theorem dX12_undo_45 : decode cX12_undo 45 = .ok (.getfield 57, 3) := by decide +kernel
theorem dX12_undo_48 : decode cX12_undo 48 = .ok (.iconst 0, 1) := by decide +kernel
theorem dX12_undo_49 : decode cX12_undo 49 = .ok (.invokestatic 408, 3) := by decide +kernel
theorem dX12_undo_52 : decode cX12_undo 52 = .ok (.aload_n 0, 1) := by decide +kernel
theorem dX12_undo_53 : decode cX12_undo 53 = .ok (.getfield 251, 3) := by decide +kernel
theorem dX12_undo_56 : decode cX12_undo 56 = .ok (.ireturn, 1) := by decide +kernel
set_option maxHeartbeats 4000000 in
set_option maxRecDepth 100000 in
theorem B_X12_undo_0 {d : Nat} {ro : Nat → Nat} {J : JT} {Z : Option Value → Hp → Prop} (g : xCtx RX12 cX12_undo 1 d 0 0 yX12_undo.name ro J) (hr : xRet cX12_undo (some .int) 0 0 Z J) {μ : Hp} {a0 : Nat} {a0_kept : Nat} {a0_now : Nat} (hs_a0 : hS μ a0 = some (15, 65)) (hr_a0_kept : hR μ a0 33 = some a0_kept) (hr_a0_now : hR μ a0 30 = some a0_now)
    (h : ((¬ (hI (wI μ a0 0 0) a0 35) = 0 → (∀ v2 : Int32, v2 = (hI (wI (wI μ a0 0 0) a0 35 ((hI (wI μ a0 0 0) a0 35) - 1)) a0 34) → (∀ v3 : Int32, v3 = (hI (wI (wI μ a0 0 0) a0 35 ((hI (wI μ a0 0 0) a0 35) - 1)) a0 35) → xCall d yX12_copyRow cX12_copyRow 5 none [.ref a0_kept, .int (293 * ((v2 + v3) - (v2 + v3) / 40 * 40)), .ref a0_now, .int 0] (wI (wI μ a0 0 0) a0 35 ((hI (wI μ a0 0 0) a0 35) - 1)) ro (fun r4 μ5 => r4 = none ∧ hS μ5 a0 = some (15, 65) ∧ Z (some (.int (hI μ5 a0 35))) μ5)))) ∧ ((hI (wI μ a0 0 0) a0 35) = 0 → Z (some (.int (-1))) (wI μ a0 0 0)))) :
    J μ 0 0 0 [(0, .ref a0)] [] := by
  refine r_aload_n g dX12_undo_0 rfl ?_
  refine r_iconst g 0 dX12_undo_1 (by decide) ?_
  refine r_putI g fX12_106 rfl hs_a0 rfl rfl dX12_undo_2 ?_
  refine r_aload_n g dX12_undo_5 rfl ?_
  refine r_getI g fX12_251 rfl hs_a0 dX12_undo_6 ?_
  refine r_if_ne g 14 dX12_undo_9 (by decide) (fun c1 => ?_) (fun c1 => ?_)
  · replace h := h.1 c1
    refine r_aload_n g dX12_undo_14 rfl ?_
    refine r_dup g dX12_undo_15 rfl ?_
    refine r_getI g fX12_251 rfl hs_a0 dX12_undo_16 ?_
    refine r_iconst g 1 dX12_undo_19 (by decide) ?_
    refine r_isub g dX12_undo_20 ?_
    refine r_putI g fX12_251 rfl hs_a0 rfl rfl dX12_undo_21 ?_
    refine r_aload_n g dX12_undo_24 rfl ?_
    refine r_getR g fX12_66 rfl hs_a0 hr_a0_kept dX12_undo_25 ?_
    refine r_sipush g 293 dX12_undo_28 (by decide) ?_
    refine r_aload_n g dX12_undo_31 rfl ?_
    refine r_getI g fX12_405 rfl hs_a0 dX12_undo_32 ?_
    refine r_nmI (fun v2 ev2 => ?_)
    replace h := h v2 ev2
    refine r_aload_n g dX12_undo_35 rfl ?_
    refine r_getI g fX12_251 rfl hs_a0 dX12_undo_36 ?_
    refine r_nmI (fun v3 ev3 => ?_)
    replace h := h v3 ev3
    refine r_iadd g dX12_undo_39 ?_
    refine r_bipush g 40 dX12_undo_40 (by decide) ?_
    refine r_irem g (by decide) dX12_undo_42 ?_
    refine r_imul g dX12_undo_43 ?_
    refine r_aload_n g dX12_undo_44 rfl ?_
    refine r_getR g fX12_57 rfl hs_a0 hr_a0_now dX12_undo_45 ?_
    refine r_iconst g 0 dX12_undo_48 (by decide) ?_
    obtain ⟨d1, Z1, hc1, hd1, h1⟩ := h
    refine r_callS (st := []) (As := [.ref a0_kept, .int (293 * ((v2 + v3) - (v2 + v3) / 40 * 40)), .ref a0_now, .int 0]) g sX12_408 iX12_copyRow rfl (Nat.le_of_ble_eq_true rfl) dX12_undo_49 hd1 (Nat.le_refl 0) (Nat.le_refl 0) hc1 (fun r4 μ5 hZ1 => ?_)
    replace h := h1 _ _ hZ1
    clear h1 hc1 hd1 hZ1 Z1 d1
    obtain ⟨rfl, h⟩ := h
    refine r_aload_n g dX12_undo_52 rfl ?_
    obtain ⟨hs_a0_, h⟩ := h
    refine r_getI g fX12_251 rfl hs_a0_ dX12_undo_53 ?_
    exact hr.2.1 _ rfl _ _ _ _ _ _ dX12_undo_56 rfl (Nat.le_refl 0) (Nat.le_refl 0) h
  · replace h := h.2 c1
    refine r_iconst g (-1) dX12_undo_12 (by decide) ?_
    exact hr.2.1 _ rfl _ _ _ _ _ _ dX12_undo_13 rfl (Nat.le_refl 0) (Nat.le_refl 0) h
theorem I_X12_undo {d : Nat} {ro : Nat → Nat} {Z : Option Value → Hp → Prop} {μ : Hp} {a0 : Nat} (h : ∀ J, xCtx RX12 cX12_undo 1 d 0 0 yX12_undo.name ro J → xRet cX12_undo (some .int) 0 0 Z J → J μ 0 0 0 [(0, .ref a0)] []) : xC d yX12_undo cX12_undo 1 (some .int) 0 0 [.ref a0] μ ro Z :=
  xC_intro (own := RX12) (lv := [(0, .ref a0)]) (by decide) rfl (Nat.le_of_ble_eq_true rfl) rfl (fun J g hr => r_sub g (lv' := [(0, .ref a0)]) (⟨rfl, trivial⟩) (h J g hr))
theorem dX12_log_0 : decode cX12_log 0 = .ok (.aload_n 0, 1) := by decide +kernel
theorem dX12_log_1 : decode cX12_log 1 = .ok (.iconst 0, 1) := by decide +kernel
theorem dX12_log_2 : decode cX12_log 2 = .ok (.putfield 106, 3) := by decide +kernel
theorem dX12_log_5 : decode cX12_log 5 = .ok (.iload_n 1, 1) := by decide +kernel
theorem dX12_log_6 : decode cX12_log 6 = .ok (.ifCond .lt 26, 3) := by decide +kernel
theorem dX12_log_9 : decode cX12_log 9 = .ok (.iload_n 1, 1) := by decide +kernel
theorem dX12_log_10 : decode cX12_log 10 = .ok (.aload_n 0, 1) := by decide +kernel
theorem dX12_log_11 : decode cX12_log 11 = .ok (.getfield 57, 3) := by decide +kernel
theorem dX12_log_14 : decode cX12_log 14 = .ok (.bipush 112, 2) := by decide +kernel
theorem dX12_log_16 : decode cX12_log 16 = .ok (.iaload, 1) := by decide +kernel
theorem dX12_log_17 : decode cX12_log 17 = .ok (.if_icmp .ge 15, 3) := by decide +kernel
theorem dX12_log_20 : decode cX12_log 20 = .ok (.iload_n 2, 1) := by decide +kernel
theorem dX12_log_21 : decode cX12_log 21 = .ok (.i2l, 1) := by decide +kernel
theorem dX12_log_22 : decode cX12_log 22 = .ok (.lconst 0, 1) := by decide +kernel
theorem dX12_log_23 : decode cX12_log 23 = .ok (.ldc2_w 446, 3) := by decide +kernel
theorem dX12_log_26 : decode cX12_log 26 = .ok (.invokestatic 161, 3) := by decide +kernel
theorem dX12_log_29 : decode cX12_log 29 = .ok (.ifCond .ne 7, 3) := by decide +kernel
theorem dX12_log_32 : decode cX12_log 32 = .ok (.ldc_w 448, 3) := by decide +kernel
theorem dX12_log_35 : decode cX12_log 35 = .ok (.ireturn, 1) := by decide +kernel
theorem dX12_log_36 : decode cX12_log 36 = .ok (.aload_n 0, 1) := by decide +kernel
theorem dX12_log_37 : decode cX12_log 37 = .ok (.getfield 57, 3) := by decide +kernel
theorem dX12_log_40 : decode cX12_log 40 = .ok (.bipush 113, 2) := by decide +kernel
theorem dX12_log_42 : decode cX12_log 42 = .ok (.iconst 3, 1) := by decide +kernel
theorem dX12_log_43 : decode cX12_log 43 = .ok (.aload_n 0, 1) := by decide +kernel
theorem dX12_log_44 : decode cX12_log 44 = .ok (.getfield 57, 3) := by decide +kernel
theorem dX12_log_47 : decode cX12_log 47 = .ok (.bipush 112, 2) := by decide +kernel
theorem dX12_log_49 : decode cX12_log 49 = .ok (.iaload, 1) := by decide +kernel
theorem dX12_log_50 : decode cX12_log 50 = .ok (.iconst 1, 1) := by decide +kernel
theorem dX12_log_51 : decode cX12_log 51 = .ok (.isub, 1) := by decide +kernel
theorem dX12_log_52 : decode cX12_log 52 = .ok (.iload_n 1, 1) := by decide +kernel
theorem dX12_log_53 : decode cX12_log 53 = .ok (.isub, 1) := by decide +kernel
theorem dX12_log_54 : decode cX12_log 54 = .ok (.imul, 1) := by decide +kernel
theorem dX12_log_55 : decode cX12_log 55 = .ok (.iadd, 1) := by decide +kernel
theorem dX12_log_56 : decode cX12_log 56 = .ok (.iload_n 2, 1) := by decide +kernel
theorem dX12_log_57 : decode cX12_log 57 = .ok (.iadd, 1) := by decide +kernel
theorem dX12_log_58 : decode cX12_log 58 = .ok (.iaload, 1) := by decide +kernel
theorem dX12_log_59 : decode cX12_log 59 = .ok (.ireturn, 1) := by decide +kernel
set_option maxHeartbeats 4000000 in
set_option maxRecDepth 100000 in
theorem B_X12_log_0 {d : Nat} {ro : Nat → Nat} {J : JT} {Z : Option Value → Hp → Prop} (g : xCtx RX12 cX12_log 3 d 0 0 yX12_log.name ro J) (hr : xRet cX12_log (some .int) 0 0 Z J) {μ : Hp} {a0 : Nat} {x1 : Int32} {x2 : Int32} {a0_now : Nat} {N_a0_now : Nat} (hs_a0 : hS μ a0 = some (15, 65)) (hr_a0_now : hR μ a0 30 = some a0_now) (hs_a0_now : hS μ a0_now = some (0, N_a0_now)) (hd9 : 1 ≤ d)
    (h : ((x1 < 0 → Z (some (.int (-1000000))) (wI μ a0 0 0)) ∧ (¬ x1 < 0 → vp_in 112 N_a0_now ∧ (((hI (wI μ a0 0 0) a0_now 112) ≤ x1 → Z (some (.int (-1000000))) (wI μ a0 0 0)) ∧ (¬ (hI (wI μ a0 0 0) a0_now 112) ≤ x1 → ((x2 < 0 → Z (some (.int (-1000000))) (wI μ a0 0 0)) ∧ (¬ x2 < 0 → ((2 < x2 → Z (some (.int (-1000000))) (wI μ a0 0 0)) ∧ (¬ 2 < x2 → vp_in ((113 + (3 * (((hI (wI μ a0 0 0) a0_now 112) - 1) - x1))) + x2) N_a0_now ∧ (∀ v13 : Int32, v13 = (hI (wI μ a0 0 0) a0_now (((113 + (3 * (((hI (wI μ a0 0 0) a0_now 112) - 1) - x1))) + x2).toNatClampNeg)) → Z (some (.int v13)) (wI μ a0 0 0))))))))))) :
    J μ 0 0 0 [(0, .ref a0), (1, .int x1), (2, .int x2)] [] := by
  refine r_aload_n g dX12_log_0 rfl ?_
  refine r_iconst g 0 dX12_log_1 (by decide) ?_
  refine r_putI g fX12_106 rfl hs_a0 rfl rfl dX12_log_2 ?_
  refine r_iload_n g dX12_log_5 rfl ?_
  refine r_if_lt g 32 dX12_log_6 (by decide) (fun c1 => ?_) (fun c1 => ?_)
  · replace h := h.1 c1
    refine r_ldcw g (-1000000) kX12_448 dX12_log_32 ?_
    exact hr.2.1 _ rfl _ _ _ _ _ _ dX12_log_35 rfl (Nat.le_refl 0) (Nat.le_refl 0) h
  · replace h := h.2 c1
    refine r_iload_n g dX12_log_9 rfl ?_
    refine r_aload_n g dX12_log_10 rfl ?_
    refine r_getR g fX12_57 rfl hs_a0 hr_a0_now dX12_log_11 ?_
    refine r_bipush g 112 dX12_log_14 (by decide) ?_
    obtain ⟨hi2, h⟩ := h
    refine r_iaload g hs_a0_now hi2 dX12_log_16 ?_
    refine r_icmp_ge g 32 dX12_log_17 (by decide) (fun c3 => ?_) (fun c3 => ?_)
    · replace h := h.1 c3
      refine r_ldcw g (-1000000) kX12_448 dX12_log_32 ?_
      exact hr.2.1 _ rfl _ _ _ _ _ _ dX12_log_35 rfl (Nat.le_refl 0) (Nat.le_refl 0) h
    · replace h := h.2 c3
      refine r_iload_n g dX12_log_20 rfl ?_
      refine r_i2l g dX12_log_21 ?_
      refine r_lconst g 0 dX12_log_22 (by decide) ?_
      refine r_ldc2 g 2 kX12_446 dX12_log_23 ?_
      by_cases c4 : x2 < 0
      · replace h := h.1 c4
        refine r_callS (st := []) (As := [.long x2.toInt64, .long 0, .long 2]) g sX12_161 iX12_isIn rfl (Nat.le_of_ble_eq_true rfl) dX12_log_26 (by omega) (Nat.le_refl 0) (Nat.le_refl 0) (Q_isIn_0 (d := d - 1) (x := x2) (a := 0) (b := 2) rfl (by decide) (by decide) c4) (fun r5 μ6 hZ1 => ?_)
        obtain ⟨rfl, e9⟩ := hZ1
        replace e9 := e9.symm
        subst e9
        refine r_if_ne g 36 dX12_log_29 (by decide) (fun hz => absurd hz (by decide)) (fun _ => ?_)
        refine r_ldcw g (-1000000) kX12_448 dX12_log_32 ?_
        exact hr.2.1 _ rfl _ _ _ _ _ _ dX12_log_35 rfl (Nat.le_refl 0) (Nat.le_refl 0) h
      · replace h := h.2 c4
        by_cases c7 : 2 < x2
        · replace h := h.1 c7
          refine r_callS (st := []) (As := [.long x2.toInt64, .long 0, .long 2]) g sX12_161 iX12_isIn rfl (Nat.le_of_ble_eq_true rfl) dX12_log_26 (by omega) (Nat.le_refl 0) (Nat.le_refl 0) (Q_isIn_1 (d := d - 1) (x := x2) (a := 0) (b := 2) rfl (by decide) (by decide) c4 c7) (fun r8 μ9 hZ1 => ?_)
          obtain ⟨rfl, e9⟩ := hZ1
          replace e9 := e9.symm
          subst e9
          refine r_if_ne g 36 dX12_log_29 (by decide) (fun hz => absurd hz (by decide)) (fun _ => ?_)
          refine r_ldcw g (-1000000) kX12_448 dX12_log_32 ?_
          exact hr.2.1 _ rfl _ _ _ _ _ _ dX12_log_35 rfl (Nat.le_refl 0) (Nat.le_refl 0) h
        · replace h := h.2 c7
          refine r_callS (st := []) (As := [.long x2.toInt64, .long 0, .long 2]) g sX12_161 iX12_isIn rfl (Nat.le_of_ble_eq_true rfl) dX12_log_26 (by omega) (Nat.le_refl 0) (Nat.le_refl 0) (Q_isIn_2 (d := d - 1) (x := x2) (a := 0) (b := 2) rfl (by decide) (by decide) c4 c7) (fun r10 μ11 hZ1 => ?_)
          obtain ⟨rfl, e9⟩ := hZ1
          replace e9 := e9.symm
          subst e9
          refine r_if_ne g 36 dX12_log_29 (by decide) (fun _ => ?_) (fun hz => absurd hz (by decide))
          refine r_aload_n g dX12_log_36 rfl ?_
          refine r_getR g fX12_57 rfl hs_a0 hr_a0_now dX12_log_37 ?_
          refine r_bipush g 113 dX12_log_40 (by decide) ?_
          refine r_iconst g 3 dX12_log_42 (by decide) ?_
          refine r_aload_n g dX12_log_43 rfl ?_
          refine r_getR g fX12_57 rfl hs_a0 hr_a0_now dX12_log_44 ?_
          refine r_bipush g 112 dX12_log_47 (by decide) ?_
          refine r_iaload g hs_a0_now hi2 dX12_log_49 ?_
          refine r_iconst g 1 dX12_log_50 (by decide) ?_
          refine r_isub g dX12_log_51 ?_
          refine r_iload_n g dX12_log_52 rfl ?_
          refine r_isub g dX12_log_53 ?_
          refine r_imul g dX12_log_54 ?_
          refine r_iadd g dX12_log_55 ?_
          refine r_iload_n g dX12_log_56 rfl ?_
          refine r_iadd g dX12_log_57 ?_
          obtain ⟨hi12, h⟩ := h
          refine r_iaload g hs_a0_now hi12 dX12_log_58 ?_
          refine r_nmI (fun v13 ev13 => ?_)
          replace h := h v13 ev13
          exact hr.2.1 _ rfl _ _ _ _ _ _ dX12_log_59 rfl (Nat.le_refl 0) (Nat.le_refl 0) h
theorem I_X12_log {d : Nat} {ro : Nat → Nat} {Z : Option Value → Hp → Prop} {μ : Hp} {a0 : Nat} {x1 : Int32} {x2 : Int32} (h : ∀ J, xCtx RX12 cX12_log 3 d 0 0 yX12_log.name ro J → xRet cX12_log (some .int) 0 0 Z J → J μ 0 0 0 [(0, .ref a0), (1, .int x1), (2, .int x2)] []) : xC d yX12_log cX12_log 3 (some .int) 0 0 [.ref a0, .int x1, .int x2] μ ro Z :=
  xC_intro (own := RX12) (lv := [(0, .ref a0), (1, .int x1), (2, .int x2)]) (by decide) rfl (Nat.le_of_ble_eq_true rfl) rfl (fun J g hr => r_sub g (lv' := [(0, .ref a0), (1, .int x1), (2, .int x2)]) (⟨rfl, rfl, rfl, trivial⟩) (h J g hr))
theorem dX12_image_0 : decode cX12_image 0 = .ok (.aload_n 0, 1) := by decide +kernel
theorem dX12_image_1 : decode cX12_image 1 = .ok (.iconst 0, 1) := by decide +kernel
theorem dX12_image_2 : decode cX12_image 2 = .ok (.putfield 106, 3) := by decide +kernel
theorem dX12_image_5 : decode cX12_image 5 = .ok (.aload_n 0, 1) := by decide +kernel
theorem dX12_image_6 : decode cX12_image 6 = .ok (.getfield 245, 3) := by decide +kernel
theorem dX12_image_9 : decode cX12_image 9 = .ok (.ifCond .ne 5, 3) := by decide +kernel
theorem dX12_image_12 : decode cX12_image 12 = .ok (.iconst (-1), 1) := by decide +kernel
theorem dX12_image_13 : decode cX12_image 13 = .ok (.ireturn, 1) := by decide +kernel
theorem dX12_image_14 : decode cX12_image 14 = .ok (.aload_n 0, 1) := by decide +kernel
theorem dX12_image_15 : decode cX12_image 15 = .ok (.getfield 57, 3) := by decide +kernel
theorem dX12_image_18 : decode cX12_image 18 = .ok (.iconst 0, 1) := by decide +kernel
theorem dX12_image_19 : decode cX12_image 19 = .ok (.aload_n 0, 1) := by decide +kernel
theorem dX12_image_20 : decode cX12_image 20 = .ok (.getfield 63, 3) := by decide +kernel
theorem dX12_image_23 : decode cX12_image 23 = .ok (.iconst 0, 1) := by decide +kernel
theorem dX12_image_24 : decode cX12_image 24 = .ok (.invokestatic 408, 3) := by decide +kernel
theorem dX12_image_27 : decode cX12_image 27 = .ok (.aload_n 0, 1) := by decide +kernel
theorem dX12_image_28 : decode cX12_image 28 = .ok (.iconst 1, 1) := by decide +kernel
theorem dX12_image_29 : decode cX12_image 29 = .ok (.putfield 254, 3) := by decide +kernel
theorem dX12_image_32 : decode cX12_image 32 = .ok (.aload_n 0, 1) := by decide +kernel
theorem dX12_image_33 : decode cX12_image 33 = .ok (.getfield 57, 3) := by decide +kernel
theorem dX12_image_36 : decode cX12_image 36 = .ok (.bipush 30, 2) := by decide +kernel
theorem dX12_image_38 : decode cX12_image 38 = .ok (.iaload, 1) := by decide +kernel
theorem dX12_image_39 : decode cX12_image 39 = .ok (.ireturn, 1) := by decide +kernel
set_option maxHeartbeats 4000000 in
set_option maxRecDepth 100000 in
theorem B_X12_image_0 {d : Nat} {ro : Nat → Nat} {J : JT} {Z : Option Value → Hp → Prop} (g : xCtx RX12 cX12_image 1 d 0 0 yX12_image.name ro J) (hr : xRet cX12_image (some .int) 0 0 Z J) {μ : Hp} {a0 : Nat} {a0_now : Nat} {a0_image : Nat} (hs_a0 : hS μ a0 = some (15, 65)) (hr_a0_now : hR μ a0 30 = some a0_now) (hr_a0_image : hR μ a0 32 = some a0_image)
    (h : ((¬ (hI (wI μ a0 0 0) a0 22) = 0 → xCall d yX12_copyRow cX12_copyRow 5 none [.ref a0_now, .int 0, .ref a0_image, .int 0] (wI μ a0 0 0) ro (fun r2 μ3 => r2 = none ∧ hS μ3 a0 = some (15, 65) ∧ ∃ now_4 : Nat, hR μ3 a0 30 = some now_4 ∧ ∃ N5 : Nat, hS μ3 now_4 = some (0, N5) ∧ vp_in 30 N5 ∧ Z (some (.int (hI (wI μ3 a0 36 1) now_4 30))) (wI μ3 a0 36 1))) ∧ ((hI (wI μ a0 0 0) a0 22) = 0 → Z (some (.int (-1))) (wI μ a0 0 0)))) :
    J μ 0 0 0 [(0, .ref a0)] [] := by
  refine r_aload_n g dX12_image_0 rfl ?_
  refine r_iconst g 0 dX12_image_1 (by decide) ?_
  refine r_putI g fX12_106 rfl hs_a0 rfl rfl dX12_image_2 ?_
  refine r_aload_n g dX12_image_5 rfl ?_
  refine r_getI g fX12_245 rfl hs_a0 dX12_image_6 ?_
  refine r_if_ne g 14 dX12_image_9 (by decide) (fun c1 => ?_) (fun c1 => ?_)
  · replace h := h.1 c1
    refine r_aload_n g dX12_image_14 rfl ?_
    refine r_getR g fX12_57 rfl hs_a0 hr_a0_now dX12_image_15 ?_
    refine r_iconst g 0 dX12_image_18 (by decide) ?_
    refine r_aload_n g dX12_image_19 rfl ?_
    refine r_getR g fX12_63 rfl hs_a0 hr_a0_image dX12_image_20 ?_
    refine r_iconst g 0 dX12_image_23 (by decide) ?_
    obtain ⟨d1, Z1, hc1, hd1, h1⟩ := h
    refine r_callS (st := []) (As := [.ref a0_now, .int 0, .ref a0_image, .int 0]) g sX12_408 iX12_copyRow rfl (Nat.le_of_ble_eq_true rfl) dX12_image_24 hd1 (Nat.le_refl 0) (Nat.le_refl 0) hc1 (fun r2 μ3 hZ1 => ?_)
    replace h := h1 _ _ hZ1
    clear h1 hc1 hd1 hZ1 Z1 d1
    obtain ⟨rfl, h⟩ := h
    refine r_aload_n g dX12_image_27 rfl ?_
    refine r_iconst g 1 dX12_image_28 (by decide) ?_
    obtain ⟨hs_a0_, h⟩ := h
    refine r_putI g fX12_254 rfl hs_a0_ (by decide) (by decide) dX12_image_29 ?_
    refine r_aload_n g dX12_image_32 rfl ?_
    obtain ⟨now_4, hr_now_4, h⟩ := h
    refine r_getR g fX12_57 rfl hs_a0_ hr_now_4 dX12_image_33 ?_
    refine r_bipush g 30 dX12_image_36 (by decide) ?_
    obtain ⟨N5, hs_now_4, h⟩ := h
    obtain ⟨hi6, h⟩ := h
    refine r_iaload g hs_now_4 hi6 dX12_image_38 ?_
    exact hr.2.1 _ rfl _ _ _ _ _ _ dX12_image_39 rfl (Nat.le_refl 0) (Nat.le_refl 0) h
  · replace h := h.2 c1
    refine r_iconst g (-1) dX12_image_12 (by decide) ?_
    exact hr.2.1 _ rfl _ _ _ _ _ _ dX12_image_13 rfl (Nat.le_refl 0) (Nat.le_refl 0) h
theorem I_X12_image {d : Nat} {ro : Nat → Nat} {Z : Option Value → Hp → Prop} {μ : Hp} {a0 : Nat} (h : ∀ J, xCtx RX12 cX12_image 1 d 0 0 yX12_image.name ro J → xRet cX12_image (some .int) 0 0 Z J → J μ 0 0 0 [(0, .ref a0)] []) : xC d yX12_image cX12_image 1 (some .int) 0 0 [.ref a0] μ ro Z :=
  xC_intro (own := RX12) (lv := [(0, .ref a0)]) (by decide) rfl (Nat.le_of_ble_eq_true rfl) rfl (fun J g hr => r_sub g (lv' := [(0, .ref a0)]) (⟨rfl, trivial⟩) (h J g hr))
theorem dX12_back_0 : decode cX12_back 0 = .ok (.aload_n 0, 1) := by decide +kernel
theorem dX12_back_1 : decode cX12_back 1 = .ok (.iconst 0, 1) := by decide +kernel
theorem dX12_back_2 : decode cX12_back 2 = .ok (.putfield 106, 3) := by decide +kernel
theorem dX12_back_5 : decode cX12_back 5 = .ok (.aload_n 0, 1) := by decide +kernel
theorem dX12_back_6 : decode cX12_back 6 = .ok (.getfield 254, 3) := by decide +kernel
theorem dX12_back_9 : decode cX12_back 9 = .ok (.ifCond .ne 5, 3) := by decide +kernel
theorem dX12_back_12 : decode cX12_back 12 = .ok (.iconst (-1), 1) := by decide +kernel
theorem dX12_back_13 : decode cX12_back 13 = .ok (.ireturn, 1) := by decide +kernel
theorem dX12_back_14 : decode cX12_back 14 = .ok (.aload_n 0, 1) := by decide +kernel
theorem dX12_back_15 : decode cX12_back 15 = .ok (.getfield 63, 3) := by decide +kernel
theorem dX12_back_18 : decode cX12_back 18 = .ok (.iconst 0, 1) := by decide +kernel
theorem dX12_back_19 : decode cX12_back 19 = .ok (.aload_n 0, 1) := by decide +kernel
theorem dX12_back_20 : decode cX12_back 20 = .ok (.getfield 57, 3) := by decide +kernel
theorem dX12_back_23 : decode cX12_back 23 = .ok (.iconst 0, 1) := by decide +kernel
theorem dX12_back_24 : decode cX12_back 24 = .ok (.invokestatic 408, 3) := by decide +kernel
theorem dX12_back_27 : decode cX12_back 27 = .ok (.aload_n 0, 1) := by decide +kernel
theorem dX12_back_28 : decode cX12_back 28 = .ok (.iconst 0, 1) := by decide +kernel
theorem dX12_back_29 : decode cX12_back 29 = .ok (.putfield 251, 3) := by decide +kernel
theorem dX12_back_32 : decode cX12_back 32 = .ok (.aload_n 0, 1) := by decide +kernel
theorem dX12_back_33 : decode cX12_back 33 = .ok (.getfield 57, 3) := by decide +kernel
theorem dX12_back_36 : decode cX12_back 36 = .ok (.bipush 30, 2) := by decide +kernel
theorem dX12_back_38 : decode cX12_back 38 = .ok (.iaload, 1) := by decide +kernel
theorem dX12_back_39 : decode cX12_back 39 = .ok (.ireturn, 1) := by decide +kernel
set_option maxHeartbeats 4000000 in
set_option maxRecDepth 100000 in
theorem B_X12_back_0 {d : Nat} {ro : Nat → Nat} {J : JT} {Z : Option Value → Hp → Prop} (g : xCtx RX12 cX12_back 1 d 0 0 yX12_back.name ro J) (hr : xRet cX12_back (some .int) 0 0 Z J) {μ : Hp} {a0 : Nat} {a0_image : Nat} {a0_now : Nat} (hs_a0 : hS μ a0 = some (15, 65)) (hr_a0_image : hR μ a0 32 = some a0_image) (hr_a0_now : hR μ a0 30 = some a0_now)
    (h : ((¬ (hI (wI μ a0 0 0) a0 36) = 0 → xCall d yX12_copyRow cX12_copyRow 5 none [.ref a0_image, .int 0, .ref a0_now, .int 0] (wI μ a0 0 0) ro (fun r2 μ3 => r2 = none ∧ hS μ3 a0 = some (15, 65) ∧ ∃ now_4 : Nat, hR μ3 a0 30 = some now_4 ∧ ∃ N5 : Nat, hS μ3 now_4 = some (0, N5) ∧ vp_in 30 N5 ∧ Z (some (.int (hI (wI μ3 a0 35 0) now_4 30))) (wI μ3 a0 35 0))) ∧ ((hI (wI μ a0 0 0) a0 36) = 0 → Z (some (.int (-1))) (wI μ a0 0 0)))) :
    J μ 0 0 0 [(0, .ref a0)] [] := by
  refine r_aload_n g dX12_back_0 rfl ?_
  refine r_iconst g 0 dX12_back_1 (by decide) ?_
  refine r_putI g fX12_106 rfl hs_a0 rfl rfl dX12_back_2 ?_
  refine r_aload_n g dX12_back_5 rfl ?_
  refine r_getI g fX12_254 rfl hs_a0 dX12_back_6 ?_
  refine r_if_ne g 14 dX12_back_9 (by decide) (fun c1 => ?_) (fun c1 => ?_)
  · replace h := h.1 c1
    refine r_aload_n g dX12_back_14 rfl ?_
    refine r_getR g fX12_63 rfl hs_a0 hr_a0_image dX12_back_15 ?_
    refine r_iconst g 0 dX12_back_18 (by decide) ?_
    refine r_aload_n g dX12_back_19 rfl ?_
    refine r_getR g fX12_57 rfl hs_a0 hr_a0_now dX12_back_20 ?_
    refine r_iconst g 0 dX12_back_23 (by decide) ?_
    obtain ⟨d1, Z1, hc1, hd1, h1⟩ := h
    refine r_callS (st := []) (As := [.ref a0_image, .int 0, .ref a0_now, .int 0]) g sX12_408 iX12_copyRow rfl (Nat.le_of_ble_eq_true rfl) dX12_back_24 hd1 (Nat.le_refl 0) (Nat.le_refl 0) hc1 (fun r2 μ3 hZ1 => ?_)
    replace h := h1 _ _ hZ1
    clear h1 hc1 hd1 hZ1 Z1 d1
    obtain ⟨rfl, h⟩ := h
    refine r_aload_n g dX12_back_27 rfl ?_
    refine r_iconst g 0 dX12_back_28 (by decide) ?_
    obtain ⟨hs_a0_, h⟩ := h
    refine r_putI g fX12_251 rfl hs_a0_ rfl rfl dX12_back_29 ?_
    refine r_aload_n g dX12_back_32 rfl ?_
    obtain ⟨now_4, hr_now_4, h⟩ := h
    refine r_getR g fX12_57 rfl hs_a0_ hr_now_4 dX12_back_33 ?_
    refine r_bipush g 30 dX12_back_36 (by decide) ?_
    obtain ⟨N5, hs_now_4, h⟩ := h
    obtain ⟨hi6, h⟩ := h
    refine r_iaload g hs_now_4 hi6 dX12_back_38 ?_
    exact hr.2.1 _ rfl _ _ _ _ _ _ dX12_back_39 rfl (Nat.le_refl 0) (Nat.le_refl 0) h
  · replace h := h.2 c1
    refine r_iconst g (-1) dX12_back_12 (by decide) ?_
    exact hr.2.1 _ rfl _ _ _ _ _ _ dX12_back_13 rfl (Nat.le_refl 0) (Nat.le_refl 0) h
theorem I_X12_back {d : Nat} {ro : Nat → Nat} {Z : Option Value → Hp → Prop} {μ : Hp} {a0 : Nat} (h : ∀ J, xCtx RX12 cX12_back 1 d 0 0 yX12_back.name ro J → xRet cX12_back (some .int) 0 0 Z J → J μ 0 0 0 [(0, .ref a0)] []) : xC d yX12_back cX12_back 1 (some .int) 0 0 [.ref a0] μ ro Z :=
  xC_intro (own := RX12) (lv := [(0, .ref a0)]) (by decide) rfl (Nat.le_of_ble_eq_true rfl) rfl (fun J g hr => r_sub g (lv' := [(0, .ref a0)]) (⟨rfl, trivial⟩) (h J g hr))
theorem dX12_land_0 : decode cX12_land 0 = .ok (.aload_n 0, 1) := by decide +kernel
theorem dX12_land_1 : decode cX12_land 1 = .ok (.iconst 0, 1) := by decide +kernel
theorem dX12_land_2 : decode cX12_land 2 = .ok (.putfield 106, 3) := by decide +kernel
theorem dX12_land_5 : decode cX12_land 5 = .ok (.aload_n 0, 1) := by decide +kernel
theorem dX12_land_6 : decode cX12_land 6 = .ok (.iload_n 1, 1) := by decide +kernel
theorem dX12_land_7 : decode cX12_land 7 = .ok (.invokevirtual 449, 3) := by decide +kernel
theorem dX12_land_10 : decode cX12_land 10 = .ok (.ifCond .eq 15, 3) := by decide +kernel
theorem dX12_land_13 : decode cX12_land 13 = .ok (.iload_n 2, 1) := by decide +kernel
theorem dX12_land_14 : decode cX12_land 14 = .ok (.i2l, 1) := by decide +kernel
theorem dX12_land_15 : decode cX12_land 15 = .ok (.lconst 0, 1) := by decide +kernel
theorem dX12_land_16 : decode cX12_land 16 = .ok (.ldc2_w 297, 3) := by decide +kernel
theorem dX12_land_19 : decode cX12_land 19 = .ok (.invokestatic 161, 3) := by decide +kernel
theorem dX12_land_22 : decode cX12_land 22 = .ok (.ifCond .ne 5, 3) := by decide +kernel
theorem dX12_land_25 : decode cX12_land 25 = .ok (.iconst (-1), 1) := by decide +kernel
theorem dX12_land_26 : decode cX12_land 26 = .ok (.ireturn, 1) := by decide +kernel
theorem dX12_land_27 : decode cX12_land 27 = .ok (.iload_n 2, 1) := by decide +kernel
theorem dX12_land_28 : decode cX12_land 28 = .ok (.iconst 3, 1) := by decide +kernel
theorem dX12_land_29 : decode cX12_land 29 = .ok (.if_icmp .ne 15, 3) := by decide +kernel
theorem dX12_land_32 : decode cX12_land 32 = .ok (.aload_n 0, 1) := by decide +kernel
theorem dX12_land_33 : decode cX12_land 33 = .ok (.getfield 57, 3) := by decide +kernel
theorem dX12_land_36 : decode cX12_land 36 = .ok (.bipush 24, 2) := by decide +kernel
theorem dX12_land_38 : decode cX12_land 38 = .ok (.iload_n 1, 1) := by decide +kernel
theorem dX12_land_39 : decode cX12_land 39 = .ok (.iadd, 1) := by decide +kernel
theorem dX12_land_40 : decode cX12_land 40 = .ok (.iaload, 1) := by decide +kernel
theorem dX12_land_41 : decode cX12_land 41 = .ok (.goto 13, 3) := by decide +kernel
theorem dX12_land_44 : decode cX12_land 44 = .ok (.aload_n 0, 1) := by decide +kernel
theorem dX12_land_45 : decode cX12_land 45 = .ok (.getfield 17, 3) := by decide +kernel
theorem dX12_land_48 : decode cX12_land 48 = .ok (.iconst 3, 1) := by decide +kernel
theorem dX12_land_49 : decode cX12_land 49 = .ok (.iload_n 1, 1) := by decide +kernel
theorem dX12_land_50 : decode cX12_land 50 = .ok (.imul, 1) := by decide +kernel
theorem dX12_land_51 : decode cX12_land 51 = .ok (.iload_n 2, 1) := by decide +kernel
theorem dX12_land_52 : decode cX12_land 52 = .ok (.iadd, 1) := by decide +kernel
theorem dX12_land_53 : decode cX12_land 53 = .ok (.iaload, 1) := by decide +kernel
theorem dX12_land_54 : decode cX12_land 54 = .ok (.ireturn, 1) := by decide +kernel
set_option maxHeartbeats 4000000 in
set_option maxRecDepth 100000 in
theorem B_X12_land_0 {d : Nat} {ro : Nat → Nat} {J : JT} {Z : Option Value → Hp → Prop} (g : xCtx RX12 cX12_land 3 d 0 0 yX12_land.name ro J) (hr : xRet cX12_land (some .int) 0 0 Z J) {μ : Hp} {a0 : Nat} {x1 : Int32} {x2 : Int32} {a0_land : Nat} {N_a0_land : Nat} {a0_now : Nat} {N_a0_now : Nat} (hs_a0 : hS μ a0 = some (15, 65)) (hr_a0_land : hR μ a0 8 = some a0_land) (hs_a0_land : hS μ a0_land = some (0, N_a0_land)) (hr_a0_now : hR μ a0 30 = some a0_now) (hs_a0_now : hS μ a0_now = some (0, N_a0_now)) (hd9 : 1 ≤ d)
    (h : ((x1 < 0 → Z (some (.int (-1))) (wI μ a0 0 0)) ∧ (¬ x1 < 0 → (((hI (wI μ a0 0 0) a0 20) ≤ x1 → Z (some (.int (-1))) (wI μ a0 0 0)) ∧ (¬ (hI (wI μ a0 0 0) a0 20) ≤ x1 → (((hI (wI μ a0 0 0) a0 22) ≤ 0 → Z (some (.int (-1))) (wI μ a0 0 0)) ∧ (¬ (hI (wI μ a0 0 0) a0 22) ≤ 0 → ((x2 < 0 → Z (some (.int (-1))) (wI μ a0 0 0)) ∧ (¬ x2 < 0 → ((3 < x2 → Z (some (.int (-1))) (wI μ a0 0 0)) ∧ (¬ 3 < x2 → ((¬ x2 = 3 → vp_in ((3 * x1) + x2) N_a0_land ∧ Z (some (.int (hI (wI μ a0 0 0) a0_land (((3 * x1) + x2).toNatClampNeg)))) (wI μ a0 0 0)) ∧ (x2 = 3 → vp_in (24 + x1) N_a0_now ∧ Z (some (.int (hI (wI μ a0 0 0) a0_now ((24 + x1).toNatClampNeg)))) (wI μ a0 0 0)))))))))))))) :
    J μ 0 0 0 [(0, .ref a0), (1, .int x1), (2, .int x2)] [] := by
  refine r_aload_n g dX12_land_0 rfl ?_
  refine r_iconst g 0 dX12_land_1 (by decide) ?_
  refine r_putI g fX12_106 rfl hs_a0 rfl rfl dX12_land_2 ?_
  refine r_aload_n g dX12_land_5 rfl ?_
  refine r_iload_n g dX12_land_6 rfl ?_
  by_cases c1 : x1 < 0
  · replace h := h.1 c1
    refine r_callV (st := []) (As := [.int x1]) g sX12_449 iX12_isLand eX12_isLand rfl hs_a0 rfl (Nat.le_of_ble_eq_true rfl) dX12_land_7 (by omega) (Nat.le_refl 0) (Nat.le_refl 0) (P_X12_isLand_0 (d := d - 1) hs_a0 c1) (fun r2 μ3 hZ1 => ?_)
    obtain ⟨rfl, e9⟩ := hZ1
    replace e9 := e9.symm
    subst e9
    refine r_if_eq g 25 dX12_land_10 (by decide) (fun _ => ?_) (fun hz => absurd hz (by decide))
    refine r_iconst g (-1) dX12_land_25 (by decide) ?_
    exact hr.2.1 _ rfl _ _ _ _ _ _ dX12_land_26 rfl (Nat.le_refl 0) (Nat.le_refl 0) h
  · replace h := h.2 c1
    by_cases c4 : (hI (wI μ a0 0 0) a0 20) ≤ x1
    · replace h := h.1 c4
      refine r_callV (st := []) (As := [.int x1]) g sX12_449 iX12_isLand eX12_isLand rfl hs_a0 rfl (Nat.le_of_ble_eq_true rfl) dX12_land_7 (by omega) (Nat.le_refl 0) (Nat.le_refl 0) (P_X12_isLand_1 (d := d - 1) hs_a0 c1 c4) (fun r5 μ6 hZ1 => ?_)
      obtain ⟨rfl, e9⟩ := hZ1
      replace e9 := e9.symm
      subst e9
      refine r_if_eq g 25 dX12_land_10 (by decide) (fun _ => ?_) (fun hz => absurd hz (by decide))
      refine r_iconst g (-1) dX12_land_25 (by decide) ?_
      exact hr.2.1 _ rfl _ _ _ _ _ _ dX12_land_26 rfl (Nat.le_refl 0) (Nat.le_refl 0) h
    · replace h := h.2 c4
      by_cases c7 : (hI (wI μ a0 0 0) a0 22) ≤ 0
      · replace h := h.1 c7
        refine r_callV (st := []) (As := [.int x1]) g sX12_449 iX12_isLand eX12_isLand rfl hs_a0 rfl (Nat.le_of_ble_eq_true rfl) dX12_land_7 (by omega) (Nat.le_refl 0) (Nat.le_refl 0) (P_X12_isLand_2 (d := d - 1) hs_a0 c1 c4 c7) (fun r8 μ9 hZ1 => ?_)
        obtain ⟨rfl, e9⟩ := hZ1
        replace e9 := e9.symm
        subst e9
        refine r_if_eq g 25 dX12_land_10 (by decide) (fun _ => ?_) (fun hz => absurd hz (by decide))
        refine r_iconst g (-1) dX12_land_25 (by decide) ?_
        exact hr.2.1 _ rfl _ _ _ _ _ _ dX12_land_26 rfl (Nat.le_refl 0) (Nat.le_refl 0) h
      · replace h := h.2 c7
        refine r_callV (st := []) (As := [.int x1]) g sX12_449 iX12_isLand eX12_isLand rfl hs_a0 rfl (Nat.le_of_ble_eq_true rfl) dX12_land_7 (by omega) (Nat.le_refl 0) (Nat.le_refl 0) (P_X12_isLand_3 (d := d - 1) hs_a0 c1 c4 c7) (fun r10 μ11 hZ1 => ?_)
        obtain ⟨rfl, e9⟩ := hZ1
        replace e9 := e9.symm
        subst e9
        refine r_if_eq g 25 dX12_land_10 (by decide) (fun hz => absurd hz (by decide)) (fun _ => ?_)
        refine r_iload_n g dX12_land_13 rfl ?_
        refine r_i2l g dX12_land_14 ?_
        refine r_lconst g 0 dX12_land_15 (by decide) ?_
        refine r_ldc2 g 3 kX12_297 dX12_land_16 ?_
        by_cases c12 : x2 < 0
        · replace h := h.1 c12
          refine r_callS (st := []) (As := [.long x2.toInt64, .long 0, .long 3]) g sX12_161 iX12_isIn rfl (Nat.le_of_ble_eq_true rfl) dX12_land_19 (by omega) (Nat.le_refl 0) (Nat.le_refl 0) (Q_isIn_0 (d := d - 1) (x := x2) (a := 0) (b := 3) rfl (by decide) (by decide) c12) (fun r13 μ14 hZ1 => ?_)
          obtain ⟨rfl, e9⟩ := hZ1
          replace e9 := e9.symm
          subst e9
          refine r_if_ne g 27 dX12_land_22 (by decide) (fun hz => absurd hz (by decide)) (fun _ => ?_)
          refine r_iconst g (-1) dX12_land_25 (by decide) ?_
          exact hr.2.1 _ rfl _ _ _ _ _ _ dX12_land_26 rfl (Nat.le_refl 0) (Nat.le_refl 0) h
        · replace h := h.2 c12
          by_cases c15 : 3 < x2
          · replace h := h.1 c15
            refine r_callS (st := []) (As := [.long x2.toInt64, .long 0, .long 3]) g sX12_161 iX12_isIn rfl (Nat.le_of_ble_eq_true rfl) dX12_land_19 (by omega) (Nat.le_refl 0) (Nat.le_refl 0) (Q_isIn_1 (d := d - 1) (x := x2) (a := 0) (b := 3) rfl (by decide) (by decide) c12 c15) (fun r16 μ17 hZ1 => ?_)
            obtain ⟨rfl, e9⟩ := hZ1
            replace e9 := e9.symm
            subst e9
            refine r_if_ne g 27 dX12_land_22 (by decide) (fun hz => absurd hz (by decide)) (fun _ => ?_)
            refine r_iconst g (-1) dX12_land_25 (by decide) ?_
            exact hr.2.1 _ rfl _ _ _ _ _ _ dX12_land_26 rfl (Nat.le_refl 0) (Nat.le_refl 0) h
          · replace h := h.2 c15
            refine r_callS (st := []) (As := [.long x2.toInt64, .long 0, .long 3]) g sX12_161 iX12_isIn rfl (Nat.le_of_ble_eq_true rfl) dX12_land_19 (by omega) (Nat.le_refl 0) (Nat.le_refl 0) (Q_isIn_2 (d := d - 1) (x := x2) (a := 0) (b := 3) rfl (by decide) (by decide) c12 c15) (fun r18 μ19 hZ1 => ?_)
            obtain ⟨rfl, e9⟩ := hZ1
            replace e9 := e9.symm
            subst e9
            refine r_if_ne g 27 dX12_land_22 (by decide) (fun _ => ?_) (fun hz => absurd hz (by decide))
            refine r_iload_n g dX12_land_27 rfl ?_
            refine r_iconst g 3 dX12_land_28 (by decide) ?_
            refine r_icmp_ne g 44 dX12_land_29 (by decide) (fun c20 => ?_) (fun c20 => ?_)
            · replace h := h.1 c20
              refine r_aload_n g dX12_land_44 rfl ?_
              refine r_getR g fX12_17 rfl hs_a0 hr_a0_land dX12_land_45 ?_
              refine r_iconst g 3 dX12_land_48 (by decide) ?_
              refine r_iload_n g dX12_land_49 rfl ?_
              refine r_imul g dX12_land_50 ?_
              refine r_iload_n g dX12_land_51 rfl ?_
              refine r_iadd g dX12_land_52 ?_
              obtain ⟨hi21, h⟩ := h
              refine r_iaload g hs_a0_land hi21 dX12_land_53 ?_
              exact hr.2.1 _ rfl _ _ _ _ _ _ dX12_land_54 rfl (Nat.le_refl 0) (Nat.le_refl 0) h
            · replace h := h.2 c20
              refine r_aload_n g dX12_land_32 rfl ?_
              refine r_getR g fX12_57 rfl hs_a0 hr_a0_now dX12_land_33 ?_
              refine r_bipush g 24 dX12_land_36 (by decide) ?_
              refine r_iload_n g dX12_land_38 rfl ?_
              refine r_iadd g dX12_land_39 ?_
              obtain ⟨hi22, h⟩ := h
              refine r_iaload g hs_a0_now hi22 dX12_land_40 ?_
              refine r_goto g 54 dX12_land_41 (by decide) ?_
              exact hr.2.1 _ rfl _ _ _ _ _ _ dX12_land_54 rfl (Nat.le_refl 0) (Nat.le_refl 0) h
theorem I_X12_land {d : Nat} {ro : Nat → Nat} {Z : Option Value → Hp → Prop} {μ : Hp} {a0 : Nat} {x1 : Int32} {x2 : Int32} (h : ∀ J, xCtx RX12 cX12_land 3 d 0 0 yX12_land.name ro J → xRet cX12_land (some .int) 0 0 Z J → J μ 0 0 0 [(0, .ref a0), (1, .int x1), (2, .int x2)] []) : xC d yX12_land cX12_land 3 (some .int) 0 0 [.ref a0, .int x1, .int x2] μ ro Z :=
  xC_intro (own := RX12) (lv := [(0, .ref a0), (1, .int x1), (2, .int x2)]) (by decide) rfl (Nat.le_of_ble_eq_true rfl) rfl (fun J g hr => r_sub g (lv' := [(0, .ref a0), (1, .int x1), (2, .int x2)]) (⟨rfl, rfl, rfl, trivial⟩) (h J g hr))
theorem dX12_linksOf_0 : decode cX12_linksOf 0 = .ok (.iconst 0, 1) := by decide +kernel
theorem dX12_linksOf_1 : decode cX12_linksOf 1 = .ok (.istore_n 2, 1) := by decide +kernel
theorem dX12_linksOf_2 : decode cX12_linksOf 2 = .ok (.iconst 0, 1) := by decide +kernel
theorem dX12_linksOf_3 : decode cX12_linksOf 3 = .ok (.istore_n 3, 1) := by decide +kernel
theorem dX12_linksOf_4 : decode cX12_linksOf 4 = .ok (.iload_n 3, 1) := by decide +kernel
theorem dX12_linksOf_5 : decode cX12_linksOf 5 = .ok (.aload_n 0, 1) := by decide +kernel
theorem dX12_linksOf_6 : decode cX12_linksOf 6 = .ok (.getfield 57, 3) := by decide +kernel
theorem dX12_linksOf_9 : decode cX12_linksOf 9 = .ok (.bipush 31, 2) := by decide +kernel
theorem dX12_linksOf_11 : decode cX12_linksOf 11 = .ok (.iaload, 1) := by decide +kernel
theorem dX12_linksOf_12 : decode cX12_linksOf 12 = .ok (.if_icmp .ge 47, 3) := by decide +kernel
theorem dX12_linksOf_15 : decode cX12_linksOf 15 = .ok (.iload_n 2, 1) := by decide +kernel
theorem dX12_linksOf_16 : decode cX12_linksOf 16 = .ok (.aload_n 0, 1) := by decide +kernel
theorem dX12_linksOf_17 : decode cX12_linksOf 17 = .ok (.getfield 57, 3) := by decide +kernel
theorem dX12_linksOf_20 : decode cX12_linksOf 20 = .ok (.iload_n 3, 1) := by decide +kernel
theorem dX12_linksOf_21 : decode cX12_linksOf 21 = .ok (.invokestatic 270, 3) := by decide +kernel
theorem dX12_linksOf_24 : decode cX12_linksOf 24 = .ok (.iconst 1, 1) := by decide +kernel
theorem dX12_linksOf_25 : decode cX12_linksOf 25 = .ok (.iadd, 1) := by decide +kernel
theorem dX12_linksOf_26 : decode cX12_linksOf 26 = .ok (.iaload, 1) := by decide +kernel
theorem dX12_linksOf_27 : decode cX12_linksOf 27 = .ok (.iload_n 1, 1) := by decide +kernel
theorem dX12_linksOf_28 : decode cX12_linksOf 28 = .ok (.if_icmp .eq 18, 3) := by decide +kernel
theorem dX12_linksOf_31 : decode cX12_linksOf 31 = .ok (.aload_n 0, 1) := by decide +kernel
theorem dX12_linksOf_32 : decode cX12_linksOf 32 = .ok (.getfield 57, 3) := by decide +kernel
theorem dX12_linksOf_35 : decode cX12_linksOf 35 = .ok (.iload_n 3, 1) := by decide +kernel
theorem dX12_linksOf_36 : decode cX12_linksOf 36 = .ok (.invokestatic 270, 3) := by decide +kernel
theorem dX12_linksOf_39 : decode cX12_linksOf 39 = .ok (.iconst 2, 1) := by decide +kernel
theorem dX12_linksOf_40 : decode cX12_linksOf 40 = .ok (.iadd, 1) := by decide +kernel
theorem dX12_linksOf_41 : decode cX12_linksOf 41 = .ok (.iaload, 1) := by decide +kernel
theorem dX12_linksOf_42 : decode cX12_linksOf 42 = .ok (.iload_n 1, 1) := by decide +kernel
theorem dX12_linksOf_43 : decode cX12_linksOf 43 = .ok (.if_icmp .ne 7, 3) := by decide +kernel
theorem dX12_linksOf_46 : decode cX12_linksOf 46 = .ok (.iconst 1, 1) := by decide +kernel
theorem dX12_linksOf_47 : decode cX12_linksOf 47 = .ok (.goto 4, 3) := by decide +kernel
theorem dX12_linksOf_50 : decode cX12_linksOf 50 = .ok (.iconst 0, 1) := by decide +kernel
theorem dX12_linksOf_51 : decode cX12_linksOf 51 = .ok (.iadd, 1) := by decide +kernel
theorem dX12_linksOf_52 : decode cX12_linksOf 52 = .ok (.istore_n 2, 1) := by decide +kernel
theorem dX12_linksOf_53 : decode cX12_linksOf 53 = .ok (.iinc 3 1, 3) := by decide +kernel
theorem dX12_linksOf_56 : decode cX12_linksOf 56 = .ok (.goto (-52), 3) := by decide +kernel
theorem dX12_linksOf_59 : decode cX12_linksOf 59 = .ok (.iload_n 2, 1) := by decide +kernel
theorem dX12_linksOf_60 : decode cX12_linksOf 60 = .ok (.ireturn, 1) := by decide +kernel
set_option maxHeartbeats 4000000 in
set_option maxRecDepth 100000 in
theorem B_X12_linksOf_0 {d : Nat} {ro : Nat → Nat} {J : JT} {Z : Option Value → Hp → Prop} (g : xCtx RX12 cX12_linksOf 4 d 0 0 yX12_linksOf.name ro J) (hr : xRet cX12_linksOf (some .int) 0 0 Z J) {μ : Hp} {a0 : Nat} {x1 : Int32} 
    (h : J μ 0 0 4 [(0, .ref a0), (1, .int x1), (2, .int 0), (3, .int 0)] []) :
    J μ 0 0 0 [(0, .ref a0), (1, .int x1)] [] := by
  refine r_iconst g 0 dX12_linksOf_0 (by decide) ?_
  refine r_istore_n g [(2, .int 0), (0, .ref a0), (1, .int x1)] dX12_linksOf_1 (by decide) rfl ?_
  refine r_iconst g 0 dX12_linksOf_2 (by decide) ?_
  refine r_istore_n g [(3, .int 0), (2, .int 0), (0, .ref a0), (1, .int x1)] dX12_linksOf_3 (by decide) rfl ?_
  refine r_sub g (lv' := [(0, .ref a0), (1, .int x1), (2, .int 0), (3, .int 0)]) (⟨rfl, rfl, rfl, rfl, trivial⟩) ?_
  exact h
set_option maxHeartbeats 4000000 in
set_option maxRecDepth 100000 in
theorem B_X12_linksOf_4 {d : Nat} {ro : Nat → Nat} {J : JT} {Z : Option Value → Hp → Prop} (g : xCtx RX12 cX12_linksOf 4 d 0 0 yX12_linksOf.name ro J) (hr : xRet cX12_linksOf (some .int) 0 0 Z J) {μ : Hp} {a0 : Nat} {x1 : Int32} {x2 : Int32} {x3 : Int32} {a0_now : Nat} {N_a0_now : Nat} (hs_a0 : hS μ a0 = some (15, 65)) (hr_a0_now : hR μ a0 30 = some a0_now) (hs_a0_now : hS μ a0_now = some (0, N_a0_now)) (hd9 : 1 ≤ d)
    (h : vp_in 31 N_a0_now ∧ (((hI μ a0_now 31) ≤ x3 → Z (some (.int x2)) μ) ∧ (¬ (hI μ a0_now 31) ≤ x3 → vp_in ((32 + (5 * x3)) + 1) N_a0_now ∧ (((hI μ a0_now (((32 + (5 * x3)) + 1).toNatClampNeg)) = x1 → J μ 0 0 4 [(0, .ref a0), (1, .int x1), (2, .int (x2 + 1)), (3, .int (x3 + 1))] []) ∧ (¬ (hI μ a0_now (((32 + (5 * x3)) + 1).toNatClampNeg)) = x1 → vp_in ((32 + (5 * x3)) + 2) N_a0_now ∧ ((¬ (hI μ a0_now (((32 + (5 * x3)) + 2).toNatClampNeg)) = x1 → J μ 0 0 4 [(0, .ref a0), (1, .int x1), (2, .int (x2 + 0)), (3, .int (x3 + 1))] []) ∧ ((hI μ a0_now (((32 + (5 * x3)) + 2).toNatClampNeg)) = x1 → J μ 0 0 4 [(0, .ref a0), (1, .int x1), (2, .int (x2 + 1)), (3, .int (x3 + 1))] []))))))) :
    J μ 0 0 4 [(0, .ref a0), (1, .int x1), (2, .int x2), (3, .int x3)] [] := by
  refine r_iload_n g dX12_linksOf_4 rfl ?_
  refine r_aload_n g dX12_linksOf_5 rfl ?_
  refine r_getR g fX12_57 rfl hs_a0 hr_a0_now dX12_linksOf_6 ?_
  refine r_bipush g 31 dX12_linksOf_9 (by decide) ?_
  obtain ⟨hi1, h⟩ := h
  refine r_iaload g hs_a0_now hi1 dX12_linksOf_11 ?_
  refine r_icmp_ge g 59 dX12_linksOf_12 (by decide) (fun c2 => ?_) (fun c2 => ?_)
  · replace h := h.1 c2
    refine r_iload_n g dX12_linksOf_59 rfl ?_
    exact hr.2.1 _ rfl _ _ _ _ _ _ dX12_linksOf_60 rfl (Nat.le_refl 0) (Nat.le_refl 0) h
  · replace h := h.2 c2
    refine r_iload_n g dX12_linksOf_15 rfl ?_
    refine r_aload_n g dX12_linksOf_16 rfl ?_
    refine r_getR g fX12_57 rfl hs_a0 hr_a0_now dX12_linksOf_17 ?_
    refine r_iload_n g dX12_linksOf_20 rfl ?_
    refine r_callS (st := [.ref a0_now, .int x2]) (As := [.int x3]) g sX12_270 iX12_linkRow rfl (Nat.le_of_ble_eq_true rfl) dX12_linksOf_21 (by omega) (Nat.le_refl 0) (Nat.le_refl 0) (P_X12_linkRow_0 (d := d - 1)  ) (fun r3 μ4 hZ1 => ?_)
    obtain ⟨rfl, e9⟩ := hZ1
    replace e9 := e9.symm
    subst e9
    refine r_iconst g 1 dX12_linksOf_24 (by decide) ?_
    refine r_iadd g dX12_linksOf_25 ?_
    obtain ⟨hi5, h⟩ := h
    refine r_iaload g hs_a0_now hi5 dX12_linksOf_26 ?_
    refine r_iload_n g dX12_linksOf_27 rfl ?_
    refine r_icmp_eq g 46 dX12_linksOf_28 (by decide) (fun c6 => ?_) (fun c6 => ?_)
    · replace h := h.1 c6
      refine r_iconst g 1 dX12_linksOf_46 (by decide) ?_
      refine r_goto g 51 dX12_linksOf_47 (by decide) ?_
      refine r_iadd g dX12_linksOf_51 ?_
      refine r_istore_n g [(2, .int (x2 + 1)), (0, .ref a0), (1, .int x1), (3, .int x3)] dX12_linksOf_52 (by decide) rfl ?_
      refine r_iinc g (x3 + 1) [(3, .int (x3 + 1)), (2, .int (x2 + 1)), (0, .ref a0), (1, .int x1)] dX12_linksOf_53 rfl rfl (by decide) rfl ?_
      refine r_goto g 4 dX12_linksOf_56 (by decide) ?_
      refine r_sub g (lv' := [(0, .ref a0), (1, .int x1), (2, .int (x2 + 1)), (3, .int (x3 + 1))]) (⟨rfl, rfl, rfl, rfl, trivial⟩) ?_
      exact h
    · replace h := h.2 c6
      refine r_aload_n g dX12_linksOf_31 rfl ?_
      refine r_getR g fX12_57 rfl hs_a0 hr_a0_now dX12_linksOf_32 ?_
      refine r_iload_n g dX12_linksOf_35 rfl ?_
      refine r_callS (st := [.ref a0_now, .int x2]) (As := [.int x3]) g sX12_270 iX12_linkRow rfl (Nat.le_of_ble_eq_true rfl) dX12_linksOf_36 (by omega) (Nat.le_refl 0) (Nat.le_refl 0) (P_X12_linkRow_0 (d := d - 1)  ) (fun r7 μ8 hZ1 => ?_)
      obtain ⟨rfl, e9⟩ := hZ1
      replace e9 := e9.symm
      subst e9
      refine r_iconst g 2 dX12_linksOf_39 (by decide) ?_
      refine r_iadd g dX12_linksOf_40 ?_
      obtain ⟨hi9, h⟩ := h
      refine r_iaload g hs_a0_now hi9 dX12_linksOf_41 ?_
      refine r_iload_n g dX12_linksOf_42 rfl ?_
      refine r_icmp_ne g 50 dX12_linksOf_43 (by decide) (fun c10 => ?_) (fun c10 => ?_)
      · replace h := h.1 c10
        refine r_iconst g 0 dX12_linksOf_50 (by decide) ?_
        refine r_iadd g dX12_linksOf_51 ?_
        refine r_istore_n g [(2, .int (x2 + 0)), (0, .ref a0), (1, .int x1), (3, .int x3)] dX12_linksOf_52 (by decide) rfl ?_
        refine r_iinc g (x3 + 1) [(3, .int (x3 + 1)), (2, .int (x2 + 0)), (0, .ref a0), (1, .int x1)] dX12_linksOf_53 rfl rfl (by decide) rfl ?_
        refine r_goto g 4 dX12_linksOf_56 (by decide) ?_
        refine r_sub g (lv' := [(0, .ref a0), (1, .int x1), (2, .int (x2 + 0)), (3, .int (x3 + 1))]) (⟨rfl, rfl, rfl, rfl, trivial⟩) ?_
        exact h
      · replace h := h.2 c10
        refine r_iconst g 1 dX12_linksOf_46 (by decide) ?_
        refine r_goto g 51 dX12_linksOf_47 (by decide) ?_
        refine r_iadd g dX12_linksOf_51 ?_
        refine r_istore_n g [(2, .int (x2 + 1)), (0, .ref a0), (1, .int x1), (3, .int x3)] dX12_linksOf_52 (by decide) rfl ?_
        refine r_iinc g (x3 + 1) [(3, .int (x3 + 1)), (2, .int (x2 + 1)), (0, .ref a0), (1, .int x1)] dX12_linksOf_53 rfl rfl (by decide) rfl ?_
        refine r_goto g 4 dX12_linksOf_56 (by decide) ?_
        refine r_sub g (lv' := [(0, .ref a0), (1, .int x1), (2, .int (x2 + 1)), (3, .int (x3 + 1))]) (⟨rfl, rfl, rfl, rfl, trivial⟩) ?_
        exact h
theorem I_X12_linksOf {d : Nat} {ro : Nat → Nat} {Z : Option Value → Hp → Prop} {μ : Hp} {a0 : Nat} {x1 : Int32} (h : ∀ J, xCtx RX12 cX12_linksOf 4 d 0 0 yX12_linksOf.name ro J → xRet cX12_linksOf (some .int) 0 0 Z J → J μ 0 0 0 [(0, .ref a0), (1, .int x1)] []) : xC d yX12_linksOf cX12_linksOf 4 (some .int) 0 0 [.ref a0, .int x1] μ ro Z :=
  xC_intro (own := RX12) (lv := [(0, .ref a0), (1, .int x1)]) (by decide) rfl (Nat.le_of_ble_eq_true rfl) rfl (fun J g hr => r_sub g (lv' := [(0, .ref a0), (1, .int x1)]) (⟨rfl, rfl, trivial⟩) (h J g hr))
theorem dX12_firm_0 : decode cX12_firm 0 = .ok (.aload_n 0, 1) := by decide +kernel
theorem dX12_firm_1 : decode cX12_firm 1 = .ok (.iconst 0, 1) := by decide +kernel
theorem dX12_firm_2 : decode cX12_firm 2 = .ok (.putfield 106, 3) := by decide +kernel
theorem dX12_firm_5 : decode cX12_firm 5 = .ok (.aload_n 0, 1) := by decide +kernel
theorem dX12_firm_6 : decode cX12_firm 6 = .ok (.iload_n 1, 1) := by decide +kernel
theorem dX12_firm_7 : decode cX12_firm 7 = .ok (.invokevirtual 351, 3) := by decide +kernel
theorem dX12_firm_10 : decode cX12_firm 10 = .ok (.ifCond .eq 15, 3) := by decide +kernel
theorem dX12_firm_13 : decode cX12_firm 13 = .ok (.iload_n 2, 1) := by decide +kernel
theorem dX12_firm_14 : decode cX12_firm 14 = .ok (.i2l, 1) := by decide +kernel
theorem dX12_firm_15 : decode cX12_firm 15 = .ok (.lconst 0, 1) := by decide +kernel
theorem dX12_firm_16 : decode cX12_firm 16 = .ok (.ldc2_w 452, 3) := by decide +kernel
theorem dX12_firm_19 : decode cX12_firm 19 = .ok (.invokestatic 161, 3) := by decide +kernel
theorem dX12_firm_22 : decode cX12_firm 22 = .ok (.ifCond .ne 10, 3) := by decide +kernel
theorem dX12_firm_25 : decode cX12_firm 25 = .ok (.aload_n 0, 1) := by decide +kernel
theorem dX12_firm_26 : decode cX12_firm 26 = .ok (.iconst 1, 1) := by decide +kernel
theorem dX12_firm_27 : decode cX12_firm 27 = .ok (.putfield 106, 3) := by decide +kernel
theorem dX12_firm_30 : decode cX12_firm 30 = .ok (.iconst 0, 1) := by decide +kernel
theorem dX12_firm_31 : decode cX12_firm 31 = .ok (.ireturn, 1) := by decide +kernel
theorem dX12_firm_32 : decode cX12_firm 32 = .ok (.iload_n 2, 1) := by decide +kernel
theorem dX12_firm_33 : decode cX12_firm 33 = .ok (.tableswitch 66 0 3 #[31, 37, 47, 56], 31) := by decide +kernel
theorem dX12_firm_64 : decode cX12_firm 64 = .ok (.aload_n 0, 1) := by decide +kernel
theorem dX12_firm_65 : decode cX12_firm 65 = .ok (.iload_n 1, 1) := by decide +kernel
theorem dX12_firm_66 : decode cX12_firm 66 = .ok (.invokevirtual 280, 3) := by decide +kernel
theorem dX12_firm_69 : decode cX12_firm 69 = .ok (.ireturn, 1) := by decide +kernel
theorem dX12_firm_70 : decode cX12_firm 70 = .ok (.aload_n 0, 1) := by decide +kernel
theorem dX12_firm_71 : decode cX12_firm 71 = .ok (.getfield 57, 3) := by decide +kernel
theorem dX12_firm_74 : decode cX12_firm 74 = .ok (.bipush 8, 2) := by decide +kernel
theorem dX12_firm_76 : decode cX12_firm 76 = .ok (.iload_n 1, 1) := by decide +kernel
theorem dX12_firm_77 : decode cX12_firm 77 = .ok (.iadd, 1) := by decide +kernel
theorem dX12_firm_78 : decode cX12_firm 78 = .ok (.iaload, 1) := by decide +kernel
theorem dX12_firm_79 : decode cX12_firm 79 = .ok (.ireturn, 1) := by decide +kernel
theorem dX12_firm_80 : decode cX12_firm 80 = .ok (.aload_n 0, 1) := by decide +kernel
theorem dX12_firm_81 : decode cX12_firm 81 = .ok (.getfield 57, 3) := by decide +kernel
theorem dX12_firm_84 : decode cX12_firm 84 = .ok (.iconst 0, 1) := by decide +kernel
theorem dX12_firm_85 : decode cX12_firm 85 = .ok (.iload_n 1, 1) := by decide +kernel
theorem dX12_firm_86 : decode cX12_firm 86 = .ok (.iadd, 1) := by decide +kernel
theorem dX12_firm_87 : decode cX12_firm 87 = .ok (.iaload, 1) := by decide +kernel
theorem dX12_firm_88 : decode cX12_firm 88 = .ok (.ireturn, 1) := by decide +kernel
theorem dX12_firm_89 : decode cX12_firm 89 = .ok (.aload_n 0, 1) := by decide +kernel
theorem dX12_firm_90 : decode cX12_firm 90 = .ok (.getfield 57, 3) := by decide +kernel
theorem dX12_firm_93 : decode cX12_firm 93 = .ok (.bipush 16, 2) := by decide +kernel
theorem dX12_firm_95 : decode cX12_firm 95 = .ok (.iload_n 1, 1) := by decide +kernel
theorem dX12_firm_96 : decode cX12_firm 96 = .ok (.iadd, 1) := by decide +kernel
theorem dX12_firm_97 : decode cX12_firm 97 = .ok (.iaload, 1) := by decide +kernel
theorem dX12_firm_98 : decode cX12_firm 98 = .ok (.ireturn, 1) := by decide +kernel
theorem dX12_firm_99 : decode cX12_firm 99 = .ok (.aload_n 0, 1) := by decide +kernel
theorem dX12_firm_100 : decode cX12_firm 100 = .ok (.iload_n 1, 1) := by decide +kernel
theorem dX12_firm_101 : decode cX12_firm 101 = .ok (.invokevirtual 454, 3) := by decide +kernel
theorem dX12_firm_104 : decode cX12_firm 104 = .ok (.ireturn, 1) := by decide +kernel
set_option maxHeartbeats 4000000 in
set_option maxRecDepth 100000 in
theorem B_X12_firm_0 {d : Nat} {ro : Nat → Nat} {J : JT} {Z : Option Value → Hp → Prop} (g : xCtx RX12 cX12_firm 3 d 0 0 yX12_firm.name ro J) (hr : xRet cX12_firm (some .int) 0 0 Z J) {μ : Hp} {a0 : Nat} {x1 : Int32} {x2 : Int32} {a0_firm : Nat} {N_a0_firm : Nat} {a0_now : Nat} {N_a0_now : Nat} (hs_a0 : hS μ a0 = some (15, 65)) (hr_a0_firm : hR μ a0 10 = some a0_firm) (hs_a0_firm : hS μ a0_firm = some (0, N_a0_firm)) (hr_a0_now : hR μ a0 30 = some a0_now) (hs_a0_now : hS μ a0_now = some (0, N_a0_now)) (hd9 : 1 ≤ d)
    (h : ((x1 < 0 → Z (some (.int 0)) (wI (wI μ a0 0 0) a0 0 1)) ∧ (¬ x1 < 0 → (((hI (wI μ a0 0 0) a0 22) ≤ x1 → Z (some (.int 0)) (wI (wI μ a0 0 0) a0 0 1)) ∧ (¬ (hI (wI μ a0 0 0) a0 22) ≤ x1 → ((x2 < 0 → Z (some (.int 0)) (wI (wI μ a0 0 0) a0 0 1)) ∧ (¬ x2 < 0 → ((4 < x2 → Z (some (.int 0)) (wI (wI μ a0 0 0) a0 0 1)) ∧ (¬ 4 < x2 → (((x2).toInt < 0 ∨ 3 < (x2).toInt → xCall d yX12_linksOf cX12_linksOf 4 (some .int) [.ref a0, .int x1] (wI μ a0 0 0) ro (fun r18 μ19 => ∃ y20 : Int32, r18 = some (.int y20) ∧ Z (some (.int y20)) μ19)) ∧ (x2 = 0 → vp_in (2 * x1) N_a0_firm ∧ Z (some (.int (hI (wI μ a0 0 0) a0_firm ((2 * x1).toNatClampNeg)))) (wI μ a0 0 0)) ∧ (x2 = 1 → vp_in (8 + x1) N_a0_now ∧ Z (some (.int (hI (wI μ a0 0 0) a0_now ((8 + x1).toNatClampNeg)))) (wI μ a0 0 0)) ∧ (x2 = 2 → vp_in (0 + x1) N_a0_now ∧ Z (some (.int (hI (wI μ a0 0 0) a0_now ((0 + x1).toNatClampNeg)))) (wI μ a0 0 0)) ∧ (x2 = 3 → vp_in (16 + x1) N_a0_now ∧ Z (some (.int (hI (wI μ a0 0 0) a0_now ((16 + x1).toNatClampNeg)))) (wI μ a0 0 0)))))))))))) :
    J μ 0 0 0 [(0, .ref a0), (1, .int x1), (2, .int x2)] [] := by
  refine r_aload_n g dX12_firm_0 rfl ?_
  refine r_iconst g 0 dX12_firm_1 (by decide) ?_
  refine r_putI g fX12_106 rfl hs_a0 rfl rfl dX12_firm_2 ?_
  refine r_aload_n g dX12_firm_5 rfl ?_
  refine r_iload_n g dX12_firm_6 rfl ?_
  by_cases c1 : x1 < 0
  · replace h := h.1 c1
    refine r_callV (st := []) (As := [.int x1]) g sX12_351 iX12_isFirm eX12_isFirm rfl hs_a0 rfl (Nat.le_of_ble_eq_true rfl) dX12_firm_7 (by omega) (Nat.le_refl 0) (Nat.le_refl 0) (P_X12_isFirm_0 (d := d - 1) hs_a0 c1) (fun r2 μ3 hZ1 => ?_)
    obtain ⟨rfl, e9⟩ := hZ1
    replace e9 := e9.symm
    subst e9
    refine r_if_eq g 25 dX12_firm_10 (by decide) (fun _ => ?_) (fun hz => absurd hz (by decide))
    refine r_aload_n g dX12_firm_25 rfl ?_
    refine r_iconst g 1 dX12_firm_26 (by decide) ?_
    refine r_putI g fX12_106 rfl hs_a0 rfl rfl dX12_firm_27 ?_
    refine r_iconst g 0 dX12_firm_30 (by decide) ?_
    exact hr.2.1 _ rfl _ _ _ _ _ _ dX12_firm_31 rfl (Nat.le_refl 0) (Nat.le_refl 0) h
  · replace h := h.2 c1
    by_cases c4 : (hI (wI μ a0 0 0) a0 22) ≤ x1
    · replace h := h.1 c4
      refine r_callV (st := []) (As := [.int x1]) g sX12_351 iX12_isFirm eX12_isFirm rfl hs_a0 rfl (Nat.le_of_ble_eq_true rfl) dX12_firm_7 (by omega) (Nat.le_refl 0) (Nat.le_refl 0) (P_X12_isFirm_1 (d := d - 1) hs_a0 c1 c4) (fun r5 μ6 hZ1 => ?_)
      obtain ⟨rfl, e9⟩ := hZ1
      replace e9 := e9.symm
      subst e9
      refine r_if_eq g 25 dX12_firm_10 (by decide) (fun _ => ?_) (fun hz => absurd hz (by decide))
      refine r_aload_n g dX12_firm_25 rfl ?_
      refine r_iconst g 1 dX12_firm_26 (by decide) ?_
      refine r_putI g fX12_106 rfl hs_a0 rfl rfl dX12_firm_27 ?_
      refine r_iconst g 0 dX12_firm_30 (by decide) ?_
      exact hr.2.1 _ rfl _ _ _ _ _ _ dX12_firm_31 rfl (Nat.le_refl 0) (Nat.le_refl 0) h
    · replace h := h.2 c4
      refine r_callV (st := []) (As := [.int x1]) g sX12_351 iX12_isFirm eX12_isFirm rfl hs_a0 rfl (Nat.le_of_ble_eq_true rfl) dX12_firm_7 (by omega) (Nat.le_refl 0) (Nat.le_refl 0) (P_X12_isFirm_2 (d := d - 1) hs_a0 c1 c4) (fun r7 μ8 hZ1 => ?_)
      obtain ⟨rfl, e9⟩ := hZ1
      replace e9 := e9.symm
      subst e9
      refine r_if_eq g 25 dX12_firm_10 (by decide) (fun hz => absurd hz (by decide)) (fun _ => ?_)
      refine r_iload_n g dX12_firm_13 rfl ?_
      refine r_i2l g dX12_firm_14 ?_
      refine r_lconst g 0 dX12_firm_15 (by decide) ?_
      refine r_ldc2 g 4 kX12_452 dX12_firm_16 ?_
      by_cases c9 : x2 < 0
      · replace h := h.1 c9
        refine r_callS (st := []) (As := [.long x2.toInt64, .long 0, .long 4]) g sX12_161 iX12_isIn rfl (Nat.le_of_ble_eq_true rfl) dX12_firm_19 (by omega) (Nat.le_refl 0) (Nat.le_refl 0) (Q_isIn_0 (d := d - 1) (x := x2) (a := 0) (b := 4) rfl (by decide) (by decide) c9) (fun r10 μ11 hZ1 => ?_)
        obtain ⟨rfl, e9⟩ := hZ1
        replace e9 := e9.symm
        subst e9
        refine r_if_ne g 32 dX12_firm_22 (by decide) (fun hz => absurd hz (by decide)) (fun _ => ?_)
        refine r_aload_n g dX12_firm_25 rfl ?_
        refine r_iconst g 1 dX12_firm_26 (by decide) ?_
        refine r_putI g fX12_106 rfl hs_a0 rfl rfl dX12_firm_27 ?_
        refine r_iconst g 0 dX12_firm_30 (by decide) ?_
        exact hr.2.1 _ rfl _ _ _ _ _ _ dX12_firm_31 rfl (Nat.le_refl 0) (Nat.le_refl 0) h
      · replace h := h.2 c9
        by_cases c12 : 4 < x2
        · replace h := h.1 c12
          refine r_callS (st := []) (As := [.long x2.toInt64, .long 0, .long 4]) g sX12_161 iX12_isIn rfl (Nat.le_of_ble_eq_true rfl) dX12_firm_19 (by omega) (Nat.le_refl 0) (Nat.le_refl 0) (Q_isIn_1 (d := d - 1) (x := x2) (a := 0) (b := 4) rfl (by decide) (by decide) c9 c12) (fun r13 μ14 hZ1 => ?_)
          obtain ⟨rfl, e9⟩ := hZ1
          replace e9 := e9.symm
          subst e9
          refine r_if_ne g 32 dX12_firm_22 (by decide) (fun hz => absurd hz (by decide)) (fun _ => ?_)
          refine r_aload_n g dX12_firm_25 rfl ?_
          refine r_iconst g 1 dX12_firm_26 (by decide) ?_
          refine r_putI g fX12_106 rfl hs_a0 rfl rfl dX12_firm_27 ?_
          refine r_iconst g 0 dX12_firm_30 (by decide) ?_
          exact hr.2.1 _ rfl _ _ _ _ _ _ dX12_firm_31 rfl (Nat.le_refl 0) (Nat.le_refl 0) h
        · replace h := h.2 c12
          refine r_callS (st := []) (As := [.long x2.toInt64, .long 0, .long 4]) g sX12_161 iX12_isIn rfl (Nat.le_of_ble_eq_true rfl) dX12_firm_19 (by omega) (Nat.le_refl 0) (Nat.le_refl 0) (Q_isIn_2 (d := d - 1) (x := x2) (a := 0) (b := 4) rfl (by decide) (by decide) c9 c12) (fun r15 μ16 hZ1 => ?_)
          obtain ⟨rfl, e9⟩ := hZ1
          replace e9 := e9.symm
          subst e9
          refine r_if_ne g 32 dX12_firm_22 (by decide) (fun _ => ?_) (fun hz => absurd hz (by decide))
          refine r_iload_n g dX12_firm_32 rfl ?_
          rcases sw_cases (x := x2) 0 3 (by decide) (by decide) with c17 | ⟨z, hz1, hz2, c17⟩
          · refine r_tableOut g 99 dX12_firm_33 c17 (by decide) ?_
            replace h := h.1 c17
            refine r_aload_n g dX12_firm_99 rfl ?_
            refine r_iload_n g dX12_firm_100 rfl ?_
            obtain ⟨d1, Z1, hc1, hd1, h1⟩ := h
            refine r_callV (st := []) (As := [.int x1]) g sX12_454 iX12_linksOf eX12_linksOf rfl hs_a0 rfl (Nat.le_of_ble_eq_true rfl) dX12_firm_101 hd1 (Nat.le_refl 0) (Nat.le_refl 0) hc1 (fun r18 μ19 hZ1 => ?_)
            replace h := h1 _ _ hZ1
            clear h1 hc1 hd1 hZ1 Z1 d1
            obtain ⟨y20, rfl, h⟩ := h
            exact hr.2.1 _ rfl _ _ _ _ _ _ dX12_firm_104 rfl (Nat.le_refl 0) (Nat.le_refl 0) h
          · have hz : z = 0 ∨ z = 1 ∨ z = 2 ∨ z = 3 := by omega
            rcases hz with rfl | rfl | rfl | rfl
            · refine r_tableIn g 64 dX12_firm_33 (by rw [c17]; decide) (by rw [c17]; decide) (off := 31) (by rw [c17]; decide) (by decide) ?_
              replace h := h.2.1 c17
              refine r_aload_n g dX12_firm_64 rfl ?_
              refine r_iload_n g dX12_firm_65 rfl ?_
              obtain ⟨hi21, h⟩ := h
              refine r_callV (st := []) (As := [.int x1]) g sX12_280 iX12_landOf eX12_landOf rfl hs_a0 rfl (Nat.le_of_ble_eq_true rfl) dX12_firm_66 (by omega) (Nat.le_refl 0) (Nat.le_refl 0) (P_X12_landOf_0 (d := d - 1) hs_a0 hr_a0_firm hs_a0_firm hi21) (fun r22 μ23 hZ1 => ?_)
              obtain ⟨rfl, e9⟩ := hZ1
              replace e9 := e9.symm
              subst e9
              exact hr.2.1 _ rfl _ _ _ _ _ _ dX12_firm_69 rfl (Nat.le_refl 0) (Nat.le_refl 0) h
            · refine r_tableIn g 70 dX12_firm_33 (by rw [c17]; decide) (by rw [c17]; decide) (off := 37) (by rw [c17]; decide) (by decide) ?_
              replace h := h.2.2.1 c17
              refine r_aload_n g dX12_firm_70 rfl ?_
              refine r_getR g fX12_57 rfl hs_a0 hr_a0_now dX12_firm_71 ?_
              refine r_bipush g 8 dX12_firm_74 (by decide) ?_
              refine r_iload_n g dX12_firm_76 rfl ?_
              refine r_iadd g dX12_firm_77 ?_
              obtain ⟨hi24, h⟩ := h
              refine r_iaload g hs_a0_now hi24 dX12_firm_78 ?_
              exact hr.2.1 _ rfl _ _ _ _ _ _ dX12_firm_79 rfl (Nat.le_refl 0) (Nat.le_refl 0) h
            · refine r_tableIn g 80 dX12_firm_33 (by rw [c17]; decide) (by rw [c17]; decide) (off := 47) (by rw [c17]; decide) (by decide) ?_
              replace h := h.2.2.2.1 c17
              refine r_aload_n g dX12_firm_80 rfl ?_
              refine r_getR g fX12_57 rfl hs_a0 hr_a0_now dX12_firm_81 ?_
              refine r_iconst g 0 dX12_firm_84 (by decide) ?_
              refine r_iload_n g dX12_firm_85 rfl ?_
              refine r_iadd g dX12_firm_86 ?_
              obtain ⟨hi25, h⟩ := h
              refine r_iaload g hs_a0_now hi25 dX12_firm_87 ?_
              exact hr.2.1 _ rfl _ _ _ _ _ _ dX12_firm_88 rfl (Nat.le_refl 0) (Nat.le_refl 0) h
            · refine r_tableIn g 89 dX12_firm_33 (by rw [c17]; decide) (by rw [c17]; decide) (off := 56) (by rw [c17]; decide) (by decide) ?_
              replace h := h.2.2.2.2 c17
              refine r_aload_n g dX12_firm_89 rfl ?_
              refine r_getR g fX12_57 rfl hs_a0 hr_a0_now dX12_firm_90 ?_
              refine r_bipush g 16 dX12_firm_93 (by decide) ?_
              refine r_iload_n g dX12_firm_95 rfl ?_
              refine r_iadd g dX12_firm_96 ?_
              obtain ⟨hi26, h⟩ := h
              refine r_iaload g hs_a0_now hi26 dX12_firm_97 ?_
              exact hr.2.1 _ rfl _ _ _ _ _ _ dX12_firm_98 rfl (Nat.le_refl 0) (Nat.le_refl 0) h
theorem I_X12_firm {d : Nat} {ro : Nat → Nat} {Z : Option Value → Hp → Prop} {μ : Hp} {a0 : Nat} {x1 : Int32} {x2 : Int32} (h : ∀ J, xCtx RX12 cX12_firm 3 d 0 0 yX12_firm.name ro J → xRet cX12_firm (some .int) 0 0 Z J → J μ 0 0 0 [(0, .ref a0), (1, .int x1), (2, .int x2)] []) : xC d yX12_firm cX12_firm 3 (some .int) 0 0 [.ref a0, .int x1, .int x2] μ ro Z :=
  xC_intro (own := RX12) (lv := [(0, .ref a0), (1, .int x1), (2, .int x2)]) (by decide) rfl (Nat.le_of_ble_eq_true rfl) rfl (fun J g hr => r_sub g (lv' := [(0, .ref a0), (1, .int x1), (2, .int x2)]) (⟨rfl, rfl, rfl, trivial⟩) (h J g hr))
theorem dX12_lettersOf_0 : decode cX12_lettersOf 0 = .ok (.iconst 0, 1) := by decide +kernel
theorem dX12_lettersOf_1 : decode cX12_lettersOf 1 = .ok (.istore_n 2, 1) := by decide +kernel
theorem dX12_lettersOf_2 : decode cX12_lettersOf 2 = .ok (.iload_n 2, 1) := by decide +kernel
theorem dX12_lettersOf_3 : decode cX12_lettersOf 3 = .ok (.bipush 8, 2) := by decide +kernel
theorem dX12_lettersOf_5 : decode cX12_lettersOf 5 = .ok (.if_icmp .ge 19, 3) := by decide +kernel
theorem dX12_lettersOf_8 : decode cX12_lettersOf 8 = .ok (.lload_n 0, 1) := by decide +kernel
theorem dX12_lettersOf_9 : decode cX12_lettersOf 9 = .ok (.iconst 5, 1) := by decide +kernel
theorem dX12_lettersOf_10 : decode cX12_lettersOf 10 = .ok (.iload_n 2, 1) := by decide +kernel
theorem dX12_lettersOf_11 : decode cX12_lettersOf 11 = .ok (.imul, 1) := by decide +kernel
theorem dX12_lettersOf_12 : decode cX12_lettersOf 12 = .ok (.lshr, 1) := by decide +kernel
theorem dX12_lettersOf_13 : decode cX12_lettersOf 13 = .ok (.lconst 0, 1) := by decide +kernel
theorem dX12_lettersOf_14 : decode cX12_lettersOf 14 = .ok (.lcmp, 1) := by decide +kernel
theorem dX12_lettersOf_15 : decode cX12_lettersOf 15 = .ok (.ifCond .eq 9, 3) := by decide +kernel
theorem dX12_lettersOf_18 : decode cX12_lettersOf 18 = .ok (.iinc 2 1, 3) := by decide +kernel
theorem dX12_lettersOf_21 : decode cX12_lettersOf 21 = .ok (.goto (-19), 3) := by decide +kernel
theorem dX12_lettersOf_24 : decode cX12_lettersOf 24 = .ok (.iload_n 2, 1) := by decide +kernel
theorem dX12_lettersOf_25 : decode cX12_lettersOf 25 = .ok (.ireturn, 1) := by decide +kernel
set_option maxHeartbeats 4000000 in
set_option maxRecDepth 100000 in
theorem B_X12_lettersOf_0 {d : Nat} {ro : Nat → Nat} {J : JT} {Z : Option Value → Hp → Prop} (g : xCtx RX12 cX12_lettersOf 3 d 0 0 yX12_lettersOf.name ro J) (hr : xRet cX12_lettersOf (some .int) 0 0 Z J) {μ : Hp} {x0 : Int64} 
    (h : J μ 0 0 2 [(0, .long x0), (2, .int 0)] []) :
    J μ 0 0 0 [(0, .long x0)] [] := by
  refine r_iconst g 0 dX12_lettersOf_0 (by decide) ?_
  refine r_istore_n g [(2, .int 0), (0, .long x0)] dX12_lettersOf_1 (by decide) rfl ?_
  refine r_sub g (lv' := [(0, .long x0), (2, .int 0)]) (⟨rfl, rfl, trivial⟩) ?_
  exact h
set_option maxHeartbeats 4000000 in
set_option maxRecDepth 100000 in
theorem B_X12_lettersOf_2 {d : Nat} {ro : Nat → Nat} {J : JT} {Z : Option Value → Hp → Prop} (g : xCtx RX12 cX12_lettersOf 3 d 0 0 yX12_lettersOf.name ro J) (hr : xRet cX12_lettersOf (some .int) 0 0 Z J) {μ : Hp} {x0 : Int64} {x2 : Int32} 
    (h : ((8 ≤ x2 → Z (some (.int x2)) μ) ∧ (¬ 8 ≤ x2 → (((lg_cmp (x0 >>> ((5 * x2).toInt64 &&& 63)) 0) = 0 → Z (some (.int x2)) μ) ∧ (¬ (lg_cmp (x0 >>> ((5 * x2).toInt64 &&& 63)) 0) = 0 → J μ 0 0 2 [(0, .long x0), (2, .int (x2 + 1))] []))))) :
    J μ 0 0 2 [(0, .long x0), (2, .int x2)] [] := by
  refine r_iload_n g dX12_lettersOf_2 rfl ?_
  refine r_bipush g 8 dX12_lettersOf_3 (by decide) ?_
  refine r_icmp_ge g 24 dX12_lettersOf_5 (by decide) (fun c1 => ?_) (fun c1 => ?_)
  · replace h := h.1 c1
    refine r_iload_n g dX12_lettersOf_24 rfl ?_
    exact hr.2.1 _ rfl _ _ _ _ _ _ dX12_lettersOf_25 rfl (Nat.le_refl 0) (Nat.le_refl 0) h
  · replace h := h.2 c1
    refine r_lload_n g dX12_lettersOf_8 rfl ?_
    refine r_iconst g 5 dX12_lettersOf_9 (by decide) ?_
    refine r_iload_n g dX12_lettersOf_10 rfl ?_
    refine r_imul g dX12_lettersOf_11 ?_
    refine r_lshr g dX12_lettersOf_12 ?_
    refine r_lconst g 0 dX12_lettersOf_13 (by decide) ?_
    refine r_lcmp g dX12_lettersOf_14 ?_
    refine r_if_eq g 24 dX12_lettersOf_15 (by decide) (fun c2 => ?_) (fun c2 => ?_)
    · replace h := h.1 c2
      refine r_iload_n g dX12_lettersOf_24 rfl ?_
      exact hr.2.1 _ rfl _ _ _ _ _ _ dX12_lettersOf_25 rfl (Nat.le_refl 0) (Nat.le_refl 0) h
    · replace h := h.2 c2
      refine r_iinc g (x2 + 1) [(2, .int (x2 + 1)), (0, .long x0)] dX12_lettersOf_18 rfl rfl (by decide) rfl ?_
      refine r_goto g 2 dX12_lettersOf_21 (by decide) ?_
      refine r_sub g (lv' := [(0, .long x0), (2, .int (x2 + 1))]) (⟨rfl, rfl, trivial⟩) ?_
      exact h
theorem I_X12_lettersOf {d : Nat} {ro : Nat → Nat} {Z : Option Value → Hp → Prop} {μ : Hp} {x0 : Int64} (h : ∀ J, xCtx RX12 cX12_lettersOf 3 d 0 0 yX12_lettersOf.name ro J → xRet cX12_lettersOf (some .int) 0 0 Z J → J μ 0 0 0 [(0, .long x0)] []) : xC d yX12_lettersOf cX12_lettersOf 3 (some .int) 0 0 [.long x0] μ ro Z :=
  xC_intro (own := RX12) (lv := [(0, .long x0)]) (by decide) rfl (Nat.le_of_ble_eq_true rfl) rfl (fun J g hr => r_sub g (lv' := [(0, .long x0)]) (⟨rfl, trivial⟩) (h J g hr))
theorem dX12_letterOf_0 : decode cX12_letterOf 0 = .ok (.bipush 96, 2) := by decide +kernel
theorem dX12_letterOf_2 : decode cX12_letterOf 2 = .ok (.lload_n 0, 1) := by decide +kernel
theorem dX12_letterOf_3 : decode cX12_letterOf 3 = .ok (.iconst 5, 1) := by decide +kernel
theorem dX12_letterOf_4 : decode cX12_letterOf 4 = .ok (.lload_n 0, 1) := by decide +kernel
theorem dX12_letterOf_5 : decode cX12_letterOf 5 = .ok (.invokestatic 457, 3) := by decide +kernel
theorem dX12_letterOf_8 : decode cX12_letterOf 8 = .ok (.iconst 1, 1) := by decide +kernel
theorem dX12_letterOf_9 : decode cX12_letterOf 9 = .ok (.isub, 1) := by decide +kernel
theorem dX12_letterOf_10 : decode cX12_letterOf 10 = .ok (.iload_n 2, 1) := by decide +kernel
theorem dX12_letterOf_11 : decode cX12_letterOf 11 = .ok (.isub, 1) := by decide +kernel
theorem dX12_letterOf_12 : decode cX12_letterOf 12 = .ok (.imul, 1) := by decide +kernel
theorem dX12_letterOf_13 : decode cX12_letterOf 13 = .ok (.lshr, 1) := by decide +kernel
theorem dX12_letterOf_14 : decode cX12_letterOf 14 = .ok (.ldc2_w 460, 3) := by decide +kernel
theorem dX12_letterOf_17 : decode cX12_letterOf 17 = .ok (.land, 1) := by decide +kernel
theorem dX12_letterOf_18 : decode cX12_letterOf 18 = .ok (.l2i, 1) := by decide +kernel
theorem dX12_letterOf_19 : decode cX12_letterOf 19 = .ok (.iadd, 1) := by decide +kernel
theorem dX12_letterOf_20 : decode cX12_letterOf 20 = .ok (.ireturn, 1) := by decide +kernel
set_option maxHeartbeats 4000000 in
set_option maxRecDepth 100000 in
theorem B_X12_letterOf_0 {d : Nat} {ro : Nat → Nat} {J : JT} {Z : Option Value → Hp → Prop} (g : xCtx RX12 cX12_letterOf 3 d 0 0 yX12_letterOf.name ro J) (hr : xRet cX12_letterOf (some .int) 0 0 Z J) {μ : Hp} {x0 : Int64} {x2 : Int32} 
    (h : xCall d yX12_lettersOf cX12_lettersOf 3 (some .int) [.long x0] μ ro (fun r1 μ2 => ∃ y3 : Int32, r1 = some (.int y3) ∧ (∀ v4 : Int32, v4 = (96 + ((x0 >>> ((5 * ((y3 - 1) - x2)).toInt64 &&& 63)) &&& 31).toInt32) → Z (some (.int v4)) μ2))) :
    J μ 0 0 0 [(0, .long x0), (2, .int x2)] [] := by
  refine r_bipush g 96 dX12_letterOf_0 (by decide) ?_
  refine r_lload_n g dX12_letterOf_2 rfl ?_
  refine r_iconst g 5 dX12_letterOf_3 (by decide) ?_
  refine r_lload_n g dX12_letterOf_4 rfl ?_
  obtain ⟨d1, Z1, hc1, hd1, h1⟩ := h
  refine r_callS (st := [.int 5, .long x0, .int 96]) (As := [.long x0]) g sX12_457 iX12_lettersOf rfl (Nat.le_of_ble_eq_true rfl) dX12_letterOf_5 hd1 (Nat.le_refl 0) (Nat.le_refl 0) hc1 (fun r1 μ2 hZ1 => ?_)
  replace h := h1 _ _ hZ1
  clear h1 hc1 hd1 hZ1 Z1 d1
  obtain ⟨y3, rfl, h⟩ := h
  refine r_iconst g 1 dX12_letterOf_8 (by decide) ?_
  refine r_isub g dX12_letterOf_9 ?_
  refine r_iload_n g dX12_letterOf_10 rfl ?_
  refine r_isub g dX12_letterOf_11 ?_
  refine r_imul g dX12_letterOf_12 ?_
  refine r_lshr g dX12_letterOf_13 ?_
  refine r_ldc2 g 31 kX12_460 dX12_letterOf_14 ?_
  refine r_land g dX12_letterOf_17 ?_
  refine r_l2i g dX12_letterOf_18 ?_
  refine r_iadd g dX12_letterOf_19 ?_
  refine r_nmI (fun v4 ev4 => ?_)
  replace h := h v4 ev4
  exact hr.2.1 _ rfl _ _ _ _ _ _ dX12_letterOf_20 rfl (Nat.le_refl 0) (Nat.le_refl 0) h
theorem I_X12_letterOf {d : Nat} {ro : Nat → Nat} {Z : Option Value → Hp → Prop} {μ : Hp} {x0 : Int64} {x2 : Int32} (h : ∀ J, xCtx RX12 cX12_letterOf 3 d 0 0 yX12_letterOf.name ro J → xRet cX12_letterOf (some .int) 0 0 Z J → J μ 0 0 0 [(0, .long x0), (2, .int x2)] []) : xC d yX12_letterOf cX12_letterOf 3 (some .int) 0 0 [.long x0, .int x2] μ ro Z :=
  xC_intro (own := RX12) (lv := [(0, .long x0), (2, .int x2)]) (by decide) rfl (Nat.le_of_ble_eq_true rfl) rfl (fun J g hr => r_sub g (lv' := [(0, .long x0), (2, .int x2)]) (⟨rfl, rfl, trivial⟩) (h J g hr))
theorem dX12_name_0 : decode cX12_name 0 = .ok (.aload_n 0, 1) := by decide +kernel
theorem dX12_name_1 : decode cX12_name 1 = .ok (.iconst 0, 1) := by decide +kernel
theorem dX12_name_2 : decode cX12_name 2 = .ok (.putfield 106, 3) := by decide +kernel
theorem dX12_name_5 : decode cX12_name 5 = .ok (.iload_n 1, 1) := by decide +kernel
theorem dX12_name_6 : decode cX12_name 6 = .ok (.i2l, 1) := by decide +kernel
theorem dX12_name_7 : decode cX12_name 7 = .ok (.lconst 0, 1) := by decide +kernel
theorem dX12_name_8 : decode cX12_name 8 = .ok (.lconst 1, 1) := by decide +kernel
theorem dX12_name_9 : decode cX12_name 9 = .ok (.invokestatic 161, 3) := by decide +kernel
theorem dX12_name_12 : decode cX12_name 12 = .ok (.ifCond .eq 26, 3) := by decide +kernel
theorem dX12_name_15 : decode cX12_name 15 = .ok (.iload_n 1, 1) := by decide +kernel
theorem dX12_name_16 : decode cX12_name 16 = .ok (.ifCond .ne 14, 3) := by decide +kernel
theorem dX12_name_19 : decode cX12_name 19 = .ok (.aload_n 0, 1) := by decide +kernel
theorem dX12_name_20 : decode cX12_name 20 = .ok (.iload_n 2, 1) := by decide +kernel
theorem dX12_name_21 : decode cX12_name 21 = .ok (.invokevirtual 449, 3) := by decide +kernel
theorem dX12_name_24 : decode cX12_name 24 = .ok (.ifCond .eq 14, 3) := by decide +kernel
theorem dX12_name_27 : decode cX12_name 27 = .ok (.goto 13, 3) := by decide +kernel
theorem dX12_name_30 : decode cX12_name 30 = .ok (.aload_n 0, 1) := by decide +kernel
theorem dX12_name_31 : decode cX12_name 31 = .ok (.iload_n 2, 1) := by decide +kernel
theorem dX12_name_32 : decode cX12_name 32 = .ok (.invokevirtual 351, 3) := by decide +kernel
theorem dX12_name_35 : decode cX12_name 35 = .ok (.ifCond .ne 5, 3) := by decide +kernel
theorem dX12_name_38 : decode cX12_name 38 = .ok (.iconst (-1), 1) := by decide +kernel
theorem dX12_name_39 : decode cX12_name 39 = .ok (.ireturn, 1) := by decide +kernel
theorem dX12_name_40 : decode cX12_name 40 = .ok (.iload_n 1, 1) := by decide +kernel
theorem dX12_name_41 : decode cX12_name 41 = .ok (.ifCond .ne 12, 3) := by decide +kernel
theorem dX12_name_44 : decode cX12_name 44 = .ok (.aload_n 0, 1) := by decide +kernel
theorem dX12_name_45 : decode cX12_name 45 = .ok (.getfield 42, 3) := by decide +kernel
theorem dX12_name_48 : decode cX12_name 48 = .ok (.iload_n 2, 1) := by decide +kernel
theorem dX12_name_49 : decode cX12_name 49 = .ok (.laload, 1) := by decide +kernel
theorem dX12_name_50 : decode cX12_name 50 = .ok (.goto 9, 3) := by decide +kernel
theorem dX12_name_53 : decode cX12_name 53 = .ok (.aload_n 0, 1) := by decide +kernel
theorem dX12_name_54 : decode cX12_name 54 = .ok (.getfield 48, 3) := by decide +kernel
theorem dX12_name_57 : decode cX12_name 57 = .ok (.iload_n 2, 1) := by decide +kernel
theorem dX12_name_58 : decode cX12_name 58 = .ok (.laload, 1) := by decide +kernel
theorem dX12_name_59 : decode cX12_name 59 = .ok (.lstore 4, 2) := by decide +kernel
theorem dX12_name_61 : decode cX12_name 61 = .ok (.iload_n 3, 1) := by decide +kernel
theorem dX12_name_62 : decode cX12_name 62 = .ok (.i2l, 1) := by decide +kernel
theorem dX12_name_63 : decode cX12_name 63 = .ok (.lconst 0, 1) := by decide +kernel
theorem dX12_name_64 : decode cX12_name 64 = .ok (.lload 4, 2) := by decide +kernel
theorem dX12_name_66 : decode cX12_name 66 = .ok (.invokestatic 457, 3) := by decide +kernel
theorem dX12_name_69 : decode cX12_name 69 = .ok (.iconst 1, 1) := by decide +kernel
theorem dX12_name_70 : decode cX12_name 70 = .ok (.isub, 1) := by decide +kernel
theorem dX12_name_71 : decode cX12_name 71 = .ok (.i2l, 1) := by decide +kernel
theorem dX12_name_72 : decode cX12_name 72 = .ok (.invokestatic 161, 3) := by decide +kernel
theorem dX12_name_75 : decode cX12_name 75 = .ok (.ifCond .eq 12, 3) := by decide +kernel
theorem dX12_name_78 : decode cX12_name 78 = .ok (.lload 4, 2) := by decide +kernel
theorem dX12_name_80 : decode cX12_name 80 = .ok (.iload_n 3, 1) := by decide +kernel
theorem dX12_name_81 : decode cX12_name 81 = .ok (.invokestatic 462, 3) := by decide +kernel
theorem dX12_name_84 : decode cX12_name 84 = .ok (.goto 4, 3) := by decide +kernel
theorem dX12_name_87 : decode cX12_name 87 = .ok (.iconst (-1), 1) := by decide +kernel
theorem dX12_name_88 : decode cX12_name 88 = .ok (.ireturn, 1) := by decide +kernel
set_option maxHeartbeats 4000000 in
set_option maxRecDepth 100000 in
theorem B_X12_name_0 {d : Nat} {ro : Nat → Nat} {J : JT} {Z : Option Value → Hp → Prop} (g : xCtx RX12 cX12_name 6 d 0 0 yX12_name.name ro J) (hr : xRet cX12_name (some .int) 0 0 Z J) {μ : Hp} {a0 : Nat} {x1 : Int32} {x2 : Int32} {x3 : Int32} (hs_a0 : hS μ a0 = some (15, 65)) (hd9 : 1 ≤ d)
    (h : ((x1 < 0 → Z (some (.int (-1))) (wI μ a0 0 0)) ∧ (¬ x1 < 0 → ((1 < x1 → Z (some (.int (-1))) (wI μ a0 0 0)) ∧ (¬ 1 < x1 → ((¬ x1 = 0 → ((x2 < 0 → Z (some (.int (-1))) (wI μ a0 0 0)) ∧ (¬ x2 < 0 → (((hI (wI μ a0 0 0) a0 22) ≤ x2 → Z (some (.int (-1))) (wI μ a0 0 0)) ∧ (¬ (hI (wI μ a0 0 0) a0 22) ≤ x2 → J (wI μ a0 0 0) 0 0 40 [(0, .ref a0), (1, .int x1), (2, .int x2), (3, .int x3)] []))))) ∧ (x1 = 0 → ((x2 < 0 → Z (some (.int (-1))) (wI μ a0 0 0)) ∧ (¬ x2 < 0 → (((hI (wI μ a0 0 0) a0 20) ≤ x2 → Z (some (.int (-1))) (wI μ a0 0 0)) ∧ (¬ (hI (wI μ a0 0 0) a0 20) ≤ x2 → (((hI (wI μ a0 0 0) a0 22) ≤ 0 → Z (some (.int (-1))) (wI μ a0 0 0)) ∧ (¬ (hI (wI μ a0 0 0) a0 22) ≤ 0 → J (wI μ a0 0 0) 0 0 40 [(0, .ref a0), (1, .int x1), (2, .int x2), (3, .int x3)] []))))))))))))) :
    J μ 0 0 0 [(0, .ref a0), (1, .int x1), (2, .int x2), (3, .int x3)] [] := by
  refine r_aload_n g dX12_name_0 rfl ?_
  refine r_iconst g 0 dX12_name_1 (by decide) ?_
  refine r_putI g fX12_106 rfl hs_a0 rfl rfl dX12_name_2 ?_
  refine r_iload_n g dX12_name_5 rfl ?_
  refine r_i2l g dX12_name_6 ?_
  refine r_lconst g 0 dX12_name_7 (by decide) ?_
  refine r_lconst g 1 dX12_name_8 (by decide) ?_
  by_cases c1 : x1 < 0
  · replace h := h.1 c1
    refine r_callS (st := []) (As := [.long x1.toInt64, .long 0, .long 1]) g sX12_161 iX12_isIn rfl (Nat.le_of_ble_eq_true rfl) dX12_name_9 (by omega) (Nat.le_refl 0) (Nat.le_refl 0) (Q_isIn_0 (d := d - 1) (x := x1) (a := 0) (b := 1) rfl (by decide) (by decide) c1) (fun r2 μ3 hZ1 => ?_)
    obtain ⟨rfl, e9⟩ := hZ1
    replace e9 := e9.symm
    subst e9
    refine r_if_eq g 38 dX12_name_12 (by decide) (fun _ => ?_) (fun hz => absurd hz (by decide))
    refine r_iconst g (-1) dX12_name_38 (by decide) ?_
    exact hr.2.1 _ rfl _ _ _ _ _ _ dX12_name_39 rfl (Nat.le_refl 0) (Nat.le_refl 0) h
  · replace h := h.2 c1
    by_cases c4 : 1 < x1
    · replace h := h.1 c4
      refine r_callS (st := []) (As := [.long x1.toInt64, .long 0, .long 1]) g sX12_161 iX12_isIn rfl (Nat.le_of_ble_eq_true rfl) dX12_name_9 (by omega) (Nat.le_refl 0) (Nat.le_refl 0) (Q_isIn_1 (d := d - 1) (x := x1) (a := 0) (b := 1) rfl (by decide) (by decide) c1 c4) (fun r5 μ6 hZ1 => ?_)
      obtain ⟨rfl, e9⟩ := hZ1
      replace e9 := e9.symm
      subst e9
      refine r_if_eq g 38 dX12_name_12 (by decide) (fun _ => ?_) (fun hz => absurd hz (by decide))
      refine r_iconst g (-1) dX12_name_38 (by decide) ?_
      exact hr.2.1 _ rfl _ _ _ _ _ _ dX12_name_39 rfl (Nat.le_refl 0) (Nat.le_refl 0) h
    · replace h := h.2 c4
      refine r_callS (st := []) (As := [.long x1.toInt64, .long 0, .long 1]) g sX12_161 iX12_isIn rfl (Nat.le_of_ble_eq_true rfl) dX12_name_9 (by omega) (Nat.le_refl 0) (Nat.le_refl 0) (Q_isIn_2 (d := d - 1) (x := x1) (a := 0) (b := 1) rfl (by decide) (by decide) c1 c4) (fun r7 μ8 hZ1 => ?_)
      obtain ⟨rfl, e9⟩ := hZ1
      replace e9 := e9.symm
      subst e9
      refine r_if_eq g 38 dX12_name_12 (by decide) (fun hz => absurd hz (by decide)) (fun _ => ?_)
      refine r_iload_n g dX12_name_15 rfl ?_
      refine r_if_ne g 30 dX12_name_16 (by decide) (fun c9 => ?_) (fun c9 => ?_)
      · replace h := h.1 c9
        refine r_aload_n g dX12_name_30 rfl ?_
        refine r_iload_n g dX12_name_31 rfl ?_
        by_cases c10 : x2 < 0
        · replace h := h.1 c10
          refine r_callV (st := []) (As := [.int x2]) g sX12_351 iX12_isFirm eX12_isFirm rfl hs_a0 rfl (Nat.le_of_ble_eq_true rfl) dX12_name_32 (by omega) (Nat.le_refl 0) (Nat.le_refl 0) (P_X12_isFirm_0 (d := d - 1) hs_a0 c10) (fun r11 μ12 hZ1 => ?_)
          obtain ⟨rfl, e9⟩ := hZ1
          replace e9 := e9.symm
          subst e9
          refine r_if_ne g 40 dX12_name_35 (by decide) (fun hz => absurd hz (by decide)) (fun _ => ?_)
          refine r_iconst g (-1) dX12_name_38 (by decide) ?_
          exact hr.2.1 _ rfl _ _ _ _ _ _ dX12_name_39 rfl (Nat.le_refl 0) (Nat.le_refl 0) h
        · replace h := h.2 c10
          by_cases c13 : (hI (wI μ a0 0 0) a0 22) ≤ x2
          · replace h := h.1 c13
            refine r_callV (st := []) (As := [.int x2]) g sX12_351 iX12_isFirm eX12_isFirm rfl hs_a0 rfl (Nat.le_of_ble_eq_true rfl) dX12_name_32 (by omega) (Nat.le_refl 0) (Nat.le_refl 0) (P_X12_isFirm_1 (d := d - 1) hs_a0 c10 c13) (fun r14 μ15 hZ1 => ?_)
            obtain ⟨rfl, e9⟩ := hZ1
            replace e9 := e9.symm
            subst e9
            refine r_if_ne g 40 dX12_name_35 (by decide) (fun hz => absurd hz (by decide)) (fun _ => ?_)
            refine r_iconst g (-1) dX12_name_38 (by decide) ?_
            exact hr.2.1 _ rfl _ _ _ _ _ _ dX12_name_39 rfl (Nat.le_refl 0) (Nat.le_refl 0) h
          · replace h := h.2 c13
            refine r_callV (st := []) (As := [.int x2]) g sX12_351 iX12_isFirm eX12_isFirm rfl hs_a0 rfl (Nat.le_of_ble_eq_true rfl) dX12_name_32 (by omega) (Nat.le_refl 0) (Nat.le_refl 0) (P_X12_isFirm_2 (d := d - 1) hs_a0 c10 c13) (fun r16 μ17 hZ1 => ?_)
            obtain ⟨rfl, e9⟩ := hZ1
            replace e9 := e9.symm
            subst e9
            refine r_if_ne g 40 dX12_name_35 (by decide) (fun _ => ?_) (fun hz => absurd hz (by decide))
            refine r_sub g (lv' := [(0, .ref a0), (1, .int x1), (2, .int x2), (3, .int x3)]) (⟨rfl, rfl, rfl, rfl, trivial⟩) ?_
            exact h
      · replace h := h.2 c9
        refine r_aload_n g dX12_name_19 rfl ?_
        refine r_iload_n g dX12_name_20 rfl ?_
        by_cases c18 : x2 < 0
        · replace h := h.1 c18
          refine r_callV (st := []) (As := [.int x2]) g sX12_449 iX12_isLand eX12_isLand rfl hs_a0 rfl (Nat.le_of_ble_eq_true rfl) dX12_name_21 (by omega) (Nat.le_refl 0) (Nat.le_refl 0) (P_X12_isLand_0 (d := d - 1) hs_a0 c18) (fun r19 μ20 hZ1 => ?_)
          obtain ⟨rfl, e9⟩ := hZ1
          replace e9 := e9.symm
          subst e9
          refine r_if_eq g 38 dX12_name_24 (by decide) (fun _ => ?_) (fun hz => absurd hz (by decide))
          refine r_iconst g (-1) dX12_name_38 (by decide) ?_
          exact hr.2.1 _ rfl _ _ _ _ _ _ dX12_name_39 rfl (Nat.le_refl 0) (Nat.le_refl 0) h
        · replace h := h.2 c18
          by_cases c21 : (hI (wI μ a0 0 0) a0 20) ≤ x2
          · replace h := h.1 c21
            refine r_callV (st := []) (As := [.int x2]) g sX12_449 iX12_isLand eX12_isLand rfl hs_a0 rfl (Nat.le_of_ble_eq_true rfl) dX12_name_21 (by omega) (Nat.le_refl 0) (Nat.le_refl 0) (P_X12_isLand_1 (d := d - 1) hs_a0 c18 c21) (fun r22 μ23 hZ1 => ?_)
            obtain ⟨rfl, e9⟩ := hZ1
            replace e9 := e9.symm
            subst e9
            refine r_if_eq g 38 dX12_name_24 (by decide) (fun _ => ?_) (fun hz => absurd hz (by decide))
            refine r_iconst g (-1) dX12_name_38 (by decide) ?_
            exact hr.2.1 _ rfl _ _ _ _ _ _ dX12_name_39 rfl (Nat.le_refl 0) (Nat.le_refl 0) h
          · replace h := h.2 c21
            by_cases c24 : (hI (wI μ a0 0 0) a0 22) ≤ 0
            · replace h := h.1 c24
              refine r_callV (st := []) (As := [.int x2]) g sX12_449 iX12_isLand eX12_isLand rfl hs_a0 rfl (Nat.le_of_ble_eq_true rfl) dX12_name_21 (by omega) (Nat.le_refl 0) (Nat.le_refl 0) (P_X12_isLand_2 (d := d - 1) hs_a0 c18 c21 c24) (fun r25 μ26 hZ1 => ?_)
              obtain ⟨rfl, e9⟩ := hZ1
              replace e9 := e9.symm
              subst e9
              refine r_if_eq g 38 dX12_name_24 (by decide) (fun _ => ?_) (fun hz => absurd hz (by decide))
              refine r_iconst g (-1) dX12_name_38 (by decide) ?_
              exact hr.2.1 _ rfl _ _ _ _ _ _ dX12_name_39 rfl (Nat.le_refl 0) (Nat.le_refl 0) h
            · replace h := h.2 c24
              refine r_callV (st := []) (As := [.int x2]) g sX12_449 iX12_isLand eX12_isLand rfl hs_a0 rfl (Nat.le_of_ble_eq_true rfl) dX12_name_21 (by omega) (Nat.le_refl 0) (Nat.le_refl 0) (P_X12_isLand_3 (d := d - 1) hs_a0 c18 c21 c24) (fun r27 μ28 hZ1 => ?_)
              obtain ⟨rfl, e9⟩ := hZ1
              replace e9 := e9.symm
              subst e9
              refine r_if_eq g 38 dX12_name_24 (by decide) (fun hz => absurd hz (by decide)) (fun _ => ?_)
              refine r_goto g 40 dX12_name_27 (by decide) ?_
              refine r_sub g (lv' := [(0, .ref a0), (1, .int x1), (2, .int x2), (3, .int x3)]) (⟨rfl, rfl, rfl, rfl, trivial⟩) ?_
              exact h
set_option maxHeartbeats 4000000 in
set_option maxRecDepth 100000 in
theorem B_X12_name_40 {d : Nat} {ro : Nat → Nat} {J : JT} {Z : Option Value → Hp → Prop} (g : xCtx RX12 cX12_name 6 d 0 0 yX12_name.name ro J) (hr : xRet cX12_name (some .int) 0 0 Z J) {μ : Hp} {a0 : Nat} {x1 : Int32} {x2 : Int32} {x3 : Int32} {a0_firmName : Nat} {N_a0_firmName : Nat} {a0_landName : Nat} {N_a0_landName : Nat} (hs_a0 : hS μ a0 = some (15, 65)) (hr_a0_firmName : hR μ a0 18 = some a0_firmName) (hs_a0_firmName : hS μ a0_firmName = some (2, N_a0_firmName)) (hr_a0_landName : hR μ a0 16 = some a0_landName) (hs_a0_landName : hS μ a0_landName = some (2, N_a0_landName)) (hd9 : 1 ≤ d)
    (h : ((¬ x1 = 0 → vp_in x2 N_a0_firmName ∧ xCall d yX12_lettersOf cX12_lettersOf 3 (some .int) [.long (hL μ a0_firmName x2.toNatClampNeg)] μ ro (fun r3 μ4 => ∃ y5 : Int32, r3 = some (.int y5) ∧ ((x3 < 0 → Z (some (.int (-1))) μ4) ∧ (¬ x3 < 0 → (((y5 - 1) < x3 → Z (some (.int (-1))) μ4) ∧ (¬ (y5 - 1) < x3 → xCall d yX12_letterOf cX12_letterOf 3 (some .int) [.long (hL μ a0_firmName x2.toNatClampNeg), .int x3] μ4 ro (fun r14 μ15 => ∃ y16 : Int32, r14 = some (.int y16) ∧ Z (some (.int y16)) μ15))))))) ∧ (x1 = 0 → vp_in x2 N_a0_landName ∧ xCall d yX12_lettersOf cX12_lettersOf 3 (some .int) [.long (hL μ a0_landName x2.toNatClampNeg)] μ ro (fun r18 μ19 => ∃ y20 : Int32, r18 = some (.int y20) ∧ ((x3 < 0 → Z (some (.int (-1))) μ19) ∧ (¬ x3 < 0 → (((y20 - 1) < x3 → Z (some (.int (-1))) μ19) ∧ (¬ (y20 - 1) < x3 → xCall d yX12_letterOf cX12_letterOf 3 (some .int) [.long (hL μ a0_landName x2.toNatClampNeg), .int x3] μ19 ro (fun r29 μ30 => ∃ y31 : Int32, r29 = some (.int y31) ∧ Z (some (.int y31)) μ30))))))))) :
    J μ 0 0 40 [(0, .ref a0), (1, .int x1), (2, .int x2), (3, .int x3)] [] := by
  refine r_iload_n g dX12_name_40 rfl ?_
  refine r_if_ne g 53 dX12_name_41 (by decide) (fun c1 => ?_) (fun c1 => ?_)
  · replace h := h.1 c1
    refine r_aload_n g dX12_name_53 rfl ?_
    refine r_getR g fX12_48 rfl hs_a0 hr_a0_firmName dX12_name_54 ?_
    refine r_iload_n g dX12_name_57 rfl ?_
    obtain ⟨hi2, h⟩ := h
    refine r_laload g hs_a0_firmName hi2 dX12_name_58 ?_
    refine r_lstore g [(4, .long (hL μ a0_firmName x2.toNatClampNeg)), (0, .ref a0), (1, .int x1), (2, .int x2), (3, .int x3)] dX12_name_59 (by decide) rfl ?_
    refine r_iload_n g dX12_name_61 rfl ?_
    refine r_i2l g dX12_name_62 ?_
    refine r_lconst g 0 dX12_name_63 (by decide) ?_
    refine r_lload g dX12_name_64 rfl ?_
    obtain ⟨d1, Z1, hc1, hd1, h1⟩ := h
    refine r_callS (st := [.long 0, .long x3.toInt64]) (As := [.long (hL μ a0_firmName x2.toNatClampNeg)]) g sX12_457 iX12_lettersOf rfl (Nat.le_of_ble_eq_true rfl) dX12_name_66 hd1 (Nat.le_refl 0) (Nat.le_refl 0) hc1 (fun r3 μ4 hZ1 => ?_)
    replace h := h1 _ _ hZ1
    clear h1 hc1 hd1 hZ1 Z1 d1
    obtain ⟨y5, rfl, h⟩ := h
    refine r_iconst g 1 dX12_name_69 (by decide) ?_
    refine r_isub g dX12_name_70 ?_
    refine r_i2l g dX12_name_71 ?_
    by_cases c6 : x3 < 0
    · replace h := h.1 c6
      refine r_callS (st := []) (As := [.long x3.toInt64, .long 0, .long (y5 - 1).toInt64]) g sX12_161 iX12_isIn rfl (Nat.le_of_ble_eq_true rfl) dX12_name_72 (by omega) (Nat.le_refl 0) (Nat.le_refl 0) (Q_isIn_0 (d := d - 1) (x := x3) (a := 0) (b := (y5 - 1)) rfl (by decide) rfl c6) (fun r7 μ8 hZ1 => ?_)
      obtain ⟨rfl, e9⟩ := hZ1
      replace e9 := e9.symm
      subst e9
      refine r_if_eq g 87 dX12_name_75 (by decide) (fun _ => ?_) (fun hz => absurd hz (by decide))
      refine r_iconst g (-1) dX12_name_87 (by decide) ?_
      exact hr.2.1 _ rfl _ _ _ _ _ _ dX12_name_88 rfl (Nat.le_refl 0) (Nat.le_refl 0) h
    · replace h := h.2 c6
      by_cases c9 : (y5 - 1) < x3
      · replace h := h.1 c9
        refine r_callS (st := []) (As := [.long x3.toInt64, .long 0, .long (y5 - 1).toInt64]) g sX12_161 iX12_isIn rfl (Nat.le_of_ble_eq_true rfl) dX12_name_72 (by omega) (Nat.le_refl 0) (Nat.le_refl 0) (Q_isIn_1 (d := d - 1) (x := x3) (a := 0) (b := (y5 - 1)) rfl (by decide) rfl c6 c9) (fun r10 μ11 hZ1 => ?_)
        obtain ⟨rfl, e9⟩ := hZ1
        replace e9 := e9.symm
        subst e9
        refine r_if_eq g 87 dX12_name_75 (by decide) (fun _ => ?_) (fun hz => absurd hz (by decide))
        refine r_iconst g (-1) dX12_name_87 (by decide) ?_
        exact hr.2.1 _ rfl _ _ _ _ _ _ dX12_name_88 rfl (Nat.le_refl 0) (Nat.le_refl 0) h
      · replace h := h.2 c9
        refine r_callS (st := []) (As := [.long x3.toInt64, .long 0, .long (y5 - 1).toInt64]) g sX12_161 iX12_isIn rfl (Nat.le_of_ble_eq_true rfl) dX12_name_72 (by omega) (Nat.le_refl 0) (Nat.le_refl 0) (Q_isIn_2 (d := d - 1) (x := x3) (a := 0) (b := (y5 - 1)) rfl (by decide) rfl c6 c9) (fun r12 μ13 hZ1 => ?_)
        obtain ⟨rfl, e9⟩ := hZ1
        replace e9 := e9.symm
        subst e9
        refine r_if_eq g 87 dX12_name_75 (by decide) (fun hz => absurd hz (by decide)) (fun _ => ?_)
        refine r_lload g dX12_name_78 rfl ?_
        refine r_iload_n g dX12_name_80 rfl ?_
        obtain ⟨d1, Z1, hc1, hd1, h1⟩ := h
        refine r_callS (st := []) (As := [.long (hL μ a0_firmName x2.toNatClampNeg), .int x3]) g sX12_462 iX12_letterOf rfl (Nat.le_of_ble_eq_true rfl) dX12_name_81 hd1 (Nat.le_refl 0) (Nat.le_refl 0) hc1 (fun r14 μ15 hZ1 => ?_)
        replace h := h1 _ _ hZ1
        clear h1 hc1 hd1 hZ1 Z1 d1
        obtain ⟨y16, rfl, h⟩ := h
        refine r_goto g 88 dX12_name_84 (by decide) ?_
        exact hr.2.1 _ rfl _ _ _ _ _ _ dX12_name_88 rfl (Nat.le_refl 0) (Nat.le_refl 0) h
  · replace h := h.2 c1
    refine r_aload_n g dX12_name_44 rfl ?_
    refine r_getR g fX12_42 rfl hs_a0 hr_a0_landName dX12_name_45 ?_
    refine r_iload_n g dX12_name_48 rfl ?_
    obtain ⟨hi17, h⟩ := h
    refine r_laload g hs_a0_landName hi17 dX12_name_49 ?_
    refine r_goto g 59 dX12_name_50 (by decide) ?_
    refine r_lstore g [(4, .long (hL μ a0_landName x2.toNatClampNeg)), (0, .ref a0), (1, .int x1), (2, .int x2), (3, .int x3)] dX12_name_59 (by decide) rfl ?_
    refine r_iload_n g dX12_name_61 rfl ?_
    refine r_i2l g dX12_name_62 ?_
    refine r_lconst g 0 dX12_name_63 (by decide) ?_
    refine r_lload g dX12_name_64 rfl ?_
    obtain ⟨d1, Z1, hc1, hd1, h1⟩ := h
    refine r_callS (st := [.long 0, .long x3.toInt64]) (As := [.long (hL μ a0_landName x2.toNatClampNeg)]) g sX12_457 iX12_lettersOf rfl (Nat.le_of_ble_eq_true rfl) dX12_name_66 hd1 (Nat.le_refl 0) (Nat.le_refl 0) hc1 (fun r18 μ19 hZ1 => ?_)
    replace h := h1 _ _ hZ1
    clear h1 hc1 hd1 hZ1 Z1 d1
    obtain ⟨y20, rfl, h⟩ := h
    refine r_iconst g 1 dX12_name_69 (by decide) ?_
    refine r_isub g dX12_name_70 ?_
    refine r_i2l g dX12_name_71 ?_
    by_cases c21 : x3 < 0
    · replace h := h.1 c21
      refine r_callS (st := []) (As := [.long x3.toInt64, .long 0, .long (y20 - 1).toInt64]) g sX12_161 iX12_isIn rfl (Nat.le_of_ble_eq_true rfl) dX12_name_72 (by omega) (Nat.le_refl 0) (Nat.le_refl 0) (Q_isIn_0 (d := d - 1) (x := x3) (a := 0) (b := (y20 - 1)) rfl (by decide) rfl c21) (fun r22 μ23 hZ1 => ?_)
      obtain ⟨rfl, e9⟩ := hZ1
      replace e9 := e9.symm
      subst e9
      refine r_if_eq g 87 dX12_name_75 (by decide) (fun _ => ?_) (fun hz => absurd hz (by decide))
      refine r_iconst g (-1) dX12_name_87 (by decide) ?_
      exact hr.2.1 _ rfl _ _ _ _ _ _ dX12_name_88 rfl (Nat.le_refl 0) (Nat.le_refl 0) h
    · replace h := h.2 c21
      by_cases c24 : (y20 - 1) < x3
      · replace h := h.1 c24
        refine r_callS (st := []) (As := [.long x3.toInt64, .long 0, .long (y20 - 1).toInt64]) g sX12_161 iX12_isIn rfl (Nat.le_of_ble_eq_true rfl) dX12_name_72 (by omega) (Nat.le_refl 0) (Nat.le_refl 0) (Q_isIn_1 (d := d - 1) (x := x3) (a := 0) (b := (y20 - 1)) rfl (by decide) rfl c21 c24) (fun r25 μ26 hZ1 => ?_)
        obtain ⟨rfl, e9⟩ := hZ1
        replace e9 := e9.symm
        subst e9
        refine r_if_eq g 87 dX12_name_75 (by decide) (fun _ => ?_) (fun hz => absurd hz (by decide))
        refine r_iconst g (-1) dX12_name_87 (by decide) ?_
        exact hr.2.1 _ rfl _ _ _ _ _ _ dX12_name_88 rfl (Nat.le_refl 0) (Nat.le_refl 0) h
      · replace h := h.2 c24
        refine r_callS (st := []) (As := [.long x3.toInt64, .long 0, .long (y20 - 1).toInt64]) g sX12_161 iX12_isIn rfl (Nat.le_of_ble_eq_true rfl) dX12_name_72 (by omega) (Nat.le_refl 0) (Nat.le_refl 0) (Q_isIn_2 (d := d - 1) (x := x3) (a := 0) (b := (y20 - 1)) rfl (by decide) rfl c21 c24) (fun r27 μ28 hZ1 => ?_)
        obtain ⟨rfl, e9⟩ := hZ1
        replace e9 := e9.symm
        subst e9
        refine r_if_eq g 87 dX12_name_75 (by decide) (fun hz => absurd hz (by decide)) (fun _ => ?_)
        refine r_lload g dX12_name_78 rfl ?_
        refine r_iload_n g dX12_name_80 rfl ?_
        obtain ⟨d1, Z1, hc1, hd1, h1⟩ := h
        refine r_callS (st := []) (As := [.long (hL μ a0_landName x2.toNatClampNeg), .int x3]) g sX12_462 iX12_letterOf rfl (Nat.le_of_ble_eq_true rfl) dX12_name_81 hd1 (Nat.le_refl 0) (Nat.le_refl 0) hc1 (fun r29 μ30 hZ1 => ?_)
        replace h := h1 _ _ hZ1
        clear h1 hc1 hd1 hZ1 Z1 d1
        obtain ⟨y31, rfl, h⟩ := h
        refine r_goto g 88 dX12_name_84 (by decide) ?_
        exact hr.2.1 _ rfl _ _ _ _ _ _ dX12_name_88 rfl (Nat.le_refl 0) (Nat.le_refl 0) h
theorem I_X12_name {d : Nat} {ro : Nat → Nat} {Z : Option Value → Hp → Prop} {μ : Hp} {a0 : Nat} {x1 : Int32} {x2 : Int32} {x3 : Int32} (h : ∀ J, xCtx RX12 cX12_name 6 d 0 0 yX12_name.name ro J → xRet cX12_name (some .int) 0 0 Z J → J μ 0 0 0 [(0, .ref a0), (1, .int x1), (2, .int x2), (3, .int x3)] []) : xC d yX12_name cX12_name 6 (some .int) 0 0 [.ref a0, .int x1, .int x2, .int x3] μ ro Z :=
  xC_intro (own := RX12) (lv := [(0, .ref a0), (1, .int x1), (2, .int x2), (3, .int x3)]) (by decide) rfl (Nat.le_of_ble_eq_true rfl) rfl (fun J g hr => r_sub g (lv' := [(0, .ref a0), (1, .int x1), (2, .int x2), (3, .int x3)]) (⟨rfl, rfl, rfl, rfl, trivial⟩) (h J g hr))
theorem dX12_link_0 : decode cX12_link 0 = .ok (.aload_n 0, 1) := by decide +kernel
theorem dX12_link_1 : decode cX12_link 1 = .ok (.iconst 0, 1) := by decide +kernel
theorem dX12_link_2 : decode cX12_link 2 = .ok (.putfield 106, 3) := by decide +kernel
theorem dX12_link_5 : decode cX12_link 5 = .ok (.iload_n 1, 1) := by decide +kernel
theorem dX12_link_6 : decode cX12_link 6 = .ok (.i2l, 1) := by decide +kernel
theorem dX12_link_7 : decode cX12_link 7 = .ok (.lconst 0, 1) := by decide +kernel
theorem dX12_link_8 : decode cX12_link 8 = .ok (.aload_n 0, 1) := by decide +kernel
theorem dX12_link_9 : decode cX12_link 9 = .ok (.getfield 57, 3) := by decide +kernel
theorem dX12_link_12 : decode cX12_link 12 = .ok (.bipush 31, 2) := by decide +kernel
theorem dX12_link_14 : decode cX12_link 14 = .ok (.iaload, 1) := by decide +kernel
theorem dX12_link_15 : decode cX12_link 15 = .ok (.iconst 1, 1) := by decide +kernel
theorem dX12_link_16 : decode cX12_link 16 = .ok (.isub, 1) := by decide +kernel
theorem dX12_link_17 : decode cX12_link 17 = .ok (.i2l, 1) := by decide +kernel
theorem dX12_link_18 : decode cX12_link 18 = .ok (.invokestatic 161, 3) := by decide +kernel
theorem dX12_link_21 : decode cX12_link 21 = .ok (.ifCond .eq 29, 3) := by decide +kernel
theorem dX12_link_24 : decode cX12_link 24 = .ok (.iload_n 2, 1) := by decide +kernel
theorem dX12_link_25 : decode cX12_link 25 = .ok (.i2l, 1) := by decide +kernel
theorem dX12_link_26 : decode cX12_link 26 = .ok (.lconst 0, 1) := by decide +kernel
theorem dX12_link_27 : decode cX12_link 27 = .ok (.ldc2_w 452, 3) := by decide +kernel
theorem dX12_link_30 : decode cX12_link 30 = .ok (.invokestatic 161, 3) := by decide +kernel
theorem dX12_link_33 : decode cX12_link 33 = .ok (.ifCond .eq 17, 3) := by decide +kernel
theorem dX12_link_36 : decode cX12_link 36 = .ok (.aload_n 0, 1) := by decide +kernel
theorem dX12_link_37 : decode cX12_link 37 = .ok (.getfield 57, 3) := by decide +kernel
theorem dX12_link_40 : decode cX12_link 40 = .ok (.iload_n 1, 1) := by decide +kernel
theorem dX12_link_41 : decode cX12_link 41 = .ok (.invokestatic 270, 3) := by decide +kernel
theorem dX12_link_44 : decode cX12_link 44 = .ok (.iload_n 2, 1) := by decide +kernel
theorem dX12_link_45 : decode cX12_link 45 = .ok (.iadd, 1) := by decide +kernel
theorem dX12_link_46 : decode cX12_link 46 = .ok (.iaload, 1) := by decide +kernel
theorem dX12_link_47 : decode cX12_link 47 = .ok (.goto 4, 3) := by decide +kernel
theorem dX12_link_50 : decode cX12_link 50 = .ok (.iconst (-1), 1) := by decide +kernel
theorem dX12_link_51 : decode cX12_link 51 = .ok (.ireturn, 1) := by decide +kernel
set_option maxHeartbeats 4000000 in
set_option maxRecDepth 100000 in
theorem B_X12_link_0 {d : Nat} {ro : Nat → Nat} {J : JT} {Z : Option Value → Hp → Prop} (g : xCtx RX12 cX12_link 3 d 0 0 yX12_link.name ro J) (hr : xRet cX12_link (some .int) 0 0 Z J) {μ : Hp} {a0 : Nat} {x1 : Int32} {x2 : Int32} {a0_now : Nat} {N_a0_now : Nat} (hs_a0 : hS μ a0 = some (15, 65)) (hr_a0_now : hR μ a0 30 = some a0_now) (hs_a0_now : hS μ a0_now = some (0, N_a0_now)) (hd9 : 1 ≤ d)
    (h : vp_in 31 N_a0_now ∧ ((x1 < 0 → Z (some (.int (-1))) (wI μ a0 0 0)) ∧ (¬ x1 < 0 → ((((hI (wI μ a0 0 0) a0_now 31) - 1) < x1 → Z (some (.int (-1))) (wI μ a0 0 0)) ∧ (¬ ((hI (wI μ a0 0 0) a0_now 31) - 1) < x1 → ((x2 < 0 → Z (some (.int (-1))) (wI μ a0 0 0)) ∧ (¬ x2 < 0 → ((4 < x2 → Z (some (.int (-1))) (wI μ a0 0 0)) ∧ (¬ 4 < x2 → vp_in ((32 + (5 * x1)) + x2) N_a0_now ∧ Z (some (.int (hI (wI μ a0 0 0) a0_now (((32 + (5 * x1)) + x2).toNatClampNeg)))) (wI μ a0 0 0)))))))))) :
    J μ 0 0 0 [(0, .ref a0), (1, .int x1), (2, .int x2)] [] := by
  refine r_aload_n g dX12_link_0 rfl ?_
  refine r_iconst g 0 dX12_link_1 (by decide) ?_
  refine r_putI g fX12_106 rfl hs_a0 rfl rfl dX12_link_2 ?_
  refine r_iload_n g dX12_link_5 rfl ?_
  refine r_i2l g dX12_link_6 ?_
  refine r_lconst g 0 dX12_link_7 (by decide) ?_
  refine r_aload_n g dX12_link_8 rfl ?_
  refine r_getR g fX12_57 rfl hs_a0 hr_a0_now dX12_link_9 ?_
  refine r_bipush g 31 dX12_link_12 (by decide) ?_
  obtain ⟨hi1, h⟩ := h
  refine r_iaload g hs_a0_now hi1 dX12_link_14 ?_
  refine r_iconst g 1 dX12_link_15 (by decide) ?_
  refine r_isub g dX12_link_16 ?_
  refine r_i2l g dX12_link_17 ?_
  by_cases c2 : x1 < 0
  · replace h := h.1 c2
    refine r_callS (st := []) (As := [.long x1.toInt64, .long 0, .long ((hI (wI μ a0 0 0) a0_now 31) - 1).toInt64]) g sX12_161 iX12_isIn rfl (Nat.le_of_ble_eq_true rfl) dX12_link_18 (by omega) (Nat.le_refl 0) (Nat.le_refl 0) (Q_isIn_0 (d := d - 1) (x := x1) (a := 0) (b := ((hI (wI μ a0 0 0) a0_now 31) - 1)) rfl (by decide) rfl c2) (fun r3 μ4 hZ1 => ?_)
    obtain ⟨rfl, e9⟩ := hZ1
    replace e9 := e9.symm
    subst e9
    refine r_if_eq g 50 dX12_link_21 (by decide) (fun _ => ?_) (fun hz => absurd hz (by decide))
    refine r_iconst g (-1) dX12_link_50 (by decide) ?_
    exact hr.2.1 _ rfl _ _ _ _ _ _ dX12_link_51 rfl (Nat.le_refl 0) (Nat.le_refl 0) h
  · replace h := h.2 c2
    by_cases c5 : ((hI (wI μ a0 0 0) a0_now 31) - 1) < x1
    · replace h := h.1 c5
      refine r_callS (st := []) (As := [.long x1.toInt64, .long 0, .long ((hI (wI μ a0 0 0) a0_now 31) - 1).toInt64]) g sX12_161 iX12_isIn rfl (Nat.le_of_ble_eq_true rfl) dX12_link_18 (by omega) (Nat.le_refl 0) (Nat.le_refl 0) (Q_isIn_1 (d := d - 1) (x := x1) (a := 0) (b := ((hI (wI μ a0 0 0) a0_now 31) - 1)) rfl (by decide) rfl c2 c5) (fun r6 μ7 hZ1 => ?_)
      obtain ⟨rfl, e9⟩ := hZ1
      replace e9 := e9.symm
      subst e9
      refine r_if_eq g 50 dX12_link_21 (by decide) (fun _ => ?_) (fun hz => absurd hz (by decide))
      refine r_iconst g (-1) dX12_link_50 (by decide) ?_
      exact hr.2.1 _ rfl _ _ _ _ _ _ dX12_link_51 rfl (Nat.le_refl 0) (Nat.le_refl 0) h
    · replace h := h.2 c5
      refine r_callS (st := []) (As := [.long x1.toInt64, .long 0, .long ((hI (wI μ a0 0 0) a0_now 31) - 1).toInt64]) g sX12_161 iX12_isIn rfl (Nat.le_of_ble_eq_true rfl) dX12_link_18 (by omega) (Nat.le_refl 0) (Nat.le_refl 0) (Q_isIn_2 (d := d - 1) (x := x1) (a := 0) (b := ((hI (wI μ a0 0 0) a0_now 31) - 1)) rfl (by decide) rfl c2 c5) (fun r8 μ9 hZ1 => ?_)
      obtain ⟨rfl, e9⟩ := hZ1
      replace e9 := e9.symm
      subst e9
      refine r_if_eq g 50 dX12_link_21 (by decide) (fun hz => absurd hz (by decide)) (fun _ => ?_)
      refine r_iload_n g dX12_link_24 rfl ?_
      refine r_i2l g dX12_link_25 ?_
      refine r_lconst g 0 dX12_link_26 (by decide) ?_
      refine r_ldc2 g 4 kX12_452 dX12_link_27 ?_
      by_cases c10 : x2 < 0
      · replace h := h.1 c10
        refine r_callS (st := []) (As := [.long x2.toInt64, .long 0, .long 4]) g sX12_161 iX12_isIn rfl (Nat.le_of_ble_eq_true rfl) dX12_link_30 (by omega) (Nat.le_refl 0) (Nat.le_refl 0) (Q_isIn_0 (d := d - 1) (x := x2) (a := 0) (b := 4) rfl (by decide) (by decide) c10) (fun r11 μ12 hZ1 => ?_)
        obtain ⟨rfl, e9⟩ := hZ1
        replace e9 := e9.symm
        subst e9
        refine r_if_eq g 50 dX12_link_33 (by decide) (fun _ => ?_) (fun hz => absurd hz (by decide))
        refine r_iconst g (-1) dX12_link_50 (by decide) ?_
        exact hr.2.1 _ rfl _ _ _ _ _ _ dX12_link_51 rfl (Nat.le_refl 0) (Nat.le_refl 0) h
      · replace h := h.2 c10
        by_cases c13 : 4 < x2
        · replace h := h.1 c13
          refine r_callS (st := []) (As := [.long x2.toInt64, .long 0, .long 4]) g sX12_161 iX12_isIn rfl (Nat.le_of_ble_eq_true rfl) dX12_link_30 (by omega) (Nat.le_refl 0) (Nat.le_refl 0) (Q_isIn_1 (d := d - 1) (x := x2) (a := 0) (b := 4) rfl (by decide) (by decide) c10 c13) (fun r14 μ15 hZ1 => ?_)
          obtain ⟨rfl, e9⟩ := hZ1
          replace e9 := e9.symm
          subst e9
          refine r_if_eq g 50 dX12_link_33 (by decide) (fun _ => ?_) (fun hz => absurd hz (by decide))
          refine r_iconst g (-1) dX12_link_50 (by decide) ?_
          exact hr.2.1 _ rfl _ _ _ _ _ _ dX12_link_51 rfl (Nat.le_refl 0) (Nat.le_refl 0) h
        · replace h := h.2 c13
          refine r_callS (st := []) (As := [.long x2.toInt64, .long 0, .long 4]) g sX12_161 iX12_isIn rfl (Nat.le_of_ble_eq_true rfl) dX12_link_30 (by omega) (Nat.le_refl 0) (Nat.le_refl 0) (Q_isIn_2 (d := d - 1) (x := x2) (a := 0) (b := 4) rfl (by decide) (by decide) c10 c13) (fun r16 μ17 hZ1 => ?_)
          obtain ⟨rfl, e9⟩ := hZ1
          replace e9 := e9.symm
          subst e9
          refine r_if_eq g 50 dX12_link_33 (by decide) (fun hz => absurd hz (by decide)) (fun _ => ?_)
          refine r_aload_n g dX12_link_36 rfl ?_
          refine r_getR g fX12_57 rfl hs_a0 hr_a0_now dX12_link_37 ?_
          refine r_iload_n g dX12_link_40 rfl ?_
          refine r_callS (st := [.ref a0_now]) (As := [.int x1]) g sX12_270 iX12_linkRow rfl (Nat.le_of_ble_eq_true rfl) dX12_link_41 (by omega) (Nat.le_refl 0) (Nat.le_refl 0) (P_X12_linkRow_0 (d := d - 1)  ) (fun r18 μ19 hZ1 => ?_)
          obtain ⟨rfl, e9⟩ := hZ1
          replace e9 := e9.symm
          subst e9
          refine r_iload_n g dX12_link_44 rfl ?_
          refine r_iadd g dX12_link_45 ?_
          obtain ⟨hi20, h⟩ := h
          refine r_iaload g hs_a0_now hi20 dX12_link_46 ?_
          refine r_goto g 51 dX12_link_47 (by decide) ?_
          exact hr.2.1 _ rfl _ _ _ _ _ _ dX12_link_51 rfl (Nat.le_refl 0) (Nat.le_refl 0) h
theorem I_X12_link {d : Nat} {ro : Nat → Nat} {Z : Option Value → Hp → Prop} {μ : Hp} {a0 : Nat} {x1 : Int32} {x2 : Int32} (h : ∀ J, xCtx RX12 cX12_link 3 d 0 0 yX12_link.name ro J → xRet cX12_link (some .int) 0 0 Z J → J μ 0 0 0 [(0, .ref a0), (1, .int x1), (2, .int x2)] []) : xC d yX12_link cX12_link 3 (some .int) 0 0 [.ref a0, .int x1, .int x2] μ ro Z :=
  xC_intro (own := RX12) (lv := [(0, .ref a0), (1, .int x1), (2, .int x2)]) (by decide) rfl (Nat.le_of_ble_eq_true rfl) rfl (fun J g hr => r_sub g (lv' := [(0, .ref a0), (1, .int x1), (2, .int x2)]) (⟨rfl, rfl, rfl, trivial⟩) (h J g hr))
theorem dX12_treaty_0 : decode cX12_treaty 0 = .ok (.aload_n 0, 1) := by decide +kernel
theorem dX12_treaty_1 : decode cX12_treaty 1 = .ok (.iconst 0, 1) := by decide +kernel
theorem dX12_treaty_2 : decode cX12_treaty 2 = .ok (.putfield 106, 3) := by decide +kernel
theorem dX12_treaty_5 : decode cX12_treaty 5 = .ok (.aload_n 0, 1) := by decide +kernel
theorem dX12_treaty_6 : decode cX12_treaty 6 = .ok (.iload_n 1, 1) := by decide +kernel
theorem dX12_treaty_7 : decode cX12_treaty 7 = .ok (.invokevirtual 449, 3) := by decide +kernel
theorem dX12_treaty_10 : decode cX12_treaty 10 = .ok (.ifCond .eq 36, 3) := by decide +kernel
theorem dX12_treaty_13 : decode cX12_treaty 13 = .ok (.aload_n 0, 1) := by decide +kernel
theorem dX12_treaty_14 : decode cX12_treaty 14 = .ok (.iload_n 2, 1) := by decide +kernel
theorem dX12_treaty_15 : decode cX12_treaty 15 = .ok (.invokevirtual 449, 3) := by decide +kernel
theorem dX12_treaty_18 : decode cX12_treaty 18 = .ok (.ifCond .eq 28, 3) := by decide +kernel
theorem dX12_treaty_21 : decode cX12_treaty 21 = .ok (.iload_n 3, 1) := by decide +kernel
theorem dX12_treaty_22 : decode cX12_treaty 22 = .ok (.i2l, 1) := by decide +kernel
theorem dX12_treaty_23 : decode cX12_treaty 23 = .ok (.lconst 0, 1) := by decide +kernel
theorem dX12_treaty_24 : decode cX12_treaty 24 = .ok (.ldc2_w 466, 3) := by decide +kernel
theorem dX12_treaty_27 : decode cX12_treaty 27 = .ok (.invokestatic 161, 3) := by decide +kernel
theorem dX12_treaty_30 : decode cX12_treaty 30 = .ok (.ifCond .eq 16, 3) := by decide +kernel
theorem dX12_treaty_33 : decode cX12_treaty 33 = .ok (.iload 4, 2) := by decide +kernel
theorem dX12_treaty_35 : decode cX12_treaty 35 = .ok (.i2l, 1) := by decide +kernel
theorem dX12_treaty_36 : decode cX12_treaty 36 = .ok (.lconst 0, 1) := by decide +kernel
theorem dX12_treaty_37 : decode cX12_treaty 37 = .ok (.ldc2_w 468, 3) := by decide +kernel
theorem dX12_treaty_40 : decode cX12_treaty 40 = .ok (.invokestatic 161, 3) := by decide +kernel
theorem dX12_treaty_43 : decode cX12_treaty 43 = .ok (.ifCond .ne 5, 3) := by decide +kernel
theorem dX12_treaty_46 : decode cX12_treaty 46 = .ok (.iconst (-1), 1) := by decide +kernel
theorem dX12_treaty_47 : decode cX12_treaty 47 = .ok (.ireturn, 1) := by decide +kernel
theorem dX12_treaty_48 : decode cX12_treaty 48 = .ok (.aload_n 0, 1) := by decide +kernel
theorem dX12_treaty_49 : decode cX12_treaty 49 = .ok (.iload_n 1, 1) := by decide +kernel
theorem dX12_treaty_50 : decode cX12_treaty 50 = .ok (.iload_n 2, 1) := by decide +kernel
theorem dX12_treaty_51 : decode cX12_treaty 51 = .ok (.iload_n 3, 1) := by decide +kernel
theorem dX12_treaty_52 : decode cX12_treaty 52 = .ok (.invokevirtual 283, 3) := by decide +kernel
theorem dX12_treaty_55 : decode cX12_treaty 55 = .ok (.istore 5, 2) := by decide +kernel
theorem dX12_treaty_57 : decode cX12_treaty 57 = .ok (.iload 5, 2) := by decide +kernel
theorem dX12_treaty_59 : decode cX12_treaty 59 = .ok (.iconst (-1), 1) := by decide +kernel
theorem dX12_treaty_60 : decode cX12_treaty 60 = .ok (.if_icmp .ne 7, 3) := by decide +kernel
theorem dX12_treaty_63 : decode cX12_treaty 63 = .ok (.iconst (-1), 1) := by decide +kernel
theorem dX12_treaty_64 : decode cX12_treaty 64 = .ok (.goto 15, 3) := by decide +kernel
theorem dX12_treaty_67 : decode cX12_treaty 67 = .ok (.aload_n 0, 1) := by decide +kernel
theorem dX12_treaty_68 : decode cX12_treaty 68 = .ok (.getfield 29, 3) := by decide +kernel
theorem dX12_treaty_71 : decode cX12_treaty 71 = .ok (.iload 5, 2) := by decide +kernel
theorem dX12_treaty_73 : decode cX12_treaty 73 = .ok (.iconst 2, 1) := by decide +kernel
theorem dX12_treaty_74 : decode cX12_treaty 74 = .ok (.iadd, 1) := by decide +kernel
theorem dX12_treaty_75 : decode cX12_treaty 75 = .ok (.iload 4, 2) := by decide +kernel
theorem dX12_treaty_77 : decode cX12_treaty 77 = .ok (.iadd, 1) := by decide +kernel
theorem dX12_treaty_78 : decode cX12_treaty 78 = .ok (.iaload, 1) := by decide +kernel
theorem dX12_treaty_79 : decode cX12_treaty 79 = .ok (.ireturn, 1) := by decide +kernel
set_option maxHeartbeats 4000000 in
set_option maxRecDepth 100000 in
theorem B_X12_treaty_0 {d : Nat} {ro : Nat → Nat} {J : JT} {Z : Option Value → Hp → Prop} (g : xCtx RX12 cX12_treaty 6 d 0 0 yX12_treaty.name ro J) (hr : xRet cX12_treaty (some .int) 0 0 Z J) {μ : Hp} {a0 : Nat} {x1 : Int32} {x2 : Int32} {x3 : Int32} {x4 : Int32} (hs_a0 : hS μ a0 = some (15, 65)) (hd9 : 1 ≤ d)
    (h : ((x1 < 0 → Z (some (.int (-1))) (wI μ a0 0 0)) ∧ (¬ x1 < 0 → (((hI (wI μ a0 0 0) a0 20) ≤ x1 → Z (some (.int (-1))) (wI μ a0 0 0)) ∧ (¬ (hI (wI μ a0 0 0) a0 20) ≤ x1 → (((hI (wI μ a0 0 0) a0 22) ≤ 0 → Z (some (.int (-1))) (wI μ a0 0 0)) ∧ (¬ (hI (wI μ a0 0 0) a0 22) ≤ 0 → ((x2 < 0 → Z (some (.int (-1))) (wI μ a0 0 0)) ∧ (¬ x2 < 0 → (((hI (wI μ a0 0 0) a0 20) ≤ x2 → Z (some (.int (-1))) (wI μ a0 0 0)) ∧ (¬ (hI (wI μ a0 0 0) a0 20) ≤ x2 → (((hI (wI μ a0 0 0) a0 22) ≤ 0 → Z (some (.int (-1))) (wI μ a0 0 0)) ∧ (¬ (hI (wI μ a0 0 0) a0 22) ≤ 0 → ((x3 < 0 → Z (some (.int (-1))) (wI μ a0 0 0)) ∧ (¬ x3 < 0 → ((199 < x3 → Z (some (.int (-1))) (wI μ a0 0 0)) ∧ (¬ 199 < x3 → ((x4 < 0 → Z (some (.int (-1))) (wI μ a0 0 0)) ∧ (¬ x4 < 0 → ((7 < x4 → Z (some (.int (-1))) (wI μ a0 0 0)) ∧ (¬ 7 < x4 → xCall d yX12_treatyOf cX12_treatyOf 8 (some .int) [.ref a0, .int x1, .int x2, .int x3] (wI μ a0 0 0) ro (fun r39 μ40 => ∃ y41 : Int32, r39 = some (.int y41) ∧ ((¬ y41 = (-1) → hS μ40 a0 = some (15, 65) ∧ ∃ treaty_43 : Nat, hR μ40 a0 12 = some treaty_43 ∧ ∃ N44 : Nat, hS μ40 treaty_43 = some (0, N44) ∧ vp_in ((y41 + 2) + x4) N44 ∧ Z (some (.int (hI μ40 treaty_43 (((y41 + 2) + x4).toNatClampNeg)))) μ40) ∧ (y41 = (-1) → Z (some (.int (-1))) μ40)))))))))))))))))))))))) :
    J μ 0 0 0 [(0, .ref a0), (1, .int x1), (2, .int x2), (3, .int x3), (4, .int x4)] [] := by
  refine r_aload_n g dX12_treaty_0 rfl ?_
  refine r_iconst g 0 dX12_treaty_1 (by decide) ?_
  refine r_putI g fX12_106 rfl hs_a0 rfl rfl dX12_treaty_2 ?_
  refine r_aload_n g dX12_treaty_5 rfl ?_
  refine r_iload_n g dX12_treaty_6 rfl ?_
  by_cases c1 : x1 < 0
  · replace h := h.1 c1
    refine r_callV (st := []) (As := [.int x1]) g sX12_449 iX12_isLand eX12_isLand rfl hs_a0 rfl (Nat.le_of_ble_eq_true rfl) dX12_treaty_7 (by omega) (Nat.le_refl 0) (Nat.le_refl 0) (P_X12_isLand_0 (d := d - 1) hs_a0 c1) (fun r2 μ3 hZ1 => ?_)
    obtain ⟨rfl, e9⟩ := hZ1
    replace e9 := e9.symm
    subst e9
    refine r_if_eq g 46 dX12_treaty_10 (by decide) (fun _ => ?_) (fun hz => absurd hz (by decide))
    refine r_iconst g (-1) dX12_treaty_46 (by decide) ?_
    exact hr.2.1 _ rfl _ _ _ _ _ _ dX12_treaty_47 rfl (Nat.le_refl 0) (Nat.le_refl 0) h
  · replace h := h.2 c1
    by_cases c4 : (hI (wI μ a0 0 0) a0 20) ≤ x1
    · replace h := h.1 c4
      refine r_callV (st := []) (As := [.int x1]) g sX12_449 iX12_isLand eX12_isLand rfl hs_a0 rfl (Nat.le_of_ble_eq_true rfl) dX12_treaty_7 (by omega) (Nat.le_refl 0) (Nat.le_refl 0) (P_X12_isLand_1 (d := d - 1) hs_a0 c1 c4) (fun r5 μ6 hZ1 => ?_)
      obtain ⟨rfl, e9⟩ := hZ1
      replace e9 := e9.symm
      subst e9
      refine r_if_eq g 46 dX12_treaty_10 (by decide) (fun _ => ?_) (fun hz => absurd hz (by decide))
      refine r_iconst g (-1) dX12_treaty_46 (by decide) ?_
      exact hr.2.1 _ rfl _ _ _ _ _ _ dX12_treaty_47 rfl (Nat.le_refl 0) (Nat.le_refl 0) h
    · replace h := h.2 c4
      by_cases c7 : (hI (wI μ a0 0 0) a0 22) ≤ 0
      · replace h := h.1 c7
        refine r_callV (st := []) (As := [.int x1]) g sX12_449 iX12_isLand eX12_isLand rfl hs_a0 rfl (Nat.le_of_ble_eq_true rfl) dX12_treaty_7 (by omega) (Nat.le_refl 0) (Nat.le_refl 0) (P_X12_isLand_2 (d := d - 1) hs_a0 c1 c4 c7) (fun r8 μ9 hZ1 => ?_)
        obtain ⟨rfl, e9⟩ := hZ1
        replace e9 := e9.symm
        subst e9
        refine r_if_eq g 46 dX12_treaty_10 (by decide) (fun _ => ?_) (fun hz => absurd hz (by decide))
        refine r_iconst g (-1) dX12_treaty_46 (by decide) ?_
        exact hr.2.1 _ rfl _ _ _ _ _ _ dX12_treaty_47 rfl (Nat.le_refl 0) (Nat.le_refl 0) h
      · replace h := h.2 c7
        refine r_callV (st := []) (As := [.int x1]) g sX12_449 iX12_isLand eX12_isLand rfl hs_a0 rfl (Nat.le_of_ble_eq_true rfl) dX12_treaty_7 (by omega) (Nat.le_refl 0) (Nat.le_refl 0) (P_X12_isLand_3 (d := d - 1) hs_a0 c1 c4 c7) (fun r10 μ11 hZ1 => ?_)
        obtain ⟨rfl, e9⟩ := hZ1
        replace e9 := e9.symm
        subst e9
        refine r_if_eq g 46 dX12_treaty_10 (by decide) (fun hz => absurd hz (by decide)) (fun _ => ?_)
        refine r_aload_n g dX12_treaty_13 rfl ?_
        refine r_iload_n g dX12_treaty_14 rfl ?_
        by_cases c12 : x2 < 0
        · replace h := h.1 c12
          refine r_callV (st := []) (As := [.int x2]) g sX12_449 iX12_isLand eX12_isLand rfl hs_a0 rfl (Nat.le_of_ble_eq_true rfl) dX12_treaty_15 (by omega) (Nat.le_refl 0) (Nat.le_refl 0) (P_X12_isLand_0 (d := d - 1) hs_a0 c12) (fun r13 μ14 hZ1 => ?_)
          obtain ⟨rfl, e9⟩ := hZ1
          replace e9 := e9.symm
          subst e9
          refine r_if_eq g 46 dX12_treaty_18 (by decide) (fun _ => ?_) (fun hz => absurd hz (by decide))
          refine r_iconst g (-1) dX12_treaty_46 (by decide) ?_
          exact hr.2.1 _ rfl _ _ _ _ _ _ dX12_treaty_47 rfl (Nat.le_refl 0) (Nat.le_refl 0) h
        · replace h := h.2 c12
          by_cases c15 : (hI (wI μ a0 0 0) a0 20) ≤ x2
          · replace h := h.1 c15
            refine r_callV (st := []) (As := [.int x2]) g sX12_449 iX12_isLand eX12_isLand rfl hs_a0 rfl (Nat.le_of_ble_eq_true rfl) dX12_treaty_15 (by omega) (Nat.le_refl 0) (Nat.le_refl 0) (P_X12_isLand_1 (d := d - 1) hs_a0 c12 c15) (fun r16 μ17 hZ1 => ?_)
            obtain ⟨rfl, e9⟩ := hZ1
            replace e9 := e9.symm
            subst e9
            refine r_if_eq g 46 dX12_treaty_18 (by decide) (fun _ => ?_) (fun hz => absurd hz (by decide))
            refine r_iconst g (-1) dX12_treaty_46 (by decide) ?_
            exact hr.2.1 _ rfl _ _ _ _ _ _ dX12_treaty_47 rfl (Nat.le_refl 0) (Nat.le_refl 0) h
          · replace h := h.2 c15
            by_cases c18 : (hI (wI μ a0 0 0) a0 22) ≤ 0
            · replace h := h.1 c18
              refine r_callV (st := []) (As := [.int x2]) g sX12_449 iX12_isLand eX12_isLand rfl hs_a0 rfl (Nat.le_of_ble_eq_true rfl) dX12_treaty_15 (by omega) (Nat.le_refl 0) (Nat.le_refl 0) (P_X12_isLand_2 (d := d - 1) hs_a0 c12 c15 c18) (fun r19 μ20 hZ1 => ?_)
              obtain ⟨rfl, e9⟩ := hZ1
              replace e9 := e9.symm
              subst e9
              refine r_if_eq g 46 dX12_treaty_18 (by decide) (fun _ => ?_) (fun hz => absurd hz (by decide))
              refine r_iconst g (-1) dX12_treaty_46 (by decide) ?_
              exact hr.2.1 _ rfl _ _ _ _ _ _ dX12_treaty_47 rfl (Nat.le_refl 0) (Nat.le_refl 0) h
            · replace h := h.2 c18
              refine r_callV (st := []) (As := [.int x2]) g sX12_449 iX12_isLand eX12_isLand rfl hs_a0 rfl (Nat.le_of_ble_eq_true rfl) dX12_treaty_15 (by omega) (Nat.le_refl 0) (Nat.le_refl 0) (P_X12_isLand_3 (d := d - 1) hs_a0 c12 c15 c18) (fun r21 μ22 hZ1 => ?_)
              obtain ⟨rfl, e9⟩ := hZ1
              replace e9 := e9.symm
              subst e9
              refine r_if_eq g 46 dX12_treaty_18 (by decide) (fun hz => absurd hz (by decide)) (fun _ => ?_)
              refine r_iload_n g dX12_treaty_21 rfl ?_
              refine r_i2l g dX12_treaty_22 ?_
              refine r_lconst g 0 dX12_treaty_23 (by decide) ?_
              refine r_ldc2 g 199 kX12_466 dX12_treaty_24 ?_
              by_cases c23 : x3 < 0
              · replace h := h.1 c23
                refine r_callS (st := []) (As := [.long x3.toInt64, .long 0, .long 199]) g sX12_161 iX12_isIn rfl (Nat.le_of_ble_eq_true rfl) dX12_treaty_27 (by omega) (Nat.le_refl 0) (Nat.le_refl 0) (Q_isIn_0 (d := d - 1) (x := x3) (a := 0) (b := 199) rfl (by decide) (by decide) c23) (fun r24 μ25 hZ1 => ?_)
                obtain ⟨rfl, e9⟩ := hZ1
                replace e9 := e9.symm
                subst e9
                refine r_if_eq g 46 dX12_treaty_30 (by decide) (fun _ => ?_) (fun hz => absurd hz (by decide))
                refine r_iconst g (-1) dX12_treaty_46 (by decide) ?_
                exact hr.2.1 _ rfl _ _ _ _ _ _ dX12_treaty_47 rfl (Nat.le_refl 0) (Nat.le_refl 0) h
              · replace h := h.2 c23
                by_cases c26 : 199 < x3
                · replace h := h.1 c26
                  refine r_callS (st := []) (As := [.long x3.toInt64, .long 0, .long 199]) g sX12_161 iX12_isIn rfl (Nat.le_of_ble_eq_true rfl) dX12_treaty_27 (by omega) (Nat.le_refl 0) (Nat.le_refl 0) (Q_isIn_1 (d := d - 1) (x := x3) (a := 0) (b := 199) rfl (by decide) (by decide) c23 c26) (fun r27 μ28 hZ1 => ?_)
                  obtain ⟨rfl, e9⟩ := hZ1
                  replace e9 := e9.symm
                  subst e9
                  refine r_if_eq g 46 dX12_treaty_30 (by decide) (fun _ => ?_) (fun hz => absurd hz (by decide))
                  refine r_iconst g (-1) dX12_treaty_46 (by decide) ?_
                  exact hr.2.1 _ rfl _ _ _ _ _ _ dX12_treaty_47 rfl (Nat.le_refl 0) (Nat.le_refl 0) h
                · replace h := h.2 c26
                  refine r_callS (st := []) (As := [.long x3.toInt64, .long 0, .long 199]) g sX12_161 iX12_isIn rfl (Nat.le_of_ble_eq_true rfl) dX12_treaty_27 (by omega) (Nat.le_refl 0) (Nat.le_refl 0) (Q_isIn_2 (d := d - 1) (x := x3) (a := 0) (b := 199) rfl (by decide) (by decide) c23 c26) (fun r29 μ30 hZ1 => ?_)
                  obtain ⟨rfl, e9⟩ := hZ1
                  replace e9 := e9.symm
                  subst e9
                  refine r_if_eq g 46 dX12_treaty_30 (by decide) (fun hz => absurd hz (by decide)) (fun _ => ?_)
                  refine r_iload g dX12_treaty_33 rfl ?_
                  refine r_i2l g dX12_treaty_35 ?_
                  refine r_lconst g 0 dX12_treaty_36 (by decide) ?_
                  refine r_ldc2 g 7 kX12_468 dX12_treaty_37 ?_
                  by_cases c31 : x4 < 0
                  · replace h := h.1 c31
                    refine r_callS (st := []) (As := [.long x4.toInt64, .long 0, .long 7]) g sX12_161 iX12_isIn rfl (Nat.le_of_ble_eq_true rfl) dX12_treaty_40 (by omega) (Nat.le_refl 0) (Nat.le_refl 0) (Q_isIn_0 (d := d - 1) (x := x4) (a := 0) (b := 7) rfl (by decide) (by decide) c31) (fun r32 μ33 hZ1 => ?_)
                    obtain ⟨rfl, e9⟩ := hZ1
                    replace e9 := e9.symm
                    subst e9
                    refine r_if_ne g 48 dX12_treaty_43 (by decide) (fun hz => absurd hz (by decide)) (fun _ => ?_)
                    refine r_iconst g (-1) dX12_treaty_46 (by decide) ?_
                    exact hr.2.1 _ rfl _ _ _ _ _ _ dX12_treaty_47 rfl (Nat.le_refl 0) (Nat.le_refl 0) h
                  · replace h := h.2 c31
                    by_cases c34 : 7 < x4
                    · replace h := h.1 c34
                      refine r_callS (st := []) (As := [.long x4.toInt64, .long 0, .long 7]) g sX12_161 iX12_isIn rfl (Nat.le_of_ble_eq_true rfl) dX12_treaty_40 (by omega) (Nat.le_refl 0) (Nat.le_refl 0) (Q_isIn_1 (d := d - 1) (x := x4) (a := 0) (b := 7) rfl (by decide) (by decide) c31 c34) (fun r35 μ36 hZ1 => ?_)
                      obtain ⟨rfl, e9⟩ := hZ1
                      replace e9 := e9.symm
                      subst e9
                      refine r_if_ne g 48 dX12_treaty_43 (by decide) (fun hz => absurd hz (by decide)) (fun _ => ?_)
                      refine r_iconst g (-1) dX12_treaty_46 (by decide) ?_
                      exact hr.2.1 _ rfl _ _ _ _ _ _ dX12_treaty_47 rfl (Nat.le_refl 0) (Nat.le_refl 0) h
                    · replace h := h.2 c34
                      refine r_callS (st := []) (As := [.long x4.toInt64, .long 0, .long 7]) g sX12_161 iX12_isIn rfl (Nat.le_of_ble_eq_true rfl) dX12_treaty_40 (by omega) (Nat.le_refl 0) (Nat.le_refl 0) (Q_isIn_2 (d := d - 1) (x := x4) (a := 0) (b := 7) rfl (by decide) (by decide) c31 c34) (fun r37 μ38 hZ1 => ?_)
                      obtain ⟨rfl, e9⟩ := hZ1
                      replace e9 := e9.symm
                      subst e9
                      refine r_if_ne g 48 dX12_treaty_43 (by decide) (fun _ => ?_) (fun hz => absurd hz (by decide))
                      refine r_aload_n g dX12_treaty_48 rfl ?_
                      refine r_iload_n g dX12_treaty_49 rfl ?_
                      refine r_iload_n g dX12_treaty_50 rfl ?_
                      refine r_iload_n g dX12_treaty_51 rfl ?_
                      obtain ⟨d1, Z1, hc1, hd1, h1⟩ := h
                      refine r_callV (st := []) (As := [.int x1, .int x2, .int x3]) g sX12_283 iX12_treatyOf eX12_treatyOf rfl hs_a0 rfl (Nat.le_of_ble_eq_true rfl) dX12_treaty_52 hd1 (Nat.le_refl 0) (Nat.le_refl 0) hc1 (fun r39 μ40 hZ1 => ?_)
                      replace h := h1 _ _ hZ1
                      clear h1 hc1 hd1 hZ1 Z1 d1
                      obtain ⟨y41, rfl, h⟩ := h
                      refine r_istore g [(5, .int y41), (0, .ref a0), (1, .int x1), (2, .int x2), (3, .int x3), (4, .int x4)] dX12_treaty_55 (by decide) rfl ?_
                      refine r_iload g dX12_treaty_57 rfl ?_
                      refine r_iconst g (-1) dX12_treaty_59 (by decide) ?_
                      refine r_icmp_ne g 67 dX12_treaty_60 (by decide) (fun c42 => ?_) (fun c42 => ?_)
                      · replace h := h.1 c42
                        refine r_aload_n g dX12_treaty_67 rfl ?_
                        obtain ⟨hs_a0_, h⟩ := h
                        obtain ⟨treaty_43, hr_treaty_43, h⟩ := h
                        refine r_getR g fX12_29 rfl hs_a0_ hr_treaty_43 dX12_treaty_68 ?_
                        refine r_iload g dX12_treaty_71 rfl ?_
                        refine r_iconst g 2 dX12_treaty_73 (by decide) ?_
                        refine r_iadd g dX12_treaty_74 ?_
                        refine r_iload g dX12_treaty_75 rfl ?_
                        refine r_iadd g dX12_treaty_77 ?_
                        obtain ⟨N44, hs_treaty_43, h⟩ := h
                        obtain ⟨hi45, h⟩ := h
                        refine r_iaload g hs_treaty_43 hi45 dX12_treaty_78 ?_
                        exact hr.2.1 _ rfl _ _ _ _ _ _ dX12_treaty_79 rfl (Nat.le_refl 0) (Nat.le_refl 0) h
                      · replace h := h.2 c42
                        refine r_iconst g (-1) dX12_treaty_63 (by decide) ?_
                        refine r_goto g 79 dX12_treaty_64 (by decide) ?_
                        exact hr.2.1 _ rfl _ _ _ _ _ _ dX12_treaty_79 rfl (Nat.le_refl 0) (Nat.le_refl 0) h
theorem I_X12_treaty {d : Nat} {ro : Nat → Nat} {Z : Option Value → Hp → Prop} {μ : Hp} {a0 : Nat} {x1 : Int32} {x2 : Int32} {x3 : Int32} {x4 : Int32} (h : ∀ J, xCtx RX12 cX12_treaty 6 d 0 0 yX12_treaty.name ro J → xRet cX12_treaty (some .int) 0 0 Z J → J μ 0 0 0 [(0, .ref a0), (1, .int x1), (2, .int x2), (3, .int x3), (4, .int x4)] []) : xC d yX12_treaty cX12_treaty 6 (some .int) 0 0 [.ref a0, .int x1, .int x2, .int x3, .int x4] μ ro Z :=
  xC_intro (own := RX12) (lv := [(0, .ref a0), (1, .int x1), (2, .int x2), (3, .int x3), (4, .int x4)]) (by decide) rfl (Nat.le_of_ble_eq_true rfl) rfl (fun J g hr => r_sub g (lv' := [(0, .ref a0), (1, .int x1), (2, .int x2), (3, .int x3), (4, .int x4)]) (⟨rfl, rfl, rfl, rfl, rfl, trivial⟩) (h J g hr))
theorem dX12_hop_0 : decode cX12_hop 0 = .ok (.aload_n 0, 1) := by decide +kernel
theorem dX12_hop_1 : decode cX12_hop 1 = .ok (.iconst 0, 1) := by decide +kernel
theorem dX12_hop_2 : decode cX12_hop 2 = .ok (.putfield 106, 3) := by decide +kernel
theorem dX12_hop_5 : decode cX12_hop 5 = .ok (.aload_n 0, 1) := by decide +kernel
theorem dX12_hop_6 : decode cX12_hop 6 = .ok (.iload_n 2, 1) := by decide +kernel
theorem dX12_hop_7 : decode cX12_hop 7 = .ok (.invokevirtual 351, 3) := by decide +kernel
theorem dX12_hop_10 : decode cX12_hop 10 = .ok (.ifCond .eq 41, 3) := by decide +kernel
theorem dX12_hop_13 : decode cX12_hop 13 = .ok (.aload_n 0, 1) := by decide +kernel
theorem dX12_hop_14 : decode cX12_hop 14 = .ok (.iload_n 3, 1) := by decide +kernel
theorem dX12_hop_15 : decode cX12_hop 15 = .ok (.invokevirtual 351, 3) := by decide +kernel
theorem dX12_hop_18 : decode cX12_hop 18 = .ok (.ifCond .eq 33, 3) := by decide +kernel
theorem dX12_hop_21 : decode cX12_hop 21 = .ok (.aload_n 0, 1) := by decide +kernel
theorem dX12_hop_22 : decode cX12_hop 22 = .ok (.iload 4, 2) := by decide +kernel
theorem dX12_hop_24 : decode cX12_hop 24 = .ok (.invokevirtual 351, 3) := by decide +kernel
theorem dX12_hop_27 : decode cX12_hop 27 = .ok (.ifCond .eq 24, 3) := by decide +kernel
theorem dX12_hop_30 : decode cX12_hop 30 = .ok (.iload_n 1, 1) := by decide +kernel
theorem dX12_hop_31 : decode cX12_hop 31 = .ok (.i2l, 1) := by decide +kernel
theorem dX12_hop_32 : decode cX12_hop 32 = .ok (.lconst 0, 1) := by decide +kernel
theorem dX12_hop_33 : decode cX12_hop 33 = .ok (.lconst 1, 1) := by decide +kernel
theorem dX12_hop_34 : decode cX12_hop 34 = .ok (.invokestatic 161, 3) := by decide +kernel
theorem dX12_hop_37 : decode cX12_hop 37 = .ok (.ifCond .eq 14, 3) := by decide +kernel
theorem dX12_hop_40 : decode cX12_hop 40 = .ok (.iload 5, 2) := by decide +kernel
theorem dX12_hop_42 : decode cX12_hop 42 = .ok (.i2l, 1) := by decide +kernel
theorem dX12_hop_43 : decode cX12_hop 43 = .ok (.lconst 0, 1) := by decide +kernel
theorem dX12_hop_44 : decode cX12_hop 44 = .ok (.lconst 1, 1) := by decide +kernel
theorem dX12_hop_45 : decode cX12_hop 45 = .ok (.invokestatic 161, 3) := by decide +kernel
theorem dX12_hop_48 : decode cX12_hop 48 = .ok (.ifCond .ne 5, 3) := by decide +kernel
theorem dX12_hop_51 : decode cX12_hop 51 = .ok (.iconst (-1), 1) := by decide +kernel
theorem dX12_hop_52 : decode cX12_hop 52 = .ok (.ireturn, 1) := by decide +kernel
theorem dX12_hop_53 : decode cX12_hop 53 = .ok (.aload_n 0, 1) := by decide +kernel
theorem dX12_hop_54 : decode cX12_hop 54 = .ok (.aload_n 0, 1) := by decide +kernel
theorem dX12_hop_55 : decode cX12_hop 55 = .ok (.getfield 57, 3) := by decide +kernel
theorem dX12_hop_58 : decode cX12_hop 58 = .ok (.bipush 30, 2) := by decide +kernel
theorem dX12_hop_60 : decode cX12_hop 60 = .ok (.iaload, 1) := by decide +kernel
theorem dX12_hop_61 : decode cX12_hop 61 = .ok (.putfield 277, 3) := by decide +kernel
theorem dX12_hop_64 : decode cX12_hop 64 = .ok (.aload_n 0, 1) := by decide +kernel
theorem dX12_hop_65 : decode cX12_hop 65 = .ok (.aload_n 0, 1) := by decide +kernel
theorem dX12_hop_66 : decode cX12_hop 66 = .ok (.getfield 57, 3) := by decide +kernel
theorem dX12_hop_69 : decode cX12_hop 69 = .ok (.iload_n 1, 1) := by decide +kernel
theorem dX12_hop_70 : decode cX12_hop 70 = .ok (.iload_n 2, 1) := by decide +kernel
theorem dX12_hop_71 : decode cX12_hop 71 = .ok (.iload_n 3, 1) := by decide +kernel
theorem dX12_hop_72 : decode cX12_hop 72 = .ok (.invokevirtual 309, 3) := by decide +kernel
theorem dX12_hop_75 : decode cX12_hop 75 = .ok (.istore 6, 2) := by decide +kernel
theorem dX12_hop_77 : decode cX12_hop 77 = .ok (.iload 6, 2) := by decide +kernel
theorem dX12_hop_79 : decode cX12_hop 79 = .ok (.iconst (-1), 1) := by decide +kernel
theorem dX12_hop_80 : decode cX12_hop 80 = .ok (.if_icmp .ne 5, 3) := by decide +kernel
theorem dX12_hop_83 : decode cX12_hop 83 = .ok (.iconst (-1), 1) := by decide +kernel
theorem dX12_hop_84 : decode cX12_hop 84 = .ok (.ireturn, 1) := by decide +kernel
theorem dX12_hop_85 : decode cX12_hop 85 = .ok (.aload_n 0, 1) := by decide +kernel
theorem dX12_hop_86 : decode cX12_hop 86 = .ok (.aload_n 0, 1) := by decide +kernel
theorem dX12_hop_87 : decode cX12_hop 87 = .ok (.getfield 57, 3) := by decide +kernel
theorem dX12_hop_90 : decode cX12_hop 90 = .ok (.iload_n 1, 1) := by decide +kernel
theorem dX12_hop_91 : decode cX12_hop 91 = .ok (.iload_n 2, 1) := by decide +kernel
theorem dX12_hop_92 : decode cX12_hop 92 = .ok (.iload_n 3, 1) := by decide +kernel
theorem dX12_hop_93 : decode cX12_hop 93 = .ok (.iload 4, 2) := by decide +kernel
theorem dX12_hop_95 : decode cX12_hop 95 = .ok (.iload 6, 2) := by decide +kernel
theorem dX12_hop_97 : decode cX12_hop 97 = .ok (.invokevirtual 312, 3) := by decide +kernel
theorem dX12_hop_100 : decode cX12_hop 100 = .ok (.iload 5, 2) := by decide +kernel
theorem dX12_hop_102 : decode cX12_hop 102 = .ok (.ifCond .ne 10, 3) := by decide +kernel
theorem dX12_hop_105 : decode cX12_hop 105 = .ok (.aload_n 0, 1) := by decide +kernel
theorem dX12_hop_106 : decode cX12_hop 106 = .ok (.getfield 294, 3) := by decide +kernel
theorem dX12_hop_109 : decode cX12_hop 109 = .ok (.goto 7, 3) := by decide +kernel
theorem dX12_hop_112 : decode cX12_hop 112 = .ok (.aload_n 0, 1) := by decide +kernel
theorem dX12_hop_113 : decode cX12_hop 113 = .ok (.getfield 291, 3) := by decide +kernel
theorem dX12_hop_116 : decode cX12_hop 116 = .ok (.ireturn, 1) := by decide +kernel
set_option maxHeartbeats 4000000 in
set_option maxRecDepth 100000 in
theorem B_X12_hop_0 {d : Nat} {ro : Nat → Nat} {J : JT} {Z : Option Value → Hp → Prop} (g : xCtx RX12 cX12_hop 7 d 0 0 yX12_hop.name ro J) (hr : xRet cX12_hop (some .int) 0 0 Z J) {μ : Hp} {a0 : Nat} {x1 : Int32} {x2 : Int32} {x3 : Int32} {x4 : Int32} {x5 : Int32} {a0_now : Nat} {N_a0_now : Nat} (hs_a0 : hS μ a0 = some (15, 65)) (hr_a0_now : hR μ a0 30 = some a0_now) (hs_a0_now : hS μ a0_now = some (0, N_a0_now)) (hd9 : 1 ≤ d)
    (h : ((x2 < 0 → Z (some (.int (-1))) (wI μ a0 0 0)) ∧ (¬ x2 < 0 → (((hI (wI μ a0 0 0) a0 22) ≤ x2 → Z (some (.int (-1))) (wI μ a0 0 0)) ∧ (¬ (hI (wI μ a0 0 0) a0 22) ≤ x2 → ((x3 < 0 → Z (some (.int (-1))) (wI μ a0 0 0)) ∧ (¬ x3 < 0 → (((hI (wI μ a0 0 0) a0 22) ≤ x3 → Z (some (.int (-1))) (wI μ a0 0 0)) ∧ (¬ (hI (wI μ a0 0 0) a0 22) ≤ x3 → ((x4 < 0 → Z (some (.int (-1))) (wI μ a0 0 0)) ∧ (¬ x4 < 0 → (((hI (wI μ a0 0 0) a0 22) ≤ x4 → Z (some (.int (-1))) (wI μ a0 0 0)) ∧ (¬ (hI (wI μ a0 0 0) a0 22) ≤ x4 → ((x1 < 0 → Z (some (.int (-1))) (wI μ a0 0 0)) ∧ (¬ x1 < 0 → ((1 < x1 → Z (some (.int (-1))) (wI μ a0 0 0)) ∧ (¬ 1 < x1 → ((x5 < 0 → Z (some (.int (-1))) (wI μ a0 0 0)) ∧ (¬ x5 < 0 → ((1 < x5 → Z (some (.int (-1))) (wI μ a0 0 0)) ∧ (¬ 1 < x5 → vp_in 30 N_a0_now ∧ xCall d yX12_hopOf cX12_hopOf 6 (some .int) [.ref a0, .ref a0_now, .int x1, .int x2, .int x3] (wI (wI μ a0 0 0) a0 37 (hI (wI μ a0 0 0) a0_now 30)) ro (fun r42 μ43 => ∃ y44 : Int32, r42 = some (.int y44) ∧ ((¬ y44 = (-1) → hS μ43 a0 = some (15, 65) ∧ ∃ now_46 : Nat, hR μ43 a0 30 = some now_46 ∧ xCall d yX12_laysHop cX12_laysHop 9 none [.ref a0, .ref now_46, .int x1, .int x2, .int x3, .int x4, .int y44] μ43 ro (fun r47 μ48 => r47 = none ∧ ((¬ x5 = 0 → hS μ48 a0 = some (15, 65) ∧ Z (some (.int (hI μ48 a0 42))) μ48) ∧ (x5 = 0 → hS μ48 a0 = some (15, 65) ∧ Z (some (.int (hI μ48 a0 41))) μ48)))) ∧ (y44 = (-1) → Z (some (.int (-1))) μ43)))))))))))))))))))))))) :
    J μ 0 0 0 [(0, .ref a0), (1, .int x1), (2, .int x2), (3, .int x3), (4, .int x4), (5, .int x5)] [] := by
  refine r_aload_n g dX12_hop_0 rfl ?_
  refine r_iconst g 0 dX12_hop_1 (by decide) ?_
  refine r_putI g fX12_106 rfl hs_a0 rfl rfl dX12_hop_2 ?_
  refine r_aload_n g dX12_hop_5 rfl ?_
  refine r_iload_n g dX12_hop_6 rfl ?_
  by_cases c1 : x2 < 0
  · replace h := h.1 c1
    refine r_callV (st := []) (As := [.int x2]) g sX12_351 iX12_isFirm eX12_isFirm rfl hs_a0 rfl (Nat.le_of_ble_eq_true rfl) dX12_hop_7 (by omega) (Nat.le_refl 0) (Nat.le_refl 0) (P_X12_isFirm_0 (d := d - 1) hs_a0 c1) (fun r2 μ3 hZ1 => ?_)
    obtain ⟨rfl, e9⟩ := hZ1
    replace e9 := e9.symm
    subst e9
    refine r_if_eq g 51 dX12_hop_10 (by decide) (fun _ => ?_) (fun hz => absurd hz (by decide))
    refine r_iconst g (-1) dX12_hop_51 (by decide) ?_
    exact hr.2.1 _ rfl _ _ _ _ _ _ dX12_hop_52 rfl (Nat.le_refl 0) (Nat.le_refl 0) h
  · replace h := h.2 c1
    by_cases c4 : (hI (wI μ a0 0 0) a0 22) ≤ x2
    · replace h := h.1 c4
      refine r_callV (st := []) (As := [.int x2]) g sX12_351 iX12_isFirm eX12_isFirm rfl hs_a0 rfl (Nat.le_of_ble_eq_true rfl) dX12_hop_7 (by omega) (Nat.le_refl 0) (Nat.le_refl 0) (P_X12_isFirm_1 (d := d - 1) hs_a0 c1 c4) (fun r5 μ6 hZ1 => ?_)
      obtain ⟨rfl, e9⟩ := hZ1
      replace e9 := e9.symm
      subst e9
      refine r_if_eq g 51 dX12_hop_10 (by decide) (fun _ => ?_) (fun hz => absurd hz (by decide))
      refine r_iconst g (-1) dX12_hop_51 (by decide) ?_
      exact hr.2.1 _ rfl _ _ _ _ _ _ dX12_hop_52 rfl (Nat.le_refl 0) (Nat.le_refl 0) h
    · replace h := h.2 c4
      refine r_callV (st := []) (As := [.int x2]) g sX12_351 iX12_isFirm eX12_isFirm rfl hs_a0 rfl (Nat.le_of_ble_eq_true rfl) dX12_hop_7 (by omega) (Nat.le_refl 0) (Nat.le_refl 0) (P_X12_isFirm_2 (d := d - 1) hs_a0 c1 c4) (fun r7 μ8 hZ1 => ?_)
      obtain ⟨rfl, e9⟩ := hZ1
      replace e9 := e9.symm
      subst e9
      refine r_if_eq g 51 dX12_hop_10 (by decide) (fun hz => absurd hz (by decide)) (fun _ => ?_)
      refine r_aload_n g dX12_hop_13 rfl ?_
      refine r_iload_n g dX12_hop_14 rfl ?_
      by_cases c9 : x3 < 0
      · replace h := h.1 c9
        refine r_callV (st := []) (As := [.int x3]) g sX12_351 iX12_isFirm eX12_isFirm rfl hs_a0 rfl (Nat.le_of_ble_eq_true rfl) dX12_hop_15 (by omega) (Nat.le_refl 0) (Nat.le_refl 0) (P_X12_isFirm_0 (d := d - 1) hs_a0 c9) (fun r10 μ11 hZ1 => ?_)
        obtain ⟨rfl, e9⟩ := hZ1
        replace e9 := e9.symm
        subst e9
        refine r_if_eq g 51 dX12_hop_18 (by decide) (fun _ => ?_) (fun hz => absurd hz (by decide))
        refine r_iconst g (-1) dX12_hop_51 (by decide) ?_
        exact hr.2.1 _ rfl _ _ _ _ _ _ dX12_hop_52 rfl (Nat.le_refl 0) (Nat.le_refl 0) h
      · replace h := h.2 c9
        by_cases c12 : (hI (wI μ a0 0 0) a0 22) ≤ x3
        · replace h := h.1 c12
          refine r_callV (st := []) (As := [.int x3]) g sX12_351 iX12_isFirm eX12_isFirm rfl hs_a0 rfl (Nat.le_of_ble_eq_true rfl) dX12_hop_15 (by omega) (Nat.le_refl 0) (Nat.le_refl 0) (P_X12_isFirm_1 (d := d - 1) hs_a0 c9 c12) (fun r13 μ14 hZ1 => ?_)
          obtain ⟨rfl, e9⟩ := hZ1
          replace e9 := e9.symm
          subst e9
          refine r_if_eq g 51 dX12_hop_18 (by decide) (fun _ => ?_) (fun hz => absurd hz (by decide))
          refine r_iconst g (-1) dX12_hop_51 (by decide) ?_
          exact hr.2.1 _ rfl _ _ _ _ _ _ dX12_hop_52 rfl (Nat.le_refl 0) (Nat.le_refl 0) h
        · replace h := h.2 c12
          refine r_callV (st := []) (As := [.int x3]) g sX12_351 iX12_isFirm eX12_isFirm rfl hs_a0 rfl (Nat.le_of_ble_eq_true rfl) dX12_hop_15 (by omega) (Nat.le_refl 0) (Nat.le_refl 0) (P_X12_isFirm_2 (d := d - 1) hs_a0 c9 c12) (fun r15 μ16 hZ1 => ?_)
          obtain ⟨rfl, e9⟩ := hZ1
          replace e9 := e9.symm
          subst e9
          refine r_if_eq g 51 dX12_hop_18 (by decide) (fun hz => absurd hz (by decide)) (fun _ => ?_)
          refine r_aload_n g dX12_hop_21 rfl ?_
          refine r_iload g dX12_hop_22 rfl ?_
          by_cases c17 : x4 < 0
          · replace h := h.1 c17
            refine r_callV (st := []) (As := [.int x4]) g sX12_351 iX12_isFirm eX12_isFirm rfl hs_a0 rfl (Nat.le_of_ble_eq_true rfl) dX12_hop_24 (by omega) (Nat.le_refl 0) (Nat.le_refl 0) (P_X12_isFirm_0 (d := d - 1) hs_a0 c17) (fun r18 μ19 hZ1 => ?_)
            obtain ⟨rfl, e9⟩ := hZ1
            replace e9 := e9.symm
            subst e9
            refine r_if_eq g 51 dX12_hop_27 (by decide) (fun _ => ?_) (fun hz => absurd hz (by decide))
            refine r_iconst g (-1) dX12_hop_51 (by decide) ?_
            exact hr.2.1 _ rfl _ _ _ _ _ _ dX12_hop_52 rfl (Nat.le_refl 0) (Nat.le_refl 0) h
          · replace h := h.2 c17
            by_cases c20 : (hI (wI μ a0 0 0) a0 22) ≤ x4
            · replace h := h.1 c20
              refine r_callV (st := []) (As := [.int x4]) g sX12_351 iX12_isFirm eX12_isFirm rfl hs_a0 rfl (Nat.le_of_ble_eq_true rfl) dX12_hop_24 (by omega) (Nat.le_refl 0) (Nat.le_refl 0) (P_X12_isFirm_1 (d := d - 1) hs_a0 c17 c20) (fun r21 μ22 hZ1 => ?_)
              obtain ⟨rfl, e9⟩ := hZ1
              replace e9 := e9.symm
              subst e9
              refine r_if_eq g 51 dX12_hop_27 (by decide) (fun _ => ?_) (fun hz => absurd hz (by decide))
              refine r_iconst g (-1) dX12_hop_51 (by decide) ?_
              exact hr.2.1 _ rfl _ _ _ _ _ _ dX12_hop_52 rfl (Nat.le_refl 0) (Nat.le_refl 0) h
            · replace h := h.2 c20
              refine r_callV (st := []) (As := [.int x4]) g sX12_351 iX12_isFirm eX12_isFirm rfl hs_a0 rfl (Nat.le_of_ble_eq_true rfl) dX12_hop_24 (by omega) (Nat.le_refl 0) (Nat.le_refl 0) (P_X12_isFirm_2 (d := d - 1) hs_a0 c17 c20) (fun r23 μ24 hZ1 => ?_)
              obtain ⟨rfl, e9⟩ := hZ1
              replace e9 := e9.symm
              subst e9
              refine r_if_eq g 51 dX12_hop_27 (by decide) (fun hz => absurd hz (by decide)) (fun _ => ?_)
              refine r_iload_n g dX12_hop_30 rfl ?_
              refine r_i2l g dX12_hop_31 ?_
              refine r_lconst g 0 dX12_hop_32 (by decide) ?_
              refine r_lconst g 1 dX12_hop_33 (by decide) ?_
              by_cases c25 : x1 < 0
              · replace h := h.1 c25
                refine r_callS (st := []) (As := [.long x1.toInt64, .long 0, .long 1]) g sX12_161 iX12_isIn rfl (Nat.le_of_ble_eq_true rfl) dX12_hop_34 (by omega) (Nat.le_refl 0) (Nat.le_refl 0) (Q_isIn_0 (d := d - 1) (x := x1) (a := 0) (b := 1) rfl (by decide) (by decide) c25) (fun r26 μ27 hZ1 => ?_)
                obtain ⟨rfl, e9⟩ := hZ1
                replace e9 := e9.symm
                subst e9
                refine r_if_eq g 51 dX12_hop_37 (by decide) (fun _ => ?_) (fun hz => absurd hz (by decide))
                refine r_iconst g (-1) dX12_hop_51 (by decide) ?_
                exact hr.2.1 _ rfl _ _ _ _ _ _ dX12_hop_52 rfl (Nat.le_refl 0) (Nat.le_refl 0) h
              · replace h := h.2 c25
                by_cases c28 : 1 < x1
                · replace h := h.1 c28
                  refine r_callS (st := []) (As := [.long x1.toInt64, .long 0, .long 1]) g sX12_161 iX12_isIn rfl (Nat.le_of_ble_eq_true rfl) dX12_hop_34 (by omega) (Nat.le_refl 0) (Nat.le_refl 0) (Q_isIn_1 (d := d - 1) (x := x1) (a := 0) (b := 1) rfl (by decide) (by decide) c25 c28) (fun r29 μ30 hZ1 => ?_)
                  obtain ⟨rfl, e9⟩ := hZ1
                  replace e9 := e9.symm
                  subst e9
                  refine r_if_eq g 51 dX12_hop_37 (by decide) (fun _ => ?_) (fun hz => absurd hz (by decide))
                  refine r_iconst g (-1) dX12_hop_51 (by decide) ?_
                  exact hr.2.1 _ rfl _ _ _ _ _ _ dX12_hop_52 rfl (Nat.le_refl 0) (Nat.le_refl 0) h
                · replace h := h.2 c28
                  refine r_callS (st := []) (As := [.long x1.toInt64, .long 0, .long 1]) g sX12_161 iX12_isIn rfl (Nat.le_of_ble_eq_true rfl) dX12_hop_34 (by omega) (Nat.le_refl 0) (Nat.le_refl 0) (Q_isIn_2 (d := d - 1) (x := x1) (a := 0) (b := 1) rfl (by decide) (by decide) c25 c28) (fun r31 μ32 hZ1 => ?_)
                  obtain ⟨rfl, e9⟩ := hZ1
                  replace e9 := e9.symm
                  subst e9
                  refine r_if_eq g 51 dX12_hop_37 (by decide) (fun hz => absurd hz (by decide)) (fun _ => ?_)
                  refine r_iload g dX12_hop_40 rfl ?_
                  refine r_i2l g dX12_hop_42 ?_
                  refine r_lconst g 0 dX12_hop_43 (by decide) ?_
                  refine r_lconst g 1 dX12_hop_44 (by decide) ?_
                  by_cases c33 : x5 < 0
                  · replace h := h.1 c33
                    refine r_callS (st := []) (As := [.long x5.toInt64, .long 0, .long 1]) g sX12_161 iX12_isIn rfl (Nat.le_of_ble_eq_true rfl) dX12_hop_45 (by omega) (Nat.le_refl 0) (Nat.le_refl 0) (Q_isIn_0 (d := d - 1) (x := x5) (a := 0) (b := 1) rfl (by decide) (by decide) c33) (fun r34 μ35 hZ1 => ?_)
                    obtain ⟨rfl, e9⟩ := hZ1
                    replace e9 := e9.symm
                    subst e9
                    refine r_if_ne g 53 dX12_hop_48 (by decide) (fun hz => absurd hz (by decide)) (fun _ => ?_)
                    refine r_iconst g (-1) dX12_hop_51 (by decide) ?_
                    exact hr.2.1 _ rfl _ _ _ _ _ _ dX12_hop_52 rfl (Nat.le_refl 0) (Nat.le_refl 0) h
                  · replace h := h.2 c33
                    by_cases c36 : 1 < x5
                    · replace h := h.1 c36
                      refine r_callS (st := []) (As := [.long x5.toInt64, .long 0, .long 1]) g sX12_161 iX12_isIn rfl (Nat.le_of_ble_eq_true rfl) dX12_hop_45 (by omega) (Nat.le_refl 0) (Nat.le_refl 0) (Q_isIn_1 (d := d - 1) (x := x5) (a := 0) (b := 1) rfl (by decide) (by decide) c33 c36) (fun r37 μ38 hZ1 => ?_)
                      obtain ⟨rfl, e9⟩ := hZ1
                      replace e9 := e9.symm
                      subst e9
                      refine r_if_ne g 53 dX12_hop_48 (by decide) (fun hz => absurd hz (by decide)) (fun _ => ?_)
                      refine r_iconst g (-1) dX12_hop_51 (by decide) ?_
                      exact hr.2.1 _ rfl _ _ _ _ _ _ dX12_hop_52 rfl (Nat.le_refl 0) (Nat.le_refl 0) h
                    · replace h := h.2 c36
                      refine r_callS (st := []) (As := [.long x5.toInt64, .long 0, .long 1]) g sX12_161 iX12_isIn rfl (Nat.le_of_ble_eq_true rfl) dX12_hop_45 (by omega) (Nat.le_refl 0) (Nat.le_refl 0) (Q_isIn_2 (d := d - 1) (x := x5) (a := 0) (b := 1) rfl (by decide) (by decide) c33 c36) (fun r39 μ40 hZ1 => ?_)
                      obtain ⟨rfl, e9⟩ := hZ1
                      replace e9 := e9.symm
                      subst e9
                      refine r_if_ne g 53 dX12_hop_48 (by decide) (fun _ => ?_) (fun hz => absurd hz (by decide))
                      refine r_aload_n g dX12_hop_53 rfl ?_
                      refine r_aload_n g dX12_hop_54 rfl ?_
                      refine r_getR g fX12_57 rfl hs_a0 hr_a0_now dX12_hop_55 ?_
                      refine r_bipush g 30 dX12_hop_58 (by decide) ?_
                      obtain ⟨hi41, h⟩ := h
                      refine r_iaload g hs_a0_now hi41 dX12_hop_60 ?_
                      refine r_putI g fX12_277 rfl hs_a0 rfl rfl dX12_hop_61 ?_
                      refine r_aload_n g dX12_hop_64 rfl ?_
                      refine r_aload_n g dX12_hop_65 rfl ?_
                      refine r_getR g fX12_57 rfl hs_a0 hr_a0_now dX12_hop_66 ?_
                      refine r_iload_n g dX12_hop_69 rfl ?_
                      refine r_iload_n g dX12_hop_70 rfl ?_
                      refine r_iload_n g dX12_hop_71 rfl ?_
                      obtain ⟨d1, Z1, hc1, hd1, h1⟩ := h
                      refine r_callV (st := []) (As := [.ref a0_now, .int x1, .int x2, .int x3]) g sX12_309 iX12_hopOf eX12_hopOf rfl hs_a0 rfl (Nat.le_of_ble_eq_true rfl) dX12_hop_72 hd1 (Nat.le_refl 0) (Nat.le_refl 0) hc1 (fun r42 μ43 hZ1 => ?_)
                      replace h := h1 _ _ hZ1
                      clear h1 hc1 hd1 hZ1 Z1 d1
                      obtain ⟨y44, rfl, h⟩ := h
                      refine r_istore g [(6, .int y44), (0, .ref a0), (1, .int x1), (2, .int x2), (3, .int x3), (4, .int x4), (5, .int x5)] dX12_hop_75 (by decide) rfl ?_
                      refine r_iload g dX12_hop_77 rfl ?_
                      refine r_iconst g (-1) dX12_hop_79 (by decide) ?_
                      refine r_icmp_ne g 85 dX12_hop_80 (by decide) (fun c45 => ?_) (fun c45 => ?_)
                      · replace h := h.1 c45
                        refine r_aload_n g dX12_hop_85 rfl ?_
                        refine r_aload_n g dX12_hop_86 rfl ?_
                        obtain ⟨hs_a0_, h⟩ := h
                        obtain ⟨now_46, hr_now_46, h⟩ := h
                        refine r_getR g fX12_57 rfl hs_a0_ hr_now_46 dX12_hop_87 ?_
                        refine r_iload_n g dX12_hop_90 rfl ?_
                        refine r_iload_n g dX12_hop_91 rfl ?_
                        refine r_iload_n g dX12_hop_92 rfl ?_
                        refine r_iload g dX12_hop_93 rfl ?_
                        refine r_iload g dX12_hop_95 rfl ?_
                        obtain ⟨d1, Z1, hc1, hd1, h1⟩ := h
                        refine r_callV (st := []) (As := [.ref now_46, .int x1, .int x2, .int x3, .int x4, .int y44]) g sX12_312 iX12_laysHop eX12_laysHop rfl hs_a0_ rfl (Nat.le_of_ble_eq_true rfl) dX12_hop_97 hd1 (Nat.le_refl 0) (Nat.le_refl 0) hc1 (fun r47 μ48 hZ1 => ?_)
                        replace h := h1 _ _ hZ1
                        clear h1 hc1 hd1 hZ1 Z1 d1
                        obtain ⟨rfl, h⟩ := h
                        refine r_iload g dX12_hop_100 rfl ?_
                        refine r_if_ne g 112 dX12_hop_102 (by decide) (fun c49 => ?_) (fun c49 => ?_)
                        · replace h := h.1 c49
                          refine r_aload_n g dX12_hop_112 rfl ?_
                          obtain ⟨hs_a0__, h⟩ := h
                          refine r_getI g fX12_291 rfl hs_a0__ dX12_hop_113 ?_
                          exact hr.2.1 _ rfl _ _ _ _ _ _ dX12_hop_116 rfl (Nat.le_refl 0) (Nat.le_refl 0) h
                        · replace h := h.2 c49
                          refine r_aload_n g dX12_hop_105 rfl ?_
                          obtain ⟨hs_a0___, h⟩ := h
                          refine r_getI g fX12_294 rfl hs_a0___ dX12_hop_106 ?_
                          refine r_goto g 116 dX12_hop_109 (by decide) ?_
                          exact hr.2.1 _ rfl _ _ _ _ _ _ dX12_hop_116 rfl (Nat.le_refl 0) (Nat.le_refl 0) h
                      · replace h := h.2 c45
                        refine r_iconst g (-1) dX12_hop_83 (by decide) ?_
                        exact hr.2.1 _ rfl _ _ _ _ _ _ dX12_hop_84 rfl (Nat.le_refl 0) (Nat.le_refl 0) h
theorem I_X12_hop {d : Nat} {ro : Nat → Nat} {Z : Option Value → Hp → Prop} {μ : Hp} {a0 : Nat} {x1 : Int32} {x2 : Int32} {x3 : Int32} {x4 : Int32} {x5 : Int32} (h : ∀ J, xCtx RX12 cX12_hop 7 d 0 0 yX12_hop.name ro J → xRet cX12_hop (some .int) 0 0 Z J → J μ 0 0 0 [(0, .ref a0), (1, .int x1), (2, .int x2), (3, .int x3), (4, .int x4), (5, .int x5)] []) : xC d yX12_hop cX12_hop 7 (some .int) 0 0 [.ref a0, .int x1, .int x2, .int x3, .int x4, .int x5] μ ro Z :=
  xC_intro (own := RX12) (lv := [(0, .ref a0), (1, .int x1), (2, .int x2), (3, .int x3), (4, .int x4), (5, .int x5)]) (by decide) rfl (Nat.le_of_ble_eq_true rfl) rfl (fun J g hr => r_sub g (lv' := [(0, .ref a0), (1, .int x1), (2, .int x2), (3, .int x3), (4, .int x4), (5, .int x5)]) (⟨rfl, rfl, rfl, rfl, rfl, rfl, trivial⟩) (h J g hr))
theorem dX12_best_0 : decode cX12_best 0 = .ok (.aload_n 0, 1) := by decide +kernel
theorem dX12_best_1 : decode cX12_best 1 = .ok (.iconst 0, 1) := by decide +kernel
theorem dX12_best_2 : decode cX12_best 2 = .ok (.putfield 106, 3) := by decide +kernel
theorem dX12_best_5 : decode cX12_best 5 = .ok (.iload 5, 2) := by decide +kernel
theorem dX12_best_7 : decode cX12_best 7 = .ok (.i2l, 1) := by decide +kernel
theorem dX12_best_8 : decode cX12_best 8 = .ok (.lconst 0, 1) := by decide +kernel
theorem dX12_best_9 : decode cX12_best 9 = .ok (.ldc2_w 297, 3) := by decide +kernel
theorem dX12_best_12 : decode cX12_best 12 = .ok (.invokestatic 161, 3) := by decide +kernel
theorem dX12_best_15 : decode cX12_best 15 = .ok (.ifCond .eq 15, 3) := by decide +kernel
theorem dX12_best_18 : decode cX12_best 18 = .ok (.aload_n 0, 1) := by decide +kernel
theorem dX12_best_19 : decode cX12_best 19 = .ok (.iload_n 1, 1) := by decide +kernel
theorem dX12_best_20 : decode cX12_best 20 = .ok (.iload_n 2, 1) := by decide +kernel
theorem dX12_best_21 : decode cX12_best 21 = .ok (.iload_n 3, 1) := by decide +kernel
theorem dX12_best_22 : decode cX12_best 22 = .ok (.iload 4, 2) := by decide +kernel
theorem dX12_best_24 : decode cX12_best 24 = .ok (.invokevirtual 470, 3) := by decide +kernel
theorem dX12_best_27 : decode cX12_best 27 = .ok (.ifCond .ne 5, 3) := by decide +kernel
theorem dX12_best_30 : decode cX12_best 30 = .ok (.iconst (-1), 1) := by decide +kernel
theorem dX12_best_31 : decode cX12_best 31 = .ok (.ireturn, 1) := by decide +kernel
theorem dX12_best_32 : decode cX12_best 32 = .ok (.iload 5, 2) := by decide +kernel
theorem dX12_best_34 : decode cX12_best 34 = .ok (.ifCond .ne 10, 3) := by decide +kernel
theorem dX12_best_37 : decode cX12_best 37 = .ok (.aload_n 0, 1) := by decide +kernel
theorem dX12_best_38 : decode cX12_best 38 = .ok (.getfield 321, 3) := by decide +kernel
theorem dX12_best_41 : decode cX12_best 41 = .ok (.goto 33, 3) := by decide +kernel
theorem dX12_best_44 : decode cX12_best 44 = .ok (.iload 5, 2) := by decide +kernel
theorem dX12_best_46 : decode cX12_best 46 = .ok (.iconst 1, 1) := by decide +kernel
theorem dX12_best_47 : decode cX12_best 47 = .ok (.if_icmp .ne 10, 3) := by decide +kernel
theorem dX12_best_50 : decode cX12_best 50 = .ok (.aload_n 0, 1) := by decide +kernel
theorem dX12_best_51 : decode cX12_best 51 = .ok (.getfield 306, 3) := by decide +kernel
theorem dX12_best_54 : decode cX12_best 54 = .ok (.goto 20, 3) := by decide +kernel
theorem dX12_best_57 : decode cX12_best 57 = .ok (.iload 5, 2) := by decide +kernel
theorem dX12_best_59 : decode cX12_best 59 = .ok (.iconst 2, 1) := by decide +kernel
theorem dX12_best_60 : decode cX12_best 60 = .ok (.if_icmp .ne 10, 3) := by decide +kernel
theorem dX12_best_63 : decode cX12_best 63 = .ok (.aload_n 0, 1) := by decide +kernel
theorem dX12_best_64 : decode cX12_best 64 = .ok (.getfield 300, 3) := by decide +kernel
theorem dX12_best_67 : decode cX12_best 67 = .ok (.goto 7, 3) := by decide +kernel
theorem dX12_best_70 : decode cX12_best 70 = .ok (.aload_n 0, 1) := by decide +kernel
theorem dX12_best_71 : decode cX12_best 71 = .ok (.getfield 303, 3) := by decide +kernel
theorem dX12_best_74 : decode cX12_best 74 = .ok (.ireturn, 1) := by decide +kernel
set_option maxHeartbeats 4000000 in
set_option maxRecDepth 100000 in
theorem B_X12_best_0 {d : Nat} {ro : Nat → Nat} {J : JT} {Z : Option Value → Hp → Prop} (g : xCtx RX12 cX12_best 6 d 0 0 yX12_best.name ro J) (hr : xRet cX12_best (some .int) 0 0 Z J) {μ : Hp} {a0 : Nat} {x1 : Int32} {x2 : Int32} {x3 : Int32} {x4 : Int32} {x5 : Int32} (hs_a0 : hS μ a0 = some (15, 65)) (hd9 : 1 ≤ d)
    (h : ((x5 < 0 → Z (some (.int (-1))) (wI μ a0 0 0)) ∧ (¬ x5 < 0 → ((3 < x5 → Z (some (.int (-1))) (wI μ a0 0 0)) ∧ (¬ 3 < x5 → xCall d yX12_finds cX12_finds 5 (some .boolean) [.ref a0, .int x1, .int x2, .int x3, .int x4] (wI μ a0 0 0) ro (fun r9 μ10 => ∃ y11 : Int32, r9 = some (.int y11) ∧ ((¬ y11 = 0 → ((¬ x5 = 0 → ((¬ x5 = 1 → ((¬ x5 = 2 → hS μ10 a0 = some (15, 65) ∧ Z (some (.int (hI μ10 a0 53))) μ10) ∧ (x5 = 2 → hS μ10 a0 = some (15, 65) ∧ Z (some (.int (hI μ10 a0 52))) μ10))) ∧ (x5 = 1 → hS μ10 a0 = some (15, 65) ∧ Z (some (.int (hI μ10 a0 50))) μ10))) ∧ (x5 = 0 → hS μ10 a0 = some (15, 65) ∧ Z (some (.int (hI μ10 a0 51))) μ10))) ∧ (y11 = 0 → Z (some (.int (-1))) μ10)))))))) :
    J μ 0 0 0 [(0, .ref a0), (1, .int x1), (2, .int x2), (3, .int x3), (4, .int x4), (5, .int x5)] [] := by
  refine r_aload_n g dX12_best_0 rfl ?_
  refine r_iconst g 0 dX12_best_1 (by decide) ?_
  refine r_putI g fX12_106 rfl hs_a0 rfl rfl dX12_best_2 ?_
  refine r_iload g dX12_best_5 rfl ?_
  refine r_i2l g dX12_best_7 ?_
  refine r_lconst g 0 dX12_best_8 (by decide) ?_
  refine r_ldc2 g 3 kX12_297 dX12_best_9 ?_
  by_cases c1 : x5 < 0
  · replace h := h.1 c1
    refine r_callS (st := []) (As := [.long x5.toInt64, .long 0, .long 3]) g sX12_161 iX12_isIn rfl (Nat.le_of_ble_eq_true rfl) dX12_best_12 (by omega) (Nat.le_refl 0) (Nat.le_refl 0) (Q_isIn_0 (d := d - 1) (x := x5) (a := 0) (b := 3) rfl (by decide) (by decide) c1) (fun r2 μ3 hZ1 => ?_)
    obtain ⟨rfl, e9⟩ := hZ1
    replace e9 := e9.symm
    subst e9
    refine r_if_eq g 30 dX12_best_15 (by decide) (fun _ => ?_) (fun hz => absurd hz (by decide))
    refine r_iconst g (-1) dX12_best_30 (by decide) ?_
    exact hr.2.1 _ rfl _ _ _ _ _ _ dX12_best_31 rfl (Nat.le_refl 0) (Nat.le_refl 0) h
  · replace h := h.2 c1
    by_cases c4 : 3 < x5
    · replace h := h.1 c4
      refine r_callS (st := []) (As := [.long x5.toInt64, .long 0, .long 3]) g sX12_161 iX12_isIn rfl (Nat.le_of_ble_eq_true rfl) dX12_best_12 (by omega) (Nat.le_refl 0) (Nat.le_refl 0) (Q_isIn_1 (d := d - 1) (x := x5) (a := 0) (b := 3) rfl (by decide) (by decide) c1 c4) (fun r5 μ6 hZ1 => ?_)
      obtain ⟨rfl, e9⟩ := hZ1
      replace e9 := e9.symm
      subst e9
      refine r_if_eq g 30 dX12_best_15 (by decide) (fun _ => ?_) (fun hz => absurd hz (by decide))
      refine r_iconst g (-1) dX12_best_30 (by decide) ?_
      exact hr.2.1 _ rfl _ _ _ _ _ _ dX12_best_31 rfl (Nat.le_refl 0) (Nat.le_refl 0) h
    · replace h := h.2 c4
      refine r_callS (st := []) (As := [.long x5.toInt64, .long 0, .long 3]) g sX12_161 iX12_isIn rfl (Nat.le_of_ble_eq_true rfl) dX12_best_12 (by omega) (Nat.le_refl 0) (Nat.le_refl 0) (Q_isIn_2 (d := d - 1) (x := x5) (a := 0) (b := 3) rfl (by decide) (by decide) c1 c4) (fun r7 μ8 hZ1 => ?_)
      obtain ⟨rfl, e9⟩ := hZ1
      replace e9 := e9.symm
      subst e9
      refine r_if_eq g 30 dX12_best_15 (by decide) (fun hz => absurd hz (by decide)) (fun _ => ?_)
      refine r_aload_n g dX12_best_18 rfl ?_
      refine r_iload_n g dX12_best_19 rfl ?_
      refine r_iload_n g dX12_best_20 rfl ?_
      refine r_iload_n g dX12_best_21 rfl ?_
      refine r_iload g dX12_best_22 rfl ?_
      obtain ⟨d1, Z1, hc1, hd1, h1⟩ := h
      refine r_callV (st := []) (As := [.int x1, .int x2, .int x3, .int x4]) g sX12_470 iX12_finds eX12_finds rfl hs_a0 rfl (Nat.le_of_ble_eq_true rfl) dX12_best_24 hd1 (Nat.le_refl 0) (Nat.le_refl 0) hc1 (fun r9 μ10 hZ1 => ?_)
      replace h := h1 _ _ hZ1
      clear h1 hc1 hd1 hZ1 Z1 d1
      obtain ⟨y11, rfl, h⟩ := h
      refine r_if_ne g 32 dX12_best_27 (by decide) (fun c12 => ?_) (fun c12 => ?_)
      · replace h := h.1 c12
        refine r_iload g dX12_best_32 rfl ?_
        refine r_if_ne g 44 dX12_best_34 (by decide) (fun c13 => ?_) (fun c13 => ?_)
        · replace h := h.1 c13
          refine r_iload g dX12_best_44 rfl ?_
          refine r_iconst g 1 dX12_best_46 (by decide) ?_
          refine r_icmp_ne g 57 dX12_best_47 (by decide) (fun c14 => ?_) (fun c14 => ?_)
          · replace h := h.1 c14
            refine r_iload g dX12_best_57 rfl ?_
            refine r_iconst g 2 dX12_best_59 (by decide) ?_
            refine r_icmp_ne g 70 dX12_best_60 (by decide) (fun c15 => ?_) (fun c15 => ?_)
            · replace h := h.1 c15
              refine r_aload_n g dX12_best_70 rfl ?_
              obtain ⟨hs_a0_, h⟩ := h
              refine r_getI g fX12_303 rfl hs_a0_ dX12_best_71 ?_
              exact hr.2.1 _ rfl _ _ _ _ _ _ dX12_best_74 rfl (Nat.le_refl 0) (Nat.le_refl 0) h
            · replace h := h.2 c15
              refine r_aload_n g dX12_best_63 rfl ?_
              obtain ⟨hs_a0__, h⟩ := h
              refine r_getI g fX12_300 rfl hs_a0__ dX12_best_64 ?_
              refine r_goto g 74 dX12_best_67 (by decide) ?_
              exact hr.2.1 _ rfl _ _ _ _ _ _ dX12_best_74 rfl (Nat.le_refl 0) (Nat.le_refl 0) h
          · replace h := h.2 c14
            refine r_aload_n g dX12_best_50 rfl ?_
            obtain ⟨hs_a0___, h⟩ := h
            refine r_getI g fX12_306 rfl hs_a0___ dX12_best_51 ?_
            refine r_goto g 74 dX12_best_54 (by decide) ?_
            exact hr.2.1 _ rfl _ _ _ _ _ _ dX12_best_74 rfl (Nat.le_refl 0) (Nat.le_refl 0) h
        · replace h := h.2 c13
          refine r_aload_n g dX12_best_37 rfl ?_
          obtain ⟨hs_a0____, h⟩ := h
          refine r_getI g fX12_321 rfl hs_a0____ dX12_best_38 ?_
          refine r_goto g 74 dX12_best_41 (by decide) ?_
          exact hr.2.1 _ rfl _ _ _ _ _ _ dX12_best_74 rfl (Nat.le_refl 0) (Nat.le_refl 0) h
      · replace h := h.2 c12
        refine r_iconst g (-1) dX12_best_30 (by decide) ?_
        exact hr.2.1 _ rfl _ _ _ _ _ _ dX12_best_31 rfl (Nat.le_refl 0) (Nat.le_refl 0) h
theorem I_X12_best {d : Nat} {ro : Nat → Nat} {Z : Option Value → Hp → Prop} {μ : Hp} {a0 : Nat} {x1 : Int32} {x2 : Int32} {x3 : Int32} {x4 : Int32} {x5 : Int32} (h : ∀ J, xCtx RX12 cX12_best 6 d 0 0 yX12_best.name ro J → xRet cX12_best (some .int) 0 0 Z J → J μ 0 0 0 [(0, .ref a0), (1, .int x1), (2, .int x2), (3, .int x3), (4, .int x4), (5, .int x5)] []) : xC d yX12_best cX12_best 6 (some .int) 0 0 [.ref a0, .int x1, .int x2, .int x3, .int x4, .int x5] μ ro Z :=
  xC_intro (own := RX12) (lv := [(0, .ref a0), (1, .int x1), (2, .int x2), (3, .int x3), (4, .int x4), (5, .int x5)]) (by decide) rfl (Nat.le_of_ble_eq_true rfl) rfl (fun J g hr => r_sub g (lv' := [(0, .ref a0), (1, .int x1), (2, .int x2), (3, .int x3), (4, .int x4), (5, .int x5)]) (⟨rfl, rfl, rfl, rfl, rfl, rfl, trivial⟩) (h J g hr))
theorem dX12_stop_0 : decode cX12_stop 0 = .ok (.aload_n 0, 1) := by decide +kernel
theorem dX12_stop_1 : decode cX12_stop 1 = .ok (.iconst 0, 1) := by decide +kernel
theorem dX12_stop_2 : decode cX12_stop 2 = .ok (.putfield 106, 3) := by decide +kernel
theorem dX12_stop_5 : decode cX12_stop 5 = .ok (.iload 6, 2) := by decide +kernel
theorem dX12_stop_7 : decode cX12_stop 7 = .ok (.i2l, 1) := by decide +kernel
theorem dX12_stop_8 : decode cX12_stop 8 = .ok (.lconst 0, 1) := by decide +kernel
theorem dX12_stop_9 : decode cX12_stop 9 = .ok (.ldc2_w 452, 3) := by decide +kernel
theorem dX12_stop_12 : decode cX12_stop 12 = .ok (.invokestatic 161, 3) := by decide +kernel
theorem dX12_stop_15 : decode cX12_stop 15 = .ok (.ifCond .eq 32, 3) := by decide +kernel
theorem dX12_stop_18 : decode cX12_stop 18 = .ok (.aload_n 0, 1) := by decide +kernel
theorem dX12_stop_19 : decode cX12_stop 19 = .ok (.iload_n 1, 1) := by decide +kernel
theorem dX12_stop_20 : decode cX12_stop 20 = .ok (.iload_n 2, 1) := by decide +kernel
theorem dX12_stop_21 : decode cX12_stop 21 = .ok (.iload_n 3, 1) := by decide +kernel
theorem dX12_stop_22 : decode cX12_stop 22 = .ok (.iload 4, 2) := by decide +kernel
theorem dX12_stop_24 : decode cX12_stop 24 = .ok (.invokevirtual 470, 3) := by decide +kernel
theorem dX12_stop_27 : decode cX12_stop 27 = .ok (.ifCond .eq 20, 3) := by decide +kernel
theorem dX12_stop_30 : decode cX12_stop 30 = .ok (.iload 5, 2) := by decide +kernel
theorem dX12_stop_32 : decode cX12_stop 32 = .ok (.i2l, 1) := by decide +kernel
theorem dX12_stop_33 : decode cX12_stop 33 = .ok (.lconst 0, 1) := by decide +kernel
theorem dX12_stop_34 : decode cX12_stop 34 = .ok (.aload_n 0, 1) := by decide +kernel
theorem dX12_stop_35 : decode cX12_stop 35 = .ok (.getfield 306, 3) := by decide +kernel
theorem dX12_stop_38 : decode cX12_stop 38 = .ok (.iconst 1, 1) := by decide +kernel
theorem dX12_stop_39 : decode cX12_stop 39 = .ok (.isub, 1) := by decide +kernel
theorem dX12_stop_40 : decode cX12_stop 40 = .ok (.i2l, 1) := by decide +kernel
theorem dX12_stop_41 : decode cX12_stop 41 = .ok (.invokestatic 161, 3) := by decide +kernel
theorem dX12_stop_44 : decode cX12_stop 44 = .ok (.ifCond .ne 5, 3) := by decide +kernel
theorem dX12_stop_47 : decode cX12_stop 47 = .ok (.iconst (-1), 1) := by decide +kernel
theorem dX12_stop_48 : decode cX12_stop 48 = .ok (.ireturn, 1) := by decide +kernel
theorem dX12_stop_49 : decode cX12_stop 49 = .ok (.iload 6, 2) := by decide +kernel
theorem dX12_stop_51 : decode cX12_stop 51 = .ok (.tableswitch 63 0 3 #[29, 39, 47, 55], 29) := by decide +kernel
theorem dX12_stop_80 : decode cX12_stop 80 = .ok (.aload_n 0, 1) := by decide +kernel
theorem dX12_stop_81 : decode cX12_stop 81 = .ok (.getfield 79, 3) := by decide +kernel
theorem dX12_stop_84 : decode cX12_stop 84 = .ok (.iload 5, 2) := by decide +kernel
theorem dX12_stop_86 : decode cX12_stop 86 = .ok (.iconst 1, 1) := by decide +kernel
theorem dX12_stop_87 : decode cX12_stop 87 = .ok (.iadd, 1) := by decide +kernel
theorem dX12_stop_88 : decode cX12_stop 88 = .ok (.iaload, 1) := by decide +kernel
theorem dX12_stop_89 : decode cX12_stop 89 = .ok (.ireturn, 1) := by decide +kernel
theorem dX12_stop_90 : decode cX12_stop 90 = .ok (.aload_n 0, 1) := by decide +kernel
theorem dX12_stop_91 : decode cX12_stop 91 = .ok (.getfield 82, 3) := by decide +kernel
theorem dX12_stop_94 : decode cX12_stop 94 = .ok (.iload 5, 2) := by decide +kernel
theorem dX12_stop_96 : decode cX12_stop 96 = .ok (.iaload, 1) := by decide +kernel
theorem dX12_stop_97 : decode cX12_stop 97 = .ok (.ireturn, 1) := by decide +kernel
theorem dX12_stop_98 : decode cX12_stop 98 = .ok (.aload_n 0, 1) := by decide +kernel
theorem dX12_stop_99 : decode cX12_stop 99 = .ok (.getfield 85, 3) := by decide +kernel
theorem dX12_stop_102 : decode cX12_stop 102 = .ok (.iload 5, 2) := by decide +kernel
theorem dX12_stop_104 : decode cX12_stop 104 = .ok (.iaload, 1) := by decide +kernel
theorem dX12_stop_105 : decode cX12_stop 105 = .ok (.ireturn, 1) := by decide +kernel
theorem dX12_stop_106 : decode cX12_stop 106 = .ok (.aload_n 0, 1) := by decide +kernel
theorem dX12_stop_107 : decode cX12_stop 107 = .ok (.getfield 88, 3) := by decide +kernel
theorem dX12_stop_110 : decode cX12_stop 110 = .ok (.iload 5, 2) := by decide +kernel
theorem dX12_stop_112 : decode cX12_stop 112 = .ok (.iaload, 1) := by decide +kernel
theorem dX12_stop_113 : decode cX12_stop 113 = .ok (.ireturn, 1) := by decide +kernel
theorem dX12_stop_114 : decode cX12_stop 114 = .ok (.aload_n 0, 1) := by decide +kernel
theorem dX12_stop_115 : decode cX12_stop 115 = .ok (.getfield 91, 3) := by decide +kernel
theorem dX12_stop_118 : decode cX12_stop 118 = .ok (.iload 5, 2) := by decide +kernel
theorem dX12_stop_120 : decode cX12_stop 120 = .ok (.iaload, 1) := by decide +kernel
theorem dX12_stop_121 : decode cX12_stop 121 = .ok (.ireturn, 1) := by decide +kernel
set_option maxHeartbeats 4000000 in
set_option maxRecDepth 100000 in
theorem B_X12_stop_0 {d : Nat} {ro : Nat → Nat} {J : JT} {Z : Option Value → Hp → Prop} (g : xCtx RX12 cX12_stop 7 d 0 0 yX12_stop.name ro J) (hr : xRet cX12_stop (some .int) 0 0 Z J) {μ : Hp} {a0 : Nat} {x1 : Int32} {x2 : Int32} {x3 : Int32} {x4 : Int32} {x5 : Int32} {x6 : Int32} (hs_a0 : hS μ a0 = some (15, 65)) (hd9 : 1 ≤ d)
    (h : ((x6 < 0 → Z (some (.int (-1))) (wI μ a0 0 0)) ∧ (¬ x6 < 0 → ((4 < x6 → Z (some (.int (-1))) (wI μ a0 0 0)) ∧ (¬ 4 < x6 → xCall d yX12_finds cX12_finds 5 (some .boolean) [.ref a0, .int x1, .int x2, .int x3, .int x4] (wI μ a0 0 0) ro (fun r9 μ10 => ∃ y11 : Int32, r9 = some (.int y11) ∧ ((y11 = 0 → Z (some (.int (-1))) μ10) ∧ (¬ y11 = 0 → hS μ10 a0 = some (15, 65) ∧ ((x5 < 0 → Z (some (.int (-1))) μ10) ∧ (¬ x5 < 0 → ((((hI μ10 a0 50) - 1) < x5 → Z (some (.int (-1))) μ10) ∧ (¬ ((hI μ10 a0 50) - 1) < x5 → (((x6).toInt < 0 ∨ 3 < (x6).toInt → ∃ held_22 : Nat, hR μ10 a0 47 = some held_22 ∧ ∃ N23 : Nat, hS μ10 held_22 = some (0, N23) ∧ vp_in x5 N23 ∧ Z (some (.int (hI μ10 held_22 x5.toNatClampNeg))) μ10) ∧ (x6 = 0 → ∃ way_25 : Nat, hR μ10 a0 43 = some way_25 ∧ ∃ N26 : Nat, hS μ10 way_25 = some (0, N26) ∧ vp_in (x5 + 1) N26 ∧ Z (some (.int (hI μ10 way_25 ((x5 + 1).toNatClampNeg)))) μ10) ∧ (x6 = 1 → ∃ rates_28 : Nat, hR μ10 a0 44 = some rates_28 ∧ ∃ N29 : Nat, hS μ10 rates_28 = some (0, N29) ∧ vp_in x5 N29 ∧ Z (some (.int (hI μ10 rates_28 x5.toNatClampNeg))) μ10) ∧ (x6 = 2 → ∃ articles_31 : Nat, hR μ10 a0 45 = some articles_31 ∧ ∃ N32 : Nat, hS μ10 articles_31 = some (0, N32) ∧ vp_in x5 N32 ∧ Z (some (.int (hI μ10 articles_31 x5.toNatClampNeg))) μ10) ∧ (x6 = 3 → ∃ paid_34 : Nat, hR μ10 a0 46 = some paid_34 ∧ ∃ N35 : Nat, hS μ10 paid_34 = some (0, N35) ∧ vp_in x5 N35 ∧ Z (some (.int (hI μ10 paid_34 x5.toNatClampNeg))) μ10)))))))))))))) :
    J μ 0 0 0 [(0, .ref a0), (1, .int x1), (2, .int x2), (3, .int x3), (4, .int x4), (5, .int x5), (6, .int x6)] [] := by
  refine r_aload_n g dX12_stop_0 rfl ?_
  refine r_iconst g 0 dX12_stop_1 (by decide) ?_
  refine r_putI g fX12_106 rfl hs_a0 rfl rfl dX12_stop_2 ?_
  refine r_iload g dX12_stop_5 rfl ?_
  refine r_i2l g dX12_stop_7 ?_
  refine r_lconst g 0 dX12_stop_8 (by decide) ?_
  refine r_ldc2 g 4 kX12_452 dX12_stop_9 ?_
  by_cases c1 : x6 < 0
  · replace h := h.1 c1
    refine r_callS (st := []) (As := [.long x6.toInt64, .long 0, .long 4]) g sX12_161 iX12_isIn rfl (Nat.le_of_ble_eq_true rfl) dX12_stop_12 (by omega) (Nat.le_refl 0) (Nat.le_refl 0) (Q_isIn_0 (d := d - 1) (x := x6) (a := 0) (b := 4) rfl (by decide) (by decide) c1) (fun r2 μ3 hZ1 => ?_)
    obtain ⟨rfl, e9⟩ := hZ1
    replace e9 := e9.symm
    subst e9
    refine r_if_eq g 47 dX12_stop_15 (by decide) (fun _ => ?_) (fun hz => absurd hz (by decide))
    refine r_iconst g (-1) dX12_stop_47 (by decide) ?_
    exact hr.2.1 _ rfl _ _ _ _ _ _ dX12_stop_48 rfl (Nat.le_refl 0) (Nat.le_refl 0) h
  · replace h := h.2 c1
    by_cases c4 : 4 < x6
    · replace h := h.1 c4
      refine r_callS (st := []) (As := [.long x6.toInt64, .long 0, .long 4]) g sX12_161 iX12_isIn rfl (Nat.le_of_ble_eq_true rfl) dX12_stop_12 (by omega) (Nat.le_refl 0) (Nat.le_refl 0) (Q_isIn_1 (d := d - 1) (x := x6) (a := 0) (b := 4) rfl (by decide) (by decide) c1 c4) (fun r5 μ6 hZ1 => ?_)
      obtain ⟨rfl, e9⟩ := hZ1
      replace e9 := e9.symm
      subst e9
      refine r_if_eq g 47 dX12_stop_15 (by decide) (fun _ => ?_) (fun hz => absurd hz (by decide))
      refine r_iconst g (-1) dX12_stop_47 (by decide) ?_
      exact hr.2.1 _ rfl _ _ _ _ _ _ dX12_stop_48 rfl (Nat.le_refl 0) (Nat.le_refl 0) h
    · replace h := h.2 c4
      refine r_callS (st := []) (As := [.long x6.toInt64, .long 0, .long 4]) g sX12_161 iX12_isIn rfl (Nat.le_of_ble_eq_true rfl) dX12_stop_12 (by omega) (Nat.le_refl 0) (Nat.le_refl 0) (Q_isIn_2 (d := d - 1) (x := x6) (a := 0) (b := 4) rfl (by decide) (by decide) c1 c4) (fun r7 μ8 hZ1 => ?_)
      obtain ⟨rfl, e9⟩ := hZ1
      replace e9 := e9.symm
      subst e9
      refine r_if_eq g 47 dX12_stop_15 (by decide) (fun hz => absurd hz (by decide)) (fun _ => ?_)
      refine r_aload_n g dX12_stop_18 rfl ?_
      refine r_iload_n g dX12_stop_19 rfl ?_
      refine r_iload_n g dX12_stop_20 rfl ?_
      refine r_iload_n g dX12_stop_21 rfl ?_
      refine r_iload g dX12_stop_22 rfl ?_
      obtain ⟨d1, Z1, hc1, hd1, h1⟩ := h
      refine r_callV (st := []) (As := [.int x1, .int x2, .int x3, .int x4]) g sX12_470 iX12_finds eX12_finds rfl hs_a0 rfl (Nat.le_of_ble_eq_true rfl) dX12_stop_24 hd1 (Nat.le_refl 0) (Nat.le_refl 0) hc1 (fun r9 μ10 hZ1 => ?_)
      replace h := h1 _ _ hZ1
      clear h1 hc1 hd1 hZ1 Z1 d1
      obtain ⟨y11, rfl, h⟩ := h
      refine r_if_eq g 47 dX12_stop_27 (by decide) (fun c12 => ?_) (fun c12 => ?_)
      · replace h := h.1 c12
        refine r_iconst g (-1) dX12_stop_47 (by decide) ?_
        exact hr.2.1 _ rfl _ _ _ _ _ _ dX12_stop_48 rfl (Nat.le_refl 0) (Nat.le_refl 0) h
      · replace h := h.2 c12
        refine r_iload g dX12_stop_30 rfl ?_
        refine r_i2l g dX12_stop_32 ?_
        refine r_lconst g 0 dX12_stop_33 (by decide) ?_
        refine r_aload_n g dX12_stop_34 rfl ?_
        obtain ⟨hs_a0_, h⟩ := h
        refine r_getI g fX12_306 rfl hs_a0_ dX12_stop_35 ?_
        refine r_iconst g 1 dX12_stop_38 (by decide) ?_
        refine r_isub g dX12_stop_39 ?_
        refine r_i2l g dX12_stop_40 ?_
        by_cases c13 : x5 < 0
        · replace h := h.1 c13
          refine r_callS (st := []) (As := [.long x5.toInt64, .long 0, .long ((hI μ10 a0 50) - 1).toInt64]) g sX12_161 iX12_isIn rfl (Nat.le_of_ble_eq_true rfl) dX12_stop_41 (by omega) (Nat.le_refl 0) (Nat.le_refl 0) (Q_isIn_0 (d := d - 1) (x := x5) (a := 0) (b := ((hI μ10 a0 50) - 1)) rfl (by decide) rfl c13) (fun r14 μ15 hZ1 => ?_)
          obtain ⟨rfl, e9⟩ := hZ1
          replace e9 := e9.symm
          subst e9
          refine r_if_ne g 49 dX12_stop_44 (by decide) (fun hz => absurd hz (by decide)) (fun _ => ?_)
          refine r_iconst g (-1) dX12_stop_47 (by decide) ?_
          exact hr.2.1 _ rfl _ _ _ _ _ _ dX12_stop_48 rfl (Nat.le_refl 0) (Nat.le_refl 0) h
        · replace h := h.2 c13
          by_cases c16 : ((hI μ10 a0 50) - 1) < x5
          · replace h := h.1 c16
            refine r_callS (st := []) (As := [.long x5.toInt64, .long 0, .long ((hI μ10 a0 50) - 1).toInt64]) g sX12_161 iX12_isIn rfl (Nat.le_of_ble_eq_true rfl) dX12_stop_41 (by omega) (Nat.le_refl 0) (Nat.le_refl 0) (Q_isIn_1 (d := d - 1) (x := x5) (a := 0) (b := ((hI μ10 a0 50) - 1)) rfl (by decide) rfl c13 c16) (fun r17 μ18 hZ1 => ?_)
            obtain ⟨rfl, e9⟩ := hZ1
            replace e9 := e9.symm
            subst e9
            refine r_if_ne g 49 dX12_stop_44 (by decide) (fun hz => absurd hz (by decide)) (fun _ => ?_)
            refine r_iconst g (-1) dX12_stop_47 (by decide) ?_
            exact hr.2.1 _ rfl _ _ _ _ _ _ dX12_stop_48 rfl (Nat.le_refl 0) (Nat.le_refl 0) h
          · replace h := h.2 c16
            refine r_callS (st := []) (As := [.long x5.toInt64, .long 0, .long ((hI μ10 a0 50) - 1).toInt64]) g sX12_161 iX12_isIn rfl (Nat.le_of_ble_eq_true rfl) dX12_stop_41 (by omega) (Nat.le_refl 0) (Nat.le_refl 0) (Q_isIn_2 (d := d - 1) (x := x5) (a := 0) (b := ((hI μ10 a0 50) - 1)) rfl (by decide) rfl c13 c16) (fun r19 μ20 hZ1 => ?_)
            obtain ⟨rfl, e9⟩ := hZ1
            replace e9 := e9.symm
            subst e9
            refine r_if_ne g 49 dX12_stop_44 (by decide) (fun _ => ?_) (fun hz => absurd hz (by decide))
            refine r_iload g dX12_stop_49 rfl ?_
            rcases sw_cases (x := x6) 0 3 (by decide) (by decide) with c21 | ⟨z, hz1, hz2, c21⟩
            · refine r_tableOut g 114 dX12_stop_51 c21 (by decide) ?_
              replace h := h.1 c21
              refine r_aload_n g dX12_stop_114 rfl ?_
              obtain ⟨held_22, hr_held_22, h⟩ := h
              refine r_getR g fX12_91 rfl hs_a0_ hr_held_22 dX12_stop_115 ?_
              refine r_iload g dX12_stop_118 rfl ?_
              obtain ⟨N23, hs_held_22, h⟩ := h
              obtain ⟨hi24, h⟩ := h
              refine r_iaload g hs_held_22 hi24 dX12_stop_120 ?_
              exact hr.2.1 _ rfl _ _ _ _ _ _ dX12_stop_121 rfl (Nat.le_refl 0) (Nat.le_refl 0) h
            · have hz : z = 0 ∨ z = 1 ∨ z = 2 ∨ z = 3 := by omega
              rcases hz with rfl | rfl | rfl | rfl
              · refine r_tableIn g 80 dX12_stop_51 (by rw [c21]; decide) (by rw [c21]; decide) (off := 29) (by rw [c21]; decide) (by decide) ?_
                replace h := h.2.1 c21
                refine r_aload_n g dX12_stop_80 rfl ?_
                obtain ⟨way_25, hr_way_25, h⟩ := h
                refine r_getR g fX12_79 rfl hs_a0_ hr_way_25 dX12_stop_81 ?_
                refine r_iload g dX12_stop_84 rfl ?_
                refine r_iconst g 1 dX12_stop_86 (by decide) ?_
                refine r_iadd g dX12_stop_87 ?_
                obtain ⟨N26, hs_way_25, h⟩ := h
                obtain ⟨hi27, h⟩ := h
                refine r_iaload g hs_way_25 hi27 dX12_stop_88 ?_
                exact hr.2.1 _ rfl _ _ _ _ _ _ dX12_stop_89 rfl (Nat.le_refl 0) (Nat.le_refl 0) h
              · refine r_tableIn g 90 dX12_stop_51 (by rw [c21]; decide) (by rw [c21]; decide) (off := 39) (by rw [c21]; decide) (by decide) ?_
                replace h := h.2.2.1 c21
                refine r_aload_n g dX12_stop_90 rfl ?_
                obtain ⟨rates_28, hr_rates_28, h⟩ := h
                refine r_getR g fX12_82 rfl hs_a0_ hr_rates_28 dX12_stop_91 ?_
                refine r_iload g dX12_stop_94 rfl ?_
                obtain ⟨N29, hs_rates_28, h⟩ := h
                obtain ⟨hi30, h⟩ := h
                refine r_iaload g hs_rates_28 hi30 dX12_stop_96 ?_
                exact hr.2.1 _ rfl _ _ _ _ _ _ dX12_stop_97 rfl (Nat.le_refl 0) (Nat.le_refl 0) h
              · refine r_tableIn g 98 dX12_stop_51 (by rw [c21]; decide) (by rw [c21]; decide) (off := 47) (by rw [c21]; decide) (by decide) ?_
                replace h := h.2.2.2.1 c21
                refine r_aload_n g dX12_stop_98 rfl ?_
                obtain ⟨articles_31, hr_articles_31, h⟩ := h
                refine r_getR g fX12_85 rfl hs_a0_ hr_articles_31 dX12_stop_99 ?_
                refine r_iload g dX12_stop_102 rfl ?_
                obtain ⟨N32, hs_articles_31, h⟩ := h
                obtain ⟨hi33, h⟩ := h
                refine r_iaload g hs_articles_31 hi33 dX12_stop_104 ?_
                exact hr.2.1 _ rfl _ _ _ _ _ _ dX12_stop_105 rfl (Nat.le_refl 0) (Nat.le_refl 0) h
              · refine r_tableIn g 106 dX12_stop_51 (by rw [c21]; decide) (by rw [c21]; decide) (off := 55) (by rw [c21]; decide) (by decide) ?_
                replace h := h.2.2.2.2 c21
                refine r_aload_n g dX12_stop_106 rfl ?_
                obtain ⟨paid_34, hr_paid_34, h⟩ := h
                refine r_getR g fX12_88 rfl hs_a0_ hr_paid_34 dX12_stop_107 ?_
                refine r_iload g dX12_stop_110 rfl ?_
                obtain ⟨N35, hs_paid_34, h⟩ := h
                obtain ⟨hi36, h⟩ := h
                refine r_iaload g hs_paid_34 hi36 dX12_stop_112 ?_
                exact hr.2.1 _ rfl _ _ _ _ _ _ dX12_stop_113 rfl (Nat.le_refl 0) (Nat.le_refl 0) h
theorem I_X12_stop {d : Nat} {ro : Nat → Nat} {Z : Option Value → Hp → Prop} {μ : Hp} {a0 : Nat} {x1 : Int32} {x2 : Int32} {x3 : Int32} {x4 : Int32} {x5 : Int32} {x6 : Int32} (h : ∀ J, xCtx RX12 cX12_stop 7 d 0 0 yX12_stop.name ro J → xRet cX12_stop (some .int) 0 0 Z J → J μ 0 0 0 [(0, .ref a0), (1, .int x1), (2, .int x2), (3, .int x3), (4, .int x4), (5, .int x5), (6, .int x6)] []) : xC d yX12_stop cX12_stop 7 (some .int) 0 0 [.ref a0, .int x1, .int x2, .int x3, .int x4, .int x5, .int x6] μ ro Z :=
  xC_intro (own := RX12) (lv := [(0, .ref a0), (1, .int x1), (2, .int x2), (3, .int x3), (4, .int x4), (5, .int x5), (6, .int x6)]) (by decide) rfl (Nat.le_of_ble_eq_true rfl) rfl (fun J g hr => r_sub g (lv' := [(0, .ref a0), (1, .int x1), (2, .int x2), (3, .int x3), (4, .int x4), (5, .int x5), (6, .int x6)]) (⟨rfl, rfl, rfl, rfl, rfl, rfl, rfl, trivial⟩) (h J g hr))
