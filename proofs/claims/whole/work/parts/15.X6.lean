theorem dX6_bytesIn_0 : decode cX6_bytesIn 0 = .ok (.iconst 0, 1) := by decide +kernel
theorem dX6_bytesIn_1 : decode cX6_bytesIn 1 = .ok (.istore_n 1, 1) := by decide +kernel
theorem dX6_bytesIn_2 : decode cX6_bytesIn 2 = .ok (.iconst 0, 1) := by decide +kernel
theorem dX6_bytesIn_3 : decode cX6_bytesIn 3 = .ok (.istore_n 2, 1) := by decide +kernel
theorem dX6_bytesIn_4 : decode cX6_bytesIn 4 = .ok (.iload_n 2, 1) := by decide +kernel
theorem dX6_bytesIn_5 : decode cX6_bytesIn 5 = .ok (.bipush 32, 2) := by decide +kernel
theorem dX6_bytesIn_7 : decode cX6_bytesIn 7 = .ok (.if_icmp .ge 27, 3) := by decide +kernel
theorem dX6_bytesIn_10 : decode cX6_bytesIn 10 = .ok (.iload_n 1, 1) := by decide +kernel
theorem dX6_bytesIn_11 : decode cX6_bytesIn 11 = .ok (.iload_n 0, 1) := by decide +kernel
theorem dX6_bytesIn_12 : decode cX6_bytesIn 12 = .ok (.iload_n 2, 1) := by decide +kernel
theorem dX6_bytesIn_13 : decode cX6_bytesIn 13 = .ok (.iushr, 1) := by decide +kernel
theorem dX6_bytesIn_14 : decode cX6_bytesIn 14 = .ok (.sipush 255, 3) := by decide +kernel
theorem dX6_bytesIn_17 : decode cX6_bytesIn 17 = .ok (.iand, 1) := by decide +kernel
theorem dX6_bytesIn_18 : decode cX6_bytesIn 18 = .ok (.ifCond .ne 7, 3) := by decide +kernel
theorem dX6_bytesIn_21 : decode cX6_bytesIn 21 = .ok (.iconst 0, 1) := by decide +kernel
theorem dX6_bytesIn_22 : decode cX6_bytesIn 22 = .ok (.goto 4, 3) := by decide +kernel
theorem dX6_bytesIn_25 : decode cX6_bytesIn 25 = .ok (.iconst 1, 1) := by decide +kernel
theorem dX6_bytesIn_26 : decode cX6_bytesIn 26 = .ok (.iadd, 1) := by decide +kernel
theorem dX6_bytesIn_27 : decode cX6_bytesIn 27 = .ok (.istore_n 1, 1) := by decide +kernel
theorem dX6_bytesIn_28 : decode cX6_bytesIn 28 = .ok (.iinc 2 8, 3) := by decide +kernel
theorem dX6_bytesIn_31 : decode cX6_bytesIn 31 = .ok (.goto (-27), 3) := by decide +kernel
theorem dX6_bytesIn_34 : decode cX6_bytesIn 34 = .ok (.iload_n 1, 1) := by decide +kernel
theorem dX6_bytesIn_35 : decode cX6_bytesIn 35 = .ok (.ireturn, 1) := by decide +kernel
set_option maxHeartbeats 4000000 in
set_option maxRecDepth 100000 in
theorem B_X6_bytesIn_0 {d : Nat} {ro : Nat → Nat} {J : JT} {Z : Option Value → Hp → Prop} (g : xCtx RX6 cX6_bytesIn 3 d 0 0 yX6_bytesIn.name ro J) (hr : xRet cX6_bytesIn (some .int) 0 0 Z J) {μ : Hp} {x0 : Int32} 
    (h : J μ 0 0 4 [(0, .int x0), (1, .int 0), (2, .int 0)] []) :
    J μ 0 0 0 [(0, .int x0)] [] := by
  refine r_iconst g 0 dX6_bytesIn_0 (by decide) ?_
  refine r_istore_n g [(1, .int 0), (0, .int x0)] dX6_bytesIn_1 (by decide) rfl ?_
  refine r_iconst g 0 dX6_bytesIn_2 (by decide) ?_
  refine r_istore_n g [(2, .int 0), (1, .int 0), (0, .int x0)] dX6_bytesIn_3 (by decide) rfl ?_
  refine r_sub g (lv' := [(0, .int x0), (1, .int 0), (2, .int 0)]) (⟨rfl, rfl, rfl, trivial⟩) ?_
  exact h
set_option maxHeartbeats 4000000 in
set_option maxRecDepth 100000 in
theorem B_X6_bytesIn_4 {d : Nat} {ro : Nat → Nat} {J : JT} {Z : Option Value → Hp → Prop} (g : xCtx RX6 cX6_bytesIn 3 d 0 0 yX6_bytesIn.name ro J) (hr : xRet cX6_bytesIn (some .int) 0 0 Z J) {μ : Hp} {x0 : Int32} {x1 : Int32} {x2 : Int32} 
    (h : ((32 ≤ x2 → Z (some (.int x1)) μ) ∧ (¬ 32 ≤ x2 → (∀ v2 : Int32, v2 = ((x0).toUInt32 >>> ((x2 : Int32).toUInt32 &&& Int32.toUInt32 31)).toInt32 → ((¬ (v2 &&& 255) = 0 → J μ 0 0 4 [(0, .int x0), (1, .int (x1 + 1)), (2, .int (x2 + 8))] []) ∧ ((v2 &&& 255) = 0 → J μ 0 0 4 [(0, .int x0), (1, .int (x1 + 0)), (2, .int (x2 + 8))] [])))))) :
    J μ 0 0 4 [(0, .int x0), (1, .int x1), (2, .int x2)] [] := by
  refine r_iload_n g dX6_bytesIn_4 rfl ?_
  refine r_bipush g 32 dX6_bytesIn_5 (by decide) ?_
  refine r_icmp_ge g 34 dX6_bytesIn_7 (by decide) (fun c1 => ?_) (fun c1 => ?_)
  · replace h := h.1 c1
    refine r_iload_n g dX6_bytesIn_34 rfl ?_
    exact hr.2.1 _ rfl _ _ _ _ _ _ dX6_bytesIn_35 rfl (Nat.le_refl 0) (Nat.le_refl 0) h
  · replace h := h.2 c1
    refine r_iload_n g dX6_bytesIn_10 rfl ?_
    refine r_iload_n g dX6_bytesIn_11 rfl ?_
    refine r_iload_n g dX6_bytesIn_12 rfl ?_
    refine r_iushr g dX6_bytesIn_13 ?_
    refine r_nmI (fun v2 ev2 => ?_)
    replace h := h v2 ev2
    refine r_sipush g 255 dX6_bytesIn_14 (by decide) ?_
    refine r_iand g dX6_bytesIn_17 ?_
    refine r_if_ne g 25 dX6_bytesIn_18 (by decide) (fun c3 => ?_) (fun c3 => ?_)
    · replace h := h.1 c3
      refine r_iconst g 1 dX6_bytesIn_25 (by decide) ?_
      refine r_iadd g dX6_bytesIn_26 ?_
      refine r_istore_n g [(1, .int (x1 + 1)), (0, .int x0), (2, .int x2)] dX6_bytesIn_27 (by decide) rfl ?_
      refine r_iinc g (x2 + 8) [(2, .int (x2 + 8)), (1, .int (x1 + 1)), (0, .int x0)] dX6_bytesIn_28 rfl rfl (by decide) rfl ?_
      refine r_goto g 4 dX6_bytesIn_31 (by decide) ?_
      refine r_sub g (lv' := [(0, .int x0), (1, .int (x1 + 1)), (2, .int (x2 + 8))]) (⟨rfl, rfl, rfl, trivial⟩) ?_
      exact h
    · replace h := h.2 c3
      refine r_iconst g 0 dX6_bytesIn_21 (by decide) ?_
      refine r_goto g 26 dX6_bytesIn_22 (by decide) ?_
      refine r_iadd g dX6_bytesIn_26 ?_
      refine r_istore_n g [(1, .int (x1 + 0)), (0, .int x0), (2, .int x2)] dX6_bytesIn_27 (by decide) rfl ?_
      refine r_iinc g (x2 + 8) [(2, .int (x2 + 8)), (1, .int (x1 + 0)), (0, .int x0)] dX6_bytesIn_28 rfl rfl (by decide) rfl ?_
      refine r_goto g 4 dX6_bytesIn_31 (by decide) ?_
      refine r_sub g (lv' := [(0, .int x0), (1, .int (x1 + 0)), (2, .int (x2 + 8))]) (⟨rfl, rfl, rfl, trivial⟩) ?_
      exact h
theorem I_X6_bytesIn {d : Nat} {ro : Nat → Nat} {Z : Option Value → Hp → Prop} {μ : Hp} {x0 : Int32} (h : ∀ J, xCtx RX6 cX6_bytesIn 3 d 0 0 yX6_bytesIn.name ro J → xRet cX6_bytesIn (some .int) 0 0 Z J → J μ 0 0 0 [(0, .int x0)] []) : xC d yX6_bytesIn cX6_bytesIn 3 (some .int) 0 0 [.int x0] μ ro Z :=
  xC_intro (own := RX6) (lv := [(0, .int x0)]) (by decide) rfl (Nat.le_of_ble_eq_true rfl) rfl (fun J g hr => r_sub g (lv' := [(0, .int x0)]) (⟨rfl, trivial⟩) (h J g hr))
theorem dX6_put_0 : decode cX6_put 0 = .ok (.bipush 24, 2) := by decide +kernel
theorem dX6_put_2 : decode cX6_put 2 = .ok (.istore_n 2, 1) := by decide +kernel
theorem dX6_put_3 : decode cX6_put 3 = .ok (.iload_n 2, 1) := by decide +kernel
theorem dX6_put_4 : decode cX6_put 4 = .ok (.ifCond .lt 51, 3) := by decide +kernel
theorem dX6_put_7 : decode cX6_put 7 = .ok (.iload_n 1, 1) := by decide +kernel
theorem dX6_put_8 : decode cX6_put 8 = .ok (.iload_n 2, 1) := by decide +kernel
theorem dX6_put_9 : decode cX6_put 9 = .ok (.iushr, 1) := by decide +kernel
theorem dX6_put_10 : decode cX6_put 10 = .ok (.sipush 255, 3) := by decide +kernel
theorem dX6_put_13 : decode cX6_put 13 = .ok (.iand, 1) := by decide +kernel
theorem dX6_put_14 : decode cX6_put 14 = .ok (.istore_n 3, 1) := by decide +kernel
theorem dX6_put_15 : decode cX6_put 15 = .ok (.iload_n 3, 1) := by decide +kernel
theorem dX6_put_16 : decode cX6_put 16 = .ok (.ifCond .eq 33, 3) := by decide +kernel
theorem dX6_put_19 : decode cX6_put 19 = .ok (.aload_n 0, 1) := by decide +kernel
theorem dX6_put_20 : decode cX6_put 20 = .ok (.getfield 9, 3) := by decide +kernel
theorem dX6_put_23 : decode cX6_put 23 = .ok (.sipush 400, 3) := by decide +kernel
theorem dX6_put_26 : decode cX6_put 26 = .ok (.if_icmp .ge 23, 3) := by decide +kernel
theorem dX6_put_29 : decode cX6_put 29 = .ok (.aload_n 0, 1) := by decide +kernel
theorem dX6_put_30 : decode cX6_put 30 = .ok (.getfield 24, 3) := by decide +kernel
theorem dX6_put_33 : decode cX6_put 33 = .ok (.aload_n 0, 1) := by decide +kernel
theorem dX6_put_34 : decode cX6_put 34 = .ok (.getfield 9, 3) := by decide +kernel
theorem dX6_put_37 : decode cX6_put 37 = .ok (.iload_n 3, 1) := by decide +kernel
theorem dX6_put_38 : decode cX6_put 38 = .ok (.iastore, 1) := by decide +kernel
theorem dX6_put_39 : decode cX6_put 39 = .ok (.aload_n 0, 1) := by decide +kernel
theorem dX6_put_40 : decode cX6_put 40 = .ok (.dup, 1) := by decide +kernel
theorem dX6_put_41 : decode cX6_put 41 = .ok (.getfield 9, 3) := by decide +kernel
theorem dX6_put_44 : decode cX6_put 44 = .ok (.iconst 1, 1) := by decide +kernel
theorem dX6_put_45 : decode cX6_put 45 = .ok (.iadd, 1) := by decide +kernel
theorem dX6_put_46 : decode cX6_put 46 = .ok (.putfield 9, 3) := by decide +kernel
theorem dX6_put_49 : decode cX6_put 49 = .ok (.iinc 2 (-8), 3) := by decide +kernel
theorem dX6_put_52 : decode cX6_put 52 = .ok (.goto (-49), 3) := by decide +kernel
theorem dX6_put_55 : decode cX6_put 55 = .ok (.return_, 1) := by decide +kernel
set_option maxHeartbeats 4000000 in
set_option maxRecDepth 100000 in
theorem B_X6_put_0 {d : Nat} {ro : Nat → Nat} {J : JT} {Z : Option Value → Hp → Prop} (g : xCtx RX6 cX6_put 4 d 0 0 yX6_put.name ro J) (hr : xRet cX6_put none 0 0 Z J) {μ : Hp} {a0 : Nat} {x1 : Int32} 
    (h : J μ 0 0 3 [(0, .ref a0), (1, .int x1), (2, .int 24)] []) :
    J μ 0 0 0 [(0, .ref a0), (1, .int x1)] [] := by
  refine r_bipush g 24 dX6_put_0 (by decide) ?_
  refine r_istore_n g [(2, .int 24), (0, .ref a0), (1, .int x1)] dX6_put_2 (by decide) rfl ?_
  refine r_sub g (lv' := [(0, .ref a0), (1, .int x1), (2, .int 24)]) (⟨rfl, rfl, rfl, trivial⟩) ?_
  exact h
set_option maxHeartbeats 4000000 in
set_option maxRecDepth 100000 in
theorem B_X6_put_3 {d : Nat} {ro : Nat → Nat} {J : JT} {Z : Option Value → Hp → Prop} (g : xCtx RX6 cX6_put 4 d 0 0 yX6_put.name ro J) (hr : xRet cX6_put none 0 0 Z J) {μ : Hp} {a0 : Nat} {x1 : Int32} {x2 : Int32} {a0_tape : Nat} {N_a0_tape : Nat} (hs_a0 : hS μ a0 = some (10, 5)) (hr_a0_tape : hR μ a0 4 = some a0_tape) (hs_a0_tape : hS μ a0_tape = some (0, N_a0_tape))
    (h : ((x2 < 0 → Z none μ) ∧ (¬ x2 < 0 → (∀ v2 : Int32, v2 = ((x1).toUInt32 >>> ((x2 : Int32).toUInt32 &&& Int32.toUInt32 31)).toInt32 → (((v2 &&& 255) = 0 → J μ 0 0 3 [(0, .ref a0), (1, .int x1), (2, .int (x2 + (-8)))] []) ∧ (¬ (v2 &&& 255) = 0 → ((400 ≤ (hI μ a0 0) → J μ 0 0 3 [(0, .ref a0), (1, .int x1), (2, .int (x2 + (-8)))] []) ∧ (¬ 400 ≤ (hI μ a0 0) → vp_in (hI μ a0 0) N_a0_tape ∧ (∀ v6 : Int32, v6 = (hI (wI μ a0_tape ((hI μ a0 0).toNatClampNeg) (v2 &&& 255)) a0 0) → J (wI (wI μ a0_tape ((hI μ a0 0).toNatClampNeg) (v2 &&& 255)) a0 0 (v6 + 1)) 0 0 3 [(0, .ref a0), (1, .int x1), (2, .int (x2 + (-8)))] []))))))))) :
    J μ 0 0 3 [(0, .ref a0), (1, .int x1), (2, .int x2)] [] := by
  refine r_iload_n g dX6_put_3 rfl ?_
  refine r_if_lt g 55 dX6_put_4 (by decide) (fun c1 => ?_) (fun c1 => ?_)
  · replace h := h.1 c1
    exact hr.1 rfl _ _ _ _ _ dX6_put_55 (Nat.le_refl 0) (Nat.le_refl 0) h
  · replace h := h.2 c1
    refine r_iload_n g dX6_put_7 rfl ?_
    refine r_iload_n g dX6_put_8 rfl ?_
    refine r_iushr g dX6_put_9 ?_
    refine r_nmI (fun v2 ev2 => ?_)
    replace h := h v2 ev2
    refine r_sipush g 255 dX6_put_10 (by decide) ?_
    refine r_iand g dX6_put_13 ?_
    refine r_istore_n g [(3, .int (v2 &&& 255)), (0, .ref a0), (1, .int x1), (2, .int x2)] dX6_put_14 (by decide) rfl ?_
    refine r_iload_n g dX6_put_15 rfl ?_
    refine r_if_eq g 49 dX6_put_16 (by decide) (fun c3 => ?_) (fun c3 => ?_)
    · replace h := h.1 c3
      refine r_iinc g (x2 + (-8)) [(2, .int (x2 + (-8))), (3, .int (v2 &&& 255)), (0, .ref a0), (1, .int x1)] dX6_put_49 rfl rfl (by decide) rfl ?_
      refine r_goto g 3 dX6_put_52 (by decide) ?_
      refine r_sub g (lv' := [(0, .ref a0), (1, .int x1), (2, .int (x2 + (-8)))]) (⟨rfl, rfl, rfl, trivial⟩) ?_
      exact h
    · replace h := h.2 c3
      refine r_aload_n g dX6_put_19 rfl ?_
      refine r_getI g fX6_9 rfl hs_a0 dX6_put_20 ?_
      refine r_sipush g 400 dX6_put_23 (by decide) ?_
      refine r_icmp_ge g 49 dX6_put_26 (by decide) (fun c4 => ?_) (fun c4 => ?_)
      · replace h := h.1 c4
        refine r_iinc g (x2 + (-8)) [(2, .int (x2 + (-8))), (3, .int (v2 &&& 255)), (0, .ref a0), (1, .int x1)] dX6_put_49 rfl rfl (by decide) rfl ?_
        refine r_goto g 3 dX6_put_52 (by decide) ?_
        refine r_sub g (lv' := [(0, .ref a0), (1, .int x1), (2, .int (x2 + (-8)))]) (⟨rfl, rfl, rfl, trivial⟩) ?_
        exact h
      · replace h := h.2 c4
        refine r_aload_n g dX6_put_29 rfl ?_
        refine r_getR g fX6_24 rfl hs_a0 hr_a0_tape dX6_put_30 ?_
        refine r_aload_n g dX6_put_33 rfl ?_
        refine r_getI g fX6_9 rfl hs_a0 dX6_put_34 ?_
        refine r_iload_n g dX6_put_37 rfl ?_
        obtain ⟨hi5, h⟩ := h
        refine r_iastore g hs_a0_tape hi5 dX6_put_38 ?_
        refine r_aload_n g dX6_put_39 rfl ?_
        refine r_dup g dX6_put_40 rfl ?_
        refine r_getI g fX6_9 rfl hs_a0 dX6_put_41 ?_
        refine r_nmI (fun v6 ev6 => ?_)
        replace h := h v6 ev6
        refine r_iconst g 1 dX6_put_44 (by decide) ?_
        refine r_iadd g dX6_put_45 ?_
        refine r_putI g fX6_9 rfl hs_a0 rfl rfl dX6_put_46 ?_
        refine r_iinc g (x2 + (-8)) [(2, .int (x2 + (-8))), (3, .int (v2 &&& 255)), (0, .ref a0), (1, .int x1)] dX6_put_49 rfl rfl (by decide) rfl ?_
        refine r_goto g 3 dX6_put_52 (by decide) ?_
        refine r_sub g (lv' := [(0, .ref a0), (1, .int x1), (2, .int (x2 + (-8)))]) (⟨rfl, rfl, rfl, trivial⟩) ?_
        exact h
theorem I_X6_put {d : Nat} {ro : Nat → Nat} {Z : Option Value → Hp → Prop} {μ : Hp} {a0 : Nat} {x1 : Int32} (h : ∀ J, xCtx RX6 cX6_put 4 d 0 0 yX6_put.name ro J → xRet cX6_put none 0 0 Z J → J μ 0 0 0 [(0, .ref a0), (1, .int x1)] []) : xC d yX6_put cX6_put 4 none 0 0 [.ref a0, .int x1] μ ro Z :=
  xC_intro (own := RX6) (lv := [(0, .ref a0), (1, .int x1)]) (by decide) rfl (Nat.le_of_ble_eq_true rfl) rfl (fun J g hr => r_sub g (lv' := [(0, .ref a0), (1, .int x1)]) (⟨rfl, rfl, trivial⟩) (h J g hr))
theorem dX6_letterOf_0 : decode cX6_letterOf 0 = .ok (.lload_n 0, 1) := by decide +kernel
theorem dX6_letterOf_1 : decode cX6_letterOf 1 = .ok (.iconst 5, 1) := by decide +kernel
theorem dX6_letterOf_2 : decode cX6_letterOf 2 = .ok (.iload_n 2, 1) := by decide +kernel
theorem dX6_letterOf_3 : decode cX6_letterOf 3 = .ok (.imul, 1) := by decide +kernel
theorem dX6_letterOf_4 : decode cX6_letterOf 4 = .ok (.lushr, 1) := by decide +kernel
theorem dX6_letterOf_5 : decode cX6_letterOf 5 = .ok (.ldc2_w 28, 3) := by decide +kernel
theorem dX6_letterOf_8 : decode cX6_letterOf 8 = .ok (.land, 1) := by decide +kernel
theorem dX6_letterOf_9 : decode cX6_letterOf 9 = .ok (.l2i, 1) := by decide +kernel
theorem dX6_letterOf_10 : decode cX6_letterOf 10 = .ok (.istore_n 3, 1) := by decide +kernel
theorem dX6_letterOf_11 : decode cX6_letterOf 11 = .ok (.iload_n 3, 1) := by decide +kernel
theorem dX6_letterOf_12 : decode cX6_letterOf 12 = .ok (.ifCond .ne 7, 3) := by decide +kernel
theorem dX6_letterOf_15 : decode cX6_letterOf 15 = .ok (.iconst (-1), 1) := by decide +kernel
theorem dX6_letterOf_16 : decode cX6_letterOf 16 = .ok (.goto 9, 3) := by decide +kernel
theorem dX6_letterOf_19 : decode cX6_letterOf 19 = .ok (.iload_n 3, 1) := by decide +kernel
theorem dX6_letterOf_20 : decode cX6_letterOf 20 = .ok (.bipush 97, 2) := by decide +kernel
theorem dX6_letterOf_22 : decode cX6_letterOf 22 = .ok (.iadd, 1) := by decide +kernel
theorem dX6_letterOf_23 : decode cX6_letterOf 23 = .ok (.iconst 1, 1) := by decide +kernel
theorem dX6_letterOf_24 : decode cX6_letterOf 24 = .ok (.isub, 1) := by decide +kernel
theorem dX6_letterOf_25 : decode cX6_letterOf 25 = .ok (.ireturn, 1) := by decide +kernel
set_option maxHeartbeats 4000000 in
set_option maxRecDepth 100000 in
theorem B_X6_letterOf_0 {d : Nat} {ro : Nat → Nat} {J : JT} {Z : Option Value → Hp → Prop} (g : xCtx RX6 cX6_letterOf 4 d 0 0 yX6_letterOf.name ro J) (hr : xRet cX6_letterOf (some .int) 0 0 Z J) {μ : Hp} {x0 : Int64} {x2 : Int32} 
    (h : (∀ v1 : Int64, v1 = (x0.toUInt64 >>> ((5 * x2).toInt64.toUInt64 &&& Int64.toUInt64 63)).toInt64 → ((¬ (v1 &&& 31).toInt32 = 0 → Z (some (.int (((v1 &&& 31).toInt32 + 97) - 1))) μ) ∧ ((v1 &&& 31).toInt32 = 0 → Z (some (.int (-1))) μ)))) :
    J μ 0 0 0 [(0, .long x0), (2, .int x2)] [] := by
  refine r_lload_n g dX6_letterOf_0 rfl ?_
  refine r_iconst g 5 dX6_letterOf_1 (by decide) ?_
  refine r_iload_n g dX6_letterOf_2 rfl ?_
  refine r_imul g dX6_letterOf_3 ?_
  refine r_lushr g dX6_letterOf_4 ?_
  refine r_nmL (fun v1 ev1 => ?_)
  replace h := h v1 ev1
  refine r_ldc2 g 31 kX6_28 dX6_letterOf_5 ?_
  refine r_land g dX6_letterOf_8 ?_
  refine r_l2i g dX6_letterOf_9 ?_
  refine r_istore_n g [(3, .int (v1 &&& 31).toInt32), (0, .long x0), (2, .int x2)] dX6_letterOf_10 (by decide) rfl ?_
  refine r_iload_n g dX6_letterOf_11 rfl ?_
  refine r_if_ne g 19 dX6_letterOf_12 (by decide) (fun c2 => ?_) (fun c2 => ?_)
  · replace h := h.1 c2
    refine r_iload_n g dX6_letterOf_19 rfl ?_
    refine r_bipush g 97 dX6_letterOf_20 (by decide) ?_
    refine r_iadd g dX6_letterOf_22 ?_
    refine r_iconst g 1 dX6_letterOf_23 (by decide) ?_
    refine r_isub g dX6_letterOf_24 ?_
    exact hr.2.1 _ rfl _ _ _ _ _ _ dX6_letterOf_25 rfl (Nat.le_refl 0) (Nat.le_refl 0) h
  · replace h := h.2 c2
    refine r_iconst g (-1) dX6_letterOf_15 (by decide) ?_
    refine r_goto g 25 dX6_letterOf_16 (by decide) ?_
    exact hr.2.1 _ rfl _ _ _ _ _ _ dX6_letterOf_25 rfl (Nat.le_refl 0) (Nat.le_refl 0) h
theorem I_X6_letterOf {d : Nat} {ro : Nat → Nat} {Z : Option Value → Hp → Prop} {μ : Hp} {x0 : Int64} {x2 : Int32} (h : ∀ J, xCtx RX6 cX6_letterOf 4 d 0 0 yX6_letterOf.name ro J → xRet cX6_letterOf (some .int) 0 0 Z J → J μ 0 0 0 [(0, .long x0), (2, .int x2)] []) : xC d yX6_letterOf cX6_letterOf 4 (some .int) 0 0 [.long x0, .int x2] μ ro Z :=
  xC_intro (own := RX6) (lv := [(0, .long x0), (2, .int x2)]) (by decide) rfl (Nat.le_of_ble_eq_true rfl) rfl (fun J g hr => r_sub g (lv' := [(0, .long x0), (2, .int x2)]) (⟨rfl, rfl, trivial⟩) (h J g hr))
theorem dX6_begin_0 : decode cX6_begin 0 = .ok (.aload_n 0, 1) := by decide +kernel
theorem dX6_begin_1 : decode cX6_begin 1 = .ok (.iconst 0, 1) := by decide +kernel
theorem dX6_begin_2 : decode cX6_begin 2 = .ok (.putfield 21, 3) := by decide +kernel
theorem dX6_begin_5 : decode cX6_begin 5 = .ok (.aload_n 0, 1) := by decide +kernel
theorem dX6_begin_6 : decode cX6_begin 6 = .ok (.iconst 0, 1) := by decide +kernel
theorem dX6_begin_7 : decode cX6_begin 7 = .ok (.putfield 18, 3) := by decide +kernel
theorem dX6_begin_10 : decode cX6_begin 10 = .ok (.aload_n 0, 1) := by decide +kernel
theorem dX6_begin_11 : decode cX6_begin 11 = .ok (.iconst (-1), 1) := by decide +kernel
theorem dX6_begin_12 : decode cX6_begin 12 = .ok (.putfield 15, 3) := by decide +kernel
theorem dX6_begin_15 : decode cX6_begin 15 = .ok (.return_, 1) := by decide +kernel
set_option maxHeartbeats 4000000 in
set_option maxRecDepth 100000 in
theorem B_X6_begin_0 {d : Nat} {ro : Nat → Nat} {J : JT} {Z : Option Value → Hp → Prop} (g : xCtx RX6 cX6_begin 1 d 0 0 yX6_begin.name ro J) (hr : xRet cX6_begin none 0 0 Z J) {μ : Hp} {a0 : Nat} (hs_a0 : hS μ a0 = some (10, 5))
    (h : Z none (wI (wI (wI μ a0 3 0) a0 2 0) a0 1 (-1))) :
    J μ 0 0 0 [(0, .ref a0)] [] := by
  refine r_aload_n g dX6_begin_0 rfl ?_
  refine r_iconst g 0 dX6_begin_1 (by decide) ?_
  refine r_putI g fX6_21 rfl hs_a0 rfl rfl dX6_begin_2 ?_
  refine r_aload_n g dX6_begin_5 rfl ?_
  refine r_iconst g 0 dX6_begin_6 (by decide) ?_
  refine r_putI g fX6_18 rfl hs_a0 rfl rfl dX6_begin_7 ?_
  refine r_aload_n g dX6_begin_10 rfl ?_
  refine r_iconst g (-1) dX6_begin_11 (by decide) ?_
  refine r_putI g fX6_15 rfl hs_a0 rfl rfl dX6_begin_12 ?_
  exact hr.1 rfl _ _ _ _ _ dX6_begin_15 (Nat.le_refl 0) (Nat.le_refl 0) h
theorem I_X6_begin {d : Nat} {ro : Nat → Nat} {Z : Option Value → Hp → Prop} {μ : Hp} {a0 : Nat} (h : ∀ J, xCtx RX6 cX6_begin 1 d 0 0 yX6_begin.name ro J → xRet cX6_begin none 0 0 Z J → J μ 0 0 0 [(0, .ref a0)] []) : xC d yX6_begin cX6_begin 1 none 0 0 [.ref a0] μ ro Z :=
  xC_intro (own := RX6) (lv := [(0, .ref a0)]) (by decide) rfl (Nat.le_of_ble_eq_true rfl) rfl (fun J g hr => r_sub g (lv' := [(0, .ref a0)]) (⟨rfl, trivial⟩) (h J g hr))
theorem dX6_fail_0 : decode cX6_fail 0 = .ok (.aload_n 0, 1) := by decide +kernel
theorem dX6_fail_1 : decode cX6_fail 1 = .ok (.getfield 15, 3) := by decide +kernel
theorem dX6_fail_4 : decode cX6_fail 4 = .ok (.iconst (-1), 1) := by decide +kernel
theorem dX6_fail_5 : decode cX6_fail 5 = .ok (.if_icmp .ne 8, 3) := by decide +kernel
theorem dX6_fail_8 : decode cX6_fail 8 = .ok (.aload_n 0, 1) := by decide +kernel
theorem dX6_fail_9 : decode cX6_fail 9 = .ok (.iload_n 1, 1) := by decide +kernel
theorem dX6_fail_10 : decode cX6_fail 10 = .ok (.putfield 15, 3) := by decide +kernel
theorem dX6_fail_13 : decode cX6_fail 13 = .ok (.return_, 1) := by decide +kernel
set_option maxHeartbeats 4000000 in
set_option maxRecDepth 100000 in
theorem B_X6_fail_0 {d : Nat} {ro : Nat → Nat} {J : JT} {Z : Option Value → Hp → Prop} (g : xCtx RX6 cX6_fail 2 d 0 0 yX6_fail.name ro J) (hr : xRet cX6_fail none 0 0 Z J) {μ : Hp} {a0 : Nat} {x1 : Int32} (hs_a0 : hS μ a0 = some (10, 5))
    (h : ((¬ (hI μ a0 1) = (-1) → Z none μ) ∧ ((hI μ a0 1) = (-1) → Z none (wI μ a0 1 x1)))) :
    J μ 0 0 0 [(0, .ref a0), (1, .int x1)] [] := by
  refine r_aload_n g dX6_fail_0 rfl ?_
  refine r_getI g fX6_15 rfl hs_a0 dX6_fail_1 ?_
  refine r_iconst g (-1) dX6_fail_4 (by decide) ?_
  refine r_icmp_ne g 13 dX6_fail_5 (by decide) (fun c1 => ?_) (fun c1 => ?_)
  · replace h := h.1 c1
    exact hr.1 rfl _ _ _ _ _ dX6_fail_13 (Nat.le_refl 0) (Nat.le_refl 0) h
  · replace h := h.2 c1
    refine r_aload_n g dX6_fail_8 rfl ?_
    refine r_iload_n g dX6_fail_9 rfl ?_
    refine r_putI g fX6_15 rfl hs_a0 rfl rfl dX6_fail_10 ?_
    exact hr.1 rfl _ _ _ _ _ dX6_fail_13 (Nat.le_refl 0) (Nat.le_refl 0) h
theorem I_X6_fail {d : Nat} {ro : Nat → Nat} {Z : Option Value → Hp → Prop} {μ : Hp} {a0 : Nat} {x1 : Int32} (h : ∀ J, xCtx RX6 cX6_fail 2 d 0 0 yX6_fail.name ro J → xRet cX6_fail none 0 0 Z J → J μ 0 0 0 [(0, .ref a0), (1, .int x1)] []) : xC d yX6_fail cX6_fail 2 none 0 0 [.ref a0, .int x1] μ ro Z :=
  xC_intro (own := RX6) (lv := [(0, .ref a0), (1, .int x1)]) (by decide) rfl (Nat.le_of_ble_eq_true rfl) rfl (fun J g hr => r_sub g (lv' := [(0, .ref a0), (1, .int x1)]) (⟨rfl, rfl, trivial⟩) (h J g hr))
theorem dX6_skipBlanks_0 : decode cX6_skipBlanks 0 = .ok (.aload_n 0, 1) := by decide +kernel
theorem dX6_skipBlanks_1 : decode cX6_skipBlanks 1 = .ok (.getfield 21, 3) := by decide +kernel
theorem dX6_skipBlanks_4 : decode cX6_skipBlanks 4 = .ok (.aload_n 0, 1) := by decide +kernel
theorem dX6_skipBlanks_5 : decode cX6_skipBlanks 5 = .ok (.getfield 9, 3) := by decide +kernel
theorem dX6_skipBlanks_8 : decode cX6_skipBlanks 8 = .ok (.if_icmp .ge 30, 3) := by decide +kernel
theorem dX6_skipBlanks_11 : decode cX6_skipBlanks 11 = .ok (.aload_n 0, 1) := by decide +kernel
theorem dX6_skipBlanks_12 : decode cX6_skipBlanks 12 = .ok (.getfield 24, 3) := by decide +kernel
theorem dX6_skipBlanks_15 : decode cX6_skipBlanks 15 = .ok (.aload_n 0, 1) := by decide +kernel
theorem dX6_skipBlanks_16 : decode cX6_skipBlanks 16 = .ok (.getfield 21, 3) := by decide +kernel
theorem dX6_skipBlanks_19 : decode cX6_skipBlanks 19 = .ok (.iaload, 1) := by decide +kernel
theorem dX6_skipBlanks_20 : decode cX6_skipBlanks 20 = .ok (.bipush 32, 2) := by decide +kernel
theorem dX6_skipBlanks_22 : decode cX6_skipBlanks 22 = .ok (.if_icmp .ne 16, 3) := by decide +kernel
theorem dX6_skipBlanks_25 : decode cX6_skipBlanks 25 = .ok (.aload_n 0, 1) := by decide +kernel
theorem dX6_skipBlanks_26 : decode cX6_skipBlanks 26 = .ok (.dup, 1) := by decide +kernel
theorem dX6_skipBlanks_27 : decode cX6_skipBlanks 27 = .ok (.getfield 21, 3) := by decide +kernel
theorem dX6_skipBlanks_30 : decode cX6_skipBlanks 30 = .ok (.iconst 1, 1) := by decide +kernel
theorem dX6_skipBlanks_31 : decode cX6_skipBlanks 31 = .ok (.iadd, 1) := by decide +kernel
theorem dX6_skipBlanks_32 : decode cX6_skipBlanks 32 = .ok (.putfield 21, 3) := by decide +kernel
theorem dX6_skipBlanks_35 : decode cX6_skipBlanks 35 = .ok (.goto (-35), 3) := by decide +kernel
theorem dX6_skipBlanks_38 : decode cX6_skipBlanks 38 = .ok (.aload_n 0, 1) := by decide +kernel
theorem dX6_skipBlanks_39 : decode cX6_skipBlanks 39 = .ok (.aload_n 0, 1) := by decide +kernel
theorem dX6_skipBlanks_40 : decode cX6_skipBlanks 40 = .ok (.getfield 21, 3) := by decide +kernel
theorem dX6_skipBlanks_43 : decode cX6_skipBlanks 43 = .ok (.putfield 18, 3) := by decide +kernel
theorem dX6_skipBlanks_46 : decode cX6_skipBlanks 46 = .ok (.return_, 1) := by decide +kernel
set_option maxHeartbeats 4000000 in
set_option maxRecDepth 100000 in
theorem B_X6_skipBlanks_0 {d : Nat} {ro : Nat → Nat} {J : JT} {Z : Option Value → Hp → Prop} (g : xCtx RX6 cX6_skipBlanks 1 d 0 0 yX6_skipBlanks.name ro J) (hr : xRet cX6_skipBlanks none 0 0 Z J) {μ : Hp} {a0 : Nat} {a0_tape : Nat} {N_a0_tape : Nat} (hs_a0 : hS μ a0 = some (10, 5)) (hr_a0_tape : hR μ a0 4 = some a0_tape) (hs_a0_tape : hS μ a0_tape = some (0, N_a0_tape))
    (h : (((hI μ a0 0) ≤ (hI μ a0 3) → Z none (wI μ a0 2 (hI μ a0 3))) ∧ (¬ (hI μ a0 0) ≤ (hI μ a0 3) → vp_in (hI μ a0 3) N_a0_tape ∧ ((¬ (hI μ a0_tape ((hI μ a0 3).toNatClampNeg)) = 32 → Z none (wI μ a0 2 (hI μ a0 3))) ∧ ((hI μ a0_tape ((hI μ a0 3).toNatClampNeg)) = 32 → J (wI μ a0 3 ((hI μ a0 3) + 1)) 0 0 0 [(0, .ref a0)] []))))) :
    J μ 0 0 0 [(0, .ref a0)] [] := by
  refine r_aload_n g dX6_skipBlanks_0 rfl ?_
  refine r_getI g fX6_21 rfl hs_a0 dX6_skipBlanks_1 ?_
  refine r_aload_n g dX6_skipBlanks_4 rfl ?_
  refine r_getI g fX6_9 rfl hs_a0 dX6_skipBlanks_5 ?_
  refine r_icmp_ge g 38 dX6_skipBlanks_8 (by decide) (fun c1 => ?_) (fun c1 => ?_)
  · replace h := h.1 c1
    refine r_aload_n g dX6_skipBlanks_38 rfl ?_
    refine r_aload_n g dX6_skipBlanks_39 rfl ?_
    refine r_getI g fX6_21 rfl hs_a0 dX6_skipBlanks_40 ?_
    refine r_putI g fX6_18 rfl hs_a0 rfl rfl dX6_skipBlanks_43 ?_
    exact hr.1 rfl _ _ _ _ _ dX6_skipBlanks_46 (Nat.le_refl 0) (Nat.le_refl 0) h
  · replace h := h.2 c1
    refine r_aload_n g dX6_skipBlanks_11 rfl ?_
    refine r_getR g fX6_24 rfl hs_a0 hr_a0_tape dX6_skipBlanks_12 ?_
    refine r_aload_n g dX6_skipBlanks_15 rfl ?_
    refine r_getI g fX6_21 rfl hs_a0 dX6_skipBlanks_16 ?_
    obtain ⟨hi2, h⟩ := h
    refine r_iaload g hs_a0_tape hi2 dX6_skipBlanks_19 ?_
    refine r_bipush g 32 dX6_skipBlanks_20 (by decide) ?_
    refine r_icmp_ne g 38 dX6_skipBlanks_22 (by decide) (fun c3 => ?_) (fun c3 => ?_)
    · replace h := h.1 c3
      refine r_aload_n g dX6_skipBlanks_38 rfl ?_
      refine r_aload_n g dX6_skipBlanks_39 rfl ?_
      refine r_getI g fX6_21 rfl hs_a0 dX6_skipBlanks_40 ?_
      refine r_putI g fX6_18 rfl hs_a0 rfl rfl dX6_skipBlanks_43 ?_
      exact hr.1 rfl _ _ _ _ _ dX6_skipBlanks_46 (Nat.le_refl 0) (Nat.le_refl 0) h
    · replace h := h.2 c3
      refine r_aload_n g dX6_skipBlanks_25 rfl ?_
      refine r_dup g dX6_skipBlanks_26 rfl ?_
      refine r_getI g fX6_21 rfl hs_a0 dX6_skipBlanks_27 ?_
      refine r_iconst g 1 dX6_skipBlanks_30 (by decide) ?_
      refine r_iadd g dX6_skipBlanks_31 ?_
      refine r_putI g fX6_21 rfl hs_a0 rfl rfl dX6_skipBlanks_32 ?_
      refine r_goto g 0 dX6_skipBlanks_35 (by decide) ?_
      refine r_sub g (lv' := [(0, .ref a0)]) (⟨rfl, trivial⟩) ?_
      exact h
theorem I_X6_skipBlanks {d : Nat} {ro : Nat → Nat} {Z : Option Value → Hp → Prop} {μ : Hp} {a0 : Nat} (h : ∀ J, xCtx RX6 cX6_skipBlanks 1 d 0 0 yX6_skipBlanks.name ro J → xRet cX6_skipBlanks none 0 0 Z J → J μ 0 0 0 [(0, .ref a0)] []) : xC d yX6_skipBlanks cX6_skipBlanks 1 none 0 0 [.ref a0] μ ro Z :=
  xC_intro (own := RX6) (lv := [(0, .ref a0)]) (by decide) rfl (Nat.le_of_ble_eq_true rfl) rfl (fun J g hr => r_sub g (lv' := [(0, .ref a0)]) (⟨rfl, trivial⟩) (h J g hr))
theorem dX6_nextWord_0 : decode cX6_nextWord 0 = .ok (.aload_n 0, 1) := by decide +kernel
theorem dX6_nextWord_1 : decode cX6_nextWord 1 = .ok (.getfield 15, 3) := by decide +kernel
theorem dX6_nextWord_4 : decode cX6_nextWord 4 = .ok (.iconst (-1), 1) := by decide +kernel
theorem dX6_nextWord_5 : decode cX6_nextWord 5 = .ok (.if_icmp .eq 5, 3) := by decide +kernel
theorem dX6_nextWord_8 : decode cX6_nextWord 8 = .ok (.lconst 0, 1) := by decide +kernel
theorem dX6_nextWord_9 : decode cX6_nextWord 9 = .ok (.lreturn, 1) := by decide +kernel
theorem dX6_nextWord_10 : decode cX6_nextWord 10 = .ok (.aload_n 0, 1) := by decide +kernel
theorem dX6_nextWord_11 : decode cX6_nextWord 11 = .ok (.invokevirtual 30, 3) := by decide +kernel
theorem dX6_nextWord_14 : decode cX6_nextWord 14 = .ok (.lconst 0, 1) := by decide +kernel
theorem dX6_nextWord_15 : decode cX6_nextWord 15 = .ok (.lstore_n 1, 1) := by decide +kernel
theorem dX6_nextWord_16 : decode cX6_nextWord 16 = .ok (.aload_n 0, 1) := by decide +kernel
theorem dX6_nextWord_17 : decode cX6_nextWord 17 = .ok (.getfield 21, 3) := by decide +kernel
theorem dX6_nextWord_20 : decode cX6_nextWord 20 = .ok (.aload_n 0, 1) := by decide +kernel
theorem dX6_nextWord_21 : decode cX6_nextWord 21 = .ok (.getfield 9, 3) := by decide +kernel
theorem dX6_nextWord_24 : decode cX6_nextWord 24 = .ok (.if_icmp .ge 82, 3) := by decide +kernel
theorem dX6_nextWord_27 : decode cX6_nextWord 27 = .ok (.aload_n 0, 1) := by decide +kernel
theorem dX6_nextWord_28 : decode cX6_nextWord 28 = .ok (.getfield 24, 3) := by decide +kernel
theorem dX6_nextWord_31 : decode cX6_nextWord 31 = .ok (.aload_n 0, 1) := by decide +kernel
theorem dX6_nextWord_32 : decode cX6_nextWord 32 = .ok (.getfield 21, 3) := by decide +kernel
theorem dX6_nextWord_35 : decode cX6_nextWord 35 = .ok (.iaload, 1) := by decide +kernel
theorem dX6_nextWord_36 : decode cX6_nextWord 36 = .ok (.bipush 97, 2) := by decide +kernel
theorem dX6_nextWord_38 : decode cX6_nextWord 38 = .ok (.if_icmp .lt 68, 3) := by decide +kernel
theorem dX6_nextWord_41 : decode cX6_nextWord 41 = .ok (.aload_n 0, 1) := by decide +kernel
theorem dX6_nextWord_42 : decode cX6_nextWord 42 = .ok (.getfield 24, 3) := by decide +kernel
theorem dX6_nextWord_45 : decode cX6_nextWord 45 = .ok (.aload_n 0, 1) := by decide +kernel
theorem dX6_nextWord_46 : decode cX6_nextWord 46 = .ok (.getfield 21, 3) := by decide +kernel
theorem dX6_nextWord_49 : decode cX6_nextWord 49 = .ok (.iaload, 1) := by decide +kernel
theorem dX6_nextWord_50 : decode cX6_nextWord 50 = .ok (.bipush 122, 2) := by decide +kernel
theorem dX6_nextWord_52 : decode cX6_nextWord 52 = .ok (.if_icmp .gt 54, 3) := by decide +kernel
theorem dX6_nextWord_55 : decode cX6_nextWord 55 = .ok (.aload_n 0, 1) := by decide +kernel
theorem dX6_nextWord_56 : decode cX6_nextWord 56 = .ok (.getfield 21, 3) := by decide +kernel
theorem dX6_nextWord_59 : decode cX6_nextWord 59 = .ok (.aload_n 0, 1) := by decide +kernel
theorem dX6_nextWord_60 : decode cX6_nextWord 60 = .ok (.getfield 18, 3) := by decide +kernel
theorem dX6_nextWord_63 : decode cX6_nextWord 63 = .ok (.isub, 1) := by decide +kernel
theorem dX6_nextWord_64 : decode cX6_nextWord 64 = .ok (.bipush 8, 2) := by decide +kernel
theorem dX6_nextWord_66 : decode cX6_nextWord 66 = .ok (.if_icmp .ge 27, 3) := by decide +kernel
theorem dX6_nextWord_69 : decode cX6_nextWord 69 = .ok (.lload_n 1, 1) := by decide +kernel
theorem dX6_nextWord_70 : decode cX6_nextWord 70 = .ok (.aload_n 0, 1) := by decide +kernel
theorem dX6_nextWord_71 : decode cX6_nextWord 71 = .ok (.getfield 24, 3) := by decide +kernel
theorem dX6_nextWord_74 : decode cX6_nextWord 74 = .ok (.aload_n 0, 1) := by decide +kernel
theorem dX6_nextWord_75 : decode cX6_nextWord 75 = .ok (.getfield 21, 3) := by decide +kernel
theorem dX6_nextWord_78 : decode cX6_nextWord 78 = .ok (.iaload, 1) := by decide +kernel
theorem dX6_nextWord_79 : decode cX6_nextWord 79 = .ok (.aload_n 0, 1) := by decide +kernel
theorem dX6_nextWord_80 : decode cX6_nextWord 80 = .ok (.getfield 21, 3) := by decide +kernel
theorem dX6_nextWord_83 : decode cX6_nextWord 83 = .ok (.aload_n 0, 1) := by decide +kernel
theorem dX6_nextWord_84 : decode cX6_nextWord 84 = .ok (.getfield 18, 3) := by decide +kernel
theorem dX6_nextWord_87 : decode cX6_nextWord 87 = .ok (.isub, 1) := by decide +kernel
theorem dX6_nextWord_88 : decode cX6_nextWord 88 = .ok (.invokestatic 33, 3) := by decide +kernel
theorem dX6_nextWord_91 : decode cX6_nextWord 91 = .ok (.lor, 1) := by decide +kernel
theorem dX6_nextWord_92 : decode cX6_nextWord 92 = .ok (.lstore_n 1, 1) := by decide +kernel
theorem dX6_nextWord_93 : decode cX6_nextWord 93 = .ok (.aload_n 0, 1) := by decide +kernel
theorem dX6_nextWord_94 : decode cX6_nextWord 94 = .ok (.dup, 1) := by decide +kernel
theorem dX6_nextWord_95 : decode cX6_nextWord 95 = .ok (.getfield 21, 3) := by decide +kernel
theorem dX6_nextWord_98 : decode cX6_nextWord 98 = .ok (.iconst 1, 1) := by decide +kernel
theorem dX6_nextWord_99 : decode cX6_nextWord 99 = .ok (.iadd, 1) := by decide +kernel
theorem dX6_nextWord_100 : decode cX6_nextWord 100 = .ok (.putfield 21, 3) := by decide +kernel
theorem dX6_nextWord_103 : decode cX6_nextWord 103 = .ok (.goto (-87), 3) := by decide +kernel
theorem dX6_nextWord_106 : decode cX6_nextWord 106 = .ok (.aload_n 0, 1) := by decide +kernel
theorem dX6_nextWord_107 : decode cX6_nextWord 107 = .ok (.getfield 21, 3) := by decide +kernel
theorem dX6_nextWord_110 : decode cX6_nextWord 110 = .ok (.aload_n 0, 1) := by decide +kernel
theorem dX6_nextWord_111 : decode cX6_nextWord 111 = .ok (.getfield 18, 3) := by decide +kernel
theorem dX6_nextWord_114 : decode cX6_nextWord 114 = .ok (.if_icmp .eq 17, 3) := by decide +kernel
theorem dX6_nextWord_117 : decode cX6_nextWord 117 = .ok (.aload_n 0, 1) := by decide +kernel
theorem dX6_nextWord_118 : decode cX6_nextWord 118 = .ok (.getfield 21, 3) := by decide +kernel
theorem dX6_nextWord_121 : decode cX6_nextWord 121 = .ok (.aload_n 0, 1) := by decide +kernel
theorem dX6_nextWord_122 : decode cX6_nextWord 122 = .ok (.getfield 18, 3) := by decide +kernel
theorem dX6_nextWord_125 : decode cX6_nextWord 125 = .ok (.isub, 1) := by decide +kernel
theorem dX6_nextWord_126 : decode cX6_nextWord 126 = .ok (.bipush 8, 2) := by decide +kernel
theorem dX6_nextWord_128 : decode cX6_nextWord 128 = .ok (.if_icmp .le 11, 3) := by decide +kernel
theorem dX6_nextWord_131 : decode cX6_nextWord 131 = .ok (.aload_n 0, 1) := by decide +kernel
theorem dX6_nextWord_132 : decode cX6_nextWord 132 = .ok (.aload_n 0, 1) := by decide +kernel
theorem dX6_nextWord_133 : decode cX6_nextWord 133 = .ok (.getfield 18, 3) := by decide +kernel
theorem dX6_nextWord_136 : decode cX6_nextWord 136 = .ok (.invokevirtual 37, 3) := by decide +kernel
theorem dX6_nextWord_139 : decode cX6_nextWord 139 = .ok (.lload_n 1, 1) := by decide +kernel
theorem dX6_nextWord_140 : decode cX6_nextWord 140 = .ok (.lreturn, 1) := by decide +kernel
set_option maxHeartbeats 4000000 in
set_option maxRecDepth 100000 in
theorem B_X6_nextWord_0 {d : Nat} {ro : Nat → Nat} {J : JT} {Z : Option Value → Hp → Prop} (g : xCtx RX6 cX6_nextWord 3 d 0 0 yX6_nextWord.name ro J) (hr : xRet cX6_nextWord (some .long) 0 0 Z J) {μ : Hp} {a0 : Nat} (hs_a0 : hS μ a0 = some (10, 5))
    (h : (((hI μ a0 1) = (-1) → xCall d yX6_skipBlanks cX6_skipBlanks 1 none [.ref a0] μ ro (fun r2 μ3 => r2 = none ∧ J μ3 0 0 16 [(0, .ref a0), (1, .long 0)] [])) ∧ (¬ (hI μ a0 1) = (-1) → Z (some (.long 0)) μ))) :
    J μ 0 0 0 [(0, .ref a0)] [] := by
  refine r_aload_n g dX6_nextWord_0 rfl ?_
  refine r_getI g fX6_15 rfl hs_a0 dX6_nextWord_1 ?_
  refine r_iconst g (-1) dX6_nextWord_4 (by decide) ?_
  refine r_icmp_eq g 10 dX6_nextWord_5 (by decide) (fun c1 => ?_) (fun c1 => ?_)
  · replace h := h.1 c1
    refine r_aload_n g dX6_nextWord_10 rfl ?_
    obtain ⟨d1, Z1, hc1, hd1, h1⟩ := h
    refine r_callV (st := []) (As := []) g sX6_30 iX6_skipBlanks eX6_skipBlanks rfl hs_a0 rfl (Nat.le_of_ble_eq_true rfl) dX6_nextWord_11 hd1 (Nat.le_refl 0) (Nat.le_refl 0) hc1 (fun r2 μ3 hZ1 => ?_)
    replace h := h1 _ _ hZ1
    clear h1 hc1 hd1 hZ1 Z1 d1
    obtain ⟨rfl, h⟩ := h
    refine r_lconst g 0 dX6_nextWord_14 (by decide) ?_
    refine r_lstore_n g [(1, .long 0), (0, .ref a0)] dX6_nextWord_15 (by decide) rfl ?_
    refine r_sub g (lv' := [(0, .ref a0), (1, .long 0)]) (⟨rfl, rfl, trivial⟩) ?_
    exact h
  · replace h := h.2 c1
    refine r_lconst g 0 dX6_nextWord_8 (by decide) ?_
    exact hr.2.2.1 rfl _ _ _ _ _ _ dX6_nextWord_9 (Nat.le_refl 0) (Nat.le_refl 0) h
set_option maxHeartbeats 4000000 in
set_option maxRecDepth 100000 in
theorem B_X6_nextWord_16 {d : Nat} {ro : Nat → Nat} {J : JT} {Z : Option Value → Hp → Prop} (g : xCtx RX6 cX6_nextWord 3 d 0 0 yX6_nextWord.name ro J) (hr : xRet cX6_nextWord (some .long) 0 0 Z J) {μ : Hp} {a0 : Nat} {x1 : Int64} {a0_tape : Nat} {N_a0_tape : Nat} (hs_a0 : hS μ a0 = some (10, 5)) (hr_a0_tape : hR μ a0 4 = some a0_tape) (hs_a0_tape : hS μ a0_tape = some (0, N_a0_tape)) (hd9 : 1 ≤ d)
    (h : (((hI μ a0 0) ≤ (hI μ a0 3) → J μ 0 0 106 [(0, .ref a0), (1, .long x1)] []) ∧ (¬ (hI μ a0 0) ≤ (hI μ a0 3) → vp_in (hI μ a0 3) N_a0_tape ∧ (((hI μ a0_tape ((hI μ a0 3).toNatClampNeg)) < 97 → J μ 0 0 106 [(0, .ref a0), (1, .long x1)] []) ∧ (¬ (hI μ a0_tape ((hI μ a0 3).toNatClampNeg)) < 97 → ((122 < (hI μ a0_tape ((hI μ a0 3).toNatClampNeg)) → J μ 0 0 106 [(0, .ref a0), (1, .long x1)] []) ∧ (¬ 122 < (hI μ a0_tape ((hI μ a0 3).toNatClampNeg)) → ((8 ≤ ((hI μ a0 3) - (hI μ a0 2)) → J (wI μ a0 3 ((hI μ a0 3) + 1)) 0 0 16 [(0, .ref a0), (1, .long x1)] []) ∧ (¬ 8 ≤ ((hI μ a0 3) - (hI μ a0 2)) → (∀ v8 : Int64, v8 = ((((hI μ a0_tape ((hI μ a0 3).toNatClampNeg)) - 97) + 1).toInt64 <<< ((5 * ((hI μ a0 3) - (hI μ a0 2))).toInt64 &&& 63)) → J (wI μ a0 3 ((hI μ a0 3) + 1)) 0 0 16 [(0, .ref a0), (1, .long (x1 ||| v8))] [])))))))))) :
    J μ 0 0 16 [(0, .ref a0), (1, .long x1)] [] := by
  refine r_aload_n g dX6_nextWord_16 rfl ?_
  refine r_getI g fX6_21 rfl hs_a0 dX6_nextWord_17 ?_
  refine r_aload_n g dX6_nextWord_20 rfl ?_
  refine r_getI g fX6_9 rfl hs_a0 dX6_nextWord_21 ?_
  refine r_icmp_ge g 106 dX6_nextWord_24 (by decide) (fun c1 => ?_) (fun c1 => ?_)
  · replace h := h.1 c1
    refine r_sub g (lv' := [(0, .ref a0), (1, .long x1)]) (⟨rfl, rfl, trivial⟩) ?_
    exact h
  · replace h := h.2 c1
    refine r_aload_n g dX6_nextWord_27 rfl ?_
    refine r_getR g fX6_24 rfl hs_a0 hr_a0_tape dX6_nextWord_28 ?_
    refine r_aload_n g dX6_nextWord_31 rfl ?_
    refine r_getI g fX6_21 rfl hs_a0 dX6_nextWord_32 ?_
    obtain ⟨hi2, h⟩ := h
    refine r_iaload g hs_a0_tape hi2 dX6_nextWord_35 ?_
    refine r_bipush g 97 dX6_nextWord_36 (by decide) ?_
    refine r_icmp_lt g 106 dX6_nextWord_38 (by decide) (fun c3 => ?_) (fun c3 => ?_)
    · replace h := h.1 c3
      refine r_sub g (lv' := [(0, .ref a0), (1, .long x1)]) (⟨rfl, rfl, trivial⟩) ?_
      exact h
    · replace h := h.2 c3
      refine r_aload_n g dX6_nextWord_41 rfl ?_
      refine r_getR g fX6_24 rfl hs_a0 hr_a0_tape dX6_nextWord_42 ?_
      refine r_aload_n g dX6_nextWord_45 rfl ?_
      refine r_getI g fX6_21 rfl hs_a0 dX6_nextWord_46 ?_
      refine r_iaload g hs_a0_tape hi2 dX6_nextWord_49 ?_
      refine r_bipush g 122 dX6_nextWord_50 (by decide) ?_
      refine r_icmp_gt g 106 dX6_nextWord_52 (by decide) (fun c4 => ?_) (fun c4 => ?_)
      · replace h := h.1 c4
        refine r_sub g (lv' := [(0, .ref a0), (1, .long x1)]) (⟨rfl, rfl, trivial⟩) ?_
        exact h
      · replace h := h.2 c4
        refine r_aload_n g dX6_nextWord_55 rfl ?_
        refine r_getI g fX6_21 rfl hs_a0 dX6_nextWord_56 ?_
        refine r_aload_n g dX6_nextWord_59 rfl ?_
        refine r_getI g fX6_18 rfl hs_a0 dX6_nextWord_60 ?_
        refine r_isub g dX6_nextWord_63 ?_
        refine r_bipush g 8 dX6_nextWord_64 (by decide) ?_
        refine r_icmp_ge g 93 dX6_nextWord_66 (by decide) (fun c5 => ?_) (fun c5 => ?_)
        · replace h := h.1 c5
          refine r_aload_n g dX6_nextWord_93 rfl ?_
          refine r_dup g dX6_nextWord_94 rfl ?_
          refine r_getI g fX6_21 rfl hs_a0 dX6_nextWord_95 ?_
          refine r_iconst g 1 dX6_nextWord_98 (by decide) ?_
          refine r_iadd g dX6_nextWord_99 ?_
          refine r_putI g fX6_21 rfl hs_a0 rfl rfl dX6_nextWord_100 ?_
          refine r_goto g 16 dX6_nextWord_103 (by decide) ?_
          refine r_sub g (lv' := [(0, .ref a0), (1, .long x1)]) (⟨rfl, rfl, trivial⟩) ?_
          exact h
        · replace h := h.2 c5
          refine r_lload_n g dX6_nextWord_69 rfl ?_
          refine r_aload_n g dX6_nextWord_70 rfl ?_
          refine r_getR g fX6_24 rfl hs_a0 hr_a0_tape dX6_nextWord_71 ?_
          refine r_aload_n g dX6_nextWord_74 rfl ?_
          refine r_getI g fX6_21 rfl hs_a0 dX6_nextWord_75 ?_
          refine r_iaload g hs_a0_tape hi2 dX6_nextWord_78 ?_
          refine r_aload_n g dX6_nextWord_79 rfl ?_
          refine r_getI g fX6_21 rfl hs_a0 dX6_nextWord_80 ?_
          refine r_aload_n g dX6_nextWord_83 rfl ?_
          refine r_getI g fX6_18 rfl hs_a0 dX6_nextWord_84 ?_
          refine r_isub g dX6_nextWord_87 ?_
          refine r_callS (st := [.long x1]) (As := [.int (hI μ a0_tape ((hI μ a0 3).toNatClampNeg)), .int ((hI μ a0 3) - (hI μ a0 2))]) g sX6_33 iX6_codeOf rfl (Nat.le_of_ble_eq_true rfl) dX6_nextWord_88 (by omega) (Nat.le_refl 0) (Nat.le_refl 0) (P_X6_codeOf_0 (d := d - 1)  ) (fun r6 μ7 hZ1 => ?_)
          obtain ⟨rfl, e9⟩ := hZ1
          replace e9 := e9.symm
          subst e9
          refine r_nmL (fun v8 ev8 => ?_)
          replace h := h v8 ev8
          refine r_lor g dX6_nextWord_91 ?_
          refine r_lstore_n g [(1, .long (x1 ||| v8)), (0, .ref a0)] dX6_nextWord_92 (by decide) rfl ?_
          refine r_aload_n g dX6_nextWord_93 rfl ?_
          refine r_dup g dX6_nextWord_94 rfl ?_
          refine r_getI g fX6_21 rfl hs_a0 dX6_nextWord_95 ?_
          refine r_iconst g 1 dX6_nextWord_98 (by decide) ?_
          refine r_iadd g dX6_nextWord_99 ?_
          refine r_putI g fX6_21 rfl hs_a0 rfl rfl dX6_nextWord_100 ?_
          refine r_goto g 16 dX6_nextWord_103 (by decide) ?_
          refine r_sub g (lv' := [(0, .ref a0), (1, .long (x1 ||| v8))]) (⟨rfl, rfl, trivial⟩) ?_
          exact h
set_option maxHeartbeats 4000000 in
set_option maxRecDepth 100000 in
theorem B_X6_nextWord_106 {d : Nat} {ro : Nat → Nat} {J : JT} {Z : Option Value → Hp → Prop} (g : xCtx RX6 cX6_nextWord 3 d 0 0 yX6_nextWord.name ro J) (hr : xRet cX6_nextWord (some .long) 0 0 Z J) {μ : Hp} {a0 : Nat} {x1 : Int64} (hs_a0 : hS μ a0 = some (10, 5))
    (h : (((hI μ a0 3) = (hI μ a0 2) → xCall d yX6_fail cX6_fail 2 none [.ref a0, .int (hI μ a0 2)] μ ro (fun r2 μ3 => r2 = none ∧ Z (some (.long x1)) μ3)) ∧ (¬ (hI μ a0 3) = (hI μ a0 2) → ((((hI μ a0 3) - (hI μ a0 2)) ≤ 8 → Z (some (.long x1)) μ) ∧ (¬ ((hI μ a0 3) - (hI μ a0 2)) ≤ 8 → xCall d yX6_fail cX6_fail 2 none [.ref a0, .int (hI μ a0 2)] μ ro (fun r5 μ6 => r5 = none ∧ Z (some (.long x1)) μ6)))))) :
    J μ 0 0 106 [(0, .ref a0), (1, .long x1)] [] := by
  refine r_aload_n g dX6_nextWord_106 rfl ?_
  refine r_getI g fX6_21 rfl hs_a0 dX6_nextWord_107 ?_
  refine r_aload_n g dX6_nextWord_110 rfl ?_
  refine r_getI g fX6_18 rfl hs_a0 dX6_nextWord_111 ?_
  refine r_icmp_eq g 131 dX6_nextWord_114 (by decide) (fun c1 => ?_) (fun c1 => ?_)
  · replace h := h.1 c1
    refine r_aload_n g dX6_nextWord_131 rfl ?_
    refine r_aload_n g dX6_nextWord_132 rfl ?_
    refine r_getI g fX6_18 rfl hs_a0 dX6_nextWord_133 ?_
    obtain ⟨d1, Z1, hc1, hd1, h1⟩ := h
    refine r_callV (st := []) (As := [.int (hI μ a0 2)]) g sX6_37 iX6_fail eX6_fail rfl hs_a0 rfl (Nat.le_of_ble_eq_true rfl) dX6_nextWord_136 hd1 (Nat.le_refl 0) (Nat.le_refl 0) hc1 (fun r2 μ3 hZ1 => ?_)
    replace h := h1 _ _ hZ1
    clear h1 hc1 hd1 hZ1 Z1 d1
    obtain ⟨rfl, h⟩ := h
    refine r_lload_n g dX6_nextWord_139 rfl ?_
    exact hr.2.2.1 rfl _ _ _ _ _ _ dX6_nextWord_140 (Nat.le_refl 0) (Nat.le_refl 0) h
  · replace h := h.2 c1
    refine r_aload_n g dX6_nextWord_117 rfl ?_
    refine r_getI g fX6_21 rfl hs_a0 dX6_nextWord_118 ?_
    refine r_aload_n g dX6_nextWord_121 rfl ?_
    refine r_getI g fX6_18 rfl hs_a0 dX6_nextWord_122 ?_
    refine r_isub g dX6_nextWord_125 ?_
    refine r_bipush g 8 dX6_nextWord_126 (by decide) ?_
    refine r_icmp_le g 139 dX6_nextWord_128 (by decide) (fun c4 => ?_) (fun c4 => ?_)
    · replace h := h.1 c4
      refine r_lload_n g dX6_nextWord_139 rfl ?_
      exact hr.2.2.1 rfl _ _ _ _ _ _ dX6_nextWord_140 (Nat.le_refl 0) (Nat.le_refl 0) h
    · replace h := h.2 c4
      refine r_aload_n g dX6_nextWord_131 rfl ?_
      refine r_aload_n g dX6_nextWord_132 rfl ?_
      refine r_getI g fX6_18 rfl hs_a0 dX6_nextWord_133 ?_
      obtain ⟨d1, Z1, hc1, hd1, h1⟩ := h
      refine r_callV (st := []) (As := [.int (hI μ a0 2)]) g sX6_37 iX6_fail eX6_fail rfl hs_a0 rfl (Nat.le_of_ble_eq_true rfl) dX6_nextWord_136 hd1 (Nat.le_refl 0) (Nat.le_refl 0) hc1 (fun r5 μ6 hZ1 => ?_)
      replace h := h1 _ _ hZ1
      clear h1 hc1 hd1 hZ1 Z1 d1
      obtain ⟨rfl, h⟩ := h
      refine r_lload_n g dX6_nextWord_139 rfl ?_
      exact hr.2.2.1 rfl _ _ _ _ _ _ dX6_nextWord_140 (Nat.le_refl 0) (Nat.le_refl 0) h
theorem I_X6_nextWord {d : Nat} {ro : Nat → Nat} {Z : Option Value → Hp → Prop} {μ : Hp} {a0 : Nat} (h : ∀ J, xCtx RX6 cX6_nextWord 3 d 0 0 yX6_nextWord.name ro J → xRet cX6_nextWord (some .long) 0 0 Z J → J μ 0 0 0 [(0, .ref a0)] []) : xC d yX6_nextWord cX6_nextWord 3 (some .long) 0 0 [.ref a0] μ ro Z :=
  xC_intro (own := RX6) (lv := [(0, .ref a0)]) (by decide) rfl (Nat.le_of_ble_eq_true rfl) rfl (fun J g hr => r_sub g (lv' := [(0, .ref a0)]) (⟨rfl, trivial⟩) (h J g hr))
theorem dX6_nextNumber_0 : decode cX6_nextNumber 0 = .ok (.aload_n 0, 1) := by decide +kernel
theorem dX6_nextNumber_1 : decode cX6_nextNumber 1 = .ok (.getfield 15, 3) := by decide +kernel
theorem dX6_nextNumber_4 : decode cX6_nextNumber 4 = .ok (.iconst (-1), 1) := by decide +kernel
theorem dX6_nextNumber_5 : decode cX6_nextNumber 5 = .ok (.if_icmp .eq 5, 3) := by decide +kernel
theorem dX6_nextNumber_8 : decode cX6_nextNumber 8 = .ok (.iload_n 1, 1) := by decide +kernel
theorem dX6_nextNumber_9 : decode cX6_nextNumber 9 = .ok (.ireturn, 1) := by decide +kernel
theorem dX6_nextNumber_10 : decode cX6_nextNumber 10 = .ok (.aload_n 0, 1) := by decide +kernel
theorem dX6_nextNumber_11 : decode cX6_nextNumber 11 = .ok (.invokevirtual 30, 3) := by decide +kernel
theorem dX6_nextNumber_14 : decode cX6_nextNumber 14 = .ok (.iconst 0, 1) := by decide +kernel
theorem dX6_nextNumber_15 : decode cX6_nextNumber 15 = .ok (.istore_n 3, 1) := by decide +kernel
theorem dX6_nextNumber_16 : decode cX6_nextNumber 16 = .ok (.aload_n 0, 1) := by decide +kernel
theorem dX6_nextNumber_17 : decode cX6_nextNumber 17 = .ok (.getfield 21, 3) := by decide +kernel
theorem dX6_nextNumber_20 : decode cX6_nextNumber 20 = .ok (.aload_n 0, 1) := by decide +kernel
theorem dX6_nextNumber_21 : decode cX6_nextNumber 21 = .ok (.getfield 9, 3) := by decide +kernel
theorem dX6_nextNumber_24 : decode cX6_nextNumber 24 = .ok (.if_icmp .ge 67, 3) := by decide +kernel
theorem dX6_nextNumber_27 : decode cX6_nextNumber 27 = .ok (.aload_n 0, 1) := by decide +kernel
theorem dX6_nextNumber_28 : decode cX6_nextNumber 28 = .ok (.getfield 24, 3) := by decide +kernel
theorem dX6_nextNumber_31 : decode cX6_nextNumber 31 = .ok (.aload_n 0, 1) := by decide +kernel
theorem dX6_nextNumber_32 : decode cX6_nextNumber 32 = .ok (.getfield 21, 3) := by decide +kernel
theorem dX6_nextNumber_35 : decode cX6_nextNumber 35 = .ok (.iaload, 1) := by decide +kernel
theorem dX6_nextNumber_36 : decode cX6_nextNumber 36 = .ok (.bipush 48, 2) := by decide +kernel
theorem dX6_nextNumber_38 : decode cX6_nextNumber 38 = .ok (.if_icmp .lt 53, 3) := by decide +kernel
theorem dX6_nextNumber_41 : decode cX6_nextNumber 41 = .ok (.aload_n 0, 1) := by decide +kernel
theorem dX6_nextNumber_42 : decode cX6_nextNumber 42 = .ok (.getfield 24, 3) := by decide +kernel
theorem dX6_nextNumber_45 : decode cX6_nextNumber 45 = .ok (.aload_n 0, 1) := by decide +kernel
theorem dX6_nextNumber_46 : decode cX6_nextNumber 46 = .ok (.getfield 21, 3) := by decide +kernel
theorem dX6_nextNumber_49 : decode cX6_nextNumber 49 = .ok (.iaload, 1) := by decide +kernel
theorem dX6_nextNumber_50 : decode cX6_nextNumber 50 = .ok (.bipush 57, 2) := by decide +kernel
theorem dX6_nextNumber_52 : decode cX6_nextNumber 52 = .ok (.if_icmp .gt 39, 3) := by decide +kernel
theorem dX6_nextNumber_55 : decode cX6_nextNumber 55 = .ok (.iload_n 3, 1) := by decide +kernel
theorem dX6_nextNumber_56 : decode cX6_nextNumber 56 = .ok (.bipush 10, 2) := by decide +kernel
theorem dX6_nextNumber_58 : decode cX6_nextNumber 58 = .ok (.imul, 1) := by decide +kernel
theorem dX6_nextNumber_59 : decode cX6_nextNumber 59 = .ok (.aload_n 0, 1) := by decide +kernel
theorem dX6_nextNumber_60 : decode cX6_nextNumber 60 = .ok (.getfield 24, 3) := by decide +kernel
theorem dX6_nextNumber_63 : decode cX6_nextNumber 63 = .ok (.aload_n 0, 1) := by decide +kernel
theorem dX6_nextNumber_64 : decode cX6_nextNumber 64 = .ok (.getfield 21, 3) := by decide +kernel
theorem dX6_nextNumber_67 : decode cX6_nextNumber 67 = .ok (.iaload, 1) := by decide +kernel
theorem dX6_nextNumber_68 : decode cX6_nextNumber 68 = .ok (.iadd, 1) := by decide +kernel
theorem dX6_nextNumber_69 : decode cX6_nextNumber 69 = .ok (.bipush 48, 2) := by decide +kernel
theorem dX6_nextNumber_71 : decode cX6_nextNumber 71 = .ok (.isub, 1) := by decide +kernel
theorem dX6_nextNumber_72 : decode cX6_nextNumber 72 = .ok (.ldc 41, 2) := by decide +kernel
theorem dX6_nextNumber_74 : decode cX6_nextNumber 74 = .ok (.invokestatic 42, 3) := by decide +kernel
theorem dX6_nextNumber_77 : decode cX6_nextNumber 77 = .ok (.istore_n 3, 1) := by decide +kernel
theorem dX6_nextNumber_78 : decode cX6_nextNumber 78 = .ok (.aload_n 0, 1) := by decide +kernel
theorem dX6_nextNumber_79 : decode cX6_nextNumber 79 = .ok (.dup, 1) := by decide +kernel
theorem dX6_nextNumber_80 : decode cX6_nextNumber 80 = .ok (.getfield 21, 3) := by decide +kernel
theorem dX6_nextNumber_83 : decode cX6_nextNumber 83 = .ok (.iconst 1, 1) := by decide +kernel
theorem dX6_nextNumber_84 : decode cX6_nextNumber 84 = .ok (.iadd, 1) := by decide +kernel
theorem dX6_nextNumber_85 : decode cX6_nextNumber 85 = .ok (.putfield 21, 3) := by decide +kernel
theorem dX6_nextNumber_88 : decode cX6_nextNumber 88 = .ok (.goto (-72), 3) := by decide +kernel
theorem dX6_nextNumber_91 : decode cX6_nextNumber 91 = .ok (.aload_n 0, 1) := by decide +kernel
theorem dX6_nextNumber_92 : decode cX6_nextNumber 92 = .ok (.getfield 21, 3) := by decide +kernel
theorem dX6_nextNumber_95 : decode cX6_nextNumber 95 = .ok (.aload_n 0, 1) := by decide +kernel
theorem dX6_nextNumber_96 : decode cX6_nextNumber 96 = .ok (.getfield 18, 3) := by decide +kernel
theorem dX6_nextNumber_99 : decode cX6_nextNumber 99 = .ok (.if_icmp .eq 13, 3) := by decide +kernel
theorem dX6_nextNumber_102 : decode cX6_nextNumber 102 = .ok (.iload_n 3, 1) := by decide +kernel
theorem dX6_nextNumber_103 : decode cX6_nextNumber 103 = .ok (.iload_n 1, 1) := by decide +kernel
theorem dX6_nextNumber_104 : decode cX6_nextNumber 104 = .ok (.if_icmp .lt 8, 3) := by decide +kernel
theorem dX6_nextNumber_107 : decode cX6_nextNumber 107 = .ok (.iload_n 3, 1) := by decide +kernel
theorem dX6_nextNumber_108 : decode cX6_nextNumber 108 = .ok (.iload_n 2, 1) := by decide +kernel
theorem dX6_nextNumber_109 : decode cX6_nextNumber 109 = .ok (.if_icmp .le 13, 3) := by decide +kernel
theorem dX6_nextNumber_112 : decode cX6_nextNumber 112 = .ok (.aload_n 0, 1) := by decide +kernel
theorem dX6_nextNumber_113 : decode cX6_nextNumber 113 = .ok (.aload_n 0, 1) := by decide +kernel
theorem dX6_nextNumber_114 : decode cX6_nextNumber 114 = .ok (.getfield 18, 3) := by decide +kernel
theorem dX6_nextNumber_117 : decode cX6_nextNumber 117 = .ok (.invokevirtual 37, 3) := by decide +kernel
theorem dX6_nextNumber_120 : decode cX6_nextNumber 120 = .ok (.iload_n 1, 1) := by decide +kernel
theorem dX6_nextNumber_121 : decode cX6_nextNumber 121 = .ok (.ireturn, 1) := by decide +kernel
theorem dX6_nextNumber_122 : decode cX6_nextNumber 122 = .ok (.iload_n 3, 1) := by decide +kernel
theorem dX6_nextNumber_123 : decode cX6_nextNumber 123 = .ok (.ireturn, 1) := by decide +kernel
set_option maxHeartbeats 4000000 in
set_option maxRecDepth 100000 in
theorem B_X6_nextNumber_0 {d : Nat} {ro : Nat → Nat} {J : JT} {Z : Option Value → Hp → Prop} (g : xCtx RX6 cX6_nextNumber 4 d 0 0 yX6_nextNumber.name ro J) (hr : xRet cX6_nextNumber (some .int) 0 0 Z J) {μ : Hp} {a0 : Nat} {x1 : Int32} {x2 : Int32} (hs_a0 : hS μ a0 = some (10, 5))
    (h : (((hI μ a0 1) = (-1) → xCall d yX6_skipBlanks cX6_skipBlanks 1 none [.ref a0] μ ro (fun r2 μ3 => r2 = none ∧ J μ3 0 0 16 [(0, .ref a0), (1, .int x1), (2, .int x2), (3, .int 0)] [])) ∧ (¬ (hI μ a0 1) = (-1) → Z (some (.int x1)) μ))) :
    J μ 0 0 0 [(0, .ref a0), (1, .int x1), (2, .int x2)] [] := by
  refine r_aload_n g dX6_nextNumber_0 rfl ?_
  refine r_getI g fX6_15 rfl hs_a0 dX6_nextNumber_1 ?_
  refine r_iconst g (-1) dX6_nextNumber_4 (by decide) ?_
  refine r_icmp_eq g 10 dX6_nextNumber_5 (by decide) (fun c1 => ?_) (fun c1 => ?_)
  · replace h := h.1 c1
    refine r_aload_n g dX6_nextNumber_10 rfl ?_
    obtain ⟨d1, Z1, hc1, hd1, h1⟩ := h
    refine r_callV (st := []) (As := []) g sX6_30 iX6_skipBlanks eX6_skipBlanks rfl hs_a0 rfl (Nat.le_of_ble_eq_true rfl) dX6_nextNumber_11 hd1 (Nat.le_refl 0) (Nat.le_refl 0) hc1 (fun r2 μ3 hZ1 => ?_)
    replace h := h1 _ _ hZ1
    clear h1 hc1 hd1 hZ1 Z1 d1
    obtain ⟨rfl, h⟩ := h
    refine r_iconst g 0 dX6_nextNumber_14 (by decide) ?_
    refine r_istore_n g [(3, .int 0), (0, .ref a0), (1, .int x1), (2, .int x2)] dX6_nextNumber_15 (by decide) rfl ?_
    refine r_sub g (lv' := [(0, .ref a0), (1, .int x1), (2, .int x2), (3, .int 0)]) (⟨rfl, rfl, rfl, rfl, trivial⟩) ?_
    exact h
  · replace h := h.2 c1
    refine r_iload_n g dX6_nextNumber_8 rfl ?_
    exact hr.2.1 _ rfl _ _ _ _ _ _ dX6_nextNumber_9 rfl (Nat.le_refl 0) (Nat.le_refl 0) h
set_option maxHeartbeats 4000000 in
set_option maxRecDepth 100000 in
theorem B_X6_nextNumber_16 {d : Nat} {ro : Nat → Nat} {J : JT} {Z : Option Value → Hp → Prop} (g : xCtx RX6 cX6_nextNumber 4 d 0 0 yX6_nextNumber.name ro J) (hr : xRet cX6_nextNumber (some .int) 0 0 Z J) {μ : Hp} {a0 : Nat} {x1 : Int32} {x2 : Int32} {x3 : Int32} {a0_tape : Nat} {N_a0_tape : Nat} (hs_a0 : hS μ a0 = some (10, 5)) (hr_a0_tape : hR μ a0 4 = some a0_tape) (hs_a0_tape : hS μ a0_tape = some (0, N_a0_tape)) (hd9 : 1 ≤ d)
    (h : (((hI μ a0 0) ≤ (hI μ a0 3) → J μ 0 0 91 [(0, .ref a0), (1, .int x1), (2, .int x2), (3, .int x3)] []) ∧ (¬ (hI μ a0 0) ≤ (hI μ a0 3) → vp_in (hI μ a0 3) N_a0_tape ∧ (((hI μ a0_tape ((hI μ a0 3).toNatClampNeg)) < 48 → J μ 0 0 91 [(0, .ref a0), (1, .int x1), (2, .int x2), (3, .int x3)] []) ∧ (¬ (hI μ a0_tape ((hI μ a0 3).toNatClampNeg)) < 48 → ((57 < (hI μ a0_tape ((hI μ a0 3).toNatClampNeg)) → J μ 0 0 91 [(0, .ref a0), (1, .int x1), (2, .int x2), (3, .int x3)] []) ∧ (¬ 57 < (hI μ a0_tape ((hI μ a0 3).toNatClampNeg)) → (∀ v5 : Int32, v5 = (if 1000000 < (((x3 * 10) + (hI μ a0_tape ((hI μ a0 3).toNatClampNeg))) - 48) then 1000000 else (((x3 * 10) + (hI μ a0_tape ((hI μ a0 3).toNatClampNeg))) - 48)) → J (wI μ a0 3 ((hI μ a0 3) + 1)) 0 0 16 [(0, .ref a0), (1, .int x1), (2, .int x2), (3, .int v5)] [])))))))) :
    J μ 0 0 16 [(0, .ref a0), (1, .int x1), (2, .int x2), (3, .int x3)] [] := by
  refine r_aload_n g dX6_nextNumber_16 rfl ?_
  refine r_getI g fX6_21 rfl hs_a0 dX6_nextNumber_17 ?_
  refine r_aload_n g dX6_nextNumber_20 rfl ?_
  refine r_getI g fX6_9 rfl hs_a0 dX6_nextNumber_21 ?_
  refine r_icmp_ge g 91 dX6_nextNumber_24 (by decide) (fun c1 => ?_) (fun c1 => ?_)
  · replace h := h.1 c1
    refine r_sub g (lv' := [(0, .ref a0), (1, .int x1), (2, .int x2), (3, .int x3)]) (⟨rfl, rfl, rfl, rfl, trivial⟩) ?_
    exact h
  · replace h := h.2 c1
    refine r_aload_n g dX6_nextNumber_27 rfl ?_
    refine r_getR g fX6_24 rfl hs_a0 hr_a0_tape dX6_nextNumber_28 ?_
    refine r_aload_n g dX6_nextNumber_31 rfl ?_
    refine r_getI g fX6_21 rfl hs_a0 dX6_nextNumber_32 ?_
    obtain ⟨hi2, h⟩ := h
    refine r_iaload g hs_a0_tape hi2 dX6_nextNumber_35 ?_
    refine r_bipush g 48 dX6_nextNumber_36 (by decide) ?_
    refine r_icmp_lt g 91 dX6_nextNumber_38 (by decide) (fun c3 => ?_) (fun c3 => ?_)
    · replace h := h.1 c3
      refine r_sub g (lv' := [(0, .ref a0), (1, .int x1), (2, .int x2), (3, .int x3)]) (⟨rfl, rfl, rfl, rfl, trivial⟩) ?_
      exact h
    · replace h := h.2 c3
      refine r_aload_n g dX6_nextNumber_41 rfl ?_
      refine r_getR g fX6_24 rfl hs_a0 hr_a0_tape dX6_nextNumber_42 ?_
      refine r_aload_n g dX6_nextNumber_45 rfl ?_
      refine r_getI g fX6_21 rfl hs_a0 dX6_nextNumber_46 ?_
      refine r_iaload g hs_a0_tape hi2 dX6_nextNumber_49 ?_
      refine r_bipush g 57 dX6_nextNumber_50 (by decide) ?_
      refine r_icmp_gt g 91 dX6_nextNumber_52 (by decide) (fun c4 => ?_) (fun c4 => ?_)
      · replace h := h.1 c4
        refine r_sub g (lv' := [(0, .ref a0), (1, .int x1), (2, .int x2), (3, .int x3)]) (⟨rfl, rfl, rfl, rfl, trivial⟩) ?_
        exact h
      · replace h := h.2 c4
        refine r_iload_n g dX6_nextNumber_55 rfl ?_
        refine r_bipush g 10 dX6_nextNumber_56 (by decide) ?_
        refine r_imul g dX6_nextNumber_58 ?_
        refine r_aload_n g dX6_nextNumber_59 rfl ?_
        refine r_getR g fX6_24 rfl hs_a0 hr_a0_tape dX6_nextNumber_60 ?_
        refine r_aload_n g dX6_nextNumber_63 rfl ?_
        refine r_getI g fX6_21 rfl hs_a0 dX6_nextNumber_64 ?_
        refine r_iaload g hs_a0_tape hi2 dX6_nextNumber_67 ?_
        refine r_iadd g dX6_nextNumber_68 ?_
        refine r_bipush g 48 dX6_nextNumber_69 (by decide) ?_
        refine r_isub g dX6_nextNumber_71 ?_
        refine r_ldc g 1000000 kX6_41 dX6_nextNumber_72 ?_
        refine r_mmin g tX6_42 hd9 (Nat.le_refl 0) (Nat.le_refl 0) (Nat.le_of_ble_eq_true rfl) dX6_nextNumber_74 ?_
        refine r_nmI (fun v5 ev5 => ?_)
        replace h := h v5 ev5
        refine r_istore_n g [(3, .int v5), (0, .ref a0), (1, .int x1), (2, .int x2)] dX6_nextNumber_77 (by decide) rfl ?_
        refine r_aload_n g dX6_nextNumber_78 rfl ?_
        refine r_dup g dX6_nextNumber_79 rfl ?_
        refine r_getI g fX6_21 rfl hs_a0 dX6_nextNumber_80 ?_
        refine r_iconst g 1 dX6_nextNumber_83 (by decide) ?_
        refine r_iadd g dX6_nextNumber_84 ?_
        refine r_putI g fX6_21 rfl hs_a0 rfl rfl dX6_nextNumber_85 ?_
        refine r_goto g 16 dX6_nextNumber_88 (by decide) ?_
        refine r_sub g (lv' := [(0, .ref a0), (1, .int x1), (2, .int x2), (3, .int v5)]) (⟨rfl, rfl, rfl, rfl, trivial⟩) ?_
        exact h
set_option maxHeartbeats 4000000 in
set_option maxRecDepth 100000 in
theorem B_X6_nextNumber_91 {d : Nat} {ro : Nat → Nat} {J : JT} {Z : Option Value → Hp → Prop} (g : xCtx RX6 cX6_nextNumber 4 d 0 0 yX6_nextNumber.name ro J) (hr : xRet cX6_nextNumber (some .int) 0 0 Z J) {μ : Hp} {a0 : Nat} {x1 : Int32} {x2 : Int32} {x3 : Int32} (hs_a0 : hS μ a0 = some (10, 5))
    (h : (((hI μ a0 3) = (hI μ a0 2) → xCall d yX6_fail cX6_fail 2 none [.ref a0, .int (hI μ a0 2)] μ ro (fun r2 μ3 => r2 = none ∧ Z (some (.int x1)) μ3)) ∧ (¬ (hI μ a0 3) = (hI μ a0 2) → ((x3 < x1 → xCall d yX6_fail cX6_fail 2 none [.ref a0, .int (hI μ a0 2)] μ ro (fun r5 μ6 => r5 = none ∧ Z (some (.int x1)) μ6)) ∧ (¬ x3 < x1 → ((x3 ≤ x2 → Z (some (.int x3)) μ) ∧ (¬ x3 ≤ x2 → xCall d yX6_fail cX6_fail 2 none [.ref a0, .int (hI μ a0 2)] μ ro (fun r8 μ9 => r8 = none ∧ Z (some (.int x1)) μ9)))))))) :
    J μ 0 0 91 [(0, .ref a0), (1, .int x1), (2, .int x2), (3, .int x3)] [] := by
  refine r_aload_n g dX6_nextNumber_91 rfl ?_
  refine r_getI g fX6_21 rfl hs_a0 dX6_nextNumber_92 ?_
  refine r_aload_n g dX6_nextNumber_95 rfl ?_
  refine r_getI g fX6_18 rfl hs_a0 dX6_nextNumber_96 ?_
  refine r_icmp_eq g 112 dX6_nextNumber_99 (by decide) (fun c1 => ?_) (fun c1 => ?_)
  · replace h := h.1 c1
    refine r_aload_n g dX6_nextNumber_112 rfl ?_
    refine r_aload_n g dX6_nextNumber_113 rfl ?_
    refine r_getI g fX6_18 rfl hs_a0 dX6_nextNumber_114 ?_
    obtain ⟨d1, Z1, hc1, hd1, h1⟩ := h
    refine r_callV (st := []) (As := [.int (hI μ a0 2)]) g sX6_37 iX6_fail eX6_fail rfl hs_a0 rfl (Nat.le_of_ble_eq_true rfl) dX6_nextNumber_117 hd1 (Nat.le_refl 0) (Nat.le_refl 0) hc1 (fun r2 μ3 hZ1 => ?_)
    replace h := h1 _ _ hZ1
    clear h1 hc1 hd1 hZ1 Z1 d1
    obtain ⟨rfl, h⟩ := h
    refine r_iload_n g dX6_nextNumber_120 rfl ?_
    exact hr.2.1 _ rfl _ _ _ _ _ _ dX6_nextNumber_121 rfl (Nat.le_refl 0) (Nat.le_refl 0) h
  · replace h := h.2 c1
    refine r_iload_n g dX6_nextNumber_102 rfl ?_
    refine r_iload_n g dX6_nextNumber_103 rfl ?_
    refine r_icmp_lt g 112 dX6_nextNumber_104 (by decide) (fun c4 => ?_) (fun c4 => ?_)
    · replace h := h.1 c4
      refine r_aload_n g dX6_nextNumber_112 rfl ?_
      refine r_aload_n g dX6_nextNumber_113 rfl ?_
      refine r_getI g fX6_18 rfl hs_a0 dX6_nextNumber_114 ?_
      obtain ⟨d1, Z1, hc1, hd1, h1⟩ := h
      refine r_callV (st := []) (As := [.int (hI μ a0 2)]) g sX6_37 iX6_fail eX6_fail rfl hs_a0 rfl (Nat.le_of_ble_eq_true rfl) dX6_nextNumber_117 hd1 (Nat.le_refl 0) (Nat.le_refl 0) hc1 (fun r5 μ6 hZ1 => ?_)
      replace h := h1 _ _ hZ1
      clear h1 hc1 hd1 hZ1 Z1 d1
      obtain ⟨rfl, h⟩ := h
      refine r_iload_n g dX6_nextNumber_120 rfl ?_
      exact hr.2.1 _ rfl _ _ _ _ _ _ dX6_nextNumber_121 rfl (Nat.le_refl 0) (Nat.le_refl 0) h
    · replace h := h.2 c4
      refine r_iload_n g dX6_nextNumber_107 rfl ?_
      refine r_iload_n g dX6_nextNumber_108 rfl ?_
      refine r_icmp_le g 122 dX6_nextNumber_109 (by decide) (fun c7 => ?_) (fun c7 => ?_)
      · replace h := h.1 c7
        refine r_iload_n g dX6_nextNumber_122 rfl ?_
        exact hr.2.1 _ rfl _ _ _ _ _ _ dX6_nextNumber_123 rfl (Nat.le_refl 0) (Nat.le_refl 0) h
      · replace h := h.2 c7
        refine r_aload_n g dX6_nextNumber_112 rfl ?_
        refine r_aload_n g dX6_nextNumber_113 rfl ?_
        refine r_getI g fX6_18 rfl hs_a0 dX6_nextNumber_114 ?_
        obtain ⟨d1, Z1, hc1, hd1, h1⟩ := h
        refine r_callV (st := []) (As := [.int (hI μ a0 2)]) g sX6_37 iX6_fail eX6_fail rfl hs_a0 rfl (Nat.le_of_ble_eq_true rfl) dX6_nextNumber_117 hd1 (Nat.le_refl 0) (Nat.le_refl 0) hc1 (fun r8 μ9 hZ1 => ?_)
        replace h := h1 _ _ hZ1
        clear h1 hc1 hd1 hZ1 Z1 d1
        obtain ⟨rfl, h⟩ := h
        refine r_iload_n g dX6_nextNumber_120 rfl ?_
        exact hr.2.1 _ rfl _ _ _ _ _ _ dX6_nextNumber_121 rfl (Nat.le_refl 0) (Nat.le_refl 0) h
theorem I_X6_nextNumber {d : Nat} {ro : Nat → Nat} {Z : Option Value → Hp → Prop} {μ : Hp} {a0 : Nat} {x1 : Int32} {x2 : Int32} (h : ∀ J, xCtx RX6 cX6_nextNumber 4 d 0 0 yX6_nextNumber.name ro J → xRet cX6_nextNumber (some .int) 0 0 Z J → J μ 0 0 0 [(0, .ref a0), (1, .int x1), (2, .int x2)] []) : xC d yX6_nextNumber cX6_nextNumber 4 (some .int) 0 0 [.ref a0, .int x1, .int x2] μ ro Z :=
  xC_intro (own := RX6) (lv := [(0, .ref a0), (1, .int x1), (2, .int x2)]) (by decide) rfl (Nat.le_of_ble_eq_true rfl) rfl (fun J g hr => r_sub g (lv' := [(0, .ref a0), (1, .int x1), (2, .int x2)]) (⟨rfl, rfl, rfl, trivial⟩) (h J g hr))
theorem dX6_goesOn_0 : decode cX6_goesOn 0 = .ok (.aload_n 0, 1) := by decide +kernel
theorem dX6_goesOn_1 : decode cX6_goesOn 1 = .ok (.getfield 15, 3) := by decide +kernel
theorem dX6_goesOn_4 : decode cX6_goesOn 4 = .ok (.iconst (-1), 1) := by decide +kernel
theorem dX6_goesOn_5 : decode cX6_goesOn 5 = .ok (.if_icmp .eq 5, 3) := by decide +kernel
theorem dX6_goesOn_8 : decode cX6_goesOn 8 = .ok (.iconst 0, 1) := by decide +kernel
theorem dX6_goesOn_9 : decode cX6_goesOn 9 = .ok (.ireturn, 1) := by decide +kernel
theorem dX6_goesOn_10 : decode cX6_goesOn 10 = .ok (.aload_n 0, 1) := by decide +kernel
theorem dX6_goesOn_11 : decode cX6_goesOn 11 = .ok (.invokevirtual 30, 3) := by decide +kernel
theorem dX6_goesOn_14 : decode cX6_goesOn 14 = .ok (.aload_n 0, 1) := by decide +kernel
theorem dX6_goesOn_15 : decode cX6_goesOn 15 = .ok (.getfield 21, 3) := by decide +kernel
theorem dX6_goesOn_18 : decode cX6_goesOn 18 = .ok (.aload_n 0, 1) := by decide +kernel
theorem dX6_goesOn_19 : decode cX6_goesOn 19 = .ok (.getfield 9, 3) := by decide +kernel
theorem dX6_goesOn_22 : decode cX6_goesOn 22 = .ok (.if_icmp .lt 5, 3) := by decide +kernel
theorem dX6_goesOn_25 : decode cX6_goesOn 25 = .ok (.iconst 0, 1) := by decide +kernel
theorem dX6_goesOn_26 : decode cX6_goesOn 26 = .ok (.ireturn, 1) := by decide +kernel
theorem dX6_goesOn_27 : decode cX6_goesOn 27 = .ok (.aload_n 0, 1) := by decide +kernel
theorem dX6_goesOn_28 : decode cX6_goesOn 28 = .ok (.getfield 24, 3) := by decide +kernel
theorem dX6_goesOn_31 : decode cX6_goesOn 31 = .ok (.aload_n 0, 1) := by decide +kernel
theorem dX6_goesOn_32 : decode cX6_goesOn 32 = .ok (.getfield 21, 3) := by decide +kernel
theorem dX6_goesOn_35 : decode cX6_goesOn 35 = .ok (.iaload, 1) := by decide +kernel
theorem dX6_goesOn_36 : decode cX6_goesOn 36 = .ok (.bipush 59, 2) := by decide +kernel
theorem dX6_goesOn_38 : decode cX6_goesOn 38 = .ok (.if_icmp .eq 13, 3) := by decide +kernel
theorem dX6_goesOn_41 : decode cX6_goesOn 41 = .ok (.aload_n 0, 1) := by decide +kernel
theorem dX6_goesOn_42 : decode cX6_goesOn 42 = .ok (.aload_n 0, 1) := by decide +kernel
theorem dX6_goesOn_43 : decode cX6_goesOn 43 = .ok (.getfield 21, 3) := by decide +kernel
theorem dX6_goesOn_46 : decode cX6_goesOn 46 = .ok (.invokevirtual 37, 3) := by decide +kernel
theorem dX6_goesOn_49 : decode cX6_goesOn 49 = .ok (.iconst 0, 1) := by decide +kernel
theorem dX6_goesOn_50 : decode cX6_goesOn 50 = .ok (.ireturn, 1) := by decide +kernel
theorem dX6_goesOn_51 : decode cX6_goesOn 51 = .ok (.aload_n 0, 1) := by decide +kernel
theorem dX6_goesOn_52 : decode cX6_goesOn 52 = .ok (.dup, 1) := by decide +kernel
theorem dX6_goesOn_53 : decode cX6_goesOn 53 = .ok (.getfield 21, 3) := by decide +kernel
theorem dX6_goesOn_56 : decode cX6_goesOn 56 = .ok (.iconst 1, 1) := by decide +kernel
theorem dX6_goesOn_57 : decode cX6_goesOn 57 = .ok (.iadd, 1) := by decide +kernel
theorem dX6_goesOn_58 : decode cX6_goesOn 58 = .ok (.putfield 21, 3) := by decide +kernel
theorem dX6_goesOn_61 : decode cX6_goesOn 61 = .ok (.iconst 1, 1) := by decide +kernel
theorem dX6_goesOn_62 : decode cX6_goesOn 62 = .ok (.ireturn, 1) := by decide +kernel
set_option maxHeartbeats 4000000 in
set_option maxRecDepth 100000 in
theorem B_X6_goesOn_0 {d : Nat} {ro : Nat → Nat} {J : JT} {Z : Option Value → Hp → Prop} (g : xCtx RX6 cX6_goesOn 1 d 0 0 yX6_goesOn.name ro J) (hr : xRet cX6_goesOn (some .boolean) 0 0 Z J) {μ : Hp} {a0 : Nat} (hs_a0 : hS μ a0 = some (10, 5))
    (h : (((hI μ a0 1) = (-1) → xCall d yX6_skipBlanks cX6_skipBlanks 1 none [.ref a0] μ ro (fun r2 μ3 => r2 = none ∧ hS μ3 a0 = some (10, 5) ∧ (((hI μ3 a0 3) < (hI μ3 a0 0) → ∃ tape_5 : Nat, hR μ3 a0 4 = some tape_5 ∧ ∃ N6 : Nat, hS μ3 tape_5 = some (0, N6) ∧ vp_in (hI μ3 a0 3) N6 ∧ (((hI μ3 tape_5 ((hI μ3 a0 3).toNatClampNeg)) = 59 → Z (some (.int 1)) (wI μ3 a0 3 ((hI μ3 a0 3) + 1))) ∧ (¬ (hI μ3 tape_5 ((hI μ3 a0 3).toNatClampNeg)) = 59 → xCall d yX6_fail cX6_fail 2 none [.ref a0, .int (hI μ3 a0 3)] μ3 ro (fun r9 μ10 => r9 = none ∧ Z (some (.int 0)) μ10)))) ∧ (¬ (hI μ3 a0 3) < (hI μ3 a0 0) → Z (some (.int 0)) μ3)))) ∧ (¬ (hI μ a0 1) = (-1) → Z (some (.int 0)) μ))) :
    J μ 0 0 0 [(0, .ref a0)] [] := by
  refine r_aload_n g dX6_goesOn_0 rfl ?_
  refine r_getI g fX6_15 rfl hs_a0 dX6_goesOn_1 ?_
  refine r_iconst g (-1) dX6_goesOn_4 (by decide) ?_
  refine r_icmp_eq g 10 dX6_goesOn_5 (by decide) (fun c1 => ?_) (fun c1 => ?_)
  · replace h := h.1 c1
    refine r_aload_n g dX6_goesOn_10 rfl ?_
    obtain ⟨d1, Z1, hc1, hd1, h1⟩ := h
    refine r_callV (st := []) (As := []) g sX6_30 iX6_skipBlanks eX6_skipBlanks rfl hs_a0 rfl (Nat.le_of_ble_eq_true rfl) dX6_goesOn_11 hd1 (Nat.le_refl 0) (Nat.le_refl 0) hc1 (fun r2 μ3 hZ1 => ?_)
    replace h := h1 _ _ hZ1
    clear h1 hc1 hd1 hZ1 Z1 d1
    obtain ⟨rfl, h⟩ := h
    refine r_aload_n g dX6_goesOn_14 rfl ?_
    obtain ⟨hs_a0_, h⟩ := h
    refine r_getI g fX6_21 rfl hs_a0_ dX6_goesOn_15 ?_
    refine r_aload_n g dX6_goesOn_18 rfl ?_
    refine r_getI g fX6_9 rfl hs_a0_ dX6_goesOn_19 ?_
    refine r_icmp_lt g 27 dX6_goesOn_22 (by decide) (fun c4 => ?_) (fun c4 => ?_)
    · replace h := h.1 c4
      refine r_aload_n g dX6_goesOn_27 rfl ?_
      obtain ⟨tape_5, hr_tape_5, h⟩ := h
      refine r_getR g fX6_24 rfl hs_a0_ hr_tape_5 dX6_goesOn_28 ?_
      refine r_aload_n g dX6_goesOn_31 rfl ?_
      refine r_getI g fX6_21 rfl hs_a0_ dX6_goesOn_32 ?_
      obtain ⟨N6, hs_tape_5, h⟩ := h
      obtain ⟨hi7, h⟩ := h
      refine r_iaload g hs_tape_5 hi7 dX6_goesOn_35 ?_
      refine r_bipush g 59 dX6_goesOn_36 (by decide) ?_
      refine r_icmp_eq g 51 dX6_goesOn_38 (by decide) (fun c8 => ?_) (fun c8 => ?_)
      · replace h := h.1 c8
        refine r_aload_n g dX6_goesOn_51 rfl ?_
        refine r_dup g dX6_goesOn_52 rfl ?_
        refine r_getI g fX6_21 rfl hs_a0_ dX6_goesOn_53 ?_
        refine r_iconst g 1 dX6_goesOn_56 (by decide) ?_
        refine r_iadd g dX6_goesOn_57 ?_
        refine r_putI g fX6_21 rfl hs_a0_ rfl rfl dX6_goesOn_58 ?_
        refine r_iconst g 1 dX6_goesOn_61 (by decide) ?_
        exact hr.2.1 _ rfl _ _ _ _ _ _ dX6_goesOn_62 (by decide) (Nat.le_refl 0) (Nat.le_refl 0) h
      · replace h := h.2 c8
        refine r_aload_n g dX6_goesOn_41 rfl ?_
        refine r_aload_n g dX6_goesOn_42 rfl ?_
        refine r_getI g fX6_21 rfl hs_a0_ dX6_goesOn_43 ?_
        obtain ⟨d1, Z1, hc1, hd1, h1⟩ := h
        refine r_callV (st := []) (As := [.int (hI μ3 a0 3)]) g sX6_37 iX6_fail eX6_fail rfl hs_a0_ rfl (Nat.le_of_ble_eq_true rfl) dX6_goesOn_46 hd1 (Nat.le_refl 0) (Nat.le_refl 0) hc1 (fun r9 μ10 hZ1 => ?_)
        replace h := h1 _ _ hZ1
        clear h1 hc1 hd1 hZ1 Z1 d1
        obtain ⟨rfl, h⟩ := h
        refine r_iconst g 0 dX6_goesOn_49 (by decide) ?_
        exact hr.2.1 _ rfl _ _ _ _ _ _ dX6_goesOn_50 (by decide) (Nat.le_refl 0) (Nat.le_refl 0) h
    · replace h := h.2 c4
      refine r_iconst g 0 dX6_goesOn_25 (by decide) ?_
      exact hr.2.1 _ rfl _ _ _ _ _ _ dX6_goesOn_26 (by decide) (Nat.le_refl 0) (Nat.le_refl 0) h
  · replace h := h.2 c1
    refine r_iconst g 0 dX6_goesOn_8 (by decide) ?_
    exact hr.2.1 _ rfl _ _ _ _ _ _ dX6_goesOn_9 (by decide) (Nat.le_refl 0) (Nat.le_refl 0) h
theorem I_X6_goesOn {d : Nat} {ro : Nat → Nat} {Z : Option Value → Hp → Prop} {μ : Hp} {a0 : Nat} (h : ∀ J, xCtx RX6 cX6_goesOn 1 d 0 0 yX6_goesOn.name ro J → xRet cX6_goesOn (some .boolean) 0 0 Z J → J μ 0 0 0 [(0, .ref a0)] []) : xC d yX6_goesOn cX6_goesOn 1 (some .boolean) 0 0 [.ref a0] μ ro Z :=
  xC_intro (own := RX6) (lv := [(0, .ref a0)]) (by decide) rfl (Nat.le_of_ble_eq_true rfl) rfl (fun J g hr => r_sub g (lv' := [(0, .ref a0)]) (⟨rfl, trivial⟩) (h J g hr))
