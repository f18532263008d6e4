theorem dX12_thrown_0 : decode cX12_thrown 0 = .ok (.aload_n 0, 1) := by decide +kernel
theorem dX12_thrown_1 : decode cX12_thrown 1 = .ok (.getfield 106, 3) := by decide +kernel
theorem dX12_thrown_4 : decode cX12_thrown 4 = .ok (.ireturn, 1) := by decide +kernel
set_option maxHeartbeats 4000000 in
set_option maxRecDepth 100000 in
theorem B_X12_thrown_0 {d : Nat} {ro : Nat → Nat} {J : JT} {Z : Option Value → Hp → Prop} (g : xCtx RX12 cX12_thrown 1 d 0 0 yX12_thrown.name ro J) (hr : xRet cX12_thrown (some .int) 0 0 Z J) {μ : Hp} {a0 : Nat} (hs_a0 : hS μ a0 = some (15, 65))
    (h : Z (some (.int (hI μ a0 0))) μ) :
    J μ 0 0 0 [(0, .ref a0)] [] := by
  refine r_aload_n g dX12_thrown_0 rfl ?_
  refine r_getI g fX12_106 rfl hs_a0 dX12_thrown_1 ?_
  exact hr.2.1 _ rfl _ _ _ _ _ _ dX12_thrown_4 rfl (Nat.le_refl 0) (Nat.le_refl 0) h
theorem I_X12_thrown {d : Nat} {ro : Nat → Nat} {Z : Option Value → Hp → Prop} {μ : Hp} {a0 : Nat} (h : ∀ J, xCtx RX12 cX12_thrown 1 d 0 0 yX12_thrown.name ro J → xRet cX12_thrown (some .int) 0 0 Z J → J μ 0 0 0 [(0, .ref a0)] []) : xC d yX12_thrown cX12_thrown 1 (some .int) 0 0 [.ref a0] μ ro Z :=
  xC_intro (own := RX12) (lv := [(0, .ref a0)]) (by decide) rfl (Nat.le_of_ble_eq_true rfl) rfl (fun J g hr => r_sub g (lv' := [(0, .ref a0)]) (⟨rfl, trivial⟩) (h J g hr))
theorem dX12_bytesOf_0 : decode cX12_bytesOf 0 = .ok (.iconst 0, 1) := by decide +kernel
theorem dX12_bytesOf_1 : decode cX12_bytesOf 1 = .ok (.istore_n 1, 1) := by decide +kernel
theorem dX12_bytesOf_2 : decode cX12_bytesOf 2 = .ok (.iconst 0, 1) := by decide +kernel
theorem dX12_bytesOf_3 : decode cX12_bytesOf 3 = .ok (.istore_n 2, 1) := by decide +kernel
theorem dX12_bytesOf_4 : decode cX12_bytesOf 4 = .ok (.iload_n 2, 1) := by decide +kernel
theorem dX12_bytesOf_5 : decode cX12_bytesOf 5 = .ok (.iconst 4, 1) := by decide +kernel
theorem dX12_bytesOf_6 : decode cX12_bytesOf 6 = .ok (.if_icmp .ge 30, 3) := by decide +kernel
theorem dX12_bytesOf_9 : decode cX12_bytesOf 9 = .ok (.iload_n 1, 1) := by decide +kernel
theorem dX12_bytesOf_10 : decode cX12_bytesOf 10 = .ok (.iload_n 0, 1) := by decide +kernel
theorem dX12_bytesOf_11 : decode cX12_bytesOf 11 = .ok (.bipush 8, 2) := by decide +kernel
theorem dX12_bytesOf_13 : decode cX12_bytesOf 13 = .ok (.iload_n 2, 1) := by decide +kernel
theorem dX12_bytesOf_14 : decode cX12_bytesOf 14 = .ok (.imul, 1) := by decide +kernel
theorem dX12_bytesOf_15 : decode cX12_bytesOf 15 = .ok (.ishr, 1) := by decide +kernel
theorem dX12_bytesOf_16 : decode cX12_bytesOf 16 = .ok (.sipush 255, 3) := by decide +kernel
theorem dX12_bytesOf_19 : decode cX12_bytesOf 19 = .ok (.iand, 1) := by decide +kernel
theorem dX12_bytesOf_20 : decode cX12_bytesOf 20 = .ok (.ifCond .ne 7, 3) := by decide +kernel
theorem dX12_bytesOf_23 : decode cX12_bytesOf 23 = .ok (.iconst 0, 1) := by decide +kernel
theorem dX12_bytesOf_24 : decode cX12_bytesOf 24 = .ok (.goto 4, 3) := by decide +kernel
theorem dX12_bytesOf_27 : decode cX12_bytesOf 27 = .ok (.iconst 1, 1) := by decide +kernel
theorem dX12_bytesOf_28 : decode cX12_bytesOf 28 = .ok (.iadd, 1) := by decide +kernel
theorem dX12_bytesOf_29 : decode cX12_bytesOf 29 = .ok (.istore_n 1, 1) := by decide +kernel
theorem dX12_bytesOf_30 : decode cX12_bytesOf 30 = .ok (.iinc 2 1, 3) := by decide +kernel
theorem dX12_bytesOf_33 : decode cX12_bytesOf 33 = .ok (.goto (-29), 3) := by decide +kernel
theorem dX12_bytesOf_36 : decode cX12_bytesOf 36 = .ok (.iload_n 1, 1) := by decide +kernel
theorem dX12_bytesOf_37 : decode cX12_bytesOf 37 = .ok (.ireturn, 1) := by decide +kernel
set_option maxHeartbeats 4000000 in
set_option maxRecDepth 100000 in
theorem B_X12_bytesOf_0 {d : Nat} {ro : Nat → Nat} {J : JT} {Z : Option Value → Hp → Prop} (g : xCtx RX12 cX12_bytesOf 3 d 0 0 yX12_bytesOf.name ro J) (hr : xRet cX12_bytesOf (some .int) 0 0 Z J) {μ : Hp} {x0 : Int32} 
    (h : J μ 0 0 4 [(0, .int x0), (1, .int 0), (2, .int 0)] []) :
    J μ 0 0 0 [(0, .int x0)] [] := by
  refine r_iconst g 0 dX12_bytesOf_0 (by decide) ?_
  refine r_istore_n g [(1, .int 0), (0, .int x0)] dX12_bytesOf_1 (by decide) rfl ?_
  refine r_iconst g 0 dX12_bytesOf_2 (by decide) ?_
  refine r_istore_n g [(2, .int 0), (1, .int 0), (0, .int x0)] dX12_bytesOf_3 (by decide) rfl ?_
  refine r_sub g (lv' := [(0, .int x0), (1, .int 0), (2, .int 0)]) (⟨rfl, rfl, rfl, trivial⟩) ?_
  exact h
set_option maxHeartbeats 4000000 in
set_option maxRecDepth 100000 in
theorem B_X12_bytesOf_4 {d : Nat} {ro : Nat → Nat} {J : JT} {Z : Option Value → Hp → Prop} (g : xCtx RX12 cX12_bytesOf 3 d 0 0 yX12_bytesOf.name ro J) (hr : xRet cX12_bytesOf (some .int) 0 0 Z J) {μ : Hp} {x0 : Int32} {x1 : Int32} {x2 : Int32} 
    (h : ((4 ≤ x2 → Z (some (.int x1)) μ) ∧ (¬ 4 ≤ x2 → ((¬ ((x0 >>> ((8 * x2) &&& 31)) &&& 255) = 0 → J μ 0 0 4 [(0, .int x0), (1, .int (x1 + 1)), (2, .int (x2 + 1))] []) ∧ (((x0 >>> ((8 * x2) &&& 31)) &&& 255) = 0 → J μ 0 0 4 [(0, .int x0), (1, .int (x1 + 0)), (2, .int (x2 + 1))] []))))) :
    J μ 0 0 4 [(0, .int x0), (1, .int x1), (2, .int x2)] [] := by
  refine r_iload_n g dX12_bytesOf_4 rfl ?_
  refine r_iconst g 4 dX12_bytesOf_5 (by decide) ?_
  refine r_icmp_ge g 36 dX12_bytesOf_6 (by decide) (fun c1 => ?_) (fun c1 => ?_)
  · replace h := h.1 c1
    refine r_iload_n g dX12_bytesOf_36 rfl ?_
    exact hr.2.1 _ rfl _ _ _ _ _ _ dX12_bytesOf_37 rfl (Nat.le_refl 0) (Nat.le_refl 0) h
  · replace h := h.2 c1
    refine r_iload_n g dX12_bytesOf_9 rfl ?_
    refine r_iload_n g dX12_bytesOf_10 rfl ?_
    refine r_bipush g 8 dX12_bytesOf_11 (by decide) ?_
    refine r_iload_n g dX12_bytesOf_13 rfl ?_
    refine r_imul g dX12_bytesOf_14 ?_
    refine r_ishr g dX12_bytesOf_15 ?_
    refine r_sipush g 255 dX12_bytesOf_16 (by decide) ?_
    refine r_iand g dX12_bytesOf_19 ?_
    refine r_if_ne g 27 dX12_bytesOf_20 (by decide) (fun c2 => ?_) (fun c2 => ?_)
    · replace h := h.1 c2
      refine r_iconst g 1 dX12_bytesOf_27 (by decide) ?_
      refine r_iadd g dX12_bytesOf_28 ?_
      refine r_istore_n g [(1, .int (x1 + 1)), (0, .int x0), (2, .int x2)] dX12_bytesOf_29 (by decide) rfl ?_
      refine r_iinc g (x2 + 1) [(2, .int (x2 + 1)), (1, .int (x1 + 1)), (0, .int x0)] dX12_bytesOf_30 rfl rfl (by decide) rfl ?_
      refine r_goto g 4 dX12_bytesOf_33 (by decide) ?_
      refine r_sub g (lv' := [(0, .int x0), (1, .int (x1 + 1)), (2, .int (x2 + 1))]) (⟨rfl, rfl, rfl, trivial⟩) ?_
      exact h
    · replace h := h.2 c2
      refine r_iconst g 0 dX12_bytesOf_23 (by decide) ?_
      refine r_goto g 28 dX12_bytesOf_24 (by decide) ?_
      refine r_iadd g dX12_bytesOf_28 ?_
      refine r_istore_n g [(1, .int (x1 + 0)), (0, .int x0), (2, .int x2)] dX12_bytesOf_29 (by decide) rfl ?_
      refine r_iinc g (x2 + 1) [(2, .int (x2 + 1)), (1, .int (x1 + 0)), (0, .int x0)] dX12_bytesOf_30 rfl rfl (by decide) rfl ?_
      refine r_goto g 4 dX12_bytesOf_33 (by decide) ?_
      refine r_sub g (lv' := [(0, .int x0), (1, .int (x1 + 0)), (2, .int (x2 + 1))]) (⟨rfl, rfl, rfl, trivial⟩) ?_
      exact h
theorem I_X12_bytesOf {d : Nat} {ro : Nat → Nat} {Z : Option Value → Hp → Prop} {μ : Hp} {x0 : Int32} (h : ∀ J, xCtx RX12 cX12_bytesOf 3 d 0 0 yX12_bytesOf.name ro J → xRet cX12_bytesOf (some .int) 0 0 Z J → J μ 0 0 0 [(0, .int x0)] []) : xC d yX12_bytesOf cX12_bytesOf 3 (some .int) 0 0 [.int x0] μ ro Z :=
  xC_intro (own := RX12) (lv := [(0, .int x0)]) (by decide) rfl (Nat.le_of_ble_eq_true rfl) rfl (fun J g hr => r_sub g (lv' := [(0, .int x0)]) (⟨rfl, trivial⟩) (h J g hr))
theorem dX12_brings_0 : decode cX12_brings 0 = .ok (.bipush 24, 2) := by decide +kernel
theorem dX12_brings_2 : decode cX12_brings 2 = .ok (.istore_n 2, 1) := by decide +kernel
theorem dX12_brings_3 : decode cX12_brings 3 = .ok (.iload_n 2, 1) := by decide +kernel
theorem dX12_brings_4 : decode cX12_brings 4 = .ok (.ifCond .lt 45, 3) := by decide +kernel
theorem dX12_brings_7 : decode cX12_brings 7 = .ok (.iload_n 1, 1) := by decide +kernel
theorem dX12_brings_8 : decode cX12_brings 8 = .ok (.iload_n 2, 1) := by decide +kernel
theorem dX12_brings_9 : decode cX12_brings 9 = .ok (.ishr, 1) := by decide +kernel
theorem dX12_brings_10 : decode cX12_brings 10 = .ok (.sipush 255, 3) := by decide +kernel
theorem dX12_brings_13 : decode cX12_brings 13 = .ok (.iand, 1) := by decide +kernel
theorem dX12_brings_14 : decode cX12_brings 14 = .ok (.istore_n 3, 1) := by decide +kernel
theorem dX12_brings_15 : decode cX12_brings 15 = .ok (.iload_n 3, 1) := by decide +kernel
theorem dX12_brings_16 : decode cX12_brings 16 = .ok (.ifCond .ne 6, 3) := by decide +kernel
theorem dX12_brings_19 : decode cX12_brings 19 = .ok (.goto 24, 3) := by decide +kernel
theorem dX12_brings_22 : decode cX12_brings 22 = .ok (.aload_n 0, 1) := by decide +kernel
theorem dX12_brings_23 : decode cX12_brings 23 = .ok (.getfield 9, 3) := by decide +kernel
theorem dX12_brings_26 : decode cX12_brings 26 = .ok (.aload_n 0, 1) := by decide +kernel
theorem dX12_brings_27 : decode cX12_brings 27 = .ok (.getfield 109, 3) := by decide +kernel
theorem dX12_brings_30 : decode cX12_brings 30 = .ok (.iload_n 3, 1) := by decide +kernel
theorem dX12_brings_31 : decode cX12_brings 31 = .ok (.i2b, 1) := by decide +kernel
theorem dX12_brings_32 : decode cX12_brings 32 = .ok (.bastore, 1) := by decide +kernel
theorem dX12_brings_33 : decode cX12_brings 33 = .ok (.aload_n 0, 1) := by decide +kernel
theorem dX12_brings_34 : decode cX12_brings 34 = .ok (.dup, 1) := by decide +kernel
theorem dX12_brings_35 : decode cX12_brings 35 = .ok (.getfield 109, 3) := by decide +kernel
theorem dX12_brings_38 : decode cX12_brings 38 = .ok (.iconst 1, 1) := by decide +kernel
theorem dX12_brings_39 : decode cX12_brings 39 = .ok (.iadd, 1) := by decide +kernel
theorem dX12_brings_40 : decode cX12_brings 40 = .ok (.putfield 109, 3) := by decide +kernel
theorem dX12_brings_43 : decode cX12_brings 43 = .ok (.iinc 2 (-8), 3) := by decide +kernel
theorem dX12_brings_46 : decode cX12_brings 46 = .ok (.goto (-43), 3) := by decide +kernel
theorem dX12_brings_49 : decode cX12_brings 49 = .ok (.return_, 1) := by decide +kernel
set_option maxHeartbeats 4000000 in
set_option maxRecDepth 100000 in
theorem B_X12_brings_0 {d : Nat} {ro : Nat → Nat} {J : JT} {Z : Option Value → Hp → Prop} (g : xCtx RX12 cX12_brings 4 d 0 0 yX12_brings.name ro J) (hr : xRet cX12_brings none 0 0 Z J) {μ : Hp} {a0 : Nat} {x1 : Int32} 
    (h : J μ 0 0 3 [(0, .ref a0), (1, .int x1), (2, .int 24)] []) :
    J μ 0 0 0 [(0, .ref a0), (1, .int x1)] [] := by
  refine r_bipush g 24 dX12_brings_0 (by decide) ?_
  refine r_istore_n g [(2, .int 24), (0, .ref a0), (1, .int x1)] dX12_brings_2 (by decide) rfl ?_
  refine r_sub g (lv' := [(0, .ref a0), (1, .int x1), (2, .int 24)]) (⟨rfl, rfl, rfl, trivial⟩) ?_
  exact h
set_option maxHeartbeats 4000000 in
set_option maxRecDepth 100000 in
theorem B_X12_brings_3 {d : Nat} {ro : Nat → Nat} {J : JT} {Z : Option Value → Hp → Prop} (g : xCtx RX12 cX12_brings 4 d 0 0 yX12_brings.name ro J) (hr : xRet cX12_brings none 0 0 Z J) {μ : Hp} {a0 : Nat} {x1 : Int32} {x2 : Int32} {a0_tape : Nat} {N_a0_tape : Nat} (hs_a0 : hS μ a0 = some (15, 65)) (hr_a0_tape : hR μ a0 1 = some a0_tape) (hs_a0_tape : hS μ a0_tape = some (1, N_a0_tape))
    (h : ((x2 < 0 → Z none μ) ∧ (¬ x2 < 0 → ((¬ ((x1 >>> (x2 &&& 31)) &&& 255) = 0 → vp_in (hI μ a0 2) N_a0_tape ∧ (∀ v4 : Int32, v4 = (hI (wI μ a0_tape ((hI μ a0 2).toNatClampNeg) (vp_nar .byte (((x1 >>> (x2 &&& 31)) &&& 255).toInt8.toInt32))) a0 2) → J (wI (wI μ a0_tape ((hI μ a0 2).toNatClampNeg) (vp_nar .byte (((x1 >>> (x2 &&& 31)) &&& 255).toInt8.toInt32))) a0 2 (v4 + 1)) 0 0 3 [(0, .ref a0), (1, .int x1), (2, .int (x2 + (-8)))] [])) ∧ (((x1 >>> (x2 &&& 31)) &&& 255) = 0 → J μ 0 0 3 [(0, .ref a0), (1, .int x1), (2, .int (x2 + (-8)))] []))))) :
    J μ 0 0 3 [(0, .ref a0), (1, .int x1), (2, .int x2)] [] := by
  refine r_iload_n g dX12_brings_3 rfl ?_
  refine r_if_lt g 49 dX12_brings_4 (by decide) (fun c1 => ?_) (fun c1 => ?_)
  · replace h := h.1 c1
    exact hr.1 rfl _ _ _ _ _ dX12_brings_49 (Nat.le_refl 0) (Nat.le_refl 0) h
  · replace h := h.2 c1
    refine r_iload_n g dX12_brings_7 rfl ?_
    refine r_iload_n g dX12_brings_8 rfl ?_
    refine r_ishr g dX12_brings_9 ?_
    refine r_sipush g 255 dX12_brings_10 (by decide) ?_
    refine r_iand g dX12_brings_13 ?_
    refine r_istore_n g [(3, .int ((x1 >>> (x2 &&& 31)) &&& 255)), (0, .ref a0), (1, .int x1), (2, .int x2)] dX12_brings_14 (by decide) rfl ?_
    refine r_iload_n g dX12_brings_15 rfl ?_
    refine r_if_ne g 22 dX12_brings_16 (by decide) (fun c2 => ?_) (fun c2 => ?_)
    · replace h := h.1 c2
      refine r_aload_n g dX12_brings_22 rfl ?_
      refine r_getR g fX12_9 rfl hs_a0 hr_a0_tape dX12_brings_23 ?_
      refine r_aload_n g dX12_brings_26 rfl ?_
      refine r_getI g fX12_109 rfl hs_a0 dX12_brings_27 ?_
      refine r_iload_n g dX12_brings_30 rfl ?_
      refine r_i2b g dX12_brings_31 ?_
      obtain ⟨hi3, h⟩ := h
      refine r_bastore g hs_a0_tape hi3 dX12_brings_32 ?_
      refine r_aload_n g dX12_brings_33 rfl ?_
      refine r_dup g dX12_brings_34 rfl ?_
      refine r_getI g fX12_109 rfl hs_a0 dX12_brings_35 ?_
      refine r_nmI (fun v4 ev4 => ?_)
      replace h := h v4 ev4
      refine r_iconst g 1 dX12_brings_38 (by decide) ?_
      refine r_iadd g dX12_brings_39 ?_
      refine r_putI g fX12_109 rfl hs_a0 rfl rfl dX12_brings_40 ?_
      refine r_iinc g (x2 + (-8)) [(2, .int (x2 + (-8))), (3, .int ((x1 >>> (x2 &&& 31)) &&& 255)), (0, .ref a0), (1, .int x1)] dX12_brings_43 rfl rfl (by decide) rfl ?_
      refine r_goto g 3 dX12_brings_46 (by decide) ?_
      refine r_sub g (lv' := [(0, .ref a0), (1, .int x1), (2, .int (x2 + (-8)))]) (⟨rfl, rfl, rfl, trivial⟩) ?_
      exact h
    · replace h := h.2 c2
      refine r_goto g 43 dX12_brings_19 (by decide) ?_
      refine r_iinc g (x2 + (-8)) [(2, .int (x2 + (-8))), (3, .int ((x1 >>> (x2 &&& 31)) &&& 255)), (0, .ref a0), (1, .int x1)] dX12_brings_43 rfl rfl (by decide) rfl ?_
      refine r_goto g 3 dX12_brings_46 (by decide) ?_
      refine r_sub g (lv' := [(0, .ref a0), (1, .int x1), (2, .int (x2 + (-8)))]) (⟨rfl, rfl, rfl, trivial⟩) ?_
      exact h
theorem I_X12_brings {d : Nat} {ro : Nat → Nat} {Z : Option Value → Hp → Prop} {μ : Hp} {a0 : Nat} {x1 : Int32} (h : ∀ J, xCtx RX12 cX12_brings 4 d 0 0 yX12_brings.name ro J → xRet cX12_brings none 0 0 Z J → J μ 0 0 0 [(0, .ref a0), (1, .int x1)] []) : xC d yX12_brings cX12_brings 4 none 0 0 [.ref a0, .int x1] μ ro Z :=
  xC_intro (own := RX12) (lv := [(0, .ref a0), (1, .int x1)]) (by decide) rfl (Nat.le_of_ble_eq_true rfl) rfl (fun J g hr => r_sub g (lv' := [(0, .ref a0), (1, .int x1)]) (⟨rfl, rfl, trivial⟩) (h J g hr))
theorem dX12_feed_0 : decode cX12_feed 0 = .ok (.aload_n 0, 1) := by decide +kernel
theorem dX12_feed_1 : decode cX12_feed 1 = .ok (.iconst 0, 1) := by decide +kernel
theorem dX12_feed_2 : decode cX12_feed 2 = .ok (.putfield 106, 3) := by decide +kernel
theorem dX12_feed_5 : decode cX12_feed 5 = .ok (.aload_n 0, 1) := by decide +kernel
theorem dX12_feed_6 : decode cX12_feed 6 = .ok (.getfield 109, 3) := by decide +kernel
theorem dX12_feed_9 : decode cX12_feed 9 = .ok (.iload_n 1, 1) := by decide +kernel
theorem dX12_feed_10 : decode cX12_feed 10 = .ok (.invokestatic 112, 3) := by decide +kernel
theorem dX12_feed_13 : decode cX12_feed 13 = .ok (.iadd, 1) := by decide +kernel
theorem dX12_feed_14 : decode cX12_feed 14 = .ok (.iload_n 2, 1) := by decide +kernel
theorem dX12_feed_15 : decode cX12_feed 15 = .ok (.invokestatic 112, 3) := by decide +kernel
theorem dX12_feed_18 : decode cX12_feed 18 = .ok (.iadd, 1) := by decide +kernel
theorem dX12_feed_19 : decode cX12_feed 19 = .ok (.iload_n 3, 1) := by decide +kernel
theorem dX12_feed_20 : decode cX12_feed 20 = .ok (.invokestatic 112, 3) := by decide +kernel
theorem dX12_feed_23 : decode cX12_feed 23 = .ok (.iadd, 1) := by decide +kernel
theorem dX12_feed_24 : decode cX12_feed 24 = .ok (.iload 4, 2) := by decide +kernel
theorem dX12_feed_26 : decode cX12_feed 26 = .ok (.invokestatic 112, 3) := by decide +kernel
theorem dX12_feed_29 : decode cX12_feed 29 = .ok (.iadd, 1) := by decide +kernel
theorem dX12_feed_30 : decode cX12_feed 30 = .ok (.iload 5, 2) := by decide +kernel
theorem dX12_feed_32 : decode cX12_feed 32 = .ok (.invokestatic 112, 3) := by decide +kernel
theorem dX12_feed_35 : decode cX12_feed 35 = .ok (.iadd, 1) := by decide +kernel
theorem dX12_feed_36 : decode cX12_feed 36 = .ok (.sipush 400, 3) := by decide +kernel
theorem dX12_feed_39 : decode cX12_feed 39 = .ok (.if_icmp .le 5, 3) := by decide +kernel
theorem dX12_feed_42 : decode cX12_feed 42 = .ok (.iconst (-1), 1) := by decide +kernel
theorem dX12_feed_43 : decode cX12_feed 43 = .ok (.ireturn, 1) := by decide +kernel
theorem dX12_feed_44 : decode cX12_feed 44 = .ok (.aload_n 0, 1) := by decide +kernel
theorem dX12_feed_45 : decode cX12_feed 45 = .ok (.iload_n 1, 1) := by decide +kernel
theorem dX12_feed_46 : decode cX12_feed 46 = .ok (.invokevirtual 116, 3) := by decide +kernel
theorem dX12_feed_49 : decode cX12_feed 49 = .ok (.aload_n 0, 1) := by decide +kernel
theorem dX12_feed_50 : decode cX12_feed 50 = .ok (.iload_n 2, 1) := by decide +kernel
theorem dX12_feed_51 : decode cX12_feed 51 = .ok (.invokevirtual 116, 3) := by decide +kernel
theorem dX12_feed_54 : decode cX12_feed 54 = .ok (.aload_n 0, 1) := by decide +kernel
theorem dX12_feed_55 : decode cX12_feed 55 = .ok (.iload_n 3, 1) := by decide +kernel
theorem dX12_feed_56 : decode cX12_feed 56 = .ok (.invokevirtual 116, 3) := by decide +kernel
theorem dX12_feed_59 : decode cX12_feed 59 = .ok (.aload_n 0, 1) := by decide +kernel
theorem dX12_feed_60 : decode cX12_feed 60 = .ok (.iload 4, 2) := by decide +kernel
theorem dX12_feed_62 : decode cX12_feed 62 = .ok (.invokevirtual 116, 3) := by decide +kernel
theorem dX12_feed_65 : decode cX12_feed 65 = .ok (.aload_n 0, 1) := by decide +kernel
theorem dX12_feed_66 : decode cX12_feed 66 = .ok (.iload 5, 2) := by decide +kernel
theorem dX12_feed_68 : decode cX12_feed 68 = .ok (.invokevirtual 116, 3) := by decide +kernel
theorem dX12_feed_71 : decode cX12_feed 71 = .ok (.aload_n 0, 1) := by decide +kernel
theorem dX12_feed_72 : decode cX12_feed 72 = .ok (.getfield 109, 3) := by decide +kernel
theorem dX12_feed_75 : decode cX12_feed 75 = .ok (.ireturn, 1) := by decide +kernel
set_option maxHeartbeats 4000000 in
set_option maxRecDepth 100000 in
theorem B_X12_feed_0 {d : Nat} {ro : Nat → Nat} {J : JT} {Z : Option Value → Hp → Prop} (g : xCtx RX12 cX12_feed 6 d 0 0 yX12_feed.name ro J) (hr : xRet cX12_feed (some .int) 0 0 Z J) {μ : Hp} {a0 : Nat} {x1 : Int32} {x2 : Int32} {x3 : Int32} {x4 : Int32} {x5 : Int32} (hs_a0 : hS μ a0 = some (15, 65))
    (h : xCall d yX12_bytesOf cX12_bytesOf 3 (some .int) [.int x1] (wI μ a0 0 0) ro (fun r1 μ2 => ∃ y3 : Int32, r1 = some (.int y3) ∧ xCall d yX12_bytesOf cX12_bytesOf 3 (some .int) [.int x2] μ2 ro (fun r4 μ5 => ∃ y6 : Int32, r4 = some (.int y6) ∧ xCall d yX12_bytesOf cX12_bytesOf 3 (some .int) [.int x3] μ5 ro (fun r7 μ8 => ∃ y9 : Int32, r7 = some (.int y9) ∧ xCall d yX12_bytesOf cX12_bytesOf 3 (some .int) [.int x4] μ8 ro (fun r10 μ11 => ∃ y12 : Int32, r10 = some (.int y12) ∧ xCall d yX12_bytesOf cX12_bytesOf 3 (some .int) [.int x5] μ11 ro (fun r13 μ14 => ∃ y15 : Int32, r13 = some (.int y15) ∧ ((((((((hI (wI μ a0 0 0) a0 2) + y3) + y6) + y9) + y12) + y15) ≤ 400 → hS μ14 a0 = some (15, 65) ∧ xCall d yX12_brings cX12_brings 4 none [.ref a0, .int x1] μ14 ro (fun r17 μ18 => r17 = none ∧ hS μ18 a0 = some (15, 65) ∧ xCall d yX12_brings cX12_brings 4 none [.ref a0, .int x2] μ18 ro (fun r19 μ20 => r19 = none ∧ hS μ20 a0 = some (15, 65) ∧ xCall d yX12_brings cX12_brings 4 none [.ref a0, .int x3] μ20 ro (fun r21 μ22 => r21 = none ∧ hS μ22 a0 = some (15, 65) ∧ xCall d yX12_brings cX12_brings 4 none [.ref a0, .int x4] μ22 ro (fun r23 μ24 => r23 = none ∧ hS μ24 a0 = some (15, 65) ∧ xCall d yX12_brings cX12_brings 4 none [.ref a0, .int x5] μ24 ro (fun r25 μ26 => r25 = none ∧ hS μ26 a0 = some (15, 65) ∧ Z (some (.int (hI μ26 a0 2))) μ26)))))) ∧ (¬ ((((((hI (wI μ a0 0 0) a0 2) + y3) + y6) + y9) + y12) + y15) ≤ 400 → Z (some (.int (-1))) μ14)))))))) :
    J μ 0 0 0 [(0, .ref a0), (1, .int x1), (2, .int x2), (3, .int x3), (4, .int x4), (5, .int x5)] [] := by
  refine r_aload_n g dX12_feed_0 rfl ?_
  refine r_iconst g 0 dX12_feed_1 (by decide) ?_
  refine r_putI g fX12_106 rfl hs_a0 rfl rfl dX12_feed_2 ?_
  refine r_aload_n g dX12_feed_5 rfl ?_
  refine r_getI g fX12_109 rfl hs_a0 dX12_feed_6 ?_
  refine r_iload_n g dX12_feed_9 rfl ?_
  obtain ⟨d1, Z1, hc1, hd1, h1⟩ := h
  refine r_callS (st := [.int (hI (wI μ a0 0 0) a0 2)]) (As := [.int x1]) g sX12_112 iX12_bytesOf rfl (Nat.le_of_ble_eq_true rfl) dX12_feed_10 hd1 (Nat.le_refl 0) (Nat.le_refl 0) hc1 (fun r1 μ2 hZ1 => ?_)
  replace h := h1 _ _ hZ1
  clear h1 hc1 hd1 hZ1 Z1 d1
  obtain ⟨y3, rfl, h⟩ := h
  refine r_iadd g dX12_feed_13 ?_
  refine r_iload_n g dX12_feed_14 rfl ?_
  obtain ⟨d1, Z1, hc1, hd1, h1⟩ := h
  refine r_callS (st := [.int ((hI (wI μ a0 0 0) a0 2) + y3)]) (As := [.int x2]) g sX12_112 iX12_bytesOf rfl (Nat.le_of_ble_eq_true rfl) dX12_feed_15 hd1 (Nat.le_refl 0) (Nat.le_refl 0) hc1 (fun r4 μ5 hZ1 => ?_)
  replace h := h1 _ _ hZ1
  clear h1 hc1 hd1 hZ1 Z1 d1
  obtain ⟨y6, rfl, h⟩ := h
  refine r_iadd g dX12_feed_18 ?_
  refine r_iload_n g dX12_feed_19 rfl ?_
  obtain ⟨d1, Z1, hc1, hd1, h1⟩ := h
  refine r_callS (st := [.int (((hI (wI μ a0 0 0) a0 2) + y3) + y6)]) (As := [.int x3]) g sX12_112 iX12_bytesOf rfl (Nat.le_of_ble_eq_true rfl) dX12_feed_20 hd1 (Nat.le_refl 0) (Nat.le_refl 0) hc1 (fun r7 μ8 hZ1 => ?_)
  replace h := h1 _ _ hZ1
  clear h1 hc1 hd1 hZ1 Z1 d1
  obtain ⟨y9, rfl, h⟩ := h
  refine r_iadd g dX12_feed_23 ?_
  refine r_iload g dX12_feed_24 rfl ?_
  obtain ⟨d1, Z1, hc1, hd1, h1⟩ := h
  refine r_callS (st := [.int ((((hI (wI μ a0 0 0) a0 2) + y3) + y6) + y9)]) (As := [.int x4]) g sX12_112 iX12_bytesOf rfl (Nat.le_of_ble_eq_true rfl) dX12_feed_26 hd1 (Nat.le_refl 0) (Nat.le_refl 0) hc1 (fun r10 μ11 hZ1 => ?_)
  replace h := h1 _ _ hZ1
  clear h1 hc1 hd1 hZ1 Z1 d1
  obtain ⟨y12, rfl, h⟩ := h
  refine r_iadd g dX12_feed_29 ?_
  refine r_iload g dX12_feed_30 rfl ?_
  obtain ⟨d1, Z1, hc1, hd1, h1⟩ := h
  refine r_callS (st := [.int (((((hI (wI μ a0 0 0) a0 2) + y3) + y6) + y9) + y12)]) (As := [.int x5]) g sX12_112 iX12_bytesOf rfl (Nat.le_of_ble_eq_true rfl) dX12_feed_32 hd1 (Nat.le_refl 0) (Nat.le_refl 0) hc1 (fun r13 μ14 hZ1 => ?_)
  replace h := h1 _ _ hZ1
  clear h1 hc1 hd1 hZ1 Z1 d1
  obtain ⟨y15, rfl, h⟩ := h
  refine r_iadd g dX12_feed_35 ?_
  refine r_sipush g 400 dX12_feed_36 (by decide) ?_
  refine r_icmp_le g 44 dX12_feed_39 (by decide) (fun c16 => ?_) (fun c16 => ?_)
  · replace h := h.1 c16
    refine r_aload_n g dX12_feed_44 rfl ?_
    refine r_iload_n g dX12_feed_45 rfl ?_
    obtain ⟨hs_a0_, h⟩ := h
    obtain ⟨d1, Z1, hc1, hd1, h1⟩ := h
    refine r_callV (st := []) (As := [.int x1]) g sX12_116 iX12_brings eX12_brings rfl hs_a0_ rfl (Nat.le_of_ble_eq_true rfl) dX12_feed_46 hd1 (Nat.le_refl 0) (Nat.le_refl 0) hc1 (fun r17 μ18 hZ1 => ?_)
    replace h := h1 _ _ hZ1
    clear h1 hc1 hd1 hZ1 Z1 d1
    obtain ⟨rfl, h⟩ := h
    refine r_aload_n g dX12_feed_49 rfl ?_
    refine r_iload_n g dX12_feed_50 rfl ?_
    obtain ⟨hs_a0__, h⟩ := h
    obtain ⟨d1, Z1, hc1, hd1, h1⟩ := h
    refine r_callV (st := []) (As := [.int x2]) g sX12_116 iX12_brings eX12_brings rfl hs_a0__ rfl (Nat.le_of_ble_eq_true rfl) dX12_feed_51 hd1 (Nat.le_refl 0) (Nat.le_refl 0) hc1 (fun r19 μ20 hZ1 => ?_)
    replace h := h1 _ _ hZ1
    clear h1 hc1 hd1 hZ1 Z1 d1
    obtain ⟨rfl, h⟩ := h
    refine r_aload_n g dX12_feed_54 rfl ?_
    refine r_iload_n g dX12_feed_55 rfl ?_
    obtain ⟨hs_a0___, h⟩ := h
    obtain ⟨d1, Z1, hc1, hd1, h1⟩ := h
    refine r_callV (st := []) (As := [.int x3]) g sX12_116 iX12_brings eX12_brings rfl hs_a0___ rfl (Nat.le_of_ble_eq_true rfl) dX12_feed_56 hd1 (Nat.le_refl 0) (Nat.le_refl 0) hc1 (fun r21 μ22 hZ1 => ?_)
    replace h := h1 _ _ hZ1
    clear h1 hc1 hd1 hZ1 Z1 d1
    obtain ⟨rfl, h⟩ := h
    refine r_aload_n g dX12_feed_59 rfl ?_
    refine r_iload g dX12_feed_60 rfl ?_
    obtain ⟨hs_a0____, h⟩ := h
    obtain ⟨d1, Z1, hc1, hd1, h1⟩ := h
    refine r_callV (st := []) (As := [.int x4]) g sX12_116 iX12_brings eX12_brings rfl hs_a0____ rfl (Nat.le_of_ble_eq_true rfl) dX12_feed_62 hd1 (Nat.le_refl 0) (Nat.le_refl 0) hc1 (fun r23 μ24 hZ1 => ?_)
    replace h := h1 _ _ hZ1
    clear h1 hc1 hd1 hZ1 Z1 d1
    obtain ⟨rfl, h⟩ := h
    refine r_aload_n g dX12_feed_65 rfl ?_
    refine r_iload g dX12_feed_66 rfl ?_
    obtain ⟨hs_a0_____, h⟩ := h
    obtain ⟨d1, Z1, hc1, hd1, h1⟩ := h
    refine r_callV (st := []) (As := [.int x5]) g sX12_116 iX12_brings eX12_brings rfl hs_a0_____ rfl (Nat.le_of_ble_eq_true rfl) dX12_feed_68 hd1 (Nat.le_refl 0) (Nat.le_refl 0) hc1 (fun r25 μ26 hZ1 => ?_)
    replace h := h1 _ _ hZ1
    clear h1 hc1 hd1 hZ1 Z1 d1
    obtain ⟨rfl, h⟩ := h
    refine r_aload_n g dX12_feed_71 rfl ?_
    obtain ⟨hs_a0______, h⟩ := h
    refine r_getI g fX12_109 rfl hs_a0______ dX12_feed_72 ?_
    exact hr.2.1 _ rfl _ _ _ _ _ _ dX12_feed_75 rfl (Nat.le_refl 0) (Nat.le_refl 0) h
  · replace h := h.2 c16
    refine r_iconst g (-1) dX12_feed_42 (by decide) ?_
    exact hr.2.1 _ rfl _ _ _ _ _ _ dX12_feed_43 rfl (Nat.le_refl 0) (Nat.le_refl 0) h
theorem I_X12_feed {d : Nat} {ro : Nat → Nat} {Z : Option Value → Hp → Prop} {μ : Hp} {a0 : Nat} {x1 : Int32} {x2 : Int32} {x3 : Int32} {x4 : Int32} {x5 : Int32} (h : ∀ J, xCtx RX12 cX12_feed 6 d 0 0 yX12_feed.name ro J → xRet cX12_feed (some .int) 0 0 Z J → J μ 0 0 0 [(0, .ref a0), (1, .int x1), (2, .int x2), (3, .int x3), (4, .int x4), (5, .int x5)] []) : xC d yX12_feed cX12_feed 6 (some .int) 0 0 [.ref a0, .int x1, .int x2, .int x3, .int x4, .int x5] μ ro Z :=
  xC_intro (own := RX12) (lv := [(0, .ref a0), (1, .int x1), (2, .int x2), (3, .int x3), (4, .int x4), (5, .int x5)]) (by decide) rfl (Nat.le_of_ble_eq_true rfl) rfl (fun J g hr => r_sub g (lv' := [(0, .ref a0), (1, .int x1), (2, .int x2), (3, .int x3), (4, .int x4), (5, .int x5)]) (⟨rfl, rfl, rfl, rfl, rfl, rfl, trivial⟩) (h J g hr))
theorem dX12_end_0 : decode cX12_end 0 = .ok (.aload_n 0, 1) := by decide +kernel
theorem dX12_end_1 : decode cX12_end 1 = .ok (.iconst 0, 1) := by decide +kernel
theorem dX12_end_2 : decode cX12_end 2 = .ok (.putfield 106, 3) := by decide +kernel
theorem dX12_end_5 : decode cX12_end 5 = .ok (.iload_n 1, 1) := by decide +kernel
theorem dX12_end_6 : decode cX12_end 6 = .ok (.ifCond .lt 11, 3) := by decide +kernel
theorem dX12_end_9 : decode cX12_end 9 = .ok (.iload_n 1, 1) := by decide +kernel
theorem dX12_end_10 : decode cX12_end 10 = .ok (.aload_n 0, 1) := by decide +kernel
theorem dX12_end_11 : decode cX12_end 11 = .ok (.getfield 109, 3) := by decide +kernel
theorem dX12_end_14 : decode cX12_end 14 = .ok (.if_icmp .le 5, 3) := by decide +kernel
theorem dX12_end_17 : decode cX12_end 17 = .ok (.iconst 0, 1) := by decide +kernel
theorem dX12_end_18 : decode cX12_end 18 = .ok (.ireturn, 1) := by decide +kernel
theorem dX12_end_19 : decode cX12_end 19 = .ok (.aload_n 0, 1) := by decide +kernel
theorem dX12_end_20 : decode cX12_end 20 = .ok (.iload_n 1, 1) := by decide +kernel
theorem dX12_end_21 : decode cX12_end 21 = .ok (.putfield 109, 3) := by decide +kernel
theorem dX12_end_24 : decode cX12_end 24 = .ok (.iconst 1, 1) := by decide +kernel
theorem dX12_end_25 : decode cX12_end 25 = .ok (.ireturn, 1) := by decide +kernel
set_option maxHeartbeats 4000000 in
set_option maxRecDepth 100000 in
theorem B_X12_end_0 {d : Nat} {ro : Nat → Nat} {J : JT} {Z : Option Value → Hp → Prop} (g : xCtx RX12 cX12_end 2 d 0 0 yX12_end.name ro J) (hr : xRet cX12_end (some .boolean) 0 0 Z J) {μ : Hp} {a0 : Nat} {x1 : Int32} (hs_a0 : hS μ a0 = some (15, 65))
    (h : ((x1 < 0 → Z (some (.int 0)) (wI μ a0 0 0)) ∧ (¬ x1 < 0 → ((x1 ≤ (hI (wI μ a0 0 0) a0 2) → Z (some (.int 1)) (wI (wI μ a0 0 0) a0 2 x1)) ∧ (¬ x1 ≤ (hI (wI μ a0 0 0) a0 2) → Z (some (.int 0)) (wI μ a0 0 0)))))) :
    J μ 0 0 0 [(0, .ref a0), (1, .int x1)] [] := by
  refine r_aload_n g dX12_end_0 rfl ?_
  refine r_iconst g 0 dX12_end_1 (by decide) ?_
  refine r_putI g fX12_106 rfl hs_a0 rfl rfl dX12_end_2 ?_
  refine r_iload_n g dX12_end_5 rfl ?_
  refine r_if_lt g 17 dX12_end_6 (by decide) (fun c1 => ?_) (fun c1 => ?_)
  · replace h := h.1 c1
    refine r_iconst g 0 dX12_end_17 (by decide) ?_
    exact hr.2.1 _ rfl _ _ _ _ _ _ dX12_end_18 (by decide) (Nat.le_refl 0) (Nat.le_refl 0) h
  · replace h := h.2 c1
    refine r_iload_n g dX12_end_9 rfl ?_
    refine r_aload_n g dX12_end_10 rfl ?_
    refine r_getI g fX12_109 rfl hs_a0 dX12_end_11 ?_
    refine r_icmp_le g 19 dX12_end_14 (by decide) (fun c2 => ?_) (fun c2 => ?_)
    · replace h := h.1 c2
      refine r_aload_n g dX12_end_19 rfl ?_
      refine r_iload_n g dX12_end_20 rfl ?_
      refine r_putI g fX12_109 rfl hs_a0 rfl rfl dX12_end_21 ?_
      refine r_iconst g 1 dX12_end_24 (by decide) ?_
      exact hr.2.1 _ rfl _ _ _ _ _ _ dX12_end_25 (by decide) (Nat.le_refl 0) (Nat.le_refl 0) h
    · replace h := h.2 c2
      refine r_iconst g 0 dX12_end_17 (by decide) ?_
      exact hr.2.1 _ rfl _ _ _ _ _ _ dX12_end_18 (by decide) (Nat.le_refl 0) (Nat.le_refl 0) h
theorem I_X12_end {d : Nat} {ro : Nat → Nat} {Z : Option Value → Hp → Prop} {μ : Hp} {a0 : Nat} {x1 : Int32} (h : ∀ J, xCtx RX12 cX12_end 2 d 0 0 yX12_end.name ro J → xRet cX12_end (some .boolean) 0 0 Z J → J μ 0 0 0 [(0, .ref a0), (1, .int x1)] []) : xC d yX12_end cX12_end 2 (some .boolean) 0 0 [.ref a0, .int x1] μ ro Z :=
  xC_intro (own := RX12) (lv := [(0, .ref a0), (1, .int x1)]) (by decide) rfl (Nat.le_of_ble_eq_true rfl) rfl (fun J g hr => r_sub g (lv' := [(0, .ref a0), (1, .int x1)]) (⟨rfl, rfl, trivial⟩) (h J g hr))
theorem dX12_look_0 : decode cX12_look 0 = .ok (.aload_n 0, 1) := by decide +kernel
theorem dX12_look_1 : decode cX12_look 1 = .ok (.invokevirtual 123, 3) := by decide +kernel
theorem dX12_look_4 : decode cX12_look 4 = .ok (.bipush 32, 2) := by decide +kernel
theorem dX12_look_6 : decode cX12_look 6 = .ok (.if_icmp .ne 16, 3) := by decide +kernel
theorem dX12_look_9 : decode cX12_look 9 = .ok (.aload_n 0, 1) := by decide +kernel
theorem dX12_look_10 : decode cX12_look 10 = .ok (.dup, 1) := by decide +kernel
theorem dX12_look_11 : decode cX12_look 11 = .ok (.getfield 120, 3) := by decide +kernel
theorem dX12_look_14 : decode cX12_look 14 = .ok (.iconst 1, 1) := by decide +kernel
theorem dX12_look_15 : decode cX12_look 15 = .ok (.iadd, 1) := by decide +kernel
theorem dX12_look_16 : decode cX12_look 16 = .ok (.putfield 120, 3) := by decide +kernel
theorem dX12_look_19 : decode cX12_look 19 = .ok (.goto (-19), 3) := by decide +kernel
theorem dX12_look_22 : decode cX12_look 22 = .ok (.aload_n 0, 1) := by decide +kernel
theorem dX12_look_23 : decode cX12_look 23 = .ok (.invokevirtual 123, 3) := by decide +kernel
theorem dX12_look_26 : decode cX12_look 26 = .ok (.ireturn, 1) := by decide +kernel
set_option maxHeartbeats 4000000 in
set_option maxRecDepth 100000 in
theorem B_X12_look_0 {d : Nat} {ro : Nat → Nat} {J : JT} {Z : Option Value → Hp → Prop} (g : xCtx RX12 cX12_look 1 d 0 0 yX12_look.name ro J) (hr : xRet cX12_look (some .int) 0 0 Z J) {μ : Hp} {a0 : Nat} {a0_tape : Nat} {N_a0_tape : Nat} (hs_a0 : hS μ a0 = some (15, 65)) (hr_a0_tape : hR μ a0 1 = some a0_tape) (hs_a0_tape : hS μ a0_tape = some (1, N_a0_tape)) (hd9 : 1 ≤ d)
    (h : (((hI μ a0 2) ≤ (hI μ a0 3) → (((hI μ a0 2) ≤ (hI μ a0 3) → Z (some (.int (-1))) μ) ∧ (¬ (hI μ a0 2) ≤ (hI μ a0 3) → vp_in (hI μ a0 3) N_a0_tape ∧ Z (some (.int ((hI μ a0_tape ((hI μ a0 3).toNatClampNeg)) &&& 255))) μ))) ∧ (¬ (hI μ a0 2) ≤ (hI μ a0 3) → vp_in (hI μ a0 3) N_a0_tape ∧ ((¬ ((hI μ a0_tape ((hI μ a0 3).toNatClampNeg)) &&& 255) = 32 → (((hI μ a0 2) ≤ (hI μ a0 3) → Z (some (.int (-1))) μ) ∧ (¬ (hI μ a0 2) ≤ (hI μ a0 3) → Z (some (.int ((hI μ a0_tape ((hI μ a0 3).toNatClampNeg)) &&& 255))) μ))) ∧ (((hI μ a0_tape ((hI μ a0 3).toNatClampNeg)) &&& 255) = 32 → J (wI μ a0 3 ((hI μ a0 3) + 1)) 0 0 0 [(0, .ref a0)] []))))) :
    J μ 0 0 0 [(0, .ref a0)] [] := by
  refine r_aload_n g dX12_look_0 rfl ?_
  by_cases c1 : (hI μ a0 2) ≤ (hI μ a0 3)
  · replace h := h.1 c1
    refine r_callV (st := []) (As := []) g sX12_123 iX12_here eX12_here rfl hs_a0 rfl (Nat.le_of_ble_eq_true rfl) dX12_look_1 (by omega) (Nat.le_refl 0) (Nat.le_refl 0) (P_X12_here_0 (d := d - 1) hs_a0 hr_a0_tape hs_a0_tape c1) (fun r2 μ3 hZ1 => ?_)
    obtain ⟨rfl, e9⟩ := hZ1
    replace e9 := e9.symm
    subst e9
    refine r_bipush g 32 dX12_look_4 (by decide) ?_
    refine r_icmp_ne g 22 dX12_look_6 (by decide) (fun _ => ?_) (fun hz => absurd hz (by decide))
    refine r_aload_n g dX12_look_22 rfl ?_
    by_cases c4 : (hI μ a0 2) ≤ (hI μ a0 3)
    · replace h := h.1 c4
      refine r_callV (st := []) (As := []) g sX12_123 iX12_here eX12_here rfl hs_a0 rfl (Nat.le_of_ble_eq_true rfl) dX12_look_23 (by omega) (Nat.le_refl 0) (Nat.le_refl 0) (P_X12_here_0 (d := d - 1) hs_a0 hr_a0_tape hs_a0_tape c4) (fun r5 μ6 hZ1 => ?_)
      obtain ⟨rfl, e9⟩ := hZ1
      replace e9 := e9.symm
      subst e9
      exact hr.2.1 _ rfl _ _ _ _ _ _ dX12_look_26 rfl (Nat.le_refl 0) (Nat.le_refl 0) h
    · replace h := h.2 c4
      obtain ⟨hi7, h⟩ := h
      refine r_callV (st := []) (As := []) g sX12_123 iX12_here eX12_here rfl hs_a0 rfl (Nat.le_of_ble_eq_true rfl) dX12_look_23 (by omega) (Nat.le_refl 0) (Nat.le_refl 0) (P_X12_here_1 (d := d - 1) hs_a0 hr_a0_tape hs_a0_tape c4 hi7) (fun r8 μ9 hZ1 => ?_)
      obtain ⟨rfl, e9⟩ := hZ1
      replace e9 := e9.symm
      subst e9
      exact hr.2.1 _ rfl _ _ _ _ _ _ dX12_look_26 rfl (Nat.le_refl 0) (Nat.le_refl 0) h
  · replace h := h.2 c1
    obtain ⟨hi10, h⟩ := h
    refine r_callV (st := []) (As := []) g sX12_123 iX12_here eX12_here rfl hs_a0 rfl (Nat.le_of_ble_eq_true rfl) dX12_look_1 (by omega) (Nat.le_refl 0) (Nat.le_refl 0) (P_X12_here_1 (d := d - 1) hs_a0 hr_a0_tape hs_a0_tape c1 hi10) (fun r11 μ12 hZ1 => ?_)
    obtain ⟨rfl, e9⟩ := hZ1
    replace e9 := e9.symm
    subst e9
    refine r_bipush g 32 dX12_look_4 (by decide) ?_
    refine r_icmp_ne g 22 dX12_look_6 (by decide) (fun c13 => ?_) (fun c13 => ?_)
    · replace h := h.1 c13
      refine r_aload_n g dX12_look_22 rfl ?_
      by_cases c14 : (hI μ a0 2) ≤ (hI μ a0 3)
      · replace h := h.1 c14
        refine r_callV (st := []) (As := []) g sX12_123 iX12_here eX12_here rfl hs_a0 rfl (Nat.le_of_ble_eq_true rfl) dX12_look_23 (by omega) (Nat.le_refl 0) (Nat.le_refl 0) (P_X12_here_0 (d := d - 1) hs_a0 hr_a0_tape hs_a0_tape c14) (fun r15 μ16 hZ1 => ?_)
        obtain ⟨rfl, e9⟩ := hZ1
        replace e9 := e9.symm
        subst e9
        exact hr.2.1 _ rfl _ _ _ _ _ _ dX12_look_26 rfl (Nat.le_refl 0) (Nat.le_refl 0) h
      · replace h := h.2 c14
        refine r_callV (st := []) (As := []) g sX12_123 iX12_here eX12_here rfl hs_a0 rfl (Nat.le_of_ble_eq_true rfl) dX12_look_23 (by omega) (Nat.le_refl 0) (Nat.le_refl 0) (P_X12_here_1 (d := d - 1) hs_a0 hr_a0_tape hs_a0_tape c14 hi10) (fun r17 μ18 hZ1 => ?_)
        obtain ⟨rfl, e9⟩ := hZ1
        replace e9 := e9.symm
        subst e9
        exact hr.2.1 _ rfl _ _ _ _ _ _ dX12_look_26 rfl (Nat.le_refl 0) (Nat.le_refl 0) h
    · replace h := h.2 c13
      refine r_aload_n g dX12_look_9 rfl ?_
      refine r_dup g dX12_look_10 rfl ?_
      refine r_getI g fX12_120 rfl hs_a0 dX12_look_11 ?_
      refine r_iconst g 1 dX12_look_14 (by decide) ?_
      refine r_iadd g dX12_look_15 ?_
      refine r_putI g fX12_120 rfl hs_a0 rfl rfl dX12_look_16 ?_
      refine r_goto g 0 dX12_look_19 (by decide) ?_
      refine r_sub g (lv' := [(0, .ref a0)]) (⟨rfl, trivial⟩) ?_
      exact h
theorem I_X12_look {d : Nat} {ro : Nat → Nat} {Z : Option Value → Hp → Prop} {μ : Hp} {a0 : Nat} (h : ∀ J, xCtx RX12 cX12_look 1 d 0 0 yX12_look.name ro J → xRet cX12_look (some .int) 0 0 Z J → J μ 0 0 0 [(0, .ref a0)] []) : xC d yX12_look cX12_look 1 (some .int) 0 0 [.ref a0] μ ro Z :=
  xC_intro (own := RX12) (lv := [(0, .ref a0)]) (by decide) rfl (Nat.le_of_ble_eq_true rfl) rfl (fun J g hr => r_sub g (lv' := [(0, .ref a0)]) (⟨rfl, trivial⟩) (h J g hr))
theorem dX12_fails_0 : decode cX12_fails 0 = .ok (.aload_n 0, 1) := by decide +kernel
theorem dX12_fails_1 : decode cX12_fails 1 = .ok (.getfield 127, 3) := by decide +kernel
theorem dX12_fails_4 : decode cX12_fails 4 = .ok (.iconst (-1), 1) := by decide +kernel
theorem dX12_fails_5 : decode cX12_fails 5 = .ok (.if_icmp .ne 8, 3) := by decide +kernel
theorem dX12_fails_8 : decode cX12_fails 8 = .ok (.aload_n 0, 1) := by decide +kernel
theorem dX12_fails_9 : decode cX12_fails 9 = .ok (.iload_n 1, 1) := by decide +kernel
theorem dX12_fails_10 : decode cX12_fails 10 = .ok (.putfield 127, 3) := by decide +kernel
theorem dX12_fails_13 : decode cX12_fails 13 = .ok (.return_, 1) := by decide +kernel
set_option maxHeartbeats 4000000 in
set_option maxRecDepth 100000 in
theorem B_X12_fails_0 {d : Nat} {ro : Nat → Nat} {J : JT} {Z : Option Value → Hp → Prop} (g : xCtx RX12 cX12_fails 2 d 0 0 yX12_fails.name ro J) (hr : xRet cX12_fails none 0 0 Z J) {μ : Hp} {a0 : Nat} {x1 : Int32} (hs_a0 : hS μ a0 = some (15, 65))
    (h : ((¬ (hI μ a0 4) = (-1) → Z none μ) ∧ ((hI μ a0 4) = (-1) → Z none (wI μ a0 4 x1)))) :
    J μ 0 0 0 [(0, .ref a0), (1, .int x1)] [] := by
  refine r_aload_n g dX12_fails_0 rfl ?_
  refine r_getI g fX12_127 rfl hs_a0 dX12_fails_1 ?_
  refine r_iconst g (-1) dX12_fails_4 (by decide) ?_
  refine r_icmp_ne g 13 dX12_fails_5 (by decide) (fun c1 => ?_) (fun c1 => ?_)
  · replace h := h.1 c1
    exact hr.1 rfl _ _ _ _ _ dX12_fails_13 (Nat.le_refl 0) (Nat.le_refl 0) h
  · replace h := h.2 c1
    refine r_aload_n g dX12_fails_8 rfl ?_
    refine r_iload_n g dX12_fails_9 rfl ?_
    refine r_putI g fX12_127 rfl hs_a0 rfl rfl dX12_fails_10 ?_
    exact hr.1 rfl _ _ _ _ _ dX12_fails_13 (Nat.le_refl 0) (Nat.le_refl 0) h
theorem I_X12_fails {d : Nat} {ro : Nat → Nat} {Z : Option Value → Hp → Prop} {μ : Hp} {a0 : Nat} {x1 : Int32} (h : ∀ J, xCtx RX12 cX12_fails 2 d 0 0 yX12_fails.name ro J → xRet cX12_fails none 0 0 Z J → J μ 0 0 0 [(0, .ref a0), (1, .int x1)] []) : xC d yX12_fails cX12_fails 2 none 0 0 [.ref a0, .int x1] μ ro Z :=
  xC_intro (own := RX12) (lv := [(0, .ref a0), (1, .int x1)]) (by decide) rfl (Nat.le_of_ble_eq_true rfl) rfl (fun J g hr => r_sub g (lv' := [(0, .ref a0), (1, .int x1)]) (⟨rfl, rfl, trivial⟩) (h J g hr))
theorem dX12_isLetter_0 : decode cX12_isLetter 0 = .ok (.aload_n 0, 1) := by decide +kernel
theorem dX12_isLetter_1 : decode cX12_isLetter 1 = .ok (.invokevirtual 123, 3) := by decide +kernel
theorem dX12_isLetter_4 : decode cX12_isLetter 4 = .ok (.bipush 97, 2) := by decide +kernel
theorem dX12_isLetter_6 : decode cX12_isLetter 6 = .ok (.if_icmp .lt 16, 3) := by decide +kernel
theorem dX12_isLetter_9 : decode cX12_isLetter 9 = .ok (.aload_n 0, 1) := by decide +kernel
theorem dX12_isLetter_10 : decode cX12_isLetter 10 = .ok (.invokevirtual 123, 3) := by decide +kernel
theorem dX12_isLetter_13 : decode cX12_isLetter 13 = .ok (.bipush 122, 2) := by decide +kernel
theorem dX12_isLetter_15 : decode cX12_isLetter 15 = .ok (.if_icmp .gt 7, 3) := by decide +kernel
theorem dX12_isLetter_18 : decode cX12_isLetter 18 = .ok (.iconst 1, 1) := by decide +kernel
theorem dX12_isLetter_19 : decode cX12_isLetter 19 = .ok (.goto 4, 3) := by decide +kernel
theorem dX12_isLetter_22 : decode cX12_isLetter 22 = .ok (.iconst 0, 1) := by decide +kernel
theorem dX12_isLetter_23 : decode cX12_isLetter 23 = .ok (.ireturn, 1) := by decide +kernel
set_option maxHeartbeats 4000000 in
set_option maxRecDepth 100000 in
theorem B_X12_isLetter_0 {d : Nat} {ro : Nat → Nat} {J : JT} {Z : Option Value → Hp → Prop} (g : xCtx RX12 cX12_isLetter 1 d 0 0 yX12_isLetter.name ro J) (hr : xRet cX12_isLetter (some .boolean) 0 0 Z J) {μ : Hp} {a0 : Nat} {a0_tape : Nat} {N_a0_tape : Nat} (hs_a0 : hS μ a0 = some (15, 65)) (hr_a0_tape : hR μ a0 1 = some a0_tape) (hs_a0_tape : hS μ a0_tape = some (1, N_a0_tape)) (hd9 : 1 ≤ d)
    (h : (((hI μ a0 2) ≤ (hI μ a0 3) → Z (some (.int 0)) μ) ∧ (¬ (hI μ a0 2) ≤ (hI μ a0 3) → vp_in (hI μ a0 3) N_a0_tape ∧ ((((hI μ a0_tape ((hI μ a0 3).toNatClampNeg)) &&& 255) < 97 → Z (some (.int 0)) μ) ∧ (¬ ((hI μ a0_tape ((hI μ a0 3).toNatClampNeg)) &&& 255) < 97 → (((hI μ a0 2) ≤ (hI μ a0 3) → Z (some (.int 1)) μ) ∧ (¬ (hI μ a0 2) ≤ (hI μ a0 3) → ((122 < ((hI μ a0_tape ((hI μ a0 3).toNatClampNeg)) &&& 255) → Z (some (.int 0)) μ) ∧ (¬ 122 < ((hI μ a0_tape ((hI μ a0 3).toNatClampNeg)) &&& 255) → Z (some (.int 1)) μ))))))))) :
    J μ 0 0 0 [(0, .ref a0)] [] := by
  refine r_aload_n g dX12_isLetter_0 rfl ?_
  by_cases c1 : (hI μ a0 2) ≤ (hI μ a0 3)
  · replace h := h.1 c1
    refine r_callV (st := []) (As := []) g sX12_123 iX12_here eX12_here rfl hs_a0 rfl (Nat.le_of_ble_eq_true rfl) dX12_isLetter_1 (by omega) (Nat.le_refl 0) (Nat.le_refl 0) (P_X12_here_0 (d := d - 1) hs_a0 hr_a0_tape hs_a0_tape c1) (fun r2 μ3 hZ1 => ?_)
    obtain ⟨rfl, e9⟩ := hZ1
    replace e9 := e9.symm
    subst e9
    refine r_bipush g 97 dX12_isLetter_4 (by decide) ?_
    refine r_icmp_lt g 22 dX12_isLetter_6 (by decide) (fun _ => ?_) (fun hz => absurd hz (by decide))
    refine r_iconst g 0 dX12_isLetter_22 (by decide) ?_
    exact hr.2.1 _ rfl _ _ _ _ _ _ dX12_isLetter_23 (by decide) (Nat.le_refl 0) (Nat.le_refl 0) h
  · replace h := h.2 c1
    obtain ⟨hi4, h⟩ := h
    refine r_callV (st := []) (As := []) g sX12_123 iX12_here eX12_here rfl hs_a0 rfl (Nat.le_of_ble_eq_true rfl) dX12_isLetter_1 (by omega) (Nat.le_refl 0) (Nat.le_refl 0) (P_X12_here_1 (d := d - 1) hs_a0 hr_a0_tape hs_a0_tape c1 hi4) (fun r5 μ6 hZ1 => ?_)
    obtain ⟨rfl, e9⟩ := hZ1
    replace e9 := e9.symm
    subst e9
    refine r_bipush g 97 dX12_isLetter_4 (by decide) ?_
    refine r_icmp_lt g 22 dX12_isLetter_6 (by decide) (fun c7 => ?_) (fun c7 => ?_)
    · replace h := h.1 c7
      refine r_iconst g 0 dX12_isLetter_22 (by decide) ?_
      exact hr.2.1 _ rfl _ _ _ _ _ _ dX12_isLetter_23 (by decide) (Nat.le_refl 0) (Nat.le_refl 0) h
    · replace h := h.2 c7
      refine r_aload_n g dX12_isLetter_9 rfl ?_
      by_cases c8 : (hI μ a0 2) ≤ (hI μ a0 3)
      · replace h := h.1 c8
        refine r_callV (st := []) (As := []) g sX12_123 iX12_here eX12_here rfl hs_a0 rfl (Nat.le_of_ble_eq_true rfl) dX12_isLetter_10 (by omega) (Nat.le_refl 0) (Nat.le_refl 0) (P_X12_here_0 (d := d - 1) hs_a0 hr_a0_tape hs_a0_tape c8) (fun r9 μ10 hZ1 => ?_)
        obtain ⟨rfl, e9⟩ := hZ1
        replace e9 := e9.symm
        subst e9
        refine r_bipush g 122 dX12_isLetter_13 (by decide) ?_
        refine r_icmp_gt g 22 dX12_isLetter_15 (by decide) (fun hz => absurd hz (by decide)) (fun _ => ?_)
        refine r_iconst g 1 dX12_isLetter_18 (by decide) ?_
        refine r_goto g 23 dX12_isLetter_19 (by decide) ?_
        exact hr.2.1 _ rfl _ _ _ _ _ _ dX12_isLetter_23 (by decide) (Nat.le_refl 0) (Nat.le_refl 0) h
      · replace h := h.2 c8
        refine r_callV (st := []) (As := []) g sX12_123 iX12_here eX12_here rfl hs_a0 rfl (Nat.le_of_ble_eq_true rfl) dX12_isLetter_10 (by omega) (Nat.le_refl 0) (Nat.le_refl 0) (P_X12_here_1 (d := d - 1) hs_a0 hr_a0_tape hs_a0_tape c8 hi4) (fun r11 μ12 hZ1 => ?_)
        obtain ⟨rfl, e9⟩ := hZ1
        replace e9 := e9.symm
        subst e9
        refine r_bipush g 122 dX12_isLetter_13 (by decide) ?_
        refine r_icmp_gt g 22 dX12_isLetter_15 (by decide) (fun c13 => ?_) (fun c13 => ?_)
        · replace h := h.1 c13
          refine r_iconst g 0 dX12_isLetter_22 (by decide) ?_
          exact hr.2.1 _ rfl _ _ _ _ _ _ dX12_isLetter_23 (by decide) (Nat.le_refl 0) (Nat.le_refl 0) h
        · replace h := h.2 c13
          refine r_iconst g 1 dX12_isLetter_18 (by decide) ?_
          refine r_goto g 23 dX12_isLetter_19 (by decide) ?_
          exact hr.2.1 _ rfl _ _ _ _ _ _ dX12_isLetter_23 (by decide) (Nat.le_refl 0) (Nat.le_refl 0) h
theorem I_X12_isLetter {d : Nat} {ro : Nat → Nat} {Z : Option Value → Hp → Prop} {μ : Hp} {a0 : Nat} (h : ∀ J, xCtx RX12 cX12_isLetter 1 d 0 0 yX12_isLetter.name ro J → xRet cX12_isLetter (some .boolean) 0 0 Z J → J μ 0 0 0 [(0, .ref a0)] []) : xC d yX12_isLetter cX12_isLetter 1 (some .boolean) 0 0 [.ref a0] μ ro Z :=
  xC_intro (own := RX12) (lv := [(0, .ref a0)]) (by decide) rfl (Nat.le_of_ble_eq_true rfl) rfl (fun J g hr => r_sub g (lv' := [(0, .ref a0)]) (⟨rfl, trivial⟩) (h J g hr))
theorem dX12_isDigit_0 : decode cX12_isDigit 0 = .ok (.aload_n 0, 1) := by decide +kernel
theorem dX12_isDigit_1 : decode cX12_isDigit 1 = .ok (.invokevirtual 123, 3) := by decide +kernel
theorem dX12_isDigit_4 : decode cX12_isDigit 4 = .ok (.bipush 48, 2) := by decide +kernel
theorem dX12_isDigit_6 : decode cX12_isDigit 6 = .ok (.if_icmp .lt 16, 3) := by decide +kernel
theorem dX12_isDigit_9 : decode cX12_isDigit 9 = .ok (.aload_n 0, 1) := by decide +kernel
theorem dX12_isDigit_10 : decode cX12_isDigit 10 = .ok (.invokevirtual 123, 3) := by decide +kernel
theorem dX12_isDigit_13 : decode cX12_isDigit 13 = .ok (.bipush 57, 2) := by decide +kernel
theorem dX12_isDigit_15 : decode cX12_isDigit 15 = .ok (.if_icmp .gt 7, 3) := by decide +kernel
theorem dX12_isDigit_18 : decode cX12_isDigit 18 = .ok (.iconst 1, 1) := by decide +kernel
theorem dX12_isDigit_19 : decode cX12_isDigit 19 = .ok (.goto 4, 3) := by decide +kernel
theorem dX12_isDigit_22 : decode cX12_isDigit 22 = .ok (.iconst 0, 1) := by decide +kernel
theorem dX12_isDigit_23 : decode cX12_isDigit 23 = .ok (.ireturn, 1) := by decide +kernel
set_option maxHeartbeats 4000000 in
set_option maxRecDepth 100000 in
theorem B_X12_isDigit_0 {d : Nat} {ro : Nat → Nat} {J : JT} {Z : Option Value → Hp → Prop} (g : xCtx RX12 cX12_isDigit 1 d 0 0 yX12_isDigit.name ro J) (hr : xRet cX12_isDigit (some .boolean) 0 0 Z J) {μ : Hp} {a0 : Nat} {a0_tape : Nat} {N_a0_tape : Nat} (hs_a0 : hS μ a0 = some (15, 65)) (hr_a0_tape : hR μ a0 1 = some a0_tape) (hs_a0_tape : hS μ a0_tape = some (1, N_a0_tape)) (hd9 : 1 ≤ d)
    (h : (((hI μ a0 2) ≤ (hI μ a0 3) → Z (some (.int 0)) μ) ∧ (¬ (hI μ a0 2) ≤ (hI μ a0 3) → vp_in (hI μ a0 3) N_a0_tape ∧ ((((hI μ a0_tape ((hI μ a0 3).toNatClampNeg)) &&& 255) < 48 → Z (some (.int 0)) μ) ∧ (¬ ((hI μ a0_tape ((hI μ a0 3).toNatClampNeg)) &&& 255) < 48 → (((hI μ a0 2) ≤ (hI μ a0 3) → Z (some (.int 1)) μ) ∧ (¬ (hI μ a0 2) ≤ (hI μ a0 3) → ((57 < ((hI μ a0_tape ((hI μ a0 3).toNatClampNeg)) &&& 255) → Z (some (.int 0)) μ) ∧ (¬ 57 < ((hI μ a0_tape ((hI μ a0 3).toNatClampNeg)) &&& 255) → Z (some (.int 1)) μ))))))))) :
    J μ 0 0 0 [(0, .ref a0)] [] := by
  refine r_aload_n g dX12_isDigit_0 rfl ?_
  by_cases c1 : (hI μ a0 2) ≤ (hI μ a0 3)
  · replace h := h.1 c1
    refine r_callV (st := []) (As := []) g sX12_123 iX12_here eX12_here rfl hs_a0 rfl (Nat.le_of_ble_eq_true rfl) dX12_isDigit_1 (by omega) (Nat.le_refl 0) (Nat.le_refl 0) (P_X12_here_0 (d := d - 1) hs_a0 hr_a0_tape hs_a0_tape c1) (fun r2 μ3 hZ1 => ?_)
    obtain ⟨rfl, e9⟩ := hZ1
    replace e9 := e9.symm
    subst e9
    refine r_bipush g 48 dX12_isDigit_4 (by decide) ?_
    refine r_icmp_lt g 22 dX12_isDigit_6 (by decide) (fun _ => ?_) (fun hz => absurd hz (by decide))
    refine r_iconst g 0 dX12_isDigit_22 (by decide) ?_
    exact hr.2.1 _ rfl _ _ _ _ _ _ dX12_isDigit_23 (by decide) (Nat.le_refl 0) (Nat.le_refl 0) h
  · replace h := h.2 c1
    obtain ⟨hi4, h⟩ := h
    refine r_callV (st := []) (As := []) g sX12_123 iX12_here eX12_here rfl hs_a0 rfl (Nat.le_of_ble_eq_true rfl) dX12_isDigit_1 (by omega) (Nat.le_refl 0) (Nat.le_refl 0) (P_X12_here_1 (d := d - 1) hs_a0 hr_a0_tape hs_a0_tape c1 hi4) (fun r5 μ6 hZ1 => ?_)
    obtain ⟨rfl, e9⟩ := hZ1
    replace e9 := e9.symm
    subst e9
    refine r_bipush g 48 dX12_isDigit_4 (by decide) ?_
    refine r_icmp_lt g 22 dX12_isDigit_6 (by decide) (fun c7 => ?_) (fun c7 => ?_)
    · replace h := h.1 c7
      refine r_iconst g 0 dX12_isDigit_22 (by decide) ?_
      exact hr.2.1 _ rfl _ _ _ _ _ _ dX12_isDigit_23 (by decide) (Nat.le_refl 0) (Nat.le_refl 0) h
    · replace h := h.2 c7
      refine r_aload_n g dX12_isDigit_9 rfl ?_
      by_cases c8 : (hI μ a0 2) ≤ (hI μ a0 3)
      · replace h := h.1 c8
        refine r_callV (st := []) (As := []) g sX12_123 iX12_here eX12_here rfl hs_a0 rfl (Nat.le_of_ble_eq_true rfl) dX12_isDigit_10 (by omega) (Nat.le_refl 0) (Nat.le_refl 0) (P_X12_here_0 (d := d - 1) hs_a0 hr_a0_tape hs_a0_tape c8) (fun r9 μ10 hZ1 => ?_)
        obtain ⟨rfl, e9⟩ := hZ1
        replace e9 := e9.symm
        subst e9
        refine r_bipush g 57 dX12_isDigit_13 (by decide) ?_
        refine r_icmp_gt g 22 dX12_isDigit_15 (by decide) (fun hz => absurd hz (by decide)) (fun _ => ?_)
        refine r_iconst g 1 dX12_isDigit_18 (by decide) ?_
        refine r_goto g 23 dX12_isDigit_19 (by decide) ?_
        exact hr.2.1 _ rfl _ _ _ _ _ _ dX12_isDigit_23 (by decide) (Nat.le_refl 0) (Nat.le_refl 0) h
      · replace h := h.2 c8
        refine r_callV (st := []) (As := []) g sX12_123 iX12_here eX12_here rfl hs_a0 rfl (Nat.le_of_ble_eq_true rfl) dX12_isDigit_10 (by omega) (Nat.le_refl 0) (Nat.le_refl 0) (P_X12_here_1 (d := d - 1) hs_a0 hr_a0_tape hs_a0_tape c8 hi4) (fun r11 μ12 hZ1 => ?_)
        obtain ⟨rfl, e9⟩ := hZ1
        replace e9 := e9.symm
        subst e9
        refine r_bipush g 57 dX12_isDigit_13 (by decide) ?_
        refine r_icmp_gt g 22 dX12_isDigit_15 (by decide) (fun c13 => ?_) (fun c13 => ?_)
        · replace h := h.1 c13
          refine r_iconst g 0 dX12_isDigit_22 (by decide) ?_
          exact hr.2.1 _ rfl _ _ _ _ _ _ dX12_isDigit_23 (by decide) (Nat.le_refl 0) (Nat.le_refl 0) h
        · replace h := h.2 c13
          refine r_iconst g 1 dX12_isDigit_18 (by decide) ?_
          refine r_goto g 23 dX12_isDigit_19 (by decide) ?_
          exact hr.2.1 _ rfl _ _ _ _ _ _ dX12_isDigit_23 (by decide) (Nat.le_refl 0) (Nat.le_refl 0) h
theorem I_X12_isDigit {d : Nat} {ro : Nat → Nat} {Z : Option Value → Hp → Prop} {μ : Hp} {a0 : Nat} (h : ∀ J, xCtx RX12 cX12_isDigit 1 d 0 0 yX12_isDigit.name ro J → xRet cX12_isDigit (some .boolean) 0 0 Z J → J μ 0 0 0 [(0, .ref a0)] []) : xC d yX12_isDigit cX12_isDigit 1 (some .boolean) 0 0 [.ref a0] μ ro Z :=
  xC_intro (own := RX12) (lv := [(0, .ref a0)]) (by decide) rfl (Nat.le_of_ble_eq_true rfl) rfl (fun J g hr => r_sub g (lv' := [(0, .ref a0)]) (⟨rfl, trivial⟩) (h J g hr))
theorem dX12_word_0 : decode cX12_word 0 = .ok (.aload_n 0, 1) := by decide +kernel
theorem dX12_word_1 : decode cX12_word 1 = .ok (.getfield 127, 3) := by decide +kernel
theorem dX12_word_4 : decode cX12_word 4 = .ok (.iconst (-1), 1) := by decide +kernel
theorem dX12_word_5 : decode cX12_word 5 = .ok (.if_icmp .eq 4, 3) := by decide +kernel
theorem dX12_word_8 : decode cX12_word 8 = .ok (.return_, 1) := by decide +kernel
theorem dX12_word_9 : decode cX12_word 9 = .ok (.aload_n 0, 1) := by decide +kernel
theorem dX12_word_10 : decode cX12_word 10 = .ok (.invokevirtual 130, 3) := by decide +kernel
theorem dX12_word_13 : decode cX12_word 13 = .ok (.istore_n 1, 1) := by decide +kernel
theorem dX12_word_14 : decode cX12_word 14 = .ok (.aload_n 0, 1) := by decide +kernel
theorem dX12_word_15 : decode cX12_word 15 = .ok (.aload_n 0, 1) := by decide +kernel
theorem dX12_word_16 : decode cX12_word 16 = .ok (.getfield 120, 3) := by decide +kernel
theorem dX12_word_19 : decode cX12_word 19 = .ok (.putfield 133, 3) := by decide +kernel
theorem dX12_word_22 : decode cX12_word 22 = .ok (.aload_n 0, 1) := by decide +kernel
theorem dX12_word_23 : decode cX12_word 23 = .ok (.lconst 0, 1) := by decide +kernel
theorem dX12_word_24 : decode cX12_word 24 = .ok (.putfield 136, 3) := by decide +kernel
theorem dX12_word_27 : decode cX12_word 27 = .ok (.aload_n 0, 1) := by decide +kernel
theorem dX12_word_28 : decode cX12_word 28 = .ok (.invokevirtual 140, 3) := by decide +kernel
theorem dX12_word_31 : decode cX12_word 31 = .ok (.ifCond .eq 51, 3) := by decide +kernel
theorem dX12_word_34 : decode cX12_word 34 = .ok (.aload_n 0, 1) := by decide +kernel
theorem dX12_word_35 : decode cX12_word 35 = .ok (.getfield 120, 3) := by decide +kernel
theorem dX12_word_38 : decode cX12_word 38 = .ok (.aload_n 0, 1) := by decide +kernel
theorem dX12_word_39 : decode cX12_word 39 = .ok (.getfield 133, 3) := by decide +kernel
theorem dX12_word_42 : decode cX12_word 42 = .ok (.isub, 1) := by decide +kernel
theorem dX12_word_43 : decode cX12_word 43 = .ok (.bipush 8, 2) := by decide +kernel
theorem dX12_word_45 : decode cX12_word 45 = .ok (.if_icmp .ge 24, 3) := by decide +kernel
theorem dX12_word_48 : decode cX12_word 48 = .ok (.aload_n 0, 1) := by decide +kernel
theorem dX12_word_49 : decode cX12_word 49 = .ok (.aload_n 0, 1) := by decide +kernel
theorem dX12_word_50 : decode cX12_word 50 = .ok (.getfield 136, 3) := by decide +kernel
theorem dX12_word_53 : decode cX12_word 53 = .ok (.iconst 5, 1) := by decide +kernel
theorem dX12_word_54 : decode cX12_word 54 = .ok (.lshl, 1) := by decide +kernel
theorem dX12_word_55 : decode cX12_word 55 = .ok (.aload_n 0, 1) := by decide +kernel
theorem dX12_word_56 : decode cX12_word 56 = .ok (.invokevirtual 123, 3) := by decide +kernel
theorem dX12_word_59 : decode cX12_word 59 = .ok (.bipush 97, 2) := by decide +kernel
theorem dX12_word_61 : decode cX12_word 61 = .ok (.isub, 1) := by decide +kernel
theorem dX12_word_62 : decode cX12_word 62 = .ok (.iconst 1, 1) := by decide +kernel
theorem dX12_word_63 : decode cX12_word 63 = .ok (.iadd, 1) := by decide +kernel
theorem dX12_word_64 : decode cX12_word 64 = .ok (.i2l, 1) := by decide +kernel
theorem dX12_word_65 : decode cX12_word 65 = .ok (.lor, 1) := by decide +kernel
theorem dX12_word_66 : decode cX12_word 66 = .ok (.putfield 136, 3) := by decide +kernel
theorem dX12_word_69 : decode cX12_word 69 = .ok (.aload_n 0, 1) := by decide +kernel
theorem dX12_word_70 : decode cX12_word 70 = .ok (.dup, 1) := by decide +kernel
theorem dX12_word_71 : decode cX12_word 71 = .ok (.getfield 120, 3) := by decide +kernel
theorem dX12_word_74 : decode cX12_word 74 = .ok (.iconst 1, 1) := by decide +kernel
theorem dX12_word_75 : decode cX12_word 75 = .ok (.iadd, 1) := by decide +kernel
theorem dX12_word_76 : decode cX12_word 76 = .ok (.putfield 120, 3) := by decide +kernel
theorem dX12_word_79 : decode cX12_word 79 = .ok (.goto (-52), 3) := by decide +kernel
theorem dX12_word_82 : decode cX12_word 82 = .ok (.aload_n 0, 1) := by decide +kernel
theorem dX12_word_83 : decode cX12_word 83 = .ok (.getfield 120, 3) := by decide +kernel
theorem dX12_word_86 : decode cX12_word 86 = .ok (.aload_n 0, 1) := by decide +kernel
theorem dX12_word_87 : decode cX12_word 87 = .ok (.getfield 133, 3) := by decide +kernel
theorem dX12_word_90 : decode cX12_word 90 = .ok (.if_icmp .eq 17, 3) := by decide +kernel
theorem dX12_word_93 : decode cX12_word 93 = .ok (.aload_n 0, 1) := by decide +kernel
theorem dX12_word_94 : decode cX12_word 94 = .ok (.getfield 120, 3) := by decide +kernel
theorem dX12_word_97 : decode cX12_word 97 = .ok (.aload_n 0, 1) := by decide +kernel
theorem dX12_word_98 : decode cX12_word 98 = .ok (.getfield 133, 3) := by decide +kernel
theorem dX12_word_101 : decode cX12_word 101 = .ok (.isub, 1) := by decide +kernel
theorem dX12_word_102 : decode cX12_word 102 = .ok (.bipush 8, 2) := by decide +kernel
theorem dX12_word_104 : decode cX12_word 104 = .ok (.if_icmp .le 11, 3) := by decide +kernel
theorem dX12_word_107 : decode cX12_word 107 = .ok (.aload_n 0, 1) := by decide +kernel
theorem dX12_word_108 : decode cX12_word 108 = .ok (.aload_n 0, 1) := by decide +kernel
theorem dX12_word_109 : decode cX12_word 109 = .ok (.getfield 133, 3) := by decide +kernel
theorem dX12_word_112 : decode cX12_word 112 = .ok (.invokevirtual 144, 3) := by decide +kernel
theorem dX12_word_115 : decode cX12_word 115 = .ok (.return_, 1) := by decide +kernel
set_option maxHeartbeats 4000000 in
set_option maxRecDepth 100000 in
theorem B_X12_word_0 {d : Nat} {ro : Nat → Nat} {J : JT} {Z : Option Value → Hp → Prop} (g : xCtx RX12 cX12_word 2 d 0 0 yX12_word.name ro J) (hr : xRet cX12_word none 0 0 Z J) {μ : Hp} {a0 : Nat} (hs_a0 : hS μ a0 = some (15, 65))
    (h : (((hI μ a0 4) = (-1) → xCall d yX12_look cX12_look 1 (some .int) [.ref a0] μ ro (fun r2 μ3 => ∃ y4 : Int32, r2 = some (.int y4) ∧ hS μ3 a0 = some (15, 65) ∧ J (wL (wI μ3 a0 5 (hI μ3 a0 3)) a0 6 0) 0 0 27 [(0, .ref a0)] [])) ∧ (¬ (hI μ a0 4) = (-1) → Z none μ))) :
    J μ 0 0 0 [(0, .ref a0)] [] := by
  refine r_aload_n g dX12_word_0 rfl ?_
  refine r_getI g fX12_127 rfl hs_a0 dX12_word_1 ?_
  refine r_iconst g (-1) dX12_word_4 (by decide) ?_
  refine r_icmp_eq g 9 dX12_word_5 (by decide) (fun c1 => ?_) (fun c1 => ?_)
  · replace h := h.1 c1
    refine r_aload_n g dX12_word_9 rfl ?_
    obtain ⟨d1, Z1, hc1, hd1, h1⟩ := h
    refine r_callV (st := []) (As := []) g sX12_130 iX12_look eX12_look rfl hs_a0 rfl (Nat.le_of_ble_eq_true rfl) dX12_word_10 hd1 (Nat.le_refl 0) (Nat.le_refl 0) hc1 (fun r2 μ3 hZ1 => ?_)
    replace h := h1 _ _ hZ1
    clear h1 hc1 hd1 hZ1 Z1 d1
    obtain ⟨y4, rfl, h⟩ := h
    refine r_istore_n g [(1, .int y4), (0, .ref a0)] dX12_word_13 (by decide) rfl ?_
    refine r_aload_n g dX12_word_14 rfl ?_
    refine r_aload_n g dX12_word_15 rfl ?_
    obtain ⟨hs_a0_, h⟩ := h
    refine r_getI g fX12_120 rfl hs_a0_ dX12_word_16 ?_
    refine r_putI g fX12_133 rfl hs_a0_ rfl rfl dX12_word_19 ?_
    refine r_aload_n g dX12_word_22 rfl ?_
    refine r_lconst g 0 dX12_word_23 (by decide) ?_
    refine r_putL g fX12_136 rfl hs_a0_ rfl rfl dX12_word_24 ?_
    refine r_sub g (lv' := [(0, .ref a0)]) (⟨rfl, trivial⟩) ?_
    exact h
  · replace h := h.2 c1
    exact hr.1 rfl _ _ _ _ _ dX12_word_8 (Nat.le_refl 0) (Nat.le_refl 0) h
set_option maxHeartbeats 4000000 in
set_option maxRecDepth 100000 in
theorem B_X12_word_27 {d : Nat} {ro : Nat → Nat} {J : JT} {Z : Option Value → Hp → Prop} (g : xCtx RX12 cX12_word 2 d 0 0 yX12_word.name ro J) (hr : xRet cX12_word none 0 0 Z J) {μ : Hp} {a0 : Nat} (hs_a0 : hS μ a0 = some (15, 65)) (hd9 : 1 ≤ d)
    (h : xCall d yX12_isLetter cX12_isLetter 1 (some .boolean) [.ref a0] μ ro (fun r1 μ2 => ∃ y3 : Int32, r1 = some (.int y3) ∧ ((y3 = 0 → hS μ2 a0 = some (15, 65) ∧ (((hI μ2 a0 3) = (hI μ2 a0 5) → xCall d yX12_fails cX12_fails 2 none [.ref a0, .int (hI μ2 a0 5)] μ2 ro (fun r6 μ7 => r6 = none ∧ Z none μ7)) ∧ (¬ (hI μ2 a0 3) = (hI μ2 a0 5) → ((((hI μ2 a0 3) - (hI μ2 a0 5)) ≤ 8 → Z none μ2) ∧ (¬ ((hI μ2 a0 3) - (hI μ2 a0 5)) ≤ 8 → xCall d yX12_fails cX12_fails 2 none [.ref a0, .int (hI μ2 a0 5)] μ2 ro (fun r9 μ10 => r9 = none ∧ Z none μ10)))))) ∧ (¬ y3 = 0 → hS μ2 a0 = some (15, 65) ∧ ((8 ≤ ((hI μ2 a0 3) - (hI μ2 a0 5)) → J (wI μ2 a0 3 ((hI μ2 a0 3) + 1)) 0 0 27 [(0, .ref a0)] []) ∧ (¬ 8 ≤ ((hI μ2 a0 3) - (hI μ2 a0 5)) → ∃ tape_12 : Nat, hR μ2 a0 1 = some tape_12 ∧ ∃ N13 : Nat, hS μ2 tape_12 = some (1, N13) ∧ (((hI μ2 a0 2) ≤ (hI μ2 a0 3) → (∀ v17 : Int64, v17 = (((hL μ2 a0 6) <<< ((5 : Int32).toInt64 &&& 63)) ||| (((-1) - 97) + 1).toInt64) → J (wI (wL μ2 a0 6 v17) a0 3 ((hI (wL μ2 a0 6 v17) a0 3) + 1)) 0 0 27 [(0, .ref a0)] [])) ∧ (¬ (hI μ2 a0 2) ≤ (hI μ2 a0 3) → vp_in (hI μ2 a0 3) N13 ∧ (∀ v21 : Int32, v21 = ((((hI μ2 tape_12 ((hI μ2 a0 3).toNatClampNeg)) &&& 255) - 97) + 1) → (∀ v22 : Int64, v22 = (((hL μ2 a0 6) <<< ((5 : Int32).toInt64 &&& 63)) ||| v21.toInt64) → J (wI (wL μ2 a0 6 v22) a0 3 ((hI (wL μ2 a0 6 v22) a0 3) + 1)) 0 0 27 [(0, .ref a0)] [])))))))))) :
    J μ 0 0 27 [(0, .ref a0)] [] := by
  refine r_aload_n g dX12_word_27 rfl ?_
  obtain ⟨d1, Z1, hc1, hd1, h1⟩ := h
  refine r_callV (st := []) (As := []) g sX12_140 iX12_isLetter eX12_isLetter rfl hs_a0 rfl (Nat.le_of_ble_eq_true rfl) dX12_word_28 hd1 (Nat.le_refl 0) (Nat.le_refl 0) hc1 (fun r1 μ2 hZ1 => ?_)
  replace h := h1 _ _ hZ1
  clear h1 hc1 hd1 hZ1 Z1 d1
  obtain ⟨y3, rfl, h⟩ := h
  refine r_if_eq g 82 dX12_word_31 (by decide) (fun c4 => ?_) (fun c4 => ?_)
  · replace h := h.1 c4
    refine r_aload_n g dX12_word_82 rfl ?_
    obtain ⟨hs_a0_, h⟩ := h
    refine r_getI g fX12_120 rfl hs_a0_ dX12_word_83 ?_
    refine r_aload_n g dX12_word_86 rfl ?_
    refine r_getI g fX12_133 rfl hs_a0_ dX12_word_87 ?_
    refine r_icmp_eq g 107 dX12_word_90 (by decide) (fun c5 => ?_) (fun c5 => ?_)
    · replace h := h.1 c5
      refine r_aload_n g dX12_word_107 rfl ?_
      refine r_aload_n g dX12_word_108 rfl ?_
      refine r_getI g fX12_133 rfl hs_a0_ dX12_word_109 ?_
      obtain ⟨d1, Z1, hc1, hd1, h1⟩ := h
      refine r_callV (st := []) (As := [.int (hI μ2 a0 5)]) g sX12_144 iX12_fails eX12_fails rfl hs_a0_ rfl (Nat.le_of_ble_eq_true rfl) dX12_word_112 hd1 (Nat.le_refl 0) (Nat.le_refl 0) hc1 (fun r6 μ7 hZ1 => ?_)
      replace h := h1 _ _ hZ1
      clear h1 hc1 hd1 hZ1 Z1 d1
      obtain ⟨rfl, h⟩ := h
      exact hr.1 rfl _ _ _ _ _ dX12_word_115 (Nat.le_refl 0) (Nat.le_refl 0) h
    · replace h := h.2 c5
      refine r_aload_n g dX12_word_93 rfl ?_
      refine r_getI g fX12_120 rfl hs_a0_ dX12_word_94 ?_
      refine r_aload_n g dX12_word_97 rfl ?_
      refine r_getI g fX12_133 rfl hs_a0_ dX12_word_98 ?_
      refine r_isub g dX12_word_101 ?_
      refine r_bipush g 8 dX12_word_102 (by decide) ?_
      refine r_icmp_le g 115 dX12_word_104 (by decide) (fun c8 => ?_) (fun c8 => ?_)
      · replace h := h.1 c8
        exact hr.1 rfl _ _ _ _ _ dX12_word_115 (Nat.le_refl 0) (Nat.le_refl 0) h
      · replace h := h.2 c8
        refine r_aload_n g dX12_word_107 rfl ?_
        refine r_aload_n g dX12_word_108 rfl ?_
        refine r_getI g fX12_133 rfl hs_a0_ dX12_word_109 ?_
        obtain ⟨d1, Z1, hc1, hd1, h1⟩ := h
        refine r_callV (st := []) (As := [.int (hI μ2 a0 5)]) g sX12_144 iX12_fails eX12_fails rfl hs_a0_ rfl (Nat.le_of_ble_eq_true rfl) dX12_word_112 hd1 (Nat.le_refl 0) (Nat.le_refl 0) hc1 (fun r9 μ10 hZ1 => ?_)
        replace h := h1 _ _ hZ1
        clear h1 hc1 hd1 hZ1 Z1 d1
        obtain ⟨rfl, h⟩ := h
        exact hr.1 rfl _ _ _ _ _ dX12_word_115 (Nat.le_refl 0) (Nat.le_refl 0) h
  · replace h := h.2 c4
    refine r_aload_n g dX12_word_34 rfl ?_
    obtain ⟨hs_a0__, h⟩ := h
    refine r_getI g fX12_120 rfl hs_a0__ dX12_word_35 ?_
    refine r_aload_n g dX12_word_38 rfl ?_
    refine r_getI g fX12_133 rfl hs_a0__ dX12_word_39 ?_
    refine r_isub g dX12_word_42 ?_
    refine r_bipush g 8 dX12_word_43 (by decide) ?_
    refine r_icmp_ge g 69 dX12_word_45 (by decide) (fun c11 => ?_) (fun c11 => ?_)
    · replace h := h.1 c11
      refine r_aload_n g dX12_word_69 rfl ?_
      refine r_dup g dX12_word_70 rfl ?_
      refine r_getI g fX12_120 rfl hs_a0__ dX12_word_71 ?_
      refine r_iconst g 1 dX12_word_74 (by decide) ?_
      refine r_iadd g dX12_word_75 ?_
      refine r_putI g fX12_120 rfl hs_a0__ rfl rfl dX12_word_76 ?_
      refine r_goto g 27 dX12_word_79 (by decide) ?_
      refine r_sub g (lv' := [(0, .ref a0)]) (⟨rfl, trivial⟩) ?_
      exact h
    · replace h := h.2 c11
      refine r_aload_n g dX12_word_48 rfl ?_
      refine r_aload_n g dX12_word_49 rfl ?_
      refine r_getL g fX12_136 rfl hs_a0__ dX12_word_50 ?_
      refine r_iconst g 5 dX12_word_53 (by decide) ?_
      refine r_lshl g dX12_word_54 ?_
      refine r_aload_n g dX12_word_55 rfl ?_
      obtain ⟨tape_12, hr_tape_12, h⟩ := h
      obtain ⟨N13, hs_tape_12, h⟩ := h
      by_cases c14 : (hI μ2 a0 2) ≤ (hI μ2 a0 3)
      · replace h := h.1 c14
        refine r_callV (st := [.long ((hL μ2 a0 6) <<< ((5 : Int32).toInt64 &&& 63)), .ref a0]) (As := []) g sX12_123 iX12_here eX12_here rfl hs_a0__ rfl (Nat.le_of_ble_eq_true rfl) dX12_word_56 (by omega) (Nat.le_refl 0) (Nat.le_refl 0) (P_X12_here_0 (d := d - 1) hs_a0__ hr_tape_12 hs_tape_12 c14) (fun r15 μ16 hZ1 => ?_)
        obtain ⟨rfl, e9⟩ := hZ1
        replace e9 := e9.symm
        subst e9
        refine r_bipush g 97 dX12_word_59 (by decide) ?_
        refine r_isub g dX12_word_61 ?_
        refine r_iconst g 1 dX12_word_62 (by decide) ?_
        refine r_iadd g dX12_word_63 ?_
        refine r_i2l g dX12_word_64 ?_
        refine r_lor g dX12_word_65 ?_
        refine r_nmL (fun v17 ev17 => ?_)
        replace h := h v17 ev17
        refine r_putL g fX12_136 rfl hs_a0__ rfl rfl dX12_word_66 ?_
        refine r_aload_n g dX12_word_69 rfl ?_
        refine r_dup g dX12_word_70 rfl ?_
        refine r_getI g fX12_120 rfl hs_a0__ dX12_word_71 ?_
        refine r_iconst g 1 dX12_word_74 (by decide) ?_
        refine r_iadd g dX12_word_75 ?_
        refine r_putI g fX12_120 rfl hs_a0__ rfl rfl dX12_word_76 ?_
        refine r_goto g 27 dX12_word_79 (by decide) ?_
        refine r_sub g (lv' := [(0, .ref a0)]) (⟨rfl, trivial⟩) ?_
        exact h
      · replace h := h.2 c14
        obtain ⟨hi18, h⟩ := h
        refine r_callV (st := [.long ((hL μ2 a0 6) <<< ((5 : Int32).toInt64 &&& 63)), .ref a0]) (As := []) g sX12_123 iX12_here eX12_here rfl hs_a0__ rfl (Nat.le_of_ble_eq_true rfl) dX12_word_56 (by omega) (Nat.le_refl 0) (Nat.le_refl 0) (P_X12_here_1 (d := d - 1) hs_a0__ hr_tape_12 hs_tape_12 c14 hi18) (fun r19 μ20 hZ1 => ?_)
        obtain ⟨rfl, e9⟩ := hZ1
        replace e9 := e9.symm
        subst e9
        refine r_bipush g 97 dX12_word_59 (by decide) ?_
        refine r_isub g dX12_word_61 ?_
        refine r_iconst g 1 dX12_word_62 (by decide) ?_
        refine r_iadd g dX12_word_63 ?_
        refine r_nmI (fun v21 ev21 => ?_)
        replace h := h v21 ev21
        refine r_i2l g dX12_word_64 ?_
        refine r_lor g dX12_word_65 ?_
        refine r_nmL (fun v22 ev22 => ?_)
        replace h := h v22 ev22
        refine r_putL g fX12_136 rfl hs_a0__ rfl rfl dX12_word_66 ?_
        refine r_aload_n g dX12_word_69 rfl ?_
        refine r_dup g dX12_word_70 rfl ?_
        refine r_getI g fX12_120 rfl hs_a0__ dX12_word_71 ?_
        refine r_iconst g 1 dX12_word_74 (by decide) ?_
        refine r_iadd g dX12_word_75 ?_
        refine r_putI g fX12_120 rfl hs_a0__ rfl rfl dX12_word_76 ?_
        refine r_goto g 27 dX12_word_79 (by decide) ?_
        refine r_sub g (lv' := [(0, .ref a0)]) (⟨rfl, trivial⟩) ?_
        exact h
theorem I_X12_word {d : Nat} {ro : Nat → Nat} {Z : Option Value → Hp → Prop} {μ : Hp} {a0 : Nat} (h : ∀ J, xCtx RX12 cX12_word 2 d 0 0 yX12_word.name ro J → xRet cX12_word none 0 0 Z J → J μ 0 0 0 [(0, .ref a0)] []) : xC d yX12_word cX12_word 2 none 0 0 [.ref a0] μ ro Z :=
  xC_intro (own := RX12) (lv := [(0, .ref a0)]) (by decide) rfl (Nat.le_of_ble_eq_true rfl) rfl (fun J g hr => r_sub g (lv' := [(0, .ref a0)]) (⟨rfl, trivial⟩) (h J g hr))
theorem dX12_number_0 : decode cX12_number 0 = .ok (.aload_n 0, 1) := by decide +kernel
theorem dX12_number_1 : decode cX12_number 1 = .ok (.getfield 127, 3) := by decide +kernel
theorem dX12_number_4 : decode cX12_number 4 = .ok (.iconst (-1), 1) := by decide +kernel
theorem dX12_number_5 : decode cX12_number 5 = .ok (.if_icmp .eq 5, 3) := by decide +kernel
theorem dX12_number_8 : decode cX12_number 8 = .ok (.iload_n 1, 1) := by decide +kernel
theorem dX12_number_9 : decode cX12_number 9 = .ok (.ireturn, 1) := by decide +kernel
theorem dX12_number_10 : decode cX12_number 10 = .ok (.aload_n 0, 1) := by decide +kernel
theorem dX12_number_11 : decode cX12_number 11 = .ok (.invokevirtual 130, 3) := by decide +kernel
theorem dX12_number_14 : decode cX12_number 14 = .ok (.istore_n 3, 1) := by decide +kernel
theorem dX12_number_15 : decode cX12_number 15 = .ok (.aload_n 0, 1) := by decide +kernel
theorem dX12_number_16 : decode cX12_number 16 = .ok (.aload_n 0, 1) := by decide +kernel
theorem dX12_number_17 : decode cX12_number 17 = .ok (.getfield 120, 3) := by decide +kernel
theorem dX12_number_20 : decode cX12_number 20 = .ok (.putfield 133, 3) := by decide +kernel
theorem dX12_number_23 : decode cX12_number 23 = .ok (.iconst 0, 1) := by decide +kernel
theorem dX12_number_24 : decode cX12_number 24 = .ok (.istore 4, 2) := by decide +kernel
theorem dX12_number_26 : decode cX12_number 26 = .ok (.aload_n 0, 1) := by decide +kernel
theorem dX12_number_27 : decode cX12_number 27 = .ok (.invokevirtual 157, 3) := by decide +kernel
theorem dX12_number_30 : decode cX12_number 30 = .ok (.ifCond .eq 43, 3) := by decide +kernel
theorem dX12_number_33 : decode cX12_number 33 = .ok (.iload 4, 2) := by decide +kernel
theorem dX12_number_35 : decode cX12_number 35 = .ok (.ldc 160, 2) := by decide +kernel
theorem dX12_number_37 : decode cX12_number 37 = .ok (.if_icmp .le 8, 3) := by decide +kernel
theorem dX12_number_40 : decode cX12_number 40 = .ok (.iload 4, 2) := by decide +kernel
theorem dX12_number_42 : decode cX12_number 42 = .ok (.goto 16, 3) := by decide +kernel
theorem dX12_number_45 : decode cX12_number 45 = .ok (.bipush 10, 2) := by decide +kernel
theorem dX12_number_47 : decode cX12_number 47 = .ok (.iload 4, 2) := by decide +kernel
theorem dX12_number_49 : decode cX12_number 49 = .ok (.imul, 1) := by decide +kernel
theorem dX12_number_50 : decode cX12_number 50 = .ok (.aload_n 0, 1) := by decide +kernel
theorem dX12_number_51 : decode cX12_number 51 = .ok (.invokevirtual 123, 3) := by decide +kernel
theorem dX12_number_54 : decode cX12_number 54 = .ok (.iadd, 1) := by decide +kernel
theorem dX12_number_55 : decode cX12_number 55 = .ok (.bipush 48, 2) := by decide +kernel
theorem dX12_number_57 : decode cX12_number 57 = .ok (.isub, 1) := by decide +kernel
theorem dX12_number_58 : decode cX12_number 58 = .ok (.istore 4, 2) := by decide +kernel
theorem dX12_number_60 : decode cX12_number 60 = .ok (.aload_n 0, 1) := by decide +kernel
theorem dX12_number_61 : decode cX12_number 61 = .ok (.dup, 1) := by decide +kernel
theorem dX12_number_62 : decode cX12_number 62 = .ok (.getfield 120, 3) := by decide +kernel
theorem dX12_number_65 : decode cX12_number 65 = .ok (.iconst 1, 1) := by decide +kernel
theorem dX12_number_66 : decode cX12_number 66 = .ok (.iadd, 1) := by decide +kernel
theorem dX12_number_67 : decode cX12_number 67 = .ok (.putfield 120, 3) := by decide +kernel
theorem dX12_number_70 : decode cX12_number 70 = .ok (.goto (-44), 3) := by decide +kernel
theorem dX12_number_73 : decode cX12_number 73 = .ok (.aload_n 0, 1) := by decide +kernel
theorem dX12_number_74 : decode cX12_number 74 = .ok (.getfield 120, 3) := by decide +kernel
theorem dX12_number_77 : decode cX12_number 77 = .ok (.aload_n 0, 1) := by decide +kernel
theorem dX12_number_78 : decode cX12_number 78 = .ok (.getfield 133, 3) := by decide +kernel
theorem dX12_number_81 : decode cX12_number 81 = .ok (.if_icmp .eq 16, 3) := by decide +kernel
theorem dX12_number_84 : decode cX12_number 84 = .ok (.iload 4, 2) := by decide +kernel
theorem dX12_number_86 : decode cX12_number 86 = .ok (.i2l, 1) := by decide +kernel
theorem dX12_number_87 : decode cX12_number 87 = .ok (.iload_n 1, 1) := by decide +kernel
theorem dX12_number_88 : decode cX12_number 88 = .ok (.i2l, 1) := by decide +kernel
theorem dX12_number_89 : decode cX12_number 89 = .ok (.iload_n 2, 1) := by decide +kernel
theorem dX12_number_90 : decode cX12_number 90 = .ok (.i2l, 1) := by decide +kernel
theorem dX12_number_91 : decode cX12_number 91 = .ok (.invokestatic 161, 3) := by decide +kernel
theorem dX12_number_94 : decode cX12_number 94 = .ok (.ifCond .ne 11, 3) := by decide +kernel
theorem dX12_number_97 : decode cX12_number 97 = .ok (.aload_n 0, 1) := by decide +kernel
theorem dX12_number_98 : decode cX12_number 98 = .ok (.aload_n 0, 1) := by decide +kernel
theorem dX12_number_99 : decode cX12_number 99 = .ok (.getfield 133, 3) := by decide +kernel
theorem dX12_number_102 : decode cX12_number 102 = .ok (.invokevirtual 144, 3) := by decide +kernel
theorem dX12_number_105 : decode cX12_number 105 = .ok (.aload_n 0, 1) := by decide +kernel
theorem dX12_number_106 : decode cX12_number 106 = .ok (.getfield 127, 3) := by decide +kernel
theorem dX12_number_109 : decode cX12_number 109 = .ok (.iconst (-1), 1) := by decide +kernel
theorem dX12_number_110 : decode cX12_number 110 = .ok (.if_icmp .ne 8, 3) := by decide +kernel
theorem dX12_number_113 : decode cX12_number 113 = .ok (.iload 4, 2) := by decide +kernel
theorem dX12_number_115 : decode cX12_number 115 = .ok (.goto 4, 3) := by decide +kernel
theorem dX12_number_118 : decode cX12_number 118 = .ok (.iload_n 1, 1) := by decide +kernel
theorem dX12_number_119 : decode cX12_number 119 = .ok (.ireturn, 1) := by decide +kernel
set_option maxHeartbeats 4000000 in
set_option maxRecDepth 100000 in
theorem B_X12_number_0 {d : Nat} {ro : Nat → Nat} {J : JT} {Z : Option Value → Hp → Prop} (g : xCtx RX12 cX12_number 5 d 0 0 yX12_number.name ro J) (hr : xRet cX12_number (some .int) 0 0 Z J) {μ : Hp} {a0 : Nat} {x1 : Int32} {x2 : Int32} (hs_a0 : hS μ a0 = some (15, 65))
    (h : (((hI μ a0 4) = (-1) → xCall d yX12_look cX12_look 1 (some .int) [.ref a0] μ ro (fun r2 μ3 => ∃ y4 : Int32, r2 = some (.int y4) ∧ hS μ3 a0 = some (15, 65) ∧ J (wI μ3 a0 5 (hI μ3 a0 3)) 0 0 26 [(0, .ref a0), (1, .int x1), (2, .int x2), (4, .int 0)] [])) ∧ (¬ (hI μ a0 4) = (-1) → Z (some (.int x1)) μ))) :
    J μ 0 0 0 [(0, .ref a0), (1, .int x1), (2, .int x2)] [] := by
  refine r_aload_n g dX12_number_0 rfl ?_
  refine r_getI g fX12_127 rfl hs_a0 dX12_number_1 ?_
  refine r_iconst g (-1) dX12_number_4 (by decide) ?_
  refine r_icmp_eq g 10 dX12_number_5 (by decide) (fun c1 => ?_) (fun c1 => ?_)
  · replace h := h.1 c1
    refine r_aload_n g dX12_number_10 rfl ?_
    obtain ⟨d1, Z1, hc1, hd1, h1⟩ := h
    refine r_callV (st := []) (As := []) g sX12_130 iX12_look eX12_look rfl hs_a0 rfl (Nat.le_of_ble_eq_true rfl) dX12_number_11 hd1 (Nat.le_refl 0) (Nat.le_refl 0) hc1 (fun r2 μ3 hZ1 => ?_)
    replace h := h1 _ _ hZ1
    clear h1 hc1 hd1 hZ1 Z1 d1
    obtain ⟨y4, rfl, h⟩ := h
    refine r_istore_n g [(3, .int y4), (0, .ref a0), (1, .int x1), (2, .int x2)] dX12_number_14 (by decide) rfl ?_
    refine r_aload_n g dX12_number_15 rfl ?_
    refine r_aload_n g dX12_number_16 rfl ?_
    obtain ⟨hs_a0_, h⟩ := h
    refine r_getI g fX12_120 rfl hs_a0_ dX12_number_17 ?_
    refine r_putI g fX12_133 rfl hs_a0_ rfl rfl dX12_number_20 ?_
    refine r_iconst g 0 dX12_number_23 (by decide) ?_
    refine r_istore g [(4, .int 0), (3, .int y4), (0, .ref a0), (1, .int x1), (2, .int x2)] dX12_number_24 (by decide) rfl ?_
    refine r_sub g (lv' := [(0, .ref a0), (1, .int x1), (2, .int x2), (4, .int 0)]) (⟨rfl, rfl, rfl, rfl, trivial⟩) ?_
    exact h
  · replace h := h.2 c1
    refine r_iload_n g dX12_number_8 rfl ?_
    exact hr.2.1 _ rfl _ _ _ _ _ _ dX12_number_9 rfl (Nat.le_refl 0) (Nat.le_refl 0) h
set_option maxHeartbeats 4000000 in
set_option maxRecDepth 100000 in
theorem B_X12_number_26 {d : Nat} {ro : Nat → Nat} {J : JT} {Z : Option Value → Hp → Prop} (g : xCtx RX12 cX12_number 5 d 0 0 yX12_number.name ro J) (hr : xRet cX12_number (some .int) 0 0 Z J) {μ : Hp} {a0 : Nat} {x1 : Int32} {x2 : Int32} {x4 : Int32} (hs_a0 : hS μ a0 = some (15, 65)) (hd9 : 1 ≤ d)
    (h : xCall d yX12_isDigit cX12_isDigit 1 (some .boolean) [.ref a0] μ ro (fun r1 μ2 => ∃ y3 : Int32, r1 = some (.int y3) ∧ ((y3 = 0 → hS μ2 a0 = some (15, 65) ∧ (((hI μ2 a0 3) = (hI μ2 a0 5) → xCall d yX12_fails cX12_fails 2 none [.ref a0, .int (hI μ2 a0 5)] μ2 ro (fun r6 μ7 => r6 = none ∧ hS μ7 a0 = some (15, 65) ∧ ((¬ (hI μ7 a0 4) = (-1) → Z (some (.int x1)) μ7) ∧ ((hI μ7 a0 4) = (-1) → Z (some (.int x4)) μ7)))) ∧ (¬ (hI μ2 a0 3) = (hI μ2 a0 5) → ((x4 < x1 → xCall d yX12_fails cX12_fails 2 none [.ref a0, .int (hI μ2 a0 5)] μ2 ro (fun r12 μ13 => r12 = none ∧ hS μ13 a0 = some (15, 65) ∧ ((¬ (hI μ13 a0 4) = (-1) → Z (some (.int x1)) μ13) ∧ ((hI μ13 a0 4) = (-1) → Z (some (.int x4)) μ13)))) ∧ (¬ x4 < x1 → ((x2 < x4 → xCall d yX12_fails cX12_fails 2 none [.ref a0, .int (hI μ2 a0 5)] μ2 ro (fun r18 μ19 => r18 = none ∧ hS μ19 a0 = some (15, 65) ∧ ((¬ (hI μ19 a0 4) = (-1) → Z (some (.int x1)) μ19) ∧ ((hI μ19 a0 4) = (-1) → Z (some (.int x4)) μ19)))) ∧ (¬ x2 < x4 → ((¬ (hI μ2 a0 4) = (-1) → Z (some (.int x1)) μ2) ∧ ((hI μ2 a0 4) = (-1) → Z (some (.int x4)) μ2))))))))) ∧ (¬ y3 = 0 → ((x4 ≤ 99999 → hS μ2 a0 = some (15, 65) ∧ ∃ tape_25 : Nat, hR μ2 a0 1 = some tape_25 ∧ ∃ N26 : Nat, hS μ2 tape_25 = some (1, N26) ∧ (((hI μ2 a0 2) ≤ (hI μ2 a0 3) → J (wI μ2 a0 3 ((hI μ2 a0 3) + 1)) 0 0 26 [(0, .ref a0), (1, .int x1), (2, .int x2), (4, .int (((10 * x4) + (-1)) - 48))] []) ∧ (¬ (hI μ2 a0 2) ≤ (hI μ2 a0 3) → vp_in (hI μ2 a0 3) N26 ∧ (∀ v33 : Int32, v33 = ((10 * x4) + ((hI μ2 tape_25 ((hI μ2 a0 3).toNatClampNeg)) &&& 255)) → J (wI μ2 a0 3 ((hI μ2 a0 3) + 1)) 0 0 26 [(0, .ref a0), (1, .int x1), (2, .int x2), (4, .int (v33 - 48))] [])))) ∧ (¬ x4 ≤ 99999 → hS μ2 a0 = some (15, 65) ∧ J (wI μ2 a0 3 ((hI μ2 a0 3) + 1)) 0 0 26 [(0, .ref a0), (1, .int x1), (2, .int x2), (4, .int x4)] [])))))) :
    J μ 0 0 26 [(0, .ref a0), (1, .int x1), (2, .int x2), (4, .int x4)] [] := by
  refine r_aload_n g dX12_number_26 rfl ?_
  obtain ⟨d1, Z1, hc1, hd1, h1⟩ := h
  refine r_callV (st := []) (As := []) g sX12_157 iX12_isDigit eX12_isDigit rfl hs_a0 rfl (Nat.le_of_ble_eq_true rfl) dX12_number_27 hd1 (Nat.le_refl 0) (Nat.le_refl 0) hc1 (fun r1 μ2 hZ1 => ?_)
  replace h := h1 _ _ hZ1
  clear h1 hc1 hd1 hZ1 Z1 d1
  obtain ⟨y3, rfl, h⟩ := h
  refine r_if_eq g 73 dX12_number_30 (by decide) (fun c4 => ?_) (fun c4 => ?_)
  · replace h := h.1 c4
    refine r_aload_n g dX12_number_73 rfl ?_
    obtain ⟨hs_a0_, h⟩ := h
    refine r_getI g fX12_120 rfl hs_a0_ dX12_number_74 ?_
    refine r_aload_n g dX12_number_77 rfl ?_
    refine r_getI g fX12_133 rfl hs_a0_ dX12_number_78 ?_
    refine r_icmp_eq g 97 dX12_number_81 (by decide) (fun c5 => ?_) (fun c5 => ?_)
    · replace h := h.1 c5
      refine r_aload_n g dX12_number_97 rfl ?_
      refine r_aload_n g dX12_number_98 rfl ?_
      refine r_getI g fX12_133 rfl hs_a0_ dX12_number_99 ?_
      obtain ⟨d1, Z1, hc1, hd1, h1⟩ := h
      refine r_callV (st := []) (As := [.int (hI μ2 a0 5)]) g sX12_144 iX12_fails eX12_fails rfl hs_a0_ rfl (Nat.le_of_ble_eq_true rfl) dX12_number_102 hd1 (Nat.le_refl 0) (Nat.le_refl 0) hc1 (fun r6 μ7 hZ1 => ?_)
      replace h := h1 _ _ hZ1
      clear h1 hc1 hd1 hZ1 Z1 d1
      obtain ⟨rfl, h⟩ := h
      refine r_aload_n g dX12_number_105 rfl ?_
      obtain ⟨hs_a0__, h⟩ := h
      refine r_getI g fX12_127 rfl hs_a0__ dX12_number_106 ?_
      refine r_iconst g (-1) dX12_number_109 (by decide) ?_
      refine r_icmp_ne g 118 dX12_number_110 (by decide) (fun c8 => ?_) (fun c8 => ?_)
      · replace h := h.1 c8
        refine r_iload_n g dX12_number_118 rfl ?_
        exact hr.2.1 _ rfl _ _ _ _ _ _ dX12_number_119 rfl (Nat.le_refl 0) (Nat.le_refl 0) h
      · replace h := h.2 c8
        refine r_iload g dX12_number_113 rfl ?_
        refine r_goto g 119 dX12_number_115 (by decide) ?_
        exact hr.2.1 _ rfl _ _ _ _ _ _ dX12_number_119 rfl (Nat.le_refl 0) (Nat.le_refl 0) h
    · replace h := h.2 c5
      refine r_iload g dX12_number_84 rfl ?_
      refine r_i2l g dX12_number_86 ?_
      refine r_iload_n g dX12_number_87 rfl ?_
      refine r_i2l g dX12_number_88 ?_
      refine r_iload_n g dX12_number_89 rfl ?_
      refine r_i2l g dX12_number_90 ?_
      by_cases c9 : x4 < x1
      · replace h := h.1 c9
        refine r_callS (st := []) (As := [.long x4.toInt64, .long x1.toInt64, .long x2.toInt64]) g sX12_161 iX12_isIn rfl (Nat.le_of_ble_eq_true rfl) dX12_number_91 (by omega) (Nat.le_refl 0) (Nat.le_refl 0) (Q_isIn_0 (d := d - 1) (x := x4) (a := x1) (b := x2) rfl rfl rfl c9) (fun r10 μ11 hZ1 => ?_)
        obtain ⟨rfl, e9⟩ := hZ1
        replace e9 := e9.symm
        subst e9
        refine r_if_ne g 105 dX12_number_94 (by decide) (fun hz => absurd hz (by decide)) (fun _ => ?_)
        refine r_aload_n g dX12_number_97 rfl ?_
        refine r_aload_n g dX12_number_98 rfl ?_
        refine r_getI g fX12_133 rfl hs_a0_ dX12_number_99 ?_
        obtain ⟨d1, Z1, hc1, hd1, h1⟩ := h
        refine r_callV (st := []) (As := [.int (hI μ2 a0 5)]) g sX12_144 iX12_fails eX12_fails rfl hs_a0_ rfl (Nat.le_of_ble_eq_true rfl) dX12_number_102 hd1 (Nat.le_refl 0) (Nat.le_refl 0) hc1 (fun r12 μ13 hZ1 => ?_)
        replace h := h1 _ _ hZ1
        clear h1 hc1 hd1 hZ1 Z1 d1
        obtain ⟨rfl, h⟩ := h
        refine r_aload_n g dX12_number_105 rfl ?_
        obtain ⟨hs_a0___, h⟩ := h
        refine r_getI g fX12_127 rfl hs_a0___ dX12_number_106 ?_
        refine r_iconst g (-1) dX12_number_109 (by decide) ?_
        refine r_icmp_ne g 118 dX12_number_110 (by decide) (fun c14 => ?_) (fun c14 => ?_)
        · replace h := h.1 c14
          refine r_iload_n g dX12_number_118 rfl ?_
          exact hr.2.1 _ rfl _ _ _ _ _ _ dX12_number_119 rfl (Nat.le_refl 0) (Nat.le_refl 0) h
        · replace h := h.2 c14
          refine r_iload g dX12_number_113 rfl ?_
          refine r_goto g 119 dX12_number_115 (by decide) ?_
          exact hr.2.1 _ rfl _ _ _ _ _ _ dX12_number_119 rfl (Nat.le_refl 0) (Nat.le_refl 0) h
      · replace h := h.2 c9
        by_cases c15 : x2 < x4
        · replace h := h.1 c15
          refine r_callS (st := []) (As := [.long x4.toInt64, .long x1.toInt64, .long x2.toInt64]) g sX12_161 iX12_isIn rfl (Nat.le_of_ble_eq_true rfl) dX12_number_91 (by omega) (Nat.le_refl 0) (Nat.le_refl 0) (Q_isIn_1 (d := d - 1) (x := x4) (a := x1) (b := x2) rfl rfl rfl c9 c15) (fun r16 μ17 hZ1 => ?_)
          obtain ⟨rfl, e9⟩ := hZ1
          replace e9 := e9.symm
          subst e9
          refine r_if_ne g 105 dX12_number_94 (by decide) (fun hz => absurd hz (by decide)) (fun _ => ?_)
          refine r_aload_n g dX12_number_97 rfl ?_
          refine r_aload_n g dX12_number_98 rfl ?_
          refine r_getI g fX12_133 rfl hs_a0_ dX12_number_99 ?_
          obtain ⟨d1, Z1, hc1, hd1, h1⟩ := h
          refine r_callV (st := []) (As := [.int (hI μ2 a0 5)]) g sX12_144 iX12_fails eX12_fails rfl hs_a0_ rfl (Nat.le_of_ble_eq_true rfl) dX12_number_102 hd1 (Nat.le_refl 0) (Nat.le_refl 0) hc1 (fun r18 μ19 hZ1 => ?_)
          replace h := h1 _ _ hZ1
          clear h1 hc1 hd1 hZ1 Z1 d1
          obtain ⟨rfl, h⟩ := h
          refine r_aload_n g dX12_number_105 rfl ?_
          obtain ⟨hs_a0____, h⟩ := h
          refine r_getI g fX12_127 rfl hs_a0____ dX12_number_106 ?_
          refine r_iconst g (-1) dX12_number_109 (by decide) ?_
          refine r_icmp_ne g 118 dX12_number_110 (by decide) (fun c20 => ?_) (fun c20 => ?_)
          · replace h := h.1 c20
            refine r_iload_n g dX12_number_118 rfl ?_
            exact hr.2.1 _ rfl _ _ _ _ _ _ dX12_number_119 rfl (Nat.le_refl 0) (Nat.le_refl 0) h
          · replace h := h.2 c20
            refine r_iload g dX12_number_113 rfl ?_
            refine r_goto g 119 dX12_number_115 (by decide) ?_
            exact hr.2.1 _ rfl _ _ _ _ _ _ dX12_number_119 rfl (Nat.le_refl 0) (Nat.le_refl 0) h
        · replace h := h.2 c15
          refine r_callS (st := []) (As := [.long x4.toInt64, .long x1.toInt64, .long x2.toInt64]) g sX12_161 iX12_isIn rfl (Nat.le_of_ble_eq_true rfl) dX12_number_91 (by omega) (Nat.le_refl 0) (Nat.le_refl 0) (Q_isIn_2 (d := d - 1) (x := x4) (a := x1) (b := x2) rfl rfl rfl c9 c15) (fun r21 μ22 hZ1 => ?_)
          obtain ⟨rfl, e9⟩ := hZ1
          replace e9 := e9.symm
          subst e9
          refine r_if_ne g 105 dX12_number_94 (by decide) (fun _ => ?_) (fun hz => absurd hz (by decide))
          refine r_aload_n g dX12_number_105 rfl ?_
          refine r_getI g fX12_127 rfl hs_a0_ dX12_number_106 ?_
          refine r_iconst g (-1) dX12_number_109 (by decide) ?_
          refine r_icmp_ne g 118 dX12_number_110 (by decide) (fun c23 => ?_) (fun c23 => ?_)
          · replace h := h.1 c23
            refine r_iload_n g dX12_number_118 rfl ?_
            exact hr.2.1 _ rfl _ _ _ _ _ _ dX12_number_119 rfl (Nat.le_refl 0) (Nat.le_refl 0) h
          · replace h := h.2 c23
            refine r_iload g dX12_number_113 rfl ?_
            refine r_goto g 119 dX12_number_115 (by decide) ?_
            exact hr.2.1 _ rfl _ _ _ _ _ _ dX12_number_119 rfl (Nat.le_refl 0) (Nat.le_refl 0) h
  · replace h := h.2 c4
    refine r_iload g dX12_number_33 rfl ?_
    refine r_ldc g 99999 kX12_160 dX12_number_35 ?_
    refine r_icmp_le g 45 dX12_number_37 (by decide) (fun c24 => ?_) (fun c24 => ?_)
    · replace h := h.1 c24
      refine r_bipush g 10 dX12_number_45 (by decide) ?_
      refine r_iload g dX12_number_47 rfl ?_
      refine r_imul g dX12_number_49 ?_
      refine r_aload_n g dX12_number_50 rfl ?_
      obtain ⟨hs_a0_____, h⟩ := h
      obtain ⟨tape_25, hr_tape_25, h⟩ := h
      obtain ⟨N26, hs_tape_25, h⟩ := h
      by_cases c27 : (hI μ2 a0 2) ≤ (hI μ2 a0 3)
      · replace h := h.1 c27
        refine r_callV (st := [.int (10 * x4)]) (As := []) g sX12_123 iX12_here eX12_here rfl hs_a0_____ rfl (Nat.le_of_ble_eq_true rfl) dX12_number_51 (by omega) (Nat.le_refl 0) (Nat.le_refl 0) (P_X12_here_0 (d := d - 1) hs_a0_____ hr_tape_25 hs_tape_25 c27) (fun r28 μ29 hZ1 => ?_)
        obtain ⟨rfl, e9⟩ := hZ1
        replace e9 := e9.symm
        subst e9
        refine r_iadd g dX12_number_54 ?_
        refine r_bipush g 48 dX12_number_55 (by decide) ?_
        refine r_isub g dX12_number_57 ?_
        refine r_istore g [(4, .int (((10 * x4) + (-1)) - 48)), (0, .ref a0), (1, .int x1), (2, .int x2)] dX12_number_58 (by decide) rfl ?_
        refine r_aload_n g dX12_number_60 rfl ?_
        refine r_dup g dX12_number_61 rfl ?_
        refine r_getI g fX12_120 rfl hs_a0_____ dX12_number_62 ?_
        refine r_iconst g 1 dX12_number_65 (by decide) ?_
        refine r_iadd g dX12_number_66 ?_
        refine r_putI g fX12_120 rfl hs_a0_____ rfl rfl dX12_number_67 ?_
        refine r_goto g 26 dX12_number_70 (by decide) ?_
        refine r_sub g (lv' := [(0, .ref a0), (1, .int x1), (2, .int x2), (4, .int (((10 * x4) + (-1)) - 48))]) (⟨rfl, rfl, rfl, rfl, trivial⟩) ?_
        exact h
      · replace h := h.2 c27
        obtain ⟨hi30, h⟩ := h
        refine r_callV (st := [.int (10 * x4)]) (As := []) g sX12_123 iX12_here eX12_here rfl hs_a0_____ rfl (Nat.le_of_ble_eq_true rfl) dX12_number_51 (by omega) (Nat.le_refl 0) (Nat.le_refl 0) (P_X12_here_1 (d := d - 1) hs_a0_____ hr_tape_25 hs_tape_25 c27 hi30) (fun r31 μ32 hZ1 => ?_)
        obtain ⟨rfl, e9⟩ := hZ1
        replace e9 := e9.symm
        subst e9
        refine r_iadd g dX12_number_54 ?_
        refine r_nmI (fun v33 ev33 => ?_)
        replace h := h v33 ev33
        refine r_bipush g 48 dX12_number_55 (by decide) ?_
        refine r_isub g dX12_number_57 ?_
        refine r_istore g [(4, .int (v33 - 48)), (0, .ref a0), (1, .int x1), (2, .int x2)] dX12_number_58 (by decide) rfl ?_
        refine r_aload_n g dX12_number_60 rfl ?_
        refine r_dup g dX12_number_61 rfl ?_
        refine r_getI g fX12_120 rfl hs_a0_____ dX12_number_62 ?_
        refine r_iconst g 1 dX12_number_65 (by decide) ?_
        refine r_iadd g dX12_number_66 ?_
        refine r_putI g fX12_120 rfl hs_a0_____ rfl rfl dX12_number_67 ?_
        refine r_goto g 26 dX12_number_70 (by decide) ?_
        refine r_sub g (lv' := [(0, .ref a0), (1, .int x1), (2, .int x2), (4, .int (v33 - 48))]) (⟨rfl, rfl, rfl, rfl, trivial⟩) ?_
        exact h
    · replace h := h.2 c24
      refine r_iload g dX12_number_40 rfl ?_
      refine r_goto g 58 dX12_number_42 (by decide) ?_
      refine r_istore g [(4, .int x4), (0, .ref a0), (1, .int x1), (2, .int x2)] dX12_number_58 (by decide) rfl ?_
      refine r_aload_n g dX12_number_60 rfl ?_
      refine r_dup g dX12_number_61 rfl ?_
      obtain ⟨hs_a0______, h⟩ := h
      refine r_getI g fX12_120 rfl hs_a0______ dX12_number_62 ?_
      refine r_iconst g 1 dX12_number_65 (by decide) ?_
      refine r_iadd g dX12_number_66 ?_
      refine r_putI g fX12_120 rfl hs_a0______ rfl rfl dX12_number_67 ?_
      refine r_goto g 26 dX12_number_70 (by decide) ?_
      refine r_sub g (lv' := [(0, .ref a0), (1, .int x1), (2, .int x2), (4, .int x4)]) (⟨rfl, rfl, rfl, rfl, trivial⟩) ?_
      exact h
theorem I_X12_number {d : Nat} {ro : Nat → Nat} {Z : Option Value → Hp → Prop} {μ : Hp} {a0 : Nat} {x1 : Int32} {x2 : Int32} (h : ∀ J, xCtx RX12 cX12_number 5 d 0 0 yX12_number.name ro J → xRet cX12_number (some .int) 0 0 Z J → J μ 0 0 0 [(0, .ref a0), (1, .int x1), (2, .int x2)] []) : xC d yX12_number cX12_number 5 (some .int) 0 0 [.ref a0, .int x1, .int x2] μ ro Z :=
  xC_intro (own := RX12) (lv := [(0, .ref a0), (1, .int x1), (2, .int x2)]) (by decide) rfl (Nat.le_of_ble_eq_true rfl) rfl (fun J g hr => r_sub g (lv' := [(0, .ref a0), (1, .int x1), (2, .int x2)]) (⟨rfl, rfl, rfl, trivial⟩) (h J g hr))
theorem dX12_spotOf_0 : decode cX12_spotOf 0 = .ok (.iconst 0, 1) := by decide +kernel
theorem dX12_spotOf_1 : decode cX12_spotOf 1 = .ok (.istore 4, 2) := by decide +kernel
theorem dX12_spotOf_3 : decode cX12_spotOf 3 = .ok (.iload 4, 2) := by decide +kernel
theorem dX12_spotOf_5 : decode cX12_spotOf 5 = .ok (.iload_n 1, 1) := by decide +kernel
theorem dX12_spotOf_6 : decode cX12_spotOf 6 = .ok (.if_icmp .ge 21, 3) := by decide +kernel
theorem dX12_spotOf_9 : decode cX12_spotOf 9 = .ok (.aload_n 0, 1) := by decide +kernel
theorem dX12_spotOf_10 : decode cX12_spotOf 10 = .ok (.iload 4, 2) := by decide +kernel
theorem dX12_spotOf_12 : decode cX12_spotOf 12 = .ok (.laload, 1) := by decide +kernel
theorem dX12_spotOf_13 : decode cX12_spotOf 13 = .ok (.lload_n 2, 1) := by decide +kernel
theorem dX12_spotOf_14 : decode cX12_spotOf 14 = .ok (.lcmp, 1) := by decide +kernel
theorem dX12_spotOf_15 : decode cX12_spotOf 15 = .ok (.ifCond .ne 6, 3) := by decide +kernel
theorem dX12_spotOf_18 : decode cX12_spotOf 18 = .ok (.iload 4, 2) := by decide +kernel
theorem dX12_spotOf_20 : decode cX12_spotOf 20 = .ok (.ireturn, 1) := by decide +kernel
theorem dX12_spotOf_21 : decode cX12_spotOf 21 = .ok (.iinc 4 1, 3) := by decide +kernel
theorem dX12_spotOf_24 : decode cX12_spotOf 24 = .ok (.goto (-21), 3) := by decide +kernel
theorem dX12_spotOf_27 : decode cX12_spotOf 27 = .ok (.iconst (-1), 1) := by decide +kernel
theorem dX12_spotOf_28 : decode cX12_spotOf 28 = .ok (.ireturn, 1) := by decide +kernel
set_option maxHeartbeats 4000000 in
set_option maxRecDepth 100000 in
theorem B_X12_spotOf_0 {d : Nat} {ro : Nat → Nat} {J : JT} {Z : Option Value → Hp → Prop} (g : xCtx RX12 cX12_spotOf 5 d 0 0 yX12_spotOf.name ro J) (hr : xRet cX12_spotOf (some .int) 0 0 Z J) {μ : Hp} {a0 : Nat} {x1 : Int32} {x2 : Int64} 
    (h : J μ 0 0 3 [(0, .ref a0), (1, .int x1), (2, .long x2), (4, .int 0)] []) :
    J μ 0 0 0 [(0, .ref a0), (1, .int x1), (2, .long x2)] [] := by
  refine r_iconst g 0 dX12_spotOf_0 (by decide) ?_
  refine r_istore g [(4, .int 0), (0, .ref a0), (1, .int x1), (2, .long x2)] dX12_spotOf_1 (by decide) rfl ?_
  refine r_sub g (lv' := [(0, .ref a0), (1, .int x1), (2, .long x2), (4, .int 0)]) (⟨rfl, rfl, rfl, rfl, trivial⟩) ?_
  exact h
set_option maxHeartbeats 4000000 in
set_option maxRecDepth 100000 in
theorem B_X12_spotOf_3 {d : Nat} {ro : Nat → Nat} {J : JT} {Z : Option Value → Hp → Prop} (g : xCtx RX12 cX12_spotOf 5 d 0 0 yX12_spotOf.name ro J) (hr : xRet cX12_spotOf (some .int) 0 0 Z J) {μ : Hp} {a0 : Nat} {x1 : Int32} {x2 : Int64} {x4 : Int32} {N_a0 : Nat} (hs_a0 : hS μ a0 = some (2, N_a0))
    (h : ((x1 ≤ x4 → Z (some (.int (-1))) μ) ∧ (¬ x1 ≤ x4 → vp_in x4 N_a0 ∧ ((¬ (lg_cmp (hL μ a0 x4.toNatClampNeg) x2) = 0 → J μ 0 0 3 [(0, .ref a0), (1, .int x1), (2, .long x2), (4, .int (x4 + 1))] []) ∧ ((lg_cmp (hL μ a0 x4.toNatClampNeg) x2) = 0 → Z (some (.int x4)) μ))))) :
    J μ 0 0 3 [(0, .ref a0), (1, .int x1), (2, .long x2), (4, .int x4)] [] := by
  refine r_iload g dX12_spotOf_3 rfl ?_
  refine r_iload_n g dX12_spotOf_5 rfl ?_
  refine r_icmp_ge g 27 dX12_spotOf_6 (by decide) (fun c1 => ?_) (fun c1 => ?_)
  · replace h := h.1 c1
    refine r_iconst g (-1) dX12_spotOf_27 (by decide) ?_
    exact hr.2.1 _ rfl _ _ _ _ _ _ dX12_spotOf_28 rfl (Nat.le_refl 0) (Nat.le_refl 0) h
  · replace h := h.2 c1
    refine r_aload_n g dX12_spotOf_9 rfl ?_
    refine r_iload g dX12_spotOf_10 rfl ?_
    obtain ⟨hi2, h⟩ := h
    refine r_laload g hs_a0 hi2 dX12_spotOf_12 ?_
    refine r_lload_n g dX12_spotOf_13 rfl ?_
    refine r_lcmp g dX12_spotOf_14 ?_
    refine r_if_ne g 21 dX12_spotOf_15 (by decide) (fun c3 => ?_) (fun c3 => ?_)
    · replace h := h.1 c3
      refine r_iinc g (x4 + 1) [(4, .int (x4 + 1)), (0, .ref a0), (1, .int x1), (2, .long x2)] dX12_spotOf_21 rfl rfl (by decide) rfl ?_
      refine r_goto g 3 dX12_spotOf_24 (by decide) ?_
      refine r_sub g (lv' := [(0, .ref a0), (1, .int x1), (2, .long x2), (4, .int (x4 + 1))]) (⟨rfl, rfl, rfl, rfl, trivial⟩) ?_
      exact h
    · replace h := h.2 c3
      refine r_iload g dX12_spotOf_18 rfl ?_
      exact hr.2.1 _ rfl _ _ _ _ _ _ dX12_spotOf_20 rfl (Nat.le_refl 0) (Nat.le_refl 0) h
theorem I_X12_spotOf {d : Nat} {ro : Nat → Nat} {Z : Option Value → Hp → Prop} {μ : Hp} {a0 : Nat} {x1 : Int32} {x2 : Int64} (h : ∀ J, xCtx RX12 cX12_spotOf 5 d 0 0 yX12_spotOf.name ro J → xRet cX12_spotOf (some .int) 0 0 Z J → J μ 0 0 0 [(0, .ref a0), (1, .int x1), (2, .long x2)] []) : xC d yX12_spotOf cX12_spotOf 5 (some .int) 0 0 [.ref a0, .int x1, .long x2] μ ro Z :=
  xC_intro (own := RX12) (lv := [(0, .ref a0), (1, .int x1), (2, .long x2)]) (by decide) rfl (Nat.le_of_ble_eq_true rfl) rfl (fun J g hr => r_sub g (lv' := [(0, .ref a0), (1, .int x1), (2, .long x2)]) (⟨rfl, rfl, rfl, trivial⟩) (h J g hr))
theorem dX12_fresh_0 : decode cX12_fresh 0 = .ok (.aload_n 0, 1) := by decide +kernel
theorem dX12_fresh_1 : decode cX12_fresh 1 = .ok (.invokevirtual 165, 3) := by decide +kernel
theorem dX12_fresh_4 : decode cX12_fresh 4 = .ok (.aload_n 0, 1) := by decide +kernel
theorem dX12_fresh_5 : decode cX12_fresh 5 = .ok (.getfield 127, 3) := by decide +kernel
theorem dX12_fresh_8 : decode cX12_fresh 8 = .ok (.iconst (-1), 1) := by decide +kernel
theorem dX12_fresh_9 : decode cX12_fresh 9 = .ok (.if_icmp .ne 60, 3) := by decide +kernel
theorem dX12_fresh_12 : decode cX12_fresh 12 = .ok (.aload_n 0, 1) := by decide +kernel
theorem dX12_fresh_13 : decode cX12_fresh 13 = .ok (.getfield 136, 3) := by decide +kernel
theorem dX12_fresh_16 : decode cX12_fresh 16 = .ok (.invokestatic 167, 3) := by decide +kernel
theorem dX12_fresh_19 : decode cX12_fresh 19 = .ok (.iconst (-1), 1) := by decide +kernel
theorem dX12_fresh_20 : decode cX12_fresh 20 = .ok (.if_icmp .ne 41, 3) := by decide +kernel
theorem dX12_fresh_23 : decode cX12_fresh 23 = .ok (.aload_n 0, 1) := by decide +kernel
theorem dX12_fresh_24 : decode cX12_fresh 24 = .ok (.getfield 38, 3) := by decide +kernel
theorem dX12_fresh_27 : decode cX12_fresh 27 = .ok (.aload_n 0, 1) := by decide +kernel
theorem dX12_fresh_28 : decode cX12_fresh 28 = .ok (.getfield 171, 3) := by decide +kernel
theorem dX12_fresh_31 : decode cX12_fresh 31 = .ok (.aload_n 0, 1) := by decide +kernel
theorem dX12_fresh_32 : decode cX12_fresh 32 = .ok (.getfield 136, 3) := by decide +kernel
theorem dX12_fresh_35 : decode cX12_fresh 35 = .ok (.invokestatic 174, 3) := by decide +kernel
theorem dX12_fresh_38 : decode cX12_fresh 38 = .ok (.iconst (-1), 1) := by decide +kernel
theorem dX12_fresh_39 : decode cX12_fresh 39 = .ok (.if_icmp .ne 22, 3) := by decide +kernel
theorem dX12_fresh_42 : decode cX12_fresh 42 = .ok (.aload_n 0, 1) := by decide +kernel
theorem dX12_fresh_43 : decode cX12_fresh 43 = .ok (.getfield 45, 3) := by decide +kernel
theorem dX12_fresh_46 : decode cX12_fresh 46 = .ok (.aload_n 0, 1) := by decide +kernel
theorem dX12_fresh_47 : decode cX12_fresh 47 = .ok (.getfield 178, 3) := by decide +kernel
theorem dX12_fresh_50 : decode cX12_fresh 50 = .ok (.aload_n 0, 1) := by decide +kernel
theorem dX12_fresh_51 : decode cX12_fresh 51 = .ok (.getfield 136, 3) := by decide +kernel
theorem dX12_fresh_54 : decode cX12_fresh 54 = .ok (.invokestatic 174, 3) := by decide +kernel
theorem dX12_fresh_57 : decode cX12_fresh 57 = .ok (.iconst (-1), 1) := by decide +kernel
theorem dX12_fresh_58 : decode cX12_fresh 58 = .ok (.if_icmp .eq 11, 3) := by decide +kernel
theorem dX12_fresh_61 : decode cX12_fresh 61 = .ok (.aload_n 0, 1) := by decide +kernel
theorem dX12_fresh_62 : decode cX12_fresh 62 = .ok (.aload_n 0, 1) := by decide +kernel
theorem dX12_fresh_63 : decode cX12_fresh 63 = .ok (.getfield 133, 3) := by decide +kernel
theorem dX12_fresh_66 : decode cX12_fresh 66 = .ok (.invokevirtual 144, 3) := by decide +kernel
theorem dX12_fresh_69 : decode cX12_fresh 69 = .ok (.aload_n 0, 1) := by decide +kernel
theorem dX12_fresh_70 : decode cX12_fresh 70 = .ok (.getfield 136, 3) := by decide +kernel
theorem dX12_fresh_73 : decode cX12_fresh 73 = .ok (.lreturn, 1) := by decide +kernel
set_option maxHeartbeats 4000000 in
set_option maxRecDepth 100000 in
theorem B_X12_fresh_0 {d : Nat} {ro : Nat → Nat} {J : JT} {Z : Option Value → Hp → Prop} (g : xCtx RX12 cX12_fresh 1 d 0 0 yX12_fresh.name ro J) (hr : xRet cX12_fresh (some .long) 0 0 Z J) {μ : Hp} {a0 : Nat} (hs_a0 : hS μ a0 = some (15, 65))
    (h : xCall d yX12_word cX12_word 2 none [.ref a0] μ ro (fun r1 μ2 => r1 = none ∧ hS μ2 a0 = some (15, 65) ∧ ((¬ (hI μ2 a0 4) = (-1) → Z (some (.long (hL μ2 a0 6))) μ2) ∧ ((hI μ2 a0 4) = (-1) → xCall d yX12_known cX12_known 6 (some .int) [.long (hL μ2 a0 6)] μ2 ro (fun r4 μ5 => ∃ y6 : Int32, r4 = some (.int y6) ∧ ((¬ y6 = (-1) → hS μ5 a0 = some (15, 65) ∧ xCall d yX12_fails cX12_fails 2 none [.ref a0, .int (hI μ5 a0 5)] μ5 ro (fun r8 μ9 => r8 = none ∧ hS μ9 a0 = some (15, 65) ∧ Z (some (.long (hL μ9 a0 6))) μ9)) ∧ (y6 = (-1) → hS μ5 a0 = some (15, 65) ∧ ∃ landNameRead_10 : Nat, hR μ5 a0 15 = some landNameRead_10 ∧ xCall d yX12_spotOf cX12_spotOf 5 (some .int) [.ref landNameRead_10, .int (hI μ5 a0 19), .long (hL μ5 a0 6)] μ5 ro (fun r11 μ12 => ∃ y13 : Int32, r11 = some (.int y13) ∧ ((¬ y13 = (-1) → hS μ12 a0 = some (15, 65) ∧ xCall d yX12_fails cX12_fails 2 none [.ref a0, .int (hI μ12 a0 5)] μ12 ro (fun r15 μ16 => r15 = none ∧ hS μ16 a0 = some (15, 65) ∧ Z (some (.long (hL μ16 a0 6))) μ16)) ∧ (y13 = (-1) → hS μ12 a0 = some (15, 65) ∧ ∃ firmNameRead_17 : Nat, hR μ12 a0 17 = some firmNameRead_17 ∧ xCall d yX12_spotOf cX12_spotOf 5 (some .int) [.ref firmNameRead_17, .int (hI μ12 a0 21), .long (hL μ12 a0 6)] μ12 ro (fun r18 μ19 => ∃ y20 : Int32, r18 = some (.int y20) ∧ ((y20 = (-1) → hS μ19 a0 = some (15, 65) ∧ Z (some (.long (hL μ19 a0 6))) μ19) ∧ (¬ y20 = (-1) → hS μ19 a0 = some (15, 65) ∧ xCall d yX12_fails cX12_fails 2 none [.ref a0, .int (hI μ19 a0 5)] μ19 ro (fun r22 μ23 => r22 = none ∧ hS μ23 a0 = some (15, 65) ∧ Z (some (.long (hL μ23 a0 6))) μ23)))))))))))))) :
    J μ 0 0 0 [(0, .ref a0)] [] := by
  refine r_aload_n g dX12_fresh_0 rfl ?_
  obtain ⟨d1, Z1, hc1, hd1, h1⟩ := h
  refine r_callV (st := []) (As := []) g sX12_165 iX12_word eX12_word rfl hs_a0 rfl (Nat.le_of_ble_eq_true rfl) dX12_fresh_1 hd1 (Nat.le_refl 0) (Nat.le_refl 0) hc1 (fun r1 μ2 hZ1 => ?_)
  replace h := h1 _ _ hZ1
  clear h1 hc1 hd1 hZ1 Z1 d1
  obtain ⟨rfl, h⟩ := h
  refine r_aload_n g dX12_fresh_4 rfl ?_
  obtain ⟨hs_a0_, h⟩ := h
  refine r_getI g fX12_127 rfl hs_a0_ dX12_fresh_5 ?_
  refine r_iconst g (-1) dX12_fresh_8 (by decide) ?_
  refine r_icmp_ne g 69 dX12_fresh_9 (by decide) (fun c3 => ?_) (fun c3 => ?_)
  · replace h := h.1 c3
    refine r_aload_n g dX12_fresh_69 rfl ?_
    refine r_getL g fX12_136 rfl hs_a0_ dX12_fresh_70 ?_
    exact hr.2.2.1 rfl _ _ _ _ _ _ dX12_fresh_73 (Nat.le_refl 0) (Nat.le_refl 0) h
  · replace h := h.2 c3
    refine r_aload_n g dX12_fresh_12 rfl ?_
    refine r_getL g fX12_136 rfl hs_a0_ dX12_fresh_13 ?_
    obtain ⟨d1, Z1, hc1, hd1, h1⟩ := h
    refine r_callS (st := []) (As := [.long (hL μ2 a0 6)]) g sX12_167 iX12_known rfl (Nat.le_of_ble_eq_true rfl) dX12_fresh_16 hd1 (Nat.le_refl 0) (Nat.le_refl 0) hc1 (fun r4 μ5 hZ1 => ?_)
    replace h := h1 _ _ hZ1
    clear h1 hc1 hd1 hZ1 Z1 d1
    obtain ⟨y6, rfl, h⟩ := h
    refine r_iconst g (-1) dX12_fresh_19 (by decide) ?_
    refine r_icmp_ne g 61 dX12_fresh_20 (by decide) (fun c7 => ?_) (fun c7 => ?_)
    · replace h := h.1 c7
      refine r_aload_n g dX12_fresh_61 rfl ?_
      refine r_aload_n g dX12_fresh_62 rfl ?_
      obtain ⟨hs_a0__, h⟩ := h
      refine r_getI g fX12_133 rfl hs_a0__ dX12_fresh_63 ?_
      obtain ⟨d1, Z1, hc1, hd1, h1⟩ := h
      refine r_callV (st := []) (As := [.int (hI μ5 a0 5)]) g sX12_144 iX12_fails eX12_fails rfl hs_a0__ rfl (Nat.le_of_ble_eq_true rfl) dX12_fresh_66 hd1 (Nat.le_refl 0) (Nat.le_refl 0) hc1 (fun r8 μ9 hZ1 => ?_)
      replace h := h1 _ _ hZ1
      clear h1 hc1 hd1 hZ1 Z1 d1
      obtain ⟨rfl, h⟩ := h
      refine r_aload_n g dX12_fresh_69 rfl ?_
      obtain ⟨hs_a0___, h⟩ := h
      refine r_getL g fX12_136 rfl hs_a0___ dX12_fresh_70 ?_
      exact hr.2.2.1 rfl _ _ _ _ _ _ dX12_fresh_73 (Nat.le_refl 0) (Nat.le_refl 0) h
    · replace h := h.2 c7
      refine r_aload_n g dX12_fresh_23 rfl ?_
      obtain ⟨hs_a0____, h⟩ := h
      obtain ⟨landNameRead_10, hr_landNameRead_10, h⟩ := h
      refine r_getR g fX12_38 rfl hs_a0____ hr_landNameRead_10 dX12_fresh_24 ?_
      refine r_aload_n g dX12_fresh_27 rfl ?_
      refine r_getI g fX12_171 rfl hs_a0____ dX12_fresh_28 ?_
      refine r_aload_n g dX12_fresh_31 rfl ?_
      refine r_getL g fX12_136 rfl hs_a0____ dX12_fresh_32 ?_
      obtain ⟨d1, Z1, hc1, hd1, h1⟩ := h
      refine r_callS (st := []) (As := [.ref landNameRead_10, .int (hI μ5 a0 19), .long (hL μ5 a0 6)]) g sX12_174 iX12_spotOf rfl (Nat.le_of_ble_eq_true rfl) dX12_fresh_35 hd1 (Nat.le_refl 0) (Nat.le_refl 0) hc1 (fun r11 μ12 hZ1 => ?_)
      replace h := h1 _ _ hZ1
      clear h1 hc1 hd1 hZ1 Z1 d1
      obtain ⟨y13, rfl, h⟩ := h
      refine r_iconst g (-1) dX12_fresh_38 (by decide) ?_
      refine r_icmp_ne g 61 dX12_fresh_39 (by decide) (fun c14 => ?_) (fun c14 => ?_)
      · replace h := h.1 c14
        refine r_aload_n g dX12_fresh_61 rfl ?_
        refine r_aload_n g dX12_fresh_62 rfl ?_
        obtain ⟨hs_a0_____, h⟩ := h
        refine r_getI g fX12_133 rfl hs_a0_____ dX12_fresh_63 ?_
        obtain ⟨d1, Z1, hc1, hd1, h1⟩ := h
        refine r_callV (st := []) (As := [.int (hI μ12 a0 5)]) g sX12_144 iX12_fails eX12_fails rfl hs_a0_____ rfl (Nat.le_of_ble_eq_true rfl) dX12_fresh_66 hd1 (Nat.le_refl 0) (Nat.le_refl 0) hc1 (fun r15 μ16 hZ1 => ?_)
        replace h := h1 _ _ hZ1
        clear h1 hc1 hd1 hZ1 Z1 d1
        obtain ⟨rfl, h⟩ := h
        refine r_aload_n g dX12_fresh_69 rfl ?_
        obtain ⟨hs_a0______, h⟩ := h
        refine r_getL g fX12_136 rfl hs_a0______ dX12_fresh_70 ?_
        exact hr.2.2.1 rfl _ _ _ _ _ _ dX12_fresh_73 (Nat.le_refl 0) (Nat.le_refl 0) h
      · replace h := h.2 c14
        refine r_aload_n g dX12_fresh_42 rfl ?_
        obtain ⟨hs_a0_______, h⟩ := h
        obtain ⟨firmNameRead_17, hr_firmNameRead_17, h⟩ := h
        refine r_getR g fX12_45 rfl hs_a0_______ hr_firmNameRead_17 dX12_fresh_43 ?_
        refine r_aload_n g dX12_fresh_46 rfl ?_
        refine r_getI g fX12_178 rfl hs_a0_______ dX12_fresh_47 ?_
        refine r_aload_n g dX12_fresh_50 rfl ?_
        refine r_getL g fX12_136 rfl hs_a0_______ dX12_fresh_51 ?_
        obtain ⟨d1, Z1, hc1, hd1, h1⟩ := h
        refine r_callS (st := []) (As := [.ref firmNameRead_17, .int (hI μ12 a0 21), .long (hL μ12 a0 6)]) g sX12_174 iX12_spotOf rfl (Nat.le_of_ble_eq_true rfl) dX12_fresh_54 hd1 (Nat.le_refl 0) (Nat.le_refl 0) hc1 (fun r18 μ19 hZ1 => ?_)
        replace h := h1 _ _ hZ1
        clear h1 hc1 hd1 hZ1 Z1 d1
        obtain ⟨y20, rfl, h⟩ := h
        refine r_iconst g (-1) dX12_fresh_57 (by decide) ?_
        refine r_icmp_eq g 69 dX12_fresh_58 (by decide) (fun c21 => ?_) (fun c21 => ?_)
        · replace h := h.1 c21
          refine r_aload_n g dX12_fresh_69 rfl ?_
          obtain ⟨hs_a0________, h⟩ := h
          refine r_getL g fX12_136 rfl hs_a0________ dX12_fresh_70 ?_
          exact hr.2.2.1 rfl _ _ _ _ _ _ dX12_fresh_73 (Nat.le_refl 0) (Nat.le_refl 0) h
        · replace h := h.2 c21
          refine r_aload_n g dX12_fresh_61 rfl ?_
          refine r_aload_n g dX12_fresh_62 rfl ?_
          obtain ⟨hs_a0_________, h⟩ := h
          refine r_getI g fX12_133 rfl hs_a0_________ dX12_fresh_63 ?_
          obtain ⟨d1, Z1, hc1, hd1, h1⟩ := h
          refine r_callV (st := []) (As := [.int (hI μ19 a0 5)]) g sX12_144 iX12_fails eX12_fails rfl hs_a0_________ rfl (Nat.le_of_ble_eq_true rfl) dX12_fresh_66 hd1 (Nat.le_refl 0) (Nat.le_refl 0) hc1 (fun r22 μ23 hZ1 => ?_)
          replace h := h1 _ _ hZ1
          clear h1 hc1 hd1 hZ1 Z1 d1
          obtain ⟨rfl, h⟩ := h
          refine r_aload_n g dX12_fresh_69 rfl ?_
          obtain ⟨hs_a0__________, h⟩ := h
          refine r_getL g fX12_136 rfl hs_a0__________ dX12_fresh_70 ?_
          exact hr.2.2.1 rfl _ _ _ _ _ _ dX12_fresh_73 (Nat.le_refl 0) (Nat.le_refl 0) h
theorem I_X12_fresh {d : Nat} {ro : Nat → Nat} {Z : Option Value → Hp → Prop} {μ : Hp} {a0 : Nat} (h : ∀ J, xCtx RX12 cX12_fresh 1 d 0 0 yX12_fresh.name ro J → xRet cX12_fresh (some .long) 0 0 Z J → J μ 0 0 0 [(0, .ref a0)] []) : xC d yX12_fresh cX12_fresh 1 (some .long) 0 0 [.ref a0] μ ro Z :=
  xC_intro (own := RX12) (lv := [(0, .ref a0)]) (by decide) rfl (Nat.le_of_ble_eq_true rfl) rfl (fun J g hr => r_sub g (lv' := [(0, .ref a0)]) (⟨rfl, trivial⟩) (h J g hr))
theorem dX12_aLand_0 : decode cX12_aLand 0 = .ok (.aload_n 0, 1) := by decide +kernel
theorem dX12_aLand_1 : decode cX12_aLand 1 = .ok (.invokevirtual 165, 3) := by decide +kernel
theorem dX12_aLand_4 : decode cX12_aLand 4 = .ok (.aload_n 0, 1) := by decide +kernel
theorem dX12_aLand_5 : decode cX12_aLand 5 = .ok (.getfield 127, 3) := by decide +kernel
theorem dX12_aLand_8 : decode cX12_aLand 8 = .ok (.iconst (-1), 1) := by decide +kernel
theorem dX12_aLand_9 : decode cX12_aLand 9 = .ok (.if_icmp .ne 21, 3) := by decide +kernel
theorem dX12_aLand_12 : decode cX12_aLand 12 = .ok (.aload_n 0, 1) := by decide +kernel
theorem dX12_aLand_13 : decode cX12_aLand 13 = .ok (.getfield 38, 3) := by decide +kernel
theorem dX12_aLand_16 : decode cX12_aLand 16 = .ok (.aload_n 0, 1) := by decide +kernel
theorem dX12_aLand_17 : decode cX12_aLand 17 = .ok (.getfield 171, 3) := by decide +kernel
theorem dX12_aLand_20 : decode cX12_aLand 20 = .ok (.aload_n 0, 1) := by decide +kernel
theorem dX12_aLand_21 : decode cX12_aLand 21 = .ok (.getfield 136, 3) := by decide +kernel
theorem dX12_aLand_24 : decode cX12_aLand 24 = .ok (.invokestatic 174, 3) := by decide +kernel
theorem dX12_aLand_27 : decode cX12_aLand 27 = .ok (.goto 4, 3) := by decide +kernel
theorem dX12_aLand_30 : decode cX12_aLand 30 = .ok (.iconst 0, 1) := by decide +kernel
theorem dX12_aLand_31 : decode cX12_aLand 31 = .ok (.istore_n 1, 1) := by decide +kernel
theorem dX12_aLand_32 : decode cX12_aLand 32 = .ok (.iload_n 1, 1) := by decide +kernel
theorem dX12_aLand_33 : decode cX12_aLand 33 = .ok (.iconst (-1), 1) := by decide +kernel
theorem dX12_aLand_34 : decode cX12_aLand 34 = .ok (.if_icmp .ne 11, 3) := by decide +kernel
theorem dX12_aLand_37 : decode cX12_aLand 37 = .ok (.aload_n 0, 1) := by decide +kernel
theorem dX12_aLand_38 : decode cX12_aLand 38 = .ok (.aload_n 0, 1) := by decide +kernel
theorem dX12_aLand_39 : decode cX12_aLand 39 = .ok (.getfield 133, 3) := by decide +kernel
theorem dX12_aLand_42 : decode cX12_aLand 42 = .ok (.invokevirtual 144, 3) := by decide +kernel
theorem dX12_aLand_45 : decode cX12_aLand 45 = .ok (.iload_n 1, 1) := by decide +kernel
theorem dX12_aLand_46 : decode cX12_aLand 46 = .ok (.ifCond .ge 7, 3) := by decide +kernel
theorem dX12_aLand_49 : decode cX12_aLand 49 = .ok (.iconst 0, 1) := by decide +kernel
theorem dX12_aLand_50 : decode cX12_aLand 50 = .ok (.goto 4, 3) := by decide +kernel
theorem dX12_aLand_53 : decode cX12_aLand 53 = .ok (.iload_n 1, 1) := by decide +kernel
theorem dX12_aLand_54 : decode cX12_aLand 54 = .ok (.ireturn, 1) := by decide +kernel
set_option maxHeartbeats 4000000 in
set_option maxRecDepth 100000 in
theorem B_X12_aLand_0 {d : Nat} {ro : Nat → Nat} {J : JT} {Z : Option Value → Hp → Prop} (g : xCtx RX12 cX12_aLand 2 d 0 0 yX12_aLand.name ro J) (hr : xRet cX12_aLand (some .int) 0 0 Z J) {μ : Hp} {a0 : Nat} (hs_a0 : hS μ a0 = some (15, 65))
    (h : xCall d yX12_word cX12_word 2 none [.ref a0] μ ro (fun r1 μ2 => r1 = none ∧ hS μ2 a0 = some (15, 65) ∧ ((¬ (hI μ2 a0 4) = (-1) → Z (some (.int 0)) μ2) ∧ ((hI μ2 a0 4) = (-1) → ∃ landNameRead_4 : Nat, hR μ2 a0 15 = some landNameRead_4 ∧ xCall d yX12_spotOf cX12_spotOf 5 (some .int) [.ref landNameRead_4, .int (hI μ2 a0 19), .long (hL μ2 a0 6)] μ2 ro (fun r5 μ6 => ∃ y7 : Int32, r5 = some (.int y7) ∧ ((¬ y7 = (-1) → ((0 ≤ y7 → Z (some (.int y7)) μ6) ∧ (¬ 0 ≤ y7 → Z (some (.int 0)) μ6))) ∧ (y7 = (-1) → hS μ6 a0 = some (15, 65) ∧ xCall d yX12_fails cX12_fails 2 none [.ref a0, .int (hI μ6 a0 5)] μ6 ro (fun r10 μ11 => r10 = none ∧ ((0 ≤ y7 → Z (some (.int y7)) μ11) ∧ (¬ 0 ≤ y7 → Z (some (.int 0)) μ11)))))))))) :
    J μ 0 0 0 [(0, .ref a0)] [] := by
  refine r_aload_n g dX12_aLand_0 rfl ?_
  obtain ⟨d1, Z1, hc1, hd1, h1⟩ := h
  refine r_callV (st := []) (As := []) g sX12_165 iX12_word eX12_word rfl hs_a0 rfl (Nat.le_of_ble_eq_true rfl) dX12_aLand_1 hd1 (Nat.le_refl 0) (Nat.le_refl 0) hc1 (fun r1 μ2 hZ1 => ?_)
  replace h := h1 _ _ hZ1
  clear h1 hc1 hd1 hZ1 Z1 d1
  obtain ⟨rfl, h⟩ := h
  refine r_aload_n g dX12_aLand_4 rfl ?_
  obtain ⟨hs_a0_, h⟩ := h
  refine r_getI g fX12_127 rfl hs_a0_ dX12_aLand_5 ?_
  refine r_iconst g (-1) dX12_aLand_8 (by decide) ?_
  refine r_icmp_ne g 30 dX12_aLand_9 (by decide) (fun c3 => ?_) (fun c3 => ?_)
  · replace h := h.1 c3
    refine r_iconst g 0 dX12_aLand_30 (by decide) ?_
    refine r_istore_n g [(1, .int 0), (0, .ref a0)] dX12_aLand_31 (by decide) rfl ?_
    refine r_iload_n g dX12_aLand_32 rfl ?_
    refine r_iconst g (-1) dX12_aLand_33 (by decide) ?_
    refine r_icmp_ne g 45 dX12_aLand_34 (by decide) (fun _ => ?_) (fun hz => absurd hz (by decide))
    refine r_iload_n g dX12_aLand_45 rfl ?_
    refine r_if_ge g 53 dX12_aLand_46 (by decide) (fun _ => ?_) (fun hz => absurd hz (by decide))
    refine r_iload_n g dX12_aLand_53 rfl ?_
    exact hr.2.1 _ rfl _ _ _ _ _ _ dX12_aLand_54 rfl (Nat.le_refl 0) (Nat.le_refl 0) h
  · replace h := h.2 c3
    refine r_aload_n g dX12_aLand_12 rfl ?_
    obtain ⟨landNameRead_4, hr_landNameRead_4, h⟩ := h
    refine r_getR g fX12_38 rfl hs_a0_ hr_landNameRead_4 dX12_aLand_13 ?_
    refine r_aload_n g dX12_aLand_16 rfl ?_
    refine r_getI g fX12_171 rfl hs_a0_ dX12_aLand_17 ?_
    refine r_aload_n g dX12_aLand_20 rfl ?_
    refine r_getL g fX12_136 rfl hs_a0_ dX12_aLand_21 ?_
    obtain ⟨d1, Z1, hc1, hd1, h1⟩ := h
    refine r_callS (st := []) (As := [.ref landNameRead_4, .int (hI μ2 a0 19), .long (hL μ2 a0 6)]) g sX12_174 iX12_spotOf rfl (Nat.le_of_ble_eq_true rfl) dX12_aLand_24 hd1 (Nat.le_refl 0) (Nat.le_refl 0) hc1 (fun r5 μ6 hZ1 => ?_)
    replace h := h1 _ _ hZ1
    clear h1 hc1 hd1 hZ1 Z1 d1
    obtain ⟨y7, rfl, h⟩ := h
    refine r_goto g 31 dX12_aLand_27 (by decide) ?_
    refine r_istore_n g [(1, .int y7), (0, .ref a0)] dX12_aLand_31 (by decide) rfl ?_
    refine r_iload_n g dX12_aLand_32 rfl ?_
    refine r_iconst g (-1) dX12_aLand_33 (by decide) ?_
    refine r_icmp_ne g 45 dX12_aLand_34 (by decide) (fun c8 => ?_) (fun c8 => ?_)
    · replace h := h.1 c8
      refine r_iload_n g dX12_aLand_45 rfl ?_
      refine r_if_ge g 53 dX12_aLand_46 (by decide) (fun c9 => ?_) (fun c9 => ?_)
      · replace h := h.1 c9
        refine r_iload_n g dX12_aLand_53 rfl ?_
        exact hr.2.1 _ rfl _ _ _ _ _ _ dX12_aLand_54 rfl (Nat.le_refl 0) (Nat.le_refl 0) h
      · replace h := h.2 c9
        refine r_iconst g 0 dX12_aLand_49 (by decide) ?_
        refine r_goto g 54 dX12_aLand_50 (by decide) ?_
        exact hr.2.1 _ rfl _ _ _ _ _ _ dX12_aLand_54 rfl (Nat.le_refl 0) (Nat.le_refl 0) h
    · replace h := h.2 c8
      refine r_aload_n g dX12_aLand_37 rfl ?_
      refine r_aload_n g dX12_aLand_38 rfl ?_
      obtain ⟨hs_a0__, h⟩ := h
      refine r_getI g fX12_133 rfl hs_a0__ dX12_aLand_39 ?_
      obtain ⟨d1, Z1, hc1, hd1, h1⟩ := h
      refine r_callV (st := []) (As := [.int (hI μ6 a0 5)]) g sX12_144 iX12_fails eX12_fails rfl hs_a0__ rfl (Nat.le_of_ble_eq_true rfl) dX12_aLand_42 hd1 (Nat.le_refl 0) (Nat.le_refl 0) hc1 (fun r10 μ11 hZ1 => ?_)
      replace h := h1 _ _ hZ1
      clear h1 hc1 hd1 hZ1 Z1 d1
      obtain ⟨rfl, h⟩ := h
      refine r_iload_n g dX12_aLand_45 rfl ?_
      refine r_if_ge g 53 dX12_aLand_46 (by decide) (fun c12 => ?_) (fun c12 => ?_)
      · replace h := h.1 c12
        refine r_iload_n g dX12_aLand_53 rfl ?_
        exact hr.2.1 _ rfl _ _ _ _ _ _ dX12_aLand_54 rfl (Nat.le_refl 0) (Nat.le_refl 0) h
      · replace h := h.2 c12
        refine r_iconst g 0 dX12_aLand_49 (by decide) ?_
        refine r_goto g 54 dX12_aLand_50 (by decide) ?_
        exact hr.2.1 _ rfl _ _ _ _ _ _ dX12_aLand_54 rfl (Nat.le_refl 0) (Nat.le_refl 0) h
theorem I_X12_aLand {d : Nat} {ro : Nat → Nat} {Z : Option Value → Hp → Prop} {μ : Hp} {a0 : Nat} (h : ∀ J, xCtx RX12 cX12_aLand 2 d 0 0 yX12_aLand.name ro J → xRet cX12_aLand (some .int) 0 0 Z J → J μ 0 0 0 [(0, .ref a0)] []) : xC d yX12_aLand cX12_aLand 2 (some .int) 0 0 [.ref a0] μ ro Z :=
  xC_intro (own := RX12) (lv := [(0, .ref a0)]) (by decide) rfl (Nat.le_of_ble_eq_true rfl) rfl (fun J g hr => r_sub g (lv' := [(0, .ref a0)]) (⟨rfl, trivial⟩) (h J g hr))
theorem dX12_aFirm_0 : decode cX12_aFirm 0 = .ok (.aload_n 0, 1) := by decide +kernel
theorem dX12_aFirm_1 : decode cX12_aFirm 1 = .ok (.invokevirtual 165, 3) := by decide +kernel
theorem dX12_aFirm_4 : decode cX12_aFirm 4 = .ok (.aload_n 0, 1) := by decide +kernel
theorem dX12_aFirm_5 : decode cX12_aFirm 5 = .ok (.getfield 127, 3) := by decide +kernel
theorem dX12_aFirm_8 : decode cX12_aFirm 8 = .ok (.iconst (-1), 1) := by decide +kernel
theorem dX12_aFirm_9 : decode cX12_aFirm 9 = .ok (.if_icmp .ne 21, 3) := by decide +kernel
theorem dX12_aFirm_12 : decode cX12_aFirm 12 = .ok (.aload_n 0, 1) := by decide +kernel
theorem dX12_aFirm_13 : decode cX12_aFirm 13 = .ok (.getfield 45, 3) := by decide +kernel
theorem dX12_aFirm_16 : decode cX12_aFirm 16 = .ok (.aload_n 0, 1) := by decide +kernel
theorem dX12_aFirm_17 : decode cX12_aFirm 17 = .ok (.getfield 178, 3) := by decide +kernel
theorem dX12_aFirm_20 : decode cX12_aFirm 20 = .ok (.aload_n 0, 1) := by decide +kernel
theorem dX12_aFirm_21 : decode cX12_aFirm 21 = .ok (.getfield 136, 3) := by decide +kernel
theorem dX12_aFirm_24 : decode cX12_aFirm 24 = .ok (.invokestatic 174, 3) := by decide +kernel
theorem dX12_aFirm_27 : decode cX12_aFirm 27 = .ok (.goto 4, 3) := by decide +kernel
theorem dX12_aFirm_30 : decode cX12_aFirm 30 = .ok (.iconst 0, 1) := by decide +kernel
theorem dX12_aFirm_31 : decode cX12_aFirm 31 = .ok (.istore_n 1, 1) := by decide +kernel
theorem dX12_aFirm_32 : decode cX12_aFirm 32 = .ok (.iload_n 1, 1) := by decide +kernel
theorem dX12_aFirm_33 : decode cX12_aFirm 33 = .ok (.iconst (-1), 1) := by decide +kernel
theorem dX12_aFirm_34 : decode cX12_aFirm 34 = .ok (.if_icmp .ne 11, 3) := by decide +kernel
theorem dX12_aFirm_37 : decode cX12_aFirm 37 = .ok (.aload_n 0, 1) := by decide +kernel
theorem dX12_aFirm_38 : decode cX12_aFirm 38 = .ok (.aload_n 0, 1) := by decide +kernel
theorem dX12_aFirm_39 : decode cX12_aFirm 39 = .ok (.getfield 133, 3) := by decide +kernel
theorem dX12_aFirm_42 : decode cX12_aFirm 42 = .ok (.invokevirtual 144, 3) := by decide +kernel
theorem dX12_aFirm_45 : decode cX12_aFirm 45 = .ok (.iload_n 1, 1) := by decide +kernel
theorem dX12_aFirm_46 : decode cX12_aFirm 46 = .ok (.ifCond .ge 7, 3) := by decide +kernel
theorem dX12_aFirm_49 : decode cX12_aFirm 49 = .ok (.iconst 0, 1) := by decide +kernel
theorem dX12_aFirm_50 : decode cX12_aFirm 50 = .ok (.goto 4, 3) := by decide +kernel
theorem dX12_aFirm_53 : decode cX12_aFirm 53 = .ok (.iload_n 1, 1) := by decide +kernel
theorem dX12_aFirm_54 : decode cX12_aFirm 54 = .ok (.ireturn, 1) := by decide +kernel
set_option maxHeartbeats 4000000 in
set_option maxRecDepth 100000 in
theorem B_X12_aFirm_0 {d : Nat} {ro : Nat → Nat} {J : JT} {Z : Option Value → Hp → Prop} (g : xCtx RX12 cX12_aFirm 2 d 0 0 yX12_aFirm.name ro J) (hr : xRet cX12_aFirm (some .int) 0 0 Z J) {μ : Hp} {a0 : Nat} (hs_a0 : hS μ a0 = some (15, 65))
    (h : xCall d yX12_word cX12_word 2 none [.ref a0] μ ro (fun r1 μ2 => r1 = none ∧ hS μ2 a0 = some (15, 65) ∧ ((¬ (hI μ2 a0 4) = (-1) → Z (some (.int 0)) μ2) ∧ ((hI μ2 a0 4) = (-1) → ∃ firmNameRead_4 : Nat, hR μ2 a0 17 = some firmNameRead_4 ∧ xCall d yX12_spotOf cX12_spotOf 5 (some .int) [.ref firmNameRead_4, .int (hI μ2 a0 21), .long (hL μ2 a0 6)] μ2 ro (fun r5 μ6 => ∃ y7 : Int32, r5 = some (.int y7) ∧ ((¬ y7 = (-1) → ((0 ≤ y7 → Z (some (.int y7)) μ6) ∧ (¬ 0 ≤ y7 → Z (some (.int 0)) μ6))) ∧ (y7 = (-1) → hS μ6 a0 = some (15, 65) ∧ xCall d yX12_fails cX12_fails 2 none [.ref a0, .int (hI μ6 a0 5)] μ6 ro (fun r10 μ11 => r10 = none ∧ ((0 ≤ y7 → Z (some (.int y7)) μ11) ∧ (¬ 0 ≤ y7 → Z (some (.int 0)) μ11)))))))))) :
    J μ 0 0 0 [(0, .ref a0)] [] := by
  refine r_aload_n g dX12_aFirm_0 rfl ?_
  obtain ⟨d1, Z1, hc1, hd1, h1⟩ := h
  refine r_callV (st := []) (As := []) g sX12_165 iX12_word eX12_word rfl hs_a0 rfl (Nat.le_of_ble_eq_true rfl) dX12_aFirm_1 hd1 (Nat.le_refl 0) (Nat.le_refl 0) hc1 (fun r1 μ2 hZ1 => ?_)
  replace h := h1 _ _ hZ1
  clear h1 hc1 hd1 hZ1 Z1 d1
  obtain ⟨rfl, h⟩ := h
  refine r_aload_n g dX12_aFirm_4 rfl ?_
  obtain ⟨hs_a0_, h⟩ := h
  refine r_getI g fX12_127 rfl hs_a0_ dX12_aFirm_5 ?_
  refine r_iconst g (-1) dX12_aFirm_8 (by decide) ?_
  refine r_icmp_ne g 30 dX12_aFirm_9 (by decide) (fun c3 => ?_) (fun c3 => ?_)
  · replace h := h.1 c3
    refine r_iconst g 0 dX12_aFirm_30 (by decide) ?_
    refine r_istore_n g [(1, .int 0), (0, .ref a0)] dX12_aFirm_31 (by decide) rfl ?_
    refine r_iload_n g dX12_aFirm_32 rfl ?_
    refine r_iconst g (-1) dX12_aFirm_33 (by decide) ?_
    refine r_icmp_ne g 45 dX12_aFirm_34 (by decide) (fun _ => ?_) (fun hz => absurd hz (by decide))
    refine r_iload_n g dX12_aFirm_45 rfl ?_
    refine r_if_ge g 53 dX12_aFirm_46 (by decide) (fun _ => ?_) (fun hz => absurd hz (by decide))
    refine r_iload_n g dX12_aFirm_53 rfl ?_
    exact hr.2.1 _ rfl _ _ _ _ _ _ dX12_aFirm_54 rfl (Nat.le_refl 0) (Nat.le_refl 0) h
  · replace h := h.2 c3
    refine r_aload_n g dX12_aFirm_12 rfl ?_
    obtain ⟨firmNameRead_4, hr_firmNameRead_4, h⟩ := h
    refine r_getR g fX12_45 rfl hs_a0_ hr_firmNameRead_4 dX12_aFirm_13 ?_
    refine r_aload_n g dX12_aFirm_16 rfl ?_
    refine r_getI g fX12_178 rfl hs_a0_ dX12_aFirm_17 ?_
    refine r_aload_n g dX12_aFirm_20 rfl ?_
    refine r_getL g fX12_136 rfl hs_a0_ dX12_aFirm_21 ?_
    obtain ⟨d1, Z1, hc1, hd1, h1⟩ := h
    refine r_callS (st := []) (As := [.ref firmNameRead_4, .int (hI μ2 a0 21), .long (hL μ2 a0 6)]) g sX12_174 iX12_spotOf rfl (Nat.le_of_ble_eq_true rfl) dX12_aFirm_24 hd1 (Nat.le_refl 0) (Nat.le_refl 0) hc1 (fun r5 μ6 hZ1 => ?_)
    replace h := h1 _ _ hZ1
    clear h1 hc1 hd1 hZ1 Z1 d1
    obtain ⟨y7, rfl, h⟩ := h
    refine r_goto g 31 dX12_aFirm_27 (by decide) ?_
    refine r_istore_n g [(1, .int y7), (0, .ref a0)] dX12_aFirm_31 (by decide) rfl ?_
    refine r_iload_n g dX12_aFirm_32 rfl ?_
    refine r_iconst g (-1) dX12_aFirm_33 (by decide) ?_
    refine r_icmp_ne g 45 dX12_aFirm_34 (by decide) (fun c8 => ?_) (fun c8 => ?_)
    · replace h := h.1 c8
      refine r_iload_n g dX12_aFirm_45 rfl ?_
      refine r_if_ge g 53 dX12_aFirm_46 (by decide) (fun c9 => ?_) (fun c9 => ?_)
      · replace h := h.1 c9
        refine r_iload_n g dX12_aFirm_53 rfl ?_
        exact hr.2.1 _ rfl _ _ _ _ _ _ dX12_aFirm_54 rfl (Nat.le_refl 0) (Nat.le_refl 0) h
      · replace h := h.2 c9
        refine r_iconst g 0 dX12_aFirm_49 (by decide) ?_
        refine r_goto g 54 dX12_aFirm_50 (by decide) ?_
        exact hr.2.1 _ rfl _ _ _ _ _ _ dX12_aFirm_54 rfl (Nat.le_refl 0) (Nat.le_refl 0) h
    · replace h := h.2 c8
      refine r_aload_n g dX12_aFirm_37 rfl ?_
      refine r_aload_n g dX12_aFirm_38 rfl ?_
      obtain ⟨hs_a0__, h⟩ := h
      refine r_getI g fX12_133 rfl hs_a0__ dX12_aFirm_39 ?_
      obtain ⟨d1, Z1, hc1, hd1, h1⟩ := h
      refine r_callV (st := []) (As := [.int (hI μ6 a0 5)]) g sX12_144 iX12_fails eX12_fails rfl hs_a0__ rfl (Nat.le_of_ble_eq_true rfl) dX12_aFirm_42 hd1 (Nat.le_refl 0) (Nat.le_refl 0) hc1 (fun r10 μ11 hZ1 => ?_)
      replace h := h1 _ _ hZ1
      clear h1 hc1 hd1 hZ1 Z1 d1
      obtain ⟨rfl, h⟩ := h
      refine r_iload_n g dX12_aFirm_45 rfl ?_
      refine r_if_ge g 53 dX12_aFirm_46 (by decide) (fun c12 => ?_) (fun c12 => ?_)
      · replace h := h.1 c12
        refine r_iload_n g dX12_aFirm_53 rfl ?_
        exact hr.2.1 _ rfl _ _ _ _ _ _ dX12_aFirm_54 rfl (Nat.le_refl 0) (Nat.le_refl 0) h
      · replace h := h.2 c12
        refine r_iconst g 0 dX12_aFirm_49 (by decide) ?_
        refine r_goto g 54 dX12_aFirm_50 (by decide) ?_
        exact hr.2.1 _ rfl _ _ _ _ _ _ dX12_aFirm_54 rfl (Nat.le_refl 0) (Nat.le_refl 0) h
theorem I_X12_aFirm {d : Nat} {ro : Nat → Nat} {Z : Option Value → Hp → Prop} {μ : Hp} {a0 : Nat} (h : ∀ J, xCtx RX12 cX12_aFirm 2 d 0 0 yX12_aFirm.name ro J → xRet cX12_aFirm (some .int) 0 0 Z J → J μ 0 0 0 [(0, .ref a0)] []) : xC d yX12_aFirm cX12_aFirm 2 (some .int) 0 0 [.ref a0] μ ro Z :=
  xC_intro (own := RX12) (lv := [(0, .ref a0)]) (by decide) rfl (Nat.le_of_ble_eq_true rfl) rfl (fun J g hr => r_sub g (lv' := [(0, .ref a0)]) (⟨rfl, trivial⟩) (h J g hr))
theorem dX12_readLand_0 : decode cX12_readLand 0 = .ok (.aload_n 0, 1) := by decide +kernel
theorem dX12_readLand_1 : decode cX12_readLand 1 = .ok (.invokevirtual 181, 3) := by decide +kernel
theorem dX12_readLand_4 : decode cX12_readLand 4 = .ok (.lstore_n 1, 1) := by decide +kernel
theorem dX12_readLand_5 : decode cX12_readLand 5 = .ok (.iconst 0, 1) := by decide +kernel
theorem dX12_readLand_6 : decode cX12_readLand 6 = .ok (.istore_n 3, 1) := by decide +kernel
theorem dX12_readLand_7 : decode cX12_readLand 7 = .ok (.iload_n 3, 1) := by decide +kernel
theorem dX12_readLand_8 : decode cX12_readLand 8 = .ok (.iconst 3, 1) := by decide +kernel
theorem dX12_readLand_9 : decode cX12_readLand 9 = .ok (.if_icmp .ge 30, 3) := by decide +kernel
theorem dX12_readLand_12 : decode cX12_readLand 12 = .ok (.aload_n 0, 1) := by decide +kernel
theorem dX12_readLand_13 : decode cX12_readLand 13 = .ok (.getfield 13, 3) := by decide +kernel
theorem dX12_readLand_16 : decode cX12_readLand 16 = .ok (.iconst 3, 1) := by decide +kernel
theorem dX12_readLand_17 : decode cX12_readLand 17 = .ok (.aload_n 0, 1) := by decide +kernel
theorem dX12_readLand_18 : decode cX12_readLand 18 = .ok (.getfield 171, 3) := by decide +kernel
theorem dX12_readLand_21 : decode cX12_readLand 21 = .ok (.imul, 1) := by decide +kernel
theorem dX12_readLand_22 : decode cX12_readLand 22 = .ok (.iload_n 3, 1) := by decide +kernel
theorem dX12_readLand_23 : decode cX12_readLand 23 = .ok (.iadd, 1) := by decide +kernel
theorem dX12_readLand_24 : decode cX12_readLand 24 = .ok (.aload_n 0, 1) := by decide +kernel
theorem dX12_readLand_25 : decode cX12_readLand 25 = .ok (.iconst 0, 1) := by decide +kernel
theorem dX12_readLand_26 : decode cX12_readLand 26 = .ok (.sipush 1000, 3) := by decide +kernel
theorem dX12_readLand_29 : decode cX12_readLand 29 = .ok (.invokevirtual 185, 3) := by decide +kernel
theorem dX12_readLand_32 : decode cX12_readLand 32 = .ok (.iastore, 1) := by decide +kernel
theorem dX12_readLand_33 : decode cX12_readLand 33 = .ok (.iinc 3 1, 3) := by decide +kernel
theorem dX12_readLand_36 : decode cX12_readLand 36 = .ok (.goto (-29), 3) := by decide +kernel
theorem dX12_readLand_39 : decode cX12_readLand 39 = .ok (.aload_n 0, 1) := by decide +kernel
theorem dX12_readLand_40 : decode cX12_readLand 40 = .ok (.getfield 127, 3) := by decide +kernel
theorem dX12_readLand_43 : decode cX12_readLand 43 = .ok (.iconst (-1), 1) := by decide +kernel
theorem dX12_readLand_44 : decode cX12_readLand 44 = .ok (.if_icmp .eq 4, 3) := by decide +kernel
theorem dX12_readLand_47 : decode cX12_readLand 47 = .ok (.return_, 1) := by decide +kernel
theorem dX12_readLand_48 : decode cX12_readLand 48 = .ok (.aload_n 0, 1) := by decide +kernel
theorem dX12_readLand_49 : decode cX12_readLand 49 = .ok (.getfield 38, 3) := by decide +kernel
theorem dX12_readLand_52 : decode cX12_readLand 52 = .ok (.aload_n 0, 1) := by decide +kernel
theorem dX12_readLand_53 : decode cX12_readLand 53 = .ok (.getfield 171, 3) := by decide +kernel
theorem dX12_readLand_56 : decode cX12_readLand 56 = .ok (.lload_n 1, 1) := by decide +kernel
theorem dX12_readLand_57 : decode cX12_readLand 57 = .ok (.lastore, 1) := by decide +kernel
theorem dX12_readLand_58 : decode cX12_readLand 58 = .ok (.aload_n 0, 1) := by decide +kernel
theorem dX12_readLand_59 : decode cX12_readLand 59 = .ok (.dup, 1) := by decide +kernel
theorem dX12_readLand_60 : decode cX12_readLand 60 = .ok (.getfield 171, 3) := by decide +kernel
theorem dX12_readLand_63 : decode cX12_readLand 63 = .ok (.iconst 1, 1) := by decide +kernel
theorem dX12_readLand_64 : decode cX12_readLand 64 = .ok (.iadd, 1) := by decide +kernel
theorem dX12_readLand_65 : decode cX12_readLand 65 = .ok (.putfield 171, 3) := by decide +kernel
theorem dX12_readLand_68 : decode cX12_readLand 68 = .ok (.return_, 1) := by decide +kernel
set_option maxHeartbeats 4000000 in
set_option maxRecDepth 100000 in
theorem B_X12_readLand_0 {d : Nat} {ro : Nat → Nat} {J : JT} {Z : Option Value → Hp → Prop} (g : xCtx RX12 cX12_readLand 4 d 0 0 yX12_readLand.name ro J) (hr : xRet cX12_readLand none 0 0 Z J) {μ : Hp} {a0 : Nat} (hs_a0 : hS μ a0 = some (15, 65))
    (h : xCall d yX12_fresh cX12_fresh 1 (some .long) [.ref a0] μ ro (fun r1 μ2 => ∃ y3 : Int64, r1 = some (.long y3) ∧ J μ2 0 0 7 [(0, .ref a0), (1, .long y3), (3, .int 0)] [])) :
    J μ 0 0 0 [(0, .ref a0)] [] := by
  refine r_aload_n g dX12_readLand_0 rfl ?_
  obtain ⟨d1, Z1, hc1, hd1, h1⟩ := h
  refine r_callV (st := []) (As := []) g sX12_181 iX12_fresh eX12_fresh rfl hs_a0 rfl (Nat.le_of_ble_eq_true rfl) dX12_readLand_1 hd1 (Nat.le_refl 0) (Nat.le_refl 0) hc1 (fun r1 μ2 hZ1 => ?_)
  replace h := h1 _ _ hZ1
  clear h1 hc1 hd1 hZ1 Z1 d1
  obtain ⟨y3, rfl, h⟩ := h
  refine r_lstore_n g [(1, .long y3), (0, .ref a0)] dX12_readLand_4 (by decide) rfl ?_
  refine r_iconst g 0 dX12_readLand_5 (by decide) ?_
  refine r_istore_n g [(3, .int 0), (1, .long y3), (0, .ref a0)] dX12_readLand_6 (by decide) rfl ?_
  refine r_sub g (lv' := [(0, .ref a0), (1, .long y3), (3, .int 0)]) (⟨rfl, rfl, rfl, trivial⟩) ?_
  exact h
set_option maxHeartbeats 4000000 in
set_option maxRecDepth 100000 in
theorem B_X12_readLand_7 {d : Nat} {ro : Nat → Nat} {J : JT} {Z : Option Value → Hp → Prop} (g : xCtx RX12 cX12_readLand 4 d 0 0 yX12_readLand.name ro J) (hr : xRet cX12_readLand none 0 0 Z J) {μ : Hp} {a0 : Nat} {x1 : Int64} {x3 : Int32} {a0_landNameRead : Nat} {N_a0_landNameRead : Nat} {a0_landRead : Nat} (hs_a0 : hS μ a0 = some (15, 65)) (hr_a0_landNameRead : hR μ a0 15 = some a0_landNameRead) (hs_a0_landNameRead : hS μ a0_landNameRead = some (2, N_a0_landNameRead)) (hr_a0_landRead : hR μ a0 7 = some a0_landRead)
    (h : ((3 ≤ x3 → (((hI μ a0 4) = (-1) → vp_in (hI μ a0 19) N_a0_landNameRead ∧ (∀ v4 : Int32, v4 = (hI (wL μ a0_landNameRead ((hI μ a0 19).toNatClampNeg) x1) a0 19) → Z none (wI (wL μ a0_landNameRead ((hI μ a0 19).toNatClampNeg) x1) a0 19 (v4 + 1)))) ∧ (¬ (hI μ a0 4) = (-1) → Z none μ))) ∧ (¬ 3 ≤ x3 → xCall d yX12_number cX12_number 5 (some .int) [.ref a0, .int 0, .int 1000] μ ro (fun r5 μ6 => ∃ y7 : Int32, r5 = some (.int y7) ∧ ∃ N8 : Nat, hS μ6 a0_landRead = some (0, N8) ∧ vp_in ((3 * (hI μ a0 19)) + x3) N8 ∧ J (wI μ6 a0_landRead (((3 * (hI μ a0 19)) + x3).toNatClampNeg) y7) 0 0 7 [(0, .ref a0), (1, .long x1), (3, .int (x3 + 1))] [])))) :
    J μ 0 0 7 [(0, .ref a0), (1, .long x1), (3, .int x3)] [] := by
  refine r_iload_n g dX12_readLand_7 rfl ?_
  refine r_iconst g 3 dX12_readLand_8 (by decide) ?_
  refine r_icmp_ge g 39 dX12_readLand_9 (by decide) (fun c1 => ?_) (fun c1 => ?_)
  · replace h := h.1 c1
    refine r_aload_n g dX12_readLand_39 rfl ?_
    refine r_getI g fX12_127 rfl hs_a0 dX12_readLand_40 ?_
    refine r_iconst g (-1) dX12_readLand_43 (by decide) ?_
    refine r_icmp_eq g 48 dX12_readLand_44 (by decide) (fun c2 => ?_) (fun c2 => ?_)
    · replace h := h.1 c2
      refine r_aload_n g dX12_readLand_48 rfl ?_
      refine r_getR g fX12_38 rfl hs_a0 hr_a0_landNameRead dX12_readLand_49 ?_
      refine r_aload_n g dX12_readLand_52 rfl ?_
      refine r_getI g fX12_171 rfl hs_a0 dX12_readLand_53 ?_
      refine r_lload_n g dX12_readLand_56 rfl ?_
      obtain ⟨hi3, h⟩ := h
      refine r_lastore g hs_a0_landNameRead hi3 dX12_readLand_57 ?_
      refine r_aload_n g dX12_readLand_58 rfl ?_
      refine r_dup g dX12_readLand_59 rfl ?_
      refine r_getI g fX12_171 rfl hs_a0 dX12_readLand_60 ?_
      refine r_nmI (fun v4 ev4 => ?_)
      replace h := h v4 ev4
      refine r_iconst g 1 dX12_readLand_63 (by decide) ?_
      refine r_iadd g dX12_readLand_64 ?_
      refine r_putI g fX12_171 rfl hs_a0 rfl rfl dX12_readLand_65 ?_
      exact hr.1 rfl _ _ _ _ _ dX12_readLand_68 (Nat.le_refl 0) (Nat.le_refl 0) h
    · replace h := h.2 c2
      exact hr.1 rfl _ _ _ _ _ dX12_readLand_47 (Nat.le_refl 0) (Nat.le_refl 0) h
  · replace h := h.2 c1
    refine r_aload_n g dX12_readLand_12 rfl ?_
    refine r_getR g fX12_13 rfl hs_a0 hr_a0_landRead dX12_readLand_13 ?_
    refine r_iconst g 3 dX12_readLand_16 (by decide) ?_
    refine r_aload_n g dX12_readLand_17 rfl ?_
    refine r_getI g fX12_171 rfl hs_a0 dX12_readLand_18 ?_
    refine r_imul g dX12_readLand_21 ?_
    refine r_iload_n g dX12_readLand_22 rfl ?_
    refine r_iadd g dX12_readLand_23 ?_
    refine r_aload_n g dX12_readLand_24 rfl ?_
    refine r_iconst g 0 dX12_readLand_25 (by decide) ?_
    refine r_sipush g 1000 dX12_readLand_26 (by decide) ?_
    obtain ⟨d1, Z1, hc1, hd1, h1⟩ := h
    refine r_callV (st := [.int ((3 * (hI μ a0 19)) + x3), .ref a0_landRead]) (As := [.int 0, .int 1000]) g sX12_185 iX12_number eX12_number rfl hs_a0 rfl (Nat.le_of_ble_eq_true rfl) dX12_readLand_29 hd1 (Nat.le_refl 0) (Nat.le_refl 0) hc1 (fun r5 μ6 hZ1 => ?_)
    replace h := h1 _ _ hZ1
    clear h1 hc1 hd1 hZ1 Z1 d1
    obtain ⟨y7, rfl, h⟩ := h
    obtain ⟨N8, hs_a0_landRead, h⟩ := h
    obtain ⟨hi9, h⟩ := h
    refine r_iastore g hs_a0_landRead hi9 dX12_readLand_32 ?_
    refine r_iinc g (x3 + 1) [(3, .int (x3 + 1)), (0, .ref a0), (1, .long x1)] dX12_readLand_33 rfl rfl (by decide) rfl ?_
    refine r_goto g 7 dX12_readLand_36 (by decide) ?_
    refine r_sub g (lv' := [(0, .ref a0), (1, .long x1), (3, .int (x3 + 1))]) (⟨rfl, rfl, rfl, trivial⟩) ?_
    exact h
theorem I_X12_readLand {d : Nat} {ro : Nat → Nat} {Z : Option Value → Hp → Prop} {μ : Hp} {a0 : Nat} (h : ∀ J, xCtx RX12 cX12_readLand 4 d 0 0 yX12_readLand.name ro J → xRet cX12_readLand none 0 0 Z J → J μ 0 0 0 [(0, .ref a0)] []) : xC d yX12_readLand cX12_readLand 4 none 0 0 [.ref a0] μ ro Z :=
  xC_intro (own := RX12) (lv := [(0, .ref a0)]) (by decide) rfl (Nat.le_of_ble_eq_true rfl) rfl (fun J g hr => r_sub g (lv' := [(0, .ref a0)]) (⟨rfl, trivial⟩) (h J g hr))
theorem dX12_readFirm_0 : decode cX12_readFirm 0 = .ok (.aload_n 0, 1) := by decide +kernel
theorem dX12_readFirm_1 : decode cX12_readFirm 1 = .ok (.invokevirtual 181, 3) := by decide +kernel
theorem dX12_readFirm_4 : decode cX12_readFirm 4 = .ok (.lstore_n 1, 1) := by decide +kernel
theorem dX12_readFirm_5 : decode cX12_readFirm 5 = .ok (.aload_n 0, 1) := by decide +kernel
theorem dX12_readFirm_6 : decode cX12_readFirm 6 = .ok (.getfield 20, 3) := by decide +kernel
theorem dX12_readFirm_9 : decode cX12_readFirm 9 = .ok (.iconst 2, 1) := by decide +kernel
theorem dX12_readFirm_10 : decode cX12_readFirm 10 = .ok (.aload_n 0, 1) := by decide +kernel
theorem dX12_readFirm_11 : decode cX12_readFirm 11 = .ok (.getfield 178, 3) := by decide +kernel
theorem dX12_readFirm_14 : decode cX12_readFirm 14 = .ok (.imul, 1) := by decide +kernel
theorem dX12_readFirm_15 : decode cX12_readFirm 15 = .ok (.aload_n 0, 1) := by decide +kernel
theorem dX12_readFirm_16 : decode cX12_readFirm 16 = .ok (.invokevirtual 189, 3) := by decide +kernel
theorem dX12_readFirm_19 : decode cX12_readFirm 19 = .ok (.iastore, 1) := by decide +kernel
theorem dX12_readFirm_20 : decode cX12_readFirm 20 = .ok (.aload_n 0, 1) := by decide +kernel
theorem dX12_readFirm_21 : decode cX12_readFirm 21 = .ok (.getfield 20, 3) := by decide +kernel
theorem dX12_readFirm_24 : decode cX12_readFirm 24 = .ok (.iconst 2, 1) := by decide +kernel
theorem dX12_readFirm_25 : decode cX12_readFirm 25 = .ok (.aload_n 0, 1) := by decide +kernel
theorem dX12_readFirm_26 : decode cX12_readFirm 26 = .ok (.getfield 178, 3) := by decide +kernel
theorem dX12_readFirm_29 : decode cX12_readFirm 29 = .ok (.imul, 1) := by decide +kernel
theorem dX12_readFirm_30 : decode cX12_readFirm 30 = .ok (.iconst 1, 1) := by decide +kernel
theorem dX12_readFirm_31 : decode cX12_readFirm 31 = .ok (.iadd, 1) := by decide +kernel
theorem dX12_readFirm_32 : decode cX12_readFirm 32 = .ok (.aload_n 0, 1) := by decide +kernel
theorem dX12_readFirm_33 : decode cX12_readFirm 33 = .ok (.iconst 0, 1) := by decide +kernel
theorem dX12_readFirm_34 : decode cX12_readFirm 34 = .ok (.bipush 99, 2) := by decide +kernel
theorem dX12_readFirm_36 : decode cX12_readFirm 36 = .ok (.invokevirtual 185, 3) := by decide +kernel
theorem dX12_readFirm_39 : decode cX12_readFirm 39 = .ok (.iastore, 1) := by decide +kernel
theorem dX12_readFirm_40 : decode cX12_readFirm 40 = .ok (.aload_n 0, 1) := by decide +kernel
theorem dX12_readFirm_41 : decode cX12_readFirm 41 = .ok (.getfield 127, 3) := by decide +kernel
theorem dX12_readFirm_44 : decode cX12_readFirm 44 = .ok (.iconst (-1), 1) := by decide +kernel
theorem dX12_readFirm_45 : decode cX12_readFirm 45 = .ok (.if_icmp .eq 4, 3) := by decide +kernel
theorem dX12_readFirm_48 : decode cX12_readFirm 48 = .ok (.return_, 1) := by decide +kernel
theorem dX12_readFirm_49 : decode cX12_readFirm 49 = .ok (.aload_n 0, 1) := by decide +kernel
theorem dX12_readFirm_50 : decode cX12_readFirm 50 = .ok (.getfield 45, 3) := by decide +kernel
theorem dX12_readFirm_53 : decode cX12_readFirm 53 = .ok (.aload_n 0, 1) := by decide +kernel
theorem dX12_readFirm_54 : decode cX12_readFirm 54 = .ok (.getfield 178, 3) := by decide +kernel
theorem dX12_readFirm_57 : decode cX12_readFirm 57 = .ok (.lload_n 1, 1) := by decide +kernel
theorem dX12_readFirm_58 : decode cX12_readFirm 58 = .ok (.lastore, 1) := by decide +kernel
theorem dX12_readFirm_59 : decode cX12_readFirm 59 = .ok (.aload_n 0, 1) := by decide +kernel
theorem dX12_readFirm_60 : decode cX12_readFirm 60 = .ok (.dup, 1) := by decide +kernel
theorem dX12_readFirm_61 : decode cX12_readFirm 61 = .ok (.getfield 178, 3) := by decide +kernel
theorem dX12_readFirm_64 : decode cX12_readFirm 64 = .ok (.iconst 1, 1) := by decide +kernel
theorem dX12_readFirm_65 : decode cX12_readFirm 65 = .ok (.iadd, 1) := by decide +kernel
theorem dX12_readFirm_66 : decode cX12_readFirm 66 = .ok (.putfield 178, 3) := by decide +kernel
theorem dX12_readFirm_69 : decode cX12_readFirm 69 = .ok (.return_, 1) := by decide +kernel
set_option maxHeartbeats 4000000 in
set_option maxRecDepth 100000 in
theorem B_X12_readFirm_0 {d : Nat} {ro : Nat → Nat} {J : JT} {Z : Option Value → Hp → Prop} (g : xCtx RX12 cX12_readFirm 3 d 0 0 yX12_readFirm.name ro J) (hr : xRet cX12_readFirm none 0 0 Z J) {μ : Hp} {a0 : Nat} (hs_a0 : hS μ a0 = some (15, 65))
    (h : xCall d yX12_fresh cX12_fresh 1 (some .long) [.ref a0] μ ro (fun r1 μ2 => ∃ y3 : Int64, r1 = some (.long y3) ∧ hS μ2 a0 = some (15, 65) ∧ ∃ firmRead_4 : Nat, hR μ2 a0 9 = some firmRead_4 ∧ xCall d yX12_aLand cX12_aLand 2 (some .int) [.ref a0] μ2 ro (fun r5 μ6 => ∃ y7 : Int32, r5 = some (.int y7) ∧ ∃ N8 : Nat, hS μ6 firmRead_4 = some (0, N8) ∧ vp_in (2 * (hI μ2 a0 21)) N8 ∧ hS μ6 a0 = some (15, 65) ∧ ∃ firmRead_10 : Nat, hR μ6 a0 9 = some firmRead_10 ∧ (∀ v11 : Int32, v11 = (hI (wI μ6 firmRead_4 ((2 * (hI μ2 a0 21)).toNatClampNeg) y7) a0 21) → xCall d yX12_number cX12_number 5 (some .int) [.ref a0, .int 0, .int 99] (wI μ6 firmRead_4 ((2 * (hI μ2 a0 21)).toNatClampNeg) y7) ro (fun r12 μ13 => ∃ y14 : Int32, r12 = some (.int y14) ∧ ∃ N15 : Nat, hS μ13 firmRead_10 = some (0, N15) ∧ vp_in ((2 * v11) + 1) N15 ∧ hS μ13 a0 = some (15, 65) ∧ (∀ v17 : Int32, v17 = (hI (wI μ13 firmRead_10 (((2 * v11) + 1).toNatClampNeg) y14) a0 4) → ((v17 = (-1) → ∃ firmNameRead_19 : Nat, hR μ13 a0 17 = some firmNameRead_19 ∧ (∀ v20 : Int32, v20 = (hI (wI μ13 firmRead_10 (((2 * v11) + 1).toNatClampNeg) y14) a0 21) → ∃ N21 : Nat, hS μ13 firmNameRead_19 = some (2, N21) ∧ vp_in v20 N21 ∧ (∀ v23 : Int32, v23 = (hI (wL (wI μ13 firmRead_10 (((2 * v11) + 1).toNatClampNeg) y14) firmNameRead_19 v20.toNatClampNeg y3) a0 21) → Z none (wI (wL (wI μ13 firmRead_10 (((2 * v11) + 1).toNatClampNeg) y14) firmNameRead_19 v20.toNatClampNeg y3) a0 21 (v23 + 1))))) ∧ (¬ v17 = (-1) → Z none (wI μ13 firmRead_10 (((2 * v11) + 1).toNatClampNeg) y14))))))))) :
    J μ 0 0 0 [(0, .ref a0)] [] := by
  refine r_aload_n g dX12_readFirm_0 rfl ?_
  obtain ⟨d1, Z1, hc1, hd1, h1⟩ := h
  refine r_callV (st := []) (As := []) g sX12_181 iX12_fresh eX12_fresh rfl hs_a0 rfl (Nat.le_of_ble_eq_true rfl) dX12_readFirm_1 hd1 (Nat.le_refl 0) (Nat.le_refl 0) hc1 (fun r1 μ2 hZ1 => ?_)
  replace h := h1 _ _ hZ1
  clear h1 hc1 hd1 hZ1 Z1 d1
  obtain ⟨y3, rfl, h⟩ := h
  refine r_lstore_n g [(1, .long y3), (0, .ref a0)] dX12_readFirm_4 (by decide) rfl ?_
  refine r_aload_n g dX12_readFirm_5 rfl ?_
  obtain ⟨hs_a0_, h⟩ := h
  obtain ⟨firmRead_4, hr_firmRead_4, h⟩ := h
  refine r_getR g fX12_20 rfl hs_a0_ hr_firmRead_4 dX12_readFirm_6 ?_
  refine r_iconst g 2 dX12_readFirm_9 (by decide) ?_
  refine r_aload_n g dX12_readFirm_10 rfl ?_
  refine r_getI g fX12_178 rfl hs_a0_ dX12_readFirm_11 ?_
  refine r_imul g dX12_readFirm_14 ?_
  refine r_aload_n g dX12_readFirm_15 rfl ?_
  obtain ⟨d1, Z1, hc1, hd1, h1⟩ := h
  refine r_callV (st := [.int (2 * (hI μ2 a0 21)), .ref firmRead_4]) (As := []) g sX12_189 iX12_aLand eX12_aLand rfl hs_a0_ rfl (Nat.le_of_ble_eq_true rfl) dX12_readFirm_16 hd1 (Nat.le_refl 0) (Nat.le_refl 0) hc1 (fun r5 μ6 hZ1 => ?_)
  replace h := h1 _ _ hZ1
  clear h1 hc1 hd1 hZ1 Z1 d1
  obtain ⟨y7, rfl, h⟩ := h
  obtain ⟨N8, hs_firmRead_4, h⟩ := h
  obtain ⟨hi9, h⟩ := h
  refine r_iastore g hs_firmRead_4 hi9 dX12_readFirm_19 ?_
  refine r_aload_n g dX12_readFirm_20 rfl ?_
  obtain ⟨hs_a0__, h⟩ := h
  obtain ⟨firmRead_10, hr_firmRead_10, h⟩ := h
  refine r_getR g fX12_20 rfl hs_a0__ hr_firmRead_10 dX12_readFirm_21 ?_
  refine r_iconst g 2 dX12_readFirm_24 (by decide) ?_
  refine r_aload_n g dX12_readFirm_25 rfl ?_
  refine r_getI g fX12_178 rfl hs_a0__ dX12_readFirm_26 ?_
  refine r_nmI (fun v11 ev11 => ?_)
  replace h := h v11 ev11
  refine r_imul g dX12_readFirm_29 ?_
  refine r_iconst g 1 dX12_readFirm_30 (by decide) ?_
  refine r_iadd g dX12_readFirm_31 ?_
  refine r_aload_n g dX12_readFirm_32 rfl ?_
  refine r_iconst g 0 dX12_readFirm_33 (by decide) ?_
  refine r_bipush g 99 dX12_readFirm_34 (by decide) ?_
  obtain ⟨d1, Z1, hc1, hd1, h1⟩ := h
  refine r_callV (st := [.int ((2 * v11) + 1), .ref firmRead_10]) (As := [.int 0, .int 99]) g sX12_185 iX12_number eX12_number rfl hs_a0__ rfl (Nat.le_of_ble_eq_true rfl) dX12_readFirm_36 hd1 (Nat.le_refl 0) (Nat.le_refl 0) hc1 (fun r12 μ13 hZ1 => ?_)
  replace h := h1 _ _ hZ1
  clear h1 hc1 hd1 hZ1 Z1 d1
  obtain ⟨y14, rfl, h⟩ := h
  obtain ⟨N15, hs_firmRead_10, h⟩ := h
  obtain ⟨hi16, h⟩ := h
  refine r_iastore g hs_firmRead_10 hi16 dX12_readFirm_39 ?_
  refine r_aload_n g dX12_readFirm_40 rfl ?_
  obtain ⟨hs_a0___, h⟩ := h
  refine r_getI g fX12_127 rfl hs_a0___ dX12_readFirm_41 ?_
  refine r_nmI (fun v17 ev17 => ?_)
  replace h := h v17 ev17
  refine r_iconst g (-1) dX12_readFirm_44 (by decide) ?_
  refine r_icmp_eq g 49 dX12_readFirm_45 (by decide) (fun c18 => ?_) (fun c18 => ?_)
  · replace h := h.1 c18
    refine r_aload_n g dX12_readFirm_49 rfl ?_
    obtain ⟨firmNameRead_19, hr_firmNameRead_19, h⟩ := h
    refine r_getR g fX12_45 rfl hs_a0___ hr_firmNameRead_19 dX12_readFirm_50 ?_
    refine r_aload_n g dX12_readFirm_53 rfl ?_
    refine r_getI g fX12_178 rfl hs_a0___ dX12_readFirm_54 ?_
    refine r_nmI (fun v20 ev20 => ?_)
    replace h := h v20 ev20
    refine r_lload_n g dX12_readFirm_57 rfl ?_
    obtain ⟨N21, hs_firmNameRead_19, h⟩ := h
    obtain ⟨hi22, h⟩ := h
    refine r_lastore g hs_firmNameRead_19 hi22 dX12_readFirm_58 ?_
    refine r_aload_n g dX12_readFirm_59 rfl ?_
    refine r_dup g dX12_readFirm_60 rfl ?_
    refine r_getI g fX12_178 rfl hs_a0___ dX12_readFirm_61 ?_
    refine r_nmI (fun v23 ev23 => ?_)
    replace h := h v23 ev23
    refine r_iconst g 1 dX12_readFirm_64 (by decide) ?_
    refine r_iadd g dX12_readFirm_65 ?_
    refine r_putI g fX12_178 rfl hs_a0___ rfl rfl dX12_readFirm_66 ?_
    exact hr.1 rfl _ _ _ _ _ dX12_readFirm_69 (Nat.le_refl 0) (Nat.le_refl 0) h
  · replace h := h.2 c18
    exact hr.1 rfl _ _ _ _ _ dX12_readFirm_48 (Nat.le_refl 0) (Nat.le_refl 0) h
theorem I_X12_readFirm {d : Nat} {ro : Nat → Nat} {Z : Option Value → Hp → Prop} {μ : Hp} {a0 : Nat} (h : ∀ J, xCtx RX12 cX12_readFirm 3 d 0 0 yX12_readFirm.name ro J → xRet cX12_readFirm none 0 0 Z J → J μ 0 0 0 [(0, .ref a0)] []) : xC d yX12_readFirm cX12_readFirm 3 none 0 0 [.ref a0] μ ro Z :=
  xC_intro (own := RX12) (lv := [(0, .ref a0)]) (by decide) rfl (Nat.le_of_ble_eq_true rfl) rfl (fun J g hr => r_sub g (lv' := [(0, .ref a0)]) (⟨rfl, trivial⟩) (h J g hr))
theorem dX12_readLink_0 : decode cX12_readLink 0 = .ok (.aload_n 0, 1) := by decide +kernel
theorem dX12_readLink_1 : decode cX12_readLink 1 = .ok (.invokevirtual 192, 3) := by decide +kernel
theorem dX12_readLink_4 : decode cX12_readLink 4 = .ok (.istore_n 2, 1) := by decide +kernel
theorem dX12_readLink_5 : decode cX12_readLink 5 = .ok (.aload_n 0, 1) := by decide +kernel
theorem dX12_readLink_6 : decode cX12_readLink 6 = .ok (.invokevirtual 192, 3) := by decide +kernel
theorem dX12_readLink_9 : decode cX12_readLink 9 = .ok (.istore_n 3, 1) := by decide +kernel
theorem dX12_readLink_10 : decode cX12_readLink 10 = .ok (.iload_n 2, 1) := by decide +kernel
theorem dX12_readLink_11 : decode cX12_readLink 11 = .ok (.iload_n 3, 1) := by decide +kernel
theorem dX12_readLink_12 : decode cX12_readLink 12 = .ok (.if_icmp .ne 7, 3) := by decide +kernel
theorem dX12_readLink_15 : decode cX12_readLink 15 = .ok (.iconst 1, 1) := by decide +kernel
theorem dX12_readLink_16 : decode cX12_readLink 16 = .ok (.goto 4, 3) := by decide +kernel
theorem dX12_readLink_19 : decode cX12_readLink 19 = .ok (.iconst 0, 1) := by decide +kernel
theorem dX12_readLink_20 : decode cX12_readLink 20 = .ok (.istore 4, 2) := by decide +kernel
theorem dX12_readLink_22 : decode cX12_readLink 22 = .ok (.iconst 0, 1) := by decide +kernel
theorem dX12_readLink_23 : decode cX12_readLink 23 = .ok (.istore 5, 2) := by decide +kernel
theorem dX12_readLink_25 : decode cX12_readLink 25 = .ok (.iload 5, 2) := by decide +kernel
theorem dX12_readLink_27 : decode cX12_readLink 27 = .ok (.aload_n 0, 1) := by decide +kernel
theorem dX12_readLink_28 : decode cX12_readLink 28 = .ok (.getfield 195, 3) := by decide +kernel
theorem dX12_readLink_31 : decode cX12_readLink 31 = .ok (.if_icmp .ge 64, 3) := by decide +kernel
theorem dX12_readLink_34 : decode cX12_readLink 34 = .ok (.iload 4, 2) := by decide +kernel
theorem dX12_readLink_36 : decode cX12_readLink 36 = .ok (.ifCond .ne 46, 3) := by decide +kernel
theorem dX12_readLink_39 : decode cX12_readLink 39 = .ok (.aload_n 0, 1) := by decide +kernel
theorem dX12_readLink_40 : decode cX12_readLink 40 = .ok (.getfield 32, 3) := by decide +kernel
theorem dX12_readLink_43 : decode cX12_readLink 43 = .ok (.iconst 5, 1) := by decide +kernel
theorem dX12_readLink_44 : decode cX12_readLink 44 = .ok (.iload 5, 2) := by decide +kernel
theorem dX12_readLink_46 : decode cX12_readLink 46 = .ok (.imul, 1) := by decide +kernel
theorem dX12_readLink_47 : decode cX12_readLink 47 = .ok (.iaload, 1) := by decide +kernel
theorem dX12_readLink_48 : decode cX12_readLink 48 = .ok (.iload_n 1, 1) := by decide +kernel
theorem dX12_readLink_49 : decode cX12_readLink 49 = .ok (.if_icmp .ne 37, 3) := by decide +kernel
theorem dX12_readLink_52 : decode cX12_readLink 52 = .ok (.aload_n 0, 1) := by decide +kernel
theorem dX12_readLink_53 : decode cX12_readLink 53 = .ok (.getfield 32, 3) := by decide +kernel
theorem dX12_readLink_56 : decode cX12_readLink 56 = .ok (.iconst 5, 1) := by decide +kernel
theorem dX12_readLink_57 : decode cX12_readLink 57 = .ok (.iload 5, 2) := by decide +kernel
theorem dX12_readLink_59 : decode cX12_readLink 59 = .ok (.imul, 1) := by decide +kernel
theorem dX12_readLink_60 : decode cX12_readLink 60 = .ok (.iconst 1, 1) := by decide +kernel
theorem dX12_readLink_61 : decode cX12_readLink 61 = .ok (.iadd, 1) := by decide +kernel
theorem dX12_readLink_62 : decode cX12_readLink 62 = .ok (.iaload, 1) := by decide +kernel
theorem dX12_readLink_63 : decode cX12_readLink 63 = .ok (.iload_n 2, 1) := by decide +kernel
theorem dX12_readLink_64 : decode cX12_readLink 64 = .ok (.if_icmp .ne 22, 3) := by decide +kernel
theorem dX12_readLink_67 : decode cX12_readLink 67 = .ok (.aload_n 0, 1) := by decide +kernel
theorem dX12_readLink_68 : decode cX12_readLink 68 = .ok (.getfield 32, 3) := by decide +kernel
theorem dX12_readLink_71 : decode cX12_readLink 71 = .ok (.iconst 5, 1) := by decide +kernel
theorem dX12_readLink_72 : decode cX12_readLink 72 = .ok (.iload 5, 2) := by decide +kernel
theorem dX12_readLink_74 : decode cX12_readLink 74 = .ok (.imul, 1) := by decide +kernel
theorem dX12_readLink_75 : decode cX12_readLink 75 = .ok (.iconst 2, 1) := by decide +kernel
theorem dX12_readLink_76 : decode cX12_readLink 76 = .ok (.iadd, 1) := by decide +kernel
theorem dX12_readLink_77 : decode cX12_readLink 77 = .ok (.iaload, 1) := by decide +kernel
theorem dX12_readLink_78 : decode cX12_readLink 78 = .ok (.iload_n 3, 1) := by decide +kernel
theorem dX12_readLink_79 : decode cX12_readLink 79 = .ok (.if_icmp .ne 7, 3) := by decide +kernel
theorem dX12_readLink_82 : decode cX12_readLink 82 = .ok (.iconst 1, 1) := by decide +kernel
theorem dX12_readLink_83 : decode cX12_readLink 83 = .ok (.goto 4, 3) := by decide +kernel
theorem dX12_readLink_86 : decode cX12_readLink 86 = .ok (.iconst 0, 1) := by decide +kernel
theorem dX12_readLink_87 : decode cX12_readLink 87 = .ok (.istore 4, 2) := by decide +kernel
theorem dX12_readLink_89 : decode cX12_readLink 89 = .ok (.iinc 5 1, 3) := by decide +kernel
theorem dX12_readLink_92 : decode cX12_readLink 92 = .ok (.goto (-67), 3) := by decide +kernel
theorem dX12_readLink_95 : decode cX12_readLink 95 = .ok (.aload_n 0, 1) := by decide +kernel
theorem dX12_readLink_96 : decode cX12_readLink 96 = .ok (.getfield 127, 3) := by decide +kernel
theorem dX12_readLink_99 : decode cX12_readLink 99 = .ok (.iconst (-1), 1) := by decide +kernel
theorem dX12_readLink_100 : decode cX12_readLink 100 = .ok (.if_icmp .ne 16, 3) := by decide +kernel
theorem dX12_readLink_103 : decode cX12_readLink 103 = .ok (.iload 4, 2) := by decide +kernel
theorem dX12_readLink_105 : decode cX12_readLink 105 = .ok (.ifCond .eq 11, 3) := by decide +kernel
theorem dX12_readLink_108 : decode cX12_readLink 108 = .ok (.aload_n 0, 1) := by decide +kernel
theorem dX12_readLink_109 : decode cX12_readLink 109 = .ok (.aload_n 0, 1) := by decide +kernel
theorem dX12_readLink_110 : decode cX12_readLink 110 = .ok (.getfield 133, 3) := by decide +kernel
theorem dX12_readLink_113 : decode cX12_readLink 113 = .ok (.invokevirtual 144, 3) := by decide +kernel
theorem dX12_readLink_116 : decode cX12_readLink 116 = .ok (.iconst 5, 1) := by decide +kernel
theorem dX12_readLink_117 : decode cX12_readLink 117 = .ok (.aload_n 0, 1) := by decide +kernel
theorem dX12_readLink_118 : decode cX12_readLink 118 = .ok (.getfield 195, 3) := by decide +kernel
theorem dX12_readLink_121 : decode cX12_readLink 121 = .ok (.imul, 1) := by decide +kernel
theorem dX12_readLink_122 : decode cX12_readLink 122 = .ok (.istore 5, 2) := by decide +kernel
theorem dX12_readLink_124 : decode cX12_readLink 124 = .ok (.aload_n 0, 1) := by decide +kernel
theorem dX12_readLink_125 : decode cX12_readLink 125 = .ok (.getfield 32, 3) := by decide +kernel
theorem dX12_readLink_128 : decode cX12_readLink 128 = .ok (.iload 5, 2) := by decide +kernel
theorem dX12_readLink_130 : decode cX12_readLink 130 = .ok (.iload_n 1, 1) := by decide +kernel
theorem dX12_readLink_131 : decode cX12_readLink 131 = .ok (.iastore, 1) := by decide +kernel
theorem dX12_readLink_132 : decode cX12_readLink 132 = .ok (.aload_n 0, 1) := by decide +kernel
theorem dX12_readLink_133 : decode cX12_readLink 133 = .ok (.getfield 32, 3) := by decide +kernel
theorem dX12_readLink_136 : decode cX12_readLink 136 = .ok (.iload 5, 2) := by decide +kernel
theorem dX12_readLink_138 : decode cX12_readLink 138 = .ok (.iconst 1, 1) := by decide +kernel
theorem dX12_readLink_139 : decode cX12_readLink 139 = .ok (.iadd, 1) := by decide +kernel
theorem dX12_readLink_140 : decode cX12_readLink 140 = .ok (.iload_n 2, 1) := by decide +kernel
theorem dX12_readLink_141 : decode cX12_readLink 141 = .ok (.iastore, 1) := by decide +kernel
theorem dX12_readLink_142 : decode cX12_readLink 142 = .ok (.aload_n 0, 1) := by decide +kernel
theorem dX12_readLink_143 : decode cX12_readLink 143 = .ok (.getfield 32, 3) := by decide +kernel
theorem dX12_readLink_146 : decode cX12_readLink 146 = .ok (.iload 5, 2) := by decide +kernel
theorem dX12_readLink_148 : decode cX12_readLink 148 = .ok (.iconst 2, 1) := by decide +kernel
theorem dX12_readLink_149 : decode cX12_readLink 149 = .ok (.iadd, 1) := by decide +kernel
theorem dX12_readLink_150 : decode cX12_readLink 150 = .ok (.iload_n 3, 1) := by decide +kernel
theorem dX12_readLink_151 : decode cX12_readLink 151 = .ok (.iastore, 1) := by decide +kernel
theorem dX12_readLink_152 : decode cX12_readLink 152 = .ok (.aload_n 0, 1) := by decide +kernel
theorem dX12_readLink_153 : decode cX12_readLink 153 = .ok (.getfield 32, 3) := by decide +kernel
theorem dX12_readLink_156 : decode cX12_readLink 156 = .ok (.iload 5, 2) := by decide +kernel
theorem dX12_readLink_158 : decode cX12_readLink 158 = .ok (.iconst 3, 1) := by decide +kernel
theorem dX12_readLink_159 : decode cX12_readLink 159 = .ok (.iadd, 1) := by decide +kernel
theorem dX12_readLink_160 : decode cX12_readLink 160 = .ok (.iload_n 1, 1) := by decide +kernel
theorem dX12_readLink_161 : decode cX12_readLink 161 = .ok (.ifCond .ne 13, 3) := by decide +kernel
theorem dX12_readLink_164 : decode cX12_readLink 164 = .ok (.aload_n 0, 1) := by decide +kernel
theorem dX12_readLink_165 : decode cX12_readLink 165 = .ok (.iconst 1, 1) := by decide +kernel
theorem dX12_readLink_166 : decode cX12_readLink 166 = .ok (.bipush 100, 2) := by decide +kernel
theorem dX12_readLink_168 : decode cX12_readLink 168 = .ok (.invokevirtual 185, 3) := by decide +kernel
theorem dX12_readLink_171 : decode cX12_readLink 171 = .ok (.goto 4, 3) := by decide +kernel
theorem dX12_readLink_174 : decode cX12_readLink 174 = .ok (.iconst 0, 1) := by decide +kernel
theorem dX12_readLink_175 : decode cX12_readLink 175 = .ok (.iastore, 1) := by decide +kernel
theorem dX12_readLink_176 : decode cX12_readLink 176 = .ok (.aload_n 0, 1) := by decide +kernel
theorem dX12_readLink_177 : decode cX12_readLink 177 = .ok (.getfield 32, 3) := by decide +kernel
theorem dX12_readLink_180 : decode cX12_readLink 180 = .ok (.iload 5, 2) := by decide +kernel
theorem dX12_readLink_182 : decode cX12_readLink 182 = .ok (.iconst 4, 1) := by decide +kernel
theorem dX12_readLink_183 : decode cX12_readLink 183 = .ok (.iadd, 1) := by decide +kernel
theorem dX12_readLink_184 : decode cX12_readLink 184 = .ok (.aload_n 0, 1) := by decide +kernel
theorem dX12_readLink_185 : decode cX12_readLink 185 = .ok (.iconst 0, 1) := by decide +kernel
theorem dX12_readLink_186 : decode cX12_readLink 186 = .ok (.bipush 99, 2) := by decide +kernel
theorem dX12_readLink_188 : decode cX12_readLink 188 = .ok (.invokevirtual 185, 3) := by decide +kernel
theorem dX12_readLink_191 : decode cX12_readLink 191 = .ok (.iastore, 1) := by decide +kernel
theorem dX12_readLink_192 : decode cX12_readLink 192 = .ok (.aload_n 0, 1) := by decide +kernel
theorem dX12_readLink_193 : decode cX12_readLink 193 = .ok (.dup, 1) := by decide +kernel
theorem dX12_readLink_194 : decode cX12_readLink 194 = .ok (.getfield 195, 3) := by decide +kernel
theorem dX12_readLink_197 : decode cX12_readLink 197 = .ok (.iconst 1, 1) := by decide +kernel
theorem dX12_readLink_198 : decode cX12_readLink 198 = .ok (.iadd, 1) := by decide +kernel
theorem dX12_readLink_199 : decode cX12_readLink 199 = .ok (.putfield 195, 3) := by decide +kernel
theorem dX12_readLink_202 : decode cX12_readLink 202 = .ok (.return_, 1) := by decide +kernel
set_option maxHeartbeats 4000000 in
set_option maxRecDepth 100000 in
theorem B_X12_readLink_0 {d : Nat} {ro : Nat → Nat} {J : JT} {Z : Option Value → Hp → Prop} (g : xCtx RX12 cX12_readLink 6 d 0 0 yX12_readLink.name ro J) (hr : xRet cX12_readLink none 0 0 Z J) {μ : Hp} {a0 : Nat} {x1 : Int32} (hs_a0 : hS μ a0 = some (15, 65))
    (h : xCall d yX12_aFirm cX12_aFirm 2 (some .int) [.ref a0] μ ro (fun r1 μ2 => ∃ y3 : Int32, r1 = some (.int y3) ∧ hS μ2 a0 = some (15, 65) ∧ xCall d yX12_aFirm cX12_aFirm 2 (some .int) [.ref a0] μ2 ro (fun r4 μ5 => ∃ y6 : Int32, r4 = some (.int y6) ∧ ((¬ y3 = y6 → J μ5 0 0 25 [(0, .ref a0), (1, .int x1), (2, .int y3), (3, .int y6), (4, .int 0), (5, .int 0)] []) ∧ (y3 = y6 → J μ5 0 0 25 [(0, .ref a0), (1, .int x1), (2, .int y3), (3, .int y6), (4, .int 1), (5, .int 0)] []))))) :
    J μ 0 0 0 [(0, .ref a0), (1, .int x1)] [] := by
  refine r_aload_n g dX12_readLink_0 rfl ?_
  obtain ⟨d1, Z1, hc1, hd1, h1⟩ := h
  refine r_callV (st := []) (As := []) g sX12_192 iX12_aFirm eX12_aFirm rfl hs_a0 rfl (Nat.le_of_ble_eq_true rfl) dX12_readLink_1 hd1 (Nat.le_refl 0) (Nat.le_refl 0) hc1 (fun r1 μ2 hZ1 => ?_)
  replace h := h1 _ _ hZ1
  clear h1 hc1 hd1 hZ1 Z1 d1
  obtain ⟨y3, rfl, h⟩ := h
  refine r_istore_n g [(2, .int y3), (0, .ref a0), (1, .int x1)] dX12_readLink_4 (by decide) rfl ?_
  refine r_aload_n g dX12_readLink_5 rfl ?_
  obtain ⟨hs_a0_, h⟩ := h
  obtain ⟨d1, Z1, hc1, hd1, h1⟩ := h
  refine r_callV (st := []) (As := []) g sX12_192 iX12_aFirm eX12_aFirm rfl hs_a0_ rfl (Nat.le_of_ble_eq_true rfl) dX12_readLink_6 hd1 (Nat.le_refl 0) (Nat.le_refl 0) hc1 (fun r4 μ5 hZ1 => ?_)
  replace h := h1 _ _ hZ1
  clear h1 hc1 hd1 hZ1 Z1 d1
  obtain ⟨y6, rfl, h⟩ := h
  refine r_istore_n g [(3, .int y6), (2, .int y3), (0, .ref a0), (1, .int x1)] dX12_readLink_9 (by decide) rfl ?_
  refine r_iload_n g dX12_readLink_10 rfl ?_
  refine r_iload_n g dX12_readLink_11 rfl ?_
  refine r_icmp_ne g 19 dX12_readLink_12 (by decide) (fun c7 => ?_) (fun c7 => ?_)
  · replace h := h.1 c7
    refine r_iconst g 0 dX12_readLink_19 (by decide) ?_
    refine r_istore g [(4, .int 0), (3, .int y6), (2, .int y3), (0, .ref a0), (1, .int x1)] dX12_readLink_20 (by decide) rfl ?_
    refine r_iconst g 0 dX12_readLink_22 (by decide) ?_
    refine r_istore g [(5, .int 0), (4, .int 0), (3, .int y6), (2, .int y3), (0, .ref a0), (1, .int x1)] dX12_readLink_23 (by decide) rfl ?_
    refine r_sub g (lv' := [(0, .ref a0), (1, .int x1), (2, .int y3), (3, .int y6), (4, .int 0), (5, .int 0)]) (⟨rfl, rfl, rfl, rfl, rfl, rfl, trivial⟩) ?_
    exact h
  · replace h := h.2 c7
    refine r_iconst g 1 dX12_readLink_15 (by decide) ?_
    refine r_goto g 20 dX12_readLink_16 (by decide) ?_
    refine r_istore g [(4, .int 1), (3, .int y6), (2, .int y3), (0, .ref a0), (1, .int x1)] dX12_readLink_20 (by decide) rfl ?_
    refine r_iconst g 0 dX12_readLink_22 (by decide) ?_
    refine r_istore g [(5, .int 0), (4, .int 1), (3, .int y6), (2, .int y3), (0, .ref a0), (1, .int x1)] dX12_readLink_23 (by decide) rfl ?_
    refine r_sub g (lv' := [(0, .ref a0), (1, .int x1), (2, .int y3), (3, .int y6), (4, .int 1), (5, .int 0)]) (⟨rfl, rfl, rfl, rfl, rfl, rfl, trivial⟩) ?_
    exact h
set_option maxHeartbeats 4000000 in
set_option maxRecDepth 100000 in
theorem B_X12_readLink_25 {d : Nat} {ro : Nat → Nat} {J : JT} {Z : Option Value → Hp → Prop} (g : xCtx RX12 cX12_readLink 6 d 0 0 yX12_readLink.name ro J) (hr : xRet cX12_readLink none 0 0 Z J) {μ : Hp} {a0 : Nat} {x1 : Int32} {x2 : Int32} {x3 : Int32} {x4 : Int32} {x5 : Int32} {a0_linkRead : Nat} {N_a0_linkRead : Nat} (hs_a0 : hS μ a0 = some (15, 65)) (hr_a0_linkRead : hR μ a0 13 = some a0_linkRead) (hs_a0_linkRead : hS μ a0_linkRead = some (0, N_a0_linkRead))
    (h : (((hI μ a0 25) ≤ x5 → ((¬ (hI μ a0 4) = (-1) → J μ 0 0 116 [(0, .ref a0), (1, .int x1), (2, .int x2), (3, .int x3)] []) ∧ ((hI μ a0 4) = (-1) → ((x4 = 0 → J μ 0 0 116 [(0, .ref a0), (1, .int x1), (2, .int x2), (3, .int x3)] []) ∧ (¬ x4 = 0 → xCall d yX12_fails cX12_fails 2 none [.ref a0, .int (hI μ a0 5)] μ ro (fun r4 μ5 => r4 = none ∧ J μ5 0 0 116 [(0, .ref a0), (1, .int x1), (2, .int x2), (3, .int x3)] [])))))) ∧ (¬ (hI μ a0 25) ≤ x5 → ((¬ x4 = 0 → J μ 0 0 25 [(0, .ref a0), (1, .int x1), (2, .int x2), (3, .int x3), (4, .int 1), (5, .int (x5 + 1))] []) ∧ (x4 = 0 → vp_in (5 * x5) N_a0_linkRead ∧ ((¬ (hI μ a0_linkRead ((5 * x5).toNatClampNeg)) = x1 → J μ 0 0 25 [(0, .ref a0), (1, .int x1), (2, .int x2), (3, .int x3), (4, .int 0), (5, .int (x5 + 1))] []) ∧ ((hI μ a0_linkRead ((5 * x5).toNatClampNeg)) = x1 → vp_in ((5 * x5) + 1) N_a0_linkRead ∧ ((¬ (hI μ a0_linkRead (((5 * x5) + 1).toNatClampNeg)) = x2 → J μ 0 0 25 [(0, .ref a0), (1, .int x1), (2, .int x2), (3, .int x3), (4, .int 0), (5, .int (x5 + 1))] []) ∧ ((hI μ a0_linkRead (((5 * x5) + 1).toNatClampNeg)) = x2 → vp_in ((5 * x5) + 2) N_a0_linkRead ∧ ((¬ (hI μ a0_linkRead (((5 * x5) + 2).toNatClampNeg)) = x3 → J μ 0 0 25 [(0, .ref a0), (1, .int x1), (2, .int x2), (3, .int x3), (4, .int 0), (5, .int (x5 + 1))] []) ∧ ((hI μ a0_linkRead (((5 * x5) + 2).toNatClampNeg)) = x3 → J μ 0 0 25 [(0, .ref a0), (1, .int x1), (2, .int x2), (3, .int x3), (4, .int 1), (5, .int (x5 + 1))] []))))))))))) :
    J μ 0 0 25 [(0, .ref a0), (1, .int x1), (2, .int x2), (3, .int x3), (4, .int x4), (5, .int x5)] [] := by
  refine r_iload g dX12_readLink_25 rfl ?_
  refine r_aload_n g dX12_readLink_27 rfl ?_
  refine r_getI g fX12_195 rfl hs_a0 dX12_readLink_28 ?_
  refine r_icmp_ge g 95 dX12_readLink_31 (by decide) (fun c1 => ?_) (fun c1 => ?_)
  · replace h := h.1 c1
    refine r_aload_n g dX12_readLink_95 rfl ?_
    refine r_getI g fX12_127 rfl hs_a0 dX12_readLink_96 ?_
    refine r_iconst g (-1) dX12_readLink_99 (by decide) ?_
    refine r_icmp_ne g 116 dX12_readLink_100 (by decide) (fun c2 => ?_) (fun c2 => ?_)
    · replace h := h.1 c2
      refine r_sub g (lv' := [(0, .ref a0), (1, .int x1), (2, .int x2), (3, .int x3)]) (⟨rfl, rfl, rfl, rfl, trivial⟩) ?_
      exact h
    · replace h := h.2 c2
      refine r_iload g dX12_readLink_103 rfl ?_
      refine r_if_eq g 116 dX12_readLink_105 (by decide) (fun c3 => ?_) (fun c3 => ?_)
      · replace h := h.1 c3
        refine r_sub g (lv' := [(0, .ref a0), (1, .int x1), (2, .int x2), (3, .int x3)]) (⟨rfl, rfl, rfl, rfl, trivial⟩) ?_
        exact h
      · replace h := h.2 c3
        refine r_aload_n g dX12_readLink_108 rfl ?_
        refine r_aload_n g dX12_readLink_109 rfl ?_
        refine r_getI g fX12_133 rfl hs_a0 dX12_readLink_110 ?_
        obtain ⟨d1, Z1, hc1, hd1, h1⟩ := h
        refine r_callV (st := []) (As := [.int (hI μ a0 5)]) g sX12_144 iX12_fails eX12_fails rfl hs_a0 rfl (Nat.le_of_ble_eq_true rfl) dX12_readLink_113 hd1 (Nat.le_refl 0) (Nat.le_refl 0) hc1 (fun r4 μ5 hZ1 => ?_)
        replace h := h1 _ _ hZ1
        clear h1 hc1 hd1 hZ1 Z1 d1
        obtain ⟨rfl, h⟩ := h
        refine r_sub g (lv' := [(0, .ref a0), (1, .int x1), (2, .int x2), (3, .int x3)]) (⟨rfl, rfl, rfl, rfl, trivial⟩) ?_
        exact h
  · replace h := h.2 c1
    refine r_iload g dX12_readLink_34 rfl ?_
    refine r_if_ne g 82 dX12_readLink_36 (by decide) (fun c6 => ?_) (fun c6 => ?_)
    · replace h := h.1 c6
      refine r_iconst g 1 dX12_readLink_82 (by decide) ?_
      refine r_goto g 87 dX12_readLink_83 (by decide) ?_
      refine r_istore g [(4, .int 1), (0, .ref a0), (1, .int x1), (2, .int x2), (3, .int x3), (5, .int x5)] dX12_readLink_87 (by decide) rfl ?_
      refine r_iinc g (x5 + 1) [(5, .int (x5 + 1)), (4, .int 1), (0, .ref a0), (1, .int x1), (2, .int x2), (3, .int x3)] dX12_readLink_89 rfl rfl (by decide) rfl ?_
      refine r_goto g 25 dX12_readLink_92 (by decide) ?_
      refine r_sub g (lv' := [(0, .ref a0), (1, .int x1), (2, .int x2), (3, .int x3), (4, .int 1), (5, .int (x5 + 1))]) (⟨rfl, rfl, rfl, rfl, rfl, rfl, trivial⟩) ?_
      exact h
    · replace h := h.2 c6
      refine r_aload_n g dX12_readLink_39 rfl ?_
      refine r_getR g fX12_32 rfl hs_a0 hr_a0_linkRead dX12_readLink_40 ?_
      refine r_iconst g 5 dX12_readLink_43 (by decide) ?_
      refine r_iload g dX12_readLink_44 rfl ?_
      refine r_imul g dX12_readLink_46 ?_
      obtain ⟨hi7, h⟩ := h
      refine r_iaload g hs_a0_linkRead hi7 dX12_readLink_47 ?_
      refine r_iload_n g dX12_readLink_48 rfl ?_
      refine r_icmp_ne g 86 dX12_readLink_49 (by decide) (fun c8 => ?_) (fun c8 => ?_)
      · replace h := h.1 c8
        refine r_iconst g 0 dX12_readLink_86 (by decide) ?_
        refine r_istore g [(4, .int 0), (0, .ref a0), (1, .int x1), (2, .int x2), (3, .int x3), (5, .int x5)] dX12_readLink_87 (by decide) rfl ?_
        refine r_iinc g (x5 + 1) [(5, .int (x5 + 1)), (4, .int 0), (0, .ref a0), (1, .int x1), (2, .int x2), (3, .int x3)] dX12_readLink_89 rfl rfl (by decide) rfl ?_
        refine r_goto g 25 dX12_readLink_92 (by decide) ?_
        refine r_sub g (lv' := [(0, .ref a0), (1, .int x1), (2, .int x2), (3, .int x3), (4, .int 0), (5, .int (x5 + 1))]) (⟨rfl, rfl, rfl, rfl, rfl, rfl, trivial⟩) ?_
        exact h
      · replace h := h.2 c8
        refine r_aload_n g dX12_readLink_52 rfl ?_
        refine r_getR g fX12_32 rfl hs_a0 hr_a0_linkRead dX12_readLink_53 ?_
        refine r_iconst g 5 dX12_readLink_56 (by decide) ?_
        refine r_iload g dX12_readLink_57 rfl ?_
        refine r_imul g dX12_readLink_59 ?_
        refine r_iconst g 1 dX12_readLink_60 (by decide) ?_
        refine r_iadd g dX12_readLink_61 ?_
        obtain ⟨hi9, h⟩ := h
        refine r_iaload g hs_a0_linkRead hi9 dX12_readLink_62 ?_
        refine r_iload_n g dX12_readLink_63 rfl ?_
        refine r_icmp_ne g 86 dX12_readLink_64 (by decide) (fun c10 => ?_) (fun c10 => ?_)
        · replace h := h.1 c10
          refine r_iconst g 0 dX12_readLink_86 (by decide) ?_
          refine r_istore g [(4, .int 0), (0, .ref a0), (1, .int x1), (2, .int x2), (3, .int x3), (5, .int x5)] dX12_readLink_87 (by decide) rfl ?_
          refine r_iinc g (x5 + 1) [(5, .int (x5 + 1)), (4, .int 0), (0, .ref a0), (1, .int x1), (2, .int x2), (3, .int x3)] dX12_readLink_89 rfl rfl (by decide) rfl ?_
          refine r_goto g 25 dX12_readLink_92 (by decide) ?_
          refine r_sub g (lv' := [(0, .ref a0), (1, .int x1), (2, .int x2), (3, .int x3), (4, .int 0), (5, .int (x5 + 1))]) (⟨rfl, rfl, rfl, rfl, rfl, rfl, trivial⟩) ?_
          exact h
        · replace h := h.2 c10
          refine r_aload_n g dX12_readLink_67 rfl ?_
          refine r_getR g fX12_32 rfl hs_a0 hr_a0_linkRead dX12_readLink_68 ?_
          refine r_iconst g 5 dX12_readLink_71 (by decide) ?_
          refine r_iload g dX12_readLink_72 rfl ?_
          refine r_imul g dX12_readLink_74 ?_
          refine r_iconst g 2 dX12_readLink_75 (by decide) ?_
          refine r_iadd g dX12_readLink_76 ?_
          obtain ⟨hi11, h⟩ := h
          refine r_iaload g hs_a0_linkRead hi11 dX12_readLink_77 ?_
          refine r_iload_n g dX12_readLink_78 rfl ?_
          refine r_icmp_ne g 86 dX12_readLink_79 (by decide) (fun c12 => ?_) (fun c12 => ?_)
          · replace h := h.1 c12
            refine r_iconst g 0 dX12_readLink_86 (by decide) ?_
            refine r_istore g [(4, .int 0), (0, .ref a0), (1, .int x1), (2, .int x2), (3, .int x3), (5, .int x5)] dX12_readLink_87 (by decide) rfl ?_
            refine r_iinc g (x5 + 1) [(5, .int (x5 + 1)), (4, .int 0), (0, .ref a0), (1, .int x1), (2, .int x2), (3, .int x3)] dX12_readLink_89 rfl rfl (by decide) rfl ?_
            refine r_goto g 25 dX12_readLink_92 (by decide) ?_
            refine r_sub g (lv' := [(0, .ref a0), (1, .int x1), (2, .int x2), (3, .int x3), (4, .int 0), (5, .int (x5 + 1))]) (⟨rfl, rfl, rfl, rfl, rfl, rfl, trivial⟩) ?_
            exact h
          · replace h := h.2 c12
            refine r_iconst g 1 dX12_readLink_82 (by decide) ?_
            refine r_goto g 87 dX12_readLink_83 (by decide) ?_
            refine r_istore g [(4, .int 1), (0, .ref a0), (1, .int x1), (2, .int x2), (3, .int x3), (5, .int x5)] dX12_readLink_87 (by decide) rfl ?_
            refine r_iinc g (x5 + 1) [(5, .int (x5 + 1)), (4, .int 1), (0, .ref a0), (1, .int x1), (2, .int x2), (3, .int x3)] dX12_readLink_89 rfl rfl (by decide) rfl ?_
            refine r_goto g 25 dX12_readLink_92 (by decide) ?_
            refine r_sub g (lv' := [(0, .ref a0), (1, .int x1), (2, .int x2), (3, .int x3), (4, .int 1), (5, .int (x5 + 1))]) (⟨rfl, rfl, rfl, rfl, rfl, rfl, trivial⟩) ?_
            exact h
set_option maxHeartbeats 4000000 in
set_option maxRecDepth 100000 in
theorem B_X12_readLink_116 {d : Nat} {ro : Nat → Nat} {J : JT} {Z : Option Value → Hp → Prop} (g : xCtx RX12 cX12_readLink 6 d 0 0 yX12_readLink.name ro J) (hr : xRet cX12_readLink none 0 0 Z J) {μ : Hp} {a0 : Nat} {x1 : Int32} {x2 : Int32} {x3 : Int32} {a0_linkRead : Nat} {N_a0_linkRead : Nat} (hs_a0 : hS μ a0 = some (15, 65)) (hr_a0_linkRead : hR μ a0 13 = some a0_linkRead) (hs_a0_linkRead : hS μ a0_linkRead = some (0, N_a0_linkRead))
    (h : vp_in (5 * (hI μ a0 25)) N_a0_linkRead ∧ vp_in ((5 * (hI μ a0 25)) + 1) N_a0_linkRead ∧ vp_in ((5 * (hI μ a0 25)) + 2) N_a0_linkRead ∧ ((¬ x1 = 0 → vp_in ((5 * (hI μ a0 25)) + 3) N_a0_linkRead ∧ xCall d yX12_number cX12_number 5 (some .int) [.ref a0, .int 0, .int 99] (wI (wI (wI (wI μ a0_linkRead ((5 * (hI μ a0 25)).toNatClampNeg) x1) a0_linkRead (((5 * (hI μ a0 25)) + 1).toNatClampNeg) x2) a0_linkRead (((5 * (hI μ a0 25)) + 2).toNatClampNeg) x3) a0_linkRead (((5 * (hI μ a0 25)) + 3).toNatClampNeg) 0) ro (fun r6 μ7 => ∃ y8 : Int32, r6 = some (.int y8) ∧ ∃ N9 : Nat, hS μ7 a0_linkRead = some (0, N9) ∧ vp_in ((5 * (hI μ a0 25)) + 4) N9 ∧ hS μ7 a0 = some (15, 65) ∧ (∀ v11 : Int32, v11 = (hI (wI μ7 a0_linkRead (((5 * (hI μ a0 25)) + 4).toNatClampNeg) y8) a0 25) → Z none (wI (wI μ7 a0_linkRead (((5 * (hI μ a0 25)) + 4).toNatClampNeg) y8) a0 25 (v11 + 1))))) ∧ (x1 = 0 → xCall d yX12_number cX12_number 5 (some .int) [.ref a0, .int 1, .int 100] (wI (wI (wI μ a0_linkRead ((5 * (hI μ a0 25)).toNatClampNeg) x1) a0_linkRead (((5 * (hI μ a0 25)) + 1).toNatClampNeg) x2) a0_linkRead (((5 * (hI μ a0 25)) + 2).toNatClampNeg) x3) ro (fun r12 μ13 => ∃ y14 : Int32, r12 = some (.int y14) ∧ ∃ N15 : Nat, hS μ13 a0_linkRead = some (0, N15) ∧ vp_in ((5 * (hI μ a0 25)) + 3) N15 ∧ hS μ13 a0 = some (15, 65) ∧ ∃ linkRead_17 : Nat, hR μ13 a0 13 = some linkRead_17 ∧ xCall d yX12_number cX12_number 5 (some .int) [.ref a0, .int 0, .int 99] (wI μ13 a0_linkRead (((5 * (hI μ a0 25)) + 3).toNatClampNeg) y14) ro (fun r18 μ19 => ∃ y20 : Int32, r18 = some (.int y20) ∧ ∃ N21 : Nat, hS μ19 linkRead_17 = some (0, N21) ∧ vp_in ((5 * (hI μ a0 25)) + 4) N21 ∧ hS μ19 a0 = some (15, 65) ∧ (∀ v23 : Int32, v23 = (hI (wI μ19 linkRead_17 (((5 * (hI μ a0 25)) + 4).toNatClampNeg) y20) a0 25) → Z none (wI (wI μ19 linkRead_17 (((5 * (hI μ a0 25)) + 4).toNatClampNeg) y20) a0 25 (v23 + 1)))))))) :
    J μ 0 0 116 [(0, .ref a0), (1, .int x1), (2, .int x2), (3, .int x3)] [] := by
  refine r_iconst g 5 dX12_readLink_116 (by decide) ?_
  refine r_aload_n g dX12_readLink_117 rfl ?_
  refine r_getI g fX12_195 rfl hs_a0 dX12_readLink_118 ?_
  refine r_imul g dX12_readLink_121 ?_
  refine r_istore g [(5, .int (5 * (hI μ a0 25))), (0, .ref a0), (1, .int x1), (2, .int x2), (3, .int x3)] dX12_readLink_122 (by decide) rfl ?_
  refine r_aload_n g dX12_readLink_124 rfl ?_
  refine r_getR g fX12_32 rfl hs_a0 hr_a0_linkRead dX12_readLink_125 ?_
  refine r_iload g dX12_readLink_128 rfl ?_
  refine r_iload_n g dX12_readLink_130 rfl ?_
  obtain ⟨hi1, h⟩ := h
  refine r_iastore g hs_a0_linkRead hi1 dX12_readLink_131 ?_
  refine r_aload_n g dX12_readLink_132 rfl ?_
  refine r_getR g fX12_32 rfl hs_a0 hr_a0_linkRead dX12_readLink_133 ?_
  refine r_iload g dX12_readLink_136 rfl ?_
  refine r_iconst g 1 dX12_readLink_138 (by decide) ?_
  refine r_iadd g dX12_readLink_139 ?_
  refine r_iload_n g dX12_readLink_140 rfl ?_
  obtain ⟨hi2, h⟩ := h
  refine r_iastore g hs_a0_linkRead hi2 dX12_readLink_141 ?_
  refine r_aload_n g dX12_readLink_142 rfl ?_
  refine r_getR g fX12_32 rfl hs_a0 hr_a0_linkRead dX12_readLink_143 ?_
  refine r_iload g dX12_readLink_146 rfl ?_
  refine r_iconst g 2 dX12_readLink_148 (by decide) ?_
  refine r_iadd g dX12_readLink_149 ?_
  refine r_iload_n g dX12_readLink_150 rfl ?_
  obtain ⟨hi3, h⟩ := h
  refine r_iastore g hs_a0_linkRead hi3 dX12_readLink_151 ?_
  refine r_aload_n g dX12_readLink_152 rfl ?_
  refine r_getR g fX12_32 rfl hs_a0 hr_a0_linkRead dX12_readLink_153 ?_
  refine r_iload g dX12_readLink_156 rfl ?_
  refine r_iconst g 3 dX12_readLink_158 (by decide) ?_
  refine r_iadd g dX12_readLink_159 ?_
  refine r_iload_n g dX12_readLink_160 rfl ?_
  refine r_if_ne g 174 dX12_readLink_161 (by decide) (fun c4 => ?_) (fun c4 => ?_)
  · replace h := h.1 c4
    refine r_iconst g 0 dX12_readLink_174 (by decide) ?_
    obtain ⟨hi5, h⟩ := h
    refine r_iastore g hs_a0_linkRead hi5 dX12_readLink_175 ?_
    refine r_aload_n g dX12_readLink_176 rfl ?_
    refine r_getR g fX12_32 rfl hs_a0 hr_a0_linkRead dX12_readLink_177 ?_
    refine r_iload g dX12_readLink_180 rfl ?_
    refine r_iconst g 4 dX12_readLink_182 (by decide) ?_
    refine r_iadd g dX12_readLink_183 ?_
    refine r_aload_n g dX12_readLink_184 rfl ?_
    refine r_iconst g 0 dX12_readLink_185 (by decide) ?_
    refine r_bipush g 99 dX12_readLink_186 (by decide) ?_
    obtain ⟨d1, Z1, hc1, hd1, h1⟩ := h
    refine r_callV (st := [.int ((5 * (hI μ a0 25)) + 4), .ref a0_linkRead]) (As := [.int 0, .int 99]) g sX12_185 iX12_number eX12_number rfl hs_a0 rfl (Nat.le_of_ble_eq_true rfl) dX12_readLink_188 hd1 (Nat.le_refl 0) (Nat.le_refl 0) hc1 (fun r6 μ7 hZ1 => ?_)
    replace h := h1 _ _ hZ1
    clear h1 hc1 hd1 hZ1 Z1 d1
    obtain ⟨y8, rfl, h⟩ := h
    obtain ⟨N9, hs_a0_linkRead_, h⟩ := h
    obtain ⟨hi10, h⟩ := h
    refine r_iastore g hs_a0_linkRead_ hi10 dX12_readLink_191 ?_
    refine r_aload_n g dX12_readLink_192 rfl ?_
    refine r_dup g dX12_readLink_193 rfl ?_
    obtain ⟨hs_a0_, h⟩ := h
    refine r_getI g fX12_195 rfl hs_a0_ dX12_readLink_194 ?_
    refine r_nmI (fun v11 ev11 => ?_)
    replace h := h v11 ev11
    refine r_iconst g 1 dX12_readLink_197 (by decide) ?_
    refine r_iadd g dX12_readLink_198 ?_
    refine r_putI g fX12_195 rfl hs_a0_ rfl rfl dX12_readLink_199 ?_
    exact hr.1 rfl _ _ _ _ _ dX12_readLink_202 (Nat.le_refl 0) (Nat.le_refl 0) h
  · replace h := h.2 c4
    refine r_aload_n g dX12_readLink_164 rfl ?_
    refine r_iconst g 1 dX12_readLink_165 (by decide) ?_
    refine r_bipush g 100 dX12_readLink_166 (by decide) ?_
    obtain ⟨d1, Z1, hc1, hd1, h1⟩ := h
    refine r_callV (st := [.int ((5 * (hI μ a0 25)) + 3), .ref a0_linkRead]) (As := [.int 1, .int 100]) g sX12_185 iX12_number eX12_number rfl hs_a0 rfl (Nat.le_of_ble_eq_true rfl) dX12_readLink_168 hd1 (Nat.le_refl 0) (Nat.le_refl 0) hc1 (fun r12 μ13 hZ1 => ?_)
    replace h := h1 _ _ hZ1
    clear h1 hc1 hd1 hZ1 Z1 d1
    obtain ⟨y14, rfl, h⟩ := h
    refine r_goto g 175 dX12_readLink_171 (by decide) ?_
    obtain ⟨N15, hs_a0_linkRead__, h⟩ := h
    obtain ⟨hi16, h⟩ := h
    refine r_iastore g hs_a0_linkRead__ hi16 dX12_readLink_175 ?_
    refine r_aload_n g dX12_readLink_176 rfl ?_
    obtain ⟨hs_a0__, h⟩ := h
    obtain ⟨linkRead_17, hr_linkRead_17, h⟩ := h
    refine r_getR g fX12_32 rfl hs_a0__ hr_linkRead_17 dX12_readLink_177 ?_
    refine r_iload g dX12_readLink_180 rfl ?_
    refine r_iconst g 4 dX12_readLink_182 (by decide) ?_
    refine r_iadd g dX12_readLink_183 ?_
    refine r_aload_n g dX12_readLink_184 rfl ?_
    refine r_iconst g 0 dX12_readLink_185 (by decide) ?_
    refine r_bipush g 99 dX12_readLink_186 (by decide) ?_
    obtain ⟨d1, Z1, hc1, hd1, h1⟩ := h
    refine r_callV (st := [.int ((5 * (hI μ a0 25)) + 4), .ref linkRead_17]) (As := [.int 0, .int 99]) g sX12_185 iX12_number eX12_number rfl hs_a0__ rfl (Nat.le_of_ble_eq_true rfl) dX12_readLink_188 hd1 (Nat.le_refl 0) (Nat.le_refl 0) hc1 (fun r18 μ19 hZ1 => ?_)
    replace h := h1 _ _ hZ1
    clear h1 hc1 hd1 hZ1 Z1 d1
    obtain ⟨y20, rfl, h⟩ := h
    obtain ⟨N21, hs_linkRead_17, h⟩ := h
    obtain ⟨hi22, h⟩ := h
    refine r_iastore g hs_linkRead_17 hi22 dX12_readLink_191 ?_
    refine r_aload_n g dX12_readLink_192 rfl ?_
    refine r_dup g dX12_readLink_193 rfl ?_
    obtain ⟨hs_a0___, h⟩ := h
    refine r_getI g fX12_195 rfl hs_a0___ dX12_readLink_194 ?_
    refine r_nmI (fun v23 ev23 => ?_)
    replace h := h v23 ev23
    refine r_iconst g 1 dX12_readLink_197 (by decide) ?_
    refine r_iadd g dX12_readLink_198 ?_
    refine r_putI g fX12_195 rfl hs_a0___ rfl rfl dX12_readLink_199 ?_
    exact hr.1 rfl _ _ _ _ _ dX12_readLink_202 (Nat.le_refl 0) (Nat.le_refl 0) h
theorem I_X12_readLink {d : Nat} {ro : Nat → Nat} {Z : Option Value → Hp → Prop} {μ : Hp} {a0 : Nat} {x1 : Int32} (h : ∀ J, xCtx RX12 cX12_readLink 6 d 0 0 yX12_readLink.name ro J → xRet cX12_readLink none 0 0 Z J → J μ 0 0 0 [(0, .ref a0), (1, .int x1)] []) : xC d yX12_readLink cX12_readLink 6 none 0 0 [.ref a0, .int x1] μ ro Z :=
  xC_intro (own := RX12) (lv := [(0, .ref a0), (1, .int x1)]) (by decide) rfl (Nat.le_of_ble_eq_true rfl) rfl (fun J g hr => r_sub g (lv' := [(0, .ref a0), (1, .int x1)]) (⟨rfl, rfl, trivial⟩) (h J g hr))
theorem dX12_mostOf_0 : decode cX12_mostOf 0 = .ok (.iload_n 0, 1) := by decide +kernel
theorem dX12_mostOf_1 : decode cX12_mostOf 1 = .ok (.tableswitch 55 3 9 #[43, 43, 43, 47, 50, 55, 53], 43) := by decide +kernel
theorem dX12_mostOf_44 : decode cX12_mostOf 44 = .ok (.sipush 1000, 3) := by decide +kernel
theorem dX12_mostOf_47 : decode cX12_mostOf 47 = .ok (.ireturn, 1) := by decide +kernel
theorem dX12_mostOf_48 : decode cX12_mostOf 48 = .ok (.bipush 100, 2) := by decide +kernel
theorem dX12_mostOf_50 : decode cX12_mostOf 50 = .ok (.ireturn, 1) := by decide +kernel
theorem dX12_mostOf_51 : decode cX12_mostOf 51 = .ok (.bipush 20, 2) := by decide +kernel
theorem dX12_mostOf_53 : decode cX12_mostOf 53 = .ok (.ireturn, 1) := by decide +kernel
theorem dX12_mostOf_54 : decode cX12_mostOf 54 = .ok (.iconst 2, 1) := by decide +kernel
theorem dX12_mostOf_55 : decode cX12_mostOf 55 = .ok (.ireturn, 1) := by decide +kernel
theorem dX12_mostOf_56 : decode cX12_mostOf 56 = .ok (.bipush 99, 2) := by decide +kernel
theorem dX12_mostOf_58 : decode cX12_mostOf 58 = .ok (.ireturn, 1) := by decide +kernel
set_option maxHeartbeats 4000000 in
set_option maxRecDepth 100000 in
theorem B_X12_mostOf_0 {d : Nat} {ro : Nat → Nat} {J : JT} {Z : Option Value → Hp → Prop} (g : xCtx RX12 cX12_mostOf 1 d 0 0 yX12_mostOf.name ro J) (hr : xRet cX12_mostOf (some .int) 0 0 Z J) {μ : Hp} {x0 : Int32} 
    (h : (((x0).toInt < 3 ∨ 9 < (x0).toInt → Z (some (.int 99)) μ) ∧ (x0 = 3 → Z (some (.int 1000)) μ) ∧ (x0 = 4 → Z (some (.int 1000)) μ) ∧ (x0 = 5 → Z (some (.int 1000)) μ) ∧ (x0 = 6 → Z (some (.int 100)) μ) ∧ (x0 = 7 → Z (some (.int 20)) μ) ∧ (x0 = 8 → Z (some (.int 99)) μ) ∧ (x0 = 9 → Z (some (.int 2)) μ))) :
    J μ 0 0 0 [(0, .int x0)] [] := by
  refine r_iload_n g dX12_mostOf_0 rfl ?_
  rcases sw_cases (x := x0) 3 9 (by decide) (by decide) with c1 | ⟨z, hz1, hz2, c1⟩
  · refine r_tableOut g 56 dX12_mostOf_1 c1 (by decide) ?_
    replace h := h.1 c1
    refine r_bipush g 99 dX12_mostOf_56 (by decide) ?_
    exact hr.2.1 _ rfl _ _ _ _ _ _ dX12_mostOf_58 rfl (Nat.le_refl 0) (Nat.le_refl 0) h
  · have hz : z = 3 ∨ z = 4 ∨ z = 5 ∨ z = 6 ∨ z = 7 ∨ z = 8 ∨ z = 9 := by omega
    rcases hz with rfl | rfl | rfl | rfl | rfl | rfl | rfl
    · refine r_tableIn g 44 dX12_mostOf_1 (by rw [c1]; decide) (by rw [c1]; decide) (off := 43) (by rw [c1]; decide) (by decide) ?_
      replace h := h.2.1 c1
      refine r_sipush g 1000 dX12_mostOf_44 (by decide) ?_
      exact hr.2.1 _ rfl _ _ _ _ _ _ dX12_mostOf_47 rfl (Nat.le_refl 0) (Nat.le_refl 0) h
    · refine r_tableIn g 44 dX12_mostOf_1 (by rw [c1]; decide) (by rw [c1]; decide) (off := 43) (by rw [c1]; decide) (by decide) ?_
      replace h := h.2.2.1 c1
      refine r_sipush g 1000 dX12_mostOf_44 (by decide) ?_
      exact hr.2.1 _ rfl _ _ _ _ _ _ dX12_mostOf_47 rfl (Nat.le_refl 0) (Nat.le_refl 0) h
    · refine r_tableIn g 44 dX12_mostOf_1 (by rw [c1]; decide) (by rw [c1]; decide) (off := 43) (by rw [c1]; decide) (by decide) ?_
      replace h := h.2.2.2.1 c1
      refine r_sipush g 1000 dX12_mostOf_44 (by decide) ?_
      exact hr.2.1 _ rfl _ _ _ _ _ _ dX12_mostOf_47 rfl (Nat.le_refl 0) (Nat.le_refl 0) h
    · refine r_tableIn g 48 dX12_mostOf_1 (by rw [c1]; decide) (by rw [c1]; decide) (off := 47) (by rw [c1]; decide) (by decide) ?_
      replace h := h.2.2.2.2.1 c1
      refine r_bipush g 100 dX12_mostOf_48 (by decide) ?_
      exact hr.2.1 _ rfl _ _ _ _ _ _ dX12_mostOf_50 rfl (Nat.le_refl 0) (Nat.le_refl 0) h
    · refine r_tableIn g 51 dX12_mostOf_1 (by rw [c1]; decide) (by rw [c1]; decide) (off := 50) (by rw [c1]; decide) (by decide) ?_
      replace h := h.2.2.2.2.2.1 c1
      refine r_bipush g 20 dX12_mostOf_51 (by decide) ?_
      exact hr.2.1 _ rfl _ _ _ _ _ _ dX12_mostOf_53 rfl (Nat.le_refl 0) (Nat.le_refl 0) h
    · refine r_tableIn g 56 dX12_mostOf_1 (by rw [c1]; decide) (by rw [c1]; decide) (off := 55) (by rw [c1]; decide) (by decide) ?_
      replace h := h.2.2.2.2.2.2.1 c1
      refine r_bipush g 99 dX12_mostOf_56 (by decide) ?_
      exact hr.2.1 _ rfl _ _ _ _ _ _ dX12_mostOf_58 rfl (Nat.le_refl 0) (Nat.le_refl 0) h
    · refine r_tableIn g 54 dX12_mostOf_1 (by rw [c1]; decide) (by rw [c1]; decide) (off := 53) (by rw [c1]; decide) (by decide) ?_
      replace h := h.2.2.2.2.2.2.2 c1
      refine r_iconst g 2 dX12_mostOf_54 (by decide) ?_
      exact hr.2.1 _ rfl _ _ _ _ _ _ dX12_mostOf_55 rfl (Nat.le_refl 0) (Nat.le_refl 0) h
theorem I_X12_mostOf {d : Nat} {ro : Nat → Nat} {Z : Option Value → Hp → Prop} {μ : Hp} {x0 : Int32} (h : ∀ J, xCtx RX12 cX12_mostOf 1 d 0 0 yX12_mostOf.name ro J → xRet cX12_mostOf (some .int) 0 0 Z J → J μ 0 0 0 [(0, .int x0)] []) : xC d yX12_mostOf cX12_mostOf 1 (some .int) 0 0 [.int x0] μ ro Z :=
  xC_intro (own := RX12) (lv := [(0, .int x0)]) (by decide) rfl (Nat.le_of_ble_eq_true rfl) rfl (fun J g hr => r_sub g (lv' := [(0, .int x0)]) (⟨rfl, trivial⟩) (h J g hr))
theorem dX12_readTreaty_0 : decode cX12_readTreaty 0 = .ok (.bipush 11, 2) := by decide +kernel
theorem dX12_readTreaty_2 : decode cX12_readTreaty 2 = .ok (.aload_n 0, 1) := by decide +kernel
theorem dX12_readTreaty_3 : decode cX12_readTreaty 3 = .ok (.getfield 198, 3) := by decide +kernel
theorem dX12_readTreaty_6 : decode cX12_readTreaty 6 = .ok (.imul, 1) := by decide +kernel
theorem dX12_readTreaty_7 : decode cX12_readTreaty 7 = .ok (.istore_n 2, 1) := by decide +kernel
theorem dX12_readTreaty_8 : decode cX12_readTreaty 8 = .ok (.aload_n 0, 1) := by decide +kernel
theorem dX12_readTreaty_9 : decode cX12_readTreaty 9 = .ok (.getfield 26, 3) := by decide +kernel
theorem dX12_readTreaty_12 : decode cX12_readTreaty 12 = .ok (.iload_n 2, 1) := by decide +kernel
theorem dX12_readTreaty_13 : decode cX12_readTreaty 13 = .ok (.aload_n 0, 1) := by decide +kernel
theorem dX12_readTreaty_14 : decode cX12_readTreaty 14 = .ok (.invokevirtual 189, 3) := by decide +kernel
theorem dX12_readTreaty_17 : decode cX12_readTreaty 17 = .ok (.iastore, 1) := by decide +kernel
theorem dX12_readTreaty_18 : decode cX12_readTreaty 18 = .ok (.aload_n 0, 1) := by decide +kernel
theorem dX12_readTreaty_19 : decode cX12_readTreaty 19 = .ok (.getfield 26, 3) := by decide +kernel
theorem dX12_readTreaty_22 : decode cX12_readTreaty 22 = .ok (.iload_n 2, 1) := by decide +kernel
theorem dX12_readTreaty_23 : decode cX12_readTreaty 23 = .ok (.iconst 1, 1) := by decide +kernel
theorem dX12_readTreaty_24 : decode cX12_readTreaty 24 = .ok (.iadd, 1) := by decide +kernel
theorem dX12_readTreaty_25 : decode cX12_readTreaty 25 = .ok (.aload_n 0, 1) := by decide +kernel
theorem dX12_readTreaty_26 : decode cX12_readTreaty 26 = .ok (.invokevirtual 189, 3) := by decide +kernel
theorem dX12_readTreaty_29 : decode cX12_readTreaty 29 = .ok (.iastore, 1) := by decide +kernel
theorem dX12_readTreaty_30 : decode cX12_readTreaty 30 = .ok (.aload_n 0, 1) := by decide +kernel
theorem dX12_readTreaty_31 : decode cX12_readTreaty 31 = .ok (.getfield 127, 3) := by decide +kernel
theorem dX12_readTreaty_34 : decode cX12_readTreaty 34 = .ok (.iconst (-1), 1) := by decide +kernel
theorem dX12_readTreaty_35 : decode cX12_readTreaty 35 = .ok (.if_icmp .ne 28, 3) := by decide +kernel
theorem dX12_readTreaty_38 : decode cX12_readTreaty 38 = .ok (.aload_n 0, 1) := by decide +kernel
theorem dX12_readTreaty_39 : decode cX12_readTreaty 39 = .ok (.getfield 26, 3) := by decide +kernel
theorem dX12_readTreaty_42 : decode cX12_readTreaty 42 = .ok (.iload_n 2, 1) := by decide +kernel
theorem dX12_readTreaty_43 : decode cX12_readTreaty 43 = .ok (.iaload, 1) := by decide +kernel
theorem dX12_readTreaty_44 : decode cX12_readTreaty 44 = .ok (.aload_n 0, 1) := by decide +kernel
theorem dX12_readTreaty_45 : decode cX12_readTreaty 45 = .ok (.getfield 26, 3) := by decide +kernel
theorem dX12_readTreaty_48 : decode cX12_readTreaty 48 = .ok (.iload_n 2, 1) := by decide +kernel
theorem dX12_readTreaty_49 : decode cX12_readTreaty 49 = .ok (.iconst 1, 1) := by decide +kernel
theorem dX12_readTreaty_50 : decode cX12_readTreaty 50 = .ok (.iadd, 1) := by decide +kernel
theorem dX12_readTreaty_51 : decode cX12_readTreaty 51 = .ok (.iaload, 1) := by decide +kernel
theorem dX12_readTreaty_52 : decode cX12_readTreaty 52 = .ok (.if_icmp .ne 11, 3) := by decide +kernel
theorem dX12_readTreaty_55 : decode cX12_readTreaty 55 = .ok (.aload_n 0, 1) := by decide +kernel
theorem dX12_readTreaty_56 : decode cX12_readTreaty 56 = .ok (.aload_n 0, 1) := by decide +kernel
theorem dX12_readTreaty_57 : decode cX12_readTreaty 57 = .ok (.getfield 133, 3) := by decide +kernel
theorem dX12_readTreaty_60 : decode cX12_readTreaty 60 = .ok (.invokevirtual 144, 3) := by decide +kernel
theorem dX12_readTreaty_63 : decode cX12_readTreaty 63 = .ok (.aload_n 0, 1) := by decide +kernel
theorem dX12_readTreaty_64 : decode cX12_readTreaty 64 = .ok (.getfield 26, 3) := by decide +kernel
theorem dX12_readTreaty_67 : decode cX12_readTreaty 67 = .ok (.iload_n 2, 1) := by decide +kernel
theorem dX12_readTreaty_68 : decode cX12_readTreaty 68 = .ok (.iconst 2, 1) := by decide +kernel
theorem dX12_readTreaty_69 : decode cX12_readTreaty 69 = .ok (.iadd, 1) := by decide +kernel
theorem dX12_readTreaty_70 : decode cX12_readTreaty 70 = .ok (.aload_n 0, 1) := by decide +kernel
theorem dX12_readTreaty_71 : decode cX12_readTreaty 71 = .ok (.iconst 0, 1) := by decide +kernel
theorem dX12_readTreaty_72 : decode cX12_readTreaty 72 = .ok (.bipush 99, 2) := by decide +kernel
theorem dX12_readTreaty_74 : decode cX12_readTreaty 74 = .ok (.invokevirtual 185, 3) := by decide +kernel
theorem dX12_readTreaty_77 : decode cX12_readTreaty 77 = .ok (.iastore, 1) := by decide +kernel
theorem dX12_readTreaty_78 : decode cX12_readTreaty 78 = .ok (.iconst 3, 1) := by decide +kernel
theorem dX12_readTreaty_79 : decode cX12_readTreaty 79 = .ok (.istore_n 3, 1) := by decide +kernel
theorem dX12_readTreaty_80 : decode cX12_readTreaty 80 = .ok (.iload_n 3, 1) := by decide +kernel
theorem dX12_readTreaty_81 : decode cX12_readTreaty 81 = .ok (.bipush 10, 2) := by decide +kernel
theorem dX12_readTreaty_83 : decode cX12_readTreaty 83 = .ok (.if_icmp .ge 34, 3) := by decide +kernel
theorem dX12_readTreaty_86 : decode cX12_readTreaty 86 = .ok (.aload_n 0, 1) := by decide +kernel
theorem dX12_readTreaty_87 : decode cX12_readTreaty 87 = .ok (.getfield 26, 3) := by decide +kernel
theorem dX12_readTreaty_90 : decode cX12_readTreaty 90 = .ok (.iload_n 2, 1) := by decide +kernel
theorem dX12_readTreaty_91 : decode cX12_readTreaty 91 = .ok (.iload_n 3, 1) := by decide +kernel
theorem dX12_readTreaty_92 : decode cX12_readTreaty 92 = .ok (.iadd, 1) := by decide +kernel
theorem dX12_readTreaty_93 : decode cX12_readTreaty 93 = .ok (.iload_n 1, 1) := by decide +kernel
theorem dX12_readTreaty_94 : decode cX12_readTreaty 94 = .ok (.ifCond .eq 7, 3) := by decide +kernel
theorem dX12_readTreaty_97 : decode cX12_readTreaty 97 = .ok (.iconst 0, 1) := by decide +kernel
theorem dX12_readTreaty_98 : decode cX12_readTreaty 98 = .ok (.goto 12, 3) := by decide +kernel
theorem dX12_readTreaty_101 : decode cX12_readTreaty 101 = .ok (.aload_n 0, 1) := by decide +kernel
theorem dX12_readTreaty_102 : decode cX12_readTreaty 102 = .ok (.iconst 0, 1) := by decide +kernel
theorem dX12_readTreaty_103 : decode cX12_readTreaty 103 = .ok (.iload_n 3, 1) := by decide +kernel
theorem dX12_readTreaty_104 : decode cX12_readTreaty 104 = .ok (.invokestatic 201, 3) := by decide +kernel
theorem dX12_readTreaty_107 : decode cX12_readTreaty 107 = .ok (.invokevirtual 185, 3) := by decide +kernel
theorem dX12_readTreaty_110 : decode cX12_readTreaty 110 = .ok (.iastore, 1) := by decide +kernel
theorem dX12_readTreaty_111 : decode cX12_readTreaty 111 = .ok (.iinc 3 1, 3) := by decide +kernel
theorem dX12_readTreaty_114 : decode cX12_readTreaty 114 = .ok (.goto (-34), 3) := by decide +kernel
theorem dX12_readTreaty_117 : decode cX12_readTreaty 117 = .ok (.aload_n 0, 1) := by decide +kernel
theorem dX12_readTreaty_118 : decode cX12_readTreaty 118 = .ok (.getfield 26, 3) := by decide +kernel
theorem dX12_readTreaty_121 : decode cX12_readTreaty 121 = .ok (.iload_n 2, 1) := by decide +kernel
theorem dX12_readTreaty_122 : decode cX12_readTreaty 122 = .ok (.bipush 10, 2) := by decide +kernel
theorem dX12_readTreaty_124 : decode cX12_readTreaty 124 = .ok (.iadd, 1) := by decide +kernel
theorem dX12_readTreaty_125 : decode cX12_readTreaty 125 = .ok (.iload_n 1, 1) := by decide +kernel
theorem dX12_readTreaty_126 : decode cX12_readTreaty 126 = .ok (.ifCond .eq 7, 3) := by decide +kernel
theorem dX12_readTreaty_129 : decode cX12_readTreaty 129 = .ok (.iconst 1, 1) := by decide +kernel
theorem dX12_readTreaty_130 : decode cX12_readTreaty 130 = .ok (.goto 4, 3) := by decide +kernel
theorem dX12_readTreaty_133 : decode cX12_readTreaty 133 = .ok (.iconst 0, 1) := by decide +kernel
theorem dX12_readTreaty_134 : decode cX12_readTreaty 134 = .ok (.iastore, 1) := by decide +kernel
theorem dX12_readTreaty_135 : decode cX12_readTreaty 135 = .ok (.aload_n 0, 1) := by decide +kernel
theorem dX12_readTreaty_136 : decode cX12_readTreaty 136 = .ok (.dup, 1) := by decide +kernel
theorem dX12_readTreaty_137 : decode cX12_readTreaty 137 = .ok (.getfield 198, 3) := by decide +kernel
theorem dX12_readTreaty_140 : decode cX12_readTreaty 140 = .ok (.iconst 1, 1) := by decide +kernel
theorem dX12_readTreaty_141 : decode cX12_readTreaty 141 = .ok (.iadd, 1) := by decide +kernel
theorem dX12_readTreaty_142 : decode cX12_readTreaty 142 = .ok (.putfield 198, 3) := by decide +kernel
theorem dX12_readTreaty_145 : decode cX12_readTreaty 145 = .ok (.return_, 1) := by decide +kernel
set_option maxHeartbeats 4000000 in
set_option maxRecDepth 100000 in
theorem B_X12_readTreaty_0 {d : Nat} {ro : Nat → Nat} {J : JT} {Z : Option Value → Hp → Prop} (g : xCtx RX12 cX12_readTreaty 4 d 0 0 yX12_readTreaty.name ro J) (hr : xRet cX12_readTreaty none 0 0 Z J) {μ : Hp} {a0 : Nat} {x1 : Int32} {a0_treatyRead : Nat} (hs_a0 : hS μ a0 = some (15, 65)) (hr_a0_treatyRead : hR μ a0 11 = some a0_treatyRead)
    (h : xCall d yX12_aLand cX12_aLand 2 (some .int) [.ref a0] μ ro (fun r1 μ2 => ∃ y3 : Int32, r1 = some (.int y3) ∧ ∃ N4 : Nat, hS μ2 a0_treatyRead = some (0, N4) ∧ vp_in (11 * (hI μ a0 23)) N4 ∧ hS μ2 a0 = some (15, 65) ∧ ∃ treatyRead_6 : Nat, hR μ2 a0 11 = some treatyRead_6 ∧ xCall d yX12_aLand cX12_aLand 2 (some .int) [.ref a0] (wI μ2 a0_treatyRead ((11 * (hI μ a0 23)).toNatClampNeg) y3) ro (fun r7 μ8 => ∃ y9 : Int32, r7 = some (.int y9) ∧ ∃ N10 : Nat, hS μ8 treatyRead_6 = some (0, N10) ∧ vp_in ((11 * (hI μ a0 23)) + 1) N10 ∧ hS μ8 a0 = some (15, 65) ∧ (∀ v12 : Int32, v12 = (hI (wI μ8 treatyRead_6 (((11 * (hI μ a0 23)) + 1).toNatClampNeg) y9) a0 4) → ((¬ v12 = (-1) → ∃ treatyRead_14 : Nat, hR μ8 a0 11 = some treatyRead_14 ∧ xCall d yX12_number cX12_number 5 (some .int) [.ref a0, .int 0, .int 99] (wI μ8 treatyRead_6 (((11 * (hI μ a0 23)) + 1).toNatClampNeg) y9) ro (fun r15 μ16 => ∃ y17 : Int32, r15 = some (.int y17) ∧ ∃ N18 : Nat, hS μ16 treatyRead_14 = some (0, N18) ∧ vp_in ((11 * (hI μ a0 23)) + 2) N18 ∧ J (wI μ16 treatyRead_14 (((11 * (hI μ a0 23)) + 2).toNatClampNeg) y17) 0 0 80 [(0, .ref a0), (1, .int x1), (2, .int (11 * (hI μ a0 23))), (3, .int 3)] [])) ∧ (v12 = (-1) → ∃ treatyRead_20 : Nat, hR μ8 a0 11 = some treatyRead_20 ∧ ∃ N21 : Nat, hS μ8 treatyRead_20 = some (0, N21) ∧ vp_in (11 * (hI μ a0 23)) N21 ∧ (∀ v23 : Int32, v23 = (hI (wI μ8 treatyRead_6 (((11 * (hI μ a0 23)) + 1).toNatClampNeg) y9) treatyRead_20 ((11 * (hI μ a0 23)).toNatClampNeg)) → vp_in ((11 * (hI μ a0 23)) + 1) N21 ∧ (∀ v25 : Int32, v25 = (hI (wI μ8 treatyRead_6 (((11 * (hI μ a0 23)) + 1).toNatClampNeg) y9) treatyRead_20 (((11 * (hI μ a0 23)) + 1).toNatClampNeg)) → ((¬ v23 = v25 → xCall d yX12_number cX12_number 5 (some .int) [.ref a0, .int 0, .int 99] (wI μ8 treatyRead_6 (((11 * (hI μ a0 23)) + 1).toNatClampNeg) y9) ro (fun r27 μ28 => ∃ y29 : Int32, r27 = some (.int y29) ∧ ∃ N30 : Nat, hS μ28 treatyRead_20 = some (0, N30) ∧ vp_in ((11 * (hI μ a0 23)) + 2) N30 ∧ J (wI μ28 treatyRead_20 (((11 * (hI μ a0 23)) + 2).toNatClampNeg) y29) 0 0 80 [(0, .ref a0), (1, .int x1), (2, .int (11 * (hI μ a0 23))), (3, .int 3)] [])) ∧ (v23 = v25 → (∀ v32 : Int32, v32 = (hI (wI μ8 treatyRead_6 (((11 * (hI μ a0 23)) + 1).toNatClampNeg) y9) a0 5) → xCall d yX12_fails cX12_fails 2 none [.ref a0, .int v32] (wI μ8 treatyRead_6 (((11 * (hI μ a0 23)) + 1).toNatClampNeg) y9) ro (fun r33 μ34 => r33 = none ∧ hS μ34 a0 = some (15, 65) ∧ ∃ treatyRead_35 : Nat, hR μ34 a0 11 = some treatyRead_35 ∧ xCall d yX12_number cX12_number 5 (some .int) [.ref a0, .int 0, .int 99] μ34 ro (fun r36 μ37 => ∃ y38 : Int32, r36 = some (.int y38) ∧ ∃ N39 : Nat, hS μ37 treatyRead_35 = some (0, N39) ∧ vp_in ((11 * (hI μ a0 23)) + 2) N39 ∧ J (wI μ37 treatyRead_35 (((11 * (hI μ a0 23)) + 2).toNatClampNeg) y38) 0 0 80 [(0, .ref a0), (1, .int x1), (2, .int (11 * (hI μ a0 23))), (3, .int 3)] []))))))))))))) :
    J μ 0 0 0 [(0, .ref a0), (1, .int x1)] [] := by
  refine r_bipush g 11 dX12_readTreaty_0 (by decide) ?_
  refine r_aload_n g dX12_readTreaty_2 rfl ?_
  refine r_getI g fX12_198 rfl hs_a0 dX12_readTreaty_3 ?_
  refine r_imul g dX12_readTreaty_6 ?_
  refine r_istore_n g [(2, .int (11 * (hI μ a0 23))), (0, .ref a0), (1, .int x1)] dX12_readTreaty_7 (by decide) rfl ?_
  refine r_aload_n g dX12_readTreaty_8 rfl ?_
  refine r_getR g fX12_26 rfl hs_a0 hr_a0_treatyRead dX12_readTreaty_9 ?_
  refine r_iload_n g dX12_readTreaty_12 rfl ?_
  refine r_aload_n g dX12_readTreaty_13 rfl ?_
  obtain ⟨d1, Z1, hc1, hd1, h1⟩ := h
  refine r_callV (st := [.int (11 * (hI μ a0 23)), .ref a0_treatyRead]) (As := []) g sX12_189 iX12_aLand eX12_aLand rfl hs_a0 rfl (Nat.le_of_ble_eq_true rfl) dX12_readTreaty_14 hd1 (Nat.le_refl 0) (Nat.le_refl 0) hc1 (fun r1 μ2 hZ1 => ?_)
  replace h := h1 _ _ hZ1
  clear h1 hc1 hd1 hZ1 Z1 d1
  obtain ⟨y3, rfl, h⟩ := h
  obtain ⟨N4, hs_a0_treatyRead, h⟩ := h
  obtain ⟨hi5, h⟩ := h
  refine r_iastore g hs_a0_treatyRead hi5 dX12_readTreaty_17 ?_
  refine r_aload_n g dX12_readTreaty_18 rfl ?_
  obtain ⟨hs_a0_, h⟩ := h
  obtain ⟨treatyRead_6, hr_treatyRead_6, h⟩ := h
  refine r_getR g fX12_26 rfl hs_a0_ hr_treatyRead_6 dX12_readTreaty_19 ?_
  refine r_iload_n g dX12_readTreaty_22 rfl ?_
  refine r_iconst g 1 dX12_readTreaty_23 (by decide) ?_
  refine r_iadd g dX12_readTreaty_24 ?_
  refine r_aload_n g dX12_readTreaty_25 rfl ?_
  obtain ⟨d1, Z1, hc1, hd1, h1⟩ := h
  refine r_callV (st := [.int ((11 * (hI μ a0 23)) + 1), .ref treatyRead_6]) (As := []) g sX12_189 iX12_aLand eX12_aLand rfl hs_a0_ rfl (Nat.le_of_ble_eq_true rfl) dX12_readTreaty_26 hd1 (Nat.le_refl 0) (Nat.le_refl 0) hc1 (fun r7 μ8 hZ1 => ?_)
  replace h := h1 _ _ hZ1
  clear h1 hc1 hd1 hZ1 Z1 d1
  obtain ⟨y9, rfl, h⟩ := h
  obtain ⟨N10, hs_treatyRead_6, h⟩ := h
  obtain ⟨hi11, h⟩ := h
  refine r_iastore g hs_treatyRead_6 hi11 dX12_readTreaty_29 ?_
  refine r_aload_n g dX12_readTreaty_30 rfl ?_
  obtain ⟨hs_a0__, h⟩ := h
  refine r_getI g fX12_127 rfl hs_a0__ dX12_readTreaty_31 ?_
  refine r_nmI (fun v12 ev12 => ?_)
  replace h := h v12 ev12
  refine r_iconst g (-1) dX12_readTreaty_34 (by decide) ?_
  refine r_icmp_ne g 63 dX12_readTreaty_35 (by decide) (fun c13 => ?_) (fun c13 => ?_)
  · replace h := h.1 c13
    refine r_aload_n g dX12_readTreaty_63 rfl ?_
    obtain ⟨treatyRead_14, hr_treatyRead_14, h⟩ := h
    refine r_getR g fX12_26 rfl hs_a0__ hr_treatyRead_14 dX12_readTreaty_64 ?_
    refine r_iload_n g dX12_readTreaty_67 rfl ?_
    refine r_iconst g 2 dX12_readTreaty_68 (by decide) ?_
    refine r_iadd g dX12_readTreaty_69 ?_
    refine r_aload_n g dX12_readTreaty_70 rfl ?_
    refine r_iconst g 0 dX12_readTreaty_71 (by decide) ?_
    refine r_bipush g 99 dX12_readTreaty_72 (by decide) ?_
    obtain ⟨d1, Z1, hc1, hd1, h1⟩ := h
    refine r_callV (st := [.int ((11 * (hI μ a0 23)) + 2), .ref treatyRead_14]) (As := [.int 0, .int 99]) g sX12_185 iX12_number eX12_number rfl hs_a0__ rfl (Nat.le_of_ble_eq_true rfl) dX12_readTreaty_74 hd1 (Nat.le_refl 0) (Nat.le_refl 0) hc1 (fun r15 μ16 hZ1 => ?_)
    replace h := h1 _ _ hZ1
    clear h1 hc1 hd1 hZ1 Z1 d1
    obtain ⟨y17, rfl, h⟩ := h
    obtain ⟨N18, hs_treatyRead_14, h⟩ := h
    obtain ⟨hi19, h⟩ := h
    refine r_iastore g hs_treatyRead_14 hi19 dX12_readTreaty_77 ?_
    refine r_iconst g 3 dX12_readTreaty_78 (by decide) ?_
    refine r_istore_n g [(3, .int 3), (2, .int (11 * (hI μ a0 23))), (0, .ref a0), (1, .int x1)] dX12_readTreaty_79 (by decide) rfl ?_
    refine r_sub g (lv' := [(0, .ref a0), (1, .int x1), (2, .int (11 * (hI μ a0 23))), (3, .int 3)]) (⟨rfl, rfl, rfl, rfl, trivial⟩) ?_
    exact h
  · replace h := h.2 c13
    refine r_aload_n g dX12_readTreaty_38 rfl ?_
    obtain ⟨treatyRead_20, hr_treatyRead_20, h⟩ := h
    refine r_getR g fX12_26 rfl hs_a0__ hr_treatyRead_20 dX12_readTreaty_39 ?_
    refine r_iload_n g dX12_readTreaty_42 rfl ?_
    obtain ⟨N21, hs_treatyRead_20, h⟩ := h
    obtain ⟨hi22, h⟩ := h
    refine r_iaload g hs_treatyRead_20 hi22 dX12_readTreaty_43 ?_
    refine r_nmI (fun v23 ev23 => ?_)
    replace h := h v23 ev23
    refine r_aload_n g dX12_readTreaty_44 rfl ?_
    refine r_getR g fX12_26 rfl hs_a0__ hr_treatyRead_20 dX12_readTreaty_45 ?_
    refine r_iload_n g dX12_readTreaty_48 rfl ?_
    refine r_iconst g 1 dX12_readTreaty_49 (by decide) ?_
    refine r_iadd g dX12_readTreaty_50 ?_
    obtain ⟨hi24, h⟩ := h
    refine r_iaload g hs_treatyRead_20 hi24 dX12_readTreaty_51 ?_
    refine r_nmI (fun v25 ev25 => ?_)
    replace h := h v25 ev25
    refine r_icmp_ne g 63 dX12_readTreaty_52 (by decide) (fun c26 => ?_) (fun c26 => ?_)
    · replace h := h.1 c26
      refine r_aload_n g dX12_readTreaty_63 rfl ?_
      refine r_getR g fX12_26 rfl hs_a0__ hr_treatyRead_20 dX12_readTreaty_64 ?_
      refine r_iload_n g dX12_readTreaty_67 rfl ?_
      refine r_iconst g 2 dX12_readTreaty_68 (by decide) ?_
      refine r_iadd g dX12_readTreaty_69 ?_
      refine r_aload_n g dX12_readTreaty_70 rfl ?_
      refine r_iconst g 0 dX12_readTreaty_71 (by decide) ?_
      refine r_bipush g 99 dX12_readTreaty_72 (by decide) ?_
      obtain ⟨d1, Z1, hc1, hd1, h1⟩ := h
      refine r_callV (st := [.int ((11 * (hI μ a0 23)) + 2), .ref treatyRead_20]) (As := [.int 0, .int 99]) g sX12_185 iX12_number eX12_number rfl hs_a0__ rfl (Nat.le_of_ble_eq_true rfl) dX12_readTreaty_74 hd1 (Nat.le_refl 0) (Nat.le_refl 0) hc1 (fun r27 μ28 hZ1 => ?_)
      replace h := h1 _ _ hZ1
      clear h1 hc1 hd1 hZ1 Z1 d1
      obtain ⟨y29, rfl, h⟩ := h
      obtain ⟨N30, hs_treatyRead_20_, h⟩ := h
      obtain ⟨hi31, h⟩ := h
      refine r_iastore g hs_treatyRead_20_ hi31 dX12_readTreaty_77 ?_
      refine r_iconst g 3 dX12_readTreaty_78 (by decide) ?_
      refine r_istore_n g [(3, .int 3), (2, .int (11 * (hI μ a0 23))), (0, .ref a0), (1, .int x1)] dX12_readTreaty_79 (by decide) rfl ?_
      refine r_sub g (lv' := [(0, .ref a0), (1, .int x1), (2, .int (11 * (hI μ a0 23))), (3, .int 3)]) (⟨rfl, rfl, rfl, rfl, trivial⟩) ?_
      exact h
    · replace h := h.2 c26
      refine r_aload_n g dX12_readTreaty_55 rfl ?_
      refine r_aload_n g dX12_readTreaty_56 rfl ?_
      refine r_getI g fX12_133 rfl hs_a0__ dX12_readTreaty_57 ?_
      refine r_nmI (fun v32 ev32 => ?_)
      replace h := h v32 ev32
      obtain ⟨d1, Z1, hc1, hd1, h1⟩ := h
      refine r_callV (st := []) (As := [.int v32]) g sX12_144 iX12_fails eX12_fails rfl hs_a0__ rfl (Nat.le_of_ble_eq_true rfl) dX12_readTreaty_60 hd1 (Nat.le_refl 0) (Nat.le_refl 0) hc1 (fun r33 μ34 hZ1 => ?_)
      replace h := h1 _ _ hZ1
      clear h1 hc1 hd1 hZ1 Z1 d1
      obtain ⟨rfl, h⟩ := h
      refine r_aload_n g dX12_readTreaty_63 rfl ?_
      obtain ⟨hs_a0___, h⟩ := h
      obtain ⟨treatyRead_35, hr_treatyRead_35, h⟩ := h
      refine r_getR g fX12_26 rfl hs_a0___ hr_treatyRead_35 dX12_readTreaty_64 ?_
      refine r_iload_n g dX12_readTreaty_67 rfl ?_
      refine r_iconst g 2 dX12_readTreaty_68 (by decide) ?_
      refine r_iadd g dX12_readTreaty_69 ?_
      refine r_aload_n g dX12_readTreaty_70 rfl ?_
      refine r_iconst g 0 dX12_readTreaty_71 (by decide) ?_
      refine r_bipush g 99 dX12_readTreaty_72 (by decide) ?_
      obtain ⟨d1, Z1, hc1, hd1, h1⟩ := h
      refine r_callV (st := [.int ((11 * (hI μ a0 23)) + 2), .ref treatyRead_35]) (As := [.int 0, .int 99]) g sX12_185 iX12_number eX12_number rfl hs_a0___ rfl (Nat.le_of_ble_eq_true rfl) dX12_readTreaty_74 hd1 (Nat.le_refl 0) (Nat.le_refl 0) hc1 (fun r36 μ37 hZ1 => ?_)
      replace h := h1 _ _ hZ1
      clear h1 hc1 hd1 hZ1 Z1 d1
      obtain ⟨y38, rfl, h⟩ := h
      obtain ⟨N39, hs_treatyRead_35, h⟩ := h
      obtain ⟨hi40, h⟩ := h
      refine r_iastore g hs_treatyRead_35 hi40 dX12_readTreaty_77 ?_
      refine r_iconst g 3 dX12_readTreaty_78 (by decide) ?_
      refine r_istore_n g [(3, .int 3), (2, .int (11 * (hI μ a0 23))), (0, .ref a0), (1, .int x1)] dX12_readTreaty_79 (by decide) rfl ?_
      refine r_sub g (lv' := [(0, .ref a0), (1, .int x1), (2, .int (11 * (hI μ a0 23))), (3, .int 3)]) (⟨rfl, rfl, rfl, rfl, trivial⟩) ?_
      exact h
set_option maxHeartbeats 4000000 in
set_option maxRecDepth 100000 in
theorem B_X12_readTreaty_80 {d : Nat} {ro : Nat → Nat} {J : JT} {Z : Option Value → Hp → Prop} (g : xCtx RX12 cX12_readTreaty 4 d 0 0 yX12_readTreaty.name ro J) (hr : xRet cX12_readTreaty none 0 0 Z J) {μ : Hp} {a0 : Nat} {x1 : Int32} {x2 : Int32} {x3 : Int32} {a0_treatyRead : Nat} {N_a0_treatyRead : Nat} (hs_a0 : hS μ a0 = some (15, 65)) (hr_a0_treatyRead : hR μ a0 11 = some a0_treatyRead) (hs_a0_treatyRead : hS μ a0_treatyRead = some (0, N_a0_treatyRead))
    (h : ((10 ≤ x3 → ((x1 = 0 → vp_in (x2 + 10) N_a0_treatyRead ∧ (∀ v4 : Int32, v4 = ((hI (wI μ a0_treatyRead ((x2 + 10).toNatClampNeg) 0) a0 23) + 1) → Z none (wI (wI μ a0_treatyRead ((x2 + 10).toNatClampNeg) 0) a0 23 v4))) ∧ (¬ x1 = 0 → vp_in (x2 + 10) N_a0_treatyRead ∧ (∀ v6 : Int32, v6 = ((hI (wI μ a0_treatyRead ((x2 + 10).toNatClampNeg) 1) a0 23) + 1) → Z none (wI (wI μ a0_treatyRead ((x2 + 10).toNatClampNeg) 1) a0 23 v6))))) ∧ (¬ 10 ≤ x3 → ((x1 = 0 → xCall d yX12_mostOf cX12_mostOf 1 (some .int) [.int x3] μ ro (fun r8 μ9 => ∃ y10 : Int32, r8 = some (.int y10) ∧ hS μ9 a0 = some (15, 65) ∧ xCall d yX12_number cX12_number 5 (some .int) [.ref a0, .int 0, .int y10] μ9 ro (fun r11 μ12 => ∃ y13 : Int32, r11 = some (.int y13) ∧ ∃ N14 : Nat, hS μ12 a0_treatyRead = some (0, N14) ∧ vp_in (x2 + x3) N14 ∧ J (wI μ12 a0_treatyRead ((x2 + x3).toNatClampNeg) y13) 0 0 80 [(0, .ref a0), (1, .int x1), (2, .int x2), (3, .int (x3 + 1))] []))) ∧ (¬ x1 = 0 → vp_in (x2 + x3) N_a0_treatyRead ∧ J (wI μ a0_treatyRead ((x2 + x3).toNatClampNeg) 0) 0 0 80 [(0, .ref a0), (1, .int x1), (2, .int x2), (3, .int (x3 + 1))] []))))) :
    J μ 0 0 80 [(0, .ref a0), (1, .int x1), (2, .int x2), (3, .int x3)] [] := by
  refine r_iload_n g dX12_readTreaty_80 rfl ?_
  refine r_bipush g 10 dX12_readTreaty_81 (by decide) ?_
  refine r_icmp_ge g 117 dX12_readTreaty_83 (by decide) (fun c1 => ?_) (fun c1 => ?_)
  · replace h := h.1 c1
    refine r_aload_n g dX12_readTreaty_117 rfl ?_
    refine r_getR g fX12_26 rfl hs_a0 hr_a0_treatyRead dX12_readTreaty_118 ?_
    refine r_iload_n g dX12_readTreaty_121 rfl ?_
    refine r_bipush g 10 dX12_readTreaty_122 (by decide) ?_
    refine r_iadd g dX12_readTreaty_124 ?_
    refine r_iload_n g dX12_readTreaty_125 rfl ?_
    refine r_if_eq g 133 dX12_readTreaty_126 (by decide) (fun c2 => ?_) (fun c2 => ?_)
    · replace h := h.1 c2
      refine r_iconst g 0 dX12_readTreaty_133 (by decide) ?_
      obtain ⟨hi3, h⟩ := h
      refine r_iastore g hs_a0_treatyRead hi3 dX12_readTreaty_134 ?_
      refine r_aload_n g dX12_readTreaty_135 rfl ?_
      refine r_dup g dX12_readTreaty_136 rfl ?_
      refine r_getI g fX12_198 rfl hs_a0 dX12_readTreaty_137 ?_
      refine r_iconst g 1 dX12_readTreaty_140 (by decide) ?_
      refine r_iadd g dX12_readTreaty_141 ?_
      refine r_nmI (fun v4 ev4 => ?_)
      replace h := h v4 ev4
      refine r_putI g fX12_198 rfl hs_a0 rfl rfl dX12_readTreaty_142 ?_
      exact hr.1 rfl _ _ _ _ _ dX12_readTreaty_145 (Nat.le_refl 0) (Nat.le_refl 0) h
    · replace h := h.2 c2
      refine r_iconst g 1 dX12_readTreaty_129 (by decide) ?_
      refine r_goto g 134 dX12_readTreaty_130 (by decide) ?_
      obtain ⟨hi5, h⟩ := h
      refine r_iastore g hs_a0_treatyRead hi5 dX12_readTreaty_134 ?_
      refine r_aload_n g dX12_readTreaty_135 rfl ?_
      refine r_dup g dX12_readTreaty_136 rfl ?_
      refine r_getI g fX12_198 rfl hs_a0 dX12_readTreaty_137 ?_
      refine r_iconst g 1 dX12_readTreaty_140 (by decide) ?_
      refine r_iadd g dX12_readTreaty_141 ?_
      refine r_nmI (fun v6 ev6 => ?_)
      replace h := h v6 ev6
      refine r_putI g fX12_198 rfl hs_a0 rfl rfl dX12_readTreaty_142 ?_
      exact hr.1 rfl _ _ _ _ _ dX12_readTreaty_145 (Nat.le_refl 0) (Nat.le_refl 0) h
  · replace h := h.2 c1
    refine r_aload_n g dX12_readTreaty_86 rfl ?_
    refine r_getR g fX12_26 rfl hs_a0 hr_a0_treatyRead dX12_readTreaty_87 ?_
    refine r_iload_n g dX12_readTreaty_90 rfl ?_
    refine r_iload_n g dX12_readTreaty_91 rfl ?_
    refine r_iadd g dX12_readTreaty_92 ?_
    refine r_iload_n g dX12_readTreaty_93 rfl ?_
    refine r_if_eq g 101 dX12_readTreaty_94 (by decide) (fun c7 => ?_) (fun c7 => ?_)
    · replace h := h.1 c7
      refine r_aload_n g dX12_readTreaty_101 rfl ?_
      refine r_iconst g 0 dX12_readTreaty_102 (by decide) ?_
      refine r_iload_n g dX12_readTreaty_103 rfl ?_
      obtain ⟨d1, Z1, hc1, hd1, h1⟩ := h
      refine r_callS (st := [.int 0, .ref a0, .int (x2 + x3), .ref a0_treatyRead]) (As := [.int x3]) g sX12_201 iX12_mostOf rfl (Nat.le_of_ble_eq_true rfl) dX12_readTreaty_104 hd1 (Nat.le_refl 0) (Nat.le_refl 0) hc1 (fun r8 μ9 hZ1 => ?_)
      replace h := h1 _ _ hZ1
      clear h1 hc1 hd1 hZ1 Z1 d1
      obtain ⟨y10, rfl, h⟩ := h
      obtain ⟨hs_a0__, h⟩ := h
      obtain ⟨d1, Z1, hc1, hd1, h1⟩ := h
      refine r_callV (st := [.int (x2 + x3), .ref a0_treatyRead]) (As := [.int 0, .int y10]) g sX12_185 iX12_number eX12_number rfl hs_a0__ rfl (Nat.le_of_ble_eq_true rfl) dX12_readTreaty_107 hd1 (Nat.le_refl 0) (Nat.le_refl 0) hc1 (fun r11 μ12 hZ1 => ?_)
      replace h := h1 _ _ hZ1
      clear h1 hc1 hd1 hZ1 Z1 d1
      obtain ⟨y13, rfl, h⟩ := h
      obtain ⟨N14, hs_a0_treatyRead__, h⟩ := h
      obtain ⟨hi15, h⟩ := h
      refine r_iastore g hs_a0_treatyRead__ hi15 dX12_readTreaty_110 ?_
      refine r_iinc g (x3 + 1) [(3, .int (x3 + 1)), (0, .ref a0), (1, .int x1), (2, .int x2)] dX12_readTreaty_111 rfl rfl (by decide) rfl ?_
      refine r_goto g 80 dX12_readTreaty_114 (by decide) ?_
      refine r_sub g (lv' := [(0, .ref a0), (1, .int x1), (2, .int x2), (3, .int (x3 + 1))]) (⟨rfl, rfl, rfl, rfl, trivial⟩) ?_
      exact h
    · replace h := h.2 c7
      refine r_iconst g 0 dX12_readTreaty_97 (by decide) ?_
      refine r_goto g 110 dX12_readTreaty_98 (by decide) ?_
      obtain ⟨hi16, h⟩ := h
      refine r_iastore g hs_a0_treatyRead hi16 dX12_readTreaty_110 ?_
      refine r_iinc g (x3 + 1) [(3, .int (x3 + 1)), (0, .ref a0), (1, .int x1), (2, .int x2)] dX12_readTreaty_111 rfl rfl (by decide) rfl ?_
      refine r_goto g 80 dX12_readTreaty_114 (by decide) ?_
      refine r_sub g (lv' := [(0, .ref a0), (1, .int x1), (2, .int x2), (3, .int (x3 + 1))]) (⟨rfl, rfl, rfl, rfl, trivial⟩) ?_
      exact h
theorem I_X12_readTreaty {d : Nat} {ro : Nat → Nat} {Z : Option Value → Hp → Prop} {μ : Hp} {a0 : Nat} {x1 : Int32} (h : ∀ J, xCtx RX12 cX12_readTreaty 4 d 0 0 yX12_readTreaty.name ro J → xRet cX12_readTreaty none 0 0 Z J → J μ 0 0 0 [(0, .ref a0), (1, .int x1)] []) : xC d yX12_readTreaty cX12_readTreaty 4 none 0 0 [.ref a0, .int x1] μ ro Z :=
  xC_intro (own := RX12) (lv := [(0, .ref a0), (1, .int x1)]) (by decide) rfl (Nat.le_of_ble_eq_true rfl) rfl (fun J g hr => r_sub g (lv' := [(0, .ref a0), (1, .int x1)]) (⟨rfl, rfl, trivial⟩) (h J g hr))
theorem dX12_readLine_0 : decode cX12_readLine 0 = .ok (.aload_n 0, 1) := by decide +kernel
theorem dX12_readLine_1 : decode cX12_readLine 1 = .ok (.invokevirtual 165, 3) := by decide +kernel
theorem dX12_readLine_4 : decode cX12_readLine 4 = .ok (.aload_n 0, 1) := by decide +kernel
theorem dX12_readLine_5 : decode cX12_readLine 5 = .ok (.getfield 127, 3) := by decide +kernel
theorem dX12_readLine_8 : decode cX12_readLine 8 = .ok (.iconst (-1), 1) := by decide +kernel
theorem dX12_readLine_9 : decode cX12_readLine 9 = .ok (.if_icmp .ne 13, 3) := by decide +kernel
theorem dX12_readLine_12 : decode cX12_readLine 12 = .ok (.aload_n 0, 1) := by decide +kernel
theorem dX12_readLine_13 : decode cX12_readLine 13 = .ok (.getfield 136, 3) := by decide +kernel
theorem dX12_readLine_16 : decode cX12_readLine 16 = .ok (.invokestatic 167, 3) := by decide +kernel
theorem dX12_readLine_19 : decode cX12_readLine 19 = .ok (.goto 4, 3) := by decide +kernel
theorem dX12_readLine_22 : decode cX12_readLine 22 = .ok (.iconst (-1), 1) := by decide +kernel
theorem dX12_readLine_23 : decode cX12_readLine 23 = .ok (.istore_n 2, 1) := by decide +kernel
theorem dX12_readLine_24 : decode cX12_readLine 24 = .ok (.iload_n 2, 1) := by decide +kernel
theorem dX12_readLine_25 : decode cX12_readLine 25 = .ok (.i2l, 1) := by decide +kernel
theorem dX12_readLine_26 : decode cX12_readLine 26 = .ok (.lconst 0, 1) := by decide +kernel
theorem dX12_readLine_27 : decode cX12_readLine 27 = .ok (.ldc2_w 204, 3) := by decide +kernel
theorem dX12_readLine_30 : decode cX12_readLine 30 = .ok (.invokestatic 161, 3) := by decide +kernel
theorem dX12_readLine_33 : decode cX12_readLine 33 = .ok (.ifCond .eq 82, 3) := by decide +kernel
theorem dX12_readLine_36 : decode cX12_readLine 36 = .ok (.iload_n 2, 1) := by decide +kernel
theorem dX12_readLine_37 : decode cX12_readLine 37 = .ok (.ifCond .ne 12, 3) := by decide +kernel
theorem dX12_readLine_40 : decode cX12_readLine 40 = .ok (.aload_n 0, 1) := by decide +kernel
theorem dX12_readLine_41 : decode cX12_readLine 41 = .ok (.getfield 171, 3) := by decide +kernel
theorem dX12_readLine_44 : decode cX12_readLine 44 = .ok (.bipush 6, 2) := by decide +kernel
theorem dX12_readLine_46 : decode cX12_readLine 46 = .ok (.if_icmp .eq 69, 3) := by decide +kernel
theorem dX12_readLine_49 : decode cX12_readLine 49 = .ok (.iload_n 2, 1) := by decide +kernel
theorem dX12_readLine_50 : decode cX12_readLine 50 = .ok (.iconst 1, 1) := by decide +kernel
theorem dX12_readLine_51 : decode cX12_readLine 51 = .ok (.if_icmp .ne 12, 3) := by decide +kernel
theorem dX12_readLine_54 : decode cX12_readLine 54 = .ok (.aload_n 0, 1) := by decide +kernel
theorem dX12_readLine_55 : decode cX12_readLine 55 = .ok (.getfield 178, 3) := by decide +kernel
theorem dX12_readLine_58 : decode cX12_readLine 58 = .ok (.bipush 8, 2) := by decide +kernel
theorem dX12_readLine_60 : decode cX12_readLine 60 = .ok (.if_icmp .eq 55, 3) := by decide +kernel
theorem dX12_readLine_63 : decode cX12_readLine 63 = .ok (.iload_n 2, 1) := by decide +kernel
theorem dX12_readLine_64 : decode cX12_readLine 64 = .ok (.iconst 2, 1) := by decide +kernel
theorem dX12_readLine_65 : decode cX12_readLine 65 = .ok (.if_icmp .eq 8, 3) := by decide +kernel
theorem dX12_readLine_68 : decode cX12_readLine 68 = .ok (.iload_n 2, 1) := by decide +kernel
theorem dX12_readLine_69 : decode cX12_readLine 69 = .ok (.iconst 3, 1) := by decide +kernel
theorem dX12_readLine_70 : decode cX12_readLine 70 = .ok (.if_icmp .ne 12, 3) := by decide +kernel
theorem dX12_readLine_73 : decode cX12_readLine 73 = .ok (.aload_n 0, 1) := by decide +kernel
theorem dX12_readLine_74 : decode cX12_readLine 74 = .ok (.getfield 195, 3) := by decide +kernel
theorem dX12_readLine_77 : decode cX12_readLine 77 = .ok (.bipush 16, 2) := by decide +kernel
theorem dX12_readLine_79 : decode cX12_readLine 79 = .ok (.if_icmp .eq 36, 3) := by decide +kernel
theorem dX12_readLine_82 : decode cX12_readLine 82 = .ok (.iload_n 2, 1) := by decide +kernel
theorem dX12_readLine_83 : decode cX12_readLine 83 = .ok (.iconst 4, 1) := by decide +kernel
theorem dX12_readLine_84 : decode cX12_readLine 84 = .ok (.if_icmp .eq 8, 3) := by decide +kernel
theorem dX12_readLine_87 : decode cX12_readLine 87 = .ok (.iload_n 2, 1) := by decide +kernel
theorem dX12_readLine_88 : decode cX12_readLine 88 = .ok (.iconst 5, 1) := by decide +kernel
theorem dX12_readLine_89 : decode cX12_readLine 89 = .ok (.if_icmp .ne 12, 3) := by decide +kernel
theorem dX12_readLine_92 : decode cX12_readLine 92 = .ok (.aload_n 0, 1) := by decide +kernel
theorem dX12_readLine_93 : decode cX12_readLine 93 = .ok (.getfield 198, 3) := by decide +kernel
theorem dX12_readLine_96 : decode cX12_readLine 96 = .ok (.bipush 12, 2) := by decide +kernel
theorem dX12_readLine_98 : decode cX12_readLine 98 = .ok (.if_icmp .eq 17, 3) := by decide +kernel
theorem dX12_readLine_101 : decode cX12_readLine 101 = .ok (.iload_n 2, 1) := by decide +kernel
theorem dX12_readLine_102 : decode cX12_readLine 102 = .ok (.bipush 6, 2) := by decide +kernel
theorem dX12_readLine_104 : decode cX12_readLine 104 = .ok (.if_icmp .ne 7, 3) := by decide +kernel
theorem dX12_readLine_107 : decode cX12_readLine 107 = .ok (.iload_n 1, 1) := by decide +kernel
theorem dX12_readLine_108 : decode cX12_readLine 108 = .ok (.ifCond .ne 7, 3) := by decide +kernel
theorem dX12_readLine_111 : decode cX12_readLine 111 = .ok (.iconst 1, 1) := by decide +kernel
theorem dX12_readLine_112 : decode cX12_readLine 112 = .ok (.goto 4, 3) := by decide +kernel
theorem dX12_readLine_115 : decode cX12_readLine 115 = .ok (.iconst 0, 1) := by decide +kernel
theorem dX12_readLine_116 : decode cX12_readLine 116 = .ok (.istore_n 3, 1) := by decide +kernel
theorem dX12_readLine_117 : decode cX12_readLine 117 = .ok (.aload_n 0, 1) := by decide +kernel
theorem dX12_readLine_118 : decode cX12_readLine 118 = .ok (.getfield 127, 3) := by decide +kernel
theorem dX12_readLine_121 : decode cX12_readLine 121 = .ok (.iconst (-1), 1) := by decide +kernel
theorem dX12_readLine_122 : decode cX12_readLine 122 = .ok (.if_icmp .ne 15, 3) := by decide +kernel
theorem dX12_readLine_125 : decode cX12_readLine 125 = .ok (.iload_n 3, 1) := by decide +kernel
theorem dX12_readLine_126 : decode cX12_readLine 126 = .ok (.ifCond .ne 11, 3) := by decide +kernel
theorem dX12_readLine_129 : decode cX12_readLine 129 = .ok (.aload_n 0, 1) := by decide +kernel
theorem dX12_readLine_130 : decode cX12_readLine 130 = .ok (.aload_n 0, 1) := by decide +kernel
theorem dX12_readLine_131 : decode cX12_readLine 131 = .ok (.getfield 133, 3) := by decide +kernel
theorem dX12_readLine_134 : decode cX12_readLine 134 = .ok (.invokevirtual 144, 3) := by decide +kernel
theorem dX12_readLine_137 : decode cX12_readLine 137 = .ok (.aload_n 0, 1) := by decide +kernel
theorem dX12_readLine_138 : decode cX12_readLine 138 = .ok (.getfield 127, 3) := by decide +kernel
theorem dX12_readLine_141 : decode cX12_readLine 141 = .ok (.iconst (-1), 1) := by decide +kernel
theorem dX12_readLine_142 : decode cX12_readLine 142 = .ok (.if_icmp .eq 5, 3) := by decide +kernel
theorem dX12_readLine_145 : decode cX12_readLine 145 = .ok (.iload_n 1, 1) := by decide +kernel
theorem dX12_readLine_146 : decode cX12_readLine 146 = .ok (.ireturn, 1) := by decide +kernel
theorem dX12_readLine_147 : decode cX12_readLine 147 = .ok (.iload_n 2, 1) := by decide +kernel
theorem dX12_readLine_148 : decode cX12_readLine 148 = .ok (.tableswitch 77 0 5 #[40, 46, 52, 52, 61, 61], 40) := by decide +kernel
theorem dX12_readLine_188 : decode cX12_readLine 188 = .ok (.aload_n 0, 1) := by decide +kernel
theorem dX12_readLine_189 : decode cX12_readLine 189 = .ok (.invokevirtual 206, 3) := by decide +kernel
theorem dX12_readLine_192 : decode cX12_readLine 192 = .ok (.iload_n 1, 1) := by decide +kernel
theorem dX12_readLine_193 : decode cX12_readLine 193 = .ok (.ireturn, 1) := by decide +kernel
theorem dX12_readLine_194 : decode cX12_readLine 194 = .ok (.aload_n 0, 1) := by decide +kernel
theorem dX12_readLine_195 : decode cX12_readLine 195 = .ok (.invokevirtual 209, 3) := by decide +kernel
theorem dX12_readLine_198 : decode cX12_readLine 198 = .ok (.iload_n 1, 1) := by decide +kernel
theorem dX12_readLine_199 : decode cX12_readLine 199 = .ok (.ireturn, 1) := by decide +kernel
theorem dX12_readLine_200 : decode cX12_readLine 200 = .ok (.aload_n 0, 1) := by decide +kernel
theorem dX12_readLine_201 : decode cX12_readLine 201 = .ok (.iload_n 2, 1) := by decide +kernel
theorem dX12_readLine_202 : decode cX12_readLine 202 = .ok (.iconst 2, 1) := by decide +kernel
theorem dX12_readLine_203 : decode cX12_readLine 203 = .ok (.isub, 1) := by decide +kernel
theorem dX12_readLine_204 : decode cX12_readLine 204 = .ok (.invokevirtual 212, 3) := by decide +kernel
theorem dX12_readLine_207 : decode cX12_readLine 207 = .ok (.iload_n 1, 1) := by decide +kernel
theorem dX12_readLine_208 : decode cX12_readLine 208 = .ok (.ireturn, 1) := by decide +kernel
theorem dX12_readLine_209 : decode cX12_readLine 209 = .ok (.aload_n 0, 1) := by decide +kernel
theorem dX12_readLine_210 : decode cX12_readLine 210 = .ok (.iload_n 2, 1) := by decide +kernel
theorem dX12_readLine_211 : decode cX12_readLine 211 = .ok (.iconst 5, 1) := by decide +kernel
theorem dX12_readLine_212 : decode cX12_readLine 212 = .ok (.if_icmp .ne 7, 3) := by decide +kernel
theorem dX12_readLine_215 : decode cX12_readLine 215 = .ok (.iconst 1, 1) := by decide +kernel
theorem dX12_readLine_216 : decode cX12_readLine 216 = .ok (.goto 4, 3) := by decide +kernel
theorem dX12_readLine_219 : decode cX12_readLine 219 = .ok (.iconst 0, 1) := by decide +kernel
theorem dX12_readLine_220 : decode cX12_readLine 220 = .ok (.invokevirtual 215, 3) := by decide +kernel
theorem dX12_readLine_223 : decode cX12_readLine 223 = .ok (.iload_n 1, 1) := by decide +kernel
theorem dX12_readLine_224 : decode cX12_readLine 224 = .ok (.ireturn, 1) := by decide +kernel
theorem dX12_readLine_225 : decode cX12_readLine 225 = .ok (.aload_n 0, 1) := by decide +kernel
theorem dX12_readLine_226 : decode cX12_readLine 226 = .ok (.aload_n 0, 1) := by decide +kernel
theorem dX12_readLine_227 : decode cX12_readLine 227 = .ok (.iconst 0, 1) := by decide +kernel
theorem dX12_readLine_228 : decode cX12_readLine 228 = .ok (.bipush 99, 2) := by decide +kernel
theorem dX12_readLine_230 : decode cX12_readLine 230 = .ok (.invokevirtual 185, 3) := by decide +kernel
theorem dX12_readLine_233 : decode cX12_readLine 233 = .ok (.putfield 219, 3) := by decide +kernel
theorem dX12_readLine_236 : decode cX12_readLine 236 = .ok (.iconst 1, 1) := by decide +kernel
theorem dX12_readLine_237 : decode cX12_readLine 237 = .ok (.ireturn, 1) := by decide +kernel
set_option maxHeartbeats 4000000 in
set_option maxRecDepth 100000 in
theorem B_X12_readLine_0 {d : Nat} {ro : Nat → Nat} {J : JT} {Z : Option Value → Hp → Prop} (g : xCtx RX12 cX12_readLine 4 d 0 0 yX12_readLine.name ro J) (hr : xRet cX12_readLine (some .boolean) 0 0 Z J) {μ : Hp} {a0 : Nat} {x1 : Int32} (hs_a0 : hS μ a0 = some (15, 65))
    (h : xCall d yX12_word cX12_word 2 none [.ref a0] μ ro (fun r1 μ2 => r1 = none ∧ hS μ2 a0 = some (15, 65) ∧ ((¬ (hI μ2 a0 4) = (-1) → J μ2 0 0 23 [(0, .ref a0), (1, .int x1)] [.int (-1)]) ∧ ((hI μ2 a0 4) = (-1) → xCall d yX12_known cX12_known 6 (some .int) [.long (hL μ2 a0 6)] μ2 ro (fun r4 μ5 => ∃ y6 : Int32, r4 = some (.int y6) ∧ J μ5 0 0 23 [(0, .ref a0), (1, .int x1)] [.int y6]))))) :
    J μ 0 0 0 [(0, .ref a0), (1, .int x1)] [] := by
  refine r_aload_n g dX12_readLine_0 rfl ?_
  obtain ⟨d1, Z1, hc1, hd1, h1⟩ := h
  refine r_callV (st := []) (As := []) g sX12_165 iX12_word eX12_word rfl hs_a0 rfl (Nat.le_of_ble_eq_true rfl) dX12_readLine_1 hd1 (Nat.le_refl 0) (Nat.le_refl 0) hc1 (fun r1 μ2 hZ1 => ?_)
  replace h := h1 _ _ hZ1
  clear h1 hc1 hd1 hZ1 Z1 d1
  obtain ⟨rfl, h⟩ := h
  refine r_aload_n g dX12_readLine_4 rfl ?_
  obtain ⟨hs_a0_, h⟩ := h
  refine r_getI g fX12_127 rfl hs_a0_ dX12_readLine_5 ?_
  refine r_iconst g (-1) dX12_readLine_8 (by decide) ?_
  refine r_icmp_ne g 22 dX12_readLine_9 (by decide) (fun c3 => ?_) (fun c3 => ?_)
  · replace h := h.1 c3
    refine r_iconst g (-1) dX12_readLine_22 (by decide) ?_
    refine r_sub g (lv' := [(0, .ref a0), (1, .int x1)]) (⟨rfl, rfl, trivial⟩) ?_
    exact h
  · replace h := h.2 c3
    refine r_aload_n g dX12_readLine_12 rfl ?_
    refine r_getL g fX12_136 rfl hs_a0_ dX12_readLine_13 ?_
    obtain ⟨d1, Z1, hc1, hd1, h1⟩ := h
    refine r_callS (st := []) (As := [.long (hL μ2 a0 6)]) g sX12_167 iX12_known rfl (Nat.le_of_ble_eq_true rfl) dX12_readLine_16 hd1 (Nat.le_refl 0) (Nat.le_refl 0) hc1 (fun r4 μ5 hZ1 => ?_)
    replace h := h1 _ _ hZ1
    clear h1 hc1 hd1 hZ1 Z1 d1
    obtain ⟨y6, rfl, h⟩ := h
    refine r_goto g 23 dX12_readLine_19 (by decide) ?_
    refine r_sub g (lv' := [(0, .ref a0), (1, .int x1)]) (⟨rfl, rfl, trivial⟩) ?_
    exact h
set_option maxHeartbeats 4000000 in
set_option maxRecDepth 100000 in
theorem B_X12_readLine_23 {d : Nat} {ro : Nat → Nat} {J : JT} {Z : Option Value → Hp → Prop} (g : xCtx RX12 cX12_readLine 4 d 0 0 yX12_readLine.name ro J) (hr : xRet cX12_readLine (some .boolean) 0 0 Z J) {μ : Hp} {a0 : Nat} {x1 : Int32} {s0 : Int32} (hs_a0 : hS μ a0 = some (15, 65)) (hd9 : 1 ≤ d)
    (h : ((s0 < 0 → J μ 0 0 116 [(0, .ref a0), (1, .int x1), (2, .int s0)] [.int 0]) ∧ (¬ s0 < 0 → ((6 < s0 → J μ 0 0 116 [(0, .ref a0), (1, .int x1), (2, .int s0)] [.int 0]) ∧ (¬ 6 < s0 → ((¬ s0 = 0 → J μ 0 0 49 [(0, .ref a0), (1, .int x1), (2, .int s0)] []) ∧ (s0 = 0 → (((hI μ a0 19) = 6 → J μ 0 0 116 [(0, .ref a0), (1, .int x1), (2, .int s0)] [.int 0]) ∧ (¬ (hI μ a0 19) = 6 → J μ 0 0 49 [(0, .ref a0), (1, .int x1), (2, .int s0)] []))))))))) :
    J μ 0 0 23 [(0, .ref a0), (1, .int x1)] [.int s0] := by
  refine r_istore_n g [(2, .int s0), (0, .ref a0), (1, .int x1)] dX12_readLine_23 (by decide) rfl ?_
  refine r_iload_n g dX12_readLine_24 rfl ?_
  refine r_i2l g dX12_readLine_25 ?_
  refine r_lconst g 0 dX12_readLine_26 (by decide) ?_
  refine r_ldc2 g 6 kX12_204 dX12_readLine_27 ?_
  by_cases c1 : s0 < 0
  · replace h := h.1 c1
    refine r_callS (st := []) (As := [.long s0.toInt64, .long 0, .long 6]) g sX12_161 iX12_isIn rfl (Nat.le_of_ble_eq_true rfl) dX12_readLine_30 (by omega) (Nat.le_refl 0) (Nat.le_refl 0) (Q_isIn_0 (d := d - 1) (x := s0) (a := 0) (b := 6) rfl (by decide) (by decide) c1) (fun r2 μ3 hZ1 => ?_)
    obtain ⟨rfl, e9⟩ := hZ1
    replace e9 := e9.symm
    subst e9
    refine r_if_eq g 115 dX12_readLine_33 (by decide) (fun _ => ?_) (fun hz => absurd hz (by decide))
    refine r_iconst g 0 dX12_readLine_115 (by decide) ?_
    refine r_sub g (lv' := [(0, .ref a0), (1, .int x1), (2, .int s0)]) (⟨rfl, rfl, rfl, trivial⟩) ?_
    exact h
  · replace h := h.2 c1
    by_cases c4 : 6 < s0
    · replace h := h.1 c4
      refine r_callS (st := []) (As := [.long s0.toInt64, .long 0, .long 6]) g sX12_161 iX12_isIn rfl (Nat.le_of_ble_eq_true rfl) dX12_readLine_30 (by omega) (Nat.le_refl 0) (Nat.le_refl 0) (Q_isIn_1 (d := d - 1) (x := s0) (a := 0) (b := 6) rfl (by decide) (by decide) c1 c4) (fun r5 μ6 hZ1 => ?_)
      obtain ⟨rfl, e9⟩ := hZ1
      replace e9 := e9.symm
      subst e9
      refine r_if_eq g 115 dX12_readLine_33 (by decide) (fun _ => ?_) (fun hz => absurd hz (by decide))
      refine r_iconst g 0 dX12_readLine_115 (by decide) ?_
      refine r_sub g (lv' := [(0, .ref a0), (1, .int x1), (2, .int s0)]) (⟨rfl, rfl, rfl, trivial⟩) ?_
      exact h
    · replace h := h.2 c4
      refine r_callS (st := []) (As := [.long s0.toInt64, .long 0, .long 6]) g sX12_161 iX12_isIn rfl (Nat.le_of_ble_eq_true rfl) dX12_readLine_30 (by omega) (Nat.le_refl 0) (Nat.le_refl 0) (Q_isIn_2 (d := d - 1) (x := s0) (a := 0) (b := 6) rfl (by decide) (by decide) c1 c4) (fun r7 μ8 hZ1 => ?_)
      obtain ⟨rfl, e9⟩ := hZ1
      replace e9 := e9.symm
      subst e9
      refine r_if_eq g 115 dX12_readLine_33 (by decide) (fun hz => absurd hz (by decide)) (fun _ => ?_)
      refine r_iload_n g dX12_readLine_36 rfl ?_
      refine r_if_ne g 49 dX12_readLine_37 (by decide) (fun c9 => ?_) (fun c9 => ?_)
      · replace h := h.1 c9
        refine r_sub g (lv' := [(0, .ref a0), (1, .int x1), (2, .int s0)]) (⟨rfl, rfl, rfl, trivial⟩) ?_
        exact h
      · replace h := h.2 c9
        refine r_aload_n g dX12_readLine_40 rfl ?_
        refine r_getI g fX12_171 rfl hs_a0 dX12_readLine_41 ?_
        refine r_bipush g 6 dX12_readLine_44 (by decide) ?_
        refine r_icmp_eq g 115 dX12_readLine_46 (by decide) (fun c10 => ?_) (fun c10 => ?_)
        · replace h := h.1 c10
          refine r_iconst g 0 dX12_readLine_115 (by decide) ?_
          refine r_sub g (lv' := [(0, .ref a0), (1, .int x1), (2, .int s0)]) (⟨rfl, rfl, rfl, trivial⟩) ?_
          exact h
        · replace h := h.2 c10
          refine r_sub g (lv' := [(0, .ref a0), (1, .int x1), (2, .int s0)]) (⟨rfl, rfl, rfl, trivial⟩) ?_
          exact h
set_option maxHeartbeats 4000000 in
set_option maxRecDepth 100000 in
theorem B_X12_readLine_49 {d : Nat} {ro : Nat → Nat} {J : JT} {Z : Option Value → Hp → Prop} (g : xCtx RX12 cX12_readLine 4 d 0 0 yX12_readLine.name ro J) (hr : xRet cX12_readLine (some .boolean) 0 0 Z J) {μ : Hp} {a0 : Nat} {x1 : Int32} {x2 : Int32} (hs_a0 : hS μ a0 = some (15, 65))
    (h : ((¬ x2 = 1 → J μ 0 0 63 [(0, .ref a0), (1, .int x1), (2, .int x2)] []) ∧ (x2 = 1 → (((hI μ a0 21) = 8 → J μ 0 0 116 [(0, .ref a0), (1, .int x1), (2, .int x2)] [.int 0]) ∧ (¬ (hI μ a0 21) = 8 → J μ 0 0 63 [(0, .ref a0), (1, .int x1), (2, .int x2)] []))))) :
    J μ 0 0 49 [(0, .ref a0), (1, .int x1), (2, .int x2)] [] := by
  refine r_iload_n g dX12_readLine_49 rfl ?_
  refine r_iconst g 1 dX12_readLine_50 (by decide) ?_
  refine r_icmp_ne g 63 dX12_readLine_51 (by decide) (fun c1 => ?_) (fun c1 => ?_)
  · replace h := h.1 c1
    refine r_sub g (lv' := [(0, .ref a0), (1, .int x1), (2, .int x2)]) (⟨rfl, rfl, rfl, trivial⟩) ?_
    exact h
  · replace h := h.2 c1
    refine r_aload_n g dX12_readLine_54 rfl ?_
    refine r_getI g fX12_178 rfl hs_a0 dX12_readLine_55 ?_
    refine r_bipush g 8 dX12_readLine_58 (by decide) ?_
    refine r_icmp_eq g 115 dX12_readLine_60 (by decide) (fun c2 => ?_) (fun c2 => ?_)
    · replace h := h.1 c2
      refine r_iconst g 0 dX12_readLine_115 (by decide) ?_
      refine r_sub g (lv' := [(0, .ref a0), (1, .int x1), (2, .int x2)]) (⟨rfl, rfl, rfl, trivial⟩) ?_
      exact h
    · replace h := h.2 c2
      refine r_sub g (lv' := [(0, .ref a0), (1, .int x1), (2, .int x2)]) (⟨rfl, rfl, rfl, trivial⟩) ?_
      exact h
set_option maxHeartbeats 4000000 in
set_option maxRecDepth 100000 in
theorem B_X12_readLine_63 {d : Nat} {ro : Nat → Nat} {J : JT} {Z : Option Value → Hp → Prop} (g : xCtx RX12 cX12_readLine 4 d 0 0 yX12_readLine.name ro J) (hr : xRet cX12_readLine (some .boolean) 0 0 Z J) {μ : Hp} {a0 : Nat} {x1 : Int32} {x2 : Int32} (hs_a0 : hS μ a0 = some (15, 65))
    (h : ((x2 = 2 → (((hI μ a0 25) = 16 → J μ 0 0 116 [(0, .ref a0), (1, .int x1), (2, .int x2)] [.int 0]) ∧ (¬ (hI μ a0 25) = 16 → J μ 0 0 82 [(0, .ref a0), (1, .int x1), (2, .int x2)] []))) ∧ (¬ x2 = 2 → ((¬ x2 = 3 → J μ 0 0 82 [(0, .ref a0), (1, .int x1), (2, .int x2)] []) ∧ (x2 = 3 → (((hI μ a0 25) = 16 → J μ 0 0 116 [(0, .ref a0), (1, .int x1), (2, .int x2)] [.int 0]) ∧ (¬ (hI μ a0 25) = 16 → J μ 0 0 82 [(0, .ref a0), (1, .int x1), (2, .int x2)] []))))))) :
    J μ 0 0 63 [(0, .ref a0), (1, .int x1), (2, .int x2)] [] := by
  refine r_iload_n g dX12_readLine_63 rfl ?_
  refine r_iconst g 2 dX12_readLine_64 (by decide) ?_
  refine r_icmp_eq g 73 dX12_readLine_65 (by decide) (fun c1 => ?_) (fun c1 => ?_)
  · replace h := h.1 c1
    refine r_aload_n g dX12_readLine_73 rfl ?_
    refine r_getI g fX12_195 rfl hs_a0 dX12_readLine_74 ?_
    refine r_bipush g 16 dX12_readLine_77 (by decide) ?_
    refine r_icmp_eq g 115 dX12_readLine_79 (by decide) (fun c2 => ?_) (fun c2 => ?_)
    · replace h := h.1 c2
      refine r_iconst g 0 dX12_readLine_115 (by decide) ?_
      refine r_sub g (lv' := [(0, .ref a0), (1, .int x1), (2, .int x2)]) (⟨rfl, rfl, rfl, trivial⟩) ?_
      exact h
    · replace h := h.2 c2
      refine r_sub g (lv' := [(0, .ref a0), (1, .int x1), (2, .int x2)]) (⟨rfl, rfl, rfl, trivial⟩) ?_
      exact h
  · replace h := h.2 c1
    refine r_iload_n g dX12_readLine_68 rfl ?_
    refine r_iconst g 3 dX12_readLine_69 (by decide) ?_
    refine r_icmp_ne g 82 dX12_readLine_70 (by decide) (fun c3 => ?_) (fun c3 => ?_)
    · replace h := h.1 c3
      refine r_sub g (lv' := [(0, .ref a0), (1, .int x1), (2, .int x2)]) (⟨rfl, rfl, rfl, trivial⟩) ?_
      exact h
    · replace h := h.2 c3
      refine r_aload_n g dX12_readLine_73 rfl ?_
      refine r_getI g fX12_195 rfl hs_a0 dX12_readLine_74 ?_
      refine r_bipush g 16 dX12_readLine_77 (by decide) ?_
      refine r_icmp_eq g 115 dX12_readLine_79 (by decide) (fun c4 => ?_) (fun c4 => ?_)
      · replace h := h.1 c4
        refine r_iconst g 0 dX12_readLine_115 (by decide) ?_
        refine r_sub g (lv' := [(0, .ref a0), (1, .int x1), (2, .int x2)]) (⟨rfl, rfl, rfl, trivial⟩) ?_
        exact h
      · replace h := h.2 c4
        refine r_sub g (lv' := [(0, .ref a0), (1, .int x1), (2, .int x2)]) (⟨rfl, rfl, rfl, trivial⟩) ?_
        exact h
set_option maxHeartbeats 4000000 in
set_option maxRecDepth 100000 in
theorem B_X12_readLine_82 {d : Nat} {ro : Nat → Nat} {J : JT} {Z : Option Value → Hp → Prop} (g : xCtx RX12 cX12_readLine 4 d 0 0 yX12_readLine.name ro J) (hr : xRet cX12_readLine (some .boolean) 0 0 Z J) {μ : Hp} {a0 : Nat} {x1 : Int32} {x2 : Int32} (hs_a0 : hS μ a0 = some (15, 65))
    (h : ((x2 = 4 → (((hI μ a0 23) = 12 → J μ 0 0 116 [(0, .ref a0), (1, .int x1), (2, .int x2)] [.int 0]) ∧ (¬ (hI μ a0 23) = 12 → J μ 0 0 101 [(0, .ref a0), (1, .int x1), (2, .int x2)] []))) ∧ (¬ x2 = 4 → ((¬ x2 = 5 → J μ 0 0 101 [(0, .ref a0), (1, .int x1), (2, .int x2)] []) ∧ (x2 = 5 → (((hI μ a0 23) = 12 → J μ 0 0 116 [(0, .ref a0), (1, .int x1), (2, .int x2)] [.int 0]) ∧ (¬ (hI μ a0 23) = 12 → J μ 0 0 101 [(0, .ref a0), (1, .int x1), (2, .int x2)] []))))))) :
    J μ 0 0 82 [(0, .ref a0), (1, .int x1), (2, .int x2)] [] := by
  refine r_iload_n g dX12_readLine_82 rfl ?_
  refine r_iconst g 4 dX12_readLine_83 (by decide) ?_
  refine r_icmp_eq g 92 dX12_readLine_84 (by decide) (fun c1 => ?_) (fun c1 => ?_)
  · replace h := h.1 c1
    refine r_aload_n g dX12_readLine_92 rfl ?_
    refine r_getI g fX12_198 rfl hs_a0 dX12_readLine_93 ?_
    refine r_bipush g 12 dX12_readLine_96 (by decide) ?_
    refine r_icmp_eq g 115 dX12_readLine_98 (by decide) (fun c2 => ?_) (fun c2 => ?_)
    · replace h := h.1 c2
      refine r_iconst g 0 dX12_readLine_115 (by decide) ?_
      refine r_sub g (lv' := [(0, .ref a0), (1, .int x1), (2, .int x2)]) (⟨rfl, rfl, rfl, trivial⟩) ?_
      exact h
    · replace h := h.2 c2
      refine r_sub g (lv' := [(0, .ref a0), (1, .int x1), (2, .int x2)]) (⟨rfl, rfl, rfl, trivial⟩) ?_
      exact h
  · replace h := h.2 c1
    refine r_iload_n g dX12_readLine_87 rfl ?_
    refine r_iconst g 5 dX12_readLine_88 (by decide) ?_
    refine r_icmp_ne g 101 dX12_readLine_89 (by decide) (fun c3 => ?_) (fun c3 => ?_)
    · replace h := h.1 c3
      refine r_sub g (lv' := [(0, .ref a0), (1, .int x1), (2, .int x2)]) (⟨rfl, rfl, rfl, trivial⟩) ?_
      exact h
    · replace h := h.2 c3
      refine r_aload_n g dX12_readLine_92 rfl ?_
      refine r_getI g fX12_198 rfl hs_a0 dX12_readLine_93 ?_
      refine r_bipush g 12 dX12_readLine_96 (by decide) ?_
      refine r_icmp_eq g 115 dX12_readLine_98 (by decide) (fun c4 => ?_) (fun c4 => ?_)
      · replace h := h.1 c4
        refine r_iconst g 0 dX12_readLine_115 (by decide) ?_
        refine r_sub g (lv' := [(0, .ref a0), (1, .int x1), (2, .int x2)]) (⟨rfl, rfl, rfl, trivial⟩) ?_
        exact h
      · replace h := h.2 c4
        refine r_sub g (lv' := [(0, .ref a0), (1, .int x1), (2, .int x2)]) (⟨rfl, rfl, rfl, trivial⟩) ?_
        exact h
set_option maxHeartbeats 4000000 in
set_option maxRecDepth 100000 in
theorem B_X12_readLine_101 {d : Nat} {ro : Nat → Nat} {J : JT} {Z : Option Value → Hp → Prop} (g : xCtx RX12 cX12_readLine 4 d 0 0 yX12_readLine.name ro J) (hr : xRet cX12_readLine (some .boolean) 0 0 Z J) {μ : Hp} {a0 : Nat} {x1 : Int32} {x2 : Int32} 
    (h : ((¬ x2 = 6 → J μ 0 0 116 [(0, .ref a0), (1, .int x1), (2, .int x2)] [.int 1]) ∧ (x2 = 6 → ((¬ x1 = 0 → J μ 0 0 116 [(0, .ref a0), (1, .int x1), (2, .int x2)] [.int 0]) ∧ (x1 = 0 → J μ 0 0 116 [(0, .ref a0), (1, .int x1), (2, .int x2)] [.int 1]))))) :
    J μ 0 0 101 [(0, .ref a0), (1, .int x1), (2, .int x2)] [] := by
  refine r_iload_n g dX12_readLine_101 rfl ?_
  refine r_bipush g 6 dX12_readLine_102 (by decide) ?_
  refine r_icmp_ne g 111 dX12_readLine_104 (by decide) (fun c1 => ?_) (fun c1 => ?_)
  · replace h := h.1 c1
    refine r_iconst g 1 dX12_readLine_111 (by decide) ?_
    refine r_goto g 116 dX12_readLine_112 (by decide) ?_
    refine r_sub g (lv' := [(0, .ref a0), (1, .int x1), (2, .int x2)]) (⟨rfl, rfl, rfl, trivial⟩) ?_
    exact h
  · replace h := h.2 c1
    refine r_iload_n g dX12_readLine_107 rfl ?_
    refine r_if_ne g 115 dX12_readLine_108 (by decide) (fun c2 => ?_) (fun c2 => ?_)
    · replace h := h.1 c2
      refine r_iconst g 0 dX12_readLine_115 (by decide) ?_
      refine r_sub g (lv' := [(0, .ref a0), (1, .int x1), (2, .int x2)]) (⟨rfl, rfl, rfl, trivial⟩) ?_
      exact h
    · replace h := h.2 c2
      refine r_iconst g 1 dX12_readLine_111 (by decide) ?_
      refine r_goto g 116 dX12_readLine_112 (by decide) ?_
      refine r_sub g (lv' := [(0, .ref a0), (1, .int x1), (2, .int x2)]) (⟨rfl, rfl, rfl, trivial⟩) ?_
      exact h
set_option maxHeartbeats 4000000 in
set_option maxRecDepth 100000 in
theorem B_X12_readLine_116 {d : Nat} {ro : Nat → Nat} {J : JT} {Z : Option Value → Hp → Prop} (g : xCtx RX12 cX12_readLine 4 d 0 0 yX12_readLine.name ro J) (hr : xRet cX12_readLine (some .boolean) 0 0 Z J) {μ : Hp} {a0 : Nat} {x1 : Int32} {x2 : Int32} {s0 : Int32} (hs_a0 : hS μ a0 = some (15, 65))
    (h : ((¬ (hI μ a0 4) = (-1) → J μ 0 0 137 [(0, .ref a0), (1, .int x1), (2, .int x2)] []) ∧ ((hI μ a0 4) = (-1) → ((¬ s0 = 0 → J μ 0 0 137 [(0, .ref a0), (1, .int x1), (2, .int x2)] []) ∧ (s0 = 0 → xCall d yX12_fails cX12_fails 2 none [.ref a0, .int (hI μ a0 5)] μ ro (fun r3 μ4 => r3 = none ∧ J μ4 0 0 137 [(0, .ref a0), (1, .int x1), (2, .int x2)] [])))))) :
    J μ 0 0 116 [(0, .ref a0), (1, .int x1), (2, .int x2)] [.int s0] := by
  refine r_istore_n g [(3, .int s0), (0, .ref a0), (1, .int x1), (2, .int x2)] dX12_readLine_116 (by decide) rfl ?_
  refine r_aload_n g dX12_readLine_117 rfl ?_
  refine r_getI g fX12_127 rfl hs_a0 dX12_readLine_118 ?_
  refine r_iconst g (-1) dX12_readLine_121 (by decide) ?_
  refine r_icmp_ne g 137 dX12_readLine_122 (by decide) (fun c1 => ?_) (fun c1 => ?_)
  · replace h := h.1 c1
    refine r_sub g (lv' := [(0, .ref a0), (1, .int x1), (2, .int x2)]) (⟨rfl, rfl, rfl, trivial⟩) ?_
    exact h
  · replace h := h.2 c1
    refine r_iload_n g dX12_readLine_125 rfl ?_
    refine r_if_ne g 137 dX12_readLine_126 (by decide) (fun c2 => ?_) (fun c2 => ?_)
    · replace h := h.1 c2
      refine r_sub g (lv' := [(0, .ref a0), (1, .int x1), (2, .int x2)]) (⟨rfl, rfl, rfl, trivial⟩) ?_
      exact h
    · replace h := h.2 c2
      refine r_aload_n g dX12_readLine_129 rfl ?_
      refine r_aload_n g dX12_readLine_130 rfl ?_
      refine r_getI g fX12_133 rfl hs_a0 dX12_readLine_131 ?_
      obtain ⟨d1, Z1, hc1, hd1, h1⟩ := h
      refine r_callV (st := []) (As := [.int (hI μ a0 5)]) g sX12_144 iX12_fails eX12_fails rfl hs_a0 rfl (Nat.le_of_ble_eq_true rfl) dX12_readLine_134 hd1 (Nat.le_refl 0) (Nat.le_refl 0) hc1 (fun r3 μ4 hZ1 => ?_)
      replace h := h1 _ _ hZ1
      clear h1 hc1 hd1 hZ1 Z1 d1
      obtain ⟨rfl, h⟩ := h
      refine r_sub g (lv' := [(0, .ref a0), (1, .int x1), (2, .int x2)]) (⟨rfl, rfl, rfl, trivial⟩) ?_
      exact h
set_option maxHeartbeats 4000000 in
set_option maxRecDepth 100000 in
theorem B_X12_readLine_137 {d : Nat} {ro : Nat → Nat} {J : JT} {Z : Option Value → Hp → Prop} (g : xCtx RX12 cX12_readLine 4 d 0 0 yX12_readLine.name ro J) (hr : xRet cX12_readLine (some .boolean) 0 0 Z J) {μ : Hp} {a0 : Nat} {x1 : Int32} {x2 : Int32} (hs_a0 : hS μ a0 = some (15, 65))
    (h : (((hI μ a0 4) = (-1) → (((x2).toInt < 0 ∨ 5 < (x2).toInt → xCall d yX12_number cX12_number 5 (some .int) [.ref a0, .int 0, .int 99] μ ro (fun r3 μ4 => ∃ y5 : Int32, r3 = some (.int y5) ∧ hS μ4 a0 = some (15, 65) ∧ Z (some (.int 1)) (wI μ4 a0 26 y5))) ∧ (x2 = 0 → xCall d yX12_readLand cX12_readLand 4 none [.ref a0] μ ro (fun r6 μ7 => r6 = none ∧ narrow .boolean (.int x1) = .int x1 ∧ Z (some (.int x1)) μ7)) ∧ (x2 = 1 → xCall d yX12_readFirm cX12_readFirm 3 none [.ref a0] μ ro (fun r9 μ10 => r9 = none ∧ narrow .boolean (.int x1) = .int x1 ∧ Z (some (.int x1)) μ10)) ∧ (x2 = 2 → xCall d yX12_readLink cX12_readLink 6 none [.ref a0, .int (x2 - 2)] μ ro (fun r12 μ13 => r12 = none ∧ narrow .boolean (.int x1) = .int x1 ∧ Z (some (.int x1)) μ13)) ∧ (x2 = 3 → xCall d yX12_readLink cX12_readLink 6 none [.ref a0, .int (x2 - 2)] μ ro (fun r15 μ16 => r15 = none ∧ narrow .boolean (.int x1) = .int x1 ∧ Z (some (.int x1)) μ16)) ∧ (x2 = 4 → ((¬ x2 = 5 → xCall d yX12_readTreaty cX12_readTreaty 4 none [.ref a0, .int 0] μ ro (fun r19 μ20 => r19 = none ∧ narrow .boolean (.int x1) = .int x1 ∧ Z (some (.int x1)) μ20)) ∧ (x2 = 5 → xCall d yX12_readTreaty cX12_readTreaty 4 none [.ref a0, .int 1] μ ro (fun r22 μ23 => r22 = none ∧ narrow .boolean (.int x1) = .int x1 ∧ Z (some (.int x1)) μ23)))) ∧ (x2 = 5 → ((¬ x2 = 5 → xCall d yX12_readTreaty cX12_readTreaty 4 none [.ref a0, .int 0] μ ro (fun r26 μ27 => r26 = none ∧ narrow .boolean (.int x1) = .int x1 ∧ Z (some (.int x1)) μ27)) ∧ (x2 = 5 → xCall d yX12_readTreaty cX12_readTreaty 4 none [.ref a0, .int 1] μ ro (fun r29 μ30 => r29 = none ∧ narrow .boolean (.int x1) = .int x1 ∧ Z (some (.int x1)) μ30)))))) ∧ (¬ (hI μ a0 4) = (-1) → narrow .boolean (.int x1) = .int x1 ∧ Z (some (.int x1)) μ))) :
    J μ 0 0 137 [(0, .ref a0), (1, .int x1), (2, .int x2)] [] := by
  refine r_aload_n g dX12_readLine_137 rfl ?_
  refine r_getI g fX12_127 rfl hs_a0 dX12_readLine_138 ?_
  refine r_iconst g (-1) dX12_readLine_141 (by decide) ?_
  refine r_icmp_eq g 147 dX12_readLine_142 (by decide) (fun c1 => ?_) (fun c1 => ?_)
  · replace h := h.1 c1
    refine r_iload_n g dX12_readLine_147 rfl ?_
    rcases sw_cases (x := x2) 0 5 (by decide) (by decide) with c2 | ⟨z, hz1, hz2, c2⟩
    · refine r_tableOut g 225 dX12_readLine_148 c2 (by decide) ?_
      replace h := h.1 c2
      refine r_aload_n g dX12_readLine_225 rfl ?_
      refine r_aload_n g dX12_readLine_226 rfl ?_
      refine r_iconst g 0 dX12_readLine_227 (by decide) ?_
      refine r_bipush g 99 dX12_readLine_228 (by decide) ?_
      obtain ⟨d1, Z1, hc1, hd1, h1⟩ := h
      refine r_callV (st := [.ref a0]) (As := [.int 0, .int 99]) g sX12_185 iX12_number eX12_number rfl hs_a0 rfl (Nat.le_of_ble_eq_true rfl) dX12_readLine_230 hd1 (Nat.le_refl 0) (Nat.le_refl 0) hc1 (fun r3 μ4 hZ1 => ?_)
      replace h := h1 _ _ hZ1
      clear h1 hc1 hd1 hZ1 Z1 d1
      obtain ⟨y5, rfl, h⟩ := h
      obtain ⟨hs_a0_, h⟩ := h
      refine r_putI g fX12_219 rfl hs_a0_ rfl rfl dX12_readLine_233 ?_
      refine r_iconst g 1 dX12_readLine_236 (by decide) ?_
      exact hr.2.1 _ rfl _ _ _ _ _ _ dX12_readLine_237 (by decide) (Nat.le_refl 0) (Nat.le_refl 0) h
    · have hz : z = 0 ∨ z = 1 ∨ z = 2 ∨ z = 3 ∨ z = 4 ∨ z = 5 := by omega
      rcases hz with rfl | rfl | rfl | rfl | rfl | rfl
      · refine r_tableIn g 188 dX12_readLine_148 (by rw [c2]; decide) (by rw [c2]; decide) (off := 40) (by rw [c2]; decide) (by decide) ?_
        replace h := h.2.1 c2
        refine r_aload_n g dX12_readLine_188 rfl ?_
        obtain ⟨d1, Z1, hc1, hd1, h1⟩ := h
        refine r_callV (st := []) (As := []) g sX12_206 iX12_readLand eX12_readLand rfl hs_a0 rfl (Nat.le_of_ble_eq_true rfl) dX12_readLine_189 hd1 (Nat.le_refl 0) (Nat.le_refl 0) hc1 (fun r6 μ7 hZ1 => ?_)
        replace h := h1 _ _ hZ1
        clear h1 hc1 hd1 hZ1 Z1 d1
        obtain ⟨rfl, h⟩ := h
        refine r_iload_n g dX12_readLine_192 rfl ?_
        obtain ⟨hb8, h⟩ := h
        exact hr.2.1 _ rfl _ _ _ _ _ _ dX12_readLine_193 hb8 (Nat.le_refl 0) (Nat.le_refl 0) h
      · refine r_tableIn g 194 dX12_readLine_148 (by rw [c2]; decide) (by rw [c2]; decide) (off := 46) (by rw [c2]; decide) (by decide) ?_
        replace h := h.2.2.1 c2
        refine r_aload_n g dX12_readLine_194 rfl ?_
        obtain ⟨d1, Z1, hc1, hd1, h1⟩ := h
        refine r_callV (st := []) (As := []) g sX12_209 iX12_readFirm eX12_readFirm rfl hs_a0 rfl (Nat.le_of_ble_eq_true rfl) dX12_readLine_195 hd1 (Nat.le_refl 0) (Nat.le_refl 0) hc1 (fun r9 μ10 hZ1 => ?_)
        replace h := h1 _ _ hZ1
        clear h1 hc1 hd1 hZ1 Z1 d1
        obtain ⟨rfl, h⟩ := h
        refine r_iload_n g dX12_readLine_198 rfl ?_
        obtain ⟨hb11, h⟩ := h
        exact hr.2.1 _ rfl _ _ _ _ _ _ dX12_readLine_199 hb11 (Nat.le_refl 0) (Nat.le_refl 0) h
      · refine r_tableIn g 200 dX12_readLine_148 (by rw [c2]; decide) (by rw [c2]; decide) (off := 52) (by rw [c2]; decide) (by decide) ?_
        replace h := h.2.2.2.1 c2
        refine r_aload_n g dX12_readLine_200 rfl ?_
        refine r_iload_n g dX12_readLine_201 rfl ?_
        refine r_iconst g 2 dX12_readLine_202 (by decide) ?_
        refine r_isub g dX12_readLine_203 ?_
        obtain ⟨d1, Z1, hc1, hd1, h1⟩ := h
        refine r_callV (st := []) (As := [.int (x2 - 2)]) g sX12_212 iX12_readLink eX12_readLink rfl hs_a0 rfl (Nat.le_of_ble_eq_true rfl) dX12_readLine_204 hd1 (Nat.le_refl 0) (Nat.le_refl 0) hc1 (fun r12 μ13 hZ1 => ?_)
        replace h := h1 _ _ hZ1
        clear h1 hc1 hd1 hZ1 Z1 d1
        obtain ⟨rfl, h⟩ := h
        refine r_iload_n g dX12_readLine_207 rfl ?_
        obtain ⟨hb14, h⟩ := h
        exact hr.2.1 _ rfl _ _ _ _ _ _ dX12_readLine_208 hb14 (Nat.le_refl 0) (Nat.le_refl 0) h
      · refine r_tableIn g 200 dX12_readLine_148 (by rw [c2]; decide) (by rw [c2]; decide) (off := 52) (by rw [c2]; decide) (by decide) ?_
        replace h := h.2.2.2.2.1 c2
        refine r_aload_n g dX12_readLine_200 rfl ?_
        refine r_iload_n g dX12_readLine_201 rfl ?_
        refine r_iconst g 2 dX12_readLine_202 (by decide) ?_
        refine r_isub g dX12_readLine_203 ?_
        obtain ⟨d1, Z1, hc1, hd1, h1⟩ := h
        refine r_callV (st := []) (As := [.int (x2 - 2)]) g sX12_212 iX12_readLink eX12_readLink rfl hs_a0 rfl (Nat.le_of_ble_eq_true rfl) dX12_readLine_204 hd1 (Nat.le_refl 0) (Nat.le_refl 0) hc1 (fun r15 μ16 hZ1 => ?_)
        replace h := h1 _ _ hZ1
        clear h1 hc1 hd1 hZ1 Z1 d1
        obtain ⟨rfl, h⟩ := h
        refine r_iload_n g dX12_readLine_207 rfl ?_
        obtain ⟨hb17, h⟩ := h
        exact hr.2.1 _ rfl _ _ _ _ _ _ dX12_readLine_208 hb17 (Nat.le_refl 0) (Nat.le_refl 0) h
      · refine r_tableIn g 209 dX12_readLine_148 (by rw [c2]; decide) (by rw [c2]; decide) (off := 61) (by rw [c2]; decide) (by decide) ?_
        replace h := h.2.2.2.2.2.1 c2
        refine r_aload_n g dX12_readLine_209 rfl ?_
        refine r_iload_n g dX12_readLine_210 rfl ?_
        refine r_iconst g 5 dX12_readLine_211 (by decide) ?_
        refine r_icmp_ne g 219 dX12_readLine_212 (by decide) (fun c18 => ?_) (fun c18 => ?_)
        · replace h := h.1 c18
          refine r_iconst g 0 dX12_readLine_219 (by decide) ?_
          obtain ⟨d1, Z1, hc1, hd1, h1⟩ := h
          refine r_callV (st := []) (As := [.int 0]) g sX12_215 iX12_readTreaty eX12_readTreaty rfl hs_a0 rfl (Nat.le_of_ble_eq_true rfl) dX12_readLine_220 hd1 (Nat.le_refl 0) (Nat.le_refl 0) hc1 (fun r19 μ20 hZ1 => ?_)
          replace h := h1 _ _ hZ1
          clear h1 hc1 hd1 hZ1 Z1 d1
          obtain ⟨rfl, h⟩ := h
          refine r_iload_n g dX12_readLine_223 rfl ?_
          obtain ⟨hb21, h⟩ := h
          exact hr.2.1 _ rfl _ _ _ _ _ _ dX12_readLine_224 hb21 (Nat.le_refl 0) (Nat.le_refl 0) h
        · replace h := h.2 c18
          refine r_iconst g 1 dX12_readLine_215 (by decide) ?_
          refine r_goto g 220 dX12_readLine_216 (by decide) ?_
          obtain ⟨d1, Z1, hc1, hd1, h1⟩ := h
          refine r_callV (st := []) (As := [.int 1]) g sX12_215 iX12_readTreaty eX12_readTreaty rfl hs_a0 rfl (Nat.le_of_ble_eq_true rfl) dX12_readLine_220 hd1 (Nat.le_refl 0) (Nat.le_refl 0) hc1 (fun r22 μ23 hZ1 => ?_)
          replace h := h1 _ _ hZ1
          clear h1 hc1 hd1 hZ1 Z1 d1
          obtain ⟨rfl, h⟩ := h
          refine r_iload_n g dX12_readLine_223 rfl ?_
          obtain ⟨hb24, h⟩ := h
          exact hr.2.1 _ rfl _ _ _ _ _ _ dX12_readLine_224 hb24 (Nat.le_refl 0) (Nat.le_refl 0) h
      · refine r_tableIn g 209 dX12_readLine_148 (by rw [c2]; decide) (by rw [c2]; decide) (off := 61) (by rw [c2]; decide) (by decide) ?_
        replace h := h.2.2.2.2.2.2 c2
        refine r_aload_n g dX12_readLine_209 rfl ?_
        refine r_iload_n g dX12_readLine_210 rfl ?_
        refine r_iconst g 5 dX12_readLine_211 (by decide) ?_
        refine r_icmp_ne g 219 dX12_readLine_212 (by decide) (fun c25 => ?_) (fun c25 => ?_)
        · replace h := h.1 c25
          refine r_iconst g 0 dX12_readLine_219 (by decide) ?_
          obtain ⟨d1, Z1, hc1, hd1, h1⟩ := h
          refine r_callV (st := []) (As := [.int 0]) g sX12_215 iX12_readTreaty eX12_readTreaty rfl hs_a0 rfl (Nat.le_of_ble_eq_true rfl) dX12_readLine_220 hd1 (Nat.le_refl 0) (Nat.le_refl 0) hc1 (fun r26 μ27 hZ1 => ?_)
          replace h := h1 _ _ hZ1
          clear h1 hc1 hd1 hZ1 Z1 d1
          obtain ⟨rfl, h⟩ := h
          refine r_iload_n g dX12_readLine_223 rfl ?_
          obtain ⟨hb28, h⟩ := h
          exact hr.2.1 _ rfl _ _ _ _ _ _ dX12_readLine_224 hb28 (Nat.le_refl 0) (Nat.le_refl 0) h
        · replace h := h.2 c25
          refine r_iconst g 1 dX12_readLine_215 (by decide) ?_
          refine r_goto g 220 dX12_readLine_216 (by decide) ?_
          obtain ⟨d1, Z1, hc1, hd1, h1⟩ := h
          refine r_callV (st := []) (As := [.int 1]) g sX12_215 iX12_readTreaty eX12_readTreaty rfl hs_a0 rfl (Nat.le_of_ble_eq_true rfl) dX12_readLine_220 hd1 (Nat.le_refl 0) (Nat.le_refl 0) hc1 (fun r29 μ30 hZ1 => ?_)
          replace h := h1 _ _ hZ1
          clear h1 hc1 hd1 hZ1 Z1 d1
          obtain ⟨rfl, h⟩ := h
          refine r_iload_n g dX12_readLine_223 rfl ?_
          obtain ⟨hb31, h⟩ := h
          exact hr.2.1 _ rfl _ _ _ _ _ _ dX12_readLine_224 hb31 (Nat.le_refl 0) (Nat.le_refl 0) h
  · replace h := h.2 c1
    refine r_iload_n g dX12_readLine_145 rfl ?_
    obtain ⟨hb32, h⟩ := h
    exact hr.2.1 _ rfl _ _ _ _ _ _ dX12_readLine_146 hb32 (Nat.le_refl 0) (Nat.le_refl 0) h
theorem I_X12_readLine {d : Nat} {ro : Nat → Nat} {Z : Option Value → Hp → Prop} {μ : Hp} {a0 : Nat} {x1 : Int32} (h : ∀ J, xCtx RX12 cX12_readLine 4 d 0 0 yX12_readLine.name ro J → xRet cX12_readLine (some .boolean) 0 0 Z J → J μ 0 0 0 [(0, .ref a0), (1, .int x1)] []) : xC d yX12_readLine cX12_readLine 4 (some .boolean) 0 0 [.ref a0, .int x1] μ ro Z :=
  xC_intro (own := RX12) (lv := [(0, .ref a0), (1, .int x1)]) (by decide) rfl (Nat.le_of_ble_eq_true rfl) rfl (fun J g hr => r_sub g (lv' := [(0, .ref a0), (1, .int x1)]) (⟨rfl, rfl, trivial⟩) (h J g hr))
theorem dX12_goesOn_0 : decode cX12_goesOn 0 = .ok (.aload_n 0, 1) := by decide +kernel
theorem dX12_goesOn_1 : decode cX12_goesOn 1 = .ok (.getfield 127, 3) := by decide +kernel
theorem dX12_goesOn_4 : decode cX12_goesOn 4 = .ok (.iconst (-1), 1) := by decide +kernel
theorem dX12_goesOn_5 : decode cX12_goesOn 5 = .ok (.if_icmp .eq 5, 3) := by decide +kernel
theorem dX12_goesOn_8 : decode cX12_goesOn 8 = .ok (.iconst 0, 1) := by decide +kernel
theorem dX12_goesOn_9 : decode cX12_goesOn 9 = .ok (.ireturn, 1) := by decide +kernel
theorem dX12_goesOn_10 : decode cX12_goesOn 10 = .ok (.aload_n 0, 1) := by decide +kernel
theorem dX12_goesOn_11 : decode cX12_goesOn 11 = .ok (.invokevirtual 130, 3) := by decide +kernel
theorem dX12_goesOn_14 : decode cX12_goesOn 14 = .ok (.istore_n 1, 1) := by decide +kernel
theorem dX12_goesOn_15 : decode cX12_goesOn 15 = .ok (.iload_n 1, 1) := by decide +kernel
theorem dX12_goesOn_16 : decode cX12_goesOn 16 = .ok (.iconst (-1), 1) := by decide +kernel
theorem dX12_goesOn_17 : decode cX12_goesOn 17 = .ok (.if_icmp .eq 17, 3) := by decide +kernel
theorem dX12_goesOn_20 : decode cX12_goesOn 20 = .ok (.iload_n 1, 1) := by decide +kernel
theorem dX12_goesOn_21 : decode cX12_goesOn 21 = .ok (.bipush 59, 2) := by decide +kernel
theorem dX12_goesOn_23 : decode cX12_goesOn 23 = .ok (.if_icmp .eq 11, 3) := by decide +kernel
theorem dX12_goesOn_26 : decode cX12_goesOn 26 = .ok (.aload_n 0, 1) := by decide +kernel
theorem dX12_goesOn_27 : decode cX12_goesOn 27 = .ok (.aload_n 0, 1) := by decide +kernel
theorem dX12_goesOn_28 : decode cX12_goesOn 28 = .ok (.getfield 120, 3) := by decide +kernel
theorem dX12_goesOn_31 : decode cX12_goesOn 31 = .ok (.invokevirtual 144, 3) := by decide +kernel
theorem dX12_goesOn_34 : decode cX12_goesOn 34 = .ok (.iload_n 1, 1) := by decide +kernel
theorem dX12_goesOn_35 : decode cX12_goesOn 35 = .ok (.bipush 59, 2) := by decide +kernel
theorem dX12_goesOn_37 : decode cX12_goesOn 37 = .ok (.if_icmp .eq 5, 3) := by decide +kernel
theorem dX12_goesOn_40 : decode cX12_goesOn 40 = .ok (.iconst 0, 1) := by decide +kernel
theorem dX12_goesOn_41 : decode cX12_goesOn 41 = .ok (.ireturn, 1) := by decide +kernel
theorem dX12_goesOn_42 : decode cX12_goesOn 42 = .ok (.aload_n 0, 1) := by decide +kernel
theorem dX12_goesOn_43 : decode cX12_goesOn 43 = .ok (.dup, 1) := by decide +kernel
theorem dX12_goesOn_44 : decode cX12_goesOn 44 = .ok (.getfield 120, 3) := by decide +kernel
theorem dX12_goesOn_47 : decode cX12_goesOn 47 = .ok (.iconst 1, 1) := by decide +kernel
theorem dX12_goesOn_48 : decode cX12_goesOn 48 = .ok (.iadd, 1) := by decide +kernel
theorem dX12_goesOn_49 : decode cX12_goesOn 49 = .ok (.putfield 120, 3) := by decide +kernel
theorem dX12_goesOn_52 : decode cX12_goesOn 52 = .ok (.iconst 1, 1) := by decide +kernel
theorem dX12_goesOn_53 : decode cX12_goesOn 53 = .ok (.ireturn, 1) := by decide +kernel
set_option maxHeartbeats 4000000 in
set_option maxRecDepth 100000 in
theorem B_X12_goesOn_0 {d : Nat} {ro : Nat → Nat} {J : JT} {Z : Option Value → Hp → Prop} (g : xCtx RX12 cX12_goesOn 2 d 0 0 yX12_goesOn.name ro J) (hr : xRet cX12_goesOn (some .boolean) 0 0 Z J) {μ : Hp} {a0 : Nat} (hs_a0 : hS μ a0 = some (15, 65))
    (h : (((hI μ a0 4) = (-1) → xCall d yX12_look cX12_look 1 (some .int) [.ref a0] μ ro (fun r2 μ3 => ∃ y4 : Int32, r2 = some (.int y4) ∧ ((y4 = (-1) → J μ3 0 0 34 [(0, .ref a0), (1, .int y4)] []) ∧ (¬ y4 = (-1) → ((y4 = 59 → J μ3 0 0 34 [(0, .ref a0), (1, .int y4)] []) ∧ (¬ y4 = 59 → hS μ3 a0 = some (15, 65) ∧ xCall d yX12_fails cX12_fails 2 none [.ref a0, .int (hI μ3 a0 3)] μ3 ro (fun r7 μ8 => r7 = none ∧ J μ8 0 0 34 [(0, .ref a0), (1, .int y4)] []))))))) ∧ (¬ (hI μ a0 4) = (-1) → Z (some (.int 0)) μ))) :
    J μ 0 0 0 [(0, .ref a0)] [] := by
  refine r_aload_n g dX12_goesOn_0 rfl ?_
  refine r_getI g fX12_127 rfl hs_a0 dX12_goesOn_1 ?_
  refine r_iconst g (-1) dX12_goesOn_4 (by decide) ?_
  refine r_icmp_eq g 10 dX12_goesOn_5 (by decide) (fun c1 => ?_) (fun c1 => ?_)
  · replace h := h.1 c1
    refine r_aload_n g dX12_goesOn_10 rfl ?_
    obtain ⟨d1, Z1, hc1, hd1, h1⟩ := h
    refine r_callV (st := []) (As := []) g sX12_130 iX12_look eX12_look rfl hs_a0 rfl (Nat.le_of_ble_eq_true rfl) dX12_goesOn_11 hd1 (Nat.le_refl 0) (Nat.le_refl 0) hc1 (fun r2 μ3 hZ1 => ?_)
    replace h := h1 _ _ hZ1
    clear h1 hc1 hd1 hZ1 Z1 d1
    obtain ⟨y4, rfl, h⟩ := h
    refine r_istore_n g [(1, .int y4), (0, .ref a0)] dX12_goesOn_14 (by decide) rfl ?_
    refine r_iload_n g dX12_goesOn_15 rfl ?_
    refine r_iconst g (-1) dX12_goesOn_16 (by decide) ?_
    refine r_icmp_eq g 34 dX12_goesOn_17 (by decide) (fun c5 => ?_) (fun c5 => ?_)
    · replace h := h.1 c5
      refine r_sub g (lv' := [(0, .ref a0), (1, .int y4)]) (⟨rfl, rfl, trivial⟩) ?_
      exact h
    · replace h := h.2 c5
      refine r_iload_n g dX12_goesOn_20 rfl ?_
      refine r_bipush g 59 dX12_goesOn_21 (by decide) ?_
      refine r_icmp_eq g 34 dX12_goesOn_23 (by decide) (fun c6 => ?_) (fun c6 => ?_)
      · replace h := h.1 c6
        refine r_sub g (lv' := [(0, .ref a0), (1, .int y4)]) (⟨rfl, rfl, trivial⟩) ?_
        exact h
      · replace h := h.2 c6
        refine r_aload_n g dX12_goesOn_26 rfl ?_
        refine r_aload_n g dX12_goesOn_27 rfl ?_
        obtain ⟨hs_a0_, h⟩ := h
        refine r_getI g fX12_120 rfl hs_a0_ dX12_goesOn_28 ?_
        obtain ⟨d1, Z1, hc1, hd1, h1⟩ := h
        refine r_callV (st := []) (As := [.int (hI μ3 a0 3)]) g sX12_144 iX12_fails eX12_fails rfl hs_a0_ rfl (Nat.le_of_ble_eq_true rfl) dX12_goesOn_31 hd1 (Nat.le_refl 0) (Nat.le_refl 0) hc1 (fun r7 μ8 hZ1 => ?_)
        replace h := h1 _ _ hZ1
        clear h1 hc1 hd1 hZ1 Z1 d1
        obtain ⟨rfl, h⟩ := h
        refine r_sub g (lv' := [(0, .ref a0), (1, .int y4)]) (⟨rfl, rfl, trivial⟩) ?_
        exact h
  · replace h := h.2 c1
    refine r_iconst g 0 dX12_goesOn_8 (by decide) ?_
    exact hr.2.1 _ rfl _ _ _ _ _ _ dX12_goesOn_9 (by decide) (Nat.le_refl 0) (Nat.le_refl 0) h
set_option maxHeartbeats 4000000 in
set_option maxRecDepth 100000 in
theorem B_X12_goesOn_34 {d : Nat} {ro : Nat → Nat} {J : JT} {Z : Option Value → Hp → Prop} (g : xCtx RX12 cX12_goesOn 2 d 0 0 yX12_goesOn.name ro J) (hr : xRet cX12_goesOn (some .boolean) 0 0 Z J) {μ : Hp} {a0 : Nat} {x1 : Int32} (hs_a0 : hS μ a0 = some (15, 65))
    (h : ((x1 = 59 → Z (some (.int 1)) (wI μ a0 3 ((hI μ a0 3) + 1))) ∧ (¬ x1 = 59 → Z (some (.int 0)) μ))) :
    J μ 0 0 34 [(0, .ref a0), (1, .int x1)] [] := by
  refine r_iload_n g dX12_goesOn_34 rfl ?_
  refine r_bipush g 59 dX12_goesOn_35 (by decide) ?_
  refine r_icmp_eq g 42 dX12_goesOn_37 (by decide) (fun c1 => ?_) (fun c1 => ?_)
  · replace h := h.1 c1
    refine r_aload_n g dX12_goesOn_42 rfl ?_
    refine r_dup g dX12_goesOn_43 rfl ?_
    refine r_getI g fX12_120 rfl hs_a0 dX12_goesOn_44 ?_
    refine r_iconst g 1 dX12_goesOn_47 (by decide) ?_
    refine r_iadd g dX12_goesOn_48 ?_
    refine r_putI g fX12_120 rfl hs_a0 rfl rfl dX12_goesOn_49 ?_
    refine r_iconst g 1 dX12_goesOn_52 (by decide) ?_
    exact hr.2.1 _ rfl _ _ _ _ _ _ dX12_goesOn_53 (by decide) (Nat.le_refl 0) (Nat.le_refl 0) h
  · replace h := h.2 c1
    refine r_iconst g 0 dX12_goesOn_40 (by decide) ?_
    exact hr.2.1 _ rfl _ _ _ _ _ _ dX12_goesOn_41 (by decide) (Nat.le_refl 0) (Nat.le_refl 0) h
theorem I_X12_goesOn {d : Nat} {ro : Nat → Nat} {Z : Option Value → Hp → Prop} {μ : Hp} {a0 : Nat} (h : ∀ J, xCtx RX12 cX12_goesOn 2 d 0 0 yX12_goesOn.name ro J → xRet cX12_goesOn (some .boolean) 0 0 Z J → J μ 0 0 0 [(0, .ref a0)] []) : xC d yX12_goesOn cX12_goesOn 2 (some .boolean) 0 0 [.ref a0] μ ro Z :=
  xC_intro (own := RX12) (lv := [(0, .ref a0)]) (by decide) rfl (Nat.le_of_ble_eq_true rfl) rfl (fun J g hr => r_sub g (lv' := [(0, .ref a0)]) (⟨rfl, trivial⟩) (h J g hr))
theorem dX12_readBook_0 : decode cX12_readBook 0 = .ok (.aload_n 0, 1) := by decide +kernel
theorem dX12_readBook_1 : decode cX12_readBook 1 = .ok (.iconst 0, 1) := by decide +kernel
theorem dX12_readBook_2 : decode cX12_readBook 2 = .ok (.putfield 171, 3) := by decide +kernel
theorem dX12_readBook_5 : decode cX12_readBook 5 = .ok (.aload_n 0, 1) := by decide +kernel
theorem dX12_readBook_6 : decode cX12_readBook 6 = .ok (.iconst 0, 1) := by decide +kernel
theorem dX12_readBook_7 : decode cX12_readBook 7 = .ok (.putfield 178, 3) := by decide +kernel
theorem dX12_readBook_10 : decode cX12_readBook 10 = .ok (.aload_n 0, 1) := by decide +kernel
theorem dX12_readBook_11 : decode cX12_readBook 11 = .ok (.iconst 0, 1) := by decide +kernel
theorem dX12_readBook_12 : decode cX12_readBook 12 = .ok (.putfield 195, 3) := by decide +kernel
theorem dX12_readBook_15 : decode cX12_readBook 15 = .ok (.aload_n 0, 1) := by decide +kernel
theorem dX12_readBook_16 : decode cX12_readBook 16 = .ok (.iconst 0, 1) := by decide +kernel
theorem dX12_readBook_17 : decode cX12_readBook 17 = .ok (.putfield 198, 3) := by decide +kernel
theorem dX12_readBook_20 : decode cX12_readBook 20 = .ok (.aload_n 0, 1) := by decide +kernel
theorem dX12_readBook_21 : decode cX12_readBook 21 = .ok (.bipush 50, 2) := by decide +kernel
theorem dX12_readBook_23 : decode cX12_readBook 23 = .ok (.putfield 219, 3) := by decide +kernel
theorem dX12_readBook_26 : decode cX12_readBook 26 = .ok (.iconst 0, 1) := by decide +kernel
theorem dX12_readBook_27 : decode cX12_readBook 27 = .ok (.istore_n 1, 1) := by decide +kernel
theorem dX12_readBook_28 : decode cX12_readBook 28 = .ok (.iconst 1, 1) := by decide +kernel
theorem dX12_readBook_29 : decode cX12_readBook 29 = .ok (.istore_n 2, 1) := by decide +kernel
theorem dX12_readBook_30 : decode cX12_readBook 30 = .ok (.iload_n 2, 1) := by decide +kernel
theorem dX12_readBook_31 : decode cX12_readBook 31 = .ok (.ifCond .eq 17, 3) := by decide +kernel
theorem dX12_readBook_34 : decode cX12_readBook 34 = .ok (.aload_n 0, 1) := by decide +kernel
theorem dX12_readBook_35 : decode cX12_readBook 35 = .ok (.iload_n 1, 1) := by decide +kernel
theorem dX12_readBook_36 : decode cX12_readBook 36 = .ok (.invokevirtual 222, 3) := by decide +kernel
theorem dX12_readBook_39 : decode cX12_readBook 39 = .ok (.istore_n 1, 1) := by decide +kernel
theorem dX12_readBook_40 : decode cX12_readBook 40 = .ok (.aload_n 0, 1) := by decide +kernel
theorem dX12_readBook_41 : decode cX12_readBook 41 = .ok (.invokevirtual 226, 3) := by decide +kernel
theorem dX12_readBook_44 : decode cX12_readBook 44 = .ok (.istore_n 2, 1) := by decide +kernel
theorem dX12_readBook_45 : decode cX12_readBook 45 = .ok (.goto (-15), 3) := by decide +kernel
theorem dX12_readBook_48 : decode cX12_readBook 48 = .ok (.aload_n 0, 1) := by decide +kernel
theorem dX12_readBook_49 : decode cX12_readBook 49 = .ok (.getfield 178, 3) := by decide +kernel
theorem dX12_readBook_52 : decode cX12_readBook 52 = .ok (.ifCond .ne 11, 3) := by decide +kernel
theorem dX12_readBook_55 : decode cX12_readBook 55 = .ok (.aload_n 0, 1) := by decide +kernel
theorem dX12_readBook_56 : decode cX12_readBook 56 = .ok (.aload_n 0, 1) := by decide +kernel
theorem dX12_readBook_57 : decode cX12_readBook 57 = .ok (.getfield 120, 3) := by decide +kernel
theorem dX12_readBook_60 : decode cX12_readBook 60 = .ok (.invokevirtual 144, 3) := by decide +kernel
theorem dX12_readBook_63 : decode cX12_readBook 63 = .ok (.return_, 1) := by decide +kernel
set_option maxHeartbeats 4000000 in
set_option maxRecDepth 100000 in
theorem B_X12_readBook_0 {d : Nat} {ro : Nat → Nat} {J : JT} {Z : Option Value → Hp → Prop} (g : xCtx RX12 cX12_readBook 3 d 0 0 yX12_readBook.name ro J) (hr : xRet cX12_readBook none 0 0 Z J) {μ : Hp} {a0 : Nat} (hs_a0 : hS μ a0 = some (15, 65))
    (h : J (wI (wI (wI (wI (wI μ a0 19 0) a0 21 0) a0 25 0) a0 23 0) a0 26 50) 0 0 30 [(0, .ref a0), (1, .int 0), (2, .int 1)] []) :
    J μ 0 0 0 [(0, .ref a0)] [] := by
  refine r_aload_n g dX12_readBook_0 rfl ?_
  refine r_iconst g 0 dX12_readBook_1 (by decide) ?_
  refine r_putI g fX12_171 rfl hs_a0 rfl rfl dX12_readBook_2 ?_
  refine r_aload_n g dX12_readBook_5 rfl ?_
  refine r_iconst g 0 dX12_readBook_6 (by decide) ?_
  refine r_putI g fX12_178 rfl hs_a0 rfl rfl dX12_readBook_7 ?_
  refine r_aload_n g dX12_readBook_10 rfl ?_
  refine r_iconst g 0 dX12_readBook_11 (by decide) ?_
  refine r_putI g fX12_195 rfl hs_a0 rfl rfl dX12_readBook_12 ?_
  refine r_aload_n g dX12_readBook_15 rfl ?_
  refine r_iconst g 0 dX12_readBook_16 (by decide) ?_
  refine r_putI g fX12_198 rfl hs_a0 rfl rfl dX12_readBook_17 ?_
  refine r_aload_n g dX12_readBook_20 rfl ?_
  refine r_bipush g 50 dX12_readBook_21 (by decide) ?_
  refine r_putI g fX12_219 rfl hs_a0 rfl rfl dX12_readBook_23 ?_
  refine r_iconst g 0 dX12_readBook_26 (by decide) ?_
  refine r_istore_n g [(1, .int 0), (0, .ref a0)] dX12_readBook_27 (by decide) rfl ?_
  refine r_iconst g 1 dX12_readBook_28 (by decide) ?_
  refine r_istore_n g [(2, .int 1), (1, .int 0), (0, .ref a0)] dX12_readBook_29 (by decide) rfl ?_
  refine r_sub g (lv' := [(0, .ref a0), (1, .int 0), (2, .int 1)]) (⟨rfl, rfl, rfl, trivial⟩) ?_
  exact h
set_option maxHeartbeats 4000000 in
set_option maxRecDepth 100000 in
theorem B_X12_readBook_30 {d : Nat} {ro : Nat → Nat} {J : JT} {Z : Option Value → Hp → Prop} (g : xCtx RX12 cX12_readBook 3 d 0 0 yX12_readBook.name ro J) (hr : xRet cX12_readBook none 0 0 Z J) {μ : Hp} {a0 : Nat} {x1 : Int32} {x2 : Int32} (hs_a0 : hS μ a0 = some (15, 65))
    (h : ((x2 = 0 → ((¬ (hI μ a0 21) = 0 → Z none μ) ∧ ((hI μ a0 21) = 0 → xCall d yX12_fails cX12_fails 2 none [.ref a0, .int (hI μ a0 3)] μ ro (fun r3 μ4 => r3 = none ∧ Z none μ4)))) ∧ (¬ x2 = 0 → xCall d yX12_readLine cX12_readLine 4 (some .boolean) [.ref a0, .int x1] μ ro (fun r5 μ6 => ∃ y7 : Int32, r5 = some (.int y7) ∧ hS μ6 a0 = some (15, 65) ∧ xCall d yX12_goesOn cX12_goesOn 2 (some .boolean) [.ref a0] μ6 ro (fun r8 μ9 => ∃ y10 : Int32, r8 = some (.int y10) ∧ J μ9 0 0 30 [(0, .ref a0), (1, .int y7), (2, .int y10)] []))))) :
    J μ 0 0 30 [(0, .ref a0), (1, .int x1), (2, .int x2)] [] := by
  refine r_iload_n g dX12_readBook_30 rfl ?_
  refine r_if_eq g 48 dX12_readBook_31 (by decide) (fun c1 => ?_) (fun c1 => ?_)
  · replace h := h.1 c1
    refine r_aload_n g dX12_readBook_48 rfl ?_
    refine r_getI g fX12_178 rfl hs_a0 dX12_readBook_49 ?_
    refine r_if_ne g 63 dX12_readBook_52 (by decide) (fun c2 => ?_) (fun c2 => ?_)
    · replace h := h.1 c2
      exact hr.1 rfl _ _ _ _ _ dX12_readBook_63 (Nat.le_refl 0) (Nat.le_refl 0) h
    · replace h := h.2 c2
      refine r_aload_n g dX12_readBook_55 rfl ?_
      refine r_aload_n g dX12_readBook_56 rfl ?_
      refine r_getI g fX12_120 rfl hs_a0 dX12_readBook_57 ?_
      obtain ⟨d1, Z1, hc1, hd1, h1⟩ := h
      refine r_callV (st := []) (As := [.int (hI μ a0 3)]) g sX12_144 iX12_fails eX12_fails rfl hs_a0 rfl (Nat.le_of_ble_eq_true rfl) dX12_readBook_60 hd1 (Nat.le_refl 0) (Nat.le_refl 0) hc1 (fun r3 μ4 hZ1 => ?_)
      replace h := h1 _ _ hZ1
      clear h1 hc1 hd1 hZ1 Z1 d1
      obtain ⟨rfl, h⟩ := h
      exact hr.1 rfl _ _ _ _ _ dX12_readBook_63 (Nat.le_refl 0) (Nat.le_refl 0) h
  · replace h := h.2 c1
    refine r_aload_n g dX12_readBook_34 rfl ?_
    refine r_iload_n g dX12_readBook_35 rfl ?_
    obtain ⟨d1, Z1, hc1, hd1, h1⟩ := h
    refine r_callV (st := []) (As := [.int x1]) g sX12_222 iX12_readLine eX12_readLine rfl hs_a0 rfl (Nat.le_of_ble_eq_true rfl) dX12_readBook_36 hd1 (Nat.le_refl 0) (Nat.le_refl 0) hc1 (fun r5 μ6 hZ1 => ?_)
    replace h := h1 _ _ hZ1
    clear h1 hc1 hd1 hZ1 Z1 d1
    obtain ⟨y7, rfl, h⟩ := h
    refine r_istore_n g [(1, .int y7), (0, .ref a0), (2, .int x2)] dX12_readBook_39 (by decide) rfl ?_
    refine r_aload_n g dX12_readBook_40 rfl ?_
    obtain ⟨hs_a0__, h⟩ := h
    obtain ⟨d1, Z1, hc1, hd1, h1⟩ := h
    refine r_callV (st := []) (As := []) g sX12_226 iX12_goesOn eX12_goesOn rfl hs_a0__ rfl (Nat.le_of_ble_eq_true rfl) dX12_readBook_41 hd1 (Nat.le_refl 0) (Nat.le_refl 0) hc1 (fun r8 μ9 hZ1 => ?_)
    replace h := h1 _ _ hZ1
    clear h1 hc1 hd1 hZ1 Z1 d1
    obtain ⟨y10, rfl, h⟩ := h
    refine r_istore_n g [(2, .int y10), (1, .int y7), (0, .ref a0)] dX12_readBook_44 (by decide) rfl ?_
    refine r_goto g 30 dX12_readBook_45 (by decide) ?_
    refine r_sub g (lv' := [(0, .ref a0), (1, .int y7), (2, .int y10)]) (⟨rfl, rfl, rfl, trivial⟩) ?_
    exact h
theorem I_X12_readBook {d : Nat} {ro : Nat → Nat} {Z : Option Value → Hp → Prop} {μ : Hp} {a0 : Nat} (h : ∀ J, xCtx RX12 cX12_readBook 3 d 0 0 yX12_readBook.name ro J → xRet cX12_readBook none 0 0 Z J → J μ 0 0 0 [(0, .ref a0)] []) : xC d yX12_readBook cX12_readBook 3 none 0 0 [.ref a0] μ ro Z :=
  xC_intro (own := RX12) (lv := [(0, .ref a0)]) (by decide) rfl (Nat.le_of_ble_eq_true rfl) rfl (fun J g hr => r_sub g (lv' := [(0, .ref a0)]) (⟨rfl, trivial⟩) (h J g hr))
theorem dX12_readStep_0 : decode cX12_readStep 0 = .ok (.iconst 5, 1) := by decide +kernel
theorem dX12_readStep_1 : decode cX12_readStep 1 = .ok (.bipush 48, 2) := by decide +kernel
theorem dX12_readStep_3 : decode cX12_readStep 3 = .ok (.iload_n 1, 1) := by decide +kernel
theorem dX12_readStep_4 : decode cX12_readStep 4 = .ok (.iadd, 1) := by decide +kernel
theorem dX12_readStep_5 : decode cX12_readStep 5 = .ok (.imul, 1) := by decide +kernel
theorem dX12_readStep_6 : decode cX12_readStep 6 = .ok (.istore_n 2, 1) := by decide +kernel
theorem dX12_readStep_7 : decode cX12_readStep 7 = .ok (.aload_n 0, 1) := by decide +kernel
theorem dX12_readStep_8 : decode cX12_readStep 8 = .ok (.invokevirtual 165, 3) := by decide +kernel
theorem dX12_readStep_11 : decode cX12_readStep 11 = .ok (.aload_n 0, 1) := by decide +kernel
theorem dX12_readStep_12 : decode cX12_readStep 12 = .ok (.getfield 127, 3) := by decide +kernel
theorem dX12_readStep_15 : decode cX12_readStep 15 = .ok (.iconst (-1), 1) := by decide +kernel
theorem dX12_readStep_16 : decode cX12_readStep 16 = .ok (.if_icmp .ne 16, 3) := by decide +kernel
theorem dX12_readStep_19 : decode cX12_readStep 19 = .ok (.aload_n 0, 1) := by decide +kernel
theorem dX12_readStep_20 : decode cX12_readStep 20 = .ok (.getfield 136, 3) := by decide +kernel
theorem dX12_readStep_23 : decode cX12_readStep 23 = .ok (.invokestatic 167, 3) := by decide +kernel
theorem dX12_readStep_26 : decode cX12_readStep 26 = .ok (.bipush 7, 2) := by decide +kernel
theorem dX12_readStep_28 : decode cX12_readStep 28 = .ok (.isub, 1) := by decide +kernel
theorem dX12_readStep_29 : decode cX12_readStep 29 = .ok (.goto 4, 3) := by decide +kernel
theorem dX12_readStep_32 : decode cX12_readStep 32 = .ok (.iconst (-1), 1) := by decide +kernel
theorem dX12_readStep_33 : decode cX12_readStep 33 = .ok (.istore_n 3, 1) := by decide +kernel
theorem dX12_readStep_34 : decode cX12_readStep 34 = .ok (.aload_n 0, 1) := by decide +kernel
theorem dX12_readStep_35 : decode cX12_readStep 35 = .ok (.getfield 127, 3) := by decide +kernel
theorem dX12_readStep_38 : decode cX12_readStep 38 = .ok (.iconst (-1), 1) := by decide +kernel
theorem dX12_readStep_39 : decode cX12_readStep 39 = .ok (.if_icmp .ne 15, 3) := by decide +kernel
theorem dX12_readStep_42 : decode cX12_readStep 42 = .ok (.iload_n 3, 1) := by decide +kernel
theorem dX12_readStep_43 : decode cX12_readStep 43 = .ok (.ifCond .ge 11, 3) := by decide +kernel
theorem dX12_readStep_46 : decode cX12_readStep 46 = .ok (.aload_n 0, 1) := by decide +kernel
theorem dX12_readStep_47 : decode cX12_readStep 47 = .ok (.aload_n 0, 1) := by decide +kernel
theorem dX12_readStep_48 : decode cX12_readStep 48 = .ok (.getfield 133, 3) := by decide +kernel
theorem dX12_readStep_51 : decode cX12_readStep 51 = .ok (.invokevirtual 144, 3) := by decide +kernel
theorem dX12_readStep_54 : decode cX12_readStep 54 = .ok (.aload_n 0, 1) := by decide +kernel
theorem dX12_readStep_55 : decode cX12_readStep 55 = .ok (.getfield 127, 3) := by decide +kernel
theorem dX12_readStep_58 : decode cX12_readStep 58 = .ok (.iconst (-1), 1) := by decide +kernel
theorem dX12_readStep_59 : decode cX12_readStep 59 = .ok (.if_icmp .eq 4, 3) := by decide +kernel
theorem dX12_readStep_62 : decode cX12_readStep 62 = .ok (.return_, 1) := by decide +kernel
theorem dX12_readStep_63 : decode cX12_readStep 63 = .ok (.aload_n 0, 1) := by decide +kernel
theorem dX12_readStep_64 : decode cX12_readStep 64 = .ok (.getfield 51, 3) := by decide +kernel
theorem dX12_readStep_67 : decode cX12_readStep 67 = .ok (.iload_n 2, 1) := by decide +kernel
theorem dX12_readStep_68 : decode cX12_readStep 68 = .ok (.iload_n 3, 1) := by decide +kernel
theorem dX12_readStep_69 : decode cX12_readStep 69 = .ok (.iastore, 1) := by decide +kernel
theorem dX12_readStep_70 : decode cX12_readStep 70 = .ok (.iload_n 3, 1) := by decide +kernel
theorem dX12_readStep_71 : decode cX12_readStep 71 = .ok (.ifCond .ne 7, 3) := by decide +kernel
theorem dX12_readStep_74 : decode cX12_readStep 74 = .ok (.iconst 4, 1) := by decide +kernel
theorem dX12_readStep_75 : decode cX12_readStep 75 = .ok (.goto 22, 3) := by decide +kernel
theorem dX12_readStep_78 : decode cX12_readStep 78 = .ok (.iload_n 3, 1) := by decide +kernel
theorem dX12_readStep_79 : decode cX12_readStep 79 = .ok (.iconst 1, 1) := by decide +kernel
theorem dX12_readStep_80 : decode cX12_readStep 80 = .ok (.if_icmp .ne 7, 3) := by decide +kernel
theorem dX12_readStep_83 : decode cX12_readStep 83 = .ok (.iconst 1, 1) := by decide +kernel
theorem dX12_readStep_84 : decode cX12_readStep 84 = .ok (.goto 13, 3) := by decide +kernel
theorem dX12_readStep_87 : decode cX12_readStep 87 = .ok (.iload_n 3, 1) := by decide +kernel
theorem dX12_readStep_88 : decode cX12_readStep 88 = .ok (.iconst 3, 1) := by decide +kernel
theorem dX12_readStep_89 : decode cX12_readStep 89 = .ok (.if_icmp .ne 7, 3) := by decide +kernel
theorem dX12_readStep_92 : decode cX12_readStep 92 = .ok (.iconst 3, 1) := by decide +kernel
theorem dX12_readStep_93 : decode cX12_readStep 93 = .ok (.goto 4, 3) := by decide +kernel
theorem dX12_readStep_96 : decode cX12_readStep 96 = .ok (.iconst 2, 1) := by decide +kernel
theorem dX12_readStep_97 : decode cX12_readStep 97 = .ok (.istore 4, 2) := by decide +kernel
theorem dX12_readStep_99 : decode cX12_readStep 99 = .ok (.iconst 0, 1) := by decide +kernel
theorem dX12_readStep_100 : decode cX12_readStep 100 = .ok (.istore 5, 2) := by decide +kernel
theorem dX12_readStep_102 : decode cX12_readStep 102 = .ok (.iload 5, 2) := by decide +kernel
theorem dX12_readStep_104 : decode cX12_readStep 104 = .ok (.iconst 4, 1) := by decide +kernel
theorem dX12_readStep_105 : decode cX12_readStep 105 = .ok (.if_icmp .ge 39, 3) := by decide +kernel
theorem dX12_readStep_108 : decode cX12_readStep 108 = .ok (.aload_n 0, 1) := by decide +kernel
theorem dX12_readStep_109 : decode cX12_readStep 109 = .ok (.getfield 51, 3) := by decide +kernel
theorem dX12_readStep_112 : decode cX12_readStep 112 = .ok (.iload_n 2, 1) := by decide +kernel
theorem dX12_readStep_113 : decode cX12_readStep 113 = .ok (.iconst 1, 1) := by decide +kernel
theorem dX12_readStep_114 : decode cX12_readStep 114 = .ok (.iadd, 1) := by decide +kernel
theorem dX12_readStep_115 : decode cX12_readStep 115 = .ok (.iload 5, 2) := by decide +kernel
theorem dX12_readStep_117 : decode cX12_readStep 117 = .ok (.iadd, 1) := by decide +kernel
theorem dX12_readStep_118 : decode cX12_readStep 118 = .ok (.iload 5, 2) := by decide +kernel
theorem dX12_readStep_120 : decode cX12_readStep 120 = .ok (.iload 4, 2) := by decide +kernel
theorem dX12_readStep_122 : decode cX12_readStep 122 = .ok (.if_icmp .ge 14, 3) := by decide +kernel
theorem dX12_readStep_125 : decode cX12_readStep 125 = .ok (.aload_n 0, 1) := by decide +kernel
theorem dX12_readStep_126 : decode cX12_readStep 126 = .ok (.iconst 0, 1) := by decide +kernel
theorem dX12_readStep_127 : decode cX12_readStep 127 = .ok (.sipush 9999, 3) := by decide +kernel
theorem dX12_readStep_130 : decode cX12_readStep 130 = .ok (.invokevirtual 185, 3) := by decide +kernel
theorem dX12_readStep_133 : decode cX12_readStep 133 = .ok (.goto 4, 3) := by decide +kernel
theorem dX12_readStep_136 : decode cX12_readStep 136 = .ok (.iconst (-1), 1) := by decide +kernel
theorem dX12_readStep_137 : decode cX12_readStep 137 = .ok (.iastore, 1) := by decide +kernel
theorem dX12_readStep_138 : decode cX12_readStep 138 = .ok (.iinc 5 1, 3) := by decide +kernel
theorem dX12_readStep_141 : decode cX12_readStep 141 = .ok (.goto (-39), 3) := by decide +kernel
theorem dX12_readStep_144 : decode cX12_readStep 144 = .ok (.return_, 1) := by decide +kernel
set_option maxHeartbeats 4000000 in
set_option maxRecDepth 100000 in
theorem B_X12_readStep_0 {d : Nat} {ro : Nat → Nat} {J : JT} {Z : Option Value → Hp → Prop} (g : xCtx RX12 cX12_readStep 6 d 0 0 yX12_readStep.name ro J) (hr : xRet cX12_readStep none 0 0 Z J) {μ : Hp} {a0 : Nat} {x1 : Int32} (hs_a0 : hS μ a0 = some (15, 65))
    (h : xCall d yX12_word cX12_word 2 none [.ref a0] μ ro (fun r1 μ2 => r1 = none ∧ hS μ2 a0 = some (15, 65) ∧ ((¬ (hI μ2 a0 4) = (-1) → ((¬ (hI μ2 a0 4) = (-1) → J μ2 0 0 54 [(0, .ref a0), (2, .int (5 * (48 + x1))), (3, .int (-1))] []) ∧ ((hI μ2 a0 4) = (-1) → xCall d yX12_fails cX12_fails 2 none [.ref a0, .int (hI μ2 a0 5)] μ2 ro (fun r5 μ6 => r5 = none ∧ J μ6 0 0 54 [(0, .ref a0), (2, .int (5 * (48 + x1))), (3, .int (-1))] [])))) ∧ ((hI μ2 a0 4) = (-1) → xCall d yX12_known cX12_known 6 (some .int) [.long (hL μ2 a0 6)] μ2 ro (fun r7 μ8 => ∃ y9 : Int32, r7 = some (.int y9) ∧ hS μ8 a0 = some (15, 65) ∧ ((¬ (hI μ8 a0 4) = (-1) → J μ8 0 0 54 [(0, .ref a0), (2, .int (5 * (48 + x1))), (3, .int (y9 - 7))] []) ∧ ((hI μ8 a0 4) = (-1) → ((0 ≤ (y9 - 7) → J μ8 0 0 54 [(0, .ref a0), (2, .int (5 * (48 + x1))), (3, .int (y9 - 7))] []) ∧ (¬ 0 ≤ (y9 - 7) → xCall d yX12_fails cX12_fails 2 none [.ref a0, .int (hI μ8 a0 5)] μ8 ro (fun r12 μ13 => r12 = none ∧ J μ13 0 0 54 [(0, .ref a0), (2, .int (5 * (48 + x1))), (3, .int (y9 - 7))] [])))))))))) :
    J μ 0 0 0 [(0, .ref a0), (1, .int x1)] [] := by
  refine r_iconst g 5 dX12_readStep_0 (by decide) ?_
  refine r_bipush g 48 dX12_readStep_1 (by decide) ?_
  refine r_iload_n g dX12_readStep_3 rfl ?_
  refine r_iadd g dX12_readStep_4 ?_
  refine r_imul g dX12_readStep_5 ?_
  refine r_istore_n g [(2, .int (5 * (48 + x1))), (0, .ref a0), (1, .int x1)] dX12_readStep_6 (by decide) rfl ?_
  refine r_aload_n g dX12_readStep_7 rfl ?_
  obtain ⟨d1, Z1, hc1, hd1, h1⟩ := h
  refine r_callV (st := []) (As := []) g sX12_165 iX12_word eX12_word rfl hs_a0 rfl (Nat.le_of_ble_eq_true rfl) dX12_readStep_8 hd1 (Nat.le_refl 0) (Nat.le_refl 0) hc1 (fun r1 μ2 hZ1 => ?_)
  replace h := h1 _ _ hZ1
  clear h1 hc1 hd1 hZ1 Z1 d1
  obtain ⟨rfl, h⟩ := h
  refine r_aload_n g dX12_readStep_11 rfl ?_
  obtain ⟨hs_a0_, h⟩ := h
  refine r_getI g fX12_127 rfl hs_a0_ dX12_readStep_12 ?_
  refine r_iconst g (-1) dX12_readStep_15 (by decide) ?_
  refine r_icmp_ne g 32 dX12_readStep_16 (by decide) (fun c3 => ?_) (fun c3 => ?_)
  · replace h := h.1 c3
    refine r_iconst g (-1) dX12_readStep_32 (by decide) ?_
    refine r_istore_n g [(3, .int (-1)), (2, .int (5 * (48 + x1))), (0, .ref a0), (1, .int x1)] dX12_readStep_33 (by decide) rfl ?_
    refine r_aload_n g dX12_readStep_34 rfl ?_
    refine r_getI g fX12_127 rfl hs_a0_ dX12_readStep_35 ?_
    refine r_iconst g (-1) dX12_readStep_38 (by decide) ?_
    refine r_icmp_ne g 54 dX12_readStep_39 (by decide) (fun c4 => ?_) (fun c4 => ?_)
    · replace h := h.1 c4
      refine r_sub g (lv' := [(0, .ref a0), (2, .int (5 * (48 + x1))), (3, .int (-1))]) (⟨rfl, rfl, rfl, trivial⟩) ?_
      exact h
    · replace h := h.2 c4
      refine r_iload_n g dX12_readStep_42 rfl ?_
      refine r_if_ge g 54 dX12_readStep_43 (by decide) (fun hz => absurd hz (by decide)) (fun _ => ?_)
      refine r_aload_n g dX12_readStep_46 rfl ?_
      refine r_aload_n g dX12_readStep_47 rfl ?_
      refine r_getI g fX12_133 rfl hs_a0_ dX12_readStep_48 ?_
      obtain ⟨d1, Z1, hc1, hd1, h1⟩ := h
      refine r_callV (st := []) (As := [.int (hI μ2 a0 5)]) g sX12_144 iX12_fails eX12_fails rfl hs_a0_ rfl (Nat.le_of_ble_eq_true rfl) dX12_readStep_51 hd1 (Nat.le_refl 0) (Nat.le_refl 0) hc1 (fun r5 μ6 hZ1 => ?_)
      replace h := h1 _ _ hZ1
      clear h1 hc1 hd1 hZ1 Z1 d1
      obtain ⟨rfl, h⟩ := h
      refine r_sub g (lv' := [(0, .ref a0), (2, .int (5 * (48 + x1))), (3, .int (-1))]) (⟨rfl, rfl, rfl, trivial⟩) ?_
      exact h
  · replace h := h.2 c3
    refine r_aload_n g dX12_readStep_19 rfl ?_
    refine r_getL g fX12_136 rfl hs_a0_ dX12_readStep_20 ?_
    obtain ⟨d1, Z1, hc1, hd1, h1⟩ := h
    refine r_callS (st := []) (As := [.long (hL μ2 a0 6)]) g sX12_167 iX12_known rfl (Nat.le_of_ble_eq_true rfl) dX12_readStep_23 hd1 (Nat.le_refl 0) (Nat.le_refl 0) hc1 (fun r7 μ8 hZ1 => ?_)
    replace h := h1 _ _ hZ1
    clear h1 hc1 hd1 hZ1 Z1 d1
    obtain ⟨y9, rfl, h⟩ := h
    refine r_bipush g 7 dX12_readStep_26 (by decide) ?_
    refine r_isub g dX12_readStep_28 ?_
    refine r_goto g 33 dX12_readStep_29 (by decide) ?_
    refine r_istore_n g [(3, .int (y9 - 7)), (2, .int (5 * (48 + x1))), (0, .ref a0), (1, .int x1)] dX12_readStep_33 (by decide) rfl ?_
    refine r_aload_n g dX12_readStep_34 rfl ?_
    obtain ⟨hs_a0__, h⟩ := h
    refine r_getI g fX12_127 rfl hs_a0__ dX12_readStep_35 ?_
    refine r_iconst g (-1) dX12_readStep_38 (by decide) ?_
    refine r_icmp_ne g 54 dX12_readStep_39 (by decide) (fun c10 => ?_) (fun c10 => ?_)
    · replace h := h.1 c10
      refine r_sub g (lv' := [(0, .ref a0), (2, .int (5 * (48 + x1))), (3, .int (y9 - 7))]) (⟨rfl, rfl, rfl, trivial⟩) ?_
      exact h
    · replace h := h.2 c10
      refine r_iload_n g dX12_readStep_42 rfl ?_
      refine r_if_ge g 54 dX12_readStep_43 (by decide) (fun c11 => ?_) (fun c11 => ?_)
      · replace h := h.1 c11
        refine r_sub g (lv' := [(0, .ref a0), (2, .int (5 * (48 + x1))), (3, .int (y9 - 7))]) (⟨rfl, rfl, rfl, trivial⟩) ?_
        exact h
      · replace h := h.2 c11
        refine r_aload_n g dX12_readStep_46 rfl ?_
        refine r_aload_n g dX12_readStep_47 rfl ?_
        refine r_getI g fX12_133 rfl hs_a0__ dX12_readStep_48 ?_
        obtain ⟨d1, Z1, hc1, hd1, h1⟩ := h
        refine r_callV (st := []) (As := [.int (hI μ8 a0 5)]) g sX12_144 iX12_fails eX12_fails rfl hs_a0__ rfl (Nat.le_of_ble_eq_true rfl) dX12_readStep_51 hd1 (Nat.le_refl 0) (Nat.le_refl 0) hc1 (fun r12 μ13 hZ1 => ?_)
        replace h := h1 _ _ hZ1
        clear h1 hc1 hd1 hZ1 Z1 d1
        obtain ⟨rfl, h⟩ := h
        refine r_sub g (lv' := [(0, .ref a0), (2, .int (5 * (48 + x1))), (3, .int (y9 - 7))]) (⟨rfl, rfl, rfl, trivial⟩) ?_
        exact h
set_option maxHeartbeats 4000000 in
set_option maxRecDepth 100000 in
theorem B_X12_readStep_54 {d : Nat} {ro : Nat → Nat} {J : JT} {Z : Option Value → Hp → Prop} (g : xCtx RX12 cX12_readStep 6 d 0 0 yX12_readStep.name ro J) (hr : xRet cX12_readStep none 0 0 Z J) {μ : Hp} {a0 : Nat} {x2 : Int32} {x3 : Int32} {a0_script : Nat} {N_a0_script : Nat} (hs_a0 : hS μ a0 = some (15, 65)) (hr_a0_script : hR μ a0 28 = some a0_script) (hs_a0_script : hS μ a0_script = some (0, N_a0_script))
    (h : (((hI μ a0 4) = (-1) → vp_in x2 N_a0_script ∧ ((¬ x3 = 0 → ((¬ x3 = 1 → ((¬ x3 = 3 → J (wI μ a0_script x2.toNatClampNeg x3) 0 0 102 [(0, .ref a0), (2, .int x2), (4, .int 2), (5, .int 0)] []) ∧ (x3 = 3 → J (wI μ a0_script x2.toNatClampNeg x3) 0 0 102 [(0, .ref a0), (2, .int x2), (4, .int 3), (5, .int 0)] []))) ∧ (x3 = 1 → J (wI μ a0_script x2.toNatClampNeg x3) 0 0 102 [(0, .ref a0), (2, .int x2), (4, .int 1), (5, .int 0)] []))) ∧ (x3 = 0 → J (wI μ a0_script x2.toNatClampNeg x3) 0 0 102 [(0, .ref a0), (2, .int x2), (4, .int 4), (5, .int 0)] []))) ∧ (¬ (hI μ a0 4) = (-1) → Z none μ))) :
    J μ 0 0 54 [(0, .ref a0), (2, .int x2), (3, .int x3)] [] := by
  refine r_aload_n g dX12_readStep_54 rfl ?_
  refine r_getI g fX12_127 rfl hs_a0 dX12_readStep_55 ?_
  refine r_iconst g (-1) dX12_readStep_58 (by decide) ?_
  refine r_icmp_eq g 63 dX12_readStep_59 (by decide) (fun c1 => ?_) (fun c1 => ?_)
  · replace h := h.1 c1
    refine r_aload_n g dX12_readStep_63 rfl ?_
    refine r_getR g fX12_51 rfl hs_a0 hr_a0_script dX12_readStep_64 ?_
    refine r_iload_n g dX12_readStep_67 rfl ?_
    refine r_iload_n g dX12_readStep_68 rfl ?_
    obtain ⟨hi2, h⟩ := h
    refine r_iastore g hs_a0_script hi2 dX12_readStep_69 ?_
    refine r_iload_n g dX12_readStep_70 rfl ?_
    refine r_if_ne g 78 dX12_readStep_71 (by decide) (fun c3 => ?_) (fun c3 => ?_)
    · replace h := h.1 c3
      refine r_iload_n g dX12_readStep_78 rfl ?_
      refine r_iconst g 1 dX12_readStep_79 (by decide) ?_
      refine r_icmp_ne g 87 dX12_readStep_80 (by decide) (fun c4 => ?_) (fun c4 => ?_)
      · replace h := h.1 c4
        refine r_iload_n g dX12_readStep_87 rfl ?_
        refine r_iconst g 3 dX12_readStep_88 (by decide) ?_
        refine r_icmp_ne g 96 dX12_readStep_89 (by decide) (fun c5 => ?_) (fun c5 => ?_)
        · replace h := h.1 c5
          refine r_iconst g 2 dX12_readStep_96 (by decide) ?_
          refine r_istore g [(4, .int 2), (0, .ref a0), (2, .int x2), (3, .int x3)] dX12_readStep_97 (by decide) rfl ?_
          refine r_iconst g 0 dX12_readStep_99 (by decide) ?_
          refine r_istore g [(5, .int 0), (4, .int 2), (0, .ref a0), (2, .int x2), (3, .int x3)] dX12_readStep_100 (by decide) rfl ?_
          refine r_sub g (lv' := [(0, .ref a0), (2, .int x2), (4, .int 2), (5, .int 0)]) (⟨rfl, rfl, rfl, rfl, trivial⟩) ?_
          exact h
        · replace h := h.2 c5
          refine r_iconst g 3 dX12_readStep_92 (by decide) ?_
          refine r_goto g 97 dX12_readStep_93 (by decide) ?_
          refine r_istore g [(4, .int 3), (0, .ref a0), (2, .int x2), (3, .int x3)] dX12_readStep_97 (by decide) rfl ?_
          refine r_iconst g 0 dX12_readStep_99 (by decide) ?_
          refine r_istore g [(5, .int 0), (4, .int 3), (0, .ref a0), (2, .int x2), (3, .int x3)] dX12_readStep_100 (by decide) rfl ?_
          refine r_sub g (lv' := [(0, .ref a0), (2, .int x2), (4, .int 3), (5, .int 0)]) (⟨rfl, rfl, rfl, rfl, trivial⟩) ?_
          exact h
      · replace h := h.2 c4
        refine r_iconst g 1 dX12_readStep_83 (by decide) ?_
        refine r_goto g 97 dX12_readStep_84 (by decide) ?_
        refine r_istore g [(4, .int 1), (0, .ref a0), (2, .int x2), (3, .int x3)] dX12_readStep_97 (by decide) rfl ?_
        refine r_iconst g 0 dX12_readStep_99 (by decide) ?_
        refine r_istore g [(5, .int 0), (4, .int 1), (0, .ref a0), (2, .int x2), (3, .int x3)] dX12_readStep_100 (by decide) rfl ?_
        refine r_sub g (lv' := [(0, .ref a0), (2, .int x2), (4, .int 1), (5, .int 0)]) (⟨rfl, rfl, rfl, rfl, trivial⟩) ?_
        exact h
    · replace h := h.2 c3
      refine r_iconst g 4 dX12_readStep_74 (by decide) ?_
      refine r_goto g 97 dX12_readStep_75 (by decide) ?_
      refine r_istore g [(4, .int 4), (0, .ref a0), (2, .int x2), (3, .int x3)] dX12_readStep_97 (by decide) rfl ?_
      refine r_iconst g 0 dX12_readStep_99 (by decide) ?_
      refine r_istore g [(5, .int 0), (4, .int 4), (0, .ref a0), (2, .int x2), (3, .int x3)] dX12_readStep_100 (by decide) rfl ?_
      refine r_sub g (lv' := [(0, .ref a0), (2, .int x2), (4, .int 4), (5, .int 0)]) (⟨rfl, rfl, rfl, rfl, trivial⟩) ?_
      exact h
  · replace h := h.2 c1
    exact hr.1 rfl _ _ _ _ _ dX12_readStep_62 (Nat.le_refl 0) (Nat.le_refl 0) h
set_option maxHeartbeats 4000000 in
set_option maxRecDepth 100000 in
theorem B_X12_readStep_102 {d : Nat} {ro : Nat → Nat} {J : JT} {Z : Option Value → Hp → Prop} (g : xCtx RX12 cX12_readStep 6 d 0 0 yX12_readStep.name ro J) (hr : xRet cX12_readStep none 0 0 Z J) {μ : Hp} {a0 : Nat} {x2 : Int32} {x4 : Int32} {x5 : Int32} {a0_script : Nat} {N_a0_script : Nat} (hs_a0 : hS μ a0 = some (15, 65)) (hr_a0_script : hR μ a0 28 = some a0_script) (hs_a0_script : hS μ a0_script = some (0, N_a0_script))
    (h : ((4 ≤ x5 → Z none μ) ∧ (¬ 4 ≤ x5 → ((x4 ≤ x5 → vp_in ((x2 + 1) + x5) N_a0_script ∧ J (wI μ a0_script (((x2 + 1) + x5).toNatClampNeg) (-1)) 0 0 102 [(0, .ref a0), (2, .int x2), (4, .int x4), (5, .int (x5 + 1))] []) ∧ (¬ x4 ≤ x5 → xCall d yX12_number cX12_number 5 (some .int) [.ref a0, .int 0, .int 9999] μ ro (fun r4 μ5 => ∃ y6 : Int32, r4 = some (.int y6) ∧ ∃ N7 : Nat, hS μ5 a0_script = some (0, N7) ∧ vp_in ((x2 + 1) + x5) N7 ∧ J (wI μ5 a0_script (((x2 + 1) + x5).toNatClampNeg) y6) 0 0 102 [(0, .ref a0), (2, .int x2), (4, .int x4), (5, .int (x5 + 1))] [])))))) :
    J μ 0 0 102 [(0, .ref a0), (2, .int x2), (4, .int x4), (5, .int x5)] [] := by
  refine r_iload g dX12_readStep_102 rfl ?_
  refine r_iconst g 4 dX12_readStep_104 (by decide) ?_
  refine r_icmp_ge g 144 dX12_readStep_105 (by decide) (fun c1 => ?_) (fun c1 => ?_)
  · replace h := h.1 c1
    exact hr.1 rfl _ _ _ _ _ dX12_readStep_144 (Nat.le_refl 0) (Nat.le_refl 0) h
  · replace h := h.2 c1
    refine r_aload_n g dX12_readStep_108 rfl ?_
    refine r_getR g fX12_51 rfl hs_a0 hr_a0_script dX12_readStep_109 ?_
    refine r_iload_n g dX12_readStep_112 rfl ?_
    refine r_iconst g 1 dX12_readStep_113 (by decide) ?_
    refine r_iadd g dX12_readStep_114 ?_
    refine r_iload g dX12_readStep_115 rfl ?_
    refine r_iadd g dX12_readStep_117 ?_
    refine r_iload g dX12_readStep_118 rfl ?_
    refine r_iload g dX12_readStep_120 rfl ?_
    refine r_icmp_ge g 136 dX12_readStep_122 (by decide) (fun c2 => ?_) (fun c2 => ?_)
    · replace h := h.1 c2
      refine r_iconst g (-1) dX12_readStep_136 (by decide) ?_
      obtain ⟨hi3, h⟩ := h
      refine r_iastore g hs_a0_script hi3 dX12_readStep_137 ?_
      refine r_iinc g (x5 + 1) [(5, .int (x5 + 1)), (0, .ref a0), (2, .int x2), (4, .int x4)] dX12_readStep_138 rfl rfl (by decide) rfl ?_
      refine r_goto g 102 dX12_readStep_141 (by decide) ?_
      refine r_sub g (lv' := [(0, .ref a0), (2, .int x2), (4, .int x4), (5, .int (x5 + 1))]) (⟨rfl, rfl, rfl, rfl, trivial⟩) ?_
      exact h
    · replace h := h.2 c2
      refine r_aload_n g dX12_readStep_125 rfl ?_
      refine r_iconst g 0 dX12_readStep_126 (by decide) ?_
      refine r_sipush g 9999 dX12_readStep_127 (by decide) ?_
      obtain ⟨d1, Z1, hc1, hd1, h1⟩ := h
      refine r_callV (st := [.int ((x2 + 1) + x5), .ref a0_script]) (As := [.int 0, .int 9999]) g sX12_185 iX12_number eX12_number rfl hs_a0 rfl (Nat.le_of_ble_eq_true rfl) dX12_readStep_130 hd1 (Nat.le_refl 0) (Nat.le_refl 0) hc1 (fun r4 μ5 hZ1 => ?_)
      replace h := h1 _ _ hZ1
      clear h1 hc1 hd1 hZ1 Z1 d1
      obtain ⟨y6, rfl, h⟩ := h
      refine r_goto g 137 dX12_readStep_133 (by decide) ?_
      obtain ⟨N7, hs_a0_script_, h⟩ := h
      obtain ⟨hi8, h⟩ := h
      refine r_iastore g hs_a0_script_ hi8 dX12_readStep_137 ?_
      refine r_iinc g (x5 + 1) [(5, .int (x5 + 1)), (0, .ref a0), (2, .int x2), (4, .int x4)] dX12_readStep_138 rfl rfl (by decide) rfl ?_
      refine r_goto g 102 dX12_readStep_141 (by decide) ?_
      refine r_sub g (lv' := [(0, .ref a0), (2, .int x2), (4, .int x4), (5, .int (x5 + 1))]) (⟨rfl, rfl, rfl, rfl, trivial⟩) ?_
      exact h
theorem I_X12_readStep {d : Nat} {ro : Nat → Nat} {Z : Option Value → Hp → Prop} {μ : Hp} {a0 : Nat} {x1 : Int32} (h : ∀ J, xCtx RX12 cX12_readStep 6 d 0 0 yX12_readStep.name ro J → xRet cX12_readStep none 0 0 Z J → J μ 0 0 0 [(0, .ref a0), (1, .int x1)] []) : xC d yX12_readStep cX12_readStep 6 none 0 0 [.ref a0, .int x1] μ ro Z :=
  xC_intro (own := RX12) (lv := [(0, .ref a0), (1, .int x1)]) (by decide) rfl (Nat.le_of_ble_eq_true rfl) rfl (fun J g hr => r_sub g (lv' := [(0, .ref a0), (1, .int x1)]) (⟨rfl, rfl, trivial⟩) (h J g hr))
theorem dX12_readScript_0 : decode cX12_readScript 0 = .ok (.iconst 0, 1) := by decide +kernel
theorem dX12_readScript_1 : decode cX12_readScript 1 = .ok (.istore_n 1, 1) := by decide +kernel
theorem dX12_readScript_2 : decode cX12_readScript 2 = .ok (.iconst 1, 1) := by decide +kernel
theorem dX12_readScript_3 : decode cX12_readScript 3 = .ok (.istore_n 2, 1) := by decide +kernel
theorem dX12_readScript_4 : decode cX12_readScript 4 = .ok (.iload_n 2, 1) := by decide +kernel
theorem dX12_readScript_5 : decode cX12_readScript 5 = .ok (.ifCond .eq 52, 3) := by decide +kernel
theorem dX12_readScript_8 : decode cX12_readScript 8 = .ok (.aload_n 0, 1) := by decide +kernel
theorem dX12_readScript_9 : decode cX12_readScript 9 = .ok (.iload_n 1, 1) := by decide +kernel
theorem dX12_readScript_10 : decode cX12_readScript 10 = .ok (.invokevirtual 229, 3) := by decide +kernel
theorem dX12_readScript_13 : decode cX12_readScript 13 = .ok (.aload_n 0, 1) := by decide +kernel
theorem dX12_readScript_14 : decode cX12_readScript 14 = .ok (.getfield 127, 3) := by decide +kernel
theorem dX12_readScript_17 : decode cX12_readScript 17 = .ok (.iconst (-1), 1) := by decide +kernel
theorem dX12_readScript_18 : decode cX12_readScript 18 = .ok (.if_icmp .eq 4, 3) := by decide +kernel
theorem dX12_readScript_21 : decode cX12_readScript 21 = .ok (.return_, 1) := by decide +kernel
theorem dX12_readScript_22 : decode cX12_readScript 22 = .ok (.iinc 1 1, 3) := by decide +kernel
theorem dX12_readScript_25 : decode cX12_readScript 25 = .ok (.aload_n 0, 1) := by decide +kernel
theorem dX12_readScript_26 : decode cX12_readScript 26 = .ok (.invokevirtual 130, 3) := by decide +kernel
theorem dX12_readScript_29 : decode cX12_readScript 29 = .ok (.bipush 59, 2) := by decide +kernel
theorem dX12_readScript_31 : decode cX12_readScript 31 = .ok (.if_icmp .ne 18, 3) := by decide +kernel
theorem dX12_readScript_34 : decode cX12_readScript 34 = .ok (.iload_n 1, 1) := by decide +kernel
theorem dX12_readScript_35 : decode cX12_readScript 35 = .ok (.bipush 12, 2) := by decide +kernel
theorem dX12_readScript_37 : decode cX12_readScript 37 = .ok (.if_icmp .ne 12, 3) := by decide +kernel
theorem dX12_readScript_40 : decode cX12_readScript 40 = .ok (.aload_n 0, 1) := by decide +kernel
theorem dX12_readScript_41 : decode cX12_readScript 41 = .ok (.aload_n 0, 1) := by decide +kernel
theorem dX12_readScript_42 : decode cX12_readScript 42 = .ok (.getfield 120, 3) := by decide +kernel
theorem dX12_readScript_45 : decode cX12_readScript 45 = .ok (.invokevirtual 144, 3) := by decide +kernel
theorem dX12_readScript_48 : decode cX12_readScript 48 = .ok (.return_, 1) := by decide +kernel
theorem dX12_readScript_49 : decode cX12_readScript 49 = .ok (.aload_n 0, 1) := by decide +kernel
theorem dX12_readScript_50 : decode cX12_readScript 50 = .ok (.invokevirtual 226, 3) := by decide +kernel
theorem dX12_readScript_53 : decode cX12_readScript 53 = .ok (.istore_n 2, 1) := by decide +kernel
theorem dX12_readScript_54 : decode cX12_readScript 54 = .ok (.goto (-50), 3) := by decide +kernel
theorem dX12_readScript_57 : decode cX12_readScript 57 = .ok (.aload_n 0, 1) := by decide +kernel
theorem dX12_readScript_58 : decode cX12_readScript 58 = .ok (.getfield 54, 3) := by decide +kernel
theorem dX12_readScript_61 : decode cX12_readScript 61 = .ok (.iconst 4, 1) := by decide +kernel
theorem dX12_readScript_62 : decode cX12_readScript 62 = .ok (.iload_n 1, 1) := by decide +kernel
theorem dX12_readScript_63 : decode cX12_readScript 63 = .ok (.iastore, 1) := by decide +kernel
theorem dX12_readScript_64 : decode cX12_readScript 64 = .ok (.return_, 1) := by decide +kernel
set_option maxHeartbeats 4000000 in
set_option maxRecDepth 100000 in
theorem B_X12_readScript_0 {d : Nat} {ro : Nat → Nat} {J : JT} {Z : Option Value → Hp → Prop} (g : xCtx RX12 cX12_readScript 3 d 0 0 yX12_readScript.name ro J) (hr : xRet cX12_readScript none 0 0 Z J) {μ : Hp} {a0 : Nat} 
    (h : J μ 0 0 4 [(0, .ref a0), (1, .int 0), (2, .int 1)] []) :
    J μ 0 0 0 [(0, .ref a0)] [] := by
  refine r_iconst g 0 dX12_readScript_0 (by decide) ?_
  refine r_istore_n g [(1, .int 0), (0, .ref a0)] dX12_readScript_1 (by decide) rfl ?_
  refine r_iconst g 1 dX12_readScript_2 (by decide) ?_
  refine r_istore_n g [(2, .int 1), (1, .int 0), (0, .ref a0)] dX12_readScript_3 (by decide) rfl ?_
  refine r_sub g (lv' := [(0, .ref a0), (1, .int 0), (2, .int 1)]) (⟨rfl, rfl, rfl, trivial⟩) ?_
  exact h
set_option maxHeartbeats 4000000 in
set_option maxRecDepth 100000 in
theorem B_X12_readScript_4 {d : Nat} {ro : Nat → Nat} {J : JT} {Z : Option Value → Hp → Prop} (g : xCtx RX12 cX12_readScript 3 d 0 0 yX12_readScript.name ro J) (hr : xRet cX12_readScript none 0 0 Z J) {μ : Hp} {a0 : Nat} {x1 : Int32} {x2 : Int32} {a0_stepsOf : Nat} {N_a0_stepsOf : Nat} (hs_a0 : hS μ a0 = some (15, 65)) (hr_a0_stepsOf : hR μ a0 29 = some a0_stepsOf) (hs_a0_stepsOf : hS μ a0_stepsOf = some (0, N_a0_stepsOf))
    (h : ((x2 = 0 → vp_in 4 N_a0_stepsOf ∧ Z none (wI μ a0_stepsOf 4 x1)) ∧ (¬ x2 = 0 → xCall d yX12_readStep cX12_readStep 6 none [.ref a0, .int x1] μ ro (fun r3 μ4 => r3 = none ∧ hS μ4 a0 = some (15, 65) ∧ (((hI μ4 a0 4) = (-1) → xCall d yX12_look cX12_look 1 (some .int) [.ref a0] μ4 ro (fun r6 μ7 => ∃ y8 : Int32, r6 = some (.int y8) ∧ ((¬ y8 = 59 → hS μ7 a0 = some (15, 65) ∧ xCall d yX12_goesOn cX12_goesOn 2 (some .boolean) [.ref a0] μ7 ro (fun r10 μ11 => ∃ y12 : Int32, r10 = some (.int y12) ∧ J μ11 0 0 4 [(0, .ref a0), (1, .int (x1 + 1)), (2, .int y12)] [])) ∧ (y8 = 59 → ((¬ (x1 + 1) = 12 → hS μ7 a0 = some (15, 65) ∧ xCall d yX12_goesOn cX12_goesOn 2 (some .boolean) [.ref a0] μ7 ro (fun r14 μ15 => ∃ y16 : Int32, r14 = some (.int y16) ∧ J μ15 0 0 4 [(0, .ref a0), (1, .int (x1 + 1)), (2, .int y16)] [])) ∧ ((x1 + 1) = 12 → hS μ7 a0 = some (15, 65) ∧ xCall d yX12_fails cX12_fails 2 none [.ref a0, .int (hI μ7 a0 3)] μ7 ro (fun r17 μ18 => r17 = none ∧ Z none μ18))))))) ∧ (¬ (hI μ4 a0 4) = (-1) → Z none μ4)))))) :
    J μ 0 0 4 [(0, .ref a0), (1, .int x1), (2, .int x2)] [] := by
  refine r_iload_n g dX12_readScript_4 rfl ?_
  refine r_if_eq g 57 dX12_readScript_5 (by decide) (fun c1 => ?_) (fun c1 => ?_)
  · replace h := h.1 c1
    refine r_aload_n g dX12_readScript_57 rfl ?_
    refine r_getR g fX12_54 rfl hs_a0 hr_a0_stepsOf dX12_readScript_58 ?_
    refine r_iconst g 4 dX12_readScript_61 (by decide) ?_
    refine r_iload_n g dX12_readScript_62 rfl ?_
    obtain ⟨hi2, h⟩ := h
    refine r_iastore g hs_a0_stepsOf hi2 dX12_readScript_63 ?_
    exact hr.1 rfl _ _ _ _ _ dX12_readScript_64 (Nat.le_refl 0) (Nat.le_refl 0) h
  · replace h := h.2 c1
    refine r_aload_n g dX12_readScript_8 rfl ?_
    refine r_iload_n g dX12_readScript_9 rfl ?_
    obtain ⟨d1, Z1, hc1, hd1, h1⟩ := h
    refine r_callV (st := []) (As := [.int x1]) g sX12_229 iX12_readStep eX12_readStep rfl hs_a0 rfl (Nat.le_of_ble_eq_true rfl) dX12_readScript_10 hd1 (Nat.le_refl 0) (Nat.le_refl 0) hc1 (fun r3 μ4 hZ1 => ?_)
    replace h := h1 _ _ hZ1
    clear h1 hc1 hd1 hZ1 Z1 d1
    obtain ⟨rfl, h⟩ := h
    refine r_aload_n g dX12_readScript_13 rfl ?_
    obtain ⟨hs_a0__, h⟩ := h
    refine r_getI g fX12_127 rfl hs_a0__ dX12_readScript_14 ?_
    refine r_iconst g (-1) dX12_readScript_17 (by decide) ?_
    refine r_icmp_eq g 22 dX12_readScript_18 (by decide) (fun c5 => ?_) (fun c5 => ?_)
    · replace h := h.1 c5
      refine r_iinc g (x1 + 1) [(1, .int (x1 + 1)), (0, .ref a0), (2, .int x2)] dX12_readScript_22 rfl rfl (by decide) rfl ?_
      refine r_aload_n g dX12_readScript_25 rfl ?_
      obtain ⟨d1, Z1, hc1, hd1, h1⟩ := h
      refine r_callV (st := []) (As := []) g sX12_130 iX12_look eX12_look rfl hs_a0__ rfl (Nat.le_of_ble_eq_true rfl) dX12_readScript_26 hd1 (Nat.le_refl 0) (Nat.le_refl 0) hc1 (fun r6 μ7 hZ1 => ?_)
      replace h := h1 _ _ hZ1
      clear h1 hc1 hd1 hZ1 Z1 d1
      obtain ⟨y8, rfl, h⟩ := h
      refine r_bipush g 59 dX12_readScript_29 (by decide) ?_
      refine r_icmp_ne g 49 dX12_readScript_31 (by decide) (fun c9 => ?_) (fun c9 => ?_)
      · replace h := h.1 c9
        refine r_aload_n g dX12_readScript_49 rfl ?_
        obtain ⟨hs_a0___, h⟩ := h
        obtain ⟨d1, Z1, hc1, hd1, h1⟩ := h
        refine r_callV (st := []) (As := []) g sX12_226 iX12_goesOn eX12_goesOn rfl hs_a0___ rfl (Nat.le_of_ble_eq_true rfl) dX12_readScript_50 hd1 (Nat.le_refl 0) (Nat.le_refl 0) hc1 (fun r10 μ11 hZ1 => ?_)
        replace h := h1 _ _ hZ1
        clear h1 hc1 hd1 hZ1 Z1 d1
        obtain ⟨y12, rfl, h⟩ := h
        refine r_istore_n g [(2, .int y12), (1, .int (x1 + 1)), (0, .ref a0)] dX12_readScript_53 (by decide) rfl ?_
        refine r_goto g 4 dX12_readScript_54 (by decide) ?_
        refine r_sub g (lv' := [(0, .ref a0), (1, .int (x1 + 1)), (2, .int y12)]) (⟨rfl, rfl, rfl, trivial⟩) ?_
        exact h
      · replace h := h.2 c9
        refine r_iload_n g dX12_readScript_34 rfl ?_
        refine r_bipush g 12 dX12_readScript_35 (by decide) ?_
        refine r_icmp_ne g 49 dX12_readScript_37 (by decide) (fun c13 => ?_) (fun c13 => ?_)
        · replace h := h.1 c13
          refine r_aload_n g dX12_readScript_49 rfl ?_
          obtain ⟨hs_a0____, h⟩ := h
          obtain ⟨d1, Z1, hc1, hd1, h1⟩ := h
          refine r_callV (st := []) (As := []) g sX12_226 iX12_goesOn eX12_goesOn rfl hs_a0____ rfl (Nat.le_of_ble_eq_true rfl) dX12_readScript_50 hd1 (Nat.le_refl 0) (Nat.le_refl 0) hc1 (fun r14 μ15 hZ1 => ?_)
          replace h := h1 _ _ hZ1
          clear h1 hc1 hd1 hZ1 Z1 d1
          obtain ⟨y16, rfl, h⟩ := h
          refine r_istore_n g [(2, .int y16), (1, .int (x1 + 1)), (0, .ref a0)] dX12_readScript_53 (by decide) rfl ?_
          refine r_goto g 4 dX12_readScript_54 (by decide) ?_
          refine r_sub g (lv' := [(0, .ref a0), (1, .int (x1 + 1)), (2, .int y16)]) (⟨rfl, rfl, rfl, trivial⟩) ?_
          exact h
        · replace h := h.2 c13
          refine r_aload_n g dX12_readScript_40 rfl ?_
          refine r_aload_n g dX12_readScript_41 rfl ?_
          obtain ⟨hs_a0_____, h⟩ := h
          refine r_getI g fX12_120 rfl hs_a0_____ dX12_readScript_42 ?_
          obtain ⟨d1, Z1, hc1, hd1, h1⟩ := h
          refine r_callV (st := []) (As := [.int (hI μ7 a0 3)]) g sX12_144 iX12_fails eX12_fails rfl hs_a0_____ rfl (Nat.le_of_ble_eq_true rfl) dX12_readScript_45 hd1 (Nat.le_refl 0) (Nat.le_refl 0) hc1 (fun r17 μ18 hZ1 => ?_)
          replace h := h1 _ _ hZ1
          clear h1 hc1 hd1 hZ1 Z1 d1
          obtain ⟨rfl, h⟩ := h
          exact hr.1 rfl _ _ _ _ _ dX12_readScript_48 (Nat.le_refl 0) (Nat.le_refl 0) h
    · replace h := h.2 c5
      exact hr.1 rfl _ _ _ _ _ dX12_readScript_21 (Nat.le_refl 0) (Nat.le_refl 0) h
theorem I_X12_readScript {d : Nat} {ro : Nat → Nat} {Z : Option Value → Hp → Prop} {μ : Hp} {a0 : Nat} (h : ∀ J, xCtx RX12 cX12_readScript 3 d 0 0 yX12_readScript.name ro J → xRet cX12_readScript none 0 0 Z J → J μ 0 0 0 [(0, .ref a0)] []) : xC d yX12_readScript cX12_readScript 3 none 0 0 [.ref a0] μ ro Z :=
  xC_intro (own := RX12) (lv := [(0, .ref a0)]) (by decide) rfl (Nat.le_of_ble_eq_true rfl) rfl (fun J g hr => r_sub g (lv' := [(0, .ref a0)]) (⟨rfl, trivial⟩) (h J g hr))
theorem dX12_fault_0 : decode cX12_fault 0 = .ok (.aload_n 0, 1) := by decide +kernel
theorem dX12_fault_1 : decode cX12_fault 1 = .ok (.iconst 0, 1) := by decide +kernel
theorem dX12_fault_2 : decode cX12_fault 2 = .ok (.putfield 106, 3) := by decide +kernel
theorem dX12_fault_5 : decode cX12_fault 5 = .ok (.iload_n 1, 1) := by decide +kernel
theorem dX12_fault_6 : decode cX12_fault 6 = .ok (.i2l, 1) := by decide +kernel
theorem dX12_fault_7 : decode cX12_fault 7 = .ok (.lconst 0, 1) := by decide +kernel
theorem dX12_fault_8 : decode cX12_fault 8 = .ok (.lconst 1, 1) := by decide +kernel
theorem dX12_fault_9 : decode cX12_fault 9 = .ok (.invokestatic 161, 3) := by decide +kernel
theorem dX12_fault_12 : decode cX12_fault 12 = .ok (.ifCond .ne 6, 3) := by decide +kernel
theorem dX12_fault_15 : decode cX12_fault 15 = .ok (.bipush (-2), 2) := by decide +kernel
theorem dX12_fault_17 : decode cX12_fault 17 = .ok (.ireturn, 1) := by decide +kernel
theorem dX12_fault_18 : decode cX12_fault 18 = .ok (.aload_n 0, 1) := by decide +kernel
theorem dX12_fault_19 : decode cX12_fault 19 = .ok (.iconst 0, 1) := by decide +kernel
theorem dX12_fault_20 : decode cX12_fault 20 = .ok (.putfield 120, 3) := by decide +kernel
theorem dX12_fault_23 : decode cX12_fault 23 = .ok (.aload_n 0, 1) := by decide +kernel
theorem dX12_fault_24 : decode cX12_fault 24 = .ok (.iconst (-1), 1) := by decide +kernel
theorem dX12_fault_25 : decode cX12_fault 25 = .ok (.putfield 127, 3) := by decide +kernel
theorem dX12_fault_28 : decode cX12_fault 28 = .ok (.iload_n 1, 1) := by decide +kernel
theorem dX12_fault_29 : decode cX12_fault 29 = .ok (.ifCond .ne 10, 3) := by decide +kernel
theorem dX12_fault_32 : decode cX12_fault 32 = .ok (.aload_n 0, 1) := by decide +kernel
theorem dX12_fault_33 : decode cX12_fault 33 = .ok (.invokevirtual 232, 3) := by decide +kernel
theorem dX12_fault_36 : decode cX12_fault 36 = .ok (.goto 7, 3) := by decide +kernel
theorem dX12_fault_39 : decode cX12_fault 39 = .ok (.aload_n 0, 1) := by decide +kernel
theorem dX12_fault_40 : decode cX12_fault 40 = .ok (.invokevirtual 235, 3) := by decide +kernel
theorem dX12_fault_43 : decode cX12_fault 43 = .ok (.aload_n 0, 1) := by decide +kernel
theorem dX12_fault_44 : decode cX12_fault 44 = .ok (.getfield 127, 3) := by decide +kernel
theorem dX12_fault_47 : decode cX12_fault 47 = .ok (.ireturn, 1) := by decide +kernel
set_option maxHeartbeats 4000000 in
set_option maxRecDepth 100000 in
theorem B_X12_fault_0 {d : Nat} {ro : Nat → Nat} {J : JT} {Z : Option Value → Hp → Prop} (g : xCtx RX12 cX12_fault 2 d 0 0 yX12_fault.name ro J) (hr : xRet cX12_fault (some .int) 0 0 Z J) {μ : Hp} {a0 : Nat} {x1 : Int32} (hs_a0 : hS μ a0 = some (15, 65)) (hd9 : 1 ≤ d)
    (h : ((x1 < 0 → Z (some (.int (-2))) (wI μ a0 0 0)) ∧ (¬ x1 < 0 → ((1 < x1 → Z (some (.int (-2))) (wI μ a0 0 0)) ∧ (¬ 1 < x1 → ((¬ x1 = 0 → xCall d yX12_readScript cX12_readScript 3 none [.ref a0] (wI (wI (wI μ a0 0 0) a0 3 0) a0 4 (-1)) ro (fun r10 μ11 => r10 = none ∧ hS μ11 a0 = some (15, 65) ∧ Z (some (.int (hI μ11 a0 4))) μ11)) ∧ (x1 = 0 → xCall d yX12_readBook cX12_readBook 3 none [.ref a0] (wI (wI (wI μ a0 0 0) a0 3 0) a0 4 (-1)) ro (fun r12 μ13 => r12 = none ∧ hS μ13 a0 = some (15, 65) ∧ Z (some (.int (hI μ13 a0 4))) μ13)))))))) :
    J μ 0 0 0 [(0, .ref a0), (1, .int x1)] [] := by
  refine r_aload_n g dX12_fault_0 rfl ?_
  refine r_iconst g 0 dX12_fault_1 (by decide) ?_
  refine r_putI g fX12_106 rfl hs_a0 rfl rfl dX12_fault_2 ?_
  refine r_iload_n g dX12_fault_5 rfl ?_
  refine r_i2l g dX12_fault_6 ?_
  refine r_lconst g 0 dX12_fault_7 (by decide) ?_
  refine r_lconst g 1 dX12_fault_8 (by decide) ?_
  by_cases c1 : x1 < 0
  · replace h := h.1 c1
    refine r_callS (st := []) (As := [.long x1.toInt64, .long 0, .long 1]) g sX12_161 iX12_isIn rfl (Nat.le_of_ble_eq_true rfl) dX12_fault_9 (by omega) (Nat.le_refl 0) (Nat.le_refl 0) (Q_isIn_0 (d := d - 1) (x := x1) (a := 0) (b := 1) rfl (by decide) (by decide) c1) (fun r2 μ3 hZ1 => ?_)
    obtain ⟨rfl, e9⟩ := hZ1
    replace e9 := e9.symm
    subst e9
    refine r_if_ne g 18 dX12_fault_12 (by decide) (fun hz => absurd hz (by decide)) (fun _ => ?_)
    refine r_bipush g (-2) dX12_fault_15 (by decide) ?_
    exact hr.2.1 _ rfl _ _ _ _ _ _ dX12_fault_17 rfl (Nat.le_refl 0) (Nat.le_refl 0) h
  · replace h := h.2 c1
    by_cases c4 : 1 < x1
    · replace h := h.1 c4
      refine r_callS (st := []) (As := [.long x1.toInt64, .long 0, .long 1]) g sX12_161 iX12_isIn rfl (Nat.le_of_ble_eq_true rfl) dX12_fault_9 (by omega) (Nat.le_refl 0) (Nat.le_refl 0) (Q_isIn_1 (d := d - 1) (x := x1) (a := 0) (b := 1) rfl (by decide) (by decide) c1 c4) (fun r5 μ6 hZ1 => ?_)
      obtain ⟨rfl, e9⟩ := hZ1
      replace e9 := e9.symm
      subst e9
      refine r_if_ne g 18 dX12_fault_12 (by decide) (fun hz => absurd hz (by decide)) (fun _ => ?_)
      refine r_bipush g (-2) dX12_fault_15 (by decide) ?_
      exact hr.2.1 _ rfl _ _ _ _ _ _ dX12_fault_17 rfl (Nat.le_refl 0) (Nat.le_refl 0) h
    · replace h := h.2 c4
      refine r_callS (st := []) (As := [.long x1.toInt64, .long 0, .long 1]) g sX12_161 iX12_isIn rfl (Nat.le_of_ble_eq_true rfl) dX12_fault_9 (by omega) (Nat.le_refl 0) (Nat.le_refl 0) (Q_isIn_2 (d := d - 1) (x := x1) (a := 0) (b := 1) rfl (by decide) (by decide) c1 c4) (fun r7 μ8 hZ1 => ?_)
      obtain ⟨rfl, e9⟩ := hZ1
      replace e9 := e9.symm
      subst e9
      refine r_if_ne g 18 dX12_fault_12 (by decide) (fun _ => ?_) (fun hz => absurd hz (by decide))
      refine r_aload_n g dX12_fault_18 rfl ?_
      refine r_iconst g 0 dX12_fault_19 (by decide) ?_
      refine r_putI g fX12_120 rfl hs_a0 rfl rfl dX12_fault_20 ?_
      refine r_aload_n g dX12_fault_23 rfl ?_
      refine r_iconst g (-1) dX12_fault_24 (by decide) ?_
      refine r_putI g fX12_127 rfl hs_a0 rfl rfl dX12_fault_25 ?_
      refine r_iload_n g dX12_fault_28 rfl ?_
      refine r_if_ne g 39 dX12_fault_29 (by decide) (fun c9 => ?_) (fun c9 => ?_)
      · replace h := h.1 c9
        refine r_aload_n g dX12_fault_39 rfl ?_
        obtain ⟨d1, Z1, hc1, hd1, h1⟩ := h
        refine r_callV (st := []) (As := []) g sX12_235 iX12_readScript eX12_readScript rfl hs_a0 rfl (Nat.le_of_ble_eq_true rfl) dX12_fault_40 hd1 (Nat.le_refl 0) (Nat.le_refl 0) hc1 (fun r10 μ11 hZ1 => ?_)
        replace h := h1 _ _ hZ1
        clear h1 hc1 hd1 hZ1 Z1 d1
        obtain ⟨rfl, h⟩ := h
        refine r_aload_n g dX12_fault_43 rfl ?_
        obtain ⟨hs_a0_, h⟩ := h
        refine r_getI g fX12_127 rfl hs_a0_ dX12_fault_44 ?_
        exact hr.2.1 _ rfl _ _ _ _ _ _ dX12_fault_47 rfl (Nat.le_refl 0) (Nat.le_refl 0) h
      · replace h := h.2 c9
        refine r_aload_n g dX12_fault_32 rfl ?_
        obtain ⟨d1, Z1, hc1, hd1, h1⟩ := h
        refine r_callV (st := []) (As := []) g sX12_232 iX12_readBook eX12_readBook rfl hs_a0 rfl (Nat.le_of_ble_eq_true rfl) dX12_fault_33 hd1 (Nat.le_refl 0) (Nat.le_refl 0) hc1 (fun r12 μ13 hZ1 => ?_)
        replace h := h1 _ _ hZ1
        clear h1 hc1 hd1 hZ1 Z1 d1
        obtain ⟨rfl, h⟩ := h
        refine r_goto g 43 dX12_fault_36 (by decide) ?_
        refine r_aload_n g dX12_fault_43 rfl ?_
        obtain ⟨hs_a0__, h⟩ := h
        refine r_getI g fX12_127 rfl hs_a0__ dX12_fault_44 ?_
        exact hr.2.1 _ rfl _ _ _ _ _ _ dX12_fault_47 rfl (Nat.le_refl 0) (Nat.le_refl 0) h
theorem I_X12_fault {d : Nat} {ro : Nat → Nat} {Z : Option Value → Hp → Prop} {μ : Hp} {a0 : Nat} {x1 : Int32} (h : ∀ J, xCtx RX12 cX12_fault 2 d 0 0 yX12_fault.name ro J → xRet cX12_fault (some .int) 0 0 Z J → J μ 0 0 0 [(0, .ref a0), (1, .int x1)] []) : xC d yX12_fault cX12_fault 2 (some .int) 0 0 [.ref a0, .int x1] μ ro Z :=
  xC_intro (own := RX12) (lv := [(0, .ref a0), (1, .int x1)]) (by decide) rfl (Nat.le_of_ble_eq_true rfl) rfl (fun J g hr => r_sub g (lv' := [(0, .ref a0), (1, .int x1)]) (⟨rfl, rfl, trivial⟩) (h J g hr))
theorem dX12_copyInts_0 : decode cX12_copyInts 0 = .ok (.iconst 0, 1) := by decide +kernel
theorem dX12_copyInts_1 : decode cX12_copyInts 1 = .ok (.istore_n 2, 1) := by decide +kernel
theorem dX12_copyInts_2 : decode cX12_copyInts 2 = .ok (.iload_n 2, 1) := by decide +kernel
theorem dX12_copyInts_3 : decode cX12_copyInts 3 = .ok (.aload_n 0, 1) := by decide +kernel
theorem dX12_copyInts_4 : decode cX12_copyInts 4 = .ok (.arraylength, 1) := by decide +kernel
theorem dX12_copyInts_5 : decode cX12_copyInts 5 = .ok (.if_icmp .ge 15, 3) := by decide +kernel
theorem dX12_copyInts_8 : decode cX12_copyInts 8 = .ok (.aload_n 1, 1) := by decide +kernel
theorem dX12_copyInts_9 : decode cX12_copyInts 9 = .ok (.iload_n 2, 1) := by decide +kernel
theorem dX12_copyInts_10 : decode cX12_copyInts 10 = .ok (.aload_n 0, 1) := by decide +kernel
theorem dX12_copyInts_11 : decode cX12_copyInts 11 = .ok (.iload_n 2, 1) := by decide +kernel
theorem dX12_copyInts_12 : decode cX12_copyInts 12 = .ok (.iaload, 1) := by decide +kernel
theorem dX12_copyInts_13 : decode cX12_copyInts 13 = .ok (.iastore, 1) := by decide +kernel
theorem dX12_copyInts_14 : decode cX12_copyInts 14 = .ok (.iinc 2 1, 3) := by decide +kernel
theorem dX12_copyInts_17 : decode cX12_copyInts 17 = .ok (.goto (-15), 3) := by decide +kernel
theorem dX12_copyInts_20 : decode cX12_copyInts 20 = .ok (.return_, 1) := by decide +kernel
set_option maxHeartbeats 4000000 in
set_option maxRecDepth 100000 in
theorem B_X12_copyInts_0 {d : Nat} {ro : Nat → Nat} {J : JT} {Z : Option Value → Hp → Prop} (g : xCtx RX12 cX12_copyInts 3 d 0 0 yX12_copyInts.name ro J) (hr : xRet cX12_copyInts none 0 0 Z J) {μ : Hp} {a0 : Nat} {a1 : Nat} 
    (h : J μ 0 0 2 [(0, .ref a0), (1, .ref a1), (2, .int 0)] []) :
    J μ 0 0 0 [(0, .ref a0), (1, .ref a1)] [] := by
  refine r_iconst g 0 dX12_copyInts_0 (by decide) ?_
  refine r_istore_n g [(2, .int 0), (0, .ref a0), (1, .ref a1)] dX12_copyInts_1 (by decide) rfl ?_
  refine r_sub g (lv' := [(0, .ref a0), (1, .ref a1), (2, .int 0)]) (⟨rfl, rfl, rfl, trivial⟩) ?_
  exact h
set_option maxHeartbeats 4000000 in
set_option maxRecDepth 100000 in
theorem B_X12_copyInts_2 {d : Nat} {ro : Nat → Nat} {J : JT} {Z : Option Value → Hp → Prop} (g : xCtx RX12 cX12_copyInts 3 d 0 0 yX12_copyInts.name ro J) (hr : xRet cX12_copyInts none 0 0 Z J) {μ : Hp} {a0 : Nat} {a1 : Nat} {x2 : Int32} {N_a0 : Nat} {N_a1 : Nat} (hs_a0 : hS μ a0 = some (0, N_a0)) (hs_a1 : hS μ a1 = some (0, N_a1))
    (h : (((Int32.ofNat N_a0) ≤ x2 → Z none μ) ∧ (¬ (Int32.ofNat N_a0) ≤ x2 → vp_in x2 N_a0 ∧ vp_in x2 N_a1 ∧ J (wI μ a1 x2.toNatClampNeg (hI μ a0 x2.toNatClampNeg)) 0 0 2 [(0, .ref a0), (1, .ref a1), (2, .int (x2 + 1))] []))) :
    J μ 0 0 2 [(0, .ref a0), (1, .ref a1), (2, .int x2)] [] := by
  refine r_iload_n g dX12_copyInts_2 rfl ?_
  refine r_aload_n g dX12_copyInts_3 rfl ?_
  refine r_alenI g hs_a0 dX12_copyInts_4 ?_
  refine r_icmp_ge g 20 dX12_copyInts_5 (by decide) (fun c1 => ?_) (fun c1 => ?_)
  · replace h := h.1 c1
    exact hr.1 rfl _ _ _ _ _ dX12_copyInts_20 (Nat.le_refl 0) (Nat.le_refl 0) h
  · replace h := h.2 c1
    refine r_aload_n g dX12_copyInts_8 rfl ?_
    refine r_iload_n g dX12_copyInts_9 rfl ?_
    refine r_aload_n g dX12_copyInts_10 rfl ?_
    refine r_iload_n g dX12_copyInts_11 rfl ?_
    obtain ⟨hi2, h⟩ := h
    refine r_iaload g hs_a0 hi2 dX12_copyInts_12 ?_
    obtain ⟨hi3, h⟩ := h
    refine r_iastore g hs_a1 hi3 dX12_copyInts_13 ?_
    refine r_iinc g (x2 + 1) [(2, .int (x2 + 1)), (0, .ref a0), (1, .ref a1)] dX12_copyInts_14 rfl rfl (by decide) rfl ?_
    refine r_goto g 2 dX12_copyInts_17 (by decide) ?_
    refine r_sub g (lv' := [(0, .ref a0), (1, .ref a1), (2, .int (x2 + 1))]) (⟨rfl, rfl, rfl, trivial⟩) ?_
    exact h
theorem I_X12_copyInts {d : Nat} {ro : Nat → Nat} {Z : Option Value → Hp → Prop} {μ : Hp} {a0 : Nat} {a1 : Nat} (h : ∀ J, xCtx RX12 cX12_copyInts 3 d 0 0 yX12_copyInts.name ro J → xRet cX12_copyInts none 0 0 Z J → J μ 0 0 0 [(0, .ref a0), (1, .ref a1)] []) : xC d yX12_copyInts cX12_copyInts 3 none 0 0 [.ref a0, .ref a1] μ ro Z :=
  xC_intro (own := RX12) (lv := [(0, .ref a0), (1, .ref a1)]) (by decide) rfl (Nat.le_of_ble_eq_true rfl) rfl (fun J g hr => r_sub g (lv' := [(0, .ref a0), (1, .ref a1)]) (⟨rfl, rfl, trivial⟩) (h J g hr))
theorem dX12_begins_0 : decode cX12_begins 0 = .ok (.aload_n 0, 1) := by decide +kernel
theorem dX12_begins_1 : decode cX12_begins 1 = .ok (.getfield 13, 3) := by decide +kernel
theorem dX12_begins_4 : decode cX12_begins 4 = .ok (.aload_n 0, 1) := by decide +kernel
theorem dX12_begins_5 : decode cX12_begins 5 = .ok (.getfield 17, 3) := by decide +kernel
theorem dX12_begins_8 : decode cX12_begins 8 = .ok (.invokestatic 238, 3) := by decide +kernel
theorem dX12_begins_11 : decode cX12_begins 11 = .ok (.aload_n 0, 1) := by decide +kernel
theorem dX12_begins_12 : decode cX12_begins 12 = .ok (.getfield 20, 3) := by decide +kernel
theorem dX12_begins_15 : decode cX12_begins 15 = .ok (.aload_n 0, 1) := by decide +kernel
theorem dX12_begins_16 : decode cX12_begins 16 = .ok (.getfield 23, 3) := by decide +kernel
theorem dX12_begins_19 : decode cX12_begins 19 = .ok (.invokestatic 238, 3) := by decide +kernel
theorem dX12_begins_22 : decode cX12_begins 22 = .ok (.aload_n 0, 1) := by decide +kernel
theorem dX12_begins_23 : decode cX12_begins 23 = .ok (.getfield 26, 3) := by decide +kernel
theorem dX12_begins_26 : decode cX12_begins 26 = .ok (.aload_n 0, 1) := by decide +kernel
theorem dX12_begins_27 : decode cX12_begins 27 = .ok (.getfield 29, 3) := by decide +kernel
theorem dX12_begins_30 : decode cX12_begins 30 = .ok (.invokestatic 238, 3) := by decide +kernel
theorem dX12_begins_33 : decode cX12_begins 33 = .ok (.iconst 0, 1) := by decide +kernel
theorem dX12_begins_34 : decode cX12_begins 34 = .ok (.istore_n 1, 1) := by decide +kernel
theorem dX12_begins_35 : decode cX12_begins 35 = .ok (.iload_n 1, 1) := by decide +kernel
theorem dX12_begins_36 : decode cX12_begins 36 = .ok (.bipush 6, 2) := by decide +kernel
theorem dX12_begins_38 : decode cX12_begins 38 = .ok (.if_icmp .ge 21, 3) := by decide +kernel
theorem dX12_begins_41 : decode cX12_begins 41 = .ok (.aload_n 0, 1) := by decide +kernel
theorem dX12_begins_42 : decode cX12_begins 42 = .ok (.getfield 42, 3) := by decide +kernel
theorem dX12_begins_45 : decode cX12_begins 45 = .ok (.iload_n 1, 1) := by decide +kernel
theorem dX12_begins_46 : decode cX12_begins 46 = .ok (.aload_n 0, 1) := by decide +kernel
theorem dX12_begins_47 : decode cX12_begins 47 = .ok (.getfield 38, 3) := by decide +kernel
theorem dX12_begins_50 : decode cX12_begins 50 = .ok (.iload_n 1, 1) := by decide +kernel
theorem dX12_begins_51 : decode cX12_begins 51 = .ok (.laload, 1) := by decide +kernel
theorem dX12_begins_52 : decode cX12_begins 52 = .ok (.lastore, 1) := by decide +kernel
theorem dX12_begins_53 : decode cX12_begins 53 = .ok (.iinc 1 1, 3) := by decide +kernel
theorem dX12_begins_56 : decode cX12_begins 56 = .ok (.goto (-21), 3) := by decide +kernel
theorem dX12_begins_59 : decode cX12_begins 59 = .ok (.iconst 0, 1) := by decide +kernel
theorem dX12_begins_60 : decode cX12_begins 60 = .ok (.istore_n 1, 1) := by decide +kernel
theorem dX12_begins_61 : decode cX12_begins 61 = .ok (.iload_n 1, 1) := by decide +kernel
theorem dX12_begins_62 : decode cX12_begins 62 = .ok (.bipush 8, 2) := by decide +kernel
theorem dX12_begins_64 : decode cX12_begins 64 = .ok (.if_icmp .ge 21, 3) := by decide +kernel
theorem dX12_begins_67 : decode cX12_begins 67 = .ok (.aload_n 0, 1) := by decide +kernel
theorem dX12_begins_68 : decode cX12_begins 68 = .ok (.getfield 48, 3) := by decide +kernel
theorem dX12_begins_71 : decode cX12_begins 71 = .ok (.iload_n 1, 1) := by decide +kernel
theorem dX12_begins_72 : decode cX12_begins 72 = .ok (.aload_n 0, 1) := by decide +kernel
theorem dX12_begins_73 : decode cX12_begins 73 = .ok (.getfield 45, 3) := by decide +kernel
theorem dX12_begins_76 : decode cX12_begins 76 = .ok (.iload_n 1, 1) := by decide +kernel
theorem dX12_begins_77 : decode cX12_begins 77 = .ok (.laload, 1) := by decide +kernel
theorem dX12_begins_78 : decode cX12_begins 78 = .ok (.lastore, 1) := by decide +kernel
theorem dX12_begins_79 : decode cX12_begins 79 = .ok (.iinc 1 1, 3) := by decide +kernel
theorem dX12_begins_82 : decode cX12_begins 82 = .ok (.goto (-21), 3) := by decide +kernel
theorem dX12_begins_85 : decode cX12_begins 85 = .ok (.aload_n 0, 1) := by decide +kernel
theorem dX12_begins_86 : decode cX12_begins 86 = .ok (.aload_n 0, 1) := by decide +kernel
theorem dX12_begins_87 : decode cX12_begins 87 = .ok (.getfield 171, 3) := by decide +kernel
theorem dX12_begins_90 : decode cX12_begins 90 = .ok (.putfield 242, 3) := by decide +kernel
theorem dX12_begins_93 : decode cX12_begins 93 = .ok (.aload_n 0, 1) := by decide +kernel
theorem dX12_begins_94 : decode cX12_begins 94 = .ok (.aload_n 0, 1) := by decide +kernel
theorem dX12_begins_95 : decode cX12_begins 95 = .ok (.getfield 178, 3) := by decide +kernel
theorem dX12_begins_98 : decode cX12_begins 98 = .ok (.putfield 245, 3) := by decide +kernel
theorem dX12_begins_101 : decode cX12_begins 101 = .ok (.aload_n 0, 1) := by decide +kernel
theorem dX12_begins_102 : decode cX12_begins 102 = .ok (.aload_n 0, 1) := by decide +kernel
theorem dX12_begins_103 : decode cX12_begins 103 = .ok (.getfield 198, 3) := by decide +kernel
theorem dX12_begins_106 : decode cX12_begins 106 = .ok (.putfield 248, 3) := by decide +kernel
theorem dX12_begins_109 : decode cX12_begins 109 = .ok (.iconst 0, 1) := by decide +kernel
theorem dX12_begins_110 : decode cX12_begins 110 = .ok (.istore_n 1, 1) := by decide +kernel
theorem dX12_begins_111 : decode cX12_begins 111 = .ok (.iload_n 1, 1) := by decide +kernel
theorem dX12_begins_112 : decode cX12_begins 112 = .ok (.sipush 293, 3) := by decide +kernel
theorem dX12_begins_115 : decode cX12_begins 115 = .ok (.if_icmp .ge 16, 3) := by decide +kernel
theorem dX12_begins_118 : decode cX12_begins 118 = .ok (.aload_n 0, 1) := by decide +kernel
theorem dX12_begins_119 : decode cX12_begins 119 = .ok (.getfield 57, 3) := by decide +kernel
theorem dX12_begins_122 : decode cX12_begins 122 = .ok (.iload_n 1, 1) := by decide +kernel
theorem dX12_begins_123 : decode cX12_begins 123 = .ok (.iconst 0, 1) := by decide +kernel
theorem dX12_begins_124 : decode cX12_begins 124 = .ok (.iastore, 1) := by decide +kernel
theorem dX12_begins_125 : decode cX12_begins 125 = .ok (.iinc 1 1, 3) := by decide +kernel
theorem dX12_begins_128 : decode cX12_begins 128 = .ok (.goto (-17), 3) := by decide +kernel
theorem dX12_begins_131 : decode cX12_begins 131 = .ok (.aload_n 0, 1) := by decide +kernel
theorem dX12_begins_132 : decode cX12_begins 132 = .ok (.getfield 57, 3) := by decide +kernel
theorem dX12_begins_135 : decode cX12_begins 135 = .ok (.bipush 30, 2) := by decide +kernel
theorem dX12_begins_137 : decode cX12_begins 137 = .ok (.aload_n 0, 1) := by decide +kernel
theorem dX12_begins_138 : decode cX12_begins 138 = .ok (.getfield 219, 3) := by decide +kernel
theorem dX12_begins_141 : decode cX12_begins 141 = .ok (.iastore, 1) := by decide +kernel
theorem dX12_begins_142 : decode cX12_begins 142 = .ok (.iconst 0, 1) := by decide +kernel
theorem dX12_begins_143 : decode cX12_begins 143 = .ok (.istore_n 1, 1) := by decide +kernel
theorem dX12_begins_144 : decode cX12_begins 144 = .ok (.iload_n 1, 1) := by decide +kernel
theorem dX12_begins_145 : decode cX12_begins 145 = .ok (.aload_n 0, 1) := by decide +kernel
theorem dX12_begins_146 : decode cX12_begins 146 = .ok (.getfield 245, 3) := by decide +kernel
theorem dX12_begins_149 : decode cX12_begins 149 = .ok (.if_icmp .ge 28, 3) := by decide +kernel
theorem dX12_begins_152 : decode cX12_begins 152 = .ok (.aload_n 0, 1) := by decide +kernel
theorem dX12_begins_153 : decode cX12_begins 153 = .ok (.getfield 57, 3) := by decide +kernel
theorem dX12_begins_156 : decode cX12_begins 156 = .ok (.bipush 8, 2) := by decide +kernel
theorem dX12_begins_158 : decode cX12_begins 158 = .ok (.iload_n 1, 1) := by decide +kernel
theorem dX12_begins_159 : decode cX12_begins 159 = .ok (.iadd, 1) := by decide +kernel
theorem dX12_begins_160 : decode cX12_begins 160 = .ok (.aload_n 0, 1) := by decide +kernel
theorem dX12_begins_161 : decode cX12_begins 161 = .ok (.getfield 23, 3) := by decide +kernel
theorem dX12_begins_164 : decode cX12_begins 164 = .ok (.iconst 2, 1) := by decide +kernel
theorem dX12_begins_165 : decode cX12_begins 165 = .ok (.iload_n 1, 1) := by decide +kernel
theorem dX12_begins_166 : decode cX12_begins 166 = .ok (.imul, 1) := by decide +kernel
theorem dX12_begins_167 : decode cX12_begins 167 = .ok (.iconst 1, 1) := by decide +kernel
theorem dX12_begins_168 : decode cX12_begins 168 = .ok (.iadd, 1) := by decide +kernel
theorem dX12_begins_169 : decode cX12_begins 169 = .ok (.iaload, 1) := by decide +kernel
theorem dX12_begins_170 : decode cX12_begins 170 = .ok (.iastore, 1) := by decide +kernel
theorem dX12_begins_171 : decode cX12_begins 171 = .ok (.iinc 1 1, 3) := by decide +kernel
theorem dX12_begins_174 : decode cX12_begins 174 = .ok (.goto (-30), 3) := by decide +kernel
theorem dX12_begins_177 : decode cX12_begins 177 = .ok (.aload_n 0, 1) := by decide +kernel
theorem dX12_begins_178 : decode cX12_begins 178 = .ok (.getfield 57, 3) := by decide +kernel
theorem dX12_begins_181 : decode cX12_begins 181 = .ok (.bipush 31, 2) := by decide +kernel
theorem dX12_begins_183 : decode cX12_begins 183 = .ok (.aload_n 0, 1) := by decide +kernel
theorem dX12_begins_184 : decode cX12_begins 184 = .ok (.getfield 195, 3) := by decide +kernel
theorem dX12_begins_187 : decode cX12_begins 187 = .ok (.iastore, 1) := by decide +kernel
theorem dX12_begins_188 : decode cX12_begins 188 = .ok (.iconst 0, 1) := by decide +kernel
theorem dX12_begins_189 : decode cX12_begins 189 = .ok (.istore_n 1, 1) := by decide +kernel
theorem dX12_begins_190 : decode cX12_begins 190 = .ok (.iload_n 1, 1) := by decide +kernel
theorem dX12_begins_191 : decode cX12_begins 191 = .ok (.iconst 5, 1) := by decide +kernel
theorem dX12_begins_192 : decode cX12_begins 192 = .ok (.aload_n 0, 1) := by decide +kernel
theorem dX12_begins_193 : decode cX12_begins 193 = .ok (.getfield 195, 3) := by decide +kernel
theorem dX12_begins_196 : decode cX12_begins 196 = .ok (.imul, 1) := by decide +kernel
theorem dX12_begins_197 : decode cX12_begins 197 = .ok (.if_icmp .ge 24, 3) := by decide +kernel
theorem dX12_begins_200 : decode cX12_begins 200 = .ok (.aload_n 0, 1) := by decide +kernel
theorem dX12_begins_201 : decode cX12_begins 201 = .ok (.getfield 57, 3) := by decide +kernel
theorem dX12_begins_204 : decode cX12_begins 204 = .ok (.bipush 32, 2) := by decide +kernel
theorem dX12_begins_206 : decode cX12_begins 206 = .ok (.iload_n 1, 1) := by decide +kernel
theorem dX12_begins_207 : decode cX12_begins 207 = .ok (.iadd, 1) := by decide +kernel
theorem dX12_begins_208 : decode cX12_begins 208 = .ok (.aload_n 0, 1) := by decide +kernel
theorem dX12_begins_209 : decode cX12_begins 209 = .ok (.getfield 32, 3) := by decide +kernel
theorem dX12_begins_212 : decode cX12_begins 212 = .ok (.iload_n 1, 1) := by decide +kernel
theorem dX12_begins_213 : decode cX12_begins 213 = .ok (.iaload, 1) := by decide +kernel
theorem dX12_begins_214 : decode cX12_begins 214 = .ok (.iastore, 1) := by decide +kernel
theorem dX12_begins_215 : decode cX12_begins 215 = .ok (.iinc 1 1, 3) := by decide +kernel
theorem dX12_begins_218 : decode cX12_begins 218 = .ok (.goto (-28), 3) := by decide +kernel
theorem dX12_begins_221 : decode cX12_begins 221 = .ok (.aload_n 0, 1) := by decide +kernel
theorem dX12_begins_222 : decode cX12_begins 222 = .ok (.iconst 0, 1) := by decide +kernel
theorem dX12_begins_223 : decode cX12_begins 223 = .ok (.putfield 251, 3) := by decide +kernel
theorem dX12_begins_226 : decode cX12_begins 226 = .ok (.aload_n 0, 1) := by decide +kernel
theorem dX12_begins_227 : decode cX12_begins 227 = .ok (.iconst 0, 1) := by decide +kernel
theorem dX12_begins_228 : decode cX12_begins 228 = .ok (.putfield 254, 3) := by decide +kernel
theorem dX12_begins_231 : decode cX12_begins 231 = .ok (.return_, 1) := by decide +kernel
set_option maxHeartbeats 4000000 in
set_option maxRecDepth 100000 in
theorem B_X12_begins_0 {d : Nat} {ro : Nat → Nat} {J : JT} {Z : Option Value → Hp → Prop} (g : xCtx RX12 cX12_begins 2 d 0 0 yX12_begins.name ro J) (hr : xRet cX12_begins none 0 0 Z J) {μ : Hp} {a0 : Nat} {a0_landRead : Nat} {a0_land : Nat} (hs_a0 : hS μ a0 = some (15, 65)) (hr_a0_landRead : hR μ a0 7 = some a0_landRead) (hr_a0_land : hR μ a0 8 = some a0_land)
    (h : xCall d yX12_copyInts cX12_copyInts 3 none [.ref a0_landRead, .ref a0_land] μ ro (fun r1 μ2 => r1 = none ∧ hS μ2 a0 = some (15, 65) ∧ ∃ firmRead_3 : Nat, hR μ2 a0 9 = some firmRead_3 ∧ ∃ firm_4 : Nat, hR μ2 a0 10 = some firm_4 ∧ xCall d yX12_copyInts cX12_copyInts 3 none [.ref firmRead_3, .ref firm_4] μ2 ro (fun r5 μ6 => r5 = none ∧ hS μ6 a0 = some (15, 65) ∧ ∃ treatyRead_7 : Nat, hR μ6 a0 11 = some treatyRead_7 ∧ ∃ treaty_8 : Nat, hR μ6 a0 12 = some treaty_8 ∧ xCall d yX12_copyInts cX12_copyInts 3 none [.ref treatyRead_7, .ref treaty_8] μ6 ro (fun r9 μ10 => r9 = none ∧ J μ10 0 0 35 [(0, .ref a0), (1, .int 0)] [])))) :
    J μ 0 0 0 [(0, .ref a0)] [] := by
  refine r_aload_n g dX12_begins_0 rfl ?_
  refine r_getR g fX12_13 rfl hs_a0 hr_a0_landRead dX12_begins_1 ?_
  refine r_aload_n g dX12_begins_4 rfl ?_
  refine r_getR g fX12_17 rfl hs_a0 hr_a0_land dX12_begins_5 ?_
  obtain ⟨d1, Z1, hc1, hd1, h1⟩ := h
  refine r_callS (st := []) (As := [.ref a0_landRead, .ref a0_land]) g sX12_238 iX12_copyInts rfl (Nat.le_of_ble_eq_true rfl) dX12_begins_8 hd1 (Nat.le_refl 0) (Nat.le_refl 0) hc1 (fun r1 μ2 hZ1 => ?_)
  replace h := h1 _ _ hZ1
  clear h1 hc1 hd1 hZ1 Z1 d1
  obtain ⟨rfl, h⟩ := h
  refine r_aload_n g dX12_begins_11 rfl ?_
  obtain ⟨hs_a0_, h⟩ := h
  obtain ⟨firmRead_3, hr_firmRead_3, h⟩ := h
  refine r_getR g fX12_20 rfl hs_a0_ hr_firmRead_3 dX12_begins_12 ?_
  refine r_aload_n g dX12_begins_15 rfl ?_
  obtain ⟨firm_4, hr_firm_4, h⟩ := h
  refine r_getR g fX12_23 rfl hs_a0_ hr_firm_4 dX12_begins_16 ?_
  obtain ⟨d1, Z1, hc1, hd1, h1⟩ := h
  refine r_callS (st := []) (As := [.ref firmRead_3, .ref firm_4]) g sX12_238 iX12_copyInts rfl (Nat.le_of_ble_eq_true rfl) dX12_begins_19 hd1 (Nat.le_refl 0) (Nat.le_refl 0) hc1 (fun r5 μ6 hZ1 => ?_)
  replace h := h1 _ _ hZ1
  clear h1 hc1 hd1 hZ1 Z1 d1
  obtain ⟨rfl, h⟩ := h
  refine r_aload_n g dX12_begins_22 rfl ?_
  obtain ⟨hs_a0__, h⟩ := h
  obtain ⟨treatyRead_7, hr_treatyRead_7, h⟩ := h
  refine r_getR g fX12_26 rfl hs_a0__ hr_treatyRead_7 dX12_begins_23 ?_
  refine r_aload_n g dX12_begins_26 rfl ?_
  obtain ⟨treaty_8, hr_treaty_8, h⟩ := h
  refine r_getR g fX12_29 rfl hs_a0__ hr_treaty_8 dX12_begins_27 ?_
  obtain ⟨d1, Z1, hc1, hd1, h1⟩ := h
  refine r_callS (st := []) (As := [.ref treatyRead_7, .ref treaty_8]) g sX12_238 iX12_copyInts rfl (Nat.le_of_ble_eq_true rfl) dX12_begins_30 hd1 (Nat.le_refl 0) (Nat.le_refl 0) hc1 (fun r9 μ10 hZ1 => ?_)
  replace h := h1 _ _ hZ1
  clear h1 hc1 hd1 hZ1 Z1 d1
  obtain ⟨rfl, h⟩ := h
  refine r_iconst g 0 dX12_begins_33 (by decide) ?_
  refine r_istore_n g [(1, .int 0), (0, .ref a0)] dX12_begins_34 (by decide) rfl ?_
  refine r_sub g (lv' := [(0, .ref a0), (1, .int 0)]) (⟨rfl, rfl, trivial⟩) ?_
  exact h
set_option maxHeartbeats 4000000 in
set_option maxRecDepth 100000 in
theorem B_X12_begins_35 {d : Nat} {ro : Nat → Nat} {J : JT} {Z : Option Value → Hp → Prop} (g : xCtx RX12 cX12_begins 2 d 0 0 yX12_begins.name ro J) (hr : xRet cX12_begins none 0 0 Z J) {μ : Hp} {a0 : Nat} {x1 : Int32} {a0_landName : Nat} {a0_landNameRead : Nat} {N_a0_landNameRead : Nat} {N_a0_landName : Nat} (hs_a0 : hS μ a0 = some (15, 65)) (hr_a0_landName : hR μ a0 16 = some a0_landName) (hr_a0_landNameRead : hR μ a0 15 = some a0_landNameRead) (hs_a0_landNameRead : hS μ a0_landNameRead = some (2, N_a0_landNameRead)) (hs_a0_landName : hS μ a0_landName = some (2, N_a0_landName))
    (h : ((6 ≤ x1 → J μ 0 0 61 [(0, .ref a0), (1, .int 0)] []) ∧ (¬ 6 ≤ x1 → vp_in x1 N_a0_landNameRead ∧ vp_in x1 N_a0_landName ∧ J (wL μ a0_landName x1.toNatClampNeg (hL μ a0_landNameRead x1.toNatClampNeg)) 0 0 35 [(0, .ref a0), (1, .int (x1 + 1))] []))) :
    J μ 0 0 35 [(0, .ref a0), (1, .int x1)] [] := by
  refine r_iload_n g dX12_begins_35 rfl ?_
  refine r_bipush g 6 dX12_begins_36 (by decide) ?_
  refine r_icmp_ge g 59 dX12_begins_38 (by decide) (fun c1 => ?_) (fun c1 => ?_)
  · replace h := h.1 c1
    refine r_iconst g 0 dX12_begins_59 (by decide) ?_
    refine r_istore_n g [(1, .int 0), (0, .ref a0)] dX12_begins_60 (by decide) rfl ?_
    refine r_sub g (lv' := [(0, .ref a0), (1, .int 0)]) (⟨rfl, rfl, trivial⟩) ?_
    exact h
  · replace h := h.2 c1
    refine r_aload_n g dX12_begins_41 rfl ?_
    refine r_getR g fX12_42 rfl hs_a0 hr_a0_landName dX12_begins_42 ?_
    refine r_iload_n g dX12_begins_45 rfl ?_
    refine r_aload_n g dX12_begins_46 rfl ?_
    refine r_getR g fX12_38 rfl hs_a0 hr_a0_landNameRead dX12_begins_47 ?_
    refine r_iload_n g dX12_begins_50 rfl ?_
    obtain ⟨hi2, h⟩ := h
    refine r_laload g hs_a0_landNameRead hi2 dX12_begins_51 ?_
    obtain ⟨hi3, h⟩ := h
    refine r_lastore g hs_a0_landName hi3 dX12_begins_52 ?_
    refine r_iinc g (x1 + 1) [(1, .int (x1 + 1)), (0, .ref a0)] dX12_begins_53 rfl rfl (by decide) rfl ?_
    refine r_goto g 35 dX12_begins_56 (by decide) ?_
    refine r_sub g (lv' := [(0, .ref a0), (1, .int (x1 + 1))]) (⟨rfl, rfl, trivial⟩) ?_
    exact h
set_option maxHeartbeats 4000000 in
set_option maxRecDepth 100000 in
theorem B_X12_begins_61 {d : Nat} {ro : Nat → Nat} {J : JT} {Z : Option Value → Hp → Prop} (g : xCtx RX12 cX12_begins 2 d 0 0 yX12_begins.name ro J) (hr : xRet cX12_begins none 0 0 Z J) {μ : Hp} {a0 : Nat} {x1 : Int32} {a0_firmName : Nat} {a0_firmNameRead : Nat} {N_a0_firmNameRead : Nat} {N_a0_firmName : Nat} (hs_a0 : hS μ a0 = some (15, 65)) (hr_a0_firmName : hR μ a0 18 = some a0_firmName) (hr_a0_firmNameRead : hR μ a0 17 = some a0_firmNameRead) (hs_a0_firmNameRead : hS μ a0_firmNameRead = some (2, N_a0_firmNameRead)) (hs_a0_firmName : hS μ a0_firmName = some (2, N_a0_firmName))
    (h : ((8 ≤ x1 → (∀ v2 : Int32, v2 = (hI (wI (wI μ a0 20 (hI μ a0 19)) a0 22 (hI (wI μ a0 20 (hI μ a0 19)) a0 21)) a0 23) → J (wI (wI (wI μ a0 20 (hI μ a0 19)) a0 22 (hI (wI μ a0 20 (hI μ a0 19)) a0 21)) a0 24 v2) 0 0 111 [(0, .ref a0), (1, .int 0)] [])) ∧ (¬ 8 ≤ x1 → vp_in x1 N_a0_firmNameRead ∧ vp_in x1 N_a0_firmName ∧ J (wL μ a0_firmName x1.toNatClampNeg (hL μ a0_firmNameRead x1.toNatClampNeg)) 0 0 61 [(0, .ref a0), (1, .int (x1 + 1))] []))) :
    J μ 0 0 61 [(0, .ref a0), (1, .int x1)] [] := by
  refine r_iload_n g dX12_begins_61 rfl ?_
  refine r_bipush g 8 dX12_begins_62 (by decide) ?_
  refine r_icmp_ge g 85 dX12_begins_64 (by decide) (fun c1 => ?_) (fun c1 => ?_)
  · replace h := h.1 c1
    refine r_aload_n g dX12_begins_85 rfl ?_
    refine r_aload_n g dX12_begins_86 rfl ?_
    refine r_getI g fX12_171 rfl hs_a0 dX12_begins_87 ?_
    refine r_putI g fX12_242 rfl hs_a0 rfl rfl dX12_begins_90 ?_
    refine r_aload_n g dX12_begins_93 rfl ?_
    refine r_aload_n g dX12_begins_94 rfl ?_
    refine r_getI g fX12_178 rfl hs_a0 dX12_begins_95 ?_
    refine r_putI g fX12_245 rfl hs_a0 rfl rfl dX12_begins_98 ?_
    refine r_aload_n g dX12_begins_101 rfl ?_
    refine r_aload_n g dX12_begins_102 rfl ?_
    refine r_getI g fX12_198 rfl hs_a0 dX12_begins_103 ?_
    refine r_nmI (fun v2 ev2 => ?_)
    replace h := h v2 ev2
    refine r_putI g fX12_248 rfl hs_a0 rfl rfl dX12_begins_106 ?_
    refine r_iconst g 0 dX12_begins_109 (by decide) ?_
    refine r_istore_n g [(1, .int 0), (0, .ref a0)] dX12_begins_110 (by decide) rfl ?_
    refine r_sub g (lv' := [(0, .ref a0), (1, .int 0)]) (⟨rfl, rfl, trivial⟩) ?_
    exact h
  · replace h := h.2 c1
    refine r_aload_n g dX12_begins_67 rfl ?_
    refine r_getR g fX12_48 rfl hs_a0 hr_a0_firmName dX12_begins_68 ?_
    refine r_iload_n g dX12_begins_71 rfl ?_
    refine r_aload_n g dX12_begins_72 rfl ?_
    refine r_getR g fX12_45 rfl hs_a0 hr_a0_firmNameRead dX12_begins_73 ?_
    refine r_iload_n g dX12_begins_76 rfl ?_
    obtain ⟨hi3, h⟩ := h
    refine r_laload g hs_a0_firmNameRead hi3 dX12_begins_77 ?_
    obtain ⟨hi4, h⟩ := h
    refine r_lastore g hs_a0_firmName hi4 dX12_begins_78 ?_
    refine r_iinc g (x1 + 1) [(1, .int (x1 + 1)), (0, .ref a0)] dX12_begins_79 rfl rfl (by decide) rfl ?_
    refine r_goto g 61 dX12_begins_82 (by decide) ?_
    refine r_sub g (lv' := [(0, .ref a0), (1, .int (x1 + 1))]) (⟨rfl, rfl, trivial⟩) ?_
    exact h
set_option maxHeartbeats 4000000 in
set_option maxRecDepth 100000 in
theorem B_X12_begins_111 {d : Nat} {ro : Nat → Nat} {J : JT} {Z : Option Value → Hp → Prop} (g : xCtx RX12 cX12_begins 2 d 0 0 yX12_begins.name ro J) (hr : xRet cX12_begins none 0 0 Z J) {μ : Hp} {a0 : Nat} {x1 : Int32} {a0_now : Nat} {N_a0_now : Nat} (hs_a0 : hS μ a0 = some (15, 65)) (hr_a0_now : hR μ a0 30 = some a0_now) (hs_a0_now : hS μ a0_now = some (0, N_a0_now))
    (h : ((293 ≤ x1 → vp_in 30 N_a0_now ∧ J (wI μ a0_now 30 (hI μ a0 26)) 0 0 144 [(0, .ref a0), (1, .int 0)] []) ∧ (¬ 293 ≤ x1 → vp_in x1 N_a0_now ∧ J (wI μ a0_now x1.toNatClampNeg 0) 0 0 111 [(0, .ref a0), (1, .int (x1 + 1))] []))) :
    J μ 0 0 111 [(0, .ref a0), (1, .int x1)] [] := by
  refine r_iload_n g dX12_begins_111 rfl ?_
  refine r_sipush g 293 dX12_begins_112 (by decide) ?_
  refine r_icmp_ge g 131 dX12_begins_115 (by decide) (fun c1 => ?_) (fun c1 => ?_)
  · replace h := h.1 c1
    refine r_aload_n g dX12_begins_131 rfl ?_
    refine r_getR g fX12_57 rfl hs_a0 hr_a0_now dX12_begins_132 ?_
    refine r_bipush g 30 dX12_begins_135 (by decide) ?_
    refine r_aload_n g dX12_begins_137 rfl ?_
    refine r_getI g fX12_219 rfl hs_a0 dX12_begins_138 ?_
    obtain ⟨hi2, h⟩ := h
    refine r_iastore g hs_a0_now hi2 dX12_begins_141 ?_
    refine r_iconst g 0 dX12_begins_142 (by decide) ?_
    refine r_istore_n g [(1, .int 0), (0, .ref a0)] dX12_begins_143 (by decide) rfl ?_
    refine r_sub g (lv' := [(0, .ref a0), (1, .int 0)]) (⟨rfl, rfl, trivial⟩) ?_
    exact h
  · replace h := h.2 c1
    refine r_aload_n g dX12_begins_118 rfl ?_
    refine r_getR g fX12_57 rfl hs_a0 hr_a0_now dX12_begins_119 ?_
    refine r_iload_n g dX12_begins_122 rfl ?_
    refine r_iconst g 0 dX12_begins_123 (by decide) ?_
    obtain ⟨hi3, h⟩ := h
    refine r_iastore g hs_a0_now hi3 dX12_begins_124 ?_
    refine r_iinc g (x1 + 1) [(1, .int (x1 + 1)), (0, .ref a0)] dX12_begins_125 rfl rfl (by decide) rfl ?_
    refine r_goto g 111 dX12_begins_128 (by decide) ?_
    refine r_sub g (lv' := [(0, .ref a0), (1, .int (x1 + 1))]) (⟨rfl, rfl, trivial⟩) ?_
    exact h
set_option maxHeartbeats 4000000 in
set_option maxRecDepth 100000 in
theorem B_X12_begins_144 {d : Nat} {ro : Nat → Nat} {J : JT} {Z : Option Value → Hp → Prop} (g : xCtx RX12 cX12_begins 2 d 0 0 yX12_begins.name ro J) (hr : xRet cX12_begins none 0 0 Z J) {μ : Hp} {a0 : Nat} {x1 : Int32} {a0_now : Nat} {N_a0_now : Nat} {a0_firm : Nat} {N_a0_firm : Nat} (hs_a0 : hS μ a0 = some (15, 65)) (hr_a0_now : hR μ a0 30 = some a0_now) (hs_a0_now : hS μ a0_now = some (0, N_a0_now)) (hr_a0_firm : hR μ a0 10 = some a0_firm) (hs_a0_firm : hS μ a0_firm = some (0, N_a0_firm))
    (h : (((hI μ a0 22) ≤ x1 → vp_in 31 N_a0_now ∧ J (wI μ a0_now 31 (hI μ a0 25)) 0 0 190 [(0, .ref a0), (1, .int 0)] []) ∧ (¬ (hI μ a0 22) ≤ x1 → vp_in ((2 * x1) + 1) N_a0_firm ∧ vp_in (8 + x1) N_a0_now ∧ J (wI μ a0_now ((8 + x1).toNatClampNeg) (hI μ a0_firm (((2 * x1) + 1).toNatClampNeg))) 0 0 144 [(0, .ref a0), (1, .int (x1 + 1))] []))) :
    J μ 0 0 144 [(0, .ref a0), (1, .int x1)] [] := by
  refine r_iload_n g dX12_begins_144 rfl ?_
  refine r_aload_n g dX12_begins_145 rfl ?_
  refine r_getI g fX12_245 rfl hs_a0 dX12_begins_146 ?_
  refine r_icmp_ge g 177 dX12_begins_149 (by decide) (fun c1 => ?_) (fun c1 => ?_)
  · replace h := h.1 c1
    refine r_aload_n g dX12_begins_177 rfl ?_
    refine r_getR g fX12_57 rfl hs_a0 hr_a0_now dX12_begins_178 ?_
    refine r_bipush g 31 dX12_begins_181 (by decide) ?_
    refine r_aload_n g dX12_begins_183 rfl ?_
    refine r_getI g fX12_195 rfl hs_a0 dX12_begins_184 ?_
    obtain ⟨hi2, h⟩ := h
    refine r_iastore g hs_a0_now hi2 dX12_begins_187 ?_
    refine r_iconst g 0 dX12_begins_188 (by decide) ?_
    refine r_istore_n g [(1, .int 0), (0, .ref a0)] dX12_begins_189 (by decide) rfl ?_
    refine r_sub g (lv' := [(0, .ref a0), (1, .int 0)]) (⟨rfl, rfl, trivial⟩) ?_
    exact h
  · replace h := h.2 c1
    refine r_aload_n g dX12_begins_152 rfl ?_
    refine r_getR g fX12_57 rfl hs_a0 hr_a0_now dX12_begins_153 ?_
    refine r_bipush g 8 dX12_begins_156 (by decide) ?_
    refine r_iload_n g dX12_begins_158 rfl ?_
    refine r_iadd g dX12_begins_159 ?_
    refine r_aload_n g dX12_begins_160 rfl ?_
    refine r_getR g fX12_23 rfl hs_a0 hr_a0_firm dX12_begins_161 ?_
    refine r_iconst g 2 dX12_begins_164 (by decide) ?_
    refine r_iload_n g dX12_begins_165 rfl ?_
    refine r_imul g dX12_begins_166 ?_
    refine r_iconst g 1 dX12_begins_167 (by decide) ?_
    refine r_iadd g dX12_begins_168 ?_
    obtain ⟨hi3, h⟩ := h
    refine r_iaload g hs_a0_firm hi3 dX12_begins_169 ?_
    obtain ⟨hi4, h⟩ := h
    refine r_iastore g hs_a0_now hi4 dX12_begins_170 ?_
    refine r_iinc g (x1 + 1) [(1, .int (x1 + 1)), (0, .ref a0)] dX12_begins_171 rfl rfl (by decide) rfl ?_
    refine r_goto g 144 dX12_begins_174 (by decide) ?_
    refine r_sub g (lv' := [(0, .ref a0), (1, .int (x1 + 1))]) (⟨rfl, rfl, trivial⟩) ?_
    exact h
set_option maxHeartbeats 4000000 in
set_option maxRecDepth 100000 in
theorem B_X12_begins_190 {d : Nat} {ro : Nat → Nat} {J : JT} {Z : Option Value → Hp → Prop} (g : xCtx RX12 cX12_begins 2 d 0 0 yX12_begins.name ro J) (hr : xRet cX12_begins none 0 0 Z J) {μ : Hp} {a0 : Nat} {x1 : Int32} {a0_now : Nat} {a0_linkRead : Nat} {N_a0_linkRead : Nat} {N_a0_now : Nat} (hs_a0 : hS μ a0 = some (15, 65)) (hr_a0_now : hR μ a0 30 = some a0_now) (hr_a0_linkRead : hR μ a0 13 = some a0_linkRead) (hs_a0_linkRead : hS μ a0_linkRead = some (0, N_a0_linkRead)) (hs_a0_now : hS μ a0_now = some (0, N_a0_now))
    (h : (((5 * (hI μ a0 25)) ≤ x1 → Z none (wI (wI μ a0 35 0) a0 36 0)) ∧ (¬ (5 * (hI μ a0 25)) ≤ x1 → vp_in x1 N_a0_linkRead ∧ vp_in (32 + x1) N_a0_now ∧ J (wI μ a0_now ((32 + x1).toNatClampNeg) (hI μ a0_linkRead x1.toNatClampNeg)) 0 0 190 [(0, .ref a0), (1, .int (x1 + 1))] []))) :
    J μ 0 0 190 [(0, .ref a0), (1, .int x1)] [] := by
  refine r_iload_n g dX12_begins_190 rfl ?_
  refine r_iconst g 5 dX12_begins_191 (by decide) ?_
  refine r_aload_n g dX12_begins_192 rfl ?_
  refine r_getI g fX12_195 rfl hs_a0 dX12_begins_193 ?_
  refine r_imul g dX12_begins_196 ?_
  refine r_icmp_ge g 221 dX12_begins_197 (by decide) (fun c1 => ?_) (fun c1 => ?_)
  · replace h := h.1 c1
    refine r_aload_n g dX12_begins_221 rfl ?_
    refine r_iconst g 0 dX12_begins_222 (by decide) ?_
    refine r_putI g fX12_251 rfl hs_a0 rfl rfl dX12_begins_223 ?_
    refine r_aload_n g dX12_begins_226 rfl ?_
    refine r_iconst g 0 dX12_begins_227 (by decide) ?_
    refine r_putI g fX12_254 rfl hs_a0 (by decide) (by decide) dX12_begins_228 ?_
    exact hr.1 rfl _ _ _ _ _ dX12_begins_231 (Nat.le_refl 0) (Nat.le_refl 0) h
  · replace h := h.2 c1
    refine r_aload_n g dX12_begins_200 rfl ?_
    refine r_getR g fX12_57 rfl hs_a0 hr_a0_now dX12_begins_201 ?_
    refine r_bipush g 32 dX12_begins_204 (by decide) ?_
    refine r_iload_n g dX12_begins_206 rfl ?_
    refine r_iadd g dX12_begins_207 ?_
    refine r_aload_n g dX12_begins_208 rfl ?_
    refine r_getR g fX12_32 rfl hs_a0 hr_a0_linkRead dX12_begins_209 ?_
    refine r_iload_n g dX12_begins_212 rfl ?_
    obtain ⟨hi2, h⟩ := h
    refine r_iaload g hs_a0_linkRead hi2 dX12_begins_213 ?_
    obtain ⟨hi3, h⟩ := h
    refine r_iastore g hs_a0_now hi3 dX12_begins_214 ?_
    refine r_iinc g (x1 + 1) [(1, .int (x1 + 1)), (0, .ref a0)] dX12_begins_215 rfl rfl (by decide) rfl ?_
    refine r_goto g 190 dX12_begins_218 (by decide) ?_
    refine r_sub g (lv' := [(0, .ref a0), (1, .int (x1 + 1))]) (⟨rfl, rfl, trivial⟩) ?_
    exact h
theorem I_X12_begins {d : Nat} {ro : Nat → Nat} {Z : Option Value → Hp → Prop} {μ : Hp} {a0 : Nat} (h : ∀ J, xCtx RX12 cX12_begins 2 d 0 0 yX12_begins.name ro J → xRet cX12_begins none 0 0 Z J → J μ 0 0 0 [(0, .ref a0)] []) : xC d yX12_begins cX12_begins 2 none 0 0 [.ref a0] μ ro Z :=
  xC_intro (own := RX12) (lv := [(0, .ref a0)]) (by decide) rfl (Nat.le_of_ble_eq_true rfl) rfl (fun J g hr => r_sub g (lv' := [(0, .ref a0)]) (⟨rfl, trivial⟩) (h J g hr))
