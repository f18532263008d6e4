theorem dX12_isIn_0 : decode cX12_isIn 0 = .ok (.lload_n 0, 1) := by decide +kernel
theorem dX12_isIn_1 : decode cX12_isIn 1 = .ok (.lload_n 2, 1) := by decide +kernel
theorem dX12_isIn_2 : decode cX12_isIn 2 = .ok (.lcmp, 1) := by decide +kernel
theorem dX12_isIn_3 : decode cX12_isIn 3 = .ok (.ifCond .lt 14, 3) := by decide +kernel
theorem dX12_isIn_6 : decode cX12_isIn 6 = .ok (.lload_n 0, 1) := by decide +kernel
theorem dX12_isIn_7 : decode cX12_isIn 7 = .ok (.lload 4, 2) := by decide +kernel
theorem dX12_isIn_9 : decode cX12_isIn 9 = .ok (.lcmp, 1) := by decide +kernel
theorem dX12_isIn_10 : decode cX12_isIn 10 = .ok (.ifCond .gt 7, 3) := by decide +kernel
theorem dX12_isIn_13 : decode cX12_isIn 13 = .ok (.iconst 1, 1) := by decide +kernel
theorem dX12_isIn_14 : decode cX12_isIn 14 = .ok (.goto 4, 3) := by decide +kernel
theorem dX12_isIn_17 : decode cX12_isIn 17 = .ok (.iconst 0, 1) := by decide +kernel
theorem dX12_isIn_18 : decode cX12_isIn 18 = .ok (.ireturn, 1) := by decide +kernel
set_option maxHeartbeats 4000000 in
set_option maxRecDepth 100000 in
theorem B_X12_isIn_0 {d : Nat} {ro : Nat → Nat} {J : JT} {Z : Option Value → Hp → Prop} (g : xCtx RX12 cX12_isIn 6 d 0 0 yX12_isIn.name ro J) (hr : xRet cX12_isIn (some .boolean) 0 0 Z J) {μ : Hp} {x0 : Int64} {x2 : Int64} {x4 : Int64} 
    (h : (((lg_cmp x0 x2) < 0 → Z (some (.int 0)) μ) ∧ (¬ (lg_cmp x0 x2) < 0 → ((0 < (lg_cmp x0 x4) → Z (some (.int 0)) μ) ∧ (¬ 0 < (lg_cmp x0 x4) → Z (some (.int 1)) μ))))) :
    J μ 0 0 0 [(0, .long x0), (2, .long x2), (4, .long x4)] [] := by
  refine r_lload_n g dX12_isIn_0 rfl ?_
  refine r_lload_n g dX12_isIn_1 rfl ?_
  refine r_lcmp g dX12_isIn_2 ?_
  refine r_if_lt g 17 dX12_isIn_3 (by decide) (fun c1 => ?_) (fun c1 => ?_)
  · replace h := h.1 c1
    refine r_iconst g 0 dX12_isIn_17 (by decide) ?_
    exact hr.2.1 _ rfl _ _ _ _ _ _ dX12_isIn_18 (by decide) (Nat.le_refl 0) (Nat.le_refl 0) h
  · replace h := h.2 c1
    refine r_lload_n g dX12_isIn_6 rfl ?_
    refine r_lload g dX12_isIn_7 rfl ?_
    refine r_lcmp g dX12_isIn_9 ?_
    refine r_if_gt g 17 dX12_isIn_10 (by decide) (fun c2 => ?_) (fun c2 => ?_)
    · replace h := h.1 c2
      refine r_iconst g 0 dX12_isIn_17 (by decide) ?_
      exact hr.2.1 _ rfl _ _ _ _ _ _ dX12_isIn_18 (by decide) (Nat.le_refl 0) (Nat.le_refl 0) h
    · replace h := h.2 c2
      refine r_iconst g 1 dX12_isIn_13 (by decide) ?_
      refine r_goto g 18 dX12_isIn_14 (by decide) ?_
      exact hr.2.1 _ rfl _ _ _ _ _ _ dX12_isIn_18 (by decide) (Nat.le_refl 0) (Nat.le_refl 0) h
theorem I_X12_isIn {d : Nat} {ro : Nat → Nat} {Z : Option Value → Hp → Prop} {μ : Hp} {x0 : Int64} {x2 : Int64} {x4 : Int64} (h : ∀ J, xCtx RX12 cX12_isIn 6 d 0 0 yX12_isIn.name ro J → xRet cX12_isIn (some .boolean) 0 0 Z J → J μ 0 0 0 [(0, .long x0), (2, .long x2), (4, .long x4)] []) : xC d yX12_isIn cX12_isIn 6 (some .boolean) 0 0 [.long x0, .long x2, .long x4] μ ro Z :=
  xC_intro (own := RX12) (lv := [(0, .long x0), (2, .long x2), (4, .long x4)]) (by decide) rfl (Nat.le_of_ble_eq_true rfl) rfl (fun J g hr => r_sub g (lv' := [(0, .long x0), (2, .long x2), (4, .long x4)]) (⟨rfl, rfl, rfl, trivial⟩) (h J g hr))
theorem dX12_linkRow_0 : decode cX12_linkRow 0 = .ok (.bipush 32, 2) := by decide +kernel
theorem dX12_linkRow_2 : decode cX12_linkRow 2 = .ok (.iconst 5, 1) := by decide +kernel
theorem dX12_linkRow_3 : decode cX12_linkRow 3 = .ok (.iload_n 0, 1) := by decide +kernel
theorem dX12_linkRow_4 : decode cX12_linkRow 4 = .ok (.imul, 1) := by decide +kernel
theorem dX12_linkRow_5 : decode cX12_linkRow 5 = .ok (.iadd, 1) := by decide +kernel
theorem dX12_linkRow_6 : decode cX12_linkRow 6 = .ok (.ireturn, 1) := by decide +kernel
set_option maxHeartbeats 4000000 in
set_option maxRecDepth 100000 in
theorem B_X12_linkRow_0 {d : Nat} {ro : Nat → Nat} {J : JT} {Z : Option Value → Hp → Prop} (g : xCtx RX12 cX12_linkRow 1 d 0 0 yX12_linkRow.name ro J) (hr : xRet cX12_linkRow (some .int) 0 0 Z J) {μ : Hp} {x0 : Int32} 
    (h : Z (some (.int (32 + (5 * x0)))) μ) :
    J μ 0 0 0 [(0, .int x0)] [] := by
  refine r_bipush g 32 dX12_linkRow_0 (by decide) ?_
  refine r_iconst g 5 dX12_linkRow_2 (by decide) ?_
  refine r_iload_n g dX12_linkRow_3 rfl ?_
  refine r_imul g dX12_linkRow_4 ?_
  refine r_iadd g dX12_linkRow_5 ?_
  exact hr.2.1 _ rfl _ _ _ _ _ _ dX12_linkRow_6 rfl (Nat.le_refl 0) (Nat.le_refl 0) h
theorem I_X12_linkRow {d : Nat} {ro : Nat → Nat} {Z : Option Value → Hp → Prop} {μ : Hp} {x0 : Int32} (h : ∀ J, xCtx RX12 cX12_linkRow 1 d 0 0 yX12_linkRow.name ro J → xRet cX12_linkRow (some .int) 0 0 Z J → J μ 0 0 0 [(0, .int x0)] []) : xC d yX12_linkRow cX12_linkRow 1 (some .int) 0 0 [.int x0] μ ro Z :=
  xC_intro (own := RX12) (lv := [(0, .int x0)]) (by decide) rfl (Nat.le_of_ble_eq_true rfl) rfl (fun J g hr => r_sub g (lv' := [(0, .int x0)]) (⟨rfl, trivial⟩) (h J g hr))
theorem dX12_landOf_0 : decode cX12_landOf 0 = .ok (.aload_n 0, 1) := by decide +kernel
theorem dX12_landOf_1 : decode cX12_landOf 1 = .ok (.getfield 23, 3) := by decide +kernel
theorem dX12_landOf_4 : decode cX12_landOf 4 = .ok (.iconst 2, 1) := by decide +kernel
theorem dX12_landOf_5 : decode cX12_landOf 5 = .ok (.iload_n 1, 1) := by decide +kernel
theorem dX12_landOf_6 : decode cX12_landOf 6 = .ok (.imul, 1) := by decide +kernel
theorem dX12_landOf_7 : decode cX12_landOf 7 = .ok (.iaload, 1) := by decide +kernel
theorem dX12_landOf_8 : decode cX12_landOf 8 = .ok (.ireturn, 1) := by decide +kernel
set_option maxHeartbeats 4000000 in
set_option maxRecDepth 100000 in
theorem B_X12_landOf_0 {d : Nat} {ro : Nat → Nat} {J : JT} {Z : Option Value → Hp → Prop} (g : xCtx RX12 cX12_landOf 2 d 0 0 yX12_landOf.name ro J) (hr : xRet cX12_landOf (some .int) 0 0 Z J) {μ : Hp} {a0 : Nat} {x1 : Int32} {a0_firm : Nat} {N_a0_firm : Nat} (hs_a0 : hS μ a0 = some (15, 65)) (hr_a0_firm : hR μ a0 10 = some a0_firm) (hs_a0_firm : hS μ a0_firm = some (0, N_a0_firm))
    (h : vp_in (2 * x1) N_a0_firm ∧ Z (some (.int (hI μ a0_firm ((2 * x1).toNatClampNeg)))) μ) :
    J μ 0 0 0 [(0, .ref a0), (1, .int x1)] [] := by
  refine r_aload_n g dX12_landOf_0 rfl ?_
  refine r_getR g fX12_23 rfl hs_a0 hr_a0_firm dX12_landOf_1 ?_
  refine r_iconst g 2 dX12_landOf_4 (by decide) ?_
  refine r_iload_n g dX12_landOf_5 rfl ?_
  refine r_imul g dX12_landOf_6 ?_
  obtain ⟨hi1, h⟩ := h
  refine r_iaload g hs_a0_firm hi1 dX12_landOf_7 ?_
  exact hr.2.1 _ rfl _ _ _ _ _ _ dX12_landOf_8 rfl (Nat.le_refl 0) (Nat.le_refl 0) h
theorem I_X12_landOf {d : Nat} {ro : Nat → Nat} {Z : Option Value → Hp → Prop} {μ : Hp} {a0 : Nat} {x1 : Int32} (h : ∀ J, xCtx RX12 cX12_landOf 2 d 0 0 yX12_landOf.name ro J → xRet cX12_landOf (some .int) 0 0 Z J → J μ 0 0 0 [(0, .ref a0), (1, .int x1)] []) : xC d yX12_landOf cX12_landOf 2 (some .int) 0 0 [.ref a0, .int x1] μ ro Z :=
  xC_intro (own := RX12) (lv := [(0, .ref a0), (1, .int x1)]) (by decide) rfl (Nat.le_of_ble_eq_true rfl) rfl (fun J g hr => r_sub g (lv' := [(0, .ref a0), (1, .int x1)]) (⟨rfl, rfl, trivial⟩) (h J g hr))
theorem dX12_isFirm_0 : decode cX12_isFirm 0 = .ok (.iload_n 1, 1) := by decide +kernel
theorem dX12_isFirm_1 : decode cX12_isFirm 1 = .ok (.ifCond .lt 15, 3) := by decide +kernel
theorem dX12_isFirm_4 : decode cX12_isFirm 4 = .ok (.iload_n 1, 1) := by decide +kernel
theorem dX12_isFirm_5 : decode cX12_isFirm 5 = .ok (.aload_n 0, 1) := by decide +kernel
theorem dX12_isFirm_6 : decode cX12_isFirm 6 = .ok (.getfield 245, 3) := by decide +kernel
theorem dX12_isFirm_9 : decode cX12_isFirm 9 = .ok (.if_icmp .ge 7, 3) := by decide +kernel
theorem dX12_isFirm_12 : decode cX12_isFirm 12 = .ok (.iconst 1, 1) := by decide +kernel
theorem dX12_isFirm_13 : decode cX12_isFirm 13 = .ok (.goto 4, 3) := by decide +kernel
theorem dX12_isFirm_16 : decode cX12_isFirm 16 = .ok (.iconst 0, 1) := by decide +kernel
theorem dX12_isFirm_17 : decode cX12_isFirm 17 = .ok (.ireturn, 1) := by decide +kernel
set_option maxHeartbeats 4000000 in
set_option maxRecDepth 100000 in
theorem B_X12_isFirm_0 {d : Nat} {ro : Nat → Nat} {J : JT} {Z : Option Value → Hp → Prop} (g : xCtx RX12 cX12_isFirm 2 d 0 0 yX12_isFirm.name ro J) (hr : xRet cX12_isFirm (some .boolean) 0 0 Z J) {μ : Hp} {a0 : Nat} {x1 : Int32} (hs_a0 : hS μ a0 = some (15, 65))
    (h : ((x1 < 0 → Z (some (.int 0)) μ) ∧ (¬ x1 < 0 → (((hI μ a0 22) ≤ x1 → Z (some (.int 0)) μ) ∧ (¬ (hI μ a0 22) ≤ x1 → Z (some (.int 1)) μ))))) :
    J μ 0 0 0 [(0, .ref a0), (1, .int x1)] [] := by
  refine r_iload_n g dX12_isFirm_0 rfl ?_
  refine r_if_lt g 16 dX12_isFirm_1 (by decide) (fun c1 => ?_) (fun c1 => ?_)
  · replace h := h.1 c1
    refine r_iconst g 0 dX12_isFirm_16 (by decide) ?_
    exact hr.2.1 _ rfl _ _ _ _ _ _ dX12_isFirm_17 (by decide) (Nat.le_refl 0) (Nat.le_refl 0) h
  · replace h := h.2 c1
    refine r_iload_n g dX12_isFirm_4 rfl ?_
    refine r_aload_n g dX12_isFirm_5 rfl ?_
    refine r_getI g fX12_245 rfl hs_a0 dX12_isFirm_6 ?_
    refine r_icmp_ge g 16 dX12_isFirm_9 (by decide) (fun c2 => ?_) (fun c2 => ?_)
    · replace h := h.1 c2
      refine r_iconst g 0 dX12_isFirm_16 (by decide) ?_
      exact hr.2.1 _ rfl _ _ _ _ _ _ dX12_isFirm_17 (by decide) (Nat.le_refl 0) (Nat.le_refl 0) h
    · replace h := h.2 c2
      refine r_iconst g 1 dX12_isFirm_12 (by decide) ?_
      refine r_goto g 17 dX12_isFirm_13 (by decide) ?_
      exact hr.2.1 _ rfl _ _ _ _ _ _ dX12_isFirm_17 (by decide) (Nat.le_refl 0) (Nat.le_refl 0) h
theorem I_X12_isFirm {d : Nat} {ro : Nat → Nat} {Z : Option Value → Hp → Prop} {μ : Hp} {a0 : Nat} {x1 : Int32} (h : ∀ J, xCtx RX12 cX12_isFirm 2 d 0 0 yX12_isFirm.name ro J → xRet cX12_isFirm (some .boolean) 0 0 Z J → J μ 0 0 0 [(0, .ref a0), (1, .int x1)] []) : xC d yX12_isFirm cX12_isFirm 2 (some .boolean) 0 0 [.ref a0, .int x1] μ ro Z :=
  xC_intro (own := RX12) (lv := [(0, .ref a0), (1, .int x1)]) (by decide) rfl (Nat.le_of_ble_eq_true rfl) rfl (fun J g hr => r_sub g (lv' := [(0, .ref a0), (1, .int x1)]) (⟨rfl, rfl, trivial⟩) (h J g hr))
theorem dX12_isLand_0 : decode cX12_isLand 0 = .ok (.iload_n 1, 1) := by decide +kernel
theorem dX12_isLand_1 : decode cX12_isLand 1 = .ok (.ifCond .lt 22, 3) := by decide +kernel
theorem dX12_isLand_4 : decode cX12_isLand 4 = .ok (.iload_n 1, 1) := by decide +kernel
theorem dX12_isLand_5 : decode cX12_isLand 5 = .ok (.aload_n 0, 1) := by decide +kernel
theorem dX12_isLand_6 : decode cX12_isLand 6 = .ok (.getfield 242, 3) := by decide +kernel
theorem dX12_isLand_9 : decode cX12_isLand 9 = .ok (.if_icmp .ge 14, 3) := by decide +kernel
theorem dX12_isLand_12 : decode cX12_isLand 12 = .ok (.aload_n 0, 1) := by decide +kernel
theorem dX12_isLand_13 : decode cX12_isLand 13 = .ok (.getfield 245, 3) := by decide +kernel
theorem dX12_isLand_16 : decode cX12_isLand 16 = .ok (.ifCond .le 7, 3) := by decide +kernel
theorem dX12_isLand_19 : decode cX12_isLand 19 = .ok (.iconst 1, 1) := by decide +kernel
theorem dX12_isLand_20 : decode cX12_isLand 20 = .ok (.goto 4, 3) := by decide +kernel
theorem dX12_isLand_23 : decode cX12_isLand 23 = .ok (.iconst 0, 1) := by decide +kernel
theorem dX12_isLand_24 : decode cX12_isLand 24 = .ok (.ireturn, 1) := by decide +kernel
set_option maxHeartbeats 4000000 in
set_option maxRecDepth 100000 in
theorem B_X12_isLand_0 {d : Nat} {ro : Nat → Nat} {J : JT} {Z : Option Value → Hp → Prop} (g : xCtx RX12 cX12_isLand 2 d 0 0 yX12_isLand.name ro J) (hr : xRet cX12_isLand (some .boolean) 0 0 Z J) {μ : Hp} {a0 : Nat} {x1 : Int32} (hs_a0 : hS μ a0 = some (15, 65))
    (h : ((x1 < 0 → Z (some (.int 0)) μ) ∧ (¬ x1 < 0 → (((hI μ a0 20) ≤ x1 → Z (some (.int 0)) μ) ∧ (¬ (hI μ a0 20) ≤ x1 → (((hI μ a0 22) ≤ 0 → Z (some (.int 0)) μ) ∧ (¬ (hI μ a0 22) ≤ 0 → Z (some (.int 1)) μ))))))) :
    J μ 0 0 0 [(0, .ref a0), (1, .int x1)] [] := by
  refine r_iload_n g dX12_isLand_0 rfl ?_
  refine r_if_lt g 23 dX12_isLand_1 (by decide) (fun c1 => ?_) (fun c1 => ?_)
  · replace h := h.1 c1
    refine r_iconst g 0 dX12_isLand_23 (by decide) ?_
    exact hr.2.1 _ rfl _ _ _ _ _ _ dX12_isLand_24 (by decide) (Nat.le_refl 0) (Nat.le_refl 0) h
  · replace h := h.2 c1
    refine r_iload_n g dX12_isLand_4 rfl ?_
    refine r_aload_n g dX12_isLand_5 rfl ?_
    refine r_getI g fX12_242 rfl hs_a0 dX12_isLand_6 ?_
    refine r_icmp_ge g 23 dX12_isLand_9 (by decide) (fun c2 => ?_) (fun c2 => ?_)
    · replace h := h.1 c2
      refine r_iconst g 0 dX12_isLand_23 (by decide) ?_
      exact hr.2.1 _ rfl _ _ _ _ _ _ dX12_isLand_24 (by decide) (Nat.le_refl 0) (Nat.le_refl 0) h
    · replace h := h.2 c2
      refine r_aload_n g dX12_isLand_12 rfl ?_
      refine r_getI g fX12_245 rfl hs_a0 dX12_isLand_13 ?_
      refine r_if_le g 23 dX12_isLand_16 (by decide) (fun c3 => ?_) (fun c3 => ?_)
      · replace h := h.1 c3
        refine r_iconst g 0 dX12_isLand_23 (by decide) ?_
        exact hr.2.1 _ rfl _ _ _ _ _ _ dX12_isLand_24 (by decide) (Nat.le_refl 0) (Nat.le_refl 0) h
      · replace h := h.2 c3
        refine r_iconst g 1 dX12_isLand_19 (by decide) ?_
        refine r_goto g 24 dX12_isLand_20 (by decide) ?_
        exact hr.2.1 _ rfl _ _ _ _ _ _ dX12_isLand_24 (by decide) (Nat.le_refl 0) (Nat.le_refl 0) h
theorem I_X12_isLand {d : Nat} {ro : Nat → Nat} {Z : Option Value → Hp → Prop} {μ : Hp} {a0 : Nat} {x1 : Int32} (h : ∀ J, xCtx RX12 cX12_isLand 2 d 0 0 yX12_isLand.name ro J → xRet cX12_isLand (some .boolean) 0 0 Z J → J μ 0 0 0 [(0, .ref a0), (1, .int x1)] []) : xC d yX12_isLand cX12_isLand 2 (some .boolean) 0 0 [.ref a0, .int x1] μ ro Z :=
  xC_intro (own := RX12) (lv := [(0, .ref a0), (1, .int x1)]) (by decide) rfl (Nat.le_of_ble_eq_true rfl) rfl (fun J g hr => r_sub g (lv' := [(0, .ref a0), (1, .int x1)]) (⟨rfl, rfl, trivial⟩) (h J g hr))
theorem dX12_here_0 : decode cX12_here 0 = .ok (.aload_n 0, 1) := by decide +kernel
theorem dX12_here_1 : decode cX12_here 1 = .ok (.getfield 120, 3) := by decide +kernel
theorem dX12_here_4 : decode cX12_here 4 = .ok (.aload_n 0, 1) := by decide +kernel
theorem dX12_here_5 : decode cX12_here 5 = .ok (.getfield 109, 3) := by decide +kernel
theorem dX12_here_8 : decode cX12_here 8 = .ok (.if_icmp .ge 19, 3) := by decide +kernel
theorem dX12_here_11 : decode cX12_here 11 = .ok (.aload_n 0, 1) := by decide +kernel
theorem dX12_here_12 : decode cX12_here 12 = .ok (.getfield 9, 3) := by decide +kernel
theorem dX12_here_15 : decode cX12_here 15 = .ok (.aload_n 0, 1) := by decide +kernel
theorem dX12_here_16 : decode cX12_here 16 = .ok (.getfield 120, 3) := by decide +kernel
theorem dX12_here_19 : decode cX12_here 19 = .ok (.baload, 1) := by decide +kernel
theorem dX12_here_20 : decode cX12_here 20 = .ok (.sipush 255, 3) := by decide +kernel
theorem dX12_here_23 : decode cX12_here 23 = .ok (.iand, 1) := by decide +kernel
theorem dX12_here_24 : decode cX12_here 24 = .ok (.goto 4, 3) := by decide +kernel
theorem dX12_here_27 : decode cX12_here 27 = .ok (.iconst (-1), 1) := by decide +kernel
theorem dX12_here_28 : decode cX12_here 28 = .ok (.ireturn, 1) := by decide +kernel
set_option maxHeartbeats 4000000 in
set_option maxRecDepth 100000 in
theorem B_X12_here_0 {d : Nat} {ro : Nat → Nat} {J : JT} {Z : Option Value → Hp → Prop} (g : xCtx RX12 cX12_here 1 d 0 0 yX12_here.name ro J) (hr : xRet cX12_here (some .int) 0 0 Z J) {μ : Hp} {a0 : Nat} {a0_tape : Nat} {N_a0_tape : Nat} (hs_a0 : hS μ a0 = some (15, 65)) (hr_a0_tape : hR μ a0 1 = some a0_tape) (hs_a0_tape : hS μ a0_tape = some (1, N_a0_tape))
    (h : (((hI μ a0 2) ≤ (hI μ a0 3) → Z (some (.int (-1))) μ) ∧ (¬ (hI μ a0 2) ≤ (hI μ a0 3) → vp_in (hI μ a0 3) N_a0_tape ∧ Z (some (.int ((hI μ a0_tape ((hI μ a0 3).toNatClampNeg)) &&& 255))) μ))) :
    J μ 0 0 0 [(0, .ref a0)] [] := by
  refine r_aload_n g dX12_here_0 rfl ?_
  refine r_getI g fX12_120 rfl hs_a0 dX12_here_1 ?_
  refine r_aload_n g dX12_here_4 rfl ?_
  refine r_getI g fX12_109 rfl hs_a0 dX12_here_5 ?_
  refine r_icmp_ge g 27 dX12_here_8 (by decide) (fun c1 => ?_) (fun c1 => ?_)
  · replace h := h.1 c1
    refine r_iconst g (-1) dX12_here_27 (by decide) ?_
    exact hr.2.1 _ rfl _ _ _ _ _ _ dX12_here_28 rfl (Nat.le_refl 0) (Nat.le_refl 0) h
  · replace h := h.2 c1
    refine r_aload_n g dX12_here_11 rfl ?_
    refine r_getR g fX12_9 rfl hs_a0 hr_a0_tape dX12_here_12 ?_
    refine r_aload_n g dX12_here_15 rfl ?_
    refine r_getI g fX12_120 rfl hs_a0 dX12_here_16 ?_
    obtain ⟨hi2, h⟩ := h
    refine r_baload g hs_a0_tape hi2 dX12_here_19 ?_
    refine r_sipush g 255 dX12_here_20 (by decide) ?_
    refine r_iand g dX12_here_23 ?_
    refine r_goto g 28 dX12_here_24 (by decide) ?_
    exact hr.2.1 _ rfl _ _ _ _ _ _ dX12_here_28 rfl (Nat.le_refl 0) (Nat.le_refl 0) h
theorem I_X12_here {d : Nat} {ro : Nat → Nat} {Z : Option Value → Hp → Prop} {μ : Hp} {a0 : Nat} (h : ∀ J, xCtx RX12 cX12_here 1 d 0 0 yX12_here.name ro J → xRet cX12_here (some .int) 0 0 Z J → J μ 0 0 0 [(0, .ref a0)] []) : xC d yX12_here cX12_here 1 (some .int) 0 0 [.ref a0] μ ro Z :=
  xC_intro (own := RX12) (lv := [(0, .ref a0)]) (by decide) rfl (Nat.le_of_ble_eq_true rfl) rfl (fun J g hr => r_sub g (lv' := [(0, .ref a0)]) (⟨rfl, trivial⟩) (h J g hr))
theorem dX12_areLapsed_0 : decode cX12_areLapsed 0 = .ok (.iload_n 1, 1) := by decide +kernel
theorem dX12_areLapsed_1 : decode cX12_areLapsed 1 = .ok (.aload_n 0, 1) := by decide +kernel
theorem dX12_areLapsed_2 : decode cX12_areLapsed 2 = .ok (.getfield 69, 3) := by decide +kernel
theorem dX12_areLapsed_5 : decode cX12_areLapsed 5 = .ok (.if_icmp .ne 11, 3) := by decide +kernel
theorem dX12_areLapsed_8 : decode cX12_areLapsed 8 = .ok (.iload_n 2, 1) := by decide +kernel
theorem dX12_areLapsed_9 : decode cX12_areLapsed 9 = .ok (.aload_n 0, 1) := by decide +kernel
theorem dX12_areLapsed_10 : decode cX12_areLapsed 10 = .ok (.getfield 73, 3) := by decide +kernel
theorem dX12_areLapsed_13 : decode cX12_areLapsed 13 = .ok (.if_icmp .eq 19, 3) := by decide +kernel
theorem dX12_areLapsed_16 : decode cX12_areLapsed 16 = .ok (.iload_n 1, 1) := by decide +kernel
theorem dX12_areLapsed_17 : decode cX12_areLapsed 17 = .ok (.aload_n 0, 1) := by decide +kernel
theorem dX12_areLapsed_18 : decode cX12_areLapsed 18 = .ok (.getfield 73, 3) := by decide +kernel
theorem dX12_areLapsed_21 : decode cX12_areLapsed 21 = .ok (.if_icmp .ne 15, 3) := by decide +kernel
theorem dX12_areLapsed_24 : decode cX12_areLapsed 24 = .ok (.iload_n 2, 1) := by decide +kernel
theorem dX12_areLapsed_25 : decode cX12_areLapsed 25 = .ok (.aload_n 0, 1) := by decide +kernel
theorem dX12_areLapsed_26 : decode cX12_areLapsed 26 = .ok (.getfield 69, 3) := by decide +kernel
theorem dX12_areLapsed_29 : decode cX12_areLapsed 29 = .ok (.if_icmp .ne 7, 3) := by decide +kernel
theorem dX12_areLapsed_32 : decode cX12_areLapsed 32 = .ok (.iconst 1, 1) := by decide +kernel
theorem dX12_areLapsed_33 : decode cX12_areLapsed 33 = .ok (.goto 4, 3) := by decide +kernel
theorem dX12_areLapsed_36 : decode cX12_areLapsed 36 = .ok (.iconst 0, 1) := by decide +kernel
theorem dX12_areLapsed_37 : decode cX12_areLapsed 37 = .ok (.ireturn, 1) := by decide +kernel
set_option maxHeartbeats 4000000 in
set_option maxRecDepth 100000 in
theorem B_X12_areLapsed_0 {d : Nat} {ro : Nat → Nat} {J : JT} {Z : Option Value → Hp → Prop} (g : xCtx RX12 cX12_areLapsed 3 d 0 0 yX12_areLapsed.name ro J) (hr : xRet cX12_areLapsed (some .boolean) 0 0 Z J) {μ : Hp} {a0 : Nat} {x1 : Int32} {x2 : Int32} (hs_a0 : hS μ a0 = some (15, 65))
    (h : ((¬ x1 = (hI μ a0 38) → ((¬ x1 = (hI μ a0 39) → Z (some (.int 0)) μ) ∧ (x1 = (hI μ a0 39) → ((¬ x2 = (hI μ a0 38) → Z (some (.int 0)) μ) ∧ (x2 = (hI μ a0 38) → Z (some (.int 1)) μ))))) ∧ (x1 = (hI μ a0 38) → ((x2 = (hI μ a0 39) → Z (some (.int 1)) μ) ∧ (¬ x2 = (hI μ a0 39) → ((¬ x1 = (hI μ a0 39) → Z (some (.int 0)) μ) ∧ (x1 = (hI μ a0 39) → ((¬ x2 = (hI μ a0 38) → Z (some (.int 0)) μ) ∧ (x2 = (hI μ a0 38) → Z (some (.int 1)) μ))))))))) :
    J μ 0 0 0 [(0, .ref a0), (1, .int x1), (2, .int x2)] [] := by
  refine r_iload_n g dX12_areLapsed_0 rfl ?_
  refine r_aload_n g dX12_areLapsed_1 rfl ?_
  refine r_getI g fX12_69 rfl hs_a0 dX12_areLapsed_2 ?_
  refine r_icmp_ne g 16 dX12_areLapsed_5 (by decide) (fun c1 => ?_) (fun c1 => ?_)
  · replace h := h.1 c1
    refine r_iload_n g dX12_areLapsed_16 rfl ?_
    refine r_aload_n g dX12_areLapsed_17 rfl ?_
    refine r_getI g fX12_73 rfl hs_a0 dX12_areLapsed_18 ?_
    refine r_icmp_ne g 36 dX12_areLapsed_21 (by decide) (fun c2 => ?_) (fun c2 => ?_)
    · replace h := h.1 c2
      refine r_iconst g 0 dX12_areLapsed_36 (by decide) ?_
      exact hr.2.1 _ rfl _ _ _ _ _ _ dX12_areLapsed_37 (by decide) (Nat.le_refl 0) (Nat.le_refl 0) h
    · replace h := h.2 c2
      refine r_iload_n g dX12_areLapsed_24 rfl ?_
      refine r_aload_n g dX12_areLapsed_25 rfl ?_
      refine r_getI g fX12_69 rfl hs_a0 dX12_areLapsed_26 ?_
      refine r_icmp_ne g 36 dX12_areLapsed_29 (by decide) (fun c3 => ?_) (fun c3 => ?_)
      · replace h := h.1 c3
        refine r_iconst g 0 dX12_areLapsed_36 (by decide) ?_
        exact hr.2.1 _ rfl _ _ _ _ _ _ dX12_areLapsed_37 (by decide) (Nat.le_refl 0) (Nat.le_refl 0) h
      · replace h := h.2 c3
        refine r_iconst g 1 dX12_areLapsed_32 (by decide) ?_
        refine r_goto g 37 dX12_areLapsed_33 (by decide) ?_
        exact hr.2.1 _ rfl _ _ _ _ _ _ dX12_areLapsed_37 (by decide) (Nat.le_refl 0) (Nat.le_refl 0) h
  · replace h := h.2 c1
    refine r_iload_n g dX12_areLapsed_8 rfl ?_
    refine r_aload_n g dX12_areLapsed_9 rfl ?_
    refine r_getI g fX12_73 rfl hs_a0 dX12_areLapsed_10 ?_
    refine r_icmp_eq g 32 dX12_areLapsed_13 (by decide) (fun c4 => ?_) (fun c4 => ?_)
    · replace h := h.1 c4
      refine r_iconst g 1 dX12_areLapsed_32 (by decide) ?_
      refine r_goto g 37 dX12_areLapsed_33 (by decide) ?_
      exact hr.2.1 _ rfl _ _ _ _ _ _ dX12_areLapsed_37 (by decide) (Nat.le_refl 0) (Nat.le_refl 0) h
    · replace h := h.2 c4
      refine r_iload_n g dX12_areLapsed_16 rfl ?_
      refine r_aload_n g dX12_areLapsed_17 rfl ?_
      refine r_getI g fX12_73 rfl hs_a0 dX12_areLapsed_18 ?_
      refine r_icmp_ne g 36 dX12_areLapsed_21 (by decide) (fun c5 => ?_) (fun c5 => ?_)
      · replace h := h.1 c5
        refine r_iconst g 0 dX12_areLapsed_36 (by decide) ?_
        exact hr.2.1 _ rfl _ _ _ _ _ _ dX12_areLapsed_37 (by decide) (Nat.le_refl 0) (Nat.le_refl 0) h
      · replace h := h.2 c5
        refine r_iload_n g dX12_areLapsed_24 rfl ?_
        refine r_aload_n g dX12_areLapsed_25 rfl ?_
        refine r_getI g fX12_69 rfl hs_a0 dX12_areLapsed_26 ?_
        refine r_icmp_ne g 36 dX12_areLapsed_29 (by decide) (fun c6 => ?_) (fun c6 => ?_)
        · replace h := h.1 c6
          refine r_iconst g 0 dX12_areLapsed_36 (by decide) ?_
          exact hr.2.1 _ rfl _ _ _ _ _ _ dX12_areLapsed_37 (by decide) (Nat.le_refl 0) (Nat.le_refl 0) h
        · replace h := h.2 c6
          refine r_iconst g 1 dX12_areLapsed_32 (by decide) ?_
          refine r_goto g 37 dX12_areLapsed_33 (by decide) ?_
          exact hr.2.1 _ rfl _ _ _ _ _ _ dX12_areLapsed_37 (by decide) (Nat.le_refl 0) (Nat.le_refl 0) h
theorem I_X12_areLapsed {d : Nat} {ro : Nat → Nat} {Z : Option Value → Hp → Prop} {μ : Hp} {a0 : Nat} {x1 : Int32} {x2 : Int32} (h : ∀ J, xCtx RX12 cX12_areLapsed 3 d 0 0 yX12_areLapsed.name ro J → xRet cX12_areLapsed (some .boolean) 0 0 Z J → J μ 0 0 0 [(0, .ref a0), (1, .int x1), (2, .int x2)] []) : xC d yX12_areLapsed cX12_areLapsed 3 (some .boolean) 0 0 [.ref a0, .int x1, .int x2] μ ro Z :=
  xC_intro (own := RX12) (lv := [(0, .ref a0), (1, .int x1), (2, .int x2)]) (by decide) rfl (Nat.le_of_ble_eq_true rfl) rfl (fun J g hr => r_sub g (lv' := [(0, .ref a0), (1, .int x1), (2, .int x2)]) (⟨rfl, rfl, rfl, trivial⟩) (h J g hr))
theorem dX11_hasBook_0 : decode cX11_hasBook 0 = .ok (.aload_n 0, 1) := by decide +kernel
theorem dX11_hasBook_1 : decode cX11_hasBook 1 = .ok (.getfield 72, 3) := by decide +kernel
theorem dX11_hasBook_4 : decode cX11_hasBook 4 = .ok (.getfield 144, 3) := by decide +kernel
theorem dX11_hasBook_7 : decode cX11_hasBook 7 = .ok (.ifCond .le 7, 3) := by decide +kernel
theorem dX11_hasBook_10 : decode cX11_hasBook 10 = .ok (.iconst 1, 1) := by decide +kernel
theorem dX11_hasBook_11 : decode cX11_hasBook 11 = .ok (.goto 4, 3) := by decide +kernel
theorem dX11_hasBook_14 : decode cX11_hasBook 14 = .ok (.iconst 0, 1) := by decide +kernel
theorem dX11_hasBook_15 : decode cX11_hasBook 15 = .ok (.ireturn, 1) := by decide +kernel
set_option maxHeartbeats 4000000 in
set_option maxRecDepth 100000 in
theorem B_X11_hasBook_0 {d : Nat} {ro : Nat → Nat} {J : JT} {Z : Option Value → Hp → Prop} (g : xCtx RX11 cX11_hasBook 1 d 0 0 yX11_hasBook.name ro J) (hr : xRet cX11_hasBook (some .boolean) 0 0 Z J) {μ : Hp} {a0 : Nat} {a0_book : Nat} (hs_a0 : hS μ a0 = some (14, 18)) (hr_a0_book : hR μ a0 13 = some a0_book) (hs_a0_book : hS μ a0_book = some (6, 9))
    (h : (((hI μ a0_book 6) ≤ 0 → Z (some (.int 0)) μ) ∧ (¬ (hI μ a0_book 6) ≤ 0 → Z (some (.int 1)) μ))) :
    J μ 0 0 0 [(0, .ref a0)] [] := by
  refine r_aload_n g dX11_hasBook_0 rfl ?_
  refine r_getR g fX11_72 rfl hs_a0 hr_a0_book dX11_hasBook_1 ?_
  refine r_getI g fX11_144 rfl hs_a0_book dX11_hasBook_4 ?_
  refine r_if_le g 14 dX11_hasBook_7 (by decide) (fun c1 => ?_) (fun c1 => ?_)
  · replace h := h.1 c1
    refine r_iconst g 0 dX11_hasBook_14 (by decide) ?_
    exact hr.2.1 _ rfl _ _ _ _ _ _ dX11_hasBook_15 (by decide) (Nat.le_refl 0) (Nat.le_refl 0) h
  · replace h := h.2 c1
    refine r_iconst g 1 dX11_hasBook_10 (by decide) ?_
    refine r_goto g 15 dX11_hasBook_11 (by decide) ?_
    exact hr.2.1 _ rfl _ _ _ _ _ _ dX11_hasBook_15 (by decide) (Nat.le_refl 0) (Nat.le_refl 0) h
theorem I_X11_hasBook {d : Nat} {ro : Nat → Nat} {Z : Option Value → Hp → Prop} {μ : Hp} {a0 : Nat} (h : ∀ J, xCtx RX11 cX11_hasBook 1 d 0 0 yX11_hasBook.name ro J → xRet cX11_hasBook (some .boolean) 0 0 Z J → J μ 0 0 0 [(0, .ref a0)] []) : xC d yX11_hasBook cX11_hasBook 1 (some .boolean) 0 0 [.ref a0] μ ro Z :=
  xC_intro (own := RX11) (lv := [(0, .ref a0)]) (by decide) rfl (Nat.le_of_ble_eq_true rfl) rfl (fun J g hr => r_sub g (lv' := [(0, .ref a0)]) (⟨rfl, trivial⟩) (h J g hr))
theorem dX11_isSort_0 : decode cX11_isSort 0 = .ok (.iload_n 0, 1) := by decide +kernel
theorem dX11_isSort_1 : decode cX11_isSort 1 = .ok (.ifCond .eq 8, 3) := by decide +kernel
theorem dX11_isSort_4 : decode cX11_isSort 4 = .ok (.iload_n 0, 1) := by decide +kernel
theorem dX11_isSort_5 : decode cX11_isSort 5 = .ok (.iconst 1, 1) := by decide +kernel
theorem dX11_isSort_6 : decode cX11_isSort 6 = .ok (.if_icmp .ne 7, 3) := by decide +kernel
theorem dX11_isSort_9 : decode cX11_isSort 9 = .ok (.iconst 1, 1) := by decide +kernel
theorem dX11_isSort_10 : decode cX11_isSort 10 = .ok (.goto 4, 3) := by decide +kernel
theorem dX11_isSort_13 : decode cX11_isSort 13 = .ok (.iconst 0, 1) := by decide +kernel
theorem dX11_isSort_14 : decode cX11_isSort 14 = .ok (.ireturn, 1) := by decide +kernel
set_option maxHeartbeats 4000000 in
set_option maxRecDepth 100000 in
theorem B_X11_isSort_0 {d : Nat} {ro : Nat → Nat} {J : JT} {Z : Option Value → Hp → Prop} (g : xCtx RX11 cX11_isSort 1 d 0 0 yX11_isSort.name ro J) (hr : xRet cX11_isSort (some .boolean) 0 0 Z J) {μ : Hp} {x0 : Int32} 
    (h : ((x0 = 0 → Z (some (.int 1)) μ) ∧ (¬ x0 = 0 → ((¬ x0 = 1 → Z (some (.int 0)) μ) ∧ (x0 = 1 → Z (some (.int 1)) μ))))) :
    J μ 0 0 0 [(0, .int x0)] [] := by
  refine r_iload_n g dX11_isSort_0 rfl ?_
  refine r_if_eq g 9 dX11_isSort_1 (by decide) (fun c1 => ?_) (fun c1 => ?_)
  · replace h := h.1 c1
    refine r_iconst g 1 dX11_isSort_9 (by decide) ?_
    refine r_goto g 14 dX11_isSort_10 (by decide) ?_
    exact hr.2.1 _ rfl _ _ _ _ _ _ dX11_isSort_14 (by decide) (Nat.le_refl 0) (Nat.le_refl 0) h
  · replace h := h.2 c1
    refine r_iload_n g dX11_isSort_4 rfl ?_
    refine r_iconst g 1 dX11_isSort_5 (by decide) ?_
    refine r_icmp_ne g 13 dX11_isSort_6 (by decide) (fun c2 => ?_) (fun c2 => ?_)
    · replace h := h.1 c2
      refine r_iconst g 0 dX11_isSort_13 (by decide) ?_
      exact hr.2.1 _ rfl _ _ _ _ _ _ dX11_isSort_14 (by decide) (Nat.le_refl 0) (Nat.le_refl 0) h
    · replace h := h.2 c2
      refine r_iconst g 1 dX11_isSort_9 (by decide) ?_
      refine r_goto g 14 dX11_isSort_10 (by decide) ?_
      exact hr.2.1 _ rfl _ _ _ _ _ _ dX11_isSort_14 (by decide) (Nat.le_refl 0) (Nat.le_refl 0) h
theorem I_X11_isSort {d : Nat} {ro : Nat → Nat} {Z : Option Value → Hp → Prop} {μ : Hp} {x0 : Int32} (h : ∀ J, xCtx RX11 cX11_isSort 1 d 0 0 yX11_isSort.name ro J → xRet cX11_isSort (some .boolean) 0 0 Z J → J μ 0 0 0 [(0, .int x0)] []) : xC d yX11_isSort cX11_isSort 1 (some .boolean) 0 0 [.int x0] μ ro Z :=
  xC_intro (own := RX11) (lv := [(0, .int x0)]) (by decide) rfl (Nat.le_of_ble_eq_true rfl) rfl (fun J g hr => r_sub g (lv' := [(0, .int x0)]) (⟨rfl, trivial⟩) (h J g hr))
theorem dX11_isAmount_0 : decode cX11_isAmount 0 = .ok (.iload_n 0, 1) := by decide +kernel
theorem dX11_isAmount_1 : decode cX11_isAmount 1 = .ok (.iconst 1, 1) := by decide +kernel
theorem dX11_isAmount_2 : decode cX11_isAmount 2 = .ok (.if_icmp .lt 13, 3) := by decide +kernel
theorem dX11_isAmount_5 : decode cX11_isAmount 5 = .ok (.iload_n 0, 1) := by decide +kernel
theorem dX11_isAmount_6 : decode cX11_isAmount 6 = .ok (.ldc 239, 2) := by decide +kernel
theorem dX11_isAmount_8 : decode cX11_isAmount 8 = .ok (.if_icmp .gt 7, 3) := by decide +kernel
theorem dX11_isAmount_11 : decode cX11_isAmount 11 = .ok (.iconst 1, 1) := by decide +kernel
theorem dX11_isAmount_12 : decode cX11_isAmount 12 = .ok (.goto 4, 3) := by decide +kernel
theorem dX11_isAmount_15 : decode cX11_isAmount 15 = .ok (.iconst 0, 1) := by decide +kernel
theorem dX11_isAmount_16 : decode cX11_isAmount 16 = .ok (.ireturn, 1) := by decide +kernel
set_option maxHeartbeats 4000000 in
set_option maxRecDepth 100000 in
theorem B_X11_isAmount_0 {d : Nat} {ro : Nat → Nat} {J : JT} {Z : Option Value → Hp → Prop} (g : xCtx RX11 cX11_isAmount 1 d 0 0 yX11_isAmount.name ro J) (hr : xRet cX11_isAmount (some .boolean) 0 0 Z J) {μ : Hp} {x0 : Int32} 
    (h : ((x0 < 1 → Z (some (.int 0)) μ) ∧ (¬ x0 < 1 → ((1000000 < x0 → Z (some (.int 0)) μ) ∧ (¬ 1000000 < x0 → Z (some (.int 1)) μ))))) :
    J μ 0 0 0 [(0, .int x0)] [] := by
  refine r_iload_n g dX11_isAmount_0 rfl ?_
  refine r_iconst g 1 dX11_isAmount_1 (by decide) ?_
  refine r_icmp_lt g 15 dX11_isAmount_2 (by decide) (fun c1 => ?_) (fun c1 => ?_)
  · replace h := h.1 c1
    refine r_iconst g 0 dX11_isAmount_15 (by decide) ?_
    exact hr.2.1 _ rfl _ _ _ _ _ _ dX11_isAmount_16 (by decide) (Nat.le_refl 0) (Nat.le_refl 0) h
  · replace h := h.2 c1
    refine r_iload_n g dX11_isAmount_5 rfl ?_
    refine r_ldc g 1000000 kX11_239 dX11_isAmount_6 ?_
    refine r_icmp_gt g 15 dX11_isAmount_8 (by decide) (fun c2 => ?_) (fun c2 => ?_)
    · replace h := h.1 c2
      refine r_iconst g 0 dX11_isAmount_15 (by decide) ?_
      exact hr.2.1 _ rfl _ _ _ _ _ _ dX11_isAmount_16 (by decide) (Nat.le_refl 0) (Nat.le_refl 0) h
    · replace h := h.2 c2
      refine r_iconst g 1 dX11_isAmount_11 (by decide) ?_
      refine r_goto g 16 dX11_isAmount_12 (by decide) ?_
      exact hr.2.1 _ rfl _ _ _ _ _ _ dX11_isAmount_16 (by decide) (Nat.le_refl 0) (Nat.le_refl 0) h
theorem I_X11_isAmount {d : Nat} {ro : Nat → Nat} {Z : Option Value → Hp → Prop} {μ : Hp} {x0 : Int32} (h : ∀ J, xCtx RX11 cX11_isAmount 1 d 0 0 yX11_isAmount.name ro J → xRet cX11_isAmount (some .boolean) 0 0 Z J → J μ 0 0 0 [(0, .int x0)] []) : xC d yX11_isAmount cX11_isAmount 1 (some .boolean) 0 0 [.int x0] μ ro Z :=
  xC_intro (own := RX11) (lv := [(0, .int x0)]) (by decide) rfl (Nat.le_of_ble_eq_true rfl) rfl (fun J g hr => r_sub g (lv' := [(0, .int x0)]) (⟨rfl, trivial⟩) (h J g hr))
theorem dX11_isYear_0 : decode cX11_isYear 0 = .ok (.iload_n 0, 1) := by decide +kernel
theorem dX11_isYear_1 : decode cX11_isYear 1 = .ok (.ifCond .lt 14, 3) := by decide +kernel
theorem dX11_isYear_4 : decode cX11_isYear 4 = .ok (.iload_n 0, 1) := by decide +kernel
theorem dX11_isYear_5 : decode cX11_isYear 5 = .ok (.sipush 199, 3) := by decide +kernel
theorem dX11_isYear_8 : decode cX11_isYear 8 = .ok (.if_icmp .gt 7, 3) := by decide +kernel
theorem dX11_isYear_11 : decode cX11_isYear 11 = .ok (.iconst 1, 1) := by decide +kernel
theorem dX11_isYear_12 : decode cX11_isYear 12 = .ok (.goto 4, 3) := by decide +kernel
theorem dX11_isYear_15 : decode cX11_isYear 15 = .ok (.iconst 0, 1) := by decide +kernel
theorem dX11_isYear_16 : decode cX11_isYear 16 = .ok (.ireturn, 1) := by decide +kernel
set_option maxHeartbeats 4000000 in
set_option maxRecDepth 100000 in
theorem B_X11_isYear_0 {d : Nat} {ro : Nat → Nat} {J : JT} {Z : Option Value → Hp → Prop} (g : xCtx RX11 cX11_isYear 1 d 0 0 yX11_isYear.name ro J) (hr : xRet cX11_isYear (some .boolean) 0 0 Z J) {μ : Hp} {x0 : Int32} 
    (h : ((x0 < 0 → Z (some (.int 0)) μ) ∧ (¬ x0 < 0 → ((199 < x0 → Z (some (.int 0)) μ) ∧ (¬ 199 < x0 → Z (some (.int 1)) μ))))) :
    J μ 0 0 0 [(0, .int x0)] [] := by
  refine r_iload_n g dX11_isYear_0 rfl ?_
  refine r_if_lt g 15 dX11_isYear_1 (by decide) (fun c1 => ?_) (fun c1 => ?_)
  · replace h := h.1 c1
    refine r_iconst g 0 dX11_isYear_15 (by decide) ?_
    exact hr.2.1 _ rfl _ _ _ _ _ _ dX11_isYear_16 (by decide) (Nat.le_refl 0) (Nat.le_refl 0) h
  · replace h := h.2 c1
    refine r_iload_n g dX11_isYear_4 rfl ?_
    refine r_sipush g 199 dX11_isYear_5 (by decide) ?_
    refine r_icmp_gt g 15 dX11_isYear_8 (by decide) (fun c2 => ?_) (fun c2 => ?_)
    · replace h := h.1 c2
      refine r_iconst g 0 dX11_isYear_15 (by decide) ?_
      exact hr.2.1 _ rfl _ _ _ _ _ _ dX11_isYear_16 (by decide) (Nat.le_refl 0) (Nat.le_refl 0) h
    · replace h := h.2 c2
      refine r_iconst g 1 dX11_isYear_11 (by decide) ?_
      refine r_goto g 16 dX11_isYear_12 (by decide) ?_
      exact hr.2.1 _ rfl _ _ _ _ _ _ dX11_isYear_16 (by decide) (Nat.le_refl 0) (Nat.le_refl 0) h
theorem I_X11_isYear {d : Nat} {ro : Nat → Nat} {Z : Option Value → Hp → Prop} {μ : Hp} {x0 : Int32} (h : ∀ J, xCtx RX11 cX11_isYear 1 d 0 0 yX11_isYear.name ro J → xRet cX11_isYear (some .boolean) 0 0 Z J → J μ 0 0 0 [(0, .int x0)] []) : xC d yX11_isYear cX11_isYear 1 (some .boolean) 0 0 [.int x0] μ ro Z :=
  xC_intro (own := RX11) (lv := [(0, .int x0)]) (by decide) rfl (Nat.le_of_ble_eq_true rfl) rfl (fun J g hr => r_sub g (lv' := [(0, .int x0)]) (⟨rfl, trivial⟩) (h J g hr))
theorem dX11_hasScript_0 : decode cX11_hasScript 0 = .ok (.iload_n 1, 1) := by decide +kernel
theorem dX11_hasScript_1 : decode cX11_hasScript 1 = .ok (.ifCond .lt 15, 3) := by decide +kernel
theorem dX11_hasScript_4 : decode cX11_hasScript 4 = .ok (.iload_n 1, 1) := by decide +kernel
theorem dX11_hasScript_5 : decode cX11_hasScript 5 = .ok (.aload_n 0, 1) := by decide +kernel
theorem dX11_hasScript_6 : decode cX11_hasScript 6 = .ok (.getfield 79, 3) := by decide +kernel
theorem dX11_hasScript_9 : decode cX11_hasScript 9 = .ok (.if_icmp .ge 7, 3) := by decide +kernel
theorem dX11_hasScript_12 : decode cX11_hasScript 12 = .ok (.iconst 1, 1) := by decide +kernel
theorem dX11_hasScript_13 : decode cX11_hasScript 13 = .ok (.goto 4, 3) := by decide +kernel
theorem dX11_hasScript_16 : decode cX11_hasScript 16 = .ok (.iconst 0, 1) := by decide +kernel
theorem dX11_hasScript_17 : decode cX11_hasScript 17 = .ok (.ireturn, 1) := by decide +kernel
set_option maxHeartbeats 4000000 in
set_option maxRecDepth 100000 in
theorem B_X11_hasScript_0 {d : Nat} {ro : Nat → Nat} {J : JT} {Z : Option Value → Hp → Prop} (g : xCtx RX11 cX11_hasScript 2 d 0 0 yX11_hasScript.name ro J) (hr : xRet cX11_hasScript (some .boolean) 0 0 Z J) {μ : Hp} {a0 : Nat} {x1 : Int32} (hs_a0 : hS μ a0 = some (14, 18))
    (h : ((x1 < 0 → Z (some (.int 0)) μ) ∧ (¬ x1 < 0 → (((hI μ a0 15) ≤ x1 → Z (some (.int 0)) μ) ∧ (¬ (hI μ a0 15) ≤ x1 → Z (some (.int 1)) μ))))) :
    J μ 0 0 0 [(0, .ref a0), (1, .int x1)] [] := by
  refine r_iload_n g dX11_hasScript_0 rfl ?_
  refine r_if_lt g 16 dX11_hasScript_1 (by decide) (fun c1 => ?_) (fun c1 => ?_)
  · replace h := h.1 c1
    refine r_iconst g 0 dX11_hasScript_16 (by decide) ?_
    exact hr.2.1 _ rfl _ _ _ _ _ _ dX11_hasScript_17 (by decide) (Nat.le_refl 0) (Nat.le_refl 0) h
  · replace h := h.2 c1
    refine r_iload_n g dX11_hasScript_4 rfl ?_
    refine r_aload_n g dX11_hasScript_5 rfl ?_
    refine r_getI g fX11_79 rfl hs_a0 dX11_hasScript_6 ?_
    refine r_icmp_ge g 16 dX11_hasScript_9 (by decide) (fun c2 => ?_) (fun c2 => ?_)
    · replace h := h.1 c2
      refine r_iconst g 0 dX11_hasScript_16 (by decide) ?_
      exact hr.2.1 _ rfl _ _ _ _ _ _ dX11_hasScript_17 (by decide) (Nat.le_refl 0) (Nat.le_refl 0) h
    · replace h := h.2 c2
      refine r_iconst g 1 dX11_hasScript_12 (by decide) ?_
      refine r_goto g 17 dX11_hasScript_13 (by decide) ?_
      exact hr.2.1 _ rfl _ _ _ _ _ _ dX11_hasScript_17 (by decide) (Nat.le_refl 0) (Nat.le_refl 0) h
theorem I_X11_hasScript {d : Nat} {ro : Nat → Nat} {Z : Option Value → Hp → Prop} {μ : Hp} {a0 : Nat} {x1 : Int32} (h : ∀ J, xCtx RX11 cX11_hasScript 2 d 0 0 yX11_hasScript.name ro J → xRet cX11_hasScript (some .boolean) 0 0 Z J → J μ 0 0 0 [(0, .ref a0), (1, .int x1)] []) : xC d yX11_hasScript cX11_hasScript 2 (some .boolean) 0 0 [.ref a0, .int x1] μ ro Z :=
  xC_intro (own := RX11) (lv := [(0, .ref a0), (1, .int x1)]) (by decide) rfl (Nat.le_of_ble_eq_true rfl) rfl (fun J g hr => r_sub g (lv' := [(0, .ref a0), (1, .int x1)]) (⟨rfl, rfl, trivial⟩) (h J g hr))
theorem dX2_hasLand_0 : decode cX2_hasLand 0 = .ok (.iload_n 1, 1) := by decide +kernel
theorem dX2_hasLand_1 : decode cX2_hasLand 1 = .ok (.ifCond .lt 15, 3) := by decide +kernel
theorem dX2_hasLand_4 : decode cX2_hasLand 4 = .ok (.iload_n 1, 1) := by decide +kernel
theorem dX2_hasLand_5 : decode cX2_hasLand 5 = .ok (.aload_n 0, 1) := by decide +kernel
theorem dX2_hasLand_6 : decode cX2_hasLand 6 = .ok (.getfield 28, 3) := by decide +kernel
theorem dX2_hasLand_9 : decode cX2_hasLand 9 = .ok (.if_icmp .ge 7, 3) := by decide +kernel
theorem dX2_hasLand_12 : decode cX2_hasLand 12 = .ok (.iconst 1, 1) := by decide +kernel
theorem dX2_hasLand_13 : decode cX2_hasLand 13 = .ok (.goto 4, 3) := by decide +kernel
theorem dX2_hasLand_16 : decode cX2_hasLand 16 = .ok (.iconst 0, 1) := by decide +kernel
theorem dX2_hasLand_17 : decode cX2_hasLand 17 = .ok (.ireturn, 1) := by decide +kernel
set_option maxHeartbeats 4000000 in
set_option maxRecDepth 100000 in
theorem B_X2_hasLand_0 {d : Nat} {ro : Nat → Nat} {J : JT} {Z : Option Value → Hp → Prop} (g : xCtx RX2 cX2_hasLand 2 d 0 0 yX2_hasLand.name ro J) (hr : xRet cX2_hasLand (some .boolean) 0 0 Z J) {μ : Hp} {a0 : Nat} {x1 : Int32} (hs_a0 : hS μ a0 = some (6, 9))
    (h : ((x1 < 0 → Z (some (.int 0)) μ) ∧ (¬ x1 < 0 → (((hI μ a0 5) ≤ x1 → Z (some (.int 0)) μ) ∧ (¬ (hI μ a0 5) ≤ x1 → Z (some (.int 1)) μ))))) :
    J μ 0 0 0 [(0, .ref a0), (1, .int x1)] [] := by
  refine r_iload_n g dX2_hasLand_0 rfl ?_
  refine r_if_lt g 16 dX2_hasLand_1 (by decide) (fun c1 => ?_) (fun c1 => ?_)
  · replace h := h.1 c1
    refine r_iconst g 0 dX2_hasLand_16 (by decide) ?_
    exact hr.2.1 _ rfl _ _ _ _ _ _ dX2_hasLand_17 (by decide) (Nat.le_refl 0) (Nat.le_refl 0) h
  · replace h := h.2 c1
    refine r_iload_n g dX2_hasLand_4 rfl ?_
    refine r_aload_n g dX2_hasLand_5 rfl ?_
    refine r_getI g fX2_28 rfl hs_a0 dX2_hasLand_6 ?_
    refine r_icmp_ge g 16 dX2_hasLand_9 (by decide) (fun c2 => ?_) (fun c2 => ?_)
    · replace h := h.1 c2
      refine r_iconst g 0 dX2_hasLand_16 (by decide) ?_
      exact hr.2.1 _ rfl _ _ _ _ _ _ dX2_hasLand_17 (by decide) (Nat.le_refl 0) (Nat.le_refl 0) h
    · replace h := h.2 c2
      refine r_iconst g 1 dX2_hasLand_12 (by decide) ?_
      refine r_goto g 17 dX2_hasLand_13 (by decide) ?_
      exact hr.2.1 _ rfl _ _ _ _ _ _ dX2_hasLand_17 (by decide) (Nat.le_refl 0) (Nat.le_refl 0) h
theorem I_X2_hasLand {d : Nat} {ro : Nat → Nat} {Z : Option Value → Hp → Prop} {μ : Hp} {a0 : Nat} {x1 : Int32} (h : ∀ J, xCtx RX2 cX2_hasLand 2 d 0 0 yX2_hasLand.name ro J → xRet cX2_hasLand (some .boolean) 0 0 Z J → J μ 0 0 0 [(0, .ref a0), (1, .int x1)] []) : xC d yX2_hasLand cX2_hasLand 2 (some .boolean) 0 0 [.ref a0, .int x1] μ ro Z :=
  xC_intro (own := RX2) (lv := [(0, .ref a0), (1, .int x1)]) (by decide) rfl (Nat.le_of_ble_eq_true rfl) rfl (fun J g hr => r_sub g (lv' := [(0, .ref a0), (1, .int x1)]) (⟨rfl, rfl, trivial⟩) (h J g hr))
theorem dX2_hasFirm_0 : decode cX2_hasFirm 0 = .ok (.iload_n 1, 1) := by decide +kernel
theorem dX2_hasFirm_1 : decode cX2_hasFirm 1 = .ok (.ifCond .lt 15, 3) := by decide +kernel
theorem dX2_hasFirm_4 : decode cX2_hasFirm 4 = .ok (.iload_n 1, 1) := by decide +kernel
theorem dX2_hasFirm_5 : decode cX2_hasFirm 5 = .ok (.aload_n 0, 1) := by decide +kernel
theorem dX2_hasFirm_6 : decode cX2_hasFirm 6 = .ok (.getfield 32, 3) := by decide +kernel
theorem dX2_hasFirm_9 : decode cX2_hasFirm 9 = .ok (.if_icmp .ge 7, 3) := by decide +kernel
theorem dX2_hasFirm_12 : decode cX2_hasFirm 12 = .ok (.iconst 1, 1) := by decide +kernel
theorem dX2_hasFirm_13 : decode cX2_hasFirm 13 = .ok (.goto 4, 3) := by decide +kernel
theorem dX2_hasFirm_16 : decode cX2_hasFirm 16 = .ok (.iconst 0, 1) := by decide +kernel
theorem dX2_hasFirm_17 : decode cX2_hasFirm 17 = .ok (.ireturn, 1) := by decide +kernel
set_option maxHeartbeats 4000000 in
set_option maxRecDepth 100000 in
theorem B_X2_hasFirm_0 {d : Nat} {ro : Nat → Nat} {J : JT} {Z : Option Value → Hp → Prop} (g : xCtx RX2 cX2_hasFirm 2 d 0 0 yX2_hasFirm.name ro J) (hr : xRet cX2_hasFirm (some .boolean) 0 0 Z J) {μ : Hp} {a0 : Nat} {x1 : Int32} (hs_a0 : hS μ a0 = some (6, 9))
    (h : ((x1 < 0 → Z (some (.int 0)) μ) ∧ (¬ x1 < 0 → (((hI μ a0 6) ≤ x1 → Z (some (.int 0)) μ) ∧ (¬ (hI μ a0 6) ≤ x1 → Z (some (.int 1)) μ))))) :
    J μ 0 0 0 [(0, .ref a0), (1, .int x1)] [] := by
  refine r_iload_n g dX2_hasFirm_0 rfl ?_
  refine r_if_lt g 16 dX2_hasFirm_1 (by decide) (fun c1 => ?_) (fun c1 => ?_)
  · replace h := h.1 c1
    refine r_iconst g 0 dX2_hasFirm_16 (by decide) ?_
    exact hr.2.1 _ rfl _ _ _ _ _ _ dX2_hasFirm_17 (by decide) (Nat.le_refl 0) (Nat.le_refl 0) h
  · replace h := h.2 c1
    refine r_iload_n g dX2_hasFirm_4 rfl ?_
    refine r_aload_n g dX2_hasFirm_5 rfl ?_
    refine r_getI g fX2_32 rfl hs_a0 dX2_hasFirm_6 ?_
    refine r_icmp_ge g 16 dX2_hasFirm_9 (by decide) (fun c2 => ?_) (fun c2 => ?_)
    · replace h := h.1 c2
      refine r_iconst g 0 dX2_hasFirm_16 (by decide) ?_
      exact hr.2.1 _ rfl _ _ _ _ _ _ dX2_hasFirm_17 (by decide) (Nat.le_refl 0) (Nat.le_refl 0) h
    · replace h := h.2 c2
      refine r_iconst g 1 dX2_hasFirm_12 (by decide) ?_
      refine r_goto g 17 dX2_hasFirm_13 (by decide) ?_
      exact hr.2.1 _ rfl _ _ _ _ _ _ dX2_hasFirm_17 (by decide) (Nat.le_refl 0) (Nat.le_refl 0) h
theorem I_X2_hasFirm {d : Nat} {ro : Nat → Nat} {Z : Option Value → Hp → Prop} {μ : Hp} {a0 : Nat} {x1 : Int32} (h : ∀ J, xCtx RX2 cX2_hasFirm 2 d 0 0 yX2_hasFirm.name ro J → xRet cX2_hasFirm (some .boolean) 0 0 Z J → J μ 0 0 0 [(0, .ref a0), (1, .int x1)] []) : xC d yX2_hasFirm cX2_hasFirm 2 (some .boolean) 0 0 [.ref a0, .int x1] μ ro Z :=
  xC_intro (own := RX2) (lv := [(0, .ref a0), (1, .int x1)]) (by decide) rfl (Nat.le_of_ble_eq_true rfl) rfl (fun J g hr => r_sub g (lv' := [(0, .ref a0), (1, .int x1)]) (⟨rfl, rfl, trivial⟩) (h J g hr))
theorem dX8_hasLink_0 : decode cX8_hasLink 0 = .ok (.iload_n 1, 1) := by decide +kernel
theorem dX8_hasLink_1 : decode cX8_hasLink 1 = .ok (.ifCond .lt 17, 3) := by decide +kernel
theorem dX8_hasLink_4 : decode cX8_hasLink 4 = .ok (.iload_n 1, 1) := by decide +kernel
theorem dX8_hasLink_5 : decode cX8_hasLink 5 = .ok (.aload_n 0, 1) := by decide +kernel
theorem dX8_hasLink_6 : decode cX8_hasLink 6 = .ok (.getfield 11, 3) := by decide +kernel
theorem dX8_hasLink_9 : decode cX8_hasLink 9 = .ok (.iconst 1, 1) := by decide +kernel
theorem dX8_hasLink_10 : decode cX8_hasLink 10 = .ok (.iaload, 1) := by decide +kernel
theorem dX8_hasLink_11 : decode cX8_hasLink 11 = .ok (.if_icmp .ge 7, 3) := by decide +kernel
theorem dX8_hasLink_14 : decode cX8_hasLink 14 = .ok (.iconst 1, 1) := by decide +kernel
theorem dX8_hasLink_15 : decode cX8_hasLink 15 = .ok (.goto 4, 3) := by decide +kernel
theorem dX8_hasLink_18 : decode cX8_hasLink 18 = .ok (.iconst 0, 1) := by decide +kernel
theorem dX8_hasLink_19 : decode cX8_hasLink 19 = .ok (.ireturn, 1) := by decide +kernel
set_option maxHeartbeats 4000000 in
set_option maxRecDepth 100000 in
theorem B_X8_hasLink_0 {d : Nat} {ro : Nat → Nat} {J : JT} {Z : Option Value → Hp → Prop} (g : xCtx RX8 cX8_hasLink 2 d 0 0 yX8_hasLink.name ro J) (hr : xRet cX8_hasLink (some .boolean) 0 0 Z J) {μ : Hp} {a0 : Nat} {x1 : Int32} {a0_row : Nat} {N_a0_row : Nat} (hs_a0 : hS μ a0 = some (12, 4)) (hr_a0_row : hR μ a0 0 = some a0_row) (hs_a0_row : hS μ a0_row = some (0, N_a0_row))
    (h : ((x1 < 0 → Z (some (.int 0)) μ) ∧ (¬ x1 < 0 → vp_in 1 N_a0_row ∧ (((hI μ a0_row 1) ≤ x1 → Z (some (.int 0)) μ) ∧ (¬ (hI μ a0_row 1) ≤ x1 → Z (some (.int 1)) μ))))) :
    J μ 0 0 0 [(0, .ref a0), (1, .int x1)] [] := by
  refine r_iload_n g dX8_hasLink_0 rfl ?_
  refine r_if_lt g 18 dX8_hasLink_1 (by decide) (fun c1 => ?_) (fun c1 => ?_)
  · replace h := h.1 c1
    refine r_iconst g 0 dX8_hasLink_18 (by decide) ?_
    exact hr.2.1 _ rfl _ _ _ _ _ _ dX8_hasLink_19 (by decide) (Nat.le_refl 0) (Nat.le_refl 0) h
  · replace h := h.2 c1
    refine r_iload_n g dX8_hasLink_4 rfl ?_
    refine r_aload_n g dX8_hasLink_5 rfl ?_
    refine r_getR g fX8_11 rfl hs_a0 hr_a0_row dX8_hasLink_6 ?_
    refine r_iconst g 1 dX8_hasLink_9 (by decide) ?_
    obtain ⟨hi2, h⟩ := h
    refine r_iaload g hs_a0_row hi2 dX8_hasLink_10 ?_
    refine r_icmp_ge g 18 dX8_hasLink_11 (by decide) (fun c3 => ?_) (fun c3 => ?_)
    · replace h := h.1 c3
      refine r_iconst g 0 dX8_hasLink_18 (by decide) ?_
      exact hr.2.1 _ rfl _ _ _ _ _ _ dX8_hasLink_19 (by decide) (Nat.le_refl 0) (Nat.le_refl 0) h
    · replace h := h.2 c3
      refine r_iconst g 1 dX8_hasLink_14 (by decide) ?_
      refine r_goto g 19 dX8_hasLink_15 (by decide) ?_
      exact hr.2.1 _ rfl _ _ _ _ _ _ dX8_hasLink_19 (by decide) (Nat.le_refl 0) (Nat.le_refl 0) h
theorem I_X8_hasLink {d : Nat} {ro : Nat → Nat} {Z : Option Value → Hp → Prop} {μ : Hp} {a0 : Nat} {x1 : Int32} (h : ∀ J, xCtx RX8 cX8_hasLink 2 d 0 0 yX8_hasLink.name ro J → xRet cX8_hasLink (some .boolean) 0 0 Z J → J μ 0 0 0 [(0, .ref a0), (1, .int x1)] []) : xC d yX8_hasLink cX8_hasLink 2 (some .boolean) 0 0 [.ref a0, .int x1] μ ro Z :=
  xC_intro (own := RX8) (lv := [(0, .ref a0), (1, .int x1)]) (by decide) rfl (Nat.le_of_ble_eq_true rfl) rfl (fun J g hr => r_sub g (lv' := [(0, .ref a0), (1, .int x1)]) (⟨rfl, rfl, trivial⟩) (h J g hr))
theorem dX6_codeOf_0 : decode cX6_codeOf 0 = .ok (.iload_n 0, 1) := by decide +kernel
theorem dX6_codeOf_1 : decode cX6_codeOf 1 = .ok (.bipush 97, 2) := by decide +kernel
theorem dX6_codeOf_3 : decode cX6_codeOf 3 = .ok (.isub, 1) := by decide +kernel
theorem dX6_codeOf_4 : decode cX6_codeOf 4 = .ok (.iconst 1, 1) := by decide +kernel
theorem dX6_codeOf_5 : decode cX6_codeOf 5 = .ok (.iadd, 1) := by decide +kernel
theorem dX6_codeOf_6 : decode cX6_codeOf 6 = .ok (.i2l, 1) := by decide +kernel
theorem dX6_codeOf_7 : decode cX6_codeOf 7 = .ok (.iconst 5, 1) := by decide +kernel
theorem dX6_codeOf_8 : decode cX6_codeOf 8 = .ok (.iload_n 1, 1) := by decide +kernel
theorem dX6_codeOf_9 : decode cX6_codeOf 9 = .ok (.imul, 1) := by decide +kernel
theorem dX6_codeOf_10 : decode cX6_codeOf 10 = .ok (.lshl, 1) := by decide +kernel
theorem dX6_codeOf_11 : decode cX6_codeOf 11 = .ok (.lreturn, 1) := by decide +kernel
set_option maxHeartbeats 4000000 in
set_option maxRecDepth 100000 in
theorem B_X6_codeOf_0 {d : Nat} {ro : Nat → Nat} {J : JT} {Z : Option Value → Hp → Prop} (g : xCtx RX6 cX6_codeOf 2 d 0 0 yX6_codeOf.name ro J) (hr : xRet cX6_codeOf (some .long) 0 0 Z J) {μ : Hp} {x0 : Int32} {x1 : Int32} 
    (h : Z (some (.long (((x0 - 97) + 1).toInt64 <<< ((5 * x1).toInt64 &&& 63)))) μ) :
    J μ 0 0 0 [(0, .int x0), (1, .int x1)] [] := by
  refine r_iload_n g dX6_codeOf_0 rfl ?_
  refine r_bipush g 97 dX6_codeOf_1 (by decide) ?_
  refine r_isub g dX6_codeOf_3 ?_
  refine r_iconst g 1 dX6_codeOf_4 (by decide) ?_
  refine r_iadd g dX6_codeOf_5 ?_
  refine r_i2l g dX6_codeOf_6 ?_
  refine r_iconst g 5 dX6_codeOf_7 (by decide) ?_
  refine r_iload_n g dX6_codeOf_8 rfl ?_
  refine r_imul g dX6_codeOf_9 ?_
  refine r_lshl g dX6_codeOf_10 ?_
  exact hr.2.2.1 rfl _ _ _ _ _ _ dX6_codeOf_11 (Nat.le_refl 0) (Nat.le_refl 0) h
theorem I_X6_codeOf {d : Nat} {ro : Nat → Nat} {Z : Option Value → Hp → Prop} {μ : Hp} {x0 : Int32} {x1 : Int32} (h : ∀ J, xCtx RX6 cX6_codeOf 2 d 0 0 yX6_codeOf.name ro J → xRet cX6_codeOf (some .long) 0 0 Z J → J μ 0 0 0 [(0, .int x0), (1, .int x1)] []) : xC d yX6_codeOf cX6_codeOf 2 (some .long) 0 0 [.int x0, .int x1] μ ro Z :=
  xC_intro (own := RX6) (lv := [(0, .int x0), (1, .int x1)]) (by decide) rfl (Nat.le_of_ble_eq_true rfl) rfl (fun J g hr => r_sub g (lv' := [(0, .int x0), (1, .int x1)]) (⟨rfl, rfl, trivial⟩) (h J g hr))
theorem P_X12_isIn_0 {d : Nat} {ro : Nat → Nat} {μ : Hp} {x0 : Int64} {x2 : Int64} {x4 : Int64}   (hc0 : (lg_cmp x0 x2) < 0) : xC d yX12_isIn cX12_isIn 6 (some .boolean) 0 0 [.long x0, .long x2, .long x4] μ ro (fun r μ' => r = some (.int 0) ∧ μ' = μ) :=
  I_X12_isIn (fun J g hr => B_X12_isIn_0 g hr  (⟨fun _ => ⟨rfl, rfl⟩, fun c => by contradiction⟩))
theorem P_X12_isIn_1 {d : Nat} {ro : Nat → Nat} {μ : Hp} {x0 : Int64} {x2 : Int64} {x4 : Int64}   (hc0 : ¬ ((lg_cmp x0 x2) < 0)) (hc1 : 0 < (lg_cmp x0 x4)) : xC d yX12_isIn cX12_isIn 6 (some .boolean) 0 0 [.long x0, .long x2, .long x4] μ ro (fun r μ' => r = some (.int 0) ∧ μ' = μ) :=
  I_X12_isIn (fun J g hr => B_X12_isIn_0 g hr  (⟨fun c => by contradiction, fun _ => ⟨fun _ => ⟨rfl, rfl⟩, fun c => by contradiction⟩⟩))
theorem P_X12_isIn_2 {d : Nat} {ro : Nat → Nat} {μ : Hp} {x0 : Int64} {x2 : Int64} {x4 : Int64}   (hc0 : ¬ ((lg_cmp x0 x2) < 0)) (hc1 : ¬ (0 < (lg_cmp x0 x4))) : xC d yX12_isIn cX12_isIn 6 (some .boolean) 0 0 [.long x0, .long x2, .long x4] μ ro (fun r μ' => r = some (.int 1) ∧ μ' = μ) :=
  I_X12_isIn (fun J g hr => B_X12_isIn_0 g hr  (⟨fun c => by contradiction, fun _ => ⟨fun c => by contradiction, fun _ => ⟨rfl, rfl⟩⟩⟩))
theorem P_X12_linkRow_0 {d : Nat} {ro : Nat → Nat} {μ : Hp} {x0 : Int32}    : xC d yX12_linkRow cX12_linkRow 1 (some .int) 0 0 [.int x0] μ ro (fun r μ' => r = some (.int (32 + (5 * x0))) ∧ μ' = μ) :=
  I_X12_linkRow (fun J g hr => B_X12_linkRow_0 g hr  (⟨rfl, rfl⟩))
theorem P_X12_landOf_0 {d : Nat} {ro : Nat → Nat} {μ : Hp} {a0 : Nat} {x1 : Int32} {a0_firm : Nat} {N_a0_firm : Nat} (hs_a0 : hS μ a0 = some (15, 65)) (hr_a0_firm : hR μ a0 10 = some a0_firm) (hs_a0_firm : hS μ a0_firm = some (0, N_a0_firm)) (hv0 : vp_in (2 * x1) N_a0_firm) : xC d yX12_landOf cX12_landOf 2 (some .int) 0 0 [.ref a0, .int x1] μ ro (fun r μ' => r = some (.int (hI μ a0_firm ((2 * x1).toNatClampNeg))) ∧ μ' = μ) :=
  I_X12_landOf (fun J g hr => B_X12_landOf_0 g hr hs_a0 hr_a0_firm hs_a0_firm (⟨hv0, ⟨rfl, rfl⟩⟩))
theorem P_X12_isFirm_0 {d : Nat} {ro : Nat → Nat} {μ : Hp} {a0 : Nat} {x1 : Int32}  (hs_a0 : hS μ a0 = some (15, 65)) (hc0 : x1 < 0) : xC d yX12_isFirm cX12_isFirm 2 (some .boolean) 0 0 [.ref a0, .int x1] μ ro (fun r μ' => r = some (.int 0) ∧ μ' = μ) :=
  I_X12_isFirm (fun J g hr => B_X12_isFirm_0 g hr hs_a0 (⟨fun _ => ⟨rfl, rfl⟩, fun c => by contradiction⟩))
theorem P_X12_isFirm_1 {d : Nat} {ro : Nat → Nat} {μ : Hp} {a0 : Nat} {x1 : Int32}  (hs_a0 : hS μ a0 = some (15, 65)) (hc0 : ¬ (x1 < 0)) (hc1 : (hI μ a0 22) ≤ x1) : xC d yX12_isFirm cX12_isFirm 2 (some .boolean) 0 0 [.ref a0, .int x1] μ ro (fun r μ' => r = some (.int 0) ∧ μ' = μ) :=
  I_X12_isFirm (fun J g hr => B_X12_isFirm_0 g hr hs_a0 (⟨fun c => by contradiction, fun _ => ⟨fun _ => ⟨rfl, rfl⟩, fun c => by contradiction⟩⟩))
theorem P_X12_isFirm_2 {d : Nat} {ro : Nat → Nat} {μ : Hp} {a0 : Nat} {x1 : Int32}  (hs_a0 : hS μ a0 = some (15, 65)) (hc0 : ¬ (x1 < 0)) (hc1 : ¬ ((hI μ a0 22) ≤ x1)) : xC d yX12_isFirm cX12_isFirm 2 (some .boolean) 0 0 [.ref a0, .int x1] μ ro (fun r μ' => r = some (.int 1) ∧ μ' = μ) :=
  I_X12_isFirm (fun J g hr => B_X12_isFirm_0 g hr hs_a0 (⟨fun c => by contradiction, fun _ => ⟨fun c => by contradiction, fun _ => ⟨rfl, rfl⟩⟩⟩))
theorem P_X12_isLand_0 {d : Nat} {ro : Nat → Nat} {μ : Hp} {a0 : Nat} {x1 : Int32}  (hs_a0 : hS μ a0 = some (15, 65)) (hc0 : x1 < 0) : xC d yX12_isLand cX12_isLand 2 (some .boolean) 0 0 [.ref a0, .int x1] μ ro (fun r μ' => r = some (.int 0) ∧ μ' = μ) :=
  I_X12_isLand (fun J g hr => B_X12_isLand_0 g hr hs_a0 (⟨fun _ => ⟨rfl, rfl⟩, fun c => by contradiction⟩))
theorem P_X12_isLand_1 {d : Nat} {ro : Nat → Nat} {μ : Hp} {a0 : Nat} {x1 : Int32}  (hs_a0 : hS μ a0 = some (15, 65)) (hc0 : ¬ (x1 < 0)) (hc1 : (hI μ a0 20) ≤ x1) : xC d yX12_isLand cX12_isLand 2 (some .boolean) 0 0 [.ref a0, .int x1] μ ro (fun r μ' => r = some (.int 0) ∧ μ' = μ) :=
  I_X12_isLand (fun J g hr => B_X12_isLand_0 g hr hs_a0 (⟨fun c => by contradiction, fun _ => ⟨fun _ => ⟨rfl, rfl⟩, fun c => by contradiction⟩⟩))
theorem P_X12_isLand_2 {d : Nat} {ro : Nat → Nat} {μ : Hp} {a0 : Nat} {x1 : Int32}  (hs_a0 : hS μ a0 = some (15, 65)) (hc0 : ¬ (x1 < 0)) (hc1 : ¬ ((hI μ a0 20) ≤ x1)) (hc2 : (hI μ a0 22) ≤ 0) : xC d yX12_isLand cX12_isLand 2 (some .boolean) 0 0 [.ref a0, .int x1] μ ro (fun r μ' => r = some (.int 0) ∧ μ' = μ) :=
  I_X12_isLand (fun J g hr => B_X12_isLand_0 g hr hs_a0 (⟨fun c => by contradiction, fun _ => ⟨fun c => by contradiction, fun _ => ⟨fun _ => ⟨rfl, rfl⟩, fun c => by contradiction⟩⟩⟩))
theorem P_X12_isLand_3 {d : Nat} {ro : Nat → Nat} {μ : Hp} {a0 : Nat} {x1 : Int32}  (hs_a0 : hS μ a0 = some (15, 65)) (hc0 : ¬ (x1 < 0)) (hc1 : ¬ ((hI μ a0 20) ≤ x1)) (hc2 : ¬ ((hI μ a0 22) ≤ 0)) : xC d yX12_isLand cX12_isLand 2 (some .boolean) 0 0 [.ref a0, .int x1] μ ro (fun r μ' => r = some (.int 1) ∧ μ' = μ) :=
  I_X12_isLand (fun J g hr => B_X12_isLand_0 g hr hs_a0 (⟨fun c => by contradiction, fun _ => ⟨fun c => by contradiction, fun _ => ⟨fun c => by contradiction, fun _ => ⟨rfl, rfl⟩⟩⟩⟩))
theorem P_X12_here_0 {d : Nat} {ro : Nat → Nat} {μ : Hp} {a0 : Nat} {a0_tape : Nat} {N_a0_tape : Nat} (hs_a0 : hS μ a0 = some (15, 65)) (hr_a0_tape : hR μ a0 1 = some a0_tape) (hs_a0_tape : hS μ a0_tape = some (1, N_a0_tape)) (hc0 : (hI μ a0 2) ≤ (hI μ a0 3)) : xC d yX12_here cX12_here 1 (some .int) 0 0 [.ref a0] μ ro (fun r μ' => r = some (.int (-1)) ∧ μ' = μ) :=
  I_X12_here (fun J g hr => B_X12_here_0 g hr hs_a0 hr_a0_tape hs_a0_tape (⟨fun _ => ⟨rfl, rfl⟩, fun c => by contradiction⟩))
theorem P_X12_here_1 {d : Nat} {ro : Nat → Nat} {μ : Hp} {a0 : Nat} {a0_tape : Nat} {N_a0_tape : Nat} (hs_a0 : hS μ a0 = some (15, 65)) (hr_a0_tape : hR μ a0 1 = some a0_tape) (hs_a0_tape : hS μ a0_tape = some (1, N_a0_tape)) (hc0 : ¬ ((hI μ a0 2) ≤ (hI μ a0 3))) (hv1 : vp_in (hI μ a0 3) N_a0_tape) : xC d yX12_here cX12_here 1 (some .int) 0 0 [.ref a0] μ ro (fun r μ' => r = some (.int ((hI μ a0_tape ((hI μ a0 3).toNatClampNeg)) &&& 255)) ∧ μ' = μ) :=
  I_X12_here (fun J g hr => B_X12_here_0 g hr hs_a0 hr_a0_tape hs_a0_tape (⟨fun c => by contradiction, fun _ => ⟨hv1, ⟨rfl, rfl⟩⟩⟩))
theorem P_X12_areLapsed_0 {d : Nat} {ro : Nat → Nat} {μ : Hp} {a0 : Nat} {x1 : Int32} {x2 : Int32}  (hs_a0 : hS μ a0 = some (15, 65)) (hc0 : ¬ (x1 = (hI μ a0 38))) (hc1 : ¬ (x1 = (hI μ a0 39))) : xC d yX12_areLapsed cX12_areLapsed 3 (some .boolean) 0 0 [.ref a0, .int x1, .int x2] μ ro (fun r μ' => r = some (.int 0) ∧ μ' = μ) :=
  I_X12_areLapsed (fun J g hr => B_X12_areLapsed_0 g hr hs_a0 (⟨fun _ => ⟨fun _ => ⟨rfl, rfl⟩, fun c => by contradiction⟩, fun c => by contradiction⟩))
theorem P_X12_areLapsed_1 {d : Nat} {ro : Nat → Nat} {μ : Hp} {a0 : Nat} {x1 : Int32} {x2 : Int32}  (hs_a0 : hS μ a0 = some (15, 65)) (hc0 : ¬ (x1 = (hI μ a0 38))) (hc1 : x1 = (hI μ a0 39)) (hc2 : ¬ (x2 = (hI μ a0 38))) : xC d yX12_areLapsed cX12_areLapsed 3 (some .boolean) 0 0 [.ref a0, .int x1, .int x2] μ ro (fun r μ' => r = some (.int 0) ∧ μ' = μ) :=
  I_X12_areLapsed (fun J g hr => B_X12_areLapsed_0 g hr hs_a0 (⟨fun _ => ⟨fun c => by contradiction, fun _ => ⟨fun _ => ⟨rfl, rfl⟩, fun c => by contradiction⟩⟩, fun c => by contradiction⟩))
theorem P_X12_areLapsed_2 {d : Nat} {ro : Nat → Nat} {μ : Hp} {a0 : Nat} {x1 : Int32} {x2 : Int32}  (hs_a0 : hS μ a0 = some (15, 65)) (hc0 : ¬ (x1 = (hI μ a0 38))) (hc1 : x1 = (hI μ a0 39)) (hc2 : x2 = (hI μ a0 38)) : xC d yX12_areLapsed cX12_areLapsed 3 (some .boolean) 0 0 [.ref a0, .int x1, .int x2] μ ro (fun r μ' => r = some (.int 1) ∧ μ' = μ) :=
  I_X12_areLapsed (fun J g hr => B_X12_areLapsed_0 g hr hs_a0 (⟨fun _ => ⟨fun c => by contradiction, fun _ => ⟨fun c => by contradiction, fun _ => ⟨rfl, rfl⟩⟩⟩, fun c => by contradiction⟩))
theorem P_X12_areLapsed_3 {d : Nat} {ro : Nat → Nat} {μ : Hp} {a0 : Nat} {x1 : Int32} {x2 : Int32}  (hs_a0 : hS μ a0 = some (15, 65)) (hc0 : x1 = (hI μ a0 38)) (hc1 : x2 = (hI μ a0 39)) : xC d yX12_areLapsed cX12_areLapsed 3 (some .boolean) 0 0 [.ref a0, .int x1, .int x2] μ ro (fun r μ' => r = some (.int 1) ∧ μ' = μ) :=
  I_X12_areLapsed (fun J g hr => B_X12_areLapsed_0 g hr hs_a0 (⟨fun c => by contradiction, fun _ => ⟨fun _ => ⟨rfl, rfl⟩, fun c => by contradiction⟩⟩))
theorem P_X12_areLapsed_4 {d : Nat} {ro : Nat → Nat} {μ : Hp} {a0 : Nat} {x1 : Int32} {x2 : Int32}  (hs_a0 : hS μ a0 = some (15, 65)) (hc0 : x1 = (hI μ a0 38)) (hc1 : ¬ (x2 = (hI μ a0 39))) (hc2 : ¬ (x1 = (hI μ a0 39))) : xC d yX12_areLapsed cX12_areLapsed 3 (some .boolean) 0 0 [.ref a0, .int x1, .int x2] μ ro (fun r μ' => r = some (.int 0) ∧ μ' = μ) :=
  I_X12_areLapsed (fun J g hr => B_X12_areLapsed_0 g hr hs_a0 (⟨fun c => by contradiction, fun _ => ⟨fun c => by contradiction, fun _ => ⟨fun _ => ⟨rfl, rfl⟩, fun c => by contradiction⟩⟩⟩))
theorem P_X12_areLapsed_5 {d : Nat} {ro : Nat → Nat} {μ : Hp} {a0 : Nat} {x1 : Int32} {x2 : Int32}  (hs_a0 : hS μ a0 = some (15, 65)) (hc0 : x1 = (hI μ a0 38)) (hc1 : ¬ (x2 = (hI μ a0 39))) (hc2 : x1 = (hI μ a0 39)) (hc3 : ¬ (x2 = (hI μ a0 38))) : xC d yX12_areLapsed cX12_areLapsed 3 (some .boolean) 0 0 [.ref a0, .int x1, .int x2] μ ro (fun r μ' => r = some (.int 0) ∧ μ' = μ) :=
  I_X12_areLapsed (fun J g hr => B_X12_areLapsed_0 g hr hs_a0 (⟨fun c => by contradiction, fun _ => ⟨fun c => by contradiction, fun _ => ⟨fun c => by contradiction, fun _ => ⟨fun _ => ⟨rfl, rfl⟩, fun c => by contradiction⟩⟩⟩⟩))
theorem P_X12_areLapsed_6 {d : Nat} {ro : Nat → Nat} {μ : Hp} {a0 : Nat} {x1 : Int32} {x2 : Int32}  (hs_a0 : hS μ a0 = some (15, 65)) (hc0 : x1 = (hI μ a0 38)) (hc1 : ¬ (x2 = (hI μ a0 39))) (hc2 : x1 = (hI μ a0 39)) (hc3 : x2 = (hI μ a0 38)) : xC d yX12_areLapsed cX12_areLapsed 3 (some .boolean) 0 0 [.ref a0, .int x1, .int x2] μ ro (fun r μ' => r = some (.int 1) ∧ μ' = μ) :=
  I_X12_areLapsed (fun J g hr => B_X12_areLapsed_0 g hr hs_a0 (⟨fun c => by contradiction, fun _ => ⟨fun c => by contradiction, fun _ => ⟨fun c => by contradiction, fun _ => ⟨fun c => by contradiction, fun _ => ⟨rfl, rfl⟩⟩⟩⟩⟩))
theorem P_X11_hasBook_0 {d : Nat} {ro : Nat → Nat} {μ : Hp} {a0 : Nat} {a0_book : Nat} (hs_a0 : hS μ a0 = some (14, 18)) (hr_a0_book : hR μ a0 13 = some a0_book) (hs_a0_book : hS μ a0_book = some (6, 9)) (hc0 : (hI μ a0_book 6) ≤ 0) : xC d yX11_hasBook cX11_hasBook 1 (some .boolean) 0 0 [.ref a0] μ ro (fun r μ' => r = some (.int 0) ∧ μ' = μ) :=
  I_X11_hasBook (fun J g hr => B_X11_hasBook_0 g hr hs_a0 hr_a0_book hs_a0_book (⟨fun _ => ⟨rfl, rfl⟩, fun c => by contradiction⟩))
theorem P_X11_hasBook_1 {d : Nat} {ro : Nat → Nat} {μ : Hp} {a0 : Nat} {a0_book : Nat} (hs_a0 : hS μ a0 = some (14, 18)) (hr_a0_book : hR μ a0 13 = some a0_book) (hs_a0_book : hS μ a0_book = some (6, 9)) (hc0 : ¬ ((hI μ a0_book 6) ≤ 0)) : xC d yX11_hasBook cX11_hasBook 1 (some .boolean) 0 0 [.ref a0] μ ro (fun r μ' => r = some (.int 1) ∧ μ' = μ) :=
  I_X11_hasBook (fun J g hr => B_X11_hasBook_0 g hr hs_a0 hr_a0_book hs_a0_book (⟨fun c => by contradiction, fun _ => ⟨rfl, rfl⟩⟩))
theorem P_X11_isSort_0 {d : Nat} {ro : Nat → Nat} {μ : Hp} {x0 : Int32}   (hc0 : x0 = 0) : xC d yX11_isSort cX11_isSort 1 (some .boolean) 0 0 [.int x0] μ ro (fun r μ' => r = some (.int 1) ∧ μ' = μ) :=
  I_X11_isSort (fun J g hr => B_X11_isSort_0 g hr  (⟨fun _ => ⟨rfl, rfl⟩, fun c => by contradiction⟩))
theorem P_X11_isSort_1 {d : Nat} {ro : Nat → Nat} {μ : Hp} {x0 : Int32}   (hc0 : ¬ (x0 = 0)) (hc1 : ¬ (x0 = 1)) : xC d yX11_isSort cX11_isSort 1 (some .boolean) 0 0 [.int x0] μ ro (fun r μ' => r = some (.int 0) ∧ μ' = μ) :=
  I_X11_isSort (fun J g hr => B_X11_isSort_0 g hr  (⟨fun c => by contradiction, fun _ => ⟨fun _ => ⟨rfl, rfl⟩, fun c => by contradiction⟩⟩))
theorem P_X11_isSort_2 {d : Nat} {ro : Nat → Nat} {μ : Hp} {x0 : Int32}   (hc0 : ¬ (x0 = 0)) (hc1 : x0 = 1) : xC d yX11_isSort cX11_isSort 1 (some .boolean) 0 0 [.int x0] μ ro (fun r μ' => r = some (.int 1) ∧ μ' = μ) :=
  I_X11_isSort (fun J g hr => B_X11_isSort_0 g hr  (⟨fun c => by contradiction, fun _ => ⟨fun c => by contradiction, fun _ => ⟨rfl, rfl⟩⟩⟩))
theorem P_X11_isAmount_0 {d : Nat} {ro : Nat → Nat} {μ : Hp} {x0 : Int32}   (hc0 : x0 < 1) : xC d yX11_isAmount cX11_isAmount 1 (some .boolean) 0 0 [.int x0] μ ro (fun r μ' => r = some (.int 0) ∧ μ' = μ) :=
  I_X11_isAmount (fun J g hr => B_X11_isAmount_0 g hr  (⟨fun _ => ⟨rfl, rfl⟩, fun c => by contradiction⟩))
theorem P_X11_isAmount_1 {d : Nat} {ro : Nat → Nat} {μ : Hp} {x0 : Int32}   (hc0 : ¬ (x0 < 1)) (hc1 : 1000000 < x0) : xC d yX11_isAmount cX11_isAmount 1 (some .boolean) 0 0 [.int x0] μ ro (fun r μ' => r = some (.int 0) ∧ μ' = μ) :=
  I_X11_isAmount (fun J g hr => B_X11_isAmount_0 g hr  (⟨fun c => by contradiction, fun _ => ⟨fun _ => ⟨rfl, rfl⟩, fun c => by contradiction⟩⟩))
theorem P_X11_isAmount_2 {d : Nat} {ro : Nat → Nat} {μ : Hp} {x0 : Int32}   (hc0 : ¬ (x0 < 1)) (hc1 : ¬ (1000000 < x0)) : xC d yX11_isAmount cX11_isAmount 1 (some .boolean) 0 0 [.int x0] μ ro (fun r μ' => r = some (.int 1) ∧ μ' = μ) :=
  I_X11_isAmount (fun J g hr => B_X11_isAmount_0 g hr  (⟨fun c => by contradiction, fun _ => ⟨fun c => by contradiction, fun _ => ⟨rfl, rfl⟩⟩⟩))
theorem P_X11_isYear_0 {d : Nat} {ro : Nat → Nat} {μ : Hp} {x0 : Int32}   (hc0 : x0 < 0) : xC d yX11_isYear cX11_isYear 1 (some .boolean) 0 0 [.int x0] μ ro (fun r μ' => r = some (.int 0) ∧ μ' = μ) :=
  I_X11_isYear (fun J g hr => B_X11_isYear_0 g hr  (⟨fun _ => ⟨rfl, rfl⟩, fun c => by contradiction⟩))
theorem P_X11_isYear_1 {d : Nat} {ro : Nat → Nat} {μ : Hp} {x0 : Int32}   (hc0 : ¬ (x0 < 0)) (hc1 : 199 < x0) : xC d yX11_isYear cX11_isYear 1 (some .boolean) 0 0 [.int x0] μ ro (fun r μ' => r = some (.int 0) ∧ μ' = μ) :=
  I_X11_isYear (fun J g hr => B_X11_isYear_0 g hr  (⟨fun c => by contradiction, fun _ => ⟨fun _ => ⟨rfl, rfl⟩, fun c => by contradiction⟩⟩))
theorem P_X11_isYear_2 {d : Nat} {ro : Nat → Nat} {μ : Hp} {x0 : Int32}   (hc0 : ¬ (x0 < 0)) (hc1 : ¬ (199 < x0)) : xC d yX11_isYear cX11_isYear 1 (some .boolean) 0 0 [.int x0] μ ro (fun r μ' => r = some (.int 1) ∧ μ' = μ) :=
  I_X11_isYear (fun J g hr => B_X11_isYear_0 g hr  (⟨fun c => by contradiction, fun _ => ⟨fun c => by contradiction, fun _ => ⟨rfl, rfl⟩⟩⟩))
theorem P_X11_hasScript_0 {d : Nat} {ro : Nat → Nat} {μ : Hp} {a0 : Nat} {x1 : Int32}  (hs_a0 : hS μ a0 = some (14, 18)) (hc0 : x1 < 0) : xC d yX11_hasScript cX11_hasScript 2 (some .boolean) 0 0 [.ref a0, .int x1] μ ro (fun r μ' => r = some (.int 0) ∧ μ' = μ) :=
  I_X11_hasScript (fun J g hr => B_X11_hasScript_0 g hr hs_a0 (⟨fun _ => ⟨rfl, rfl⟩, fun c => by contradiction⟩))
theorem P_X11_hasScript_1 {d : Nat} {ro : Nat → Nat} {μ : Hp} {a0 : Nat} {x1 : Int32}  (hs_a0 : hS μ a0 = some (14, 18)) (hc0 : ¬ (x1 < 0)) (hc1 : (hI μ a0 15) ≤ x1) : xC d yX11_hasScript cX11_hasScript 2 (some .boolean) 0 0 [.ref a0, .int x1] μ ro (fun r μ' => r = some (.int 0) ∧ μ' = μ) :=
  I_X11_hasScript (fun J g hr => B_X11_hasScript_0 g hr hs_a0 (⟨fun c => by contradiction, fun _ => ⟨fun _ => ⟨rfl, rfl⟩, fun c => by contradiction⟩⟩))
theorem P_X11_hasScript_2 {d : Nat} {ro : Nat → Nat} {μ : Hp} {a0 : Nat} {x1 : Int32}  (hs_a0 : hS μ a0 = some (14, 18)) (hc0 : ¬ (x1 < 0)) (hc1 : ¬ ((hI μ a0 15) ≤ x1)) : xC d yX11_hasScript cX11_hasScript 2 (some .boolean) 0 0 [.ref a0, .int x1] μ ro (fun r μ' => r = some (.int 1) ∧ μ' = μ) :=
  I_X11_hasScript (fun J g hr => B_X11_hasScript_0 g hr hs_a0 (⟨fun c => by contradiction, fun _ => ⟨fun c => by contradiction, fun _ => ⟨rfl, rfl⟩⟩⟩))
theorem P_X2_hasLand_0 {d : Nat} {ro : Nat → Nat} {μ : Hp} {a0 : Nat} {x1 : Int32}  (hs_a0 : hS μ a0 = some (6, 9)) (hc0 : x1 < 0) : xC d yX2_hasLand cX2_hasLand 2 (some .boolean) 0 0 [.ref a0, .int x1] μ ro (fun r μ' => r = some (.int 0) ∧ μ' = μ) :=
  I_X2_hasLand (fun J g hr => B_X2_hasLand_0 g hr hs_a0 (⟨fun _ => ⟨rfl, rfl⟩, fun c => by contradiction⟩))
theorem P_X2_hasLand_1 {d : Nat} {ro : Nat → Nat} {μ : Hp} {a0 : Nat} {x1 : Int32}  (hs_a0 : hS μ a0 = some (6, 9)) (hc0 : ¬ (x1 < 0)) (hc1 : (hI μ a0 5) ≤ x1) : xC d yX2_hasLand cX2_hasLand 2 (some .boolean) 0 0 [.ref a0, .int x1] μ ro (fun r μ' => r = some (.int 0) ∧ μ' = μ) :=
  I_X2_hasLand (fun J g hr => B_X2_hasLand_0 g hr hs_a0 (⟨fun c => by contradiction, fun _ => ⟨fun _ => ⟨rfl, rfl⟩, fun c => by contradiction⟩⟩))
theorem P_X2_hasLand_2 {d : Nat} {ro : Nat → Nat} {μ : Hp} {a0 : Nat} {x1 : Int32}  (hs_a0 : hS μ a0 = some (6, 9)) (hc0 : ¬ (x1 < 0)) (hc1 : ¬ ((hI μ a0 5) ≤ x1)) : xC d yX2_hasLand cX2_hasLand 2 (some .boolean) 0 0 [.ref a0, .int x1] μ ro (fun r μ' => r = some (.int 1) ∧ μ' = μ) :=
  I_X2_hasLand (fun J g hr => B_X2_hasLand_0 g hr hs_a0 (⟨fun c => by contradiction, fun _ => ⟨fun c => by contradiction, fun _ => ⟨rfl, rfl⟩⟩⟩))
theorem P_X2_hasFirm_0 {d : Nat} {ro : Nat → Nat} {μ : Hp} {a0 : Nat} {x1 : Int32}  (hs_a0 : hS μ a0 = some (6, 9)) (hc0 : x1 < 0) : xC d yX2_hasFirm cX2_hasFirm 2 (some .boolean) 0 0 [.ref a0, .int x1] μ ro (fun r μ' => r = some (.int 0) ∧ μ' = μ) :=
  I_X2_hasFirm (fun J g hr => B_X2_hasFirm_0 g hr hs_a0 (⟨fun _ => ⟨rfl, rfl⟩, fun c => by contradiction⟩))
theorem P_X2_hasFirm_1 {d : Nat} {ro : Nat → Nat} {μ : Hp} {a0 : Nat} {x1 : Int32}  (hs_a0 : hS μ a0 = some (6, 9)) (hc0 : ¬ (x1 < 0)) (hc1 : (hI μ a0 6) ≤ x1) : xC d yX2_hasFirm cX2_hasFirm 2 (some .boolean) 0 0 [.ref a0, .int x1] μ ro (fun r μ' => r = some (.int 0) ∧ μ' = μ) :=
  I_X2_hasFirm (fun J g hr => B_X2_hasFirm_0 g hr hs_a0 (⟨fun c => by contradiction, fun _ => ⟨fun _ => ⟨rfl, rfl⟩, fun c => by contradiction⟩⟩))
theorem P_X2_hasFirm_2 {d : Nat} {ro : Nat → Nat} {μ : Hp} {a0 : Nat} {x1 : Int32}  (hs_a0 : hS μ a0 = some (6, 9)) (hc0 : ¬ (x1 < 0)) (hc1 : ¬ ((hI μ a0 6) ≤ x1)) : xC d yX2_hasFirm cX2_hasFirm 2 (some .boolean) 0 0 [.ref a0, .int x1] μ ro (fun r μ' => r = some (.int 1) ∧ μ' = μ) :=
  I_X2_hasFirm (fun J g hr => B_X2_hasFirm_0 g hr hs_a0 (⟨fun c => by contradiction, fun _ => ⟨fun c => by contradiction, fun _ => ⟨rfl, rfl⟩⟩⟩))
theorem P_X8_hasLink_0 {d : Nat} {ro : Nat → Nat} {μ : Hp} {a0 : Nat} {x1 : Int32} {a0_row : Nat} {N_a0_row : Nat} (hs_a0 : hS μ a0 = some (12, 4)) (hr_a0_row : hR μ a0 0 = some a0_row) (hs_a0_row : hS μ a0_row = some (0, N_a0_row)) (hc0 : x1 < 0) : xC d yX8_hasLink cX8_hasLink 2 (some .boolean) 0 0 [.ref a0, .int x1] μ ro (fun r μ' => r = some (.int 0) ∧ μ' = μ) :=
  I_X8_hasLink (fun J g hr => B_X8_hasLink_0 g hr hs_a0 hr_a0_row hs_a0_row (⟨fun _ => ⟨rfl, rfl⟩, fun c => by contradiction⟩))
theorem P_X8_hasLink_1 {d : Nat} {ro : Nat → Nat} {μ : Hp} {a0 : Nat} {x1 : Int32} {a0_row : Nat} {N_a0_row : Nat} (hs_a0 : hS μ a0 = some (12, 4)) (hr_a0_row : hR μ a0 0 = some a0_row) (hs_a0_row : hS μ a0_row = some (0, N_a0_row)) (hc0 : ¬ (x1 < 0)) (hv1 : vp_in 1 N_a0_row) (hc2 : (hI μ a0_row 1) ≤ x1) : xC d yX8_hasLink cX8_hasLink 2 (some .boolean) 0 0 [.ref a0, .int x1] μ ro (fun r μ' => r = some (.int 0) ∧ μ' = μ) :=
  I_X8_hasLink (fun J g hr => B_X8_hasLink_0 g hr hs_a0 hr_a0_row hs_a0_row (⟨fun c => by contradiction, fun _ => ⟨hv1, ⟨fun _ => ⟨rfl, rfl⟩, fun c => by contradiction⟩⟩⟩))
theorem P_X8_hasLink_2 {d : Nat} {ro : Nat → Nat} {μ : Hp} {a0 : Nat} {x1 : Int32} {a0_row : Nat} {N_a0_row : Nat} (hs_a0 : hS μ a0 = some (12, 4)) (hr_a0_row : hR μ a0 0 = some a0_row) (hs_a0_row : hS μ a0_row = some (0, N_a0_row)) (hc0 : ¬ (x1 < 0)) (hv1 : vp_in 1 N_a0_row) (hc2 : ¬ ((hI μ a0_row 1) ≤ x1)) : xC d yX8_hasLink cX8_hasLink 2 (some .boolean) 0 0 [.ref a0, .int x1] μ ro (fun r μ' => r = some (.int 1) ∧ μ' = μ) :=
  I_X8_hasLink (fun J g hr => B_X8_hasLink_0 g hr hs_a0 hr_a0_row hs_a0_row (⟨fun c => by contradiction, fun _ => ⟨hv1, ⟨fun c => by contradiction, fun _ => ⟨rfl, rfl⟩⟩⟩⟩))
theorem P_X6_codeOf_0 {d : Nat} {ro : Nat → Nat} {μ : Hp} {x0 : Int32} {x1 : Int32}    : xC d yX6_codeOf cX6_codeOf 2 (some .long) 0 0 [.int x0, .int x1] μ ro (fun r μ' => r = some (.long (((x0 - 97) + 1).toInt64 <<< ((5 * x1).toInt64 &&& 63))) ∧ μ' = μ) :=
  I_X6_codeOf (fun J g hr => B_X6_codeOf_0 g hr  (⟨rfl, rfl⟩))
theorem lgc_lt (x y : Int32) : lg_cmp x.toInt64 y.toInt64 < 0 ↔ x < y := by
  rw [lg_cmp_lt, Int64.lt_iff_toInt_lt, Int32.toInt_toInt64, Int32.toInt_toInt64, Int32.lt_iff_toInt_lt]
theorem lgc_gt (x y : Int32) : 0 < lg_cmp x.toInt64 y.toInt64 ↔ y < x := by
  rw [lg_cmp_gt, Int64.lt_iff_toInt_lt, Int32.toInt_toInt64, Int32.toInt_toInt64, Int32.lt_iff_toInt_lt]
theorem Q_isIn_0 {d : Nat} {ro : Nat → Nat} {μ : Hp} {x a b : Int32} {x0 a0 b0 : Int64} (e1 : x0 = x.toInt64) (e2 : a0 = a.toInt64) (e3 : b0 = b.toInt64) (hc0 : x < a) : xC d yX12_isIn cX12_isIn 6 (some .boolean) 0 0 [.long x0, .long a0, .long b0] μ ro (fun r μ' => r = some (.int 0) ∧ μ' = μ) := P_X12_isIn_0 (by rw [e1, e2, lgc_lt]; exact hc0)
theorem Q_isIn_1 {d : Nat} {ro : Nat → Nat} {μ : Hp} {x a b : Int32} {x0 a0 b0 : Int64} (e1 : x0 = x.toInt64) (e2 : a0 = a.toInt64) (e3 : b0 = b.toInt64) (hc0 : ¬ (x < a)) (hc1 : b < x) : xC d yX12_isIn cX12_isIn 6 (some .boolean) 0 0 [.long x0, .long a0, .long b0] μ ro (fun r μ' => r = some (.int 0) ∧ μ' = μ) := P_X12_isIn_1 (by rw [e1, e2, lgc_lt]; exact hc0) (by rw [e1, e3, lgc_gt]; exact hc1)
theorem Q_isIn_2 {d : Nat} {ro : Nat → Nat} {μ : Hp} {x a b : Int32} {x0 a0 b0 : Int64} (e1 : x0 = x.toInt64) (e2 : a0 = a.toInt64) (e3 : b0 = b.toInt64) (hc0 : ¬ (x < a)) (hc1 : ¬ (b < x)) : xC d yX12_isIn cX12_isIn 6 (some .boolean) 0 0 [.long x0, .long a0, .long b0] μ ro (fun r μ' => r = some (.int 1) ∧ μ' = μ) := P_X12_isIn_2 (by rw [e1, e2, lgc_lt]; exact hc0) (by rw [e1, e3, lgc_gt]; exact hc1)
