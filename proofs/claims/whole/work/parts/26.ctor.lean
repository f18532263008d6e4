theorem naX11_16 : Cond.classLink RX11 16 "TreatyRouter$Script" ∈ gtbl := (tb_1 68 (by decide +kernel) rfl)
theorem iX7_init : Cond.instanceMethod yX7_init ∈ gtbl := (tb_2 61 (by decide +kernel) rfl)
theorem sX11_106 : xSiteN RX11 106 yX7_init cX7_init 1 none 0 := ⟨⟨_, List.mem_of_getElem? (i := 6) rfl⟩, (tb_1 14 (by decide +kernel) rfl), (tb_2 62 (by decide +kernel) rfl), by decide +kernel, by decide⟩
theorem iX3_init : Cond.instanceMethod yX3_init ∈ gtbl := (tb_1 73 (by decide +kernel) rfl)
theorem sX11_24 : xSiteN RX11 24 yX3_init cX3_init 1 none 0 := ⟨⟨_, List.mem_of_getElem? (i := 1) rfl⟩, (tb_1 3 (by decide +kernel) rfl), (tb_1 74 (by decide +kernel) rfl), by decide +kernel, by decide⟩
theorem iX1_init : Cond.instanceMethod yX1_init ∈ gtbl := (tb_1 147 (by decide +kernel) rfl)
theorem sX11_31 : xSite RX11 31 yX1_init cX1_init 2 none 1 := ⟨(tb_1 146 (by decide +kernel) rfl), (tb_1 5 (by decide +kernel) rfl), (tb_1 148 (by decide +kernel) rfl), by decide +kernel, by decide⟩
theorem iX4_init : Cond.instanceMethod yX4_init ∈ gtbl := (tb_1 157 (by decide +kernel) rfl)
theorem sX11_40 : xSiteN RX11 40 yX4_init cX4_init 1 none 0 := ⟨⟨_, List.mem_of_getElem? (i := 3) rfl⟩, (tb_1 6 (by decide +kernel) rfl), (tb_1 158 (by decide +kernel) rfl), by decide +kernel, by decide⟩
theorem iX5_init : Cond.instanceMethod yX5_init ∈ gtbl := (tb_1 174 (by decide +kernel) rfl)
theorem sX11_47 : xSiteN RX11 47 yX5_init cX5_init 1 none 0 := ⟨⟨_, List.mem_of_getElem? (i := 4) rfl⟩, (tb_1 7 (by decide +kernel) rfl), (tb_1 175 (by decide +kernel) rfl), by decide +kernel, by decide⟩
theorem iJ4_init_da8c8 : Cond.instanceMethod yJ4_init_da8c8 ∈ gtbl := (tb_1 190 (by decide +kernel) rfl)
theorem sX11_57 : xSite RX11 57 yJ4_init_da8c8 cJ4_init_da8c8 1 none 0 := ⟨(tb_1 189 (by decide +kernel) rfl), (tb_1 9 (by decide +kernel) rfl), (tb_1 191 (by decide +kernel) rfl), by decide +kernel, by decide⟩
theorem iX2_init : Cond.instanceMethod yX2_init ∈ gtbl := (tb_1 222 (by decide +kernel) rfl)
theorem sX11_71 : xSiteN RX11 71 yX2_init cX2_init 1 none 0 := ⟨⟨_, List.mem_of_getElem? (i := 5) rfl⟩, (tb_1 12 (by decide +kernel) rfl), (tb_1 223 (by decide +kernel) rfl), by decide +kernel, by decide⟩
theorem iX6_init : Cond.instanceMethod yX6_init ∈ gtbl := (tb_1 42 (by decide +kernel) rfl)
theorem sX11_9 : xSiteN RX11 9 yX6_init cX6_init 1 none 0 := ⟨⟨_, List.mem_of_getElem? (i := 0) rfl⟩, (tb_1 2 (by decide +kernel) rfl), (tb_1 43 (by decide +kernel) rfl), by decide +kernel, by decide⟩
theorem iX8_init : Cond.instanceMethod yX8_init ∈ gtbl := (tb_2 33 (by decide +kernel) rfl)
theorem sX11_93 : xSite RX11 93 yX8_init cX8_init 2 none 1 := ⟨(tb_2 32 (by decide +kernel) rfl), (tb_1 13 (by decide +kernel) rfl), (tb_2 34 (by decide +kernel) rfl), by decide +kernel, by decide⟩
theorem iX9_init : Cond.instanceMethod yX9_init ∈ gtbl := (tb_1 79 (by decide +kernel) rfl)
theorem sX3_11 : xSiteN RX3 11 yX9_init cX9_init 1 none 0 := ⟨⟨_, List.mem_of_getElem? (i := 2) rfl⟩, (tb_1 4 (by decide +kernel) rfl), (tb_1 80 (by decide +kernel) rfl), by decide +kernel, by decide⟩
theorem fX11_58 : xFld RX11 58 10 7 18 (.object "java/lang/StringBuilder") true := ⟨RX11, TX11, tyX11, rfl, inX11, tyX11_ok, nmX11, by decide, (tb_2 80 (by decide +kernel) rfl), rfl, rfl⟩
theorem fX9_22 : xFld RX9 22 9 3 5 (.int) false := ⟨RX9, TX9, tyX9, rfl, inX9, tyX9_ok, nmX9, by decide, (tb_1 92 (by decide +kernel) rfl), rfl, rfl⟩
theorem fX9_25 : xFld RX9 25 9 4 5 (.int) false := ⟨RX9, TX9, tyX9, rfl, inX9, tyX9_ok, nmX9, by decide, (tb_1 96 (by decide +kernel) rfl), rfl, rfl⟩
theorem nX11_16 : xNew RX11 16 7 2 := ⟨RX7, TX7, tyX7, rfl, inX7, tyX7_ok, (tb_1 68 (by decide +kernel) rfl), (tb_2 59 (by decide +kernel) rfl), (tb_1 14 (by decide +kernel) rfl), by decide +kernel⟩
theorem nX11_22 : xNew RX11 22 3 9 := ⟨RX3, TX3, tyX3, rfl, inX3, tyX3_ok, (tb_1 70 (by decide +kernel) rfl), (tb_1 71 (by decide +kernel) rfl), (tb_1 3 (by decide +kernel) rfl), by decide +kernel⟩
theorem nX11_29 : xNew RX11 29 1 1 := ⟨RX1, TX1, tyX1, rfl, inX1, tyX1_ok, (tb_1 144 (by decide +kernel) rfl), (tb_1 145 (by decide +kernel) rfl), (tb_1 5 (by decide +kernel) rfl), by decide +kernel⟩
theorem nX11_38 : xNew RX11 38 4 3 := ⟨RX4, TX4, tyX4, rfl, inX4, tyX4_ok, (tb_1 154 (by decide +kernel) rfl), (tb_1 155 (by decide +kernel) rfl), (tb_1 6 (by decide +kernel) rfl), by decide +kernel⟩
theorem nX11_45 : xNew RX11 45 5 3 := ⟨RX5, TX5, tyX5, rfl, inX5, tyX5_ok, (tb_1 171 (by decide +kernel) rfl), (tb_1 172 (by decide +kernel) rfl), (tb_1 7 (by decide +kernel) rfl), by decide +kernel⟩
theorem nX11_55 : xNew RX11 55 0 4 := ⟨RJ4, TJ4, tyJ4, rfl, inJ4, tyJ4_ok, (tb_1 187 (by decide +kernel) rfl), (tb_1 188 (by decide +kernel) rfl), (tb_1 9 (by decide +kernel) rfl), by decide +kernel⟩
theorem nX11_69 : xNew RX11 69 2 9 := ⟨RX2, TX2, tyX2, rfl, inX2, tyX2_ok, (tb_1 219 (by decide +kernel) rfl), (tb_1 220 (by decide +kernel) rfl), (tb_1 12 (by decide +kernel) rfl), by decide +kernel⟩
theorem nX11_7 : xNew RX11 7 6 5 := ⟨RX6, TX6, tyX6, rfl, inX6, tyX6_ok, (tb_1 39 (by decide +kernel) rfl), (tb_1 40 (by decide +kernel) rfl), (tb_1 2 (by decide +kernel) rfl), by decide +kernel⟩
theorem nX11_91 : xNew RX11 91 8 4 := ⟨RX8, TX8, tyX8, rfl, inX8, tyX8_ok, (tb_2 30 (by decide +kernel) rfl), (tb_2 31 (by decide +kernel) rfl), (tb_1 13 (by decide +kernel) rfl), by decide +kernel⟩
theorem nX3_9 : xNew RX3 9 9 5 := ⟨RX9, TX9, tyX9, rfl, inX9, tyX9_ok, (tb_1 76 (by decide +kernel) rfl), (tb_1 77 (by decide +kernel) rfl), (tb_1 4 (by decide +kernel) rfl), by decide +kernel⟩
theorem oX1_3 : Cond.methodLink RX1 3 Lib.objectInit ∈ gtbl := (tb_1 149 (by decide +kernel) rfl)
theorem oX11_1 : Cond.methodLink RX11 1 Lib.objectInit ∈ gtbl := (tb_1 36 (by decide +kernel) rfl)
theorem oX12_3 : Cond.methodLink RX12 3 Lib.objectInit ∈ gtbl := (tb_6 2 (by decide +kernel) rfl)
theorem oX2_3 : Cond.methodLink RX2 3 Lib.objectInit ∈ gtbl := (tb_1 224 (by decide +kernel) rfl)
theorem oX3_3 : Cond.methodLink RX3 3 Lib.objectInit ∈ gtbl := (tb_1 75 (by decide +kernel) rfl)
theorem oX4_1 : Cond.methodLink RX4 1 Lib.objectInit ∈ gtbl := (tb_1 159 (by decide +kernel) rfl)
theorem oX5_5 : Cond.methodLink RX5 5 Lib.objectInit ∈ gtbl := (tb_1 176 (by decide +kernel) rfl)
theorem oX6_3 : Cond.methodLink RX6 3 Lib.objectInit ∈ gtbl := (tb_1 44 (by decide +kernel) rfl)
theorem oX7_3 : Cond.methodLink RX7 3 Lib.objectInit ∈ gtbl := (tb_2 63 (by decide +kernel) rfl)
theorem oX8_5 : Cond.methodLink RX8 5 Lib.objectInit ∈ gtbl := (tb_2 35 (by decide +kernel) rfl)
theorem oX9_3 : Cond.methodLink RX9 3 Lib.objectInit ∈ gtbl := (tb_1 81 (by decide +kernel) rfl)
theorem dX6_init_0 : decode cX6_init 0 = .ok (.aload_n 0, 1) := by decide +kernel
theorem dX6_init_1 : decode cX6_init 1 = .ok (.invokespecial 3, 3) := by decide +kernel
theorem dX6_init_4 : decode cX6_init 4 = .ok (.aload_n 0, 1) := by decide +kernel
theorem dX6_init_5 : decode cX6_init 5 = .ok (.iconst 0, 1) := by decide +kernel
theorem dX6_init_6 : decode cX6_init 6 = .ok (.putfield 9, 3) := by decide +kernel
theorem dX6_init_9 : decode cX6_init 9 = .ok (.aload_n 0, 1) := by decide +kernel
theorem dX6_init_10 : decode cX6_init 10 = .ok (.iconst (-1), 1) := by decide +kernel
theorem dX6_init_11 : decode cX6_init 11 = .ok (.putfield 15, 3) := by decide +kernel
theorem dX6_init_14 : decode cX6_init 14 = .ok (.aload_n 0, 1) := by decide +kernel
theorem dX6_init_15 : decode cX6_init 15 = .ok (.iconst 0, 1) := by decide +kernel
theorem dX6_init_16 : decode cX6_init 16 = .ok (.putfield 18, 3) := by decide +kernel
theorem dX6_init_19 : decode cX6_init 19 = .ok (.aload_n 0, 1) := by decide +kernel
theorem dX6_init_20 : decode cX6_init 20 = .ok (.iconst 0, 1) := by decide +kernel
theorem dX6_init_21 : decode cX6_init 21 = .ok (.putfield 21, 3) := by decide +kernel
theorem dX6_init_24 : decode cX6_init 24 = .ok (.aload_n 0, 1) := by decide +kernel
theorem dX6_init_25 : decode cX6_init 25 = .ok (.sipush 400, 3) := by decide +kernel
theorem dX6_init_28 : decode cX6_init 28 = .ok (.newarray .int, 2) := by decide +kernel
theorem dX6_init_30 : decode cX6_init 30 = .ok (.putfield 24, 3) := by decide +kernel
theorem dX6_init_33 : decode cX6_init 33 = .ok (.return_, 1) := by decide +kernel
set_option maxHeartbeats 4000000 in
set_option maxRecDepth 100000 in
theorem B_X6_init_0 {d : Nat} {mc ms k n : Nat} {ro : Nat → Nat} {J : JT} {Z : Option Value → Hp → Prop} (g : xCtx RX6 cX6_init 1 d mc ms yX6_init.name ro J) (hr : xRet cX6_init none mc ms Z J) {μ : Hp} {a0 : Nat} (hs_a0 : hS μ a0 = some (10, 5)) (hd9 : 1 ≤ d)
    (h : J (wI μ a0 0 0) k n 9 [(0, .ref a0)] []) :
    J μ k n 0 [(0, .ref a0)] [] := by
  refine r_aload_n g dX6_init_0 rfl ?_
  refine r_objInit g oX6_3 hd9 (Nat.le_of_ble_eq_true rfl) dX6_init_1 ?_
  refine r_aload_n g dX6_init_4 rfl ?_
  refine r_iconst g 0 dX6_init_5 (by decide) ?_
  refine r_putI g fX6_9 rfl hs_a0 rfl rfl dX6_init_6 ?_
  refine r_sub g (lv' := [(0, .ref a0)]) (⟨rfl, trivial⟩) ?_
  exact h
set_option maxHeartbeats 4000000 in
set_option maxRecDepth 100000 in
theorem B_X6_init_9 {d : Nat} {mc ms k n : Nat} {ro : Nat → Nat} {J : JT} {Z : Option Value → Hp → Prop} (g : xCtx RX6 cX6_init 1 d mc ms yX6_init.name ro J) (hr : xRet cX6_init none mc ms Z J) {μ : Hp} {a0 : Nat} (hs_a0 : hS μ a0 = some (10, 5))
    (h : J (wI μ a0 1 (-1)) k n 14 [(0, .ref a0)] []) :
    J μ k n 9 [(0, .ref a0)] [] := by
  refine r_aload_n g dX6_init_9 rfl ?_
  refine r_iconst g (-1) dX6_init_10 (by decide) ?_
  refine r_putI g fX6_15 rfl hs_a0 rfl rfl dX6_init_11 ?_
  refine r_sub g (lv' := [(0, .ref a0)]) (⟨rfl, trivial⟩) ?_
  exact h
set_option maxHeartbeats 4000000 in
set_option maxRecDepth 100000 in
theorem B_X6_init_14 {d : Nat} {mc ms k n : Nat} {ro : Nat → Nat} {J : JT} {Z : Option Value → Hp → Prop} (g : xCtx RX6 cX6_init 1 d mc ms yX6_init.name ro J) (hr : xRet cX6_init none mc ms Z J) {μ : Hp} {a0 : Nat} (hs_a0 : hS μ a0 = some (10, 5))
    (h : J (wI μ a0 2 0) k n 19 [(0, .ref a0)] []) :
    J μ k n 14 [(0, .ref a0)] [] := by
  refine r_aload_n g dX6_init_14 rfl ?_
  refine r_iconst g 0 dX6_init_15 (by decide) ?_
  refine r_putI g fX6_18 rfl hs_a0 rfl rfl dX6_init_16 ?_
  refine r_sub g (lv' := [(0, .ref a0)]) (⟨rfl, trivial⟩) ?_
  exact h
set_option maxHeartbeats 4000000 in
set_option maxRecDepth 100000 in
theorem B_X6_init_19 {d : Nat} {mc ms k n : Nat} {ro : Nat → Nat} {J : JT} {Z : Option Value → Hp → Prop} (g : xCtx RX6 cX6_init 1 d mc ms yX6_init.name ro J) (hr : xRet cX6_init none mc ms Z J) {μ : Hp} {a0 : Nat} (hs_a0 : hS μ a0 = some (10, 5))
    (h : J (wI μ a0 3 0) k n 24 [(0, .ref a0)] []) :
    J μ k n 19 [(0, .ref a0)] [] := by
  refine r_aload_n g dX6_init_19 rfl ?_
  refine r_iconst g 0 dX6_init_20 (by decide) ?_
  refine r_putI g fX6_21 rfl hs_a0 rfl rfl dX6_init_21 ?_
  refine r_sub g (lv' := [(0, .ref a0)]) (⟨rfl, trivial⟩) ?_
  exact h
set_option maxHeartbeats 4000000 in
set_option maxRecDepth 100000 in
theorem B_X6_init_24 {d : Nat} {mc ms k n : Nat} {ro : Nat → Nat} {J : JT} {Z : Option Value → Hp → Prop} (g : xCtx RX6 cX6_init 1 d mc ms yX6_init.name ro J) (hr : xRet cX6_init none mc ms Z J) {μ : Hp} {a0 : Nat} 
    (h : k + 1 ≤ mc ∧ n + 400 ≤ ms ∧ (∀ q1 : Nat, hS μ q1 = none → hS (wN μ q1 0 400) a0 = some (10, 5) ∧ J (wR (wN μ q1 0 400) a0 4 (some q1)) (k + 1) (n + 400) 33 [] [])) :
    J μ k n 24 [(0, .ref a0)] [] := by
  refine r_aload_n g dX6_init_24 rfl ?_
  refine r_sipush g 400 dX6_init_25 (by decide) ?_
  obtain ⟨hk2, hk2_, h⟩ := h
  refine r_newI g 400 (by decide) (by decide) (by decide) hk2 hk2_ dX6_init_28 (fun q1 hf_q1 => ?_)
  replace h := h q1 hf_q1
  have hs_q1 := hS_wN μ q1 0 400
  obtain ⟨hs_a0, h⟩ := h
  refine r_putRF g fX6_24 rfl hs_a0 rfl rfl rfl (fun _ _ _ h9 => by cases h9; rfl) dX6_init_30 ?_
  refine r_sub g (lv' := []) (trivial) ?_
  exact h
set_option maxHeartbeats 4000000 in
set_option maxRecDepth 100000 in
theorem B_X6_init_33 {d : Nat} {mc ms k n : Nat} {ro : Nat → Nat} {J : JT} {Z : Option Value → Hp → Prop} (g : xCtx RX6 cX6_init 1 d mc ms yX6_init.name ro J) (hr : xRet cX6_init none mc ms Z J) {μ : Hp}  
    (h : k ≤ mc ∧ n ≤ ms ∧ Z none μ) :
    J μ k n 33 [] [] := by
  obtain ⟨hk1, hk1_, h⟩ := h
  exact hr.1 rfl _ _ _ _ _ dX6_init_33 hk1 hk1_ h
theorem I_X6_init {d : Nat} {mc ms : Nat} {ro : Nat → Nat} {Z : Option Value → Hp → Prop} {μ : Hp} {a0 : Nat} (h : ∀ J, xCtx RX6 cX6_init 1 d mc ms yX6_init.name ro J → xRet cX6_init none mc ms Z J → J μ 0 0 0 [(0, .ref a0)] []) : xC d yX6_init cX6_init 1 none mc ms [.ref a0] μ ro Z :=
  xC_intro (own := RX6) (lv := [(0, .ref a0)]) (by decide) rfl (Nat.le_of_ble_eq_true rfl) rfl (fun J g hr => r_sub g (lv' := [(0, .ref a0)]) (⟨rfl, trivial⟩) (h J g hr))
theorem dX9_init_0 : decode cX9_init 0 = .ok (.aload_n 0, 1) := by decide +kernel
theorem dX9_init_1 : decode cX9_init 1 = .ok (.invokespecial 3, 3) := by decide +kernel
theorem dX9_init_4 : decode cX9_init 4 = .ok (.aload_n 0, 1) := by decide +kernel
theorem dX9_init_5 : decode cX9_init 5 = .ok (.bipush 35, 2) := by decide +kernel
theorem dX9_init_7 : decode cX9_init 7 = .ok (.newarray .int, 2) := by decide +kernel
theorem dX9_init_9 : decode cX9_init 9 = .ok (.putfield 11, 3) := by decide +kernel
theorem dX9_init_12 : decode cX9_init 12 = .ok (.aload_n 0, 1) := by decide +kernel
theorem dX9_init_13 : decode cX9_init 13 = .ok (.iconst 0, 1) := by decide +kernel
theorem dX9_init_14 : decode cX9_init 14 = .ok (.putfield 15, 3) := by decide +kernel
theorem dX9_init_17 : decode cX9_init 17 = .ok (.aload_n 0, 1) := by decide +kernel
theorem dX9_init_18 : decode cX9_init 18 = .ok (.iconst 0, 1) := by decide +kernel
theorem dX9_init_19 : decode cX9_init 19 = .ok (.putfield 19, 3) := by decide +kernel
theorem dX9_init_22 : decode cX9_init 22 = .ok (.aload_n 0, 1) := by decide +kernel
theorem dX9_init_23 : decode cX9_init 23 = .ok (.iconst 0, 1) := by decide +kernel
theorem dX9_init_24 : decode cX9_init 24 = .ok (.putfield 22, 3) := by decide +kernel
theorem dX9_init_27 : decode cX9_init 27 = .ok (.aload_n 0, 1) := by decide +kernel
theorem dX9_init_28 : decode cX9_init 28 = .ok (.iconst 0, 1) := by decide +kernel
theorem dX9_init_29 : decode cX9_init 29 = .ok (.putfield 25, 3) := by decide +kernel
theorem dX9_init_32 : decode cX9_init 32 = .ok (.return_, 1) := by decide +kernel
set_option maxHeartbeats 4000000 in
set_option maxRecDepth 100000 in
theorem B_X9_init_0 {d : Nat} {mc ms k n : Nat} {ro : Nat → Nat} {J : JT} {Z : Option Value → Hp → Prop} (g : xCtx RX9 cX9_init 1 d mc ms yX9_init.name ro J) (hr : xRet cX9_init none mc ms Z J) {μ : Hp} {a0 : Nat}  (hd9 : 1 ≤ d)
    (h : k + 1 ≤ mc ∧ n + 35 ≤ ms ∧ (∀ q1 : Nat, hS μ q1 = none → hS (wN μ q1 0 35) a0 = some (13, 5) ∧ J (wR (wN μ q1 0 35) a0 0 (some q1)) (k + 1) (n + 35) 12 [(0, .ref a0)] [])) :
    J μ k n 0 [(0, .ref a0)] [] := by
  refine r_aload_n g dX9_init_0 rfl ?_
  refine r_objInit g oX9_3 hd9 (Nat.le_of_ble_eq_true rfl) dX9_init_1 ?_
  refine r_aload_n g dX9_init_4 rfl ?_
  refine r_bipush g 35 dX9_init_5 (by decide) ?_
  obtain ⟨hk2, hk2_, h⟩ := h
  refine r_newI g 35 (by decide) (by decide) (by decide) hk2 hk2_ dX9_init_7 (fun q1 hf_q1 => ?_)
  replace h := h q1 hf_q1
  have hs_q1 := hS_wN μ q1 0 35
  obtain ⟨hs_a0, h⟩ := h
  refine r_putRF g fX9_11 rfl hs_a0 rfl rfl rfl (fun _ _ _ h9 => by cases h9; rfl) dX9_init_9 ?_
  refine r_sub g (lv' := [(0, .ref a0)]) (⟨rfl, trivial⟩) ?_
  exact h
set_option maxHeartbeats 4000000 in
set_option maxRecDepth 100000 in
theorem B_X9_init_12 {d : Nat} {mc ms k n : Nat} {ro : Nat → Nat} {J : JT} {Z : Option Value → Hp → Prop} (g : xCtx RX9 cX9_init 1 d mc ms yX9_init.name ro J) (hr : xRet cX9_init none mc ms Z J) {μ : Hp} {a0 : Nat} (hs_a0 : hS μ a0 = some (13, 5))
    (h : J (wI μ a0 1 0) k n 17 [(0, .ref a0)] []) :
    J μ k n 12 [(0, .ref a0)] [] := by
  refine r_aload_n g dX9_init_12 rfl ?_
  refine r_iconst g 0 dX9_init_13 (by decide) ?_
  refine r_putI g fX9_15 rfl hs_a0 rfl rfl dX9_init_14 ?_
  refine r_sub g (lv' := [(0, .ref a0)]) (⟨rfl, trivial⟩) ?_
  exact h
set_option maxHeartbeats 4000000 in
set_option maxRecDepth 100000 in
theorem B_X9_init_17 {d : Nat} {mc ms k n : Nat} {ro : Nat → Nat} {J : JT} {Z : Option Value → Hp → Prop} (g : xCtx RX9 cX9_init 1 d mc ms yX9_init.name ro J) (hr : xRet cX9_init none mc ms Z J) {μ : Hp} {a0 : Nat} (hs_a0 : hS μ a0 = some (13, 5))
    (h : J (wI μ a0 2 0) k n 22 [(0, .ref a0)] []) :
    J μ k n 17 [(0, .ref a0)] [] := by
  refine r_aload_n g dX9_init_17 rfl ?_
  refine r_iconst g 0 dX9_init_18 (by decide) ?_
  refine r_putI g fX9_19 rfl hs_a0 rfl rfl dX9_init_19 ?_
  refine r_sub g (lv' := [(0, .ref a0)]) (⟨rfl, trivial⟩) ?_
  exact h
set_option maxHeartbeats 4000000 in
set_option maxRecDepth 100000 in
theorem B_X9_init_22 {d : Nat} {mc ms k n : Nat} {ro : Nat → Nat} {J : JT} {Z : Option Value → Hp → Prop} (g : xCtx RX9 cX9_init 1 d mc ms yX9_init.name ro J) (hr : xRet cX9_init none mc ms Z J) {μ : Hp} {a0 : Nat} (hs_a0 : hS μ a0 = some (13, 5))
    (h : J (wI μ a0 3 0) k n 27 [(0, .ref a0)] []) :
    J μ k n 22 [(0, .ref a0)] [] := by
  refine r_aload_n g dX9_init_22 rfl ?_
  refine r_iconst g 0 dX9_init_23 (by decide) ?_
  refine r_putI g fX9_22 rfl hs_a0 rfl rfl dX9_init_24 ?_
  refine r_sub g (lv' := [(0, .ref a0)]) (⟨rfl, trivial⟩) ?_
  exact h
set_option maxHeartbeats 4000000 in
set_option maxRecDepth 100000 in
theorem B_X9_init_27 {d : Nat} {mc ms k n : Nat} {ro : Nat → Nat} {J : JT} {Z : Option Value → Hp → Prop} (g : xCtx RX9 cX9_init 1 d mc ms yX9_init.name ro J) (hr : xRet cX9_init none mc ms Z J) {μ : Hp} {a0 : Nat} (hs_a0 : hS μ a0 = some (13, 5))
    (h : J (wI μ a0 4 0) k n 32 [] []) :
    J μ k n 27 [(0, .ref a0)] [] := by
  refine r_aload_n g dX9_init_27 rfl ?_
  refine r_iconst g 0 dX9_init_28 (by decide) ?_
  refine r_putI g fX9_25 rfl hs_a0 rfl rfl dX9_init_29 ?_
  refine r_sub g (lv' := []) (trivial) ?_
  exact h
set_option maxHeartbeats 4000000 in
set_option maxRecDepth 100000 in
theorem B_X9_init_32 {d : Nat} {mc ms k n : Nat} {ro : Nat → Nat} {J : JT} {Z : Option Value → Hp → Prop} (g : xCtx RX9 cX9_init 1 d mc ms yX9_init.name ro J) (hr : xRet cX9_init none mc ms Z J) {μ : Hp}  
    (h : k ≤ mc ∧ n ≤ ms ∧ Z none μ) :
    J μ k n 32 [] [] := by
  obtain ⟨hk1, hk1_, h⟩ := h
  exact hr.1 rfl _ _ _ _ _ dX9_init_32 hk1 hk1_ h
theorem I_X9_init {d : Nat} {mc ms : Nat} {ro : Nat → Nat} {Z : Option Value → Hp → Prop} {μ : Hp} {a0 : Nat} (h : ∀ J, xCtx RX9 cX9_init 1 d mc ms yX9_init.name ro J → xRet cX9_init none mc ms Z J → J μ 0 0 0 [(0, .ref a0)] []) : xC d yX9_init cX9_init 1 none mc ms [.ref a0] μ ro Z :=
  xC_intro (own := RX9) (lv := [(0, .ref a0)]) (by decide) rfl (Nat.le_of_ble_eq_true rfl) rfl (fun J g hr => r_sub g (lv' := [(0, .ref a0)]) (⟨rfl, trivial⟩) (h J g hr))
theorem dX3_init_0 : decode cX3_init 0 = .ok (.aload_n 0, 1) := by decide +kernel
theorem dX3_init_1 : decode cX3_init 1 = .ok (.invokespecial 3, 3) := by decide +kernel
theorem dX3_init_4 : decode cX3_init 4 = .ok (.aload_n 0, 1) := by decide +kernel
theorem dX3_init_5 : decode cX3_init 5 = .ok (.new 9, 3) := by decide +kernel
theorem dX3_init_8 : decode cX3_init 8 = .ok (.dup, 1) := by decide +kernel
theorem dX3_init_9 : decode cX3_init 9 = .ok (.invokespecial 11, 3) := by decide +kernel
theorem dX3_init_12 : decode cX3_init 12 = .ok (.putfield 12, 3) := by decide +kernel
theorem dX3_init_15 : decode cX3_init 15 = .ok (.aload_n 0, 1) := by decide +kernel
theorem dX3_init_16 : decode cX3_init 16 = .ok (.iconst 0, 1) := by decide +kernel
theorem dX3_init_17 : decode cX3_init 17 = .ok (.putfield 18, 3) := by decide +kernel
theorem dX3_init_20 : decode cX3_init 20 = .ok (.aload_n 0, 1) := by decide +kernel
theorem dX3_init_21 : decode cX3_init 21 = .ok (.bipush 64, 2) := by decide +kernel
theorem dX3_init_23 : decode cX3_init 23 = .ok (.newarray .int, 2) := by decide +kernel
theorem dX3_init_25 : decode cX3_init 25 = .ok (.putfield 22, 3) := by decide +kernel
theorem dX3_init_28 : decode cX3_init 28 = .ok (.aload_n 0, 1) := by decide +kernel
theorem dX3_init_29 : decode cX3_init 29 = .ok (.bipush 64, 2) := by decide +kernel
theorem dX3_init_31 : decode cX3_init 31 = .ok (.newarray .int, 2) := by decide +kernel
theorem dX3_init_33 : decode cX3_init 33 = .ok (.putfield 26, 3) := by decide +kernel
theorem dX3_init_36 : decode cX3_init 36 = .ok (.aload_n 0, 1) := by decide +kernel
theorem dX3_init_37 : decode cX3_init 37 = .ok (.bipush 64, 2) := by decide +kernel
theorem dX3_init_39 : decode cX3_init 39 = .ok (.newarray .int, 2) := by decide +kernel
theorem dX3_init_41 : decode cX3_init 41 = .ok (.putfield 29, 3) := by decide +kernel
theorem dX3_init_44 : decode cX3_init 44 = .ok (.aload_n 0, 1) := by decide +kernel
theorem dX3_init_45 : decode cX3_init 45 = .ok (.bipush 36, 2) := by decide +kernel
theorem dX3_init_47 : decode cX3_init 47 = .ok (.newarray .int, 2) := by decide +kernel
theorem dX3_init_49 : decode cX3_init 49 = .ok (.putfield 32, 3) := by decide +kernel
theorem dX3_init_52 : decode cX3_init 52 = .ok (.aload_n 0, 1) := by decide +kernel
theorem dX3_init_53 : decode cX3_init 53 = .ok (.new 9, 3) := by decide +kernel
theorem dX3_init_56 : decode cX3_init 56 = .ok (.dup, 1) := by decide +kernel
theorem dX3_init_57 : decode cX3_init 57 = .ok (.invokespecial 11, 3) := by decide +kernel
theorem dX3_init_60 : decode cX3_init 60 = .ok (.putfield 35, 3) := by decide +kernel
theorem dX3_init_63 : decode cX3_init 63 = .ok (.aload_n 0, 1) := by decide +kernel
theorem dX3_init_64 : decode cX3_init 64 = .ok (.iconst 0, 1) := by decide +kernel
theorem dX3_init_65 : decode cX3_init 65 = .ok (.putfield 38, 3) := by decide +kernel
theorem dX3_init_68 : decode cX3_init 68 = .ok (.aload_n 0, 1) := by decide +kernel
theorem dX3_init_69 : decode cX3_init 69 = .ok (.iconst 0, 1) := by decide +kernel
theorem dX3_init_70 : decode cX3_init 70 = .ok (.putfield 41, 3) := by decide +kernel
theorem dX3_init_73 : decode cX3_init 73 = .ok (.return_, 1) := by decide +kernel
set_option maxHeartbeats 4000000 in
set_option maxRecDepth 100000 in
theorem B_X3_init_0 {d : Nat} {mc ms k n : Nat} {ro : Nat → Nat} {J : JT} {Z : Option Value → Hp → Prop} (g : xCtx RX3 cX3_init 1 d mc ms yX3_init.name ro J) (hr : xRet cX3_init none mc ms Z J) {μ : Hp} {a0 : Nat}  (hd9 : 1 ≤ d)
    (h : k + 1 ≤ mc ∧ n + 5 ≤ ms ∧ (∀ q1 : Nat, hS μ q1 = none → xCallA d mc ms (k + 1) (n + 5) yX9_init cX9_init 1 none [.ref q1] (wN μ q1 13 5) ro (fun r9 μ3 k4 n5 => r9 = none ∧ hS μ3 a0 = some (7, 9) ∧ J (wR μ3 a0 0 (some q1)) k4 n5 15 [(0, .ref a0)] []))) :
    J μ k n 0 [(0, .ref a0)] [] := by
  refine r_aload_n g dX3_init_0 rfl ?_
  refine r_objInit g oX3_3 hd9 (Nat.le_of_ble_eq_true rfl) dX3_init_1 ?_
  refine r_aload_n g dX3_init_4 rfl ?_
  obtain ⟨hk2, hk2_, h⟩ := h
  refine r_new g nX3_9 hk2 hk2_ dX3_init_5 (fun q1 hf_q1 => ?_)
  replace h := h q1 hf_q1
  have hs_q1 := hS_wN μ q1 13 5
  refine r_dup g dX3_init_8 rfl ?_
  obtain ⟨d1, mc1, ms1, Z1, hc1, hd1, hk1, hn1, h1⟩ := h
  refine r_callIN (st := [.ref q1, .ref a0]) (As := []) g sX3_11 rfl iX9_init rfl (Nat.le_of_ble_eq_true rfl) dX3_init_9 hd1 hk1 hn1 hc1 (fun r9 μ3 hZ1 => ?_)
  replace h := h1 _ _ hZ1
  clear h1 hc1 hd1 hZ1 hk1 hn1 Z1 d1
  obtain ⟨rfl, h⟩ := h
  generalize (k + 1) + mc1 = k4 at h ⊢
  generalize (n + 5) + ms1 = n5 at h ⊢
  obtain ⟨hs_a0, h⟩ := h
  refine r_putRF g fX3_12 rfl hs_a0 rfl rfl rfl (fun _ _ _ h9 => by cases h9; rfl) dX3_init_12 ?_
  refine r_sub g (lv' := [(0, .ref a0)]) (⟨rfl, trivial⟩) ?_
  exact h
set_option maxHeartbeats 4000000 in
set_option maxRecDepth 100000 in
theorem B_X3_init_15 {d : Nat} {mc ms k n : Nat} {ro : Nat → Nat} {J : JT} {Z : Option Value → Hp → Prop} (g : xCtx RX3 cX3_init 1 d mc ms yX3_init.name ro J) (hr : xRet cX3_init none mc ms Z J) {μ : Hp} {a0 : Nat} (hs_a0 : hS μ a0 = some (7, 9))
    (h : J (wI μ a0 1 0) k n 20 [(0, .ref a0)] []) :
    J μ k n 15 [(0, .ref a0)] [] := by
  refine r_aload_n g dX3_init_15 rfl ?_
  refine r_iconst g 0 dX3_init_16 (by decide) ?_
  refine r_putI g fX3_18 rfl hs_a0 rfl rfl dX3_init_17 ?_
  refine r_sub g (lv' := [(0, .ref a0)]) (⟨rfl, trivial⟩) ?_
  exact h
set_option maxHeartbeats 4000000 in
set_option maxRecDepth 100000 in
theorem B_X3_init_20 {d : Nat} {mc ms k n : Nat} {ro : Nat → Nat} {J : JT} {Z : Option Value → Hp → Prop} (g : xCtx RX3 cX3_init 1 d mc ms yX3_init.name ro J) (hr : xRet cX3_init none mc ms Z J) {μ : Hp} {a0 : Nat} 
    (h : k + 1 ≤ mc ∧ n + 64 ≤ ms ∧ (∀ q1 : Nat, hS μ q1 = none → hS (wN μ q1 0 64) a0 = some (7, 9) ∧ J (wR (wN μ q1 0 64) a0 2 (some q1)) (k + 1) (n + 64) 28 [(0, .ref a0)] [])) :
    J μ k n 20 [(0, .ref a0)] [] := by
  refine r_aload_n g dX3_init_20 rfl ?_
  refine r_bipush g 64 dX3_init_21 (by decide) ?_
  obtain ⟨hk2, hk2_, h⟩ := h
  refine r_newI g 64 (by decide) (by decide) (by decide) hk2 hk2_ dX3_init_23 (fun q1 hf_q1 => ?_)
  replace h := h q1 hf_q1
  have hs_q1 := hS_wN μ q1 0 64
  obtain ⟨hs_a0, h⟩ := h
  refine r_putRF g fX3_22 rfl hs_a0 rfl rfl rfl (fun _ _ _ h9 => by cases h9; rfl) dX3_init_25 ?_
  refine r_sub g (lv' := [(0, .ref a0)]) (⟨rfl, trivial⟩) ?_
  exact h
set_option maxHeartbeats 4000000 in
set_option maxRecDepth 100000 in
theorem B_X3_init_28 {d : Nat} {mc ms k n : Nat} {ro : Nat → Nat} {J : JT} {Z : Option Value → Hp → Prop} (g : xCtx RX3 cX3_init 1 d mc ms yX3_init.name ro J) (hr : xRet cX3_init none mc ms Z J) {μ : Hp} {a0 : Nat} 
    (h : k + 1 ≤ mc ∧ n + 64 ≤ ms ∧ (∀ q1 : Nat, hS μ q1 = none → hS (wN μ q1 0 64) a0 = some (7, 9) ∧ J (wR (wN μ q1 0 64) a0 3 (some q1)) (k + 1) (n + 64) 36 [(0, .ref a0)] [])) :
    J μ k n 28 [(0, .ref a0)] [] := by
  refine r_aload_n g dX3_init_28 rfl ?_
  refine r_bipush g 64 dX3_init_29 (by decide) ?_
  obtain ⟨hk2, hk2_, h⟩ := h
  refine r_newI g 64 (by decide) (by decide) (by decide) hk2 hk2_ dX3_init_31 (fun q1 hf_q1 => ?_)
  replace h := h q1 hf_q1
  have hs_q1 := hS_wN μ q1 0 64
  obtain ⟨hs_a0, h⟩ := h
  refine r_putRF g fX3_26 rfl hs_a0 rfl rfl rfl (fun _ _ _ h9 => by cases h9; rfl) dX3_init_33 ?_
  refine r_sub g (lv' := [(0, .ref a0)]) (⟨rfl, trivial⟩) ?_
  exact h
set_option maxHeartbeats 4000000 in
set_option maxRecDepth 100000 in
theorem B_X3_init_36 {d : Nat} {mc ms k n : Nat} {ro : Nat → Nat} {J : JT} {Z : Option Value → Hp → Prop} (g : xCtx RX3 cX3_init 1 d mc ms yX3_init.name ro J) (hr : xRet cX3_init none mc ms Z J) {μ : Hp} {a0 : Nat} 
    (h : k + 1 ≤ mc ∧ n + 64 ≤ ms ∧ (∀ q1 : Nat, hS μ q1 = none → hS (wN μ q1 0 64) a0 = some (7, 9) ∧ J (wR (wN μ q1 0 64) a0 4 (some q1)) (k + 1) (n + 64) 44 [(0, .ref a0)] [])) :
    J μ k n 36 [(0, .ref a0)] [] := by
  refine r_aload_n g dX3_init_36 rfl ?_
  refine r_bipush g 64 dX3_init_37 (by decide) ?_
  obtain ⟨hk2, hk2_, h⟩ := h
  refine r_newI g 64 (by decide) (by decide) (by decide) hk2 hk2_ dX3_init_39 (fun q1 hf_q1 => ?_)
  replace h := h q1 hf_q1
  have hs_q1 := hS_wN μ q1 0 64
  obtain ⟨hs_a0, h⟩ := h
  refine r_putRF g fX3_29 rfl hs_a0 rfl rfl rfl (fun _ _ _ h9 => by cases h9; rfl) dX3_init_41 ?_
  refine r_sub g (lv' := [(0, .ref a0)]) (⟨rfl, trivial⟩) ?_
  exact h
set_option maxHeartbeats 4000000 in
set_option maxRecDepth 100000 in
theorem B_X3_init_44 {d : Nat} {mc ms k n : Nat} {ro : Nat → Nat} {J : JT} {Z : Option Value → Hp → Prop} (g : xCtx RX3 cX3_init 1 d mc ms yX3_init.name ro J) (hr : xRet cX3_init none mc ms Z J) {μ : Hp} {a0 : Nat} 
    (h : k + 1 ≤ mc ∧ n + 36 ≤ ms ∧ (∀ q1 : Nat, hS μ q1 = none → hS (wN μ q1 0 36) a0 = some (7, 9) ∧ J (wR (wN μ q1 0 36) a0 5 (some q1)) (k + 1) (n + 36) 52 [(0, .ref a0)] [])) :
    J μ k n 44 [(0, .ref a0)] [] := by
  refine r_aload_n g dX3_init_44 rfl ?_
  refine r_bipush g 36 dX3_init_45 (by decide) ?_
  obtain ⟨hk2, hk2_, h⟩ := h
  refine r_newI g 36 (by decide) (by decide) (by decide) hk2 hk2_ dX3_init_47 (fun q1 hf_q1 => ?_)
  replace h := h q1 hf_q1
  have hs_q1 := hS_wN μ q1 0 36
  obtain ⟨hs_a0, h⟩ := h
  refine r_putRF g fX3_32 rfl hs_a0 rfl rfl rfl (fun _ _ _ h9 => by cases h9; rfl) dX3_init_49 ?_
  refine r_sub g (lv' := [(0, .ref a0)]) (⟨rfl, trivial⟩) ?_
  exact h
set_option maxHeartbeats 4000000 in
set_option maxRecDepth 100000 in
theorem B_X3_init_52 {d : Nat} {mc ms k n : Nat} {ro : Nat → Nat} {J : JT} {Z : Option Value → Hp → Prop} (g : xCtx RX3 cX3_init 1 d mc ms yX3_init.name ro J) (hr : xRet cX3_init none mc ms Z J) {μ : Hp} {a0 : Nat} 
    (h : k + 1 ≤ mc ∧ n + 5 ≤ ms ∧ (∀ q1 : Nat, hS μ q1 = none → xCallA d mc ms (k + 1) (n + 5) yX9_init cX9_init 1 none [.ref q1] (wN μ q1 13 5) ro (fun r9 μ3 k4 n5 => r9 = none ∧ hS μ3 a0 = some (7, 9) ∧ J (wR μ3 a0 6 (some q1)) k4 n5 63 [(0, .ref a0)] []))) :
    J μ k n 52 [(0, .ref a0)] [] := by
  refine r_aload_n g dX3_init_52 rfl ?_
  obtain ⟨hk2, hk2_, h⟩ := h
  refine r_new g nX3_9 hk2 hk2_ dX3_init_53 (fun q1 hf_q1 => ?_)
  replace h := h q1 hf_q1
  have hs_q1 := hS_wN μ q1 13 5
  refine r_dup g dX3_init_56 rfl ?_
  obtain ⟨d1, mc1, ms1, Z1, hc1, hd1, hk1, hn1, h1⟩ := h
  refine r_callIN (st := [.ref q1, .ref a0]) (As := []) g sX3_11 rfl iX9_init rfl (Nat.le_of_ble_eq_true rfl) dX3_init_57 hd1 hk1 hn1 hc1 (fun r9 μ3 hZ1 => ?_)
  replace h := h1 _ _ hZ1
  clear h1 hc1 hd1 hZ1 hk1 hn1 Z1 d1
  obtain ⟨rfl, h⟩ := h
  generalize (k + 1) + mc1 = k4 at h ⊢
  generalize (n + 5) + ms1 = n5 at h ⊢
  obtain ⟨hs_a0, h⟩ := h
  refine r_putRF g fX3_35 rfl hs_a0 rfl rfl rfl (fun _ _ _ h9 => by cases h9; rfl) dX3_init_60 ?_
  refine r_sub g (lv' := [(0, .ref a0)]) (⟨rfl, trivial⟩) ?_
  exact h
set_option maxHeartbeats 4000000 in
set_option maxRecDepth 100000 in
theorem B_X3_init_63 {d : Nat} {mc ms k n : Nat} {ro : Nat → Nat} {J : JT} {Z : Option Value → Hp → Prop} (g : xCtx RX3 cX3_init 1 d mc ms yX3_init.name ro J) (hr : xRet cX3_init none mc ms Z J) {μ : Hp} {a0 : Nat} (hs_a0 : hS μ a0 = some (7, 9))
    (h : J (wI μ a0 7 0) k n 68 [(0, .ref a0)] []) :
    J μ k n 63 [(0, .ref a0)] [] := by
  refine r_aload_n g dX3_init_63 rfl ?_
  refine r_iconst g 0 dX3_init_64 (by decide) ?_
  refine r_putI g fX3_38 rfl hs_a0 rfl rfl dX3_init_65 ?_
  refine r_sub g (lv' := [(0, .ref a0)]) (⟨rfl, trivial⟩) ?_
  exact h
set_option maxHeartbeats 4000000 in
set_option maxRecDepth 100000 in
theorem B_X3_init_68 {d : Nat} {mc ms k n : Nat} {ro : Nat → Nat} {J : JT} {Z : Option Value → Hp → Prop} (g : xCtx RX3 cX3_init 1 d mc ms yX3_init.name ro J) (hr : xRet cX3_init none mc ms Z J) {μ : Hp} {a0 : Nat} (hs_a0 : hS μ a0 = some (7, 9))
    (h : J (wI μ a0 8 0) k n 73 [] []) :
    J μ k n 68 [(0, .ref a0)] [] := by
  refine r_aload_n g dX3_init_68 rfl ?_
  refine r_iconst g 0 dX3_init_69 (by decide) ?_
  refine r_putI g fX3_41 rfl hs_a0 (by decide) (by decide) dX3_init_70 ?_
  refine r_sub g (lv' := []) (trivial) ?_
  exact h
set_option maxHeartbeats 4000000 in
set_option maxRecDepth 100000 in
theorem B_X3_init_73 {d : Nat} {mc ms k n : Nat} {ro : Nat → Nat} {J : JT} {Z : Option Value → Hp → Prop} (g : xCtx RX3 cX3_init 1 d mc ms yX3_init.name ro J) (hr : xRet cX3_init none mc ms Z J) {μ : Hp}  
    (h : k ≤ mc ∧ n ≤ ms ∧ Z none μ) :
    J μ k n 73 [] [] := by
  obtain ⟨hk1, hk1_, h⟩ := h
  exact hr.1 rfl _ _ _ _ _ dX3_init_73 hk1 hk1_ h
theorem I_X3_init {d : Nat} {mc ms : Nat} {ro : Nat → Nat} {Z : Option Value → Hp → Prop} {μ : Hp} {a0 : Nat} (h : ∀ J, xCtx RX3 cX3_init 1 d mc ms yX3_init.name ro J → xRet cX3_init none mc ms Z J → J μ 0 0 0 [(0, .ref a0)] []) : xC d yX3_init cX3_init 1 none mc ms [.ref a0] μ ro Z :=
  xC_intro (own := RX3) (lv := [(0, .ref a0)]) (by decide) rfl (Nat.le_of_ble_eq_true rfl) rfl (fun J g hr => r_sub g (lv' := [(0, .ref a0)]) (⟨rfl, trivial⟩) (h J g hr))
theorem dX4_init_0 : decode cX4_init 0 = .ok (.aload_n 0, 1) := by decide +kernel
theorem dX4_init_1 : decode cX4_init 1 = .ok (.invokespecial 1, 3) := by decide +kernel
theorem dX4_init_4 : decode cX4_init 4 = .ok (.aload_n 0, 1) := by decide +kernel
theorem dX4_init_5 : decode cX4_init 5 = .ok (.iconst 0, 1) := by decide +kernel
theorem dX4_init_6 : decode cX4_init 6 = .ok (.putfield 7, 3) := by decide +kernel
theorem dX4_init_9 : decode cX4_init 9 = .ok (.aload_n 0, 1) := by decide +kernel
theorem dX4_init_10 : decode cX4_init 10 = .ok (.iconst 0, 1) := by decide +kernel
theorem dX4_init_11 : decode cX4_init 11 = .ok (.putfield 13, 3) := by decide +kernel
theorem dX4_init_14 : decode cX4_init 14 = .ok (.aload_n 0, 1) := by decide +kernel
theorem dX4_init_15 : decode cX4_init 15 = .ok (.sipush 4480, 3) := by decide +kernel
theorem dX4_init_18 : decode cX4_init 18 = .ok (.newarray .int, 2) := by decide +kernel
theorem dX4_init_20 : decode cX4_init 20 = .ok (.putfield 18, 3) := by decide +kernel
theorem dX4_init_23 : decode cX4_init 23 = .ok (.return_, 1) := by decide +kernel
set_option maxHeartbeats 4000000 in
set_option maxRecDepth 100000 in
theorem B_X4_init_0 {d : Nat} {mc ms k n : Nat} {ro : Nat → Nat} {J : JT} {Z : Option Value → Hp → Prop} (g : xCtx RX4 cX4_init 1 d mc ms yX4_init.name ro J) (hr : xRet cX4_init none mc ms Z J) {μ : Hp} {a0 : Nat} (hs_a0 : hS μ a0 = some (8, 3)) (hd9 : 1 ≤ d)
    (h : J (wI μ a0 0 0) k n 9 [(0, .ref a0)] []) :
    J μ k n 0 [(0, .ref a0)] [] := by
  refine r_aload_n g dX4_init_0 rfl ?_
  refine r_objInit g oX4_1 hd9 (Nat.le_of_ble_eq_true rfl) dX4_init_1 ?_
  refine r_aload_n g dX4_init_4 rfl ?_
  refine r_iconst g 0 dX4_init_5 (by decide) ?_
  refine r_putI g fX4_7 rfl hs_a0 rfl rfl dX4_init_6 ?_
  refine r_sub g (lv' := [(0, .ref a0)]) (⟨rfl, trivial⟩) ?_
  exact h
set_option maxHeartbeats 4000000 in
set_option maxRecDepth 100000 in
theorem B_X4_init_9 {d : Nat} {mc ms k n : Nat} {ro : Nat → Nat} {J : JT} {Z : Option Value → Hp → Prop} (g : xCtx RX4 cX4_init 1 d mc ms yX4_init.name ro J) (hr : xRet cX4_init none mc ms Z J) {μ : Hp} {a0 : Nat} (hs_a0 : hS μ a0 = some (8, 3))
    (h : J (wI μ a0 1 0) k n 14 [(0, .ref a0)] []) :
    J μ k n 9 [(0, .ref a0)] [] := by
  refine r_aload_n g dX4_init_9 rfl ?_
  refine r_iconst g 0 dX4_init_10 (by decide) ?_
  refine r_putI g fX4_13 rfl hs_a0 rfl rfl dX4_init_11 ?_
  refine r_sub g (lv' := [(0, .ref a0)]) (⟨rfl, trivial⟩) ?_
  exact h
set_option maxHeartbeats 4000000 in
set_option maxRecDepth 100000 in
theorem B_X4_init_14 {d : Nat} {mc ms k n : Nat} {ro : Nat → Nat} {J : JT} {Z : Option Value → Hp → Prop} (g : xCtx RX4 cX4_init 1 d mc ms yX4_init.name ro J) (hr : xRet cX4_init none mc ms Z J) {μ : Hp} {a0 : Nat} 
    (h : k + 1 ≤ mc ∧ n + 4480 ≤ ms ∧ (∀ q1 : Nat, hS μ q1 = none → hS (wN μ q1 0 4480) a0 = some (8, 3) ∧ J (wR (wN μ q1 0 4480) a0 2 (some q1)) (k + 1) (n + 4480) 23 [] [])) :
    J μ k n 14 [(0, .ref a0)] [] := by
  refine r_aload_n g dX4_init_14 rfl ?_
  refine r_sipush g 4480 dX4_init_15 (by decide) ?_
  obtain ⟨hk2, hk2_, h⟩ := h
  refine r_newI g 4480 (by decide) (by decide) (by decide) hk2 hk2_ dX4_init_18 (fun q1 hf_q1 => ?_)
  replace h := h q1 hf_q1
  have hs_q1 := hS_wN μ q1 0 4480
  obtain ⟨hs_a0, h⟩ := h
  refine r_putRF g fX4_18 rfl hs_a0 rfl rfl rfl (fun _ _ _ h9 => by cases h9; rfl) dX4_init_20 ?_
  refine r_sub g (lv' := []) (trivial) ?_
  exact h
set_option maxHeartbeats 4000000 in
set_option maxRecDepth 100000 in
theorem B_X4_init_23 {d : Nat} {mc ms k n : Nat} {ro : Nat → Nat} {J : JT} {Z : Option Value → Hp → Prop} (g : xCtx RX4 cX4_init 1 d mc ms yX4_init.name ro J) (hr : xRet cX4_init none mc ms Z J) {μ : Hp}  
    (h : k ≤ mc ∧ n ≤ ms ∧ Z none μ) :
    J μ k n 23 [] [] := by
  obtain ⟨hk1, hk1_, h⟩ := h
  exact hr.1 rfl _ _ _ _ _ dX4_init_23 hk1 hk1_ h
theorem I_X4_init {d : Nat} {mc ms : Nat} {ro : Nat → Nat} {Z : Option Value → Hp → Prop} {μ : Hp} {a0 : Nat} (h : ∀ J, xCtx RX4 cX4_init 1 d mc ms yX4_init.name ro J → xRet cX4_init none mc ms Z J → J μ 0 0 0 [(0, .ref a0)] []) : xC d yX4_init cX4_init 1 none mc ms [.ref a0] μ ro Z :=
  xC_intro (own := RX4) (lv := [(0, .ref a0)]) (by decide) rfl (Nat.le_of_ble_eq_true rfl) rfl (fun J g hr => r_sub g (lv' := [(0, .ref a0)]) (⟨rfl, trivial⟩) (h J g hr))
theorem dX5_init_0 : decode cX5_init 0 = .ok (.aload_n 0, 1) := by decide +kernel
theorem dX5_init_1 : decode cX5_init 1 = .ok (.invokespecial 5, 3) := by decide +kernel
theorem dX5_init_4 : decode cX5_init 4 = .ok (.aload_n 0, 1) := by decide +kernel
theorem dX5_init_5 : decode cX5_init 5 = .ok (.iconst 0, 1) := by decide +kernel
theorem dX5_init_6 : decode cX5_init 6 = .ok (.putfield 11, 3) := by decide +kernel
theorem dX5_init_9 : decode cX5_init 9 = .ok (.aload_n 0, 1) := by decide +kernel
theorem dX5_init_10 : decode cX5_init 10 = .ok (.iconst 0, 1) := by decide +kernel
theorem dX5_init_11 : decode cX5_init 11 = .ok (.putfield 15, 3) := by decide +kernel
theorem dX5_init_14 : decode cX5_init 14 = .ok (.aload_n 0, 1) := by decide +kernel
theorem dX5_init_15 : decode cX5_init 15 = .ok (.sipush 300, 3) := by decide +kernel
theorem dX5_init_18 : decode cX5_init 18 = .ok (.newarray .int, 2) := by decide +kernel
theorem dX5_init_20 : decode cX5_init 20 = .ok (.putfield 18, 3) := by decide +kernel
theorem dX5_init_23 : decode cX5_init 23 = .ok (.return_, 1) := by decide +kernel
set_option maxHeartbeats 4000000 in
set_option maxRecDepth 100000 in
theorem B_X5_init_0 {d : Nat} {mc ms k n : Nat} {ro : Nat → Nat} {J : JT} {Z : Option Value → Hp → Prop} (g : xCtx RX5 cX5_init 1 d mc ms yX5_init.name ro J) (hr : xRet cX5_init none mc ms Z J) {μ : Hp} {a0 : Nat} (hs_a0 : hS μ a0 = some (9, 3)) (hd9 : 1 ≤ d)
    (h : J (wI μ a0 0 0) k n 9 [(0, .ref a0)] []) :
    J μ k n 0 [(0, .ref a0)] [] := by
  refine r_aload_n g dX5_init_0 rfl ?_
  refine r_objInit g oX5_5 hd9 (Nat.le_of_ble_eq_true rfl) dX5_init_1 ?_
  refine r_aload_n g dX5_init_4 rfl ?_
  refine r_iconst g 0 dX5_init_5 (by decide) ?_
  refine r_putI g fX5_11 rfl hs_a0 rfl rfl dX5_init_6 ?_
  refine r_sub g (lv' := [(0, .ref a0)]) (⟨rfl, trivial⟩) ?_
  exact h
set_option maxHeartbeats 4000000 in
set_option maxRecDepth 100000 in
theorem B_X5_init_9 {d : Nat} {mc ms k n : Nat} {ro : Nat → Nat} {J : JT} {Z : Option Value → Hp → Prop} (g : xCtx RX5 cX5_init 1 d mc ms yX5_init.name ro J) (hr : xRet cX5_init none mc ms Z J) {μ : Hp} {a0 : Nat} (hs_a0 : hS μ a0 = some (9, 3))
    (h : J (wI μ a0 1 0) k n 14 [(0, .ref a0)] []) :
    J μ k n 9 [(0, .ref a0)] [] := by
  refine r_aload_n g dX5_init_9 rfl ?_
  refine r_iconst g 0 dX5_init_10 (by decide) ?_
  refine r_putI g fX5_15 rfl hs_a0 rfl rfl dX5_init_11 ?_
  refine r_sub g (lv' := [(0, .ref a0)]) (⟨rfl, trivial⟩) ?_
  exact h
set_option maxHeartbeats 4000000 in
set_option maxRecDepth 100000 in
theorem B_X5_init_14 {d : Nat} {mc ms k n : Nat} {ro : Nat → Nat} {J : JT} {Z : Option Value → Hp → Prop} (g : xCtx RX5 cX5_init 1 d mc ms yX5_init.name ro J) (hr : xRet cX5_init none mc ms Z J) {μ : Hp} {a0 : Nat} 
    (h : k + 1 ≤ mc ∧ n + 300 ≤ ms ∧ (∀ q1 : Nat, hS μ q1 = none → hS (wN μ q1 0 300) a0 = some (9, 3) ∧ J (wR (wN μ q1 0 300) a0 2 (some q1)) (k + 1) (n + 300) 23 [] [])) :
    J μ k n 14 [(0, .ref a0)] [] := by
  refine r_aload_n g dX5_init_14 rfl ?_
  refine r_sipush g 300 dX5_init_15 (by decide) ?_
  obtain ⟨hk2, hk2_, h⟩ := h
  refine r_newI g 300 (by decide) (by decide) (by decide) hk2 hk2_ dX5_init_18 (fun q1 hf_q1 => ?_)
  replace h := h q1 hf_q1
  have hs_q1 := hS_wN μ q1 0 300
  obtain ⟨hs_a0, h⟩ := h
  refine r_putRF g fX5_18 rfl hs_a0 rfl rfl rfl (fun _ _ _ h9 => by cases h9; rfl) dX5_init_20 ?_
  refine r_sub g (lv' := []) (trivial) ?_
  exact h
set_option maxHeartbeats 4000000 in
set_option maxRecDepth 100000 in
theorem B_X5_init_23 {d : Nat} {mc ms k n : Nat} {ro : Nat → Nat} {J : JT} {Z : Option Value → Hp → Prop} (g : xCtx RX5 cX5_init 1 d mc ms yX5_init.name ro J) (hr : xRet cX5_init none mc ms Z J) {μ : Hp}  
    (h : k ≤ mc ∧ n ≤ ms ∧ Z none μ) :
    J μ k n 23 [] [] := by
  obtain ⟨hk1, hk1_, h⟩ := h
  exact hr.1 rfl _ _ _ _ _ dX5_init_23 hk1 hk1_ h
theorem I_X5_init {d : Nat} {mc ms : Nat} {ro : Nat → Nat} {Z : Option Value → Hp → Prop} {μ : Hp} {a0 : Nat} (h : ∀ J, xCtx RX5 cX5_init 1 d mc ms yX5_init.name ro J → xRet cX5_init none mc ms Z J → J μ 0 0 0 [(0, .ref a0)] []) : xC d yX5_init cX5_init 1 none mc ms [.ref a0] μ ro Z :=
  xC_intro (own := RX5) (lv := [(0, .ref a0)]) (by decide) rfl (Nat.le_of_ble_eq_true rfl) rfl (fun J g hr => r_sub g (lv' := [(0, .ref a0)]) (⟨rfl, trivial⟩) (h J g hr))
theorem dX2_init_0 : decode cX2_init 0 = .ok (.aload_n 0, 1) := by decide +kernel
theorem dX2_init_1 : decode cX2_init 1 = .ok (.invokespecial 3, 3) := by decide +kernel
theorem dX2_init_4 : decode cX2_init 4 = .ok (.aload_n 0, 1) := by decide +kernel
theorem dX2_init_5 : decode cX2_init 5 = .ok (.bipush 6, 2) := by decide +kernel
theorem dX2_init_7 : decode cX2_init 7 = .ok (.newarray .long, 2) := by decide +kernel
theorem dX2_init_9 : decode cX2_init 9 = .ok (.putfield 9, 3) := by decide +kernel
theorem dX2_init_12 : decode cX2_init 12 = .ok (.aload_n 0, 1) := by decide +kernel
theorem dX2_init_13 : decode cX2_init 13 = .ok (.bipush 8, 2) := by decide +kernel
theorem dX2_init_15 : decode cX2_init 15 = .ok (.newarray .long, 2) := by decide +kernel
theorem dX2_init_17 : decode cX2_init 17 = .ok (.putfield 15, 3) := by decide +kernel
theorem dX2_init_20 : decode cX2_init 20 = .ok (.aload_n 0, 1) := by decide +kernel
theorem dX2_init_21 : decode cX2_init 21 = .ok (.bipush 18, 2) := by decide +kernel
theorem dX2_init_23 : decode cX2_init 23 = .ok (.newarray .int, 2) := by decide +kernel
theorem dX2_init_25 : decode cX2_init 25 = .ok (.putfield 18, 3) := by decide +kernel
theorem dX2_init_28 : decode cX2_init 28 = .ok (.aload_n 0, 1) := by decide +kernel
theorem dX2_init_29 : decode cX2_init 29 = .ok (.bipush 8, 2) := by decide +kernel
theorem dX2_init_31 : decode cX2_init 31 = .ok (.newarray .int, 2) := by decide +kernel
theorem dX2_init_33 : decode cX2_init 33 = .ok (.putfield 22, 3) := by decide +kernel
theorem dX2_init_36 : decode cX2_init 36 = .ok (.aload_n 0, 1) := by decide +kernel
theorem dX2_init_37 : decode cX2_init 37 = .ok (.sipush 132, 3) := by decide +kernel
theorem dX2_init_40 : decode cX2_init 40 = .ok (.newarray .int, 2) := by decide +kernel
theorem dX2_init_42 : decode cX2_init 42 = .ok (.putfield 25, 3) := by decide +kernel
theorem dX2_init_45 : decode cX2_init 45 = .ok (.aload_n 0, 1) := by decide +kernel
theorem dX2_init_46 : decode cX2_init 46 = .ok (.iconst 0, 1) := by decide +kernel
theorem dX2_init_47 : decode cX2_init 47 = .ok (.putfield 28, 3) := by decide +kernel
theorem dX2_init_50 : decode cX2_init 50 = .ok (.aload_n 0, 1) := by decide +kernel
theorem dX2_init_51 : decode cX2_init 51 = .ok (.iconst 0, 1) := by decide +kernel
theorem dX2_init_52 : decode cX2_init 52 = .ok (.putfield 32, 3) := by decide +kernel
theorem dX2_init_55 : decode cX2_init 55 = .ok (.aload_n 0, 1) := by decide +kernel
theorem dX2_init_56 : decode cX2_init 56 = .ok (.iconst 0, 1) := by decide +kernel
theorem dX2_init_57 : decode cX2_init 57 = .ok (.putfield 35, 3) := by decide +kernel
theorem dX2_init_60 : decode cX2_init 60 = .ok (.aload_n 0, 1) := by decide +kernel
theorem dX2_init_61 : decode cX2_init 61 = .ok (.iconst 0, 1) := by decide +kernel
theorem dX2_init_62 : decode cX2_init 62 = .ok (.putfield 38, 3) := by decide +kernel
theorem dX2_init_65 : decode cX2_init 65 = .ok (.return_, 1) := by decide +kernel
set_option maxHeartbeats 4000000 in
set_option maxRecDepth 100000 in
theorem B_X2_init_0 {d : Nat} {mc ms k n : Nat} {ro : Nat → Nat} {J : JT} {Z : Option Value → Hp → Prop} (g : xCtx RX2 cX2_init 1 d mc ms yX2_init.name ro J) (hr : xRet cX2_init none mc ms Z J) {μ : Hp} {a0 : Nat}  (hd9 : 1 ≤ d)
    (h : k + 1 ≤ mc ∧ n + 6 ≤ ms ∧ (∀ q1 : Nat, hS μ q1 = none → hS (wN μ q1 2 6) a0 = some (6, 9) ∧ J (wR (wN μ q1 2 6) a0 0 (some q1)) (k + 1) (n + 6) 12 [(0, .ref a0)] [])) :
    J μ k n 0 [(0, .ref a0)] [] := by
  refine r_aload_n g dX2_init_0 rfl ?_
  refine r_objInit g oX2_3 hd9 (Nat.le_of_ble_eq_true rfl) dX2_init_1 ?_
  refine r_aload_n g dX2_init_4 rfl ?_
  refine r_bipush g 6 dX2_init_5 (by decide) ?_
  obtain ⟨hk2, hk2_, h⟩ := h
  refine r_newL g 6 (by decide) (by decide) (by decide) hk2 hk2_ dX2_init_7 (fun q1 hf_q1 => ?_)
  replace h := h q1 hf_q1
  have hs_q1 := hS_wN μ q1 2 6
  obtain ⟨hs_a0, h⟩ := h
  refine r_putRF g fX2_9 rfl hs_a0 rfl rfl rfl (fun _ _ _ h9 => by cases h9; rfl) dX2_init_9 ?_
  refine r_sub g (lv' := [(0, .ref a0)]) (⟨rfl, trivial⟩) ?_
  exact h
set_option maxHeartbeats 4000000 in
set_option maxRecDepth 100000 in
theorem B_X2_init_12 {d : Nat} {mc ms k n : Nat} {ro : Nat → Nat} {J : JT} {Z : Option Value → Hp → Prop} (g : xCtx RX2 cX2_init 1 d mc ms yX2_init.name ro J) (hr : xRet cX2_init none mc ms Z J) {μ : Hp} {a0 : Nat} 
    (h : k + 1 ≤ mc ∧ n + 8 ≤ ms ∧ (∀ q1 : Nat, hS μ q1 = none → hS (wN μ q1 2 8) a0 = some (6, 9) ∧ J (wR (wN μ q1 2 8) a0 1 (some q1)) (k + 1) (n + 8) 20 [(0, .ref a0)] [])) :
    J μ k n 12 [(0, .ref a0)] [] := by
  refine r_aload_n g dX2_init_12 rfl ?_
  refine r_bipush g 8 dX2_init_13 (by decide) ?_
  obtain ⟨hk2, hk2_, h⟩ := h
  refine r_newL g 8 (by decide) (by decide) (by decide) hk2 hk2_ dX2_init_15 (fun q1 hf_q1 => ?_)
  replace h := h q1 hf_q1
  have hs_q1 := hS_wN μ q1 2 8
  obtain ⟨hs_a0, h⟩ := h
  refine r_putRF g fX2_15 rfl hs_a0 rfl rfl rfl (fun _ _ _ h9 => by cases h9; rfl) dX2_init_17 ?_
  refine r_sub g (lv' := [(0, .ref a0)]) (⟨rfl, trivial⟩) ?_
  exact h
set_option maxHeartbeats 4000000 in
set_option maxRecDepth 100000 in
theorem B_X2_init_20 {d : Nat} {mc ms k n : Nat} {ro : Nat → Nat} {J : JT} {Z : Option Value → Hp → Prop} (g : xCtx RX2 cX2_init 1 d mc ms yX2_init.name ro J) (hr : xRet cX2_init none mc ms Z J) {μ : Hp} {a0 : Nat} 
    (h : k + 1 ≤ mc ∧ n + 18 ≤ ms ∧ (∀ q1 : Nat, hS μ q1 = none → hS (wN μ q1 0 18) a0 = some (6, 9) ∧ J (wR (wN μ q1 0 18) a0 2 (some q1)) (k + 1) (n + 18) 28 [(0, .ref a0)] [])) :
    J μ k n 20 [(0, .ref a0)] [] := by
  refine r_aload_n g dX2_init_20 rfl ?_
  refine r_bipush g 18 dX2_init_21 (by decide) ?_
  obtain ⟨hk2, hk2_, h⟩ := h
  refine r_newI g 18 (by decide) (by decide) (by decide) hk2 hk2_ dX2_init_23 (fun q1 hf_q1 => ?_)
  replace h := h q1 hf_q1
  have hs_q1 := hS_wN μ q1 0 18
  obtain ⟨hs_a0, h⟩ := h
  refine r_putRF g fX2_18 rfl hs_a0 rfl rfl rfl (fun _ _ _ h9 => by cases h9; rfl) dX2_init_25 ?_
  refine r_sub g (lv' := [(0, .ref a0)]) (⟨rfl, trivial⟩) ?_
  exact h
set_option maxHeartbeats 4000000 in
set_option maxRecDepth 100000 in
theorem B_X2_init_28 {d : Nat} {mc ms k n : Nat} {ro : Nat → Nat} {J : JT} {Z : Option Value → Hp → Prop} (g : xCtx RX2 cX2_init 1 d mc ms yX2_init.name ro J) (hr : xRet cX2_init none mc ms Z J) {μ : Hp} {a0 : Nat} 
    (h : k + 1 ≤ mc ∧ n + 8 ≤ ms ∧ (∀ q1 : Nat, hS μ q1 = none → hS (wN μ q1 0 8) a0 = some (6, 9) ∧ J (wR (wN μ q1 0 8) a0 3 (some q1)) (k + 1) (n + 8) 36 [(0, .ref a0)] [])) :
    J μ k n 28 [(0, .ref a0)] [] := by
  refine r_aload_n g dX2_init_28 rfl ?_
  refine r_bipush g 8 dX2_init_29 (by decide) ?_
  obtain ⟨hk2, hk2_, h⟩ := h
  refine r_newI g 8 (by decide) (by decide) (by decide) hk2 hk2_ dX2_init_31 (fun q1 hf_q1 => ?_)
  replace h := h q1 hf_q1
  have hs_q1 := hS_wN μ q1 0 8
  obtain ⟨hs_a0, h⟩ := h
  refine r_putRF g fX2_22 rfl hs_a0 rfl rfl rfl (fun _ _ _ h9 => by cases h9; rfl) dX2_init_33 ?_
  refine r_sub g (lv' := [(0, .ref a0)]) (⟨rfl, trivial⟩) ?_
  exact h
set_option maxHeartbeats 4000000 in
set_option maxRecDepth 100000 in
theorem B_X2_init_36 {d : Nat} {mc ms k n : Nat} {ro : Nat → Nat} {J : JT} {Z : Option Value → Hp → Prop} (g : xCtx RX2 cX2_init 1 d mc ms yX2_init.name ro J) (hr : xRet cX2_init none mc ms Z J) {μ : Hp} {a0 : Nat} 
    (h : k + 1 ≤ mc ∧ n + 132 ≤ ms ∧ (∀ q1 : Nat, hS μ q1 = none → hS (wN μ q1 0 132) a0 = some (6, 9) ∧ J (wR (wN μ q1 0 132) a0 4 (some q1)) (k + 1) (n + 132) 45 [(0, .ref a0)] [])) :
    J μ k n 36 [(0, .ref a0)] [] := by
  refine r_aload_n g dX2_init_36 rfl ?_
  refine r_sipush g 132 dX2_init_37 (by decide) ?_
  obtain ⟨hk2, hk2_, h⟩ := h
  refine r_newI g 132 (by decide) (by decide) (by decide) hk2 hk2_ dX2_init_40 (fun q1 hf_q1 => ?_)
  replace h := h q1 hf_q1
  have hs_q1 := hS_wN μ q1 0 132
  obtain ⟨hs_a0, h⟩ := h
  refine r_putRF g fX2_25 rfl hs_a0 rfl rfl rfl (fun _ _ _ h9 => by cases h9; rfl) dX2_init_42 ?_
  refine r_sub g (lv' := [(0, .ref a0)]) (⟨rfl, trivial⟩) ?_
  exact h
set_option maxHeartbeats 4000000 in
set_option maxRecDepth 100000 in
theorem B_X2_init_45 {d : Nat} {mc ms k n : Nat} {ro : Nat → Nat} {J : JT} {Z : Option Value → Hp → Prop} (g : xCtx RX2 cX2_init 1 d mc ms yX2_init.name ro J) (hr : xRet cX2_init none mc ms Z J) {μ : Hp} {a0 : Nat} (hs_a0 : hS μ a0 = some (6, 9))
    (h : J (wI μ a0 5 0) k n 50 [(0, .ref a0)] []) :
    J μ k n 45 [(0, .ref a0)] [] := by
  refine r_aload_n g dX2_init_45 rfl ?_
  refine r_iconst g 0 dX2_init_46 (by decide) ?_
  refine r_putI g fX2_28 rfl hs_a0 rfl rfl dX2_init_47 ?_
  refine r_sub g (lv' := [(0, .ref a0)]) (⟨rfl, trivial⟩) ?_
  exact h
set_option maxHeartbeats 4000000 in
set_option maxRecDepth 100000 in
theorem B_X2_init_50 {d : Nat} {mc ms k n : Nat} {ro : Nat → Nat} {J : JT} {Z : Option Value → Hp → Prop} (g : xCtx RX2 cX2_init 1 d mc ms yX2_init.name ro J) (hr : xRet cX2_init none mc ms Z J) {μ : Hp} {a0 : Nat} (hs_a0 : hS μ a0 = some (6, 9))
    (h : J (wI μ a0 6 0) k n 55 [(0, .ref a0)] []) :
    J μ k n 50 [(0, .ref a0)] [] := by
  refine r_aload_n g dX2_init_50 rfl ?_
  refine r_iconst g 0 dX2_init_51 (by decide) ?_
  refine r_putI g fX2_32 rfl hs_a0 rfl rfl dX2_init_52 ?_
  refine r_sub g (lv' := [(0, .ref a0)]) (⟨rfl, trivial⟩) ?_
  exact h
set_option maxHeartbeats 4000000 in
set_option maxRecDepth 100000 in
theorem B_X2_init_55 {d : Nat} {mc ms k n : Nat} {ro : Nat → Nat} {J : JT} {Z : Option Value → Hp → Prop} (g : xCtx RX2 cX2_init 1 d mc ms yX2_init.name ro J) (hr : xRet cX2_init none mc ms Z J) {μ : Hp} {a0 : Nat} (hs_a0 : hS μ a0 = some (6, 9))
    (h : J (wI μ a0 7 0) k n 60 [(0, .ref a0)] []) :
    J μ k n 55 [(0, .ref a0)] [] := by
  refine r_aload_n g dX2_init_55 rfl ?_
  refine r_iconst g 0 dX2_init_56 (by decide) ?_
  refine r_putI g fX2_35 rfl hs_a0 rfl rfl dX2_init_57 ?_
  refine r_sub g (lv' := [(0, .ref a0)]) (⟨rfl, trivial⟩) ?_
  exact h
set_option maxHeartbeats 4000000 in
set_option maxRecDepth 100000 in
theorem B_X2_init_60 {d : Nat} {mc ms k n : Nat} {ro : Nat → Nat} {J : JT} {Z : Option Value → Hp → Prop} (g : xCtx RX2 cX2_init 1 d mc ms yX2_init.name ro J) (hr : xRet cX2_init none mc ms Z J) {μ : Hp} {a0 : Nat} (hs_a0 : hS μ a0 = some (6, 9))
    (h : J (wI μ a0 8 0) k n 65 [] []) :
    J μ k n 60 [(0, .ref a0)] [] := by
  refine r_aload_n g dX2_init_60 rfl ?_
  refine r_iconst g 0 dX2_init_61 (by decide) ?_
  refine r_putI g fX2_38 rfl hs_a0 (by decide) (by decide) dX2_init_62 ?_
  refine r_sub g (lv' := []) (trivial) ?_
  exact h
set_option maxHeartbeats 4000000 in
set_option maxRecDepth 100000 in
theorem B_X2_init_65 {d : Nat} {mc ms k n : Nat} {ro : Nat → Nat} {J : JT} {Z : Option Value → Hp → Prop} (g : xCtx RX2 cX2_init 1 d mc ms yX2_init.name ro J) (hr : xRet cX2_init none mc ms Z J) {μ : Hp}  
    (h : k ≤ mc ∧ n ≤ ms ∧ Z none μ) :
    J μ k n 65 [] [] := by
  obtain ⟨hk1, hk1_, h⟩ := h
  exact hr.1 rfl _ _ _ _ _ dX2_init_65 hk1 hk1_ h
theorem I_X2_init {d : Nat} {mc ms : Nat} {ro : Nat → Nat} {Z : Option Value → Hp → Prop} {μ : Hp} {a0 : Nat} (h : ∀ J, xCtx RX2 cX2_init 1 d mc ms yX2_init.name ro J → xRet cX2_init none mc ms Z J → J μ 0 0 0 [(0, .ref a0)] []) : xC d yX2_init cX2_init 1 none mc ms [.ref a0] μ ro Z :=
  xC_intro (own := RX2) (lv := [(0, .ref a0)]) (by decide) rfl (Nat.le_of_ble_eq_true rfl) rfl (fun J g hr => r_sub g (lv' := [(0, .ref a0)]) (⟨rfl, trivial⟩) (h J g hr))
theorem dX7_init_0 : decode cX7_init 0 = .ok (.aload_n 0, 1) := by decide +kernel
theorem dX7_init_1 : decode cX7_init 1 = .ok (.invokespecial 3, 3) := by decide +kernel
theorem dX7_init_4 : decode cX7_init 4 = .ok (.aload_n 0, 1) := by decide +kernel
theorem dX7_init_5 : decode cX7_init 5 = .ok (.bipush 60, 2) := by decide +kernel
theorem dX7_init_7 : decode cX7_init 7 = .ok (.newarray .int, 2) := by decide +kernel
theorem dX7_init_9 : decode cX7_init 9 = .ok (.putfield 11, 3) := by decide +kernel
theorem dX7_init_12 : decode cX7_init 12 = .ok (.aload_n 0, 1) := by decide +kernel
theorem dX7_init_13 : decode cX7_init 13 = .ok (.iconst 0, 1) := by decide +kernel
theorem dX7_init_14 : decode cX7_init 14 = .ok (.putfield 15, 3) := by decide +kernel
theorem dX7_init_17 : decode cX7_init 17 = .ok (.return_, 1) := by decide +kernel
set_option maxHeartbeats 4000000 in
set_option maxRecDepth 100000 in
theorem B_X7_init_0 {d : Nat} {mc ms k n : Nat} {ro : Nat → Nat} {J : JT} {Z : Option Value → Hp → Prop} (g : xCtx RX7 cX7_init 1 d mc ms yX7_init.name ro J) (hr : xRet cX7_init none mc ms Z J) {μ : Hp} {a0 : Nat}  (hd9 : 1 ≤ d)
    (h : k + 1 ≤ mc ∧ n + 60 ≤ ms ∧ (∀ q1 : Nat, hS μ q1 = none → hS (wN μ q1 0 60) a0 = some (11, 2) ∧ J (wR (wN μ q1 0 60) a0 0 (some q1)) (k + 1) (n + 60) 12 [(0, .ref a0)] [])) :
    J μ k n 0 [(0, .ref a0)] [] := by
  refine r_aload_n g dX7_init_0 rfl ?_
  refine r_objInit g oX7_3 hd9 (Nat.le_of_ble_eq_true rfl) dX7_init_1 ?_
  refine r_aload_n g dX7_init_4 rfl ?_
  refine r_bipush g 60 dX7_init_5 (by decide) ?_
  obtain ⟨hk2, hk2_, h⟩ := h
  refine r_newI g 60 (by decide) (by decide) (by decide) hk2 hk2_ dX7_init_7 (fun q1 hf_q1 => ?_)
  replace h := h q1 hf_q1
  have hs_q1 := hS_wN μ q1 0 60
  obtain ⟨hs_a0, h⟩ := h
  refine r_putRF g fX7_11 rfl hs_a0 rfl rfl rfl (fun _ _ _ h9 => by cases h9; rfl) dX7_init_9 ?_
  refine r_sub g (lv' := [(0, .ref a0)]) (⟨rfl, trivial⟩) ?_
  exact h
set_option maxHeartbeats 4000000 in
set_option maxRecDepth 100000 in
theorem B_X7_init_12 {d : Nat} {mc ms k n : Nat} {ro : Nat → Nat} {J : JT} {Z : Option Value → Hp → Prop} (g : xCtx RX7 cX7_init 1 d mc ms yX7_init.name ro J) (hr : xRet cX7_init none mc ms Z J) {μ : Hp} {a0 : Nat} (hs_a0 : hS μ a0 = some (11, 2))
    (h : J (wI μ a0 1 0) k n 17 [] []) :
    J μ k n 12 [(0, .ref a0)] [] := by
  refine r_aload_n g dX7_init_12 rfl ?_
  refine r_iconst g 0 dX7_init_13 (by decide) ?_
  refine r_putI g fX7_15 rfl hs_a0 rfl rfl dX7_init_14 ?_
  refine r_sub g (lv' := []) (trivial) ?_
  exact h
set_option maxHeartbeats 4000000 in
set_option maxRecDepth 100000 in
theorem B_X7_init_17 {d : Nat} {mc ms k n : Nat} {ro : Nat → Nat} {J : JT} {Z : Option Value → Hp → Prop} (g : xCtx RX7 cX7_init 1 d mc ms yX7_init.name ro J) (hr : xRet cX7_init none mc ms Z J) {μ : Hp}  
    (h : k ≤ mc ∧ n ≤ ms ∧ Z none μ) :
    J μ k n 17 [] [] := by
  obtain ⟨hk1, hk1_, h⟩ := h
  exact hr.1 rfl _ _ _ _ _ dX7_init_17 hk1 hk1_ h
theorem I_X7_init {d : Nat} {mc ms : Nat} {ro : Nat → Nat} {Z : Option Value → Hp → Prop} {μ : Hp} {a0 : Nat} (h : ∀ J, xCtx RX7 cX7_init 1 d mc ms yX7_init.name ro J → xRet cX7_init none mc ms Z J → J μ 0 0 0 [(0, .ref a0)] []) : xC d yX7_init cX7_init 1 none mc ms [.ref a0] μ ro Z :=
  xC_intro (own := RX7) (lv := [(0, .ref a0)]) (by decide) rfl (Nat.le_of_ble_eq_true rfl) rfl (fun J g hr => r_sub g (lv' := [(0, .ref a0)]) (⟨rfl, trivial⟩) (h J g hr))
theorem dX8_init_0 : decode cX8_init 0 = .ok (.aload_n 0, 1) := by decide +kernel
theorem dX8_init_1 : decode cX8_init 1 = .ok (.invokespecial 5, 3) := by decide +kernel
theorem dX8_init_4 : decode cX8_init 4 = .ok (.aload_n 0, 1) := by decide +kernel
theorem dX8_init_5 : decode cX8_init 5 = .ok (.bipush 112, 2) := by decide +kernel
theorem dX8_init_7 : decode cX8_init 7 = .ok (.newarray .int, 2) := by decide +kernel
theorem dX8_init_9 : decode cX8_init 9 = .ok (.putfield 11, 3) := by decide +kernel
theorem dX8_init_12 : decode cX8_init 12 = .ok (.aload_n 0, 1) := by decide +kernel
theorem dX8_init_13 : decode cX8_init 13 = .ok (.iconst (-1), 1) := by decide +kernel
theorem dX8_init_14 : decode cX8_init 14 = .ok (.putfield 15, 3) := by decide +kernel
theorem dX8_init_17 : decode cX8_init 17 = .ok (.aload_n 0, 1) := by decide +kernel
theorem dX8_init_18 : decode cX8_init 18 = .ok (.iconst (-1), 1) := by decide +kernel
theorem dX8_init_19 : decode cX8_init 19 = .ok (.putfield 19, 3) := by decide +kernel
theorem dX8_init_22 : decode cX8_init 22 = .ok (.aload_n 0, 1) := by decide +kernel
theorem dX8_init_23 : decode cX8_init 23 = .ok (.aload_n 1, 1) := by decide +kernel
theorem dX8_init_24 : decode cX8_init 24 = .ok (.putfield 22, 3) := by decide +kernel
theorem dX8_init_27 : decode cX8_init 27 = .ok (.return_, 1) := by decide +kernel
set_option maxHeartbeats 4000000 in
set_option maxRecDepth 100000 in
theorem B_X8_init_0 {d : Nat} {mc ms k n : Nat} {ro : Nat → Nat} {J : JT} {Z : Option Value → Hp → Prop} (g : xCtx RX8 cX8_init 2 d mc ms yX8_init.name ro J) (hr : xRet cX8_init none mc ms Z J) {μ : Hp} {a0 : Nat} {a1 : Nat}  (hd9 : 1 ≤ d)
    (h : k + 1 ≤ mc ∧ n + 112 ≤ ms ∧ (∀ q1 : Nat, hS μ q1 = none → hS (wN μ q1 0 112) a0 = some (12, 4) ∧ J (wR (wN μ q1 0 112) a0 0 (some q1)) (k + 1) (n + 112) 12 [(0, .ref a0), (1, .ref a1)] [])) :
    J μ k n 0 [(0, .ref a0), (1, .ref a1)] [] := by
  refine r_aload_n g dX8_init_0 rfl ?_
  refine r_objInit g oX8_5 hd9 (Nat.le_of_ble_eq_true rfl) dX8_init_1 ?_
  refine r_aload_n g dX8_init_4 rfl ?_
  refine r_bipush g 112 dX8_init_5 (by decide) ?_
  obtain ⟨hk2, hk2_, h⟩ := h
  refine r_newI g 112 (by decide) (by decide) (by decide) hk2 hk2_ dX8_init_7 (fun q1 hf_q1 => ?_)
  replace h := h q1 hf_q1
  have hs_q1 := hS_wN μ q1 0 112
  obtain ⟨hs_a0, h⟩ := h
  refine r_putRF g fX8_11 rfl hs_a0 rfl rfl rfl (fun _ _ _ h9 => by cases h9; rfl) dX8_init_9 ?_
  refine r_sub g (lv' := [(0, .ref a0), (1, .ref a1)]) (⟨rfl, rfl, trivial⟩) ?_
  exact h
set_option maxHeartbeats 4000000 in
set_option maxRecDepth 100000 in
theorem B_X8_init_12 {d : Nat} {mc ms k n : Nat} {ro : Nat → Nat} {J : JT} {Z : Option Value → Hp → Prop} (g : xCtx RX8 cX8_init 2 d mc ms yX8_init.name ro J) (hr : xRet cX8_init none mc ms Z J) {μ : Hp} {a0 : Nat} {a1 : Nat} (hs_a0 : hS μ a0 = some (12, 4))
    (h : J (wI μ a0 2 (-1)) k n 17 [(0, .ref a0), (1, .ref a1)] []) :
    J μ k n 12 [(0, .ref a0), (1, .ref a1)] [] := by
  refine r_aload_n g dX8_init_12 rfl ?_
  refine r_iconst g (-1) dX8_init_13 (by decide) ?_
  refine r_putI g fX8_15 rfl hs_a0 rfl rfl dX8_init_14 ?_
  refine r_sub g (lv' := [(0, .ref a0), (1, .ref a1)]) (⟨rfl, rfl, trivial⟩) ?_
  exact h
set_option maxHeartbeats 4000000 in
set_option maxRecDepth 100000 in
theorem B_X8_init_17 {d : Nat} {mc ms k n : Nat} {ro : Nat → Nat} {J : JT} {Z : Option Value → Hp → Prop} (g : xCtx RX8 cX8_init 2 d mc ms yX8_init.name ro J) (hr : xRet cX8_init none mc ms Z J) {μ : Hp} {a0 : Nat} {a1 : Nat} (hs_a0 : hS μ a0 = some (12, 4))
    (h : J (wI μ a0 3 (-1)) k n 22 [(0, .ref a0), (1, .ref a1)] []) :
    J μ k n 17 [(0, .ref a0), (1, .ref a1)] [] := by
  refine r_aload_n g dX8_init_17 rfl ?_
  refine r_iconst g (-1) dX8_init_18 (by decide) ?_
  refine r_putI g fX8_19 rfl hs_a0 rfl rfl dX8_init_19 ?_
  refine r_sub g (lv' := [(0, .ref a0), (1, .ref a1)]) (⟨rfl, rfl, trivial⟩) ?_
  exact h
set_option maxHeartbeats 4000000 in
set_option maxRecDepth 100000 in
theorem B_X8_init_22 {d : Nat} {mc ms k n : Nat} {ro : Nat → Nat} {J : JT} {Z : Option Value → Hp → Prop} (g : xCtx RX8 cX8_init 2 d mc ms yX8_init.name ro J) (hr : xRet cX8_init none mc ms Z J) {μ : Hp} {a0 : Nat} {a1 : Nat} (hs_a0 : hS μ a0 = some (12, 4))
    (h : J (wR μ a0 1 (some a1)) k n 27 [] []) :
    J μ k n 22 [(0, .ref a0), (1, .ref a1)] [] := by
  refine r_aload_n g dX8_init_22 rfl ?_
  refine r_aload_n g dX8_init_23 rfl ?_
  refine r_putR g fX8_22 rfl hs_a0 rfl rfl dX8_init_24 ?_
  refine r_sub g (lv' := []) (trivial) ?_
  exact h
set_option maxHeartbeats 4000000 in
set_option maxRecDepth 100000 in
theorem B_X8_init_27 {d : Nat} {mc ms k n : Nat} {ro : Nat → Nat} {J : JT} {Z : Option Value → Hp → Prop} (g : xCtx RX8 cX8_init 2 d mc ms yX8_init.name ro J) (hr : xRet cX8_init none mc ms Z J) {μ : Hp}  
    (h : k ≤ mc ∧ n ≤ ms ∧ Z none μ) :
    J μ k n 27 [] [] := by
  obtain ⟨hk1, hk1_, h⟩ := h
  exact hr.1 rfl _ _ _ _ _ dX8_init_27 hk1 hk1_ h
theorem I_X8_init {d : Nat} {mc ms : Nat} {ro : Nat → Nat} {Z : Option Value → Hp → Prop} {μ : Hp} {a0 : Nat} {a1 : Nat} (h : ∀ J, xCtx RX8 cX8_init 2 d mc ms yX8_init.name ro J → xRet cX8_init none mc ms Z J → J μ 0 0 0 [(0, .ref a0), (1, .ref a1)] []) : xC d yX8_init cX8_init 2 none mc ms [.ref a0, .ref a1] μ ro Z :=
  xC_intro (own := RX8) (lv := [(0, .ref a0), (1, .ref a1)]) (by decide) rfl (Nat.le_of_ble_eq_true rfl) rfl (fun J g hr => r_sub g (lv' := [(0, .ref a0), (1, .ref a1)]) (⟨rfl, rfl, trivial⟩) (h J g hr))
theorem dX1_init_0 : decode cX1_init 0 = .ok (.aload_n 0, 1) := by decide +kernel
theorem dX1_init_1 : decode cX1_init 1 = .ok (.invokespecial 3, 3) := by decide +kernel
theorem dX1_init_4 : decode cX1_init 4 = .ok (.aload_n 0, 1) := by decide +kernel
theorem dX1_init_5 : decode cX1_init 5 = .ok (.aload_n 1, 1) := by decide +kernel
theorem dX1_init_6 : decode cX1_init 6 = .ok (.putfield 9, 3) := by decide +kernel
theorem dX1_init_9 : decode cX1_init 9 = .ok (.return_, 1) := by decide +kernel
set_option maxHeartbeats 4000000 in
set_option maxRecDepth 100000 in
theorem B_X1_init_0 {d : Nat} {mc ms k n : Nat} {ro : Nat → Nat} {J : JT} {Z : Option Value → Hp → Prop} (g : xCtx RX1 cX1_init 2 d mc ms yX1_init.name ro J) (hr : xRet cX1_init none mc ms Z J) {μ : Hp} {a0 : Nat} {a1 : Nat} (hs_a0 : hS μ a0 = some (5, 1)) (hd9 : 1 ≤ d)
    (h : J (wR μ a0 0 (some a1)) k n 9 [] []) :
    J μ k n 0 [(0, .ref a0), (1, .ref a1)] [] := by
  refine r_aload_n g dX1_init_0 rfl ?_
  refine r_objInit g oX1_3 hd9 (Nat.le_of_ble_eq_true rfl) dX1_init_1 ?_
  refine r_aload_n g dX1_init_4 rfl ?_
  refine r_aload_n g dX1_init_5 rfl ?_
  refine r_putRF g fX1_9 rfl hs_a0 rfl rfl rfl (fun _ _ _ h9 => by cases h9; rfl) dX1_init_6 ?_
  refine r_sub g (lv' := []) (trivial) ?_
  exact h
set_option maxHeartbeats 4000000 in
set_option maxRecDepth 100000 in
theorem B_X1_init_9 {d : Nat} {mc ms k n : Nat} {ro : Nat → Nat} {J : JT} {Z : Option Value → Hp → Prop} (g : xCtx RX1 cX1_init 2 d mc ms yX1_init.name ro J) (hr : xRet cX1_init none mc ms Z J) {μ : Hp}  
    (h : k ≤ mc ∧ n ≤ ms ∧ Z none μ) :
    J μ k n 9 [] [] := by
  obtain ⟨hk1, hk1_, h⟩ := h
  exact hr.1 rfl _ _ _ _ _ dX1_init_9 hk1 hk1_ h
theorem I_X1_init {d : Nat} {mc ms : Nat} {ro : Nat → Nat} {Z : Option Value → Hp → Prop} {μ : Hp} {a0 : Nat} {a1 : Nat} (h : ∀ J, xCtx RX1 cX1_init 2 d mc ms yX1_init.name ro J → xRet cX1_init none mc ms Z J → J μ 0 0 0 [(0, .ref a0), (1, .ref a1)] []) : xC d yX1_init cX1_init 2 none mc ms [.ref a0, .ref a1] μ ro Z :=
  xC_intro (own := RX1) (lv := [(0, .ref a0), (1, .ref a1)]) (by decide) rfl (Nat.le_of_ble_eq_true rfl) rfl (fun J g hr => r_sub g (lv' := [(0, .ref a0), (1, .ref a1)]) (⟨rfl, rfl, trivial⟩) (h J g hr))
theorem dX11_init_0 : decode cX11_init 0 = .ok (.aload_n 0, 1) := by decide +kernel
theorem dX11_init_1 : decode cX11_init 1 = .ok (.invokespecial 1, 3) := by decide +kernel
theorem dX11_init_4 : decode cX11_init 4 = .ok (.aload_n 0, 1) := by decide +kernel
theorem dX11_init_5 : decode cX11_init 5 = .ok (.new 7, 3) := by decide +kernel
theorem dX11_init_8 : decode cX11_init 8 = .ok (.dup, 1) := by decide +kernel
theorem dX11_init_9 : decode cX11_init 9 = .ok (.invokespecial 9, 3) := by decide +kernel
theorem dX11_init_12 : decode cX11_init 12 = .ok (.putfield 10, 3) := by decide +kernel
theorem dX11_init_15 : decode cX11_init 15 = .ok (.aload_n 0, 1) := by decide +kernel
theorem dX11_init_16 : decode cX11_init 16 = .ok (.iconst 5, 1) := by decide +kernel
theorem dX11_init_17 : decode cX11_init 17 = .ok (.anewarray 16, 3) := by decide +kernel
theorem dX11_init_20 : decode cX11_init 20 = .ok (.putfield 18, 3) := by decide +kernel
theorem dX11_init_23 : decode cX11_init 23 = .ok (.aload_n 0, 1) := by decide +kernel
theorem dX11_init_24 : decode cX11_init 24 = .ok (.new 22, 3) := by decide +kernel
theorem dX11_init_27 : decode cX11_init 27 = .ok (.dup, 1) := by decide +kernel
theorem dX11_init_28 : decode cX11_init 28 = .ok (.invokespecial 24, 3) := by decide +kernel
theorem dX11_init_31 : decode cX11_init 31 = .ok (.putfield 25, 3) := by decide +kernel
theorem dX11_init_34 : decode cX11_init 34 = .ok (.aload_n 0, 1) := by decide +kernel
theorem dX11_init_35 : decode cX11_init 35 = .ok (.new 29, 3) := by decide +kernel
theorem dX11_init_38 : decode cX11_init 38 = .ok (.dup, 1) := by decide +kernel
theorem dX11_init_39 : decode cX11_init 39 = .ok (.aload_n 0, 1) := by decide +kernel
theorem dX11_init_40 : decode cX11_init 40 = .ok (.getfield 25, 3) := by decide +kernel
theorem dX11_init_43 : decode cX11_init 43 = .ok (.invokespecial 31, 3) := by decide +kernel
theorem dX11_init_46 : decode cX11_init 46 = .ok (.putfield 34, 3) := by decide +kernel
theorem dX11_init_49 : decode cX11_init 49 = .ok (.aload_n 0, 1) := by decide +kernel
theorem dX11_init_50 : decode cX11_init 50 = .ok (.new 38, 3) := by decide +kernel
theorem dX11_init_53 : decode cX11_init 53 = .ok (.dup, 1) := by decide +kernel
theorem dX11_init_54 : decode cX11_init 54 = .ok (.invokespecial 40, 3) := by decide +kernel
theorem dX11_init_57 : decode cX11_init 57 = .ok (.putfield 41, 3) := by decide +kernel
theorem dX11_init_60 : decode cX11_init 60 = .ok (.aload_n 0, 1) := by decide +kernel
theorem dX11_init_61 : decode cX11_init 61 = .ok (.new 45, 3) := by decide +kernel
theorem dX11_init_64 : decode cX11_init 64 = .ok (.dup, 1) := by decide +kernel
theorem dX11_init_65 : decode cX11_init 65 = .ok (.invokespecial 47, 3) := by decide +kernel
theorem dX11_init_68 : decode cX11_init 68 = .ok (.putfield 48, 3) := by decide +kernel
theorem dX11_init_71 : decode cX11_init 71 = .ok (.aload_n 0, 1) := by decide +kernel
theorem dX11_init_72 : decode cX11_init 72 = .ok (.new 45, 3) := by decide +kernel
theorem dX11_init_75 : decode cX11_init 75 = .ok (.dup, 1) := by decide +kernel
theorem dX11_init_76 : decode cX11_init 76 = .ok (.invokespecial 47, 3) := by decide +kernel
theorem dX11_init_79 : decode cX11_init 79 = .ok (.putfield 52, 3) := by decide +kernel
theorem dX11_init_82 : decode cX11_init 82 = .ok (.aload_n 0, 1) := by decide +kernel
theorem dX11_init_83 : decode cX11_init 83 = .ok (.new 55, 3) := by decide +kernel
theorem dX11_init_86 : decode cX11_init 86 = .ok (.dup, 1) := by decide +kernel
theorem dX11_init_87 : decode cX11_init 87 = .ok (.invokespecial 57, 3) := by decide +kernel
theorem dX11_init_90 : decode cX11_init 90 = .ok (.putfield 58, 3) := by decide +kernel
theorem dX11_init_93 : decode cX11_init 93 = .ok (.aload_n 0, 1) := by decide +kernel
theorem dX11_init_94 : decode cX11_init 94 = .ok (.iconst 4, 1) := by decide +kernel
theorem dX11_init_95 : decode cX11_init 95 = .ok (.newarray .int, 2) := by decide +kernel
theorem dX11_init_97 : decode cX11_init 97 = .ok (.putfield 62, 3) := by decide +kernel
theorem dX11_init_100 : decode cX11_init 100 = .ok (.aload_n 0, 1) := by decide +kernel
theorem dX11_init_101 : decode cX11_init 101 = .ok (.iconst 5, 1) := by decide +kernel
theorem dX11_init_102 : decode cX11_init 102 = .ok (.newarray .int, 2) := by decide +kernel
theorem dX11_init_104 : decode cX11_init 104 = .ok (.putfield 66, 3) := by decide +kernel
theorem dX11_init_107 : decode cX11_init 107 = .ok (.aload_n 0, 1) := by decide +kernel
theorem dX11_init_108 : decode cX11_init 108 = .ok (.new 69, 3) := by decide +kernel
theorem dX11_init_111 : decode cX11_init 111 = .ok (.dup, 1) := by decide +kernel
theorem dX11_init_112 : decode cX11_init 112 = .ok (.invokespecial 71, 3) := by decide +kernel
theorem dX11_init_115 : decode cX11_init 115 = .ok (.putfield 72, 3) := by decide +kernel
theorem dX11_init_118 : decode cX11_init 118 = .ok (.aload_n 0, 1) := by decide +kernel
theorem dX11_init_119 : decode cX11_init 119 = .ok (.new 69, 3) := by decide +kernel
theorem dX11_init_122 : decode cX11_init 122 = .ok (.dup, 1) := by decide +kernel
theorem dX11_init_123 : decode cX11_init 123 = .ok (.invokespecial 71, 3) := by decide +kernel
theorem dX11_init_126 : decode cX11_init 126 = .ok (.putfield 76, 3) := by decide +kernel
theorem dX11_init_129 : decode cX11_init 129 = .ok (.aload_n 0, 1) := by decide +kernel
theorem dX11_init_130 : decode cX11_init 130 = .ok (.iconst 0, 1) := by decide +kernel
theorem dX11_init_131 : decode cX11_init 131 = .ok (.putfield 79, 3) := by decide +kernel
theorem dX11_init_134 : decode cX11_init 134 = .ok (.aload_n 0, 1) := by decide +kernel
theorem dX11_init_135 : decode cX11_init 135 = .ok (.iconst 0, 1) := by decide +kernel
theorem dX11_init_136 : decode cX11_init 136 = .ok (.putfield 83, 3) := by decide +kernel
theorem dX11_init_139 : decode cX11_init 139 = .ok (.aload_n 0, 1) := by decide +kernel
theorem dX11_init_140 : decode cX11_init 140 = .ok (.lconst 0, 1) := by decide +kernel
theorem dX11_init_141 : decode cX11_init 141 = .ok (.putfield 87, 3) := by decide +kernel
theorem dX11_init_144 : decode cX11_init 144 = .ok (.aload_n 0, 1) := by decide +kernel
theorem dX11_init_145 : decode cX11_init 145 = .ok (.new 91, 3) := by decide +kernel
theorem dX11_init_148 : decode cX11_init 148 = .ok (.dup, 1) := by decide +kernel
theorem dX11_init_149 : decode cX11_init 149 = .ok (.aload_n 0, 1) := by decide +kernel
theorem dX11_init_150 : decode cX11_init 150 = .ok (.getfield 72, 3) := by decide +kernel
theorem dX11_init_153 : decode cX11_init 153 = .ok (.invokespecial 93, 3) := by decide +kernel
theorem dX11_init_156 : decode cX11_init 156 = .ok (.putfield 96, 3) := by decide +kernel
theorem dX11_init_159 : decode cX11_init 159 = .ok (.aload_n 0, 1) := by decide +kernel
theorem dX11_init_160 : decode cX11_init 160 = .ok (.new 91, 3) := by decide +kernel
theorem dX11_init_163 : decode cX11_init 163 = .ok (.dup, 1) := by decide +kernel
theorem dX11_init_164 : decode cX11_init 164 = .ok (.aload_n 0, 1) := by decide +kernel
theorem dX11_init_165 : decode cX11_init 165 = .ok (.getfield 72, 3) := by decide +kernel
theorem dX11_init_168 : decode cX11_init 168 = .ok (.invokespecial 93, 3) := by decide +kernel
theorem dX11_init_171 : decode cX11_init 171 = .ok (.putfield 100, 3) := by decide +kernel
theorem dX11_init_174 : decode cX11_init 174 = .ok (.aload_n 0, 1) := by decide +kernel
theorem dX11_init_175 : decode cX11_init 175 = .ok (.new 91, 3) := by decide +kernel
theorem dX11_init_178 : decode cX11_init 178 = .ok (.dup, 1) := by decide +kernel
theorem dX11_init_179 : decode cX11_init 179 = .ok (.aload_n 0, 1) := by decide +kernel
theorem dX11_init_180 : decode cX11_init 180 = .ok (.getfield 72, 3) := by decide +kernel
theorem dX11_init_183 : decode cX11_init 183 = .ok (.invokespecial 93, 3) := by decide +kernel
theorem dX11_init_186 : decode cX11_init 186 = .ok (.putfield 103, 3) := by decide +kernel
theorem dX11_init_189 : decode cX11_init 189 = .ok (.iconst 0, 1) := by decide +kernel
theorem dX11_init_190 : decode cX11_init 190 = .ok (.istore_n 1, 1) := by decide +kernel
theorem dX11_init_191 : decode cX11_init 191 = .ok (.iload_n 1, 1) := by decide +kernel
theorem dX11_init_192 : decode cX11_init 192 = .ok (.aload_n 0, 1) := by decide +kernel
theorem dX11_init_193 : decode cX11_init 193 = .ok (.getfield 18, 3) := by decide +kernel
theorem dX11_init_196 : decode cX11_init 196 = .ok (.arraylength, 1) := by decide +kernel
theorem dX11_init_197 : decode cX11_init 197 = .ok (.if_icmp .ge 22, 3) := by decide +kernel
theorem dX11_init_200 : decode cX11_init 200 = .ok (.aload_n 0, 1) := by decide +kernel
theorem dX11_init_201 : decode cX11_init 201 = .ok (.getfield 18, 3) := by decide +kernel
theorem dX11_init_204 : decode cX11_init 204 = .ok (.iload_n 1, 1) := by decide +kernel
theorem dX11_init_205 : decode cX11_init 205 = .ok (.new 16, 3) := by decide +kernel
theorem dX11_init_208 : decode cX11_init 208 = .ok (.dup, 1) := by decide +kernel
theorem dX11_init_209 : decode cX11_init 209 = .ok (.invokespecial 106, 3) := by decide +kernel
theorem dX11_init_212 : decode cX11_init 212 = .ok (.aastore, 1) := by decide +kernel
theorem dX11_init_213 : decode cX11_init 213 = .ok (.iinc 1 1, 3) := by decide +kernel
theorem dX11_init_216 : decode cX11_init 216 = .ok (.goto (-25), 3) := by decide +kernel
theorem dX11_init_219 : decode cX11_init 219 = .ok (.return_, 1) := by decide +kernel
set_option maxHeartbeats 4000000 in
set_option maxRecDepth 100000 in
theorem B_X11_init_0 {d : Nat} {mc ms k n : Nat} {ro : Nat → Nat} {J : JT} {Z : Option Value → Hp → Prop} (g : xCtx RX11 cX11_init 2 d mc ms yX11_init.name ro J) (hr : xRet cX11_init none mc ms Z J) {μ : Hp} {a0 : Nat}  (hd9 : 1 ≤ d)
    (h : k + 1 ≤ mc ∧ n + 5 ≤ ms ∧ (∀ q1 : Nat, hS μ q1 = none → xCallA d mc ms (k + 1) (n + 5) yX6_init cX6_init 1 none [.ref q1] (wN μ q1 10 5) ro (fun r9 μ3 k4 n5 => r9 = none ∧ hS μ3 a0 = some (14, 18) ∧ J (wR μ3 a0 0 (some q1)) k4 n5 15 [(0, .ref a0)] []))) :
    J μ k n 0 [(0, .ref a0)] [] := by
  refine r_aload_n g dX11_init_0 rfl ?_
  refine r_objInit g oX11_1 hd9 (Nat.le_of_ble_eq_true rfl) dX11_init_1 ?_
  refine r_aload_n g dX11_init_4 rfl ?_
  obtain ⟨hk2, hk2_, h⟩ := h
  refine r_new g nX11_7 hk2 hk2_ dX11_init_5 (fun q1 hf_q1 => ?_)
  replace h := h q1 hf_q1
  have hs_q1 := hS_wN μ q1 10 5
  refine r_dup g dX11_init_8 rfl ?_
  obtain ⟨d1, mc1, ms1, Z1, hc1, hd1, hk1, hn1, h1⟩ := h
  refine r_callIN (st := [.ref q1, .ref a0]) (As := []) g sX11_9 rfl iX6_init rfl (Nat.le_of_ble_eq_true rfl) dX11_init_9 hd1 hk1 hn1 hc1 (fun r9 μ3 hZ1 => ?_)
  replace h := h1 _ _ hZ1
  clear h1 hc1 hd1 hZ1 hk1 hn1 Z1 d1
  obtain ⟨rfl, h⟩ := h
  generalize (k + 1) + mc1 = k4 at h ⊢
  generalize (n + 5) + ms1 = n5 at h ⊢
  obtain ⟨hs_a0, h⟩ := h
  refine r_putRF g fX11_10 rfl hs_a0 rfl rfl rfl (fun _ _ _ h9 => by cases h9; rfl) dX11_init_12 ?_
  refine r_sub g (lv' := [(0, .ref a0)]) (⟨rfl, trivial⟩) ?_
  exact h
set_option maxHeartbeats 4000000 in
set_option maxRecDepth 100000 in
theorem B_X11_init_15 {d : Nat} {mc ms k n : Nat} {ro : Nat → Nat} {J : JT} {Z : Option Value → Hp → Prop} (g : xCtx RX11 cX11_init 2 d mc ms yX11_init.name ro J) (hr : xRet cX11_init none mc ms Z J) {μ : Hp} {a0 : Nat} 
    (h : k + 1 ≤ mc ∧ n + 5 ≤ ms ∧ (∀ q1 : Nat, hS μ q1 = none → hS (wN μ q1 3 5) a0 = some (14, 18) ∧ J (wR (wN μ q1 3 5) a0 1 (some q1)) (k + 1) (n + 5) 23 [(0, .ref a0)] [])) :
    J μ k n 15 [(0, .ref a0)] [] := by
  refine r_aload_n g dX11_init_15 rfl ?_
  refine r_iconst g 5 dX11_init_16 (by decide) ?_
  obtain ⟨hk2, hk2_, h⟩ := h
  refine r_anew g 5 naX11_16 (by decide) (by decide) (by decide) hk2 hk2_ dX11_init_17 (fun q1 hf_q1 => ?_)
  replace h := h q1 hf_q1
  have hs_q1 := hS_wN μ q1 3 5
  obtain ⟨hs_a0, h⟩ := h
  refine r_putRF g fX11_18 rfl hs_a0 rfl rfl rfl (fun _ _ _ h9 => by cases h9; rfl) dX11_init_20 ?_
  refine r_sub g (lv' := [(0, .ref a0)]) (⟨rfl, trivial⟩) ?_
  exact h
set_option maxHeartbeats 4000000 in
set_option maxRecDepth 100000 in
theorem B_X11_init_23 {d : Nat} {mc ms k n : Nat} {ro : Nat → Nat} {J : JT} {Z : Option Value → Hp → Prop} (g : xCtx RX11 cX11_init 2 d mc ms yX11_init.name ro J) (hr : xRet cX11_init none mc ms Z J) {μ : Hp} {a0 : Nat} 
    (h : k + 1 ≤ mc ∧ n + 9 ≤ ms ∧ (∀ q1 : Nat, hS μ q1 = none → xCallA d mc ms (k + 1) (n + 9) yX3_init cX3_init 1 none [.ref q1] (wN μ q1 7 9) ro (fun r9 μ3 k4 n5 => r9 = none ∧ hS μ3 a0 = some (14, 18) ∧ J (wR μ3 a0 2 (some q1)) k4 n5 34 [(0, .ref a0)] []))) :
    J μ k n 23 [(0, .ref a0)] [] := by
  refine r_aload_n g dX11_init_23 rfl ?_
  obtain ⟨hk2, hk2_, h⟩ := h
  refine r_new g nX11_22 hk2 hk2_ dX11_init_24 (fun q1 hf_q1 => ?_)
  replace h := h q1 hf_q1
  have hs_q1 := hS_wN μ q1 7 9
  refine r_dup g dX11_init_27 rfl ?_
  obtain ⟨d1, mc1, ms1, Z1, hc1, hd1, hk1, hn1, h1⟩ := h
  refine r_callIN (st := [.ref q1, .ref a0]) (As := []) g sX11_24 rfl iX3_init rfl (Nat.le_of_ble_eq_true rfl) dX11_init_28 hd1 hk1 hn1 hc1 (fun r9 μ3 hZ1 => ?_)
  replace h := h1 _ _ hZ1
  clear h1 hc1 hd1 hZ1 hk1 hn1 Z1 d1
  obtain ⟨rfl, h⟩ := h
  generalize (k + 1) + mc1 = k4 at h ⊢
  generalize (n + 9) + ms1 = n5 at h ⊢
  obtain ⟨hs_a0, h⟩ := h
  refine r_putRF g fX11_25 rfl hs_a0 rfl rfl rfl (fun _ _ _ h9 => by cases h9; rfl) dX11_init_31 ?_
  refine r_sub g (lv' := [(0, .ref a0)]) (⟨rfl, trivial⟩) ?_
  exact h
set_option maxHeartbeats 4000000 in
set_option maxRecDepth 100000 in
theorem B_X11_init_34 {d : Nat} {mc ms k n : Nat} {ro : Nat → Nat} {J : JT} {Z : Option Value → Hp → Prop} (g : xCtx RX11 cX11_init 2 d mc ms yX11_init.name ro J) (hr : xRet cX11_init none mc ms Z J) {μ : Hp} {a0 : Nat} 
    (h : k + 1 ≤ mc ∧ n + 1 ≤ ms ∧ (∀ q1 : Nat, hS μ q1 = none → hS (wN μ q1 5 1) a0 = some (14, 18) ∧ ∃ finder_3 : Nat, hR (wN μ q1 5 1) a0 2 = some finder_3 ∧ xCallA d mc ms (k + 1) (n + 1) yX1_init cX1_init 2 none [.ref q1, .ref finder_3] (wN μ q1 5 1) ro (fun r9 μ4 k5 n6 => r9 = none ∧ hS μ4 a0 = some (14, 18) ∧ J (wR μ4 a0 3 (some q1)) k5 n6 49 [(0, .ref a0)] []))) :
    J μ k n 34 [(0, .ref a0)] [] := by
  refine r_aload_n g dX11_init_34 rfl ?_
  obtain ⟨hk2, hk2_, h⟩ := h
  refine r_new g nX11_29 hk2 hk2_ dX11_init_35 (fun q1 hf_q1 => ?_)
  replace h := h q1 hf_q1
  have hs_q1 := hS_wN μ q1 5 1
  refine r_dup g dX11_init_38 rfl ?_
  refine r_aload_n g dX11_init_39 rfl ?_
  obtain ⟨hs_a0, h⟩ := h
  obtain ⟨finder_3, hr_finder_3, h⟩ := h
  refine r_getR g fX11_25 rfl hs_a0 hr_finder_3 dX11_init_40 ?_
  obtain ⟨d1, mc1, ms1, Z1, hc1, hd1, hk1, hn1, h1⟩ := h
  refine r_callI (st := [.ref q1, .ref a0]) (As := [.ref finder_3]) g sX11_31 rfl iX1_init rfl (Nat.le_of_ble_eq_true rfl) dX11_init_43 hd1 hk1 hn1 hc1 (fun r9 μ4 hZ1 => ?_)
  replace h := h1 _ _ hZ1
  clear h1 hc1 hd1 hZ1 hk1 hn1 Z1 d1
  obtain ⟨rfl, h⟩ := h
  generalize (k + 1) + mc1 = k5 at h ⊢
  generalize (n + 1) + ms1 = n6 at h ⊢
  obtain ⟨hs_a0_, h⟩ := h
  refine r_putRF g fX11_34 rfl hs_a0_ rfl rfl rfl (fun _ _ _ h9 => by cases h9; rfl) dX11_init_46 ?_
  refine r_sub g (lv' := [(0, .ref a0)]) (⟨rfl, trivial⟩) ?_
  exact h
set_option maxHeartbeats 4000000 in
set_option maxRecDepth 100000 in
theorem B_X11_init_49 {d : Nat} {mc ms k n : Nat} {ro : Nat → Nat} {J : JT} {Z : Option Value → Hp → Prop} (g : xCtx RX11 cX11_init 2 d mc ms yX11_init.name ro J) (hr : xRet cX11_init none mc ms Z J) {μ : Hp} {a0 : Nat} 
    (h : k + 1 ≤ mc ∧ n + 3 ≤ ms ∧ (∀ q1 : Nat, hS μ q1 = none → xCallA d mc ms (k + 1) (n + 3) yX4_init cX4_init 1 none [.ref q1] (wN μ q1 8 3) ro (fun r9 μ3 k4 n5 => r9 = none ∧ hS μ3 a0 = some (14, 18) ∧ J (wR μ3 a0 4 (some q1)) k4 n5 60 [(0, .ref a0)] []))) :
    J μ k n 49 [(0, .ref a0)] [] := by
  refine r_aload_n g dX11_init_49 rfl ?_
  obtain ⟨hk2, hk2_, h⟩ := h
  refine r_new g nX11_38 hk2 hk2_ dX11_init_50 (fun q1 hf_q1 => ?_)
  replace h := h q1 hf_q1
  have hs_q1 := hS_wN μ q1 8 3
  refine r_dup g dX11_init_53 rfl ?_
  obtain ⟨d1, mc1, ms1, Z1, hc1, hd1, hk1, hn1, h1⟩ := h
  refine r_callIN (st := [.ref q1, .ref a0]) (As := []) g sX11_40 rfl iX4_init rfl (Nat.le_of_ble_eq_true rfl) dX11_init_54 hd1 hk1 hn1 hc1 (fun r9 μ3 hZ1 => ?_)
  replace h := h1 _ _ hZ1
  clear h1 hc1 hd1 hZ1 hk1 hn1 Z1 d1
  obtain ⟨rfl, h⟩ := h
  generalize (k + 1) + mc1 = k4 at h ⊢
  generalize (n + 3) + ms1 = n5 at h ⊢
  obtain ⟨hs_a0, h⟩ := h
  refine r_putRF g fX11_41 rfl hs_a0 rfl rfl rfl (fun _ _ _ h9 => by cases h9; rfl) dX11_init_57 ?_
  refine r_sub g (lv' := [(0, .ref a0)]) (⟨rfl, trivial⟩) ?_
  exact h
set_option maxHeartbeats 4000000 in
set_option maxRecDepth 100000 in
theorem B_X11_init_60 {d : Nat} {mc ms k n : Nat} {ro : Nat → Nat} {J : JT} {Z : Option Value → Hp → Prop} (g : xCtx RX11 cX11_init 2 d mc ms yX11_init.name ro J) (hr : xRet cX11_init none mc ms Z J) {μ : Hp} {a0 : Nat} 
    (h : k + 1 ≤ mc ∧ n + 3 ≤ ms ∧ (∀ q1 : Nat, hS μ q1 = none → xCallA d mc ms (k + 1) (n + 3) yX5_init cX5_init 1 none [.ref q1] (wN μ q1 9 3) ro (fun r9 μ3 k4 n5 => r9 = none ∧ hS μ3 a0 = some (14, 18) ∧ J (wR μ3 a0 5 (some q1)) k4 n5 71 [(0, .ref a0)] []))) :
    J μ k n 60 [(0, .ref a0)] [] := by
  refine r_aload_n g dX11_init_60 rfl ?_
  obtain ⟨hk2, hk2_, h⟩ := h
  refine r_new g nX11_45 hk2 hk2_ dX11_init_61 (fun q1 hf_q1 => ?_)
  replace h := h q1 hf_q1
  have hs_q1 := hS_wN μ q1 9 3
  refine r_dup g dX11_init_64 rfl ?_
  obtain ⟨d1, mc1, ms1, Z1, hc1, hd1, hk1, hn1, h1⟩ := h
  refine r_callIN (st := [.ref q1, .ref a0]) (As := []) g sX11_47 rfl iX5_init rfl (Nat.le_of_ble_eq_true rfl) dX11_init_65 hd1 hk1 hn1 hc1 (fun r9 μ3 hZ1 => ?_)
  replace h := h1 _ _ hZ1
  clear h1 hc1 hd1 hZ1 hk1 hn1 Z1 d1
  obtain ⟨rfl, h⟩ := h
  generalize (k + 1) + mc1 = k4 at h ⊢
  generalize (n + 3) + ms1 = n5 at h ⊢
  obtain ⟨hs_a0, h⟩ := h
  refine r_putRF g fX11_48 rfl hs_a0 rfl rfl rfl (fun _ _ _ h9 => by cases h9; rfl) dX11_init_68 ?_
  refine r_sub g (lv' := [(0, .ref a0)]) (⟨rfl, trivial⟩) ?_
  exact h
set_option maxHeartbeats 4000000 in
set_option maxRecDepth 100000 in
theorem B_X11_init_71 {d : Nat} {mc ms k n : Nat} {ro : Nat → Nat} {J : JT} {Z : Option Value → Hp → Prop} (g : xCtx RX11 cX11_init 2 d mc ms yX11_init.name ro J) (hr : xRet cX11_init none mc ms Z J) {μ : Hp} {a0 : Nat} 
    (h : k + 1 ≤ mc ∧ n + 3 ≤ ms ∧ (∀ q1 : Nat, hS μ q1 = none → xCallA d mc ms (k + 1) (n + 3) yX5_init cX5_init 1 none [.ref q1] (wN μ q1 9 3) ro (fun r9 μ3 k4 n5 => r9 = none ∧ hS μ3 a0 = some (14, 18) ∧ J (wR μ3 a0 6 (some q1)) k4 n5 82 [(0, .ref a0)] []))) :
    J μ k n 71 [(0, .ref a0)] [] := by
  refine r_aload_n g dX11_init_71 rfl ?_
  obtain ⟨hk2, hk2_, h⟩ := h
  refine r_new g nX11_45 hk2 hk2_ dX11_init_72 (fun q1 hf_q1 => ?_)
  replace h := h q1 hf_q1
  have hs_q1 := hS_wN μ q1 9 3
  refine r_dup g dX11_init_75 rfl ?_
  obtain ⟨d1, mc1, ms1, Z1, hc1, hd1, hk1, hn1, h1⟩ := h
  refine r_callIN (st := [.ref q1, .ref a0]) (As := []) g sX11_47 rfl iX5_init rfl (Nat.le_of_ble_eq_true rfl) dX11_init_76 hd1 hk1 hn1 hc1 (fun r9 μ3 hZ1 => ?_)
  replace h := h1 _ _ hZ1
  clear h1 hc1 hd1 hZ1 hk1 hn1 Z1 d1
  obtain ⟨rfl, h⟩ := h
  generalize (k + 1) + mc1 = k4 at h ⊢
  generalize (n + 3) + ms1 = n5 at h ⊢
  obtain ⟨hs_a0, h⟩ := h
  refine r_putRF g fX11_52 rfl hs_a0 rfl rfl rfl (fun _ _ _ h9 => by cases h9; rfl) dX11_init_79 ?_
  refine r_sub g (lv' := [(0, .ref a0)]) (⟨rfl, trivial⟩) ?_
  exact h
set_option maxHeartbeats 4000000 in
set_option maxRecDepth 100000 in
theorem B_X11_init_82 {d : Nat} {mc ms k n : Nat} {ro : Nat → Nat} {J : JT} {Z : Option Value → Hp → Prop} (g : xCtx RX11 cX11_init 2 d mc ms yX11_init.name ro J) (hr : xRet cX11_init none mc ms Z J) {μ : Hp} {a0 : Nat} 
    (h : k + 1 ≤ mc ∧ n + 4 ≤ ms ∧ (∀ q1 : Nat, hS μ q1 = none → xCallA d mc ms (k + 1) (n + 4) yJ4_init_da8c8 cJ4_init_da8c8 1 none [.ref q1] (wN μ q1 4 4) ro (fun r9 μ3 k4 n5 => r9 = none ∧ hS μ3 a0 = some (14, 18) ∧ J (wR μ3 a0 7 (some q1)) k4 n5 93 [(0, .ref a0)] []))) :
    J μ k n 82 [(0, .ref a0)] [] := by
  refine r_aload_n g dX11_init_82 rfl ?_
  obtain ⟨hk2, hk2_, h⟩ := h
  refine r_new g nX11_55 hk2 hk2_ dX11_init_83 (fun q1 hf_q1 => ?_)
  replace h := h q1 hf_q1
  have hs_q1 := hS_wN μ q1 4 4
  refine r_dup g dX11_init_86 rfl ?_
  obtain ⟨d1, mc1, ms1, Z1, hc1, hd1, hk1, hn1, h1⟩ := h
  refine r_callI (st := [.ref q1, .ref a0]) (As := []) g sX11_57 rfl iJ4_init_da8c8 rfl (Nat.le_of_ble_eq_true rfl) dX11_init_87 hd1 hk1 hn1 hc1 (fun r9 μ3 hZ1 => ?_)
  replace h := h1 _ _ hZ1
  clear h1 hc1 hd1 hZ1 hk1 hn1 Z1 d1
  obtain ⟨rfl, h⟩ := h
  generalize (k + 1) + mc1 = k4 at h ⊢
  generalize (n + 4) + ms1 = n5 at h ⊢
  obtain ⟨hs_a0, h⟩ := h
  refine r_putRF g fX11_58 rfl hs_a0 rfl rfl rfl (fun _ _ _ h9 => by cases h9; rfl) dX11_init_90 ?_
  refine r_sub g (lv' := [(0, .ref a0)]) (⟨rfl, trivial⟩) ?_
  exact h
set_option maxHeartbeats 4000000 in
set_option maxRecDepth 100000 in
theorem B_X11_init_93 {d : Nat} {mc ms k n : Nat} {ro : Nat → Nat} {J : JT} {Z : Option Value → Hp → Prop} (g : xCtx RX11 cX11_init 2 d mc ms yX11_init.name ro J) (hr : xRet cX11_init none mc ms Z J) {μ : Hp} {a0 : Nat} 
    (h : k + 1 ≤ mc ∧ n + 4 ≤ ms ∧ (∀ q1 : Nat, hS μ q1 = none → hS (wN μ q1 0 4) a0 = some (14, 18) ∧ J (wR (wN μ q1 0 4) a0 8 (some q1)) (k + 1) (n + 4) 100 [(0, .ref a0)] [])) :
    J μ k n 93 [(0, .ref a0)] [] := by
  refine r_aload_n g dX11_init_93 rfl ?_
  refine r_iconst g 4 dX11_init_94 (by decide) ?_
  obtain ⟨hk2, hk2_, h⟩ := h
  refine r_newI g 4 (by decide) (by decide) (by decide) hk2 hk2_ dX11_init_95 (fun q1 hf_q1 => ?_)
  replace h := h q1 hf_q1
  have hs_q1 := hS_wN μ q1 0 4
  obtain ⟨hs_a0, h⟩ := h
  refine r_putRF g fX11_62 rfl hs_a0 rfl rfl rfl (fun _ _ _ h9 => by cases h9; rfl) dX11_init_97 ?_
  refine r_sub g (lv' := [(0, .ref a0)]) (⟨rfl, trivial⟩) ?_
  exact h
set_option maxHeartbeats 4000000 in
set_option maxRecDepth 100000 in
theorem B_X11_init_100 {d : Nat} {mc ms k n : Nat} {ro : Nat → Nat} {J : JT} {Z : Option Value → Hp → Prop} (g : xCtx RX11 cX11_init 2 d mc ms yX11_init.name ro J) (hr : xRet cX11_init none mc ms Z J) {μ : Hp} {a0 : Nat} 
    (h : k + 1 ≤ mc ∧ n + 5 ≤ ms ∧ (∀ q1 : Nat, hS μ q1 = none → hS (wN μ q1 0 5) a0 = some (14, 18) ∧ J (wR (wN μ q1 0 5) a0 9 (some q1)) (k + 1) (n + 5) 107 [(0, .ref a0)] [])) :
    J μ k n 100 [(0, .ref a0)] [] := by
  refine r_aload_n g dX11_init_100 rfl ?_
  refine r_iconst g 5 dX11_init_101 (by decide) ?_
  obtain ⟨hk2, hk2_, h⟩ := h
  refine r_newI g 5 (by decide) (by decide) (by decide) hk2 hk2_ dX11_init_102 (fun q1 hf_q1 => ?_)
  replace h := h q1 hf_q1
  have hs_q1 := hS_wN μ q1 0 5
  obtain ⟨hs_a0, h⟩ := h
  refine r_putRF g fX11_66 rfl hs_a0 rfl rfl rfl (fun _ _ _ h9 => by cases h9; rfl) dX11_init_104 ?_
  refine r_sub g (lv' := [(0, .ref a0)]) (⟨rfl, trivial⟩) ?_
  exact h
set_option maxHeartbeats 4000000 in
set_option maxRecDepth 100000 in
theorem B_X11_init_107 {d : Nat} {mc ms k n : Nat} {ro : Nat → Nat} {J : JT} {Z : Option Value → Hp → Prop} (g : xCtx RX11 cX11_init 2 d mc ms yX11_init.name ro J) (hr : xRet cX11_init none mc ms Z J) {μ : Hp} {a0 : Nat} 
    (h : k + 1 ≤ mc ∧ n + 9 ≤ ms ∧ (∀ q1 : Nat, hS μ q1 = none → xCallA d mc ms (k + 1) (n + 9) yX2_init cX2_init 1 none [.ref q1] (wN μ q1 6 9) ro (fun r9 μ3 k4 n5 => r9 = none ∧ hS μ3 a0 = some (14, 18) ∧ J (wR μ3 a0 13 (some q1)) k4 n5 118 [(0, .ref a0)] []))) :
    J μ k n 107 [(0, .ref a0)] [] := by
  refine r_aload_n g dX11_init_107 rfl ?_
  obtain ⟨hk2, hk2_, h⟩ := h
  refine r_new g nX11_69 hk2 hk2_ dX11_init_108 (fun q1 hf_q1 => ?_)
  replace h := h q1 hf_q1
  have hs_q1 := hS_wN μ q1 6 9
  refine r_dup g dX11_init_111 rfl ?_
  obtain ⟨d1, mc1, ms1, Z1, hc1, hd1, hk1, hn1, h1⟩ := h
  refine r_callIN (st := [.ref q1, .ref a0]) (As := []) g sX11_71 rfl iX2_init rfl (Nat.le_of_ble_eq_true rfl) dX11_init_112 hd1 hk1 hn1 hc1 (fun r9 μ3 hZ1 => ?_)
  replace h := h1 _ _ hZ1
  clear h1 hc1 hd1 hZ1 hk1 hn1 Z1 d1
  obtain ⟨rfl, h⟩ := h
  generalize (k + 1) + mc1 = k4 at h ⊢
  generalize (n + 9) + ms1 = n5 at h ⊢
  obtain ⟨hs_a0, h⟩ := h
  refine r_putR g fX11_72 rfl hs_a0 rfl rfl dX11_init_115 ?_
  refine r_sub g (lv' := [(0, .ref a0)]) (⟨rfl, trivial⟩) ?_
  exact h
set_option maxHeartbeats 4000000 in
set_option maxRecDepth 100000 in
theorem B_X11_init_118 {d : Nat} {mc ms k n : Nat} {ro : Nat → Nat} {J : JT} {Z : Option Value → Hp → Prop} (g : xCtx RX11 cX11_init 2 d mc ms yX11_init.name ro J) (hr : xRet cX11_init none mc ms Z J) {μ : Hp} {a0 : Nat} 
    (h : k + 1 ≤ mc ∧ n + 9 ≤ ms ∧ (∀ q1 : Nat, hS μ q1 = none → xCallA d mc ms (k + 1) (n + 9) yX2_init cX2_init 1 none [.ref q1] (wN μ q1 6 9) ro (fun r9 μ3 k4 n5 => r9 = none ∧ hS μ3 a0 = some (14, 18) ∧ J (wR μ3 a0 14 (some q1)) k4 n5 129 [(0, .ref a0)] []))) :
    J μ k n 118 [(0, .ref a0)] [] := by
  refine r_aload_n g dX11_init_118 rfl ?_
  obtain ⟨hk2, hk2_, h⟩ := h
  refine r_new g nX11_69 hk2 hk2_ dX11_init_119 (fun q1 hf_q1 => ?_)
  replace h := h q1 hf_q1
  have hs_q1 := hS_wN μ q1 6 9
  refine r_dup g dX11_init_122 rfl ?_
  obtain ⟨d1, mc1, ms1, Z1, hc1, hd1, hk1, hn1, h1⟩ := h
  refine r_callIN (st := [.ref q1, .ref a0]) (As := []) g sX11_71 rfl iX2_init rfl (Nat.le_of_ble_eq_true rfl) dX11_init_123 hd1 hk1 hn1 hc1 (fun r9 μ3 hZ1 => ?_)
  replace h := h1 _ _ hZ1
  clear h1 hc1 hd1 hZ1 hk1 hn1 Z1 d1
  obtain ⟨rfl, h⟩ := h
  generalize (k + 1) + mc1 = k4 at h ⊢
  generalize (n + 9) + ms1 = n5 at h ⊢
  obtain ⟨hs_a0, h⟩ := h
  refine r_putR g fX11_76 rfl hs_a0 rfl rfl dX11_init_126 ?_
  refine r_sub g (lv' := [(0, .ref a0)]) (⟨rfl, trivial⟩) ?_
  exact h
set_option maxHeartbeats 4000000 in
set_option maxRecDepth 100000 in
theorem B_X11_init_129 {d : Nat} {mc ms k n : Nat} {ro : Nat → Nat} {J : JT} {Z : Option Value → Hp → Prop} (g : xCtx RX11 cX11_init 2 d mc ms yX11_init.name ro J) (hr : xRet cX11_init none mc ms Z J) {μ : Hp} {a0 : Nat} (hs_a0 : hS μ a0 = some (14, 18))
    (h : J (wI μ a0 15 0) k n 134 [(0, .ref a0)] []) :
    J μ k n 129 [(0, .ref a0)] [] := by
  refine r_aload_n g dX11_init_129 rfl ?_
  refine r_iconst g 0 dX11_init_130 (by decide) ?_
  refine r_putI g fX11_79 rfl hs_a0 rfl rfl dX11_init_131 ?_
  refine r_sub g (lv' := [(0, .ref a0)]) (⟨rfl, trivial⟩) ?_
  exact h
set_option maxHeartbeats 4000000 in
set_option maxRecDepth 100000 in
theorem B_X11_init_134 {d : Nat} {mc ms k n : Nat} {ro : Nat → Nat} {J : JT} {Z : Option Value → Hp → Prop} (g : xCtx RX11 cX11_init 2 d mc ms yX11_init.name ro J) (hr : xRet cX11_init none mc ms Z J) {μ : Hp} {a0 : Nat} (hs_a0 : hS μ a0 = some (14, 18))
    (h : J (wI μ a0 16 0) k n 139 [(0, .ref a0)] []) :
    J μ k n 134 [(0, .ref a0)] [] := by
  refine r_aload_n g dX11_init_134 rfl ?_
  refine r_iconst g 0 dX11_init_135 (by decide) ?_
  refine r_putI g fX11_83 rfl hs_a0 (by decide) (by decide) dX11_init_136 ?_
  refine r_sub g (lv' := [(0, .ref a0)]) (⟨rfl, trivial⟩) ?_
  exact h
set_option maxHeartbeats 4000000 in
set_option maxRecDepth 100000 in
theorem B_X11_init_139 {d : Nat} {mc ms k n : Nat} {ro : Nat → Nat} {J : JT} {Z : Option Value → Hp → Prop} (g : xCtx RX11 cX11_init 2 d mc ms yX11_init.name ro J) (hr : xRet cX11_init none mc ms Z J) {μ : Hp} {a0 : Nat} (hs_a0 : hS μ a0 = some (14, 18))
    (h : J (wL μ a0 17 0) k n 144 [(0, .ref a0)] []) :
    J μ k n 139 [(0, .ref a0)] [] := by
  refine r_aload_n g dX11_init_139 rfl ?_
  refine r_lconst g 0 dX11_init_140 (by decide) ?_
  refine r_putL g fX11_87 rfl hs_a0 rfl rfl dX11_init_141 ?_
  refine r_sub g (lv' := [(0, .ref a0)]) (⟨rfl, trivial⟩) ?_
  exact h
set_option maxHeartbeats 4000000 in
set_option maxRecDepth 100000 in
theorem B_X11_init_144 {d : Nat} {mc ms k n : Nat} {ro : Nat → Nat} {J : JT} {Z : Option Value → Hp → Prop} (g : xCtx RX11 cX11_init 2 d mc ms yX11_init.name ro J) (hr : xRet cX11_init none mc ms Z J) {μ : Hp} {a0 : Nat} 
    (h : k + 1 ≤ mc ∧ n + 4 ≤ ms ∧ (∀ q1 : Nat, hS μ q1 = none → hS (wN μ q1 12 4) a0 = some (14, 18) ∧ ∃ book_3 : Nat, hR (wN μ q1 12 4) a0 13 = some book_3 ∧ xCallA d mc ms (k + 1) (n + 4) yX8_init cX8_init 2 none [.ref q1, .ref book_3] (wN μ q1 12 4) ro (fun r9 μ4 k5 n6 => r9 = none ∧ hS μ4 a0 = some (14, 18) ∧ J (wR μ4 a0 10 (some q1)) k5 n6 159 [(0, .ref a0)] []))) :
    J μ k n 144 [(0, .ref a0)] [] := by
  refine r_aload_n g dX11_init_144 rfl ?_
  obtain ⟨hk2, hk2_, h⟩ := h
  refine r_new g nX11_91 hk2 hk2_ dX11_init_145 (fun q1 hf_q1 => ?_)
  replace h := h q1 hf_q1
  have hs_q1 := hS_wN μ q1 12 4
  refine r_dup g dX11_init_148 rfl ?_
  refine r_aload_n g dX11_init_149 rfl ?_
  obtain ⟨hs_a0, h⟩ := h
  obtain ⟨book_3, hr_book_3, h⟩ := h
  refine r_getR g fX11_72 rfl hs_a0 hr_book_3 dX11_init_150 ?_
  obtain ⟨d1, mc1, ms1, Z1, hc1, hd1, hk1, hn1, h1⟩ := h
  refine r_callI (st := [.ref q1, .ref a0]) (As := [.ref book_3]) g sX11_93 rfl iX8_init rfl (Nat.le_of_ble_eq_true rfl) dX11_init_153 hd1 hk1 hn1 hc1 (fun r9 μ4 hZ1 => ?_)
  replace h := h1 _ _ hZ1
  clear h1 hc1 hd1 hZ1 hk1 hn1 Z1 d1
  obtain ⟨rfl, h⟩ := h
  generalize (k + 1) + mc1 = k5 at h ⊢
  generalize (n + 4) + ms1 = n6 at h ⊢
  obtain ⟨hs_a0_, h⟩ := h
  refine r_putRF g fX11_96 rfl hs_a0_ rfl rfl rfl (fun _ _ _ h9 => by cases h9; rfl) dX11_init_156 ?_
  refine r_sub g (lv' := [(0, .ref a0)]) (⟨rfl, trivial⟩) ?_
  exact h
set_option maxHeartbeats 4000000 in
set_option maxRecDepth 100000 in
theorem B_X11_init_159 {d : Nat} {mc ms k n : Nat} {ro : Nat → Nat} {J : JT} {Z : Option Value → Hp → Prop} (g : xCtx RX11 cX11_init 2 d mc ms yX11_init.name ro J) (hr : xRet cX11_init none mc ms Z J) {μ : Hp} {a0 : Nat} 
    (h : k + 1 ≤ mc ∧ n + 4 ≤ ms ∧ (∀ q1 : Nat, hS μ q1 = none → hS (wN μ q1 12 4) a0 = some (14, 18) ∧ ∃ book_3 : Nat, hR (wN μ q1 12 4) a0 13 = some book_3 ∧ xCallA d mc ms (k + 1) (n + 4) yX8_init cX8_init 2 none [.ref q1, .ref book_3] (wN μ q1 12 4) ro (fun r9 μ4 k5 n6 => r9 = none ∧ hS μ4 a0 = some (14, 18) ∧ J (wR μ4 a0 11 (some q1)) k5 n6 174 [(0, .ref a0)] []))) :
    J μ k n 159 [(0, .ref a0)] [] := by
  refine r_aload_n g dX11_init_159 rfl ?_
  obtain ⟨hk2, hk2_, h⟩ := h
  refine r_new g nX11_91 hk2 hk2_ dX11_init_160 (fun q1 hf_q1 => ?_)
  replace h := h q1 hf_q1
  have hs_q1 := hS_wN μ q1 12 4
  refine r_dup g dX11_init_163 rfl ?_
  refine r_aload_n g dX11_init_164 rfl ?_
  obtain ⟨hs_a0, h⟩ := h
  obtain ⟨book_3, hr_book_3, h⟩ := h
  refine r_getR g fX11_72 rfl hs_a0 hr_book_3 dX11_init_165 ?_
  obtain ⟨d1, mc1, ms1, Z1, hc1, hd1, hk1, hn1, h1⟩ := h
  refine r_callI (st := [.ref q1, .ref a0]) (As := [.ref book_3]) g sX11_93 rfl iX8_init rfl (Nat.le_of_ble_eq_true rfl) dX11_init_168 hd1 hk1 hn1 hc1 (fun r9 μ4 hZ1 => ?_)
  replace h := h1 _ _ hZ1
  clear h1 hc1 hd1 hZ1 hk1 hn1 Z1 d1
  obtain ⟨rfl, h⟩ := h
  generalize (k + 1) + mc1 = k5 at h ⊢
  generalize (n + 4) + ms1 = n6 at h ⊢
  obtain ⟨hs_a0_, h⟩ := h
  refine r_putRF g fX11_100 rfl hs_a0_ rfl rfl rfl (fun _ _ _ h9 => by cases h9; rfl) dX11_init_171 ?_
  refine r_sub g (lv' := [(0, .ref a0)]) (⟨rfl, trivial⟩) ?_
  exact h
set_option maxHeartbeats 4000000 in
set_option maxRecDepth 100000 in
theorem B_X11_init_174 {d : Nat} {mc ms k n : Nat} {ro : Nat → Nat} {J : JT} {Z : Option Value → Hp → Prop} (g : xCtx RX11 cX11_init 2 d mc ms yX11_init.name ro J) (hr : xRet cX11_init none mc ms Z J) {μ : Hp} {a0 : Nat} 
    (h : k + 1 ≤ mc ∧ n + 4 ≤ ms ∧ (∀ q1 : Nat, hS μ q1 = none → hS (wN μ q1 12 4) a0 = some (14, 18) ∧ ∃ book_3 : Nat, hR (wN μ q1 12 4) a0 13 = some book_3 ∧ xCallA d mc ms (k + 1) (n + 4) yX8_init cX8_init 2 none [.ref q1, .ref book_3] (wN μ q1 12 4) ro (fun r9 μ4 k5 n6 => r9 = none ∧ hS μ4 a0 = some (14, 18) ∧ J (wR μ4 a0 12 (some q1)) k5 n6 189 [(0, .ref a0)] []))) :
    J μ k n 174 [(0, .ref a0)] [] := by
  refine r_aload_n g dX11_init_174 rfl ?_
  obtain ⟨hk2, hk2_, h⟩ := h
  refine r_new g nX11_91 hk2 hk2_ dX11_init_175 (fun q1 hf_q1 => ?_)
  replace h := h q1 hf_q1
  have hs_q1 := hS_wN μ q1 12 4
  refine r_dup g dX11_init_178 rfl ?_
  refine r_aload_n g dX11_init_179 rfl ?_
  obtain ⟨hs_a0, h⟩ := h
  obtain ⟨book_3, hr_book_3, h⟩ := h
  refine r_getR g fX11_72 rfl hs_a0 hr_book_3 dX11_init_180 ?_
  obtain ⟨d1, mc1, ms1, Z1, hc1, hd1, hk1, hn1, h1⟩ := h
  refine r_callI (st := [.ref q1, .ref a0]) (As := [.ref book_3]) g sX11_93 rfl iX8_init rfl (Nat.le_of_ble_eq_true rfl) dX11_init_183 hd1 hk1 hn1 hc1 (fun r9 μ4 hZ1 => ?_)
  replace h := h1 _ _ hZ1
  clear h1 hc1 hd1 hZ1 hk1 hn1 Z1 d1
  obtain ⟨rfl, h⟩ := h
  generalize (k + 1) + mc1 = k5 at h ⊢
  generalize (n + 4) + ms1 = n6 at h ⊢
  obtain ⟨hs_a0_, h⟩ := h
  refine r_putRF g fX11_103 rfl hs_a0_ rfl rfl rfl (fun _ _ _ h9 => by cases h9; rfl) dX11_init_186 ?_
  refine r_sub g (lv' := [(0, .ref a0)]) (⟨rfl, trivial⟩) ?_
  exact h
set_option maxHeartbeats 4000000 in
set_option maxRecDepth 100000 in
theorem B_X11_init_189 {d : Nat} {mc ms k n : Nat} {ro : Nat → Nat} {J : JT} {Z : Option Value → Hp → Prop} (g : xCtx RX11 cX11_init 2 d mc ms yX11_init.name ro J) (hr : xRet cX11_init none mc ms Z J) {μ : Hp} {a0 : Nat} 
    (h : J μ k n 191 [(0, .ref a0), (1, .int 0)] []) :
    J μ k n 189 [(0, .ref a0)] [] := by
  refine r_iconst g 0 dX11_init_189 (by decide) ?_
  refine r_istore_n g [(1, .int 0), (0, .ref a0)] dX11_init_190 (by decide) rfl ?_
  refine r_sub g (lv' := [(0, .ref a0), (1, .int 0)]) (⟨rfl, rfl, trivial⟩) ?_
  exact h
set_option maxHeartbeats 4000000 in
set_option maxRecDepth 100000 in
theorem B_X11_init_191 {d : Nat} {mc ms k n : Nat} {ro : Nat → Nat} {J : JT} {Z : Option Value → Hp → Prop} (g : xCtx RX11 cX11_init 2 d mc ms yX11_init.name ro J) (hr : xRet cX11_init none mc ms Z J) {μ : Hp} {a0 : Nat} {x1 : Int32} {a0_scripts : Nat} {N_a0_scripts : Nat} (hs_a0 : hS μ a0 = some (14, 18)) (hr_a0_scripts : hR μ a0 1 = some a0_scripts) (hs_a0_scripts : hS μ a0_scripts = some (0, N_a0_scripts))
    (h : (((Int32.ofNat N_a0_scripts) ≤ x1 → k ≤ mc ∧ n ≤ ms ∧ Z none μ) ∧ (¬ (Int32.ofNat N_a0_scripts) ≤ x1 → k + 1 ≤ mc ∧ n + 2 ≤ ms ∧ (∀ q3 : Nat, hS μ q3 = none → xCallA d mc ms (k + 1) (n + 2) yX7_init cX7_init 1 none [.ref q3] (wN μ q3 11 2) ro (fun r9 μ5 k6 n7 => r9 = none ∧ ∃ N8 : Nat, hS μ5 a0_scripts = some (3, N8) ∧ hS μ5 q3 = some (11, 2) ∧ vp_in x1 N8 ∧ J (wR μ5 a0_scripts x1.toNatClampNeg (some q3)) k6 n7 191 [(0, .ref a0), (1, .int (x1 + 1))] []))))) :
    J μ k n 191 [(0, .ref a0), (1, .int x1)] [] := by
  refine r_iload_n g dX11_init_191 rfl ?_
  refine r_aload_n g dX11_init_192 rfl ?_
  refine r_getR g fX11_18 rfl hs_a0 hr_a0_scripts dX11_init_193 ?_
  refine r_alenI g hs_a0_scripts dX11_init_196 ?_
  refine r_icmp_ge g 219 dX11_init_197 (by decide) (fun c1 => ?_) (fun c1 => ?_)
  · replace h := h.1 c1
    obtain ⟨hk2, hk2_, h⟩ := h
    exact hr.1 rfl _ _ _ _ _ dX11_init_219 hk2 hk2_ h
  · replace h := h.2 c1
    refine r_aload_n g dX11_init_200 rfl ?_
    refine r_getR g fX11_18 rfl hs_a0 hr_a0_scripts dX11_init_201 ?_
    refine r_iload_n g dX11_init_204 rfl ?_
    obtain ⟨hk4, hk4_, h⟩ := h
    refine r_new g nX11_16 hk4 hk4_ dX11_init_205 (fun q3 hf_q3 => ?_)
    replace h := h q3 hf_q3
    have hs_a0_q3 := hS_wN_o (kd := 11) (n := 2) hs_a0 hf_q3
    have hs_a0_scripts_q3 := hS_wN_o (kd := 11) (n := 2) hs_a0_scripts hf_q3
    have hr_a0_scripts_q3 := hR_wN_o (kd := 11) (n := 2) hs_a0 hf_q3 hr_a0_scripts
    have hs_q3 := hS_wN μ q3 11 2
    refine r_dup g dX11_init_208 rfl ?_
    obtain ⟨d1, mc1, ms1, Z1, hc1, hd1, hk1, hn1, h1⟩ := h
    refine r_callIN (st := [.ref q3, .int x1, .ref a0_scripts]) (As := []) g sX11_106 rfl iX7_init rfl (Nat.le_of_ble_eq_true rfl) dX11_init_209 hd1 hk1 hn1 hc1 (fun r9 μ5 hZ1 => ?_)
    replace h := h1 _ _ hZ1
    clear h1 hc1 hd1 hZ1 hk1 hn1 Z1 d1
    obtain ⟨rfl, h⟩ := h
    generalize (k + 1) + mc1 = k6 at h ⊢
    generalize (n + 2) + ms1 = n7 at h ⊢
    obtain ⟨N8, hs_a0_scripts_, h⟩ := h
    obtain ⟨hs_q3, h⟩ := h
    obtain ⟨hi9, h⟩ := h
    refine r_aastore g hs_a0_scripts_ hi9 hs_q3 dX11_init_212 ?_
    refine r_iinc g (x1 + 1) [(1, .int (x1 + 1)), (0, .ref a0)] dX11_init_213 rfl rfl (by decide) rfl ?_
    refine r_goto g 191 dX11_init_216 (by decide) ?_
    refine r_sub g (lv' := [(0, .ref a0), (1, .int (x1 + 1))]) (⟨rfl, rfl, trivial⟩) ?_
    exact h
theorem I_X11_init {d : Nat} {mc ms : Nat} {ro : Nat → Nat} {Z : Option Value → Hp → Prop} {μ : Hp} {a0 : Nat} (h : ∀ J, xCtx RX11 cX11_init 2 d mc ms yX11_init.name ro J → xRet cX11_init none mc ms Z J → J μ 0 0 0 [(0, .ref a0)] []) : xC d yX11_init cX11_init 2 none mc ms [.ref a0] μ ro Z :=
  xC_intro (own := RX11) (lv := [(0, .ref a0)]) (by decide) rfl (Nat.le_of_ble_eq_true rfl) rfl (fun J g hr => r_sub g (lv' := [(0, .ref a0)]) (⟨rfl, trivial⟩) (h J g hr))
theorem dX12_init_0 : decode cX12_init 0 = .ok (.aload_n 0, 1) := by decide +kernel
theorem dX12_init_1 : decode cX12_init 1 = .ok (.invokespecial 3, 3) := by decide +kernel
theorem dX12_init_4 : decode cX12_init 4 = .ok (.aload_n 0, 1) := by decide +kernel
theorem dX12_init_5 : decode cX12_init 5 = .ok (.sipush 400, 3) := by decide +kernel
theorem dX12_init_8 : decode cX12_init 8 = .ok (.newarray .byte, 2) := by decide +kernel
theorem dX12_init_10 : decode cX12_init 10 = .ok (.putfield 9, 3) := by decide +kernel
theorem dX12_init_13 : decode cX12_init 13 = .ok (.aload_n 0, 1) := by decide +kernel
theorem dX12_init_14 : decode cX12_init 14 = .ok (.bipush 18, 2) := by decide +kernel
theorem dX12_init_16 : decode cX12_init 16 = .ok (.newarray .int, 2) := by decide +kernel
theorem dX12_init_18 : decode cX12_init 18 = .ok (.putfield 13, 3) := by decide +kernel
theorem dX12_init_21 : decode cX12_init 21 = .ok (.aload_n 0, 1) := by decide +kernel
theorem dX12_init_22 : decode cX12_init 22 = .ok (.bipush 18, 2) := by decide +kernel
theorem dX12_init_24 : decode cX12_init 24 = .ok (.newarray .int, 2) := by decide +kernel
theorem dX12_init_26 : decode cX12_init 26 = .ok (.putfield 17, 3) := by decide +kernel
theorem dX12_init_29 : decode cX12_init 29 = .ok (.aload_n 0, 1) := by decide +kernel
theorem dX12_init_30 : decode cX12_init 30 = .ok (.bipush 16, 2) := by decide +kernel
theorem dX12_init_32 : decode cX12_init 32 = .ok (.newarray .int, 2) := by decide +kernel
theorem dX12_init_34 : decode cX12_init 34 = .ok (.putfield 20, 3) := by decide +kernel
theorem dX12_init_37 : decode cX12_init 37 = .ok (.aload_n 0, 1) := by decide +kernel
theorem dX12_init_38 : decode cX12_init 38 = .ok (.bipush 16, 2) := by decide +kernel
theorem dX12_init_40 : decode cX12_init 40 = .ok (.newarray .int, 2) := by decide +kernel
theorem dX12_init_42 : decode cX12_init 42 = .ok (.putfield 23, 3) := by decide +kernel
theorem dX12_init_45 : decode cX12_init 45 = .ok (.aload_n 0, 1) := by decide +kernel
theorem dX12_init_46 : decode cX12_init 46 = .ok (.sipush 132, 3) := by decide +kernel
theorem dX12_init_49 : decode cX12_init 49 = .ok (.newarray .int, 2) := by decide +kernel
theorem dX12_init_51 : decode cX12_init 51 = .ok (.putfield 26, 3) := by decide +kernel
theorem dX12_init_54 : decode cX12_init 54 = .ok (.aload_n 0, 1) := by decide +kernel
theorem dX12_init_55 : decode cX12_init 55 = .ok (.sipush 132, 3) := by decide +kernel
theorem dX12_init_58 : decode cX12_init 58 = .ok (.newarray .int, 2) := by decide +kernel
theorem dX12_init_60 : decode cX12_init 60 = .ok (.putfield 29, 3) := by decide +kernel
theorem dX12_init_63 : decode cX12_init 63 = .ok (.aload_n 0, 1) := by decide +kernel
theorem dX12_init_64 : decode cX12_init 64 = .ok (.bipush 80, 2) := by decide +kernel
theorem dX12_init_66 : decode cX12_init 66 = .ok (.newarray .int, 2) := by decide +kernel
theorem dX12_init_68 : decode cX12_init 68 = .ok (.putfield 32, 3) := by decide +kernel
theorem dX12_init_71 : decode cX12_init 71 = .ok (.aload_n 0, 1) := by decide +kernel
theorem dX12_init_72 : decode cX12_init 72 = .ok (.iconst 4, 1) := by decide +kernel
theorem dX12_init_73 : decode cX12_init 73 = .ok (.newarray .int, 2) := by decide +kernel
theorem dX12_init_75 : decode cX12_init 75 = .ok (.putfield 35, 3) := by decide +kernel
theorem dX12_init_78 : decode cX12_init 78 = .ok (.aload_n 0, 1) := by decide +kernel
theorem dX12_init_79 : decode cX12_init 79 = .ok (.bipush 6, 2) := by decide +kernel
theorem dX12_init_81 : decode cX12_init 81 = .ok (.newarray .long, 2) := by decide +kernel
theorem dX12_init_83 : decode cX12_init 83 = .ok (.putfield 38, 3) := by decide +kernel
theorem dX12_init_86 : decode cX12_init 86 = .ok (.aload_n 0, 1) := by decide +kernel
theorem dX12_init_87 : decode cX12_init 87 = .ok (.bipush 6, 2) := by decide +kernel
theorem dX12_init_89 : decode cX12_init 89 = .ok (.newarray .long, 2) := by decide +kernel
theorem dX12_init_91 : decode cX12_init 91 = .ok (.putfield 42, 3) := by decide +kernel
theorem dX12_init_94 : decode cX12_init 94 = .ok (.aload_n 0, 1) := by decide +kernel
theorem dX12_init_95 : decode cX12_init 95 = .ok (.bipush 8, 2) := by decide +kernel
theorem dX12_init_97 : decode cX12_init 97 = .ok (.newarray .long, 2) := by decide +kernel
theorem dX12_init_99 : decode cX12_init 99 = .ok (.putfield 45, 3) := by decide +kernel
theorem dX12_init_102 : decode cX12_init 102 = .ok (.aload_n 0, 1) := by decide +kernel
theorem dX12_init_103 : decode cX12_init 103 = .ok (.bipush 8, 2) := by decide +kernel
theorem dX12_init_105 : decode cX12_init 105 = .ok (.newarray .long, 2) := by decide +kernel
theorem dX12_init_107 : decode cX12_init 107 = .ok (.putfield 48, 3) := by decide +kernel
theorem dX12_init_110 : decode cX12_init 110 = .ok (.aload_n 0, 1) := by decide +kernel
theorem dX12_init_111 : decode cX12_init 111 = .ok (.sipush 300, 3) := by decide +kernel
theorem dX12_init_114 : decode cX12_init 114 = .ok (.newarray .int, 2) := by decide +kernel
theorem dX12_init_116 : decode cX12_init 116 = .ok (.putfield 51, 3) := by decide +kernel
theorem dX12_init_119 : decode cX12_init 119 = .ok (.aload_n 0, 1) := by decide +kernel
theorem dX12_init_120 : decode cX12_init 120 = .ok (.iconst 5, 1) := by decide +kernel
theorem dX12_init_121 : decode cX12_init 121 = .ok (.newarray .int, 2) := by decide +kernel
theorem dX12_init_123 : decode cX12_init 123 = .ok (.putfield 54, 3) := by decide +kernel
theorem dX12_init_126 : decode cX12_init 126 = .ok (.aload_n 0, 1) := by decide +kernel
theorem dX12_init_127 : decode cX12_init 127 = .ok (.sipush 293, 3) := by decide +kernel
theorem dX12_init_130 : decode cX12_init 130 = .ok (.newarray .int, 2) := by decide +kernel
theorem dX12_init_132 : decode cX12_init 132 = .ok (.putfield 57, 3) := by decide +kernel
theorem dX12_init_135 : decode cX12_init 135 = .ok (.aload_n 0, 1) := by decide +kernel
theorem dX12_init_136 : decode cX12_init 136 = .ok (.sipush 293, 3) := by decide +kernel
theorem dX12_init_139 : decode cX12_init 139 = .ok (.newarray .int, 2) := by decide +kernel
theorem dX12_init_141 : decode cX12_init 141 = .ok (.putfield 60, 3) := by decide +kernel
theorem dX12_init_144 : decode cX12_init 144 = .ok (.aload_n 0, 1) := by decide +kernel
theorem dX12_init_145 : decode cX12_init 145 = .ok (.sipush 293, 3) := by decide +kernel
theorem dX12_init_148 : decode cX12_init 148 = .ok (.newarray .int, 2) := by decide +kernel
theorem dX12_init_150 : decode cX12_init 150 = .ok (.putfield 63, 3) := by decide +kernel
theorem dX12_init_153 : decode cX12_init 153 = .ok (.aload_n 0, 1) := by decide +kernel
theorem dX12_init_154 : decode cX12_init 154 = .ok (.sipush 11720, 3) := by decide +kernel
theorem dX12_init_157 : decode cX12_init 157 = .ok (.newarray .int, 2) := by decide +kernel
theorem dX12_init_159 : decode cX12_init 159 = .ok (.putfield 66, 3) := by decide +kernel
theorem dX12_init_162 : decode cX12_init 162 = .ok (.aload_n 0, 1) := by decide +kernel
theorem dX12_init_163 : decode cX12_init 163 = .ok (.iconst (-1), 1) := by decide +kernel
theorem dX12_init_164 : decode cX12_init 164 = .ok (.putfield 69, 3) := by decide +kernel
theorem dX12_init_167 : decode cX12_init 167 = .ok (.aload_n 0, 1) := by decide +kernel
theorem dX12_init_168 : decode cX12_init 168 = .ok (.iconst (-1), 1) := by decide +kernel
theorem dX12_init_169 : decode cX12_init 169 = .ok (.putfield 73, 3) := by decide +kernel
theorem dX12_init_172 : decode cX12_init 172 = .ok (.aload_n 0, 1) := by decide +kernel
theorem dX12_init_173 : decode cX12_init 173 = .ok (.iconst (-1), 1) := by decide +kernel
theorem dX12_init_174 : decode cX12_init 174 = .ok (.putfield 76, 3) := by decide +kernel
theorem dX12_init_177 : decode cX12_init 177 = .ok (.aload_n 0, 1) := by decide +kernel
theorem dX12_init_178 : decode cX12_init 178 = .ok (.bipush 6, 2) := by decide +kernel
theorem dX12_init_180 : decode cX12_init 180 = .ok (.newarray .int, 2) := by decide +kernel
theorem dX12_init_182 : decode cX12_init 182 = .ok (.putfield 79, 3) := by decide +kernel
theorem dX12_init_185 : decode cX12_init 185 = .ok (.aload_n 0, 1) := by decide +kernel
theorem dX12_init_186 : decode cX12_init 186 = .ok (.iconst 5, 1) := by decide +kernel
theorem dX12_init_187 : decode cX12_init 187 = .ok (.newarray .int, 2) := by decide +kernel
theorem dX12_init_189 : decode cX12_init 189 = .ok (.putfield 82, 3) := by decide +kernel
theorem dX12_init_192 : decode cX12_init 192 = .ok (.aload_n 0, 1) := by decide +kernel
theorem dX12_init_193 : decode cX12_init 193 = .ok (.iconst 5, 1) := by decide +kernel
theorem dX12_init_194 : decode cX12_init 194 = .ok (.newarray .int, 2) := by decide +kernel
theorem dX12_init_196 : decode cX12_init 196 = .ok (.putfield 85, 3) := by decide +kernel
theorem dX12_init_199 : decode cX12_init 199 = .ok (.aload_n 0, 1) := by decide +kernel
theorem dX12_init_200 : decode cX12_init 200 = .ok (.iconst 5, 1) := by decide +kernel
theorem dX12_init_201 : decode cX12_init 201 = .ok (.newarray .int, 2) := by decide +kernel
theorem dX12_init_203 : decode cX12_init 203 = .ok (.putfield 88, 3) := by decide +kernel
theorem dX12_init_206 : decode cX12_init 206 = .ok (.aload_n 0, 1) := by decide +kernel
theorem dX12_init_207 : decode cX12_init 207 = .ok (.iconst 5, 1) := by decide +kernel
theorem dX12_init_208 : decode cX12_init 208 = .ok (.newarray .int, 2) := by decide +kernel
theorem dX12_init_210 : decode cX12_init 210 = .ok (.putfield 91, 3) := by decide +kernel
theorem dX12_init_213 : decode cX12_init 213 = .ok (.aload_n 0, 1) := by decide +kernel
theorem dX12_init_214 : decode cX12_init 214 = .ok (.iconst 5, 1) := by decide +kernel
theorem dX12_init_215 : decode cX12_init 215 = .ok (.newarray .int, 2) := by decide +kernel
theorem dX12_init_217 : decode cX12_init 217 = .ok (.putfield 94, 3) := by decide +kernel
theorem dX12_init_220 : decode cX12_init 220 = .ok (.aload_n 0, 1) := by decide +kernel
theorem dX12_init_221 : decode cX12_init 221 = .ok (.iconst 5, 1) := by decide +kernel
theorem dX12_init_222 : decode cX12_init 222 = .ok (.newarray .int, 2) := by decide +kernel
theorem dX12_init_224 : decode cX12_init 224 = .ok (.putfield 97, 3) := by decide +kernel
theorem dX12_init_227 : decode cX12_init 227 = .ok (.aload_n 0, 1) := by decide +kernel
theorem dX12_init_228 : decode cX12_init 228 = .ok (.bipush 6, 2) := by decide +kernel
theorem dX12_init_230 : decode cX12_init 230 = .ok (.newarray .int, 2) := by decide +kernel
theorem dX12_init_232 : decode cX12_init 232 = .ok (.putfield 100, 3) := by decide +kernel
theorem dX12_init_235 : decode cX12_init 235 = .ok (.aload_n 0, 1) := by decide +kernel
theorem dX12_init_236 : decode cX12_init 236 = .ok (.sipush 160, 3) := by decide +kernel
theorem dX12_init_239 : decode cX12_init 239 = .ok (.newarray .byte, 2) := by decide +kernel
theorem dX12_init_241 : decode cX12_init 241 = .ok (.putfield 103, 3) := by decide +kernel
theorem dX12_init_244 : decode cX12_init 244 = .ok (.return_, 1) := by decide +kernel
set_option maxHeartbeats 4000000 in
set_option maxRecDepth 100000 in
theorem B_X12_init_0 {d : Nat} {mc ms k n : Nat} {ro : Nat → Nat} {J : JT} {Z : Option Value → Hp → Prop} (g : xCtx RX12 cX12_init 1 d mc ms yX12_init.name ro J) (hr : xRet cX12_init none mc ms Z J) {μ : Hp} {a0 : Nat}  (hd9 : 1 ≤ d)
    (h : k + 1 ≤ mc ∧ n + 400 ≤ ms ∧ (∀ q1 : Nat, hS μ q1 = none → hS (wN μ q1 1 400) a0 = some (15, 65) ∧ J (wR (wN μ q1 1 400) a0 1 (some q1)) (k + 1) (n + 400) 13 [(0, .ref a0)] [])) :
    J μ k n 0 [(0, .ref a0)] [] := by
  refine r_aload_n g dX12_init_0 rfl ?_
  refine r_objInit g oX12_3 hd9 (Nat.le_of_ble_eq_true rfl) dX12_init_1 ?_
  refine r_aload_n g dX12_init_4 rfl ?_
  refine r_sipush g 400 dX12_init_5 (by decide) ?_
  obtain ⟨hk2, hk2_, h⟩ := h
  refine r_newB g 400 (by decide) (by decide) (by decide) hk2 hk2_ dX12_init_8 (fun q1 hf_q1 => ?_)
  replace h := h q1 hf_q1
  have hs_q1 := hS_wN μ q1 1 400
  obtain ⟨hs_a0, h⟩ := h
  refine r_putRF g fX12_9 rfl hs_a0 rfl rfl rfl (fun _ _ _ h9 => by cases h9; rfl) dX12_init_10 ?_
  refine r_sub g (lv' := [(0, .ref a0)]) (⟨rfl, trivial⟩) ?_
  exact h
set_option maxHeartbeats 4000000 in
set_option maxRecDepth 100000 in
theorem B_X12_init_13 {d : Nat} {mc ms k n : Nat} {ro : Nat → Nat} {J : JT} {Z : Option Value → Hp → Prop} (g : xCtx RX12 cX12_init 1 d mc ms yX12_init.name ro J) (hr : xRet cX12_init none mc ms Z J) {μ : Hp} {a0 : Nat} 
    (h : k + 1 ≤ mc ∧ n + 18 ≤ ms ∧ (∀ q1 : Nat, hS μ q1 = none → hS (wN μ q1 0 18) a0 = some (15, 65) ∧ J (wR (wN μ q1 0 18) a0 7 (some q1)) (k + 1) (n + 18) 21 [(0, .ref a0)] [])) :
    J μ k n 13 [(0, .ref a0)] [] := by
  refine r_aload_n g dX12_init_13 rfl ?_
  refine r_bipush g 18 dX12_init_14 (by decide) ?_
  obtain ⟨hk2, hk2_, h⟩ := h
  refine r_newI g 18 (by decide) (by decide) (by decide) hk2 hk2_ dX12_init_16 (fun q1 hf_q1 => ?_)
  replace h := h q1 hf_q1
  have hs_q1 := hS_wN μ q1 0 18
  obtain ⟨hs_a0, h⟩ := h
  refine r_putRF g fX12_13 rfl hs_a0 rfl rfl rfl (fun _ _ _ h9 => by cases h9; rfl) dX12_init_18 ?_
  refine r_sub g (lv' := [(0, .ref a0)]) (⟨rfl, trivial⟩) ?_
  exact h
set_option maxHeartbeats 4000000 in
set_option maxRecDepth 100000 in
theorem B_X12_init_21 {d : Nat} {mc ms k n : Nat} {ro : Nat → Nat} {J : JT} {Z : Option Value → Hp → Prop} (g : xCtx RX12 cX12_init 1 d mc ms yX12_init.name ro J) (hr : xRet cX12_init none mc ms Z J) {μ : Hp} {a0 : Nat} 
    (h : k + 1 ≤ mc ∧ n + 18 ≤ ms ∧ (∀ q1 : Nat, hS μ q1 = none → hS (wN μ q1 0 18) a0 = some (15, 65) ∧ J (wR (wN μ q1 0 18) a0 8 (some q1)) (k + 1) (n + 18) 29 [(0, .ref a0)] [])) :
    J μ k n 21 [(0, .ref a0)] [] := by
  refine r_aload_n g dX12_init_21 rfl ?_
  refine r_bipush g 18 dX12_init_22 (by decide) ?_
  obtain ⟨hk2, hk2_, h⟩ := h
  refine r_newI g 18 (by decide) (by decide) (by decide) hk2 hk2_ dX12_init_24 (fun q1 hf_q1 => ?_)
  replace h := h q1 hf_q1
  have hs_q1 := hS_wN μ q1 0 18
  obtain ⟨hs_a0, h⟩ := h
  refine r_putRF g fX12_17 rfl hs_a0 rfl rfl rfl (fun _ _ _ h9 => by cases h9; rfl) dX12_init_26 ?_
  refine r_sub g (lv' := [(0, .ref a0)]) (⟨rfl, trivial⟩) ?_
  exact h
set_option maxHeartbeats 4000000 in
set_option maxRecDepth 100000 in
theorem B_X12_init_29 {d : Nat} {mc ms k n : Nat} {ro : Nat → Nat} {J : JT} {Z : Option Value → Hp → Prop} (g : xCtx RX12 cX12_init 1 d mc ms yX12_init.name ro J) (hr : xRet cX12_init none mc ms Z J) {μ : Hp} {a0 : Nat} 
    (h : k + 1 ≤ mc ∧ n + 16 ≤ ms ∧ (∀ q1 : Nat, hS μ q1 = none → hS (wN μ q1 0 16) a0 = some (15, 65) ∧ J (wR (wN μ q1 0 16) a0 9 (some q1)) (k + 1) (n + 16) 37 [(0, .ref a0)] [])) :
    J μ k n 29 [(0, .ref a0)] [] := by
  refine r_aload_n g dX12_init_29 rfl ?_
  refine r_bipush g 16 dX12_init_30 (by decide) ?_
  obtain ⟨hk2, hk2_, h⟩ := h
  refine r_newI g 16 (by decide) (by decide) (by decide) hk2 hk2_ dX12_init_32 (fun q1 hf_q1 => ?_)
  replace h := h q1 hf_q1
  have hs_q1 := hS_wN μ q1 0 16
  obtain ⟨hs_a0, h⟩ := h
  refine r_putRF g fX12_20 rfl hs_a0 rfl rfl rfl (fun _ _ _ h9 => by cases h9; rfl) dX12_init_34 ?_
  refine r_sub g (lv' := [(0, .ref a0)]) (⟨rfl, trivial⟩) ?_
  exact h
set_option maxHeartbeats 4000000 in
set_option maxRecDepth 100000 in
theorem B_X12_init_37 {d : Nat} {mc ms k n : Nat} {ro : Nat → Nat} {J : JT} {Z : Option Value → Hp → Prop} (g : xCtx RX12 cX12_init 1 d mc ms yX12_init.name ro J) (hr : xRet cX12_init none mc ms Z J) {μ : Hp} {a0 : Nat} 
    (h : k + 1 ≤ mc ∧ n + 16 ≤ ms ∧ (∀ q1 : Nat, hS μ q1 = none → hS (wN μ q1 0 16) a0 = some (15, 65) ∧ J (wR (wN μ q1 0 16) a0 10 (some q1)) (k + 1) (n + 16) 45 [(0, .ref a0)] [])) :
    J μ k n 37 [(0, .ref a0)] [] := by
  refine r_aload_n g dX12_init_37 rfl ?_
  refine r_bipush g 16 dX12_init_38 (by decide) ?_
  obtain ⟨hk2, hk2_, h⟩ := h
  refine r_newI g 16 (by decide) (by decide) (by decide) hk2 hk2_ dX12_init_40 (fun q1 hf_q1 => ?_)
  replace h := h q1 hf_q1
  have hs_q1 := hS_wN μ q1 0 16
  obtain ⟨hs_a0, h⟩ := h
  refine r_putRF g fX12_23 rfl hs_a0 rfl rfl rfl (fun _ _ _ h9 => by cases h9; rfl) dX12_init_42 ?_
  refine r_sub g (lv' := [(0, .ref a0)]) (⟨rfl, trivial⟩) ?_
  exact h
set_option maxHeartbeats 4000000 in
set_option maxRecDepth 100000 in
theorem B_X12_init_45 {d : Nat} {mc ms k n : Nat} {ro : Nat → Nat} {J : JT} {Z : Option Value → Hp → Prop} (g : xCtx RX12 cX12_init 1 d mc ms yX12_init.name ro J) (hr : xRet cX12_init none mc ms Z J) {μ : Hp} {a0 : Nat} 
    (h : k + 1 ≤ mc ∧ n + 132 ≤ ms ∧ (∀ q1 : Nat, hS μ q1 = none → hS (wN μ q1 0 132) a0 = some (15, 65) ∧ J (wR (wN μ q1 0 132) a0 11 (some q1)) (k + 1) (n + 132) 54 [(0, .ref a0)] [])) :
    J μ k n 45 [(0, .ref a0)] [] := by
  refine r_aload_n g dX12_init_45 rfl ?_
  refine r_sipush g 132 dX12_init_46 (by decide) ?_
  obtain ⟨hk2, hk2_, h⟩ := h
  refine r_newI g 132 (by decide) (by decide) (by decide) hk2 hk2_ dX12_init_49 (fun q1 hf_q1 => ?_)
  replace h := h q1 hf_q1
  have hs_q1 := hS_wN μ q1 0 132
  obtain ⟨hs_a0, h⟩ := h
  refine r_putRF g fX12_26 rfl hs_a0 rfl rfl rfl (fun _ _ _ h9 => by cases h9; rfl) dX12_init_51 ?_
  refine r_sub g (lv' := [(0, .ref a0)]) (⟨rfl, trivial⟩) ?_
  exact h
set_option maxHeartbeats 4000000 in
set_option maxRecDepth 100000 in
theorem B_X12_init_54 {d : Nat} {mc ms k n : Nat} {ro : Nat → Nat} {J : JT} {Z : Option Value → Hp → Prop} (g : xCtx RX12 cX12_init 1 d mc ms yX12_init.name ro J) (hr : xRet cX12_init none mc ms Z J) {μ : Hp} {a0 : Nat} 
    (h : k + 1 ≤ mc ∧ n + 132 ≤ ms ∧ (∀ q1 : Nat, hS μ q1 = none → hS (wN μ q1 0 132) a0 = some (15, 65) ∧ J (wR (wN μ q1 0 132) a0 12 (some q1)) (k + 1) (n + 132) 63 [(0, .ref a0)] [])) :
    J μ k n 54 [(0, .ref a0)] [] := by
  refine r_aload_n g dX12_init_54 rfl ?_
  refine r_sipush g 132 dX12_init_55 (by decide) ?_
  obtain ⟨hk2, hk2_, h⟩ := h
  refine r_newI g 132 (by decide) (by decide) (by decide) hk2 hk2_ dX12_init_58 (fun q1 hf_q1 => ?_)
  replace h := h q1 hf_q1
  have hs_q1 := hS_wN μ q1 0 132
  obtain ⟨hs_a0, h⟩ := h
  refine r_putRF g fX12_29 rfl hs_a0 rfl rfl rfl (fun _ _ _ h9 => by cases h9; rfl) dX12_init_60 ?_
  refine r_sub g (lv' := [(0, .ref a0)]) (⟨rfl, trivial⟩) ?_
  exact h
set_option maxHeartbeats 4000000 in
set_option maxRecDepth 100000 in
theorem B_X12_init_63 {d : Nat} {mc ms k n : Nat} {ro : Nat → Nat} {J : JT} {Z : Option Value → Hp → Prop} (g : xCtx RX12 cX12_init 1 d mc ms yX12_init.name ro J) (hr : xRet cX12_init none mc ms Z J) {μ : Hp} {a0 : Nat} 
    (h : k + 1 ≤ mc ∧ n + 80 ≤ ms ∧ (∀ q1 : Nat, hS μ q1 = none → hS (wN μ q1 0 80) a0 = some (15, 65) ∧ J (wR (wN μ q1 0 80) a0 13 (some q1)) (k + 1) (n + 80) 71 [(0, .ref a0)] [])) :
    J μ k n 63 [(0, .ref a0)] [] := by
  refine r_aload_n g dX12_init_63 rfl ?_
  refine r_bipush g 80 dX12_init_64 (by decide) ?_
  obtain ⟨hk2, hk2_, h⟩ := h
  refine r_newI g 80 (by decide) (by decide) (by decide) hk2 hk2_ dX12_init_66 (fun q1 hf_q1 => ?_)
  replace h := h q1 hf_q1
  have hs_q1 := hS_wN μ q1 0 80
  obtain ⟨hs_a0, h⟩ := h
  refine r_putRF g fX12_32 rfl hs_a0 rfl rfl rfl (fun _ _ _ h9 => by cases h9; rfl) dX12_init_68 ?_
  refine r_sub g (lv' := [(0, .ref a0)]) (⟨rfl, trivial⟩) ?_
  exact h
set_option maxHeartbeats 4000000 in
set_option maxRecDepth 100000 in
theorem B_X12_init_71 {d : Nat} {mc ms k n : Nat} {ro : Nat → Nat} {J : JT} {Z : Option Value → Hp → Prop} (g : xCtx RX12 cX12_init 1 d mc ms yX12_init.name ro J) (hr : xRet cX12_init none mc ms Z J) {μ : Hp} {a0 : Nat} 
    (h : k + 1 ≤ mc ∧ n + 4 ≤ ms ∧ (∀ q1 : Nat, hS μ q1 = none → hS (wN μ q1 0 4) a0 = some (15, 65) ∧ J (wR (wN μ q1 0 4) a0 14 (some q1)) (k + 1) (n + 4) 78 [(0, .ref a0)] [])) :
    J μ k n 71 [(0, .ref a0)] [] := by
  refine r_aload_n g dX12_init_71 rfl ?_
  refine r_iconst g 4 dX12_init_72 (by decide) ?_
  obtain ⟨hk2, hk2_, h⟩ := h
  refine r_newI g 4 (by decide) (by decide) (by decide) hk2 hk2_ dX12_init_73 (fun q1 hf_q1 => ?_)
  replace h := h q1 hf_q1
  have hs_q1 := hS_wN μ q1 0 4
  obtain ⟨hs_a0, h⟩ := h
  refine r_putRF g fX12_35 rfl hs_a0 rfl rfl rfl (fun _ _ _ h9 => by cases h9; rfl) dX12_init_75 ?_
  refine r_sub g (lv' := [(0, .ref a0)]) (⟨rfl, trivial⟩) ?_
  exact h
set_option maxHeartbeats 4000000 in
set_option maxRecDepth 100000 in
theorem B_X12_init_78 {d : Nat} {mc ms k n : Nat} {ro : Nat → Nat} {J : JT} {Z : Option Value → Hp → Prop} (g : xCtx RX12 cX12_init 1 d mc ms yX12_init.name ro J) (hr : xRet cX12_init none mc ms Z J) {μ : Hp} {a0 : Nat} 
    (h : k + 1 ≤ mc ∧ n + 6 ≤ ms ∧ (∀ q1 : Nat, hS μ q1 = none → hS (wN μ q1 2 6) a0 = some (15, 65) ∧ J (wR (wN μ q1 2 6) a0 15 (some q1)) (k + 1) (n + 6) 86 [(0, .ref a0)] [])) :
    J μ k n 78 [(0, .ref a0)] [] := by
  refine r_aload_n g dX12_init_78 rfl ?_
  refine r_bipush g 6 dX12_init_79 (by decide) ?_
  obtain ⟨hk2, hk2_, h⟩ := h
  refine r_newL g 6 (by decide) (by decide) (by decide) hk2 hk2_ dX12_init_81 (fun q1 hf_q1 => ?_)
  replace h := h q1 hf_q1
  have hs_q1 := hS_wN μ q1 2 6
  obtain ⟨hs_a0, h⟩ := h
  refine r_putRF g fX12_38 rfl hs_a0 rfl rfl rfl (fun _ _ _ h9 => by cases h9; rfl) dX12_init_83 ?_
  refine r_sub g (lv' := [(0, .ref a0)]) (⟨rfl, trivial⟩) ?_
  exact h
set_option maxHeartbeats 4000000 in
set_option maxRecDepth 100000 in
theorem B_X12_init_86 {d : Nat} {mc ms k n : Nat} {ro : Nat → Nat} {J : JT} {Z : Option Value → Hp → Prop} (g : xCtx RX12 cX12_init 1 d mc ms yX12_init.name ro J) (hr : xRet cX12_init none mc ms Z J) {μ : Hp} {a0 : Nat} 
    (h : k + 1 ≤ mc ∧ n + 6 ≤ ms ∧ (∀ q1 : Nat, hS μ q1 = none → hS (wN μ q1 2 6) a0 = some (15, 65) ∧ J (wR (wN μ q1 2 6) a0 16 (some q1)) (k + 1) (n + 6) 94 [(0, .ref a0)] [])) :
    J μ k n 86 [(0, .ref a0)] [] := by
  refine r_aload_n g dX12_init_86 rfl ?_
  refine r_bipush g 6 dX12_init_87 (by decide) ?_
  obtain ⟨hk2, hk2_, h⟩ := h
  refine r_newL g 6 (by decide) (by decide) (by decide) hk2 hk2_ dX12_init_89 (fun q1 hf_q1 => ?_)
  replace h := h q1 hf_q1
  have hs_q1 := hS_wN μ q1 2 6
  obtain ⟨hs_a0, h⟩ := h
  refine r_putRF g fX12_42 rfl hs_a0 rfl rfl rfl (fun _ _ _ h9 => by cases h9; rfl) dX12_init_91 ?_
  refine r_sub g (lv' := [(0, .ref a0)]) (⟨rfl, trivial⟩) ?_
  exact h
set_option maxHeartbeats 4000000 in
set_option maxRecDepth 100000 in
theorem B_X12_init_94 {d : Nat} {mc ms k n : Nat} {ro : Nat → Nat} {J : JT} {Z : Option Value → Hp → Prop} (g : xCtx RX12 cX12_init 1 d mc ms yX12_init.name ro J) (hr : xRet cX12_init none mc ms Z J) {μ : Hp} {a0 : Nat} 
    (h : k + 1 ≤ mc ∧ n + 8 ≤ ms ∧ (∀ q1 : Nat, hS μ q1 = none → hS (wN μ q1 2 8) a0 = some (15, 65) ∧ J (wR (wN μ q1 2 8) a0 17 (some q1)) (k + 1) (n + 8) 102 [(0, .ref a0)] [])) :
    J μ k n 94 [(0, .ref a0)] [] := by
  refine r_aload_n g dX12_init_94 rfl ?_
  refine r_bipush g 8 dX12_init_95 (by decide) ?_
  obtain ⟨hk2, hk2_, h⟩ := h
  refine r_newL g 8 (by decide) (by decide) (by decide) hk2 hk2_ dX12_init_97 (fun q1 hf_q1 => ?_)
  replace h := h q1 hf_q1
  have hs_q1 := hS_wN μ q1 2 8
  obtain ⟨hs_a0, h⟩ := h
  refine r_putRF g fX12_45 rfl hs_a0 rfl rfl rfl (fun _ _ _ h9 => by cases h9; rfl) dX12_init_99 ?_
  refine r_sub g (lv' := [(0, .ref a0)]) (⟨rfl, trivial⟩) ?_
  exact h
set_option maxHeartbeats 4000000 in
set_option maxRecDepth 100000 in
theorem B_X12_init_102 {d : Nat} {mc ms k n : Nat} {ro : Nat → Nat} {J : JT} {Z : Option Value → Hp → Prop} (g : xCtx RX12 cX12_init 1 d mc ms yX12_init.name ro J) (hr : xRet cX12_init none mc ms Z J) {μ : Hp} {a0 : Nat} 
    (h : k + 1 ≤ mc ∧ n + 8 ≤ ms ∧ (∀ q1 : Nat, hS μ q1 = none → hS (wN μ q1 2 8) a0 = some (15, 65) ∧ J (wR (wN μ q1 2 8) a0 18 (some q1)) (k + 1) (n + 8) 110 [(0, .ref a0)] [])) :
    J μ k n 102 [(0, .ref a0)] [] := by
  refine r_aload_n g dX12_init_102 rfl ?_
  refine r_bipush g 8 dX12_init_103 (by decide) ?_
  obtain ⟨hk2, hk2_, h⟩ := h
  refine r_newL g 8 (by decide) (by decide) (by decide) hk2 hk2_ dX12_init_105 (fun q1 hf_q1 => ?_)
  replace h := h q1 hf_q1
  have hs_q1 := hS_wN μ q1 2 8
  obtain ⟨hs_a0, h⟩ := h
  refine r_putRF g fX12_48 rfl hs_a0 rfl rfl rfl (fun _ _ _ h9 => by cases h9; rfl) dX12_init_107 ?_
  refine r_sub g (lv' := [(0, .ref a0)]) (⟨rfl, trivial⟩) ?_
  exact h
set_option maxHeartbeats 4000000 in
set_option maxRecDepth 100000 in
theorem B_X12_init_110 {d : Nat} {mc ms k n : Nat} {ro : Nat → Nat} {J : JT} {Z : Option Value → Hp → Prop} (g : xCtx RX12 cX12_init 1 d mc ms yX12_init.name ro J) (hr : xRet cX12_init none mc ms Z J) {μ : Hp} {a0 : Nat} 
    (h : k + 1 ≤ mc ∧ n + 300 ≤ ms ∧ (∀ q1 : Nat, hS μ q1 = none → hS (wN μ q1 0 300) a0 = some (15, 65) ∧ J (wR (wN μ q1 0 300) a0 28 (some q1)) (k + 1) (n + 300) 119 [(0, .ref a0)] [])) :
    J μ k n 110 [(0, .ref a0)] [] := by
  refine r_aload_n g dX12_init_110 rfl ?_
  refine r_sipush g 300 dX12_init_111 (by decide) ?_
  obtain ⟨hk2, hk2_, h⟩ := h
  refine r_newI g 300 (by decide) (by decide) (by decide) hk2 hk2_ dX12_init_114 (fun q1 hf_q1 => ?_)
  replace h := h q1 hf_q1
  have hs_q1 := hS_wN μ q1 0 300
  obtain ⟨hs_a0, h⟩ := h
  refine r_putRF g fX12_51 rfl hs_a0 rfl rfl rfl (fun _ _ _ h9 => by cases h9; rfl) dX12_init_116 ?_
  refine r_sub g (lv' := [(0, .ref a0)]) (⟨rfl, trivial⟩) ?_
  exact h
set_option maxHeartbeats 4000000 in
set_option maxRecDepth 100000 in
theorem B_X12_init_119 {d : Nat} {mc ms k n : Nat} {ro : Nat → Nat} {J : JT} {Z : Option Value → Hp → Prop} (g : xCtx RX12 cX12_init 1 d mc ms yX12_init.name ro J) (hr : xRet cX12_init none mc ms Z J) {μ : Hp} {a0 : Nat} 
    (h : k + 1 ≤ mc ∧ n + 5 ≤ ms ∧ (∀ q1 : Nat, hS μ q1 = none → hS (wN μ q1 0 5) a0 = some (15, 65) ∧ J (wR (wN μ q1 0 5) a0 29 (some q1)) (k + 1) (n + 5) 126 [(0, .ref a0)] [])) :
    J μ k n 119 [(0, .ref a0)] [] := by
  refine r_aload_n g dX12_init_119 rfl ?_
  refine r_iconst g 5 dX12_init_120 (by decide) ?_
  obtain ⟨hk2, hk2_, h⟩ := h
  refine r_newI g 5 (by decide) (by decide) (by decide) hk2 hk2_ dX12_init_121 (fun q1 hf_q1 => ?_)
  replace h := h q1 hf_q1
  have hs_q1 := hS_wN μ q1 0 5
  obtain ⟨hs_a0, h⟩ := h
  refine r_putRF g fX12_54 rfl hs_a0 rfl rfl rfl (fun _ _ _ h9 => by cases h9; rfl) dX12_init_123 ?_
  refine r_sub g (lv' := [(0, .ref a0)]) (⟨rfl, trivial⟩) ?_
  exact h
set_option maxHeartbeats 4000000 in
set_option maxRecDepth 100000 in
theorem B_X12_init_126 {d : Nat} {mc ms k n : Nat} {ro : Nat → Nat} {J : JT} {Z : Option Value → Hp → Prop} (g : xCtx RX12 cX12_init 1 d mc ms yX12_init.name ro J) (hr : xRet cX12_init none mc ms Z J) {μ : Hp} {a0 : Nat} 
    (h : k + 1 ≤ mc ∧ n + 293 ≤ ms ∧ (∀ q1 : Nat, hS μ q1 = none → hS (wN μ q1 0 293) a0 = some (15, 65) ∧ J (wR (wN μ q1 0 293) a0 30 (some q1)) (k + 1) (n + 293) 135 [(0, .ref a0)] [])) :
    J μ k n 126 [(0, .ref a0)] [] := by
  refine r_aload_n g dX12_init_126 rfl ?_
  refine r_sipush g 293 dX12_init_127 (by decide) ?_
  obtain ⟨hk2, hk2_, h⟩ := h
  refine r_newI g 293 (by decide) (by decide) (by decide) hk2 hk2_ dX12_init_130 (fun q1 hf_q1 => ?_)
  replace h := h q1 hf_q1
  have hs_q1 := hS_wN μ q1 0 293
  obtain ⟨hs_a0, h⟩ := h
  refine r_putRF g fX12_57 rfl hs_a0 rfl rfl rfl (fun _ _ _ h9 => by cases h9; rfl) dX12_init_132 ?_
  refine r_sub g (lv' := [(0, .ref a0)]) (⟨rfl, trivial⟩) ?_
  exact h
set_option maxHeartbeats 4000000 in
set_option maxRecDepth 100000 in
theorem B_X12_init_135 {d : Nat} {mc ms k n : Nat} {ro : Nat → Nat} {J : JT} {Z : Option Value → Hp → Prop} (g : xCtx RX12 cX12_init 1 d mc ms yX12_init.name ro J) (hr : xRet cX12_init none mc ms Z J) {μ : Hp} {a0 : Nat} 
    (h : k + 1 ≤ mc ∧ n + 293 ≤ ms ∧ (∀ q1 : Nat, hS μ q1 = none → hS (wN μ q1 0 293) a0 = some (15, 65) ∧ J (wR (wN μ q1 0 293) a0 31 (some q1)) (k + 1) (n + 293) 144 [(0, .ref a0)] [])) :
    J μ k n 135 [(0, .ref a0)] [] := by
  refine r_aload_n g dX12_init_135 rfl ?_
  refine r_sipush g 293 dX12_init_136 (by decide) ?_
  obtain ⟨hk2, hk2_, h⟩ := h
  refine r_newI g 293 (by decide) (by decide) (by decide) hk2 hk2_ dX12_init_139 (fun q1 hf_q1 => ?_)
  replace h := h q1 hf_q1
  have hs_q1 := hS_wN μ q1 0 293
  obtain ⟨hs_a0, h⟩ := h
  refine r_putRF g fX12_60 rfl hs_a0 rfl rfl rfl (fun _ _ _ h9 => by cases h9; rfl) dX12_init_141 ?_
  refine r_sub g (lv' := [(0, .ref a0)]) (⟨rfl, trivial⟩) ?_
  exact h
set_option maxHeartbeats 4000000 in
set_option maxRecDepth 100000 in
theorem B_X12_init_144 {d : Nat} {mc ms k n : Nat} {ro : Nat → Nat} {J : JT} {Z : Option Value → Hp → Prop} (g : xCtx RX12 cX12_init 1 d mc ms yX12_init.name ro J) (hr : xRet cX12_init none mc ms Z J) {μ : Hp} {a0 : Nat} 
    (h : k + 1 ≤ mc ∧ n + 293 ≤ ms ∧ (∀ q1 : Nat, hS μ q1 = none → hS (wN μ q1 0 293) a0 = some (15, 65) ∧ J (wR (wN μ q1 0 293) a0 32 (some q1)) (k + 1) (n + 293) 153 [(0, .ref a0)] [])) :
    J μ k n 144 [(0, .ref a0)] [] := by
  refine r_aload_n g dX12_init_144 rfl ?_
  refine r_sipush g 293 dX12_init_145 (by decide) ?_
  obtain ⟨hk2, hk2_, h⟩ := h
  refine r_newI g 293 (by decide) (by decide) (by decide) hk2 hk2_ dX12_init_148 (fun q1 hf_q1 => ?_)
  replace h := h q1 hf_q1
  have hs_q1 := hS_wN μ q1 0 293
  obtain ⟨hs_a0, h⟩ := h
  refine r_putRF g fX12_63 rfl hs_a0 rfl rfl rfl (fun _ _ _ h9 => by cases h9; rfl) dX12_init_150 ?_
  refine r_sub g (lv' := [(0, .ref a0)]) (⟨rfl, trivial⟩) ?_
  exact h
set_option maxHeartbeats 4000000 in
set_option maxRecDepth 100000 in
theorem B_X12_init_153 {d : Nat} {mc ms k n : Nat} {ro : Nat → Nat} {J : JT} {Z : Option Value → Hp → Prop} (g : xCtx RX12 cX12_init 1 d mc ms yX12_init.name ro J) (hr : xRet cX12_init none mc ms Z J) {μ : Hp} {a0 : Nat} 
    (h : k + 1 ≤ mc ∧ n + 11720 ≤ ms ∧ (∀ q1 : Nat, hS μ q1 = none → hS (wN μ q1 0 11720) a0 = some (15, 65) ∧ J (wR (wN μ q1 0 11720) a0 33 (some q1)) (k + 1) (n + 11720) 162 [(0, .ref a0)] [])) :
    J μ k n 153 [(0, .ref a0)] [] := by
  refine r_aload_n g dX12_init_153 rfl ?_
  refine r_sipush g 11720 dX12_init_154 (by decide) ?_
  obtain ⟨hk2, hk2_, h⟩ := h
  refine r_newI g 11720 (by decide) (by decide) (by decide) hk2 hk2_ dX12_init_157 (fun q1 hf_q1 => ?_)
  replace h := h q1 hf_q1
  have hs_q1 := hS_wN μ q1 0 11720
  obtain ⟨hs_a0, h⟩ := h
  refine r_putRF g fX12_66 rfl hs_a0 rfl rfl rfl (fun _ _ _ h9 => by cases h9; rfl) dX12_init_159 ?_
  refine r_sub g (lv' := [(0, .ref a0)]) (⟨rfl, trivial⟩) ?_
  exact h
set_option maxHeartbeats 4000000 in
set_option maxRecDepth 100000 in
theorem B_X12_init_162 {d : Nat} {mc ms k n : Nat} {ro : Nat → Nat} {J : JT} {Z : Option Value → Hp → Prop} (g : xCtx RX12 cX12_init 1 d mc ms yX12_init.name ro J) (hr : xRet cX12_init none mc ms Z J) {μ : Hp} {a0 : Nat} (hs_a0 : hS μ a0 = some (15, 65))
    (h : J (wI μ a0 38 (-1)) k n 167 [(0, .ref a0)] []) :
    J μ k n 162 [(0, .ref a0)] [] := by
  refine r_aload_n g dX12_init_162 rfl ?_
  refine r_iconst g (-1) dX12_init_163 (by decide) ?_
  refine r_putI g fX12_69 rfl hs_a0 rfl rfl dX12_init_164 ?_
  refine r_sub g (lv' := [(0, .ref a0)]) (⟨rfl, trivial⟩) ?_
  exact h
set_option maxHeartbeats 4000000 in
set_option maxRecDepth 100000 in
theorem B_X12_init_167 {d : Nat} {mc ms k n : Nat} {ro : Nat → Nat} {J : JT} {Z : Option Value → Hp → Prop} (g : xCtx RX12 cX12_init 1 d mc ms yX12_init.name ro J) (hr : xRet cX12_init none mc ms Z J) {μ : Hp} {a0 : Nat} (hs_a0 : hS μ a0 = some (15, 65))
    (h : J (wI μ a0 39 (-1)) k n 172 [(0, .ref a0)] []) :
    J μ k n 167 [(0, .ref a0)] [] := by
  refine r_aload_n g dX12_init_167 rfl ?_
  refine r_iconst g (-1) dX12_init_168 (by decide) ?_
  refine r_putI g fX12_73 rfl hs_a0 rfl rfl dX12_init_169 ?_
  refine r_sub g (lv' := [(0, .ref a0)]) (⟨rfl, trivial⟩) ?_
  exact h
set_option maxHeartbeats 4000000 in
set_option maxRecDepth 100000 in
theorem B_X12_init_172 {d : Nat} {mc ms k n : Nat} {ro : Nat → Nat} {J : JT} {Z : Option Value → Hp → Prop} (g : xCtx RX12 cX12_init 1 d mc ms yX12_init.name ro J) (hr : xRet cX12_init none mc ms Z J) {μ : Hp} {a0 : Nat} (hs_a0 : hS μ a0 = some (15, 65))
    (h : J (wI μ a0 40 (-1)) k n 177 [(0, .ref a0)] []) :
    J μ k n 172 [(0, .ref a0)] [] := by
  refine r_aload_n g dX12_init_172 rfl ?_
  refine r_iconst g (-1) dX12_init_173 (by decide) ?_
  refine r_putI g fX12_76 rfl hs_a0 rfl rfl dX12_init_174 ?_
  refine r_sub g (lv' := [(0, .ref a0)]) (⟨rfl, trivial⟩) ?_
  exact h
set_option maxHeartbeats 4000000 in
set_option maxRecDepth 100000 in
theorem B_X12_init_177 {d : Nat} {mc ms k n : Nat} {ro : Nat → Nat} {J : JT} {Z : Option Value → Hp → Prop} (g : xCtx RX12 cX12_init 1 d mc ms yX12_init.name ro J) (hr : xRet cX12_init none mc ms Z J) {μ : Hp} {a0 : Nat} 
    (h : k + 1 ≤ mc ∧ n + 6 ≤ ms ∧ (∀ q1 : Nat, hS μ q1 = none → hS (wN μ q1 0 6) a0 = some (15, 65) ∧ J (wR (wN μ q1 0 6) a0 43 (some q1)) (k + 1) (n + 6) 185 [(0, .ref a0)] [])) :
    J μ k n 177 [(0, .ref a0)] [] := by
  refine r_aload_n g dX12_init_177 rfl ?_
  refine r_bipush g 6 dX12_init_178 (by decide) ?_
  obtain ⟨hk2, hk2_, h⟩ := h
  refine r_newI g 6 (by decide) (by decide) (by decide) hk2 hk2_ dX12_init_180 (fun q1 hf_q1 => ?_)
  replace h := h q1 hf_q1
  have hs_q1 := hS_wN μ q1 0 6
  obtain ⟨hs_a0, h⟩ := h
  refine r_putRF g fX12_79 rfl hs_a0 rfl rfl rfl (fun _ _ _ h9 => by cases h9; rfl) dX12_init_182 ?_
  refine r_sub g (lv' := [(0, .ref a0)]) (⟨rfl, trivial⟩) ?_
  exact h
set_option maxHeartbeats 4000000 in
set_option maxRecDepth 100000 in
theorem B_X12_init_185 {d : Nat} {mc ms k n : Nat} {ro : Nat → Nat} {J : JT} {Z : Option Value → Hp → Prop} (g : xCtx RX12 cX12_init 1 d mc ms yX12_init.name ro J) (hr : xRet cX12_init none mc ms Z J) {μ : Hp} {a0 : Nat} 
    (h : k + 1 ≤ mc ∧ n + 5 ≤ ms ∧ (∀ q1 : Nat, hS μ q1 = none → hS (wN μ q1 0 5) a0 = some (15, 65) ∧ J (wR (wN μ q1 0 5) a0 44 (some q1)) (k + 1) (n + 5) 192 [(0, .ref a0)] [])) :
    J μ k n 185 [(0, .ref a0)] [] := by
  refine r_aload_n g dX12_init_185 rfl ?_
  refine r_iconst g 5 dX12_init_186 (by decide) ?_
  obtain ⟨hk2, hk2_, h⟩ := h
  refine r_newI g 5 (by decide) (by decide) (by decide) hk2 hk2_ dX12_init_187 (fun q1 hf_q1 => ?_)
  replace h := h q1 hf_q1
  have hs_q1 := hS_wN μ q1 0 5
  obtain ⟨hs_a0, h⟩ := h
  refine r_putRF g fX12_82 rfl hs_a0 rfl rfl rfl (fun _ _ _ h9 => by cases h9; rfl) dX12_init_189 ?_
  refine r_sub g (lv' := [(0, .ref a0)]) (⟨rfl, trivial⟩) ?_
  exact h
set_option maxHeartbeats 4000000 in
set_option maxRecDepth 100000 in
theorem B_X12_init_192 {d : Nat} {mc ms k n : Nat} {ro : Nat → Nat} {J : JT} {Z : Option Value → Hp → Prop} (g : xCtx RX12 cX12_init 1 d mc ms yX12_init.name ro J) (hr : xRet cX12_init none mc ms Z J) {μ : Hp} {a0 : Nat} 
    (h : k + 1 ≤ mc ∧ n + 5 ≤ ms ∧ (∀ q1 : Nat, hS μ q1 = none → hS (wN μ q1 0 5) a0 = some (15, 65) ∧ J (wR (wN μ q1 0 5) a0 45 (some q1)) (k + 1) (n + 5) 199 [(0, .ref a0)] [])) :
    J μ k n 192 [(0, .ref a0)] [] := by
  refine r_aload_n g dX12_init_192 rfl ?_
  refine r_iconst g 5 dX12_init_193 (by decide) ?_
  obtain ⟨hk2, hk2_, h⟩ := h
  refine r_newI g 5 (by decide) (by decide) (by decide) hk2 hk2_ dX12_init_194 (fun q1 hf_q1 => ?_)
  replace h := h q1 hf_q1
  have hs_q1 := hS_wN μ q1 0 5
  obtain ⟨hs_a0, h⟩ := h
  refine r_putRF g fX12_85 rfl hs_a0 rfl rfl rfl (fun _ _ _ h9 => by cases h9; rfl) dX12_init_196 ?_
  refine r_sub g (lv' := [(0, .ref a0)]) (⟨rfl, trivial⟩) ?_
  exact h
set_option maxHeartbeats 4000000 in
set_option maxRecDepth 100000 in
theorem B_X12_init_199 {d : Nat} {mc ms k n : Nat} {ro : Nat → Nat} {J : JT} {Z : Option Value → Hp → Prop} (g : xCtx RX12 cX12_init 1 d mc ms yX12_init.name ro J) (hr : xRet cX12_init none mc ms Z J) {μ : Hp} {a0 : Nat} 
    (h : k + 1 ≤ mc ∧ n + 5 ≤ ms ∧ (∀ q1 : Nat, hS μ q1 = none → hS (wN μ q1 0 5) a0 = some (15, 65) ∧ J (wR (wN μ q1 0 5) a0 46 (some q1)) (k + 1) (n + 5) 206 [(0, .ref a0)] [])) :
    J μ k n 199 [(0, .ref a0)] [] := by
  refine r_aload_n g dX12_init_199 rfl ?_
  refine r_iconst g 5 dX12_init_200 (by decide) ?_
  obtain ⟨hk2, hk2_, h⟩ := h
  refine r_newI g 5 (by decide) (by decide) (by decide) hk2 hk2_ dX12_init_201 (fun q1 hf_q1 => ?_)
  replace h := h q1 hf_q1
  have hs_q1 := hS_wN μ q1 0 5
  obtain ⟨hs_a0, h⟩ := h
  refine r_putRF g fX12_88 rfl hs_a0 rfl rfl rfl (fun _ _ _ h9 => by cases h9; rfl) dX12_init_203 ?_
  refine r_sub g (lv' := [(0, .ref a0)]) (⟨rfl, trivial⟩) ?_
  exact h
set_option maxHeartbeats 4000000 in
set_option maxRecDepth 100000 in
theorem B_X12_init_206 {d : Nat} {mc ms k n : Nat} {ro : Nat → Nat} {J : JT} {Z : Option Value → Hp → Prop} (g : xCtx RX12 cX12_init 1 d mc ms yX12_init.name ro J) (hr : xRet cX12_init none mc ms Z J) {μ : Hp} {a0 : Nat} 
    (h : k + 1 ≤ mc ∧ n + 5 ≤ ms ∧ (∀ q1 : Nat, hS μ q1 = none → hS (wN μ q1 0 5) a0 = some (15, 65) ∧ J (wR (wN μ q1 0 5) a0 47 (some q1)) (k + 1) (n + 5) 213 [(0, .ref a0)] [])) :
    J μ k n 206 [(0, .ref a0)] [] := by
  refine r_aload_n g dX12_init_206 rfl ?_
  refine r_iconst g 5 dX12_init_207 (by decide) ?_
  obtain ⟨hk2, hk2_, h⟩ := h
  refine r_newI g 5 (by decide) (by decide) (by decide) hk2 hk2_ dX12_init_208 (fun q1 hf_q1 => ?_)
  replace h := h q1 hf_q1
  have hs_q1 := hS_wN μ q1 0 5
  obtain ⟨hs_a0, h⟩ := h
  refine r_putRF g fX12_91 rfl hs_a0 rfl rfl rfl (fun _ _ _ h9 => by cases h9; rfl) dX12_init_210 ?_
  refine r_sub g (lv' := [(0, .ref a0)]) (⟨rfl, trivial⟩) ?_
  exact h
set_option maxHeartbeats 4000000 in
set_option maxRecDepth 100000 in
theorem B_X12_init_213 {d : Nat} {mc ms k n : Nat} {ro : Nat → Nat} {J : JT} {Z : Option Value → Hp → Prop} (g : xCtx RX12 cX12_init 1 d mc ms yX12_init.name ro J) (hr : xRet cX12_init none mc ms Z J) {μ : Hp} {a0 : Nat} 
    (h : k + 1 ≤ mc ∧ n + 5 ≤ ms ∧ (∀ q1 : Nat, hS μ q1 = none → hS (wN μ q1 0 5) a0 = some (15, 65) ∧ J (wR (wN μ q1 0 5) a0 48 (some q1)) (k + 1) (n + 5) 220 [(0, .ref a0)] [])) :
    J μ k n 213 [(0, .ref a0)] [] := by
  refine r_aload_n g dX12_init_213 rfl ?_
  refine r_iconst g 5 dX12_init_214 (by decide) ?_
  obtain ⟨hk2, hk2_, h⟩ := h
  refine r_newI g 5 (by decide) (by decide) (by decide) hk2 hk2_ dX12_init_215 (fun q1 hf_q1 => ?_)
  replace h := h q1 hf_q1
  have hs_q1 := hS_wN μ q1 0 5
  obtain ⟨hs_a0, h⟩ := h
  refine r_putRF g fX12_94 rfl hs_a0 rfl rfl rfl (fun _ _ _ h9 => by cases h9; rfl) dX12_init_217 ?_
  refine r_sub g (lv' := [(0, .ref a0)]) (⟨rfl, trivial⟩) ?_
  exact h
set_option maxHeartbeats 4000000 in
set_option maxRecDepth 100000 in
theorem B_X12_init_220 {d : Nat} {mc ms k n : Nat} {ro : Nat → Nat} {J : JT} {Z : Option Value → Hp → Prop} (g : xCtx RX12 cX12_init 1 d mc ms yX12_init.name ro J) (hr : xRet cX12_init none mc ms Z J) {μ : Hp} {a0 : Nat} 
    (h : k + 1 ≤ mc ∧ n + 5 ≤ ms ∧ (∀ q1 : Nat, hS μ q1 = none → hS (wN μ q1 0 5) a0 = some (15, 65) ∧ J (wR (wN μ q1 0 5) a0 49 (some q1)) (k + 1) (n + 5) 227 [(0, .ref a0)] [])) :
    J μ k n 220 [(0, .ref a0)] [] := by
  refine r_aload_n g dX12_init_220 rfl ?_
  refine r_iconst g 5 dX12_init_221 (by decide) ?_
  obtain ⟨hk2, hk2_, h⟩ := h
  refine r_newI g 5 (by decide) (by decide) (by decide) hk2 hk2_ dX12_init_222 (fun q1 hf_q1 => ?_)
  replace h := h q1 hf_q1
  have hs_q1 := hS_wN μ q1 0 5
  obtain ⟨hs_a0, h⟩ := h
  refine r_putRF g fX12_97 rfl hs_a0 rfl rfl rfl (fun _ _ _ h9 => by cases h9; rfl) dX12_init_224 ?_
  refine r_sub g (lv' := [(0, .ref a0)]) (⟨rfl, trivial⟩) ?_
  exact h
set_option maxHeartbeats 4000000 in
set_option maxRecDepth 100000 in
theorem B_X12_init_227 {d : Nat} {mc ms k n : Nat} {ro : Nat → Nat} {J : JT} {Z : Option Value → Hp → Prop} (g : xCtx RX12 cX12_init 1 d mc ms yX12_init.name ro J) (hr : xRet cX12_init none mc ms Z J) {μ : Hp} {a0 : Nat} 
    (h : k + 1 ≤ mc ∧ n + 6 ≤ ms ∧ (∀ q1 : Nat, hS μ q1 = none → hS (wN μ q1 0 6) a0 = some (15, 65) ∧ J (wR (wN μ q1 0 6) a0 55 (some q1)) (k + 1) (n + 6) 235 [(0, .ref a0)] [])) :
    J μ k n 227 [(0, .ref a0)] [] := by
  refine r_aload_n g dX12_init_227 rfl ?_
  refine r_bipush g 6 dX12_init_228 (by decide) ?_
  obtain ⟨hk2, hk2_, h⟩ := h
  refine r_newI g 6 (by decide) (by decide) (by decide) hk2 hk2_ dX12_init_230 (fun q1 hf_q1 => ?_)
  replace h := h q1 hf_q1
  have hs_q1 := hS_wN μ q1 0 6
  obtain ⟨hs_a0, h⟩ := h
  refine r_putRF g fX12_100 rfl hs_a0 rfl rfl rfl (fun _ _ _ h9 => by cases h9; rfl) dX12_init_232 ?_
  refine r_sub g (lv' := [(0, .ref a0)]) (⟨rfl, trivial⟩) ?_
  exact h
set_option maxHeartbeats 4000000 in
set_option maxRecDepth 100000 in
theorem B_X12_init_235 {d : Nat} {mc ms k n : Nat} {ro : Nat → Nat} {J : JT} {Z : Option Value → Hp → Prop} (g : xCtx RX12 cX12_init 1 d mc ms yX12_init.name ro J) (hr : xRet cX12_init none mc ms Z J) {μ : Hp} {a0 : Nat} 
    (h : k + 1 ≤ mc ∧ n + 160 ≤ ms ∧ (∀ q1 : Nat, hS μ q1 = none → hS (wN μ q1 1 160) a0 = some (15, 65) ∧ J (wR (wN μ q1 1 160) a0 63 (some q1)) (k + 1) (n + 160) 244 [] [])) :
    J μ k n 235 [(0, .ref a0)] [] := by
  refine r_aload_n g dX12_init_235 rfl ?_
  refine r_sipush g 160 dX12_init_236 (by decide) ?_
  obtain ⟨hk2, hk2_, h⟩ := h
  refine r_newB g 160 (by decide) (by decide) (by decide) hk2 hk2_ dX12_init_239 (fun q1 hf_q1 => ?_)
  replace h := h q1 hf_q1
  have hs_q1 := hS_wN μ q1 1 160
  obtain ⟨hs_a0, h⟩ := h
  refine r_putRF g fX12_103 rfl hs_a0 rfl rfl rfl (fun _ _ _ h9 => by cases h9; rfl) dX12_init_241 ?_
  refine r_sub g (lv' := []) (trivial) ?_
  exact h
set_option maxHeartbeats 4000000 in
set_option maxRecDepth 100000 in
theorem B_X12_init_244 {d : Nat} {mc ms k n : Nat} {ro : Nat → Nat} {J : JT} {Z : Option Value → Hp → Prop} (g : xCtx RX12 cX12_init 1 d mc ms yX12_init.name ro J) (hr : xRet cX12_init none mc ms Z J) {μ : Hp}  
    (h : k ≤ mc ∧ n ≤ ms ∧ Z none μ) :
    J μ k n 244 [] [] := by
  obtain ⟨hk1, hk1_, h⟩ := h
  exact hr.1 rfl _ _ _ _ _ dX12_init_244 hk1 hk1_ h
theorem I_X12_init {d : Nat} {mc ms : Nat} {ro : Nat → Nat} {Z : Option Value → Hp → Prop} {μ : Hp} {a0 : Nat} (h : ∀ J, xCtx RX12 cX12_init 1 d mc ms yX12_init.name ro J → xRet cX12_init none mc ms Z J → J μ 0 0 0 [(0, .ref a0)] []) : xC d yX12_init cX12_init 1 none mc ms [.ref a0] μ ro Z :=
  xC_intro (own := RX12) (lv := [(0, .ref a0)]) (by decide) rfl (Nat.le_of_ble_eq_true rfl) rfl (fun J g hr => r_sub g (lv' := [(0, .ref a0)]) (⟨rfl, trivial⟩) (h J g hr))
