/-! String constants: the JDK's own methods on them -/
theorem dJ0_length_8abf5_0 : decode cJ0_length_8abf5 0 = .ok (.aload_n 0, 1) := by decide +kernel
theorem dJ0_length_8abf5_1 : decode cJ0_length_8abf5 1 = .ok (.getfield 9, 3) := by decide +kernel
theorem dJ0_length_8abf5_4 : decode cJ0_length_8abf5 4 = .ok (.arraylength, 1) := by decide +kernel
theorem dJ0_length_8abf5_5 : decode cJ0_length_8abf5 5 = .ok (.aload_n 0, 1) := by decide +kernel
theorem dJ0_length_8abf5_6 : decode cJ0_length_8abf5 6 = .ok (.invokevirtual 335, 3) := by decide +kernel
theorem dJ0_length_8abf5_9 : decode cJ0_length_8abf5 9 = .ok (.ishr, 1) := by decide +kernel
theorem dJ0_length_8abf5_10 : decode cJ0_length_8abf5 10 = .ok (.ireturn, 1) := by decide +kernel
theorem dJ0_coder_7d493_0 : decode cJ0_coder_7d493 0 = .ok (.getstatic 38, 3) := by decide +kernel
theorem dJ0_coder_7d493_3 : decode cJ0_coder_7d493 3 = .ok (.ifCond .eq 10, 3) := by decide +kernel
theorem dJ0_coder_7d493_6 : decode cJ0_coder_7d493 6 = .ok (.aload_n 0, 1) := by decide +kernel
theorem dJ0_coder_7d493_7 : decode cJ0_coder_7d493 7 = .ok (.getfield 15, 3) := by decide +kernel
theorem dJ0_coder_7d493_10 : decode cJ0_coder_7d493 10 = .ok (.goto 4, 3) := by decide +kernel
theorem dJ0_coder_7d493_13 : decode cJ0_coder_7d493 13 = .ok (.iconst 1, 1) := by decide +kernel
theorem dJ0_coder_7d493_14 : decode cJ0_coder_7d493 14 = .ok (.ireturn, 1) := by decide +kernel
theorem dJ0_charAt_5068e_0 : decode cJ0_charAt_5068e 0 = .ok (.aload_n 0, 1) := by decide +kernel
theorem dJ0_charAt_5068e_1 : decode cJ0_charAt_5068e 1 = .ok (.invokevirtual 492, 3) := by decide +kernel
theorem dJ0_charAt_5068e_4 : decode cJ0_charAt_5068e 4 = .ok (.ifCond .eq 12, 3) := by decide +kernel
theorem dJ0_charAt_5068e_7 : decode cJ0_charAt_5068e 7 = .ok (.aload_n 0, 1) := by decide +kernel
theorem dJ0_charAt_5068e_8 : decode cJ0_charAt_5068e 8 = .ok (.getfield 9, 3) := by decide +kernel
theorem dJ0_charAt_5068e_11 : decode cJ0_charAt_5068e 11 = .ok (.iload_n 1, 1) := by decide +kernel
theorem dJ0_charAt_5068e_12 : decode cJ0_charAt_5068e 12 = .ok (.invokestatic 495, 3) := by decide +kernel
theorem dJ0_charAt_5068e_15 : decode cJ0_charAt_5068e 15 = .ok (.ireturn, 1) := by decide +kernel
theorem dJ0_charAt_5068e_16 : decode cJ0_charAt_5068e 16 = .ok (.aload_n 0, 1) := by decide +kernel
theorem dJ0_charAt_5068e_17 : decode cJ0_charAt_5068e 17 = .ok (.getfield 9, 3) := by decide +kernel
theorem dJ0_charAt_5068e_20 : decode cJ0_charAt_5068e 20 = .ok (.iload_n 1, 1) := by decide +kernel
theorem dJ0_charAt_5068e_21 : decode cJ0_charAt_5068e 21 = .ok (.invokestatic 498, 3) := by decide +kernel
theorem dJ0_charAt_5068e_24 : decode cJ0_charAt_5068e 24 = .ok (.ireturn, 1) := by decide +kernel
theorem dJ0_isLatin1_aae02_0 : decode cJ0_isLatin1_aae02 0 = .ok (.getstatic 38, 3) := by decide +kernel
theorem dJ0_isLatin1_aae02_3 : decode cJ0_isLatin1_aae02 3 = .ok (.ifCond .eq 14, 3) := by decide +kernel
theorem dJ0_isLatin1_aae02_6 : decode cJ0_isLatin1_aae02 6 = .ok (.aload_n 0, 1) := by decide +kernel
theorem dJ0_isLatin1_aae02_7 : decode cJ0_isLatin1_aae02 7 = .ok (.getfield 15, 3) := by decide +kernel
theorem dJ0_isLatin1_aae02_10 : decode cJ0_isLatin1_aae02 10 = .ok (.ifCond .ne 7, 3) := by decide +kernel
theorem dJ0_isLatin1_aae02_13 : decode cJ0_isLatin1_aae02 13 = .ok (.iconst 1, 1) := by decide +kernel
theorem dJ0_isLatin1_aae02_14 : decode cJ0_isLatin1_aae02 14 = .ok (.goto 4, 3) := by decide +kernel
theorem dJ0_isLatin1_aae02_17 : decode cJ0_isLatin1_aae02 17 = .ok (.iconst 0, 1) := by decide +kernel
theorem dJ0_isLatin1_aae02_18 : decode cJ0_isLatin1_aae02 18 = .ok (.ireturn, 1) := by decide +kernel
theorem dJ1_charAt_3b067_0 : decode cJ1_charAt_3b067 0 = .ok (.iload_n 1, 1) := by decide +kernel
theorem dJ1_charAt_3b067_1 : decode cJ1_charAt_3b067 1 = .ok (.aload_n 0, 1) := by decide +kernel
theorem dJ1_charAt_3b067_2 : decode cJ1_charAt_3b067 2 = .ok (.arraylength, 1) := by decide +kernel
theorem dJ1_charAt_3b067_3 : decode cJ1_charAt_3b067 3 = .ok (.invokestatic 9, 3) := by decide +kernel
theorem dJ1_charAt_3b067_6 : decode cJ1_charAt_3b067 6 = .ok (.aload_n 0, 1) := by decide +kernel
theorem dJ1_charAt_3b067_7 : decode cJ1_charAt_3b067 7 = .ok (.iload_n 1, 1) := by decide +kernel
theorem dJ1_charAt_3b067_8 : decode cJ1_charAt_3b067 8 = .ok (.baload, 1) := by decide +kernel
theorem dJ1_charAt_3b067_9 : decode cJ1_charAt_3b067 9 = .ok (.sipush 255, 3) := by decide +kernel
theorem dJ1_charAt_3b067_12 : decode cJ1_charAt_3b067 12 = .ok (.iand, 1) := by decide +kernel
theorem dJ1_charAt_3b067_13 : decode cJ1_charAt_3b067 13 = .ok (.i2c, 1) := by decide +kernel
theorem dJ1_charAt_3b067_14 : decode cJ1_charAt_3b067 14 = .ok (.ireturn, 1) := by decide +kernel
theorem dJ0_checkIndex_df160_0 : decode cJ0_checkIndex_df160 0 = .ok (.iload_n 0, 1) := by decide +kernel
theorem dJ0_checkIndex_df160_1 : decode cJ0_checkIndex_df160 1 = .ok (.iload_n 1, 1) := by decide +kernel
theorem dJ0_checkIndex_df160_2 : decode cJ0_checkIndex_df160 2 = .ok (.getstatic 1053, 3) := by decide +kernel
theorem dJ0_checkIndex_df160_5 : decode cJ0_checkIndex_df160 5 = .ok (.invokestatic 1059, 3) := by decide +kernel
theorem dJ0_checkIndex_df160_8 : decode cJ0_checkIndex_df160 8 = .ok (.pop, 1) := by decide +kernel
theorem dJ0_checkIndex_df160_9 : decode cJ0_checkIndex_df160 9 = .ok (.return_, 1) := by decide +kernel
theorem dJ3_checkIndex_8e157_0 : decode cJ3_checkIndex_8e157 0 = .ok (.iload_n 0, 1) := by decide +kernel
theorem dJ3_checkIndex_8e157_1 : decode cJ3_checkIndex_8e157 1 = .ok (.ifCond .lt 8, 3) := by decide +kernel
theorem dJ3_checkIndex_8e157_4 : decode cJ3_checkIndex_8e157 4 = .ok (.iload_n 0, 1) := by decide +kernel
theorem dJ3_checkIndex_8e157_5 : decode cJ3_checkIndex_8e157 5 = .ok (.iload_n 1, 1) := by decide +kernel
theorem dJ3_checkIndex_8e157_6 : decode cJ3_checkIndex_8e157 6 = .ok (.if_icmp .lt 10, 3) := by decide +kernel
theorem dJ3_checkIndex_8e157_9 : decode cJ3_checkIndex_8e157 9 = .ok (.aload_n 2, 1) := by decide +kernel
theorem dJ3_checkIndex_8e157_10 : decode cJ3_checkIndex_8e157 10 = .ok (.iload_n 0, 1) := by decide +kernel
theorem dJ3_checkIndex_8e157_11 : decode cJ3_checkIndex_8e157 11 = .ok (.iload_n 1, 1) := by decide +kernel
theorem dJ3_checkIndex_8e157_12 : decode cJ3_checkIndex_8e157 12 = .ok (.invokestatic 95, 3) := by decide +kernel
theorem dJ3_checkIndex_8e157_15 : decode cJ3_checkIndex_8e157 15 = .ok (.athrow, 1) := by decide +kernel
theorem dJ3_checkIndex_8e157_16 : decode cJ3_checkIndex_8e157 16 = .ok (.iload_n 0, 1) := by decide +kernel
theorem dJ3_checkIndex_8e157_17 : decode cJ3_checkIndex_8e157 17 = .ok (.ireturn, 1) := by decide +kernel
theorem iJ3_checkIndex_8e157 : Cond.static yJ3_checkIndex_8e157 ∈ gtbl := (tb_4 73 (by decide +kernel) rfl)
theorem sJ0_1059 : xSite RJ0 1059 yJ3_checkIndex_8e157 cJ3_checkIndex_8e157 3 (some .int) 3 := ⟨(tb_4 72 (by decide +kernel) rfl), (tb_1 21 (by decide +kernel) rfl), (tb_4 74 (by decide +kernel) rfl), by decide +kernel, by decide⟩
theorem iJ0_coder_7d493 : Cond.instanceMethod yJ0_coder_7d493 ∈ gtbl := (tb_4 104 (by decide +kernel) rfl)
theorem eJ0_coder_7d493 : Cond.selects yJ0_coder_7d493.cls yJ0_coder_7d493 yJ0_coder_7d493 ∈ gtbl := (tb_4 105 (by decide +kernel) rfl)
theorem sJ0_335 : xSite RJ0 335 yJ0_coder_7d493 cJ0_coder_7d493 1 (some .byte) 0 := ⟨(tb_4 103 (by decide +kernel) rfl), (tb_1 10 (by decide +kernel) rfl), (tb_4 106 (by decide +kernel) rfl), by decide +kernel, by decide⟩
theorem iJ0_isLatin1_aae02 : Cond.instanceMethod yJ0_isLatin1_aae02 ∈ gtbl := (tb_7 23 (by decide +kernel) rfl)
theorem eJ0_isLatin1_aae02 : Cond.selects yJ0_isLatin1_aae02.cls yJ0_isLatin1_aae02 yJ0_isLatin1_aae02 ∈ gtbl := (tb_7 24 (by decide +kernel) rfl)
theorem sJ0_492 : xSite RJ0 492 yJ0_isLatin1_aae02 cJ0_isLatin1_aae02 1 (some .boolean) 0 := ⟨(tb_7 22 (by decide +kernel) rfl), (tb_1 10 (by decide +kernel) rfl), (tb_7 25 (by decide +kernel) rfl), by decide +kernel, by decide⟩
theorem iJ1_charAt_3b067 : Cond.static yJ1_charAt_3b067 ∈ gtbl := (tb_7 27 (by decide +kernel) rfl)
theorem sJ0_495 : xSite RJ0 495 yJ1_charAt_3b067 cJ1_charAt_3b067 2 (some .char) 2 := ⟨(tb_7 26 (by decide +kernel) rfl), (tb_1 20 (by decide +kernel) rfl), (tb_7 28 (by decide +kernel) rfl), by decide +kernel, by decide⟩
theorem iJ0_checkIndex_df160 : Cond.static yJ0_checkIndex_df160 ∈ gtbl := (tb_4 70 (by decide +kernel) rfl)
theorem sJ1_9 : xSite RJ1 9 yJ0_checkIndex_df160 cJ0_checkIndex_df160 2 none 2 := ⟨(tb_7 29 (by decide +kernel) rfl), (tb_1 10 (by decide +kernel) rfl), (tb_4 71 (by decide +kernel) rfl), by decide +kernel, by decide⟩
theorem zJ0_1053 : Cond.fieldLink RJ0 1053 "jdk/internal/util/Preconditions" "SIOOBE_FORMATTER" "Ljava/util/function/BiFunction;" ∈ gtbl := (tb_4 49 (by decide +kernel) rfl)
theorem zJ0_15 : Cond.fieldLink RJ0 15 "java/lang/String" "coder" "B" ∈ gtbl := (tb_9 18 (by decide +kernel) rfl)
theorem zJ0_38 : Cond.fieldLink RJ0 38 "java/lang/String" "COMPACT_STRINGS" "Z" ∈ gtbl := (tb_4 107 (by decide +kernel) rfl)
theorem zJ0_9 : Cond.fieldLink RJ0 9 "java/lang/String" "value" "[B" ∈ gtbl := (tb_9 17 (by decide +kernel) rfl)
theorem nlV_or (n : Nat) : nlV n = .null ∨ ∃ a, nlV n = .ref a := by
  unfold nlV
  by_cases h : n = 0
  · rw [if_pos h]; exact Or.inl rfl
  · rw [if_neg h]; exact Or.inr ⟨_, rfl⟩
section strc
variable {d : Nat} {ro : Nat → Nat} {μ : Hp}
theorem c_preIdx {i n : Nat} {v : Value} (hv : v = .null ∨ ∃ a, v = .ref a) (hi : i < n) (hn : n < 2 ^ 31) : xC d yJ3_checkIndex_8e157 cJ3_checkIndex_8e157 3 (some .int) 0 0 [.int (nI i), .int (nI n), v] μ ro (fun r μ' => r = some (.int (nI i)) ∧ μ' = μ) := by
  have go : ∀ J, xCtx RJ3 cJ3_checkIndex_8e157 3 d 0 0 yJ3_checkIndex_8e157.name ro J → xRet cJ3_checkIndex_8e157 (some .int) 0 0 (fun r μ' => r = some (.int (nI i)) ∧ μ' = μ) J → J μ 0 0 0 [(0, .int (nI i)), (1, .int (nI n))] [] := fun J g hr => by
    refine r_iload_n g dJ3_checkIndex_8e157_0 rfl ?_
    refine r_if_lt g 9 dJ3_checkIndex_8e157_1 (by decide) (fun c => absurd c (nI_pos (by omega))) (fun _ => ?_)
    refine r_iload_n g dJ3_checkIndex_8e157_4 rfl ?_
    refine r_iload_n g dJ3_checkIndex_8e157_5 rfl ?_
    refine r_icmp_lt g 16 dJ3_checkIndex_8e157_6 (by decide) (fun _ => ?_) (fun c => absurd (nI_lt hi hn) c)
    refine r_iload_n g dJ3_checkIndex_8e157_16 rfl ?_
    exact hr.2.1 _ rfl _ _ _ _ _ _ dJ3_checkIndex_8e157_17 rfl (Nat.le_refl 0) (Nat.le_refl 0) ⟨rfl, rfl⟩
  rcases hv with rfl | ⟨a, rfl⟩
  · exact xC_intro (own := RJ3) (lv := [(0, .int (nI i)), (1, .int (nI n)), (2, .null)]) (by decide) rfl (Nat.le_of_ble_eq_true rfl) rfl (fun J g hr => r_sub g (lv' := [(0, .int (nI i)), (1, .int (nI n))]) (⟨rfl, rfl, trivial⟩) (go J g hr))
  · exact xC_intro (own := RJ3) (lv := [(0, .int (nI i)), (1, .int (nI n)), (2, .ref a)]) (by decide) rfl (Nat.le_of_ble_eq_true rfl) rfl (fun J g hr => r_sub g (lv' := [(0, .int (nI i)), (1, .int (nI n))]) (⟨rfl, rfl, trivial⟩) (go J g hr))
theorem c_strIdx {i n : Nat} (hd : 1 ≤ d) (hi : i < n) (hn : n < 2 ^ 31) : xC d yJ0_checkIndex_df160 cJ0_checkIndex_df160 2 none 0 0 [.int (nI i), .int (nI n)] μ ro (fun r μ' => r = none ∧ μ' = μ) :=
  xC_intro (own := RJ0) (lv := [(0, .int (nI i)), (1, .int (nI n))]) (by decide) rfl (Nat.le_of_ble_eq_true rfl) rfl (fun J g hr => by
    refine r_iload_n g dJ0_checkIndex_df160_0 rfl ?_
    refine r_iload_n g dJ0_checkIndex_df160_1 rfl ?_
    refine r_getsRO g (List.mem_of_getElem? (i := 6) rfl) zJ0_1053 dJ0_checkIndex_df160_2 ?_
    refine r_callS (d' := d - 1) (st := []) (As := [.int (nI i), .int (nI n), nlV (ro 9)]) g sJ0_1059 iJ3_checkIndex_8e157 rfl (Nat.le_of_ble_eq_true rfl) dJ0_checkIndex_df160_5 (by omega) (Nat.le_refl 0) (Nat.le_refl 0) (c_preIdx (nlV_or _) hi hn) (fun r μ' hz => ?_)
    obtain ⟨rfl, rfl⟩ := hz
    refine r_pop g dJ0_checkIndex_df160_8 rfl ?_
    exact hr.1 rfl _ _ _ _ _ dJ0_checkIndex_df160_9 (Nat.le_refl 0) (Nat.le_refl 0) ⟨rfl, rfl⟩)
theorem c_kLen (hd : 1 ≤ d) : xC d yJ0_length_8abf5 cJ0_length_8abf5 1 (some .int) 0 0 [.ref (ro 5)] μ ro (fun r μ' => r = some (.int (nI 62)) ∧ μ' = μ) :=
  xC_intro (own := RJ0) (lv := [(0, .ref (ro 5))]) (by decide) rfl (Nat.le_of_ble_eq_true rfl) rfl (fun J g hr => by
    refine r_aload_n g dJ0_length_8abf5_0 rfl ?_
    refine r_fldRO g (List.mem_of_getElem? (i := 1) rfl) zJ0_9 dJ0_length_8abf5_1 ?_
    refine r_tabLen g (List.mem_of_getElem? (i := 3) rfl) dJ0_length_8abf5_4 ?_
    refine r_aload_n g dJ0_length_8abf5_5 rfl ?_
    refine r_callVR (d' := d - 1) (st := [.int 62]) (As := []) (Z := fun r μ' => r = some (.int 0) ∧ μ' = μ) g sJ0_335 iJ0_coder_7d493 eJ0_coder_7d493 (List.mem_of_getElem? (i := 0) rfl) rfl (Nat.le_of_ble_eq_true rfl) dJ0_length_8abf5_6 (by omega) (Nat.le_refl 0) (Nat.le_refl 0) (xC_intro (own := RJ0) (lv := [(0, .ref (ro 5))]) (by decide) rfl (Nat.le_of_ble_eq_true rfl) rfl (fun J g hr => by
      refine r_getsRO g (List.mem_of_getElem? (i := 5) rfl) zJ0_38 dJ0_coder_7d493_0 ?_
      refine r_if_eq g 13 dJ0_coder_7d493_3 (by decide) (fun c => absurd c (by decide)) (fun _ => ?_)
      refine r_aload_n g dJ0_coder_7d493_6 rfl ?_
      refine r_fldRO g (List.mem_of_getElem? (i := 0) rfl) zJ0_15 dJ0_coder_7d493_7 ?_
      refine r_goto g 14 dJ0_coder_7d493_10 (by decide) ?_
      exact hr.2.1 _ rfl _ _ _ _ _ _ dJ0_coder_7d493_14 (by decide +kernel) (Nat.le_refl 0) (Nat.le_refl 0) ⟨rfl, rfl⟩)) (fun r μ' hz => ?_)
    obtain ⟨rfl, rfl⟩ := hz
    refine r_ishr g dJ0_length_8abf5_9 ?_
    exact hr.2.1 _ rfl _ _ _ _ _ _ dJ0_length_8abf5_10 rfl (Nat.le_refl 0) (Nat.le_refl 0) ⟨by decide +kernel, rfl⟩)
theorem kn_chr : ∀ k, k < 62 → ((roKn.getD k 0 &&& 255).toUInt32 % 65536).toInt32 = roKn.getD k 0 ∧ narrow .char (.int (roKn.getD k 0)) = .int (roKn.getD k 0) := by decide +kernel
theorem c_kAt {k : Nat} (hd : 4 ≤ d) (hk : k < 62) : xC d yJ0_charAt_5068e cJ0_charAt_5068e 2 (some .char) 0 0 [.ref (ro 5), .int (nI k)] μ ro (fun r μ' => r = some (.int (roKn.getD k 0)) ∧ μ' = μ) :=
  xC_intro (own := RJ0) (lv := [(0, .ref (ro 5)), (1, .int (nI k))]) (by decide) rfl (Nat.le_of_ble_eq_true rfl) rfl (fun J g hr => by
    refine r_aload_n g dJ0_charAt_5068e_0 rfl ?_
    refine r_callVR (d' := d - 1) (st := []) (As := []) (Z := fun r μ' => r = some (.int 1) ∧ μ' = μ) g sJ0_492 iJ0_isLatin1_aae02 eJ0_isLatin1_aae02 (List.mem_of_getElem? (i := 0) rfl) rfl (Nat.le_of_ble_eq_true rfl) dJ0_charAt_5068e_1 (by omega) (Nat.le_refl 0) (Nat.le_refl 0) (xC_intro (own := RJ0) (lv := [(0, .ref (ro 5))]) (by decide) rfl (Nat.le_of_ble_eq_true rfl) rfl (fun J g hr => by
      refine r_getsRO g (List.mem_of_getElem? (i := 5) rfl) zJ0_38 dJ0_isLatin1_aae02_0 ?_
      refine r_if_eq g 17 dJ0_isLatin1_aae02_3 (by decide) (fun c => absurd c (by decide)) (fun _ => ?_)
      refine r_aload_n g dJ0_isLatin1_aae02_6 rfl ?_
      refine r_fldRO g (List.mem_of_getElem? (i := 0) rfl) zJ0_15 dJ0_isLatin1_aae02_7 ?_
      refine r_if_ne g 17 dJ0_isLatin1_aae02_10 (by decide) (fun c => absurd rfl c) (fun _ => ?_)
      refine r_iconst g 1 dJ0_isLatin1_aae02_13 (by decide) ?_
      refine r_goto g 18 dJ0_isLatin1_aae02_14 (by decide) ?_
      exact hr.2.1 _ rfl _ _ _ _ _ _ dJ0_isLatin1_aae02_18 rfl (Nat.le_refl 0) (Nat.le_refl 0) ⟨rfl, rfl⟩)) (fun r μ' hz => ?_)
    obtain ⟨rfl, rfl⟩ := hz
    refine r_if_eq g 16 dJ0_charAt_5068e_4 (by decide) (fun c => absurd c (by decide)) (fun _ => ?_)
    refine r_aload_n g dJ0_charAt_5068e_7 rfl ?_
    refine r_fldRO g (List.mem_of_getElem? (i := 1) rfl) zJ0_9 dJ0_charAt_5068e_8 ?_
    refine r_iload_n g dJ0_charAt_5068e_11 rfl ?_
    refine r_callS (d' := d - 1) (st := []) (As := [.ref (ro 6), .int (nI k)]) (Z := fun r μ'' => r = some (.int (roKn.getD k 0)) ∧ μ'' = μ') g sJ0_495 iJ1_charAt_3b067 rfl (Nat.le_of_ble_eq_true rfl) dJ0_charAt_5068e_12 (by omega) (Nat.le_refl 0) (Nat.le_refl 0) (xC_intro (own := RJ1) (lv := [(0, .ref (ro 6)), (1, .int (nI k))]) (by decide) rfl (Nat.le_of_ble_eq_true rfl) rfl (fun J g hr => by
      refine r_iload_n g dJ1_charAt_3b067_0 rfl ?_
      refine r_aload_n g dJ1_charAt_3b067_1 rfl ?_
      refine r_tabLen g (List.mem_of_getElem? (i := 3) rfl) dJ1_charAt_3b067_2 ?_
      refine r_callS (d' := d - 2) (st := []) (As := [.int (nI k), .int (nI 62)]) g sJ1_9 iJ0_checkIndex_df160 rfl (Nat.le_of_ble_eq_true rfl) dJ1_charAt_3b067_3 (by omega) (Nat.le_refl 0) (Nat.le_refl 0) (c_strIdx (by omega) hk (by omega)) (fun r μ'' hz => ?_)
      obtain ⟨rfl, rfl⟩ := hz
      refine r_aload_n g dJ1_charAt_3b067_6 rfl ?_
      refine r_iload_n g dJ1_charAt_3b067_7 rfl ?_
      refine r_tabB g (List.mem_of_getElem? (i := 3) rfl) (vp_in_nI hk (by omega)) dJ1_charAt_3b067_8 ?_
      refine r_nmV (.int (roKn.getD k 0)) (by rw [nI_clamp (by omega)]) ?_
      refine r_sipush g 255 dJ1_charAt_3b067_9 (by decide) ?_
      refine r_iand g dJ1_charAt_3b067_12 ?_
      refine r_i2c g dJ1_charAt_3b067_13 ?_
      rw [(kn_chr k hk).1]
      exact hr.2.1 _ rfl _ _ _ _ _ _ dJ1_charAt_3b067_14 (kn_chr k hk).2 (Nat.le_refl 0) (Nat.le_refl 0) ⟨rfl, rfl⟩)) (fun r μ'' hz => ?_)
    obtain ⟨rfl, rfl⟩ := hz
    exact hr.2.1 _ rfl _ _ _ _ _ _ dJ0_charAt_5068e_15 (kn_chr k hk).2 (Nat.le_refl 0) (Nat.le_refl 0) ⟨rfl, rfl⟩)
/-! which keyword a word is: the model's own search in its text of words -/
def knF : List Nat → Nat → Nat → Int64 → Int32
  | [], _, _, _ => -1
  | 0 :: l, i, v, x => if lN v = x then nI i else knF l (i + 1) 0 x
  | c :: l, i, v, x => knF l i (v * 32 + c) x
def knL : List (List Nat) → Nat → Int64 → Int32
  | [], _, _ => -1
  | w :: l, i, x => if lN (codM w) = x then nI i else knL l (i + 1) x
def knC : List Nat := [12, 1, 14, 4, 0, 6, 9, 18, 13, 0, 15, 23, 14, 19, 0, 12, 5, 14, 4, 19, 0, 20, 18, 5, 1, 20, 25, 0, 5, 14, 4, 19, 0, 25, 5, 1, 18, 0, 16, 1, 25, 0, 16, 1, 19, 19, 0, 19, 20, 1, 6, 6, 0, 15, 23, 14, 0, 12, 5, 14, 4, 0]
theorem knF_L (x : Int64) : knF knC 0 0 x = knL kwds 0 x := rfl
theorem knC_at : ∀ k, k < 62 → ∀ c, knC[k]? = some c → (c = 0 → roKn.getD k 0 = 32) ∧ (c ≠ 0 → ¬ roKn.getD k 0 = 32 ∧ roKn.getD k 0 - 97 + 1 = nI c) ∧ c < 32 := by decide +kernel
theorem knL_nbr {w : List Nat} (hw : ltOk w) : ∀ n i, i + n = 12 → knL (kwds.drop i) i (lN (codM w)) = oI (fstP (fun j => decide (kwds[j]? = some w)) i n)
  | 0, i, h => by
    rw [List.drop_eq_nil_of_le (by show 12 ≤ i; omega)]; rfl
  | n + 1, i, h => by
    have hl : i < kwds.length := by show i < 12; omega
    have hx : kwds[i]? = some kwds[i] := List.getElem?_eq_getElem hl
    have x1 := kwds_ok _ (List.mem_of_getElem? hx)
    rw [List.drop_eq_getElem_cons hl]
    show (if lN (codM kwds[i]) = lN (codM w) then nI i else knL (kwds.drop (i + 1)) (i + 1) (lN (codM w))) = _
    by_cases q : kwds[i] = w
    · rw [if_pos (by rw [q]), fstP_t (by simp only [hx, decide_eq_true_eq, Option.some.injEq]; exact q)]; rfl
    · rw [if_neg (fun e => q ((lM_inj ⟨by omega, x1.2.2⟩ hw).mp e)), fstP_f (by simp only [hx, decide_eq_true_eq, Option.some.injEq]; exact q)]
      exact knL_nbr hw n (i + 1) (by omega)
def knS : Nat → Nat × Nat
  | 0 => (0, 0)
  | k + 1 => if knC.getD k 0 = 0 then ((knS k).1 + 1, 0) else ((knS k).1, (knS k).2 * 32 + knC.getD k 0)
theorem knS_b : ∀ k, k < 62 → (knS k).2 < 2 ^ 50 := by decide +kernel
theorem c_known {w : List Nat} (hd : 6 ≤ d) (hw : ltOk w) : xC d yX12_known cX12_known 6 (some .int) 0 0 [.long (lN (codM w))] μ ro (fun r μ' => r = some (.int (oI (nbr kwds w))) ∧ μ' = μ) := by
  have e0 : knF knC 0 0 (lN (codM w)) = oI (nbr kwds w) := by
    rw [knF_L]
    exact knL_nbr hw 12 0 (by omega)
  refine I_X12_known (fun J g hr => B_X12_known_0 g hr ?_)
  have key : ∀ n k, k + n = 62 → knF (knC.drop k) (knS k).1 (knS k).2 (lN (codM w)) = oI (nbr kwds w) → J μ 0 0 7 [(0, .long (lN (codM w))), (2, .int (nI (knS k).1)), (3, .long (lN (knS k).2)), (5, .int (nI k))] [] := by
    intro n
    induction n with
    | zero =>
      intro k hk he
      rw [List.drop_eq_nil_of_le (by show 62 ≤ k; omega)] at he
      refine B_X12_known_7 g hr (xCall_of (c_kLen (d := d - 1) (by omega)) (by omega) ?_)
      rintro r μ' ⟨rfl, rfl⟩
      exact ⟨_, rfl, pk_le 62 k (fun _ => ⟨by rw [← he]; rfl, rfl⟩) (fun q => by omega)⟩
    | succ n ih =>
      intro k hk he
      have hl : k < knC.length := by show k < 62; omega
      have hx : knC[k]? = some knC[k] := List.getElem?_eq_getElem hl
      have hg : knC.getD k 0 = knC[k] := by rw [List.getD_eq_getElem?_getD, hx]; rfl
      have hc := knC_at k (by omega) _ hx
      have hb := knS_b k (by omega)
      have hS : knS (k + 1) = if knC.getD k 0 = 0 then ((knS k).1 + 1, 0) else ((knS k).1, (knS k).2 * 32 + knC.getD k 0) := rfl
      rw [List.drop_eq_getElem_cons hl] at he
      rw [hg] at hS
      have hih := ih (k + 1) (by omega)
      generalize knC[k] = c at he hc hS
      refine B_X12_known_7 g hr (xCall_of (c_kLen (d := d - 1) (by omega)) (by omega) ?_)
      rintro r μ ⟨rfl, rfl⟩
      refine ⟨_, rfl, pk_le 62 k (fun q => by omega) (fun _ => xCall_of (c_kAt (d := d - 1) (by omega) (by omega)) (by omega) ?_)⟩
      rintro r μ ⟨rfl, rfl⟩
      refine ⟨_, rfl, ?_⟩
      rw [nI_1, lg_cmp_eq]
      cases c with
      | zero =>
        have he' : (if lN (knS k).2 = lN (codM w) then nI (knS k).1 else knF (knC.drop (k + 1)) ((knS k).1 + 1) 0 (lN (codM w))) = oI (nbr kwds w) := he
        rw [if_pos rfl] at hS
        refine ⟨fun _ => ⟨fun q => ?_, fun q => ?_⟩, fun q => absurd (hc.1 rfl) q⟩
        · rw [if_neg q] at he'
          rw [hS] at hih
          rw [nI_1]
          exact hih he'
        · rw [if_pos q] at he'
          exact ⟨by rw [he'], rfl⟩
      | succ c =>
        have he' : knF (knC.drop (k + 1)) (knS k).1 ((knS k).2 * 32 + (c + 1)) (lN (codM w)) = oI (nbr kwds w) := he
        rw [if_neg (by omega)] at hS
        refine ⟨fun q => absurd q (hc.2.1 (by omega)).1, fun _ => xCall_of (c_kAt (d := d - 1) (by omega) (by omega)) (by omega) ?_⟩
        rintro r μ ⟨rfl, rfl⟩
        refine ⟨_, rfl, fun v13 e13 => ?_⟩
        rw [(hc.2.1 (by omega)).2, shl5 (by omega) hc.2.2] at e13
        rw [hS] at hih
        rw [e13, nI_1]
        exact hih he'
  exact key 62 0 (by omega) e0
end strc
