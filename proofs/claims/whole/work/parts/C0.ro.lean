/-! the start's constants: statics, tables, constant objects, strings -/
def nmW : List String := ["LAND", "FIRM", "OWNS", "LENDS", "TREATY", "ENDS", "YEAR", "PAY", "PASS", "STAFF", "OWN", "LEND"]
def tmW (j : Nat) : Term := .static "TreatyRouter$Word" (nmW.getD j "") "LTreatyRouter$Word;"
def roTm : Nat → Term
  | 0 => .static "TreatyRouter" "WORDS" "[LTreatyRouter$Word;"
  | 1 => .static "TreatyRouter$1" "$SwitchMap$TreatyRouter$Word" "[I"
  | 2 => .static "TreatyRouter$Book" "BOUNDS" "[I"
  | 3 => .static "java/lang/Integer" "DigitOnes" "[B"
  | 4 => .static "java/lang/Integer" "DigitTens" "[B"
  | 5 => .string "TreatyRouterModel" 147
  | 6 => .field (.string "TreatyRouterModel" 147) "java/lang/String" "value" "[B"
  | 7 => .string "TreatyRouter$Way" 41
  | 8 => .field (.string "TreatyRouter$Way" 41) "java/lang/String" "value" "[B"
  | 9 => .static "jdk/internal/util/Preconditions" "SIOOBE_FORMATTER" "Ljava/util/function/BiFunction;"
  | n + 10 => tmW n
theorem roTm_W (i : Nat) : roTm (10 + i) = tmW i := by rw [Nat.add_comm]; rfl
def rfA : Option Value → Nat
  | some (.ref a) => a
  | _ => 0
def rfN : Option Value → Nat
  | some (.ref a) => a + 1
  | _ => 0
def roOf (args : Array Value) (s : State) (j : Nat) : Nat := if j = 9 then rfN ((roTm 9).eval args s none [] s) else rfA ((roTm j).eval args s none [] s)
section roS
variable {args : Array Value} {s : State} {A : Nat → Prop}
theorem ro_at {j a : Nat} (hj : j ≠ 9) (h : (roTm j).eval args s none [] s = some (.ref a)) : roOf args s j = a := by
  simp only [roOf, if_neg hj, h, rfA]
theorem nw_i (hg : (Jvm.Cond.and given_1 narrow_1).before args s = true) (i : Nat) {w : Cond} (hi : (flatC (Jvm.Cond.and given_1 narrow_1))[i]? = some w) : w.before args s = true := flat_of_before _ hg w (List.mem_of_getElem? hi)
theorem nw_run (hg : (Jvm.Cond.and given_1 narrow_1).before args s = true) (k n : Nat) {F : Nat → Cond} (h : ((flatC (Jvm.Cond.and given_1 narrow_1)).drop k).take n = (List.range n).map F) (j : Nat) (hj : j < n) : (F j).before args s = true := by
  have hm : F j ∈ ((flatC (Jvm.Cond.and given_1 narrow_1)).drop k).take n := by rw [h]; exact List.mem_map.mpr ⟨j, List.mem_range.mpr hj, rfl⟩
  exact flat_of_before _ hg _ (List.mem_of_mem_drop (List.mem_of_mem_take hm))
theorem ro_T (hA : ∀ a : Nat, a < s.heap.size → ¬ A a) {j N : Nat} {ty : FieldType} {f : Nat → Value} (hj : j ≠ 9) (hN : N < 2 ^ 31) (harr : (Cond.arrayOf (roTm j) ty).before args s = true) (hlen : (Cond.eq (.length (roTm j)) (.int (Int32.ofNat N))).before args s = true) (hel : ∀ i, i < N → (Term.elem (roTm j) (.int (Int32.ofNat i))).eval args s none [] s = some (f i)) : (roTm j).eval args s none [] s = some (.ref (roOf args s j)) ∧ va_T ty (roOf args s j) N f A s s.heap := by
  obtain ⟨t, ht, hT⟩ := va_Tof hN harr (va_eqt hlen) hel hA
  rw [ro_at hj ht]
  exact ⟨ht, hT⟩
theorem ro_ex {j : Nat} {nm : String} (hj : j ≠ 9) (hex : (Cond.exactly (roTm j) nm).before args s = true) : (roTm j).eval args s none [] s = some (.ref (roOf args s j)) := by
  obtain ⟨a, c, cell, k, q1, -⟩ := Cond.exactly_spec hex
  rw [ro_at hj q1]
  exact q1
def wdF (i k : Nat) : Cond := ([.exactly (tmW i) "TreatyRouter$Word", .eq (.field (tmW i) "java/lang/Enum" "ordinal" "I") (.int (Int32.ofNat i)), .eq (.field (tmW i) "TreatyRouter$Word" "code" "J") (.long (roCode.getD i 0)), .eq (.field (tmW i) "TreatyRouter$Word" "act" "I") (.int (roAct.getD i 0)), .eq (.field (tmW i) "TreatyRouter$Word" "numbers" "I") (.int (roNum.getD i 0))] : List Cond).getD k (.exactly (tmW i) "")
set_option maxRecDepth 100000 in
theorem wdF_in : ∀ i : Fin 12, ∀ k : Fin 5, (flatC (Jvm.Cond.and given_1 narrow_1))[260 + (5 * i.val + i.val * (i.val - 1) / 2) + k.val]? = some (wdF i.val k.val) := by decide +kernel
theorem wd_w (hg : (Jvm.Cond.and given_1 narrow_1).before args s = true) (i k : Nat) (hi : i < 12) (hk : k < 5) : (wdF i k).before args s = true := nw_i hg _ (wdF_in ⟨i, hi⟩ ⟨k, hk⟩)
theorem wd_ev (hg : (Jvm.Cond.and given_1 narrow_1).before args s = true) {i : Nat} (hi : i < 12) : (tmW i).eval args s none [] s = some (.ref (roOf args s (10 + i))) := by
  have h := ro_ex (args := args) (s := s) (j := 10 + i) (nm := "TreatyRouter$Word") (by omega) (by rw [roTm_W]; exact wd_w hg i 0 hi (by decide))
  rwa [roTm_W] at h
set_option maxRecDepth 100000 in
theorem T_words (hg : (Jvm.Cond.and given_1 narrow_1).before args s = true) (hA : ∀ a : Nat, a < s.heap.size → ¬ A a) : (roTm 0).eval args s none [] s = some (.ref (roOf args s 0)) ∧ va_T (.object "TreatyRouter$Word") (roOf args s 0) 12 (fun j => .ref (roOf args s (10 + j))) A s s.heap :=
  ro_T hA (by decide) (by decide) (nw_i hg 7 (by decide +kernel)) (nw_i hg 8 (by decide +kernel)) (fun i hi => va_eqv (nw_run hg 10 12 (F := fun j => .eq (.elem (roTm 0) (.int (Int32.ofNat j))) (tmW j)) (by decide +kernel) i hi) (wd_ev hg hi))
set_option maxRecDepth 100000 in
theorem T_sw (hg : (Jvm.Cond.and given_1 narrow_1).before args s = true) (hA : ∀ a : Nat, a < s.heap.size → ¬ A a) : (roTm 1).eval args s none [] s = some (.ref (roOf args s 1)) ∧ va_T .int (roOf args s 1) 12 (fun j => .int (([1, 2, 3, 4, 5, 6, 7, 0, 0, 0, 0, 0] : List Int32).getD j 0)) A s s.heap :=
  ro_T hA (by decide) (by decide) (nw_i hg 23 (by decide +kernel)) (nw_i hg 24 (by decide +kernel)) (fun i hi => va_eqt (nw_run hg 25 12 (F := fun j => .eq (.elem (roTm 1) (.int (Int32.ofNat j))) (.int (([1, 2, 3, 4, 5, 6, 7, 0, 0, 0, 0, 0] : List Int32).getD j 0))) (by decide +kernel) i hi))
set_option maxRecDepth 100000 in
theorem T_bo (hg : (Jvm.Cond.and given_1 narrow_1).before args s = true) (hA : ∀ a : Nat, a < s.heap.size → ¬ A a) : (roTm 2).eval args s none [] s = some (.ref (roOf args s 2)) ∧ va_T .int (roOf args s 2) 8 (fun j => .int (roB.getD j 0)) A s s.heap :=
  ro_T hA (by decide) (by decide) (nw_i hg 38 (by decide +kernel)) (nw_i hg 39 (by decide +kernel)) (fun i hi => va_eqt (nw_run hg 40 8 (F := fun j => .eq (.elem (roTm 2) (.int (Int32.ofNat j))) (.int (roB.getD j 0))) (by decide +kernel) i hi))
set_option maxRecDepth 100000 in
theorem T_d1 (hg : (Jvm.Cond.and given_1 narrow_1).before args s = true) (hA : ∀ a : Nat, a < s.heap.size → ¬ A a) : (roTm 3).eval args s none [] s = some (.ref (roOf args s 3)) ∧ va_T .byte (roOf args s 3) 100 (fun j => .int (Int32.ofNat (48 + j % 10))) A s s.heap :=
  ro_T hA (by decide) (by decide) (nw_i hg 53 (by decide +kernel)) (nw_i hg 54 (by decide +kernel)) (fun i hi => va_eqt (nw_run hg 55 100 (F := fun j => .eq (.elem (roTm 3) (.int (Int32.ofNat j))) (.int (Int32.ofNat (48 + j % 10)))) (by decide +kernel) i hi))
set_option maxRecDepth 100000 in
theorem T_d2 (hg : (Jvm.Cond.and given_1 narrow_1).before args s = true) (hA : ∀ a : Nat, a < s.heap.size → ¬ A a) : (roTm 4).eval args s none [] s = some (.ref (roOf args s 4)) ∧ va_T .byte (roOf args s 4) 100 (fun j => .int (Int32.ofNat (48 + j / 10))) A s s.heap :=
  ro_T hA (by decide) (by decide) (nw_i hg 156 (by decide +kernel)) (nw_i hg 157 (by decide +kernel)) (fun i hi => va_eqt (nw_run hg 158 100 (F := fun j => .eq (.elem (roTm 4) (.int (Int32.ofNat j))) (.int (Int32.ofNat (48 + j / 10)))) (by decide +kernel) i hi))
set_option maxRecDepth 100000 in
theorem T_kn (hg : (Jvm.Cond.and given_1 narrow_1).before args s = true) (hA : ∀ a : Nat, a < s.heap.size → ¬ A a) : (roTm 6).eval args s none [] s = some (.ref (roOf args s 6)) ∧ va_T .byte (roOf args s 6) 62 (fun j => .int (roKn.getD j 0)) A s s.heap :=
  ro_T hA (by decide) (by decide) (nw_i hg 407 (by decide +kernel)) (nw_i hg 408 (by decide +kernel)) (fun i hi => va_eqt (nw_run hg 409 62 (F := fun j => .eq (.elem (roTm 6) (.int (Int32.ofNat j))) (.int (roKn.getD j 0))) (by decide +kernel) i hi))
set_option maxRecDepth 100000 in
theorem T_gt (hg : (Jvm.Cond.and given_1 narrow_1).before args s = true) (hA : ∀ a : Nat, a < s.heap.size → ¬ A a) : (roTm 8).eval args s none [] s = some (.ref (roOf args s 8)) ∧ va_T .byte (roOf args s 8) 2 (fun j => .int (([32, 62] : List Int32).getD j 0)) A s s.heap :=
  ro_T hA (by decide) (by decide) (nw_i hg 401 (by decide +kernel)) (nw_i hg 402 (by decide +kernel)) (fun i hi => va_eqt (nw_run hg 403 2 (F := fun j => .eq (.elem (roTm 8) (.int (Int32.ofNat j))) (.int (([32, 62] : List Int32).getD j 0))) (by decide +kernel) i hi))
theorem ro_fm (hts : ∀ w ∈ lw_tbl, w.before args s = true) (hg : (Jvm.Cond.and given_1 narrow_1).before args s = true) (hA : ∀ a : Nat, a < s.heap.size → ¬ A a) : va_Z "jdk/internal/util/Preconditions" "SIOOBE_FORMATTER" "Ljava/util/function/BiFunction;" (nlV (roOf args s 9)) A s s.heap := by
  have ht : ∀ (i : Nat) (w : Cond), tables_1[i]? = some w → w.before args s = true := fun i w h => hts w (List.mem_append_right _ (List.mem_of_getElem? h))
  have h : (Cond.isRef (roTm 9)).before args s = true := nw_i hg 48 (by decide +kernel)
  have hl : (Cond.laysStatic "jdk/internal/util/Preconditions" "SIOOBE_FORMATTER" "Ljava/util/function/BiFunction;").before args s = true := ht 770 _ (by decide +kernel)
  have hi : (Cond.initialized "jdk/internal/util/Preconditions").before args s = true := ht 21 _ (by decide +kernel)
  refine va_Zof hl hi ?_ hA
  show (roTm 9).eval args s none [] s = _
  obtain ⟨v, hv, hr⟩ := Cond.isRef_spec (args := args) (first := s) (o := none) (s := s) (idx := []) h
  simp only [roOf, if_true, hv]
  cases v with
  | null => rfl
  | ref a => simp [rfN, nlV]
  | _ => cases hr
theorem ro_RO (hts : ∀ w ∈ lw_tbl, w.before args s = true) (hg : (Jvm.Cond.and given_1 narrow_1).before args s = true) (hA : ∀ a : Nat, a < s.heap.size → ¬ A a) : xRO (roOf args s) A s s.heap := by
  have ht : ∀ (i : Nat) (w : Cond), tables_1[i]? = some w → w.before args s = true := fun i w h => hts w (List.mem_append_right _ (List.mem_of_getElem? h))
  have e5 : (roTm 5).eval args s none [] s = some (.ref (roOf args s 5)) := ro_ex (by decide) (nm := "java/lang/String") (nw_i hg 405 (by decide +kernel))
  have e7 : (roTm 7).eval args s none [] s = some (.ref (roOf args s 7)) := ro_ex (by decide) (nm := "java/lang/String") (nw_i hg 399 (by decide +kernel))
  refine ⟨fun q hq => ?_, fun q hq => ?_, fun q hq => ?_, fun q hq => ?_⟩
  · simp only [roZ, List.mem_cons, List.not_mem_nil, or_false] at hq
    rcases hq with rfl | rfl | rfl | rfl | rfl | rfl | rfl
    · exact va_Zof (ht 422 _ (by decide +kernel)) (ht 1 _ (by decide +kernel)) (T_words hg hA).1 hA
    · exact va_Zof (ht 425 _ (by decide +kernel)) (ht 18 _ (by decide +kernel)) (T_sw hg hA).1 hA
    · exact va_Zof (ht 475 _ (by decide +kernel)) (ht 12 _ (by decide +kernel)) (T_bo hg hA).1 hA
    · exact va_Zof (ht 857 _ (by decide +kernel)) (ht 30 _ (by decide +kernel)) (T_d1 hg hA).1 hA
    · exact va_Zof (ht 859 _ (by decide +kernel)) (ht 30 _ (by decide +kernel)) (T_d2 hg hA).1 hA
    · exact va_Zof (ht 197 _ (by decide +kernel)) (ht 10 _ (by decide +kernel)) (va_eqi (nw_i hg 4 (by decide +kernel))) hA
    · exact ro_fm hts hg hA
  · simp only [roT, List.mem_cons, List.not_mem_nil, or_false] at hq
    rcases hq with rfl | rfl | rfl | rfl | rfl | rfl | rfl
    · exact (T_bo hg hA).2
    · exact (T_sw hg hA).2
    · exact (T_words hg hA).2
    · exact (T_kn hg hA).2
    · exact (T_gt hg hA).2
    · exact (T_d1 hg hA).2
    · exact (T_d2 hg hA).2
  · simp only [roO, List.mem_cons, List.mem_map, List.mem_range] at hq
    rcases hq with rfl | rfl | ⟨i, hi, rfl⟩
    · exact va_Oof (t := roTm 5) (nw_i hg 405 (by decide +kernel)) e5 hA
    · exact va_Oof (t := roTm 7) (nw_i hg 399 (by decide +kernel)) e7 hA
    · exact va_Oof (t := tmW i) (wd_w hg i 0 hi (by decide)) (wd_ev hg hi) hA
  · simp only [roF, List.mem_append, List.mem_cons, List.mem_map, List.mem_range] at hq
    rcases hq with (rfl | rfl | rfl | rfl | ⟨i, hi, rfl⟩) | ⟨i, hi, rfl⟩ | ⟨i, hi, rfl⟩ | ⟨i, hi, rfl⟩
    · exact vk_OFof (t := roTm 5) e5 (va_eqt (nw_i hg 406 (by decide +kernel))) hA
    · exact vk_OFof (t := roTm 5) e5 (T_kn hg hA).1 hA
    · exact vk_OFof (t := roTm 7) e7 (va_eqt (nw_i hg 400 (by decide +kernel))) hA
    · exact vk_OFof (t := roTm 7) e7 (T_gt hg hA).1 hA
    · exact vk_OFof (t := tmW i) (wd_ev hg hi) (va_eqtl (wd_w hg i 2 hi (by decide))) hA
    · exact vk_OFof (t := tmW i) (wd_ev hg hi) (va_eqt (wd_w hg i 3 hi (by decide))) hA
    · exact vk_OFof (t := tmW i) (wd_ev hg hi) (va_eqt (wd_w hg i 4 hi (by decide))) hA
    · exact vk_OFof (t := tmW i) (wd_ev hg hi) (va_eqt (wd_w hg i 1 hi (by decide))) hA
theorem ro_Nw (hts : ∀ w ∈ lw_tbl, w.before args s = true) (hg : (Jvm.Cond.and given_1 narrow_1).before args s = true) : xNw (roOf args s) s := by
  have ht : ∀ (i : Nat) (w : Cond), tables_1[i]? = some w → w.before args s = true := fun i w h => hts w (List.mem_append_right _ (List.mem_of_getElem? h))
  refine ⟨(N_lnk hts).1, (N_lnk hts).2, fun q hq => ?_, (K_full hts).1⟩
  simp only [roS, List.mem_cons, List.not_mem_nil, or_false] at hq
  rcases hq with rfl | rfl
  · exact vk_R.of (ht 1456 _ (by decide +kernel)) (ro_ex (j := 5) (by decide) (nm := "java/lang/String") (nw_i hg 405 (by decide +kernel)))
  · exact vk_R.of (ht 795 _ (by decide +kernel)) (ro_ex (j := 7) (by decide) (nm := "java/lang/String") (nw_i hg 399 (by decide +kernel)))
end roS
