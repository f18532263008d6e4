/-! firm of the class: it returns, or it throws NoSuchElementException -/
abbrev nNSE : String := "java/util/NoSuchElementException"
theorem fX11_163 : xFld RX11 163 2 3 9 (.array .int) true := ⟨RX2, TX2, tyX2, rfl, inX2, tyX2_ok, nmX2, by decide, (tb_1 236 (by decide +kernel) rfl), rfl, rfl⟩
theorem iX8_linksOf : Cond.instanceMethod yX8_linksOf ∈ gtbl := (tb_5 234 (by decide +kernel) rfl)
theorem eX8_linksOf : Cond.selects yX8_linksOf.cls yX8_linksOf yX8_linksOf ∈ gtbl := (tb_5 235 (by decide +kernel) rfl)
theorem sX11_166 : xSite RX11 166 yX8_linksOf cX8_linksOf 4 (some .int) 1 := ⟨(tb_5 233 (by decide +kernel) rfl), (tb_1 13 (by decide +kernel) rfl), (tb_5 236 (by decide +kernel) rfl), by decide +kernel, by decide⟩
theorem dX11_firm_0 : decode cX11_firm 0 = .ok (.aload_n 0, 1) := by decide +kernel
theorem dX11_firm_1 : decode cX11_firm 1 = .ok (.getfield 72, 3) := by decide +kernel
theorem dX11_firm_4 : decode cX11_firm 4 = .ok (.iload_n 1, 1) := by decide +kernel
theorem dX11_firm_5 : decode cX11_firm 5 = .ok (.invokevirtual 157, 3) := by decide +kernel
theorem dX11_firm_8 : decode cX11_firm 8 = .ok (.ifCond .eq 12, 3) := by decide +kernel
theorem dX11_firm_11 : decode cX11_firm 11 = .ok (.iload_n 2, 1) := by decide +kernel
theorem dX11_firm_12 : decode cX11_firm 12 = .ok (.ifCond .lt 8, 3) := by decide +kernel
theorem dX11_firm_15 : decode cX11_firm 15 = .ok (.iload_n 2, 1) := by decide +kernel
theorem dX11_firm_16 : decode cX11_firm 16 = .ok (.iconst 4, 1) := by decide +kernel
theorem dX11_firm_17 : decode cX11_firm 17 = .ok (.if_icmp .le 11, 3) := by decide +kernel
theorem dX11_firm_20 : decode cX11_firm 20 = .ok (.new 160, 3) := by decide +kernel
theorem dX11_firm_23 : decode cX11_firm 23 = .ok (.dup, 1) := by decide +kernel
theorem dX11_firm_24 : decode cX11_firm 24 = .ok (.invokespecial 162, 3) := by decide +kernel
theorem dX11_firm_27 : decode cX11_firm 27 = .ok (.athrow, 1) := by decide +kernel
theorem dX11_firm_28 : decode cX11_firm 28 = .ok (.iload_n 2, 1) := by decide +kernel
theorem dX11_firm_29 : decode cX11_firm 29 = .ok (.tableswitch 79 0 3 #[31, 41, 53, 66], 31) := by decide +kernel
theorem dX11_firm_60 : decode cX11_firm 60 = .ok (.aload_n 0, 1) := by decide +kernel
theorem dX11_firm_61 : decode cX11_firm 61 = .ok (.getfield 72, 3) := by decide +kernel
theorem dX11_firm_64 : decode cX11_firm 64 = .ok (.getfield 163, 3) := by decide +kernel
theorem dX11_firm_67 : decode cX11_firm 67 = .ok (.iload_n 1, 1) := by decide +kernel
theorem dX11_firm_68 : decode cX11_firm 68 = .ok (.iaload, 1) := by decide +kernel
theorem dX11_firm_69 : decode cX11_firm 69 = .ok (.ireturn, 1) := by decide +kernel
theorem dX11_firm_70 : decode cX11_firm 70 = .ok (.aload_n 0, 1) := by decide +kernel
theorem dX11_firm_71 : decode cX11_firm 71 = .ok (.getfield 96, 3) := by decide +kernel
theorem dX11_firm_74 : decode cX11_firm 74 = .ok (.getfield 151, 3) := by decide +kernel
theorem dX11_firm_77 : decode cX11_firm 77 = .ok (.iconst 2, 1) := by decide +kernel
theorem dX11_firm_78 : decode cX11_firm 78 = .ok (.iload_n 1, 1) := by decide +kernel
theorem dX11_firm_79 : decode cX11_firm 79 = .ok (.iadd, 1) := by decide +kernel
theorem dX11_firm_80 : decode cX11_firm 80 = .ok (.iaload, 1) := by decide +kernel
theorem dX11_firm_81 : decode cX11_firm 81 = .ok (.ireturn, 1) := by decide +kernel
theorem dX11_firm_82 : decode cX11_firm 82 = .ok (.aload_n 0, 1) := by decide +kernel
theorem dX11_firm_83 : decode cX11_firm 83 = .ok (.getfield 96, 3) := by decide +kernel
theorem dX11_firm_86 : decode cX11_firm 86 = .ok (.getfield 151, 3) := by decide +kernel
theorem dX11_firm_89 : decode cX11_firm 89 = .ok (.bipush 10, 2) := by decide +kernel
theorem dX11_firm_91 : decode cX11_firm 91 = .ok (.iload_n 1, 1) := by decide +kernel
theorem dX11_firm_92 : decode cX11_firm 92 = .ok (.iadd, 1) := by decide +kernel
theorem dX11_firm_93 : decode cX11_firm 93 = .ok (.iaload, 1) := by decide +kernel
theorem dX11_firm_94 : decode cX11_firm 94 = .ok (.ireturn, 1) := by decide +kernel
theorem dX11_firm_95 : decode cX11_firm 95 = .ok (.aload_n 0, 1) := by decide +kernel
theorem dX11_firm_96 : decode cX11_firm 96 = .ok (.getfield 96, 3) := by decide +kernel
theorem dX11_firm_99 : decode cX11_firm 99 = .ok (.getfield 151, 3) := by decide +kernel
theorem dX11_firm_102 : decode cX11_firm 102 = .ok (.bipush 18, 2) := by decide +kernel
theorem dX11_firm_104 : decode cX11_firm 104 = .ok (.iload_n 1, 1) := by decide +kernel
theorem dX11_firm_105 : decode cX11_firm 105 = .ok (.iadd, 1) := by decide +kernel
theorem dX11_firm_106 : decode cX11_firm 106 = .ok (.iaload, 1) := by decide +kernel
theorem dX11_firm_107 : decode cX11_firm 107 = .ok (.ireturn, 1) := by decide +kernel
theorem dX11_firm_108 : decode cX11_firm 108 = .ok (.aload_n 0, 1) := by decide +kernel
theorem dX11_firm_109 : decode cX11_firm 109 = .ok (.getfield 96, 3) := by decide +kernel
theorem dX11_firm_112 : decode cX11_firm 112 = .ok (.iload_n 1, 1) := by decide +kernel
theorem dX11_firm_113 : decode cX11_firm 113 = .ok (.invokevirtual 166, 3) := by decide +kernel
theorem dX11_firm_116 : decode cX11_firm 116 = .ok (.ireturn, 1) := by decide +kernel
section fw
variable {d : Nat} {ro : Nat → Nat} {J : JT} {μ : Hp} {A : Nat → Nat} {B : Bk} {f : Nat → Int32} {v y : Int32}
set_option maxHeartbeats 4000000 in
set_option maxRecDepth 100000 in
theorem F_walk (g : xCtx RX11 cX11_firm 3 d 1 6 yX11_firm.name ro J) (hd : 2 ≤ d) (h : cQ μ A B f)
    (hret : ∀ (pc : Nat) (lv : List (Nat × Value)) (r : Int32), decode cX11_firm pc = .ok (.ireturn, 1) → firmOk B v y → r = aFirm B f v y → J μ 0 0 pc lv [.int r])
    (hthr : ∀ lv : List (Nat × Value), ¬ firmOk B v y → J μ 0 0 20 lv []) : J μ 0 0 0 [(0, .ref (A 0)), (1, .int v), (2, .int y)] [] := by
  have hsh := h.1.1
  have hnf := h.2.2.2.1.1.1.2.1
  have hrow := h.2.2.2.2.1.2.1
  have n16 := hrow.1.2.1
  have h34 := h.2.2.2.2.1.1
  have h6 : hI μ (A 39) 6 = nI B.nf := h.2.1.2.1
  refine r_aload_n g dX11_firm_0 rfl ?_
  refine r_getR g fX11_72 rfl (hsh.s 0 14 18) (hsh.r 0 13 39) dX11_firm_1 ?_
  refine r_iload_n g dX11_firm_4 rfl ?_
  by_cases c1 : v < 0
  · refine r_callV (st := []) (As := [.int v]) g sX11_157 iX2_hasFirm eX2_hasFirm rfl (hsh.s 39 6 9) rfl (Nat.le_of_ble_eq_true rfl) dX11_firm_5 (by omega) (Nat.zero_le _) (Nat.zero_le _) (P_X2_hasFirm_0 (d := d - 1) (hsh.s 39 6 9) c1) (fun r2 μ3 hZ1 => ?_)
    obtain ⟨rfl, e9⟩ := hZ1
    replace e9 := e9.symm
    subst e9
    refine r_if_eq g 20 dX11_firm_8 (by decide) (fun _ => ?_) (fun hz => absurd hz (by decide))
    exact hthr _ (fun q => q.1.1 c1)
  · by_cases c2 : (hI μ (A 39) 6) ≤ v
    · refine r_callV (st := []) (As := [.int v]) g sX11_157 iX2_hasFirm eX2_hasFirm rfl (hsh.s 39 6 9) rfl (Nat.le_of_ble_eq_true rfl) dX11_firm_5 (by omega) (Nat.zero_le _) (Nat.zero_le _) (P_X2_hasFirm_1 (d := d - 1) (hsh.s 39 6 9) c1 c2) (fun r2 μ3 hZ1 => ?_)
      obtain ⟨rfl, e9⟩ := hZ1
      replace e9 := e9.symm
      subst e9
      refine r_if_eq g 20 dX11_firm_8 (by decide) (fun _ => ?_) (fun hz => absurd hz (by decide))
      exact hthr _ (fun q => q.1.2 (by rw [← h6]; exact c2))
    · refine r_callV (st := []) (As := [.int v]) g sX11_157 iX2_hasFirm eX2_hasFirm rfl (hsh.s 39 6 9) rfl (Nat.le_of_ble_eq_true rfl) dX11_firm_5 (by omega) (Nat.zero_le _) (Nat.zero_le _) (P_X2_hasFirm_2 (d := d - 1) (hsh.s 39 6 9) c1 c2) (fun r2 μ3 hZ1 => ?_)
      obtain ⟨rfl, e9⟩ := hZ1
      replace e9 := e9.symm
      subst e9
      refine r_if_eq g 20 dX11_firm_8 (by decide) (fun hz => absurd hz (by decide)) (fun _ => ?_)
      refine r_iload_n g dX11_firm_11 rfl ?_
      refine r_if_lt g 20 dX11_firm_12 (by decide) (fun c3 => ?_) (fun c3 => ?_)
      · exact hthr _ (fun q => q.2.1 c3)
      · refine r_iload_n g dX11_firm_15 rfl ?_
        refine r_iconst g 4 dX11_firm_16 (by decide) ?_
        refine r_icmp_le g 28 dX11_firm_17 (by decide) (fun c4 => ?_) (fun c4 => ?_)
        · have hv : inN v B.nf := ⟨c1, by rw [← h6]; exact c2⟩
          have hok : firmOk B v y := ⟨hv, c3, Int32.not_lt.mpr c4⟩
          obtain ⟨e1, k1⟩ := hv.ex (by omega)
          refine r_iload_n g dX11_firm_28 rfl ?_
          obtain ⟨j, hj, rfl⟩ := smallx 4 c3 (Int32.not_lt.mpr c4) (by decide)
          have hj5 : j = 0 ∨ j = 1 ∨ j = 2 ∨ j = 3 ∨ j = 4 := by omega
          rcases hj5 with rfl | rfl | rfl | rfl | rfl
          · refine r_tableIn g 60 dX11_firm_29 (by decide) (by decide) (off := 31) (by decide) (by decide) ?_
            refine r_aload_n g dX11_firm_60 rfl ?_
            refine r_getR g fX11_72 rfl (hsh.s 0 14 18) (hsh.r 0 13 39) dX11_firm_61 ?_
            refine r_getR g fX11_163 rfl (hsh.s 39 6 9) (hsh.r 39 3 43) dX11_firm_64 ?_
            refine r_iload_n g dX11_firm_67 rfl ?_
            refine r_iaload g (hsh.s 43 0 8) (by rw [e1]; exact vp_in_nI (by omega) (by omega)) dX11_firm_68 ?_
            refine hret 69 _ _ dX11_firm_69 hok ?_
            rw [h.2.2.1.2.1]
            unfold aFirm
            rw [if_pos (by decide)]
            rfl
          · refine r_tableIn g 70 dX11_firm_29 (by decide) (by decide) (off := 41) (by decide) (by decide) ?_
            refine r_aload_n g dX11_firm_70 rfl ?_
            refine r_getR g fX11_96 rfl (hsh.s 0 14 18) (hsh.r 0 10 33) dX11_firm_71 ?_
            refine r_getR g fX11_151 rfl (hsh.s 33 12 4) (hsh.r 33 0 34) dX11_firm_74 ?_
            refine r_iconst g 2 dX11_firm_77 (by decide) ?_
            refine r_iload_n g dX11_firm_78 rfl ?_
            refine r_iadd g dX11_firm_79 ?_
            refine r_nmV (.int (nI (2 + cl v))) (by rw [← off_i 2 e1]; rfl) ?_
            refine r_iaload g (hsh.s 34 0 112) (vp_in_nI (by omega) (by omega)) dX11_firm_80 ?_
            refine hret 81 _ _ dX11_firm_81 hok ?_
            rw [h34, nI_clamp (by omega)]
            unfold aFirm
            rw [if_neg (by decide), if_pos (by decide)]
          · refine r_tableIn g 82 dX11_firm_29 (by decide) (by decide) (off := 53) (by decide) (by decide) ?_
            refine r_aload_n g dX11_firm_82 rfl ?_
            refine r_getR g fX11_96 rfl (hsh.s 0 14 18) (hsh.r 0 10 33) dX11_firm_83 ?_
            refine r_getR g fX11_151 rfl (hsh.s 33 12 4) (hsh.r 33 0 34) dX11_firm_86 ?_
            refine r_bipush g 10 dX11_firm_89 (by decide) ?_
            refine r_iload_n g dX11_firm_91 rfl ?_
            refine r_iadd g dX11_firm_92 ?_
            refine r_nmV (.int (nI (10 + cl v))) (by rw [← off_i 10 e1]; rfl) ?_
            refine r_iaload g (hsh.s 34 0 112) (vp_in_nI (by omega) (by omega)) dX11_firm_93 ?_
            refine hret 94 _ _ dX11_firm_94 hok ?_
            rw [h34, nI_clamp (by omega)]
            unfold aFirm
            rw [if_neg (by decide), if_neg (by decide), if_pos (by decide)]
          · refine r_tableIn g 95 dX11_firm_29 (by decide) (by decide) (off := 66) (by decide) (by decide) ?_
            refine r_aload_n g dX11_firm_95 rfl ?_
            refine r_getR g fX11_96 rfl (hsh.s 0 14 18) (hsh.r 0 10 33) dX11_firm_96 ?_
            refine r_getR g fX11_151 rfl (hsh.s 33 12 4) (hsh.r 33 0 34) dX11_firm_99 ?_
            refine r_bipush g 18 dX11_firm_102 (by decide) ?_
            refine r_iload_n g dX11_firm_104 rfl ?_
            refine r_iadd g dX11_firm_105 ?_
            refine r_nmV (.int (nI (18 + cl v))) (by rw [← off_i 18 e1]; rfl) ?_
            refine r_iaload g (hsh.s 34 0 112) (vp_in_nI (by omega) (by omega)) dX11_firm_106 ?_
            refine hret 107 _ _ dX11_firm_107 hok ?_
            rw [h34, nI_clamp (by omega)]
            unfold aFirm
            rw [if_neg (by decide), if_neg (by decide), if_neg (by decide), if_pos (by decide)]
          · refine r_tableOut g 108 dX11_firm_29 (Or.inr (by decide)) (by decide) ?_
            refine r_aload_n g dX11_firm_108 rfl ?_
            refine r_getR g fX11_96 rfl (hsh.s 0 14 18) (hsh.r 0 10 33) dX11_firm_109 ?_
            refine r_iload_n g dX11_firm_112 rfl ?_
            refine r_callV (st := []) (As := [.int v]) g sX11_166 iX8_linksOf eX8_linksOf rfl (hsh.s 33 12 4) rfl (Nat.le_of_ble_eq_true rfl) dX11_firm_113 (by omega) (Nat.zero_le _) (Nat.zero_le _) (c_linksOf (d := d - 1) (n := cl (f 1)) ⟨hsh.s 33 12 4, hsh.r 33 0 34, hsh.s 34 0 112⟩ (by rw [h34]; exact hrow.1.1) n16) (fun r2 μ3 hZ1 => ?_)
            obtain ⟨rfl, e9⟩ := hZ1
            replace e9 := e9.symm
            subst e9
            refine hret 116 _ _ dX11_firm_116 hok ?_
            unfold aFirm
            rw [if_neg (by decide), if_neg (by decide), if_neg (by decide), if_neg (by decide), h34]
        · exact hthr _ (fun q => q.2.2 (Int32.not_le.mp c4))
end fw
