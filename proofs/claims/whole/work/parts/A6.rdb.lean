/-! a constant's place -/
theorem dJx29ce0_ordinal_0 : decode cJx29ce0_ordinal_8abf5 0 = .ok (.aload_n 0, 1) := by decide +kernel
theorem dJx29ce0_ordinal_1 : decode cJx29ce0_ordinal_8abf5 1 = .ok (.getfield 7, 3) := by decide +kernel
theorem dJx29ce0_ordinal_4 : decode cJx29ce0_ordinal_8abf5 4 = .ok (.ireturn, 1) := by decide +kernel
theorem zJx29ce0_7 : Cond.fieldLink RJx29ce0 7 "java/lang/Enum" "ordinal" "I" ∈ gtbl := (tb_9 14 (by decide +kernel) rfl)
theorem c_ordinal {d : Nat} {ro : Nat → Nat} {μ : Hp} {i : Nat} (hi : i < 12) : xC d yJx29ce0_ordinal_8abf5 cJx29ce0_ordinal_8abf5 1 (some .int) 0 0 [.ref (ro (10 + i))] μ ro (fun r μ' => r = some (.int (nI i)) ∧ μ' = μ) :=
  xC_intro (own := RJx29ce0) (lv := [(0, .ref (ro (10 + i)))]) (by decide) rfl (Nat.le_of_ble_eq_true rfl) rfl (fun J g hr => by
    refine r_aload_n g dJx29ce0_ordinal_0 rfl ?_
    refine r_fldRO g (roF_ordinal hi) zJx29ce0_7 dJx29ce0_ordinal_1 ?_
    exact hr.2.1 _ rfl _ _ _ _ _ _ dJx29ce0_ordinal_4 rfl (Nat.le_refl 0) (Nat.le_refl 0) ⟨rfl, rfl⟩)
section rdb
variable {d : Nat} {ro : Nat → Nat} {μ : Hp} {A : Nat → Nat} {t : Nat → Int32} {len : Nat} {c : Cu} {P : Pb}
theorem roB_bnd : ∀ i, i < 8 → roB.getD i 0 = nI (bnd i) := by decide
theorem bnd_le : ∀ i, bnd i < 1000000 := fun i => by
  rcases Nat.lt_or_ge i 8 with h | h
  · have : i = 0 ∨ i = 1 ∨ i = 2 ∨ i = 3 ∨ i = 4 ∨ i = 5 ∨ i = 6 ∨ i = 7 := by omega
    rcases this with rfl | rfl | rfl | rfl | rfl | rfl | rfl | rfl <;> decide
  · unfold bnd
    rw [List.getD_eq_getElem?_getD, List.getElem?_eq_none (by simpa using h)]
    exact Nat.le_of_ble_eq_true rfl
theorem dw50 (hj : cInj A) (k : Nat) (x : Int32) : dFr A μ (wI μ (A 50) k x) := dFr.w hj 50 k x ⟨by decide, by decide, Or.inl (by decide)⟩
theorem c_rTrty {n e : Nat} (hd : 5 ≤ d) (hn8 : n ≤ 8) (hs : cSh μ A) (hj : cInj A) (h : rdR μ A t len c) (hP : cPB μ A P) (hp : pOk P) : xC d yX2_readTreaty cX2_readTreaty 6 none 0 0 [.ref (A 45), .ref (A 1), .int (nI n), .int (nI e)] μ ro (lnZ A t len μ (rTrty t len P n e c)) := by
  have h6 := hp.1.1
  have h12 := hp.1.2.2.2
  refine I_X2_readTreaty (fun J g hr => B_X2_readTreaty_0 g hr (hs.s 45 6 9) (hs.r 45 0 46) (hs.s 1 10 5) ?_)
  unfold rTrty at hr ⊢
  rw [hP.1.2.2.1]
  refine pk_lt P.tr.length 12 (fun hl => ?_) (fun hl => k_flS (by omega) hs hj h (fun μ1 r1 F1 => ?_))
  rotate_left
  · rw [if_pos hl]
    exact ⟨rfl, rfl, Fr1_d F1 hj, r1, fun e => absurd e flC_n⟩
  rw [if_neg (by omega)] at hr
  have hlt : ∀ un c k, (tdN t len P.lnm un c).1 = some k → k < 100 := fun un c k hk => by have := (nbr_lt hk).1; rw [lnm_len] at this; omega
  have hr2 : ∀ x, rTr2 t len P c = x → x = (((tdN t len P.lnm none c).1, (tdN t len P.lnm (tdN t len P.lnm none c).1 (tdN t len P.lnm none c).2).1, (tdN t len P.lnm (tdN t len P.lnm none c).1 (tdN t len P.lnm none c).2).2)) := fun x hx => hx.symm
  have key := loopUp (Q := fun i => ∀ μ' : Hp, dFr A μ μ' → rdR μ' A t len (rNum t len bnd (min i n) (rTr2 t len P c).2.2).2 → cPB μ' A P → (hI μ' (A 50) (12 * 8 + P.tr.length) = oI (rTr2 t len P c).1 ∧ hI μ' (A 50) (12 * 9 + P.tr.length) = oI (rTr2 t len P c).2.1 ∧ hI μ' (A 50) (12 * 10 + P.tr.length) = nI e) → (∀ j, j < i → hI μ' (A 50) (12 * j + P.tr.length) = nI ((rNum t len bnd n (rTr2 t len P c).2.2).1 j)) → J μ' 0 0 89 [(0, .ref (A 45)), (1, .ref (A 1)), (2, .int (nI n)), (5, .int (nI i))] []) 8 ?_ (fun i hi ih => ?_) 0 (by omega)
  · refine k_td (un := none) (ns := P.lnm) (by omega) hs hj h (hs.s 46 2 6) (by rw [lnm_len]; exact h6) (by omega) (by rw [lnm_len]; exact hP.1.1) (hP.names hp).1 (fun k hk => by cases hk) (fun μ1 r1 F1 => ⟨_, rfl, ?_⟩)
    have s1 := hs.fr F1
    have P1 := hP.fr hj F1
    refine ⟨s1.s 45 6 9, _, s1.r 45 4 50, _, s1.s 50 0 132, ?_⟩
    rw [P1.1.2.2.1, show (96 : Int32) + nI P.tr.length = nI (12 * 8 + P.tr.length) from nI_add 96 _, nI_clamp (by omega)]
    refine ⟨vp_in_nI (by omega) (by omega), fun v8 e8 => ⟨_, s1.r 45 0 46, fun v10 e10 => ?_⟩⟩
    rw [hI_wI_n _ _ _ (hj.ne 45 50), P1.1.2.2.1] at e8
    rw [hI_wI_n _ _ _ (hj.ne 45 50), P1.1.1] at e10
    subst e8 e10
    have P2 := P1.w50 (k := 8) (y := oI (tdN t len P.lnm none c).1) hj hl
    have s2 : cSh (wI μ1 (A 50) (12 * 8 + P.tr.length) (oI (tdN t len P.lnm none c).1)) A := s1
    have r2 := r1.w hj 50 (12 * 8 + P.tr.length) (oI (tdN t len P.lnm none c).1)
    refine k_td (un := (tdN t len P.lnm none c).1) (ns := P.lnm) (by omega) s2 hj r2 (s2.s 46 2 6) (by rw [lnm_len]; exact h6) (by omega) (by rw [lnm_len]) (P2.names hp).1 (hlt _ _) (fun μ3 r3 F3 => ⟨_, rfl, _, (s2.fr F3).s 50 0 132, ?_⟩)
    have s3 := s2.fr F3
    have P3 := P2.fr hj F3
    rw [show (108 : Int32) + nI P.tr.length = nI (12 * 9 + P.tr.length) from nI_add 108 _, nI_clamp (by omega)]
    refine ⟨vp_in_nI (by omega) (by omega), s3.s 45 6 9, _, s3.r 45 4 50, fun v17 e17 => ⟨_, s3.s 50 0 132, ?_⟩⟩
    rw [hI_wI_n _ _ _ (hj.ne 45 50), P3.1.2.2.1, show (120 : Int32) + nI P.tr.length = nI (12 * 10 + P.tr.length) from nI_add 120 _] at e17
    subst e17
    rw [nI_clamp (by omega)]
    refine ⟨vp_in_nI (by omega) (by omega), key _ ?_ ?_ ((P3.w50 hj hl).w50 hj hl) ⟨?_, ?_, ?_⟩ (fun j hj0 => by omega)⟩
    · exact (((Fr1_d F1 hj).tt (dw50 hj _ _)).tt (Fr1_d F3 hj)).tt ((dw50 hj _ _).tt (dw50 hj _ _))
    · rw [show min 0 n = 0 by omega]
      exact (r3.w hj 50 _ _).w hj 50 _ _
    · rw [hI_wI_s, upd_n _ (by omega), hI_wI_s, upd_n _ (by omega), F3.o hj 50, hI_wI_s, upd_s]; rfl
    · rw [hI_wI_s, upd_n _ (by omega), hI_wI_s, upd_s]; rfl
    · rw [hI_wI_s, upd_s]
  · intro μ' D' r' P' x' v'
    have s' := D'.sh hs
    rw [show min 8 n = n by omega] at r'
    refine B_X2_readTreaty_89 g hr (s'.s 1 10 5) (s'.s 45 6 9) (s'.r 45 4 50) (s'.s 50 0 132) (pk_le 8 8 (fun _ => ?_) (fun q => by omega))
    rw [r'.f1]
    refine ⟨fun q => ⟨rfl, D', r', fun e => absurd e q⟩, fun q => ⟨rfl, D'.tt (dFr.w hj 45 7 _ (by decide)), r'.w hj 45 7 _, fun _ => ?_⟩⟩
    obtain ⟨a, b, ea, eb, -⟩ := rTr_n (rNum_n q)
    rw [ea, eb] at x'
    rw [ea, eb]
    obtain ⟨a1, a2, a3, a4, a5, a6⟩ := P'
    refine ⟨?_, fun i x hx => ?_, fun i x hx => ?_, ?_, fun i x hx j hj11 => ?_, ?_⟩
    · rw [hI_wI_s]
      refine ⟨?_, ?_, ?_, ?_⟩
      · rw [upd_n _ (by decide)]; exact a1.1
      · rw [upd_n _ (by decide)]; exact a1.2.1
      · rw [upd_s, a1.2.2.1, nI_1]
        show nI (P.tr.length + 1) = nI (P.tr ++ [_]).length
        rw [List.length_append, List.length_singleton]
      · rw [upd_n _ (by decide)]; exact a1.2.2.2
    · rw [hI_wI_n _ _ _ (hj.ne 48 45)]; exact a2 i x hx
    · rw [hI_wI_n _ _ _ (hj.ne 49 45), hI_wI_n _ _ _ (hj.ne 36 45)]; exact a3 i x hx
    · rw [hI_wI_n _ _ _ (hj.ne 36 45)]; exact a4
    · rw [hI_wI_n _ _ _ (hj.ne 50 45)]
      rcases get_snoc hx with ⟨x1, -⟩ | ⟨rfl, rfl⟩
      · exact a5 i x x1 j hj11
      · unfold trE
        rcases Nat.lt_or_ge j 8 with q8 | q8
        · rw [if_pos q8]; exact v' j q8
        · rw [if_neg (by omega)]
          have : j = 8 ∨ j = 9 ∨ j = 10 := by omega
          rcases this with rfl | rfl | rfl
          · exact x'.1
          · exact x'.2.1
          · exact x'.2.2
    · rw [hI_wI_n _ _ _ (hj.ne 36 45)]; exact a6
  · intro μ' D' r' P' x' v'
    have s' := D'.sh hs
    refine B_X2_readTreaty_89 g hr (s'.s 1 10 5) (s'.s 45 6 9) (s'.r 45 4 50) (s'.s 50 0 132) (pk_le 8 i (fun q => by omega) (fun _ => pk_le n i (fun q => ?_) (fun q => ⟨vp_in_nI (by omega) (by omega), ?_⟩)))
    · rw [P'.1.2.2.1, show nI i * 12 = nI (i * 12) from pk_mul i 12, nI_add, nI_clamp (by omega), nI_1, show i * 12 + P.tr.length = 12 * i + P.tr.length by omega]
      refine ⟨vp_in_nI (by omega) (by omega), ih _ (D'.tt (dw50 hj _ _)) ?_ (P'.w50 hj hl) ?_ (fun j hji => ?_)⟩
      · rw [show min (i + 1) n = min i n by omega]; exact r'.w hj 50 _ _
      · rw [hI_wI_s, upd_n _ (by omega), upd_n _ (by omega), upd_n _ (by omega)]; exact x'
      · rw [hI_wI_s]
        by_cases ej : j = i
        · subst ej
          rw [upd_s, rNum_z n q]; rfl
        · rw [upd_n _ (by omega)]; exact v' j (by omega)
    · rw [nI_clamp (by omega), roB_bnd i hi]
      rw [show min i n = i by omega] at r'
      refine k_nn (lo := 0) (hi := bnd i) (by omega) s' hj r' (by omega) (bnd_le i) (fun μ2 r2 F2 => ⟨_, rfl, 132, ?_, ?_⟩)
      · rw [F2.2.2.1]; exact s'.s 50 0 132
      rw [P'.1.2.2.1, show nI i * 12 = nI (i * 12) from pk_mul i 12, nI_add, nI_clamp (by omega), nI_1, show i * 12 + P.tr.length = 12 * i + P.tr.length by omega]
      refine ⟨vp_in_nI (by omega) (by omega), ih _ (D'.tt ((Fr1_d F2 hj).tt (dw50 hj _ _))) ?_ ((P'.fr hj F2).w50 hj hl) ?_ (fun j hji => ?_)⟩
      · rw [show min (i + 1) n = i + 1 by omega]; exact r2.w hj 50 _ _
      · rw [hI_wI_s, upd_n _ (by omega), upd_n _ (by omega), upd_n _ (by omega), F2.o hj 50]; exact x'
      · rw [hI_wI_s]
        by_cases ej : j = i
        · subst ej
          rw [upd_s, rNum_j n (by omega)]
        · rw [upd_n _ (by omega), F2.o hj 50]; exact v' j (by omega)
theorem kw_map : ∀ i, i < 12 → ([1, 2, 3, 4, 5, 6, 7, 0, 0, 0, 0, 0] : List Int32).getD i 0 = if i < 7 then nI (i + 1) else 0 := by decide
theorem c_rLine (hd : 6 ≤ d) (hs : cSh μ A) (hj : cInj A) (h : rdR μ A t len c) (hP : cPB μ A P) (hp : pOk P) : xC d yX2_readLine cX2_readLine 4 none 0 0 [.ref (A 45), .ref (A 1), .ref (A 35)] μ ro (lnZ A t len μ (rLine t len P c)) := by
  refine I_X2_readLine (fun J g hr => B_X2_readLine_0 g hr (hs.s 1 10 5) (k_nw (by omega) hs hj h (fun μ1 r1 F1 => ⟨_, rfl, ?_⟩)))
  have s1 := hs.fr F1
  have P1 := hP.fr hj F1
  refine xCall_of (c_withCode (d := d - 1) (nxW_lt t len c)) (by omega) ?_
  rintro r μ1 ⟨rfl, rfl⟩
  refine ⟨_, rfl, fun q => ⟨s1.s 1 10 5, k_flS (by omega) s1 hj r1 (fun μ3 r3 F3 => ⟨rfl, ?_⟩)⟩, fun i q => ?_⟩
  · unfold rLine
    rw [q]
    exact ⟨rfl, (Fr1_d F1 hj).tt (Fr1_d F3 hj), r3, fun e => absurd e flC_n⟩
  have hi : i < 12 := (nbr_lt q).1
  have fin : ∀ {q' : Pb × Cu} {r : Option Value} {μ' : Hp}, rLine t len P c = q' → lnZ A t len μ1 q' r μ' → r = none ∧ lnZ A t len μ (rLine t len P c) none μ' := fun e z => by
    rw [e]
    exact ⟨z.1, rfl, (Fr1_d F1 hj).tt z.2.1, z.2.2.1, z.2.2.2⟩
  have bad : 7 ≤ i → rLine t len P c = (P, flC (nxW t len c).2 (nxW t len c).2.2.1) := fun h7 => by
    unfold rLine
    rw [q]
    have : i = 7 ∨ i = 8 ∨ i = 9 ∨ i = 10 ∨ i = 11 := by omega
    rcases this with rfl | rfl | rfl | rfl | rfl <;> rfl
  refine ⟨hi, xCall_of (c_ordinal (d := d - 1) hi) (by omega) ?_⟩
  rintro r μ1 ⟨rfl, rfl⟩
  refine ⟨_, rfl, vp_in_nI hi (by omega), fun v ev => ?_⟩
  rw [nI_clamp (by omega), kw_map i hi] at ev
  have big : ∀ k, k < 8 → v = nI k → ¬ ((v.toInt < 1) ∨ 7 < v.toInt) → 1 ≤ k := fun k hk e hn => by
    rw [e, nI_toInt (by omega)] at hn
    omega
  have small : i < 7 → ∀ k, k < 8 → v = nI k → i + 1 = k := fun h7 k hk e => by
    rw [if_pos h7, e] at ev
    exact ((nI_eq (by omega) (by omega)).mp ev).symm
  have no : ∀ k, 1 ≤ k → k < 8 → v = nI k → i + 1 = k := fun k h1 hk e => by
    rcases Nat.lt_or_ge i 7 with h7 | h7
    · exact small h7 k hk e
    · rw [if_neg (by omega), e] at ev
      have := (nI_eq (a := k) (b := 0) (by omega) (by omega)).mp ev
      omega
  refine ⟨fun hv => ⟨s1.s 1 10 5, ?_⟩, fun hv => ⟨s1.s 45 6 9, ?_⟩, fun hv => ⟨s1.s 45 6 9, ?_⟩, fun hv => ⟨s1.s 45 6 9, ?_⟩, fun hv => ⟨s1.s 45 6 9, ?_⟩, fun hv => ⟨s1.s 45 6 9, ?_⟩, fun hv => ⟨s1.s 45 6 9, ?_⟩, fun hv => ⟨s1.s 45 6 9, ?_⟩⟩
  · have h7 : 7 ≤ i := by
      rcases Nat.lt_or_ge i 7 with h7 | h7
      · rw [if_pos h7] at ev
        rw [ev, nI_toInt (by omega)] at hv
        omega
      · exact h7
    exact k_flS (by omega) s1 hj r1 (fun μ3 r3 F3 => ⟨rfl, by rw [bad h7]; exact ⟨rfl, (Fr1_d F1 hj).tt (Fr1_d F3 hj), r3, fun e => absurd e flC_n⟩⟩)
  · have := no 1 (by omega) (by omega) hv
    have e0 : i = 0 := by omega
    subst e0
    exact xCall_of (c_rLand (d := d - 1) (by omega) s1 hj r1 P1 hp) (by omega) (fun r μ' z => fin (by unfold rLine; rw [q]; rfl) z)
  · have := no 2 (by omega) (by omega) hv
    have e0 : i = 1 := by omega
    subst e0
    exact xCall_of (c_rFirm (d := d - 1) (by omega) s1 hj r1 P1 hp) (by omega) (fun r μ' z => fin (by unfold rLine; rw [q]; rfl) z)
  · have := no 3 (by omega) (by omega) hv
    have e0 : i = 2 := by omega
    subst e0
    exact xCall_of (c_rLink (d := d - 1) (s := 0) (by omega) (by omega) s1 hj r1 P1 hp) (by omega) (fun r μ' z => fin (by unfold rLine; rw [q]; rfl) z)
  · have := no 4 (by omega) (by omega) hv
    have e0 : i = 3 := by omega
    subst e0
    exact xCall_of (c_rLink (d := d - 1) (s := 1) (by omega) (by omega) s1 hj r1 P1 hp) (by omega) (fun r μ' z => fin (by unfold rLine; rw [q]; rfl) z)
  · have := no 5 (by omega) (by omega) hv
    have e0 : i = 4 := by omega
    subst e0
    exact xCall_of (c_rTrty (d := d - 1) (n := 8) (e := 0) (by omega) (by omega) s1 hj r1 P1 hp) (by omega) (fun r μ' z => fin (by unfold rLine; rw [q]; rfl) z)
  · have := no 6 (by omega) (by omega) hv
    have e0 : i = 5 := by omega
    subst e0
    exact xCall_of (c_rTrty (d := d - 1) (n := 1) (e := 1) (by omega) (by omega) s1 hj r1 P1 hp) (by omega) (fun r μ' z => fin (by unfold rLine; rw [q]; rfl) z)
  · have := no 7 (by omega) (by omega) hv
    have e0 : i = 6 := by omega
    subst e0
    exact xCall_of (c_rYear (d := d - 1) (by omega) s1 hj r1 P1) (by omega) (fun r μ' z => fin (by unfold rLine; rw [q]; rfl) z)
end rdb
