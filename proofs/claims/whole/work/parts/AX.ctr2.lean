theorem dJ5_init_d00df_0 : decode cJ5_init_d00df 0 = .ok (.aload_n 0, 1) := by decide +kernel
theorem dJ5_init_d00df_1 : decode cJ5_init_d00df 1 = .ok (.invokespecial 3, 3) := by decide +kernel
theorem dJ5_init_d00df_4 : decode cJ5_init_d00df 4 = .ok (.getstatic 18, 3) := by decide +kernel
theorem dJ5_init_d00df_7 : decode cJ5_init_d00df 7 = .ok (.ifCond .eq 18, 3) := by decide +kernel
theorem dJ5_init_d00df_10 : decode cJ5_init_d00df 10 = .ok (.aload_n 0, 1) := by decide +kernel
theorem dJ5_init_d00df_11 : decode cJ5_init_d00df 11 = .ok (.iload_n 1, 1) := by decide +kernel
theorem dJ5_init_d00df_12 : decode cJ5_init_d00df 12 = .ok (.newarray .byte, 2) := by decide +kernel
theorem dJ5_init_d00df_14 : decode cJ5_init_d00df 14 = .ok (.putfield 15, 3) := by decide +kernel
theorem dJ5_init_d00df_17 : decode cJ5_init_d00df 17 = .ok (.aload_n 0, 1) := by decide +kernel
theorem dJ5_init_d00df_18 : decode cJ5_init_d00df 18 = .ok (.iconst 0, 1) := by decide +kernel
theorem dJ5_init_d00df_19 : decode cJ5_init_d00df 19 = .ok (.putfield 22, 3) := by decide +kernel
theorem dJ5_init_d00df_22 : decode cJ5_init_d00df 22 = .ok (.goto 16, 3) := by decide +kernel
theorem dJ5_init_d00df_25 : decode cJ5_init_d00df 25 = .ok (.aload_n 0, 1) := by decide +kernel
theorem dJ5_init_d00df_26 : decode cJ5_init_d00df 26 = .ok (.iload_n 1, 1) := by decide +kernel
theorem dJ5_init_d00df_27 : decode cJ5_init_d00df 27 = .ok (.invokestatic 26, 3) := by decide +kernel
theorem dJ5_init_d00df_30 : decode cJ5_init_d00df 30 = .ok (.putfield 15, 3) := by decide +kernel
theorem dJ5_init_d00df_33 : decode cJ5_init_d00df 33 = .ok (.aload_n 0, 1) := by decide +kernel
theorem dJ5_init_d00df_34 : decode cJ5_init_d00df 34 = .ok (.iconst 1, 1) := by decide +kernel
theorem dJ5_init_d00df_35 : decode cJ5_init_d00df 35 = .ok (.putfield 22, 3) := by decide +kernel
theorem dJ5_init_d00df_38 : decode cJ5_init_d00df 38 = .ok (.return_, 1) := by decide +kernel
theorem dJ4_init_da8c8_0 : decode cJ4_init_da8c8 0 = .ok (.aload_n 0, 1) := by decide +kernel
theorem dJ4_init_da8c8_1 : decode cJ4_init_da8c8 1 = .ok (.bipush 16, 2) := by decide +kernel
theorem dJ4_init_da8c8_3 : decode cJ4_init_da8c8 3 = .ok (.invokespecial 1, 3) := by decide +kernel
theorem dJ4_init_da8c8_6 : decode cJ4_init_da8c8 6 = .ok (.return_, 1) := by decide +kernel
theorem iJ5_init_d00df : Cond.instanceMethod yJ5_init_d00df ∈ gtbl := (tb_1 193 (by decide +kernel) rfl)
theorem sJ4_1 : xSite RJ4 1 yJ5_init_d00df cJ5_init_d00df 2 none 1 := ⟨(tb_1 192 (by decide +kernel) rfl), (tb_1 8 (by decide +kernel) rfl), (tb_1 194 (by decide +kernel) rfl), by decide +kernel, by decide⟩
theorem oJ5_3 : Cond.methodLink RJ5 3 Lib.objectInit ∈ gtbl := (tb_1 195 (by decide +kernel) rfl)
section ctr2
variable {d : Nat} {ro : Nat → Nat} {μ0 μ : Hp} {L : gL} {R : List (Nat × Nat × Nat)}
theorem gk.nR {i : Nat} (h : gk μ0 L R μ) (hi : i ∉ L.map (fun p => p.1)) : i ∉ R.map (fun r => r.1) := fun hm => by
  obtain ⟨r, hr, rfl⟩ := List.mem_map.mp hm
  exact hi (h.2.2.1 r hr).1
theorem nmb {t i : Nat} {l : List Nat} (h1 : Nat.beq t i = false) (h2 : t ∉ l) : t ∉ i :: l := nm (Nat.ne_of_beq_eq_false h1) h2
theorem gk.rf {i a k b : Nat} {v : Nat → Int32} (h : gk μ0 L R μ) (hm : (i, a, v) ∈ L) (hr : (i, k, b) ∈ R) : hR μ a k = some b := (h.2.2.1 _ hr).2 _ hm rfl
theorem k_J5_init {i a j1 : Nat} (hd : 1 ≤ d) (hsi : gSh i = (4, 4)) (h : gk μ0 ((i, a, (fun _ => 0)) :: L) R μ) (hni : i ∉ L.map (fun p => p.1)) (hR : i ∉ R.map (fun r => r.1)) (hsj1 : gSh j1 = (1, 16)) (hnj1 : j1 ∉ L.map (fun p => p.1)) (ne_j1_i : j1 ≠ i) : xC d yJ5_init_d00df cJ5_init_d00df 2 none 1 16 [.ref a, .int 16] μ ro (fun r μ' => r = none ∧ ∃ q1, gk μ0 ((j1, q1, (fun _ => 0)) :: (i, a, (fun _ => 0)) :: L) ((i, 0, q1) :: R) μ') := by
  refine xC_intro (own := RJ5) (lv := [(0, .ref a), (1, .int 16)]) (by decide) rfl (Nat.le_of_ble_eq_true rfl) rfl (fun J g hr => ?_)
  refine r_aload_n g dJ5_init_d00df_0 rfl ?_
  refine r_objInit g oJ5_3 hd (Nat.le_of_ble_eq_true rfl) dJ5_init_d00df_1 ?_
  refine r_getsRO g (List.mem_of_getElem? (i := 5) rfl) zJ5_18 dJ5_init_d00df_4 ?_
  refine r_if_eq g 25 dJ5_init_d00df_7 (by decide) (fun c => absurd c (by decide)) (fun _ => ?_)
  refine r_aload_n g dJ5_init_d00df_10 rfl ?_
  refine r_iload_n g dJ5_init_d00df_11 rfl ?_
  refine r_newB g 16 (by decide) (by decide) (by omega) (by omega) (by omega) dJ5_init_d00df_12 (fun q1 hq => ?_)
  have h1 := h.newS hsj1 (nm ne_j1_i hnj1) hq
  have h2 := h1.ref (k := 0) (b := q1) (List.mem_of_getElem? (i := 1) rfl) (nr hR)
  refine r_putR g fJ5_15 rfl (h1.shS (List.mem_of_getElem? (i := 1) rfl) hsi) rfl rfl dJ5_init_d00df_14 ?_
  refine r_aload_n g dJ5_init_d00df_17 rfl ?_
  refine r_iconst g 0 dJ5_init_d00df_18 (by decide) ?_
  have h3 := h2.int0 (k := 1) (List.mem_of_getElem? (i := 1) rfl) rfl
  refine r_putI g fJ5_22 rfl (h2.shS (List.mem_of_getElem? (i := 1) rfl) hsi) rfl rfl dJ5_init_d00df_19 ?_
  refine r_goto g 38 dJ5_init_d00df_22 (by decide) ?_
  exact hr.1 rfl _ _ _ _ _ dJ5_init_d00df_38 (by omega) (by omega) ⟨rfl, q1, h3⟩
theorem k_J4_init_da8c8 {i a j1 : Nat} (hd : 2 ≤ d) (hsi : gSh i = (4, 4)) (h : gk μ0 ((i, a, (fun _ => 0)) :: L) R μ) (hni : i ∉ L.map (fun p => p.1)) (hR : i ∉ R.map (fun r => r.1)) (hsj1 : gSh j1 = (1, 16)) (hnj1 : j1 ∉ L.map (fun p => p.1)) (ne_j1_i : j1 ≠ i) : xC d yJ4_init_da8c8 cJ4_init_da8c8 1 none 1 16 [.ref a] μ ro (fun r μ' => r = none ∧ ∃ q1, gk μ0 ((j1, q1, (fun _ => 0)) :: (i, a, (fun _ => 0)) :: L) ((i, 0, q1) :: R) μ') := by
  refine xC_intro (own := RJ4) (lv := [(0, .ref a)]) (by decide) rfl (Nat.le_of_ble_eq_true rfl) rfl (fun J g hr => ?_)
  refine r_aload_n g dJ4_init_da8c8_0 rfl ?_
  refine r_bipush g 16 dJ4_init_da8c8_1 (by decide) ?_
  refine r_callI (d' := d - 1) (st := []) (As := [.int 16]) g sJ4_1 rfl iJ5_init_d00df rfl (Nat.le_of_ble_eq_true rfl) dJ4_init_da8c8_3 (by omega) (by omega) (by omega) (k_J5_init (by omega) hsi h hni hR hsj1 hnj1 ne_j1_i) (fun r μ' hz => ?_)
  obtain ⟨rfl, hz⟩ := hz
  exact hr.1 rfl _ _ _ _ _ dJ4_init_da8c8_6 (by omega) (by omega) ⟨rfl, hz⟩
theorem k_X3_init {a : Nat} (hd : 3 ≤ d) (h : gk μ0 ((14, a, (fun _ => 0)) :: L) R μ) (hfr : ∀ t, 14 ≤ t → t < 23 → t ∉ L.map (fun p => p.1)) (hR : ∀ t, 14 ≤ t → t < 23 → t ∉ R.map (fun r => r.1)) : xC d yX3_init cX3_init 1 none 8 308 [.ref a] μ ro (fun r μ' => r = none ∧ ∃ q1, ∃ q2, ∃ q3, ∃ q4, ∃ q5, ∃ q6, ∃ q7, ∃ q8, gk μ0 ((22, q8, (fun _ => 0)) :: (21, q7, (fun _ => 0)) :: (20, q6, (fun _ => 0)) :: (19, q5, (fun _ => 0)) :: (18, q4, (fun _ => 0)) :: (17, q3, (fun _ => 0)) :: (16, q2, (fun _ => 0)) :: (15, q1, (fun _ => 0)) :: (14, a, (fun _ => 0)) :: L) ((14, 6, q7) :: (21, 0, q8) :: (14, 5, q6) :: (14, 4, q5) :: (14, 3, q4) :: (14, 2, q3) :: (14, 0, q1) :: (15, 0, q2) :: R) μ') := by
  refine I_X3_init (fun J g hr => ?_)
  refine B_X3_init_0 g hr  (by omega) ⟨by omega, by omega, fun q1 hq => ?_⟩
  have h1 := h.newS (i := 15) rfl (nmb rfl (hfr 15 (by decide) (by decide))) hq
  refine ⟨d - 1, 1, 35, _, k_X9_init (i := 15) (j1 := 16) (by omega) rfl h1 (nmb rfl (hfr 15 (by decide) (by decide))) (hR 15 (by decide) (by decide)) rfl  (nmb rfl (hfr 16 (by decide) (by decide))) (by decide), by omega, by omega, by omega, ?_⟩
  rintro r ν1 ⟨rfl, q2, h2⟩
  refine ⟨rfl, h2.shS (List.mem_of_getElem? (i := 2) rfl) rfl, ?_⟩
  have h3 := h2.ref (k := 0) (b := q1) (List.mem_of_getElem? (i := 2) rfl) (nrc (by decide) (nr (hR 14 (by decide) (by decide))))
  refine B_X3_init_15 g hr (h3.shS (List.mem_of_getElem? (i := 2) rfl) rfl)  ?_
  have h4 := h3.int0 (k := 1) (List.mem_of_getElem? (i := 2) rfl) rfl
  refine B_X3_init_20 g hr   ⟨by omega, by omega, fun q3 hq => ?_⟩
  have h5 := h4.newS (i := 17) rfl (nmb rfl (nmb rfl (nmb rfl (hfr 17 (by decide) (by decide))))) hq
  refine ⟨h5.shS (List.mem_of_getElem? (i := 3) rfl) rfl, ?_⟩
  have h6 := h5.ref (k := 2) (b := q3) (List.mem_of_getElem? (i := 3) rfl) (nrc (by decide) (nrc (by decide) (nr (hR 14 (by decide) (by decide)))))
  refine B_X3_init_28 g hr   ⟨by omega, by omega, fun q4 hq => ?_⟩
  have h7 := h6.newS (i := 18) rfl (nmb rfl (nmb rfl (nmb rfl (nmb rfl (hfr 18 (by decide) (by decide)))))) hq
  refine ⟨h7.shS (List.mem_of_getElem? (i := 4) rfl) rfl, ?_⟩
  have h8 := h7.ref (k := 3) (b := q4) (List.mem_of_getElem? (i := 4) rfl) (nrc (by decide) (nrc (by decide) (nrc (by decide) (nr (hR 14 (by decide) (by decide))))))
  refine B_X3_init_36 g hr   ⟨by omega, by omega, fun q5 hq => ?_⟩
  have h9 := h8.newS (i := 19) rfl (nmb rfl (nmb rfl (nmb rfl (nmb rfl (nmb rfl (hfr 19 (by decide) (by decide))))))) hq
  refine ⟨h9.shS (List.mem_of_getElem? (i := 5) rfl) rfl, ?_⟩
  have h10 := h9.ref (k := 4) (b := q5) (List.mem_of_getElem? (i := 5) rfl) (nrc (by decide) (nrc (by decide) (nrc (by decide) (nrc (by decide) (nr (hR 14 (by decide) (by decide)))))))
  refine B_X3_init_44 g hr   ⟨by omega, by omega, fun q6 hq => ?_⟩
  have h11 := h10.newS (i := 20) rfl (nmb rfl (nmb rfl (nmb rfl (nmb rfl (nmb rfl (nmb rfl (hfr 20 (by decide) (by decide)))))))) hq
  refine ⟨h11.shS (List.mem_of_getElem? (i := 6) rfl) rfl, ?_⟩
  have h12 := h11.ref (k := 5) (b := q6) (List.mem_of_getElem? (i := 6) rfl) (nrc (by decide) (nrc (by decide) (nrc (by decide) (nrc (by decide) (nrc (by decide) (nr (hR 14 (by decide) (by decide))))))))
  refine B_X3_init_52 g hr   ⟨by omega, by omega, fun q7 hq => ?_⟩
  have h13 := h12.newS (i := 21) rfl (nmb rfl (nmb rfl (nmb rfl (nmb rfl (nmb rfl (nmb rfl (nmb rfl (hfr 21 (by decide) (by decide))))))))) hq
  refine ⟨d - 1, 1, 35, _, k_X9_init (i := 21) (j1 := 22) (by omega) rfl h13 (nmb rfl (nmb rfl (nmb rfl (nmb rfl (nmb rfl (nmb rfl (nmb rfl (hfr 21 (by decide) (by decide))))))))) (nmb rfl (nmb rfl (nmb rfl (nmb rfl (nmb rfl (nmb rfl (hR 21 (by decide) (by decide)))))))) rfl  (nmb rfl (nmb rfl (nmb rfl (nmb rfl (nmb rfl (nmb rfl (nmb rfl (hfr 22 (by decide) (by decide))))))))) (by decide), by omega, by omega, by omega, ?_⟩
  rintro r ν2 ⟨rfl, q8, h14⟩
  refine ⟨rfl, h14.shS (List.mem_of_getElem? (i := 8) rfl) rfl, ?_⟩
  have h15 := h14.ref (k := 6) (b := q7) (List.mem_of_getElem? (i := 8) rfl) (nrc (by decide) (nrc (by decide) (nrc (by decide) (nrc (by decide) (nrc (by decide) (nrc (by decide) (nrc (by decide) (nr (hR 14 (by decide) (by decide))))))))))
  refine B_X3_init_63 g hr (h15.shS (List.mem_of_getElem? (i := 8) rfl) rfl)  ?_
  have h16 := h15.int0 (k := 7) (List.mem_of_getElem? (i := 8) rfl) rfl
  refine B_X3_init_68 g hr (h16.shS (List.mem_of_getElem? (i := 8) rfl) rfl)  ?_
  have h17 := h16.int0 (k := 8) (List.mem_of_getElem? (i := 8) rfl) rfl
  exact B_X3_init_73 g hr ⟨by omega, by omega, rfl, q1, q2, q3, q4, q5, q6, q7, q8, h17⟩
/-- the model's numbers at the beginning -/
def mV : Nat → Int32 := upd (upd (upd (fun _ => 0) 38 (-1)) 39 (-1)) 40 (-1)
/-- the model's cells among those made -/
def gM (L : gL) (R : List (Nat × Nat × Nat)) (m : Nat) (X : Nat → Nat) : Prop := (52, m, mV) ∈ L ∧ ∀ p q, mTab[p]? = some q → (53 + p, X q.1, (fun _ => 0)) ∈ L ∧ (52, q.1, X q.1) ∈ R
theorem k_X12_init {a : Nat} (hd : 1 ≤ d) (h : gk μ0 ((52, a, (fun _ => 0)) :: L) R μ) (hfr : ∀ t, 52 ≤ t → t < 81 → t ∉ L.map (fun p => p.1)) (hR : ∀ t, 52 ≤ t → t < 81 → t ∉ R.map (fun r => r.1)) : xC d yX12_init cX12_init 1 none 28 13950 [.ref a] μ ro (fun r μ' => r = none ∧ ∃ L' R' X, gk μ0 L' R' μ' ∧ gM L' R' a X) := by
  refine I_X12_init (fun J g hr => ?_)
  refine B_X12_init_0 g hr  (by omega) ⟨by omega, by omega, fun q1 hq => ?_⟩
  have h1 := h.newS (i := 53) rfl (nmb rfl (hfr 53 (by decide) (by decide))) hq
  have h2 := h1.swap
  refine ⟨h2.shS (List.mem_of_getElem? (i := 0) rfl) rfl, ?_⟩
  have h3 := h2.ref (k := 1) (b := q1) (List.mem_of_getElem? (i := 0) rfl) (nr (hR 52 (by decide) (by decide)))
  refine B_X12_init_13 g hr   ⟨by omega, by omega, fun q2 hq => ?_⟩
  have h4 := h3.newS (i := 54) rfl (nmb rfl (nmb rfl (hfr 54 (by decide) (by decide)))) hq
  have h5 := h4.swap
  refine ⟨h5.shS (List.mem_of_getElem? (i := 0) rfl) rfl, ?_⟩
  have h6 := h5.ref (k := 7) (b := q2) (List.mem_of_getElem? (i := 0) rfl) (nrc (by decide) (nr (hR 52 (by decide) (by decide))))
  refine B_X12_init_21 g hr   ⟨by omega, by omega, fun q3 hq => ?_⟩
  have h7 := h6.newS (i := 55) rfl (nmb rfl (nmb rfl (nmb rfl (hfr 55 (by decide) (by decide))))) hq
  have h8 := h7.swap
  refine ⟨h8.shS (List.mem_of_getElem? (i := 0) rfl) rfl, ?_⟩
  have h9 := h8.ref (k := 8) (b := q3) (List.mem_of_getElem? (i := 0) rfl) (nrc (by decide) (nrc (by decide) (nr (hR 52 (by decide) (by decide)))))
  refine B_X12_init_29 g hr   ⟨by omega, by omega, fun q4 hq => ?_⟩
  have h10 := h9.newS (i := 56) rfl (nmb rfl (nmb rfl (nmb rfl (nmb rfl (hfr 56 (by decide) (by decide)))))) hq
  have h11 := h10.swap
  refine ⟨h11.shS (List.mem_of_getElem? (i := 0) rfl) rfl, ?_⟩
  have h12 := h11.ref (k := 9) (b := q4) (List.mem_of_getElem? (i := 0) rfl) (nrc (by decide) (nrc (by decide) (nrc (by decide) (nr (hR 52 (by decide) (by decide))))))
  refine B_X12_init_37 g hr   ⟨by omega, by omega, fun q5 hq => ?_⟩
  have h13 := h12.newS (i := 57) rfl (nmb rfl (nmb rfl (nmb rfl (nmb rfl (nmb rfl (hfr 57 (by decide) (by decide))))))) hq
  have h14 := h13.swap
  refine ⟨h14.shS (List.mem_of_getElem? (i := 0) rfl) rfl, ?_⟩
  have h15 := h14.ref (k := 10) (b := q5) (List.mem_of_getElem? (i := 0) rfl) (nrc (by decide) (nrc (by decide) (nrc (by decide) (nrc (by decide) (nr (hR 52 (by decide) (by decide)))))))
  refine B_X12_init_45 g hr   ⟨by omega, by omega, fun q6 hq => ?_⟩
  have h16 := h15.newS (i := 58) rfl (nmb rfl (nmb rfl (nmb rfl (nmb rfl (nmb rfl (nmb rfl (hfr 58 (by decide) (by decide)))))))) hq
  have h17 := h16.swap
  refine ⟨h17.shS (List.mem_of_getElem? (i := 0) rfl) rfl, ?_⟩
  have h18 := h17.ref (k := 11) (b := q6) (List.mem_of_getElem? (i := 0) rfl) (nrc (by decide) (nrc (by decide) (nrc (by decide) (nrc (by decide) (nrc (by decide) (nr (hR 52 (by decide) (by decide))))))))
  refine B_X12_init_54 g hr   ⟨by omega, by omega, fun q7 hq => ?_⟩
  have h19 := h18.newS (i := 59) rfl (nmb rfl (nmb rfl (nmb rfl (nmb rfl (nmb rfl (nmb rfl (nmb rfl (hfr 59 (by decide) (by decide))))))))) hq
  have h20 := h19.swap
  refine ⟨h20.shS (List.mem_of_getElem? (i := 0) rfl) rfl, ?_⟩
  have h21 := h20.ref (k := 12) (b := q7) (List.mem_of_getElem? (i := 0) rfl) (nrc (by decide) (nrc (by decide) (nrc (by decide) (nrc (by decide) (nrc (by decide) (nrc (by decide) (nr (hR 52 (by decide) (by decide)))))))))
  refine B_X12_init_63 g hr   ⟨by omega, by omega, fun q8 hq => ?_⟩
  have h22 := h21.newS (i := 60) rfl (nmb rfl (nmb rfl (nmb rfl (nmb rfl (nmb rfl (nmb rfl (nmb rfl (nmb rfl (hfr 60 (by decide) (by decide)))))))))) hq
  have h23 := h22.swap
  refine ⟨h23.shS (List.mem_of_getElem? (i := 0) rfl) rfl, ?_⟩
  have h24 := h23.ref (k := 13) (b := q8) (List.mem_of_getElem? (i := 0) rfl) (nrc (by decide) (nrc (by decide) (nrc (by decide) (nrc (by decide) (nrc (by decide) (nrc (by decide) (nrc (by decide) (nr (hR 52 (by decide) (by decide))))))))))
  refine B_X12_init_71 g hr   ⟨by omega, by omega, fun q9 hq => ?_⟩
  have h25 := h24.newS (i := 61) rfl (nmb rfl (nmb rfl (nmb rfl (nmb rfl (nmb rfl (nmb rfl (nmb rfl (nmb rfl (nmb rfl (hfr 61 (by decide) (by decide))))))))))) hq
  have h26 := h25.swap
  refine ⟨h26.shS (List.mem_of_getElem? (i := 0) rfl) rfl, ?_⟩
  have h27 := h26.ref (k := 14) (b := q9) (List.mem_of_getElem? (i := 0) rfl) (nrc (by decide) (nrc (by decide) (nrc (by decide) (nrc (by decide) (nrc (by decide) (nrc (by decide) (nrc (by decide) (nrc (by decide) (nr (hR 52 (by decide) (by decide)))))))))))
  refine B_X12_init_78 g hr   ⟨by omega, by omega, fun q10 hq => ?_⟩
  have h28 := h27.newS (i := 62) rfl (nmb rfl (nmb rfl (nmb rfl (nmb rfl (nmb rfl (nmb rfl (nmb rfl (nmb rfl (nmb rfl (nmb rfl (hfr 62 (by decide) (by decide)))))))))))) hq
  have h29 := h28.swap
  refine ⟨h29.shS (List.mem_of_getElem? (i := 0) rfl) rfl, ?_⟩
  have h30 := h29.ref (k := 15) (b := q10) (List.mem_of_getElem? (i := 0) rfl) (nrc (by decide) (nrc (by decide) (nrc (by decide) (nrc (by decide) (nrc (by decide) (nrc (by decide) (nrc (by decide) (nrc (by decide) (nrc (by decide) (nr (hR 52 (by decide) (by decide))))))))))))
  refine B_X12_init_86 g hr   ⟨by omega, by omega, fun q11 hq => ?_⟩
  have h31 := h30.newS (i := 63) rfl (nmb rfl (nmb rfl (nmb rfl (nmb rfl (nmb rfl (nmb rfl (nmb rfl (nmb rfl (nmb rfl (nmb rfl (nmb rfl (hfr 63 (by decide) (by decide))))))))))))) hq
  have h32 := h31.swap
  refine ⟨h32.shS (List.mem_of_getElem? (i := 0) rfl) rfl, ?_⟩
  have h33 := h32.ref (k := 16) (b := q11) (List.mem_of_getElem? (i := 0) rfl) (nrc (by decide) (nrc (by decide) (nrc (by decide) (nrc (by decide) (nrc (by decide) (nrc (by decide) (nrc (by decide) (nrc (by decide) (nrc (by decide) (nrc (by decide) (nr (hR 52 (by decide) (by decide)))))))))))))
  refine B_X12_init_94 g hr   ⟨by omega, by omega, fun q12 hq => ?_⟩
  have h34 := h33.newS (i := 64) rfl (nmb rfl (nmb rfl (nmb rfl (nmb rfl (nmb rfl (nmb rfl (nmb rfl (nmb rfl (nmb rfl (nmb rfl (nmb rfl (nmb rfl (hfr 64 (by decide) (by decide)))))))))))))) hq
  have h35 := h34.swap
  refine ⟨h35.shS (List.mem_of_getElem? (i := 0) rfl) rfl, ?_⟩
  have h36 := h35.ref (k := 17) (b := q12) (List.mem_of_getElem? (i := 0) rfl) (nrc (by decide) (nrc (by decide) (nrc (by decide) (nrc (by decide) (nrc (by decide) (nrc (by decide) (nrc (by decide) (nrc (by decide) (nrc (by decide) (nrc (by decide) (nrc (by decide) (nr (hR 52 (by decide) (by decide))))))))))))))
  refine B_X12_init_102 g hr   ⟨by omega, by omega, fun q13 hq => ?_⟩
  have h37 := h36.newS (i := 65) rfl (nmb rfl (nmb rfl (nmb rfl (nmb rfl (nmb rfl (nmb rfl (nmb rfl (nmb rfl (nmb rfl (nmb rfl (nmb rfl (nmb rfl (nmb rfl (hfr 65 (by decide) (by decide))))))))))))))) hq
  have h38 := h37.swap
  refine ⟨h38.shS (List.mem_of_getElem? (i := 0) rfl) rfl, ?_⟩
  have h39 := h38.ref (k := 18) (b := q13) (List.mem_of_getElem? (i := 0) rfl) (nrc (by decide) (nrc (by decide) (nrc (by decide) (nrc (by decide) (nrc (by decide) (nrc (by decide) (nrc (by decide) (nrc (by decide) (nrc (by decide) (nrc (by decide) (nrc (by decide) (nrc (by decide) (nr (hR 52 (by decide) (by decide)))))))))))))))
  refine B_X12_init_110 g hr   ⟨by omega, by omega, fun q14 hq => ?_⟩
  have h40 := h39.newS (i := 66) rfl (nmb rfl (nmb rfl (nmb rfl (nmb rfl (nmb rfl (nmb rfl (nmb rfl (nmb rfl (nmb rfl (nmb rfl (nmb rfl (nmb rfl (nmb rfl (nmb rfl (hfr 66 (by decide) (by decide)))))))))))))))) hq
  have h41 := h40.swap
  refine ⟨h41.shS (List.mem_of_getElem? (i := 0) rfl) rfl, ?_⟩
  have h42 := h41.ref (k := 28) (b := q14) (List.mem_of_getElem? (i := 0) rfl) (nrc (by decide) (nrc (by decide) (nrc (by decide) (nrc (by decide) (nrc (by decide) (nrc (by decide) (nrc (by decide) (nrc (by decide) (nrc (by decide) (nrc (by decide) (nrc (by decide) (nrc (by decide) (nrc (by decide) (nr (hR 52 (by decide) (by decide))))))))))))))))
  refine B_X12_init_119 g hr   ⟨by omega, by omega, fun q15 hq => ?_⟩
  have h43 := h42.newS (i := 67) rfl (nmb rfl (nmb rfl (nmb rfl (nmb rfl (nmb rfl (nmb rfl (nmb rfl (nmb rfl (nmb rfl (nmb rfl (nmb rfl (nmb rfl (nmb rfl (nmb rfl (nmb rfl (hfr 67 (by decide) (by decide))))))))))))))))) hq
  have h44 := h43.swap
  refine ⟨h44.shS (List.mem_of_getElem? (i := 0) rfl) rfl, ?_⟩
  have h45 := h44.ref (k := 29) (b := q15) (List.mem_of_getElem? (i := 0) rfl) (nrc (by decide) (nrc (by decide) (nrc (by decide) (nrc (by decide) (nrc (by decide) (nrc (by decide) (nrc (by decide) (nrc (by decide) (nrc (by decide) (nrc (by decide) (nrc (by decide) (nrc (by decide) (nrc (by decide) (nrc (by decide) (nr (hR 52 (by decide) (by decide)))))))))))))))))
  refine B_X12_init_126 g hr   ⟨by omega, by omega, fun q16 hq => ?_⟩
  have h46 := h45.newS (i := 68) rfl (nmb rfl (nmb rfl (nmb rfl (nmb rfl (nmb rfl (nmb rfl (nmb rfl (nmb rfl (nmb rfl (nmb rfl (nmb rfl (nmb rfl (nmb rfl (nmb rfl (nmb rfl (nmb rfl (hfr 68 (by decide) (by decide)))))))))))))))))) hq
  have h47 := h46.swap
  refine ⟨h47.shS (List.mem_of_getElem? (i := 0) rfl) rfl, ?_⟩
  have h48 := h47.ref (k := 30) (b := q16) (List.mem_of_getElem? (i := 0) rfl) (nrc (by decide) (nrc (by decide) (nrc (by decide) (nrc (by decide) (nrc (by decide) (nrc (by decide) (nrc (by decide) (nrc (by decide) (nrc (by decide) (nrc (by decide) (nrc (by decide) (nrc (by decide) (nrc (by decide) (nrc (by decide) (nrc (by decide) (nr (hR 52 (by decide) (by decide))))))))))))))))))
  refine B_X12_init_135 g hr   ⟨by omega, by omega, fun q17 hq => ?_⟩
  have h49 := h48.newS (i := 69) rfl (nmb rfl (nmb rfl (nmb rfl (nmb rfl (nmb rfl (nmb rfl (nmb rfl (nmb rfl (nmb rfl (nmb rfl (nmb rfl (nmb rfl (nmb rfl (nmb rfl (nmb rfl (nmb rfl (nmb rfl (hfr 69 (by decide) (by decide))))))))))))))))))) hq
  have h50 := h49.swap
  refine ⟨h50.shS (List.mem_of_getElem? (i := 0) rfl) rfl, ?_⟩
  have h51 := h50.ref (k := 31) (b := q17) (List.mem_of_getElem? (i := 0) rfl) (nrc (by decide) (nrc (by decide) (nrc (by decide) (nrc (by decide) (nrc (by decide) (nrc (by decide) (nrc (by decide) (nrc (by decide) (nrc (by decide) (nrc (by decide) (nrc (by decide) (nrc (by decide) (nrc (by decide) (nrc (by decide) (nrc (by decide) (nrc (by decide) (nr (hR 52 (by decide) (by decide)))))))))))))))))))
  refine B_X12_init_144 g hr   ⟨by omega, by omega, fun q18 hq => ?_⟩
  have h52 := h51.newS (i := 70) rfl (nmb rfl (nmb rfl (nmb rfl (nmb rfl (nmb rfl (nmb rfl (nmb rfl (nmb rfl (nmb rfl (nmb rfl (nmb rfl (nmb rfl (nmb rfl (nmb rfl (nmb rfl (nmb rfl (nmb rfl (nmb rfl (hfr 70 (by decide) (by decide)))))))))))))))))))) hq
  have h53 := h52.swap
  refine ⟨h53.shS (List.mem_of_getElem? (i := 0) rfl) rfl, ?_⟩
  have h54 := h53.ref (k := 32) (b := q18) (List.mem_of_getElem? (i := 0) rfl) (nrc (by decide) (nrc (by decide) (nrc (by decide) (nrc (by decide) (nrc (by decide) (nrc (by decide) (nrc (by decide) (nrc (by decide) (nrc (by decide) (nrc (by decide) (nrc (by decide) (nrc (by decide) (nrc (by decide) (nrc (by decide) (nrc (by decide) (nrc (by decide) (nrc (by decide) (nr (hR 52 (by decide) (by decide))))))))))))))))))))
  refine B_X12_init_153 g hr   ⟨by omega, by omega, fun q19 hq => ?_⟩
  have h55 := h54.newS (i := 71) rfl (nmb rfl (nmb rfl (nmb rfl (nmb rfl (nmb rfl (nmb rfl (nmb rfl (nmb rfl (nmb rfl (nmb rfl (nmb rfl (nmb rfl (nmb rfl (nmb rfl (nmb rfl (nmb rfl (nmb rfl (nmb rfl (nmb rfl (hfr 71 (by decide) (by decide))))))))))))))))))))) hq
  have h56 := h55.swap
  refine ⟨h56.shS (List.mem_of_getElem? (i := 0) rfl) rfl, ?_⟩
  have h57 := h56.ref (k := 33) (b := q19) (List.mem_of_getElem? (i := 0) rfl) (nrc (by decide) (nrc (by decide) (nrc (by decide) (nrc (by decide) (nrc (by decide) (nrc (by decide) (nrc (by decide) (nrc (by decide) (nrc (by decide) (nrc (by decide) (nrc (by decide) (nrc (by decide) (nrc (by decide) (nrc (by decide) (nrc (by decide) (nrc (by decide) (nrc (by decide) (nrc (by decide) (nr (hR 52 (by decide) (by decide)))))))))))))))))))))
  refine B_X12_init_162 g hr (h57.shS (List.mem_of_getElem? (i := 0) rfl) rfl)  ?_
  have h58 := h57.intH (k := 38) (x := (-1)) (nmb rfl (nmb rfl (nmb rfl (nmb rfl (nmb rfl (nmb rfl (nmb rfl (nmb rfl (nmb rfl (nmb rfl (nmb rfl (nmb rfl (nmb rfl (nmb rfl (nmb rfl (nmb rfl (nmb rfl (nmb rfl (nmb rfl (hfr 52 (by decide) (by decide)))))))))))))))))))))
  refine B_X12_init_167 g hr (h58.shS (List.mem_of_getElem? (i := 0) rfl) rfl)  ?_
  have h59 := h58.intH (k := 39) (x := (-1)) (nmb rfl (nmb rfl (nmb rfl (nmb rfl (nmb rfl (nmb rfl (nmb rfl (nmb rfl (nmb rfl (nmb rfl (nmb rfl (nmb rfl (nmb rfl (nmb rfl (nmb rfl (nmb rfl (nmb rfl (nmb rfl (nmb rfl (hfr 52 (by decide) (by decide)))))))))))))))))))))
  refine B_X12_init_172 g hr (h59.shS (List.mem_of_getElem? (i := 0) rfl) rfl)  ?_
  have h60 := h59.intH (k := 40) (x := (-1)) (nmb rfl (nmb rfl (nmb rfl (nmb rfl (nmb rfl (nmb rfl (nmb rfl (nmb rfl (nmb rfl (nmb rfl (nmb rfl (nmb rfl (nmb rfl (nmb rfl (nmb rfl (nmb rfl (nmb rfl (nmb rfl (nmb rfl (hfr 52 (by decide) (by decide)))))))))))))))))))))
  refine B_X12_init_177 g hr   ⟨by omega, by omega, fun q20 hq => ?_⟩
  have h61 := h60.newS (i := 72) rfl (nmb rfl (nmb rfl (nmb rfl (nmb rfl (nmb rfl (nmb rfl (nmb rfl (nmb rfl (nmb rfl (nmb rfl (nmb rfl (nmb rfl (nmb rfl (nmb rfl (nmb rfl (nmb rfl (nmb rfl (nmb rfl (nmb rfl (nmb rfl (hfr 72 (by decide) (by decide)))))))))))))))))))))) hq
  have h62 := h61.swap
  refine ⟨h62.shS (List.mem_of_getElem? (i := 0) rfl) rfl, ?_⟩
  have h63 := h62.ref (k := 43) (b := q20) (List.mem_of_getElem? (i := 0) rfl) (nrc (by decide) (nrc (by decide) (nrc (by decide) (nrc (by decide) (nrc (by decide) (nrc (by decide) (nrc (by decide) (nrc (by decide) (nrc (by decide) (nrc (by decide) (nrc (by decide) (nrc (by decide) (nrc (by decide) (nrc (by decide) (nrc (by decide) (nrc (by decide) (nrc (by decide) (nrc (by decide) (nrc (by decide) (nr (hR 52 (by decide) (by decide))))))))))))))))))))))
  refine B_X12_init_185 g hr   ⟨by omega, by omega, fun q21 hq => ?_⟩
  have h64 := h63.newS (i := 73) rfl (nmb rfl (nmb rfl (nmb rfl (nmb rfl (nmb rfl (nmb rfl (nmb rfl (nmb rfl (nmb rfl (nmb rfl (nmb rfl (nmb rfl (nmb rfl (nmb rfl (nmb rfl (nmb rfl (nmb rfl (nmb rfl (nmb rfl (nmb rfl (nmb rfl (hfr 73 (by decide) (by decide))))))))))))))))))))))) hq
  have h65 := h64.swap
  refine ⟨h65.shS (List.mem_of_getElem? (i := 0) rfl) rfl, ?_⟩
  have h66 := h65.ref (k := 44) (b := q21) (List.mem_of_getElem? (i := 0) rfl) (nrc (by decide) (nrc (by decide) (nrc (by decide) (nrc (by decide) (nrc (by decide) (nrc (by decide) (nrc (by decide) (nrc (by decide) (nrc (by decide) (nrc (by decide) (nrc (by decide) (nrc (by decide) (nrc (by decide) (nrc (by decide) (nrc (by decide) (nrc (by decide) (nrc (by decide) (nrc (by decide) (nrc (by decide) (nrc (by decide) (nr (hR 52 (by decide) (by decide)))))))))))))))))))))))
  refine B_X12_init_192 g hr   ⟨by omega, by omega, fun q22 hq => ?_⟩
  have h67 := h66.newS (i := 74) rfl (nmb rfl (nmb rfl (nmb rfl (nmb rfl (nmb rfl (nmb rfl (nmb rfl (nmb rfl (nmb rfl (nmb rfl (nmb rfl (nmb rfl (nmb rfl (nmb rfl (nmb rfl (nmb rfl (nmb rfl (nmb rfl (nmb rfl (nmb rfl (nmb rfl (nmb rfl (hfr 74 (by decide) (by decide)))))))))))))))))))))))) hq
  have h68 := h67.swap
  refine ⟨h68.shS (List.mem_of_getElem? (i := 0) rfl) rfl, ?_⟩
  have h69 := h68.ref (k := 45) (b := q22) (List.mem_of_getElem? (i := 0) rfl) (nrc (by decide) (nrc (by decide) (nrc (by decide) (nrc (by decide) (nrc (by decide) (nrc (by decide) (nrc (by decide) (nrc (by decide) (nrc (by decide) (nrc (by decide) (nrc (by decide) (nrc (by decide) (nrc (by decide) (nrc (by decide) (nrc (by decide) (nrc (by decide) (nrc (by decide) (nrc (by decide) (nrc (by decide) (nrc (by decide) (nrc (by decide) (nr (hR 52 (by decide) (by decide))))))))))))))))))))))))
  refine B_X12_init_199 g hr   ⟨by omega, by omega, fun q23 hq => ?_⟩
  have h70 := h69.newS (i := 75) rfl (nmb rfl (nmb rfl (nmb rfl (nmb rfl (nmb rfl (nmb rfl (nmb rfl (nmb rfl (nmb rfl (nmb rfl (nmb rfl (nmb rfl (nmb rfl (nmb rfl (nmb rfl (nmb rfl (nmb rfl (nmb rfl (nmb rfl (nmb rfl (nmb rfl (nmb rfl (nmb rfl (hfr 75 (by decide) (by decide))))))))))))))))))))))))) hq
  have h71 := h70.swap
  refine ⟨h71.shS (List.mem_of_getElem? (i := 0) rfl) rfl, ?_⟩
  have h72 := h71.ref (k := 46) (b := q23) (List.mem_of_getElem? (i := 0) rfl) (nrc (by decide) (nrc (by decide) (nrc (by decide) (nrc (by decide) (nrc (by decide) (nrc (by decide) (nrc (by decide) (nrc (by decide) (nrc (by decide) (nrc (by decide) (nrc (by decide) (nrc (by decide) (nrc (by decide) (nrc (by decide) (nrc (by decide) (nrc (by decide) (nrc (by decide) (nrc (by decide) (nrc (by decide) (nrc (by decide) (nrc (by decide) (nrc (by decide) (nr (hR 52 (by decide) (by decide)))))))))))))))))))))))))
  refine B_X12_init_206 g hr   ⟨by omega, by omega, fun q24 hq => ?_⟩
  have h73 := h72.newS (i := 76) rfl (nmb rfl (nmb rfl (nmb rfl (nmb rfl (nmb rfl (nmb rfl (nmb rfl (nmb rfl (nmb rfl (nmb rfl (nmb rfl (nmb rfl (nmb rfl (nmb rfl (nmb rfl (nmb rfl (nmb rfl (nmb rfl (nmb rfl (nmb rfl (nmb rfl (nmb rfl (nmb rfl (nmb rfl (hfr 76 (by decide) (by decide)))))))))))))))))))))))))) hq
  have h74 := h73.swap
  refine ⟨h74.shS (List.mem_of_getElem? (i := 0) rfl) rfl, ?_⟩
  have h75 := h74.ref (k := 47) (b := q24) (List.mem_of_getElem? (i := 0) rfl) (nrc (by decide) (nrc (by decide) (nrc (by decide) (nrc (by decide) (nrc (by decide) (nrc (by decide) (nrc (by decide) (nrc (by decide) (nrc (by decide) (nrc (by decide) (nrc (by decide) (nrc (by decide) (nrc (by decide) (nrc (by decide) (nrc (by decide) (nrc (by decide) (nrc (by decide) (nrc (by decide) (nrc (by decide) (nrc (by decide) (nrc (by decide) (nrc (by decide) (nrc (by decide) (nr (hR 52 (by decide) (by decide))))))))))))))))))))))))))
  refine B_X12_init_213 g hr   ⟨by omega, by omega, fun q25 hq => ?_⟩
  have h76 := h75.newS (i := 77) rfl (nmb rfl (nmb rfl (nmb rfl (nmb rfl (nmb rfl (nmb rfl (nmb rfl (nmb rfl (nmb rfl (nmb rfl (nmb rfl (nmb rfl (nmb rfl (nmb rfl (nmb rfl (nmb rfl (nmb rfl (nmb rfl (nmb rfl (nmb rfl (nmb rfl (nmb rfl (nmb rfl (nmb rfl (nmb rfl (hfr 77 (by decide) (by decide))))))))))))))))))))))))))) hq
  have h77 := h76.swap
  refine ⟨h77.shS (List.mem_of_getElem? (i := 0) rfl) rfl, ?_⟩
  have h78 := h77.ref (k := 48) (b := q25) (List.mem_of_getElem? (i := 0) rfl) (nrc (by decide) (nrc (by decide) (nrc (by decide) (nrc (by decide) (nrc (by decide) (nrc (by decide) (nrc (by decide) (nrc (by decide) (nrc (by decide) (nrc (by decide) (nrc (by decide) (nrc (by decide) (nrc (by decide) (nrc (by decide) (nrc (by decide) (nrc (by decide) (nrc (by decide) (nrc (by decide) (nrc (by decide) (nrc (by decide) (nrc (by decide) (nrc (by decide) (nrc (by decide) (nrc (by decide) (nr (hR 52 (by decide) (by decide)))))))))))))))))))))))))))
  refine B_X12_init_220 g hr   ⟨by omega, by omega, fun q26 hq => ?_⟩
  have h79 := h78.newS (i := 78) rfl (nmb rfl (nmb rfl (nmb rfl (nmb rfl (nmb rfl (nmb rfl (nmb rfl (nmb rfl (nmb rfl (nmb rfl (nmb rfl (nmb rfl (nmb rfl (nmb rfl (nmb rfl (nmb rfl (nmb rfl (nmb rfl (nmb rfl (nmb rfl (nmb rfl (nmb rfl (nmb rfl (nmb rfl (nmb rfl (nmb rfl (hfr 78 (by decide) (by decide)))))))))))))))))))))))))))) hq
  have h80 := h79.swap
  refine ⟨h80.shS (List.mem_of_getElem? (i := 0) rfl) rfl, ?_⟩
  have h81 := h80.ref (k := 49) (b := q26) (List.mem_of_getElem? (i := 0) rfl) (nrc (by decide) (nrc (by decide) (nrc (by decide) (nrc (by decide) (nrc (by decide) (nrc (by decide) (nrc (by decide) (nrc (by decide) (nrc (by decide) (nrc (by decide) (nrc (by decide) (nrc (by decide) (nrc (by decide) (nrc (by decide) (nrc (by decide) (nrc (by decide) (nrc (by decide) (nrc (by decide) (nrc (by decide) (nrc (by decide) (nrc (by decide) (nrc (by decide) (nrc (by decide) (nrc (by decide) (nrc (by decide) (nr (hR 52 (by decide) (by decide))))))))))))))))))))))))))))
  refine B_X12_init_227 g hr   ⟨by omega, by omega, fun q27 hq => ?_⟩
  have h82 := h81.newS (i := 79) rfl (nmb rfl (nmb rfl (nmb rfl (nmb rfl (nmb rfl (nmb rfl (nmb rfl (nmb rfl (nmb rfl (nmb rfl (nmb rfl (nmb rfl (nmb rfl (nmb rfl (nmb rfl (nmb rfl (nmb rfl (nmb rfl (nmb rfl (nmb rfl (nmb rfl (nmb rfl (nmb rfl (nmb rfl (nmb rfl (nmb rfl (nmb rfl (hfr 79 (by decide) (by decide))))))))))))))))))))))))))))) hq
  have h83 := h82.swap
  refine ⟨h83.shS (List.mem_of_getElem? (i := 0) rfl) rfl, ?_⟩
  have h84 := h83.ref (k := 55) (b := q27) (List.mem_of_getElem? (i := 0) rfl) (nrc (by decide) (nrc (by decide) (nrc (by decide) (nrc (by decide) (nrc (by decide) (nrc (by decide) (nrc (by decide) (nrc (by decide) (nrc (by decide) (nrc (by decide) (nrc (by decide) (nrc (by decide) (nrc (by decide) (nrc (by decide) (nrc (by decide) (nrc (by decide) (nrc (by decide) (nrc (by decide) (nrc (by decide) (nrc (by decide) (nrc (by decide) (nrc (by decide) (nrc (by decide) (nrc (by decide) (nrc (by decide) (nrc (by decide) (nr (hR 52 (by decide) (by decide)))))))))))))))))))))))))))))
  refine B_X12_init_235 g hr   ⟨by omega, by omega, fun q28 hq => ?_⟩
  have h85 := h84.newS (i := 80) rfl (nmb rfl (nmb rfl (nmb rfl (nmb rfl (nmb rfl (nmb rfl (nmb rfl (nmb rfl (nmb rfl (nmb rfl (nmb rfl (nmb rfl (nmb rfl (nmb rfl (nmb rfl (nmb rfl (nmb rfl (nmb rfl (nmb rfl (nmb rfl (nmb rfl (nmb rfl (nmb rfl (nmb rfl (nmb rfl (nmb rfl (nmb rfl (nmb rfl (hfr 80 (by decide) (by decide)))))))))))))))))))))))))))))) hq
  have h86 := h85.swap
  refine ⟨h86.shS (List.mem_of_getElem? (i := 0) rfl) rfl, ?_⟩
  have h87 := h86.ref (k := 63) (b := q28) (List.mem_of_getElem? (i := 0) rfl) (nrc (by decide) (nrc (by decide) (nrc (by decide) (nrc (by decide) (nrc (by decide) (nrc (by decide) (nrc (by decide) (nrc (by decide) (nrc (by decide) (nrc (by decide) (nrc (by decide) (nrc (by decide) (nrc (by decide) (nrc (by decide) (nrc (by decide) (nrc (by decide) (nrc (by decide) (nrc (by decide) (nrc (by decide) (nrc (by decide) (nrc (by decide) (nrc (by decide) (nrc (by decide) (nrc (by decide) (nrc (by decide) (nrc (by decide) (nrc (by decide) (nr (hR 52 (by decide) (by decide))))))))))))))))))))))))))))))
  refine B_X12_init_244 g hr ⟨by omega, by omega, rfl, _, _, (fun i => ([0, q1, 0, 0, 0, 0, 0, q2, q3, q4, q5, q6, q7, q8, q9, q10, q11, q12, q13, 0, 0, 0, 0, 0, 0, 0, 0, 0, q14, q15, q16, q17, q18, q19, 0, 0, 0, 0, 0, 0, 0, 0, 0, q20, q21, q22, q23, q24, q25, q26, 0, 0, 0, 0, 0, q27, 0, 0, 0, 0, 0, 0, 0, q28] : List Nat).getD i 0), h87, List.mem_of_getElem? (i := 0) rfl, fun p q hq => ?_⟩
  match p, q, hq with
    | 0, q, hq => cases hq; exact ⟨List.mem_of_getElem? (i := 28) rfl, List.mem_of_getElem? (i := 27) rfl⟩
    | 1, q, hq => cases hq; exact ⟨List.mem_of_getElem? (i := 27) rfl, List.mem_of_getElem? (i := 26) rfl⟩
    | 2, q, hq => cases hq; exact ⟨List.mem_of_getElem? (i := 26) rfl, List.mem_of_getElem? (i := 25) rfl⟩
    | 3, q, hq => cases hq; exact ⟨List.mem_of_getElem? (i := 25) rfl, List.mem_of_getElem? (i := 24) rfl⟩
    | 4, q, hq => cases hq; exact ⟨List.mem_of_getElem? (i := 24) rfl, List.mem_of_getElem? (i := 23) rfl⟩
    | 5, q, hq => cases hq; exact ⟨List.mem_of_getElem? (i := 23) rfl, List.mem_of_getElem? (i := 22) rfl⟩
    | 6, q, hq => cases hq; exact ⟨List.mem_of_getElem? (i := 22) rfl, List.mem_of_getElem? (i := 21) rfl⟩
    | 7, q, hq => cases hq; exact ⟨List.mem_of_getElem? (i := 21) rfl, List.mem_of_getElem? (i := 20) rfl⟩
    | 8, q, hq => cases hq; exact ⟨List.mem_of_getElem? (i := 20) rfl, List.mem_of_getElem? (i := 19) rfl⟩
    | 9, q, hq => cases hq; exact ⟨List.mem_of_getElem? (i := 19) rfl, List.mem_of_getElem? (i := 18) rfl⟩
    | 10, q, hq => cases hq; exact ⟨List.mem_of_getElem? (i := 18) rfl, List.mem_of_getElem? (i := 17) rfl⟩
    | 11, q, hq => cases hq; exact ⟨List.mem_of_getElem? (i := 17) rfl, List.mem_of_getElem? (i := 16) rfl⟩
    | 12, q, hq => cases hq; exact ⟨List.mem_of_getElem? (i := 16) rfl, List.mem_of_getElem? (i := 15) rfl⟩
    | 13, q, hq => cases hq; exact ⟨List.mem_of_getElem? (i := 15) rfl, List.mem_of_getElem? (i := 14) rfl⟩
    | 14, q, hq => cases hq; exact ⟨List.mem_of_getElem? (i := 14) rfl, List.mem_of_getElem? (i := 13) rfl⟩
    | 15, q, hq => cases hq; exact ⟨List.mem_of_getElem? (i := 13) rfl, List.mem_of_getElem? (i := 12) rfl⟩
    | 16, q, hq => cases hq; exact ⟨List.mem_of_getElem? (i := 12) rfl, List.mem_of_getElem? (i := 11) rfl⟩
    | 17, q, hq => cases hq; exact ⟨List.mem_of_getElem? (i := 11) rfl, List.mem_of_getElem? (i := 10) rfl⟩
    | 18, q, hq => cases hq; exact ⟨List.mem_of_getElem? (i := 10) rfl, List.mem_of_getElem? (i := 9) rfl⟩
    | 19, q, hq => cases hq; exact ⟨List.mem_of_getElem? (i := 9) rfl, List.mem_of_getElem? (i := 8) rfl⟩
    | 20, q, hq => cases hq; exact ⟨List.mem_of_getElem? (i := 8) rfl, List.mem_of_getElem? (i := 7) rfl⟩
    | 21, q, hq => cases hq; exact ⟨List.mem_of_getElem? (i := 7) rfl, List.mem_of_getElem? (i := 6) rfl⟩
    | 22, q, hq => cases hq; exact ⟨List.mem_of_getElem? (i := 6) rfl, List.mem_of_getElem? (i := 5) rfl⟩
    | 23, q, hq => cases hq; exact ⟨List.mem_of_getElem? (i := 5) rfl, List.mem_of_getElem? (i := 4) rfl⟩
    | 24, q, hq => cases hq; exact ⟨List.mem_of_getElem? (i := 4) rfl, List.mem_of_getElem? (i := 3) rfl⟩
    | 25, q, hq => cases hq; exact ⟨List.mem_of_getElem? (i := 3) rfl, List.mem_of_getElem? (i := 2) rfl⟩
    | 26, q, hq => cases hq; exact ⟨List.mem_of_getElem? (i := 2) rfl, List.mem_of_getElem? (i := 1) rfl⟩
    | 27, q, hq => cases hq; exact ⟨List.mem_of_getElem? (i := 1) rfl, List.mem_of_getElem? (i := 0) rfl⟩
    | p + 28, q, hq => cases hq
end ctr2
