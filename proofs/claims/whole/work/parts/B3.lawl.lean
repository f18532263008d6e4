/-- the law's own firm, as it is called -/
def FM (J : JT) (mc ms x m w : Nat) (X : Nat → Nat) : Prop := ∀ (μ : Hp) (k n : Nat) (lv : List (Nat × Value)) (A : Nat → Nat) (S : St) (v y : Int32), k + 448 ≤ mc → n + 5600 ≤ ms → LI x m w A X S μ → (∀ (μ' : Hp) (r : Int32), LI x m w A X S μ' → (firmOk S.B v y → r = 0 ∧ hL μ' w 0 = (aFirm S.B S.f v y).toInt64) → (¬ firmOk S.B v y → r = 1) → J μ' (k + 448) (n + 5600) 426 lv [.int r]) → J μ k n 423 lv [.ref w, .int y, .int v, .ref x]
section lawd
variable {d mc ms : Nat} {yn : String} {ro : Nat → Nat} {J : JT} {b0 Ls : Nat} {xs : Nat → Int32} {i x m w k n : Nat} {A X : Nat → Nat} {S : St} {μ : Hp}
theorem LI.tup (h : LI x m w A X S μ) : (A 0 = x ∧ cR μ A S) ∧ mR μ m X S ∧ hS μ w = some (2, 1) ∧ (∃ b N l, sb μ (A 30) b N l ∧ b ∉ mK.map X) ∧ ∀ i, i < 51 → A i ∉ mK.map X := ⟨h.1, h.2.1, h.2.2.2.1, h.2.2.2.2.1, h.2.2.2.2.2⟩
theorem m_thrown {z : Int32} (hs : hS μ m = some (15, 65)) (hz : hI μ m 0 = z) : xC d yX12_thrown cX12_thrown 1 (some .int) 0 0 [.ref m] μ ro (fun r μ' => r = some (.int z) ∧ μ' = μ) := by
  refine I_X12_thrown (fun J g hr => B_X12_thrown_0 g hr hs ?_)
  rw [hz]
  exact ⟨rfl, rfl⟩
theorem sub7 {a b : Nat} (ha : a < 2 ^ 30) (hb : b < 2 ^ 30) : nI a - 7 < nI b ↔ a < b + 7 := by
  rw [Int32.lt_iff_toInt_lt, Int32.toInt_sub, nI_toInt (by omega), nI_toInt (by omega)]
  show Int.bmod ((a : Int) - 7) 4294967296 < (b : Int) ↔ _
  simp only [Int.bmod]
  split <;> omega
theorem L_case_5 (g : xCtx RL cL_law 7 d mc ms yn ro J) (hd : 40 ≤ d) (hsl : SL J b0 Ls xs) (hfm : FM J mc ms x m w X) (hi : i + 7 ≤ Ls) (hk : k + 448 ≤ mc) (hn : n + 5600 ≤ ms) (h : LI x m w A X S μ) (nx : ∀ A' S' μ', LI x m w A' X S' μ' → J μ' (k + 448) (n + 5600) 2363 [(4, .int (nI i)), (3, .ref w), (2, .ref m), (1, .ref x), (0, .ref b0)] []) : J μ k n 409 [(4, .int (nI i)), (3, .ref w), (2, .ref m), (1, .ref x), (0, .ref b0)] [] := by
  refine r_aload_n g dL_law_409 rfl ?_
  refine r_aload_n g dL_law_410 rfl ?_
  refine r_iload g dL_law_411 rfl ?_
  refine r_iconst g 1 dL_law_413 (by decide) ?_
  refine r_iadd g dL_law_414 ?_
  refine r_nmV (.int (nI (i + 1))) (by rw [nIadd]; rfl) ?_
  refine hsl _ _ _ _ _ _ (i + 1) (by omega) dL_law_415 ?_
  refine r_aload_n g dL_law_416 rfl ?_
  refine r_iload g dL_law_417 rfl ?_
  refine r_iconst g 2 dL_law_419 (by decide) ?_
  refine r_iadd g dL_law_420 ?_
  refine r_nmV (.int (nI (i + 2))) (by rw [nIadd]; rfl) ?_
  refine hsl _ _ _ _ _ _ (i + 2) (by omega) dL_law_421 ?_
  refine r_aload_n g dL_law_422 rfl ?_
  refine hfm _ _ _ _ _ _ _ _ hk hn h (fun μ1 r h1 f1 f2 => ?_)
  refine r_istore g [(5, .int r), (4, .int (nI i)), (3, .ref w), (2, .ref m), (1, .ref x), (0, .ref b0)] dL_law_426 (by decide) rfl ?_
  refine r_aload_n g dL_law_428 rfl ?_
  refine r_aload_n g dL_law_429 rfl ?_
  refine r_iload g dL_law_430 rfl ?_
  refine r_iconst g 1 dL_law_432 (by decide) ?_
  refine r_iadd g dL_law_433 ?_
  refine r_nmV (.int (nI (i + 1))) (by rw [nIadd]; rfl) ?_
  refine hsl _ _ _ _ _ _ (i + 1) (by omega) dL_law_434 ?_
  refine r_aload_n g dL_law_435 rfl ?_
  refine r_iload g dL_law_436 rfl ?_
  refine r_iconst g 2 dL_law_438 (by decide) ?_
  refine r_iadd g dL_law_439 ?_
  refine r_nmV (.int (nI (i + 2))) (by rw [nIadd]; rfl) ?_
  refine hsl _ _ _ _ _ _ (i + 2) (by omega) dL_law_440 ?_
  refine r_callV (d' := d - 1) (st := []) (As := [.int (xs (i + 1)), .int (xs (i + 2))]) g sL_47 iX12_firm eX12_firm (show vwCl[11]? = some (RX12, TX12, 65) from rfl) h1.2.1.1.1.1.1 rfl (Nat.le_of_ble_eq_true rfl) dL_law_441 (by omega) (by omega) (by omega) (m_firm (by omega) h1.2.1.1) (fun r2 μ2 hz => ?_)
  obtain ⟨hq, e1, e2, e3⟩ := hz
  have hN := LI.mdl h1.tup (h1.2.1.fr hq) hq.out h1.2.2.1
  obtain ⟨y2, rfl⟩ : ∃ y : Int32, r2 = some (.int y) := by
    by_cases hf : firmOk S.B (xs (i + 1)) (xs (i + 2))
    · exact ⟨_, (e3 hf).2⟩
    · exact e2 hf
  have er : hI μ2 m 0 = r := by
    by_cases hf : firmOk S.B (xs (i + 1)) (xs (i + 2))
    · rw [(e3 hf).1, (f1 hf).1]
    · rw [e1 hf, f2 hf]
  have eb : r = 0 ∨ r = 1 := by
    by_cases hf : firmOk S.B (xs (i + 1)) (xs (i + 2))
    · exact Or.inl (f1 hf).1
    · exact Or.inr (f2 hf)
  refine r_istore g [(6, .int y2), (5, .int r), (4, .int (nI i)), (3, .ref w), (2, .ref m), (1, .ref x), (0, .ref b0)] dL_law_444 (by decide) rfl ?_
  refine r_aload_n g dL_law_446 rfl ?_
  refine r_callV (d' := d - 1) (st := []) (As := []) g sL_48 iX12_thrown eX12_thrown (show vwCl[11]? = some (RX12, TX12, 65) from rfl) hN.2.1.1.1.1.1 rfl (Nat.le_of_ble_eq_true rfl) dL_law_447 (by omega) (by omega) (by omega) (m_thrown hN.2.1.1.1.1.1 er) (fun r3 μ3 hz => ?_)
  obtain ⟨rfl, rfl⟩ := hz
  refine r_iload g dL_law_450 rfl ?_
  refine r_icmp_eq g 457 dL_law_452 (by decide) (fun _ => ?_) (fun c => absurd (rfl) c)
  refine r_iload g dL_law_457 rfl ?_
  have fin : J μ3 (k + 448) (n + 5600) 474 [(6, .int y2), (5, .int r), (4, .int (nI i)), (3, .ref w), (2, .ref m), (1, .ref x), (0, .ref b0)] [] := by
    refine r_goto g 2363 dL_law_474 (by decide) ?_
    refine r_sub g (lv' := [(4, .int (nI i)), (3, .ref w), (2, .ref m), (1, .ref x), (0, .ref b0)]) (⟨rfl, rfl, rfl, rfl, rfl, trivial⟩) ?_
    exact nx _ _ _ hN
  refine r_if_ne g 474 dL_law_459 (by decide) (fun _ => fin) (fun c => ?_)
  have hf : firmOk S.B (xs (i + 1)) (xs (i + 2)) := by
    by_cases hf : firmOk S.B (xs (i + 1)) (xs (i + 2))
    · exact hf
    · rw [f2 hf] at c; exact absurd c (by decide)
  refine r_aload_n g dL_law_462 rfl ?_
  refine r_iconst g 0 dL_law_463 (by decide) ?_
  refine r_laload g hN.2.2.2.1 (vp_in_nI (n := 0) (by omega) (by omega)) dL_law_464 ?_
  refine r_iload g dL_law_465 rfl ?_
  refine r_i2l g dL_law_467 ?_
  refine r_lcmp g dL_law_468 ?_
  refine r_if_eq g 474 dL_law_469 (by decide) (fun _ => fin) (fun c2 => absurd ?_ c2)
  have ey : y2 = aFirm S.B S.f (xs (i + 1)) (xs (i + 2)) := by
    have := (e3 hf).2
    cases this
    rfl
  rw [lg_cmp_eq, ey, hq.1.1]
  exact (f1 hf).2
theorem L_loop (g : xCtx RL cL_law 7 d mc ms yn ro J) (hd : 40 ≤ d) (hsl : SL J b0 Ls xs) (hsn : ∀ (μ : Hp) (k n pc : Nat) (lv : List (Nat × Value)) (st : List Value), decode cL_law pc = .ok (.arraylength, 1) → J μ k n (pc + 1) lv (.int (nI Ls) :: st) → J μ k n pc lv (.ref b0 :: st)) (hend : ∀ (μ : Hp) (k n : Nat) (lv : List (Nat × Value)), k ≤ mc → n ≤ ms → J μ k n 2370 lv [.int 1]) (hfm : FM J mc ms x m w X) (hLs : Ls ≤ 3584) : ∀ r i k n A S μ, Ls ≤ i + 7 * r → i < 4000 → k + 448 * r ≤ mc → n + 5600 * r ≤ ms → LI x m w A X S μ → J μ k n 23 [(4, .int (nI i)), (3, .ref w), (2, .ref m), (1, .ref x), (0, .ref b0)] [] := by
  intro r
  induction r with
  | zero =>
    intro i k n A S μ hi hi4 hk hn h
    refine r_iload g dL_law_23 rfl ?_
    refine r_aload_n g dL_law_25 rfl ?_
    refine hsn _ _ _ _ _ _ dL_law_26 ?_
    refine r_bipush g 7 dL_law_27 (by decide) ?_
    refine r_isub g dL_law_29 ?_
    refine r_icmp_gt g 2369 dL_law_30 (by decide) (fun _ => ?_) (fun c => absurd ((sub7 (by omega) (by omega)).mpr (by omega)) c)
    refine r_iconst g 1 dL_law_2369 (by decide) ?_
    exact hend _ _ _ _ (by omega) (by omega)
  | succ r ih =>
    intro i k n A S μ hi hi4 hk hn h
    refine r_iload g dL_law_23 rfl ?_
    refine r_aload_n g dL_law_25 rfl ?_
    refine hsn _ _ _ _ _ _ dL_law_26 ?_
    refine r_bipush g 7 dL_law_27 (by decide) ?_
    refine r_isub g dL_law_29 ?_
    refine r_icmp_gt g 2369 dL_law_30 (by decide) (fun _ => ?_) (fun c => ?_)
    · refine r_iconst g 1 dL_law_2369 (by decide) ?_
      exact hend _ _ _ _ (by omega) (by omega)
    have hi7 : i + 7 ≤ Ls := Nat.le_of_not_lt fun q => c ((sub7 (by omega) (by omega)).mpr q)
    refine r_aload_n g dL_law_33 rfl ?_
    refine r_iload g dL_law_34 rfl ?_
    refine hsl _ _ _ _ _ _ i (by omega) dL_law_36 ?_
    refine r_bipush g 63 dL_law_37 (by decide) ?_
    refine r_iand g dL_law_39 ?_
    generalize xs i &&& 63 = v
    have hk1 : k + 448 ≤ mc := Nat.le_trans (Nat.add_le_add_left (Nat.le_mul_of_pos_right 448 (Nat.succ_pos r)) k) hk
    have hn1 : n + 5600 ≤ ms := Nat.le_trans (Nat.add_le_add_left (Nat.le_mul_of_pos_right 5600 (Nat.succ_pos r)) n) hn
    have nxt : ∀ A' S' μ' k' n', LI x m w A' X S' μ' → k' ≤ k + 448 → n' ≤ n + 5600 → J μ' k' n' 2363 [(4, .int (nI i)), (3, .ref w), (2, .ref m), (1, .ref x), (0, .ref b0)] [] := fun A' S' μ' k' n' h' hk' hn' => by
      refine r_iinc g (nI (i + 7)) [(4, .int (nI (i + 7))), (3, .ref w), (2, .ref m), (1, .ref x), (0, .ref b0)] dL_law_2363 rfl (by rw [nIadd]; rfl) (by decide) rfl ?_
      refine r_goto g 23 dL_law_2366 (by decide) ?_
      exact ih (i + 7) _ _ _ _ _ (by omega) (by omega) (by omega) (by omega) h'
    rcases sw_cases (x := v) 0 41 (by decide) (by decide) with c1 | ⟨z, hz1, hz2, c1⟩
    · refine r_tableOut g 2363 dL_law_40 c1 (by decide) ?_
      exact nxt _ _ _ _ _ h (Nat.le_add_right _ _) (Nat.le_add_right _ _)
    have hz : z = 0 ∨ z = 1 ∨ z = 2 ∨ z = 3 ∨ z = 4 ∨ z = 5 ∨ z = 6 ∨ z = 7 ∨ z = 8 ∨ z = 9 ∨ z = 10 ∨ z = 11 ∨ z = 12 ∨ z = 13 ∨ z = 14 ∨ z = 15 ∨ z = 16 ∨ z = 17 ∨ z = 18 ∨ z = 19 ∨ z = 20 ∨ z = 21 ∨ z = 22 ∨ z = 23 ∨ z = 24 ∨ z = 25 ∨ z = 26 ∨ z = 27 ∨ z = 28 ∨ z = 29 ∨ z = 30 ∨ z = 31 ∨ z = 32 ∨ z = 33 ∨ z = 34 ∨ z = 35 ∨ z = 36 ∨ z = 37 ∨ z = 38 ∨ z = 39 ∨ z = 40 ∨ z = 41 := by omega
    rcases hz with rfl | rfl | rfl | rfl | rfl | rfl | rfl | rfl | rfl | rfl | rfl | rfl | rfl | rfl | rfl | rfl | rfl | rfl | rfl | rfl | rfl | rfl | rfl | rfl | rfl | rfl | rfl | rfl | rfl | rfl | rfl | rfl | rfl | rfl | rfl | rfl | rfl | rfl | rfl | rfl | rfl | rfl
    · refine r_tableIn g 224 dL_law_40 (by rw [c1]; decide) (by rw [c1]; decide) (off := 184) (by rw [c1]; decide) (by decide) ?_
      exact L_case_0 g hd hsl hi7 hk1 hn1 h (fun A' S' μ' h' => nxt A' S' μ' _ _ h' (Nat.le_add_right _ _) (Nat.le_add_right _ _))
    · refine r_tableIn g 297 dL_law_40 (by rw [c1]; decide) (by rw [c1]; decide) (off := 257) (by rw [c1]; decide) (by decide) ?_
      exact L_case_1 g hd hsl hi7 hk1 hn1 h (fun A' S' μ' h' => nxt A' S' μ' _ _ h' (Nat.le_add_right _ _) (Nat.le_add_right _ _))
    · refine r_tableIn g 322 dL_law_40 (by rw [c1]; decide) (by rw [c1]; decide) (off := 282) (by rw [c1]; decide) (by decide) ?_
      exact L_case_2 g hd hsl hi7 hk1 hn1 h (fun A' S' μ' h' => nxt A' S' μ' _ _ h' (Nat.le_add_right _ _) (Nat.le_add_right _ _))
    · refine r_tableIn g 347 dL_law_40 (by rw [c1]; decide) (by rw [c1]; decide) (off := 307) (by rw [c1]; decide) (by decide) ?_
      exact L_case_3 g hd hsl hi7 hk1 hn1 h (fun A' S' μ' h' => nxt A' S' μ' _ _ h' (Nat.le_add_right _ _) (Nat.le_add_right _ _))
    · refine r_tableIn g 372 dL_law_40 (by rw [c1]; decide) (by rw [c1]; decide) (off := 332) (by rw [c1]; decide) (by decide) ?_
      exact L_case_4 g hd hsl hi7 hk1 hn1 h (fun A' S' μ' h' => nxt A' S' μ' _ _ h' (Nat.le_add_right _ _) (Nat.le_add_right _ _))
    · refine r_tableIn g 409 dL_law_40 (by rw [c1]; decide) (by rw [c1]; decide) (off := 369) (by rw [c1]; decide) (by decide) ?_
      exact L_case_5 g hd hsl hfm hi7 hk1 hn1 h (fun A' S' μ' h' => nxt A' S' μ' _ _ h' (Nat.le_refl _) (Nat.le_refl _))
    · refine r_tableIn g 477 dL_law_40 (by rw [c1]; decide) (by rw [c1]; decide) (off := 437) (by rw [c1]; decide) (by decide) ?_
      exact L_case_6 g hd hsl hi7 hk1 hn1 h (fun A' S' μ' h' => nxt A' S' μ' _ _ h' (Nat.le_add_right _ _) (Nat.le_add_right _ _))
    · refine r_tableIn g 526 dL_law_40 (by rw [c1]; decide) (by rw [c1]; decide) (off := 486) (by rw [c1]; decide) (by decide) ?_
      exact L_case_7 g hd hsl hi7 hk1 hn1 h (fun A' S' μ' h' => nxt A' S' μ' _ _ h' (Nat.le_add_right _ _) (Nat.le_add_right _ _))
    · refine r_tableIn g 563 dL_law_40 (by rw [c1]; decide) (by rw [c1]; decide) (off := 523) (by rw [c1]; decide) (by decide) ?_
      exact L_case_8 g hd hsl hi7 hk1 hn1 h (fun A' S' μ' h' => nxt A' S' μ' _ _ h' (Nat.le_add_right _ _) (Nat.le_add_right _ _))
    · refine r_tableIn g 624 dL_law_40 (by rw [c1]; decide) (by rw [c1]; decide) (off := 584) (by rw [c1]; decide) (by decide) ?_
      exact L_case_9 g hd hsl hi7 hk1 hn1 h (fun A' S' μ' h' => nxt A' S' μ' _ _ h' (Nat.le_add_right _ _) (Nat.le_add_right _ _))
    · refine r_tableIn g 697 dL_law_40 (by rw [c1]; decide) (by rw [c1]; decide) (off := 657) (by rw [c1]; decide) (by decide) ?_
      exact L_case_10 g hd hsl hi7 hk1 hn1 h (fun A' S' μ' h' => nxt A' S' μ' _ _ h' (Nat.le_add_right _ _) (Nat.le_add_right _ _))
    · refine r_tableIn g 770 dL_law_40 (by rw [c1]; decide) (by rw [c1]; decide) (off := 730) (by rw [c1]; decide) (by decide) ?_
      exact L_case_11 g hd hsl hi7 hk1 hn1 h (fun A' S' μ' h' => nxt A' S' μ' _ _ h' (Nat.le_add_right _ _) (Nat.le_add_right _ _))
    · refine r_tableIn g 857 dL_law_40 (by rw [c1]; decide) (by rw [c1]; decide) (off := 817) (by rw [c1]; decide) (by decide) ?_
      exact L_case_12 g hd hsl hi7 hk1 hn1 h (fun A' S' μ' h' => nxt A' S' μ' _ _ h' (Nat.le_refl _) (Nat.le_refl _))
    · refine r_tableIn g 930 dL_law_40 (by rw [c1]; decide) (by rw [c1]; decide) (off := 890) (by rw [c1]; decide) (by decide) ?_
      exact L_case_13 g hd hsl hi7 hk1 hn1 h (fun A' S' μ' h' => nxt A' S' μ' _ _ h' (Nat.le_add_right _ _) (Nat.le_add_right _ _))
    · refine r_tableIn g 991 dL_law_40 (by rw [c1]; decide) (by rw [c1]; decide) (off := 951) (by rw [c1]; decide) (by decide) ?_
      exact L_case_14 g hd hsl hi7 hk1 hn1 h (fun A' S' μ' h' => nxt A' S' μ' _ _ h' (Nat.le_add_right _ _) (Nat.le_add_right _ _))
    · refine r_tableIn g 1016 dL_law_40 (by rw [c1]; decide) (by rw [c1]; decide) (off := 976) (by rw [c1]; decide) (by decide) ?_
      exact L_case_15 g hd hsl hi7 hk1 hn1 h (fun A' S' μ' h' => nxt A' S' μ' _ _ h' (Nat.le_add_right _ _) (Nat.le_add_right _ _))
    · refine r_tableIn g 1053 dL_law_40 (by rw [c1]; decide) (by rw [c1]; decide) (off := 1013) (by rw [c1]; decide) (by decide) ?_
      exact L_case_16 g hd hsl hi7 hk1 hn1 h (fun A' S' μ' h' => nxt A' S' μ' _ _ h' (Nat.le_add_right _ _) (Nat.le_add_right _ _))
    · refine r_tableIn g 1102 dL_law_40 (by rw [c1]; decide) (by rw [c1]; decide) (off := 1062) (by rw [c1]; decide) (by decide) ?_
      exact L_case_17 g hd hsl hi7 hk1 hn1 h (fun A' S' μ' h' => nxt A' S' μ' _ _ h' (Nat.le_add_right _ _) (Nat.le_add_right _ _))
    · refine r_tableIn g 1139 dL_law_40 (by rw [c1]; decide) (by rw [c1]; decide) (off := 1099) (by rw [c1]; decide) (by decide) ?_
      exact L_case_18 g hd hsl hi7 hk1 hn1 h (fun A' S' μ' h' => nxt A' S' μ' _ _ h' (Nat.le_add_right _ _) (Nat.le_add_right _ _))
    · refine r_tableIn g 1208 dL_law_40 (by rw [c1]; decide) (by rw [c1]; decide) (off := 1168) (by rw [c1]; decide) (by decide) ?_
      exact L_case_19 g hd hsl hi7 hk1 hn1 h (fun A' S' μ' h' => nxt A' S' μ' _ _ h' (Nat.le_add_right _ _) (Nat.le_add_right _ _))
    · refine r_tableIn g 1233 dL_law_40 (by rw [c1]; decide) (by rw [c1]; decide) (off := 1193) (by rw [c1]; decide) (by decide) ?_
      exact L_case_20 g hd hsl hi7 hk1 hn1 h (fun A' S' μ' h' => nxt A' S' μ' _ _ h' (Nat.le_add_right _ _) (Nat.le_add_right _ _))
    · refine r_tableIn g 1246 dL_law_40 (by rw [c1]; decide) (by rw [c1]; decide) (off := 1206) (by rw [c1]; decide) (by decide) ?_
      exact L_case_21 g hd hsl hi7 hk1 hn1 h (fun A' S' μ' h' => nxt A' S' μ' _ _ h' (Nat.le_add_right _ _) (Nat.le_add_right _ _))
    · refine r_tableIn g 1283 dL_law_40 (by rw [c1]; decide) (by rw [c1]; decide) (off := 1243) (by rw [c1]; decide) (by decide) ?_
      exact L_case_22 g hd hsl hi7 hk1 hn1 h (fun A' S' μ' h' => nxt A' S' μ' _ _ h' (Nat.le_add_right _ _) (Nat.le_add_right _ _))
    · refine r_tableIn g 1370 dL_law_40 (by rw [c1]; decide) (by rw [c1]; decide) (off := 1330) (by rw [c1]; decide) (by decide) ?_
      exact L_case_23 g hd hsl hi7 hk1 hn1 h (fun A' S' μ' h' => nxt A' S' μ' _ _ h' (Nat.le_add_right _ _) (Nat.le_add_right _ _))
    · refine r_tableIn g 1443 dL_law_40 (by rw [c1]; decide) (by rw [c1]; decide) (off := 1403) (by rw [c1]; decide) (by decide) ?_
      exact L_case_24 g hd hsl hi7 hk1 hn1 h (fun A' S' μ' h' => nxt A' S' μ' _ _ h' (Nat.le_add_right _ _) (Nat.le_add_right _ _))
    · refine r_tableIn g 1516 dL_law_40 (by rw [c1]; decide) (by rw [c1]; decide) (off := 1476) (by rw [c1]; decide) (by decide) ?_
      exact L_case_25 g hd hsl hi7 hk1 hn1 h (fun A' S' μ' h' => nxt A' S' μ' _ _ h' (Nat.le_add_right _ _) (Nat.le_add_right _ _))
    · refine r_tableIn g 1577 dL_law_40 (by rw [c1]; decide) (by rw [c1]; decide) (off := 1537) (by rw [c1]; decide) (by decide) ?_
      exact L_case_26 g hd hsl hi7 hk1 hn1 h (fun A' S' μ' h' => nxt A' S' μ' _ _ h' (Nat.le_add_right _ _) (Nat.le_add_right _ _))
    · refine r_tableIn g 1664 dL_law_40 (by rw [c1]; decide) (by rw [c1]; decide) (off := 1624) (by rw [c1]; decide) (by decide) ?_
      exact L_case_27 g hd hsl hi7 hk1 hn1 h (fun A' S' μ' h' => nxt A' S' μ' _ _ h' (Nat.le_add_right _ _) (Nat.le_add_right _ _))
    · refine r_tableIn g 1725 dL_law_40 (by rw [c1]; decide) (by rw [c1]; decide) (off := 1685) (by rw [c1]; decide) (by decide) ?_
      exact L_case_28 g hd hsl hi7 hk1 hn1 h (fun A' S' μ' h' => nxt A' S' μ' _ _ h' (Nat.le_add_right _ _) (Nat.le_add_right _ _))
    · refine r_tableIn g 1774 dL_law_40 (by rw [c1]; decide) (by rw [c1]; decide) (off := 1734) (by rw [c1]; decide) (by decide) ?_
      exact L_case_29 g hd hsl hi7 hk1 hn1 h (fun A' S' μ' h' => nxt A' S' μ' _ _ h' (Nat.le_add_right _ _) (Nat.le_add_right _ _))
    · refine r_tableIn g 1847 dL_law_40 (by rw [c1]; decide) (by rw [c1]; decide) (off := 1807) (by rw [c1]; decide) (by decide) ?_
      exact L_case_30 g hd hsl hi7 hk1 hn1 h (fun A' S' μ' h' => nxt A' S' μ' _ _ h' (Nat.le_add_right _ _) (Nat.le_add_right _ _))
    · refine r_tableIn g 1908 dL_law_40 (by rw [c1]; decide) (by rw [c1]; decide) (off := 1868) (by rw [c1]; decide) (by decide) ?_
      exact L_case_31 g hd hsl hi7 hk1 hn1 h (fun A' S' μ' h' => nxt A' S' μ' _ _ h' (Nat.le_add_right _ _) (Nat.le_add_right _ _))
    · refine r_tableIn g 1981 dL_law_40 (by rw [c1]; decide) (by rw [c1]; decide) (off := 1941) (by rw [c1]; decide) (by decide) ?_
      exact L_case_32 g hd hsl hi7 hk1 hn1 h (fun A' S' μ' h' => nxt A' S' μ' _ _ h' (Nat.le_add_right _ _) (Nat.le_add_right _ _))
    · refine r_tableIn g 2042 dL_law_40 (by rw [c1]; decide) (by rw [c1]; decide) (off := 2002) (by rw [c1]; decide) (by decide) ?_
      exact L_case_33 g hd hsl hi7 hk1 hn1 h (fun A' S' μ' h' => nxt A' S' μ' _ _ h' (Nat.le_add_right _ _) (Nat.le_add_right _ _))
    · refine r_tableIn g 2103 dL_law_40 (by rw [c1]; decide) (by rw [c1]; decide) (off := 2063) (by rw [c1]; decide) (by decide) ?_
      exact L_case_34 g hd hsl hi7 hk1 hn1 h (fun A' S' μ' h' => nxt A' S' μ' _ _ h' (Nat.le_add_right _ _) (Nat.le_add_right _ _))
    · refine r_tableIn g 2176 dL_law_40 (by rw [c1]; decide) (by rw [c1]; decide) (off := 2136) (by rw [c1]; decide) (by decide) ?_
      exact L_case_35 g hd hsl hi7 hk1 hn1 h (fun A' S' μ' h' => nxt A' S' μ' _ _ h' (Nat.le_add_right _ _) (Nat.le_add_right _ _))
    · refine r_tableIn g 2225 dL_law_40 (by rw [c1]; decide) (by rw [c1]; decide) (off := 2185) (by rw [c1]; decide) (by decide) ?_
      exact L_case_36 g hd hsl hi7 hk1 hn1 h (fun A' S' μ' h' => nxt A' S' μ' _ _ h' (Nat.le_add_right _ _) (Nat.le_add_right _ _))
    · refine r_tableIn g 2262 dL_law_40 (by rw [c1]; decide) (by rw [c1]; decide) (off := 2222) (by rw [c1]; decide) (by decide) ?_
      exact L_case_37 g hd hsl hi7 hk1 hn1 h (fun A' S' μ' h' => nxt A' S' μ' _ _ h' (Nat.le_add_right _ _) (Nat.le_add_right _ _))
    · refine r_tableIn g 2287 dL_law_40 (by rw [c1]; decide) (by rw [c1]; decide) (off := 2247) (by rw [c1]; decide) (by decide) ?_
      exact L_case_38 g hd hsl hi7 hk1 hn1 h (fun A' S' μ' h' => nxt A' S' μ' _ _ h' (Nat.le_add_right _ _) (Nat.le_add_right _ _))
    · refine r_tableIn g 2312 dL_law_40 (by rw [c1]; decide) (by rw [c1]; decide) (off := 2272) (by rw [c1]; decide) (by decide) ?_
      exact L_case_39 g hd hsl hi7 hk1 hn1 h (fun A' S' μ' h' => nxt A' S' μ' _ _ h' (Nat.le_add_right _ _) (Nat.le_add_right _ _))
    · refine r_tableIn g 2325 dL_law_40 (by rw [c1]; decide) (by rw [c1]; decide) (off := 2285) (by rw [c1]; decide) (by decide) ?_
      exact L_case_40 g hd hsl hi7 hk1 hn1 h (fun A' S' μ' h' => nxt A' S' μ' _ _ h' (Nat.le_add_right _ _) (Nat.le_add_right _ _))
    · refine r_tableIn g 2338 dL_law_40 (by rw [c1]; decide) (by rw [c1]; decide) (off := 2298) (by rw [c1]; decide) (by decide) ?_
      exact L_case_41 g hd hsl hi7 hk1 hn1 h (fun A' S' μ' h' => nxt A' S' μ' _ _ h' (Nat.le_add_right _ _) (Nat.le_add_right _ _))
end lawd
