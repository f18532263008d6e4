/-! fault of the model; a book that begins -/
section mft
variable {d : Nat} {ro : Nat → Nat} {μ μ' : Hp} {m : Nat} {X : Nat → Nat} {S : St} {P : Pb}
theorem mR.gen (h : mR μ m X S) (hok : sOk S) (h1 : hR μ' = hR μ ∧ hS μ' = hS μ) (hm : ∀ k, k ∈ [2, 20, 22, 24, 27, 34, 35, 36, 38, 39, 40] → hI μ' m k = hI μ m k) (hx : ∀ i, i ∈ [1, 8, 10, 12, 14, 30, 32, 33] → hI μ' (X i) = hI μ (X i)) (hl : hL μ' (X 16) = hL μ (X 16) ∧ hL μ' (X 18) = hL μ (X 18)) (h28 : ∀ j, j < 240 → hI μ' (X 28) j = hI μ (X 28) j) (h29 : ∀ j, j < 4 → hI μ' (X 29) j = hI μ (X 29) j) : mR μ' m X S := by
  obtain ⟨a1, a2, a3, ⟨c1, c2, c3, c4, c5⟩⟩ := h
  have h4 := hok.2.2.2.2.2.1.2
  refine ⟨a1.gen ⟨h1.2, h1.1⟩ (fun k hk => hm k (by rcases hk with rfl | rfl | rfl | rfl | rfl | rfl <;> decide)) (fun i hi => hx i (by rcases hi with rfl | rfl | rfl <;> decide)) (by rw [hx 30 (by decide)]; exact a1.2.2.1) a1.2.2.2.2.2, by rw [hx 30 (by decide)]; exact a2, a3.fr ⟨hm 34 (by decide), hm 35 (by decide)⟩ (hx 33 (by decide)), ?_, ?_, ?_, ⟨?_, fun k hk => ⟨?_, fun j hj => ?_⟩⟩, ?_⟩
  · unfold mNm; rw [hl.1, hl.2]; exact c1
  · unfold mIm; rw [hm 36 (by decide), hx 32 (by decide)]; exact c2
  · unfold mTp; rw [hm 2 (by decide), hx 1 (by decide)]; exact c3
  · rw [hm 27 (by decide)]; exact c4.1
  · rw [h29 k (by omega)]; exact (c4.2 k hk).1
  · have h12 := hok.2.2.2.2.2.2.1 k hk
    rw [h28 _ (by omega)]; exact (c4.2 k hk).2 j hj
  · unfold mRf; rw [hx 14 (by decide)]; exact c5
theorem mR.bk (h : mR μ m X S) (hok : sOk S) (hF : bkFr m X μ μ') : mR μ' m X S := by
  have hs := h.1.1.1
  have hi := h.1.1.2
  have o : ∀ i, i ∈ mK → i ∉ bI → hI μ' (X i) = hI μ (X i) := fun i hik hn => hF.2.1 _ (hs.ne i hik) (fun q => by
    obtain ⟨k, hk, e⟩ := List.mem_map.mp q
    have hkk : k ∈ mK := (by decide : ∀ k ∈ bI, k ∈ mK) k hk
    have := hi k i hkk hik e
    subst this
    exact hn hk)
  have ol : ∀ i, i ∈ mK → i ∉ [15, 17] → hL μ' (X i) = hL μ (X i) := fun i hik hn => hF.2.2.1 _ (hs.ne i hik) (fun q => by
    obtain ⟨k, hk, e⟩ := List.mem_map.mp q
    have hkk : k ∈ mK := (by decide : ∀ k ∈ [15, 17], k ∈ mK) k hk
    have := hi k i hkk hik e
    subst this
    exact hn hk)
  refine h.gen hok hF.1 (fun k hk => hF.2.2.2.1 k ?_) (fun i hx => o i ?_ ?_) ⟨ol 16 (by decide) (by decide), ol 18 (by decide) (by decide)⟩ (fun j _ => by rw [o 28 (by decide) (by decide)]) (fun j _ => by rw [o 29 (by decide) (by decide)])
  · exact (by decide : ∀ k ∈ [2, 20, 22, 24, 27, 34, 35, 36, 38, 39, 40], k ∉ [3, 4, 5, 19, 21, 23, 25, 26]) k hk
  · exact (by decide : ∀ i ∈ [1, 8, 10, 12, 14, 30, 32, 33], i ∈ mK) i hx
  · exact (by decide : ∀ i ∈ [1, 8, 10, 12, 14, 30, 32, 33], i ∉ bI) i hx
theorem mR.sf (h : mR μ m X S) (hok : sOk S) (hF : sFm m X μ μ') : mR μ' m X S := by
  have hs := h.1.1.1
  have hi := h.1.1.2
  refine h.gen hok hF.1 (fun k hk => hF.2.2.2.1 k ?_ ?_ ?_) (fun i hx => hF.2.1 _ (hs.ne i ?_) ?_ ?_) ⟨hF.2.2.1 _ (hs.ne 16), hF.2.2.1 _ (hs.ne 18)⟩ hF.2.2.2.2.2.1 hF.2.2.2.2.2.2
  · exact (by decide : ∀ k ∈ [2, 20, 22, 24, 27, 34, 35, 36, 38, 39, 40], k ≠ 3) k hk
  · exact (by decide : ∀ k ∈ [2, 20, 22, 24, 27, 34, 35, 36, 38, 39, 40], k ≠ 4) k hk
  · exact (by decide : ∀ k ∈ [2, 20, 22, 24, 27, 34, 35, 36, 38, 39, 40], k ≠ 5) k hk
  · exact (by decide : ∀ i ∈ [1, 8, 10, 12, 14, 30, 32, 33], i ∈ mK) i hx
  · exact fun e => (by decide : ∀ i ∈ [1, 8, 10, 12, 14, 30, 32, 33], i ≠ 28) i hx (hi i 28 ((by decide : ∀ i ∈ [1, 8, 10, 12, 14, 30, 32, 33], i ∈ mK) i hx) (by decide) e)
  · exact fun e => (by decide : ∀ i ∈ [1, 8, 10, 12, 14, 30, 32, 33], i ≠ 29) i hx (hi i 29 ((by decide : ∀ i ∈ [1, 8, 10, 12, 14, 30, 32, 33], i ∈ mK) i hx) (by decide) e)
theorem bkFr.out (hF : bkFr m X μ μ') : mOut m X μ μ' := ⟨hF.1.1, hF.1.2, fun b h1 h2 => ⟨hF.2.1 b h1 (fun q => h2 (by
  obtain ⟨k, hk, e⟩ := List.mem_map.mp q
  exact List.mem_map.mpr ⟨k, (by decide : ∀ k ∈ bI, k ∈ mK) k hk, e⟩)), hF.2.2.1 b h1 (fun q => h2 (by
  obtain ⟨k, hk, e⟩ := List.mem_map.mp q
  exact List.mem_map.mpr ⟨k, (by decide : ∀ k ∈ [15, 17], k ∈ mK) k hk, e⟩))⟩⟩
theorem sFm.out (hF : sFm m X μ μ') : mOut m X μ μ' := ⟨hF.1.1, hF.1.2, fun b h1 h2 => ⟨hF.2.1 b h1 (fun e => h2 (List.mem_map.mpr ⟨28, by decide, e.symm⟩)) (fun e => h2 (List.mem_map.mpr ⟨29, by decide, e.symm⟩)), hF.2.2.1 b h1⟩⟩
def ftZ (m : Nat) (X : Nat → Nat) (S : St) (x : Int32) (μ : Hp) : Option Value → Hp → Prop := fun r μ' => r = some (.int (aFault S x)) ∧ mR μ' m X S ∧ mOut m X μ μ' ∧ (x = 0 → (rBook (tpS S) S.len).2.1 = none → mPB μ' m X (rBook (tpS S) S.len).1) ∧ (x = 1 → (rScript (tpS S) S.len).2.1 = none → hI μ' (X 29) 4 = nI (rScript (tpS S) S.len).1.length ∧ (rScript (tpS S) S.len).1.length ≤ 12 ∧ scM (hI μ' (X 28)) (rScript (tpS S) S.len).1)
theorem m_faultZ {x : Int32} (hd : 15 ≤ d) (h : mR μ m X S) (hok : sOk S) : xC d yX12_fault cX12_fault 2 (some .int) 0 0 [.ref m, .int x] μ ro (ftZ m X S x μ) := by
  obtain ⟨hF0, -, -, -⟩ := h.1.th
  have h0 := h.fr hF0
  have hs := h.1.1.1
  have hi := h.1.1.2
  have hb : ∀ i, i < S.len → ∃ n, 1 ≤ n ∧ n ≤ 255 ∧ tpS S i = nI n := fun i hil => ⟨S.tp i, (hok.2.2.2.2.2.2.2.2.2 i hil).1, (hok.2.2.2.2.2.2.2.2.2 i hil).2, rfl⟩
  unfold ftZ aFault
  have m1 : mCu (wI (wI (wI μ m 0 0) m 3 0) m 4 (-1)) m X (tpS S) S.len (none, 0, 0) := by
    refine ⟨⟨?_, ?_, ?_⟩, hok.2.2.2.2.2.1.1, ⟨Nat.zero_le _, Nat.zero_le _, fun p hp => by cases hp⟩, fun i hil => ?_⟩
    · rw [hI_wI_s, upd_n _ (by decide), hI_wI_s, upd_n _ (by decide)]; exact h0.2.2.2.2.2.1.1
    · rw [hI_wI_s, upd_s]; rfl
    · rw [hI_wI_s, upd_n _ (by decide), hI_wI_s, upd_s]; rfl
    · rw [hI_wI_n _ _ _ (hs.ne 1), hI_wI_n _ _ _ (hs.ne 1), h0.2.2.2.2.2.1.2 i hil]
      exact byt_and _ (by have := (hok.2.2.2.2.2.2.2.2.2 i hil).2; omega)
  have D1 : bkFr m X (wI μ m 0 0) (wI (wI (wI μ m 0 0) m 3 0) m 4 (-1)) := (bkFr.g 3 _).tt (bkFr.g 4 _)
  have h1 := h0.bk hok D1
  have s1 := h1.1.1.1
  have eq2 : ∀ y : Int32, ¬ y = 0 → ¬ y = 1 → (if y = 0 then oI (rBook (tpS S) S.len).2.1 else if y = 1 then oI (rScript (tpS S) S.len).2.1 else -2) = (-2 : Int32) := fun y a b => by rw [if_neg a, if_neg b]
  have no : ∀ y : Int32, (¬ y = 0 ∧ ¬ y = 1) → some (Value.int (-2)) = some (.int (if y = 0 then oI (rBook (tpS S) S.len).2.1 else if y = 1 then oI (rScript (tpS S) S.len).2.1 else -2)) ∧ mR (wI μ m 0 0) m X S ∧ mOut m X μ (wI μ m 0 0) ∧ (y = 0 → (rBook (tpS S) S.len).2.1 = none → mPB (wI μ m 0 0) m X (rBook (tpS S) S.len).1) ∧ (y = 1 → (rScript (tpS S) S.len).2.1 = none → hI (wI μ m 0 0) (X 29) 4 = nI (rScript (tpS S) S.len).1.length ∧ (rScript (tpS S) S.len).1.length ≤ 12 ∧ scM (hI (wI μ m 0 0) (X 28)) (rScript (tpS S) S.len).1) := fun y a => ⟨by rw [eq2 y a.1 a.2], h0, hF0.out, fun q => absurd q a.1, fun q => absurd q a.2⟩
  refine I_X12_fault (fun J g hr => B_X12_fault_0 g hr hs.1 (by omega) ⟨fun c => no x ⟨fun e => by subst e; exact absurd c (by decide), fun e => by subst e; exact absurd c (by decide)⟩, fun c0 => ⟨fun c => no x ⟨fun e => by subst e; exact absurd c (by decide), fun e => by subst e; exact absurd c (by decide)⟩, fun c1 => ⟨fun c2 => ?_, fun c2 => ?_⟩⟩⟩)
  · have e1 : x = 1 := by
      obtain ⟨j, hj, rfl⟩ := nI_of2 (n := 1) (M := 1) (by decide) c0 (Int32.not_lt.mp c1)
      have : j = 0 ∨ j = 1 := by omega
      rcases this with rfl | rfl
      · exact absurd rfl c2
      · rfl
    subst e1
    refine xCall_of (c_mScript (d := d - 1) (by omega) s1 hi m1 hb) (by omega) ?_
    rintro r μ2 ⟨rfl, F2, f2, v2⟩
    refine ⟨rfl, (F2.sh s1).1, ?_, h1.sf hok F2, (hF0.out.tt D1.out).tt F2.out, fun q => absurd q (by decide), fun _ => v2⟩
    rw [f2, if_neg (by decide), if_pos rfl]
  · subst c2
    refine xCall_of (c_mBook (d := d - 1) (by omega) s1 hi m1 hb) (by omega) ?_
    rintro r μ2 ⟨rfl, D2, m2, P2⟩
    refine ⟨rfl, (D2.sh s1).1, ?_, h1.bk hok D2, (hF0.out.tt D1.out).tt D2.out, fun _ => P2, fun q => absurd q (by decide)⟩
    rw [m2.1.2.1, if_pos rfl]
theorem m_fault {x : Int32} (hd : 15 ≤ d) (h : mR μ m X S) (hok : sOk S) {K : Option Value → Hp → Prop} (hK : ∀ μ', mR μ' m X S → mOut m X μ μ' → K (some (.int (aFault S x))) μ') : xCall (d + 1) yX12_fault cX12_fault 2 (some .int) [.ref m, .int x] μ ro K :=
  xCall_of (m_faultZ hd h hok) (Nat.le_refl _) (by rintro r μ' ⟨rfl, q1, q2, -⟩; exact hK _ q1 q2)
end mft
