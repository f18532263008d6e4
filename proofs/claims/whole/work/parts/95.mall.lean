/-! all and years of the model -/
section mall
variable {d : Nat} {ro : Nat → Nat} {μ : Hp} {m : Nat} {X : Nat → Nat} {S : St} {B : Bk} {f : Nat → Int32}
theorem m_sumOf {a0 : Nat} (h : mQ μ m X B f) (ha : a0 ≤ 200) : xC d yX12_sumOf cX12_sumOf 4 (some .int) 0 0 [.ref m, .int (nI a0)] μ ro (fun r μ' => μ' = μ ∧ r = some (.int (sumU (fun i => hI μ (X 30) (a0 + i)) B.nf))) := by
  have hs := h.1.1
  have hnf := h.2.2.2.2.1.1.1.2.1
  refine I_X12_sumOf (fun J g hr => B_X12_sumOf_0 g hr ?_)
  refine loopUp (Q := fun i => J μ 0 0 4 [(0, .ref m), (1, .int (nI a0)), (2, .int (sumU (fun i => hI μ (X 30) (a0 + i)) i)), (3, .int (nI i))] []) B.nf ?_ (fun i hi ih => ?_) 0 (Nat.zero_le _)
  · exact B_X12_sumOf_4 g hr hs.1 (hs.r 30 0 293) (hs.s 30 0 293) ⟨fun _ => ⟨rfl, rfl⟩, fun c => absurd (by rw [h.2.1.1.2.1]; exact Int32.le_refl _) c⟩
  · refine B_X12_sumOf_4 g hr hs.1 (hs.r 30 0 293) (hs.s 30 0 293) ⟨fun c => absurd c (by rw [h.2.1.1.2.1]; exact nI_ge hi (by omega)), fun _ => ?_⟩
    rw [nI_add, nI_clamp (by omega), nI_1]
    exact ⟨vp_in_nI (by omega) (by omega), ih⟩
theorem m_mostOf {a0 : Nat} (h : mQ μ m X B f) (ha : a0 ≤ 200) (h1 : 0 < B.nf) : xC d yX12_mostOf_ cX12_mostOf_ 5 (some .int) 0 0 [.ref m, .int (nI a0), .int (nI B.nf)] μ ro (fun r μ' => μ' = μ ∧ r = some (.int (nI (fomU (fun i => hI μ (X 30) (a0 + i)) (B.nf - 1))))) := by
  have hs := h.1.1
  have hnf := h.2.2.2.2.1.1.1.2.1
  refine I_X12_mostOf_ (fun J g hr => B_X12_mostOf__0 g hr ?_)
  have key := loopUp (Q := fun i => 1 ≤ i → J μ 0 0 5 [(0, .ref m), (1, .int (nI a0)), (2, .int (nI B.nf)), (3, .int (nI (fomU (fun i => hI μ (X 30) (a0 + i)) (i - 1)))), (4, .int (nI i))] []) B.nf ?_ (fun i hi ih hi1 => ?_) 1 (by omega) (Nat.le_refl _)
  · exact key
  · intro _
    exact B_X12_mostOf__5 g hr hs.1 (hs.r 30 0 293) (hs.s 30 0 293) ⟨fun _ => ⟨rfl, rfl⟩, fun c => absurd (Int32.le_refl _) c⟩
  · have hf := fomU_le (fun i => hI μ (X 30) (a0 + i)) (i - 1)
    have hst : fomU (fun i => hI μ (X 30) (a0 + i)) i = if hI μ (X 30) (a0 + i) ≤ hI μ (X 30) (a0 + fomU (fun i => hI μ (X 30) (a0 + i)) (i - 1)) then fomU (fun i => hI μ (X 30) (a0 + i)) (i - 1) else i := by
      obtain ⟨k, rfl⟩ : ∃ k, i = k + 1 := ⟨i - 1, by omega⟩
      rfl
    refine B_X12_mostOf__5 g hr hs.1 (hs.r 30 0 293) (hs.s 30 0 293) ⟨fun c => absurd c (nI_ge hi (by omega)), fun _ => ?_⟩
    have ih' := ih (by omega)
    rw [show i + 1 - 1 = i by omega, hst] at ih'
    rw [nI_add, nI_add, nI_clamp (by omega), nI_clamp (by omega), nI_1]
    refine ⟨vp_in_nI (by omega) (by omega), vp_in_nI (by omega) (by omega), fun c => ?_, fun c => ?_⟩
    · rw [if_pos c] at ih'; exact ih'
    · rw [if_neg c] at ih'; exact ih'
theorem m_later (hd : 1 ≤ d) (h : mQ μ m X B f) : xC d yX12_later cX12_later 3 (some .int) 0 0 [.ref m] μ ro (fun r μ' => μ' = μ ∧ r = some (.int (nI (cntU (fun k => decide (¬ f (96 + k) ≤ f 0)) (cl (f 1)))))) := by
  have hs := h.1.1
  have n16 := h.2.2.2.2.2.1.2.1
  obtain ⟨⟨a1, a2, a3, a4⟩, a5, -⟩ := h.2.2.1
  refine I_X12_later (fun J g hr => B_X12_later_0 g hr ?_)
  generalize hp : (fun k => decide (¬ f (96 + k) ≤ f 0)) = p at hr
  have hpi : ∀ i, p i = true ↔ ¬ f (96 + i) ≤ f 0 := fun i => by rw [← hp]; simp
  refine loopUp (Q := fun i => J μ 0 0 4 [(0, .ref m), (1, .int (nI (cntU p i))), (2, .int (nI i))] []) (cl (f 1)) ?_ (fun i hi ih => ?_) 0 (Nat.zero_le _)
  · exact B_X12_later_4 g hr hs.1 (hs.r 30 0 293) (hs.s 30 0 293) hd ⟨lit_in 31 (by omega) (by omega), fun _ => ⟨rfl, rfl⟩, fun c => absurd (by rw [a1]; exact Int32.le_refl _) c⟩
  · refine B_X12_later_4 g hr hs.1 (hs.r 30 0 293) (hs.s 30 0 293) hd ⟨lit_in 31 (by omega) (by omega), fun c => absurd c (by rw [a1]; exact nI_ge hi (by omega)), fun _ => ?_⟩
    have e : (32 : Int32) + 5 * nI i + 4 = nI (32 + 5 * i + 4) := by
      rw [show (5 : Int32) * nI i = nI (5 * i) from i_mul 5 i, show (32 : Int32) + nI (5 * i) = nI (32 + 5 * i) from i_off 32 _]; exact nI_add _ 4
    have e4 := a4 i 4 hi (by omega)
    rw [e, nI_clamp (by omega), e4, a5, show 32 + 16 * 4 + i = 96 + i by omega, nI_1]
    refine ⟨vp_in_nI (by omega) (by omega), lit_in 30 (by omega) (by omega), fun c => ?_, fun c => ?_⟩
    · rw [Int32.add_zero, ← cnt_f (p := p) (i := i) (by rw [hpi]; simp [c])]
      exact ih
    · rw [nI_1, ← cnt_t ((hpi i).mpr c)]
      exact ih
theorem m_inForce (hd : 3 ≤ d) (h : mQ μ m X B f) : xC d yX12_inForce cX12_inForce 4 (some .int) 0 0 [.ref m] μ ro (fun r μ' => μ' = μ ∧ r = some (.int (nI (sumN (fun l => cntU (fun m => inFc B (f 0) l m) l) B.nl)))) := by
  have hs := h.1.1
  have hB := h.2.2.2.2.1.1.1
  have hnl := h.2.1.1.1
  refine I_X12_inForce (fun J g hr => B_X12_inForce_0 g hr ?_)
  generalize hC : (fun l => cntU (fun m => inFc B (f 0) l m) l) = C at hr
  refine loopUp (Q := fun l => J μ 0 0 4 [(0, .ref m), (1, .int (nI (sumN C l))), (2, .int (nI l))] []) B.nl ?_ (fun l hl ih => ?_) 0 (Nat.zero_le _)
  · exact B_X12_inForce_4 g hr hs.1 ⟨fun _ => ⟨rfl, rfl⟩, fun c => absurd (by rw [hnl]; exact Int32.le_refl _) c⟩
  · refine B_X12_inForce_4 g hr hs.1 ⟨fun c => absurd c (by rw [hnl]; exact nI_ge hl (by omega)), fun _ => ?_⟩
    have key := loopUp (Q := fun b => J μ 0 0 14 [(0, .ref m), (1, .int (nI (sumN C l + cntU (fun m => inFc B (f 0) l m) b))), (2, .int (nI l)), (3, .int (nI b))] []) l ?_ (fun b hb ih2 => ?_) 0 (Nat.zero_le _)
    · exact key
    · refine B_X12_inForce_14 g hr hs.1 (hs.r 30 0 293) (hs.s 30 0 293) ⟨fun _ => ?_, fun c => absurd (Int32.le_refl _) c⟩
      rw [nI_1]
      have e : sumN C l + cntU (fun m => inFc B (f 0) l m) l = sumN C (l + 1) := by rw [sumN, ← hC]
      rw [e]
      exact ih
    · refine B_X12_inForce_14 g hr hs.1 (hs.r 30 0 293) (hs.s 30 0 293) ⟨fun c => absurd c (nI_ge hb (by omega)), fun _ => ⟨lit_in 30 (by omega) (by omega), ?_⟩⟩
      rw [h.2.2.1.2.1]
      have key := c_mTreatyOf (ro := ro) (d := d - 1) (l := l) (k := b) (y := f 0) (by omega) hs h.2.1 hB.2.2
      rw [h.2.2.2.1.1, h.2.2.2.1.2.1] at key
      refine xCall_of key (by omega) ?_
      rintro r μ ⟨rfl, rfl⟩
      rw [nI_1]
      cases ht : tAf B.tr B.nt (f 0) (-1) (-1) l b with
      | none =>
        refine ⟨_, rfl, fun c => absurd rfl c, fun _ => ?_⟩
        rw [cnt_f (by simp [inFc, ht])] at ih2
        rw [Int32.add_zero, nI_1]
        exact ih2
      | some t =>
        have htn := tAf_lt ht
        refine ⟨_, rfl, fun _ => ?_, fun c => absurd c (oM_ne (by omega))⟩
        rw [cnt_t (by simp [inFc, ht]), ← Nat.add_assoc] at ih2
        rw [nI_1]
        exact ih2
theorem fomU_ext {g h : Nat → Int32} : ∀ {n : Nat}, (∀ i, i ≤ n → g i = h i) → fomU g n = fomU h n
  | 0, _ => rfl
  | n + 1, e => by
    have ih := fomU_ext (g := g) (h := h) (n := n) (fun i hi => e i (by omega))
    have hle := fomU_le h n
    rw [fomU, fomU, ih, e (n + 1) (by omega), e (fomU h n) (by omega)]
theorem m_all {x : Int32} (hd : 5 ≤ d) (h : mQ μ m X B f) : xC d yX12_all cX12_all 2 (some .int) 0 0 [.ref m, .int x] μ ro (fun r μ' => mqFr m X μ μ' ∧ r = some (.int (aAll B f x))) := by
  obtain ⟨hF0, h0, n20, n22⟩ := h.th
  have hB := h.2.2.2.2.1
  have hs := h.1.1
  have hnf := hB.1.1.2.1
  have hg := h0.2.2.1
  have hs0 := h0.1.1
  refine I_X12_all (fun J g hr => B_X12_all_0 g hr hs.1 (hs.r 30 0 293) (hs.s 30 0 293) ?_)
  rw [n22]
  refine ⟨fun c => ?_, fun c => ⟨hF0, ?_⟩⟩
  · have n0 : ¬ B.nf = 0 := fun e => c (by rw [e]; rfl)
    unfold aAll
    rw [if_neg n0]
    refine ⟨fun c => ⟨hF0, ?_⟩, fun c => ⟨lit_in 30 (by omega) (by omega), hF0, by subst c; rw [hg.2.1]; rfl⟩, fun c => xCall_of (m_sumOf (d := d - 1) (a0 := 0) h0 (by omega)) (by omega) ?_, fun c => xCall_of (m_takenOf (d := d - 1) (hs0.s 30 0 293) hg h.2.2.2.2.2 hB) (by omega) ?_, fun c => xCall_of (m_sumOf (d := d - 1) (a0 := 16) h0 (by omega)) (by omega) ?_, fun c => ⟨lit_in 31 (by omega) (by omega), hF0, by subst c; rw [hg.1.1, ← hg.1.2.1]; rfl⟩, fun c => xCall_of (m_inForce (d := d - 1) (by omega) h0) (by omega) ?_, fun c => xCall_of (m_mostOf (d := d - 1) (a0 := 8) h0 (by omega) (by omega)) (by omega) ?_, fun c => xCall_of (m_mostOf (d := d - 1) (a0 := 0) h0 (by omega) (by omega)) (by omega) ?_, fun c => xCall_of (m_later (d := d - 1) (by omega) h0) (by omega) ?_⟩
    · have n : ∀ k : Int32, k.toInt ≥ 0 → k.toInt ≤ 8 → ¬ x = k := fun k h1 h2 e => by subst e; omega
      rw [if_neg (n 0 (by decide) (by decide)), if_neg (n 1 (by decide) (by decide)), if_neg (n 2 (by decide) (by decide)), if_neg (n 3 (by decide) (by decide)), if_neg (n 4 (by decide) (by decide)), if_neg (n 5 (by decide) (by decide)), if_neg (n 6 (by decide) (by decide)), if_neg (n 7 (by decide) (by decide)), if_neg (n 8 (by decide) (by decide))]
    · rintro r μ' ⟨e', rfl⟩
      subst c
      refine ⟨_, rfl, by rw [e']; exact hF0, ?_⟩
      rw [sumU_ext (g := fun i => hI (wI μ m 0 0) (X 30) (0 + i)) (h := fun i => f (10 + i)) (fun i hi => by rw [Nat.zero_add]; exact (hg.1.2.2.1 i (by omega)).2)]
      rfl
    · rintro r μ' ⟨e', rfl⟩
      subst c
      exact ⟨_, rfl, by rw [e']; exact hF0, rfl⟩
    · rintro r μ' ⟨e', rfl⟩
      subst c
      refine ⟨_, rfl, by rw [e']; exact hF0, ?_⟩
      rw [sumU_ext (g := fun i => hI (wI μ m 0 0) (X 30) (16 + i)) (h := fun i => f (18 + i)) (fun i hi => hg.2.2.1 i (by omega))]
      rfl
    · rintro r μ' ⟨e', rfl⟩
      subst c
      exact ⟨_, rfl, by rw [e']; exact hF0, rfl⟩
    · rintro r μ' ⟨e', rfl⟩
      subst c
      refine ⟨_, rfl, by rw [e']; exact hF0, ?_⟩
      rw [fomU_ext (g := fun i => hI (wI μ m 0 0) (X 30) (8 + i)) (h := fun i => f (2 + i)) (fun i hi => (hg.1.2.2.1 i (by omega)).1)]
      rfl
    · rintro r μ' ⟨e', rfl⟩
      subst c
      refine ⟨_, rfl, by rw [e']; exact hF0, ?_⟩
      rw [fomU_ext (g := fun i => hI (wI μ m 0 0) (X 30) (0 + i)) (h := fun i => f (10 + i)) (fun i hi => by rw [Nat.zero_add]; exact (hg.1.2.2.1 i (by omega)).2)]
      rfl
    · rintro r μ' ⟨e', rfl⟩
      subst c
      exact ⟨_, rfl, by rw [e']; exact hF0, rfl⟩
  · have n0 : B.nf = 0 := by
      rcases Nat.eq_zero_or_pos B.nf with e | e
      · exact e
      · exact absurd c (nI_ne0 e (by omega))
    unfold aAll
    rw [if_pos n0]
theorem m_draw {j : Nat} (hs : hS μ m = some (15, 65)) (h0 : 0 < j) (hj : j < 2 ^ 31) : xC d yX12_draw cX12_draw 2 (some .int) 0 0 [.ref m, .int (nI j)] μ ro (fun r μ' => r = some (.int (dV (dN (hL μ m 62)) j)) ∧ μ' = wL μ m 62 (dN (hL μ m 62))) := by
  refine I_X12_draw (fun J g hr => B_X12_draw_0 g hr hs (fun v ev v2 ev2 => ⟨nIl_ne h0 hj, ?_, rfl⟩))
  rw [hL_wL_s, updL_s] at ev
  rw [ev2, ev]
  rfl
theorem mR.wl {x : Int64} (h : mR μ m X S) : mR (wL μ m 62 x) m X S := by
  have hs := h.1.1.1
  obtain ⟨a1, a2, a3, a4⟩ := h
  refine ⟨a1.gen ⟨rfl, rfl⟩ (fun _ _ => rfl) (fun _ _ => rfl) a1.2.2.1 a1.2.2.2.2.2, a2, a3, a4.fr ⟨va_up_ne _ _ (hs.ne 16), va_up_ne _ _ (hs.ne 18)⟩ (fun _ _ => rfl) (fun _ _ => rfl)⟩
/-- a draw: the state stays -/
theorem q_md {j : Nat} {x : Int64} (hd : 1 ≤ d) (h : mR μ m X S) (hx : hL μ m 62 = x) (h0 : 0 < j) (hj : j < 2 ^ 31) : xCall d yX12_draw cX12_draw 2 (some .int) [.ref m, .int (nI j)] μ ro (fun r μ' => r = some (.int (dV (dN x) j)) ∧ mR μ' m X S ∧ mOut m X μ μ' ∧ hL μ' m 62 = dN x) := by
  refine xCall_of (m_draw (d := d - 1) h.1.1.1.1 h0 hj) (by omega) ?_
  rintro r μ' ⟨rfl, rfl⟩
  rw [hx]
  exact ⟨rfl, h.wl, ⟨rfl, rfl, fun b h1 _ => ⟨rfl, va_up_ne _ _ h1⟩⟩, by rw [hL_wL_s, updL_s]⟩
end mall
