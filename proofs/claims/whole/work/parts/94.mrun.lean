/-! run, all, years of the model -/
section mrun
variable {d : Nat} {ro : Nat → Nat} {μ : Hp} {m : Nat} {X : Nat → Nat} {S : St} {B : Bk} {f : Nat → Int32}
theorem sumU_ext {g h : Nat → Int32} : ∀ {n : Nat}, (∀ i, i < n → g i = h i) → sumU g n = sumU h n
  | 0, _ => rfl
  | n + 1, e => by rw [sumU, sumU, sumU_ext (fun i hi => e i (by omega)), e n (by omega)]
theorem sumU_more {g : Nat → Int32} {n : Nat} : ∀ {k : Nat}, (∀ i, n ≤ i → i < n + k → g i = 0) → sumU g (n + k) = sumU g n
  | 0, _ => rfl
  | k + 1, e => by rw [← Nat.add_assoc, sumU, sumU_more (fun i h1 h2 => e i h1 (by omega)), e _ (by omega) (by omega), Int32.add_zero]
theorem m_takenOf {w : Nat} (hw : hS μ w = some (0, 293)) (hg : nrw (hI μ w) f) (hr : B.row f) (hB : B.ok) : xC d yX12_takenOf cX12_takenOf 3 (some .int) 0 0 [.ref w] μ ro (fun r μ' => μ' = μ ∧ r = some (.int (sumU (fun i => f (26 + i)) B.nl))) := by
  have e : sumU (fun i => f (26 + i)) B.nl = sumU (fun i => hI μ w (24 + i)) 6 := by
    rw [sumU_ext (g := fun i => hI μ w (24 + i)) (h := fun i => f (26 + i)) (fun i hi => hg.2.2.2 i hi)]
    have h6 := hB.1.1.1
    obtain ⟨k, hk⟩ : ∃ k, B.nl + k = 6 := ⟨6 - B.nl, by omega⟩
    rw [← hk, sumU_more (fun i h1 h2 => hr.2.2.2.2 i h1 (by omega))]
  rw [e]
  refine I_X12_takenOf (fun J g hr => B_X12_takenOf_0 g hr ?_)
  refine loopUp (Q := fun i => J μ 0 0 4 [(0, .ref w), (1, .int (sumU (fun i => hI μ w (24 + i)) i)), (2, .int (nI i))] []) 6 ?_ (fun i hi ih => ?_) 0 (Nat.zero_le _)
  · exact B_X12_takenOf_4 g hr hw ⟨fun _ => ⟨rfl, rfl⟩, fun c => absurd (Int32.le_refl _) c⟩
  · refine B_X12_takenOf_4 g hr hw ⟨fun c => absurd c (nI_ge (a := i) (b := 6) hi (by omega)), fun _ => ?_⟩
    rw [show (24 : Int32) + nI i = nI (24 + i) from i_off 24 i, nI_clamp (by omega), nI_1]
    exact ⟨vp_in_nI (by omega) (by omega), ih⟩
theorem m_run {k x : Int32} (hd : 16 ≤ d) (h : mR μ m X S) (hok : sOk S) : xC d yX12_run cX12_run 6 (some .int) 0 0 [.ref m, .int k, .int x] μ ro (fun r μ' => mqFr m X μ μ' ∧ r = some (.int (aRun S k x))) := by
  obtain ⟨hF0, -, n20, n22⟩ := h.1.th
  have h0 := h.fr hF0
  have hs := h.1.1.1
  have hB := hok.1
  have hnf := hB.1.1.2.1
  have hns := hok.2.2.2.2.2.1.2
  unfold aRun
  refine I_X12_run (fun J g hr => B_X12_run_0 g hr hs.1 (by omega) (xCall_of (m_isScript (d := d - 1) (by omega) h0 hns) (by omega) ?_))
  rintro r μ2 ⟨e2, rfl⟩
  have hF2 : mqFr m X μ μ2 := by rw [e2]; exact hF0
  have h2 := h.fr hF2
  have hs2 := h2.1.1.1
  by_cases hk : inN k S.ns
  · rw [if_pos hk]
    refine ⟨_, rfl, fun c => absurd c (by decide), fun _ => ⟨hs2.1, ?_⟩⟩
    rw [h2.1.2.1.1.2.1]
    refine ⟨fun c => ?_, fun c => ⟨fun c3 => ⟨hF2, by rw [if_neg (fun q => q.2.2.1 c3)]⟩, fun c3 => ⟨fun c4 => ⟨hF2, by rw [if_neg (fun q => Int32.not_lt.mpr q.2.2.2 c4)]⟩, fun c4 => ?_⟩⟩⟩
    · have c' : S.B.nf = 0 := by
        rcases Nat.eq_zero_or_pos S.B.nf with e | e
        · exact e
        · exact absurd c (nI_ne0 e (by omega))
      exact ⟨hF2, by rw [if_neg (fun q => q.2.1 c')]⟩
    have c' : ¬ S.B.nf = 0 := fun e => c (by rw [e]; rfl)
    rw [if_pos ⟨hk, c', c3, Int32.not_lt.mp c4⟩] at hr
    obtain ⟨e1, k1⟩ := hk.ex (by omega)
    have hsl12 := hok.2.2.2.2.2.2.1 _ k1
    refine ⟨_, hs2.r 30 0 293, _, hs2.r 31 0 293, (q_trial (by omega) h2.1).mono (Nat.le_refl _) ?_⟩
    rintro r μ3 ⟨rfl, hF3, g3, -⟩
    refine ⟨rfl, ?_⟩
    have hle := runF_le S.B (S.sr (cl k)) (S.sl (cl k)) 0 S.f
    generalize hsr : S.sr (cl k) = sr at hr hle
    generalize hsl : S.sl (cl k) = sl at hr hsl12 hle
    have rd : ∀ {μ' : Hp}, mR μ' m X S → hI μ' (X 29) (cl k) = nI sl ∧ ∀ j, j < sl * 5 → hI μ' (X 28) (60 * cl k + j) = sr j := fun {μ'} h' => by
      have := h'.2.2.2.2.2.2.1.2 (cl k) k1
      rw [hsl, hsr] at this
      exact this
    /- what is answered at an end -/
    have ans : ∀ (μ' : Hp) (i : Nat) (f' : Nat → Int32), mqFr m X μ μ' → nrw (hI μ' (X 31)) f' → S.B.row f' → (i, f') = runF S.B sr 0 sl S.f → ((¬ x = 1 → ((¬ nI i = nI sl → mqFr m X μ μ' ∧ some (Value.int (nI i)) = some (Value.int (if x = 1 then sumU (fun i => (runF S.B sr 0 sl S.f).2 (26 + i)) S.B.nl else if (runF S.B sr 0 sl S.f).1 = sl then -1 else nI (runF S.B sr 0 sl S.f).1))) ∧ (nI i = nI sl → mqFr m X μ μ' ∧ some (Value.int (-1)) = some (Value.int (if x = 1 then sumU (fun i => (runF S.B sr 0 sl S.f).2 (26 + i)) S.B.nl else if (runF S.B sr 0 sl S.f).1 = sl then -1 else nI (runF S.B sr 0 sl S.f).1)))))) ∧ (x = 1 → xCall d yX12_takenOf cX12_takenOf 3 (some .int) [.ref (X 31)] μ' ro (fun r μ6 => ∃ y : Int32, r = some (.int y) ∧ mqFr m X μ μ6 ∧ some (Value.int y) = some (Value.int (if x = 1 then sumU (fun i => (runF S.B sr 0 sl S.f).2 (26 + i)) S.B.nl else if (runF S.B sr 0 sl S.f).1 = sl then -1 else nI (runF S.B sr 0 sl S.f).1)))) := fun μ' i f' hF hf' hr' he => by
      rw [← he]
      rw [← he] at hle
      have hle' : i ≤ 0 + sl := hle
      refine ⟨fun cx => ⟨fun q => ⟨hF, ?_⟩, fun q => ⟨hF, ?_⟩⟩, fun cx => ?_⟩
      · rw [if_neg cx, if_neg (fun e : i = sl => q (by rw [e]))]
      · have := congrArg cl q
        rw [cl_nI (by omega), cl_nI (by omega)] at this
        rw [if_neg cx, if_pos (show (i, f').1 = sl from this)]
      · refine xCall_of (m_takenOf (d := d - 1) ((h.fr hF).1.1.1.s 31 0 293) hf' hr' hB) (by omega) ?_
        rintro r μ6 ⟨rfl, rfl⟩
        exact ⟨_, rfl, hF, by rw [if_pos cx]⟩
    have stop : ∀ (i : Nat) (μ' : Hp) (f' : Nat → Int32), mqFr m X μ μ' → nrw (hI μ' (X 31)) f' → S.B.row f' → (i, f') = runF S.B sr 0 sl S.f → J μ' 0 0 52 [(0, .ref m), (1, .int k), (2, .int x), (3, .int (nI i)), (4, .int 0)] [] := fun i μ' f' hF hf' hr' he => by
      have h' := h.fr hF
      have hs' := h'.1.1.1
      obtain ⟨r1, r2⟩ := rd h'
      have an := ans μ' i f' hF hf' hr' he
      refine B_X12_run_52 g hr hs'.1 (hs'.r 29 0 5) (hs'.s 29 0 5) (hs'.r 31 0 293) (hs'.r 28 0 300) (hs'.s 28 0 300) ⟨fun _ => ⟨fun cx => ⟨by rw [e1]; exact vp_in_nI (by omega) (by omega), ?_⟩, an.2⟩, fun c => absurd rfl c⟩
      rw [show k.toNatClampNeg = cl k from rfl, r1]
      exact an.1 cx
    have key := loopUp (Q := fun i => ∀ (μ' : Hp) (f' : Nat → Int32), mqFr m X μ μ' → nrw (hI μ' (X 31)) f' → goodR S.B f' → runF S.B sr i (sl - i) f' = runF S.B sr 0 sl S.f → J μ' 0 0 52 [(0, .ref m), (1, .int k), (2, .int x), (3, .int (nI i)), (4, .int 1)] []) sl ?_ (fun i hi ih μ' f' hF hf' hgd he => ?_) 0 (Nat.zero_le _) μ3 S.f (hF2.tt hF3) g3 hok.2.1 rfl
    · exact key
    · intro μ' f' hF hf' hgd he
      have h' := h.fr hF
      have hs' := h'.1.1.1
      obtain ⟨r1, r2⟩ := rd h'
      rw [Nat.sub_self, runF] at he
      have an := ans μ' sl f' hF hf' hgd.1 he
      refine B_X12_run_52 g hr hs'.1 (hs'.r 29 0 5) (hs'.s 29 0 5) (hs'.r 31 0 293) (hs'.r 28 0 300) (hs'.s 28 0 300) ⟨fun c => absurd c (by decide), fun _ => ⟨by rw [e1]; exact vp_in_nI (by omega) (by omega), ?_⟩⟩
      rw [show k.toNatClampNeg = cl k from rfl, r1]
      exact ⟨fun _ => an, fun c => absurd (Int32.le_refl _) c⟩
    · have h' := h.fr hF
      have hs' := h'.1.1.1
      obtain ⟨r1, r2⟩ := rd h'
      rw [show sl - i = (sl - (i + 1)) + 1 by omega, runF] at he
      refine B_X12_run_52 g hr hs'.1 (hs'.r 29 0 5) (hs'.s 29 0 5) (hs'.r 31 0 293) (hs'.r 28 0 300) (hs'.s 28 0 300) ⟨fun c => absurd c (by decide), fun _ => ⟨by rw [e1]; exact vp_in_nI (by omega) (by omega), fun c => absurd c (by rw [show k.toNatClampNeg = cl k from rfl, r1]; exact nI_ge hi (by omega)), fun _ => ?_⟩⟩
      have b0 := (idx60 (c := 0) e1 (rfl : nI i = nI i)).1
      rw [b0, show nI (60 * cl k + i * 5) + 1 = nI (60 * cl k + (i * 5 + 1)) from (idx60 (c := 1) e1 (rfl : nI i = nI i)).2, show nI (60 * cl k + i * 5) + 2 = nI (60 * cl k + (i * 5 + 2)) from (idx60 (c := 2) e1 (rfl : nI i = nI i)).2, show nI (60 * cl k + i * 5) + 3 = nI (60 * cl k + (i * 5 + 3)) from (idx60 (c := 3) e1 (rfl : nI i = nI i)).2, show nI (60 * cl k + i * 5) + 4 = nI (60 * cl k + (i * 5 + 4)) from (idx60 (c := 4) e1 (rfl : nI i = nI i)).2, nI_clamp (by omega), nI_clamp (by omega), nI_clamp (by omega), nI_clamp (by omega), nI_clamp (by omega), r2 (i * 5) (by omega), r2 (i * 5 + 1) (by omega), r2 (i * 5 + 2) (by omega), r2 (i * 5 + 3) (by omega), r2 (i * 5 + 4) (by omega)]
      have hat := h'.1.tr hf' hgd.1
      refine ⟨vp_in_nI (by omega) (by omega), vp_in_nI (by omega) (by omega), vp_in_nI (by omega) (by omega), vp_in_nI (by omega) (by omega), vp_in_nI (by omega) (by omega), xCall_of (m_stops (d := d - 1) (by omega) hat) (by omega) ?_⟩
      rintro r μ5 ⟨hF5, rfl⟩
      have hF5' := hF.tt hF5.1.q
      have h5 := h.fr hF5'
      have hs5 := h5.1.1.1
      by_cases hrs : rsn S.B f' (sr (i * 5)) (sr (i * 5 + 1)) (sr (i * 5 + 2)) (sr (i * 5 + 3)) (sr (i * 5 + 4)) = -1
      · rw [if_pos hrs] at he
        obtain ⟨t1, t2⟩ := rd h5
        have hat5 := h5.1.tr (by rw [hF5.2]; exact hf') hgd.1
        refine ⟨_, rfl, fun c => absurd hrs c, fun _ => ⟨hs5.1, _, hs5.r 31 0 293, _, hs5.r 28 0 300, _, hs5.s 28 0 300, vp_in_nI (by omega) (by omega), vp_in_nI (by omega) (by omega), vp_in_nI (by omega) (by omega), vp_in_nI (by omega) (by omega), vp_in_nI (by omega) (by omega), ?_⟩⟩
        rw [t2 (i * 5) (by omega), t2 (i * 5 + 1) (by omega), t2 (i * 5 + 2) (by omega), t2 (i * 5 + 3) (by omega), t2 (i * 5 + 4) (by omega)]
        refine xCall_of (m_does (d := d - 1) (by omega) hat5 hrs) (by omega) ?_
        rintro r μ6 ⟨rfl, ⟨p1, p2, -, -⟩, -, -⟩
        rw [nI_1]
        exact ⟨rfl, ih μ6 _ (hF5'.tt p1.q) p2 (doR_ok hB hgd.1 hgd.2 hrs) he⟩
      · rw [if_neg hrs] at he
        exact ⟨_, rfl, fun _ => stop i μ5 f' hF5' (by rw [hF5.2]; exact hf') hgd.1 he, fun c => absurd c hrs⟩
  · rw [if_neg hk]
    exact ⟨_, rfl, fun _ => ⟨hF2, by rw [if_neg (fun q => hk q.1)]⟩, fun c => absurd rfl c⟩
end mrun
