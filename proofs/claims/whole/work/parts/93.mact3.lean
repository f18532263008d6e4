/-! undo, image, back, perform of the model -/
section mact3
variable {d : Nat} {ro : Nat → Nat} {μ : Hp} {m : Nat} {X : Nat → Nat} {S : St}
/-- the row now is another one -/
theorem mR.row {μ' : Hp} {f' : Nat → Int32} {H' : List (Nat → Int32)} {L' : List Tri} (h : mR μ m X S) (h1 : hS μ' = hS μ ∧ hR μ' = hR μ ∧ hL μ' = hL μ) (hm : ∀ k, k ≠ 0 ∧ k ≠ 35 → hI μ' m k = hI μ m k) (hx : ∀ i, i ∈ mK → i ≠ 30 → hI μ' (X i) = hI μ (X i)) (h4 : mRow (hI μ' (X 30)) f' L') (h5 : S.B.row f') (h6 : mHs μ' m X H' L') : mR μ' m X (S.upA f' H' L') := by
  obtain ⟨a1, a2, a3, a4⟩ := h
  exact ⟨a1.gen ⟨h1.1, h1.2.1⟩ (fun k hk => hm k (by omega)) (fun i hi' => hx i (by rcases hi' with rfl | rfl | rfl <;> decide) (by omega)) h4.1 h5, h4.2, h6, a4.fr ⟨by rw [h1.2.2], by rw [h1.2.2]⟩ (fun k hk => hm k (by omega)) (fun i hi' => hx i (by
    have q1 : ∀ i, i ∈ [1, 14, 28, 29, 32] → i ∈ mK := by decide
    exact q1 i hi') (by
    have q1 : ∀ i, i ∈ [1, 14, 28, 29, 32] → i ≠ 30 := by decide
    exact q1 i hi'))⟩
theorem m_undo (hd : 1 ≤ d) (h : mR μ m X S) (hok : sOk S) : xC d yX12_undo cX12_undo 1 (some .int) 0 0 [.ref m] μ ro (fun r μ' => r = some (.int (aUndo S)) ∧ mR μ' m X S.undo ∧ mOut m X μ μ') := by
  obtain ⟨hF0, -, -, -⟩ := h.1.th
  have h0 := h.fr hF0
  have hs := h.1.1.1
  have hi := h.1.1.2
  have hwm : X 30 ≠ m := hs.ne 30
  obtain ⟨a3, fi, a4, a5, a6⟩ := h0.2.2.1
  unfold aUndo St.undo
  refine I_X12_undo (fun J g hr => B_X12_undo_0 g hr hs.1 (hs.r 33 0 11720) (hs.r 30 0 293) ?_)
  rw [a3]
  cases hH : S.H with
  | nil => exact ⟨fun c => absurd rfl c, fun _ => ⟨rfl, h0, hF0.out⟩⟩
  | cons g0 H =>
    rw [hH] at a3 a6
    have hl := hok.2.2.2.1.1
    have hLl := hok.2.2.2.1.2
    rw [hH, List.length_cons] at hl hLl
    rw [List.length_cons] at a3 a6 ⊢
    have hg0 := hok.2.2.1 g0 (by rw [hH]; exact List.mem_cons_self)
    refine ⟨fun _ v2 e2 v3 e3 => ?_, fun c => absurd c (nI_ne0 (by omega) (by omega))⟩
    rw [pred_n (by omega), show H.length + 1 - 1 = H.length by omega] at e2 e3 ⊢
    rw [hI_wI_s, upd_n _ (by decide), a5] at e2
    rw [hI_wI_s, upd_s] at e3
    rw [e2, e3, nI_add, show nI (fi + H.length) - nI (fi + H.length) / 40 * 40 = nI ((fi + H.length) % 40) from rem_n 40 (by omega) (by omega) (by omega), show (293 : Int32) * nI ((fi + H.length) % 40) = nI (293 * ((fi + H.length) % 40)) from i_mul 293 _]
    refine xCall_of (m_copyRow (d := d - 1) (μ := wI (wI μ m 0 0) m 35 (nI H.length)) (y := 0) (N0 := 11720) (N2 := 293) (hs.s 33 0 11720) (hs.s 30 0 293) (hi.ne 33 30) (by omega) (by omega) (by omega)) (by omega) ?_
    rintro r μ' ⟨rfl, e'⟩
    have o : ∀ i, i ∈ mK → i ≠ 30 → hI μ' (X i) = hI (wI μ m 0 0) (X i) := fun i hik hn => by rw [e', hI_wRow_n _ _ (fun q => hn (hi i 30 hik (by decide) q)), hI_wI_n _ _ _ (hs.ne i hik)]
    have mm : ∀ k, k ≠ 35 → hI μ' m k = hI (wI μ m 0 0) m k := fun k hk => by rw [e', hI_wRow_n _ _ (Ne.symm hwm), hI_wI_s, upd_n _ hk]
    have m35 : hI μ' m 35 = nI H.length := by rw [e', hI_wRow_n _ _ (Ne.symm hwm), hI_wI_s, upd_s]
    refine ⟨rfl, by rw [e', hS_wRow]; exact hs.1, ?_, ?_, ?_⟩
    · rw [m35]
    · refine h0.row ⟨by rw [e']; rfl, by rw [e']; rfl, by rw [e']; rfl⟩ (fun k hk => mm k hk.2) o ?_ hg0.1 ⟨m35, fi, a4, by rw [mm 34 (by decide)]; exact a5, fun i g hg => ?_⟩
      · have := a6 0 g0 rfl
        rw [show fi + (H.length + 1) - 1 - 0 = fi + H.length by omega] at this
        refine mRow_congr this hg0.1.1.2.1 (fun j hj => ?_)
        rw [e', hI_wRow_s]
        unfold cpR
        rw [if_pos (by omega), hI_wI_n _ _ _ (hs.ne 33)]
        congr 1
      · have hkl := (List.getElem?_eq_some_iff.mp hg).1
        have := a6 (i + 1) g (by simpa using hg)
        rw [show fi + (H.length + 1) - 1 - (i + 1) = fi + H.length - 1 - i by omega] at this
        rw [o 33 (by decide) (by decide), List.drop_drop, show 1 + (i + 1) = i + 1 + 1 by omega]
        exact this
    · rw [e']; exact ((hF0.out).f 35 _).w 30 _
theorem m_image (hd : 1 ≤ d) (h : mR μ m X S) (hok : sOk S) : xC d yX12_image cX12_image 1 (some .int) 0 0 [.ref m] μ ro (fun r μ' => r = some (.int (aImg S)) ∧ mR μ' m X S.img ∧ mOut m X μ μ') := by
  obtain ⟨hF0, -, n20, n22⟩ := h.1.th
  have h0 := h.fr hF0
  have hs := h.1.1.1
  have hi := h.1.1.2
  have hnf := hok.1.1.1.2.1
  unfold aImg St.img
  refine I_X12_image (fun J g hr => B_X12_image_0 g hr hs.1 (hs.r 30 0 293) (hs.r 32 0 293) ?_)
  rw [n22]
  refine ⟨fun c => ?_, fun c => ?_⟩
  · have c' : ¬ S.B.nf = 0 := fun e => c (by rw [e]; rfl)
    rw [if_neg c', if_neg c']
    refine xCall_of (m_copyRow (d := d - 1) (μ := wI μ m 0 0) (x := 0) (y := 0) (hs.s 30 0 293) (hs.s 32 0 293) (hi.ne 30 32) (by omega) (by omega) (by omega)) (by omega) ?_
    rintro r μ3 ⟨rfl, e3⟩
    have hwm : X 32 ≠ m := hs.ne 32
    generalize hμ' : wI μ3 m 36 1 = μ'
    have o : ∀ i, i ∈ mK → i ≠ 32 → hI μ' (X i) = hI (wI μ m 0 0) (X i) := fun i hik hn => by rw [← hμ', hI_wI_n _ _ _ (hs.ne i hik), e3, hI_wRow_n _ _ (fun q => hn (hi i 32 hik (by decide) q))]
    have mm : ∀ k, k ≠ 36 → hI μ' m k = hI (wI μ m 0 0) m k := fun k hk => by rw [← hμ', hI_wI_s, upd_n _ hk, e3, hI_wRow_n _ _ (Ne.symm hwm)]
    have hL' : hL μ' = hL (wI μ m 0 0) := by rw [← hμ', e3]; rfl
    refine ⟨rfl, by rw [e3, hS_wRow]; exact hs.1, _, by rw [e3, hR_wRow]; exact hs.r 30 0 293, _, by rw [e3, hS_wRow]; exact hs.s 30 0 293, lit_in 30 (by omega) (by omega), ?_, ?_, ?_⟩
    · rw [o 30 (by decide) (by decide), h0.1.2.2.1.2.1]
    · obtain ⟨b1, b2, b3, b4⟩ := h0
      refine ⟨b1.gen ⟨by rw [← hμ', e3]; rfl, by rw [← hμ', e3]; rfl⟩ (fun k hk => mm k (by omega)) (fun i hi' => o i (by rcases hi' with rfl | rfl | rfl <;> decide) (by omega)) (by rw [o 30 (by decide) (by decide)]; exact b1.2.2.1) b1.2.2.2.2.2, by rw [o 30 (by decide) (by decide)]; exact b2, b3.fr ⟨mm 34 (by decide), mm 35 (by decide)⟩ (o 33 (by decide) (by decide)), ?_⟩
      obtain ⟨c1, c2, c3, c4, c5⟩ := b4
      refine ⟨?_, ⟨?_, fun q hq => ?_⟩, ?_, ?_, ?_⟩
      · unfold mNm; rw [hL']; exact c1
      · rw [← hμ', hI_wI_s, upd_s]; rfl
      · have hq' : some (S.f, S.L) = some q := hq
        cases hq'
        refine mRow_congr ⟨b1.2.2.1, b2⟩ hok.2.1.1.1.2.1 (fun j hj => ?_)
        rw [← hμ', hI_wI_n _ _ _ hwm, e3, hI_wRow_s]
        unfold cpR
        rw [if_pos (by omega), show 0 + (j - 0) = j by omega]
      · unfold mTp; rw [mm 2 (by decide), o 1 (by decide) (by decide)]; exact c3
      · unfold mSc; rw [mm 27 (by decide), o 29 (by decide) (by decide), o 28 (by decide) (by decide)]; exact c4
      · unfold mRf; rw [o 14 (by decide) (by decide)]; exact c5
    · rw [← hμ', e3]; exact ((hF0.out).w 32 _).f 36 _
  · have c' : S.B.nf = 0 := by
      rcases Nat.eq_zero_or_pos S.B.nf with e | e
      · exact e
      · exact absurd c (nI_ne0 e (by omega))
    rw [if_pos c', if_pos c']
    exact ⟨rfl, h0, hF0.out⟩
theorem m_back (hd : 1 ≤ d) (h : mR μ m X S) (hok : sOk S) : xC d yX12_back cX12_back 1 (some .int) 0 0 [.ref m] μ ro (fun r μ' => r = some (.int (aBack S)) ∧ mR μ' m X S.back ∧ mOut m X μ μ') := by
  obtain ⟨hF0, -, n20, n22⟩ := h.1.th
  have h0 := h.fr hF0
  have hs := h.1.1.1
  have hi := h.1.1.2
  have hwm : X 30 ≠ m := hs.ne 30
  obtain ⟨a3, fi, a4, a5, a6⟩ := h0.2.2.1
  have him := h0.2.2.2.2.1
  unfold aBack St.back
  refine I_X12_back (fun J g hr => B_X12_back_0 g hr hs.1 (hs.r 32 0 293) (hs.r 30 0 293) ?_)
  rw [him.1]
  cases hq : S.im with
  | none => exact ⟨fun c => absurd rfl c, fun _ => ⟨rfl, h0, hF0.out⟩⟩
  | some q =>
    have hr2 := him.2 q hq
    have hgq := hok.2.2.2.2.1 q hq
    refine ⟨fun _ => xCall_of (m_copyRow (d := d - 1) (μ := wI μ m 0 0) (x := 0) (y := 0) (hs.s 32 0 293) (hs.s 30 0 293) (hi.ne 32 30) (by omega) (by omega) (by omega)) (by omega) ?_, fun c => absurd c (by rw [if_neg (by simp)]; decide)⟩
    rintro r μ3 ⟨rfl, e3⟩
    generalize hμ' : wI μ3 m 35 0 = μ'
    have o : ∀ i, i ∈ mK → i ≠ 30 → hI μ' (X i) = hI (wI μ m 0 0) (X i) := fun i hik hn => by rw [← hμ', hI_wI_n _ _ _ (hs.ne i hik), e3, hI_wRow_n _ _ (fun q => hn (hi i 30 hik (by decide) q))]
    have mm : ∀ k, k ≠ 35 → hI μ' m k = hI (wI μ m 0 0) m k := fun k hk => by rw [← hμ', hI_wI_s, upd_n _ hk, e3, hI_wRow_n _ _ (Ne.symm hwm)]
    have r30 : mRow (hI μ' (X 30)) q.1 q.2 := mRow_congr hr2 hgq.1.1.2.1 (fun j hj => by
      rw [← hμ', hI_wI_n _ _ _ hwm, e3, hI_wRow_s]
      unfold cpR
      rw [if_pos (by omega), show 0 + (j - 0) = j by omega])
    refine ⟨rfl, by rw [e3, hS_wRow]; exact hs.1, _, by rw [e3, hR_wRow]; exact hs.r 30 0 293, _, by rw [e3, hS_wRow]; exact hs.s 30 0 293, lit_in 30 (by omega) (by omega), ?_, ?_, ?_⟩
    · rw [r30.1.2.1]
    · exact h0.row ⟨by rw [← hμ', e3]; rfl, by rw [← hμ', e3]; rfl, by rw [← hμ', e3]; rfl⟩ (fun k hk => mm k hk.2) o r30 hgq.1 ⟨by rw [← hμ', hI_wI_s, upd_s]; rfl, fi, a4, by rw [mm 34 (by decide)]; exact a5, fun i g hg => by simp at hg⟩
    · rw [← hμ', e3]; exact ((hF0.out).w 30 _).f 35 _
theorem idx60 {k i : Int32} {K I c : Nat} (hk : k = nI K) (hi : i = nI I) : (5 : Int32) * (12 * k + i) = nI (60 * K + I * 5) ∧ nI (60 * K + I * 5) + nI c = nI (60 * K + (I * 5 + c)) := by
  refine ⟨?_, by rw [nI_add, Nat.add_assoc]⟩
  rw [hk, hi, show (12 : Int32) * nI K = nI (12 * K) from i_mul 12 K, nI_add, show (5 : Int32) * nI (12 * K + I) = nI (5 * (12 * K + I)) from i_mul 5 _]
  congr 1
  omega
/-- the states on the way of a performance keep to their bounds -/
theorem act_ok {S : St} (hok : sOk S) {act x y z e : Int32} (hr : rsn S.B S.f act x y z e = -1) : sOk (S.act act x y z e) := by
  obtain ⟨h1, h2, h3, h4, h5, h6, h7, h8, h9, h10⟩ := hok
  have hlen := take40 (x := S.f) h4.1
  refine ⟨h1, doR_ok h1 h2.1 h2.2 hr, fun g hg => ?_, ⟨?_, ?_⟩, h5, h6, h7, h8, h9, h10⟩
  · rcases List.mem_cons.mp (List.mem_of_mem_take hg) with rfl | hm
    · exact h2
    · exact h3 g hm
  · show ((S.f :: S.H).take 40).length ≤ 40
    rw [hlen]; omega
  · show ((S.f :: S.H).take 40).length ≤ S.L.length + 1
    rw [hlen]; omega
theorem try_ok {S : St} (hok : sOk S) {act x y z e : Int32} : sOk (S.tryA act x y z e) := by
  unfold St.tryA
  split
  · exact act_ok hok (by assumption)
  · exact hok
theorem m_perform {k : Int32} (hd : 18 ≤ d) (h : mR μ m X S) (hok : sOk S) : xC d yX12_perform cX12_perform 5 (some .int) 0 0 [.ref m, .int k] μ ro (fun r μ' => r = some (.int (aPerf S k)) ∧ mR μ' m X (S.perf k) ∧ mOut m X μ μ') := by
  obtain ⟨hF0, -, n20, n22⟩ := h.1.th
  have h0 := h.fr hF0
  have hs := h.1.1.1
  have hnf := hok.1.1.1.2.1
  have hns := hok.2.2.2.2.2.1.2
  unfold aPerf St.perf
  refine I_X12_perform (fun J g hr => B_X12_perform_0 g hr hs.1 (xCall_of (m_isScript (d := d - 1) (by omega) h0 hns) (by omega) ?_))
  rintro r μ2 ⟨e2, rfl⟩
  have hF2 : mqFr m X μ μ2 := by rw [e2]; exact hF0
  have h2 := h.fr hF2
  have hs2 := h2.1.1.1
  by_cases hk : inN k S.ns
  · rw [if_pos hk]
    refine ⟨_, rfl, fun c => absurd c (by decide), fun _ => ⟨hs2.1, ?_⟩⟩
    rw [h2.1.2.1.1.2.1]
    refine ⟨fun c => ?_, fun c => ?_⟩
    · have c' : ¬ S.B.nf = 0 := fun e => c (by rw [e]; rfl)
      rw [if_pos ⟨hk, c'⟩, if_pos ⟨hk, c'⟩] at hr
      obtain ⟨e1, k1⟩ := hk.ex (by omega)
      have hsl12 := hok.2.2.2.2.2.2.1 _ k1
      generalize hsr : S.sr (cl k) = sr at hr
      generalize hsl : S.sl (cl k) = sl at hr hsl12
      have rd : ∀ {μ' : Hp} {S' : St}, mR μ' m X S' → (S'.ns = S.ns ∧ S'.sr = S.sr ∧ S'.sl = S.sl) → hI μ' (X 29) (cl k) = nI sl ∧ ∀ j, j < sl * 5 → hI μ' (X 28) (60 * cl k + j) = sr j := fun {μ' S'} h' hS => by
        have := h'.2.2.2.2.2.2.1.2 (cl k) (by rw [hS.1]; exact k1)
        rw [hS.2.1, hS.2.2, hsl, hsr] at this
        exact this
      have stop : ∀ (i : Nat) (μ' : Hp) (S' : St), mR μ' m X S' → mOut m X μ μ' → (nI i, S') = perfS sr 0 sl S → J μ' 0 0 26 [(0, .ref m), (1, .int k), (2, .int (nI i)), (3, .int 0)] [] := fun i μ' S' h' ho he => by
        have hs' := h'.1.1.1
        refine B_X12_perform_26 g hr hs'.1 (hs'.r 29 0 5) (hs'.s 29 0 5) (hs'.r 28 0 300) (hs'.s 28 0 300) ⟨fun _ => ?_, fun c => absurd rfl c⟩
        rw [← he]; exact ⟨rfl, h', ho⟩
      have key := loopUp (Q := fun i => ∀ (μ' : Hp) (S' : St), mR μ' m X S' → sOk S' → mOut m X μ μ' → (S'.ns = S.ns ∧ S'.sr = S.sr ∧ S'.sl = S.sl) → perfS sr i (sl - i) S' = perfS sr 0 sl S → J μ' 0 0 26 [(0, .ref m), (1, .int k), (2, .int (nI i)), (3, .int 1)] []) sl ?_ (fun i hi ih μ' S' h' hok' ho hS he => ?_) 0 (Nat.zero_le _) μ2 S h2 hok hF2.out ⟨rfl, rfl, rfl⟩ rfl
      · exact key
      · intro μ' S' h' hok' ho hS he
        have hs' := h'.1.1.1
        obtain ⟨r1, r2⟩ := rd h' hS
        refine B_X12_perform_26 g hr hs'.1 (hs'.r 29 0 5) (hs'.s 29 0 5) (hs'.r 28 0 300) (hs'.s 28 0 300) ⟨fun c => absurd c (by decide), fun _ => ⟨by rw [e1]; exact vp_in_nI (by omega) (by omega), fun _ => ?_, fun c => absurd (by rw [show k.toNatClampNeg = cl k from rfl, r1]; exact Int32.le_refl _) c⟩⟩
        rw [← he, Nat.sub_self]
        exact ⟨rfl, h', ho⟩
      · have hs' := h'.1.1.1
        obtain ⟨r1, r2⟩ := rd h' hS
        rw [show sl - i = (sl - (i + 1)) + 1 by omega, perfS] at he
        refine B_X12_perform_26 g hr hs'.1 (hs'.r 29 0 5) (hs'.s 29 0 5) (hs'.r 28 0 300) (hs'.s 28 0 300) ⟨fun c => absurd c (by decide), fun _ => ⟨by rw [e1]; exact vp_in_nI (by omega) (by omega), fun c => absurd c (by rw [show k.toNatClampNeg = cl k from rfl, r1]; exact nI_ge hi (by omega)), fun _ => ?_⟩⟩
        have b0 := (idx60 (c := 0) e1 (rfl : nI i = nI i)).1
        rw [b0, show nI (60 * cl k + i * 5) + 1 = nI (60 * cl k + (i * 5 + 1)) from (idx60 (c := 1) e1 (rfl : nI i = nI i)).2, show nI (60 * cl k + i * 5) + 2 = nI (60 * cl k + (i * 5 + 2)) from (idx60 (c := 2) e1 (rfl : nI i = nI i)).2, show nI (60 * cl k + i * 5) + 3 = nI (60 * cl k + (i * 5 + 3)) from (idx60 (c := 3) e1 (rfl : nI i = nI i)).2, show nI (60 * cl k + i * 5) + 4 = nI (60 * cl k + (i * 5 + 4)) from (idx60 (c := 4) e1 (rfl : nI i = nI i)).2, nI_clamp (by omega), nI_clamp (by omega), nI_clamp (by omega), nI_clamp (by omega), nI_clamp (by omega), r2 (i * 5) (by omega), r2 (i * 5 + 1) (by omega), r2 (i * 5 + 2) (by omega), r2 (i * 5 + 3) (by omega), r2 (i * 5 + 4) (by omega)]
        refine ⟨vp_in_nI (by omega) (by omega), vp_in_nI (by omega) (by omega), vp_in_nI (by omega) (by omega), vp_in_nI (by omega) (by omega), vp_in_nI (by omega) (by omega), xCall_of (m_tries (d := d - 1) (by omega) h' hok') (by omega) ?_⟩
        rintro r μ3 ⟨rfl, q1, q2, -, -⟩
        have ho3 := ho.tt q2
        unfold St.tryA at q1
        by_cases hrs : rsn S'.B S'.f (sr (i * 5)) (sr (i * 5 + 1)) (sr (i * 5 + 2)) (sr (i * 5 + 3)) (sr (i * 5 + 4)) = -1
        · rw [if_pos hrs] at he q1
          rw [nI_1]
          exact ⟨_, rfl, fun c => absurd hrs c, fun _ => ih μ3 _ q1 (act_ok hok' hrs) ho3 hS he⟩
        · rw [if_neg hrs] at he q1
          exact ⟨_, rfl, fun _ => stop i μ3 S' q1 ho3 he, fun c => absurd c hrs⟩
    · have c' : S.B.nf = 0 := by
        rcases Nat.eq_zero_or_pos S.B.nf with e | e
        · exact e
        · exact absurd c (nI_ne0 e (by omega))
      rw [if_neg (fun q => q.2 c'), if_neg (fun q => q.2 c')]
      exact ⟨rfl, h2, hF2.out⟩
  · rw [if_neg hk, if_neg (fun q => hk q.1), if_neg (fun q => hk q.1)]
    exact ⟨_, rfl, fun _ => ⟨rfl, h2, hF2.out⟩, fun c => absurd rfl c⟩
end mact3
