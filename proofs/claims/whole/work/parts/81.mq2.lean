/-! best, stop, loops, least, take, asOf, hop, direct of the model -/
section mq2
variable {d : Nat} {ro : Nat → Nat} {μ : Hp} {m : Nat} {X : Nat → Nat} {B : Bk} {f : Nat → Int32} {s u t a : Int32}
theorem mQ.th (h : mQ μ m X B f) : mqFr m X μ (wI μ m 0 0) ∧ mQ (wI μ m 0 0) m X B f ∧ hI (wI μ m 0 0) m 20 = nI B.nl ∧ hI (wI μ m 0 0) m 22 = nI B.nf := by
  have hF : mqFr m X μ (wI μ m 0 0) := mqFr.rf.f 0 0
  have h1 := h.fr hF
  exact ⟨hF, h1, h1.2.1.1.1, h1.2.1.1.2.1⟩
theorem mQ.cx (h : mQ μ m X B f) (hy : hI μ m 37 = f 0) : mCx μ m X 30 f B.lw B.lo B.tr (cl (f 1)) B.nl B.nf B.nt (-1) (-1) := by
  obtain ⟨⟨h1, h2⟩, h3, h4, h5, h6, h7⟩ := h
  exact ⟨⟨h1, h2, Or.inl rfl⟩, h3, h4.1, ⟨hy, h5.1, h5.2.1⟩, h7, h6.1⟩
theorem m_best {x : Int32} (hd : 15 ≤ d) (h : mQ μ m X B f) : xC d yX12_best cX12_best 6 (some .int) 0 0 [.ref m, .int s, .int u, .int t, .int a, .int x] μ ro (fun r μ' => mqFr m X μ μ' ∧ r = some (.int (aBest B f s u t a x))) := by
  obtain ⟨hF0, h0, -, -⟩ := h.th
  unfold aBest
  refine I_X12_best (fun J g hr => B_X12_best_0 g hr h.1.1.1 (by omega) ⟨fun c => ⟨hF0, by rw [if_pos (Or.inl c)]⟩, fun c1 => ⟨fun c => ⟨hF0, by rw [if_pos (Or.inr c)]⟩, fun c2 => xCall_of (m_finds (d := d - 1) (by omega) h0) (by omega) ?_⟩⟩)
  rw [if_neg (not_or.mpr ⟨c1, c2⟩)]
  rintro r μ' ⟨hF, (⟨rfl, e⟩ | ⟨rfl, ha, w, e, e', k1, k2, k3, k4, k5, k6, k7⟩)⟩
  · exact ⟨_, rfl, fun h => absurd rfl h, fun _ => ⟨hF0.tt hF, by rw [e, onW_none]⟩⟩
  · have hs' := (h0.fr hF).1.1
    rw [e, onW_some]
    refine ⟨_, rfl, fun _ => ⟨fun n0 => ⟨fun n1 => ⟨fun n2 => ⟨hs'.1, hF0.tt hF, ?_⟩, fun n2 => ⟨hs'.1, hF0.tt hF, ?_⟩⟩, fun n1 => ⟨hs'.1, hF0.tt hF, ?_⟩⟩, fun n0 => ⟨hs'.1, hF0.tt hF, ?_⟩⟩, fun h => absurd h (by decide)⟩
    · rw [if_neg n0, if_neg n1, if_neg n2, k7]
    · rw [if_neg n0, if_neg n1, if_pos n2, k6]
    · rw [if_neg n0, if_pos n1, k2]
    · rw [if_pos n0, k5]
theorem m_stop {i x : Int32} (hd : 15 ≤ d) (h : mQ μ m X B f) : xC d yX12_stop cX12_stop 7 (some .int) 0 0 [.ref m, .int s, .int u, .int t, .int a, .int i, .int x] μ ro (fun r μ' => mqFr m X μ μ' ∧ r = some (.int (aStop B f s u t a i x))) := by
  obtain ⟨hF0, h0, -, -⟩ := h.th
  unfold aStop
  refine I_X12_stop (fun J g hr => B_X12_stop_0 g hr h.1.1.1 (by omega) ⟨fun c => ⟨hF0, by rw [if_pos (Or.inr (Or.inl c))]⟩, fun c1 => ⟨fun c => ⟨hF0, by rw [if_pos (Or.inr (Or.inr c))]⟩, fun c2 => xCall_of (m_finds (d := d - 1) (by omega) h0) (by omega) ?_⟩⟩)
  rintro r μ' ⟨hF, (⟨rfl, e⟩ | ⟨rfl, ha, w, e, e', k1, k2, k3, k4, k5, k6, k7⟩)⟩
  · refine ⟨_, rfl, fun _ => ⟨hF0.tt hF, ?_⟩, fun h => absurd rfl h⟩
    rw [e, onW_none]
    split <;> rfl
  · have hs' := (h0.fr hF).1.1
    have hF' := hF0.tt hF
    rw [e, onW_some]
    refine ⟨_, rfl, fun c => absurd c (by decide), fun _ => ⟨hs'.1, fun c3 => ⟨hF', by rw [if_pos (Or.inl c3)]⟩, fun c3 => ?_⟩⟩
    rw [if_neg (not_or.mpr ⟨c3, not_or.mpr ⟨c1, c2⟩⟩)]
    obtain ⟨j, hj, rfl⟩ := nI_of c3
    obtain ⟨y, hy, rfl⟩ := smallx 4 c1 c2 (by decide)
    have hwl : 0 < w.length := List.length_pos_iff.mpr k1.1
    have hw5 := k1.2.1
    rw [cl_nI hj, k2, show nI w.length - 1 = nI (w.length - 1) by rw [show w.length = (w.length - 1) + 1 by omega]; exact nI_pred _]
    refine pk_lt (w.length - 1) j (fun c => ⟨hF', ?_⟩) (fun c => ?_)
    · rw [List.getElem?_eq_none (by rw [recs_len]; omega)]
    · have hl : j < (recs (B.D f (-1) (-1) s (cl t)) (cl u) (cl a) w).length := by rw [recs_len]; omega
      have hg := List.getElem?_eq_getElem hl
      obtain ⟨⟨r1, r2, r3, r4, r5⟩, -⟩ := k4 j _ hg
      have rf := recs_get hg
      have rw' := k3 (j + 1) _ (by rw [List.getElem?_cons_succ]; exact rf)
      rw [hg]
      generalize (recs (B.D f (-1) (-1) s (cl t)) (cl u) (cl a) w)[j] = R at *
      have vi : ∀ N, 5 ≤ N → N < 100 → vp_in (nI j) N := fun N h1 h2 => vp_in_nI (by omega) (by omega)
      rw [nI_1, nI_clamp (by omega), nI_clamp (by omega)]
      refine ⟨fun q => ⟨_, hs'.r 47 0 5, _, hs'.s 47 0 5, vi 5 (by omega) (by omega), hF', ?_⟩, fun q => ⟨_, hs'.r 43 0 6, _, hs'.s 43 0 6, vp_in_nI (by omega) (by omega), hF', ?_⟩, fun q => ⟨_, hs'.r 44 0 5, _, hs'.s 44 0 5, vi 5 (by omega) (by omega), hF', ?_⟩, fun q => ⟨_, hs'.r 45 0 5, _, hs'.s 45 0 5, vi 5 (by omega) (by omega), hF', ?_⟩, fun q => ⟨_, hs'.r 46 0 5, _, hs'.s 46 0 5, vi 5 (by omega) (by omega), hF', ?_⟩⟩
      · have n : ∀ k : Int32, k.toInt ≥ 0 → k.toInt ≤ 3 → ¬ nI y = k := fun k h1 h2 e => by rw [e] at q; omega
        simp only [rcN]
        rw [if_neg (n 0 (by decide) (by decide)), if_neg (n 1 (by decide) (by decide)), if_neg (n 2 (by decide) (by decide)), if_neg (n 3 (by decide) (by decide)), r4]
      · simp only [rcN]
        rw [if_pos q, rw']
      · simp only [rcN]
        rw [q, r1]; rfl
      · simp only [rcN]
        rw [q, r2]; rfl
      · simp only [rcN]
        rw [q, r3]; rfl
theorem m_loops (hd : 14 ≤ d) (h : mQ μ m X B f) : xC d yX12_loops cX12_loops 5 (some .int) 0 0 [.ref m, .int s, .int u, .int t] μ ro (fun r μ' => mqFr m X μ μ' ∧ r = some (.int (aLoops B f s u t))) := by
  obtain ⟨hF0, h0, -, -⟩ := h.th
  unfold aLoops
  refine I_X12_loops (fun J g hr => B_X12_loops_0 g hr h.1.1.1 (xCall_of (m_isAsked (d := d - 1) (by omega) h0) (by omega) ?_))
  rintro r μ1 ⟨e1, rfl⟩
  have hF1 : mqFr m X μ μ1 := by rw [e1]; exact hF0.f 37 _
  have h1 := h.fr hF1
  have y1 : hI μ1 m 37 = f 0 := by rw [e1, hI_wI_s, upd_s]
  by_cases ha : asked B.nf s u t 1
  · rw [if_pos ha, if_pos ha]
    refine ⟨_, rfl, fun _ => ⟨h1.1.1.1, _, h1.1.1.r 30 0 293, (q_mnow (sp := false) (by omega) h1 y1 ha).mono (Nat.le_refl _) ?_⟩, fun h => absurd h (by decide)⟩
    rintro r μ' ⟨g1, g2, rfl, -⟩
    exact ⟨_, rfl, (h1.fr g1.q).1.1.1, hF1.tt g1.q, by rw [g2]⟩
  · rw [if_neg ha, if_neg ha]
    exact ⟨_, rfl, fun h => absurd rfl h, fun _ => ⟨hF1, rfl⟩⟩
theorem m_least {x : Int32} (hd : 14 ≤ d) (h : mQ μ m X B f) : xC d yX12_least cX12_least 6 (some .int) 0 0 [.ref m, .int s, .int u, .int t, .int a, .int x] μ ro (fun r μ' => mqFr m X μ μ' ∧ r = some (.int (aLeast B f s u t a x))) := by
  obtain ⟨hF0, h0, -, -⟩ := h.th
  unfold aLeast
  refine I_X12_least (fun J g hr => B_X12_least_0 g hr h.1.1.1 (by omega) ⟨fun c => ⟨hF0, by rw [if_pos (Or.inl c)]⟩, fun c1 => ⟨fun c => ⟨hF0, by rw [if_pos (Or.inr c)]⟩, fun c2 => xCall_of (m_isAsked (d := d - 1) (by omega) h0) (by omega) ?_⟩⟩)
  rw [if_neg (not_or.mpr ⟨c1, c2⟩)]
  rintro r μ1 ⟨e1, rfl⟩
  have hF1 : mqFr m X μ μ1 := by rw [e1]; exact hF0.f 37 _
  have h1 := h.fr hF1
  have y1 : hI μ1 m 37 = f 0 := by rw [e1, hI_wI_s, upd_s]
  by_cases ha : asked B.nf s u t a
  · rw [if_pos ha, if_pos ha]
    refine ⟨_, rfl, fun h => absurd h (by decide), fun _ => ⟨h1.1.1.1, _, h1.1.1.r 30 0 293, (q_mnow (sp := true) (by omega) h1 y1 ha).mono (Nat.le_refl _) ?_⟩⟩
    rintro r μ' ⟨g1, g2, rfl, g4⟩
    have hs' := (h1.fr g1.q).1.1
    have hF' := hF1.tt g1.q
    cases e : wayOf B f (-1) (-1) true s (cl u) (cl t) (cl a) 0 with
    | none => exact ⟨_, rfl, fun h => absurd (if_pos rfl) h, fun _ => ⟨hF', by rw [onW_none]⟩⟩
    | some w =>
      obtain ⟨k1, k2, k3, k4, k5, k6, k7⟩ := g4 w e
      rw [onW_some]
      refine ⟨_, rfl, fun _ => ⟨fun n0 => ⟨fun n1 => ⟨hs'.1, hF', ?_⟩, fun n1 => ⟨hs'.1, hF', ?_⟩⟩, fun n0 => ⟨hs'.1, hF', ?_⟩⟩, fun h => absurd h (by rw [if_neg (by simp)]; decide)⟩
      · rw [if_neg n0, if_neg n1, k5]
      · rw [if_neg n0, if_pos n1, k2]
      · rw [if_pos n0, k6]
  · rw [if_neg ha, if_neg ha]
    exact ⟨_, rfl, fun _ => ⟨hF1, rfl⟩, fun h => absurd rfl h⟩
/-- in another year -/
theorem m_findsIn {y : Int32} (hd : 14 ≤ d) (h : mQ μ m X B f) (hy : bd y 200) : xC d yX12_findsIn cX12_findsIn 6 (some .boolean) 0 0 [.ref m, .int s, .int u, .int t, .int a, .int y] μ ro (fun r μ' => mqFr m X μ μ' ∧ (¬ asked B.nf s u t a → r = some (.int 0)) ∧ (asked B.nf s u t a → r = some (.int (if wayOf B (upd f 0 y) (-1) (-1) false s (cl u) (cl t) (cl a) 0 = none then 0 else 1)) ∧ ∀ w, wayOf B (upd f 0 y) (-1) (-1) false s (cl u) (cl t) (cl a) 0 = some w → mFnd μ' m X (B.D (upd f 0 y) (-1) (-1) s (cl t)) (cl u) (cl a) w)) := by
  refine I_X12_findsIn (fun J g hr => B_X12_findsIn_0 g hr h.1.1.1 (xCall_of (m_isAsked (d := d - 1) (by omega) h) (by omega) ?_))
  rintro r μ1 ⟨e1, rfl⟩
  have hF1 : mqFr m X μ μ1 := by rw [e1]; exact mqFr.rf.f 37 _
  by_cases ha : asked B.nf s u t a
  · rw [if_pos ha]
    have hF2 : mqFr m X μ (wI μ1 m 37 y) := hF1.f 37 _
    obtain ⟨⟨a1, a2⟩, a3, a4, a5, a6, a7⟩ := h.fr hF2
    have hr1 : upd f 0 y 1 = f 1 := upd_n _ (by decide)
    refine ⟨_, rfl, fun _ => ⟨(h.fr hF1).1.1.1, _, (h.fr hF1).1.1.r 30 0 293, (q_ms (sp := false) (M := 0) (g := upd f 0 y) (by omega) a1 a2 a3 a6 (Or.inl rfl) ?_ (Bk.row_year a7 hy) (by rw [hI_wI_s, upd_s, upd_s]) ⟨a5.1, a5.2.1⟩ a5.2.2 (Or.inl ⟨rfl, rfl⟩) ha).mono (Nat.le_refl _) ?_⟩, fun c => absurd c (by decide)⟩
    · rw [hr1]
      obtain ⟨b1, b2, b3, b4⟩ := a4.1
      exact ⟨b1, by rw [hr1]; exact b2, fun j hj => by rw [upd_n _ (by omega), upd_n _ (by omega)]; exact b3 j hj, fun k c hk hc => by rw [upd_n _ (by omega)]; exact b4 k c hk hc⟩
    · rintro r μ' ⟨g1, -, rfl, g4⟩
      exact ⟨_, rfl, by split <;> rfl, hF2.tt g1.q, fun c => absurd ha c, fun _ => ⟨rfl, g4⟩⟩
  · rw [if_neg ha]
    exact ⟨_, rfl, fun c => absurd rfl c, fun _ => ⟨hF1, fun _ => rfl, fun c => absurd c ha⟩⟩
theorem m_asOf {y x : Int32} (hd : 15 ≤ d) (h : mQ μ m X B f) : xC d yX12_asOf cX12_asOf 7 (some .int) 0 0 [.ref m, .int s, .int u, .int t, .int a, .int y, .int x] μ ro (fun r μ' => mqFr m X μ μ' ∧ r = some (.int (aAsOf B f s u t a y x))) := by
  obtain ⟨hF0, h0, -, -⟩ := h.th
  unfold aAsOf
  refine I_X12_asOf (fun J g hr => B_X12_asOf_0 g hr h.1.1.1 (by omega) ⟨fun c => ⟨hF0, by rw [if_pos (Or.inr (Or.inr (Or.inl c)))]⟩, fun c1 => ⟨fun c => ⟨hF0, by rw [if_pos (Or.inr (Or.inr (Or.inr c)))]⟩, fun c2 => ⟨fun c => ⟨hF0, by rw [if_pos (Or.inl c)]⟩, fun c3 => ⟨fun c => ⟨hF0, by rw [if_pos (Or.inr (Or.inl c))]⟩, fun c4 => xCall_of (m_findsIn (d := d - 1) (by omega) h0 (year_bd c1 c2)) (by omega) ?_⟩⟩⟩⟩)
  rw [if_neg (not_or.mpr ⟨c3, not_or.mpr ⟨c4, not_or.mpr ⟨c1, c2⟩⟩⟩)]
  rintro r μ' ⟨hF, g1, g2⟩
  have hF' := hF0.tt hF
  have hs' := (h0.fr hF).1.1
  by_cases ha : asked B.nf s u t a
  · obtain ⟨rfl, g4⟩ := g2 ha
    rw [if_pos ha]
    cases e : wayOf B (upd f 0 y) (-1) (-1) false s (cl u) (cl t) (cl a) 0 with
    | none => exact ⟨_, rfl, fun h => absurd (if_pos rfl) h, fun _ => ⟨hF', rfl⟩⟩
    | some w =>
      obtain ⟨k1, k2, k3, k4, k5, k6, k7⟩ := g4 w e
      rw [onW_some]
      exact ⟨_, rfl, fun _ => ⟨fun n0 => ⟨hs'.1, hF', by rw [if_neg n0, k2]⟩, fun n0 => ⟨hs'.1, hF', by rw [if_pos n0, k5]⟩⟩, fun h => absurd h (by rw [if_neg (by simp)]; decide)⟩
  · rw [if_neg ha]
    exact ⟨_, g1 ha, fun h => absurd rfl h, fun _ => ⟨hF', rfl⟩⟩
end mq2
