/-! key, lapsed, hire, worth, gross of the model -/
section mq4
variable {d : Nat} {ro : Nat → Nat} {μ : Hp} {m : Nat} {X : Nat → Nat} {B : Bk} {f : Nat → Int32} {s u t a : Int32}
theorem m_key (hd : 15 ≤ d) (h : mQ μ m X B f) : xC d yX12_key cX12_key 9 (some .int) 0 0 [.ref m, .int s, .int u, .int t, .int a] μ ro (fun r μ' => mqFr m X μ μ' ∧ r = some (.int (aKey B f s u t a))) := by
  obtain ⟨hF0, h0, -, -⟩ := h.th
  have hB := h.2.2.2.2.1
  have hrow := h.2.2.2.2.2
  have hnf := hB.1.1.2.1
  unfold aKey
  refine I_X12_key (fun J g hr => B_X12_key_0 g hr h.1.1.1 (xCall_of (m_finds_y (d := d - 1) (by omega) h0) (by omega) ?_))
  rintro r μ' ⟨⟨hF, (⟨rfl, e⟩ | ⟨rfl, ha, w, e, -⟩)⟩, hy⟩
  · exact ⟨_, rfl, fun h => absurd rfl h, fun _ => ⟨hF0.tt hF, by rw [e, onW_none]⟩⟩
  · rw [e, onW_some] at hr
    refine ⟨_, rfl, fun _ => ?_, fun h => absurd h (by decide)⟩
    obtain ⟨-, ⟨e2, k2⟩, ⟨e3, k3⟩, -, -, -, ka⟩ := ha.ex hnf
    have hlt : ∀ M, ¬ 1000001 ≤ arrOf B f (-1) (-1) s (cl u) (cl t) (cl a) M := fun M => arr_lt hB hrow k3 ka
    generalize hg : (fun v => arrOf B f (-1) (-1) s (cl u) (cl t) (cl a) (2 ^ v)) = G at hr
    generalize hP : (fun v => decide (¬ v = cl u ∧ ¬ v = cl t)) = P at hr
    have key := loopUp (Q := fun i => ∀ (μ' : Hp) (b mo most : Int32), mqFr m X μ μ' → hI μ' m 37 = f 0 → ((b = -1 ∧ mo = 1000001) ∨ (¬ b = -1 ∧ mo = most)) → flA P G i (B.nf - i) mo b = flA P G 0 B.nf 1000001 (-1) → J μ' 0 0 28 [(0, .ref m), (1, .int s), (2, .int u), (3, .int t), (4, .int a), (5, .int b), (6, .int most), (7, .int (nI i))] []) B.nf ?_ (fun i hi ih μ1 b mo most hF1 hy1 hm he => ?_) 0 (Nat.zero_le _) μ' (-1) 1000001 0 (hF0.tt hF) hy (Or.inl ⟨rfl, rfl⟩) rfl
    · exact key
    · intro μ1 b mo most hF1 hy1 hm he
      have hq := h.fr hF1
      refine B_X12_key_28 g hr hq.1.1.1 ⟨fun _ => ⟨hF1, ?_⟩, fun c => absurd (by rw [hq.2.1.1.2.1]; exact Int32.le_refl _) c⟩
      rw [← he, Nat.sub_self]; rfl
    · have hq := h.fr hF1
      rw [show B.nf - i = (B.nf - (i + 1)) + 1 by omega, flA] at he
      have pi : P i = true ↔ ¬ i = cl u ∧ ¬ i = cl t := by rw [← hP]; simp
      have iu : nI i = u ↔ i = cl u := ⟨fun q => by rw [← q, cl_nI (by omega)], fun q => by rw [q]; exact e2.symm⟩
      have it : nI i = t ↔ i = cl t := ⟨fun q => by rw [← q, cl_nI (by omega)], fun q => by rw [q]; exact e3.symm⟩
      refine B_X12_key_28 g hr hq.1.1.1 ⟨fun c => absurd c (by rw [hq.2.1.1.2.1]; exact nI_ge hi (by omega)), fun _ => ?_⟩
      rw [nI_1]
      have skip : ¬ (P i = true ∧ ¬ mo ≤ G i) → ∀ μ2, mqFr m X μ μ2 → hI μ2 m 37 = f 0 → J μ2 0 0 28 [(0, .ref m), (1, .int s), (2, .int u), (3, .int t), (4, .int a), (5, .int b), (6, .int most), (7, .int (nI (i + 1)))] [] := fun hn μ2 hF2 hy2 => by
        rw [if_neg hn] at he
        exact ih μ2 b mo most hF2 hy2 hm he
      have taken : P i = true → ¬ mo ≤ G i → ∀ μ2, mqFr m X μ μ2 → hI μ2 m 37 = f 0 → J μ2 0 0 28 [(0, .ref m), (1, .int s), (2, .int u), (3, .int t), (4, .int a), (5, .int (nI i)), (6, .int (G i)), (7, .int (nI (i + 1)))] [] := fun h1 h2 μ2 hF2 hy2 => by
        rw [if_pos ⟨h1, h2⟩] at he
        exact ih μ2 _ (G i) _ hF2 hy2 (Or.inr ⟨oI_ne (k := i) (by omega), rfl⟩) he
      refine ⟨fun c => skip (fun q => (pi.mp q.1).1 (iu.mp c)) _ hF1 hy1, fun c1 => ⟨fun c2 => ?_, fun c => skip (fun q => (pi.mp q.1).2 (it.mp c)) _ hF1 hy1⟩⟩
      have hpi : P i = true := pi.mpr ⟨fun q => c1 (iu.mpr q), fun q => c2 (it.mpr q)⟩
      refine xCall_of (m_without1 (d := d - 1) (v := i) (by omega) hq hy1 ha (by omega)) (by omega) ?_
      rintro r μ2 ⟨hF2, hy2, rfl⟩
      have hF' := hF1.tt hF2
      have hGi : arrOf B f (-1) (-1) s (cl u) (cl t) (cl a) (2 ^ i) = G i := by rw [← hg]
      have hl := hlt (2 ^ i)
      rw [hGi] at hl ⊢
      refine ⟨_, rfl, fun c => taken hpi ?_ _ hF' hy2, fun c => ⟨fun c3 => taken hpi ?_ _ hF' hy2, fun c3 => skip (fun q => q.2 ?_) _ hF' hy2⟩⟩
      · rcases hm with ⟨-, rfl⟩ | ⟨q, -⟩
        · exact hl
        · exact absurd c q
      · rcases hm with ⟨q, -⟩ | ⟨-, rfl⟩
        · exact absurd q c
        · exact Int32.not_le.mpr c3
      · rcases hm with ⟨q, -⟩ | ⟨-, rfl⟩
        · exact absurd q c
        · exact Int32.not_lt.mp c3
theorem nl_pos {x : Int32} {B : Bk} (hB : B.ok) (h : inN x B.nl) : ¬ nI B.nf ≤ 0 := by
  obtain ⟨-, k⟩ := h.ex (by have := hB.1.1.1; omega)
  have : B.nf ≠ 0 := fun e => by have := hB.2 e; omega
  exact nI_nle (by omega) (by have := hB.1.1.2.1; omega)
theorem m_lapsed {l o : Int32} (hd : 14 ≤ d) (h : mQ μ m X B f) : xC d yX12_lapsed cX12_lapsed 8 (some .int) 0 0 [.ref m, .int s, .int u, .int t, .int a, .int l, .int o] μ ro (fun r μ' => mqFr m X μ μ' ∧ r = some (.int (aLapsed B f s u t a l o))) := by
  obtain ⟨hF0, h0, n20, n22⟩ := h.th
  have hB := h.2.2.2.2.1
  unfold aLapsed
  refine I_X12_lapsed (fun J g hr => B_X12_lapsed_0 g hr h.1.1.1 (by omega) ?_)
  rw [n20, n22]
  refine ⟨fun c => ⟨hF0, by rw [if_neg (fun q => q.1.1.1 c)]⟩, fun c1 => ⟨fun c => ⟨hF0, by rw [if_neg (fun q => q.1.1.2 c)]⟩, fun c2 => ⟨fun c => absurd c (nl_pos hB ⟨c1, c2⟩), fun _ => ⟨fun c => ⟨hF0, by rw [if_neg (fun q => q.1.2.1.1 c)]⟩, fun c3 => ⟨fun c => ⟨hF0, by rw [if_neg (fun q => q.1.2.1.2 c)]⟩, fun c4 => ⟨fun c => absurd c (nl_pos hB ⟨c1, c2⟩), fun _ => ⟨fun c => ⟨hF0, by rw [if_neg (fun q => q.1.2.2 c)]⟩, fun c5 => xCall_of (m_isAsked (d := d - 1) (by omega) h0) (by omega) ?_⟩⟩⟩⟩⟩⟩⟩
  rintro r μ1 ⟨e1, rfl⟩
  have hF1 : mqFr m X μ μ1 := by rw [e1]; exact hF0.f 37 _
  have hq1 := h.fr hF1
  have y1 : hI μ1 m 37 = f 0 := by rw [e1, hI_wI_s, upd_s]
  by_cases ha : asked B.nf s u t a
  · rw [if_pos ha, if_pos ⟨⟨⟨c1, c2⟩, ⟨c3, c4⟩, c5⟩, ha⟩]
    obtain ⟨⟨h1, h2⟩, h3, h4, h5, h6, h7⟩ := hq1
    have oo : ∀ i, i ∈ mK → hI (wI (wI μ1 m 38 l) m 39 o) (X i) = hI μ1 (X i) := fun i hi => by rw [hI_wI_n _ _ _ (h1.ne i hi), hI_wI_n _ _ _ (h1.ne i hi)]
    have om : ∀ k, k ≠ 38 → k ≠ 39 → hI (wI (wI μ1 m 38 l) m 39 o) m k = hI μ1 m k := fun k hk hk' => by rw [hI_wI_s, upd_n _ hk', hI_wI_s, upd_n _ hk]
    refine ⟨_, rfl, fun _ => ⟨h1.1, _, h1.r 30 0 293, (q_ms (d := d) (ro := ro) (μ := wI (wI μ1 m 38 l) m 39 o) (sp := false) (M := 0) (lv := -1) (g := f) (p := l) (q := o) (by omega) (h1.of rfl rfl) h2 (h3.fr ⟨om 20 (by decide) (by decide), om 22 (by decide) (by decide), om 24 (by decide) (by decide)⟩ (oo 8 (by decide)) (oo 10 (by decide)) (oo 12 (by decide))) h6 (Or.inl rfl) (by rw [oo 30 (by decide)]; exact h4.1) h7 (by rw [om 37 (by decide) (by decide)]; exact y1) (by rw [hI_wI_s, hI_wI_s]; exact ⟨by rw [upd_n _ (by decide), upd_s], by rw [upd_s]⟩) (by rw [om 40 (by decide) (by decide)]; exact h5.2.2) (Or.inl ⟨rfl, rfl⟩) ha).mono (Nat.le_refl _) ?_⟩, fun h => absurd h (by decide)⟩
    rintro r μ' ⟨g1, -, rfl, g4⟩
    have hs' : mSh μ' m X := (h1.of (μ' := wI (wI μ1 m 38 l) m 39 o) rfl rfl).of g1.1.2.2.1 g1.1.2.1
    have fin : mqFr m X μ (wI (wI μ' m 38 (-1)) m 39 (-1)) := by
      refine ⟨?_, fun k hk => ?_⟩
      · have hF : Fr [m, X 43, X 44, X 45, X 46, X 47, X 48, X 49, X 55, X 31, X 63] (wI (wI μ1 m 38 l) m 39 o) μ' := g1.q.1
        exact ((((hF1.1.w1 (by simp)).w1 (by simp)).tt hF).w1 (by simp)).w1 (by simp)
      · rw [hI_wI_s, hI_wI_s]
        by_cases e : k = 39
        · subst e; rw [upd_s]; exact h.2.2.2.1.2.1.symm
        · rw [upd_n _ e]
          by_cases e' : k = 38
          · subst e'; rw [upd_s]; exact h.2.2.2.1.1.symm
          · rw [upd_n _ e', g1.2 k (by omega), om k e' e]; exact hF1.2 k hk
    cases e : wayOf B f l o false s (cl u) (cl t) (cl a) 0 with
    | none => exact ⟨_, rfl, hs'.1, fun _ => ⟨fin, by rw [arr_m1 e]⟩, fun c => absurd (if_pos rfl) c⟩
    | some w =>
      obtain ⟨k1, k2, k3, k4, k5, k6, k7⟩ := g4 w e
      refine ⟨_, rfl, hs'.1, fun c => absurd c (by rw [if_neg (by simp)]; decide), fun _ => ⟨fin, ?_⟩⟩
      rw [arr_w e, hI_wI_s, upd_n _ (by decide), hI_wI_s, upd_n _ (by decide), k5]
  · rw [if_neg ha, if_neg (fun q => ha q.2)]
    exact ⟨_, rfl, fun h => absurd rfl h, fun _ => ⟨hF1, rfl⟩⟩
/-- a whole row of the model is copied -/
def cpR (g h : Nat → Int32) (x y : Nat) (j : Nat) : Int32 := if y ≤ j ∧ j < y + 293 then g (x + (j - y)) else h j
theorem m_copyRow {a0 a2 N0 N2 x y : Nat} (h0 : hS μ a0 = some (0, N0)) (h2 : hS μ a2 = some (0, N2)) (hne : a0 ≠ a2) (hx : x + 293 ≤ N0) (hy : y + 293 ≤ N2) (hN : N0 < 20000 ∧ N2 < 20000) : xC d yX12_copyRow cX12_copyRow 5 none 0 0 [.ref a0, .int (nI x), .ref a2, .int (nI y)] μ ro (fun r μ' => r = none ∧ μ' = wRow μ a2 (cpR (hI μ a0) (hI μ a2) x y)) := by
  refine I_X12_copyRow (fun J g hr => B_X12_copyRow_0 g hr ?_)
  have key := loopUp (Q := fun i => J (wRow μ a2 (fun j => if y ≤ j ∧ j < y + i then hI μ a0 (x + (j - y)) else hI μ a2 j)) 0 0 3 [(0, .ref a0), (1, .int (nI x)), (2, .ref a2), (3, .int (nI y)), (4, .int (nI i))] []) 293 ?_ (fun i hi ih => ?_) 0 (Nat.zero_le _)
  · rw [show (fun j => if y ≤ j ∧ j < y + 0 then hI μ a0 (x + (j - y)) else hI μ a2 j) = hI μ a2 from funext fun j => if_neg (by omega), wRow_id] at key
    exact key
  · exact B_X12_copyRow_3 g hr h0 h2 ⟨fun _ => ⟨rfl, rfl⟩, fun c => absurd (Int32.le_refl _) c⟩
  · refine B_X12_copyRow_3 g hr h0 h2 ⟨fun c => absurd c (nI_ge (a := i) (b := 293) hi (by omega)), fun _ => ?_⟩
    rw [nI_add, nI_add, nI_clamp (by omega), nI_clamp (by omega), hI_wRow_n _ _ hne, wI_wRow, nI_1]
    refine ⟨vp_in_nI (by omega) (by omega), vp_in_nI (by omega) (by omega), ?_⟩
    have e : upd (fun j => if y ≤ j ∧ j < y + i then hI μ a0 (x + (j - y)) else hI μ a2 j) (y + i) (hI μ a0 (x + i)) = (fun j => if y ≤ j ∧ j < y + (i + 1) then hI μ a0 (x + (j - y)) else hI μ a2 j) := funext fun j => by
      by_cases hj : j = y + i
      · subst hj; rw [upd_s, if_pos (by omega), show y + i - y = i by omega]
      · rw [upd_n _ hj]
        by_cases hc : y ≤ j ∧ j < y + i
        · rw [if_pos hc, if_pos (by omega)]
        · rw [if_neg hc, if_neg (by omega)]
    rw [e]
    exact ih
theorem q_trial (hd : 1 ≤ d) (h : mQ μ m X B f) : xCall d yX12_copyRow cX12_copyRow 5 none [.ref (X 30), .int 0, .ref (X 31), .int 0] μ ro (fun r μ' => r = none ∧ mqFr m X μ μ' ∧ nrw (hI μ' (X 31)) f ∧ ∀ b, b ≠ X 31 → hI μ' b = hI μ b) := by
  have h1 := h.1.1
  have h2 := h.1.2
  refine xCall_of (m_copyRow (d := d - 1) (x := 0) (y := 0) (h1.s 30 0 293) (h1.s 31 0 293) (h2.ne 30 31) (by omega) (by omega) (by omega)) (by omega) ?_
  rintro r μ' ⟨rfl, rfl⟩
  refine ⟨rfl, mqFr.rf.w h1.nn 31 _, ?_, fun b hb => hI_wRow_n _ _ hb⟩
  rw [hI_wRow_s]
  have e : ∀ j, j < 293 → cpR (hI μ (X 30)) (hI μ (X 31)) 0 0 j = hI μ (X 30) j := fun j hj => by
    unfold cpR
    rw [if_pos (by omega), show 0 + (j - 0) = j by omega]
  obtain ⟨⟨a1, a2, a3, a4⟩, a5, a6, a7⟩ := h.2.2.1
  have n16 := h.2.2.2.2.2.1.2.1
  refine ⟨⟨by rw [e _ (by omega)]; exact a1, a2, fun j hj => by rw [e _ (by omega), e _ (by omega)]; exact a3 j hj, fun k c hk hc => by rw [e _ (by omega)]; exact a4 k c hk hc⟩, by rw [e _ (by omega)]; exact a5, fun j hj => by rw [e _ (by omega)]; exact a6 j hj, fun l hl => by rw [e _ (by omega)]; exact a7 l hl⟩
end mq4
