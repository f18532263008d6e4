/-! soon, hire, without, key, lapsed, worth of the model -/
section mq3
variable {d : Nat} {ro : Nat → Nat} {μ : Hp} {m : Nat} {X : Nat → Nat} {B : Bk} {f : Nat → Int32} {s u t a : Int32}
/-- how the model keeps the most -/
def mstR (b mo most : Int32) : Prop := (b = -1 ∧ mo = -1) ∨ (¬ b = -1 ∧ mo = most ∧ -1 ≤ most)
theorem arr_m1 {B : Bk} {f : Nat → Int32} {p q s : Int32} {u t a M : Nat} (h : wayOf B f p q false s u t a M = none) : arrOf B f p q s u t a M = -1 := by unfold arrOf; rw [h]
theorem arr_w {B : Bk} {f : Nat → Int32} {p q s : Int32} {u t a M : Nat} {w : List Nat} (h : wayOf B f p q false s u t a M = some w) : arrOf B f p q s u t a M = nI (leftW (B.D f p q s t) u a w) := by unfold arrOf; rw [h]
theorem mstR.m1 {b mo most : Int32} (h : mstR b mo most) : -1 ≤ mo := by
  rcases h with ⟨-, rfl⟩ | ⟨-, rfl, h⟩
  · exact Int32.le_refl _
  · exact h
theorem m1_lt {k : Nat} (hk : k < 2 ^ 31) : ¬ nI k ≤ -1 := fun q => absurd (Int32.le_trans (nI_pos' hk) q) (by decide)
theorem m1_le {k : Nat} (hk : k < 2 ^ 31) : -1 ≤ nI k := Int32.le_trans (by decide) (nI_pos' hk)
theorem m_soon (hd : 15 ≤ d) (h : mQ μ m X B f) : xC d yX12_soon cX12_soon 8 (some .int) 0 0 [.ref m, .int s, .int u, .int t, .int a] μ ro (fun r μ' => mqFr m X μ μ' ∧ r = some (.int (aSoon B f s u t a))) := by
  obtain ⟨hF0, h0, -, -⟩ := h.th
  have hrow := h.2.2.2.2.2
  have hB := h.2.2.2.2.1
  obtain ⟨ey, hy⟩ := hrow.1.2.2.cl (by omega)
  refine I_X12_soon (fun J g hr => B_X12_soon_0 g hr h.1.1.1 (h.1.1.r 30 0 293) (h.1.1.s 30 0 293) ⟨lit_in 30 (by omega) (by omega), ?_⟩)
  rw [h0.2.2.1.2.1, ey]
  generalize hg : (fun y => arrOf B (upd f 0 (nI y)) (-1) (-1) s (cl u) (cl t) (cl a) 0) = G
  have hG : ∀ y, arrOf B (upd f 0 (nI y)) (-1) (-1) s (cl u) (cl t) (cl a) 0 = G y := fun y => by rw [← hg]
  generalize hL : min (cl (f 0) + 20) 199 = L
  have hL1 : cl (f 0) ≤ L ∧ L ≤ 199 := by omega
  have haS : aSoon B f s u t a = if asked B.nf s u t a then fmA G (cl (f 0)) (L + 1 - cl (f 0)) (-1) (-1) else -1 := by unfold aSoon; rw [hg, hL]
  have key := loopUp (Q := fun i => cl (f 0) ≤ i → ∀ (μ' : Hp) (b mo most : Int32), mqFr m X μ μ' → mstR b mo most → (asked B.nf s u t a → fmA G i (L + 1 - i) mo b = fmA G (cl (f 0)) (L + 1 - cl (f 0)) (-1) (-1)) → (¬ asked B.nf s u t a → b = -1) → J μ' 0 0 20 [(0, .ref m), (1, .int s), (2, .int u), (3, .int t), (4, .int a), (5, .int b), (6, .int most), (7, .int (nI i))] []) (L + 1) ?_ (fun i hi ih hi0 μ' b mo most hF hm he hb => ?_) (cl (f 0)) (by omega) (Nat.le_refl _) _ (-1) (-1) 0 hF0 (Or.inl ⟨rfl, rfl⟩) (fun _ => rfl) (fun _ => rfl)
  · exact key
  · intro _ μ' b mo most hF hm he hb
    have h' := h.fr hF
    have hs' := h'.1.1
    have fin : mqFr m X μ μ' ∧ some (Value.int b) = some (Value.int (aSoon B f s u t a)) := by
      refine ⟨hF, ?_⟩
      rw [haS]
      by_cases ha : asked B.nf s u t a
      · rw [if_pos ha, ← he ha, Nat.sub_self]; rfl
      · rw [if_neg ha, hb ha]
    refine B_X12_soon_20 g hr hs'.1 (hs'.r 30 0 293) (hs'.s 30 0 293) ⟨lit_in 30 (by omega) (by omega), fun _ => fin, fun c => ⟨fun _ => fin, fun c' => ?_⟩⟩
    rw [h'.2.2.1.2.1, ey, show nI (cl (f 0)) + 20 = nI (cl (f 0) + 20) from nI_add _ 20] at c
    exfalso
    rcases Nat.lt_or_ge (cl (f 0) + 20) (L + 1) with q | q
    · exact c (nI_lt q (by omega))
    · exact c' (nI_lt (a := 199) (b := L + 1) (by omega) (by omega))
  · have h' := h.fr hF
    have hs' := h'.1.1
    refine B_X12_soon_20 g hr hs'.1 (hs'.r 30 0 293) (hs'.s 30 0 293) ⟨lit_in 30 (by omega) (by omega), fun c => absurd c ?_, fun _ => ⟨fun c => absurd c (nI_nlt (a := 199) (b := i) (by omega) (by omega)), fun _ => xCall_of (m_findsIn (d := d - 1) (by omega) h' (bd_nI (by omega))) (by omega) ?_⟩⟩
    · rw [h'.2.2.1.2.1, ey, show nI (cl (f 0)) + 20 = nI (cl (f 0) + 20) from nI_add _ 20]
      exact nI_nlt (by omega) (by omega)
    rintro r μ2 ⟨hF2, g1, g2⟩
    have hF' := hF.tt hF2
    have hs2 := (h'.fr hF2).1.1
    rw [nI_1]
    have nx := fun b' mo' most' => ih (by omega) μ2 b' mo' most' hF'
    rw [show L + 1 - i = (L + 1 - (i + 1)) + 1 by omega] at he
    by_cases ha : asked B.nf s u t a
    · obtain ⟨rfl, g4⟩ := g2 ha
      have he := he ha
      cases e : wayOf B (upd f 0 (nI i)) (-1) (-1) false s (cl u) (cl t) (cl a) 0 with
      | none =>
        have hGi : G i = -1 := by rw [← hG]; exact arr_m1 e
        rw [fmA_le (by rw [hGi]; exact hm.m1)] at he
        exact ⟨_, rfl, fun _ => nx b mo most hm (fun _ => he) hb, fun c => absurd (if_pos rfl) c⟩
      | some w =>
        obtain ⟨k1, k2, k3, k4, k5, k6, k7⟩ := g4 w e
        have hle := arr_le hB (Bk.row_year hrow (bd_nI (n := i) (N := 200) (by omega))) (ha.ex hB.1.1.2.1).2.2.1.2 e
        have hca := (ha.ex hB.1.1.2.1).2.2.2.2.2.2
        have hGi : G i = hI μ2 m 51 := by rw [← hG, k5]; exact arr_w e
        have hGn : G i = nI (leftW (B.D (upd f 0 (nI i)) (-1) (-1) s (cl t)) (cl u) (cl a) w) := by rw [← hG]; exact arr_w e
        have hm1 : ¬ G i ≤ -1 := by rw [hGn]; exact m1_lt (by omega)
        have hm2 : -1 ≤ G i := by rw [hGn]; exact m1_le (by omega)
        have nib : ¬ nI i = -1 := oI_ne (k := i) (by omega)
        rw [← hGi]
        refine ⟨_, rfl, fun c => absurd c (by rw [if_neg (by simp)]; decide), fun _ => ⟨fun c => ⟨hs2.1, nx _ (G i) _ (Or.inr ⟨nib, rfl, hm2⟩) (fun _ => ?_) (fun q => absurd ha q)⟩, fun c => ⟨hs2.1, fun c1 => nx _ (G i) _ (Or.inr ⟨nib, rfl, hm2⟩) (fun _ => ?_) (fun q => absurd ha q), fun c1 => nx b mo most hm (fun _ => ?_) hb⟩⟩⟩
        · rcases hm with ⟨-, rfl⟩ | ⟨q, -⟩
          · rw [fmA_gt hm1] at he; exact he
          · exact absurd c q
        · rcases hm with ⟨q, -⟩ | ⟨-, rfl, -⟩
          · exact absurd q c
          · rw [fmA_gt (Int32.not_le.mpr c1)] at he; exact he
        · rcases hm with ⟨q, -⟩ | ⟨-, rfl, -⟩
          · exact absurd q c
          · rw [fmA_le (Int32.not_lt.mp c1)] at he; exact he
    · have := g1 ha
      subst this
      exact ⟨_, rfl, fun _ => nx b mo most hm (fun q => absurd q ha) hb, fun c => absurd rfl c⟩
theorem m_without1 {v : Nat} (hd : 14 ≤ d) (h : mQ μ m X B f) (hy : hI μ m 37 = f 0) (ha : asked B.nf s u t a) (hv : v < 8) : xC d yX12_withoutOne cX12_withoutOne 7 (some .int) 0 0 [.ref m, .int s, .int u, .int t, .int a, .int (nI v)] μ ro (fun r μ' => mqFr m X μ μ' ∧ hI μ' m 37 = f 0 ∧ r = some (.int (arrOf B f (-1) (-1) s (cl u) (cl t) (cl a) (2 ^ v)))) := by
  obtain ⟨⟨h1, h2⟩, h3, h4, h5, h6, h7⟩ := h
  have o : ∀ i, i ∈ mK → hI (wI μ m 40 (nI v)) (X i) = hI μ (X i) := fun i hi => hI_wI_n _ _ _ (h1.ne i hi)
  have om : ∀ k, k ≠ 40 → hI (wI μ m 40 (nI v)) m k = hI μ m k := fun k hk => by rw [hI_wI_s, upd_n _ hk]
  refine I_X12_withoutOne (fun J g hr => B_X12_withoutOne_0 g hr h1.1 (h1.r 30 0 293) ((q_ms (d := d) (ro := ro) (μ := wI μ m 40 (nI v)) (sp := false) (M := 2 ^ v) (lv := nI v) (g := f) (p := -1) (q := -1) (by omega) (h1.of rfl rfl) h2 (h3.fr ⟨om 20 (by decide), om 22 (by decide), om 24 (by decide)⟩ (o 8 (by decide)) (o 10 (by decide)) (o 12 (by decide))) h6 (Or.inl rfl) (by rw [o 30 (by decide)]; exact h4.1) h7 (by rw [om 37 (by decide)]; exact hy) (by rw [om 38 (by decide), om 39 (by decide)]; exact ⟨h5.1, h5.2.1⟩) (by rw [hI_wI_s, upd_s]) (Or.inr ⟨v, hv, rfl, rfl⟩) ha).mono (Nat.le_refl _) ?_))
  rintro r μ' ⟨g1, -, rfl, g4⟩
  have hs' : mSh μ' m X := (h1.of (μ' := wI μ m 40 (nI v)) rfl rfl).of g1.1.2.2.1 g1.1.2.1
  have fin : mqFr m X μ (wI μ' m 40 (-1)) ∧ hI (wI μ' m 40 (-1)) m 37 = f 0 := by
    refine ⟨⟨?_, fun k hk => ?_⟩, ?_⟩
    · have hF : Fr [m, X 43, X 44, X 45, X 46, X 47, X 48, X 49, X 55, X 31, X 63] (wI μ m 40 (nI v)) μ' := g1.q.1
      exact ((Fr.wi (by simp)).tt hF).w1 (by simp)
    · rw [hI_wI_s]
      by_cases e : k = 40
      · subst e; rw [upd_s]; exact h5.2.2.symm
      · rw [upd_n _ e, g1.2 k (by omega), om k e]
    · rw [hI_wI_s, upd_n _ (by decide), g1.2 37 (by decide), om 37 (by decide)]; exact hy
  cases e : wayOf B f (-1) (-1) false s (cl u) (cl t) (cl a) (2 ^ v) with
  | none => exact ⟨_, rfl, fun _ => ⟨hs'.1, fin.1, fin.2, by rw [arr_m1 e]⟩, fun c => absurd (if_pos rfl) c⟩
  | some w =>
    obtain ⟨k1, k2, k3, k4, k5, k6, k7⟩ := g4 w e
    exact ⟨_, rfl, fun c => absurd c (by rw [if_neg (by simp)]; decide), fun _ => ⟨hs'.1, fin.1, fin.2, by rw [arr_w e, k5]⟩⟩
theorem m_without {v : Int32} (hd : 15 ≤ d) (h : mQ μ m X B f) : xC d yX12_without cX12_without 6 (some .int) 0 0 [.ref m, .int s, .int u, .int t, .int a, .int v] μ ro (fun r μ' => mqFr m X μ μ' ∧ r = some (.int (aWithout B f s u t a v))) := by
  obtain ⟨hF0, h0, -, n22⟩ := h.th
  have hnf := h.2.2.2.2.1.1.1.2.1
  unfold aWithout
  refine I_X12_without (fun J g hr => B_X12_without_0 g hr h.1.1.1 (by omega) ?_)
  rw [n22]
  refine ⟨fun c => ⟨hF0, by rw [if_neg (fun q => q.1.1.1 c)]⟩, fun c1 => ⟨fun c => ⟨hF0, by rw [if_neg (fun q => q.1.1.2 c)]⟩, fun c2 => ⟨fun c => ⟨hF0, by rw [if_neg (fun q => q.1.2.1 c)]⟩, fun c3 => ⟨fun c => ⟨hF0, by rw [if_neg (fun q => q.1.2.2 c)]⟩, fun c4 => xCall_of (m_isAsked (d := d - 1) (by omega) h0) (by omega) ?_⟩⟩⟩⟩
  rintro r μ1 ⟨e1, rfl⟩
  have hF1 : mqFr m X μ μ1 := by rw [e1]; exact hF0.f 37 _
  have h1 := h.fr hF1
  have y1 : hI μ1 m 37 = f 0 := by rw [e1, hI_wI_s, upd_s]
  obtain ⟨ev, kv⟩ := inN.ex (n := B.nf) ⟨c1, c2⟩ (by omega)
  by_cases ha : asked B.nf s u t a
  · rw [if_pos ha, if_pos ⟨⟨⟨c1, c2⟩, c3, c4⟩, ha⟩]
    have key := m_without1 (ro := ro) (d := d - 1) (v := cl v) (by omega) h1 y1 ha (by omega)
    rw [← ev] at key
    refine ⟨_, rfl, fun _ => ⟨h1.1.1.1, xCall_of key (by omega) ?_⟩, fun h => absurd h (by decide)⟩
    rintro r μ2 ⟨hF2, -, rfl⟩
    exact ⟨_, rfl, hF1.tt hF2, rfl⟩
  · rw [if_neg ha, if_neg (fun q => ha q.2)]
    exact ⟨_, rfl, fun h => absurd rfl h, fun _ => ⟨hF1, rfl⟩⟩
theorem m_finds_y (hd : 14 ≤ d) (h : mQ μ m X B f) : xC d yX12_finds cX12_finds 5 (some .boolean) 0 0 [.ref m, .int s, .int u, .int t, .int a] μ ro (fun r μ' => mFound m X B f s u t a μ r μ' ∧ hI μ' m 37 = f 0) := by
  have hsh := h.1.1
  refine I_X12_finds (fun J g hr => B_X12_finds_0 g hr hsh.1 (xCall_of (m_isAsked (d := d - 1) (by omega) h) (by omega) ?_))
  rintro r μ1 ⟨e1, rfl⟩
  have hF1 : mqFr m X μ μ1 := by rw [e1]; exact mqFr.rf.f 37 _
  have h1 := h.fr hF1
  have y1 : hI μ1 m 37 = f 0 := by rw [e1, hI_wI_s, upd_s]
  by_cases ha : asked B.nf s u t a
  · rw [if_pos ha]
    refine ⟨_, rfl, fun c => absurd c (by decide), fun _ => ⟨h1.1.1.1, _, h1.1.1.r 30 0 293, (q_mnow (sp := false) (by omega) h1 y1 ha).mono (Nat.le_refl _) ?_⟩⟩
    rintro r μ' ⟨g1, -, rfl, g4⟩
    have hF := hF1.tt g1.q
    have y2 : hI μ' m 37 = f 0 := by rw [g1.2 37 (by decide)]; exact y1
    cases hw : wayOf B f (-1) (-1) false s (cl u) (cl t) (cl a) 0 with
    | none => exact ⟨_, rfl, fun _ => ⟨⟨hF, Or.inl ⟨rfl, by unfold fndA; rw [if_pos ha]; exact hw⟩⟩, y2⟩, fun c => absurd (if_pos rfl) c⟩
    | some w => exact ⟨_, rfl, fun c => absurd c (by rw [if_neg (by simp)]; decide), fun _ => ⟨⟨hF, Or.inr ⟨rfl, ha, w, by unfold fndA; rw [if_pos ha]; exact hw, hw, g4 w hw⟩⟩, y2⟩⟩
  · rw [if_neg ha]
    exact ⟨_, rfl, fun _ => ⟨⟨hF1, Or.inl ⟨rfl, by unfold fndA; rw [if_neg ha]⟩⟩, y1⟩, fun c => absurd rfl c⟩
theorem arr_lt {B : Bk} (hB : B.ok) {f : Nat → Int32} (hr : B.row f) {p q s : Int32} {u t a M : Nat} (ht : t < B.nf) (ha : a ≤ 1000000) : ¬ 1000001 ≤ arrOf B f p q s u t a M := by
  cases hw : wayOf B f p q false s u t a M with
  | none => rw [arr_m1 hw]; decide
  | some w =>
    have := arr_le hB hr ht hw
    rw [arr_w hw]
    exact nI_ge (a := leftW (B.D f p q s t) u a w) (b := 1000001) (by omega) (by omega)
end mq3
