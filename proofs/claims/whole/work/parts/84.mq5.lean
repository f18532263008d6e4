/-! hire, worth, gross, take, hop, direct of the model -/
/-- the model's row with staff changed -/
theorem nrw.staff {g f : Nat → Int32} (h : nrw g f) {v : Nat} (hv : v < 8) (x : Int32) : rwL (upd g (8 + v) x) (upd f (2 + v) x) (cl (upd f (2 + v) x 1)) := by
  obtain ⟨⟨a1, a2, a3, a4⟩, -⟩ := h
  rw [upd_n _ (show (1 : Nat) ≠ 2 + v by omega)]
  refine ⟨by rw [upd_n _ (by omega)]; exact a1, by rw [upd_n _ (by omega)]; exact a2, fun j hj => ?_, fun k c hk hc => ?_⟩
  · refine ⟨?_, by rw [upd_n _ (by omega), upd_n _ (by omega)]; exact (a3 j hj).2⟩
    by_cases e : j = v
    · subst e; rw [upd_s, upd_s]
    · rw [upd_n _ (by omega), upd_n _ (by omega)]; exact (a3 j hj).1
  · rw [upd_n _ (by omega), upd_n _ (by omega)]; exact a4 k c hk hc
theorem nrw.staffN {g f : Nat → Int32} (h : nrw g f) {v : Nat} (hv : v < 8) (x : Int32) : nrw (upd g (8 + v) x) (upd f (2 + v) x) := by
  refine ⟨h.staff hv x, ?_, fun j hj => ?_, fun l hl => ?_⟩
  · rw [upd_n _ (by omega), upd_n _ (by omega)]; exact h.2.1
  · rw [upd_n _ (by omega), upd_n _ (by omega)]; exact h.2.2.1 j hj
  · rw [upd_n _ (by omega), upd_n _ (by omega)]; exact h.2.2.2 l hl
/-- a link taken out of the model's row -/
def unmF (g : Nat → Int32) (k n : Nat) (j : Nat) : Int32 := if j = 31 then nI (n - 1) else if 32 + 5 * k ≤ j ∧ j < 32 + 5 * (n - 1) then g (j + 5) else g j
theorem nrw.rem {g f : Nat → Int32} {n k : Nat} (h : nrw g f) (hn : cl (f 1) = n) (hk : k < n) (hn16 : n ≤ 16) : nrw (unmF g k n) (remF f k n) := by
  obtain ⟨⟨a1, a2, a3, a4⟩, a5, a6, a7⟩ := h
  rw [hn] at a1 a2 a4
  have e1 : remF f k n 1 = nI (n - 1) := by unfold remF; rw [if_pos rfl]
  have ec : cl (remF f k n 1) = n - 1 := by rw [e1, cl_nI (by omega)]
  have lo : ∀ j, j < 31 → unmF g k n j = g j := fun j hj => by unfold unmF; rw [if_neg (by omega), if_neg (by omega)]
  refine ⟨⟨?_, ?_, fun j hj => ?_, fun i c hi hc => ?_⟩, ?_, fun j hj => ?_, fun l hl => ?_⟩
  · rw [ec]; unfold unmF; rw [if_pos rfl]
  · rw [ec]; exact e1
  · rw [lo _ (by omega), lo _ (by omega), remF_lo _ (by omega) (by omega), remF_lo _ (by omega) (by omega)]; exact a3 j hj
  · rw [ec] at hi
    rw [remF_lk f (by omega) hn16 hc]
    unfold unmF
    rw [if_neg (by omega)]
    by_cases hki : k ≤ i
    · rw [if_pos (by omega), if_pos hki, ← a4 (i + 1) c (by omega) hc]; congr 1; omega
    · rw [if_neg (by omega), if_neg hki]; exact a4 i c (by omega) hc
  · rw [lo _ (by omega), remF_lo _ (by omega) (by omega)]; exact a5
  · rw [lo _ (by omega), remF_lo _ (by omega) (by omega)]; exact a6 j hj
  · rw [lo _ (by omega), remF_lo _ (by omega) (by omega)]; exact a7 l hl
section mq5
variable {d : Nat} {ro : Nat → Nat} {μ : Hp} {m : Nat} {X : Nat → Nat} {B : Bk} {f : Nat → Int32} {s u t a : Int32}
theorem m_unmakes {w n k : Nat} (hd : 1 ≤ d) (hw : hS μ w = some (0, 293)) (hn : hI μ w 31 = nI n) (hn16 : n ≤ 16) (hk : k < n) : xC d yX12_unmakes cX12_unmakes 3 none 0 0 [.ref w, .int (nI k)] μ ro (fun r μ' => r = none ∧ μ' = wRow μ w (unmF (hI μ w) k n)) := by
  refine I_X12_unmakes (fun J g hr => B_X12_unmakes_0 g hr hd ?_)
  rw [show (32 : Int32) + 5 * nI k = nI (32 + 5 * k) by rw [show (5 : Int32) * nI k = nI (5 * k) from i_mul 5 k]; exact i_off 32 _]
  have key := loopUp (Q := fun i => 32 + 5 * k ≤ i → J (wRow μ w (fun j => if 32 + 5 * k ≤ j ∧ j < i then hI μ w (j + 5) else hI μ w j)) 0 0 5 [(0, .ref w), (2, .int (nI i))] []) (32 + 5 * (n - 1)) ?_ (fun i hi ih hki => ?_) (32 + 5 * k) (by omega) (Nat.le_refl _)
  · rw [show (fun j => if 32 + 5 * k ≤ j ∧ j < 32 + 5 * k then hI μ w (j + 5) else hI μ w j) = hI μ w from funext fun j => if_neg (by omega), wRow_id] at key
    exact key
  · intro _
    refine B_X12_unmakes_5 g hr hw hd ⟨lit_in 31 (by omega) (by omega), ?_⟩
    rw [hI_wRow_s, if_neg (by omega), hn, show nI n - 1 = nI (n - 1) by rw [show n = (n - 1) + 1 by omega]; exact nI_pred _, show (32 : Int32) + 5 * nI (n - 1) = nI (32 + 5 * (n - 1)) by rw [show (5 : Int32) * nI (n - 1) = nI (5 * (n - 1)) from i_mul 5 _]; exact i_off 32 _]
    refine ⟨fun _ => ⟨rfl, ?_⟩, fun c => absurd (Int32.le_refl _) c⟩
    rw [wI_wRow]
    have e : upd (fun j => if 32 + 5 * k ≤ j ∧ j < 32 + 5 * (n - 1) then hI μ w (j + 5) else hI μ w j) 31 (nI (n - 1)) = unmF (hI μ w) k n := funext fun j => by
      unfold unmF
      by_cases e : j = 31
      · subst e; rw [upd_s, if_pos rfl]
      · rw [upd_n _ e, if_neg e]
    rw [e]
  · refine B_X12_unmakes_5 g hr hw hd ⟨lit_in 31 (by omega) (by omega), ?_⟩
    rw [hI_wRow_s, if_neg (by omega), hn, show nI n - 1 = nI (n - 1) by rw [show n = (n - 1) + 1 by omega]; exact nI_pred _, show (32 : Int32) + 5 * nI (n - 1) = nI (32 + 5 * (n - 1)) by rw [show (5 : Int32) * nI (n - 1) = nI (5 * (n - 1)) from i_mul 5 _]; exact i_off 32 _]
    refine ⟨fun c => absurd c (nI_ge hi (by omega)), fun _ => ?_⟩
    rw [show nI i + 5 = nI (i + 5) from nI_add i 5, nI_clamp (by omega), nI_clamp (by omega), if_neg (by omega), wI_wRow, nI_1]
    refine ⟨vp_in_nI (by omega) (by omega), vp_in_nI (by omega) (by omega), ?_⟩
    have e : upd (fun j => if 32 + 5 * k ≤ j ∧ j < i then hI μ w (j + 5) else hI μ w j) i (hI μ w (i + 5)) = (fun j => if 32 + 5 * k ≤ j ∧ j < i + 1 then hI μ w (j + 5) else hI μ w j) := funext fun j => by
      by_cases hj : j = i
      · subst hj; rw [upd_s, if_pos (by omega)]
      · rw [upd_n _ hj]
        by_cases hc : 32 + 5 * k ≤ j ∧ j < i
        · rw [if_pos hc, if_pos (by omega)]
        · rw [if_neg hc, if_neg (by omega)]
    rw [e]
    exact ih (by omega)
/-- a search of the trial row -/
theorem q_mtr {g : Nat → Int32} (hd : 13 ≤ d) (h : mQ μ m X B f) (hg : rwL (hI μ (X 31)) g (cl (g 1))) (hrow : B.row g) (hy : hI μ m 37 = g 0) (ha : asked B.nf s u t a) :
    xCall d yX12_searches cX12_searches 8 (some .boolean) [.ref m, .ref (X 31), .int s, .int u, .int t, .int a, .int 0] μ ro (fun r μ' => mFr m X μ μ' ∧ hI μ' (X 31) = hI μ (X 31) ∧ r = some (.int (if wayOf B g (-1) (-1) false s (cl u) (cl t) (cl a) 0 = none then 0 else 1)) ∧ ∀ w, wayOf B g (-1) (-1) false s (cl u) (cl t) (cl a) 0 = some w → mFnd μ' m X (B.D g (-1) (-1) s (cl t)) (cl u) (cl a) w) := by
  obtain ⟨⟨h1, h2⟩, h3, h4, h5, h6, h7⟩ := h
  refine (q_ms (sp := false) hd h1 h2 h3 h6 (Or.inr rfl) hg hrow hy ⟨h5.1, h5.2.1⟩ h5.2.2 (Or.inl ⟨rfl, rfl⟩) ha).mono (Nat.le_refl _) ?_
  rintro r μ' ⟨g1, -, g3, g4⟩
  exact ⟨g1, g1.o h1 h2 31, g3, g4⟩
theorem m_hire {v : Int32} (hd : 14 ≤ d) (h : mQ μ m X B f) : xC d yX12_hire cX12_hire 9 (some .int) 0 0 [.ref m, .int s, .int u, .int t, .int a, .int v] μ ro (fun r μ' => mqFr m X μ μ' ∧ r = some (.int (aHire B f s u t a v))) := by
  obtain ⟨hF0, h0, -, n22⟩ := h.th
  have hB := h.2.2.2.2.1
  have hrow := h.2.2.2.2.2
  have hnf := hB.1.1.2.1
  unfold aHire
  refine I_X12_hire (fun J g hr => B_X12_hire_0 g hr h.1.1.1 (by omega) ?_)
  rw [n22]
  refine ⟨fun c => ⟨hF0, by rw [if_neg (fun q => q.1.1 c)]⟩, fun c1 => ⟨fun c => ⟨hF0, by rw [if_neg (fun q => q.1.2 c)]⟩, fun c2 => xCall_of (m_isAsked (d := d - 1) (by omega) h0) (by omega) ?_⟩⟩
  rintro r μ1 ⟨e1, rfl⟩
  have hF1 : mqFr m X μ μ1 := by rw [e1]; exact hF0.f 37 _
  have h1 := h.fr hF1
  have y1 : hI μ1 m 37 = f 0 := by rw [e1, hI_wI_s, upd_s]
  obtain ⟨ev, kv⟩ := inN.ex (n := B.nf) ⟨c1, c2⟩ (by omega)
  by_cases ha : asked B.nf s u t a
  · rw [if_pos ha]
    rw [if_pos ⟨⟨c1, c2⟩, ha⟩] at hr
    refine ⟨_, rfl, fun _ => ⟨h1.1.1.1, _, h1.1.1.r 30 0 293, _, h1.1.1.r 31 0 293, (q_trial (by omega) h1).mono (Nat.le_refl _) ?_⟩, fun h => absurd h (by decide)⟩
    rintro r μ2 ⟨rfl, hF2, g2, o2⟩
    refine ⟨rfl, ?_⟩
    generalize hg : (fun n => arrOf B (upd f (2 + cl v) (nI n)) (-1) (-1) s (cl u) (cl t) (cl a) 0) = G at hr
    have hG : ∀ n, arrOf B (upd f (2 + cl v) (nI n)) (-1) (-1) s (cl u) (cl t) (cl a) 0 = G n := fun n => by rw [← hg]
    have ek : ((8 : Int32) + v) = nI (8 + cl v) := off_i 8 ev
    have key := loopUp (Q := fun i => ∀ (μ' : Hp) (b mo most : Int32), mqFr m X μ μ' → hI μ' m 37 = f 0 → (∃ f', nrw (hI μ' (X 31)) f' ∧ ∃ z, f' = upd f (2 + cl v) z) → mstR b mo most → fmA G i (100 - i) mo b = fmA G 0 100 (-1) (-1) → J μ' 0 0 50 [(0, .ref m), (1, .int s), (2, .int u), (3, .int t), (4, .int a), (5, .int v), (6, .int b), (7, .int most), (8, .int (nI i))] []) 100 ?_ (fun i hi ih μ' b mo most hF hy ⟨f', hf', z, hz⟩ hm he => ?_) 0 (Nat.zero_le _) μ2 (-1) (-1) 0 (hF1.tt hF2) (by rw [o2 m (Ne.symm (h1.1.1.ne 31))]; exact y1) ⟨f, g2, f (2 + cl v), (upd_id _ _).symm⟩ (Or.inl ⟨rfl, rfl⟩) rfl
    · exact key
    · intro μ' b mo most hF _ _ _ he
      have hs' := (h.fr hF).1.1
      refine B_X12_hire_50 g hr hs'.1 (hs'.r 31 0 293) (hs'.s 31 0 293) ⟨fun _ => ⟨hF, ?_⟩, fun c => absurd (nI_lt (a := 99) (b := 100) (by omega) (by omega)) c⟩
      rw [← he]; rfl
    · have hq := h.fr hF
      have hs' := hq.1.1
      rw [show 100 - i = (100 - (i + 1)) + 1 by omega] at he
      refine B_X12_hire_50 g hr hs'.1 (hs'.r 31 0 293) (hs'.s 31 0 293) ⟨fun c => absurd c (nI_nlt (a := 99) (b := i) (by omega) (by omega)), fun _ => ?_⟩
      rw [ek, nI_clamp (by omega)]
      have hF3 : mqFr m X μ (wI μ' (X 31) (8 + cl v) (nI i)) := hF.x hs'.nn 31 _ _
      have hq3 := h.fr hF3
      have hn3 : nrw (hI (wI μ' (X 31) (8 + cl v) (nI i)) (X 31)) (upd f (2 + cl v) (nI i)) := by
        have := hf'.staffN (v := cl v) (by omega) (nI i)
        rw [hz, upd_upd] at this
        rw [hI_wI_s]
        exact this
      have y3 : hI (wI μ' (X 31) (8 + cl v) (nI i)) m 37 = upd f (2 + cl v) (nI i) 0 := by rw [hI_wI_n _ _ _ (Ne.symm (hs'.ne 31)), upd_n _ (by omega)]; exact hy
      refine ⟨vp_in_nI (by omega) (by omega), (q_mtr (by omega) hq3 hn3.1 (Bk.row_staff hrow (by omega) (bd_nI (by omega))) y3 ha).mono (Nat.le_refl _) ?_⟩
      rintro r μ4 ⟨g1, g31, rfl, g4⟩
      have hF' := hF3.tt g1.q
      have hs4 := (h.fr hF').1.1
      have y4 : hI μ4 m 37 = f 0 := by rw [g1.2 37 (by decide), y3, upd_n _ (by omega)]
      rw [nI_1]
      have nx := fun b' mo' most' => ih μ4 b' mo' most' hF' y4 ⟨_, by rw [g31]; exact hn3, nI i, rfl⟩
      cases e : wayOf B (upd f (2 + cl v) (nI i)) (-1) (-1) false s (cl u) (cl t) (cl a) 0 with
      | none =>
        have hGi : G i = -1 := by rw [← hG]; exact arr_m1 e
        rw [fmA_le (by rw [hGi]; exact hm.m1)] at he
        exact ⟨_, rfl, fun _ => nx b mo most hm he, fun c => absurd (if_pos rfl) c⟩
      | some w =>
        obtain ⟨k1, k2, k3, k4, k5, k6, k7⟩ := g4 w e
        have hle := arr_le hB (Bk.row_staff hrow (v := cl v) (by omega) (bd_nI (n := i) (N := 100) (by omega))) (ha.ex hB.1.1.2.1).2.2.1.2 e
        have hca := (ha.ex hB.1.1.2.1).2.2.2.2.2.2
        have hGi : G i = hI μ4 m 51 := by rw [← hG, k5]; exact arr_w e
        have hGn : G i = nI (leftW (B.D (upd f (2 + cl v) (nI i)) (-1) (-1) s (cl t)) (cl u) (cl a) w) := by rw [← hG]; exact arr_w e
        have hm1 : ¬ G i ≤ -1 := by rw [hGn]; exact m1_lt (by omega)
        have hm2 : -1 ≤ G i := by rw [hGn]; exact m1_le (by omega)
        have nib : ¬ nI i = -1 := oI_ne (k := i) (by omega)
        rw [← hGi]
        refine ⟨_, rfl, fun c => absurd c (by rw [if_neg (by simp)]; decide), fun _ => ⟨fun c => ⟨hs4.1, nx _ (G i) _ (Or.inr ⟨nib, rfl, hm2⟩) ?_⟩, fun c => ⟨hs4.1, fun c1 => nx _ (G i) _ (Or.inr ⟨nib, rfl, hm2⟩) ?_, fun c1 => nx b mo most hm ?_⟩⟩⟩
        · rcases hm with ⟨-, rfl⟩ | ⟨q, -⟩
          · rw [fmA_gt hm1] at he; exact he
          · exact absurd c q
        · rcases hm with ⟨q, -⟩ | ⟨-, rfl, -⟩
          · exact absurd q c
          · rw [fmA_gt (Int32.not_le.mpr c1)] at he; exact he
        · rcases hm with ⟨q, -⟩ | ⟨-, rfl, -⟩
          · exact absurd q c
          · rw [fmA_le (Int32.not_lt.mp c1)] at he; exact he
  · rw [if_neg ha]
    rw [if_neg (fun q => ha q.2)]
    exact ⟨_, rfl, fun h => absurd rfl h, fun _ => ⟨hF1, rfl⟩⟩
theorem m_worth {k : Int32} (hd : 15 ≤ d) (h : mQ μ m X B f) : xC d yX12_worth cX12_worth 7 (some .int) 0 0 [.ref m, .int s, .int u, .int t, .int a, .int k] μ ro (fun r μ' => mqFr m X μ μ' ∧ r = some (.int (aWorth B f s u t a k))) := by
  obtain ⟨hF0, h0, -, -⟩ := h.th
  have hB := h.2.2.2.2.1
  have hrow := h.2.2.2.2.2
  have hnf := hB.1.1.2.1
  have n16 := hrow.1.2.1
  unfold aWorth
  refine I_X12_worth (fun J g hr => B_X12_worth_0 g hr h.1.1.1 (h.1.1.r 30 0 293) (h.1.1.s 30 0 293) (by omega) ⟨lit_in 31 (by omega) (by omega), ?_⟩)
  rw [h0.2.2.1.1.1]
  generalize hn : cl (f 1) = n at n16
  refine ⟨fun c => ⟨hF0, by rw [if_neg (fun q => q.1 c)]⟩, fun c1 => ?_⟩
  obtain ⟨j, hj, rfl⟩ := nI_of c1
  have hin : inN (nI j) n ↔ ¬ (nI n - 1 < nI j) := by
    rcases Nat.eq_zero_or_pos n with e | e
    · subst e
      refine ⟨fun q => ?_, fun q => absurd ?_ q⟩
      · have := (q.ex (by omega)).2; omega
      · exact Int32.lt_of_lt_of_le (by decide) (nI_pos' hj)
    · rw [show nI n - 1 = nI (n - 1) by rw [show n = (n - 1) + 1 by omega]; exact nI_pred _]
      refine ⟨fun q => ?_, fun q => ?_⟩
      · have := (q.ex (by omega)).2
        rw [cl_nI hj] at this
        exact nI_nlt (by omega) (by omega)
      · refine ⟨c1, fun q' => q ?_⟩
        rcases Nat.lt_or_ge j n with l | l
        · exact absurd q' (nI_ge l (by omega))
        · exact nI_lt (by omega) (by omega)
  refine ⟨fun c => ⟨hF0, by rw [if_neg (fun q => (hin.mp q) c)]⟩, fun c2 => xCall_of (m_finds_y (d := d - 1) (by omega) h0) (by omega) ?_⟩
  have hin' := hin.mpr c2
  have kj := (hin'.ex (by omega)).2
  rw [cl_nI hj] at kj
  rw [if_pos hin', cl_nI hj]
  rintro r μ' ⟨⟨hF, (⟨rfl, e⟩ | ⟨rfl, ha, w, e, e', k1, k2, k3, k4, k5, k6, k7⟩)⟩, hy⟩
  · exact ⟨_, rfl, fun h => absurd rfl h, fun _ => ⟨hF0.tt hF, by rw [e, onW_none]⟩⟩
  · have h1 := h0.fr hF
    rw [e, onW_some, k5]
    refine ⟨_, rfl, fun _ => ⟨h1.1.1.1, _, h1.1.1.r 30 0 293, _, h1.1.1.r 31 0 293, (q_trial (by omega) h1).mono (Nat.le_refl _) ?_⟩, fun h => absurd h (by decide)⟩
    rintro r μ2 ⟨rfl, hF2, g2, o2⟩
    have h2 := h1.fr hF2
    have hn31 : hI μ2 (X 31) 31 = nI n := by rw [g2.1.1, hn]
    refine ⟨rfl, h2.1.1.1, _, h2.1.1.r 31 0 293, xCall_of (m_unmakes (d := d - 1) (n := n) (by omega) (h2.1.1.s 31 0 293) hn31 n16 kj) (by omega) ?_⟩
    rintro r μ3 ⟨rfl, e3⟩
    have hF3 : mqFr m X μ2 μ3 := by rw [e3]; exact mqFr.rf.w h2.1.1.nn 31 _
    have h3 := h2.fr hF3
    have g3 : nrw (hI μ3 (X 31)) (remF f j n) := by rw [e3, hI_wRow_s]; exact g2.rem hn kj n16
    have y3 : hI μ3 m 37 = remF f j n 0 := by
      rw [e3, hI_wRow_n _ _ (Ne.symm (h2.1.1.ne 31)), o2 m (Ne.symm (h1.1.1.ne 31)), remF_lo _ (by omega) (by omega)]; exact hy
    have hrow' : B.row (remF f j n) := by
      have := Bk.row_rem hrow (k := j) (by omega)
      rw [hn] at this
      exact this
    refine ⟨rfl, h3.1.1.1, _, h3.1.1.r 31 0 293, (q_mtr (by omega) h3 g3.1 hrow' y3 ha).mono (Nat.le_refl _) ?_⟩
    rintro r μ4 ⟨p1, -, rfl, p4⟩
    have hF' := hF0.tt (hF.tt (hF2.tt (hF3.tt p1.q)))
    cases ew : wayOf B (remF f j n) (-1) (-1) false s (cl u) (cl t) (cl a) 0 with
    | none =>
      rw [arr_m1 ew]
      exact ⟨_, rfl, fun _ => ⟨hF', by rw [if_neg (show ¬ (0 : Int32) < -1 by decide), Int32.sub_zero]⟩, fun c => absurd (if_pos rfl) c⟩
    | some w' =>
      have hle := arr_le hB hrow' (ha.ex hnf).2.2.1.2 ew
      have hca := (ha.ex hnf).2.2.2.2.2.2
      obtain ⟨q1, q2, q3, q4, q5, q6, q7⟩ := p4 w' ew
      rw [arr_w ew]
      refine ⟨_, rfl, fun c => absurd c (by rw [if_neg (by simp)]; decide), fun _ => ⟨(h3.fr p1.q).1.1.1, hF', ?_⟩⟩
      rw [q5]
      generalize leftW (B.D (remF f j n) (-1) (-1) s (cl t)) (cl u) (cl a) w' = V at hle
      rcases Nat.eq_zero_or_pos V with hz | hz
      · subst hz; rw [if_neg (by decide)]; rfl
      · rw [if_pos (show (0 : Int32) < nI V from nI_lt (a := 0) hz (by omega))]
end mq5
