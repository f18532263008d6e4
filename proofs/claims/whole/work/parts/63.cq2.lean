/-! best, stop, loops, least, take .. of the class -/
section cq2
variable {d : Nat} {ro : Nat → Nat} {μ : Hp} {A : Nat → Nat} {B : Bk} {f : Nat → Int32} {s u t a : Int32}
theorem c_best {x : Int32} (hd : 11 ≤ d) (h : cQ μ A B f) : xC d yX11_best cX11_best 6 (some .int) 0 0 [.ref (A 0), .int s, .int u, .int t, .int a, .int x] μ ro (fun r μ' => qFr A μ μ' ∧ r = some (.int (aBest B f s u t a x))) := by
  have hsh := h.1.1
  unfold aBest
  refine I_X11_best (fun J g hr => B_X11_best_0 g hr (hsh.s 0 14 18) ⟨fun c => ⟨qFr.rf, by rw [if_pos (Or.inl c)]⟩, fun c1 => ⟨fun c => ⟨qFr.rf, by rw [if_pos (Or.inr c)]⟩, fun c2 => xCall_of (c_isFound (d := d - 1) (by omega) h) (by omega) ?_⟩⟩)
  rw [if_neg (not_or.mpr ⟨c1, c2⟩)]
  rintro r μ' ⟨hF, (⟨rfl, e⟩ | ⟨rfl, ha, w, e, e', k1, k2, k3, k4, k5, k6⟩)⟩
  · exact ⟨_, rfl, fun h => absurd rfl h, fun _ => ⟨hF, by rw [e, onW_none]⟩⟩
  · have hs' := (h.fr hF).1.1
    rw [e, onW_some]
    refine ⟨_, rfl, fun _ => ⟨fun c => ⟨hs'.s 0 14 18, _, hs'.r 0 2 14, hs'.s 14 7 9, _, hs'.r 14 0 15, hs'.s 15 13 5, xCall_of (c_duePaid (d := d - 1) hs'.wb (rs := recs (B.D f (-1) (-1) s (cl t)) (cl u) (cl a) w) (by rw [recs_len]; exact k4) (by rw [recs_len]; exact k2) k1) (by omega) ?_⟩, fun c => ⟨hs'.s 0 14 18, _, hs'.r 0 2 14, hs'.s 14 7 9, _, hs'.r 14 0 15, hs'.s 15 13 5, hF, ?_⟩, fun c => ⟨hs'.s 0 14 18, _, hs'.r 0 2 14, hs'.s 14 7 9, _, hs'.r 14 0 15, hs'.s 15 13 5, hF, ?_⟩, fun c => ⟨hs'.s 0 14 18, _, hs'.r 0 2 14, hs'.s 14 7 9, _, hs'.r 14 0 15, hs'.s 15 13 5, hF, ?_⟩⟩, fun h => absurd h (by decide)⟩
    · rintro r μ2 ⟨rfl, rfl⟩
      refine ⟨_, rfl, hF, ?_⟩
      have n0 : ¬ x = 0 := fun e => by subst e; revert c; decide
      have n1 : ¬ x = 1 := fun e => by subst e; revert c; decide
      have n2 : ¬ x = 2 := fun e => by subst e; revert c; decide
      rw [if_neg n0, if_neg n1, if_neg n2, recs_du]
    · rw [if_pos c, k5]
    · rw [if_neg (by rw [c]; decide), if_pos c, k4]
    · rw [if_neg (by rw [c]; decide), if_neg (by rw [c]; decide), if_pos c, k6]
theorem c_loops (hd : 11 ≤ d) (h : cQ μ A B f) : xC d yX11_loops cX11_loops 4 (some .int) 0 0 [.ref (A 0), .int s, .int u, .int t] μ ro (fun r μ' => qFr A μ μ' ∧ r = some (.int (aLoops B f s u t))) := by
  have hsh := h.1.1
  unfold aLoops
  refine I_X11_loops (fun J g hr => B_X11_loops_0 g hr (hsh.s 0 14 18) (xCall_of (c_isAsked (d := d - 1) (by omega) h) (by omega) ?_))
  rintro r μ1 ⟨rfl, rfl⟩
  by_cases ha : asked B.nf s u t 1
  · rw [if_pos ha, if_pos ha]
    refine ⟨_, rfl, fun _ => ⟨hsh.s 0 14 18, _, hsh.r 0 2 14, _, hsh.r 0 10 33, hsh.s 14 7 9, (q_find (d := d) (sp := false) (M := 0) (by omega) h rfl ha (by omega)).mono (Nat.le_refl _) ?_⟩, fun h => absurd h (by decide)⟩
    rintro r μ' ⟨hF, -, -, e, rfl, -⟩
    have hs' := (h.fr hF).1.1
    exact ⟨_, rfl, hs'.s 0 14 18, _, hs'.r 0 2 14, hs'.s 14 7 9, hF, by rw [e]⟩
  · rw [if_neg ha, if_neg ha]
    exact ⟨_, rfl, fun h => absurd rfl h, fun _ => ⟨qFr.rf, rfl⟩⟩
theorem c_take {l : Int32} (hd : 11 ≤ d) (h : cQ μ A B f) : xC d yX11_take cX11_take 6 (some .int) 0 0 [.ref (A 0), .int s, .int u, .int t, .int a, .int l] μ ro (fun r μ' => qFr A μ μ' ∧ r = some (.int (aTake B f s u t a l))) := by
  have hsh := h.1.1
  have hnl := h.2.1.1
  unfold aTake
  refine I_X11_take (fun J g hr => B_X11_take_0 g hr (hsh.s 0 14 18) (hsh.r 0 13 39) (hsh.s 39 6 9) (by omega) ?_)
  rw [hnl]
  refine ⟨fun c => ⟨qFr.rf, by rw [if_neg (fun q => q.1 c)]⟩, fun c1 => ⟨fun c => ⟨qFr.rf, by rw [if_neg (fun q => q.2 c)]⟩, fun c2 => xCall_of (c_isFound (d := d - 1) (by omega) h) (by omega) ?_⟩⟩
  rw [if_pos ⟨c1, c2⟩]
  rintro r μ' ⟨hF, (⟨rfl, e⟩ | ⟨rfl, ha, w, e, e', k1, k2, k3, k4, k5, k6⟩)⟩
  · exact ⟨_, rfl, fun h => absurd rfl h, fun _ => ⟨hF, by rw [e, onW_none]⟩⟩
  · have hq := h.fr hF
    have hs' := hq.1.1
    have hw := wayOf_ok e'
    have hnf := h.2.2.2.1.1.1.2.1
    have hu := (ha.ex hnf).2.1.2
    rw [e, onW_some]
    refine ⟨_, rfl, fun _ => ⟨hs'.s 0 14 18, _, hs'.r 0 2 14, hs'.s 14 7 9, _, hs'.r 14 0 15, _, hs'.r 0 13 39, hs'.s 15 13 5, xCall_of (c_takenBy (d := d - 1) (B := B) (p := cl u) hs'.wb hs'.bk hq.2.2.1.2.1 (rs := recs (B.D f (-1) (-1) s (cl t)) (cl u) (cl a) w) (by rw [recs_len]; exact k4) (by rw [recs_len]; exact k2) k1 (fun r hm => ?_) k3 (by omega)) (by omega) ?_⟩, fun h => absurd h (by decide)⟩
    · have hm' : r.fm ∈ w := by
        rw [← recs_fm (D := B.D f (-1) (-1) s (cl t)) w (cl u) (cl a)]
        exact List.mem_map.mpr ⟨r, hm, rfl⟩
      have : r.fm < B.nf := chn_lt hw.2.2.1 _ hm'
      omega
    · rintro r μ2 ⟨rfl, rfl⟩
      exact ⟨_, rfl, hF, rfl⟩
theorem m5 (i j : Nat) : nI i * 5 + nI j = nI (i * 5 + j) := by
  rw [show nI i * 5 = nI (i * 5) from pk_mul i 5, nI_add]
theorem m8 (i j : Nat) : nI i * 8 + nI j = nI (i * 8 + j) := by
  rw [show nI i * 8 = nI (i * 8) from pk_mul i 8, nI_add]
/-- a number from 0 to n -/
theorem smallx {x : Int32} (n : Nat) (h0 : ¬ x < 0) (h1 : ¬ nI n < x) (hn : n < 2 ^ 31) : ∃ j, j ≤ n ∧ x = nI j := by
  obtain ⟨j, hj, rfl⟩ := nI_of h0
  refine ⟨j, ?_, rfl⟩
  rcases Nat.lt_or_ge n j with h | h
  · exact absurd (nI_lt h hj) h1
  · exact h
theorem rc_pick {f : Nat → Int32} {j y : Nat} {r : Rc} (h : rcAt f j r) (hy : y ≤ 4) : f (y * 5 + j) = rcN r (nI y) := by
  obtain ⟨r0, r1, r2, r3, r4, -⟩ := h
  have : y = 0 ∨ y = 1 ∨ y = 2 ∨ y = 3 ∨ y = 4 := by omega
  rcases this with rfl | rfl | rfl | rfl | rfl
  · rw [show 0 * 5 + j = j by omega, r0]; rfl
  · rw [show 1 * 5 + j = 5 + j by omega, r1]; rfl
  · rw [show 2 * 5 + j = 10 + j by omega, r2]; rfl
  · rw [show 3 * 5 + j = 15 + j by omega, r3]; rfl
  · rw [show 4 * 5 + j = 20 + j by omega, r4]; rfl
theorem c_stop {i x : Int32} (hd : 11 ≤ d) (h : cQ μ A B f) : xC d yX11_stop cX11_stop 7 (some .int) 0 0 [.ref (A 0), .int s, .int u, .int t, .int a, .int i, .int x] μ ro (fun r μ' => qFr A μ μ' ∧ r = some (.int (aStop B f s u t a i x))) := by
  have hsh := h.1.1
  unfold aStop
  refine I_X11_stop (fun J g hr => B_X11_stop_0 g hr (hsh.s 0 14 18) ⟨fun c => ⟨qFr.rf, by rw [if_pos (Or.inl c)]⟩, fun c1 => ⟨fun c => ⟨qFr.rf, by rw [if_pos (Or.inr (Or.inl c))]⟩, fun c2 => ⟨fun c => ⟨qFr.rf, by rw [if_pos (Or.inr (Or.inr c))]⟩, fun c3 => xCall_of (c_isFound (d := d - 1) (by omega) h) (by omega) ?_⟩⟩⟩)
  rw [if_neg (not_or.mpr ⟨c1, not_or.mpr ⟨c2, c3⟩⟩)]
  rintro r μ' ⟨hF, (⟨rfl, e⟩ | ⟨rfl, ha, w, e, e', k1, k2, k3, k4, k5, k6⟩)⟩
  · exact ⟨_, rfl, fun h => absurd rfl h, fun _ => ⟨hF, by rw [e, onW_none]⟩⟩
  · have hs' := (h.fr hF).1.1
    rw [e, onW_some]
    obtain ⟨j, hj, rfl⟩ := nI_of c1
    obtain ⟨y, hy, rfl⟩ := smallx 4 c2 c3 (by decide)
    rw [cl_nI hj]
    refine ⟨_, rfl, fun _ => ⟨hs'.s 0 14 18, _, hs'.r 0 2 14, hs'.s 14 7 9, _, hs'.r 14 0 15, hs'.s 15 13 5, ?_⟩, fun h => absurd h (by decide)⟩
    rw [k4, m5]
    refine pk_le w.length j (fun c => ⟨hF, ?_⟩) (fun c => ⟨_, hs'.r 15 0 16, _, hs'.s 16 0 35, vp_in_nI (by omega) (by omega), hF, ?_⟩)
    · rw [List.getElem?_eq_none (by rw [recs_len]; exact c)]
    · have hl : j < (recs (B.D f (-1) (-1) s (cl t)) (cl u) (cl a) w).length := by rw [recs_len]; exact c
      rw [List.getElem?_eq_getElem hl, nI_clamp (by omega), rc_pick (k1 j _ (List.getElem?_eq_getElem hl)) hy]
theorem q_sparing (hd : 10 ≤ d) (h : cQ μ A B f) (ha : asked B.nf s u t a) :
    xC d yX3_findSparing cX3_findSparing 7 (some .boolean) 0 0 [.ref (A 14), .ref (A 33), .int s, .int u, .int t, .int a] μ ro (fun r μ' => qFr A μ μ' ∧ r = some (.int (if wayOf B f (-1) (-1) true s (cl u) (cl t) (cl a) 0 = none then 0 else 1)) ∧ ∀ w, wayOf B f (-1) (-1) true s (cl u) (cl t) (cl a) 0 = some w → cBest μ' A (B.D f (-1) (-1) s (cl t)) (cl u) (cl a) w) := by
  obtain ⟨⟨h1, h2⟩, h3, h4, h5, ⟨h6, h7, h8⟩, h9, -⟩ := h
  obtain ⟨-, ⟨e2, k2⟩, ⟨e3, k3⟩, -, e4, -, k4⟩ := ha.ex h5.1.1.2.1
  refine I_X3_findSparing (fun J g hr => B_X3_findSparing_0 g hr (h1.s 14 7 9) ?_)
  have o : ∀ i, i < 51 → 14 ≠ i → hI (wI μ (A 14) 8 1) (A i) = hI μ (A i) := fun i hi hn => hI_wI_n _ _ _ (h2.ne i 14 hi (by decide) (Ne.symm hn))
  have key := c_cFind (ro := ro) (μ := wI μ (A 14) 8 1) (s := s) (sp := true) (M := 0) (d := d) (B := B) (g := f) (p := -1) (q := -1) (by omega) (Or.inl rfl) (h1.of rfl rfl) h2 (by rw [o 39 (by decide) (by decide)]; exact h3) (by rw [o 42 (by decide) (by decide), o 43 (by decide) (by decide), o 44 (by decide) (by decide)]; exact h4) h5 (by rw [o 34 (by decide) (by decide)]; exact h6) h7 (by rw [o 33 (by decide) (by decide)]; exact h8) (by rw [hI_wI_s, upd_s]; rfl) k2 k3 k4 (by omega)
  rw [← e2, ← e3, ← e4] at key
  refine key.mono (Nat.le_refl _) ?_
  rintro r μ' ⟨g1, g2, g3, g4, rfl, g6, g7⟩
  have hF1 : Fr (qI.map A) μ (wI μ (A 14) 8 1) := Fr.wi (List.mem_map.mpr ⟨14, by decide, rfl⟩)
  refine ⟨_, rfl, by rw [(g1.1.2.2.1 : hS μ' = _)]; exact h1.s 14 7 9, ?_, ⟨(hF1.tt g1.1).w1 (List.mem_map.mpr ⟨14, by decide, rfl⟩), ?_, fun j hj => ?_⟩, ?_, fun w hw => ?_⟩
  · split <;> rfl
  · rw [hI_wI_s, upd_s, h9]
  · rw [hI_wI_n _ _ _ (h2.ne 36 14), g1.2.2 j hj, o 36 (by decide) (by decide)]
  · by_cases hz : (waysD (B.D f (-1) (-1) s (cl t)) 5 (cl u) (tM 0 (cl u))).length = 0
    · rw [if_pos hz, if_pos (g6.mp hz)]
    · rw [if_neg hz, if_neg (fun q => hz (g6.mpr q))]
  · have := g7 w hw
    unfold cBest at this ⊢
    rw [hI_wI_n _ _ _ (h2.ne 16 14), hI_wI_n _ _ _ (h2.ne 15 14)]
    exact this
theorem c_least {x : Int32} (hd : 12 ≤ d) (h : cQ μ A B f) : xC d yX11_least cX11_least 6 (some .int) 0 0 [.ref (A 0), .int s, .int u, .int t, .int a, .int x] μ ro (fun r μ' => qFr A μ μ' ∧ r = some (.int (aLeast B f s u t a x))) := by
  have hsh := h.1.1
  unfold aLeast
  refine I_X11_least (fun J g hr => B_X11_least_0 g hr (hsh.s 0 14 18) ⟨fun c => ⟨qFr.rf, by rw [if_pos (Or.inl c)]⟩, fun c1 => ⟨fun c => ⟨qFr.rf, by rw [if_pos (Or.inr c)]⟩, fun c2 => xCall_of (c_isAsked (d := d - 1) (by omega) h) (by omega) ?_⟩⟩)
  rw [if_neg (not_or.mpr ⟨c1, c2⟩)]
  rintro r μ1 ⟨rfl, rfl⟩
  by_cases ha : asked B.nf s u t a
  · rw [if_pos ha, if_pos ha]
    refine ⟨_, rfl, fun _ => ⟨hsh.s 0 14 18, _, hsh.r 0 2 14, _, hsh.r 0 10 33, hsh.s 14 7 9, xCall_of (q_sparing (d := d - 1) (by omega) h ha) (by omega) ?_⟩, fun h => absurd h (by decide)⟩
    rintro r μ' ⟨hF, rfl, hw⟩
    have hs' := (h.fr hF).1.1
    cases e : wayOf B f (-1) (-1) true s (cl u) (cl t) (cl a) 0 with
    | none => exact ⟨_, rfl, fun h => absurd (if_pos rfl) h, fun _ => ⟨hF, by rw [onW_none]⟩⟩
    | some w =>
      obtain ⟨k1, k2, k3, k4, k5, k6⟩ := hw w e
      rw [onW_some]
      refine ⟨_, rfl, fun _ => ⟨fun n0 => ⟨fun n1 => ⟨hs'.s 0 14 18, _, hs'.r 0 2 14, hs'.s 14 7 9, _, hs'.r 14 0 15, hs'.s 15 13 5, hF, ?_⟩, fun n1 => ⟨hs'.s 0 14 18, _, hs'.r 0 2 14, hs'.s 14 7 9, _, hs'.r 14 0 15, hs'.s 15 13 5, hF, ?_⟩⟩, fun n0 => ⟨hs'.s 0 14 18, _, hs'.r 0 2 14, hs'.s 14 7 9, _, hs'.r 14 0 15, hs'.s 15 13 5, hF, ?_⟩⟩, fun h => absurd h (by rw [if_neg (by simp)]; decide)⟩
      · rw [if_neg n0, if_neg n1, k5]
      · rw [if_neg n0, if_pos n1, k4]
      · rw [if_pos n0, k6]
  · rw [if_neg ha, if_neg ha]
    exact ⟨_, rfl, fun h => absurd rfl h, fun _ => ⟨qFr.rf, rfl⟩⟩
theorem onK_some (k : Nat) (g : Nat → Int32) : onK (some k) g = g k := rfl
theorem c_direct (hd : 11 ≤ d) (h : cQ μ A B f) : xC d yX11_direct cX11_direct 6 (some .int) 0 0 [.ref (A 0), .int s, .int u, .int t, .int a] μ ro (fun r μ' => qFr A μ μ' ∧ r = some (.int (aDirect B f s u t a))) := by
  have hsh := h.1.1
  unfold aDirect
  refine I_X11_direct (fun J g hr => B_X11_direct_0 g hr (hsh.s 0 14 18) (xCall_of (c_isAsked (d := d - 1) (by omega) h) (by omega) ?_))
  rintro r μ1 ⟨rfl, rfl⟩
  by_cases ha : asked B.nf s u t a
  · rw [if_pos ha, if_pos ha]
    have hB := h.2.2.2.1
    have hnf := hB.1.1.2.1
    have hrow := h.2.2.2.2.1.2.1
    obtain ⟨-, ⟨e2, k2⟩, ⟨e3, k3⟩, -, e4, -, k4⟩ := ha.ex hnf
    refine ⟨_, rfl, fun _ => ⟨hsh.s 0 14 18, _, hsh.r 0 2 14, _, hsh.r 0 10 33, hsh.s 14 7 9, (q_ft (by omega) h).mono (Nat.le_refl _) ?_⟩, fun h => absurd h (by decide)⟩
    rintro r μ1 ⟨rfl, hF1, hT⟩
    have hq1 := h.fr hF1
    have hs1 := hq1.1.1
    have key := q_jh (ro := ro) (s := s) (d := d) (by omega) hq1 hT k3
    rw [← e3] at key
    refine ⟨rfl, hs1.s 0 14 18, _, hs1.r 0 2 14, _, hs1.r 0 10 33, hs1.s 14 7 9, key.mono (Nat.le_refl _) ?_⟩
    rintro r μ2 ⟨rfl, hF2, hL⟩
    have hF := hF1.tt hF2
    have hs2 := (h.fr hF).1.1
    have e8 : u * 8 + t = nI (cl u * 8 + cl t) := by
      have := m8 (cl u) (cl t)
      rw [← e2, ← e3] at this
      exact this
    obtain ⟨l1, l2⟩ := hL (cl u) (cl t) (by omega) (by omega)
    refine ⟨rfl, hs2.s 0 14 18, _, hs2.r 0 2 14, hs2.s 14 7 9, _, hs2.r 14 2 17, _, hs2.s 17 0 64, ?_⟩
    rw [e8, nI_clamp (by omega), l1]
    cases hk : (B.D f (-1) (-1) s (cl t)).lk (cl u) (cl t) with
    | none => exact ⟨vp_in_nI (by omega) (by omega), fun c => absurd rfl c, fun _ => ⟨hF, rfl⟩⟩
    | some k =>
      have hok := Bk.D_ok (p := -1) (q := -1) (s := s) hB hrow k3
      have hk16 := hok.2.2.1 _ _ _ hk
      have hr := (hok.2.2.2.1 _ _ _ hk).1
      refine ⟨vp_in_nI (by omega) (by omega), fun c => ⟨_, hs2.r 14 3 18, _, hs2.s 18 0 64, vp_in_nI (by omega) (by omega), fun v ev => ⟨hF, ?_⟩⟩, fun c => absurd c (oI_ne (by omega))⟩
      rw [onK_some, ev, (l2 k hk).2, e4, cl_nI (by omega)]
      generalize (B.D f (-1) (-1) s (cl t)).rt k = R at hr
      have hm : cl a * R ≤ 1000000 * 1000 := Nat.mul_le_mul k4 hr
      have hl : cl a * R / 1000 ≤ cl a := mulrate hr
      rw [pk_mul, show nI (cl a * R) / 1000 = nI (cl a * R / 1000) from div_n 1000 (by omega) (by omega) (by omega), pk_sub hl]
  · rw [if_neg ha, if_neg ha]
    exact ⟨_, rfl, fun h => absurd rfl h, fun _ => ⟨qFr.rf, rfl⟩⟩
end cq2
