/-! hop, asOf, without, key, lapsed, soon, hire, worth, gross of the class -/
section cq3
variable {d : Nat} {ro : Nat → Nat} {μ : Hp} {A : Nat → Nat} {B : Bk} {f : Nat → Int32} {s u t a : Int32}
theorem c_hop {o x : Int32} (hd : 11 ≤ d) (h : cQ μ A B f) : xC d yX11_hop cX11_hop 7 (some .int) 0 0 [.ref (A 0), .int s, .int u, .int t, .int o, .int x] μ ro (fun r μ' => qFr A μ μ' ∧ r = some (.int (aHop B f s u t o x))) := by
  have hsh := h.1.1
  have hB := h.2.2.2.1
  have hnf := hB.1.1.2.1
  have hrow := h.2.2.2.2.1.2.1
  unfold aHop
  refine I_X11_hop (fun J g hr => B_X11_hop_0 g hr (hsh.s 0 14 18) (hsh.r 0 13 39) (hsh.s 39 6 9) (hsh.r 0 2 14) (hsh.r 0 10 33) (hsh.s 14 7 9) (by omega) ?_)
  rw [h.2.1.2.1]
  refine ⟨fun c => ?_, fun c => ⟨fun c' => ⟨qFr.rf, by rw [if_neg (fun q => q.1.elim c c')]⟩, fun c' => ?_⟩⟩
  all_goals
    have hs : s = 0 ∨ s = 1 := by first | exact Or.inl ‹_› | exact Or.inr ‹_›
    refine ⟨fun c => ⟨qFr.rf, by rw [if_neg (fun q => q.2.1.1 c)]⟩, fun c1 => ⟨fun c => ⟨qFr.rf, by rw [if_neg (fun q => q.2.1.2 c)]⟩, fun c2 => ⟨fun c => ⟨qFr.rf, by rw [if_neg (fun q => q.2.2.1.1 c)]⟩, fun c3 => ⟨fun c => ⟨qFr.rf, by rw [if_neg (fun q => q.2.2.1.2 c)]⟩, fun c4 => ⟨fun c => ⟨qFr.rf, by rw [if_neg (fun q => q.2.2.2.1.1 c)]⟩, fun c5 => ⟨fun c => ⟨qFr.rf, by rw [if_neg (fun q => q.2.2.2.1.2 c)]⟩, fun c6 => ⟨fun c => ⟨qFr.rf, by rw [if_neg (fun q => q.2.2.2.2.1 c)]⟩, fun c7 => ⟨fun c8 => ?_, fun c => ⟨qFr.rf, by rw [if_neg (fun q => c q.2.2.2.2.2)]⟩⟩⟩⟩⟩⟩⟩⟩⟩
    rw [if_pos ⟨hs, ⟨c1, c2⟩, ⟨c3, c4⟩, ⟨c5, c6⟩, c7, c8⟩]
    obtain ⟨e2, k2⟩ := inN.ex (n := B.nf) ⟨c1, c2⟩ (by omega)
    obtain ⟨e3, k3⟩ := inN.ex (n := B.nf) ⟨c3, c4⟩ (by omega)
    obtain ⟨e4, k4⟩ := inN.ex (n := B.nf) ⟨c5, c6⟩ (by omega)
    refine (q_ft (by omega) h).mono (Nat.le_refl _) ?_
    rintro r μ1 ⟨rfl, hF1, hT⟩
    have hq1 := h.fr hF1
    have hs1 := hq1.1.1
    have key := q_jh (ro := ro) (s := s) (d := d) (by omega) hq1 hT k4
    rw [← e4] at key
    refine ⟨rfl, hs1.s 0 14 18, _, hs1.r 0 2 14, _, hs1.r 0 10 33, hs1.s 14 7 9, key.mono (Nat.le_refl _) ?_⟩
    rintro r μ2 ⟨rfl, hF2, hL⟩
    have hF := hF1.tt hF2
    have hs2 := (h.fr hF).1.1
    have e8 : u * 8 + t = nI (cl u * 8 + cl t) := by
      have := m8 (cl u) (cl t)
      rw [← e2, ← e3] at this
      exact this
    obtain ⟨l1, l2⟩ := hL (cl u) (cl t) (by omega) (by omega)
    refine ⟨rfl, hs2.s 0 14 18, _, hs2.r 0 2 14, hs2.s 14 7 9, _, hs2.r 14 2 17, _, hs2.s 17 0 64, ?_⟩
    rw [e8, nI_clamp (by omega), l1]
    cases hk : (B.D f (-1) (-1) s (cl o)).lk (cl u) (cl t) with
    | none => exact ⟨vp_in_nI (by omega) (by omega), fun c => absurd rfl c, fun _ => ⟨hF, rfl⟩⟩
    | some k =>
      have hk16 := (Bk.D_ok (p := -1) (q := -1) (s := s) hB hrow k4).2.2.1 _ _ _ hk
      refine ⟨vp_in_nI (by omega) (by omega), fun c => ⟨fun c => ⟨_, hs2.r 14 4 19, _, hs2.s 19 0 64, vp_in_nI (by omega) (by omega), hF, ?_⟩, fun c => ⟨_, hs2.r 14 3 18, _, hs2.s 18 0 64, vp_in_nI (by omega) (by omega), hF, ?_⟩⟩, fun c => absurd c (oI_ne (by omega))⟩
      · rw [onK_some, if_neg c, (l2 k hk).1]
      · rw [onK_some, if_pos c, (l2 k hk).2]
/-- a year that can be asked for -/
theorem year_bd {y : Int32} (h0 : ¬ y < 0) (h1 : ¬ 199 < y) : bd y 200 := by
  obtain ⟨j, hj, rfl⟩ := smallx 199 h0 h1 (by decide)
  exact bd_nI (by omega)
theorem c_asOf {y x : Int32} (hd : 12 ≤ d) (h : cQ μ A B f) : xC d yX11_asOf cX11_asOf 8 (some .int) 0 0 [.ref (A 0), .int s, .int u, .int t, .int a, .int y, .int x] μ ro (fun r μ' => qFr A μ μ' ∧ r = some (.int (aAsOf B f s u t a y x))) := by
  have hsh := h.1.1
  have hj := h.1.2
  unfold aAsOf
  refine I_X11_asOf (fun J g hr => B_X11_asOf_0 g hr (hsh.s 0 14 18) (by omega) ⟨fun c => ⟨qFr.rf, by rw [if_pos (Or.inl c)]⟩, fun c1 => ⟨fun c => ⟨qFr.rf, by rw [if_pos (Or.inr (Or.inl c))]⟩, fun c2 => ⟨fun c => ⟨qFr.rf, by rw [if_pos (Or.inr (Or.inr (Or.inl c)))]⟩, fun c3 => ⟨fun c => ⟨qFr.rf, by rw [if_pos (Or.inr (Or.inr (Or.inr c)))]⟩, fun c4 => xCall_of (c_isAsked (d := d - 1) (by omega) h) (by omega) ?_⟩⟩⟩⟩)
  rw [if_neg (not_or.mpr ⟨c1, not_or.mpr ⟨c2, not_or.mpr ⟨c3, c4⟩⟩⟩)]
  rintro r μ1 ⟨rfl, rfl⟩
  by_cases ha : asked B.nf s u t a
  · rw [if_pos ha, if_pos ha]
    refine ⟨_, rfl, fun _ => ⟨hsh.s 0 14 18, _, hsh.r 0 11 35, _, hsh.r 0 10 33, hsh.s 35 12 4, (q_copy (by omega) h).mono (Nat.le_refl _) ?_⟩, fun h => absurd h (by decide)⟩
    rintro r μ2 ⟨rfl, hF2, ⟨g1, g2, g3⟩, -⟩
    have hq2 := h.fr hF2
    have hs2 := hq2.1.1
    have hF3 : qFr A μ2 (wI μ2 (A 36) 0 y) := qFr.rf.wi hj 36 0 y
    have hq3 := hq2.fr hF3
    refine ⟨rfl, hs2.s 0 14 18, _, hs2.r 0 11 35, hs2.s 35 12 4, _, hs2.r 35 0 36, _, hs2.s 36 0 112, lit_in 0 (by omega) (by omega), xCall_of (c_arrivesIn (d := d - 1) (g := upd f 0 y) (p := -1) (q := -1) (by omega) hq3 (Or.inr rfl) (by rw [hI_wI_s, g1]) (Bk.row_year h.2.2.2.2.1.2.1 (year_bd c3 c4)) (by rw [hI_wI_n _ _ _ (hj.ne 35 36)]; exact ⟨g2, g3⟩) ha) (by omega) ?_⟩
    rintro r μ4 ⟨hF4, -, rfl, hw⟩
    have hF := hF2.tt (hF3.tt hF4)
    have hs4 := (h.fr hF).1.1
    cases e : wayOf B (upd f 0 y) (-1) (-1) false s (cl u) (cl t) (cl a) 0 with
    | none =>
      have ea : arrOf B (upd f 0 y) (-1) (-1) s (cl u) (cl t) (cl a) 0 = -1 := by unfold arrOf; rw [e]
      rw [ea, onW_none]
      exact ⟨_, rfl, fun _ => ⟨hF, rfl⟩, fun _ => ⟨fun c => absurd rfl c, fun _ => ⟨hF, rfl⟩⟩⟩
    | some w =>
      obtain ⟨k1, k2, k3, k4, k5, k6⟩ := hw w e
      have ea : arrOf B (upd f 0 y) (-1) (-1) s (cl u) (cl t) (cl a) 0 = nI (leftW (B.D (upd f 0 y) (-1) (-1) s (cl t)) (cl u) (cl a) w) := by unfold arrOf; rw [e]
      have hle := arr_le (B := B) h.2.2.2.1 (Bk.row_year h.2.2.2.2.1.2.1 (year_bd c3 c4)) (ha.ex h.2.2.2.1.1.1.2.1).2.2.1.2 e
      have hlt := (ha.ex h.2.2.2.1.1.1.2.1).2.2.2.2.2.2
      rw [ea, onW_some]
      refine ⟨_, rfl, fun c => ⟨hF, by rw [if_pos c]⟩, fun c => ⟨fun _ => ⟨hs4.s 0 14 18, _, hs4.r 0 2 14, hs4.s 14 7 9, _, hs4.r 14 0 15, hs4.s 15 13 5, hF, by rw [if_neg c, k4]⟩, fun c' => absurd c' (oI_ne (k := leftW (B.D (upd f 0 y) (-1) (-1) s (cl t)) (cl u) (cl a) w) (by omega))⟩⟩
  · rw [if_neg ha, if_neg ha]
    exact ⟨_, rfl, fun h => absurd rfl h, fun _ => ⟨qFr.rf, rfl⟩⟩
theorem bit1 {v : Nat} (hv : v < 8) : (1 : Int32) <<< (nI v &&& 31) = nI (2 ^ v) := by
  have := bit_s (M := 0) (by omega) hv
  rw [show nI 0 = 0 from rfl, Int32.zero_or, Nat.zero_or] at this
  exact this
theorem pow8 {v : Nat} (hv : v < 8) : 2 ^ v < 256 := Nat.pow_lt_pow_right (a := 2) (n := 8) (by omega) hv
theorem c_without {v : Int32} (hd : 11 ≤ d) (h : cQ μ A B f) : xC d yX11_without cX11_without 6 (some .int) 0 0 [.ref (A 0), .int s, .int u, .int t, .int a, .int v] μ ro (fun r μ' => qFr A μ μ' ∧ r = some (.int (aWithout B f s u t a v))) := by
  have hsh := h.1.1
  have hnf := h.2.2.2.1.1.1.2.1
  unfold aWithout
  refine I_X11_without (fun J g hr => B_X11_without_0 g hr (hsh.s 0 14 18) (hsh.r 0 13 39) (hsh.s 39 6 9) (by omega) ?_)
  rw [h.2.1.2.1]
  refine ⟨fun c => ⟨qFr.rf, by rw [if_neg (fun q => q.1.1.1 c)]⟩, fun c1 => ⟨fun c => ⟨qFr.rf, by rw [if_neg (fun q => q.1.1.2 c)]⟩, fun c2 => ⟨fun c => ⟨qFr.rf, by rw [if_neg (fun q => q.1.2.1 c)]⟩, fun c3 => ⟨fun c => ⟨qFr.rf, by rw [if_neg (fun q => q.1.2.2 c)]⟩, fun c4 => xCall_of (c_isAsked (d := d - 1) (by omega) h) (by omega) ?_⟩⟩⟩⟩
  rintro r μ1 ⟨rfl, rfl⟩
  obtain ⟨e1, k1⟩ := inN.ex (n := B.nf) ⟨c1, c2⟩ (by omega)
  by_cases ha : asked B.nf s u t a
  · rw [if_pos ha, if_pos ⟨⟨⟨c1, c2⟩, c3, c4⟩, ha⟩]
    have hM : 2 ^ cl v < 256 := pow8 (by omega)
    have eM : (1 : Int32) <<< (v &&& 31) = nI (2 ^ cl v) := by
      have := bit1 (v := cl v) (by omega)
      rw [← e1] at this
      exact this
    rw [eM]
    refine ⟨_, rfl, fun _ => ⟨hsh.s 0 14 18, _, hsh.r 0 2 14, _, hsh.r 0 10 33, hsh.s 14 7 9, (q_find (d := d) (sp := false) (M := 2 ^ cl v) (by omega) h rfl ha hM).mono (Nat.le_refl _) ?_⟩, fun h => absurd h (by decide)⟩
    rintro r μ' ⟨hF, -, -, -, rfl, hw⟩
    have hs' := (h.fr hF).1.1
    unfold arrOf
    cases e : wayOf B f (-1) (-1) false s (cl u) (cl t) (cl a) (2 ^ cl v) with
    | none => exact ⟨_, rfl, fun _ => ⟨hF, rfl⟩, fun c => absurd (if_pos rfl) c⟩
    | some w => exact ⟨_, rfl, fun c => absurd c (by rw [if_neg (by simp)]; decide), fun _ => ⟨hs'.s 0 14 18, _, hs'.r 0 2 14, hs'.s 14 7 9, _, hs'.r 14 0 15, hs'.s 15 13 5, hF, by rw [(hw w e).2.2.2.2.1]⟩⟩
  · rw [if_neg ha, if_neg (fun q => ha q.2)]
    exact ⟨_, rfl, fun h => absurd rfl h, fun _ => ⟨qFr.rf, rfl⟩⟩
theorem c_lapsed {l o : Int32} (hd : 12 ≤ d) (h : cQ μ A B f) : xC d yX11_lapsed cX11_lapsed 7 (some .int) 0 0 [.ref (A 0), .int s, .int u, .int t, .int a, .int l, .int o] μ ro (fun r μ' => qFr A μ μ' ∧ r = some (.int (aLapsed B f s u t a l o))) := by
  have hsh := h.1.1
  have hj := h.1.2
  unfold aLapsed
  refine I_X11_lapsed (fun J g hr => B_X11_lapsed_0 g hr (hsh.s 0 14 18) (hsh.r 0 13 39) (hsh.s 39 6 9) (by omega) ?_)
  rw [h.2.1.1]
  refine ⟨fun c => ⟨qFr.rf, by rw [if_neg (fun q => q.1.1.1 c)]⟩, fun c1 => ⟨fun c => ⟨qFr.rf, by rw [if_neg (fun q => q.1.1.2 c)]⟩, fun c2 => ⟨fun c => ⟨qFr.rf, by rw [if_neg (fun q => q.1.2.1.1 c)]⟩, fun c3 => ⟨fun c => ⟨qFr.rf, by rw [if_neg (fun q => q.1.2.1.2 c)]⟩, fun c4 => ⟨fun c => ⟨qFr.rf, by rw [if_neg (fun q => q.1.2.2 c)]⟩, fun c5 => xCall_of (c_isAsked (d := d - 1) (by omega) h) (by omega) ?_⟩⟩⟩⟩⟩
  rintro r μ1 ⟨rfl, rfl⟩
  by_cases ha : asked B.nf s u t a
  · rw [if_pos ha, if_pos ⟨⟨⟨c1, c2⟩, ⟨c3, c4⟩, c5⟩, ha⟩]
    refine ⟨_, rfl, fun _ => ⟨hsh.s 0 14 18, _, hsh.r 0 11 35, _, hsh.r 0 10 33, hsh.s 35 12 4, (q_copy (by omega) h).mono (Nat.le_refl _) ?_⟩, fun h => absurd h (by decide)⟩
    rintro r μ2 ⟨rfl, hF2, ⟨g1, g2, g3⟩, -⟩
    have hq2 := h.fr hF2
    have hs2 := hq2.1.1
    refine ⟨rfl, hs2.s 0 14 18, _, hs2.r 0 11 35, hs2.s 35 12 4, xCall_of (c_lapse (d := d - 1) (hs2.s 35 12 4)) (by omega) ?_⟩
    rintro r μ3 ⟨rfl, rfl⟩
    have hF3 : qFr A μ2 (wI (wI μ2 (A 35) 2 l) (A 35) 3 o) := (qFr.rf.wi hj 35 2 l).wi hj 35 3 o
    have hq3 := hq2.fr hF3
    have hs3 := hq3.1.1
    refine ⟨rfl, hs3.s 0 14 18, _, hs3.r 0 11 35, xCall_of (c_arrivesIn (d := d - 1) (g := f) (p := l) (q := o) (by omega) hq3 (Or.inr rfl) (by rw [hI_wI_n _ _ _ (hj.ne 36 35), hI_wI_n _ _ _ (hj.ne 36 35)]; exact g1) h.2.2.2.2.1.2.1 (by rw [hI_wI_s, hI_wI_s]; exact ⟨by rw [upd_n _ (by decide), upd_s], by rw [upd_s]⟩) ha) (by omega) ?_⟩
    rintro r μ4 ⟨hF4, -, rfl, -⟩
    exact ⟨_, rfl, hF2.tt (hF3.tt hF4), rfl⟩
  · rw [if_neg ha, if_neg (fun q => ha q.2)]
    exact ⟨_, rfl, fun h => absurd rfl h, fun _ => ⟨qFr.rf, rfl⟩⟩
theorem c_worth {k : Int32} (hd : 12 ≤ d) (h : cQ μ A B f) : xC d yX11_worth cX11_worth 7 (some .int) 0 0 [.ref (A 0), .int s, .int u, .int t, .int a, .int k] μ ro (fun r μ' => qFr A μ μ' ∧ r = some (.int (aWorth B f s u t a k))) := by
  have hsh := h.1.1
  have hj := h.1.2
  have hrow := h.2.2.2.2.1.2.1
  have n16 := hrow.1.2.1
  unfold aWorth
  refine I_X11_worth (fun J g hr => B_X11_worth_0 g hr (hsh.s 0 14 18) (hsh.r 0 10 33) (hsh.s 33 12 4) (hsh.r 33 0 34) (hsh.s 34 0 112) (by omega) ?_)
  rw [h.2.2.2.2.1.1, hrow.1.1, cl_nI (by omega)]
  refine ⟨fun c => ⟨qFr.rf, by rw [if_neg (fun q => q.1 c)]⟩, fun c1 => ⟨lit_in 1 (by omega) (by omega), fun c => ⟨qFr.rf, by rw [if_neg (fun q => q.2 c)]⟩, fun c2 => xCall_of (c_isFound (d := d - 1) (by omega) h) (by omega) ?_⟩⟩
  rw [if_pos ⟨c1, c2⟩]
  obtain ⟨e1, kk⟩ := inN.ex (n := cl (f 1)) ⟨c1, c2⟩ (by omega)
  rintro r μ' ⟨hF, (⟨rfl, e⟩ | ⟨rfl, ha, w, e, e', k1, k2, k3, k4, k5, k6⟩)⟩
  · exact ⟨_, rfl, fun h => absurd rfl h, fun _ => ⟨hF, by rw [e, onW_none]⟩⟩
  · have hq := h.fr hF
    have hs' := hq.1.1
    rw [e, onW_some]
    refine ⟨_, rfl, fun _ => ⟨hs'.s 0 14 18, _, hs'.r 0 2 14, hs'.s 14 7 9, _, hs'.r 14 0 15, hs'.s 15 13 5, _, hs'.r 0 11 35, _, hs'.r 0 10 33, hs'.s 35 12 4, (q_copy (by omega) hq).mono (Nat.le_refl _) ?_⟩, fun h => absurd h (by decide)⟩
    rintro r μ2 ⟨rfl, hF2, ⟨g1, g2, g3⟩, -⟩
    have hq2 := hq.fr hF2
    have hs2 := hq2.1.1
    have key := c_removeLink (ro := ro) (d := d - 1) (n := cl (f 1)) (by omega) hs2.sc (by rw [g1]; exact hrow.1.1) n16 kk
    rw [← e1] at key
    refine ⟨rfl, hs2.s 0 14 18, _, hs2.r 0 11 35, hs2.s 35 12 4, xCall_of key (by omega) ?_⟩
    rintro r μ3 ⟨rfl, rfl⟩
    rw [g1]
    have hF3 : qFr A μ2 (wRow μ2 (A 36) (remF f (cl k) (cl (f 1)))) := qFr.rf.sc hj (fun j hj' => by
      rw [g1]
      unfold remF
      rw [if_neg (by omega), if_neg (by omega)])
    have hq3 := hq2.fr hF3
    have hs3 := hq3.1.1
    refine ⟨rfl, hs3.s 0 14 18, _, hs3.r 0 11 35, xCall_of (c_arrivesIn (d := d - 1) (g := remF f (cl k) (cl (f 1))) (p := -1) (q := -1) (by omega) hq3 (Or.inr rfl) (hI_wRow_s _ _ _) (Bk.row_rem hrow kk) (by rw [hI_wRow_n _ _ (hj.ne 35 36)]; exact ⟨g2, g3⟩) ha) (by omega) ?_⟩
    rintro r μ4 ⟨hF4, -, rfl, -⟩
    exact ⟨_, rfl, hF.tt (hF2.tt (hF3.tt hF4)), by rw [k5]⟩
end cq3
