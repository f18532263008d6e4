/-! twice; what stands against an act, and the act, in the model -/
theorem ways_congr {D D' : Hd} (h1 : D.lk = D'.lk) (h2 : D.nf = D'.nf) (h3 : D.to = D'.to) : ∀ (n u : Nat) (T : Nat → Bool), waysD D n u T = waysD D' n u T
  | 0, _, _ => rfl
  | n + 1, u, T => by
    unfold waysD
    rw [h2]
    congr 1
    funext v
    unfold stepW
    have ih := fun v => ways_congr h1 h2 h3 n v (addT T v)
    simp only [h1, h3, ih]
theorem D_nf (B : Bk) (f : Nat → Int32) (p q s : Int32) (t : Nat) : (B.D f p q s t).nf = B.nf := rfl
theorem D_to (B : Bk) (f : Nat → Int32) (p q s : Int32) (t : Nat) : (B.D f p q s t).to = t := rfl
theorem D_lk (B : Bk) (f : Nat → Int32) (p q s : Int32) (t u v : Nat) : (B.D f p q s t).lk u v = lstU (hpP f s u v) (cl (f 1)) := rfl
section mdoes
variable {d : Nat} {ro : Nat → Nat} {μ : Hp} {m : Nat} {X : Nat → Nat} {B : Bk} {f : Nat → Int32} {s u t a : Int32} {wi : Nat}
theorem mQ.at (h : mQ μ m X B f) : mAt μ m X B f 30 := ⟨Or.inl rfl, h⟩
theorem mQ.tr {g : Nat → Int32} (h : mQ μ m X B f) (hg : nrw (hI μ (X 31)) g) (hr : B.row g) : mAt μ m X B g 31 := ⟨Or.inr rfl, h.1, h.2.1, hg, h.2.2.2.1, h.2.2.2.2.1, hr⟩
theorem pay_found {B : Bk} (hB : B.ok) {f : Nat → Int32} {s : Int32} {u t a p q : Nat} {rs : List Rc} {left : Nat} (hp : p < 8) (hrs : ∀ r ∈ rs, r.fm < 8) {w : List Nat} (h : wayOf B f (-1) (-1) false s u t a 0 = some w) : ∃ w', wayOf B (payF B f q p rs left) (-1) (-1) false s u t a 0 = some w' := by
  have o : ∀ j, j < 10 ∨ 32 ≤ j → payF B f q p rs left j = f j := fun j hj => payF_o hB.1.1.1 hp hrs hj
  have hlk : (B.D (payF B f q p rs left) (-1) (-1) s t).lk = (B.D f (-1) (-1) s t).lk := by
    funext u v
    rw [D_lk, D_lk, o 1 (by omega)]
    congr 1
    funext k
    unfold hpP
    rw [o (32 + k) (by omega), o 0 (by omega), o (96 + k) (by omega), o (64 + k) (by omega), o (48 + k) (by omega)]
  cases hw : wayOf B (payF B f q p rs left) (-1) (-1) false s u t a 0 with
  | some w' => exact ⟨w', rfl⟩
  | none =>
    have h1 := wayOf_none.mp hw
    rw [ways_congr (D' := B.D f (-1) (-1) s t) hlk (by rw [D_nf, D_nf]) (by rw [D_to, D_to])] at h1
    have := wayOf_none (B := B) (f := f) (p := -1) (q := -1) (sp := false) (s := s) (u := u) (t := t) (a := a) (M := 0) |>.mpr h1
    rw [this] at h
    cases h
theorem m_twice (hd : 15 ≤ d) (h : mQ μ m X B f) : xC d yX12_twice cX12_twice 6 (some .int) 0 0 [.ref m, .int s, .int u, .int t, .int a] μ ro (fun r μ' => mqFr m X μ μ' ∧ r = some (.int (aTwice B f s u t a))) := by
  obtain ⟨hF0, h0, -, -⟩ := h.th
  have hB := h.2.2.2.2.1
  have hrow := h.2.2.2.2.2
  have hnf := hB.1.1.2.1
  unfold aTwice
  refine I_X12_twice (fun J g hr => B_X12_twice_0 g hr h.1.1.1 (xCall_of (m_finds (d := d - 1) (by omega) h0) (by omega) ?_))
  rintro r μ' ⟨hF, (⟨rfl, e⟩ | ⟨rfl, ha, w, e, e', k⟩)⟩
  · exact ⟨_, rfl, fun h => absurd rfl h, fun _ => ⟨hF0.tt hF, by rw [e, onW_none]⟩⟩
  · have h1 := h0.fr hF
    rw [e, onW_some]
    obtain ⟨-, ⟨e2, m2⟩, ⟨e3, m3⟩, -, -⟩ := ha.ex hnf
    have hok := Bk.D_ok (p := -1) (q := -1) (s := s) hB hrow m3
    have hcr := recs_cr hok (p := cl a) (wayOf_ok e').2.2.1
    have hcr8 : ∀ r ∈ recs (B.D f (-1) (-1) s (cl t)) (cl u) (cl a) w, r.cr ≤ 1000000000 ∧ r.fm < 8 := fun r hr => ⟨(hcr r hr).1, Nat.lt_of_lt_of_le (hcr r hr).2 hnf⟩
    refine ⟨_, rfl, fun _ => ⟨h1.1.1.1, _, h1.1.1.r 30 0 293, _, h1.1.1.r 31 0 293, (q_trial (by omega) h1).mono (Nat.le_refl _) ?_⟩, fun h => absurd h (by decide)⟩
    rintro r μ2 ⟨rfl, hF2, g2, -⟩
    have h2 := h1.fr hF2
    have at2 := h2.tr g2 hrow
    refine ⟨rfl, h2.1.1.1, _, h2.1.1.r 31 0 293, xCall_of (m_pays (d := d - 1) (by omega) at2 ha e') (by omega) ?_⟩
    rintro r μ3 ⟨rfl, hF3, g3, -, l3⟩
    have hrow3 := Bk.row_pay (u := cl u) (t := cl t) (left := leftW (B.D f (-1) (-1) s (cl t)) (cl u) (cl a) w) hB hrow (by omega) hcr8
    obtain ⟨w', ew'⟩ := pay_found (q := cl u) (p := cl t) (rs := recs (B.D f (-1) (-1) s (cl t)) (cl u) (cl a) w) (left := leftW (B.D f (-1) (-1) s (cl t)) (cl u) (cl a) w) hB (by omega) (fun r hr => (hcr8 r hr).2) e'
    have at3 := at2.of hF3 g3 hrow3
    refine ⟨rfl, at3.2.1.1.1, _, at3.2.1.1.r 31 0 293, xCall_of (m_pays (d := d - 1) (by omega) at3 ha ew') (by omega) ?_⟩
    rintro r μ4 ⟨rfl, hF4, -, -, l4⟩
    refine ⟨rfl, (h2.fr (hF3.q.tt hF4.q)).1.1.1, hF0.tt (hF.tt (hF2.tt (hF3.q.tt hF4.q))), ?_⟩
    rw [l3, l4, arr_w ew']
/-- nothing but what a search changes -/
def msFr (wi m : Nat) (X : Nat → Nat) (μ μ' : Hp) : Prop := mwFr wi m X μ μ' ∧ hI μ' (X wi) = hI μ (X wi)
theorem msFr.rf {wi m : Nat} {X : Nat → Nat} {μ : Hp} : msFr wi m X μ μ := ⟨mwFr.rf, rfl⟩
theorem full16 {f : Nat → Int32} (h : B.row f) {g31 : Int32} (hg : g31 = nI (cl (f 1))) : g31 = 16 ↔ ¬ f 1 < 16 := by
  have n16 := h.1.2.1
  rw [hg, h.1.1, cl_nI (by omega)]
  constructor
  · intro e
    rw [e]; decide
  · intro q
    rcases Nat.lt_or_ge (cl (f 1)) 16 with l | l
    · exact absurd (nI_lt (b := 16) l (by omega)) q
    · rw [show cl (f 1) = 16 by omega]; rfl
theorem m_stopsOwning {v o c : Int32} (hd : 2 ≤ d) (h : mAt μ m X B f wi) : xC d yX12_stopsOwning cX12_stopsOwning 7 (some .int) 0 0 [.ref m, .ref (X wi), .int v, .int o, .int c] μ ro (fun r μ' => μ' = μ ∧ r = some (.int (rOwn B f v o c))) := by
  obtain ⟨hwk, hsw, hrw⟩ := h.wk
  obtain ⟨hwi, ⟨h1, h2⟩, h3, h4, h5, hB, hrow⟩ := id h
  have n16 := hrow.1.2.1
  unfold rOwn
  refine I_X12_stopsOwning (fun J g hr => B_X12_stopsOwning_0 g hr h1.1 (by omega) ?_)
  rw [h3.1.2.1]
  refine ⟨fun c => ⟨rfl, by rw [if_pos (fun q => q.1.1 c)]⟩, fun c1 => ⟨fun c => ⟨rfl, by rw [if_pos (fun q => q.1.2 c)]⟩, fun c2 => ⟨fun c => ⟨rfl, by rw [if_pos (fun q => q.2.1 c)]⟩, fun c3 => ⟨fun c => ⟨rfl, by rw [if_pos (fun q => q.2.2 c)]⟩, fun c4 => ?_⟩⟩⟩⟩
  rw [if_neg (nn ⟨⟨c1, c2⟩, ⟨c3, c4⟩⟩)]
  refine ⟨fun c => ⟨rfl, by rw [if_pos (Or.inl c)]⟩, fun c5 => ⟨fun c => ⟨rfl, by rw [if_pos (Or.inr (Int32.not_le.mpr c))]⟩, fun c6 => ?_⟩⟩
  rw [if_neg (not_or.mpr ⟨c5, nn (Int32.not_lt.mp c6)⟩)]
  refine xCall_of (c_mLinkOf (d := d - 1) (by omega) hsw h4.1 n16) (by omega) ?_
  rintro r μ ⟨rfl, rfl⟩
  rw [show fstP (lkP f 0 v o) 0 (cl (f 1)) = lkA f 0 v o from rfl]
  have hfull := full16 (B := B) hrow h4.1.1
  cases hk : lkA f 0 v o with
  | none =>
    rw [show wasS f none = 0 from rfl]
    refine ⟨_, rfl, fun c => absurd rfl c, fun _ => ⟨fun c => ⟨rfl, by rw [if_pos (Or.inl c)]⟩, fun c => ⟨fun c7 => ⟨fun c8 => absurd rfl c8, fun _ => ⟨_, hsw, lit_in 31 (by omega) (by omega), ?_⟩⟩, fun c7 => ⟨rfl, by rw [if_pos (Or.inr c7)]⟩⟩⟩⟩
    rw [if_neg (not_or.mpr ⟨c, c7⟩)]
    exact ⟨fun c9 => ⟨rfl, by rw [if_neg (fun q => c9 (hfull.mpr q.2))]⟩, fun c9 => ⟨rfl, by rw [if_pos ⟨rfl, hfull.mp c9⟩]⟩⟩
  | some k =>
    have hkn := (lkA_lt hrow hk).1
    rw [show wasS f (some k) = f (80 + k) from rfl]
    have e80 : (32 : Int32) + 5 * oI (some k) + 3 = nI (32 + 5 * k + 3) := by
      rw [show (5 : Int32) * oI (some k) = nI (5 * k) from i_mul 5 k, show (32 : Int32) + nI (5 * k) = nI (32 + 5 * k) from i_off 32 _]; exact nI_add _ 3
    refine ⟨_, rfl, fun _ => ⟨_, hsw, ?_⟩, fun c => absurd c (oI_ne (by omega))⟩
    rw [e80, nI_clamp (by omega), h4.1.2.2.2 k 3 hkn (by omega)]
    refine ⟨vp_in_nI (by omega) (by omega), fun c => ⟨rfl, by rw [if_pos (Or.inl c)]⟩, fun c => ⟨fun c7 => ⟨fun _ => ⟨rfl, ?_⟩, fun c8 => absurd c8 (oI_ne (by omega))⟩, fun c7 => ⟨rfl, by rw [if_pos (Or.inr c7)]⟩⟩⟩
    rw [if_neg (not_or.mpr ⟨c, c7⟩), if_neg (fun q => by cases q.1)]
theorem m_stopsPaying (hd : 14 ≤ d) (h : mAt μ m X B f wi) : xC d yX12_stopsPaying cX12_stopsPaying 6 (some .int) 0 0 [.ref m, .ref (X wi), .int s, .int u, .int t, .int a] μ ro (fun r μ' => msFr wi m X μ μ' ∧ r = some (.int (rPay B f s u t a))) := by
  obtain ⟨hwk, hsw, hrw⟩ := h.wk
  obtain ⟨hwi, ⟨h1, h2⟩, h3, h4, h5, hB, hrow⟩ := id h
  have hwm : X wi ≠ m := h1.ne wi hwk
  unfold rPay
  refine I_X12_stopsPaying (fun J g hr => B_X12_stopsPaying_0 g hr h1.1 hsw (by omega) ?_)
  rw [h3.1.2.1, h4.2.1]
  refine ⟨fun c => ⟨msFr.rf, by rw [if_pos (fun q => q.1.1 c)]⟩, fun c1 => ⟨fun c => ⟨msFr.rf, by rw [if_pos (fun q => q.1.2 c)]⟩, fun c2 => ⟨fun c => ⟨msFr.rf, by rw [if_pos (fun q => q.2.1 c)]⟩, fun c3 => ⟨fun c => ⟨msFr.rf, by rw [if_pos (fun q => q.2.2 c)]⟩, fun c4 => ?_⟩⟩⟩⟩
  rw [if_neg (nn ⟨⟨c1, c2⟩, ⟨c3, c4⟩⟩)]
  refine ⟨fun c => ⟨msFr.rf, by rw [if_pos (fun q => (sort01.mpr q.1).1 c)]⟩, fun s1 => ⟨fun c => ⟨msFr.rf, by rw [if_pos (fun q => (sort01.mpr q.1).2 c)]⟩, fun s2 => ⟨fun c => ⟨msFr.rf, by rw [if_pos (fun q => q.2.1 c)]⟩, fun c5 => ⟨fun c => ⟨msFr.rf, by rw [if_pos (fun q => q.2.2 c)]⟩, fun c6 => ⟨lit_in 30 (by omega) (by omega), ?_⟩⟩⟩⟩⟩
  have hs := sort01.mp ⟨s1, s2⟩
  rw [if_neg (nn ⟨hs, c5, c6⟩)]
  have hF1 : msFr wi m X μ (wI μ m 37 (f 0)) := ⟨mwFr.rf.f 37 _, hI_wI_n _ _ _ hwm⟩
  refine ⟨fun c => ⟨hF1, by rw [if_pos (Or.inl c)]⟩, fun c7 => ?_⟩
  have ha : asked B.nf s u t a := ⟨hs, ⟨c1, c2⟩, ⟨c3, c4⟩, c7, c5, c6⟩
  have o1 : ∀ i, i ∈ mK → hI (wI μ m 37 (f 0)) (X i) = hI μ (X i) := fun i hi => hI_wI_n _ _ _ (h1.ne i hi)
  have om : ∀ k, k ≠ 37 → hI (wI μ m 37 (f 0)) m k = hI μ m k := fun k hk => by rw [hI_wI_s, upd_n _ hk]
  refine (q_ms (d := d) (ro := ro) (μ := wI μ m 37 (f 0)) (sp := false) (M := 0) (lv := -1) (g := f) (p := -1) (q := -1) (by omega) (h1.of rfl rfl) h2 (h3.fr ⟨om 20 (by decide), om 22 (by decide), om 24 (by decide)⟩ (o1 8 (by decide)) (o1 10 (by decide)) (o1 12 (by decide))) hB hwi (by rw [o1 wi hwk]; exact h4.1) hrow (by rw [hI_wI_s, upd_s]) (by rw [om 38 (by decide), om 39 (by decide)]; exact ⟨h5.1, h5.2.1⟩) (by rw [om 40 (by decide)]; exact h5.2.2) (Or.inl ⟨rfl, rfl⟩) ha).mono (Nat.le_refl _) ?_
  rintro r μ3 ⟨g1, -, rfl, -⟩
  have hF3 : msFr wi m X μ μ3 := by
    refine ⟨hF1.1.tt g1.mw, ?_⟩
    have hsx : mSh (wI μ m 37 (f 0)) m X := h1.of rfl rfl
    rw [← o1 wi hwk]
    rcases hwi with rfl | rfl
    · exact g1.o hsx h2 30
    · exact g1.o hsx h2 31
  cases hw : wayOf B f (-1) (-1) false s (cl u) (cl t) (cl a) 0 with
  | none => exact ⟨_, rfl, fun c => absurd (if_pos rfl) c, fun _ => ⟨hF3, by rw [if_pos (Or.inr rfl)]⟩⟩
  | some w => exact ⟨_, rfl, fun _ => ⟨hF3, by rw [if_neg (not_or.mpr ⟨c7, by simp⟩)]⟩, fun c => absurd c (by rw [if_neg (by simp)]; decide)⟩
theorem m_stops {act x y z e : Int32} (hd : 15 ≤ d) (h : mAt μ m X B f wi) : xC d yX12_stops cX12_stops 7 (some .int) 0 0 [.ref m, .ref (X wi), .int act, .int x, .int y, .int z, .int e] μ ro (fun r μ' => msFr wi m X μ μ' ∧ r = some (.int (rsn B f act x y z e))) := by
  obtain ⟨hwk, hsw, hrw⟩ := h.wk
  obtain ⟨hwi, ⟨h1, h2⟩, h3, h4, h5, hB, hrow⟩ := id h
  have n16 := hrow.1.2.1
  have hnf := hB.1.1.2.1
  refine I_X12_stops (fun J g hr => B_X12_stops_0 g hr h1.1 hsw (by omega) ?_)
  rw [h3.1.2.1, h4.2.1]
  refine ⟨fun c0 => ⟨fun q => ?_, fun q => xCall_of (m_stopsPaying (d := d - 1) (by omega) h) (by omega) ?_, fun q => ?_, fun q => ?_, fun q => xCall_of (m_stopsOwning (d := d - 1) (by omega) h) (by omega) ?_⟩, fun c0 => ⟨msFr.rf, ?_⟩⟩
  · have n : ∀ k : Int32, k.toInt ≥ 0 → k.toInt ≤ 3 → ¬ act = k := fun k h1 h2 e => by subst e; omega
    have er : rsn B f act x y z e = rLend B f x y := by
      unfold rsn
      rw [if_neg (n 0 (by decide) (by decide)), if_neg (n 1 (by decide) (by decide)), if_neg (n 2 (by decide) (by decide)), if_neg (n 3 (by decide) (by decide))]
    rw [er]
    unfold rLend
    refine ⟨fun c => ⟨msFr.rf, by rw [if_pos (fun q => q.1.1 c)]⟩, fun c1 => ⟨fun c => ⟨msFr.rf, by rw [if_pos (fun q => q.1.2 c)]⟩, fun c2 => ⟨fun c => ⟨msFr.rf, by rw [if_pos (fun q => q.2.1 c)]⟩, fun c3 => ⟨fun c => ⟨msFr.rf, by rw [if_pos (fun q => q.2.2 c)]⟩, fun c4 => ?_⟩⟩⟩⟩
    rw [if_neg (nn ⟨⟨c1, c2⟩, ⟨c3, c4⟩⟩)]
    refine ⟨fun c5 => xCall_of (c_mLinkOf (d := d - 1) (by omega) hsw h4.1 n16) (by omega) ?_, fun c => ⟨msFr.rf, by rw [if_pos c]⟩⟩
    rintro r μ ⟨rfl, rfl⟩
    rw [if_neg c5, show fstP (lkP f 1 x y) 0 (cl (f 1)) = lkA f 1 x y from rfl]
    have hfull := full16 (B := B) hrow h4.1.1
    cases hk : lkA f 1 x y with
    | none => exact ⟨_, rfl, fun c => absurd rfl c, fun _ => ⟨_, hsw, lit_in 31 (by omega) (by omega), fun c9 => ⟨msFr.rf, by rw [if_neg (fun q => c9 (hfull.mpr q.2))]⟩, fun c9 => ⟨msFr.rf, by rw [if_pos ⟨rfl, hfull.mp c9⟩]⟩⟩⟩
    | some k =>
      have hkn := (lkA_lt hrow hk).1
      exact ⟨_, rfl, fun _ => ⟨msFr.rf, by rw [if_neg (fun q => by cases q.1)]⟩, fun c => absurd c (oI_ne (by omega))⟩
  · rintro r μ' ⟨g1, rfl⟩
    subst q
    exact ⟨_, rfl, g1, by rw [rsn0]⟩
  · subst q
    have c0' : ¬ B.nf = 0 := fun e => c0 (by rw [e]; rfl)
    rw [rsn1]
    unfold rPass
    rw [if_neg c0']
    refine ⟨fun c1 => ⟨msFr.rf, by rw [if_pos (Or.inl c1)]⟩, fun c1 => ⟨fun c2 => ⟨msFr.rf, by rw [if_pos (Or.inr (Int32.not_le.mpr c2))]⟩, fun c2 => ⟨lit_in 30 (by omega) (by omega), ?_⟩⟩⟩
    rw [if_neg (not_or.mpr ⟨c1, nn (Int32.not_lt.mp c2)⟩)]
    exact ⟨fun c3 => ⟨msFr.rf, by rw [if_pos c3]⟩, fun c3 => ⟨msFr.rf, by rw [if_neg c3]⟩⟩
  · subst q
    rw [rsn2]
    unfold rStaff
    refine ⟨fun c => ⟨msFr.rf, by rw [if_pos (fun q => q.1 c)]⟩, fun c1 => ⟨fun c => ⟨msFr.rf, by rw [if_pos (fun q => q.2 c)]⟩, fun c2 => ?_⟩⟩
    have hv : inN x B.nf := ⟨c1, c2⟩
    obtain ⟨e1, k1⟩ := hv.ex (by omega)
    rw [if_neg (nn hv)]
    refine ⟨fun c => ⟨msFr.rf, by rw [if_pos (Or.inl c)]⟩, fun c3 => ⟨fun c => ⟨msFr.rf, by rw [if_pos (Or.inr (Int32.not_le.mpr c))]⟩, fun c4 => ?_⟩⟩
    rw [if_neg (not_or.mpr ⟨c3, nn (Int32.not_lt.mp c4)⟩), show (8 : Int32) + x = nI (8 + cl x) from off_i 8 e1, nI_clamp (by omega), (h4.1.2.2.1 (cl x) (by omega)).1]
    exact ⟨vp_in_nI (by omega) (by omega), fun c => ⟨msFr.rf, by rw [if_neg c]⟩, fun c => ⟨msFr.rf, by rw [if_pos c]⟩⟩
  · rintro r μ ⟨rfl, rfl⟩
    subst q
    exact ⟨_, rfl, msFr.rf, by rw [rsn3]⟩
  · have c0' : B.nf = 0 := by
      rcases Nat.eq_zero_or_pos B.nf with e | e
      · exact e
      · exact absurd c0 (nI_ne0 e (by omega))
    have no : ∀ v : Int32, ¬ inN v B.nf := fun v q => by have := (q.ex (by omega)).2; omega
    unfold rsn rPay rPass rStaff rOwn rLend
    rw [if_pos (fun q => no _ q.1), if_pos c0', if_pos (no _), if_pos (fun q => no _ q.1), if_pos (fun q => no _ q.1)]
    repeat' split
    all_goals rfl
end mdoes
