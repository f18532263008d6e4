/-! soon, hire, key, gross of the class -/
section cq4
variable {d : Nat} {ro : Nat → Nat} {μ : Hp} {A : Nat → Nat} {B : Bk} {f : Nat → Int32} {s u t a : Int32}
theorem fmA_le {g : Nat → Int32} {i m : Nat} {mo b : Int32} (h : g i ≤ mo) : fmA g i (m + 1) mo b = fmA g (i + 1) m mo b := by rw [fmA, if_pos h]
theorem fmA_gt {g : Nat → Int32} {i m : Nat} {mo b : Int32} (h : ¬ g i ≤ mo) : fmA g i (m + 1) mo b = fmA g (i + 1) m (g i) (nI i) := by rw [fmA, if_neg h]
theorem c_soon (hd : 12 ≤ d) (h : cQ μ A B f) : xC d yX11_soon cX11_soon 10 (some .int) 0 0 [.ref (A 0), .int s, .int u, .int t, .int a] μ ro (fun r μ' => qFr A μ μ' ∧ r = some (.int (aSoon B f s u t a))) := by
  have hsh := h.1.1
  have hj := h.1.2
  have hrow := h.2.2.2.2.1.2.1
  obtain ⟨ey, hy⟩ := hrow.1.2.2.cl (by omega)
  unfold aSoon
  refine I_X11_soon (fun J g hr => B_X11_soon_0 g hr (hsh.s 0 14 18) (by omega) (xCall_of (c_isAsked (d := d - 1) (by omega) h) (by omega) ?_))
  rintro r μ ⟨rfl, rfl⟩
  by_cases ha : asked B.nf s u t a
  · rw [if_pos ha]
    rw [if_pos ha] at hr
    refine ⟨_, rfl, fun _ => ⟨hsh.s 0 14 18, _, hsh.r 0 11 35, _, hsh.r 0 10 33, hsh.s 35 12 4, (q_copy (by omega) h).mono (Nat.le_refl _) ?_⟩, fun h => absurd h (by decide)⟩
    rintro r μ2 ⟨rfl, hF2, ⟨g1, g2, g3⟩, -⟩
    have hq2 := h.fr hF2
    have hs2 := hq2.1.1
    refine ⟨rfl, hs2.s 0 14 18, _, hs2.r 0 10 33, hs2.s 33 12 4, _, hs2.r 33 0 34, _, hs2.s 34 0 112, lit_in 0 (by omega) (by omega), fun v ev => ?_⟩
    rw [hq2.2.2.2.2.1.1, ey, show nI (cl (f 0)) + 20 = nI (cl (f 0) + 20) from nI_add _ 20] at ev
    have ev := ev.trans (min_lit 199 (x := cl (f 0) + 20) (by omega) (by omega))
    have e0 : hI μ2 (A 34) 0 = nI (cl (f 0)) := by rw [hq2.2.2.2.2.1.1]; exact ey
    rw [e0, ev]
    generalize hg : (fun y => arrOf B (upd f 0 (nI y)) (-1) (-1) s (cl u) (cl t) (cl a) 0) = G at hr
    generalize hL : min (cl (f 0) + 20) 199 = L at hr ⊢
    have hL1 : cl (f 0) ≤ L ∧ L ≤ 199 := by omega
    have key := loopUp (Q := fun i => cl (f 0) ≤ i → ∀ (μ' : Hp) (mo b : Int32), qFr A μ μ' → (∃ z, hI μ' (A 36) = upd f 0 z) → hI μ' (A 35) 2 = -1 ∧ hI μ' (A 35) 3 = -1 → fmA G i (L + 1 - i) mo b = fmA G (cl (f 0)) (L + 1 - cl (f 0)) (-1) (-1) → J μ' 0 0 62 [(0, .ref (A 0)), (1, .int s), (2, .int u), (3, .int t), (4, .int a), (5, .int mo), (6, .int b), (7, .int (nI L)), (8, .int (nI i))] []) (L + 1) ?_ (fun i hi ih hi0 μ' mo b hF ⟨z, hz⟩ hp he => ?_) (cl (f 0)) (by omega) (Nat.le_refl _) μ2 (-1) (-1) hF2 ⟨f 0, by rw [g1, upd_id]⟩ ⟨g2, g3⟩ rfl
    · exact key
    · intro _ μ' mo b hF _ _ he
      have hs' := (h.fr hF).1.1
      refine B_X11_soon_62 g hr (hs'.s 0 14 18) (hs'.r 0 11 35) (hs'.s 35 12 4) (hs'.r 35 0 36) (hs'.s 36 0 112) ⟨fun _ => ⟨hF, ?_⟩, fun c => absurd (nI_lt (by omega) (by omega)) c⟩
      rw [← he, Nat.sub_self]; rfl
    · have hq := h.fr hF
      have hs' := hq.1.1
      have hF3 : qFr A μ' (wI μ' (A 36) 0 (nI i)) := qFr.rf.wi hj 36 0 _
      have hq3 := hq.fr hF3
      have hrow' : hI (wI μ' (A 36) 0 (nI i)) (A 36) = upd f 0 (nI i) := by rw [hI_wI_s, hz, upd_upd]
      refine B_X11_soon_62 g hr (hs'.s 0 14 18) (hs'.r 0 11 35) (hs'.s 35 12 4) (hs'.r 35 0 36) (hs'.s 36 0 112) ⟨fun c => absurd c (nI_nlt (by omega) (by omega)), fun _ => ⟨lit_in 0 (by omega) (by omega), xCall_of (c_arrivesIn (d := d - 1) (g := upd f 0 (nI i)) (p := -1) (q := -1) (by omega) hq3 (Or.inr rfl) hrow' (Bk.row_year hrow (bd_nI (by omega))) (by rw [hI_wI_n _ _ _ (hj.ne 35 36)]; exact hp) ha) (by omega) ?_⟩⟩
      rintro r μ4 ⟨hF4, ⟨o5, o6⟩, rfl, -⟩
      have hF' := hF.tt (hF3.tt hF4)
      have eG : arrOf B (upd f 0 (nI i)) (-1) (-1) s (cl u) (cl t) (cl a) 0 = G i := by rw [← hg]
      have nx := fun mo' b' => ih (by omega) μ4 mo' b' hF' ⟨nI i, by rw [o6, hrow']⟩ (by rw [o5, hI_wI_n _ _ _ (hj.ne 35 36)]; exact hp)
      rw [show L + 1 - i = (L + 1 - (i + 1)) + 1 by omega] at he
      rw [eG, nI_1]
      refine ⟨_, rfl, fun c => nx _ _ ?_, fun c => nx _ _ ?_⟩
      · rw [fmA_le c] at he; exact he
      · rw [fmA_gt c] at he; exact he
  · rw [if_neg ha, if_neg ha]
    exact ⟨_, rfl, fun h => absurd rfl h, fun _ => ⟨qFr.rf, rfl⟩⟩
theorem c_asks {x : Int32} (h : cQ μ A B f) : xC d yX2_asksForStaff cX2_asksForStaff 3 (some .boolean) 0 0 [.ref (A 39), .int x] μ ro (fun r μ' => μ' = μ ∧ ((r = some (.int 0) ∧ ∀ t, t < B.nt → B.tr (72 + t) ≠ x) ∨ r = some (.int 1))) := by
  obtain ⟨⟨h1, h2⟩, h3, h4, h5, -⟩ := h
  have hnt := h5.1.1.2.2
  refine I_X2_asksForStaff (fun J g hr => B_X2_asksForStaff_0 g hr ?_)
  refine loopUp (Q := fun i => (∀ t, t < i → B.tr (72 + t) ≠ x) → J μ 0 0 2 [(0, .ref (A 39)), (1, .int x), (2, .int (nI i))] []) B.nt ?_ (fun i hi ih hno => ?_) 0 (Nat.zero_le _) (fun t ht => by omega)
  · intro hno
    refine B_X2_asksForStaff_2 g hr (h1.s 39 6 9) (h1.r 39 4 44) (h1.s 44 0 132) ⟨fun _ => ⟨rfl, Or.inl ⟨rfl, hno⟩⟩, fun c => absurd (by rw [h3.2.2]; exact Int32.le_refl _) c⟩
  · refine B_X2_asksForStaff_2 g hr (h1.s 39 6 9) (h1.r 39 4 44) (h1.s 44 0 132) ⟨fun c => absurd c (by rw [h3.2.2]; exact nI_ge hi (by omega)), fun _ => ⟨off_in 72 (by omega) (by omega), ?_⟩⟩
    rw [show ((72 : Int32) + nI i).toNatClampNeg = 72 + i from off_cl 72 (by omega), h4.2.2, nI_1]
    refine ⟨fun c => ih (fun t ht => ?_), fun c => ⟨rfl, Or.inr rfl⟩⟩
    rcases Nat.lt_succ_iff_lt_or_eq.mp ht with h | rfl
    · exact hno t h
    · exact c
theorem c_hire {v : Int32} (hd : 12 ≤ d) (h : cQ μ A B f) : xC d yX11_hire cX11_hire 10 (some .int) 0 0 [.ref (A 0), .int s, .int u, .int t, .int a, .int v] μ ro (fun r μ' => qFr A μ μ' ∧ r = some (.int (aHire B f s u t a v))) := by
  have hsh := h.1.1
  have hj := h.1.2
  have hrow := h.2.2.2.2.1.2.1
  have hB := h.2.2.2.1
  have hnf := hB.1.1.2.1
  unfold aHire
  refine I_X11_hire (fun J g hr => B_X11_hire_0 g hr (hsh.s 0 14 18) (hsh.r 0 13 39) (hsh.s 39 6 9) (by omega) ?_)
  rw [h.2.1.2.1]
  refine ⟨fun c => ⟨qFr.rf, by rw [if_neg (fun q => q.1.1 c)]⟩, fun c1 => ⟨fun c => ⟨qFr.rf, by rw [if_neg (fun q => q.1.2 c)]⟩, fun c2 => xCall_of (c_isAsked (d := d - 1) (by omega) h) (by omega) ?_⟩⟩
  rintro r μ ⟨rfl, rfl⟩
  obtain ⟨e1, k1⟩ := inN.ex (n := B.nf) ⟨c1, c2⟩ (by omega)
  by_cases ha : asked B.nf s u t a
  · rw [if_pos ha]
    rw [if_pos ⟨⟨c1, c2⟩, ha⟩] at hr
    refine ⟨_, rfl, fun _ => ⟨hsh.s 0 14 18, _, hsh.r 0 11 35, _, hsh.r 0 10 33, hsh.s 35 12 4, (q_copy (by omega) h).mono (Nat.le_refl _) ?_⟩, fun h => absurd h (by decide)⟩
    rintro r μ2 ⟨rfl, hF2, ⟨g1, g2, g3⟩, -⟩
    refine ⟨rfl, ?_⟩
    have hst : ∀ n, n + 1 < 100 → (∀ t, t < B.nt → B.tr (72 + t) ≠ nI (n + 1)) → arrOf B (upd f (2 + cl v) (nI (n + 1))) (-1) (-1) s (cl u) (cl t) (cl a) 0 = arrOf B (upd f (2 + cl v) (nI n)) (-1) (-1) s (cl u) (cl t) (cl a) 0 := fun n hn hno => arr_staff hB (by omega) hn hno
    generalize hg : (fun n => arrOf B (upd f (2 + cl v) (nI n)) (-1) (-1) s (cl u) (cl t) (cl a) 0) = G at hr
    have hG : ∀ n, arrOf B (upd f (2 + cl v) (nI n)) (-1) (-1) s (cl u) (cl t) (cl a) 0 = G n := fun n => by rw [← hg]
    have ev : ((2 : Int32) + v).toNatClampNeg = 2 + cl v := by
      rw [e1, cl_nI (by omega)]; exact off_cl 2 (by omega)
    have iv : vp_in ((2 : Int32) + v) 112 := by rw [e1]; exact off_in 2 (by omega) (by omega)
    have key := loopUp (Q := fun i => ∀ (μ' : Hp) (mo b : Int32), qFr A μ μ' → (∃ z, hI μ' (A 36) = upd f (2 + cl v) z) → hI μ' (A 35) 2 = -1 ∧ hI μ' (A 35) 3 = -1 → (i = 0 ∨ G (i - 1) ≤ mo) → fmA G i (100 - i) mo b = fmA G 0 100 (-1) (-1) → J μ' 0 0 46 [(0, .ref (A 0)), (1, .int s), (2, .int u), (3, .int t), (4, .int a), (5, .int v), (6, .int mo), (7, .int b), (8, .int (nI i))] []) 100 ?_ (fun i hi ih μ' mo b hF ⟨z, hz⟩ hp hmo he => ?_) 0 (Nat.zero_le _) μ2 (-1) (-1) hF2 ⟨f (2 + cl v), by rw [g1, upd_id]⟩ ⟨g2, g3⟩ (Or.inl rfl) rfl
    · exact key
    · intro μ' mo b hF _ _ _ he
      have hs' := (h.fr hF).1.1
      refine B_X11_hire_46 g hr (hs'.s 0 14 18) (hs'.r 0 13 39) (hs'.s 39 6 9) ⟨fun _ => ⟨hF, ?_⟩, fun c => absurd (nI_lt (a := 99) (b := 100) (by omega) (by omega)) c⟩
      rw [← he]; rfl
    · have hq := h.fr hF
      have hs' := hq.1.1
      rw [show 100 - i = (100 - (i + 1)) + 1 by omega] at he
      have b70 : J μ' 0 0 70 [(0, .ref (A 0)), (1, .int s), (2, .int u), (3, .int t), (4, .int a), (5, .int v), (6, .int mo), (7, .int b), (8, .int (nI i))] [] := by
        refine B_X11_hire_70 g hr (hs'.s 0 14 18) (hs'.r 0 11 35) (hs'.s 35 12 4) (hs'.r 35 0 36) (hs'.s 36 0 112) ⟨iv, ?_⟩
        rw [ev]
        have hF3 : qFr A μ' (wI μ' (A 36) (2 + cl v) (nI i)) := qFr.rf.wi hj 36 _ _ ⟨by decide, Or.inr (by omega)⟩
        have hq3 := hq.fr hF3
        have hrow' : hI (wI μ' (A 36) (2 + cl v) (nI i)) (A 36) = upd f (2 + cl v) (nI i) := by rw [hI_wI_s, hz, upd_upd]
        refine xCall_of (c_arrivesIn (d := d - 1) (g := upd f (2 + cl v) (nI i)) (p := -1) (q := -1) (by omega) hq3 (Or.inr rfl) hrow' (Bk.row_staff hrow (by omega) (bd_nI (by omega))) (by rw [hI_wI_n _ _ _ (hj.ne 35 36)]; exact hp) ha) (by omega) ?_
        rintro r μ4 ⟨hF4, ⟨o5, o6⟩, rfl, -⟩
        have hF' := hF.tt (hF3.tt hF4)
        have nx := fun mo' b' => ih μ4 mo' b' hF' ⟨nI i, by rw [o6, hrow']⟩ (by rw [o5, hI_wI_n _ _ _ (hj.ne 35 36)]; exact hp)
        rw [hG, nI_1]
        refine ⟨_, rfl, fun c => nx _ _ (Or.inr c) ?_, fun c => nx _ _ (Or.inr (Int32.le_refl _)) ?_⟩
        · rw [fmA_le c] at he; exact he
        · rw [fmA_gt c] at he; exact he
      refine B_X11_hire_46 g hr (hs'.s 0 14 18) (hs'.r 0 13 39) (hs'.s 39 6 9) ⟨fun c => absurd c (nI_nlt (a := 99) (b := i) (by omega) (by omega)), fun _ => ⟨fun _ => b70, fun c => xCall_of (c_asks (d := d - 1) hq) (by omega) ?_⟩⟩
      rintro r μ3 ⟨rfl, (⟨rfl, hno⟩ | rfl)⟩
      · refine ⟨_, rfl, fun _ => ?_, fun c => absurd rfl c⟩
        have hi0 : i ≠ 0 := fun q => c (by rw [q]; rfl)
        have e : G i = G (i - 1) := by
          have := hst (i - 1) (by omega) (by rw [show i - 1 + 1 = i by omega]; exact hno)
          rw [hG, hG, show i - 1 + 1 = i by omega] at this
          exact this
        have hm : G i ≤ mo := by rw [e]; exact hmo.resolve_left hi0
        rw [nI_1]
        rw [fmA_le hm] at he
        exact ih μ3 mo b hF ⟨z, hz⟩ hp (Or.inr hm) he
      · exact ⟨_, rfl, fun c => absurd c (by decide), fun _ => b70⟩
  · rw [if_neg ha]
    rw [if_neg (fun q => ha q.2)]
    exact ⟨_, rfl, fun h => absurd rfl h, fun _ => ⟨qFr.rf, rfl⟩⟩
theorem c_key (hd : 11 ≤ d) (h : cQ μ A B f) : xC d yX11_key cX11_key 10 (some .int) 0 0 [.ref (A 0), .int s, .int u, .int t, .int a] μ ro (fun r μ' => qFr A μ μ' ∧ r = some (.int (aKey B f s u t a))) := by
  have hsh := h.1.1
  have hnf := h.2.2.2.1.1.1.2.1
  unfold aKey
  refine I_X11_key (fun J g hr => B_X11_key_0 g hr (hsh.s 0 14 18) (xCall_of (c_isFound (d := d - 1) (by omega) h) (by omega) ?_))
  rintro r μ' ⟨hF, (⟨rfl, e⟩ | ⟨rfl, ha, w, e, -⟩)⟩
  · exact ⟨_, rfl, fun h => absurd rfl h, fun _ => ⟨hF, by rw [e, onW_none]⟩⟩
  · rw [e, onW_some] at hr
    refine ⟨_, rfl, fun _ => ?_, fun h => absurd h (by decide)⟩
    obtain ⟨-, ⟨e2, k2⟩, ⟨e3, k3⟩, -, -⟩ := ha.ex hnf
    generalize hg : (fun v => arrOf B f (-1) (-1) s (cl u) (cl t) (cl a) (2 ^ v)) = G at hr
    generalize hP : (fun v => decide (¬ v = cl u ∧ ¬ v = cl t)) = P at hr
    have key := loopUp (Q := fun i => ∀ (μ' : Hp) (mo b : Int32), qFr A μ μ' → flA P G i (B.nf - i) mo b = flA P G 0 B.nf 1000001 (-1) → J μ' 0 0 25 [(0, .ref (A 0)), (1, .int s), (2, .int u), (3, .int t), (4, .int a), (5, .int mo), (6, .int b), (7, .int (nI i))] []) B.nf ?_ (fun i hi ih μ1 mo b hF1 he => ?_) 0 (Nat.zero_le _) μ' 1000001 (-1) hF rfl
    · exact key
    · intro μ1 mo b hF1 he
      have hq := h.fr hF1
      have hs1 := hq.1.1
      refine B_X11_key_25 g hr (hs1.s 0 14 18) (hs1.r 0 13 39) (hs1.s 39 6 9) (hs1.r 0 2 14) (hs1.r 0 10 33) (hs1.s 14 7 9) ⟨fun _ => ⟨hF1, ?_⟩, fun c => absurd (by rw [hq.2.1.2.1]; exact Int32.le_refl _) c⟩
      rw [← he, Nat.sub_self]; rfl
    · have hq := h.fr hF1
      have hs1 := hq.1.1
      rw [show B.nf - i = (B.nf - (i + 1)) + 1 by omega, flA] at he
      have pi : P i = true ↔ ¬ i = cl u ∧ ¬ i = cl t := by rw [← hP]; simp
      have iu : nI i = u ↔ i = cl u := ⟨fun q => by rw [← q, cl_nI (by omega)], fun q => by rw [q]; exact e2.symm⟩
      have it : nI i = t ↔ i = cl t := ⟨fun q => by rw [← q, cl_nI (by omega)], fun q => by rw [q]; exact e3.symm⟩
      refine B_X11_key_25 g hr (hs1.s 0 14 18) (hs1.r 0 13 39) (hs1.s 39 6 9) (hs1.r 0 2 14) (hs1.r 0 10 33) (hs1.s 14 7 9) ⟨fun c => absurd c (by rw [hq.2.1.2.1]; exact nI_ge hi (by omega)), fun _ => ?_⟩
      rw [nI_1]
      have skip : ¬ (P i = true ∧ ¬ mo ≤ G i) → ∀ μ2, qFr A μ μ2 → J μ2 0 0 25 [(0, .ref (A 0)), (1, .int s), (2, .int u), (3, .int t), (4, .int a), (5, .int mo), (6, .int b), (7, .int (nI (i + 1)))] [] := fun hn μ2 hF2 => by
        rw [if_neg hn] at he
        exact ih μ2 mo b hF2 he
      have taken : P i = true → ¬ mo ≤ G i → ∀ μ2, qFr A μ μ2 → J μ2 0 0 25 [(0, .ref (A 0)), (1, .int s), (2, .int u), (3, .int t), (4, .int a), (5, .int (G i)), (6, .int (nI i)), (7, .int (nI (i + 1)))] [] := fun h1 h2 μ2 hF2 => by
        rw [if_pos ⟨h1, h2⟩] at he
        exact ih μ2 _ _ hF2 he
      refine ⟨fun c => skip (fun q => (pi.mp q.1).1 (iu.mp c)) _ hF1, fun c1 => ⟨fun c => skip (fun q => (pi.mp q.1).2 (it.mp c)) _ hF1, fun c2 => ?_⟩⟩
      have hpi : P i = true := pi.mpr ⟨fun q => c1 (iu.mpr q), fun q => c2 (it.mpr q)⟩
      rw [bit1 (show i < 8 by omega)]
      have hM : 2 ^ i < 256 := pow8 (by omega)
      refine (q_find (d := d) (sp := false) (M := 2 ^ i) (by omega) hq rfl ha hM).mono (Nat.le_refl _) ?_
      rintro r μ2 ⟨hF2, -, -, -, rfl, hw⟩
      have hF' := hF1.tt hF2
      have hs2 := (h.fr hF').1.1
      have hGi : G i = arrOf B f (-1) (-1) s (cl u) (cl t) (cl a) (2 ^ i) := by rw [← hg]
      cases e : wayOf B f (-1) (-1) false s (cl u) (cl t) (cl a) (2 ^ i) with
      | none =>
        have hv : G i = -1 := by rw [hGi]; unfold arrOf; rw [e]
        refine ⟨_, rfl, fun _ => ⟨fun c => skip (fun q => q.2 (by rw [hv]; exact c)) _ hF', fun c => ?_⟩, fun c => absurd (if_pos rfl) c⟩
        have := taken hpi (by rw [hv]; exact c) μ2 hF'
        rw [hv] at this
        exact this
      | some w =>
        have hv : G i = hI μ2 (A 15) 3 := by rw [hGi, (hw w e).2.2.2.2.1]; unfold arrOf; rw [e]
        refine ⟨_, rfl, fun c => absurd c (by rw [if_neg (by simp)]; decide), fun _ => ⟨hs2.s 0 14 18, _, hs2.r 0 2 14, hs2.s 14 7 9, _, hs2.r 14 0 15, hs2.s 15 13 5, ?_⟩⟩
        rw [← hv]
        exact ⟨fun c => skip (fun q => q.2 c) _ hF', fun c => taken hpi c _ hF'⟩
end cq4
