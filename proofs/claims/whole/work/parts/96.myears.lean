/-! years of the model -/
section myears
variable {d : Nat} {ro : Nat → Nat} {μ : Hp} {m : Nat} {X : Nat → Nat} {S : St}
theorem m_happens (hd : 18 ≤ d) (h : mR μ m X S) (hok : sOk S) (hn : 0 < S.B.nf) : xC d yX12_happens cX12_happens 5 (some .int) 0 0 [.ref m] μ ro (fun r μ' => (∃ y : Int32, r = some (.int y)) ∧ mR μ' m X (drwS S (hL μ m 62)).1 ∧ mOut m X μ μ' ∧ hL μ' m 62 = (drwS S (hL μ m 62)).2) := by
  have hnf := hok.1.1.1.2.1
  generalize hx : hL μ m 62 = x
  unfold drwS
  have tr : ∀ {μ1 : Hp} {act a b c e : Int32} {x1 : Int64} {P : St × Int64}, mR μ1 m X S → mOut m X μ μ1 → hL μ1 m 62 = x1 → (S.tryA act a b c e, x1) = P → xCall d yX12_tries cX12_tries 7 (some .int) [.ref m, .int act, .int a, .int b, .int c, .int e] μ1 ro (fun r μ' => ∃ y : Int32, r = some (.int y) ∧ (∃ y' : Int32, some (Value.int y) = some (.int y')) ∧ mR μ' m X P.1 ∧ mOut m X μ μ' ∧ hL μ' m 62 = P.2) := fun {μ1 act a b c e x1 P} h1 ho hx1 hP => by
    subst hP
    refine xCall_of (m_tries (d := d - 1) (by omega) h1 hok) (by omega) ?_
    rintro r μ' ⟨rfl, q1, q2, -, q4⟩
    exact ⟨_, rfl, ⟨_, rfl⟩, q1, ho.tt q2, by rw [q4]; exact hx1⟩
  refine I_X12_happens (fun J g hr => B_X12_happens_0 g hr h.1.1.1.1 ((q_md (j := 8) (by omega) h hx (by omega) (by omega)).mono (Nat.le_refl _) ?_))
  rintro r μ2 ⟨rfl, h2, o2, x2⟩
  have h4 : (4 : Int32) ≤ dV (dN x) 8 ↔ ¬ ¬ 3 < dV (dN x) 8 := by
    rw [Classical.not_not]
    constructor
    · intro q; exact Int32.lt_of_lt_of_le (by decide) q
    · intro q
      have := Int32.lt_iff_toInt_lt.mp q
      rw [Int32.le_iff_toInt_le]
      have e3 : (3 : Int32).toInt = 3 := by decide
      have e4 : (4 : Int32).toInt = 4 := by decide
      omega
  have nf2 : ∀ {μ1 : Hp}, mR μ1 m X S → hI μ1 m 22 = nI S.B.nf := fun h1 => h1.1.2.1.1.2.1
  refine ⟨_, rfl, fun c3 => ⟨fun c4 => ⟨h2.1.1.1.1, ?_⟩, fun c4 => ⟨h2.1.1.1.1, ?_⟩⟩, fun c3 => ⟨h2.1.1.1.1, ?_⟩⟩
  · have c3' := h4.mp c3
    rw [if_neg c3', if_neg c4, nf2 h2]
    refine (q_md (by omega) h2 x2 hn (by omega)).mono (Nat.le_refl _) ?_
    rintro r μ3 ⟨rfl, h3, o3, x3⟩
    refine ⟨_, rfl, fun c5 => ⟨h3.1.1.1.1, ?_⟩, fun c5 => ⟨h3.1.1.1.1, ?_⟩⟩
    · rw [if_neg c5, nf2 h3]
      refine (q_md (by omega) h3 x3 hn (by omega)).mono (Nat.le_refl _) ?_
      rintro r μ4 ⟨rfl, h5, o5, x5⟩
      refine ⟨_, rfl, fun c6 => ⟨h5.1.1.1.1, ?_⟩, fun c6 => ⟨h5.1.1.1.1, ?_⟩⟩
      · rw [if_neg c6]
        exact tr h5 (o2.tt (o3.tt o5)) x5 rfl
      · rw [if_pos c6]
        refine (q_md (j := 101) (by omega) h5 x5 (by omega) (by omega)).mono (Nat.le_refl _) ?_
        rintro r μ5 ⟨rfl, h6, o6, x6⟩
        exact ⟨_, rfl, h6.1.1.1.1, tr h6 (o2.tt (o3.tt (o5.tt o6))) x6 rfl⟩
    · rw [if_pos c5]
      refine (q_md (j := 100) (by omega) h3 x3 (by omega) (by omega)).mono (Nat.le_refl _) ?_
      rintro r μ4 ⟨rfl, h5, o5, x5⟩
      exact ⟨_, rfl, h5.1.1.1.1, tr h5 (o2.tt (o3.tt o5)) x5 rfl⟩
  · have c3' := h4.mp c3
    rw [if_neg c3', if_pos c4]
    refine (q_md (j := 5) (by omega) h2 x2 (by omega) (by omega)).mono (Nat.le_refl _) ?_
    rintro r μ3 ⟨rfl, h3, o3, x3⟩
    exact ⟨_, rfl, h3.1.1.1.1, tr h3 (o2.tt o3) x3 rfl⟩
  · have c3' : ¬ 3 < dV (dN x) 8 := Classical.not_not.mp (fun q => c3 (h4.mpr q))
    rw [if_pos c3']
    refine (q_md (j := 2) (by omega) h2 x2 (by omega) (by omega)).mono (Nat.le_refl _) ?_
    rintro r μ3 ⟨rfl, h3, o3, x3⟩
    refine ⟨_, rfl, h3.1.1.1.1, ?_⟩
    rw [nf2 h3]
    refine (q_md (by omega) h3 x3 hn (by omega)).mono (Nat.le_refl _) ?_
    rintro r μ4 ⟨rfl, h5, o5, x5⟩
    refine ⟨_, rfl, h5.1.1.1.1, ?_⟩
    rw [nf2 h5]
    refine (q_md (by omega) h5 x5 hn (by omega)).mono (Nat.le_refl _) ?_
    rintro r μ5 ⟨rfl, h6, o6, x6⟩
    refine ⟨_, rfl, h6.1.1.1.1, (q_md (j := 1000) (by omega) h6 x6 (by omega) (by omega)).mono (Nat.le_refl _) ?_⟩
    rintro r μ6 ⟨rfl, h7, o7, x7⟩
    exact ⟨_, rfl, h7.1.1.1.1, tr h7 (o2.tt (o3.tt (o5.tt (o6.tt o7)))) x7 rfl⟩
theorem drw_ok (hok : sOk S) {x : Int64} : sOk (drwS S x).1 := by
  unfold drwS
  repeat' split
  all_goals exact try_ok hok
theorem m_years {n : Int32} {x : Int64} (hd : 19 ≤ d) (h : mR μ m X S) (hok : sOk S) : xC d yX12_years cX12_years 6 (some .int) 0 0 [.ref m, .int n, .long x] μ ro (fun r μ' => r = some (.int (aYears S n x)) ∧ mR μ' m X (S.years n x) ∧ mOut m X μ μ') := by
  obtain ⟨hF0, -, n20, n22⟩ := h.1.th
  have h0 := h.fr hF0
  have hs := h.1.1.1
  have hnf := hok.1.1.1.2.1
  unfold aYears St.years
  refine I_X12_years (fun J g hr => B_X12_years_0 g hr hs.1 (by omega) ?_)
  rw [n22]
  refine ⟨fun c => ?_, fun c0 => ⟨fun c => ⟨by rw [if_neg (fun q => q.2.1 c)], by rw [if_neg (fun q => q.2.1 c)]; exact h0, hF0.out⟩, fun c1 => ⟨fun c => ⟨by rw [if_neg (fun q => Int32.not_lt.mpr q.2.2 c)], by rw [if_neg (fun q => Int32.not_lt.mpr q.2.2 c)]; exact h0, hF0.out⟩, fun c2 => ?_⟩⟩⟩
  · have c' : S.B.nf = 0 := by
      rcases Nat.eq_zero_or_pos S.B.nf with e | e
      · exact e
      · exact absurd c (nI_ne0 e (by omega))
    exact ⟨by rw [if_neg (fun q => q.1 c')], by rw [if_neg (fun q => q.1 c')]; exact h0, hF0.out⟩
  have c' : ¬ S.B.nf = 0 := fun e => c0 (by rw [e]; rfl)
  have hc : ¬ S.B.nf = 0 ∧ ¬ n < 1 ∧ n ≤ 40 := ⟨c', c1, Int32.not_lt.mp c2⟩
  rw [if_pos hc, if_pos hc] at hr
  have cn : ¬ n < 0 := fun q => c1 (Int32.lt_trans q (by decide))
  obtain ⟨k, hk, rfl⟩ := smallx 40 cn c2 (by decide)
  rw [cl_nI (by omega)] at hr
  have key := loopUp (Q := fun i => ∀ (μ' : Hp) (S' : St), mR μ' m X S' → sOk S' → mOut m X μ μ' → S'.B = S.B → yrS (k - i) S' (hL μ' m 62) = yrS k S x → J μ' 0 0 34 [(0, .ref m), (1, .int (nI k)), (4, .int (nI i))] []) k ?_ (fun i hi ih μ' S' h' hok' ho hS he => ?_) 0 (Nat.zero_le _) _ S (h0.wl (x := x)) hok ((hF0.out).tt ⟨rfl, rfl, fun b h1 _ => ⟨rfl, va_up_ne _ _ h1⟩⟩) rfl (by rw [hL_wL_s, updL_s]; rfl)
  · exact key
  · intro μ' S' h' hok' ho hS he
    have hs' := h'.1.1.1
    refine B_X12_years_34 g hr hs'.1 (hs'.r 30 0 293) (hs'.s 30 0 293) ⟨fun _ => ⟨lit_in 30 (by omega) (by omega), ?_, ?_, ho⟩, fun c => absurd (Int32.le_refl _) c⟩
    · rw [← he, Nat.sub_self, h'.1.2.2.1.2.1]; rfl
    · rw [← he, Nat.sub_self]; exact h'
  · have hs' := h'.1.1.1
    refine B_X12_years_34 g hr hs'.1 (hs'.r 30 0 293) (hs'.s 30 0 293) ⟨fun c => absurd c (nI_ge hi (by omega)), fun _ => xCall_of (m_happens (d := d - 1) (by omega) h' hok' (by rw [hS]; omega)) (by omega) ?_⟩
    rintro r μ2 ⟨⟨y, rfl⟩, q1, q2, q3⟩
    have ep : drwP (S', hL μ' m 62) = drwS S' (hL μ' m 62) := rfl
    rw [yrS, show k - i = (k - (i + 1)) + 1 by omega, iterP_s, ep] at he
    have hB2 : (drwS S' (hL μ' m 62)).1.B = S'.B := drwS_B
    have hk2 := drw_ok hok' (x := hL μ' m 62)
    generalize drwS S' (hL μ' m 62) = P at q1 q3 he hB2 hk2
    obtain ⟨P1, P2⟩ := P
    rw [nI_1]
    refine ⟨_, rfl, ih μ2 P1 q1 hk2 (ho.tt q2) (hB2.trans hS) ?_⟩
    rw [q3]
    exact he
end myears
