/-! feed and end: the whole states -/
theorem apT_app (p : Nat × (Nat → Nat)) (bs cs : List Nat) : apT p (bs ++ cs) = apT (apT p bs) cs := List.foldl_append ..
theorem cR.tp {μ μ' : Hp} {A : Nat → Nat} {S : St} {p : Nat × (Nat → Nat)} (h : cR μ A S) (hF : gFr [1, 2] A μ μ') (ht : cTp μ' A p.1 p.2) : cR μ' A (S.upT p) := by
  have hj := h.1.1.2
  obtain ⟨⟨a1, a2, a3, a4, a5, a6, a7, a8⟩, b1, ⟨b2, b2'⟩, b3, b4, b5, b6, b7⟩ := h
  refine ⟨⟨⟨a1.1.of hF.2.1 hF.1, hj⟩, ?_, ?_, a4, ?_, ?_, a7, ?_⟩, ?_, ⟨?_, b2'⟩, ?_, ?_, ht, ?_, ?_⟩
  · rw [hF.o hj 39]; exact a2
  · rw [hF.o hj 42, hF.o hj 43, hF.o hj 44]; exact a3
  · rw [hF.o hj 34, hF.o hj 33]; exact a5
  · rw [hF.o hj 14]; exact a6
  · rw [hF.o hj 36]; exact a8
  · unfold cNm; rw [hF.2.2.2 _ (hj.ne 40 0), hF.2.2.2 _ (hj.ne 41 0)]; exact b1
  · unfold cHs; rw [hF.o hj 24, hF.o hj 25]; exact b2
  · unfold cLg; rw [hF.o hj 26, hF.o hj 27]; exact b3
  · unfold cIm; rw [hF.o hj 0, hF.o hj 38, hF.o hj 28, hF.o hj 29, hF.1]; exact b4
  · refine b6.fr (by rw [hF.o hj 0]) (fun k hk => ?_)
    have : k = 0 ∨ k = 1 ∨ k = 2 ∨ k = 3 := by omega
    rcases this with rfl | rfl | rfl | rfl
    · exact ⟨hF.o hj 4, hF.o hj 9⟩
    · exact ⟨hF.o hj 5, hF.o hj 10⟩
    · exact ⟨hF.o hj 6, hF.o hj 11⟩
    · exact ⟨hF.o hj 7, hF.o hj 12⟩
  · unfold cRf; rw [hF.o hj 31]; exact b7
section feed2
variable {d : Nat} {ro : Nat → Nat} {μ : Hp} {A : Nat → Nat} {S : St} {m : Nat} {X : Nat → Nat}
theorem c_end {n : Int32} (h : cR μ A S) : xC d yX11_end cX11_end 2 (some .boolean) 0 0 [.ref (A 0), .int n] μ ro (fun r μ' => r = some (.int (aEnd S n)) ∧ cR μ' A (S.endT n) ∧ cOut A μ μ') := by
  have hsh := h.1.1.1
  have hj := h.1.1.2
  obtain ⟨t1, t2, t3⟩ := h.2.2.2.2.2.1
  unfold aEnd St.endT
  refine I_X11_end (fun J g hr => B_X11_end_0 g hr (hsh.s 0 14 18) (hsh.r 0 0 1) (hsh.s 1 10 5) ?_)
  rw [t1]
  refine ⟨fun c => ⟨by rw [if_neg (fun q => q.1 c)], by rw [if_neg (fun q => q.1 c)]; exact h, cOut.rf⟩, fun c1 => ⟨fun c2 => ?_, fun c => ⟨by rw [if_neg (fun q => c q.2)], by rw [if_neg (fun q => c q.2)]; exact h, cOut.rf⟩⟩⟩
  have hF : gFr [1, 2] A μ (wI μ (A 1) 0 n) := Fr.g (Fr.rf.wiA 1 _ _)
  rw [if_pos ⟨c1, c2⟩, if_pos ⟨c1, c2⟩]
  obtain ⟨j, hjn, rfl⟩ := smallx S.len c1 (Int32.not_lt.mpr c2) (by omega)
  refine ⟨rfl, h.tp hF ⟨?_, ?_, fun i hi => ?_⟩, hF.out⟩
  · rw [hI_wI_s, upd_s, cl_nI (by omega)]
  · show cl (nI j) ≤ 400
    rw [cl_nI (by omega)]; omega
  · have hi' : i < cl (nI j) := hi
    rw [cl_nI (by omega)] at hi'
    rw [hI_wI_n _ _ _ (hj.ne 2 1)]; exact t3 i (by omega)
theorem c_feed {a b c e f : Int32} (hd : 1 ≤ d) (h : cR μ A S) : xC d yX11_feed cX11_feed 7 (some .int) 0 0 [.ref (A 0), .int a, .int b, .int c, .int e, .int f] μ ro (fun r μ' => r = some (.int (aFeed S a b c e f)) ∧ cR μ' A (S.feed a b c e f) ∧ cOut A μ μ') := by
  have hsh := h.1.1.1
  have hj := h.1.1.2
  obtain ⟨t1, t2, t3⟩ := h.2.2.2.2.2.1
  have la := bys_le a
  have lb := bys_le b
  have lc := bys_le c
  have le := bys_le e
  have lf := bys_le f
  have hlen : (fedB a b c e f).length = (bysN a 4).length + (bysN b 4).length + (bysN c 4).length + (bysN e 4).length + (bysN f 4).length := by
    unfold fedB
    simp only [List.length_append]
    omega
  unfold aFeed St.feed
  refine I_X11_feed (fun J g hr => B_X11_feed_0 g hr (xCall_of (c_bytesIn (d := d - 1)) (by omega) ?_))
  rintro r μ ⟨rfl, rfl⟩
  refine ⟨_, rfl, xCall_of (c_bytesIn (d := d - 1)) (by omega) ?_⟩
  rintro r μ ⟨rfl, rfl⟩
  refine ⟨_, rfl, xCall_of (c_bytesIn (d := d - 1)) (by omega) ?_⟩
  rintro r μ ⟨rfl, rfl⟩
  refine ⟨_, rfl, xCall_of (c_bytesIn (d := d - 1)) (by omega) ?_⟩
  rintro r μ ⟨rfl, rfl⟩
  refine ⟨_, rfl, xCall_of (c_bytesIn (d := d - 1)) (by omega) ?_⟩
  rintro r μ ⟨rfl, rfl⟩
  refine ⟨_, rfl, hsh.s 0 14 18, _, hsh.r 0 0 1, hsh.s 1 10 5, ?_⟩
  rw [t1, nI_add, nI_add, nI_add, nI_add, nI_add, ← hlen]
  refine pk_le (S.len + (fedB a b c e f).length) 400 (fun cc => ?_) (fun cc => ⟨by rw [if_neg (by omega)], by rw [if_neg (by omega)]; exact h, cOut.rf⟩)
  rw [if_pos cc, if_pos cc]
  rw [hlen] at cc
  have tp0 : cTp μ A S.len S.tp := ⟨t1, t2, t3⟩
  have sh : ∀ {μ1 : Hp}, gFr [1, 2] A μ μ1 → cSh μ1 A := fun hF => hsh.of hF.2.1 hF.1
  refine xCall_of (c_put (d := d - 1) hsh hj tp0 (by omega)) (by omega) ?_
  rintro r μ1 ⟨rfl, F1, p1⟩
  have s1 := sh F1
  have q1 := apT_1 (S.len, S.tp) (bysN a 4)
  generalize hP1 : apT (S.len, S.tp) (bysN a 4) = P1 at p1 q1
  have q1' : P1.1 = S.len + (bysN a 4).length := q1
  refine ⟨rfl, s1.s 0 14 18, _, s1.r 0 0 1, s1.s 1 10 5, xCall_of (c_put (d := d - 1) s1 hj p1 (by omega)) (by omega) ?_⟩
  rintro r μ2 ⟨rfl, F2, p2⟩
  have F2' := F1.tt F2
  have s2 := sh F2'
  have q2 := apT_1 (P1.1, P1.2) (bysN b 4)
  generalize hP2 : apT (P1.1, P1.2) (bysN b 4) = P2 at p2 q2
  have q2' : P2.1 = P1.1 + (bysN b 4).length := q2
  refine ⟨rfl, s2.s 0 14 18, _, s2.r 0 0 1, s2.s 1 10 5, xCall_of (c_put (d := d - 1) s2 hj p2 (by omega)) (by omega) ?_⟩
  rintro r μ3 ⟨rfl, F3, p3⟩
  have F3' := F2'.tt F3
  have s3 := sh F3'
  have q3 := apT_1 (P2.1, P2.2) (bysN c 4)
  generalize hP3 : apT (P2.1, P2.2) (bysN c 4) = P3 at p3 q3
  have q3' : P3.1 = P2.1 + (bysN c 4).length := q3
  refine ⟨rfl, s3.s 0 14 18, _, s3.r 0 0 1, s3.s 1 10 5, xCall_of (c_put (d := d - 1) s3 hj p3 (by omega)) (by omega) ?_⟩
  rintro r μ4 ⟨rfl, F4, p4⟩
  have F4' := F3'.tt F4
  have s4 := sh F4'
  have q4 := apT_1 (P3.1, P3.2) (bysN e 4)
  generalize hP4 : apT (P3.1, P3.2) (bysN e 4) = P4 at p4 q4
  have q4' : P4.1 = P3.1 + (bysN e 4).length := q4
  refine ⟨rfl, s4.s 0 14 18, _, s4.r 0 0 1, s4.s 1 10 5, xCall_of (c_put (d := d - 1) s4 hj p4 (by omega)) (by omega) ?_⟩
  rintro r μ5 ⟨rfl, F5, p5⟩
  have F5' := F4'.tt F5
  have s5 := sh F5'
  have q5 := apT_1 (P4.1, P4.2) (bysN f 4)
  generalize hP5 : apT (P4.1, P4.2) (bysN f 4) = P5 at p5 q5
  have q5' : P5.1 = P4.1 + (bysN f 4).length := q5
  have eP : apT (S.len, S.tp) (fedB a b c e f) = P5 := by
    unfold fedB
    rw [apT_app, apT_app, apT_app, apT_app, hP1, show P1 = (P1.1, P1.2) from rfl, hP2, show P2 = (P2.1, P2.2) from rfl, hP3, show P3 = (P3.1, P3.2) from rfl, hP4, show P4 = (P4.1, P4.2) from rfl, hP5]
  refine ⟨rfl, s5.s 0 14 18, _, s5.r 0 0 1, s5.s 1 10 5, ?_, ?_, F5'.out⟩
  · rw [p5.1, hlen]
    congr 3
    omega
  · rw [eP]; exact h.tp F5' p5
/-! the model's tape -/
def bFr (m : Nat) (X : Nat → Nat) (μ μ' : Hp) : Prop := Fr [m, X 1] μ μ' ∧ ∀ k, k ≠ 0 ∧ k ≠ 2 → hI μ' m k = hI μ m k
theorem bFr.tt {μ1 μ2 : Hp} (h : bFr m X μ μ1) (h' : bFr m X μ1 μ2) : bFr m X μ μ2 := ⟨h.1.tt h'.1, fun k hk => (h'.2 k hk).trans (h.2 k hk)⟩
theorem mR.tp {μ' : Hp} {p : Nat × (Nat → Nat)} (h : mR μ m X S) (hF : bFr m X μ μ') (ht : mTp μ' m X p.1 p.2) : mR μ' m X (S.upT p) := by
  have hs := h.1.1.1
  have hi := h.1.1.2
  obtain ⟨a1, a2, a3, ⟨c1, c2, c3, c4, c5⟩⟩ := h
  have o : ∀ i, i ∈ mK → i ≠ 1 → hI μ' (X i) = hI μ (X i) := fun i hik hn => hF.1.2.2.2 _ (by
    simp only [List.mem_cons, List.not_mem_nil, or_false, not_or]
    exact ⟨hs.ne i hik, fun q => hn (hi i 1 hik (by decide) q)⟩)
  have hL' : hL μ' = hL μ := hF.1.1
  refine ⟨a1.gen ⟨hF.1.2.2.1, hF.1.2.1⟩ (fun k hk => hF.2 k (by omega)) (fun i hi' => o i (by rcases hi' with rfl | rfl | rfl <;> decide) (by omega)) (by rw [o 30 (by decide) (by decide)]; exact a1.2.2.1) a1.2.2.2.2.2, by rw [o 30 (by decide) (by decide)]; exact a2, a3.fr ⟨hF.2 34 (by decide), hF.2 35 (by decide)⟩ (o 33 (by decide) (by decide)), ?_, ?_, ht, ?_, ?_⟩
  · unfold mNm; rw [hL']; exact c1
  · unfold mIm; rw [hF.2 36 (by decide), o 32 (by decide) (by decide)]; exact c2
  · unfold mSc; rw [hF.2 27 (by decide), o 29 (by decide) (by decide), o 28 (by decide) (by decide)]; exact c4
  · unfold mRf; rw [o 14 (by decide) (by decide)]; exact c5
theorem bFr.out {μ' : Hp} (h : bFr m X μ μ') : mOut m X μ μ' := Fr.mout h.1 (fun b hb => by
  simp only [List.mem_cons, List.not_mem_nil, or_false] at hb
  rcases hb with e | e
  · exact Or.inl e
  · exact Or.inr (List.mem_map.mpr ⟨1, by decide, e.symm⟩))
theorem nar_byt : ∀ b, b < 256 → vp_nar .byte ((nI b).toInt8.toInt32) = byt b := by decide +kernel
theorem m_bringsB {x : Int32} {len : Nat} {tp : Nat → Nat} (hs : mSh μ m X) (h : mTp μ m X len tp) (hl : len + (bysN x 4).length ≤ 400) : xC d yX12_brings cX12_brings 4 none 0 0 [.ref m, .int x] μ ro (fun r μ' => r = none ∧ bFr m X μ μ' ∧ mTp μ' m X (apT (len, tp) (bysN x 4)).1 (apT (len, tp) (bysN x 4)).2) := by
  have hwm : X 1 ≠ m := hs.ne 1
  refine I_X12_brings (fun J g hr => B_X12_brings_0 g hr ?_)
  have key := loopDown (Q := fun k => ∀ (μ' : Hp) (p : Nat × (Nat → Nat)), bFr m X μ μ' → mTp μ' m X p.1 p.2 → p.1 + (bysN x k).length ≤ 400 → apT p (bysN x k) = apT (len, tp) (bysN x 4) → J μ' 0 0 3 [(0, .ref m), (1, .int x), (2, .int (nI (8 * k) + (-8)))] []) 4 ?_ (fun k hk ih μ' p hF hp hl' he => ?_) μ (len, tp) ⟨Fr.rf, fun _ _ => rfl⟩ h hl rfl
  · exact key
  · intro μ' p hF hp hl' he
    have hs' : mSh μ' m X := hs.of hF.1.2.2.1 hF.1.2.1
    refine B_X12_brings_3 g hr hs'.1 (hs'.r 1 1 400) (hs'.s 1 1 400) ⟨fun _ => ⟨rfl, hF, ?_⟩, fun c => absurd (by decide) c⟩
    rw [← he]; exact hp
  · have hs' : mSh μ' m X := hs.of hF.1.2.2.1 hF.1.2.1
    have hb := bt_lt x k
    rw [step8]
    refine B_X12_brings_3 g hr hs'.1 (hs'.r 1 1 400) (hs'.s 1 1 400) ⟨fun c => absurd c (nI_pos (by omega)), fun _ => ?_⟩
    rw [bt_m hk, nar_byt _ hb]
    rw [bysN] at hl' he
    refine ⟨fun c => ?_, fun c => ?_⟩
    · have c' : ¬ bt x k = 0 := fun q => c (by rw [q]; rfl)
      rw [if_neg c', List.singleton_append] at hl' he
      rw [List.length_cons] at hl'
      obtain ⟨p1, p3⟩ := hp
      rw [p1]
      refine ⟨vp_in_nI (by omega) (by omega), fun v4 e4 => ?_⟩
      rw [nI_clamp (by omega), hI_wI_n _ _ _ (Ne.symm hwm), p1] at e4
      rw [nI_clamp (by omega), e4, nI_1]
      refine ih _ (p.1 + 1, updN p.2 p.1 (bt x k)) ?_ ⟨?_, fun i hi => ?_⟩ (by simpa using (by omega : p.1 + 1 + (bysN x k).length ≤ 400)) he
      · exact ⟨(hF.1.w1 (by simp)).w1 (by simp), fun k hk => by rw [hI_wI_s, upd_n _ hk.2, hI_wI_n _ _ _ (Ne.symm hwm)]; exact hF.2 k hk⟩
      · rw [hI_wI_s, upd_s]
      · have hi' : i < p.1 + 1 := hi
        rw [hI_wI_n _ _ _ hwm, hI_wI_s]
        show upd (hI μ' (X 1)) p.1 (byt (bt x k)) i = byt (updN p.2 p.1 (bt x k) i)
        unfold updN
        by_cases e : i = p.1
        · subst e; rw [upd_s, if_pos rfl]
        · rw [upd_n _ e, if_neg e]; exact p3 i (by omega)
    · have c' : bt x k = 0 := by
        rcases Nat.eq_zero_or_pos (bt x k) with q | q
        · exact q
        · exact absurd c (nI_ne0 q (by omega))
      rw [if_pos c', List.nil_append] at hl' he
      exact ih μ' p hF hp hl' he
theorem m_end {n : Int32} (h : mR μ m X S) (hok : sOk S) : xC d yX12_end cX12_end 2 (some .boolean) 0 0 [.ref m, .int n] μ ro (fun r μ' => r = some (.int (aEnd S n)) ∧ mR μ' m X (S.endT n) ∧ mOut m X μ μ') := by
  obtain ⟨hF0, -, -, -⟩ := h.1.th
  have h0 := h.fr hF0
  have hs := h.1.1.1
  have hl4 := hok.2.2.2.2.2.1.1
  unfold aEnd St.endT
  refine I_X12_end (fun J g hr => B_X12_end_0 g hr hs.1 ?_)
  rw [h0.2.2.2.2.2.1.1]
  refine ⟨fun c => ⟨by rw [if_neg (fun q => q.1 c)], by rw [if_neg (fun q => q.1 c)]; exact h0, hF0.out⟩, fun c1 => ⟨fun c2 => ?_, fun c => ⟨by rw [if_neg (fun q => c q.2)], by rw [if_neg (fun q => c q.2)]; exact h0, hF0.out⟩⟩⟩
  rw [if_pos ⟨c1, c2⟩, if_pos ⟨c1, c2⟩]
  have hF : bFr m X (wI μ m 0 0) (wI (wI μ m 0 0) m 2 n) := ⟨Fr.wi (by simp), fun k hk => by rw [hI_wI_s, upd_n _ hk.2]⟩
  obtain ⟨j, hjn, rfl⟩ := smallx S.len c1 (Int32.not_lt.mpr c2) (by omega)
  refine ⟨rfl, h0.tp hF ⟨?_, fun i hi => ?_⟩, (hF0.out).tt hF.out⟩
  · rw [hI_wI_s, upd_s, cl_nI (by omega)]
  · have hi' : i < cl (nI j) := hi
    rw [cl_nI (by omega)] at hi'
    rw [hI_wI_n _ _ _ (hs.ne 1)]; exact h0.2.2.2.2.2.1.2 i (by omega)
theorem m_feed {a b c e f : Int32} (hd : 1 ≤ d) (h : mR μ m X S) (hok : sOk S) : xC d yX12_feed cX12_feed 6 (some .int) 0 0 [.ref m, .int a, .int b, .int c, .int e, .int f] μ ro (fun r μ' => r = some (.int (aFeed S a b c e f)) ∧ mR μ' m X (S.feed a b c e f) ∧ mOut m X μ μ') := by
  obtain ⟨hF0, -, -, -⟩ := h.1.th
  have h0 := h.fr hF0
  have hs := h.1.1.1
  have hl4 := hok.2.2.2.2.2.1.1
  have la := bys_le a
  have lb := bys_le b
  have lc := bys_le c
  have le := bys_le e
  have lf := bys_le f
  have hlen : (fedB a b c e f).length = (bysN a 4).length + (bysN b 4).length + (bysN c 4).length + (bysN e 4).length + (bysN f 4).length := by
    unfold fedB
    simp only [List.length_append]
    omega
  unfold aFeed St.feed
  have t1 := h0.2.2.2.2.2.1.1
  refine I_X12_feed (fun J g hr => B_X12_feed_0 g hr hs.1 (xCall_of (m_bytesOf (d := d - 1)) (by omega) ?_))
  rw [t1]
  generalize hμ0 : wI μ m 0 0 = μ0 at hF0 h0
  rintro r μ1 ⟨rfl, rfl⟩
  refine ⟨_, rfl, xCall_of (m_bytesOf (d := d - 1)) (by omega) ?_⟩
  rintro r μ1 ⟨rfl, rfl⟩
  refine ⟨_, rfl, xCall_of (m_bytesOf (d := d - 1)) (by omega) ?_⟩
  rintro r μ1 ⟨rfl, rfl⟩
  refine ⟨_, rfl, xCall_of (m_bytesOf (d := d - 1)) (by omega) ?_⟩
  rintro r μ1 ⟨rfl, rfl⟩
  refine ⟨_, rfl, xCall_of (m_bytesOf (d := d - 1)) (by omega) ?_⟩
  rintro r μ0 ⟨rfl, rfl⟩
  refine ⟨_, rfl, ?_⟩
  rw [nI_add, nI_add, nI_add, nI_add, nI_add, show S.len + (bysN a 4).length + (bysN b 4).length + (bysN c 4).length + (bysN e 4).length + (bysN f 4).length = S.len + (fedB a b c e f).length by omega]
  refine pk_le (S.len + (fedB a b c e f).length) 400 (fun cc => ?_) (fun cc => ⟨by rw [if_neg (by omega)], by rw [if_neg (by omega)]; exact h0, hF0.out⟩)
  rw [if_pos cc, if_pos cc]
  rw [hlen] at cc
  have s0 := h0.1.1.1
  have sh : ∀ {μ1 : Hp}, bFr m X μ0 μ1 → mSh μ1 m X := fun hF => s0.of hF.1.2.2.1 hF.1.2.1
  refine ⟨s0.1, xCall_of (m_bringsB (d := d - 1) s0 h0.2.2.2.2.2.1 (by omega)) (by omega) ?_⟩
  rintro r μ1 ⟨rfl, F1, p1⟩
  have s1 := sh F1
  have q1 := apT_1 (S.len, S.tp) (bysN a 4)
  generalize hP1 : apT (S.len, S.tp) (bysN a 4) = P1 at p1 q1
  have q1' : P1.1 = S.len + (bysN a 4).length := q1
  refine ⟨rfl, s1.1, xCall_of (m_bringsB (d := d - 1) s1 p1 (by omega)) (by omega) ?_⟩
  rintro r μ2 ⟨rfl, F2, p2⟩
  have F2' := F1.tt F2
  have s2 := sh F2'
  have q2 := apT_1 (P1.1, P1.2) (bysN b 4)
  generalize hP2 : apT (P1.1, P1.2) (bysN b 4) = P2 at p2 q2
  have q2' : P2.1 = P1.1 + (bysN b 4).length := q2
  refine ⟨rfl, s2.1, xCall_of (m_bringsB (d := d - 1) s2 p2 (by omega)) (by omega) ?_⟩
  rintro r μ3 ⟨rfl, F3, p3⟩
  have F3' := F2'.tt F3
  have s3 := sh F3'
  have q3 := apT_1 (P2.1, P2.2) (bysN c 4)
  generalize hP3 : apT (P2.1, P2.2) (bysN c 4) = P3 at p3 q3
  have q3' : P3.1 = P2.1 + (bysN c 4).length := q3
  refine ⟨rfl, s3.1, xCall_of (m_bringsB (d := d - 1) s3 p3 (by omega)) (by omega) ?_⟩
  rintro r μ4 ⟨rfl, F4, p4⟩
  have F4' := F3'.tt F4
  have s4 := sh F4'
  have q4 := apT_1 (P3.1, P3.2) (bysN e 4)
  generalize hP4 : apT (P3.1, P3.2) (bysN e 4) = P4 at p4 q4
  have q4' : P4.1 = P3.1 + (bysN e 4).length := q4
  refine ⟨rfl, s4.1, xCall_of (m_bringsB (d := d - 1) s4 p4 (by omega)) (by omega) ?_⟩
  rintro r μ5 ⟨rfl, F5, p5⟩
  have F5' := F4'.tt F5
  have s5 := sh F5'
  have q5 := apT_1 (P4.1, P4.2) (bysN f 4)
  generalize hP5 : apT (P4.1, P4.2) (bysN f 4) = P5 at p5 q5
  have q5' : P5.1 = P4.1 + (bysN f 4).length := q5
  have eP : apT (S.len, S.tp) (fedB a b c e f) = P5 := by
    unfold fedB
    rw [apT_app, apT_app, apT_app, apT_app, hP1, show P1 = (P1.1, P1.2) from rfl, hP2, show P2 = (P2.1, P2.2) from rfl, hP3, show P3 = (P3.1, P3.2) from rfl, hP4, show P4 = (P4.1, P4.2) from rfl, hP5]
  refine ⟨rfl, s5.1, ?_, ?_, (hF0.out).tt F5'.out⟩
  · rw [p5.1, hlen]
    congr 3
    omega
  · rw [eP]; exact h0.tp F5' p5
end feed2
