/-! treaties, lines and books, read by the model -/
section mrt
variable {d : Nat} {ro : Nat → Nat} {μ : Hp} {m : Nat} {X : Nat → Nat} {t : Nat → Int32} {len : Nat} {c : Cu} {P : Pb}
theorem bnd_9 : ∀ j, j < 8 → bnd j ≤ 9999 := by decide
theorem c_mostB {j : Nat} (h1 : 1 ≤ j) (h8 : j < 8) : xC d yX12_mostOf cX12_mostOf 1 (some .int) 0 0 [.int (nI (j + 2))] μ ro (fun r μ' => r = some (.int (nI (bnd j))) ∧ μ' = μ) := by
  refine I_X12_mostOf (fun J g hr => B_X12_mostOf_0 g hr ?_)
  have no : ∀ k, j + 2 ≠ k → k < 20 → nI (j + 2) = nI k → False := fun k hk hk2 e => hk ((nI_eq (by omega) (by omega)).mp e)
  refine ⟨fun q => ?_, fun q => ?_, fun q => ?_, fun q => ?_, fun q => ?_, fun q => ?_, fun q => ?_, fun q => ?_⟩
  · rw [nI_toInt (by omega)] at q; omega
  · have : j = 1 := by
      by_cases e : j = 1
      · exact e
      · exact (no 3 (by omega) (by omega) q).elim
    subst this; exact ⟨rfl, rfl⟩
  · have : j = 2 := by
      by_cases e : j = 2
      · exact e
      · exact (no 4 (by omega) (by omega) q).elim
    subst this; exact ⟨rfl, rfl⟩
  · have : j = 3 := by
      by_cases e : j = 3
      · exact e
      · exact (no 5 (by omega) (by omega) q).elim
    subst this; exact ⟨rfl, rfl⟩
  · have : j = 4 := by
      by_cases e : j = 4
      · exact e
      · exact (no 6 (by omega) (by omega) q).elim
    subst this; exact ⟨rfl, rfl⟩
  · have : j = 5 := by
      by_cases e : j = 5
      · exact e
      · exact (no 7 (by omega) (by omega) q).elim
    subst this; exact ⟨rfl, rfl⟩
  · have : j = 6 := by
      by_cases e : j = 6
      · exact e
      · exact (no 8 (by omega) (by omega) q).elim
    subst this; exact ⟨rfl, rfl⟩
  · have : j = 7 := by
      by_cases e : j = 7
      · exact e
      · exact (no 9 (by omega) (by omega) q).elim
    subst this; exact ⟨rfl, rfl⟩
theorem c_mTrty {n e : Nat} (hd : 9 ≤ d) (hne : n = 8 ∧ e = 0 ∨ n = 1 ∧ e = 1) (hs : mSh μ m X) (hi : mInj X) (h : mCu μ m X t len c) (hP : mPB μ m X P) (hp : pOk P) (hl : P.tr.length < 12) : xC d yX12_readTreaty cX12_readTreaty 4 none 0 0 [.ref m, .int (nI e)] μ ro (fun r μ' => r = none ∧ mlZ m X t len μ (rTrty t len P n e c) μ') := by
  have h6 := hp.1.1
  refine I_X12_readTreaty (fun J g hr => B_X12_readTreaty_0 g hr hs.1 (hs.r 11 0 132) (xCall_of (c_aLand (d := d - 1) (by omega) hs h hP hp) (by omega) ?_))
  rintro r μ1 ⟨a, rfl, ha, m1, W1, v1⟩
  have s1 := W1.sh hs
  have P1 := hP.fr hs W1
  unfold rTrty at hr
  rw [if_neg (by omega)] at hr
  refine ⟨_, rfl, 132, s1.s 11 0 132, ?_⟩
  rw [hP.1.2.2.1, show (11 : Int32) * nI P.tr.length = nI (11 * P.tr.length) from pk_mul 11 _, nI_1, show nI (11 * P.tr.length) + 2 = nI (11 * P.tr.length + 2) from nI_add _ 2, nI_clamp (by omega), nI_clamp (by omega), nI_clamp (by omega)]
  have s2 : mSh (wI μ1 (X 11) (11 * P.tr.length) (nI a)) m X := s1
  have P2 : mPB (wI μ1 (X 11) (11 * P.tr.length) (nI a)) m X P := P1.w11 s1 hi (by omega)
  refine ⟨vp_in_nI (by omega) (by omega), s1.1, X 11, s1.r 11 0 132, xCall_of (c_aLand (d := d - 1) (by omega) s2 (m1.x s1 hi 11 _ _) P2 hp) (by omega) ?_⟩
  rintro r μ3 ⟨b, rfl, hb, m3, W3, v3⟩
  have s3 := W3.sh s2
  have P3 := P2.fr s2 W3
  refine ⟨_, rfl, 132, s3.s 11 0 132, vp_in_nI (by omega) (by omega), s3.1, fun v12 e12 => ?_⟩
  have s4 : mSh (wI μ3 (X 11) (11 * P.tr.length + 1) (nI b)) m X := s3
  have P4 : mPB (wI μ3 (X 11) (11 * P.tr.length + 1) (nI b)) m X P := P3.w11 s3 hi (by omega)
  have D4 : bkFr m X μ (wI μ3 (X 11) (11 * P.tr.length + 1) (nI b)) := (((W1.b.w2 s1 11 _ _).tt W3.b).w2 s3 11 _ _)
  have m4 := m3.x s3 hi 11 (11 * P.tr.length + 1) (nI b)
  have f4 : hI (wI μ3 (X 11) (11 * P.tr.length + 1) (nI b)) (X 11) (11 * P.tr.length) = nI a ∧ hI (wI μ3 (X 11) (11 * P.tr.length + 1) (nI b)) (X 11) (11 * P.tr.length + 1) = nI b := by
    rw [hI_wI_s]
    exact ⟨by rw [upd_n _ (by omega), (W3.2.1 _ (s2.ne 11)).1, hI_wI_s, upd_s], upd_s _ _ _⟩
  have o5 : hI (wI μ3 (X 11) (11 * P.tr.length + 1) (nI b)) m 5 = hI μ3 m 5 := by rw [hI_wI_n _ _ _ (Ne.symm (s3.ne 11))]
  -- the cursor behind both
  obtain ⟨u1, u2⟩ := tdN_un (t := t) (len := len) (c := (tdN t len P.lnm none c).2) (ns := P.lnm) (un := (tdN t len P.lnm none c).1)
  have e1 : (rTr2 t len P c).1 = (tdN t len P.lnm none c).1 := rfl
  have e2 : (rTr2 t len P c).2.1 = (tdN t len P.lnm none (tdN t len P.lnm none c).2).1 := u1
  have e3 : (rTr2 t len P c).2.2 = if (tdN t len P.lnm none (tdN t len P.lnm none c).2).2.1 = none ∧ (tdN t len P.lnm none (tdN t len P.lnm none c).2).1 = (tdN t len P.lnm none c).1 then flC (tdN t len P.lnm none (tdN t len P.lnm none c).2).2 (tdN t len P.lnm none (tdN t len P.lnm none c).2).2.2.1 else (tdN t len P.lnm none (tdN t len P.lnm none c).2).2 := u2
  generalize hC2 : (tdN t len P.lnm none (tdN t len P.lnm none c).2) = C2 at m3 v3 e2 e3 m4
  have fa : C2.2.1 = none → (rTr2 t len P c).1 = some a ∧ (rTr2 t len P c).2.1 = some b ∧ hI μ3 m 5 = nI C2.2.2.1 := fun z => by
    have z1 : (tdN t len P.lnm none c).2.1 = none := by rw [← hC2] at z; exact (tdN_n z).1
    exact ⟨by rw [e1]; exact (v1 z1).1, by rw [e2]; exact (v3 z).1, (v3 z).2⟩
  have e5 : C2.2.1 = none → (rTr2 t len P c).2.2 = if a = b then flC C2.2 C2.2.2.1 else C2.2 := fun z => by
    obtain ⟨f1, f2, -⟩ := fa z
    rw [e3, ← e2, ← e1, f1, f2]
    by_cases w : a = b
    · rw [if_pos ⟨z, by rw [w]⟩, if_pos w]
    · rw [if_neg (fun y => w (by have := y.2; cases this; rfl)), if_neg w]
  have e6 : ¬ C2.2.1 = none → (rTr2 t len P c).2.2 = C2.2 := fun z => by rw [e3, if_neg (fun y => z y.1)]
  generalize wI μ3 (X 11) (11 * P.tr.length + 1) (nI b) = μ4 at e12 s4 P4 D4 m4 f4 o5 ⊢
  -- the loop over the numbers behind the first
  have key := loopUp (Q := fun k => 1 ≤ k → ∀ μ' : Hp, bkFr m X μ μ' → mCu μ' m X t len (rNum t len bnd (min k n) (rTr2 t len P c).2.2).2 → mPB μ' m X P → (hI μ' (X 11) (11 * P.tr.length) = nI a ∧ hI μ' (X 11) (11 * P.tr.length + 1) = nI b) → (∀ j, j < k → hI μ' (X 11) (11 * P.tr.length + (j + 2)) = nI ((rNum t len bnd n (rTr2 t len P c).2.2).1 j)) → J μ' 0 0 80 [(0, .ref m), (1, .int (nI e)), (2, .int (nI (11 * P.tr.length))), (3, .int (nI (k + 2)))] []) 8 ?_ (fun k hk ih => ?_) 1 (by omega) (by omega)
  rotate_left
  · intro _ μ' D' m' P' x' v'
    have s' := D'.sh hs
    rw [show min 8 n = n by omega] at m'
    refine B_X12_readTreaty_80 g hr s'.1 (s'.r 11 0 132) (s'.s 11 0 132) (pk_le 10 10 (fun _ => ?_) (fun q => by omega))
    rw [show nI (11 * P.tr.length) + 10 = nI (11 * P.tr.length + 10) from nI_add _ 10, nI_clamp (by omega)]
    have fin : ∀ v4, v4 = hI (wI μ' (X 11) (11 * P.tr.length + 10) (nI e)) m 23 + 1 → (none : Option Value) = none ∧ mlZ m X t len μ (P.addT (trE (rNum t len bnd n (rTr2 t len P c).2.2).1 ((rTr2 t len P c).1.getD 0) ((rTr2 t len P c).2.1.getD 0) e), (rNum t len bnd n (rTr2 t len P c).2.2).2) (wI (wI μ' (X 11) (11 * P.tr.length + 10) (nI e)) m 23 v4) := by
      intro v4 e4
      rw [hI_wI_n _ _ _ (Ne.symm (s'.ne 11)), P'.1.2.2.1, nI_1] at e4
      subst e4
      refine ⟨rfl, (D'.w2 s' 11 _ _).tt (bkFr.g 23 _), mCu.g (μ := wI μ' (X 11) (11 * P.tr.length + 10) (nI e)) (m'.x s' hi 11 _ _) s' 23 _, fun q => ?_⟩
      have hC : C2.2.1 = none := by
        by_cases z : C2.2.1 = none
        · exact z
        · have := rNum_n q
          rw [e6 z] at this; exact absurd this z
      obtain ⟨g1, g2, -⟩ := fa hC
      rw [g1, g2]
      obtain ⟨a1, a2, a3, a4, a5⟩ := P'
      refine ⟨⟨?_, ?_, ?_, ?_, ?_⟩, fun i x hx => ?_, fun i x hx => ?_, ?_, fun i x hx j hj => ?_⟩
      · rw [hI_wI_s, upd_n _ (by decide), hI_wI_n _ _ _ (Ne.symm (s'.ne 11))]; exact a1.1
      · rw [hI_wI_s, upd_n _ (by decide), hI_wI_n _ _ _ (Ne.symm (s'.ne 11))]; exact a1.2.1
      · rw [hI_wI_s, upd_s]
        show nI (P.tr.length + 1) = nI (P.tr ++ [_]).length
        rw [List.length_append, List.length_singleton]
      · rw [hI_wI_s, upd_n _ (by decide), hI_wI_n _ _ _ (Ne.symm (s'.ne 11))]; exact a1.2.2.2.1
      · rw [hI_wI_s, upd_n _ (by decide), hI_wI_n _ _ _ (Ne.symm (s'.ne 11))]; exact a1.2.2.2.2
      · rw [hI_wI_n _ _ _ (s'.ne 7), hI_wI_n _ _ _ (hi.ne 7 11)]; exact a2 i x hx
      · rw [hI_wI_n _ _ _ (s'.ne 9), hI_wI_n _ _ _ (hi.ne 9 11)]; exact a3 i x hx
      · rw [hI_wI_n _ _ _ (s'.ne 13), hI_wI_n _ _ _ (hi.ne 13 11)]; exact a4
      · rw [hI_wI_n _ _ _ (s'.ne 11), hI_wI_s]
        rcases get_snoc hx with ⟨x1, x2⟩ | ⟨rfl, rfl⟩
        · have := tmI_lt hj
          rw [upd_n _ (by omega)]; exact a5 i x x1 j hj
        · rcases Nat.lt_or_ge j 8 with q8 | q8
          · unfold trE tmI
            rw [if_pos q8, if_pos q8, upd_n _ (by omega)]; exact v' j q8
          · have : j = 8 ∨ j = 9 ∨ j = 10 := by omega
            rcases this with rfl | rfl | rfl
            · show upd (hI μ' (X 11)) (11 * P.tr.length + 10) (nI e) (11 * P.tr.length + 0) = nI a
              rw [upd_n _ (by omega)]; exact x'.1
            · show upd (hI μ' (X 11)) (11 * P.tr.length + 10) (nI e) (11 * P.tr.length + 1) = nI b
              rw [upd_n _ (by omega)]; exact x'.2
            · show upd (hI μ' (X 11)) (11 * P.tr.length + 10) (nI e) (11 * P.tr.length + 10) = nI e
              rw [upd_s]
    refine ⟨fun q => ⟨vp_in_nI (by omega) (by omega), fun v4 e4 => ?_⟩, fun q => ⟨vp_in_nI (by omega) (by omega), fun v4 e4 => ?_⟩⟩
    · have e0 : e = 0 := (nI_eq (b := 0) (by omega) (by omega)).mp q
      have := fin v4 (by rw [e4, e0]; rfl)
      rw [e0] at this ⊢
      exact this
    · have e0 : e = 1 := by
        rcases hne with ⟨_, z⟩ | ⟨_, z⟩
        · exact absurd (by rw [z]; rfl) q
        · exact z
      have := fin v4 (by rw [e4, e0]; rfl)
      rw [e0] at this ⊢
      exact this
  · intro h1 μ' D' m' P' x' v'
    have s' := D'.sh hs
    refine B_X12_readTreaty_80 g hr s'.1 (s'.r 11 0 132) (s'.s 11 0 132) (pk_le 10 (k + 2) (fun q => by omega) (fun _ => ?_))
    rw [nI_add, nI_clamp (by omega), nI_1]
    refine ⟨fun q => ?_, fun q => ⟨vp_in_nI (by omega) (by omega), ?_⟩⟩
    · have e0 : e = 0 := (nI_eq (b := 0) (by omega) (by omega)).mp q
      have hn : n = 8 := by omega
      refine xCall_of (c_mostB (d := d - 1) h1 hk) (by omega) ?_
      rintro r μ' ⟨rfl, rfl⟩
      rw [show min k n = k by omega] at m'
      refine ⟨_, rfl, s'.1, k_mn (lo := 0) (hi := bnd k) (by omega) s' m' (by omega) (bnd_9 k hk) (fun μ2 m2 W2 _ => ⟨_, rfl, 132, (W2.sh s').s 11 0 132, vp_in_nI (by omega) (by omega), ?_⟩)⟩
      have s2 := W2.sh s'
      have o2 : hI μ2 (X 11) = hI μ' (X 11) := (W2.2.1 _ (s'.ne 11)).1
      refine ih (by omega) _ ((D'.tt W2.b).w2 s2 11 _ _) ?_ ((P'.fr s' W2).w11 s2 hi (by omega)) ⟨?_, ?_⟩ (fun j hj => ?_)
      · rw [show min (k + 1) n = k + 1 by omega]; exact m2.x s2 hi 11 _ _
      · rw [hI_wI_s, upd_n _ (by omega), o2]; exact x'.1
      · rw [hI_wI_s, upd_n _ (by omega), o2]; exact x'.2
      · rw [hI_wI_s]
        by_cases ej : j = k
        · subst ej
          rw [upd_s, rNum_j n (by omega)]
        · rw [upd_n _ (by omega), o2]; exact v' j (by omega)
    · have hn : n = 1 := by
        rcases hne with ⟨_, z⟩ | ⟨z, _⟩
        · exact absurd (by rw [z]; rfl) q
        · exact z
      refine ih (by omega) _ (D'.w2 s' 11 _ _) ?_ (P'.w11 s' hi (by omega)) ⟨?_, ?_⟩ (fun j hj => ?_)
      · rw [show min (k + 1) n = min k n by omega]; exact m'.x s' hi 11 _ _
      · rw [hI_wI_s, upd_n _ (by omega)]; exact x'.1
      · rw [hI_wI_s, upd_n _ (by omega)]; exact x'.2
      · rw [hI_wI_s]
        by_cases ej : j = k
        · subst ej
          rw [upd_s, rNum_z n (by omega)]; rfl
        · rw [upd_n _ (by omega)]; exact v' j (by omega)
  -- the first number
  have first : ∀ μ6, mSh μ6 m X → bkFr m X μ μ6 → mCu μ6 m X t len (rTr2 t len P c).2.2 → mPB μ6 m X P → (hI μ6 (X 11) (11 * P.tr.length) = nI a ∧ hI μ6 (X 11) (11 * P.tr.length + 1) = nI b) → xCall d yX12_number cX12_number 5 (some .int) [.ref m, .int 0, .int 99] μ6 ro (fun r15 μ16 => ∃ y17 : Int32, r15 = some (.int y17) ∧ ∃ N18 : Nat, hS μ16 (X 11) = some (0, N18) ∧ vp_in (nI (11 * P.tr.length + 2)) N18 ∧ J (wI μ16 (X 11) (11 * P.tr.length + 2) y17) 0 0 80 [(0, .ref m), (1, .int (nI e)), (2, .int (nI (11 * P.tr.length))), (3, .int 3)] []) := by
    intro μ6 s6 D6 m6 P6 f6
    refine k_mn (lo := 0) (hi := 99) (by omega) s6 m6 (by omega) (by omega) (fun μ7 m7 W7 _ => ⟨_, rfl, 132, (W7.sh s6).s 11 0 132, vp_in_nI (by omega) (by omega), ?_⟩)
    have s7 := W7.sh s6
    have o7 : hI μ7 (X 11) = hI μ6 (X 11) := (W7.2.1 _ (s6.ne 11)).1
    refine key _ ((D6.tt W7.b).w2 s7 11 _ _) ?_ ((P6.fr s6 W7).w11 s7 hi (by omega)) ⟨?_, ?_⟩ (fun j hj => ?_)
    · rw [show min 1 n = 1 by omega]; exact m7.x s7 hi 11 _ _
    · rw [hI_wI_s, upd_n _ (by omega), o7]; exact f6.1
    · rw [hI_wI_s, upd_n _ (by omega), o7]; exact f6.2
    · have : j = 0 := by omega
      subst this
      rw [hI_wI_s, upd_s, rNum_j n (by omega)]
      rfl
  rw [e12, m4.f4]
  refine ⟨fun q => ⟨X 11, s3.r 11 0 132, first μ4 s4 D4 (by rw [e6 q]; exact m4) P4 f4⟩, fun q => ⟨X 11, s3.r 11 0 132, 132, s3.s 11 0 132, vp_in_nI (by omega) (by omega), fun v23 e23 => ⟨vp_in_nI (by omega) (by omega), fun v25 e25 => ?_⟩⟩⟩
  rw [f4.1] at e23
  rw [f4.2] at e25
  subst e23 e25
  refine pk_ne a b (fun w => first μ4 s4 D4 (by rw [e5 q, if_neg w]; exact m4) P4 f4) (fun w v32 e32 => ?_)
  rw [o5, (fa q).2.2] at e32
  subst e32
  refine k_mf (by omega) s4 m4 m4.2.2.1.1 (fun μ5 m5 W5 _ _ => ⟨rfl, (W5.sh s4).1, X 11, (W5.sh s4).r 11 0 132, first μ5 (W5.sh s4) (D4.tt W5.b) (by rw [e5 q, if_pos w]; exact m5) (P4.fr s4 W5) ⟨?_, ?_⟩⟩)
  · rw [(W5.2.1 _ (s4.ne 11)).1]; exact f4.1
  · rw [(W5.2.1 _ (s4.ne 11)).1]; exact f4.2
end mrt
