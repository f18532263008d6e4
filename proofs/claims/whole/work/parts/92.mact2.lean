/-! the model tries, acts, takes back -/
section mact2
variable {d : Nat} {ro : Nat → Nat} {μ : Hp} {m : Nat} {X : Nat → Nat} {S : St}
theorem msFr.q {μ' : Hp} (h : msFr 30 m X μ μ') : mqFr m X μ μ' := by
  refine ⟨⟨h.1.1.1, h.1.1.2.1, h.1.1.2.2.1, fun a ha => ?_⟩, h.1.2⟩
  by_cases e : a = X 30
  · rw [e]; exact h.2
  · refine h.1.1.2.2.2 a (fun q => ha ?_)
    simp only [List.mem_cons, List.not_mem_nil, or_false] at q ⊢
    rcases q with q | q | q | q | q | q | q | q | q | q
    · exact Or.inl q
    · exact Or.inr (Or.inl q)
    · exact Or.inr (Or.inr (Or.inl q))
    · exact Or.inr (Or.inr (Or.inr (Or.inl q)))
    · exact Or.inr (Or.inr (Or.inr (Or.inr (Or.inl q))))
    · exact Or.inr (Or.inr (Or.inr (Or.inr (Or.inr (Or.inl q)))))
    · exact Or.inr (Or.inr (Or.inr (Or.inr (Or.inr (Or.inr (Or.inl q))))))
    · exact Or.inr (Or.inr (Or.inr (Or.inr (Or.inr (Or.inr (Or.inr (Or.inl q)))))))
    · exact Or.inr (Or.inr (Or.inr (Or.inr (Or.inr (Or.inr (Or.inr (Or.inr (Or.inl q))))))))
    · exact absurd q e
theorem mQ.gen {μ' : Hp} {B : Bk} {f f' : Nat → Int32} (h : mQ μ m X B f) (h1 : hS μ' = hS μ ∧ hR μ' = hR μ) (h2 : ∀ k, k = 20 ∨ k = 22 ∨ k = 24 ∨ k = 38 ∨ k = 39 ∨ k = 40 → hI μ' m k = hI μ m k) (h3 : ∀ i, i = 8 ∨ i = 10 ∨ i = 12 → hI μ' (X i) = hI μ (X i)) (h4 : nrw (hI μ' (X 30)) f') (h5 : B.row f') : mQ μ' m X B f' := by
  obtain ⟨⟨a1, a2⟩, a3, a4, a5, a6, a7⟩ := h
  refine ⟨⟨a1.of h1.1 h1.2, a2⟩, a3.fr ⟨h2 20 (by decide), h2 22 (by decide), h2 24 (by decide)⟩ (h3 8 (by decide)) (h3 10 (by decide)) (h3 12 (by decide)), h4, ?_, a6, h5⟩
  rw [h2 38 (by decide), h2 39 (by decide), h2 40 (by decide)]; exact a5
theorem mHs.fr {μ' : Hp} {H : List (Nat → Int32)} {L : List Tri} (h : mHs μ m X H L) (h1 : hI μ' m 34 = hI μ m 34 ∧ hI μ' m 35 = hI μ m 35) (h2 : hI μ' (X 33) = hI μ (X 33)) : mHs μ' m X H L := by
  unfold mHs at h ⊢
  rw [h1.1, h1.2, h2]; exact h
theorem m_tries {act x y z e : Int32} (hd : 17 ≤ d) (h : mR μ m X S) (hok : sOk S) : xC d yX12_tries cX12_tries 7 (some .int) 0 0 [.ref m, .int act, .int x, .int y, .int z, .int e] μ ro (fun r μ' => r = some (.int (rsn S.B S.f act x y z e)) ∧ mR μ' m X (S.tryA act x y z e) ∧ mOut m X μ μ' ∧ (rsn S.B S.f act x y z e = -1 → hI μ' m 59 = doN S.B S.f act x y z e) ∧ hL μ' = hL μ) := by
  have hs := h.1.1.1
  have hi := h.1.1.2
  refine I_X12_tries (fun J g hr => B_X12_tries_0 g hr hs.1 (hs.r 30 0 293) (xCall_of (m_stops (d := d - 1) (by omega) h.1.at) (by omega) ?_))
  rintro r μ1 ⟨hF1, rfl⟩
  have h1 := h.fr hF1.q
  unfold St.tryA
  by_cases hrs : rsn S.B S.f act x y z e = -1
  · rw [if_pos hrs]
    refine ⟨_, rfl, fun _ => ⟨h1.1.1.1.1, xCall_of (m_remember (d := d - 1) (by omega) h1 hok (act, doN S.B S.f act x y z e, fmO act x z)) (by omega) ?_⟩, fun c => absurd hrs c⟩
    rintro r μ2 ⟨rfl, k1, k2, ⟨k3, k3'⟩, k4, k5⟩
    have hq2 : mQ μ2 m X S.B S.f := h1.1.gen ⟨k2.2.1, k2.1⟩ (fun k hk => k5 k (by omega)) (fun i hi' => k4 i (by rcases hi' with rfl | rfl | rfl <;> decide) (by omega)) (by rw [k3]; exact h1.1.2.2.1) h1.1.2.2.2.2.2
    have hs2 := hq2.1.1
    refine ⟨rfl, hs2.1, _, hs2.r 30 0 293, xCall_of (m_does (d := d - 1) (by omega) hq2.at hrs) (by omega) ?_⟩
    rintro r μ3 ⟨rfl, ⟨p1, p2, p3, p4⟩, p5, p6⟩
    obtain ⟨d1, d2⟩ := doR_ok hok.1 hok.2.1.1 hok.2.1.2 hrs
    have n16 := d1.1.2.1
    have hs3 : mSh μ3 m X := hs2.of p1.1.2.2.1 p1.1.2.1
    have hlog3 : logM (hI μ3 (X 30)) S.L := logM_congr h1.2.1 (fun j hj _ => by rw [p3 j hj, k3])
    refine ⟨rfl, hs3.1, xCall_of (m_notes (d := d - 1) (n := min S.L.length 60) hs3 hlog3.1 (by omega)) (by omega) ?_⟩
    rintro r μ4 ⟨rfl, e4⟩
    rw [p5, p6] at e4
    have hwm : X 30 ≠ m := hs.ne 30
    have o4 : ∀ i, i ∈ mK → i ≠ 30 → hI μ4 (X i) = hI μ3 (X i) := fun i hik hn => by rw [e4, hI_wRow_n _ _ (fun q => hn (hi i 30 hik (by decide) q))]
    have m4 : ∀ k, hI μ4 m k = hI μ3 m k := fun k => by rw [e4, hI_wRow_n _ _ (Ne.symm hwm)]
    have o3 : ∀ i, i ∈ mK → i ∉ [43, 44, 45, 46, 47, 48, 49, 55] → i ≠ 30 → hI μ3 (X i) = hI μ2 (X i) := fun i hik hn h30 => p1.o hs2 hi (by decide) i ⟨hik, hn⟩ h30
    have oo : ∀ i, i ∈ mK → i ∉ [43, 44, 45, 46, 47, 48, 49, 55] → i ≠ 30 → i ≠ 33 → hI μ4 (X i) = hI μ1 (X i) := fun i hik hn h30 h33 => by rw [o4 i hik h30, o3 i hik hn h30, k4 i hik h33]
    have mm : ∀ k, k ≠ 0 ∧ k ≠ 37 ∧ k ≠ 64 ∧ (k < 41 ∨ 61 < k) ∧ k ≠ 34 ∧ k ≠ 35 → hI μ4 m k = hI μ1 m k := fun k hk => by rw [m4, p1.2 k (by omega), k5 k (by omega)]
    have hS4 : hS μ4 = hS μ1 := by rw [e4, hS_wRow, (p1.1.2.2.1 : hS μ3 = hS μ2)]; exact k2.2.1
    have hR4 : hR μ4 = hR μ1 := by rw [e4, hR_wRow, (p1.1.2.1 : hR μ3 = hR μ2)]; exact k2.1
    have hL4 : hL μ4 = hL μ1 := by rw [e4, hL_wRow, (p1.1.1 : hL μ3 = hL μ2)]; exact k3'
    have r30 : hI μ4 (X 30) = noF (hI μ3 (X 30)) (min S.L.length 60) (act, doN S.B S.f act x y z e, fmO act x z) := by rw [e4, hI_wRow_s]
    have hq4 : mQ μ4 m X S.B (doR S.B S.f act x y z e) := h1.1.gen ⟨hS4, hR4⟩ (fun k hk => mm k (by omega)) (fun i hi' => oo i (by rcases hi' with rfl | rfl | rfl <;> decide) (by rcases hi' with rfl | rfl | rfl <;> decide) (by omega) (by omega)) (by rw [r30]; exact nrw_congr p2 n16 (fun j hj => noF_lo hj)) d1
    have hL1 : hL μ1 = hL μ := hF1.1.1.1
    refine ⟨rfl, hrs ▸ rfl, ⟨hq4, ?_, ?_, ?_⟩, (hF1.q.out).tt (k2.tt (p1.out.tt (by rw [e4]; exact mOut.rf.w 30 _))), fun _ => by rw [m4]; exact p4, hL4.trans hL1⟩
    · rw [r30]; exact hlog3.no
    · refine k1.fr ⟨by rw [m4, p1.2 34 (by decide)], by rw [m4, p1.2 35 (by decide)]⟩ (by rw [o4 33 (by decide) (by decide), o3 33 (by decide) (by decide) (by decide)])
    · refine h1.2.2.2.fr ⟨by rw [hL4], by rw [hL4]⟩ (fun k hk => mm k (by omega)) (fun i hi' => ?_)
      have q1 : ∀ i, i ∈ [1, 14, 28, 29, 32] → i ∈ mK ∧ i ∉ [43, 44, 45, 46, 47, 48, 49, 55] ∧ i ≠ 30 ∧ i ≠ 33 := by decide
      exact oo i (q1 i hi').1 (q1 i hi').2.1 (q1 i hi').2.2.1 (q1 i hi').2.2.2
  · rw [if_neg hrs]
    exact ⟨_, rfl, fun c => absurd c hrs, fun _ => ⟨rfl, h1, hF1.q.out, fun c => absurd c hrs, hF1.1.1.1⟩⟩
theorem m_act {act x y z e : Int32} (hd : 18 ≤ d) (h : mR μ m X S) (hok : sOk S) : xC d yX12_act cX12_act 7 (some .int) 0 0 [.ref m, .int act, .int x, .int y, .int z, .int e] μ ro (fun r μ' => r = some (.int (aHand S act x y z e)) ∧ mR μ' m X (S.hand act x y z e) ∧ mOut m X μ μ') := by
  obtain ⟨hF0, -, -, -⟩ := h.1.th
  have h0 := h.fr hF0
  have hs := h.1.1.1
  have hi := h.1.1.2
  unfold aHand St.hand
  refine I_X12_act (fun J g hr => B_X12_act_0 g hr hs.1 (xCall_of (m_tries (d := d - 1) (by omega) h0 hok) (by omega) ?_))
  rintro r μ1 ⟨rfl, q1, q2, q3, -⟩
  have hout := (hF0.out).tt q2
  unfold St.tryA at q1
  by_cases hrs : rsn S.B S.f act x y z e = -1
  · rw [if_pos hrs] at q1 ⊢
    rw [if_pos hrs]
    exact ⟨_, rfl, fun c => absurd hrs c, fun _ => ⟨q1.1.1.1.1, by rw [q3 hrs], q1, hout⟩⟩
  · rw [if_neg hrs] at q1 ⊢
    rw [if_neg hrs]
    obtain ⟨k4, ek⟩ := rsn_ok.resolve_left hrs
    have hs1 := q1.1.1.1
    refine ⟨_, rfl, fun _ => ⟨hs1.1, _, hs1.r 14 0 4, _, hs1.s 14 0 4, by rw [ek]; exact vp_in_nI k4 (by omega), rfl, ?_, hout.x 14 _ _⟩, fun c => absurd c hrs⟩
    generalize hk : cl (rsn S.B S.f act x y z e) = k at k4 ek
    rw [show (rsn S.B S.f act x y z e).toNatClampNeg = k from hk]
    generalize hμ2 : wI μ1 (X 14) k (hI μ1 (X 14) k + 1) = μ2
    have o : ∀ i, i ∈ mK → i ≠ 14 → hI μ2 (X i) = hI μ1 (X i) := fun i hik hn => by rw [← hμ2, hI_wI_n _ _ _ (fun q => hn (hi i 14 hik (by decide) q))]
    have mm : ∀ k, hI μ2 m k = hI μ1 m k := fun k => by rw [← hμ2, hI_wI_n _ _ _ (Ne.symm (hs.ne 14))]
    have hL2 : hL μ2 = hL μ1 := by rw [← hμ2]; rfl
    obtain ⟨a1, a2, a3, a4⟩ := q1
    refine ⟨a1.gen ⟨by rw [← hμ2]; rfl, by rw [← hμ2]; rfl⟩ (fun k _ => mm k) (fun i hi' => o i (by rcases hi' with rfl | rfl | rfl <;> decide) (by omega)) (by rw [o 30 (by decide) (by decide)]; exact a1.2.2.1) a1.2.2.2.2.2, by rw [o 30 (by decide) (by decide)]; exact a2, a3.fr ⟨mm 34, mm 35⟩ (o 33 (by decide) (by decide)), ?_⟩
    obtain ⟨b1, b2, b3, b4, b5⟩ := a4
    refine ⟨?_, ?_, ?_, ?_, ?_⟩
    · unfold mNm; rw [hL2]; exact b1
    · unfold mIm; rw [mm, o 32 (by decide) (by decide)]; exact b2
    · unfold mTp; rw [mm, o 1 (by decide) (by decide)]; exact b3
    · unfold mSc; rw [mm, o 29 (by decide) (by decide), o 28 (by decide) (by decide)]; exact b4
    · intro i hi'
      show hI μ2 (X 14) i = upd S.rf k (S.rf k + 1) i
      rw [← hμ2, hI_wI_s]
      by_cases e : i = k
      · subst e; rw [upd_s, upd_s, b5 i hi']
      · rw [upd_n _ e, upd_n _ e]; exact b5 i hi'
theorem m_pay {s u t a : Int32} (hd : 19 ≤ d) (h : mR μ m X S) (hok : sOk S) : xC d yX12_pay cX12_pay 5 (some .int) 0 0 [.ref m, .int s, .int u, .int t, .int a] μ ro (fun r μ' => r = some (.int (aHand S 0 s u t a)) ∧ mR μ' m X (S.hand 0 s u t a) ∧ mOut m X μ μ') := by
  refine I_X12_pay (fun J g hz => B_X12_pay_0 g hz h.1.1.1.1 (xCall_of (m_act (d := d - 1) (by omega) h hok) (by omega) ?_))
  rintro r μ' ⟨rfl, h2⟩
  exact ⟨_, rfl, rfl, h2⟩
theorem m_pass {n : Int32} (hd : 19 ≤ d) (h : mR μ m X S) (hok : sOk S) : xC d yX12_pass cX12_pass 2 (some .int) 0 0 [.ref m, .int n] μ ro (fun r μ' => r = some (.int (aHand S 1 n 0 0 0)) ∧ mR μ' m X (S.hand 1 n 0 0 0) ∧ mOut m X μ μ') := by
  refine I_X12_pass (fun J g hz => B_X12_pass_0 g hz h.1.1.1.1 (xCall_of (m_act (d := d - 1) (by omega) h hok) (by omega) ?_))
  rintro r μ' ⟨rfl, h2⟩
  exact ⟨_, rfl, rfl, h2⟩
theorem m_staff {v n : Int32} (hd : 19 ≤ d) (h : mR μ m X S) (hok : sOk S) : xC d yX12_staff cX12_staff 3 (some .int) 0 0 [.ref m, .int v, .int n] μ ro (fun r μ' => r = some (.int (aHand S 2 v n 0 0)) ∧ mR μ' m X (S.hand 2 v n 0 0) ∧ mOut m X μ μ') := by
  refine I_X12_staff (fun J g hz => B_X12_staff_0 g hz h.1.1.1.1 (xCall_of (m_act (d := d - 1) (by omega) h hok) (by omega) ?_))
  rintro r μ' ⟨rfl, h2⟩
  exact ⟨_, rfl, rfl, h2⟩
theorem m_own {v o s : Int32} (hd : 19 ≤ d) (h : mR μ m X S) (hok : sOk S) : xC d yX12_own cX12_own 4 (some .int) 0 0 [.ref m, .int v, .int o, .int s] μ ro (fun r μ' => r = some (.int (aHand S 3 v o s 0)) ∧ mR μ' m X (S.hand 3 v o s 0) ∧ mOut m X μ μ') := by
  refine I_X12_own (fun J g hz => B_X12_own_0 g hz h.1.1.1.1 (xCall_of (m_act (d := d - 1) (by omega) h hok) (by omega) ?_))
  rintro r μ' ⟨rfl, h2⟩
  exact ⟨_, rfl, rfl, h2⟩
theorem m_lend {v o : Int32} (hd : 19 ≤ d) (h : mR μ m X S) (hok : sOk S) : xC d yX12_lend cX12_lend 3 (some .int) 0 0 [.ref m, .int v, .int o] μ ro (fun r μ' => r = some (.int (aHand S 4 v o 0 0)) ∧ mR μ' m X (S.hand 4 v o 0 0) ∧ mOut m X μ μ') := by
  refine I_X12_lend (fun J g hz => B_X12_lend_0 g hz h.1.1.1.1 (xCall_of (m_act (d := d - 1) (by omega) h hok) (by omega) ?_))
  rintro r μ' ⟨rfl, h2⟩
  exact ⟨_, rfl, rfl, h2⟩
end mact2
