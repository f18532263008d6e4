/-! the lines of a book, read by the class -/
section rdl
variable {d : Nat} {ro : Nat → Nat} {μ : Hp} {A : Nat → Nat} {t : Nat → Int32} {len : Nat} {c : Cu} {P : Pb}
/-- behind a line -/
def lnZ (A : Nat → Nat) (t : Nat → Int32) (len : Nat) (μ : Hp) (q : Pb × Cu) : Option Value → Hp → Prop := fun r μ' => r = none ∧ dFr A μ μ' ∧ rdR μ' A t len q.2 ∧ (q.2.1 = none → cPB μ' A q.1)
theorem rdR.w (h : rdR μ A t len c) (hj : cInj A) (i k : Nat) (x : Int32) (hi : i < 51 ∧ i ≠ 1 ∧ i ≠ 2 := by decide) : rdR (wI μ (A i) k x) A t len c := h.fr (hI_wI_n _ _ _ (fun e => hi.2.1 (hj 1 i (by decide) hi.1 e).symm)) (hI_wI_n _ _ _ (fun e => hi.2.2 (hj 2 i (by decide) hi.1 e).symm))
theorem c_rYear (hd : 3 ≤ d) (hs : cSh μ A) (hj : cInj A) (h : rdR μ A t len c) (hP : cPB μ A P) : xC d yX2_readYear cX2_readYear 3 none 0 0 [.ref (A 45), .ref (A 1), .ref (A 35)] μ ro (lnZ A t len μ (rYear t len P c)) := by
  refine I_X2_readYear (fun J g hr => B_X2_readYear_0 g hr (hs.s 45 6 9) (hs.s 35 12 4) (hs.r 35 0 36) (hs.s 1 10 5) ?_)
  unfold rYear
  have e8 := hP.1.2.2.2
  rw [e8]
  by_cases q : P.tl = true
  · rw [if_pos q, if_pos q]
    refine ⟨fun e => absurd e (by decide), fun _ => k_flS (by omega) hs hj h (fun μ1 r1 F1 => ⟨rfl, ?_⟩)⟩
    have s1 := hs.fr F1
    refine ⟨s1.s 45 6 9, s1.s 35 12 4, _, s1.r 35 0 36, s1.s 1 10 5, ?_⟩
    refine k_nn (lo := 0) (hi := 99) (by omega) (μ := wI μ1 (A 45) 8 1) s1 hj (r1.w hj 45 8 1) (by omega) (by omega) (fun μ2 r2 F2 => ⟨_, rfl, 112, ?_, lit_in 0 (by omega) (by omega), rfl, ?_, ?_, fun e => absurd e flC_n⟩)
    · rw [F2.2.2.1]; exact s1.s 36 0 112
    · exact ((Fr1_d F1 hj).tt (dFr.w hj 45 8 1 (by decide))).tt ((Fr1_d F2 hj).tt (dFr.w hj 36 0 _ (by decide)))
    · have r3 := r2.w hj 36 0 (nI (nxN t len 0 99 (flC c c.2.1)).1)
      rw [show (nxN t len 0 99 (flC c c.2.1)).2 = flC c c.2.1 by unfold nxN; rw [if_neg flC_n]] at r3
      exact r3
  · rw [if_neg q, if_neg q]
    refine ⟨fun _ => ?_, fun e => absurd rfl e⟩
    refine k_nn (lo := 0) (hi := 99) (by omega) (μ := wI μ (A 45) 8 1) hs hj (h.w hj 45 8 1) (by omega) (by omega) (fun μ2 r2 F2 => ⟨_, rfl, 112, ?_, lit_in 0 (by omega) (by omega), rfl, ?_, r2.w hj 36 0 _, fun e => ?_⟩)
    · rw [F2.2.2.1]; exact hs.s 36 0 112
    · exact (dFr.w hj 45 8 1 (by decide)).tt ((Fr1_d F2 hj).tt (dFr.w hj 36 0 _ (by decide)))
    · obtain ⟨a1, a2, a3, a4, a5, a6, a7⟩ := hP
      have o : ∀ i, i < 51 ∧ i ∉ [1] ∧ (∀ k ∈ [1], k < 51) → i ≠ 45 → hI μ2 (A i) = hI μ (A i) := fun i hi h45 => by
        rw [F2.o hj i hi, hI_wI_n _ _ _ (fun e => h45 (hj i 45 hi.1 (by decide) e))]
      have hL2 : hL μ2 = hL μ := F2.1
      refine ⟨?_, fun i x hx => ?_, fun i x hx => ?_, ⟨?_, fun i x hx => ?_⟩, fun i x hx j hj11 => ?_, ?_, fun j j1 j2 => ?_⟩
      · rw [hI_wI_n _ _ _ (hj.ne 45 36), F2.o hj 45, hI_wI_s]
        refine ⟨?_, ?_, ?_, ?_⟩
        · rw [upd_n _ (by decide)]; exact a1.1
        · rw [upd_n _ (by decide)]; exact a1.2.1
        · rw [upd_n _ (by decide)]; exact a1.2.2.1
        · rw [upd_s]; rfl
      · show hL μ2 (A 46) i = _ ∧ _
        rw [hL2, hI_wI_n _ _ _ (hj.ne 48 36), o 48 (by decide) (by decide)]; exact a2 i x hx
      · show hL μ2 (A 47) i = _ ∧ _
        rw [hL2, hI_wI_n _ _ _ (hj.ne 49 36), o 49 (by decide) (by decide), hI_wI_s, upd_n _ (by omega), o 36 (by decide) (by decide)]; exact a3 i x hx
      · rw [hI_wI_s, upd_n _ (by decide), o 36 (by decide) (by decide)]; exact a4.1
      · rw [hI_wI_s, upd_n _ (by omega), upd_n _ (by omega), upd_n _ (by omega), upd_n _ (by omega), upd_n _ (by omega), o 36 (by decide) (by decide)]; exact a4.2 i x hx
      · rw [hI_wI_n _ _ _ (hj.ne 50 36), o 50 (by decide) (by decide)]; exact a5 i x hx j hj11
      · rw [hI_wI_s, upd_s]; rfl
      · rw [hI_wI_s, upd_n _ (by omega), o 36 (by decide) (by decide)]; exact a7 j j1 j2
theorem c_rLand (hd : 4 ≤ d) (hs : cSh μ A) (hj : cInj A) (h : rdR μ A t len c) (hP : cPB μ A P) (hp : pOk P) : xC d yX2_readLand cX2_readLand 3 none 0 0 [.ref (A 45), .ref (A 1)] μ ro (lnZ A t len μ (rLand t len P c)) := by
  refine I_X2_readLand (fun J g hr => B_X2_readLand_0 g hr (hs.s 45 6 9) (hs.r 45 0 46) (hs.s 1 10 5) ?_)
  unfold rLand at hr ⊢
  rw [hP.1.1]
  have h6 := hp.1.1
  refine pk_lt P.ld.length 6 (fun hl => ?_) (fun hl => k_flS (by omega) hs hj h (fun μ1 r1 F1 => ?_)) (ha := by omega)
  rotate_left
  · rw [if_pos hl]
    exact ⟨rfl, rfl, Fr1_d F1 hj, r1, fun e => absurd e flC_n⟩
  rw [if_neg (by omega)] at hr
  refine k_nwN (by omega) hs hj h hP hp (fun μ1 r1 F1 => ⟨_, rfl, 6, ?_, vp_in_nI hl (by omega), ?_⟩)
  · rw [F1.2.2.1]; exact hs.s 46 2 6
  rw [nI_clamp (by omega)]
  generalize hQ : nwN t len P c = Q at hr r1 ⊢
  have P1 := hP.fr hj F1
  have key := loopUp (Q := fun i => ∀ μ' : Hp, dFr A μ μ' → rdR μ' A t len (rNum t len (fun _ => 1000) i Q.2).2 → cPB μ' A P → hL μ' (A 46) P.ld.length = lN (codC Q.1) → (∀ j, j < i → hI μ' (A 48) (6 * j + P.ld.length) = nI ((rNum t len (fun _ => 1000) 3 Q.2).1 j)) → J μ' 0 0 34 [(0, .ref (A 45)), (1, .ref (A 1)), (2, .int (nI i))] []) 3 ?_ (fun i hi ih => ?_) 0 (by omega)
  · refine key _ (((Fr1_d F1 hj)).tt (dFr.l 46 _ _ (by decide))) r1 (P1.l46 hj) (by rw [hL_wL_s, updL_s]) (fun j hj0 => by omega)
  · intro μ' D' r' P' n' v'
    have s' := D'.sh hs
    refine B_X2_readLand_34 g hr (s'.s 1 10 5) (s'.s 45 6 9) (s'.r 45 2 48) (pk_le 3 3 (fun _ => ?_) (fun q => by omega))
    rw [r'.f1]
    refine ⟨fun q => ⟨rfl, D', r', fun e => absurd e q⟩, fun q => ⟨rfl, D'.tt (dFr.w hj 45 5 _ (by decide)), r'.w hj 45 5 _, fun _ => ?_⟩⟩
    obtain ⟨a1, a2, a3, a4⟩ := P'
    refine ⟨?_, fun i x hx => ?_, fun i x hx => ?_, ?_⟩
    · rw [hI_wI_s]
      refine ⟨?_, ?_, ?_, ?_⟩
      · rw [upd_s, a1.1, nI_1]
        show nI (P.ld.length + 1) = nI (P.ld ++ [_]).length
        rw [List.length_append, List.length_singleton]
      · rw [upd_n _ (by decide)]; exact a1.2.1
      · rw [upd_n _ (by decide)]; exact a1.2.2.1
      · rw [upd_n _ (by decide)]; exact a1.2.2.2
    · rw [hI_wI_n _ _ _ (hj.ne 48 45)]
      rcases get_snoc hx with ⟨x1, -⟩ | ⟨rfl, rfl⟩
      · exact a2 i x x1
      · exact ⟨n', fun j hj3 => v' j hj3⟩
    · rw [hI_wI_n _ _ _ (hj.ne 49 45), hI_wI_n _ _ _ (hj.ne 36 45)]; exact a3 i x hx
    · rw [hI_wI_n _ _ _ (hj.ne 36 45), hI_wI_n _ _ _ (hj.ne 50 45)]; exact a4
  · intro μ' D' r' P' n' v'
    have s' := D'.sh hs
    refine B_X2_readLand_34 g hr (s'.s 1 10 5) (s'.s 45 6 9) (s'.r 45 2 48) (pk_le 3 i (fun q => by omega) (fun _ => ?_))
    refine k_nn (lo := 0) (hi := 1000) (by omega) s' hj r' (by omega) (by omega) (fun μ2 r2 F2 => ⟨_, rfl, 18, ?_, ?_⟩)
    · rw [F2.2.2.1]; exact s'.s 48 0 18
    rw [P'.1.1, show nI i * 6 = nI (i * 6) from pk_mul i 6, nI_add, nI_clamp (by omega), nI_1, show i * 6 + P.ld.length = 6 * i + P.ld.length by omega]
    refine ⟨vp_in_nI (by omega) (by omega), ih _ (D'.tt ((Fr1_d F2 hj).tt (dFr.w hj 48 _ _ ⟨by decide, by decide, Or.inl (by decide)⟩))) (r2.w hj 48 _ _) ((P'.fr hj F2).w48 hj hl) ?_ (fun j hji => ?_)⟩
    · show hL μ2 (A 46) _ = _
      rw [F2.1]; exact n'
    · rw [hI_wI_s]
      by_cases e : j = i
      · subst e
        rw [upd_s, rNum_j 3 hi]
      · rw [upd_n _ (by omega), F2.o hj 48]; exact v' j (by omega)
theorem c_rFirm (hd : 5 ≤ d) (hs : cSh μ A) (hj : cInj A) (h : rdR μ A t len c) (hP : cPB μ A P) (hp : pOk P) : xC d yX2_readFirm cX2_readFirm 3 none 0 0 [.ref (A 45), .ref (A 1), .ref (A 35)] μ ro (lnZ A t len μ (rFirm t len P c)) := by
  refine I_X2_readFirm (fun J g hr => B_X2_readFirm_0 g hr (hs.s 45 6 9) (hs.r 45 1 47) (hs.s 1 10 5) ?_)
  unfold rFirm at hr ⊢
  rw [hP.1.2.1]
  have h8 := hp.1.2.1
  refine pk_lt P.fm.length 8 (fun hl => ?_) (fun hl => k_flS (by omega) hs hj h (fun μ1 r1 F1 => ?_)) (ha := by omega)
  rotate_left
  · rw [if_pos hl]
    exact ⟨rfl, rfl, Fr1_d F1 hj, r1, fun e => absurd e flC_n⟩
  rw [if_neg (by omega)]
  refine k_nwN (by omega) hs hj h hP hp (fun μ1 r1 F1 => ⟨_, rfl, 8, ?_, vp_in_nI hl (by omega), ?_⟩)
  · rw [F1.2.2.1]; exact hs.s 47 2 8
  have s1 := hs.fr F1
  have P1 := hP.fr hj F1
  rw [nI_clamp (by omega)]
  have P2 : cPB (wL μ1 (A 47) P.fm.length (lN (codC (nwN t len P c).1))) A P := P1.l47 hj
  have s2 : cSh (wL μ1 (A 47) P.fm.length (lN (codC (nwN t len P c).1))) A := s1
  have D2 : dFr A μ (wL μ1 (A 47) P.fm.length (lN (codC (nwN t len P c).1))) := (Fr1_d F1 hj).tt (dFr.l 47 _ _ (by decide))
  have r2 : rdR (wL μ1 (A 47) P.fm.length (lN (codC (nwN t len P c).1))) A t len (nwN t len P c).2 := r1
  have n2 : hL (wL μ1 (A 47) P.fm.length (lN (codC (nwN t len P c).1))) (A 47) P.fm.length = lN (codC (nwN t len P c).1) := by rw [hL_wL_s, updL_s]
  refine ⟨s1.s 45 6 9, _, s1.r 45 3 49, _, s1.r 45 0 46, ?_⟩
  generalize wL μ1 (A 47) P.fm.length (lN (codC (nwN t len P c).1)) = μ2 at P2 s2 D2 r2 n2 ⊢
  rw [P2.1.2.1, nI_clamp (by omega)]
  refine k_td (un := none) (ns := P.lnm) (by omega) s2 hj r2 (s2.s 46 2 6) (by rw [lnm_len]; exact hp.1.1) (by omega) (by rw [lnm_len]; exact P2.1.1) (P2.names hp).1 (fun k hk => by cases hk) (fun μ3 r3 F3 => ⟨_, rfl, 8, ?_, vp_in_nI hl (by omega), ?_⟩)
  · rw [F3.2.2.1]; exact s2.s 49 0 8
  have s3 := s2.fr F3
  have P3 := (P2.fr hj F3).w49 (y := oI (tdN t len P.lnm none (nwN t len P c).2).1) hj
  have D3 := D2.tt ((Fr1_d F3 hj).tt (dFr.w hj 49 P.fm.length (oI (tdN t len P.lnm none (nwN t len P c).2).1) ⟨by decide, by decide, Or.inl (by decide)⟩))
  refine ⟨s3.s 35 12 4, _, s3.r 35 0 36, s3.s 45 6 9, fun v15 e15 => ⟨s3.s 1 10 5, ?_⟩⟩
  rw [P3.1.2.1] at e15
  subst e15
  have r3' := r3.w hj 49 P.fm.length (oI (tdN t len P.lnm none (nwN t len P c).2).1)
  have s3' : cSh (wI μ3 (A 49) P.fm.length (oI (tdN t len P.lnm none (nwN t len P c).2).1)) A := s3
  have n3 : hL (wI μ3 (A 49) P.fm.length (oI (tdN t len P.lnm none (nwN t len P c).2).1)) (A 47) P.fm.length = lN (codC (nwN t len P c).1) := by
    show hL μ3 _ _ = _
    rw [F3.1]; exact n2
  have l3 : hI (wI μ3 (A 49) P.fm.length (oI (tdN t len P.lnm none (nwN t len P c).2).1)) (A 49) P.fm.length = oI (tdN t len P.lnm none (nwN t len P c).2).1 := by rw [hI_wI_s, upd_s]
  generalize wI μ3 (A 49) P.fm.length (oI (tdN t len P.lnm none (nwN t len P c).2).1) = μ4 at P3 s3' D3 r3' n3 l3 ⊢
  refine k_nn (lo := 0) (hi := 99) (by omega) s3' hj r3' (by omega) (by omega) (fun μ5 r5 F5 => ⟨_, rfl, 112, ?_, ?_⟩)
  · rw [F5.2.2.1]; exact s3'.s 36 0 112
  have s5 := s3'.fr F5
  have P5 := P3.fr hj F5
  rw [show (2 : Int32) + nI P.fm.length = nI (2 + P.fm.length) from nI_add 2 _, nI_clamp (by omega)]
  have r6 := r5.w hj 36 (2 + P.fm.length) (nI (nxN t len 0 99 (tdN t len P.lnm none (nwN t len P c).2).2).1)
  have D6 := D3.tt ((Fr1_d F5 hj).tt (dFr.w hj 36 (2 + P.fm.length) (nI (nxN t len 0 99 (tdN t len P.lnm none (nwN t len P c).2).2).1) ⟨by decide, by decide, by omega⟩))
  refine ⟨vp_in_nI (by omega) (by omega), s5.s 1 10 5, ?_⟩
  rw [r6.f1]
  refine ⟨fun q => ⟨rfl, D6, r6, fun e => absurd e q⟩, fun q => ⟨s5.s 45 6 9, rfl, D6.tt (dFr.w hj 45 6 _ (by decide)), r6.w hj 45 6 _, fun _ => ?_⟩⟩
  obtain ⟨-, k, ek, hk, -⟩ := tdN_n (nxN_n q)
  have ek' : (rFirm1 t len P c).1 = some k := ek
  rw [ek] at l3
  obtain ⟨a1, a2, a3, a4, a5, a6, a7⟩ := P5
  refine ⟨?_, fun i x hx => ?_, fun i x hx => ?_, ⟨?_, fun i x hx => ?_⟩, ?_, ?_, fun j j1 j2 => ?_⟩
  · rw [hI_wI_s, hI_wI_n _ _ _ (hj.ne 45 36)]
    refine ⟨?_, ?_, ?_, ?_⟩
    · rw [upd_n _ (by decide)]; exact a1.1
    · rw [upd_s, a1.2.1, nI_1]
      show nI (P.fm.length + 1) = nI (P.fm ++ [_]).length
      rw [List.length_append, List.length_singleton]
    · rw [upd_n _ (by decide)]; exact a1.2.2.1
    · rw [upd_n _ (by decide)]; exact a1.2.2.2
  · rw [hI_wI_n _ _ _ (hj.ne 48 45), hI_wI_n _ _ _ (hj.ne 48 36)]; exact a2 i x hx
  · rw [hI_wI_n _ _ _ (hj.ne 49 45), hI_wI_n _ _ _ (hj.ne 49 36), hI_wI_n _ _ _ (hj.ne 36 45), hI_wI_s]
    rcases get_snoc hx with ⟨x1, x2⟩ | ⟨rfl, rfl⟩
    · rw [upd_n _ (by omega)]; exact a3 i x x1
    · refine ⟨?_, ?_, ?_⟩
      · show hL μ5 _ _ = _
        rw [F5.1]; exact n3
      · rw [F5.o hj 49, l3]
        show _ = nI ((rFirm1 t len P c).1.getD 0)
        rw [ek']; rfl
      · rw [upd_s]; rfl
  · rw [hI_wI_n _ _ _ (hj.ne 36 45), hI_wI_s, upd_n _ (by omega)]; exact a4.1
  · rw [hI_wI_n _ _ _ (hj.ne 36 45), hI_wI_s, upd_n _ (by omega), upd_n _ (by omega), upd_n _ (by omega), upd_n _ (by omega), upd_n _ (by omega)]; exact a4.2 i x hx
  · rw [hI_wI_n _ _ _ (hj.ne 50 45), hI_wI_n _ _ _ (hj.ne 50 36)]; exact a5
  · rw [hI_wI_n _ _ _ (hj.ne 36 45), hI_wI_s, upd_n _ (by omega)]; exact a6
  · rw [hI_wI_n _ _ _ (hj.ne 36 45), hI_wI_s]
    show j < 2 + (P.fm ++ [_]).length ∨ _
    rw [List.length_append, List.length_singleton]
    rcases a7 j j1 j2 with q | q
    · left; omega
    · by_cases e : j = 2 + P.fm.length
      · left; omega
      · right; rw [upd_n _ e]; exact q
end rdl
