/-! the lines of a book, read by the model -/
theorem pk_ne {x y : Int32} {A B : Prop} (a b : Nat) (f : a ≠ b → A) (g : a = b → B) (hx : x = nI a := by rfl) (hy : y = nI b := by rfl) (ha : a < 2 ^ 31 := by omega) (hb : b < 2 ^ 31 := by omega) : (¬ x = y → A) ∧ (x = y → B) := by
  subst hx hy
  rw [nI_eq ha hb]
  exact ⟨f, g⟩
section mrl
variable {d : Nat} {ro : Nat → Nat} {μ : Hp} {m : Nat} {X : Nat → Nat} {t : Nat → Int32} {len : Nat} {c : Cu} {P : Pb}
theorem bkFr.w2 {μ1 : Hp} (h : bkFr m X μ μ1) (hs : mSh μ1 m X) (i k : Nat) (x : Int32) (hi : i ∈ bI ∧ i ∈ mK := by decide) : bkFr m X μ (wI μ1 (X i) k x) := h.tt (bkFr.w hs i k x hi)
/-- behind a line -/
def mlZ (m : Nat) (X : Nat → Nat) (t : Nat → Int32) (len : Nat) (μ : Hp) (q : Pb × Cu) : Hp → Prop := fun μ' => bkFr m X μ μ' ∧ mCu μ' m X t len q.2 ∧ (q.2.1 = none → mPB μ' m X q.1)
theorem c_mLand (hd : 9 ≤ d) (hs : mSh μ m X) (hi : mInj X) (h : mCu μ m X t len c) (hP : mPB μ m X P) (hp : pOk P) (hl : P.ld.length < 6) : xC d yX12_readLand cX12_readLand 4 none 0 0 [.ref m] μ ro (fun r μ' => r = none ∧ mlZ m X t len μ (rLand t len P c) μ') := by
  refine I_X12_readLand (fun J g hr => B_X12_readLand_0 g hr hs.1 (k_fr (by omega) hs h hP hp (fun μ1 y m1 W1 v1 => ⟨y, rfl, ?_⟩)))
  unfold rLand at hr
  rw [if_neg (by omega)] at hr
  generalize hQ : nwN t len P c = Q at hr m1 v1
  have key := loopUp (Q := fun i => ∀ μ' : Hp, bkFr m X μ μ' → mCu μ' m X t len (rNum t len (fun _ => 1000) i Q.2).2 → mPB μ' m X P → (∀ j, j < i → hI μ' (X 7) (3 * P.ld.length + j) = nI ((rNum t len (fun _ => 1000) 3 Q.2).1 j)) → J μ' 0 0 7 [(0, .ref m), (1, .long y), (3, .int (nI i))] []) 3 ?_ (fun i hi3 ih => ?_) 0 (by omega)
  · exact key μ1 W1.b m1 (hP.fr hs W1) (fun j hj => by omega)
  · intro μ' D' m' P' v'
    have s' := D'.sh hs
    refine B_X12_readLand_7 g hr s'.1 (s'.r 15 2 6) (s'.s 15 2 6) (s'.r 7 0 18) (pk_le 3 3 (fun _ => ?_) (fun q => by omega))
    rw [m'.f4, P'.1.1, nI_clamp (by omega)]
    refine ⟨fun q => ⟨vp_in_nI hl (by omega), fun v4 e4 => ?_⟩, fun q => ⟨rfl, D', m', fun e => absurd e q⟩⟩
    have e4' : v4 = nI P.ld.length := by rw [e4]; exact P'.1.1
    rw [e4', nI_1]
    have ey := v1 (rNum_n q)
    refine ⟨rfl, D'.tt ((bkFr.l s' 15 _ _).tt (bkFr.g 19 _)), ?_, fun _ => ?_⟩
    · exact mCu.g (μ := wL μ' (X 15) P.ld.length y) m' s' 19 _
    · obtain ⟨a1, a2, a3, a4, a5⟩ := P'
      refine ⟨⟨?_, ?_, ?_, ?_, ?_⟩, fun i x hx => ?_, fun i x hx => ?_, ?_, ?_⟩
      · rw [hI_wI_s, upd_s]
        show nI (P.ld.length + 1) = nI (P.ld ++ [_]).length
        rw [List.length_append, List.length_singleton]
      · rw [hI_wI_s, upd_n _ (by decide)]; exact a1.2.1
      · rw [hI_wI_s, upd_n _ (by decide)]; exact a1.2.2.1
      · rw [hI_wI_s, upd_n _ (by decide)]; exact a1.2.2.2.1
      · rw [hI_wI_s, upd_n _ (by decide)]; exact a1.2.2.2.2
      · rw [hI_wI_n _ _ _ (s'.ne 7)]
        show hL (wL μ' (X 15) P.ld.length y) (X 15) i = _ ∧ ∀ j, j < 3 → hI μ' (X 7) _ = _
        rw [hL_wL_s]
        rcases get_snoc hx with ⟨x1, x2⟩ | ⟨rfl, rfl⟩
        · rw [updL_n _ (by omega)]; exact a2 i x x1
        · rw [updL_s]; exact ⟨ey, fun j hj => v' j hj⟩
      · rw [hI_wI_n _ _ _ (s'.ne 9)]
        show hL (wL μ' (X 15) P.ld.length y) (X 17) i = _ ∧ hI μ' (X 9) _ = _ ∧ hI μ' (X 9) _ = _
        rw [hL_wL_n _ _ _ (hi.ne 17 15)]; exact a3 i x hx
      · rw [hI_wI_n _ _ _ (s'.ne 13)]; exact a4
      · rw [hI_wI_n _ _ _ (s'.ne 11)]; exact a5
  · intro μ' D' m' P' v'
    have s' := D'.sh hs
    refine B_X12_readLand_7 g hr s'.1 (s'.r 15 2 6) (s'.s 15 2 6) (s'.r 7 0 18) (pk_le 3 i (fun q => by omega) (fun _ => ?_))
    refine k_mn (lo := 0) (hi := 1000) (by omega) s' m' (by omega) (by omega) (fun μ2 m2 W2 _ => ⟨_, rfl, 18, (W2.sh s').s 7 0 18, ?_⟩)
    rw [P'.1.1, show (3 : Int32) * nI P.ld.length = nI (3 * P.ld.length) from pk_mul 3 _, nI_add, nI_clamp (by omega), nI_1]
    have s2 := W2.sh s'
    refine ⟨vp_in_nI (by omega) (by omega), ih _ (D'.tt (W2.b.tt (bkFr.w s2 7 _ _))) (m2.x s2 hi 7 _ _) ((P'.fr s' W2).w7 s2 hi (by omega)) (fun j hj => ?_)⟩
    rw [hI_wI_s]
    by_cases e : j = i
    · subst e; rw [upd_s, rNum_j 3 hi3]
    · rw [upd_n _ (by omega), (W2.2.1 _ (s'.ne 7)).1]; exact v' j (by omega)
theorem c_mFirm (hd : 9 ≤ d) (hs : mSh μ m X) (hi : mInj X) (h : mCu μ m X t len c) (hP : mPB μ m X P) (hp : pOk P) (hl : P.fm.length < 8) : xC d yX12_readFirm cX12_readFirm 3 none 0 0 [.ref m] μ ro (fun r μ' => r = none ∧ mlZ m X t len μ (rFirm t len P c) μ') := by
  unfold rFirm
  rw [if_neg (by omega)]
  refine I_X12_readFirm (fun J g hr => B_X12_readFirm_0 g hr hs.1 (k_fr (by omega) hs h hP hp (fun μ1 y m1 W1 v1 => ⟨y, rfl, (W1.sh hs).1, X 9, (W1.sh hs).r 9 0 16, ?_⟩)))
  have s1 := W1.sh hs
  have P1 := hP.fr hs W1
  refine xCall_of (c_aLand (d := d - 1) (by omega) s1 m1 P1 hp) (by omega) ?_
  rintro r μ2 ⟨j, rfl, hj, m2, W2, v2⟩
  have s2 := W2.sh s1
  have P2 := P1.fr s1 W2
  refine ⟨_, rfl, 16, s2.s 9 0 16, ?_⟩
  rw [P1.1.2.1, show (2 : Int32) * nI P.fm.length = nI (2 * P.fm.length) from pk_mul 2 _, nI_clamp (by omega)]
  refine ⟨vp_in_nI (by omega) (by omega), s2.1, X 9, s2.r 9 0 16, fun v11 e11 => ?_⟩
  rw [hI_wI_n _ _ _ (Ne.symm (s2.ne 9)), P2.1.2.1] at e11
  subst e11
  have s3 : mSh (wI μ2 (X 9) (2 * P.fm.length) (nI j)) m X := s2
  have P3 : mPB (wI μ2 (X 9) (2 * P.fm.length) (nI j)) m X P := P2.w9 s2 hi (Nat.le_refl _)
  have m3 := m2.x s2 hi 9 (2 * P.fm.length) (nI j)
  refine k_mn (lo := 0) (hi := 99) (by omega) s3 m3 (by omega) (by omega) (fun μ4 m4 W4 _ => ⟨_, rfl, 16, (W4.sh s3).s 9 0 16, ?_⟩)
  have s4 := W4.sh s3
  have P4 := P3.fr s3 W4
  rw [show (2 : Int32) * nI P.fm.length = nI (2 * P.fm.length) from pk_mul 2 _, nI_1, nI_clamp (by omega)]
  refine ⟨vp_in_nI (by omega) (by omega), s4.1, fun v17 e17 => ?_⟩
  have m5 := m4.x s4 hi 9 (2 * P.fm.length + 1) (nI (nxN t len 0 99 (tdN t len P.lnm none (nwN t len P c).2).2).1)
  have P5 : mPB (wI μ4 (X 9) (2 * P.fm.length + 1) (nI (nxN t len 0 99 (tdN t len P.lnm none (nwN t len P c).2).2).1)) m X P := P4.w9 s4 hi (by omega)
  have D5 : bkFr m X μ (wI μ4 (X 9) (2 * P.fm.length + 1) (nI (nxN t len 0 99 (tdN t len P.lnm none (nwN t len P c).2).2).1)) := (W1.b.tt (W2.b.tt (bkFr.w s2 9 _ _))).tt (W4.b.tt (bkFr.w s4 9 _ _))
  have s5 : mSh (wI μ4 (X 9) (2 * P.fm.length + 1) (nI (nxN t len 0 99 (tdN t len P.lnm none (nwN t len P c).2).2).1)) m X := s4
  have f0 : hI (wI μ4 (X 9) (2 * P.fm.length + 1) (nI (nxN t len 0 99 (tdN t len P.lnm none (nwN t len P c).2).2).1)) (X 9) (2 * P.fm.length) = nI j := by
    rw [hI_wI_s, upd_n _ (by omega), (W4.2.1 _ (s3.ne 9)).1, hI_wI_s, upd_s]
  have f1 : hI (wI μ4 (X 9) (2 * P.fm.length + 1) (nI (nxN t len 0 99 (tdN t len P.lnm none (nwN t len P c).2).2).1)) (X 9) (2 * P.fm.length + 1) = nI (nxN t len 0 99 (tdN t len P.lnm none (nwN t len P c).2).2).1 := by rw [hI_wI_s, upd_s]
  generalize wI μ4 (X 9) (2 * P.fm.length + 1) (nI (nxN t len 0 99 (tdN t len P.lnm none (nwN t len P c).2).2).1) = μ5 at m5 P5 D5 s5 f0 f1 e17 ⊢
  rw [e17, m5.f4]
  refine ⟨fun q => ⟨X 17, s4.r 17 2 8, fun v20 e20 => ⟨8, s4.s 17 2 8, ?_⟩⟩, fun q => ⟨rfl, D5, m5, fun e => absurd e q⟩⟩
  rw [P5.1.2.1] at e20
  subst e20
  rw [nI_clamp (by omega)]
  refine ⟨vp_in_nI hl (by omega), fun v23 e23 => ?_⟩
  have e23' : v23 = nI P.fm.length := by rw [e23]; exact P5.1.2.1
  rw [e23', nI_1]
  have q1 := nxN_n q
  have ey := v1 (tdN_n q1).1
  obtain ⟨ej, -⟩ := v2 q1
  have ej' : (rFirm1 t len P c).1 = some j := ej
  refine ⟨rfl, D5.tt ((bkFr.l s5 17 _ _).tt (bkFr.g 21 _)), mCu.g (μ := wL μ5 (X 17) P.fm.length y) m5 s5 21 _, fun _ => ?_⟩
  obtain ⟨a1, a2, a3, a4, a5⟩ := P5
  refine ⟨⟨?_, ?_, ?_, ?_, ?_⟩, fun i x hx => ?_, fun i x hx => ?_, ?_, ?_⟩
  · rw [hI_wI_s, upd_n _ (by decide)]; exact a1.1
  · rw [hI_wI_s, upd_s]
    show nI (P.fm.length + 1) = nI (P.fm ++ [_]).length
    rw [List.length_append, List.length_singleton]
  · rw [hI_wI_s, upd_n _ (by decide)]; exact a1.2.2.1
  · rw [hI_wI_s, upd_n _ (by decide)]; exact a1.2.2.2.1
  · rw [hI_wI_s, upd_n _ (by decide)]; exact a1.2.2.2.2
  · rw [hI_wI_n _ _ _ (s5.ne 7)]
    show hL (wL μ5 (X 17) P.fm.length y) (X 15) i = _ ∧ ∀ j, j < 3 → hI μ5 (X 7) _ = _
    rw [hL_wL_n _ _ _ (hi.ne 15 17)]; exact a2 i x hx
  · rw [hI_wI_n _ _ _ (s5.ne 9)]
    show hL (wL μ5 (X 17) P.fm.length y) (X 17) i = _ ∧ hI μ5 (X 9) _ = _ ∧ hI μ5 (X 9) _ = _
    rw [hL_wL_s]
    rcases get_snoc hx with ⟨x1, x2⟩ | ⟨rfl, rfl⟩
    · rw [updL_n _ (by omega)]; exact a3 i x x1
    · rw [updL_s]
      refine ⟨ey, ?_, f1⟩
      rw [f0]
      show _ = nI ((rFirm1 t len P c).1.getD 0)
      rw [ej']; rfl
  · rw [hI_wI_n _ _ _ (s5.ne 13)]; exact a4
  · rw [hI_wI_n _ _ _ (s5.ne 11)]; exact a5
/-- a second told name by the first way of telling -/
theorem tdN_un {ns : List (List Nat)} {un : Option Nat} : (tdN t len ns un c).1 = (tdN t len ns none c).1 ∧ (tdN t len ns un c).2 = if (tdN t len ns none c).2.1 = none ∧ (tdN t len ns none c).1 = un then flC (tdN t len ns none c).2 (tdN t len ns none c).2.2.1 else (tdN t len ns none c).2 := by
  unfold tdN
  refine ⟨rfl, ?_⟩
  simp only
  generalize nxW t len c = q
  cases e : nbr ns q.1 with
  | none =>
    rw [if_pos (Or.inl rfl), if_pos (Or.inl rfl), if_neg (fun z => flC_n z.1)]
  | some k =>
    rw [if_neg (show ¬ (some k = none ∨ some k = none) by simp)]
    by_cases z : some k = un
    · rw [if_pos (Or.inr z)]
      by_cases y : q.2.1 = none
      · rw [if_pos ⟨y, z⟩]
      · rw [if_neg (fun w => y w.1), flC_id y]
    · rw [if_neg (by rintro (w | w); cases w; exact z w), if_neg (fun w => z w.2)]
theorem flC_flC {c : Cu} {x y : Nat} : flC (flC c x) y = flC c x := flC_id flC_n
theorem c_mLink {s : Nat} (hd : 9 ≤ d) (hs2 : s < 2) (hs : mSh μ m X) (hi : mInj X) (h : mCu μ m X t len c) (hP : mPB μ m X P) (hp : pOk P) (hl : P.lk.length < 16) : xC d yX12_readLink cX12_readLink 6 none 0 0 [.ref m, .int (nI s)] μ ro (fun r μ' => r = none ∧ mlZ m X t len μ (rLink t len P s c) μ') := by
  have h8 := hp.1.2.1
  unfold rLink
  rw [if_neg (by omega)]
  refine I_X12_readLink (fun J g hr => B_X12_readLink_0 g hr hs.1 (xCall_of (c_aFirm (d := d - 1) (by omega) hs h hP hp) (by omega) ?_))
  rintro r μ1 ⟨a, rfl, ha, m1, W1, v1⟩
  have s1 := W1.sh hs
  have P1 := hP.fr hs W1
  refine ⟨_, rfl, s1.1, xCall_of (c_aFirm (d := d - 1) (by omega) s1 m1 P1 hp) (by omega) ?_⟩
  rintro r μ2 ⟨b, rfl, hb, m2, W2, v2⟩
  have s2 := W2.sh s1
  have P2 := P1.fr s1 W2
  have W12 := W1.tt W2
  refine ⟨_, rfl, ?_⟩
  -- the cursor behind both
  obtain ⟨u1, u2⟩ := tdN_un (t := t) (len := len) (c := (tdN t len P.fnm none c).2) (ns := P.fnm) (un := (tdN t len P.fnm none c).1)
  have e1 : (rLk2 t len P c).1 = (tdN t len P.fnm none c).1 := rfl
  have e2 : (rLk2 t len P c).2.1 = (tdN t len P.fnm none (tdN t len P.fnm none c).2).1 := u1
  have e3 : (rLk2 t len P c).2.2 = if (tdN t len P.fnm none (tdN t len P.fnm none c).2).2.1 = none ∧ (tdN t len P.fnm none (tdN t len P.fnm none c).2).1 = (tdN t len P.fnm none c).1 then flC (tdN t len P.fnm none (tdN t len P.fnm none c).2).2 (tdN t len P.fnm none (tdN t len P.fnm none c).2).2.2.1 else (tdN t len P.fnm none (tdN t len P.fnm none c).2).2 := u2
  have e4 : rLk3 t len P s c = if hasK P s (rLk2 t len P c).1 (rLk2 t len P c).2.1 = true then flC (rLk2 t len P c).2.2 (rLk2 t len P c).2.2.2.1 else (rLk2 t len P c).2.2 := rfl
  generalize hC2 : (tdN t len P.fnm none (tdN t len P.fnm none c).2) = C2 at m2 v2 e2 e3
  have fa : C2.2.1 = none → (rLk2 t len P c).1 = some a ∧ (rLk2 t len P c).2.1 = some b ∧ hI μ2 m 5 = nI C2.2.2.1 := fun z => by
    have z1 : (tdN t len P.fnm none c).2.1 = none := by rw [← hC2] at z; exact (tdN_n z).1
    exact ⟨by rw [e1]; exact (v1 z1).1, by rw [e2]; exact (v2 z).1, (v2 z).2⟩
  -- how the check of both ends
  have e5 : C2.2.1 = none → rLk3 t len P s c = if a = b ∨ hasK P s (some a) (some b) = true then flC C2.2 C2.2.2.1 else C2.2 := fun z => by
    obtain ⟨f1, f2, -⟩ := fa z
    rw [e4, f1, f2]
    have e3' : (rLk2 t len P c).2.2 = if a = b then flC C2.2 C2.2.2.1 else C2.2 := by
      rw [e3, ← e2, ← e1, f1, f2]
      by_cases w : a = b
      · rw [if_pos ⟨z, by rw [w]⟩, if_pos w]
      · rw [if_neg (fun y => w (by have := y.2; cases this; rfl)), if_neg w]
    rw [e3']
    by_cases w : a = b
    · rw [if_pos w, if_pos (Or.inl w)]
      by_cases k : hasK P s (some a) (some b) = true
      · rw [if_pos k, flC_flC]
      · rw [if_neg k]
    · rw [if_neg w]
      by_cases k : hasK P s (some a) (some b) = true
      · rw [if_pos k, if_pos (Or.inr k)]
      · rw [if_neg k, if_neg (by rintro (y | y); exact w y; exact k y)]
  have e6 : ¬ C2.2.1 = none → rLk3 t len P s c = C2.2 := fun z => by
    have e3' : (rLk2 t len P c).2.2 = C2.2 := by rw [e3, if_neg (fun y => z y.1)]
    rw [e4, e3']
    by_cases k : hasK P s (rLk2 t len P c).1 (rLk2 t len P c).2.1 = true
    · rw [if_pos k, flC_id z]
    · rw [if_neg k]
  -- behind the check
  have go : ∀ μ', wFr m μ μ' → mCu μ' m X t len (rLk3 t len P s c) → mPB μ' m X P → J μ' 0 0 116 [(0, .ref m), (1, .int (nI s)), (2, .int (nI a)), (3, .int (nI b))] [] := by
    intro μ' W' m' P'
    have s' := W'.sh hs
    refine B_X12_readLink_116 g hr s'.1 (s'.r 13 0 80) (s'.s 13 0 80) ?_
    rw [P'.1.2.2.2.1, show (5 : Int32) * nI P.lk.length = nI (5 * P.lk.length) from pk_mul 5 _, nI_1, show nI (5 * P.lk.length) + 2 = nI (5 * P.lk.length + 2) from nI_add _ 2, show nI (5 * P.lk.length) + 3 = nI (5 * P.lk.length + 3) from nI_add _ 3, show nI (5 * P.lk.length) + 4 = nI (5 * P.lk.length + 4) from nI_add _ 4, nI_clamp (by omega), nI_clamp (by omega), nI_clamp (by omega), nI_clamp (by omega), nI_clamp (by omega)]
    refine ⟨vp_in_nI (by omega) (by omega), vp_in_nI (by omega) (by omega), vp_in_nI (by omega) (by omega), ?_⟩
    have D3 : bkFr m X μ (wI (wI (wI μ' (X 13) (5 * P.lk.length) (nI s)) (X 13) (5 * P.lk.length + 1) (nI a)) (X 13) (5 * P.lk.length + 2) (nI b)) := ((W'.b.w2 s' 13 _ _).w2 s' 13 _ _).w2 s' 13 _ _
    have P3 : mPB (wI (wI (wI μ' (X 13) (5 * P.lk.length) (nI s)) (X 13) (5 * P.lk.length + 1) (nI a)) (X 13) (5 * P.lk.length + 2) (nI b)) m X P := ((P'.w13 s' hi (by omega)).w13 s' hi (by omega)).w13 s' hi (by omega)
    have m3 : mCu (wI (wI (wI μ' (X 13) (5 * P.lk.length) (nI s)) (X 13) (5 * P.lk.length + 1) (nI a)) (X 13) (5 * P.lk.length + 2) (nI b)) m X t len (rLk3 t len P s c) := ((m'.x s' hi 13 _ _).x s' hi 13 _ _).x s' hi 13 _ _
    have f3 : (hI (wI (wI (wI μ' (X 13) (5 * P.lk.length) (nI s)) (X 13) (5 * P.lk.length + 1) (nI a)) (X 13) (5 * P.lk.length + 2) (nI b)) (X 13) (5 * P.lk.length) = nI s) ∧ (hI (wI (wI (wI μ' (X 13) (5 * P.lk.length) (nI s)) (X 13) (5 * P.lk.length + 1) (nI a)) (X 13) (5 * P.lk.length + 2) (nI b)) (X 13) (5 * P.lk.length + 1) = nI a) ∧ hI (wI (wI (wI μ' (X 13) (5 * P.lk.length) (nI s)) (X 13) (5 * P.lk.length + 1) (nI a)) (X 13) (5 * P.lk.length + 2) (nI b)) (X 13) (5 * P.lk.length + 2) = nI b := by
      rw [hI_wI_s, hI_wI_s, hI_wI_s]
      refine ⟨?_, ?_, ?_⟩
      · rw [upd_n _ (by omega), upd_n _ (by omega), upd_s]
      · rw [upd_n _ (by omega), upd_s]
      · rw [upd_s]
    have s3 : mSh (wI (wI (wI μ' (X 13) (5 * P.lk.length) (nI s)) (X 13) (5 * P.lk.length + 1) (nI a)) (X 13) (5 * P.lk.length + 2) (nI b)) m X := s'
    generalize wI (wI (wI μ' (X 13) (5 * P.lk.length) (nI s)) (X 13) (5 * P.lk.length + 1) (nI a)) (X 13) (5 * P.lk.length + 2) (nI b) = μ3 at D3 P3 m3 f3 s3 ⊢
    -- the end
    have fin : ∀ μ4 sh c5, rLk4 t len P s c = (sh, c5) → mSh μ4 m X → bkFr m X μ μ4 → mCu μ4 m X t len (nxN t len 0 99 c5).2 → mPB μ4 m X P → (hI μ4 (X 13) (5 * P.lk.length) = nI s ∧ hI μ4 (X 13) (5 * P.lk.length + 1) = nI a ∧ hI μ4 (X 13) (5 * P.lk.length + 2) = nI b ∧ hI μ4 (X 13) (5 * P.lk.length + 3) = nI sh) → ∀ v, v = hI (wI μ4 (X 13) (5 * P.lk.length + 4) (nI (nxN t len 0 99 c5).1)) m 25 → (none : Option Value) = none ∧ mlZ m X t len μ (P.addK (s, (rLk2 t len P c).1.getD 0, (rLk2 t len P c).2.1.getD 0, (rLk4 t len P s c).1, (nxN t len 0 99 (rLk4 t len P s c).2).1), (nxN t len 0 99 (rLk4 t len P s c).2).2) (wI (wI μ4 (X 13) (5 * P.lk.length + 4) (nI (nxN t len 0 99 c5).1)) m 25 (v + 1)) := by
      intro μ4 sh c5 e7 s4 D4 m4 P4 f4 v ev
      have e71 : (rLk4 t len P s c).1 = sh := by rw [e7]
      have e72 : (rLk4 t len P s c).2 = c5 := by rw [e7]
      rw [hI_wI_n _ _ _ (Ne.symm (s4.ne 13)), P4.1.2.2.2.1] at ev
      rw [ev, nI_1, e71, e72]
      refine ⟨rfl, D4.tt ((bkFr.w s4 13 _ _).tt (bkFr.g 25 _)), mCu.g (μ := wI μ4 (X 13) (5 * P.lk.length + 4) (nI (nxN t len 0 99 c5).1)) (m4.x s4 hi 13 _ _) s4 25 _, fun q => ?_⟩
      have h3 : (rLk3 t len P s c).1 = none := rLk4_n (by rw [e72]; exact nxN_n q)
      have hC : C2.2.1 = none := by
        by_cases z : C2.2.1 = none
        · exact z
        · rw [e6 z] at h3; exact absurd h3 z
      obtain ⟨g1, g2, -⟩ := fa hC
      rw [g1, g2]
      obtain ⟨a1, a2, a3, a4, a5⟩ := P4
      refine ⟨⟨?_, ?_, ?_, ?_, ?_⟩, fun i x hx => ?_, fun i x hx => ?_, fun i x hx => ?_, ?_⟩
      · rw [hI_wI_s, upd_n _ (by decide), hI_wI_n _ _ _ (Ne.symm (s4.ne 13))]; exact a1.1
      · rw [hI_wI_s, upd_n _ (by decide), hI_wI_n _ _ _ (Ne.symm (s4.ne 13))]; exact a1.2.1
      · rw [hI_wI_s, upd_n _ (by decide), hI_wI_n _ _ _ (Ne.symm (s4.ne 13))]; exact a1.2.2.1
      · rw [hI_wI_s, upd_s]
        show nI (P.lk.length + 1) = nI (P.lk ++ [_]).length
        rw [List.length_append, List.length_singleton]
      · rw [hI_wI_s, upd_n _ (by decide), hI_wI_n _ _ _ (Ne.symm (s4.ne 13))]; exact a1.2.2.2.2
      · rw [hI_wI_n _ _ _ (s4.ne 7), hI_wI_n _ _ _ (hi.ne 7 13)]; exact a2 i x hx
      · rw [hI_wI_n _ _ _ (s4.ne 9), hI_wI_n _ _ _ (hi.ne 9 13)]; exact a3 i x hx
      · rw [hI_wI_n _ _ _ (s4.ne 13), hI_wI_s]
        rcases get_snoc hx with ⟨x1, x2⟩ | ⟨rfl, rfl⟩
        · rw [upd_n _ (by omega), upd_n _ (by omega), upd_n _ (by omega), upd_n _ (by omega), upd_n _ (by omega)]; exact a4 i x x1
        · rw [upd_n _ (by omega), upd_n _ (by omega), upd_n _ (by omega), upd_n _ (by omega), upd_s]
          exact ⟨f4.1, f4.2.1, f4.2.2.1, f4.2.2.2, rfl⟩
      · rw [hI_wI_n _ _ _ (s4.ne 11), hI_wI_n _ _ _ (hi.ne 11 13)]; exact a5
    refine ⟨fun q => ⟨vp_in_nI (by omega) (by omega), ?_⟩, fun q => ?_⟩
    · have hs0 : s ≠ 0 := fun e => q (by rw [e]; rfl)
      have e7 : rLk4 t len P s c = (0, rLk3 t len P s c) := by unfold rLk4; rw [if_neg hs0]
      have s4 : mSh (wI μ3 (X 13) (5 * P.lk.length + 3) 0) m X := s3
      refine k_mn (lo := 0) (hi := 99) (by omega) s4 (m3.x s3 hi 13 (5 * P.lk.length + 3) 0) (by omega) (by omega) (fun μ5 m5 W5 _ => ⟨_, rfl, 80, (W5.sh s4).s 13 0 80, vp_in_nI (by omega) (by omega), (W5.sh s4).1, ?_⟩)
      have o5 : hI μ5 (X 13) = hI (wI μ3 (X 13) (5 * P.lk.length + 3) 0) (X 13) := (W5.2.1 _ (s4.ne 13)).1
      refine fin μ5 0 _ e7 (W5.sh s4) (D3.tt ((bkFr.w s3 13 _ _).tt W5.b)) m5 ((P3.w13 s3 hi (by omega)).fr s4 W5) ⟨?_, ?_, ?_, ?_⟩
      · rw [o5, hI_wI_s, upd_n _ (by omega)]; exact f3.1
      · rw [o5, hI_wI_s, upd_n _ (by omega)]; exact f3.2.1
      · rw [o5, hI_wI_s, upd_n _ (by omega)]; exact f3.2.2
      · rw [o5, hI_wI_s, upd_s]; rfl
    · have hs0 : s = 0 := (nI_eq (b := 0) (by omega) (by omega)).mp q
      have e7 : rLk4 t len P s c = nxN t len 1 100 (rLk3 t len P s c) := by unfold rLk4; rw [if_pos hs0]
      refine k_mn (lo := 1) (hi := 100) (by omega) s3 m3 (by omega) (by omega) (fun μ5 m5 W5 _ => ⟨_, rfl, 80, (W5.sh s3).s 13 0 80, vp_in_nI (by omega) (by omega), (W5.sh s3).1, X 13, (W5.sh s3).r 13 0 80, ?_⟩)
      have s5 := W5.sh s3
      have o5 : hI μ5 (X 13) = hI μ3 (X 13) := (W5.2.1 _ (s3.ne 13)).1
      have s6 : mSh (wI μ5 (X 13) (5 * P.lk.length + 3) (nI (nxN t len 1 100 (rLk3 t len P s c)).1)) m X := s5
      refine k_mn (lo := 0) (hi := 99) (by omega) s6 (m5.x s5 hi 13 (5 * P.lk.length + 3) _) (by omega) (by omega) (fun μ7 m7 W7 _ => ⟨_, rfl, 80, (W7.sh s6).s 13 0 80, vp_in_nI (by omega) (by omega), (W7.sh s6).1, ?_⟩)
      have o7 : hI μ7 (X 13) = hI (wI μ5 (X 13) (5 * P.lk.length + 3) (nI (nxN t len 1 100 (rLk3 t len P s c)).1)) (X 13) := (W7.2.1 _ (s6.ne 13)).1
      refine fin μ7 (nxN t len 1 100 (rLk3 t len P s c)).1 (nxN t len 1 100 (rLk3 t len P s c)).2 e7 (W7.sh s6) ((D3.tt W5.b).tt ((bkFr.w s5 13 _ _).tt W7.b)) m7 (((P3.fr s3 W5).w13 s5 hi (by omega)).fr s6 W7) ⟨?_, ?_, ?_, ?_⟩
      · rw [o7, hI_wI_s, upd_n _ (by omega), o5]; exact f3.1
      · rw [o7, hI_wI_s, upd_n _ (by omega), o5]; exact f3.2.1
      · rw [o7, hI_wI_s, upd_n _ (by omega), o5]; exact f3.2.2
      · rw [o7, hI_wI_s, upd_s]
  -- the search for such a link
  have key : ∀ n i (h0 : Bool), i + n = P.lk.length → (h0 = true ↔ a = b ∨ ∃ j x, j < i ∧ P.lk[j]? = some x ∧ x.1 = s ∧ x.2.1 = a ∧ x.2.2.1 = b) → J μ2 0 0 25 [(0, .ref m), (1, .int (nI s)), (2, .int (nI a)), (3, .int (nI b)), (4, .int (if h0 = true then 1 else 0)), (5, .int (nI i))] [] := by
    intro n
    induction n with
    | zero =>
      intro i h0 hin hh
      refine B_X12_readLink_25 g hr s2.1 (s2.r 13 0 80) (s2.s 13 0 80) ?_
      rw [P2.1.2.2.2.1]
      have hfull : C2.2.1 = none → (h0 = true ↔ a = b ∨ hasK P s (some a) (some b) = true) := fun z => by
        rw [hh]
        constructor
        · rintro (w | ⟨j, x, hj, hx, x1, x2, x3⟩)
          · exact Or.inl w
          · exact Or.inr (List.any_eq_true.mpr ⟨x, List.mem_of_getElem? hx, by simp [x1, x2, x3]⟩)
        · rintro (w | w)
          · exact Or.inl w
          · obtain ⟨x, hx, hx2⟩ := List.any_eq_true.mp w
            simp only [decide_eq_true_eq, Option.some.injEq] at hx2
            obtain ⟨j, hj, ej⟩ := List.getElem_of_mem hx
            exact Or.inr ⟨j, x, by omega, by rw [List.getElem?_eq_getElem hj, ej], hx2⟩
      refine pk_le P.lk.length i (fun _ => ?_) (fun q => by omega)
      rw [m2.f4]
      refine ⟨fun z => go μ2 W12 (by rw [e6 z]; exact m2) P2, fun z => ⟨fun w => go μ2 W12 ?_ P2, fun w => ?_⟩⟩
      · have : ¬ h0 = true := fun y => by rw [if_pos y] at w; exact absurd w (by decide)
        rw [e5 z, if_neg (fun y => this ((hfull z).mpr y))]; exact m2
      · have : h0 = true := by
          cases h0 with
          | true => rfl
          | false => exact absurd rfl w
        rw [(fa z).2.2]
        refine k_mf (by omega) s2 m2 m2.2.2.1.1 (fun μ3 m3 W3 _ _ => ⟨rfl, go μ3 (W12.tt W3) ?_ (P2.fr s2 W3)⟩)
        rw [e5 z, if_pos ((hfull z).mp this)]; exact m3
    | succ n ih =>
      intro i h0 hin hh
      have hx : P.lk[i]? = some P.lk[i] := List.getElem?_eq_getElem (by omega)
      obtain ⟨f1, f2, f3, -⟩ := P2.2.2.2.1 i _ hx
      have hxb := hp.2.2.2.1 _ (List.mem_of_getElem? hx)
      refine B_X12_readLink_25 g hr s2.1 (s2.r 13 0 80) (s2.s 13 0 80) ?_
      rw [P2.1.2.2.2.1, show (5 : Int32) * nI i = nI (5 * i) from pk_mul 5 _, nI_1 (5 * i), nI_1 i, show nI (5 * i) + 2 = nI (5 * i + 2) from nI_add _ 2, nI_clamp (by omega), nI_clamp (by omega), nI_clamp (by omega), f1, f2, f3]
      refine pk_le P.lk.length i (fun q => by omega) (fun _ => ?_)
      have nxt : ∀ h1 : Bool, (h1 = true ↔ h0 = true ∨ (P.lk[i].1 = s ∧ P.lk[i].2.1 = a ∧ P.lk[i].2.2.1 = b)) → J μ2 0 0 25 [(0, .ref m), (1, .int (nI s)), (2, .int (nI a)), (3, .int (nI b)), (4, .int (if h1 = true then 1 else 0)), (5, .int (nI (i + 1)))] [] := fun h1 hh1 => ih (i + 1) h1 (by omega) (by
        rw [hh1, hh]
        constructor
        · rintro ((w | ⟨j, x, hj, hx', x1, x2, x3⟩) | ⟨x1, x2, x3⟩)
          · exact Or.inl w
          · exact Or.inr ⟨j, x, by omega, hx', x1, x2, x3⟩
          · exact Or.inr ⟨i, _, by omega, hx, x1, x2, x3⟩
        · rintro (w | ⟨j, x, hj, hx', x1, x2, x3⟩)
          · exact Or.inl (Or.inl w)
          · rcases Nat.lt_or_ge j i with y | y
            · exact Or.inl (Or.inr ⟨j, x, y, hx', x1, x2, x3⟩)
            · have : j = i := by omega
              subst this
              rw [hx] at hx'
              cases hx'
              exact Or.inr ⟨x1, x2, x3⟩)
      cases h0 with
      | true => exact ⟨fun _ => nxt true (by simp), fun q => absurd q (by decide)⟩
      | false =>
        have no : ¬ (P.lk[i].1 = s ∧ P.lk[i].2.1 = a ∧ P.lk[i].2.2.1 = b) → J μ2 0 0 25 [(0, .ref m), (1, .int (nI s)), (2, .int (nI a)), (3, .int (nI b)), (4, .int 0), (5, .int (nI (i + 1)))] [] := fun q => nxt false (by simp [q])
        refine ⟨fun q => absurd rfl q, fun _ => ⟨vp_in_nI (by omega) (by omega), pk_ne P.lk[i].1 s (fun q => no (fun z => q z.1)) (fun q1 => ⟨vp_in_nI (by omega) (by omega), pk_ne P.lk[i].2.1 a (fun q => no (fun z => q z.2.1)) (fun q2 => ⟨vp_in_nI (by omega) (by omega), pk_ne P.lk[i].2.2.1 b (fun q => no (fun z => q z.2.2)) (fun q3 => nxt true (by simp [q1, q2, q3]))⟩)⟩)⟩⟩
  refine pk_ne a b (fun q => key P.lk.length 0 false (by omega) ?_) (fun q => key P.lk.length 0 true (by omega) ?_)
  · constructor
    · intro z; cases z
    · rintro (w | ⟨j, x, hj, -⟩)
      · exact absurd w q
      · omega
  · exact ⟨fun _ => Or.inl q, fun _ => rfl⟩
end mrl
