/-! lines and books, read by the model -/
section mrb
variable {d : Nat} {ro : Nat → Nat} {μ : Hp} {m : Nat} {X : Nat → Nat} {t : Nat → Int32} {len : Nat} {c : Cu} {P : Pb}
abbrev bV (b : Bool) : Int32 := if b = true then 1 else 0
theorem bV_nar (b : Bool) : narrow .boolean (.int (bV b)) = .int (bV b) := by cases b <;> rfl
theorem bV_0 {b : Bool} : bV b = 0 ↔ b = false := by cases b <;> decide
/-- behind a line, with the word whether the year was told -/
def lineZ (m : Nat) (X : Nat → Nat) (t : Nat → Int32) (len : Nat) (μ : Hp) (q : Pb × Cu) : Option Value → Hp → Prop := fun r μ' => ∃ b : Bool, r = some (.int (bV b)) ∧ (q.2.1 = none → b = q.1.tl) ∧ mlZ m X t len μ q μ'
theorem rLand_tl : (rLand t len P c).1.tl = P.tl := by
  unfold rLand
  split <;> rfl
theorem rFirm_tl : (rFirm t len P c).1.tl = P.tl := by
  unfold rFirm
  split <;> rfl
theorem rLink_tl {s : Nat} : (rLink t len P s c).1.tl = P.tl := by
  unfold rLink
  split <;> rfl
theorem rTrty_tl {n e : Nat} : (rTrty t len P n e c).1.tl = P.tl := by
  unfold rTrty
  split <;> rfl
theorem nI6 {n : Nat} (N : Nat) (h : n ≤ N) (hN : N < 1000) : nI n = nI N ↔ N ≤ n := by
  rw [nI_eq (by omega) (by omega)]; omega
theorem c_mLine (hd : 11 ≤ d) (hs : mSh μ m X) (hi : mInj X) (h : mCu μ m X t len c) (hc : c.1 = none) (hP : mPB μ m X P) (hp : pOk P) : xC d yX12_readLine cX12_readLine 4 (some .boolean) 0 0 [.ref m, .int (bV P.tl)] μ ro (lineZ m X t len μ (rLine t len P c)) := by
  obtain ⟨⟨p6, p8, p16, p12⟩, -⟩ := id hp
  refine I_X12_readLine (fun J g hr => B_X12_readLine_0 g hr hs.1 (k_mw (by omega) hs h (fun μ1 m1 W1 v1 => ⟨rfl, ?_⟩)))
  have s1 := W1.sh hs
  have P1 := hP.fr hs W1
  obtain ⟨v5, v6⟩ := v1 hc
  have hst := m1.2.2.1.1
  -- behind the checks, with a fault
  have w137 : ∀ (μ' : Hp) (s : Int32), mSh μ' m X → wFr m μ μ' → mCu μ' m X t len (rLine t len P c).2 → ¬ (rLine t len P c).2.1 = none → J μ' 0 0 137 [(0, .ref m), (1, .int (bV P.tl)), (2, .int s)] [] := fun μ' s s' W' m' q =>
    B_X12_readLine_137 g hr s'.1 ⟨fun z => absurd (m'.f4.mp z) q, fun _ => ⟨bV_nar _, P.tl, rfl, fun e => absurd e q, W'.b, m', fun e => absurd e q⟩⟩
  -- a line that can't be
  have b116 : ∀ s : Int32, (nxW t len c).2.1 = none → rLine t len P c = (P, flC (nxW t len c).2 (nxW t len c).2.2.1) → J μ1 0 0 116 [(0, .ref m), (1, .int (bV P.tl)), (2, .int s)] [.int 0] := fun s q e => by
    refine B_X12_readLine_116 g hr s1.1 ⟨fun z => absurd (m1.f4.mpr q) z, fun _ => ⟨fun z => absurd rfl z, fun _ => ?_⟩⟩
    rw [v5]
    refine k_mf (by omega) s1 m1 hst (fun μ2 m2 W2 _ _ => ⟨rfl, w137 μ2 s (W2.sh s1) (W1.tt W2) ?_ ?_⟩)
    · rw [e]; exact m2
    · rw [e]; exact flC_n
  refine ⟨s1.1, fun q => ?_, fun q => ?_⟩
  · -- no word
    have hn : ¬ (nxW t len c).2.1 = none := fun z => q (m1.f4.mpr z)
    have e : rLine t len P c = (P, (nxW t len c).2) := by
      unfold rLine
      rw [nxW_kw hn]
      show (P, flC _ _) = _
      rw [flC_id hn]
    refine B_X12_readLine_23 g hr s1.1 (by omega) ⟨fun _ => B_X12_readLine_116 g hr s1.1 ⟨fun _ => w137 μ1 _ s1 W1 (by rw [e]; exact m1) (by rw [e]; exact hn), fun z => absurd z q⟩, fun z => absurd (by decide) z⟩
  · have hn := m1.f4.mp q
    rw [v6]
    refine xCall_of (c_known (d := d - 1) (by omega) (nxW_lt t len c)) (by omega) ?_
    rintro r μ1 ⟨rfl, rfl⟩
    refine ⟨_, rfl, ?_⟩
    have badL : (nbr kwds (nxW t len c).1 = none ∨ ∃ k, 7 ≤ k ∧ nbr kwds (nxW t len c).1 = some k) → rLine t len P c = (P, flC (nxW t len c).2 (nxW t len c).2.2.1) := by
      rintro (z | ⟨k, hk, z⟩)
      · unfold rLine; rw [z]
      · unfold rLine
        have : k < 12 := (nbr_lt z).1
        rw [z]
        have : k = 7 ∨ k = 8 ∨ k = 9 ∨ k = 10 ∨ k = 11 := by omega
        rcases this with rfl | rfl | rfl | rfl | rfl <;> rfl
    -- a line that can be
    have p116 : ∀ s : Int32, J μ1 0 0 137 [(0, .ref m), (1, .int (bV P.tl)), (2, .int s)] [] → J μ1 0 0 116 [(0, .ref m), (1, .int (bV P.tl)), (2, .int s)] [.int 1] := fun s z =>
      B_X12_readLine_116 g hr s1.1 ⟨fun _ => z, fun _ => ⟨fun _ => z, fun w => absurd w (by decide)⟩⟩
    have w101 : ∀ s : Int32, ¬ s = 6 → J μ1 0 0 137 [(0, .ref m), (1, .int (bV P.tl)), (2, .int s)] [] → J μ1 0 0 101 [(0, .ref m), (1, .int (bV P.tl)), (2, .int s)] [] := fun s z w =>
      B_X12_readLine_101 g hr ⟨fun _ => p116 s w, fun y => absurd y z⟩
    have w82 : ∀ s : Int32, ¬ s = 4 → ¬ s = 5 → J μ1 0 0 101 [(0, .ref m), (1, .int (bV P.tl)), (2, .int s)] [] → J μ1 0 0 82 [(0, .ref m), (1, .int (bV P.tl)), (2, .int s)] [] := fun s z z' w =>
      B_X12_readLine_82 g hr s1.1 ⟨fun y => absurd y z, fun _ => ⟨fun _ => w, fun y => absurd y z'⟩⟩
    have w63 : ∀ s : Int32, ¬ s = 2 → ¬ s = 3 → J μ1 0 0 82 [(0, .ref m), (1, .int (bV P.tl)), (2, .int s)] [] → J μ1 0 0 63 [(0, .ref m), (1, .int (bV P.tl)), (2, .int s)] [] := fun s z z' w =>
      B_X12_readLine_63 g hr s1.1 ⟨fun y => absurd y z, fun _ => ⟨fun _ => w, fun y => absurd y z'⟩⟩
    have w49 : ∀ s : Int32, ¬ s = 1 → J μ1 0 0 63 [(0, .ref m), (1, .int (bV P.tl)), (2, .int s)] [] → J μ1 0 0 49 [(0, .ref m), (1, .int (bV P.tl)), (2, .int s)] [] := fun s z w =>
      B_X12_readLine_49 g hr s1.1 ⟨fun _ => w, fun y => absurd y z⟩
    have w23 : ∀ s : Int32, ¬ s < 0 → ¬ 6 < s → ¬ s = 0 → J μ1 0 0 49 [(0, .ref m), (1, .int (bV P.tl)), (2, .int s)] [] → J μ1 0 0 23 [(0, .ref m), (1, .int (bV P.tl))] [.int s] := fun s z0 z6 z w =>
      B_X12_readLine_23 g hr s1.1 (by omega) ⟨fun y => absurd y z0, fun _ => ⟨fun y => absurd y z6, fun _ => ⟨fun _ => w, fun y => absurd y z⟩⟩⟩
    have fin : ∀ {q' : Pb × Cu} {μ' : Hp}, rLine t len P c = q' → q'.1.tl = P.tl → mlZ m X t len μ1 q' μ' → lineZ m X t len μ (rLine t len P c) (some (.int (bV P.tl))) μ' := fun e et z => by
      rw [e]
      exact ⟨P.tl, rfl, fun _ => et.symm, W1.b.tt z.1, z.2.1, z.2.2⟩
    cases hk : nbr kwds (nxW t len c).1 with
    | none =>
      exact B_X12_readLine_23 g hr s1.1 (by omega) ⟨fun _ => b116 _ hn (badL (Or.inl hk)), fun z => absurd (by decide) z⟩
    | some k =>
      have hk12 : k < 12 := (nbr_lt hk).1
      rcases Nat.lt_or_ge k 7 with h7 | h7
      · have : k = 0 ∨ k = 1 ∨ k = 2 ∨ k = 3 ∨ k = 4 ∨ k = 5 ∨ k = 6 := by omega
        rcases this with rfl | rfl | rfl | rfl | rfl | rfl | rfl
        · -- land
          have eL : rLine t len P c = rLand t len P (nxW t len c).2 := by unfold rLine; rw [hk]; rfl
          refine B_X12_readLine_23 g hr s1.1 (by omega) ⟨fun y => absurd y (by decide), fun _ => ⟨fun y => absurd y (by decide), fun _ => ⟨fun y => absurd rfl y, fun _ => ?_⟩⟩⟩
          rw [P1.1.1, show (6 : Int32) = nI 6 from rfl, nI6 6 p6 (by omega)]
          refine ⟨fun z => b116 _ hn (by rw [eL]; unfold rLand; rw [if_pos z]), fun z => w49 _ (by decide) (w63 _ (by decide) (by decide) (w82 _ (by decide) (by decide) (w101 _ (by decide) ?_)))⟩
          refine B_X12_readLine_137 g hr s1.1 ⟨fun _ => ⟨fun y => absurd y (by decide), fun _ => xCall_of (c_mLand (d := d - 1) (by omega) s1 hi m1 P1 hp (by omega)) (by omega) ?_, fun y => absurd y (by decide), fun y => absurd y (by decide), fun y => absurd y (by decide), fun y => absurd y (by decide), fun y => absurd y (by decide)⟩, fun y => absurd q y⟩
          rintro r μ' ⟨rfl, z'⟩
          exact ⟨rfl, bV_nar _, fin eL rLand_tl z'⟩
        · -- firm
          have eL : rLine t len P c = rFirm t len P (nxW t len c).2 := by unfold rLine; rw [hk]; rfl
          refine w23 _ (by decide) (by decide) (by decide) (B_X12_readLine_49 g hr s1.1 ⟨fun y => absurd rfl y, fun _ => ?_⟩)
          rw [P1.1.2.1, show (8 : Int32) = nI 8 from rfl, nI6 8 p8 (by omega)]
          refine ⟨fun z => b116 _ hn (by rw [eL]; unfold rFirm; rw [if_pos z]), fun z => w63 _ (by decide) (by decide) (w82 _ (by decide) (by decide) (w101 _ (by decide) ?_))⟩
          refine B_X12_readLine_137 g hr s1.1 ⟨fun _ => ⟨fun y => absurd y (by decide), fun y => absurd y (by decide), fun _ => xCall_of (c_mFirm (d := d - 1) (by omega) s1 hi m1 P1 hp (by omega)) (by omega) ?_, fun y => absurd y (by decide), fun y => absurd y (by decide), fun y => absurd y (by decide), fun y => absurd y (by decide)⟩, fun y => absurd q y⟩
          rintro r μ' ⟨rfl, z'⟩
          exact ⟨rfl, bV_nar _, fin eL rFirm_tl z'⟩
        · -- owns
          have eL : rLine t len P c = rLink t len P 0 (nxW t len c).2 := by unfold rLine; rw [hk]; rfl
          refine w23 _ (by decide) (by decide) (by decide) (w49 _ (by decide) (B_X12_readLine_63 g hr s1.1 ⟨fun _ => ?_, fun y => absurd rfl y⟩))
          rw [P1.1.2.2.2.1, show (16 : Int32) = nI 16 from rfl, nI6 16 p16 (by omega)]
          refine ⟨fun z => b116 _ hn (by rw [eL]; unfold rLink; rw [if_pos z]), fun z => w82 _ (by decide) (by decide) (w101 _ (by decide) ?_)⟩
          refine B_X12_readLine_137 g hr s1.1 ⟨fun _ => ⟨fun y => absurd y (by decide), fun y => absurd y (by decide), fun y => absurd y (by decide), fun _ => xCall_of (c_mLink (d := d - 1) (s := 0) (by omega) (by omega) s1 hi m1 P1 hp (by omega)) (by omega) ?_, fun y => absurd y (by decide), fun y => absurd y (by decide), fun y => absurd y (by decide)⟩, fun y => absurd q y⟩
          rintro r μ' ⟨rfl, z'⟩
          exact ⟨rfl, bV_nar _, fin eL rLink_tl z'⟩
        · -- lends
          have eL : rLine t len P c = rLink t len P 1 (nxW t len c).2 := by unfold rLine; rw [hk]; rfl
          refine w23 _ (by decide) (by decide) (by decide) (w49 _ (by decide) (B_X12_readLine_63 g hr s1.1 ⟨fun y => absurd y (by decide), fun _ => ⟨fun y => absurd rfl y, fun _ => ?_⟩⟩))
          rw [P1.1.2.2.2.1, show (16 : Int32) = nI 16 from rfl, nI6 16 p16 (by omega)]
          refine ⟨fun z => b116 _ hn (by rw [eL]; unfold rLink; rw [if_pos z]), fun z => w82 _ (by decide) (by decide) (w101 _ (by decide) ?_)⟩
          refine B_X12_readLine_137 g hr s1.1 ⟨fun _ => ⟨fun y => absurd y (by decide), fun y => absurd y (by decide), fun y => absurd y (by decide), fun y => absurd y (by decide), fun _ => xCall_of (c_mLink (d := d - 1) (s := 1) (by omega) (by omega) s1 hi m1 P1 hp (by omega)) (by omega) ?_, fun y => absurd y (by decide), fun y => absurd y (by decide)⟩, fun y => absurd q y⟩
          rintro r μ' ⟨rfl, z'⟩
          exact ⟨rfl, bV_nar _, fin eL rLink_tl z'⟩
        · -- treaty
          have eL : rLine t len P c = rTrty t len P 8 0 (nxW t len c).2 := by unfold rLine; rw [hk]; rfl
          refine w23 _ (by decide) (by decide) (by decide) (w49 _ (by decide) (w63 _ (by decide) (by decide) (B_X12_readLine_82 g hr s1.1 ⟨fun _ => ?_, fun y => absurd rfl y⟩)))
          rw [P1.1.2.2.1, show (12 : Int32) = nI 12 from rfl, nI6 12 p12 (by omega)]
          refine ⟨fun z => b116 _ hn (by rw [eL]; unfold rTrty; rw [if_pos z]), fun z => w101 _ (by decide) ?_⟩
          refine B_X12_readLine_137 g hr s1.1 ⟨fun _ => ⟨fun y => absurd y (by decide), fun y => absurd y (by decide), fun y => absurd y (by decide), fun y => absurd y (by decide), fun y => absurd y (by decide), fun _ => ⟨fun _ => xCall_of (c_mTrty (d := d - 1) (n := 8) (e := 0) (by omega) (Or.inl ⟨rfl, rfl⟩) s1 hi m1 P1 hp (by omega)) (by omega) ?_, fun y => absurd y (by decide)⟩, fun y => absurd y (by decide)⟩, fun y => absurd q y⟩
          rintro r μ' ⟨rfl, z'⟩
          exact ⟨rfl, bV_nar _, fin eL rTrty_tl z'⟩
        · -- ends
          have eL : rLine t len P c = rTrty t len P 1 1 (nxW t len c).2 := by unfold rLine; rw [hk]; rfl
          refine w23 _ (by decide) (by decide) (by decide) (w49 _ (by decide) (w63 _ (by decide) (by decide) (B_X12_readLine_82 g hr s1.1 ⟨fun y => absurd y (by decide), fun _ => ⟨fun y => absurd rfl y, fun _ => ?_⟩⟩)))
          rw [P1.1.2.2.1, show (12 : Int32) = nI 12 from rfl, nI6 12 p12 (by omega)]
          refine ⟨fun z => b116 _ hn (by rw [eL]; unfold rTrty; rw [if_pos z]), fun z => w101 _ (by decide) ?_⟩
          refine B_X12_readLine_137 g hr s1.1 ⟨fun _ => ⟨fun y => absurd y (by decide), fun y => absurd y (by decide), fun y => absurd y (by decide), fun y => absurd y (by decide), fun y => absurd y (by decide), fun y => absurd y (by decide), fun _ => ⟨fun y => absurd rfl y, fun _ => xCall_of (c_mTrty (d := d - 1) (n := 1) (e := 1) (by omega) (Or.inr ⟨rfl, rfl⟩) s1 hi m1 P1 hp (by omega)) (by omega) ?_⟩⟩, fun y => absurd q y⟩
          rintro r μ' ⟨rfl, z'⟩
          exact ⟨rfl, bV_nar _, fin eL rTrty_tl z'⟩
        · -- year
          have eL : rLine t len P c = rYear t len P (nxW t len c).2 := by unfold rLine; rw [hk]; rfl
          refine w23 _ (by decide) (by decide) (by decide) (w49 _ (by decide) (w63 _ (by decide) (by decide) (w82 _ (by decide) (by decide) (B_X12_readLine_101 g hr ⟨fun y => absurd rfl y, fun _ => ?_⟩))))
          rw [bV_0]
          refine ⟨fun z => b116 _ hn (by rw [eL]; unfold rYear; rw [if_pos (by cases ht : P.tl with
            | true => rfl
            | false => exact absurd ht z)]), fun z => p116 _ ?_⟩
          have eY : rLine t len P c = (P.setY (nxN t len 0 99 (nxW t len c).2).1, (nxN t len 0 99 (nxW t len c).2).2) := by
            rw [eL]; unfold rYear; rw [if_neg (by rw [z]; decide)]
          refine B_X12_readLine_137 g hr s1.1 ⟨fun _ => ⟨fun _ => k_mn (lo := 0) (hi := 99) (by omega) s1 m1 (by omega) (by omega) (fun μ2 m2 W2 _ => ⟨_, rfl, (W2.sh s1).1, ?_⟩), fun y => absurd y (by decide), fun y => absurd y (by decide), fun y => absurd y (by decide), fun y => absurd y (by decide), fun y => absurd y (by decide), fun y => absurd y (by decide)⟩, fun y => absurd q y⟩
          rw [eY]
          have s2 := W2.sh s1
          have P2 := P1.fr s1 W2
          refine ⟨true, rfl, fun _ => rfl, (W1.tt W2).b.tt (bkFr.g 26 _), m2.g s2 26 _, fun _ => ?_⟩
          obtain ⟨a1, a2, a3, a4, a5⟩ := P2
          refine ⟨⟨?_, ?_, ?_, ?_, ?_⟩, fun i x hx => ?_, fun i x hx => ?_, ?_, ?_⟩
          · rw [hI_wI_s, upd_n _ (by decide)]; exact a1.1
          · rw [hI_wI_s, upd_n _ (by decide)]; exact a1.2.1
          · rw [hI_wI_s, upd_n _ (by decide)]; exact a1.2.2.1
          · rw [hI_wI_s, upd_n _ (by decide)]; exact a1.2.2.2.1
          · rw [hI_wI_s, upd_s]; rfl
          · rw [hI_wI_n _ _ _ (s2.ne 7)]; exact a2 i x hx
          · rw [hI_wI_n _ _ _ (s2.ne 9)]; exact a3 i x hx
          · rw [hI_wI_n _ _ _ (s2.ne 13)]; exact a4
          · rw [hI_wI_n _ _ _ (s2.ne 11)]; exact a5
      · exact B_X12_readLine_23 g hr s1.1 (by omega) ⟨fun y => absurd y (nI_pos (by omega)), fun _ => ⟨fun _ => b116 _ hn (badL (Or.inr ⟨k, h7, hk⟩)), fun y => absurd (nI_lt (a := 6) h7 (by omega)) y⟩⟩
theorem c_mBook (hd : 13 ≤ d) (hs : mSh μ m X) (hi : mInj X) (h : mCu μ m X t len (none, 0, 0)) (hb : ∀ i, i < len → ∃ n, 1 ≤ n ∧ n ≤ 255 ∧ t i = nI n) : xC d yX12_readBook cX12_readBook 3 none 0 0 [.ref m] μ ro (fun r μ' => r = none ∧ mlZ m X t len μ (rBook t len) μ') := by
  refine I_X12_readBook (fun J g hr => B_X12_readBook_0 g hr hs.1 ?_)
  have D1 : bkFr m X μ (wI (wI (wI (wI (wI μ m 19 0) m 21 0) m 25 0) m 23 0) m 26 50) := ((((bkFr.g 19 _).tt (bkFr.g 21 _)).tt (bkFr.g 25 _)).tt (bkFr.g 23 _)).tt (bkFr.g 26 _)
  have m1 : mCu (wI (wI (wI (wI (wI μ m 19 0) m 21 0) m 25 0) m 23 0) m 26 50) m X t len (none, 0, 0) := ((((h.g hs 19 _).g hs 21 _).g hs 25 _).g hs 23 _).g hs 26 _
  have P1 : mPB (wI (wI (wI (wI (wI μ m 19 0) m 21 0) m 25 0) m 23 0) m 26 50) m X Pb.nil := by
    refine ⟨?_, fun i x hx => ?_, fun i x hx => ?_, fun i x hx => ?_, fun i x hx => ?_⟩
    · rw [hI_wI_s, hI_wI_s, hI_wI_s, hI_wI_s, hI_wI_s]
      exact ⟨by rw [upd_n _ (by decide), upd_n _ (by decide), upd_n _ (by decide), upd_n _ (by decide), upd_s]; rfl, by rw [upd_n _ (by decide), upd_n _ (by decide), upd_n _ (by decide), upd_s]; rfl, by rw [upd_n _ (by decide), upd_s]; rfl, by rw [upd_n _ (by decide), upd_n _ (by decide), upd_s]; rfl, by rw [upd_s]; rfl⟩
    · have hx' : ([] : List (List Nat × (Nat → Nat)))[i]? = some x := hx
      rw [List.getElem?_nil] at hx'; cases hx'
    · have hx' : ([] : List (List Nat × Nat × Nat))[i]? = some x := hx
      rw [List.getElem?_nil] at hx'; cases hx'
    · have hx' : ([] : List (Nat × Nat × Nat × Nat × Nat))[i]? = some x := hx
      rw [List.getElem?_nil] at hx'; cases hx'
    · have hx' : ([] : List (Nat → Nat))[i]? = some x := hx
      rw [List.getElem?_nil] at hx'; cases hx'
  generalize wI (wI (wI (wI (wI μ m 19 0) m 21 0) m 25 0) m 23 0) m 26 50 = μ1 at D1 m1 P1 ⊢
  unfold rBook at hr
  have ex : ∀ (μ' : Hp) (x : Int32), bkFr m X μ μ' → mCu μ' m X t len (rBk t len 401 Pb.nil (none, 0, 0)).2 → ((rBk t len 401 Pb.nil (none, 0, 0)).2.1 = none → (mPB μ' m X (rBk t len 401 Pb.nil (none, 0, 0)).1 ∧ pOk (rBk t len 401 Pb.nil (none, 0, 0)).1) ∧ (rBk t len 401 Pb.nil (none, 0, 0)).2.2.2 = len) → J μ' 0 0 30 [(0, .ref m), (1, .int x), (2, .int 0)] [] := by
    intro μ' x D' m' P'
    have s' := D'.sh hs
    refine B_X12_readBook_30 g hr s'.1 ⟨fun _ => ?_, fun q => absurd rfl q⟩
    rw [m'.1.2.2]
    generalize rBk t len 401 Pb.nil (none, 0, 0) = Q at m' P' ⊢
    have e8 : Q.2.1 = none → (hI μ' m 21 = 0 ↔ Q.1.fm.length = 0) := fun e => by
      have h8 := (P' e).1.2.1.2.1
      rw [(P' e).1.1.1.2.1]
      exact nI_eq (b := 0) (by omega) (by omega)
    refine ⟨fun q => ⟨rfl, D', ?_, fun e => ?_⟩, fun q => k_mf (by omega) s' m' m'.2.2.1.2.1 (fun μ4 m4 W4 _ _ => ⟨rfl, rfl, D'.tt W4.b, ?_, fun e => ?_⟩)⟩
    · by_cases e0 : Q.1.fm.length = 0
      · have hn : ¬ Q.2.1 = none := fun e => q ((e8 e).mpr e0)
        rw [if_pos e0, flC_id hn]; exact m'
      · rw [if_neg e0]; exact m'
    · by_cases e0 : Q.1.fm.length = 0
      · simp only [if_pos e0] at e; exact absurd e flC_n
      · simp only [if_neg e0] at e; exact (P' e).1.1
    · by_cases e0 : Q.1.fm.length = 0
      · rw [if_pos e0]
        by_cases hn : Q.2.1 = none
        · rw [(P' hn).2] at m4; exact m4
        · rw [flC_id hn] at m4 ⊢; exact m4
      · rw [if_neg e0]
        have hn : ¬ Q.2.1 = none := fun e => e0 ((e8 e).mp q)
        rw [flC_id hn] at m4; exact m4
    · by_cases e0 : Q.1.fm.length = 0
      · simp only [if_pos e0] at e; exact absurd e flC_n
      · simp only [if_neg e0] at e; exact absurd ((e8 e).mp q) e0
  have key : ∀ n i P c μ', i + n = 401 → i ≤ c.2.2 → c.1 = none → bkFr m X μ μ' → mCu μ' m X t len c → mPB μ' m X P → pOk P → rBk t len n P c = rBk t len 401 Pb.nil (none, 0, 0) → J μ' 0 0 30 [(0, .ref m), (1, .int (bV P.tl)), (2, .int 1)] [] := by
    intro n
    induction n with
    | zero =>
      intro i P c μ' hi1 hc _ _ m' _ _ _
      have h1 := m'.2.1
      have h2 := m'.2.2.1.2.1
      omega
    | succ n ih =>
      intro i P c μ' hi1 hc hn D' m' P' hp he
      have s' := D'.sh hs
      refine B_X12_readBook_30 g hr s'.1 ⟨fun q => absurd q (by decide), fun _ => xCall_of (c_mLine (d := d - 1) (by omega) s' hi m' hn P' hp) (by omega) ?_⟩
      rintro r μ4 ⟨b, rfl, hb4, D4, m4, P4⟩
      have D4' := D'.tt D4
      have s4 := D4'.sh hs
      refine ⟨_, rfl, s4.1, k_mg (by omega) s4 m4 hb (fun μ5 m5 W5 => ⟨_, rfl, ?_⟩)⟩
      have D5 := D4'.tt W5.b
      rw [rBk_s t len n P c] at he
      by_cases q : (goC t len (rLine t len P c).2).1 = true
      · rw [if_pos q] at he ⊢
        have h1 := goC_tn q
        have h2 := goC_t q
        have hat : c.2.2 ≤ (rLine t len P c).2.2.2 := rLine_ge
        rw [hb4 h1]
        exact ih (i + 1) _ _ μ5 (by omega) (by omega) h2.1 D5 m5 ((P4 h1).fr s4 W5) (rLine_p hp h1) he
      · rw [if_neg q] at he ⊢
        refine ex μ5 _ D5 (by rw [← he]; exact m5) (fun e => ?_)
        rw [← he] at e ⊢
        have h1 := goC_nn e
        exact ⟨⟨(P4 h1).fr s4 W5, rLine_p hp h1⟩, goC_f m4.2.2.1 q e⟩
  exact key 401 0 Pb.nil (none, 0, 0) μ1 (by omega) (Nat.le_refl _) rfl D1 m1 P1 pOk_nil rfl
end mrb
