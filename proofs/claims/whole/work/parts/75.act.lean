/-! acts on the whole state of the class -/
def St.upA (S : St) (f : Nat → Int32) (H : List (Nat → Int32)) (L : List Tri) : St := (S.1, S.2.1, S.2.2.1, f, H, L, S.2.2.2.2.2.2)
def St.upR (S : St) (rf : Nat → Int32) : St := (S.1, S.2.1, S.2.2.1, S.2.2.2.1, S.2.2.2.2.1, S.2.2.2.2.2.1, S.2.2.2.2.2.2.1, S.2.2.2.2.2.2.2.1, S.2.2.2.2.2.2.2.2.1, rf)
def fmO (act a c : Int32) : Int32 := if act = 1 then -1 else if act = 0 then c else a
def St.act (S : St) (act a b c e : Int32) : St := S.upA (doR S.B S.f act a b c e) ((S.f :: S.H).take 40) ((act, doN S.B S.f act a b c e, fmO act a c) :: S.L)
/-- an act that may be refused: the state then -/
def St.tryA (S : St) (act a b c e : Int32) : St := if rsn S.B S.f act a b c e = -1 then S.act act a b c e else S
def St.hand (S : St) (act a b c e : Int32) : St := if rsn S.B S.f act a b c e = -1 then S.act act a b c e else S.upR (upd S.rf (cl (rsn S.B S.f act a b c e)) (S.rf (cl (rsn S.B S.f act a b c e)) + 1))
def aHand (S : St) (act a b c e : Int32) : Int32 := if rsn S.B S.f act a b c e = -1 then doN S.B S.f act a b c e else -1
/-- what the class may change -/
def gFr (I : List Nat) (A : Nat → Nat) (μ μ' : Hp) : Prop := hR μ' = hR μ ∧ hS μ' = hS μ ∧ (∀ a, a ∉ I.map A → hI μ' a = hI μ a) ∧ ∀ a, a ≠ A 0 → hL μ' a = hL μ a
theorem gFr.rf {I : List Nat} {A : Nat → Nat} {μ : Hp} : gFr I A μ μ := ⟨rfl, rfl, fun _ _ => rfl, fun _ _ => rfl⟩
theorem gFr.tt {I : List Nat} {A : Nat → Nat} {μ μ1 μ2 : Hp} (h : gFr I A μ μ1) (h' : gFr I A μ1 μ2) : gFr I A μ μ2 := ⟨h'.1.trans h.1, h'.2.1.trans h.2.1, fun a ha => (h'.2.2.1 a ha).trans (h.2.2.1 a ha), fun a ha => (h'.2.2.2 a ha).trans (h.2.2.2 a ha)⟩
theorem Fr.g {I : List Nat} {A : Nat → Nat} {μ μ' : Hp} (h : Fr (I.map A) μ μ') : gFr I A μ μ' := ⟨h.2.1, h.2.2.1, h.2.2.2, fun a _ => by rw [h.1]⟩
theorem gFr.sub {I K : List Nat} {A : Nat → Nat} {μ μ' : Hp} (h : gFr I A μ μ') (hs : ∀ k ∈ I, k ∈ K := by decide) : gFr K A μ μ' := ⟨h.1, h.2.1, fun a ha => h.2.2.1 a (fun q => ha (by
  obtain ⟨k, hk, e⟩ := List.mem_map.mp q
  exact List.mem_map.mpr ⟨k, hs k hk, e⟩)), h.2.2.2⟩
theorem gFr.o {A : Nat → Nat} {I : List Nat} {μ μ' : Hp} (h : gFr I A μ μ') (hj : cInj A) (i : Nat) (hi : i < 51 ∧ i ∉ I ∧ ∀ k ∈ I, k < 51 := by decide) : hI μ' (A i) = hI μ (A i) := by
  refine h.2.2.1 _ (fun hm => ?_)
  obtain ⟨k, hk, e⟩ := List.mem_map.mp hm
  have := hj k i (hi.2.2 k hk) hi.1 e
  subst this
  exact hi.2.1 hk
abbrev aI : List Nat := [14, 15, 16, 17, 18, 19, 20, 21, 22, 35, 36, 34, 24, 25, 26, 27, 32]
/-- what acts leave alone -/
def cRest (μ : Hp) (A : Nat → Nat) (S : St) : Prop := cNm μ A S.B S.nmL S.nmF ∧ cIm μ A S.B S.im ∧ cTp μ A S.len S.tp ∧ cSc μ A S.ns S.sl S.sr ∧ cRf μ A S.rf
theorem cRest.fr {μ μ' : Hp} {A : Nat → Nat} {S : St} (h : cRest μ A S) (hj : cInj A) (hF : gFr aI A μ μ') : cRest μ' A S := by
  obtain ⟨h2, h5, h6, h7, h8⟩ := h
  refine ⟨?_, ?_, ?_, ?_, ?_⟩
  · unfold cNm; rw [hF.2.2.2 _ (hj.ne 40 0), hF.2.2.2 _ (hj.ne 41 0)]; exact h2
  · unfold cIm; rw [hF.o hj 0, hF.o hj 38, hF.o hj 28, hF.o hj 29, hF.1]; exact h5
  · unfold cTp; rw [hF.o hj 1, hF.o hj 2]; exact h6
  · refine h7.fr (by rw [hF.o hj 0]) (fun k hk => ?_)
    have : k = 0 ∨ k = 1 ∨ k = 2 ∨ k = 3 := by omega
    rcases this with rfl | rfl | rfl | rfl
    · exact ⟨hF.o hj 4, hF.o hj 9⟩
    · exact ⟨hF.o hj 5, hF.o hj 10⟩
    · exact ⟨hF.o hj 6, hF.o hj 11⟩
    · exact ⟨hF.o hj 7, hF.o hj 12⟩
  · unfold cRf; rw [hF.o hj 31]; exact h8
theorem cR.rest {μ : Hp} {A : Nat → Nat} {S : St} (h : cR μ A S) : cRest μ A S := ⟨h.2.1, h.2.2.2.2.1, h.2.2.2.2.2.1, h.2.2.2.2.2.2.1, h.2.2.2.2.2.2.2⟩
theorem take40 {α : Type} {x : α} {l : List α} (h : l.length ≤ 40) : ((x :: l).take 40).length = min (l.length + 1) 40 := by rw [List.length_take, List.length_cons, Nat.min_comm]
section act
variable {d : Nat} {ro : Nat → Nat} {μ : Hp} {A : Nat → Nat} {S : St}
theorem c_firmOf {act a c : Int32} : xC d yX1_firmOf cX1_firmOf 3 (some .int) 0 0 [.int act, .int a, .int c] μ ro (fun r μ' => μ' = μ ∧ r = some (.int (fmO act a c))) := by
  unfold fmO
  exact I_X1_firmOf (fun J g hr => B_X1_firmOf_0 g hr ⟨fun c1 => ⟨fun c2 => ⟨rfl, by rw [if_neg c1, if_neg c2]⟩, fun c2 => ⟨rfl, by rw [if_neg c1, if_pos c2]⟩⟩, fun c1 => ⟨rfl, by rw [if_pos c1]⟩⟩)
theorem c_actNow {act a b c e : Int32} (hd : 5 ≤ d) (h : cR μ A S) (hr : rsn S.B S.f act a b c e = -1) (hw : payW μ A S.B S.f act a b c e) : xC d yX11_actNow cX11_actNow 6 (some .int) 0 0 [.ref (A 0), .int act, .int a, .int b, .int c] μ ro (fun r μ' => r = some (.int (doN S.B S.f act a b c e)) ∧ cR μ' A (S.act act a b c e) ∧ gFr aI A μ μ' ∧ hL μ' = hL μ) := by
  have hrest := h.rest
  obtain ⟨hq, -, ⟨⟨nx, hh⟩, hgood, hHL⟩, ⟨ln, lh, hl⟩, -⟩ := id h
  have hsh := hq.1.1
  have hj := hq.1.2
  have hhs : isHs μ (A 24) (A 25) := ⟨hsh.s 24 8 3, hsh.r 24 2 25, hsh.s 25 0 4480⟩
  have hlg : isLg μ (A 26) (A 27) := ⟨hsh.s 26 9 3, hsh.r 26 2 27, hsh.s 27 0 300⟩
  refine I_X11_actNow (fun J g hz => B_X11_actNow_0 g hz (hsh.s 0 14 18) (hsh.r 0 4 24) (hsh.r 0 10 33) (hsh.s 24 8 3) (xCall_of (c_hsKeep (d := d - 1) (by omega) hhs hsh.st hh.1.2.1 hh.1.2.2.1 hh.1.1 hh.1.2.2.2) (by omega) ?_))
  rintro r μ2 ⟨rfl, e2⟩
  rw [hq.2.2.2.2.1.1] at e2
  have o2 : ∀ i, i < 51 → 24 ≠ i → 25 ≠ i → hI μ2 (A i) = hI μ (A i) := fun i hi n1 n2 => by
    rw [e2, hI_wRow_n _ _ (hj.ne i 24 hi (by decide) (Ne.symm n1)), hI_wRow_n _ _ (hj.ne i 25 hi (by decide) (Ne.symm n2))]
  have s2 : cSh μ2 A := hsh.of (by rw [e2]; rfl) (by rw [e2]; rfl)
  have h2 : cAt μ2 A S.B S.f 33 := by
    obtain ⟨a1, a2, a3, a4, a5, a6, a7⟩ := hq.at
    refine ⟨a1, ⟨s2, hj⟩, ?_, ?_, a5, ?_, ?_⟩
    · rw [o2 39 (by decide) (by decide) (by decide)]; exact a3
    · rw [o2 42 (by decide) (by decide) (by decide), o2 43 (by decide) (by decide) (by decide), o2 44 (by decide) (by decide) (by decide)]; exact a4
    · rw [o2 34 (by decide) (by decide) (by decide), o2 33 (by decide) (by decide) (by decide)]; exact a6
    · rw [o2 14 (by decide) (by decide) (by decide)]; exact a7
  have w2 : payW μ2 A S.B S.f act a b c e := fun q => by
    obtain ⟨ha, w, ew, hb⟩ := hw q
    refine ⟨ha, w, ew, ?_⟩
    unfold cBest at hb ⊢
    rw [o2 16 (by decide) (by decide) (by decide), o2 15 (by decide) (by decide) (by decide)]
    exact hb
  refine ⟨rfl, s2.s 0 14 18, _, s2.r 0 3 23, _, s2.r 0 10 33, s2.s 23 5 1, xCall_of (c_carry (d := d - 1) (by omega) h2 hr w2) (by omega) ?_⟩
  rintro r μ6 ⟨rfl, e6⟩
  have s6 : cSh μ6 A := s2.of (by rw [e6]; rfl) (by rw [e6]; rfl)
  refine ⟨_, rfl, s6.s 0 14 18, _, s6.r 0 5 26, xCall_of (c_firmOf (d := d - 1)) (by omega) ?_⟩
  rintro r μ6 ⟨rfl, rfl⟩
  have o6 : ∀ i, i < 51 → 34 ≠ i → hI μ6 (A i) = hI μ2 (A i) := fun i hi n1 => by
    rw [e6, hI_wRow_n _ _ (hj.ne i 34 hi (by decide) (Ne.symm n1))]
  have q26 : hI μ6 (A 26) = hI μ (A 26) := by rw [o6 26 (by decide) (by decide), o2 26 (by decide) (by decide) (by decide)]
  have q27 : hI μ6 (A 27) = hI μ (A 27) := by rw [o6 27 (by decide) (by decide), o2 27 (by decide) (by decide) (by decide)]
  have q24 : hI μ6 (A 24) = lgHead (hI μ (A 24)) ((nx + 1) % 40) (min (S.H.length + 1) 40) := by rw [o6 24 (by decide) (by decide), e2, hI_wRow_s]
  have q25 : hI μ6 (A 25) = hsRow (hI μ (A 25)) S.f nx := by rw [o6 25 (by decide) (by decide), e2, hI_wRow_n _ _ (hj.ne 25 24), hI_wRow_s]
  have q34 : hI μ6 (A 34) = doR S.B S.f act a b c e := by rw [e6, hI_wRow_s]
  have F6 : Fr (aI.map A) μ μ6 := by
    rw [e6, e2]
    exact ((Fr.rf.rowA 25 _).rowA 24 _).rowA 34 _
  refine ⟨_, rfl, s6.s 26 9 3, xCall_of (c_lgAdd (d := d - 1) (nx := ln) (hd := lh) (by omega) ⟨s6.s 26 9 3, s6.r 26 2 27, s6.s 27 0 300⟩ (by rw [q26]; exact hl.1.2.1) hl.1.2.2.1 (by rw [q26]; exact hl.1.1) hl.1.2.2.2.1) (by omega) ?_⟩
  rintro r μ9 ⟨rfl, e9⟩
  rw [q26, q27] at e9
  have F9 : Fr (aI.map A) μ μ9 := by
    rw [e9]
    exact (F6.rowA 27 _).rowA 26 _
  have G9 := F9.g
  have o9 : ∀ i, i < 51 → 26 ≠ i → 27 ≠ i → hI μ9 (A i) = hI μ6 (A i) := fun i hi n1 n2 => by
    rw [e9, hI_wRow_n _ _ (hj.ne i 26 hi (by decide) (Ne.symm n1)), hI_wRow_n _ _ (hj.ne i 27 hi (by decide) (Ne.symm n2))]
  obtain ⟨d1, d2⟩ := doR_ok hq.2.2.2.1 hq.2.2.2.2.1.2.1 hq.2.2.2.2.2.2.1 hr
  refine ⟨rfl, rfl, ?_, G9, ?_⟩
  · have r9 := hrest.fr hj G9
    have hq9 : cQ μ9 A S.B (doR S.B S.f act a b c e) := by
      obtain ⟨b1, b2, b3, b4, ⟨b5, b6, b7⟩, b8, b9, b10⟩ := hq
      refine ⟨⟨hsh.fr F9, hj⟩, ?_, ?_, b4, ⟨?_, d1, ?_⟩, ?_, d2, ?_⟩
      · rw [F9.o hj 39]; exact b2
      · rw [F9.o hj 42, F9.o hj 43, F9.o hj 44]; exact b3
      · rw [o9 34 (by decide) (by decide) (by decide)]; exact q34
      · rw [F9.o hj 33]; exact b7
      · rw [o9 14 (by decide) (by decide) (by decide), o6 14 (by decide) (by decide), o2 14 (by decide) (by decide) (by decide)]; exact b8
      · rw [o9 36 (by decide) (by decide) (by decide), o6 36 (by decide) (by decide), o2 36 (by decide) (by decide) (by decide)]; exact b10
    have hlen := take40 (x := S.f) hh.1.2.2.2
    refine ⟨hq9, r9.1, ⟨⟨(nx + 1) % 40, ?_⟩, ?_, ?_⟩, ⟨(ln + 1) % 100, min (lh + 1) 100, ?_⟩, r9.2.1, r9.2.2.1, r9.2.2.2.1, r9.2.2.2.2⟩
    · rw [o9 24 (by decide) (by decide) (by decide), o9 25 (by decide) (by decide) (by decide), q24, q25]
      exact hh.keep
    · intro g' hg'
      rcases List.mem_cons.mp (List.mem_of_mem_take hg') with rfl | hm
      · exact ⟨hq.2.2.2.2.1.2.1, hq.2.2.2.2.2.2.1⟩
      · exact hgood g' hm
    · show ((S.f :: S.H).take 40).length ≤ S.L.length + 1
      rw [hlen]; omega
    · show lgOk (hI μ9 (A 26)) (hI μ9 (A 27)) _ _ (_ :: S.L) (60 + ((S.f :: S.H).take 40).length)
      rw [hlen, e9, hI_wRow_s, hI_wRow_n _ _ (hj.ne 27 26), hI_wRow_s]
      exact lgAdd_ok (e := (act, doN S.B S.f act a b c e, fmO act a c)) hl (by omega) (by omega)
  · exact F9.1
theorem sFr.g {μ' : Hp} (h : sFr A μ μ') : gFr aI A μ μ' := (Fr.g h.1.1).sub
theorem c_actIf {row i : Nat} {act a b c e : Int32} (hd : 13 ≤ d) (h : cR μ A S) (hN : ∃ N, hS μ row = some (0, N) ∧ i + 4 < N ∧ N < 1000) (hv : hI μ row i = act ∧ hI μ row (i + 1) = a ∧ hI μ row (i + 2) = b ∧ hI μ row (i + 3) = c ∧ hI μ row (i + 4) = e) (hrow : row ∉ qI.map A) :
    xC d yX11_actIfItCanBe cX11_actIfItCanBe 3 (some .boolean) 0 0 [.ref (A 0), .ref row, .int (nI i)] μ ro (fun r μ' => r = some (.int (if rsn S.B S.f act a b c e = -1 then 1 else 0)) ∧ cR μ' A (S.tryA act a b c e) ∧ gFr aI A μ μ' ∧ hL μ' = hL μ) := by
  obtain ⟨N, hN, hi, hN1⟩ := hN
  have hq := h.1
  have hsh := hq.1.1
  have hj := hq.1.2
  obtain ⟨v0, v1, v2, v3, v4⟩ := hv
  have e1 : nI i + 1 = nI (i + 1) := nI_add i 1
  have e2 : nI i + 2 = nI (i + 2) := nI_add i 2
  have e3 : nI i + 3 = nI (i + 3) := nI_add i 3
  have e4 : nI i + 4 = nI (i + 4) := nI_add i 4
  refine I_X11_actIfItCanBe (fun J g hz => B_X11_actIfItCanBe_0 g hz (hsh.s 0 14 18) (hsh.r 0 3 23) (hsh.r 0 10 33) hN (hsh.s 23 5 1) ?_)
  rw [e1, e2, e3, e4, nI_clamp (by omega), nI_clamp (by omega), nI_clamp (by omega), nI_clamp (by omega), nI_clamp (by omega), v0, v1, v2, v3, v4]
  refine ⟨vp_in_nI (by omega) (by omega), vp_in_nI (by omega) (by omega), vp_in_nI (by omega) (by omega), vp_in_nI (by omega) (by omega), vp_in_nI (by omega) (by omega), xCall_of (c_reason (d := d - 1) (by omega) hq.at) (by omega) ?_⟩
  rintro r μ' ⟨hF, rfl, hw⟩
  have h' := h.fr hF.1
  have o32 : hL μ' = hL μ := hF.1.1.1
  by_cases hr : rsn S.B S.f act a b c e = -1
  · rw [if_pos hr]
    unfold St.tryA
    rw [if_pos hr, hr]
    have hs' := h'.1.1.1
    have hrw : hI μ' row = hI μ row := hF.1.1.2.2.2 _ hrow
    refine ⟨_, rfl, fun _ => ⟨N, by rw [(hF.1.1.2.2.1 : hS μ' = hS μ)]; exact hN, vp_in_nI (by omega) (by omega), vp_in_nI (by omega) (by omega), vp_in_nI (by omega) (by omega), vp_in_nI (by omega) (by omega), hs'.s 0 14 18, ?_⟩, fun c => absurd rfl c⟩
    rw [hrw, v0, v1, v2, v3]
    refine xCall_of (c_actNow (d := d - 1) (by omega) h' hr (hw hr)) (by omega) ?_
    rintro r μ2 ⟨rfl, g1, g2, g3⟩
    exact ⟨_, rfl, rfl, g1, hF.g.tt g2, g3.trans o32⟩
  · rw [if_neg hr]
    unfold St.tryA
    rw [if_neg hr]
    exact ⟨_, rfl, fun c => absurd c hr, fun _ => ⟨rfl, h', hF.g, o32⟩⟩
abbrev hI' : List Nat := [14, 15, 16, 17, 18, 19, 20, 21, 22, 35, 36, 34, 24, 25, 26, 27, 32, 31]
theorem rsn_ok {B : Bk} {f : Nat → Int32} {act a b c e : Int32} : rsn B f act a b c e = -1 ∨ (cl (rsn B f act a b c e) < 4 ∧ rsn B f act a b c e = nI (cl (rsn B f act a b c e))) := by
  have key : ∀ x : Int32, (x = -1 ∨ x = 0 ∨ x = 1 ∨ x = 2 ∨ x = 3) → x = -1 ∨ (cl x < 4 ∧ x = nI (cl x)) := by
    rintro x (rfl | rfl | rfl | rfl | rfl) <;> decide
  refine key _ ?_
  unfold rsn rPay rPass rStaff rOwn rLend
  repeat' split
  all_goals simp
theorem c_byHand {act a b c e : Int32} (hd : 13 ≤ d) (h : cR μ A S) : xC d yX11_actByHand cX11_actByHand 7 (some .int) 0 0 [.ref (A 0), .int act, .int a, .int b, .int c, .int e] μ ro (fun r μ' => r = some (.int (aHand S act a b c e)) ∧ cR μ' A (S.hand act a b c e) ∧ gFr hI' A μ μ') := by
  have hq := h.1
  have hsh := hq.1.1
  have hj := hq.1.2
  unfold aHand St.hand
  refine I_X11_actByHand (fun J g hz => B_X11_actByHand_0 g hz (hsh.s 0 14 18) (hsh.r 0 3 23) (hsh.r 0 10 33) (hsh.s 23 5 1) (xCall_of (c_reason (d := d - 1) (by omega) hq.at) (by omega) ?_))
  rintro r μ' ⟨hF, rfl, hw⟩
  have h' := h.fr hF.1
  have hs' := h'.1.1.1
  by_cases hr : rsn S.B S.f act a b c e = -1
  · rw [if_pos hr, if_pos hr]
    refine ⟨_, rfl, fun _ => ⟨hs'.s 0 14 18, xCall_of (c_actNow (d := d - 1) (by omega) h' hr (hw hr)) (by omega) ?_⟩, fun c => absurd hr c⟩
    rintro r μ2 ⟨rfl, g1, g2, g3⟩
    exact ⟨_, rfl, rfl, g1, (hF.g.tt g2).sub⟩
  · rw [if_neg hr, if_neg hr]
    obtain ⟨k4, ek⟩ := rsn_ok.resolve_left hr
    refine ⟨_, rfl, fun c => absurd c hr, fun _ => ⟨hs'.s 0 14 18, _, hs'.r 0 8 31, _, hs'.s 31 0 4, by rw [ek]; exact vp_in_nI k4 (by omega), rfl, ?_, ?_⟩⟩
    · obtain ⟨b1, b2, b3, b4, b5, b6, b7, b8⟩ := h'
      generalize hk : cl (rsn S.B S.f act a b c e) = k at k4 ek
      rw [show (rsn S.B S.f act a b c e).toNatClampNeg = k from hk]
      generalize hμ2 : wI μ' (A 31) k (hI μ' (A 31) k + 1) = μ2
      have o : ∀ i, i < 51 → 31 ≠ i → hI μ2 (A i) = hI μ' (A i) := fun i hi n => by rw [← hμ2, hI_wI_n _ _ _ (hj.ne i 31 hi (by decide) (Ne.symm n))]
      have hL2 : hL μ2 = hL μ' := by rw [← hμ2]; rfl
      have hR2 : hR μ2 = hR μ' := by rw [← hμ2]; rfl
      have hS2 : hS μ2 = hS μ' := by rw [← hμ2]; rfl
      refine ⟨?_, ?_, ⟨?_, b3.2⟩, ?_, ?_, ?_, ?_, ?_⟩
      · obtain ⟨a1, a2, a3, a4, a5, a6, a7, a8⟩ := b1
        refine ⟨⟨a1.1.of hS2 hR2, hj⟩, ?_, ?_, a4, ?_, ?_, a7, ?_⟩
        · rw [o 39 (by decide) (by decide)]; exact a2
        · rw [o 42 (by decide) (by decide), o 43 (by decide) (by decide), o 44 (by decide) (by decide)]; exact a3
        · rw [o 34 (by decide) (by decide), o 33 (by decide) (by decide)]; exact a5
        · rw [o 14 (by decide) (by decide)]; exact a6
        · rw [o 36 (by decide) (by decide)]; exact a8
      · unfold cNm; rw [hL2]; exact b2
      · unfold cHs; rw [o 24 (by decide) (by decide), o 25 (by decide) (by decide)]; exact b3.1
      · unfold cLg; rw [o 26 (by decide) (by decide), o 27 (by decide) (by decide)]; exact b4
      · unfold cIm; rw [o 0 (by decide) (by decide), o 38 (by decide) (by decide), o 28 (by decide) (by decide), o 29 (by decide) (by decide), hR2]; exact b5
      · unfold cTp; rw [o 1 (by decide) (by decide), o 2 (by decide) (by decide)]; exact b6
      · exact b7.fr (by rw [o 0 (by decide) (by decide)]) (fun k hk => ⟨o _ (by omega) (by omega), o _ (by omega) (by omega)⟩)
      · intro i hi
        show hI μ2 (A 31) i = upd S.rf k (S.rf k + 1) i
        rw [← hμ2, hI_wI_s]
        by_cases e : i = k
        · subst e; rw [upd_s, upd_s, b8 i hi]
        · rw [upd_n _ e, upd_n _ e]; exact b8 i hi
    · have G1 : gFr hI' A μ' (wI μ' (A 31) (rsn S.B S.f act a b c e).toNatClampNeg (hI μ' (A 31) (rsn S.B S.f act a b c e).toNatClampNeg + 1)) := Fr.g (Fr.rf.wiA 31 _ _)
      exact (gFr.sub (K := hI') hF.g).tt G1
end act
