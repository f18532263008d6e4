/-! the model's text, whole -/
section mtt
variable {d : Nat} {ro : Nat → Nat} {μ μ' : Hp} {m : Nat} {X : Nat → Nat} {S : St} {P : Pb}
theorem cPK.c {f : Nat → Int32} {P : Pb} (h : cPK f P.lk) {k c : Nat} {x : Nat × Nat × Nat × Nat × Nat} (hx : P.lk[k]? = some x) (hc : c < 5) {g : Nat → Int32} (hm : mPK g P.lk) : g (5 * k + c) = f (32 + 16 * c + k) := by
  have a := h.2 k x hx
  have b := hm k x hx
  have : c = 0 ∨ c = 1 ∨ c = 2 ∨ c = 3 ∨ c = 4 := by omega
  rcases this with rfl | rfl | rfl | rfl | rfl
  · exact b.1.trans a.1.symm
  · exact b.2.1.trans a.2.1.symm
  · exact b.2.2.1.trans a.2.2.1.symm
  · exact b.2.2.2.1.trans a.2.2.2.1.symm
  · exact b.2.2.2.2.trans a.2.2.2.2.symm
/-- a book that has begun is the new state's -/
theorem begun {B : Bk} {f : Nat → Int32} (h : mR μ m X S) (hP : mPB μ m X P) (hp : pOk P) (h0 : 0 < P.fm.length) (hB : mtB P B f) (h2 : hI μ m 2 = 0) (G : gFm m X μ μ') (D : bgD X μ μ') (N : bgN X μ μ') (C : hI μ' m 20 = nI P.ld.length ∧ hI μ' m 22 = nI P.fm.length ∧ hI μ' m 24 = nI P.tr.length ∧ hI μ' m 35 = 0 ∧ hI μ' m 36 = 0) (hy : hI μ' (X 30) 30 = nI P.yr) (hk : hI μ' (X 30) 31 = nI P.lk.length) (hf : ∀ j, j < P.fm.length → hI μ' (X 30) (8 + j) = hI μ (X 9) (2 * j + 1)) (hl : ∀ j, j < 5 * P.lk.length → hI μ' (X 30) (32 + j) = hI μ (X 13) j) (hz : ∀ j, j < 293 → j ≠ 30 → j ≠ 31 → ¬ (8 ≤ j ∧ j < 8 + P.fm.length) → ¬ (32 ≤ j ∧ j < 32 + 5 * P.lk.length) → hI μ' (X 30) j = 0) : mR μ' m X (S.opn B f P) := by
  have hs := h.1.1.1
  have hi := h.1.1.2
  have hbk := hB.ok hp h0
  obtain ⟨⟨p6, p8, p16, p12⟩, q1, q2, -⟩ := hp
  obtain ⟨⟨b1, b2, b3⟩, c1, c2, c3, c4, c5, c6, c7⟩ := hB
  obtain ⟨a1, a2, a3, ⟨d1, d2, d3, d4, d5⟩⟩ := h
  have get' : ∀ {α : Type} (l : List α) (i : Nat), i < l.length → ∃ x, l[i]? = some x := fun l i hi => ⟨l[i], List.getElem?_eq_getElem hi⟩
  have m38 := a1.2.2.2.1
  refine ⟨⟨⟨G.sh hs, hi⟩, ⟨⟨?_, ?_, ?_⟩, fun l c hll hc => ?_, fun j hj => ?_, fun t ht => ?_⟩, ⟨⟨?_, ?_, fun j hj => ⟨?_, ?_⟩, fun k c hkk hc => ?_⟩, ?_, fun j hj => ?_, fun l hll => ?_⟩, ?_, hbk.1, hbk.2.1⟩, ⟨?_, fun i e hi' => ?_⟩, ⟨?_, ?_⟩, ⟨fun l hll => ?_, fun j hj => ?_⟩, ⟨?_, fun q hq => by cases hq⟩, ⟨?_, fun i hi' => ?_⟩, ⟨?_, fun k hkk => ⟨?_, fun j hj => ?_⟩⟩, ?_⟩
  · rw [C.1]; exact congrArg nI b1.symm
  · rw [C.2.1]; exact congrArg nI b2.symm
  · rw [C.2.2.1]; exact congrArg nI b3.symm
  · have hll' : l < P.ld.length := by have : l < B.nl := hll; omega
    obtain ⟨x, hx⟩ := get' P.ld l hll'
    rw [D.1 _ (by omega), (hP.2.1 l x hx).2 c hc]
    show _ = B.lw (c * 6 + l)
    rw [show c * 6 + l = 6 * c + l by omega, c1 l x hx c hc]
  · have hj' : j < P.fm.length := by have : j < B.nf := hj; omega
    obtain ⟨x, hx⟩ := get' P.fm j hj'
    rw [D.2.1 _ (by omega), (hP.2.2.1 j x hx).2.1]
    exact (c2 j x hx).1.symm
  · have ht' : t < P.tr.length := by have : t < B.nt := ht; omega
    obtain ⟨x, hx⟩ := get' P.tr t ht'
    have v := hP.2.2.2.2 t x hx
    have w := c4 t x hx
    refine ⟨?_, ?_, fun c hc => ?_, ?_⟩
    · rw [D.2.2 _ (by omega)]
      have := v 8 (by omega)
      have e := w 8 (by omega)
      rw [show 12 * 8 + t = 96 + t by omega] at e
      exact this.trans e.symm
    · rw [D.2.2 _ (by omega)]
      have := v 9 (by omega)
      have e := w 9 (by omega)
      rw [show 12 * 9 + t = 108 + t by omega] at e
      exact this.trans e.symm
    · rw [D.2.2 _ (by omega)]
      have := v c (by omega)
      unfold tmI at this
      rw [if_pos hc, show 11 * t + (c + 2) = 11 * t + 2 + c by omega] at this
      exact this.trans (w c (by omega)).symm
    · rw [D.2.2 _ (by omega)]
      have := v 10 (by omega)
      have e := w 10 (by omega)
      rw [show 12 * 10 + t = 120 + t by omega] at e
      exact this.trans e.symm
  · show hI μ' (X 30) 31 = nI (cl (f 1))
    rw [hk, c3.1, cl_nI (by omega)]
  · show f 1 = nI (cl (f 1))
    rw [c3.1, cl_nI (by omega)]
  · show hI μ' (X 30) (8 + j) = f (2 + j)
    rcases Nat.lt_or_ge j P.fm.length with q | q
    · obtain ⟨x, hx⟩ := get' P.fm j q
      rw [hf j q, (hP.2.2.1 j x hx).2.2]
      exact (c2 j x hx).2.symm
    · rw [hz (8 + j) (by omega) (by omega) (by omega) (by omega) (by omega)]
      rcases c6 (2 + j) (by omega) (by omega) with w | w
      · omega
      · exact w.symm
  · show hI μ' (X 30) j = f (10 + j)
    rw [hz j (by omega) (by omega) (by omega) (by omega) (by omega)]
    rcases c6 (10 + j) (by omega) (by omega) with w | w
    · omega
    · exact w.symm
  · show hI μ' (X 30) (32 + 5 * k + c) = f (32 + 16 * c + k)
    have hkk' : k < cl (f 1) := hkk
    rw [c3.1, cl_nI (by omega)] at hkk'
    obtain ⟨x, hx⟩ := get' P.lk k hkk'
    rw [show 32 + 5 * k + c = 32 + (5 * k + c) by omega, hl _ (by omega)]
    exact c3.c hx hc hP.2.2.2.1
  · show hI μ' (X 30) 30 = f 0
    rw [hy, c5]
  · show hI μ' (X 30) (16 + j) = f (18 + j)
    rw [hz (16 + j) (by omega) (by omega) (by omega) (by omega) (by omega)]
    rcases c6 (18 + j) (by omega) (by omega) with w | w
    · omega
    · exact w.symm
  · show hI μ' (X 30) (24 + l) = f (26 + l)
    rw [hz (24 + l) (by omega) (by omega) (by omega) (by omega) (by omega)]
    rcases c6 (26 + l) (by omega) (by omega) with w | w
    · omega
    · exact w.symm
  · rw [G.2.2.2 38 (by decide) (by decide) (by decide) (by decide) (by decide), G.2.2.2 39 (by decide) (by decide) (by decide) (by decide) (by decide), G.2.2.2 40 (by decide) (by decide) (by decide) (by decide) (by decide)]; exact m38
  · rw [hz 112 (by omega) (by omega) (by omega) (by omega) (by omega)]; rfl
  · have : i < min 0 60 := hi'
    omega
  · rw [C.2.2.2.1]; rfl
  · obtain ⟨-, fi, g1, g2, -⟩ := a3
    refine ⟨fi, g1, by rw [G.2.2.2 34 (by decide) (by decide) (by decide) (by decide) (by decide)]; exact g2, fun i gg (hg : ([] : List (Nat → Int32))[i]? = some gg) => ?_⟩
    rw [List.getElem?_nil] at hg; cases hg
  · have hll' : l < P.ld.length := by have : l < B.nl := hll; omega
    have hx : P.ld[l]? = some P.ld[l] := List.getElem?_eq_getElem hll'
    show hL μ' (X 16) l = lN (codM ((P.lnm[l]?).getD []))
    rw [show P.lnm[l]? = some P.ld[l].1 by unfold Pb.lnm; rw [List.getElem?_map, hx]; rfl, N.1 l (by omega)]
    exact (hP.2.1 l _ hx).1
  · have hj' : j < P.fm.length := by have : j < B.nf := hj; omega
    have hx : P.fm[j]? = some P.fm[j] := List.getElem?_eq_getElem hj'
    show hL μ' (X 18) j = lN (codM ((P.fnm[j]?).getD []))
    rw [show P.fnm[j]? = some P.fm[j].1 by unfold Pb.fnm; rw [List.getElem?_map, hx]; rfl, N.2 j (by omega)]
    exact (hP.2.2.1 j _ hx).1
  · rw [C.2.2.2.2]; rfl
  · rw [G.2.2.2 2 (by decide) (by decide) (by decide) (by decide) (by decide), h2]; rfl
  · have : i < 0 := hi'
    omega
  · rw [G.2.2.2 27 (by decide) (by decide) (by decide) (by decide) (by decide)]; exact d4.1
  · rw [G.o hs hi 29]; exact (d4.2 k hkk).1
  · rw [G.o hs hi 28]; exact (d4.2 k hkk).2 j hj
  · unfold mRf
    rw [G.o hs hi 14]; exact d5
theorem gFm.out (G : gFm m X μ μ') : mOut m X μ μ' := ⟨G.1.1, G.1.2, fun b h1 h2 => by
  have nb : ∀ i, i ∈ mK → b ≠ X i := fun i hi e => h2 (List.mem_map.mpr ⟨i, hi, e.symm⟩)
  exact ⟨G.2.1 b h1 (nb 8 (by decide)) (nb 10 (by decide)) (nb 12 (by decide)) (nb 30 (by decide)), G.2.2.1 b (nb 16 (by decide)) (nb 18 (by decide))⟩⟩
/-! a reading's fault lies within the tape -/
theorem rBk_ok {t : Nat → Int32} {len : Nat} : ∀ (n : Nat) {P : Pb} {c : Cu}, cuOk len c → cuOk len (rBk t len n P c).2
  | 0, _, _, h => h
  | n + 1, P, c, h => by
    rw [rBk_s]
    have h1 := goC_ok (t := t) (rLine_ok (t := t) (P := P) h)
    by_cases q : (goC t len (rLine t len P c).2).1 = true
    · rw [if_pos q]; exact rBk_ok n h1
    · rw [if_neg q]; exact h1
theorem cu0 {len : Nat} : cuOk len (none, 0, 0) := ⟨Nat.zero_le _, Nat.zero_le _, fun p hp => by cases hp⟩
theorem rBook_ok {t : Nat → Int32} {len : Nat} : cuOk len (rBook t len).2 := by
  unfold rBook
  exact ifC_ok (flC_ok (rBk_ok 401 cu0) (Nat.le_refl _)) (rBk_ok 401 cu0)
theorem rStep_ok {t : Nat → Int32} {len : Nat} {c : Cu} (h0 : cuOk len c) : cuOk len (rStep t len c).2 := by
  have h := nxW_ok (t := t) h0
  unfold rStep
  split
  · split
    · exact rNum_ok _ h
    · exact flC_cu h
  · exact flC_cu h
theorem rScr_ok {t : Nat → Int32} {len : Nat} : ∀ (n : Nat) {ss : List (Nat → Int32)} {c : Cu}, cuOk len c → cuOk len (rScr t len n ss c).2
  | 0, _, _, h => flC_cu h
  | n + 1, ss, c, h => by
    rw [rScr_s]
    have h1 := goC_ok (t := t) (rStep_ok (t := t) h)
    by_cases q : (goC t len (rStep t len c).2).1 = true
    · rw [if_pos q]; exact rScr_ok n h1
    · rw [if_neg q]; exact h1
theorem oI_m1 {len : Nat} {c : Cu} (h : cuOk len c) (hl : len ≤ 400) : oI c.1 = -1 ↔ c.1 = none := by
  cases e : c.1 with
  | none => exact ⟨fun _ => rfl, fun _ => rfl⟩
  | some p =>
    have := h.2.2 p e
    exact ⟨fun q => absurd q (oI_ne (by omega)), fun q => by cases q⟩
theorem m_text {x : Int32} {S' : St} (hd : 17 ≤ d) (h : mR μ m X S) (hok : sOk S) (hS' : txR S x S') : xC d yX12_text cX12_text 4 (some .int) 0 0 [.ref m, .int x] μ ro (fun r μ' => r = some (.int (aText S x)) ∧ mR μ' m X S' ∧ mOut m X μ μ') := by
  obtain ⟨hF0, -, -, -⟩ := h.1.th
  have h0 := h.fr hF0
  have hs := h.1.1.1
  have hi := h.1.1.2
  have h4 := hok.2.2.2.2.2.1.2
  have hlen := hok.2.2.2.2.2.1.1
  unfold txR at hS'
  unfold aText
  have no : (¬ x = 0 ∧ ¬ x = 1) → some (Value.int (-1)) = some (.int (if x = 0 then (if (rBook (tpS S) S.len).2.1 = none then nI (rBook (tpS S) S.len).1.fm.length else -1) else if x = 1 then (if S.ns < 4 ∧ (rScript (tpS S) S.len).2.1 = none then nI S.ns else -1) else -1)) ∧ mR (wI μ m 0 0) m X S' ∧ mOut m X μ (wI μ m 0 0) := fun a => by
    rw [if_neg a.1, if_neg a.2] at hS' ⊢
    subst hS'
    exact ⟨rfl, h0, hF0.out⟩
  refine I_X12_text (fun J g hr => B_X12_text_0 g hr hs.1 (by omega) ⟨fun c => no ⟨fun e => by subst e; exact absurd c (by decide), fun e => by subst e; exact absurd c (by decide)⟩, fun c0 => ⟨fun c => no ⟨fun e => by subst e; exact absurd c (by decide), fun e => by subst e; exact absurd c (by decide)⟩, fun c1 => ⟨fun c2 => ?_, fun c2 => ?_⟩⟩⟩)
  · have e0 : x = 0 := by
      obtain ⟨j, hj, rfl⟩ := nI_of2 (n := 1) (M := 1) (by decide) c0 (Int32.not_lt.mp c1)
      have : j = 0 ∨ j = 1 := by omega
      rcases this with rfl | rfl
      · rfl
      · exact absurd rfl c2
    subst e0
    rw [if_pos rfl] at hS' ⊢
    refine xCall_of (m_faultZ (d := d - 1) (by omega) h0 hok) (by omega) ?_
    rintro r μ1 ⟨rfl, h1, o1, P1, -⟩
    have s1 := h1.1.1.1
    have eF : aFault S 0 = oI (rBook (tpS S) S.len).2.1 := rfl
    refine ⟨_, rfl, ?_⟩
    rw [eF, oI_m1 rBook_ok hlen]
    refine ⟨fun q => ⟨s1.1, fun _ => ?_, fun z => absurd z (by decide)⟩, fun q => ?_⟩
    · rw [if_pos q] at hS' ⊢
      obtain ⟨B, f, hB, rfl⟩ := hS'
      obtain ⟨hp, hn⟩ := rBook_p q
      have F2 : bFr m X μ1 (wI μ1 m 2 0) := ⟨Fr.wi (by simp), fun k hk => by rw [hI_wI_s, upd_n _ hk.2]⟩
      have h2 : mR (wI μ1 m 2 0) m X (S.upT (0, S.tp)) := h1.tp F2 ⟨by rw [hI_wI_s, upd_s]; rfl, fun i (hil : i < 0) => by omega⟩
      have P2 : mPB (wI μ1 m 2 0) m X (rBook (tpS S) S.len).1 := by
        obtain ⟨a1, a2, a3, a4, a5⟩ := P1 rfl q
        refine ⟨?_, fun i x hx => ?_, fun i x hx => ?_, ?_, ?_⟩
        · unfold mPN
          rw [hI_wI_s, upd_n _ (by decide), upd_n _ (by decide), upd_n _ (by decide), upd_n _ (by decide), upd_n _ (by decide)]; exact a1
        · rw [hI_wI_n _ _ _ (s1.ne 7)]; exact a2 i x hx
        · rw [hI_wI_n _ _ _ (s1.ne 9)]; exact a3 i x hx
        · rw [hI_wI_n _ _ _ (s1.ne 13)]; exact a4
        · rw [hI_wI_n _ _ _ (s1.ne 11)]; exact a5
      refine xCall_of (c_mBegins (d := d - 1) (by omega) h2.1.1.1 hi P2 hp) (by omega) ?_
      rintro r μ3 ⟨rfl, G, D, N, C, y1, y2, y3, y4, y5⟩
      refine ⟨rfl, (G.sh h2.1.1.1).1, by rw [C.2.1], ?_, ((hF0.out.tt o1).tt F2.out).tt G.out⟩
      exact begun (S := S.upT (0, S.tp)) h2 P2 hp hn hB (by rw [hI_wI_s, upd_s]) G D N C y1 y2 y3 y4 y5
    · rw [if_neg q] at hS' ⊢
      subst hS'
      exact ⟨rfl, h1, hF0.out.tt o1⟩
  · subst c2
    rw [if_neg (by decide), if_pos rfl] at hS' hr ⊢
    have n27 : hI (wI μ m 0 0) m 27 = nI S.ns := h0.2.2.2.2.2.2.1.1
    rw [n27]
    refine pk_eq S.ns 4 (fun q => ?_) (fun q => ?_)
    · rw [if_neg (by omega)] at hS' ⊢
      subst hS'
      exact ⟨rfl, h0, hF0.out⟩
    · have h4' : S.ns < 4 := by omega
      refine xCall_of (m_faultZ (d := d - 1) (by omega) h0 hok) (by omega) ?_
      rintro r μ1 ⟨rfl, h1, o1, -, v1⟩
      have s1 := h1.1.1.1
      have eF : aFault S 1 = oI (rScript (tpS S) S.len).2.1 := rfl
      refine ⟨_, rfl, ?_⟩
      rw [eF, oI_m1 (c := (rScript (tpS S) S.len).2) (rScr_ok 12 cu0) hlen]
      refine ⟨fun z => ⟨s1.1, fun y => absurd rfl y, fun _ => ?_⟩, fun z => ?_⟩
      · rw [if_pos ⟨h4', z⟩] at hS' hr
        subst hS'
        obtain ⟨w1, w2, w3⟩ := v1 rfl z
        generalize (rScript (tpS S) S.len).1 = ss at hr w1 w2 w3
        have F2 : bFr m X μ1 (wI μ1 m 2 0) := ⟨Fr.wi (by simp), fun k hk => by rw [hI_wI_s, upd_n _ hk.2]⟩
        have h2 : mR (wI μ1 m 2 0) m X (S.upT (0, S.tp)) := h1.tp F2 ⟨by rw [hI_wI_s, upd_s]; rfl, fun i (hil : i < 0) => by omega⟩
        have o2 := (hF0.out.tt o1).tt F2.out
        have x28 : hI (wI μ1 m 2 0) (X 28) = hI μ1 (X 28) := hI_wI_n _ _ _ (s1.ne 28)
        have x29 : hI (wI μ1 m 2 0) (X 29) = hI μ1 (X 29) := hI_wI_n _ _ _ (s1.ne 29)
        rw [← x28] at w3
        rw [← x29] at w1
        generalize wI μ1 m 2 0 = μ2 at h2 o2 w1 w3
        have s2 := h2.1.1.1
        have key := loopUp (Q := fun i => ∀ μ', Fr [X 28] μ2 μ' → (∀ j, j < i → hI μ' (X 28) (60 * S.ns + j) = hI μ2 (X 28) (240 + j)) → (∀ j, j < 60 * S.ns ∨ 60 * S.ns + i ≤ j → hI μ' (X 28) j = hI μ2 (X 28) j) → J μ' 0 0 54 [(0, .ref m), (2, .int 60), (3, .int (nI i))] []) 60 ?_ (fun i hi6 ih => ?_) 0 (by omega)
        · exact key μ2 Fr.rf (fun j hj => by omega) (fun j _ => rfl)
        · intro μ' F' c' k'
          have s' : mSh μ' m X := s2.of F'.2.2.1 F'.2.1
          have om : hI μ' m = hI μ2 m := F'.2.2.2 _ (fun e => s2.ne 28 (by decide) (List.mem_singleton.mp e).symm)
          have ox : ∀ i, i ∈ mK → i ≠ 28 → hI μ' (X i) = hI μ2 (X i) := fun i hik hn => F'.2.2.2 _ (fun e => hn (hi i 28 hik (by decide) (List.mem_singleton.mp e)))
          have n27' : hI μ' m 27 = nI S.ns := by rw [om]; exact h2.2.2.2.2.2.2.1.1
          refine B_X12_text_54 g hr s'.1 (s'.r 29 0 5) (s'.s 29 0 5) (s'.r 28 0 300) (s'.s 28 0 300) (pk_le 60 60 (fun _ => ?_) (fun y => by omega))
          rw [n27', nI_clamp (by omega)]
          refine ⟨lit_in 4 (by omega) (by omega), vp_in_nI (by omega) (by omega), fun v4 e4 v5 e5 => ?_⟩
          rw [hI_wI_n _ _ _ (Ne.symm (s'.ne 29)), n27'] at e4
          rw [hI_wI_s, upd_s] at e5
          rw [e5, e4, nI_1, show nI (S.ns + 1) - 1 = nI S.ns from nI_pred _]
          have F3 : Fr [m, X 28, X 29] μ2 (wI (wI μ' (X 29) S.ns (hI μ' (X 29) 4)) m 27 (nI (S.ns + 1))) := ((F'.sub (fun b hb => by rw [List.mem_singleton.mp hb]; simp)).w1 (by simp)).w1 (by simp)
          have om3 : ∀ k, k ≠ 27 → hI (wI (wI μ' (X 29) S.ns (hI μ' (X 29) 4)) m 27 (nI (S.ns + 1))) m k = hI μ2 m k := fun k hk => by rw [hI_wI_s, upd_n _ hk, hI_wI_n _ _ _ (Ne.symm (s'.ne 29)), om]
          have ox3 : ∀ i, i ∈ mK → i ≠ 28 → i ≠ 29 → hI (wI (wI μ' (X 29) S.ns (hI μ' (X 29) 4)) m 27 (nI (S.ns + 1))) (X i) = hI μ2 (X i) := fun i hik h28 h29 => by rw [hI_wI_n _ _ _ (s'.ne i hik), hI_wI_n _ _ _ (fun e => h29 (hi i 29 hik (by decide) e)), ox i hik h28]
          have e28 : hI (wI (wI μ' (X 29) S.ns (hI μ' (X 29) 4)) m 27 (nI (S.ns + 1))) (X 28) = hI μ' (X 28) := by rw [hI_wI_n _ _ _ (s'.ne 28), hI_wI_n _ _ _ (hi.ne 28 29)]
          have e29 : hI (wI (wI μ' (X 29) S.ns (hI μ' (X 29) 4)) m 27 (nI (S.ns + 1))) (X 29) = upd (hI μ' (X 29)) S.ns (hI μ' (X 29) 4) := by rw [hI_wI_n _ _ _ (s'.ne 29), hI_wI_s]
          have e27 : hI (wI (wI μ' (X 29) S.ns (hI μ' (X 29) 4)) m 27 (nI (S.ns + 1))) m 27 = nI (S.ns + 1) := by rw [hI_wI_s, upd_s]
          have zL : hL (wI (wI μ' (X 29) S.ns (hI μ' (X 29) 4)) m 27 (nI (S.ns + 1))) = hL μ2 := F3.1
          refine ⟨rfl, ?_, o2.tt (Fr.mout F3 (fun b hb => by
            simp only [List.mem_cons, List.not_mem_nil, or_false] at hb
            rcases hb with e | e | e
            · exact Or.inl e
            · exact Or.inr (List.mem_map.mpr ⟨28, by decide, e.symm⟩)
            · exact Or.inr (List.mem_map.mpr ⟨29, by decide, e.symm⟩)))⟩
          generalize wI (wI μ' (X 29) S.ns (hI μ' (X 29) 4)) m 27 (nI (S.ns + 1)) = μ3 at F3 om3 ox3 e28 e29 e27 zL ⊢
          obtain ⟨a1, a2, a3, ⟨d1, d2, d3, d4, d5⟩⟩ := h2
          have a1' : mQ μ2 m X S.B S.f := a1
          have a3' : mHs μ2 m X S.H S.L := a3
          refine ⟨a1'.gen ⟨F3.2.2.1, F3.2.1⟩ (fun k hk => om3 k (by omega)) (fun i hi' => ox3 i (by rcases hi' with rfl | rfl | rfl <;> decide) (by omega) (by omega)) (by rw [ox3 30 (by decide) (by decide) (by decide)]; exact a1'.2.2.1) a1'.2.2.2.2.2, by rw [ox3 30 (by decide) (by decide) (by decide)]; exact a2, a3'.fr ⟨om3 34 (by decide), om3 35 (by decide)⟩ (ox3 33 (by decide) (by decide) (by decide)), ?_, ?_, ⟨?_, fun i (hil : i < 0) => by omega⟩, ⟨e27, fun k hk => ?_⟩, ?_⟩
          · have : mNm μ2 X S.B S.nmL S.nmF := d1
            show mNm μ3 X S.B S.nmL S.nmF
            unfold mNm at this ⊢
            rw [zL]; exact this
          · have : mIm μ2 m X S.im := d2
            show mIm μ3 m X S.im
            unfold mIm at this ⊢
            rw [om3 36 (by decide), ox3 32 (by decide) (by decide) (by decide)]; exact this
          · rw [om3 2 (by decide)]; exact d3.1
          · have hk' : k < S.ns + 1 := hk
            show hI μ3 (X 29) k = nI (updN S.sl S.ns ss.length k) ∧ ∀ j, j < updN S.sl S.ns ss.length k * 5 → hI μ3 (X 28) (60 * k + j) = if k = S.ns then ((ss[j / 5]?).getD (fun _ => 0)) (j % 5) else S.sr k j
            rw [e28, e29, ox 29 (by decide) (by decide)]
            unfold updN
            by_cases e : k = S.ns
            · subst e
              rw [upd_s, if_pos rfl]
              refine ⟨w1, fun j hj => ?_⟩
              have hx : ss[j / 5]? = some (ss[j / 5]'(by omega)) := List.getElem?_eq_getElem (by omega)
              rw [if_pos rfl, c' j (by omega), hx, Option.getD_some]
              have := w3 (j / 5) _ hx (j % 5) (by omega)
              rw [show 240 + j / 5 * 5 + j % 5 = 240 + j by omega] at this
              exact this
            · have d4' := d4.2 k (show k < S.ns by omega)
              rw [upd_n _ e, if_neg e]
              refine ⟨d4'.1, fun j hj => ?_⟩
              have h12 := hok.2.2.2.2.2.2.1 k (by omega)
              rw [if_neg e, k' _ (by omega)]
              exact d4'.2 j hj
          · have : mRf μ2 X S.rf := d5
            show mRf μ3 X S.rf
            unfold mRf at this ⊢
            rw [ox3 14 (by decide) (by decide) (by decide)]; exact this
        · intro μ' F' c' k'
          have s' : mSh μ' m X := s2.of F'.2.2.1 F'.2.1
          have om : hI μ' m = hI μ2 m := F'.2.2.2 _ (fun e => s2.ne 28 (by decide) (List.mem_singleton.mp e).symm)
          have n27' : hI μ' m 27 = nI S.ns := by rw [om]; exact h2.2.2.2.2.2.2.1.1
          refine B_X12_text_54 g hr s'.1 (s'.r 29 0 5) (s'.s 29 0 5) (s'.r 28 0 300) (s'.s 28 0 300) (pk_le 60 i (fun y => by omega) (fun _ => ?_))
          rw [n27', show (60 : Int32) * 4 + nI i = nI (240 + i) from nI_add 240 i, show (60 : Int32) * nI S.ns = nI (60 * S.ns) from pk_mul 60 _, nI_add, nI_clamp (by omega), nI_clamp (by omega), nI_1]
          refine ⟨vp_in_nI (by omega) (by omega), vp_in_nI (by omega) (by omega), ih _ (F'.w1 (by simp)) (fun j hj => ?_) (fun j hj => ?_)⟩
          · rw [hI_wI_s]
            by_cases e : j = i
            · subst e
              rw [upd_s, k' _ (by omega)]
            · rw [upd_n _ (by omega)]; exact c' j (by omega)
          · rw [hI_wI_s, upd_n _ (by omega)]; exact k' j (by omega)
      · rw [if_neg (fun y => z y.2)] at hS' ⊢
        subst hS'
        exact ⟨rfl, h1, hF0.out.tt o1⟩
end mtt
