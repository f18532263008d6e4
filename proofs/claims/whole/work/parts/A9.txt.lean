/-! fault and text of the class -/
def tpS (S : St) : Nat → Int32 := fun i => nI (S.tp i)
def aFault (S : St) (x : Int32) : Int32 := if x = 0 then oI (rBook (tpS S) S.len).2.1 else if x = 1 then oI (rScript (tpS S) S.len).2.1 else -2
/-- a state that holds a book as it was read -/
def mtB (P : Pb) (B : Bk) (f : Nat → Int32) : Prop := (B.nl = P.ld.length ∧ B.nf = P.fm.length ∧ B.nt = P.tr.length) ∧ (∀ i x, P.ld[i]? = some x → ∀ j, j < 3 → B.lw (6 * j + i) = nI (x.2 j)) ∧ (∀ i x, P.fm[i]? = some x → B.lo i = nI x.2.1 ∧ f (2 + i) = nI x.2.2) ∧ cPK f P.lk ∧ cPT B.tr P.tr ∧ f 0 = nI P.yr ∧ (∀ j, 2 ≤ j → j < 32 → j < 2 + P.fm.length ∨ f j = 0) ∧ ∀ j, 112 ≤ j → f j = 0
def St.opn (S : St) (B : Bk) (f : Nat → Int32) (P : Pb) : St := (B, (fun l => (P.lnm[l]?).getD []), (fun j => (P.fnm[j]?).getD []), f, [], [], none, (0, S.tp), S.2.2.2.2.2.2.2.2)
def St.addS (S : St) (ss : List (Nat → Int32)) : St := (S.1, S.2.1, S.2.2.1, S.2.2.2.1, S.2.2.2.2.1, S.2.2.2.2.2.1, S.2.2.2.2.2.2.1, (0, S.tp), (S.ns + 1, updN S.sl S.ns ss.length, fun k j => if k = S.ns then ((ss[j / 5]?).getD (fun _ => 0)) (j % 5) else S.sr k j), S.rf)
def aText (S : St) (x : Int32) : Int32 := if x = 0 then (if (rBook (tpS S) S.len).2.1 = none then nI (rBook (tpS S) S.len).1.fm.length else -1) else if x = 1 then (if S.ns < 4 ∧ (rScript (tpS S) S.len).2.1 = none then nI S.ns else -1) else -1
def txR (S : St) (x : Int32) (S' : St) : Prop := if x = 0 then (if (rBook (tpS S) S.len).2.1 = none then ∃ B f, mtB (rBook (tpS S) S.len).1 B f ∧ S' = S.opn B f (rBook (tpS S) S.len).1 else S' = S) else if x = 1 then (if S.ns < 4 ∧ (rScript (tpS S) S.len).2.1 = none then S' = S.addS (rScript (tpS S) S.len).1 else S' = S) else S' = S
theorem bnd_at (j : Nat) (hj : j < 8) {x : Nat} (h : x ≤ bnd j) : x ≤ ([99, 1000, 1000, 1000, 100, 20, 99, 2] : List Nat).getD j 0 := h
theorem rBk_p {t : Nat → Int32} {len : Nat} : ∀ (n : Nat) {P : Pb} {c : Cu}, pOk P → (rBk t len (n + 1) P c).2.1 = none → pOk (rBk t len (n + 1) P c).1 := by
  intro n
  induction n with
  | zero =>
    intro P c h hn
    rw [rBk_s] at hn ⊢
    by_cases q : (goC t len (rLine t len P c).2).1 = true
    · rw [if_pos q] at hn ⊢
      exact rLine_p h (goC_tn q)
    · rw [if_neg q] at hn ⊢
      exact rLine_p h (goC_nn hn)
  | succ n ih =>
    intro P c h hn
    rw [rBk_s] at hn ⊢
    by_cases q : (goC t len (rLine t len P c).2).1 = true
    · rw [if_pos q] at hn ⊢
      exact ih (rLine_p h (goC_tn q)) hn
    · rw [if_neg q] at hn ⊢
      exact rLine_p h (goC_nn hn)
theorem rBook_p {t : Nat → Int32} {len : Nat} (h : (rBook t len).2.1 = none) : pOk (rBook t len).1 ∧ 0 < (rBook t len).1.fm.length := by
  unfold rBook at h ⊢
  simp only at h ⊢
  by_cases q : (rBk t len 401 Pb.nil (none, 0, 0)).1.fm.length = 0
  · rw [if_pos q] at h; exact absurd h flC_n
  · rw [if_neg q] at h
    exact ⟨rBk_p 400 pOk_nil h, by omega⟩
theorem mtB.ok {P : Pb} {B : Bk} {f : Nat → Int32} (h : mtB P B f) (hp : pOk P) (h0 : 0 < P.fm.length) : B.ok ∧ goodR B f := by
  obtain ⟨⟨a1, a2, a3⟩, b1, b2, b3, b4, b5, b6, b7⟩ := h
  obtain ⟨⟨p1, p2, p3, p4⟩, q1, q2, q3, q4, q5, q6⟩ := hp
  have get : ∀ {α : Type} (l : List α) (i : Nat), i < l.length → ∃ x, l[i]? = some x ∧ x ∈ l := fun l i hi => ⟨l[i], List.getElem?_eq_getElem hi, List.getElem_mem hi⟩
  refine ⟨⟨⟨⟨by omega, by omega, by omega⟩, fun j hj => ?_, fun c l hc hl => ?_, fun t ht => ?_⟩, fun e => by omega⟩, ⟨⟨?_, ?_, ?_⟩, fun k hk => ?_, fun k k' hk hk' e1 e2 e3 => ?_, fun j hj => ⟨?_, ?_⟩, fun l hl hl6 => ?_⟩, b7⟩
  · obtain ⟨x, hx, hm⟩ := get P.fm j (by omega)
    rw [(b2 j x hx).1, a1]; exact bd_nI (q2 x hm).2.1
  · obtain ⟨x, hx, hm⟩ := get P.ld l (by omega)
    rw [show c * 6 + l = 6 * c + l by omega, b1 l x hx c hc]
    exact bd_nI (by have := (q1 x hm).2 c hc; omega)
  · obtain ⟨x, hx, hm⟩ := get P.tr t (by omega)
    have v := b4 t x hx
    have hb := q5 x hm
    have e : ∀ j, j < 8 → ∀ N, bnd j < N → bd (B.tr (12 * j + t)) N := fun j hj N hN => by
      rw [v j (by omega)]; exact bd_nI (by have := hb.1 j hj; omega)
    refine ⟨⟨e 0 (by omega) 100 (by decide), e 1 (by omega) 1001 (by decide), e 2 (by omega) 1001 (by decide), e 3 (by omega) 1001 (by decide), e 4 (by omega) 101 (by decide), e 5 (by omega) 21 (by decide), e 6 (by omega) 100 (by decide), e 7 (by omega) 3 (by decide)⟩, ?_, ?_, ?_⟩
    · have := v 8 (by omega)
      rw [show 12 * 8 + t = 96 + t by omega] at this
      rw [this, a1]; exact bd_nI hb.2.1
    · have := v 9 (by omega)
      rw [show 12 * 9 + t = 108 + t by omega] at this
      rw [this, a1]; exact bd_nI hb.2.2.1
    · have := v 10 (by omega)
      rw [show 12 * 10 + t = 120 + t by omega] at this
      rw [this]; exact bd_nI hb.2.2.2
  · rw [b3.1, cl_nI (by omega)]
  · rw [b3.1, cl_nI (by omega)]; exact p3
  · rw [b5]; exact bd_nI (by omega)
  · rw [b3.1, cl_nI (by omega)] at hk
    obtain ⟨x, hx, hm⟩ := get P.lk k hk
    obtain ⟨e1, e2, e3, e4, e5⟩ := b3.2 k x hx
    have hb := q3 x hm
    refine ⟨by rw [e1]; exact bd_nI hb.1, by rw [e2, a2]; exact bd_nI hb.2.1, by rw [e3, a2]; exact bd_nI hb.2.2.1, by rw [e4]; exact bd_nI (by omega), by rw [e5]; exact bd_nI (by omega), ?_⟩
    rw [e2, e3]
    exact fun e => hb.2.2.2.1 ((nI_eq (by omega) (by omega)).mp e)
  · rw [b3.1, cl_nI (by omega)] at hk hk'
    obtain ⟨x, hx, hm⟩ := get P.lk k hk
    obtain ⟨y, hy, hm'⟩ := get P.lk k' hk'
    have hb := q3 x hm
    have hb' := q3 y hm'
    have ex := b3.2 k x hx
    have ey := b3.2 k' y hy
    rw [ex.1, ey.1] at e1
    rw [ex.2.1, ey.2.1] at e2
    rw [ex.2.2.1, ey.2.2.1] at e3
    exact q4 k k' x y hx hy ((nI_eq (by omega) (by omega)).mp e1) ((nI_eq (by omega) (by omega)).mp e2) ((nI_eq (by omega) (by omega)).mp e3)
  · rcases b6 (2 + j) (by omega) (by omega) with q | q
    · obtain ⟨x, hx, hm⟩ := get P.fm j (by omega)
      rw [(b2 j x hx).2]; exact bd_nI (by have := (q2 x hm).2.2; omega)
    · rw [q]; exact ⟨0, by omega, rfl⟩
  · rcases b6 (10 + j) (by omega) (by omega) with q | q
    · omega
    · rw [q]; exact ⟨0, by omega, rfl⟩
  · rcases b6 (26 + l) (by omega) (by omega) with q | q
    · omega
    · exact q
section txc
variable {d : Nat} {ro : Nat → Nat} {μ μ' : Hp} {A : Nat → Nat} {S : St}
theorem cR.tpR (h : cR μ A S) : tpR μ A (tpS S) S.len := by
  obtain ⟨t1, t2, t3⟩ := h.2.2.2.2.2.1
  exact ⟨t1, t2, fun i hi => (t3 i hi).1⟩
theorem cR.gen (h : cR μ A S) (h1 : hR μ' = hR μ) (h2 : hS μ' = hS μ) (o : ∀ i, i ∈ [0, 2, 14, 24, 25, 26, 27, 28, 29, 31, 33, 34, 38, 39, 42, 43, 44] → hI μ' (A i) = hI μ (A i)) (o1 : hI μ' (A 1) 0 = hI μ (A 1) 0) (o36 : ∀ j, 112 ≤ j → hI μ' (A 36) j = hI μ (A 36) j) (ol : hL μ' (A 40) = hL μ (A 40) ∧ hL μ' (A 41) = hL μ (A 41)) (os : ∀ k, k < S.ns → hI μ' (A (4 + k)) = hI μ (A (4 + k)) ∧ hI μ' (A (9 + k)) = hI μ (A (9 + k))) : cR μ' A S := by
  have hj := h.1.1.2
  obtain ⟨⟨a1, a2, a3, a4, a5, a6, a7, a8⟩, b1, ⟨b2, b2'⟩, b3, b4, b5, b6, b7⟩ := h
  refine ⟨⟨⟨a1.1.of h2 h1, hj⟩, ?_, ?_, a4, ?_, ?_, a7, ?_⟩, ?_, ⟨?_, b2'⟩, ?_, ?_, ?_, ?_, ?_⟩
  · rw [o 39 (by decide)]; exact a2
  · rw [o 42 (by decide), o 43 (by decide), o 44 (by decide)]; exact a3
  · rw [o 34 (by decide), o 33 (by decide)]; exact a5
  · rw [o 14 (by decide)]; exact a6
  · exact fun j hj1 => (o36 j hj1).trans (a8 j hj1)
  · unfold cNm; rw [ol.1, ol.2]; exact b1
  · unfold cHs; rw [o 24 (by decide), o 25 (by decide)]; exact b2
  · unfold cLg; rw [o 26 (by decide), o 27 (by decide)]; exact b3
  · unfold cIm; rw [o 0 (by decide), o 38 (by decide), o 28 (by decide), o 29 (by decide), h1]; exact b4
  · unfold cTp; rw [o1, o 2 (by decide)]; exact b5
  · refine ⟨by rw [o 0 (by decide)]; exact b6.1, b6.2.1, fun k hk => ?_⟩
    rw [(os k hk).1, (os k hk).2]; exact b6.2.2 k hk
  · unfold cRf; rw [o 31 (by decide)]; exact b7
theorem cR.rdd (h : cR μ A S) (hF : dFr A μ μ') (h0 : hI μ' (A 1) 0 = hI μ (A 1) 0) : cR μ' A S := by
  have hj := h.1.1.2
  have h4 := h.ok.2.2.2.2.2.1.2
  refine h.gen hF.1.1 hF.1.2 (fun i hi => ?_) h0 hF.2.2.2 ⟨?_, ?_⟩ (fun k hk => ⟨?_, ?_⟩)
  · exact hF.o hj i (by
      simp only [List.mem_cons, List.not_mem_nil, or_false] at hi ⊢
      omega)
  · refine hF.2.2.1 _ (fun q => ?_)
    simp only [List.map_cons, List.map_nil, List.mem_cons, List.not_mem_nil, or_false] at q
    exact q.elim (hj.ne 40 46) (hj.ne 40 47)
  · refine hF.2.2.1 _ (fun q => ?_)
    simp only [List.map_cons, List.map_nil, List.mem_cons, List.not_mem_nil, or_false] at q
    exact q.elim (hj.ne 41 46) (hj.ne 41 47)
  · exact hF.o hj _ (by simp only [List.mem_cons, List.not_mem_nil, or_false]; omega)
  · exact hF.o hj _ (by simp only [List.mem_cons, List.not_mem_nil, or_false]; omega)
theorem dFr.out (hF : dFr A μ μ') : cOut A μ μ' := fun b hb => by
  refine ⟨hF.2.1 b (fun q => hb ?_), hF.2.2.1 b (fun q => hb ?_), by rw [hF.1.1], by rw [hF.1.2]⟩
  · obtain ⟨k, hk, e⟩ := List.mem_map.mp q
    exact List.mem_map.mpr ⟨k, (by decide : ∀ k ∈ dI, k ∈ cO) k hk, e⟩
  · obtain ⟨k, hk, e⟩ := List.mem_map.mp q
    exact List.mem_map.mpr ⟨k, (by decide : ∀ k ∈ [46, 47], k ∈ cO) k hk, e⟩
theorem scFr.out {k : Nat} (hk : k < 5) (hF : Fr [A 1, A (4 + k), A (9 + k)] μ μ') : cOut A μ μ' := fun b hb => by
  refine ⟨hF.2.2.2 b (fun q => hb ?_), by rw [hF.1], by rw [hF.2.1], by rw [hF.2.2.1]⟩
  have hm : ∀ i, i < 30 → i ∈ cO := by decide
  simp only [List.mem_cons, List.not_mem_nil, or_false] at q
  rcases q with e | e | e
  · exact List.mem_map.mpr ⟨1, hm 1 (by omega), e.symm⟩
  · exact List.mem_map.mpr ⟨4 + k, hm _ (by omega), e.symm⟩
  · exact List.mem_map.mpr ⟨9 + k, hm _ (by omega), e.symm⟩
theorem cR.sc (h : cR μ A S) (hF : Fr [A 1, A (4 + S.ns), A (9 + S.ns)] μ μ') (h0 : hI μ' (A 1) 0 = hI μ (A 1) 0) : cR μ' A S := by
  have hj := h.1.1.2
  have h4 := h.ok.2.2.2.2.2.1.2
  have o : ∀ i, i < 51 → i ≠ 1 → i ≠ 4 + S.ns → i ≠ 9 + S.ns → hI μ' (A i) = hI μ (A i) := fun i hi h1 h2 h3 => hF.2.2.2 _ (fun q => by
    simp only [List.mem_cons, List.not_mem_nil, or_false] at q
    rcases q with e | e | e
    · exact h1 (hj i 1 hi (by omega) e)
    · exact h2 (hj i _ hi (by omega) e)
    · exact h3 (hj i _ hi (by omega) e))
  refine h.gen hF.2.1 hF.2.2.1 (fun i hi => ?_) h0 (fun j _ => by rw [o 36 (by omega) (by omega) (by omega) (by omega)]) ⟨by rw [hF.1], by rw [hF.1]⟩ (fun k hk => ⟨o _ (by omega) (by omega) (by omega) (by omega), o _ (by omega) (by omega) (by omega) (by omega)⟩)
  simp only [List.mem_cons, List.not_mem_nil, or_false] at hi
  exact o i (by omega) (by omega) (by omega) (by omega)
theorem c_fault {x : Int32} (hd : 10 ≤ d) (h : cR μ A S) : xC d yX11_fault cX11_fault 2 (some .int) 0 0 [.ref (A 0), .int x] μ ro (fun r μ' => r = some (.int (aFault S x)) ∧ cR μ' A S ∧ cOut A μ μ') := by
  have hsh := h.1.1.1
  have hj := h.1.1.2
  have h4 := h.ok.2.2.2.2.2.1.2
  obtain ⟨s1, -, -⟩ := h.2.2.2.2.2.2.1
  unfold aFault
  refine I_X11_fault (fun J g hr => B_X11_fault_0 g hr (hsh.s 0 14 18) (hsh.r 0 1 3) (hsh.s 3 3 5) (hsh.r 0 0 1) (hsh.r 0 14 45) (hsh.r 0 11 35) (hsh.s 45 6 9) ⟨fun c0 => ⟨fun c1 => ?_, fun c1 => ?_⟩, fun c0 => ?_⟩)
  · rw [if_neg c0, if_neg c1]; exact ⟨rfl, h, cOut.rf⟩
  · rw [if_neg c0, if_pos c1, s1, nI_clamp (by omega)]
    obtain ⟨x1, x2, x3, x4⟩ := hsh.scp (k := S.ns) (by omega)
    refine ⟨vp_in_nI (by omega) (by omega), _, x4, x1, xCall_of (c_rScript (d := d - 1) (by omega) (by omega) hsh hj h.tpR) (by omega) ?_⟩
    rintro r μ1 ⟨rfl, F1, r1, -⟩
    have s' := hsh.fr F1
    refine ⟨rfl, s'.s 0 14 18, _, s'.r 0 0 1, s'.s 1 10 5, by rw [r1.1.2.1], h.sc F1 (by rw [r1.1.1, h.tpR.1]), scFr.out (by omega) F1⟩
  · rw [if_pos c0]
    refine xCall_of (c_rBook (d := d - 1) (by omega) hsh hj h.tpR) (by omega) ?_
    rintro r μ1 ⟨rfl, D1, r1, -⟩
    have s' := D1.sh hsh
    exact ⟨rfl, s'.s 0 14 18, _, s'.r 0 0 1, s'.s 1 10 5, by rw [r1.1.2.1], h.rdd D1 (by rw [r1.1.1, h.tpR.1]), D1.out⟩
end txc
