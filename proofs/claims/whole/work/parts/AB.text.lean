/-! text of the class -/
section txt
variable {d : Nat} {ro : Nat → Nat} {μ μ' : Hp} {A : Nat → Nat} {S : St}
theorem c_keep {ss : List (Nat → Int32)} (h : cR μ A S) (h4 : S.ns < 4) (hl : hI μ (A (4 + S.ns)) 1 = nI ss.length) (h12 : ss.length ≤ 12) (hs : scO (hI μ (A (9 + S.ns))) ss) : xC d yX11_keepScript cX11_keepScript 1 (some .int) 0 0 [.ref (A 0)] μ ro (fun r μ' => r = some (.int (nI S.ns)) ∧ cOut A μ μ' ∧ cR μ' A (S.addS ss)) := by
  have hsh := h.1.1.1
  have hj := h.1.1.2
  obtain ⟨s1, -, -⟩ := h.2.2.2.2.2.2.1
  refine I_X11_keepScript (fun J g hr => B_X11_keepScript_0 g hr (hsh.s 0 14 18) (hsh.r 0 0 1) (hsh.s 1 10 5) (fun v ev => ?_))
  have e0 : hI (wI μ (A 1) 0 0) (A 0) = hI μ (A 0) := hI_wI_n _ _ _ (hj.ne 0 1)
  rw [hI_wI_s, upd_s, e0, s1, nI_1] at ev
  rw [e0, s1, nI_1]
  subst ev
  have hF : Fr ([0, 1].map A) μ (wI (wI μ (A 1) 0 0) (A 0) 15 (nI (S.ns + 1))) := (Fr.wi (by simp)).w1 (by simp)
  have o : ∀ i, i < 51 → i ≠ 0 → i ≠ 1 → hI (wI (wI μ (A 1) 0 0) (A 0) 15 (nI (S.ns + 1))) (A i) = hI μ (A i) := fun i hi h0 h1 => by
    rw [hI_wI_n _ _ _ (fun e => h0 (hj i 0 hi (by decide) e)), hI_wI_n _ _ _ (fun e => h1 (hj i 1 hi (by decide) e))]
  have z0 : ∀ k, k ≠ 15 → hI (wI (wI μ (A 1) 0 0) (A 0) 15 (nI (S.ns + 1))) (A 0) k = hI μ (A 0) k := fun k hk => by rw [hI_wI_s, upd_n _ hk, e0]
  refine ⟨by rw [show nI (S.ns + 1) - 1 = nI S.ns from nI_pred _], hF.g.out, ?_⟩
  have z15 : hI (wI (wI μ (A 1) 0 0) (A 0) 15 (nI (S.ns + 1))) (A 0) 15 = nI (S.ns + 1) := by rw [hI_wI_s, upd_s]
  have z1 : hI (wI (wI μ (A 1) 0 0) (A 0) 15 (nI (S.ns + 1))) (A 1) 0 = 0 := by rw [hI_wI_n _ _ _ (hj.ne 1 0), hI_wI_s, upd_s]
  have zL : hL (wI (wI μ (A 1) 0 0) (A 0) 15 (nI (S.ns + 1))) = hL μ := rfl
  have zR : hR (wI (wI μ (A 1) 0 0) (A 0) 15 (nI (S.ns + 1))) = hR μ := rfl
  have zS : hS (wI (wI μ (A 1) 0 0) (A 0) 15 (nI (S.ns + 1))) = hS μ := rfl
  generalize wI (wI μ (A 1) 0 0) (A 0) 15 (nI (S.ns + 1)) = μ' at hF o z0 z15 z1 zL zR zS ⊢
  obtain ⟨⟨a1, a2, a3, a4, a5, a6, a7, a8⟩, b1, ⟨b2, b2'⟩, b3, b4, b5, b6, b7⟩ := h
  refine ⟨⟨⟨a1.1.of zS zR, hj⟩, ?_, ?_, a4, ?_, ?_, a7, ?_⟩, ?_, ⟨?_, b2'⟩, ?_, ?_, ⟨?_, Nat.zero_le _, fun i hi => ?_⟩, ⟨z15, h4, fun k hk => ?_⟩, ?_⟩
  · rw [o 39 (by decide) (by decide) (by decide)]; exact a2
  · rw [o 42 (by decide) (by decide) (by decide), o 43 (by decide) (by decide) (by decide), o 44 (by decide) (by decide) (by decide)]; exact a3
  · rw [o 34 (by decide) (by decide) (by decide), o 33 (by decide) (by decide) (by decide)]; exact a5
  · rw [o 14 (by decide) (by decide) (by decide)]; exact a6
  · rw [o 36 (by decide) (by decide) (by decide)]; exact a8
  · unfold cNm; rw [zL]; exact b1
  · unfold cHs; rw [o 24 (by decide) (by decide) (by decide), o 25 (by decide) (by decide) (by decide)]; exact b2
  · unfold cLg; rw [o 26 (by decide) (by decide) (by decide), o 27 (by decide) (by decide) (by decide)]; exact b3
  · unfold cIm; rw [z0 16 (by decide), o 38 (by decide) (by decide) (by decide), o 28 (by decide) (by decide) (by decide), o 29 (by decide) (by decide) (by decide), zR]; exact b4
  · rw [z1]; rfl
  · have : i < 0 := hi
    omega
  · have hk' : k < S.ns + 1 := hk
    rw [o (4 + k) (by omega) (by omega) (by omega), o (9 + k) (by omega) (by omega) (by omega)]
    show hI μ (A (4 + k)) 1 = nI (updN S.sl S.ns ss.length k) ∧ updN S.sl S.ns ss.length k ≤ 12 ∧ ∀ j, j < updN S.sl S.ns ss.length k * 5 → hI μ (A (9 + k)) j = if k = S.ns then ((ss[j / 5]?).getD (fun _ => 0)) (j % 5) else S.sr k j
    unfold updN
    by_cases e : k = S.ns
    · subst e
      rw [if_pos rfl]
      refine ⟨hl, h12, fun j hj5 => ?_⟩
      rw [if_pos rfl]
      have hx : ss[j / 5]? = some (ss[j / 5]'(by omega)) := List.getElem?_eq_getElem (by omega)
      rw [hx, Option.getD_some]
      have := hs (j / 5) _ hx (j % 5) (by omega)
      rw [show j / 5 * 5 + j % 5 = j by omega] at this
      exact this
    · rw [if_neg e]
      refine ⟨(b6.2.2 k (by omega)).1, (b6.2.2 k (by omega)).2.1, fun j hj5 => ?_⟩
      rw [if_neg e]; exact (b6.2.2 k (by omega)).2.2 j hj5
  · unfold cRf; rw [o 31 (by decide) (by decide) (by decide)]; exact b7
theorem c_text {x : Int32} (hd : 10 ≤ d) (h : cR μ A S) : xC d yX11_text cX11_text 2 (some .int) 0 0 [.ref (A 0), .int x] μ ro (fun r μ' => r = some (.int (aText S x)) ∧ cOut A μ μ' ∧ ∃ A' S', (A' = A ∨ A' = swA A) ∧ txR S x S' ∧ cR μ' A' S') := by
  have hsh := h.1.1.1
  have hj := h.1.1.2
  have h4 := h.ok.2.2.2.2.2.1.2
  obtain ⟨s1, -, -⟩ := h.2.2.2.2.2.2.1
  unfold aText txR
  refine I_X11_text (fun J g hr => B_X11_text_0 g hr (hsh.s 0 14 18) (hsh.r 0 1 3) (hsh.s 3 3 5) (hsh.r 0 0 1) (hsh.r 0 14 45) (hsh.r 0 11 35) (hsh.s 45 6 9) ⟨fun c0 => ⟨fun c1 => ?_, fun c1 => ?_⟩, fun c0 => ?_⟩)
  · rw [if_neg c0, if_neg c1]; exact ⟨rfl, cOut.rf, A, S, Or.inl rfl, by rw [if_neg c0, if_neg c1], h⟩
  · rw [if_neg c0, if_pos c1, s1]
    refine pk_le 4 S.ns (fun q => ?_) (fun q => ?_)
    · rw [if_neg (by omega)]; exact ⟨rfl, cOut.rf, A, S, Or.inl rfl, by rw [if_neg c0, if_pos c1, if_neg (by omega)], h⟩
    · rw [nI_clamp (by omega)]
      obtain ⟨x1, x2, x3, x4⟩ := hsh.scp (k := S.ns) (by omega)
      refine ⟨vp_in_nI (by omega) (by omega), _, x4, x1, xCall_of (c_rScript (d := d - 1) (by omega) (by omega) hsh hj h.tpR) (by omega) ?_⟩
      rintro r μ1 ⟨rfl, F1, r1, v1⟩
      have s' := hsh.fr F1
      have h1 := h.sc F1 (by rw [r1.1.1, h.tpR.1])
      refine ⟨rfl, s'.s 0 14 18, _, s'.r 0 0 1, s'.s 1 10 5, ?_⟩
      rw [r1.f1]
      refine ⟨fun e => ?_, fun e => ?_⟩
      · rw [if_neg (fun z => e z.2)]
        exact ⟨rfl, scFr.out (by omega) F1, A, S, Or.inl rfl, by rw [if_neg c0, if_pos c1, if_neg (fun z => e z.2)], h1⟩
      · obtain ⟨w1, w2, w3⟩ := v1 e
        refine xCall_of (c_keep (d := d - 1) h1 (by omega) w1 w2 w3) (by omega) ?_
        rintro r μ2 ⟨rfl, o2, h2⟩
        refine ⟨_, rfl, by rw [if_pos ⟨q, e⟩], (scFr.out (by omega) F1).tt o2, A, _, Or.inl rfl, ?_, h2⟩
        rw [if_neg c0, if_pos c1, if_pos ⟨q, e⟩]
  · rw [if_pos c0]
    refine xCall_of (c_rBook (d := d - 1) (by omega) hsh hj h.tpR) (by omega) ?_
    rintro r μ1 ⟨rfl, D1, r1, v1⟩
    have s' := D1.sh hsh
    have h1 := h.rdd D1 (by rw [r1.1.1, h.tpR.1])
    refine ⟨rfl, s'.s 0 14 18, _, s'.r 0 0 1, s'.s 1 10 5, ?_⟩
    rw [r1.f1]
    refine ⟨fun e => ?_, fun e => ?_⟩
    · rw [if_neg e]
      exact ⟨rfl, D1.out, A, S, Or.inl rfl, by rw [if_pos c0, if_neg e], h1⟩
    · have hp := rBook_p e
      refine xCall_of (c_open (d := d - 1) (by omega) h1 (v1 e) hp.1 hp.2) (by omega) ?_
      rintro r μ2 ⟨rfl, o2, B, f, mt, h2⟩
      refine ⟨_, rfl, by rw [if_pos e], D1.out.tt o2, swA A, _, Or.inr rfl, ?_, h2⟩
      rw [if_pos c0, if_pos e]
      exact ⟨B, f, mt, rfl⟩
end txt
