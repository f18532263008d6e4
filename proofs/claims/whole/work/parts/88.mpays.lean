/-! the model pays, twice -/
def mAt (μ : Hp) (m : Nat) (X : Nat → Nat) (B : Bk) (f : Nat → Int32) (wi : Nat) : Prop :=
  (wi = 30 ∨ wi = 31) ∧ (mSh μ m X ∧ mInj X) ∧ mBk μ m X B.lw B.lo B.tr B.nl B.nf B.nt ∧ nrw (hI μ (X wi)) f ∧ (hI μ m 38 = -1 ∧ hI μ m 39 = -1 ∧ hI μ m 40 = -1) ∧ B.ok ∧ B.row f
def mwFr (wi m : Nat) (X : Nat → Nat) (μ μ' : Hp) : Prop := Fr [m, X 43, X 44, X 45, X 46, X 47, X 48, X 49, X 55, X wi] μ μ' ∧ ∀ k, k ≠ 0 ∧ k ≠ 37 ∧ k ≠ 64 ∧ (k < 41 ∨ 61 < k) → hI μ' m k = hI μ m k
theorem mwFr.rf {wi m : Nat} {X : Nat → Nat} {μ : Hp} : mwFr wi m X μ μ := ⟨Fr.rf, fun _ _ => rfl⟩
theorem mwFr.tt {wi m : Nat} {X : Nat → Nat} {μ μ1 μ2 : Hp} (h1 : mwFr wi m X μ μ1) (h2 : mwFr wi m X μ1 μ2) : mwFr wi m X μ μ2 := ⟨h1.1.tt h2.1, fun k hk => (h2.2 k hk).trans (h1.2 k hk)⟩
theorem mwFr.f {wi m : Nat} {X : Nat → Nat} {μ μ1 : Hp} (h : mwFr wi m X μ μ1) (k : Nat) (x : Int32) (hk : k = 0 ∨ k = 37 ∨ k = 64 ∨ (41 ≤ k ∧ k ≤ 61) := by decide) : mwFr wi m X μ (wI μ1 m k x) :=
  ⟨h.1.w1 (by simp), fun j hj => by rw [hI_wI_s, upd_n _ (by omega)]; exact h.2 j hj⟩
theorem mwFr.w {wi m : Nat} {X : Nat → Nat} {μ μ1 : Hp} (h : mwFr wi m X μ μ1) (hne : X wi ≠ m) (g : Nat → Int32) : mwFr wi m X μ (wRow μ1 (X wi) g) :=
  ⟨h.1.w2 (by simp), fun j hj => by rw [hI_wRow_n _ _ (Ne.symm hne)]; exact h.2 j hj⟩
theorem mFr.mw {wi m : Nat} {X : Nat → Nat} {μ μ1 : Hp} (h : mFr m X μ μ1) : mwFr wi m X μ μ1 := ⟨h.1.sub (fun a ha => by
  simp only [List.mem_cons, List.not_mem_nil, or_false] at ha ⊢
  rcases ha with rfl | rfl | rfl | rfl | rfl | rfl | rfl | rfl | rfl <;> simp), fun k hk => h.2 k (by omega)⟩
theorem mwFr.q {m : Nat} {X : Nat → Nat} {μ μ1 : Hp} (h : mwFr 31 m X μ μ1) : mqFr m X μ μ1 := ⟨h.1.sub (fun a ha => by
  simp only [List.mem_cons, List.not_mem_nil, or_false] at ha ⊢
  rcases ha with rfl | rfl | rfl | rfl | rfl | rfl | rfl | rfl | rfl | rfl <;> simp), h.2⟩
theorem mwFr.o {wi m : Nat} {X : Nat → Nat} {μ μ1 : Hp} (h : mwFr wi m X μ μ1) (hs : mSh μ m X) (hi : mInj X) (hw : wi ∈ mK) (i : Nat) (hk : i ∈ mK ∧ i ∉ [43, 44, 45, 46, 47, 48, 49, 55]) (hiw : i ≠ wi) : hI μ1 (X i) = hI μ (X i) := by
  refine h.1.2.2.2 _ ?_
  have hx : ∀ j, j ∈ [43, 44, 45, 46, 47, 48, 49, 55] → j ∈ mK → X i ≠ X j := fun j hj hj2 e => by
    have := hi i j hk.1 hj2 e
    subst this
    exact hk.2 hj
  simp only [List.mem_cons, List.not_mem_nil, or_false, not_or]
  exact ⟨hs.ne i hk.1, hx 43 (by decide) (by decide), hx 44 (by decide) (by decide), hx 45 (by decide) (by decide), hx 46 (by decide) (by decide), hx 47 (by decide) (by decide), hx 48 (by decide) (by decide), hx 49 (by decide) (by decide), hx 55 (by decide) (by decide), fun e => hiw (hi i wi hk.1 hw e)⟩
section mpays
variable {d : Nat} {ro : Nat → Nat} {μ : Hp} {m : Nat} {X : Nat → Nat} {B : Bk} {f : Nat → Int32} {s u t a : Int32} {wi : Nat}
theorem mAt.wk (h : mAt μ m X B f wi) : wi ∈ mK ∧ hS μ (X wi) = some (0, 293) ∧ hR μ m wi = some (X wi) := by
  obtain ⟨hwi, ⟨h1, -⟩, -⟩ := h
  rcases hwi with rfl | rfl
  · exact ⟨by decide, h1.s 30 0 293, h1.r 30 0 293⟩
  · exact ⟨by decide, h1.s 31 0 293, h1.r 31 0 293⟩
theorem mAt.of {μ' : Hp} {f' : Nat → Int32} (h : mAt μ m X B f wi) (hF : mwFr wi m X μ μ') (hn : nrw (hI μ' (X wi)) f') (hr : B.row f') : mAt μ' m X B f' wi := by
  have hk := h.wk.1
  obtain ⟨hwi, ⟨h1, h2⟩, h3, h4, h5, h6, h7⟩ := h
  have hne : ∀ i, i ≠ 30 ∧ i ≠ 31 → i ≠ wi := fun i hi => by rcases hwi with rfl | rfl <;> omega
  refine ⟨hwi, ⟨h1.of hF.1.2.2.1 hF.1.2.1, h2⟩, h3.fr ⟨hF.2 20 (by decide), hF.2 22 (by decide), hF.2 24 (by decide)⟩ (hF.o h1 h2 hk 8 (by decide) (hne 8 (by decide))) (hF.o h1 h2 hk 10 (by decide) (hne 10 (by decide))) (hF.o h1 h2 hk 12 (by decide) (hne 12 (by decide))), hn, ?_, h6, hr⟩
  rw [hF.2 38 (by decide), hF.2 39 (by decide), hF.2 40 (by decide)]; exact h5
theorem m_pays {w : List Nat} (hd : 14 ≤ d) (h : mAt μ m X B f wi) (ha : asked B.nf s u t a) (hw : wayOf B f (-1) (-1) false s (cl u) (cl t) (cl a) 0 = some w) : xC d yX12_pays cX12_pays 8 none 0 0 [.ref m, .ref (X wi), .int s, .int u, .int t, .int a] μ ro (fun r μ' => r = none ∧ mwFr wi m X μ μ' ∧ nrw (hI μ' (X wi)) (payF B f (cl u) (cl t) (recs (B.D f (-1) (-1) s (cl t)) (cl u) (cl a) w) (leftW (B.D f (-1) (-1) s (cl t)) (cl u) (cl a) w)) ∧ (∀ j, 112 ≤ j → hI μ' (X wi) j = hI μ (X wi) j) ∧ hI μ' m 51 = nI (leftW (B.D f (-1) (-1) s (cl t)) (cl u) (cl a) w)) := by
  obtain ⟨hwk, hsw, hrw⟩ := h.wk
  obtain ⟨hwi, ⟨h1, h2⟩, h3, h4, h5, hB, hrow⟩ := id h
  have hnf := hB.1.1.2.1
  have b1 := hB.1.1
  obtain ⟨-, ⟨e2, k2⟩, ⟨e3, k3⟩, -, -⟩ := ha.ex hnf
  have hwm : X wi ≠ m := h1.ne wi hwk
  have nx : ∀ i, i ∈ mK → i ≠ 30 ∧ i ≠ 31 → X i ≠ X wi := fun i hi hn => fun e => by
    have := h2 i wi hi hwk e
    rcases hwi with rfl | rfl <;> omega
  refine I_X12_pays (fun J g hr => B_X12_pays_0 g hr hsw h1.1 ⟨lit_in 30 (by omega) (by omega), ?_⟩)
  rw [h4.2.1]
  have o1 : ∀ i, i ∈ mK → hI (wI μ m 37 (f 0)) (X i) = hI μ (X i) := fun i hi => hI_wI_n _ _ _ (h1.ne i hi)
  have om : ∀ k, k ≠ 37 → hI (wI μ m 37 (f 0)) m k = hI μ m k := fun k hk => by rw [hI_wI_s, upd_n _ hk]
  refine (q_ms (d := d) (ro := ro) (μ := wI μ m 37 (f 0)) (sp := false) (M := 0) (lv := -1) (g := f) (p := -1) (q := -1) (by omega) (h1.of rfl rfl) h2 (h3.fr ⟨om 20 (by decide), om 22 (by decide), om 24 (by decide)⟩ (o1 8 (by decide)) (o1 10 (by decide)) (o1 12 (by decide))) hB hwi (by rw [o1 wi hwk]; exact h4.1) hrow (by rw [hI_wI_s, upd_s]) (by rw [om 38 (by decide), om 39 (by decide)]; exact ⟨h5.1, h5.2.1⟩) (by rw [om 40 (by decide)]; exact h5.2.2) (Or.inl ⟨rfl, rfl⟩) ha).mono (Nat.le_refl _) ?_
  rintro r μ3 ⟨g1, -, rfl, g4⟩
  refine ⟨_, rfl, ?_⟩
  obtain ⟨q1, q2, q3, q4, q5, -⟩ := g4 w hw
  have hF3 : mwFr wi m X μ μ3 := (mwFr.rf.f 37 _).tt g1.mw
  have hs3 : mSh μ3 m X := h1.of hF3.1.2.2.1 hF3.1.2.1
  have ow : hI μ3 (X wi) = hI μ (X wi) := by
    have hsx : mSh (wI μ m 37 (f 0)) m X := h1.of rfl rfl
    rw [← o1 wi hwk]
    rcases hwi with rfl | rfl
    · exact g1.o hsx h2 30
    · exact g1.o hsx h2 31
  have o10 : hI μ3 (X 10) = hI μ (X 10) := (g1.o (h1.of rfl rfl) h2 10).trans (o1 10 (by decide))
  have hlo : ∀ x, x < B.nf → hI μ3 (X 10) (2 * x) = B.lo x := fun x hx => by rw [o10]; exact h3.2.2.1 x hx
  have hfm : ∀ (j x : Nat), (cl u :: w)[j]? = some x → x < B.nf := fun j x hx => by
    rcases List.mem_cons.mp (List.mem_of_getElem? hx) with rfl | hm
    · exact k2
    · exact chn_lt q1.2.2.1 x hm
  have hw5 := q1.2.1
  have hnrw := mpay_nrw hB hrow h4 k2 k3 hw
  have hfr8 : ∀ r ∈ recs (B.D f (-1) (-1) s (cl t)) (cl u) (cl a) w, r.fm < B.nf := fun r hm => by
    have hm' : r.fm ∈ w := by
      rw [← recs_fm (D := B.D f (-1) (-1) s (cl t)) w (cl u) (cl a)]
      exact List.mem_map.mpr ⟨r, hm, rfl⟩
    exact chn_lt q1.2.2.1 _ hm'
  have hlen := recs_len (B.D f (-1) (-1) s (cl t)) w (cl u) (cl a)
  have hfw : ∀ (j : Nat) (r : Rc), (recs (B.D f (-1) (-1) s (cl t)) (cl u) (cl a) w)[j]? = some r → w[j]? = some r.fm := fun j r hr => recs_get hr
  generalize hrs : recs (B.D f (-1) (-1) s (cl t)) (cl u) (cl a) w = rs at hr hnrw q4 hfr8 hlen hfw
  generalize leftW (B.D f (-1) (-1) s (cl t)) (cl u) (cl a) w = V at hr hnrw q5
  have key : ∀ (suf pre : List Rc) (G : Nat → Int32) (p : Nat), rs = pre ++ suf → (cl u :: w)[pre.length]? = some p → mpay B G p suf = mpay B (hI μ (X wi)) (cl u) rs → J (wRow μ3 (X wi) G) 0 0 25 [(0, .ref m), (1, .ref (X wi)), (4, .int t), (7, .int (nI pre.length))] [] := by
    intro suf
    induction suf with
    | nil =>
      intro pre G p ep hp he
      rw [List.append_nil] at ep
      subst ep
      refine B_X12_pays_25 g hr hs3.1 (by rw [hS_wRow]; rw [(hF3.1.2.2.1 : hS μ3 = hS μ)]; exact hsw) (hs3.r 43 0 6) (hs3.s 43 0 6) (hs3.r 10 0 16) (hs3.s 10 0 16) (hs3.r 47 0 5) (hs3.s 47 0 5) (hs3.r 48 0 5) (hs3.s 48 0 5) (hs3.r 49 0 5) (hs3.s 49 0 5) (by omega) ⟨fun _ => ?_, fun c => absurd (by rw [hI_wRow_n _ _ (Ne.symm hwm), q2, hlen]; exact Int32.le_refl _) c⟩
      have e16 : (16 : Int32) + t = nI (16 + cl t) := off_i 16 e3
      rw [e16, nI_clamp (by omega), wI_wRow, hI_wRow_s, hI_wRow_n _ _ (Ne.symm hwm), q5, show G = mpay B (hI μ (X wi)) (cl u) rs from he]
      refine ⟨vp_in_nI (by omega) (by omega), rfl, hF3.w hwm _, ?_, fun j hj => ?_, ?_⟩
      · rw [hI_wRow_s]; exact hnrw
      · rw [hI_wRow_s, upd_n _ (by omega), mpay_o hB (by omega) rs _ _ k2 hfr8]
      · rw [hI_wRow_n _ _ (Ne.symm hwm)]; exact q5
    | cons r suf ih =>
      intro pre G p ep hp he
      have hl : w.length = pre.length + (suf.length + 1) := by rw [← hlen, ep]; simp
      have hget : rs[pre.length]? = some r := by rw [ep]; simp
      obtain ⟨⟨r1, r2, r3, r4, r5⟩, r6⟩ := q4 _ _ hget
      have hwf : (cl u :: w)[pre.length + 1]? = some r.fm := by rw [List.getElem?_cons_succ]; exact hfw _ _ hget
      have w0 := q3 _ _ hp
      have w1 := q3 _ _ hwf
      have p8 := hfm _ _ hp
      have f8 := hfm _ _ hwf
      have lp := (hB.1.2.1 p p8).cl (by omega)
      have lf := (hB.1.2.1 r.fm f8).cl (by omega)
      have ih' := fun G' => ih (pre ++ [r]) G' r.fm (by rw [ep]; simp) (by rw [List.length_append, List.length_singleton]; exact hwf)
      rw [List.length_append, List.length_singleton] at ih'
      refine B_X12_pays_25 g hr hs3.1 (by rw [hS_wRow]; rw [(hF3.1.2.2.1 : hS μ3 = hS μ)]; exact hsw) (hs3.r 43 0 6) (hs3.s 43 0 6) (hs3.r 10 0 16) (hs3.s 10 0 16) (hs3.r 47 0 5) (hs3.s 47 0 5) (hs3.r 48 0 5) (hs3.s 48 0 5) (hs3.r 49 0 5) (hs3.s 49 0 5) (by omega) ⟨fun c => absurd c (by rw [hI_wRow_n _ _ (Ne.symm hwm), q2]; exact nI_ge (by omega) (by omega)), fun _ => ?_⟩
      have x43 := nx 43 (by decide) (by decide)
      have x10 := nx 10 (by decide) (by decide)
      have x47 := nx 47 (by decide) (by decide)
      have x48 := nx 48 (by decide) (by decide)
      have x49 := nx 49 (by decide) (by decide)
      rw [nI_1, nI_clamp (show pre.length < 2147483648 by omega), nI_clamp (show pre.length + 1 < 2147483648 by omega)]
      rw [hI_wRow_n _ _ x43, w0, show (2 : Int32) * nI p = nI (2 * p) from i_mul 2 p, nI_clamp (show 2 * p < 2147483648 by omega), hI_wRow_n _ _ x10, hlo p p8, hI_wRow_n _ _ x47, r4]
      refine ⟨vp_in_nI (by omega) (by omega), vp_in_nI (by omega) (by omega), fun v7 e7 => ?_⟩
      have ev7 : (24 : Int32) + v7 = nI (24 + cl (B.lo p)) := by rw [e7, lp.1, cl_nI (by omega)]; exact i_off 24 _
      rw [ev7, nI_clamp (by omega), hI_wRow_s]
      refine ⟨vp_in_nI (by omega) (by omega), vp_in_nI (by omega) (by omega), fun v10 e10 => ?_⟩
      subst e10
      rw [wI_wRow, hI_wRow_n _ _ (Ne.symm hwm), q2, pred_n (by omega)]
      have hiff : nI pre.length = nI (w.length - 1) ↔ pre.length = w.length - 1 := ⟨fun q => by have := congrArg cl q; rw [cl_nI (by omega), cl_nI (by omega)] at this; exact this, fun q => by rw [q]⟩
      have hmp : mpay B G p (r :: suf) = mpay B (if suf = [] then upd G (24 + cl (B.lo p)) (G (24 + cl (B.lo p)) + nI r.hd) else upd (upd (upd G (24 + cl (B.lo p)) (G (24 + cl (B.lo p)) + nI r.hd)) (24 + cl (B.lo r.fm)) (upd G (24 + cl (B.lo p)) (G (24 + cl (B.lo p)) + nI r.hd) (24 + cl (B.lo r.fm)) + nI r.du)) r.fm (nI r.cr)) r.fm suf := rfl
      rw [hmp] at he
      refine ⟨fun c => ?_, fun c => ?_⟩
      · have hne : suf ≠ [] := fun q => c (hiff.mpr (by rw [q] at hl; simp at hl; omega))
        rw [if_neg hne] at he
        have hsl : 0 < suf.length := List.length_pos_iff.mpr hne
        rw [hI_wRow_n _ _ x43, w1]
        refine ⟨vp_in_nI (by omega) (by omega), fun v13 e13 => ?_⟩
        subst e13
        rw [show (2 : Int32) * nI r.fm = nI (2 * r.fm) from i_mul 2 _, nI_clamp (show 2 * r.fm < 2147483648 by omega), hI_wRow_n _ _ x10, hlo r.fm f8]
        refine ⟨vp_in_nI (by omega) (by omega), fun v17 e17 => ?_⟩
        have ev17 : (24 : Int32) + v17 = nI (24 + cl (B.lo r.fm)) := by rw [e17, lf.1, cl_nI (by omega)]; exact i_off 24 _
        rw [ev17, nI_clamp (by omega), hI_wRow_s]
        refine ⟨vp_in_nI (by omega) (by omega), fun v19 e19 => ?_⟩
        rw [hI_wRow_n _ _ x48, r5]
        refine ⟨vp_in_nI (by omega) (by omega), fun v21 e21 => ?_⟩
        rw [wI_wRow, hI_wRow_n _ _ x43, w1]
        intro v22 e22
        rw [hI_wRow_n _ _ x49, r6 (by rw [ep]; simp; omega)]
        refine ⟨vp_in_nI (by omega) (by omega), fun v24 e24 => ?_⟩
        rw [e22, Int32.zero_add, nI_clamp (show r.fm < 2147483648 by omega), wI_wRow, e24, e19, e21]
        exact ⟨vp_in_nI (by omega) (by omega), ih' _ he⟩
      · have hsn : suf = [] := List.length_eq_zero_iff.mp (by have := hiff.mp c; omega)
        rw [if_pos hsn] at he
        exact ih' _ he
  have := key rs [] (hI μ (X wi)) (cl u) rfl rfl rfl
  rw [← ow, wRow_id] at this
  exact this
end mpays
