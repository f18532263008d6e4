/-! the model does acts -/
def mkF (g : Nat → Int32) (n : Nat) (s a b sh : Int32) : Nat → Int32 := upd (upd (upd (upd (upd (upd g (32 + 5 * n) s) (32 + 5 * n + 1) a) (32 + 5 * n + 2) b) (32 + 5 * n + 3) sh) (32 + 5 * n + 4) (g 30)) 31 (nI (n + 1))
theorem mkF_o {g : Nat → Int32} {n : Nat} {s a b sh : Int32} {j : Nat} (h : j ≠ 31 ∧ (j < 32 + 5 * n ∨ 32 + 5 * n + 5 ≤ j)) : mkF g n s a b sh j = g j := by
  unfold mkF
  rw [upd_n _ h.1, upd_n _ (by omega), upd_n _ (by omega), upd_n _ (by omega), upd_n _ (by omega), upd_n _ (by omega)]
theorem nrw.add {g f : Nat → Int32} {n : Nat} (h : nrw g f) (hn : cl (f 1) = n) (hn16 : n < 16) {s a b sh : Int32} : nrw (mkF g n s a b sh) (addF f n s a b sh (f 0)) := by
  obtain ⟨⟨a1, a2, a3, a4⟩, a5, a6, a7⟩ := h
  rw [hn] at a1 a2 a4
  have e1 : addF f n s a b sh (f 0) 1 = nI (n + 1) := by unfold addF; rw [upd_s]
  have ec : cl (addF f n s a b sh (f 0) 1) = n + 1 := by rw [e1, cl_nI (by omega)]
  have lo : ∀ j, j < 31 → mkF g n s a b sh j = g j := fun j hj => mkF_o ⟨by omega, by omega⟩
  have lf : ∀ j, j < 32 → j ≠ 1 → addF f n s a b sh (f 0) j = f j := fun j hj h1 => addF_o ⟨h1, by omega, by omega, by omega, by omega, by omega⟩
  obtain ⟨f0, f1, f2, f3, f4⟩ := addF_n (f := f) (s := s) (a := a) (b := b) (sh := sh) (si := f 0) hn16
  refine ⟨⟨?_, ?_, fun j hj => ?_, fun i c hi hc => ?_⟩, ?_, fun j hj => ?_, fun l hl => ?_⟩
  · rw [ec]; unfold mkF; rw [upd_s]
  · rw [ec]; exact e1
  · rw [lo _ (by omega), lo _ (by omega), lf _ (by omega) (by omega), lf _ (by omega) (by omega)]; exact a3 j hj
  · rw [ec] at hi
    rcases Nat.lt_succ_iff_lt_or_eq.mp hi with q | rfl
    · rw [mkF_o ⟨by omega, by omega⟩, addF_o ⟨by omega, by omega, by omega, by omega, by omega, by omega⟩]; exact a4 i c q hc
    · have : c = 0 ∨ c = 1 ∨ c = 2 ∨ c = 3 ∨ c = 4 := by omega
      unfold mkF
      rcases this with rfl | rfl | rfl | rfl | rfl
      · rw [upd_n _ (by omega), upd_n _ (by omega), upd_n _ (by omega), upd_n _ (by omega), upd_n _ (by omega), Nat.add_zero, upd_s]; exact f0.symm
      · rw [upd_n _ (by omega), upd_n _ (by omega), upd_n _ (by omega), upd_n _ (by omega), upd_s]; exact f1.symm
      · rw [upd_n _ (by omega), upd_n _ (by omega), upd_n _ (by omega), upd_s]; exact f2.symm
      · rw [upd_n _ (by omega), upd_n _ (by omega), upd_s]; exact f3.symm
      · rw [upd_n _ (by omega), upd_s, a5]; exact f4.symm
  · rw [lo _ (by omega), lf _ (by omega) (by omega)]; exact a5
  · rw [lo _ (by omega), lf _ (by omega) (by omega)]; exact a6 j hj
  · rw [lo _ (by omega), lf _ (by omega) (by omega)]; exact a7 l hl
theorem nrw.share {g f : Nat → Int32} {k : Nat} (h : nrw g f) (hk : k < cl (f 1)) (hn16 : cl (f 1) ≤ 16) (x : Int32) : nrw (upd g (32 + 5 * k + 3) x) (upd f (80 + k) x) := by
  obtain ⟨⟨a1, a2, a3, a4⟩, a5, a6, a7⟩ := h
  have ec : upd f (80 + k) x 1 = f 1 := upd_n _ (by omega)
  refine ⟨⟨by rw [upd_n _ (by omega), ec]; exact a1, by rw [ec]; exact a2, fun j hj => ?_, fun i c hi hc => ?_⟩, ?_, fun j hj => ?_, fun l hl => ?_⟩
  · rw [upd_n _ (by omega), upd_n _ (by omega), upd_n _ (by omega), upd_n _ (by omega)]; exact a3 j hj
  · rw [ec] at hi
    by_cases e : i = k ∧ c = 3
    · obtain ⟨rfl, rfl⟩ := e
      rw [upd_s, show 32 + 16 * 3 + i = 80 + i by omega, upd_s]
    · rw [upd_n _ (by omega), upd_n _ (by omega)]; exact a4 i c hi hc
  · rw [upd_n _ (by omega), upd_n _ (by omega)]; exact a5
  · rw [upd_n _ (by omega), upd_n _ (by omega)]; exact a6 j hj
  · rw [upd_n _ (by omega), upd_n _ (by omega)]; exact a7 l hl
theorem nrw.year {g f : Nat → Int32} (h : nrw g f) (x : Int32) : nrw (upd g 30 x) (upd f 0 x) := by
  obtain ⟨⟨a1, a2, a3, a4⟩, a5, a6, a7⟩ := h
  have ec : upd f 0 x 1 = f 1 := upd_n _ (by omega)
  refine ⟨⟨by rw [upd_n _ (by omega), ec]; exact a1, by rw [ec]; exact a2, fun j hj => ?_, fun i c hi hc => ?_⟩, by rw [upd_s, upd_s], fun j hj => ?_, fun l hl => ?_⟩
  · rw [upd_n _ (by omega), upd_n _ (by omega), upd_n _ (by omega), upd_n _ (by omega)]; exact a3 j hj
  · rw [ec] at hi
    rw [upd_n _ (by omega), upd_n _ (by omega)]; exact a4 i c hi hc
  · rw [upd_n _ (by omega), upd_n _ (by omega)]; exact a6 j hj
  · rw [upd_n _ (by omega), upd_n _ (by omega)]; exact a7 l hl
section mdo2
variable {d : Nat} {ro : Nat → Nat} {μ : Hp} {m : Nat} {X : Nat → Nat} {B : Bk} {f : Nat → Int32} {wi : Nat}
theorem m_makes {w n : Nat} {s a b sh : Int32} (hd : 1 ≤ d) (hw : hS μ w = some (0, 293)) (hn : hI μ w 31 = nI n) (hn16 : n < 16) : xC d yX12_makes cX12_makes 6 none 0 0 [.ref w, .int s, .int a, .int b, .int sh] μ ro (fun r μ' => r = none ∧ μ' = wRow μ w (mkF (hI μ w) n s a b sh)) := by
  refine I_X12_makes (fun J g hr => B_X12_makes_0 g hr hw hd ?_)
  have e0 : (32 : Int32) + 5 * nI n = nI (32 + 5 * n) := by rw [show (5 : Int32) * nI n = nI (5 * n) from i_mul 5 n]; exact i_off 32 _
  have e1 : nI (32 + 5 * n) + 1 = nI (32 + 5 * n + 1) := nI_add _ 1
  have e2 : nI (32 + 5 * n) + 2 = nI (32 + 5 * n + 2) := nI_add _ 2
  have e3 : nI (32 + 5 * n) + 3 = nI (32 + 5 * n + 3) := nI_add _ 3
  have e4 : nI (32 + 5 * n) + 4 = nI (32 + 5 * n + 4) := nI_add _ 4
  rw [hn, e0, e1, e2, e3, e4, nI_clamp (by omega), nI_clamp (by omega), nI_clamp (by omega), nI_clamp (by omega), nI_clamp (by omega)]
  refine ⟨lit_in 31 (by omega) (by omega), vp_in_nI (by omega) (by omega), vp_in_nI (by omega) (by omega), vp_in_nI (by omega) (by omega), vp_in_nI (by omega) (by omega), lit_in 30 (by omega) (by omega), fun v9 ev9 => ⟨vp_in_nI (by omega) (by omega), fun v11 ev11 => ⟨rfl, ?_⟩⟩⟩
  rw [wI_eq μ, wI_wRow, wI_wRow, wI_wRow, hI_wRow_s, upd_n _ (by omega), upd_n _ (by omega), upd_n _ (by omega), upd_n _ (by omega)] at ev9
  rw [wI_eq μ, wI_wRow, wI_wRow, wI_wRow, wI_wRow, hI_wRow_s, upd_n _ (by omega), upd_n _ (by omega), upd_n _ (by omega), upd_n _ (by omega), upd_n _ (by omega), hn] at ev11
  rw [wI_eq μ, wI_wRow, wI_wRow, wI_wRow, wI_wRow, wI_wRow, ev9, ev11, nI_1]
  rfl
def dPost (wi m : Nat) (X : Nat → Nat) (μ μ' : Hp) (f' : Nat → Int32) (num : Int32) : Prop := mwFr wi m X μ μ' ∧ nrw (hI μ' (X wi)) f' ∧ (∀ j, 112 ≤ j → hI μ' (X wi) j = hI μ (X wi) j) ∧ hI μ' m 59 = num
theorem m_owns {v o c : Int32} (hd : 2 ≤ d) (h : mAt μ m X B f wi) (hn : lkA f 0 v o = none → cl (f 1) < 16) : xC d yX12_owns cX12_owns 6 none 0 0 [.ref m, .ref (X wi), .int v, .int o, .int c] μ ro (fun r μ' => r = none ∧ dPost wi m X μ μ' (doO f v o c) (wasS f (lkA f 0 v o)) ∧ hI μ' m 61 = hI μ m 61) := by
  obtain ⟨hwk, hsw, hrw⟩ := h.wk
  obtain ⟨hwi, ⟨h1, h2⟩, h3, h4, h5, hB, hrow⟩ := id h
  have hwm : X wi ≠ m := h1.ne wi hwk
  have n16 := hrow.1.2.1
  refine I_X12_owns (fun J g hr => B_X12_owns_0 g hr (by omega) (xCall_of (c_mLinkOf (d := d - 1) (by omega) hsw h4.1 n16) (by omega) ?_))
  rintro r μ ⟨rfl, rfl⟩
  rw [show fstP (lkP f 0 v o) 0 (cl (f 1)) = lkA f 0 v o from rfl]
  have fin : ∀ (num : Int32) (G : Nat → Int32) (f' : Nat → Int32), nrw G f' → (∀ j, 112 ≤ j → G j = hI μ (X wi) j) → dPost wi m X μ (wRow (wI μ m 59 num) (X wi) G) f' num ∧ hI (wRow (wI μ m 59 num) (X wi) G) m 61 = hI μ m 61 := fun num G f' hG hz => by
    refine ⟨⟨(mwFr.rf.f 59 _).w hwm _, by rw [hI_wRow_s]; exact hG, fun j hj => by rw [hI_wRow_s]; exact hz j hj, ?_⟩, ?_⟩
    · rw [hI_wRow_n _ _ (Ne.symm hwm), hI_wI_s, upd_s]
    · rw [hI_wRow_n _ _ (Ne.symm hwm), hI_wI_s, upd_n _ (by decide)]
  have ow : ∀ num, hI (wI μ m 59 num) (X wi) = hI μ (X wi) := fun num => hI_wI_n _ _ _ hwm
  unfold doO
  cases hk : lkA f 0 v o with
  | none =>
    refine ⟨_, rfl, fun c => absurd rfl c, fun _ => ⟨h1.1, fun c => absurd rfl c, fun _ => xCall_of (m_makes (d := d - 1) (n := cl (f 1)) (by omega) hsw (by rw [ow]; exact h4.1.1) (hn hk)) (by omega) ?_⟩⟩
    rintro r μ' ⟨rfl, rfl⟩
    rw [ow]
    exact ⟨rfl, rfl, fin 0 _ _ (h4.add rfl (hn hk)) (fun j hj => mkF_o ⟨by omega, by have := hn hk; omega⟩)⟩
  | some k =>
    have hkn := (lkA_lt hrow hk).1
    have e80 : (32 : Int32) + 5 * oI (some k) + 3 = nI (32 + 5 * k + 3) := by
      rw [show (5 : Int32) * oI (some k) = nI (5 * k) from i_mul 5 k, show (32 : Int32) + nI (5 * k) = nI (32 + 5 * k) from i_off 32 _]; exact nI_add _ 3
    refine ⟨_, rfl, fun _ => ⟨_, hsw, ?_⟩, fun c => absurd c (oI_ne (by omega))⟩
    rw [e80, nI_clamp (by omega), h4.1.2.2.2 k 3 hkn (by omega)]
    refine ⟨vp_in_nI (by omega) (by omega), h1.1, fun _ => ⟨fun c => ⟨rfl, ?_⟩, fun c => xCall_of (m_unmakes (d := d - 1) (n := cl (f 1)) (by omega) hsw (by rw [ow]; exact h4.1.1) n16 hkn) (by omega) ?_⟩, fun c => absurd c (oI_ne (by omega))⟩
    · simp only []
      rw [if_neg c, wI_eq (wI μ m 59 (f (80 + k))), ow]
      exact fin _ _ _ (h4.share hkn n16 _) (fun j hj => upd_n _ (by omega))
    · rintro r μ' ⟨rfl, rfl⟩
      simp only []
      rw [if_pos c, ow]
      exact ⟨trivial, trivial, fin _ _ _ (h4.rem rfl hkn n16) (fun j hj => by unfold unmF; rw [if_neg (by omega), if_neg (by omega)])⟩
theorem m_lends {v o : Int32} (hd : 2 ≤ d) (h : mAt μ m X B f wi) (hn : lkA f 1 v o = none → cl (f 1) < 16) : xC d yX12_lends cX12_lends 5 none 0 0 [.ref m, .ref (X wi), .int v, .int o] μ ro (fun r μ' => r = none ∧ dPost wi m X μ μ' (doL f v o) (if lkA f 1 v o = none then 1 else 0) ∧ hI μ' m 61 = hI μ m 61) := by
  obtain ⟨hwk, hsw, hrw⟩ := h.wk
  obtain ⟨hwi, ⟨h1, h2⟩, h3, h4, h5, hB, hrow⟩ := id h
  have hwm : X wi ≠ m := h1.ne wi hwk
  have n16 := hrow.1.2.1
  refine I_X12_lends (fun J g hr => B_X12_lends_0 g hr (xCall_of (c_mLinkOf (d := d - 1) (by omega) hsw h4.1 n16) (by omega) ?_))
  rintro r μ ⟨rfl, rfl⟩
  rw [show fstP (lkP f 1 v o) 0 (cl (f 1)) = lkA f 1 v o from rfl]
  have fin : ∀ (num : Int32) (G : Nat → Int32) (f' : Nat → Int32), nrw G f' → (∀ j, 112 ≤ j → G j = hI μ (X wi) j) → dPost wi m X μ (wRow (wI μ m 59 num) (X wi) G) f' num ∧ hI (wRow (wI μ m 59 num) (X wi) G) m 61 = hI μ m 61 := fun num G f' hG hz => by
    refine ⟨⟨(mwFr.rf.f 59 _).w hwm _, by rw [hI_wRow_s]; exact hG, fun j hj => by rw [hI_wRow_s]; exact hz j hj, ?_⟩, ?_⟩
    · rw [hI_wRow_n _ _ (Ne.symm hwm), hI_wI_s, upd_s]
    · rw [hI_wRow_n _ _ (Ne.symm hwm), hI_wI_s, upd_n _ (by decide)]
  have ow : ∀ num, hI (wI μ m 59 num) (X wi) = hI μ (X wi) := fun num => hI_wI_n _ _ _ hwm
  unfold doL
  cases hk : lkA f 1 v o with
  | none =>
    refine ⟨_, rfl, fun c => absurd rfl c, fun _ => ⟨h1.1, fun c => absurd rfl c, fun _ => xCall_of (m_makes (d := d - 1) (n := cl (f 1)) (by omega) hsw (by rw [ow]; exact h4.1.1) (hn hk)) (by omega) ?_⟩⟩
    rintro r μ' ⟨rfl, rfl⟩
    rw [ow]
    exact ⟨rfl, rfl, fin 1 _ _ (h4.add rfl (hn hk)) (fun j hj => mkF_o ⟨by omega, by have := hn hk; omega⟩)⟩
  | some k =>
    have hkn := (lkA_lt hrow hk).1
    refine ⟨_, rfl, fun _ => ⟨h1.1, fun _ => xCall_of (m_unmakes (d := d - 1) (n := cl (f 1)) (by omega) hsw (by rw [ow]; exact h4.1.1) n16 hkn) (by omega) ?_, fun c => absurd c (oI_ne (by omega))⟩, fun c => absurd c (oI_ne (by omega))⟩
    rintro r μ' ⟨rfl, rfl⟩
    rw [ow]
    exact ⟨rfl, rfl, fin 0 _ _ (h4.rem rfl hkn n16) (fun j hj => by unfold unmF; rw [if_neg (by omega), if_neg (by omega)])⟩
theorem own16 {B : Bk} {f : Nat → Int32} (hrow : B.row f) {v o c : Int32} (e3 : rOwn B f v o c = -1) (hk : lkA f 0 v o = none) : cl (f 1) < 16 := by
  unfold rOwn at e3
  split at e3
  · exact absurd e3 (by decide)
  split at e3
  · exact absurd e3 (by decide)
  split at e3
  · exact absurd e3 (by decide)
  split at e3
  · exact absurd e3 (by decide)
  rename_i c4
  exact lt16 hrow (Classical.not_not.mp (fun q => c4 ⟨hk, q⟩))
theorem lend16 {B : Bk} {f : Nat → Int32} (hrow : B.row f) {v o : Int32} (e3 : rLend B f v o = -1) (hk : lkA f 1 v o = none) : cl (f 1) < 16 := by
  unfold rLend at e3
  split at e3
  · exact absurd e3 (by decide)
  split at e3
  · exact absurd e3 (by decide)
  split at e3
  · exact absurd e3 (by decide)
  rename_i c4
  exact lt16 hrow (Classical.not_not.mp (fun q => c4 ⟨hk, q⟩))
theorem pay_ask {B : Bk} {f : Nat → Int32} {s u t a : Int32} (e3 : rPay B f s u t a = -1) : asked B.nf s u t a ∧ ∃ w, wayOf B f (-1) (-1) false s (cl u) (cl t) (cl a) 0 = some w := by
  unfold rPay at e3
  split at e3
  · exact absurd e3 (by decide)
  rename_i c1
  split at e3
  · exact absurd e3 (by decide)
  rename_i c2
  split at e3
  · exact absurd e3 (by decide)
  rename_i c3
  have c1' := Classical.not_not.mp c1
  have c2' := Classical.not_not.mp c2
  refine ⟨⟨c2'.1, c1'.1, c1'.2, fun q => c3 (Or.inl q), c2'.2⟩, ?_⟩
  cases hw : wayOf B f (-1) (-1) false s (cl u) (cl t) (cl a) 0 with
  | none => exact absurd (Or.inr hw) c3
  | some w => exact ⟨w, rfl⟩
theorem m_does {act x y z e : Int32} (hd : 15 ≤ d) (h : mAt μ m X B f wi) (hr : rsn B f act x y z e = -1) : xC d yX12_does cX12_does 7 none 0 0 [.ref m, .ref (X wi), .int act, .int x, .int y, .int z, .int e] μ ro (fun r μ' => r = none ∧ dPost wi m X μ μ' (doR B f act x y z e) (doN B f act x y z e) ∧ hI μ' m 60 = doN B f act x y z e ∧ hI μ' m 61 = fmO act x z) := by
  obtain ⟨hwk, hsw, hrw⟩ := h.wk
  obtain ⟨hwi, ⟨h1, h2⟩, h3, h4, h5, hB, hrow⟩ := id h
  have hwm : X wi ≠ m := h1.ne wi hwk
  have n16 := hrow.1.2.1
  have hnf := hB.1.1.2.1
  have hF1 : mwFr wi m X μ (wI μ m 61 x) := mwFr.rf.f 61 _
  have ow : hI (wI μ m 61 x) (X wi) = hI μ (X wi) := hI_wI_n _ _ _ hwm
  have at1 : mAt (wI μ m 61 x) m X B f wi := h.of hF1 (by rw [ow]; exact h4) hrow
  have s61 : hI (wI μ m 61 x) m 61 = x := by rw [hI_wI_s, upd_s]
  /- a last write of what was logged -/
  have fin : ∀ (μ1 : Hp) (f' : Nat → Int32) (num : Int32), dPost wi m X (wI μ m 61 x) μ1 f' num → hI μ1 m 61 = hI (wI μ m 61 x) m 61 → dPost wi m X μ (wI μ1 m 60 (hI μ1 m 59)) f' num ∧ hI (wI μ1 m 60 (hI μ1 m 59)) m 60 = num ∧ hI (wI μ1 m 60 (hI μ1 m 59)) m 61 = x := fun μ1 f' num hp h61 => by
    obtain ⟨p1, p2, p3, p4⟩ := hp
    refine ⟨⟨(hF1.tt p1).f 60 _, ?_, fun j hj => ?_, ?_⟩, ?_, ?_⟩
    · rw [hI_wI_n _ _ _ hwm]; exact p2
    · rw [hI_wI_n _ _ _ hwm, p3 j hj, ow]
    · rw [hI_wI_s, upd_n _ (by decide)]; exact p4
    · rw [hI_wI_s, upd_s]; exact p4
    · rw [hI_wI_s, upd_n _ (by decide), h61, s61]
  refine I_X12_does (fun J g hz => B_X12_does_0 g hz h1.1 hsw ⟨fun q => ?_, fun q => ?_, fun q => ⟨lit_in 30 (by omega) (by omega), ?_⟩, fun q => ?_, fun q => ?_⟩)
  · have n : ∀ k : Int32, k.toInt ≥ 0 → k.toInt ≤ 3 → ¬ act = k := fun k h1 h2 e => by subst e; omega
    have e1 : doN B f act x y z e = if lkA f 1 x y = none then 1 else 0 := by
      unfold doN
      rw [if_neg (n 0 (by decide) (by decide)), if_neg (n 1 (by decide) (by decide)), if_neg (n 2 (by decide) (by decide)), if_neg (n 3 (by decide) (by decide))]
    have e2 : doR B f act x y z e = doL f x y := by
      unfold doR
      rw [if_neg (n 0 (by decide) (by decide)), if_neg (n 1 (by decide) (by decide)), if_neg (n 2 (by decide) (by decide)), if_neg (n 3 (by decide) (by decide))]
    have e3 : rLend B f x y = -1 := by
      rw [← hr]
      unfold rsn
      rw [if_neg (n 0 (by decide) (by decide)), if_neg (n 1 (by decide) (by decide)), if_neg (n 2 (by decide) (by decide)), if_neg (n 3 (by decide) (by decide))]
    have e4 : fmO act x z = x := by
      unfold fmO
      rw [if_neg (n 1 (by decide) (by decide)), if_neg (n 0 (by decide) (by decide))]
    rw [e1, e2, e4]
    refine xCall_of (m_lends (d := d - 1) (by omega) at1 (fun hk => lend16 hrow e3 hk)) (by omega) ?_
    rintro r μ1 ⟨rfl, p1, p2⟩
    exact ⟨rfl, by rw [(p1.1.1.2.2.1 : hS μ1 = _)]; exact h1.1, rfl, fin _ _ _ p1 p2⟩
  · subst q
    rw [rsn0] at hr
    obtain ⟨ha, w, ew⟩ := pay_ask hr
    have e1 : doN B f 0 x y z e = nI (leftW (B.D f (-1) (-1) x (cl z)) (cl y) (cl e) w) := by rw [doN0]; exact arr_w ew
    have e2 : doR B f 0 x y z e = payF B f (cl y) (cl z) (recs (B.D f (-1) (-1) x (cl z)) (cl y) (cl e) w) (leftW (B.D f (-1) (-1) x (cl z)) (cl y) (cl e) w) := by rw [doR0]; unfold doP; rw [ew]
    have e4 : fmO 0 x z = z := by unfold fmO; rw [if_neg (by decide), if_pos rfl]
    rw [e1, e2, e4]
    refine xCall_of (m_pays (d := d - 1) (by omega) at1 ha ew) (by omega) ?_
    rintro r μ1 ⟨rfl, p1, p2, p3, p4⟩
    refine ⟨rfl, by rw [(p1.1.2.2.1 : hS μ1 = _)]; exact h1.1, rfl, ⟨(((hF1.tt p1).f 59 _).f 60 _).f 61 _, ?_, fun j hj => ?_, ?_⟩, ?_, ?_⟩
    · rw [hI_wI_n _ _ _ hwm, hI_wI_n _ _ _ hwm, hI_wI_n _ _ _ hwm]; exact p2
    · rw [hI_wI_n _ _ _ hwm, hI_wI_n _ _ _ hwm, hI_wI_n _ _ _ hwm, p3 j hj, ow]
    · rw [hI_wI_s, upd_n _ (by decide), hI_wI_s, upd_n _ (by decide), hI_wI_s, upd_s, p4]
    · rw [hI_wI_s, upd_n _ (by decide), hI_wI_s, upd_s, hI_wI_s, upd_n _ (by decide), p4]
    · rw [hI_wI_s, upd_s]
  · subst q
    rw [doN1, doR1, show fmO 1 x z = -1 from by unfold fmO; rw [if_pos rfl], ow, h4.2.1]
    intro v7 e7 v8 e8
    rw [hI_wI_s, upd_s] at e7
    rw [hI_wI_s, upd_n _ (by decide), hI_wI_s, upd_s, e7] at e8
    rw [e7, e8, wI_eq (wI μ m 61 x), ow]
    refine ⟨rfl, ⟨((((hF1.w hwm _).f 59 _).f 61 _).f 60 _), ?_, fun j hj => ?_, ?_⟩, ?_, ?_⟩
    · rw [hI_wI_n _ _ _ hwm, hI_wI_n _ _ _ hwm, hI_wI_n _ _ _ hwm, hI_wRow_s]; exact h4.year _
    · rw [hI_wI_n _ _ _ hwm, hI_wI_n _ _ _ hwm, hI_wI_n _ _ _ hwm, hI_wRow_s, upd_n _ (by omega)]
    · rw [hI_wI_s, upd_n _ (by decide), hI_wI_s, upd_n _ (by decide), hI_wI_s, upd_s]
    · rw [hI_wI_s, upd_s]
    · rw [hI_wI_s, upd_n _ (by decide), hI_wI_s, upd_s]
  · subst q
    rw [rsn2] at hr
    unfold rStaff at hr
    split at hr
    · exact absurd hr (by decide)
    rename_i c1
    obtain ⟨ex, kx⟩ := (Classical.not_not.mp c1).ex (by omega)
    have e4 : fmO 2 x z = x := by unfold fmO; rw [if_neg (by decide), if_neg (by decide)]
    rw [doN2, doR2, e4, show (8 : Int32) + x = nI (8 + cl x) from off_i 8 ex, nI_clamp (by omega), ow, (h4.1.2.2.1 (cl x) (by omega)).1]
    refine ⟨vp_in_nI (by omega) (by omega), fun v10 e10 => ?_⟩
    rw [hI_wI_n _ _ _ (Ne.symm hwm), hI_wI_s, upd_s] at e10
    have ow2 : hI (wI (wI μ m 61 x) m 59 (f (2 + cl x))) (X wi) = hI μ (X wi) := by rw [hI_wI_n _ _ _ hwm, ow]
    rw [e10, wI_eq (wI (wI μ m 61 x) m 59 (f (2 + cl x))), ow2]
    refine ⟨rfl, ⟨((hF1.f 59 _).w hwm _).f 60 _, ?_, fun j hj => ?_, ?_⟩, ?_, ?_⟩
    · rw [hI_wI_n _ _ _ hwm, hI_wRow_s]; exact h4.staffN (by omega) _
    · rw [hI_wI_n _ _ _ hwm, hI_wRow_s, upd_n _ (by omega)]
    · rw [hI_wI_s, upd_n _ (by decide), hI_wRow_n _ _ (Ne.symm hwm), hI_wI_s, upd_s]
    · rw [hI_wI_s, upd_s]
    · rw [hI_wI_s, upd_n _ (by decide), hI_wRow_n _ _ (Ne.symm hwm), hI_wI_s, upd_n _ (by decide), s61]
  · subst q
    rw [rsn3] at hr
    have e4 : fmO 3 x z = x := by unfold fmO; rw [if_neg (by decide), if_neg (by decide)]
    rw [doN3, doR3, e4]
    refine xCall_of (m_owns (d := d - 1) (by omega) at1 (fun hk => own16 hrow hr hk)) (by omega) ?_
    rintro r μ1 ⟨rfl, p1, p2⟩
    exact ⟨rfl, by rw [(p1.1.1.2.2.1 : hS μ1 = _)]; exact h1.1, rfl, fin _ _ _ p1 p2⟩
end mdo2
