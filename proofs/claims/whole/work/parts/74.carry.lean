/-! the class carries acts out -/
section carry
variable {d : Nat} {ro : Nat → Nat} {μ : Hp} {A : Nat → Nat} {B : Bk} {f : Nat → Int32} {si : Nat}
theorem c_setShare {v o s : Int32} (hd : 2 ≤ d) (h : cAt μ A B f si) (hn : lkA f 0 v o = none → cl (f 1) < 16) : xC d yX1_setShare cX1_setShare 6 (some .int) 0 0 [.ref (A si), .int v, .int o, .int s] μ ro (fun r μ' => r = some (.int (wasS f (lkA f 0 v o))) ∧ μ' = wRow μ (A (si + 1)) (doO f v o s)) := by
  obtain ⟨hst, hbk⟩ := h.st
  obtain ⟨-, ⟨h1, h2⟩, h3, -, hB, ⟨hf, hrow, -⟩, -⟩ := h
  have n16 := hrow.1.2.1
  unfold doO
  refine I_X1_setShare (fun J g hr => B_X1_setShare_0 g hr hst.1 (xCall_of (c_linkOf (d := d - 1) (n := cl (f 1)) hst (by rw [hf]; exact hrow.1.1) n16) (by omega) ?_))
  rintro r μ ⟨rfl, rfl⟩
  rw [hf, show fstP (lkP f 0 v o) 0 (cl (f 1)) = lkA f 0 v o from rfl]
  cases hk : lkA f 0 v o with
  | none =>
    refine ⟨_, rfl, fun c => absurd rfl c, fun _ => ⟨hst.1, _, hst.2.1, _, hst.2.2, lit_in 0 (by omega) (by omega), xCall_of (c_addLink (d := d - 1) (n := cl (f 1)) hst (by rw [hf]; exact hrow.1.1) (hn hk)) (by omega) ?_⟩⟩
    rintro r μ' ⟨rfl, rfl⟩
    rw [hf]
    exact ⟨rfl, rfl, rfl⟩
  | some k =>
    have hkn := (lkA_lt hrow hk).1
    have e80 : (80 : Int32) + oI (some k) = nI (80 + k) := i_off 80 k
    refine ⟨_, rfl, fun _ => ⟨hst.1, _, hst.2.1, _, hst.2.2, ?_⟩, fun c => absurd c (oI_ne (by omega))⟩
    rw [e80, nI_clamp (by omega), hf]
    refine ⟨vp_in_nI (by omega) (by omega), fun c => ⟨rfl, ?_⟩, fun c => xCall_of (c_removeLink (d := d - 1) (n := cl (f 1)) (by omega) hst (by rw [hf]; exact hrow.1.1) n16 hkn) (by omega) ?_⟩
    · simp only []
      rw [if_neg c, wI_eq, hf]
    · rintro r μ' ⟨rfl, rfl⟩
      simp only []
      rw [hf, if_pos c]
      exact ⟨trivial, rfl, rfl⟩
theorem c_turnLoan {v o : Int32} (hd : 2 ≤ d) (h : cAt μ A B f si) (hn : lkA f 1 v o = none → cl (f 1) < 16) : xC d yX1_turnLoan cX1_turnLoan 4 (some .int) 0 0 [.ref (A si), .int v, .int o] μ ro (fun r μ' => r = some (.int (if lkA f 1 v o = none then 1 else 0)) ∧ μ' = wRow μ (A (si + 1)) (doL f v o)) := by
  obtain ⟨hst, hbk⟩ := h.st
  obtain ⟨-, ⟨h1, h2⟩, h3, -, hB, ⟨hf, hrow, -⟩, -⟩ := h
  have n16 := hrow.1.2.1
  unfold doL
  refine I_X1_turnLoan (fun J g hr => B_X1_turnLoan_0 g hr hst.1 (xCall_of (c_linkOf (d := d - 1) (n := cl (f 1)) hst (by rw [hf]; exact hrow.1.1) n16) (by omega) ?_))
  rintro r μ ⟨rfl, rfl⟩
  rw [hf, show fstP (lkP f 1 v o) 0 (cl (f 1)) = lkA f 1 v o from rfl]
  cases hk : lkA f 1 v o with
  | none =>
    refine ⟨_, rfl, fun c => absurd rfl c, fun _ => ⟨hst.1, _, hst.2.1, _, hst.2.2, lit_in 0 (by omega) (by omega), xCall_of (c_addLink (d := d - 1) (n := cl (f 1)) hst (by rw [hf]; exact hrow.1.1) (hn hk)) (by omega) ?_⟩⟩
    rintro r μ' ⟨rfl, rfl⟩
    rw [hf]
    exact ⟨rfl, rfl, rfl⟩
  | some k =>
    have hkn := (lkA_lt hrow hk).1
    refine ⟨_, rfl, fun _ => ⟨hst.1, xCall_of (c_removeLink (d := d - 1) (n := cl (f 1)) (by omega) hst (by rw [hf]; exact hrow.1.1) n16 hkn) (by omega) ?_⟩, fun c => absurd c (oI_ne (by omega))⟩
    rintro r μ' ⟨rfl, rfl⟩
    rw [hf]
    exact ⟨rfl, rfl, rfl⟩
/-- the finder has the way of what is paid -/
def payW (μ : Hp) (A : Nat → Nat) (B : Bk) (f : Nat → Int32) (act a b c e : Int32) : Prop := act = 0 → asked B.nf a b c e ∧ ∃ w, wayOf B f (-1) (-1) false a (cl b) (cl c) (cl e) 0 = some w ∧ cBest μ A (B.D f (-1) (-1) a (cl c)) (cl b) (cl e) w
theorem c_carry {act a b c e : Int32} (hd : 3 ≤ d) (h : cAt μ A B f si) (hr : rsn B f act a b c e = -1) (hw : payW μ A B f act a b c e) : xC d yX1_carryOut cX1_carryOut 7 (some .int) 0 0 [.ref (A 23), .ref (A si), .int act, .int a, .int b, .int c] μ ro (fun r μ' => r = some (.int (doN B f act a b c e)) ∧ μ' = wRow μ (A (si + 1)) (doR B f act a b c e)) := by
  obtain ⟨hst, hbk⟩ := h.st
  obtain ⟨hsi, ⟨h1, h2⟩, h3, h4, hB, ⟨hf, hrow, hp⟩, h8⟩ := id h
  have hnf := hB.1.1.2.1
  refine I_X1_carryOut (fun J g hz => B_X1_carryOut_0 g hz (h1.s 23 5 1) hst.1 hst.2.1 hst.2.2 ⟨fun q => ?_, fun q => ?_, fun q => ⟨lit_in 0 (by omega) (by omega), ?_, ?_⟩, fun q => ?_, fun q => ?_⟩)
  · have n : ∀ k : Int32, k.toInt ≥ 0 → k.toInt ≤ 3 → ¬ act = k := fun k h1 h2 e => by subst e; omega
    have e1 : doN B f act a b c e = if lkA f 1 a b = none then 1 else 0 := by
      unfold doN
      rw [if_neg (n 0 (by decide) (by decide)), if_neg (n 1 (by decide) (by decide)), if_neg (n 2 (by decide) (by decide)), if_neg (n 3 (by decide) (by decide))]
    have e2 : doR B f act a b c e = doL f a b := by
      unfold doR
      rw [if_neg (n 0 (by decide) (by decide)), if_neg (n 1 (by decide) (by decide)), if_neg (n 2 (by decide) (by decide)), if_neg (n 3 (by decide) (by decide))]
    have e3 : rLend B f a b = -1 := by
      rw [← hr]
      unfold rsn
      rw [if_neg (n 0 (by decide) (by decide)), if_neg (n 1 (by decide) (by decide)), if_neg (n 2 (by decide) (by decide)), if_neg (n 3 (by decide) (by decide))]
    rw [e1, e2]
    refine xCall_of (c_turnLoan (d := d - 1) (by omega) h (fun hk => ?_)) (by omega) ?_
    · unfold rLend at e3
      split at e3
      · exact absurd e3 (by decide)
      split at e3
      · exact absurd e3 (by decide)
      split at e3
      · exact absurd e3 (by decide)
      rename_i c4
      exact lt16 hrow (Classical.not_not.mp (fun q => c4 ⟨hk, q⟩))
    · rintro r μ' ⟨rfl, rfl⟩
      exact ⟨_, rfl, rfl, rfl⟩
  · obtain ⟨ha, w, ew, k1, k2, k3, k4, k5, k6⟩ := hw q
    subst q
    obtain ⟨-, ⟨e2, m2⟩, ⟨e3, m3⟩, -, -⟩ := ha.ex hnf
    have hok := Bk.D_ok (p := -1) (q := -1) (s := a) hB hrow m3
    have hcr := recs_cr hok (p := cl e) (wayOf_ok ew).2.2.1
    have key := c_payByBest (ro := ro) (d := d - 1) (g := f) (B := B) (u := cl b) (t := cl c) (left := leftW (B.D f (-1) (-1) a (cl c)) (cl b) (cl e) w) (rs := recs (B.D f (-1) (-1) a (cl c)) (cl b) (cl e) w) (by omega) hsi h1 h2 hB h3.1 h4.2.1 hf k1 (by rw [recs_len]; exact k2) k3 (by omega) (by rw [recs_len]; exact k4) k5 (fun r hr => Nat.lt_of_lt_of_le (hcr r hr).2 hnf) (by omega)
    rw [← e3] at key
    refine xCall_of key (by omega) ?_
    rintro r μ' ⟨rfl, rfl⟩
    have hne : A 15 ≠ A (si + 1) := by
      rcases hsi with rfl | rfl
      · exact h2.ne 15 34
      · exact h2.ne 15 36
    refine ⟨rfl, h1.s 23 5 1, _, h1.r 23 0 14, h1.s 14 7 9, _, h1.r 14 0 15, h1.s 15 13 5, ?_, ?_⟩
    · rw [hI_wRow_n _ _ hne, k5]
      unfold doN arrOf
      rw [if_pos rfl, ew]
    · unfold doR doP
      rw [if_pos rfl, ew]
  · subst q
    rw [hI_wI_s, upd_s, hf]; rfl
  · subst q
    rw [wI_eq, hf]; rfl
  · subst q
    have e3 : rStaff B f a b = -1 := hr
    unfold rStaff at e3
    split at e3
    · exact absurd e3 (by decide)
    rename_i c1
    obtain ⟨e1, ka⟩ := (Classical.not_not.mp c1).ex (by omega)
    rw [show (2 : Int32) + a = nI (2 + cl a) from off_i 2 e1, nI_clamp (by omega), wI_eq, hf]
    exact ⟨vp_in_nI (by omega) (by omega), rfl, rfl⟩
  · subst q
    have e3 : rOwn B f a b c = -1 := hr
    refine xCall_of (c_setShare (d := d - 1) (by omega) h (fun hk => ?_)) (by omega) ?_
    · unfold rOwn at e3
      split at e3
      · exact absurd e3 (by decide)
      split at e3
      · exact absurd e3 (by decide)
      split at e3
      · exact absurd e3 (by decide)
      split at e3
      · exact absurd e3 (by decide)
      rename_i c4
      exact lt16 hrow (Classical.not_not.mp (fun q => c4 ⟨hk, q⟩))
    · rintro r μ' ⟨rfl, rfl⟩
      exact ⟨_, rfl, rfl, rfl⟩
end carry
/-! rings: one more, one less -/
theorem getE_cons {α : Type} {x e : α} {l : List α} {i : Nat} (h : (x :: l)[i]? = some e) : (i = 0 ∧ e = x) ∨ ∃ k, i = k + 1 ∧ l[k]? = some e := by
  cases i with
  | zero => exact Or.inl ⟨rfl, by simpa using h.symm⟩
  | succ k => exact Or.inr ⟨k, rfl, by simpa using h⟩
theorem getE_take {α : Type} {e : α} {l : List α} {i n : Nat} (h : (l.take n)[i]? = some e) : i < n ∧ l[i]? = some e := by
  rw [List.getElem?_take] at h
  split at h
  · exact ⟨by assumption, h⟩
  · cases h
theorem hsOk.keep {h0 rows g : Nat → Int32} {nx : Nat} {H : List (Nat → Int32)} (h : hsOk h0 rows nx H) : hsOk (lgHead h0 ((nx + 1) % 40) (min (H.length + 1) 40)) (hsRow rows g nx) ((nx + 1) % 40) ((g :: H).take 40) := by
  obtain ⟨⟨a1, a2, a3, a4⟩, a5⟩ := h
  refine ⟨⟨?_, ?_, by omega, by rw [List.length_take]; omega⟩, fun i q hq j hj => ?_⟩
  · unfold lgHead; rw [upd_s, List.length_take, List.length_cons, Nat.min_comm]
  · unfold lgHead; rw [upd_n _ (by decide), upd_s]
  · obtain ⟨hi, hq⟩ := getE_take hq
    rcases getE_cons hq with ⟨rfl, rfl⟩ | ⟨k, rfl, hk⟩
    · have e : ((nx + 1) % 40 + 39 - 0) % 40 = nx := by omega
      rw [e]
      unfold hsRow
      rw [if_pos (by omega)]
      congr 1
      omega
    · have hkl := (List.getElem?_eq_some_iff.mp hk).1
      have e : ((nx + 1) % 40 + 39 - (k + 1)) % 40 = (nx + 39 - k) % 40 := by omega
      rw [e]
      have hne : (nx + 39 - k) % 40 ≠ nx := by omega
      unfold hsRow
      rw [if_neg (by omega)]
      exact a5 k q hk j hj
theorem lgAdd_ok {h0 row : Nat → Int32} {nx hd M M' : Nat} {L : List Tri} {e : Tri} (h : lgOk h0 row nx hd L M) (hM : M' ≤ M + 1) (hM' : M' ≤ 100) : lgOk (lgHead h0 ((nx + 1) % 100) (min (hd + 1) 100)) (lgRow row nx e.1 e.2.1 e.2.2) ((nx + 1) % 100) (min (hd + 1) 100) (e :: L) M' := by
  obtain ⟨⟨a1, a2, a3, a4, a5, a6⟩, a7⟩ := h
  refine ⟨⟨?_, ?_, by omega, by omega, by rw [List.length_cons]; omega, by rw [List.length_cons]; omega⟩, fun i q hi hq => ?_⟩
  · unfold lgHead; rw [upd_s]
  · unfold lgHead; rw [upd_n _ (by decide), upd_s]
  · rcases getE_cons hq with ⟨rfl, rfl⟩ | ⟨k, rfl, hk⟩
    · have e : ((nx + 1) % 100 + 99 - 0) % 100 = nx := by omega
      rw [e]
      unfold lgRow
      exact ⟨by rw [upd_n _ (by omega), upd_n _ (by omega), upd_s], by rw [upd_n _ (by omega), upd_s], by rw [upd_s]⟩
    · have e : ((nx + 1) % 100 + 99 - (k + 1)) % 100 = (nx + 99 - k) % 100 := by omega
      rw [e]
      have hne : (nx + 99 - k) % 100 ≠ nx := by omega
      obtain ⟨b0, b1, b2⟩ := a7 k q (by omega) hk
      unfold lgRow
      refine ⟨?_, ?_, ?_⟩
      · rw [upd_n _ (by omega), upd_n _ (by omega), upd_n _ (by omega)]; exact b0
      · rw [upd_n _ (by omega), upd_n _ (by omega), upd_n _ (by omega)]; exact b1
      · rw [upd_n _ (by omega), upd_n _ (by omega), upd_n _ (by omega)]; exact b2
theorem hsOk.back {h0 rows : Nat → Int32} {nx : Nat} {g : Nat → Int32} {H : List (Nat → Int32)} (h : hsOk h0 rows nx (g :: H)) : hsOk (lgHead h0 ((nx + 39) % 40) H.length) rows ((nx + 39) % 40) H := by
  obtain ⟨⟨a1, a2, a3, a4⟩, a5⟩ := h
  rw [List.length_cons] at a4
  refine ⟨⟨?_, ?_, by omega, by omega⟩, fun i q hq j hj => ?_⟩
  · unfold lgHead; rw [upd_s]
  · unfold lgHead; rw [upd_n _ (by decide), upd_s]
  · have hkl := (List.getElem?_eq_some_iff.mp hq).1
    have e : ((nx + 39) % 40 + 39 - i) % 40 = (nx + 39 - (i + 1)) % 40 := by omega
    rw [e]
    exact a5 (i + 1) q (by simpa using hq) j hj
theorem lgDrop_ok {h0 row : Nat → Int32} {nx hd M M' : Nat} {L : List Tri} {e : Tri} (h : lgOk h0 row nx hd (e :: L) M) (hM : M' + 1 ≤ M) (hM0 : 0 < hd) : lgOk (lgHead h0 ((nx + 99) % 100) (hd - 1)) row ((nx + 99) % 100) (hd - 1) L M' := by
  obtain ⟨⟨a1, a2, a3, a4, a5, a6⟩, a7⟩ := h
  rw [List.length_cons] at a5 a6
  refine ⟨⟨?_, ?_, by omega, by omega, by omega, by omega⟩, fun i q hi hq => ?_⟩
  · unfold lgHead; rw [upd_s]
  · unfold lgHead; rw [upd_n _ (by decide), upd_s]
  · have e : ((nx + 99) % 100 + 99 - i) % 100 = (nx + 99 - (i + 1)) % 100 := by omega
    rw [e]
    exact a7 (i + 1) q (by omega) (by simpa using hq)
