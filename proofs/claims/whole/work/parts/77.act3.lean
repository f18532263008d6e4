/-! image, back, perform, run of the class -/
/-- all of the class's cells but the text builder -/
def cO : List Nat := (List.range 51).filter (fun i => i != 30)
def cOut (A : Nat → Nat) (μ μ' : Hp) : Prop := ∀ b, b ∉ cO.map A → hI μ' b = hI μ b ∧ hL μ' b = hL μ b ∧ hR μ' b = hR μ b ∧ hS μ' b = hS μ b
theorem cOut.rf {A : Nat → Nat} {μ : Hp} : cOut A μ μ := fun _ _ => ⟨rfl, rfl, rfl, rfl⟩
theorem cOut.tt {A : Nat → Nat} {μ μ1 μ2 : Hp} (h : cOut A μ μ1) (h' : cOut A μ1 μ2) : cOut A μ μ2 := fun b hb => by
  obtain ⟨a1, a2, a3, a4⟩ := h b hb
  obtain ⟨b1, b2, b3, b4⟩ := h' b hb
  exact ⟨b1.trans a1, b2.trans a2, b3.trans a3, b4.trans a4⟩
theorem gFr.out {I : List Nat} {A : Nat → Nat} {μ μ' : Hp} (h : gFr I A μ μ') (hI51 : ∀ k ∈ I, k ∈ cO := by decide) : cOut A μ μ' := fun b hb => by
  refine ⟨h.2.2.1 b (fun q => hb ?_), h.2.2.2 b (fun q => hb ?_), by rw [h.1], by rw [h.2.1]⟩
  · obtain ⟨k, hk, e⟩ := List.mem_map.mp q
    exact List.mem_map.mpr ⟨k, hI51 k hk, e⟩
  · exact List.mem_map.mpr ⟨0, by decide, q.symm⟩
theorem qFr.out {A : Nat → Nat} {μ μ' : Hp} (h : qFr A μ μ') : cOut A μ μ' := gFr.out (Fr.g h.1)
theorem outI {A : Nat → Nat} {μ μ1 : Hp} (h : cOut A μ μ1) (i k : Nat) (x : Int32) (hi : i ∈ cO := by decide) : cOut A μ (wI μ1 (A i) k x) := h.tt (fun b hb => ⟨hI_wI_n _ _ _ (fun e => hb (List.mem_map.mpr ⟨i, hi, e.symm⟩)), rfl, rfl, rfl⟩)
theorem outW {A : Nat → Nat} {μ μ1 : Hp} (h : cOut A μ μ1) (i : Nat) (g : Nat → Int32) (hi : i ∈ cO := by decide) : cOut A μ (wRow μ1 (A i) g) := h.tt (fun b hb => ⟨hI_wRow_n _ _ (fun e => hb (List.mem_map.mpr ⟨i, hi, e.symm⟩)), rfl, rfl, rfl⟩)
theorem outR {A : Nat → Nat} {μ μ1 : Hp} (h : cOut A μ μ1) (i k : Nat) (x : Option Nat) (hi : i ∈ cO := by decide) : cOut A μ (wR μ1 (A i) k x) := h.tt (fun b hb => ⟨rfl, rfl, va_up_ne _ _ (fun e => hb (List.mem_map.mpr ⟨i, hi, e.symm⟩)), rfl⟩)
def St.upI (S : St) (im : Option ((Nat → Int32) × List Tri)) : St := (S.1, S.2.1, S.2.2.1, S.2.2.2.1, S.2.2.2.2.1, S.2.2.2.2.2.1, im, S.2.2.2.2.2.2.2)
def St.img (S : St) : St := if S.B.nf = 0 then S else S.upI (some (S.f, S.L))
def aImg (S : St) : Int32 := if S.B.nf = 0 then -1 else S.f 0
def St.back (S : St) : St := match S.im with
  | none => S
  | some q => S.upA q.1 [] q.2
def aBack (S : St) : Int32 := match S.im with
  | none => -1
  | some q => q.1 0
theorem lgCopy_ok {h0 row h0' row' : Nat → Int32} {nx hd M : Nat} {L : List Tri} (h : lgOk h0 row nx hd L M) (hM : 60 ≤ M) : lgOk (upd (upd h0' 0 (h0 0)) 1 (h0 1)) (fun j => if j < 300 then row j else row' j) nx hd L 60 := by
  obtain ⟨⟨a1, a2, a3, a4, a5, a6⟩, a7⟩ := h
  refine ⟨⟨?_, ?_, a3, a4, a5, by omega⟩, fun i q hi hq => ?_⟩
  · rw [upd_n _ (by decide), upd_s, a1]
  · rw [upd_s, a2]
  · obtain ⟨b0, b1, b2⟩ := a7 i q hi hq
    have hr : ∀ j, j < 300 → (fun j => if j < 300 then row j else row' j) j = row j := fun j hj => if_pos hj
    exact ⟨(hr _ (by omega)).trans b0, (hr _ (by omega)).trans b1, (hr _ (by omega)).trans b2⟩
section act3
variable {d : Nat} {ro : Nat → Nat} {μ : Hp} {A : Nat → Nat} {S : St}
theorem c_image (hd : 4 ≤ d) (h : cR μ A S) : xC d yX11_image cX11_image 1 (some .int) 0 0 [.ref (A 0)] μ ro (fun r μ' => r = some (.int (aImg S)) ∧ cR μ' A S.img ∧ cOut A μ μ') := by
  obtain ⟨hq, hnm, ⟨hhs, hgood⟩, ⟨ln, lh, hl⟩, him, htp, hsc, hrf⟩ := id h
  have hsh := hq.1.1
  have hj := hq.1.2
  have hnf := hq.2.2.2.1.1.1.2.1
  unfold aImg St.img
  refine I_X11_image (fun J g hz => B_X11_image_0 g hz (hsh.s 0 14 18) (hsh.r 0 13 39) (hsh.s 39 6 9) (hsh.r 0 12 37) (hsh.r 0 10 33) (hsh.s 37 12 4) (by omega) ?_)
  rw [hq.2.1.2.1]
  refine pk_le S.B.nf 0 (fun c => ⟨by rw [if_pos (by omega)], by rw [if_pos (by omega)]; exact h, cOut.rf⟩) (fun c0 => ?_)
  rw [if_neg (by omega), if_neg (by omega)]
  refine xCall_of (c_copyFrom (d := d - 1) (by omega) hsh.im hsh.st (hsh.r 33 1 39)) (by omega) ?_
  rintro r μ7 ⟨rfl, e7⟩
  have hg : (fun j => if j < 112 then hI μ (A 34) j else hI μ (A 38) j) = S.f := funext fun j => by
    by_cases hj : j < 112
    · rw [if_pos hj, hq.2.2.2.2.1.1]
    · rw [if_neg hj, him.2.1 j (by omega), hq.2.2.2.2.2.2.1 j (by omega)]
  rw [hg] at e7
  have o7 : ∀ i, i < 51 → 37 ≠ i → 38 ≠ i → hI μ7 (A i) = hI μ (A i) := fun i hi n1 n2 => by
    rw [e7, hI_wI_n _ _ _ (hj.ne i 37 hi (by decide) (Ne.symm n1)), hI_wI_n _ _ _ (hj.ne i 37 hi (by decide) (Ne.symm n1))]
    exact hI_wRow_n _ _ (hj.ne i 38 hi (by decide) (Ne.symm n2))
  have q38 : hI μ7 (A 38) = S.f := by
    rw [e7, hI_wI_n _ _ _ (hj.ne 38 37), hI_wI_n _ _ _ (hj.ne 38 37)]
    exact hI_wRow_s _ _ _
  have hS7 : hS μ7 = hS μ := by rw [e7]; rfl
  have hL7 : hL μ7 = hL μ := by rw [e7]; rfl
  have hR7 : hR μ7 = va_up (hR μ) (A 37) (va_up (hR μ (A 37)) 1 (some (A 39))) := by rw [e7]; rfl
  have rn : ∀ a, a ≠ A 37 → hR μ7 a = hR μ a := fun a ha => by rw [hR7, va_up_ne _ _ ha]
  have s7 : cSh μ7 A := by
    refine ⟨fun q hq' => by rw [hS7]; exact hsh.1 q hq', fun q hq' => ?_⟩
    by_cases e : q.1 = 37
    · have e2 : ∀ q, q ∈ cRef → q.1 = 37 → q.2.1 = 0 := by decide
      rw [hR7, e, va_up_self, e2 q hq' e, va_up_ne _ _ (by decide)]
      have := hsh.2 q hq'
      rw [e, e2 q hq' e] at this
      exact this
    · have e3 : ∀ q, q ∈ cRef → q.1 < 51 := by decide
      rw [rn _ (hj.ne q.1 37 (e3 q hq') (by decide) e)]
      exact hsh.2 q hq'
  have l7 : isLg μ7 (A 26) (A 27) := ⟨s7.s 26 9 3, s7.r 26 2 27, s7.s 27 0 300⟩
  refine ⟨rfl, s7.s 0 14 18, _, s7.r 0 6 28, _, s7.r 0 5 26, s7.s 28 9 3, xCall_of (c_lgCopy (d := d - 1) (by omega) ⟨s7.s 28 9 3, s7.r 28 2 29, s7.s 29 0 300⟩ l7 (hj.ne 28 26)) (by omega) ?_⟩
  rintro r μ9 ⟨rfl, e9⟩
  rw [o7 26 (by decide) (by decide) (by decide), o7 27 (by decide) (by decide) (by decide), o7 28 (by decide) (by decide) (by decide), o7 29 (by decide) (by decide) (by decide)] at e9
  have s9 : cSh μ9 A := s7.of (by rw [e9]; rfl) (by rw [e9]; rfl)
  have o9 : ∀ i, i < 51 → 28 ≠ i → 29 ≠ i → hI μ9 (A i) = hI μ7 (A i) := fun i hi n1 n2 => by
    rw [e9, hI_wRow_n _ _ (hj.ne i 28 hi (by decide) (Ne.symm n1)), hI_wRow_n _ _ (hj.ne i 29 hi (by decide) (Ne.symm n2))]
  refine ⟨rfl, s9.s 0 14 18, _, s9.r 0 10 33, s9.s 33 12 4, _, s9.r 33 0 34, _, s9.s 34 0 112, lit_in 0 (by omega) (by omega), ?_⟩
  have hout : cOut A μ (wI μ9 (A 0) 16 1) := by
    rw [e9, e7]
    exact outI (outW (outW (outI (outI (outR (outW cOut.rf 38 _) 37 1 _) 37 2 _) 37 3 _) 29 _) 28 _) 0 16 1
  generalize hμ' : wI μ9 (A 0) 16 1 = μ' at hout ⊢
  have o : ∀ i, i < 51 → 0 ≠ i → hI μ' (A i) = hI μ9 (A i) := fun i hi n => by rw [← hμ', hI_wI_n _ _ _ (hj.ne i 0 hi (by decide) (Ne.symm n))]
  have o' : ∀ i, i < 51 → 0 ≠ i ∧ 28 ≠ i ∧ 29 ≠ i ∧ 37 ≠ i ∧ 38 ≠ i → hI μ' (A i) = hI μ (A i) := fun i hi n => by
    rw [o i hi n.1, o9 i hi n.2.1 n.2.2.1, o7 i hi n.2.2.2.1 n.2.2.2.2]
  have hS' : hS μ' = hS μ7 := by rw [← hμ', e9]; rfl
  have hR' : hR μ' = hR μ7 := by rw [← hμ', e9]; rfl
  have hL' : hL μ' = hL μ := by rw [← hμ', e9]; exact hL7
  have x0 : ∀ k, k ≠ 16 → hI μ' (A 0) k = hI μ (A 0) k := fun k hk => by
    rw [← hμ', hI_wI_s, upd_n _ hk, o9 0 (by decide) (by decide) (by decide), o7 0 (by decide) (by decide) (by decide)]
  refine ⟨?_, ⟨?_, ?_, ⟨?_, hgood⟩, ?_, ?_, ?_, ?_, ?_⟩, hout⟩
  · rw [o' 34 (by decide) (by decide), hq.2.2.2.2.1.1]
  · obtain ⟨a1, a2, a3, a4, a5, a6, a7, a8⟩ := hq
    refine ⟨⟨s7.of hS' hR', hj⟩, ?_, ?_, a4, ?_, ?_, a7, ?_⟩
    · rw [o' 39 (by decide) (by decide)]; exact a2
    · rw [o' 42 (by decide) (by decide), o' 43 (by decide) (by decide), o' 44 (by decide) (by decide)]; exact a3
    · rw [o' 34 (by decide) (by decide), o' 33 (by decide) (by decide)]; exact a5
    · rw [o' 14 (by decide) (by decide)]; exact a6
    · rw [o' 36 (by decide) (by decide)]; exact a8
  · unfold cNm; rw [hL']; exact hnm
  · unfold cHs; rw [o' 24 (by decide) (by decide), o' 25 (by decide) (by decide)]; exact hhs
  · unfold cLg; rw [o' 26 (by decide) (by decide), o' 27 (by decide) (by decide)]; exact ⟨ln, lh, hl⟩
  · refine ⟨?_, ?_, ?_⟩
    · rw [← hμ', hI_wI_s, upd_s]; rfl
    · intro j hjj
      rw [o 38 (by decide) (by decide), o9 38 (by decide) (by decide) (by decide), q38]; exact hq.2.2.2.2.2.2.1 j hjj
    · intro q hq'
      have hq' : some (S.f, S.L) = some q := hq'
      cases hq'
      refine ⟨⟨?_, hq.2.2.2.2.1.2.1⟩, ?_, ln, lh, ?_⟩
      · rw [o 38 (by decide) (by decide), o9 38 (by decide) (by decide) (by decide), q38]
      · rw [hR', hR7, va_up_self, va_up_self]
      · rw [o 28 (by decide) (by decide), o 29 (by decide) (by decide), e9, hI_wRow_s, hI_wRow_n _ _ (hj.ne 29 28), hI_wRow_s]
        exact lgCopy_ok hl (by omega)
  · unfold cTp; rw [o' 1 (by decide) (by decide), o' 2 (by decide) (by decide)]; exact htp
  · exact hsc.fr (x0 15 (by decide)) (fun k hk => ⟨o' _ (by omega) (by omega), o' _ (by omega) (by omega)⟩)
  · unfold cRf; rw [o' 31 (by decide) (by decide)]; exact hrf
theorem c_back (hd : 4 ≤ d) (h : cR μ A S) : xC d yX11_back cX11_back 1 (some .int) 0 0 [.ref (A 0)] μ ro (fun r μ' => r = some (.int (aBack S)) ∧ cR μ' A S.back ∧ cOut A μ μ') := by
  have hrest := h.rest
  obtain ⟨hq, hnm, ⟨⟨nx, hh⟩, hgood⟩, ⟨ln, lh, hl⟩, him, htp, hsc, hrf⟩ := id h
  have hsh := hq.1.1
  have hj := hq.1.2
  unfold aBack St.back
  refine I_X11_back (fun J g hz => B_X11_back_0 g hz (hsh.s 0 14 18) (hsh.r 0 10 33) (hsh.r 0 12 37) (hsh.s 33 12 4) ?_)
  rw [him.1]
  cases hS : S.im with
  | none => exact ⟨fun c => absurd rfl c, fun _ => ⟨rfl, h, cOut.rf⟩⟩
  | some q =>
    obtain ⟨⟨i1, i2⟩, i3, iln, ilh, i4⟩ := him.2.2 q hS
    have iz : ∀ j, 112 ≤ j → q.1 j = 0 := fun j hj => by rw [← i1]; exact him.2.1 j hj
    refine ⟨fun _ => xCall_of (c_copyFrom (d := d - 1) (by omega) hsh.st hsh.im i3) (by omega) ?_, fun c => absurd c (by rw [if_neg (by simp)]; decide)⟩
    rintro r μ7 ⟨rfl, e7⟩
    have hg : (fun j => if j < 112 then hI μ (A 38) j else hI μ (A 34) j) = q.1 := funext fun j => by
      by_cases hj : j < 112
      · rw [if_pos hj, i1]
      · rw [if_neg hj, hq.2.2.2.2.1.1, hq.2.2.2.2.2.2.1 j (by omega), iz j (by omega)]
    rw [hg, wR_id (μ := wRow μ (A 34) q.1) (hsh.r 33 1 39)] at e7
    have o7 : ∀ i, i < 51 → 33 ≠ i → 34 ≠ i → hI μ7 (A i) = hI μ (A i) := fun i hi n1 n2 => by
      rw [e7, hI_wI_n _ _ _ (hj.ne i 33 hi (by decide) (Ne.symm n1)), hI_wI_n _ _ _ (hj.ne i 33 hi (by decide) (Ne.symm n1)), hI_wRow_n _ _ (hj.ne i 34 hi (by decide) (Ne.symm n2))]
    have s7 : cSh μ7 A := hsh.of (by rw [e7]; rfl) (by rw [e7]; rfl)
    refine ⟨rfl, s7.s 0 14 18, _, s7.r 0 5 26, _, s7.r 0 6 28, s7.s 26 9 3, xCall_of (c_lgCopy (d := d - 1) (by omega) ⟨s7.s 26 9 3, s7.r 26 2 27, s7.s 27 0 300⟩ ⟨s7.s 28 9 3, s7.r 28 2 29, s7.s 29 0 300⟩ (hj.ne 26 28)) (by omega) ?_⟩
    rintro r μ9 ⟨rfl, e9⟩
    rw [o7 26 (by decide) (by decide) (by decide), o7 27 (by decide) (by decide) (by decide), o7 28 (by decide) (by decide) (by decide), o7 29 (by decide) (by decide) (by decide)] at e9
    have s9 : cSh μ9 A := s7.of (by rw [e9]; rfl) (by rw [e9]; rfl)
    have o9 : ∀ i, i < 51 → 26 ≠ i → 27 ≠ i → hI μ9 (A i) = hI μ7 (A i) := fun i hi n1 n2 => by
      rw [e9, hI_wRow_n _ _ (hj.ne i 26 hi (by decide) (Ne.symm n1)), hI_wRow_n _ _ (hj.ne i 27 hi (by decide) (Ne.symm n2))]
    refine ⟨rfl, s9.s 0 14 18, _, s9.r 0 4 24, s9.s 24 8 3, xCall_of (c_hsForget (d := d - 1) (b := A 25) ⟨s9.s 24 8 3, s9.r 24 2 25, s9.s 25 0 4480⟩) (by omega) ?_⟩
    rintro r μ' ⟨rfl, e'⟩
    have s' : cSh μ' A := s9.of (by rw [e']; rfl) (by rw [e']; rfl)
    have o : ∀ i, i < 51 → 24 ≠ i → hI μ' (A i) = hI μ9 (A i) := fun i hi n => by rw [e', hI_wI_n _ _ _ (hj.ne i 24 hi (by decide) (Ne.symm n))]
    have o' : ∀ i, i < 51 → 24 ≠ i ∧ 26 ≠ i ∧ 27 ≠ i ∧ 33 ≠ i ∧ 34 ≠ i → hI μ' (A i) = hI μ (A i) := fun i hi n => by
      rw [o i hi n.1, o9 i hi n.2.1 n.2.2.1, o7 i hi n.2.2.2.1 n.2.2.2.2]
    have q34 : hI μ' (A 34) = q.1 := by
      rw [o 34 (by decide) (by decide), o9 34 (by decide) (by decide) (by decide), e7, hI_wI_n _ _ _ (hj.ne 34 33), hI_wI_n _ _ _ (hj.ne 34 33), hI_wRow_s]
    have hL' : hL μ' = hL μ := by rw [e', e9, e7]; rfl
    have hR' : hR μ' = hR μ := by rw [e', e9, e7]; rfl
    have hout : cOut A μ μ' := by
      rw [e', e9, e7]
      exact outI (outW (outW (outI (outI (outW cOut.rf 34 _) 33 2 _) 33 3 _) 27 _) 26 _) 24 0 0
    refine ⟨rfl, s'.s 0 14 18, _, s'.r 0 10 33, s'.s 33 12 4, _, s'.r 33 0 34, _, s'.s 34 0 112, lit_in 0 (by omega) (by omega), ?_, ⟨?_, ?_, ⟨⟨nx, ?_⟩, ?_, ?_⟩, ?_, ?_, ?_, ?_, ?_⟩, hout⟩
    · rw [q34]
    · obtain ⟨a1, a2, a3, a4, a5, a6, a7, a8⟩ := hq
      refine ⟨⟨s', hj⟩, ?_, ?_, a4, ⟨q34, i2, ?_⟩, ?_, iz, ?_⟩
      · rw [o' 39 (by decide) (by decide)]; exact a2
      · rw [o' 42 (by decide) (by decide), o' 43 (by decide) (by decide), o' 44 (by decide) (by decide)]; exact a3
      · rw [o 33 (by decide) (by decide), o9 33 (by decide) (by decide) (by decide), e7, hI_wI_s, hI_wI_s]
        exact ⟨by rw [upd_n _ (by decide), upd_s], by rw [upd_s]⟩
      · rw [o' 14 (by decide) (by decide)]; exact a6
      · rw [o' 36 (by decide) (by decide)]; exact a8
    · unfold cNm; rw [hL']; exact hnm
    · refine ⟨⟨?_, ?_, hh.1.2.2.1, by simp [St.upA, St.H]⟩, fun i g hi => by simp [St.upA, St.H] at hi⟩
      · rw [e', hI_wI_s, upd_s]; rfl
      · rw [e', hI_wI_s, upd_n _ (by decide), o9 24 (by decide) (by decide) (by decide), o7 24 (by decide) (by decide) (by decide)]; exact hh.1.2.1
    · intro g hg
      simp [St.upA, St.H] at hg
    · exact Nat.zero_le _
    · refine ⟨iln, ilh, ?_⟩
      rw [o 26 (by decide) (by decide), o 27 (by decide) (by decide), e9, hI_wRow_s, hI_wRow_n _ _ (hj.ne 27 26), hI_wRow_s]
      exact lgCopy_ok i4 (Nat.le_refl _)
    · unfold cIm; rw [o' 0 (by decide) (by decide), o' 38 (by decide) (by decide), o' 28 (by decide) (by decide), o' 29 (by decide) (by decide), hR']; exact him
    · unfold cTp; rw [o' 1 (by decide) (by decide), o' 2 (by decide) (by decide)]; exact htp
    · exact hsc.fr (by rw [o' 0 (by decide) (by decide)]) (fun k hk => ⟨o' _ (by omega) (by omega), o' _ (by omega) (by omega)⟩)
    · unfold cRf; rw [o' 31 (by decide) (by decide)]; exact hrf
end act3
