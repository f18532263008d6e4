/-! perform and run of the class -/
def perfS (sr : Nat → Int32) : Nat → Nat → St → Int32 × St
  | i, 0, S => (nI i, S)
  | i, m + 1, S => if rsn S.B S.f (sr (i * 5)) (sr (i * 5 + 1)) (sr (i * 5 + 2)) (sr (i * 5 + 3)) (sr (i * 5 + 4)) = -1 then perfS sr (i + 1) m (S.act (sr (i * 5)) (sr (i * 5 + 1)) (sr (i * 5 + 2)) (sr (i * 5 + 3)) (sr (i * 5 + 4))) else (nI i, S)
def runF (B : Bk) (sr : Nat → Int32) : Nat → Nat → (Nat → Int32) → Nat × (Nat → Int32)
  | i, 0, f => (i, f)
  | i, m + 1, f => if rsn B f (sr (i * 5)) (sr (i * 5 + 1)) (sr (i * 5 + 2)) (sr (i * 5 + 3)) (sr (i * 5 + 4)) = -1 then runF B sr (i + 1) m (doR B f (sr (i * 5)) (sr (i * 5 + 1)) (sr (i * 5 + 2)) (sr (i * 5 + 3)) (sr (i * 5 + 4))) else (i, f)
def aPerf (S : St) (k : Int32) : Int32 := if inN k S.ns ∧ ¬ S.B.nf = 0 then (perfS (S.sr (cl k)) 0 (S.sl (cl k)) S).1 else -1
def St.perf (S : St) (k : Int32) : St := if inN k S.ns ∧ ¬ S.B.nf = 0 then (perfS (S.sr (cl k)) 0 (S.sl (cl k)) S).2 else S
def aRun (S : St) (k x : Int32) : Int32 := if inN k S.ns ∧ ¬ S.B.nf = 0 ∧ ¬ x < 0 ∧ x ≤ 1 then (if x = 1 then sumU (fun i => (runF S.B (S.sr (cl k)) 0 (S.sl (cl k)) S.f).2 (26 + i)) S.B.nl else if (runF S.B (S.sr (cl k)) 0 (S.sl (cl k)) S.f).1 = S.sl (cl k) then -1 else nI (runF S.B (S.sr (cl k)) 0 (S.sl (cl k)) S.f).1) else -1000000
section act4
variable {d : Nat} {ro : Nat → Nat} {μ : Hp} {A : Nat → Nat} {S : St}
theorem scr_q {A : Nat → Nat} (hj : cInj A) {k : Nat} (hk : k < 5) : A (9 + k) ∉ qI.map A := fun hm => by
  obtain ⟨i, hi, e⟩ := List.mem_map.mp hm
  have h1 : ∀ i, i ∈ qI → 14 ≤ i ∧ i < 51 := by decide
  have := hj i (9 + k) (h1 i hi).2 (by omega) e
  have := (h1 i hi).1
  omega
theorem c_perform {k : Int32} (hd : 15 ≤ d) (h : cR μ A S) : xC d yX11_perform cX11_perform 4 (some .int) 0 0 [.ref (A 0), .int k] μ ro (fun r μ' => r = some (.int (aPerf S k)) ∧ cR μ' A (S.perf k) ∧ cOut A μ μ') := by
  have hq := h.1
  have hsh := hq.1.1
  have hj := hq.1.2
  obtain ⟨hs, hs4, hsc⟩ := h.2.2.2.2.2.2.1
  have hnf := hq.2.2.2.1.1.1.2.1
  unfold aPerf St.perf
  refine I_X11_perform (fun J g hz => B_X11_perform_0 g hz (hsh.s 0 14 18) (hsh.r 0 13 39) (hsh.s 39 6 9) (hsh.r 0 1 3) (hsh.s 3 3 5) (by omega) ?_)
  rw [hs, hq.2.1.2.1]
  refine ⟨fun c => ⟨by rw [if_neg (fun q => q.1.1 c)], by rw [if_neg (fun q => q.1.1 c)]; exact h, cOut.rf⟩, fun c1 => ⟨fun c => ⟨by rw [if_neg (fun q => q.1.2 c)], by rw [if_neg (fun q => q.1.2 c)]; exact h, cOut.rf⟩, fun c2 => ?_⟩⟩
  refine pk_le S.B.nf 0 (fun c => ⟨by rw [if_neg (fun q => q.2 (by omega))], by rw [if_neg (fun q => q.2 (by omega))]; exact h, cOut.rf⟩) (fun c3 => ?_)
  have hk : inN k S.ns := ⟨c1, c2⟩
  obtain ⟨e1, k1⟩ := hk.ex (by omega)
  have hc : inN k S.ns ∧ ¬ S.B.nf = 0 := ⟨hk, by omega⟩
  rw [if_pos hc] at hz
  rw [if_pos hc] at hz
  refine ⟨by rw [e1]; exact vp_in_nI (by omega) (by omega), _, (hsh.scr (k := cl k) (by omega)).1, ?_⟩
  generalize hsr : S.sr (cl k) = sr at hz
  generalize hsl : S.sl (cl k) = sl at hz
  have hsl12 : sl ≤ 12 := by rw [← hsl]; exact (hsc _ k1).2.1
  have key := loopUp (Q := fun i => ∀ (μ' : Hp) (S' : St), cR μ' A S' → cOut A μ μ' → (S'.ns = S.ns ∧ S'.sr = S.sr ∧ S'.sl = S.sl) → perfS sr i (sl - i) S' = perfS sr 0 sl S → J μ' 0 0 26 [(0, .ref (A 0)), (2, .ref (A (4 + cl k))), (3, .int (nI i))] []) sl ?_ (fun i hi ih μ' S' h' ho hS he => ?_) 0 (Nat.zero_le _) μ S h cOut.rf ⟨rfl, rfl, rfl⟩ rfl
  · exact key
  · intro μ' S' h' ho hS he
    have hs' := h'.1.1.1
    obtain ⟨g1, g2, g3, g4⟩ := hs'.scr (k := cl k) (by omega)
    have hc' := h'.2.2.2.2.2.2.1.2.2 (cl k) (by rw [hS.1]; exact k1)
    rw [hS.2.2, hsl] at hc'
    refine B_X11_perform_26 g hz g2 g3 (hs'.s 0 14 18) ⟨fun _ => ?_, fun c => absurd (by rw [hc'.1]; exact Int32.le_refl _) c⟩
    rw [hc'.1, ← he, Nat.sub_self]
    exact ⟨rfl, h', ho⟩
  · have hs' := h'.1.1.1
    obtain ⟨g1, g2, g3, g4⟩ := hs'.scr (k := cl k) (by omega)
    have hc' := h'.2.2.2.2.2.2.1.2.2 (cl k) (by rw [hS.1]; exact k1)
    rw [hS.2.2, hS.2.1, hsl, hsr] at hc'
    have rd : ∀ c, c < 5 → hI μ' (A (9 + cl k)) (i * 5 + c) = sr (i * 5 + c) := fun c hc => hc'.2.2 _ (by omega)
    rw [show sl - i = (sl - (i + 1)) + 1 by omega, perfS] at he
    refine B_X11_perform_26 g hz g2 g3 (hs'.s 0 14 18) ⟨fun c => absurd c (by rw [hc'.1]; exact nI_ge hi (by omega)), fun _ => ?_⟩
    rw [show nI i * 5 = nI (i * 5) from pk_mul i 5]
    refine xCall_of (c_actIf (d := d - 1) (i := i * 5) (act := sr (i * 5)) (a := sr (i * 5 + 1)) (b := sr (i * 5 + 2)) (c := sr (i * 5 + 3)) (e := sr (i * 5 + 4)) (by omega) h' ⟨60, g4, by omega, by omega⟩ ⟨rd 0 (by omega), rd 1 (by omega), rd 2 (by omega), rd 3 (by omega), rd 4 (by omega)⟩ (scr_q hj (by omega))) (by omega) ?_
    rintro r μ2 ⟨rfl, q1, q2, -⟩
    have ho2 := ho.tt q2.out
    unfold St.tryA at q1
    by_cases hr : rsn S'.B S'.f (sr (i * 5)) (sr (i * 5 + 1)) (sr (i * 5 + 2)) (sr (i * 5 + 3)) (sr (i * 5 + 4)) = -1
    · rw [if_pos hr] at he q1 ⊢
      rw [nI_1]
      exact ⟨_, rfl, fun _ => ih μ2 _ q1 ho2 hS he, fun c => absurd c (by decide)⟩
    · rw [if_neg hr] at he q1 ⊢
      refine ⟨_, rfl, fun c => absurd rfl c, fun _ => ?_⟩
      rw [← he]
      exact ⟨rfl, q1, ho2⟩
/-- the scratch state of a run -/
theorem c_runApart {k : Nat} (hd : 13 ≤ d) (h : cR μ A S) (hk : k < S.ns) : xC d yX11_runApart cX11_runApart 8 (some .int) 0 0 [.ref (A 0), .ref (A (4 + k))] μ ro (fun r μ' => qFr A μ μ' ∧ r = some (.int (nI (runF S.B (S.sr k) 0 (S.sl k) S.f).1)) ∧ hI μ' (A 36) = (runF S.B (S.sr k) 0 (S.sl k) S.f).2) := by
  have hq := h.1
  have hsh := hq.1.1
  have hj := hq.1.2
  obtain ⟨hs, hs4, hsc⟩ := h.2.2.2.2.2.2.1
  obtain ⟨c1, c2, c3⟩ := hsc k hk
  obtain ⟨g1, g2, g3, g4⟩ := hsh.scr (k := k) (by omega)
  refine I_X11_runApart (fun J g hz => B_X11_runApart_0 g hz (hsh.s 0 14 18) (hsh.r 0 11 35) (hsh.r 0 10 33) (hsh.s 35 12 4) ((q_copy (by omega) hq).mono (Nat.le_refl _) ?_))
  rintro r μ2 ⟨rfl, hF2, ⟨a1, a2, a3⟩, -⟩
  refine ⟨rfl, ?_⟩
  generalize hsr : S.sr k = sr at c3 hz
  generalize hsl : S.sl k = sl at c1 c2 c3 hz
  have key := loopUp (Q := fun i => ∀ (μ' : Hp) (f' : Nat → Int32), qFr A μ μ' → hI μ' (A 36) = f' → goodR S.B f' → hI μ' (A 35) 2 = -1 ∧ hI μ' (A 35) 3 = -1 → runF S.B sr i (sl - i) f' = runF S.B sr 0 sl S.f → J μ' 0 0 13 [(0, .ref (A 0)), (1, .ref (A (4 + k))), (2, .int (nI i))] []) sl ?_ (fun i hi ih μ' f' hF hf' hgd hp he => ?_) 0 (Nat.zero_le _) μ2 S.f hF2 a1 ⟨hq.2.2.2.2.1.2.1, hq.2.2.2.2.2.2.1⟩ ⟨a2, a3⟩ rfl
  · exact key
  · intro μ' f' hF hf' hgd hp he
    have h' := h.fr hF
    have hs' := h'.1.1.1
    obtain ⟨g1, g2, g3, g4⟩ := hs'.scr (k := k) (by omega)
    have hc' := h'.2.2.2.2.2.2.1.2.2 k hk
    rw [hsl] at hc'
    refine B_X11_runApart_13 g hz g2 g3 g4 (hs'.s 0 14 18) (hs'.r 0 3 23) (hs'.r 0 11 35) (hs'.s 23 5 1) ⟨fun _ => ?_, fun c => absurd (by rw [hc'.1]; exact Int32.le_refl _) c⟩
    rw [hc'.1, ← he, Nat.sub_self]
    exact ⟨hF, rfl, hf'⟩
  · have h' := h.fr hF
    have hs' := h'.1.1.1
    obtain ⟨g1, g2, g3, g4⟩ := hs'.scr (k := k) (by omega)
    have hc' := h'.2.2.2.2.2.2.1.2.2 k hk
    rw [hsl, hsr] at hc'
    have rd : ∀ c, c < 5 → hI μ' (A (9 + k)) (i * 5 + c) = sr (i * 5 + c) := fun c hc => hc'.2.2 _ (by omega)
    rw [show sl - i = (sl - (i + 1)) + 1 by omega, runF] at he
    refine B_X11_runApart_13 g hz g2 g3 g4 (hs'.s 0 14 18) (hs'.r 0 3 23) (hs'.r 0 11 35) (hs'.s 23 5 1) ⟨fun c => absurd c (by rw [hc'.1]; exact nI_ge hi (by omega)), fun _ => ?_⟩
    have r0 := rd 0 (by omega)
    have r1 := rd 1 (by omega)
    have r2 := rd 2 (by omega)
    have r3 := rd 3 (by omega)
    have r4 := rd 4 (by omega)
    rw [Nat.add_zero] at r0
    rw [show nI i * 5 = nI (i * 5) from pk_mul i 5, show nI (i * 5) + 1 = nI (i * 5 + 1) from nI_add _ 1, show nI (i * 5) + 2 = nI (i * 5 + 2) from nI_add _ 2, show nI (i * 5) + 3 = nI (i * 5 + 3) from nI_add _ 3, show nI (i * 5) + 4 = nI (i * 5 + 4) from nI_add _ 4, nI_clamp (by omega), nI_clamp (by omega), nI_clamp (by omega), nI_clamp (by omega), nI_clamp (by omega), r0, r1, r2, r3, r4]
    have hat : cAt μ' A S.B f' 35 := h'.1.sc hf' hgd.1 hp
    refine ⟨vp_in_nI (by omega) (by omega), vp_in_nI (by omega) (by omega), vp_in_nI (by omega) (by omega), vp_in_nI (by omega) (by omega), vp_in_nI (by omega) (by omega), xCall_of (c_reason (d := d - 1) (by omega) hat) (by omega) ?_⟩
    rintro r μ8 ⟨hF8, rfl, hw⟩
    have hF' := hF.tt hF8.1
    have hat8 := hat.fr hF8
    have hs8 := hat8.2.1.1
    by_cases hr : rsn S.B f' (sr (i * 5)) (sr (i * 5 + 1)) (sr (i * 5 + 2)) (sr (i * 5 + 3)) (sr (i * 5 + 4)) = -1
    · rw [if_pos hr] at he
      rw [hr]
      refine ⟨_, rfl, fun _ => ⟨hs8.s 0 14 18, _, hs8.r 0 3 23, _, hs8.r 0 11 35, hs8.s 23 5 1, xCall_of (c_carry (d := d - 1) (by omega) hat8 hr (hw hr)) (by omega) ?_⟩, fun c => absurd rfl c⟩
      rintro r μ9 ⟨rfl, e9⟩
      have hd9 := doR_ok hq.2.2.2.1 hgd.1 hgd.2 hr
      have hF9 : qFr A μ8 μ9 := by
        rw [e9]
        exact qFr.rf.sc hj (fun j hj' => by rw [hd9.2 j hj', hF8.2.2, hf', hgd.2 j hj'])
      rw [nI_1]
      refine ⟨_, rfl, ih μ9 _ (hF'.tt hF9) ?_ hd9 ?_ he⟩
      · rw [e9, hI_wRow_s]
      · rw [e9, hI_wRow_n _ _ (hj.ne 35 36), hF8.2.1]; exact hp
    · rw [if_neg hr] at he
      refine ⟨_, rfl, fun c => absurd c hr, fun _ => ?_⟩
      rw [← he]
      exact ⟨hF', rfl, hF8.2.2.trans hf'⟩
theorem runF_le (B : Bk) (sr : Nat → Int32) : ∀ m i f, (runF B sr i m f).1 ≤ i + m
  | 0, i, f => Nat.le_refl _
  | m + 1, i, f => by
    rw [runF]
    split
    · have := runF_le B sr m (i + 1) (doR B f (sr (i * 5)) (sr (i * 5 + 1)) (sr (i * 5 + 2)) (sr (i * 5 + 3)) (sr (i * 5 + 4)))
      omega
    · show i ≤ i + (m + 1)
      omega
theorem c_run {k x : Int32} (hd : 14 ≤ d) (h : cR μ A S) : xC d yX11_run cX11_run 4 (some .int) 0 0 [.ref (A 0), .int k, .int x] μ ro (fun r μ' => qFr A μ μ' ∧ r = some (.int (aRun S k x))) := by
  have hq := h.1
  have hsh := hq.1.1
  have hj := hq.1.2
  obtain ⟨hs, hs4, hsc⟩ := h.2.2.2.2.2.2.1
  have hB := hq.2.2.2.1.1.1
  unfold aRun
  refine I_X11_run (fun J g hz => B_X11_run_0 g hz (hsh.s 0 14 18) (hsh.r 0 13 39) (hsh.s 39 6 9) (hsh.r 0 1 3) (hsh.s 3 3 5) (by omega) ?_)
  rw [hs, hq.2.1.2.1]
  refine ⟨fun c => ⟨qFr.rf, by rw [if_neg (fun q => q.1.1 c)]⟩, fun c1 => ⟨fun c => ⟨qFr.rf, by rw [if_neg (fun q => q.1.2 c)]⟩, fun c2 => ?_⟩⟩
  refine pk_le S.B.nf 0 (fun c => ⟨qFr.rf, by rw [if_neg (fun q => q.2.1 (by omega))]⟩) (fun c3 => ⟨fun c => ⟨qFr.rf, by rw [if_neg (fun q => q.2.2.1 c)]⟩, fun c4 => ⟨fun c5 => ?_, fun c => ⟨qFr.rf, by rw [if_neg (fun q => c q.2.2.2)]⟩⟩⟩)
  have hk : inN k S.ns := ⟨c1, c2⟩
  obtain ⟨e1, k1⟩ := hk.ex (by omega)
  rw [if_pos ⟨hk, by omega, c4, c5⟩]
  obtain ⟨g1, g2, g3, g4⟩ := hsh.scr (k := cl k) (by omega)
  refine ⟨by rw [e1]; exact vp_in_nI (by omega) (by omega), _, g1, xCall_of (c_runApart (d := d - 1) (by omega) h k1) (by omega) ?_⟩
  rintro r μ' ⟨hF, rfl, h36⟩
  have h' := h.fr hF
  have hs' := h'.1.1.1
  obtain ⟨u1, u2, u3, u4⟩ := hs'.scr (k := cl k) (by omega)
  have hc' := h'.2.2.2.2.2.2.1.2.2 (cl k) k1
  have hle := runF_le S.B (S.sr (cl k)) (S.sl (cl k)) 0 S.f
  have hl12 := hc'.2.1
  refine ⟨_, rfl, fun cx => ⟨hs'.s 0 14 18, _, hs'.r 0 1 3, _, hs'.s 3 3 5, by rw [e1]; exact vp_in_nI (by omega) (by omega), _, u1, u2, ?_⟩, fun cx => ⟨hs'.s 0 14 18, _, hs'.r 0 11 35, _, hs'.r 0 13 39, hs'.s 39 6 9, hs'.s 35 12 4, ?_⟩⟩
  · rw [hc'.1, if_neg cx]
    refine ⟨fun c => ⟨hF, ?_⟩, fun c => ⟨hF, ?_⟩⟩
    · rw [if_neg (fun q => c (by rw [q]))]
    · rw [if_pos]
      have := congrArg cl c
      rw [cl_nI (by omega), cl_nI (by omega)] at this
      exact this
  · rw [h'.1.2.1.1, if_pos cx]
    refine xCall_of (c_sum (d := d - 1) (at_ := 26) (c := S.B.nl) hs'.sc (by omega)) (by omega) ?_
    rintro r μ2 ⟨rfl, rfl⟩
    rw [h36]
    exact ⟨_, rfl, hF, rfl⟩
end act4
