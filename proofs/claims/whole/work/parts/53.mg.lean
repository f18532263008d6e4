/-! the model: all ways -/
theorem c_mIsOn {d : Nat} {ro : Nat → Nat} {μ : Hp} {m : Nat} {X : Nat → Nat} {l : List Nat} {v : Nat} (hs : mSh μ m X) (hl : l.length ≤ 6) (hway : ∀ j x, l[j]? = some x → hI μ (X 43) j = nI x) (hx : ∀ x ∈ l, x < 2 ^ 31) (hv : v < 2 ^ 31) :
    xC d yX12_isOn cX12_isOn 4 (some .boolean) 0 0 [.ref m, .int (nI v), .int (nI l.length)] μ ro (fun r μ' => r = some (.int (if v ∈ l then 1 else 0)) ∧ μ' = μ) := by
  refine I_X12_isOn (fun J g hr => B_X12_isOn_0 g hr ?_)
  have key := loopUp (Q := fun j => (∀ i x, i < j → l[i]? = some x → x ≠ v) → J μ 0 0 2 [(0, .ref m), (1, .int (nI v)), (2, .int (nI l.length)), (3, .int (nI j))] []) l.length ?_ (fun j hj ih hno => ?_) 0 (Nat.zero_le _) (fun i x h => absurd h (Nat.not_lt_zero _))
  · exact key
  · intro hno
    refine B_X12_isOn_2 g hr hs.1 (hs.r 43 0 6) (hs.s 43 0 6) ⟨fun _ => ⟨?_, rfl⟩, fun h => absurd (Int32.le_refl _) h⟩
    rw [if_neg]
    intro hm
    obtain ⟨i, hi, he⟩ := List.mem_iff_getElem.mp hm
    exact hno i v hi (List.getElem?_eq_some_iff.mpr ⟨hi, he⟩) rfl
  · obtain ⟨x, hxj⟩ : ∃ x, l[j]? = some x := ⟨l[j], List.getElem?_eq_getElem hj⟩
    have hxm : x ∈ l := List.mem_of_getElem? hxj
    refine B_X12_isOn_2 g hr hs.1 (hs.r 43 0 6) (hs.s 43 0 6) ⟨fun h => absurd h (nI_ge hj (by omega)), fun _ => ?_⟩
    rw [nI_clamp (by omega), hway j x hxj, nI_1]
    refine ⟨vp_in_nI (by omega) (by omega), fun h => ih (fun i y hi hy e => ?_), fun h => ⟨?_, rfl⟩⟩
    · by_cases hij : i = j
      · subst hij
        rw [hxj] at hy
        cases hy
        exact h (by rw [e])
      · exact hno i y (by omega) hy e
    · have : x = v := (nI_eq (hx x hxm) hv).mp h
      subst this
      rw [if_pos hxm]
theorem chn_app {D : Hd} : ∀ {pre : List Nat} {a u v k : Nat}, chn D a pre → (a :: pre)[pre.length]? = some u → D.lk u v = some k → v < D.nf → chn D a (pre ++ [v])
  | [], a, u, v, k, _, hl, hk, hv => by
    simp at hl
    subst hl
    exact ⟨⟨k, hk⟩, hv, trivial⟩
  | x :: pre, a, u, v, k, hc, hl, hk, hv => by
    obtain ⟨h1, h2, h3⟩ := hc
    refine ⟨h1, h2, chn_app (k := k) h3 ?_ hk hv⟩
    simpa using hl
theorem hl_le {D : Hd} (hD : D.ok) : ∀ {w : List Nat} {u p : Nat}, chn D u w → heldW D u p w + leftW D u p w ≤ p
  | [], u, p, _ => by simp [heldW, leftW]
  | v :: w, u, p, ⟨⟨k, hk⟩, hv, hc⟩ => by
    by_cases h : w = []
    · subst h
      rw [heldW_one, leftW_one]
      have := D.held_le hD (p := p) hk
      omega
    · rw [heldW_more _ _ _ _ h, leftW_more _ _ _ _ h]
      have := hl_le hD (u := v) (p := D.rest u v p) hc
      have := D.due_le hD (p := p) hk hv
      have e : D.rest u v p = p - D.held u v p - D.due u v p := rfl
      omega
/-- the model's count of ways and best way -/
def mGS (μ : Hp) (m : Nat) (X : Nat → Nat) (D : Hd) (frm amt cnt : Nat) (b : Option (List Nat)) : Prop :=
  hI μ m 54 = nI cnt ∧ (b = none → hI μ m 56 = 0) ∧ ∀ w, b = some w → (w ≠ [] ∧ w.length ≤ 5 ∧ chn D frm w ∧ (frm :: w)[w.length]? = some D.to) ∧ (∀ j x, (frm :: w)[j]? = some x → hI μ (X 55) j = nI x) ∧ hI μ m 56 = nI w.length ∧ hI μ m 57 = nI (leftW D frm amt w) ∧ hI μ m 58 = nI (heldW D frm amt w)
theorem c_mEnds {d : Nat} {ro : Nat → Nat} {μ : Hp} {m : Nat} {X : Nat → Nat} {wi : Nat} {f lw lo tr : Nat → Int32} {n nl nf nt u s ow amt cnt : Nat} {p q : Int32} {D : Hd} {w : List Nat} {b : Option (List Nat)} {sp : Bool} (hd : 6 ≤ d) (hc : mCx μ m X wi f lw lo tr n nl nf nt p q) (hD : D = mkD f lw lo tr nt nf p q (nI s) ow) (hs2 : s < 2) (ho8 : ow < nf) (hu8 : u < nf)
    (hch : chn D u w) (hw : w ≠ []) (hl5 : w.length ≤ 5) (hway : ∀ j x, (u :: w)[j]? = some x → hI μ (X 43) j = nI x) (hh : hI μ m 50 = nI w.length) (how : (u :: w)[w.length]? = some D.to) (hamt : amt ≤ 1000000) (hg : mGS μ m X D u amt cnt b) :
    xC d yX12_ends cX12_ends 7 none 0 0 [.ref m, .ref (X wi), .int (nI s), .int (nI amt), .int (if sp = true then 1 else 0)] μ ro (fun r μ' => r = none ∧ mFr m X μ μ' ∧ hI μ' (X 43) = hI μ (X 43) ∧ mGS μ' m X D u amt (cnt + 1) (pickW sp (leftW D u amt) (heldW D u amt) b w)) := by
  obtain ⟨⟨hs, hi, hwi⟩, -, -, -, hr0, hb0⟩ := id hc
  have hDok : D.ok := by rw [hD]; exact mkD_ok hr0 hb0 ho8
  have hDto : D.to = ow := by rw [hD]; rfl
  obtain ⟨g1, g2, g3⟩ := hg
  refine I_X12_ends (fun J g hr => B_X12_ends_0 g hr hs.1 ?_)
  rw [g1, nI_1]
  have hF0 : mFr m X μ (wI μ m 54 (nI (cnt + 1))) := mFr.rf.f 54 _
  refine xCall_of (c_mReckons (d := d - 1) (w := w) (u := u) (ow := ow) (D := D) (by omega) (hc.fr hF0) hD hs2 ho8 hu8 hch hw hl5 (by rw [hI_wI_n _ _ _ (hs.ne 43)]; exact hway) (by rw [hI_wI_s, upd_n _ (by decide)]; exact hh) (by rw [hI_wI_n _ _ _ (hs.ne 43), ← hDto]; exact hway _ _ how) hamt) (by omega) ?_
  rintro r μ2 ⟨rfl, hF2, -, h51, h52, -⟩
  refine ⟨rfl, ?_⟩
  have hF2' : mFr m X μ μ2 := hF0.tt hF2.m
  have hs2' : mSh μ2 m X := hs.of hF2'.1.2.2.1 hF2'.1.2.1
  have o43 : hI μ2 (X 43) = hI μ (X 43) := by rw [(hF2.w (hs.of rfl rfl) hi).1, hI_wI_n _ _ _ (hs.ne 43)]
  have o55 : hI μ2 (X 55) = hI μ (X 55) := by rw [(hF2.w (hs.of rfl rfl) hi).2, hI_wI_n _ _ _ (hs.ne 55)]
  have e50 : hI μ2 m 50 = nI w.length := by rw [hF2.2 50 (by decide), hI_wI_s, upd_n _ (by decide)]; exact hh
  have e54 : hI μ2 m 54 = nI (cnt + 1) := by rw [hF2.2 54 (by decide), hI_wI_s, upd_s]
  have e56 : hI μ2 m 56 = hI μ m 56 := by rw [hF2.2 56 (by decide), hI_wI_s, upd_n _ (by decide)]
  have e57 : hI μ2 m 57 = hI μ m 57 := by rw [hF2.2 57 (by decide), hI_wI_s, upd_n _ (by decide)]
  have e58 : hI μ2 m 58 = hI μ m 58 := by rw [hF2.2 58 (by decide), hI_wI_s, upd_n _ (by decide)]
  have hbd := hl_le hDok (p := amt) hch
  generalize hA : leftW D u amt w = A at h51 hbd
  generalize hH : heldW D u amt w = H at h52 hbd
  have j77 : pickW sp (leftW D u amt) (heldW D u amt) b w = some w → J μ2 0 0 77 [(0, .ref m), (6, .int 0)] [] := fun hpk => by
    have key := loopUp (Q := fun i => ∀ F, (∀ j, j < i → F j = hI μ (X 43) j) → J (wRow μ2 (X 55) F) 0 0 77 [(0, .ref m), (6, .int (nI i))] []) (w.length + 1) ?_ (fun i hi' ih F hF => ?_) 0 (Nat.zero_le _) (hI μ2 (X 55)) (fun j hj => absurd hj (Nat.not_lt_zero _))
    · rw [wRow_id] at key; exact key
    · intro F hF
      refine B_X12_ends_77 g hr hs2'.1 (hs2'.r 55 0 6) (hs2'.r 43 0 6) (hs2'.s 43 0 6) (hs2'.s 55 0 6) ?_
      have rm : hI (wRow μ2 (X 55) F) m = hI μ2 m := hI_wRow_n _ _ (Ne.symm (hs.ne 55))
      rw [rm, e50]
      refine ⟨fun _ v2 e2 => ?_, fun h => absurd (nI_lt (by omega) (by omega)) h⟩
      rw [hI_wI_s, upd_n _ (by decide), hI_wI_s, upd_n _ (by decide), rm, h52] at e2
      subst e2
      rw [hI_wI_s, upd_n _ (by decide), rm, h51]
      have hFn : mFr m X μ (wI (wI (wI (wRow μ2 (X 55) F) m 56 (nI w.length)) m 57 (nI A)) m 58 (nI H)) := by
        refine ((mFr.f (μ1 := wRow μ2 (X 55) F) ?_ 56 _).f 57 _).f 58 _
        refine ⟨hF2'.1.w2 (by simp), fun k hk => ?_⟩
        rw [rm]; exact hF2'.2 k hk
      refine ⟨rfl, hFn, ?_, ?_⟩
      · rw [hI_wI_n _ _ _ (hs.ne 43), hI_wI_n _ _ _ (hs.ne 43), hI_wI_n _ _ _ (hs.ne 43), hI_wRow_n _ _ (hi.ne 43 55)]; exact o43
      · rw [hpk]
        refine ⟨?_, fun h => (by cases h), fun x hx => ?_⟩
        · rw [hI_wI_s, upd_n _ (by decide), hI_wI_s, upd_n _ (by decide), hI_wI_s, upd_n _ (by decide), rm]; exact e54
        · cases hx
          refine ⟨⟨hw, hl5, hch, how⟩, fun j y hy => ?_, ?_, ?_, ?_⟩
          · rw [hI_wI_n _ _ _ (hs.ne 55), hI_wI_n _ _ _ (hs.ne 55), hI_wI_n _ _ _ (hs.ne 55), hI_wRow_s]
            have hj : j < w.length + 1 := by
              have := (List.getElem?_eq_some_iff.mp hy).1
              simpa using this
            rw [hF j hj]; exact hway j y hy
          · rw [hI_wI_s, upd_n _ (by decide), hI_wI_s, upd_n _ (by decide), hI_wI_s, upd_s]
          · rw [hI_wI_s, upd_n _ (by decide), hI_wI_s, upd_s, hA]
          · rw [hI_wI_s, upd_s, hH]
    · refine B_X12_ends_77 g hr hs2'.1 (hs2'.r 55 0 6) (hs2'.r 43 0 6) (hs2'.s 43 0 6) (hs2'.s 55 0 6) ?_
      have rm : hI (wRow μ2 (X 55) F) m = hI μ2 m := hI_wRow_n _ _ (Ne.symm (hs.ne 55))
      rw [rm, e50, nI_clamp (by omega), hI_wRow_n _ _ (hi.ne 43 55), o43, wI_wRow, nI_1]
      refine ⟨fun h => absurd h (nI_nlt (by omega) (by omega)), fun _ => ⟨vp_in_nI (by omega) (by omega), vp_in_nI (by omega) (by omega), ih _ (fun j hj => ?_)⟩⟩
      by_cases hji : j = i
      · subst hji; rw [upd_s]
      · rw [upd_n _ hji]; exact hF j (by omega)
  have jno : ∀ x, b = some x → pickW sp (leftW D u amt) (heldW D u amt) b w = some x → (none : Option Value) = none ∧ mFr m X μ μ2 ∧ hI μ2 (X 43) = hI μ (X 43) ∧ mGS μ2 m X D u amt (cnt + 1) (pickW sp (leftW D u amt) (heldW D u amt) b w) := fun x hx hpk => by
    refine ⟨rfl, hF2', o43, ?_⟩
    rw [hpk]
    obtain ⟨k1, k2, k3, k4, k5⟩ := g3 x hx
    refine ⟨e54, fun h => (by cases h), fun y hy => ?_⟩
    cases hy
    exact ⟨k1, by rw [o55]; exact k2, by rw [e56]; exact k3, by rw [e57]; exact k4, by rw [e58]; exact k5⟩
  have hpick : ∀ x, b = some x → pickW sp (leftW D u amt) (heldW D u amt) b w = if betB sp A H w.length (leftW D u amt x) (heldW D u amt x) x.length = true then some w else some x := fun x hx => by
    rw [hx]; unfold pickW; simp only []; rw [hA, hH]
  cases hb : b with
  | none =>
    have hpk : pickW sp (leftW D u amt) (heldW D u amt) b w = some w := by rw [hb]; rfl
    have z56 : hI μ2 m 56 ≤ 0 := by rw [e56, g2 hb]; exact Int32.le_refl _
    rw [hb] at j77 hpk
    exact ⟨fun _ => ⟨hs2'.1, fun _ => j77 hpk, fun h => absurd z56 h⟩, fun _ => ⟨hs2'.1, fun _ => j77 hpk, fun h => absurd z56 h⟩⟩
  | some x =>
    obtain ⟨⟨x1, x2, x3, x4⟩, k2, k3, k4, k5⟩ := g3 x hb
    have hbx := hl_le hDok (p := amt) x3
    have hp := hpick x hb
    have hxl : 0 < x.length := List.length_pos_iff.mpr x1
    have n56 : ¬ hI μ2 m 56 ≤ 0 := by rw [e56, k3]; exact nI_nle hxl (by omega)
    have jno' := jno x hb
    rw [hb] at jno' j77 hp
    generalize hA0 : leftW D u amt x = A0 at hbx k4 hp
    generalize hH0 : heldW D u amt x = H0 at hbx k5 hp
    have hlen : ∀ (P Q : Prop), (w.length < x.length → P) → (x.length ≤ w.length → Q) → ((hI μ2 m 50 < hI μ2 m 56 → P) ∧ (¬ hI μ2 m 50 < hI μ2 m 56 → Q)) := fun P Q hP hQ => by
      rw [e50, e56, k3]
      exact pk_lt w.length x.length hP hQ
    refine ⟨fun hx4 => ?_, fun hx4 => ?_⟩
    · have hsp : sp = false := by
        cases sp
        · rfl
        · exact absurd hx4 (by decide)
      subst hsp
      refine ⟨hs2'.1, fun h => absurd h n56, fun _ => ?_⟩
      rw [h51, e57, k4]
      have s0 : nI A - nI A0 = 0 ↔ A = A0 := sub_eq0 (by omega) (by omega)
      have s1 : nI A - nI A0 < 0 ↔ A < A0 := by
        rw [Int32.lt_iff_toInt_lt, pk_sub_toInt (by omega) (by omega)]
        show _ < (0 : Int) ↔ _
        omega
      rw [s0, s1]
      refine ⟨fun h => jno' ?_, fun h => ⟨fun h2 => j77 ?_, fun h2 => hlen _ _ (fun h3 => j77 ?_) (fun h3 => jno' ?_)⟩⟩
      · rw [hp, if_neg]; simp [betB]; omega
      · rw [hp, if_pos]; simp [betB]; omega
      · rw [hp, if_pos]; simp [betB]; omega
      · rw [hp, if_neg]; simp [betB]; omega
    · have hsp : sp = true := by
        cases sp
        · exact absurd rfl hx4
        · rfl
      subst hsp
      refine ⟨hs2'.1, fun h => absurd h n56, fun _ => ?_⟩
      rw [h52, e58, k5]
      have s0 : nI H0 - nI H = 0 ↔ H0 = H := sub_eq0 (by omega) (by omega)
      have s1 : nI H0 - nI H < 0 ↔ H0 < H := by
        rw [Int32.lt_iff_toInt_lt, pk_sub_toInt (by omega) (by omega)]
        show _ < (0 : Int) ↔ _
        omega
      rw [s0, s1]
      refine ⟨fun h => jno' ?_, fun h => ⟨fun h2 => j77 ?_, fun h2 => hlen _ _ (fun h3 => j77 ?_) (fun h3 => jno' ?_)⟩⟩
      · rw [hp, if_neg]; simp [betB]; omega
      · rw [hp, if_pos]; simp [betB]; omega
      · rw [hp, if_pos]; simp [betB]; omega
      · rw [hp, if_neg]; simp [betB]; omega
theorem chn_lt {D : Hd} : ∀ {w : List Nat} {u : Nat}, chn D u w → ∀ x ∈ w, x < D.nf
  | [], _, _, x, h => by cases h
  | v :: w, u, hc, x, h => by
    rcases List.mem_cons.mp h with rfl | h
    · exact hc.2.1
    · exact chn_lt hc.2.2 x h
theorem c_mGoesFrom {ro : Nat → Nat} {m : Nat} {X : Nat → Nat} {wi : Nat} {f lw lo tr : Nat → Int32} {n nl nf nt frm s ow amt : Nat} {p q : Int32} {D : Hd} {sp : Bool} (hD : D = mkD f lw lo tr nt nf p q (nI s) ow) (hs2 : s < 2) (ho8 : ow < nf) (hf8 : frm < nf) (hamt : amt ≤ 1000000) :
    ∀ (fuel many : Nat), many + fuel = 6 → 1 ≤ fuel → 1 ≤ many → ∀ (d : Nat) (μ : Hp) (u cnt : Nat) (b : Option (List Nat)) (pre : List Nat) (T : Nat → Bool), fuel + 6 ≤ d → mCx μ m X wi f lw lo tr n nl nf nt p q → mGS μ m X D frm amt cnt b → pre.length + 1 = many → chn D frm pre → (frm :: pre)[pre.length]? = some u →
      (∀ j x, (frm :: pre)[j]? = some x → hI μ (X 43) j = nI x) → (∀ v, v < nf → (T v = true ↔ (nI v = hI μ m 40 ∨ v ∈ frm :: pre))) →
      xC d yX12_goesFrom cX12_goesFrom 8 none 0 0 [.ref m, .ref (X wi), .int (nI s), .int (nI ow), .int (nI amt), .int (nI many), .int (if sp = true then 1 else 0)] μ ro (fun r μ' => r = none ∧ mFr m X μ μ' ∧ (∀ j, j < many → hI μ' (X 43) j = hI μ (X 43) j) ∧
        mGS μ' m X D frm amt (cnt + (waysD D fuel u T).length) (bestW sp (leftW D frm amt) (heldW D frm amt) ((waysD D fuel u T).map (fun w => pre ++ w)) b)) := by
  intro fuel
  induction fuel with
  | zero => intro many _ h; omega
  | succ fuel ih =>
    intro many hmf _ hm1 d μ u cnt b pre T hd hc hg hpl hch hlast hway hT
    obtain ⟨⟨hs, hi, hwi⟩, hbk, -, -, hr0, hb0⟩ := id hc
    have hnf := hb0.1.2.1
    have hDok : D.ok := by rw [hD]; exact mkD_ok hr0 hb0 ho8
    have hDnf : D.nf = nf := by rw [hD]; rfl
    have hDto : D.to = ow := by rw [hD]; rfl
    have hpre : ∀ x ∈ frm :: pre, x < nf := fun x hx => by
      rcases List.mem_cons.mp hx with rfl | hx
      · exact hf8
      · rw [← hDnf]; exact chn_lt hch x hx
    have hu8 : u < nf := hpre u (List.mem_of_getElem? hlast)
    have hmany : (frm :: pre).length = many := by simp; omega
    generalize hrec : (fun v => waysD D fuel v (addT T v)) = rec
    have hways : waysD D (fuel + 1) u T = (List.range D.nf).flatMap (stepW D rec u T) := by rw [← hrec]; rfl
    rw [hways, hDnf]
    generalize hA : leftW D frm amt = A
    generalize hH : heldW D frm amt = H
    refine I_X12_goesFrom (fun J g hr => B_X12_goesFrom_0 g hr ?_)
    refine loopUp (Q := fun v => ∀ μ1, mFr m X μ μ1 → (∀ j, j < many → hI μ1 (X 43) j = hI μ (X 43) j) → mGS μ1 m X D frm amt (cnt + ((List.range v).flatMap (stepW D rec u T)).length) (bestW sp A H (((List.range v).flatMap (stepW D rec u T)).map (fun w => pre ++ w)) b) →
      J μ1 0 0 3 [(0, .ref m), (1, .ref (X wi)), (2, .int (nI s)), (3, .int (nI ow)), (4, .int (nI amt)), (5, .int (nI many)), (6, .int (if sp = true then 1 else 0)), (7, .int (nI v))] []) nf ?_ (fun v hv ihv μ1 hF hwy1 hg1 => ?_) 0 (Nat.zero_le _) μ mFr.rf (fun _ _ => rfl) hg
    · intro μ1 hF hwy1 hg1
      have hs1 := (hc.fr hF).1.1
      refine B_X12_goesFrom_3 g hr hs1.1 ⟨fun _ => ⟨rfl, hF, hwy1, hg1⟩, fun h => absurd ?_ h⟩
      rw [(hc.fr hF).2.1.1.2.1]; exact Int32.le_refl _
    · have hc1 := hc.fr hF
      have hs1 := hc1.1.1
      have e22 : hI μ1 m 22 = nI nf := hc1.2.1.1.2.1
      have e40 : hI μ1 m 40 = hI μ m 40 := hF.2 40 (by decide)
      have hway1 : ∀ j x, (frm :: pre)[j]? = some x → hI μ1 (X 43) j = nI x := fun j x hx => by
        have := (List.getElem?_eq_some_iff.mp hx).1
        rw [hwy1 j (by omega)]; exact hway j x hx
      have skip : stepW D rec u T v = [] → J μ1 0 0 3 [(0, .ref m), (1, .ref (X wi)), (2, .int (nI s)), (3, .int (nI ow)), (4, .int (nI amt)), (5, .int (nI many)), (6, .int (if sp = true then 1 else 0)), (7, .int (nI v + 1))] [] := fun h => by
        rw [nI_1]
        refine ihv μ1 hF hwy1 ?_
        rw [flat_succ, h, List.append_nil]
        exact hg1
      have noT : T v = true → stepW D rec u T v = [] := fun h => by
        rw [stepW, if_neg]
        intro q
        rw [h] at q
        exact absurd q.2 (by decide)
      refine B_X12_goesFrom_3 g hr hs1.1 ?_
      rw [e22, e40]
      refine ⟨fun h => absurd h (nI_ge hv (by omega)), fun _ => ⟨fun h => skip (noT ((hT v hv).mpr (Or.inl h))), fun h40 => ?_⟩⟩
      have hion := c_mIsOn (d := d - 1) (ro := ro) (l := frm :: pre) (v := v) hs1 (by omega) hway1 (fun x hx => by have := hpre x hx; omega) (by omega)
      rw [hmany] at hion
      refine xCall_of hion (by omega) ?_
      rintro r μ1 ⟨rfl, rfl⟩
      refine ⟨_, rfl, fun h => skip (noT ((hT v hv).mpr (Or.inr ?_))), fun h => ?_⟩
      · by_cases hin : v ∈ frm :: pre
        · exact hin
        · rw [if_neg hin] at h; exact absurd rfl h
      have hnin : v ∉ frm :: pre := fun hin => by rw [if_pos hin] at h; exact absurd h (by decide)
      have hTf : T v = false := by
        cases hTv : T v with
        | false => rfl
        | true => exact ((hT v hv).mp hTv).elim (fun q => absurd q h40) (fun q => absurd q hnin)
      have hm1' : nI many - 1 = nI (many - 1) := by
        rw [show (1 : Int32) = nI 1 from rfl, pk_sub hm1]
      refine ⟨hs1.1, X 43, hs1.r 43 0 6, 6, hs1.s 43 0 6, ?_⟩
      rw [hm1', nI_clamp (by omega), nI_clamp (by omega), hway1 (many - 1) u (by rw [← hpl]; exact hlast)]
      refine ⟨vp_in_nI (by omega) (by omega), xCall_of (c_mHopOf (d := d - 1) (by omega) hc1) (by omega) ?_⟩
      rintro r μ1 ⟨rfl, rfl⟩
      have hlkE : lstU (hpP f (nI s) u v) n = D.lk u v := by rw [hD, mkD_lk hr0]
      rw [hlkE]
      refine ⟨_, rfl, fun hne => ?_, fun hn => skip ?_⟩
      · cases hk : D.lk u v with
        | none => rw [hk] at hne; exact absurd rfl hne
        | some k =>
          have hcn : chn D frm (pre ++ [v]) := chn_app hch hlast hk (by omega)
          have hstep : stepW D rec u T v = if v = D.to then [[v]] else (rec v).map (fun w => v :: w) := by
            rw [stepW, if_pos]
            exact ⟨by rw [hk]; rfl, hTf⟩
          refine ⟨hs1.1, X 43, hs1.r 43 0 6, 6, hs1.s 43 0 6, vp_in_nI (by omega) (by omega), ?_⟩
          have hF2 : mFr m X μ (wI μ1 (X 43) many (nI v)) := hF.x 43 _ _ (hs.ne 43)
          have hwy2 : ∀ j, j < many → hI (wI μ1 (X 43) many (nI v)) (X 43) j = hI μ (X 43) j := fun j hj => by
            rw [hI_wI_s, upd_n _ (by omega)]; exact hwy1 j hj
          have hway2 : ∀ j x, (frm :: (pre ++ [v]))[j]? = some x → hI (wI μ1 (X 43) many (nI v)) (X 43) j = nI x := fun j x hx => by
            rw [← List.cons_append] at hx
            rcases getl_app hx with ⟨h1, h2⟩ | ⟨h1, h2⟩
            · rw [hwy2 j (by omega)]; exact hway j x h2
            · rw [hmany] at h1
              rw [h1, h2, hI_wI_s, upd_s]
          have hg2 : ∀ (cn : Nat) (bb : Option (List Nat)), mGS μ1 m X D frm amt cn bb → mGS (wI μ1 (X 43) many (nI v)) m X D frm amt cn bb := fun cn bb hh => by
            unfold mGS at hh ⊢
            rw [hI_wI_n _ _ _ (Ne.symm (hs.ne 43)), hI_wI_n _ _ _ (hi.ne 55 43)]
            exact hh
          refine ⟨fun hto => ?_, fun hto => ?_⟩
          · have hto' : ¬ v = D.to := fun e => hto (by rw [e, hDto])
            rw [if_neg hto'] at hstep
            refine pk_le 5 many (fun hm => ?_) (fun hm => ?_)
            · have hf0 : fuel = 0 := by omega
              have hr0 : rec v = [] := by rw [← hrec, hf0]; rfl
              rw [nI_1]
              refine ihv _ hF2 hwy2 (hg2 _ _ ?_)
              rw [flat_succ, hstep, hr0, List.map_nil, List.append_nil]
              exact hg1
            · rw [nI_1]
              refine xCall_of (ih (many + 1) (by omega) (by omega) (by omega) (d - 1) (wI μ1 (X 43) many (nI v)) v (cnt + ((List.range v).flatMap (stepW D rec u T)).length) (bestW sp A H (((List.range v).flatMap (stepW D rec u T)).map (fun w => pre ++ w)) b) (pre ++ [v]) (addT T v) (by omega) (hc.fr hF2) (hg2 _ _ hg1) (by simp; omega) hcn ?_ hway2 ?_) (by omega) ?_
              · rw [← List.cons_append, List.getElem?_append_right (by simp)]
                simp
              · intro y hy
                rw [hI_wI_n _ _ _ (Ne.symm (hs.ne 43)), e40]
                unfold addT
                have := hT y hy
                rw [← List.cons_append, List.mem_append, List.mem_singleton]
                simp only [Bool.or_eq_true, beq_iff_eq]
                rw [this]
                constructor
                · rintro ((z | z) | z)
                  · exact Or.inl z
                  · exact Or.inr (Or.inl z)
                  · exact Or.inr (Or.inr z)
                · rintro (z | z | z)
                  · exact Or.inl (Or.inl z)
                  · exact Or.inl (Or.inr z)
                  · exact Or.inr z
              · rintro r μ3 ⟨rfl, f1, f2, f3⟩
                refine ⟨rfl, ?_⟩
                rw [nI_1]
                refine ihv μ3 (hF2.tt f1) (fun j hj => (f2 j (by omega)).trans (hwy2 j hj)) ?_
                have hrv : rec v = waysD D fuel v (addT T v) := by rw [← hrec]
                rw [flat_succ, hstep, List.length_append, List.map_append, bestW_app, List.length_map, List.map_map, hrv, ← Nat.add_assoc]
                rw [hA, hH] at f3
                have hmm : ((fun w => pre ++ w) ∘ fun w => v :: w) = fun w => (pre ++ [v]) ++ w := by funext w; simp
                rw [hmm]
                exact f3
          · have hto' : v = D.to := by rw [hDto]; exact (nI_eq (by omega) (by omega)).mp hto
            rw [if_pos hto'] at hstep
            have hF3 : mFr m X μ (wI (wI μ1 (X 43) many (nI v)) m 50 (nI many)) := hF2.f 50 _
            have hlen : (pre ++ [v]).length = many := by simp; omega
            refine xCall_of (c_mEnds (d := d - 1) (D := D) (u := frm) (w := pre ++ [v]) (b := bestW sp A H (((List.range v).flatMap (stepW D rec u T)).map (fun w => pre ++ w)) b) (cnt := cnt + ((List.range v).flatMap (stepW D rec u T)).length) (sp := sp) (by omega) (hc.fr hF3) hD hs2 ho8 hf8 hcn (by simp) (by omega) ?_ ?_ ?_ hamt ?_) (by omega) ?_
            · rw [hI_wI_n _ _ _ (hs.ne 43)]; exact hway2
            · rw [hI_wI_s, upd_s, hlen]
            · rw [hlen, ← List.cons_append, List.getElem?_append_right (by omega), hmany, Nat.sub_self, ← hto']; rfl
            · have hg3 := hg2 _ _ hg1
              unfold mGS at hg3 ⊢
              rw [hI_wI_n _ _ _ (hs.ne 55), hI_wI_s, upd_n _ (by decide), upd_n _ (by decide), upd_n _ (by decide), upd_n _ (by decide)]
              exact hg3
            · rintro r μ3 ⟨rfl, f1, f2, f3⟩
              refine ⟨rfl, ?_⟩
              rw [nI_1]
              refine ihv μ3 (hF3.tt f1) (fun j hj => ?_) ?_
              · rw [f2, hI_wI_n _ _ _ (hs.ne 43)]; exact hwy2 j hj
              · rw [flat_succ, hstep, List.length_append, List.map_append, bestW_app, ← Nat.add_assoc]
                rw [hA, hH] at f3
                exact f3
      · have hk : D.lk u v = none := by
          cases hk : D.lk u v with
          | none => rfl
          | some k => rw [hk] at hn; exact absurd hn (oM_ne (by have := hDok.2.2.1 u v k hk; omega))
        rw [stepW, if_neg]
        rw [hk]
        simp
/-- what a search has found -/
def mFnd (μ : Hp) (m : Nat) (X : Nat → Nat) (D : Hd) (frm amt : Nat) (w : List Nat) : Prop :=
  (w ≠ [] ∧ w.length ≤ 5 ∧ chn D frm w ∧ (frm :: w)[w.length]? = some D.to) ∧ hI μ m 50 = nI w.length ∧ (∀ j x, (frm :: w)[j]? = some x → hI μ (X 43) j = nI x) ∧ mRcF μ X (recs D frm amt w) ∧ hI μ m 51 = nI (leftW D frm amt w) ∧ hI μ m 52 = nI (heldW D frm amt w) ∧ hI μ m 53 = nI (dueW D frm amt w)
theorem bestW_none {sp : Bool} {A H : List Nat → Nat} : ∀ {ws : List (List Nat)} {b : Option (List Nat)}, bestW sp A H ws b = none ↔ ws = [] ∧ b = none
  | [], b => by simp [bestW]
  | w :: ws, b => by
    have : bestW sp A H (w :: ws) b = bestW sp A H ws (pickW sp A H b w) := rfl
    rw [this, bestW_none]
    have h2 : pickW sp A H b w ≠ none := by
      unfold pickW
      cases b with
      | none => simp
      | some x => simp only []; split <;> simp
    simp [h2]
theorem c_mSearches {d : Nat} {ro : Nat → Nat} {μ : Hp} {m : Nat} {X : Nat → Nat} {wi : Nat} {f lw lo tr : Nat → Int32} {n nl nf nt frm s ow amt : Nat} {p q : Int32} {D : Hd} {sp : Bool} {T : Nat → Bool} (hd : 12 ≤ d) (hc : mCx μ m X wi f lw lo tr n nl nf nt p q) (hD : D = mkD f lw lo tr nt nf p q (nI s) ow) (hs2 : s < 2) (ho8 : ow < nf) (hf8 : frm < nf) (hamt : amt ≤ 1000000)
    (hT : ∀ v, v < nf → (T v = true ↔ (nI v = hI μ m 40 ∨ v = frm))) :
    xC d yX12_searches cX12_searches 8 (some .boolean) 0 0 [.ref m, .ref (X wi), .int (nI s), .int (nI frm), .int (nI ow), .int (nI amt), .int (if sp = true then 1 else 0)] μ ro (fun r μ' => mFr m X μ μ' ∧ hI μ' m 54 = nI (waysD D 5 frm T).length ∧ r = some (.int (if (waysD D 5 frm T).length = 0 then 0 else 1)) ∧ ∀ w, bestD D sp frm amt T = some w → mFnd μ' m X D frm amt w) := by
  obtain ⟨⟨hs, hi, hwi⟩, hbk, -, -, hr0, hb0⟩ := id hc
  have hDto : D.to = ow := by rw [hD]; rfl
  refine I_X12_searches (fun J g hr => B_X12_searches_0 g hr hs.1 (hs.r 43 0 6) (hs.s 43 0 6) ?_)
  have hF0 : mFr m X μ (wI (wI (wI μ (X 43) 0 (nI frm)) m 54 0) m 56 0) := ((mFr.rf.x 43 _ _ (hs.ne 43)).f 54 _).f 56 _
  have o43 : hI (wI (wI (wI μ (X 43) 0 (nI frm)) m 54 0) m 56 0) (X 43) = upd (hI μ (X 43)) 0 (nI frm) := by rw [hI_wI_n _ _ _ (hs.ne 43), hI_wI_n _ _ _ (hs.ne 43), hI_wI_s]
  refine ⟨lit_in 0 (by omega) (by omega), xCall_of (c_mGoesFrom (n := n) (nl := nl) (D := D) (sp := sp) hD hs2 ho8 hf8 hamt 5 1 rfl (by omega) (by omega) (d - 1) _ frm 0 none [] T (by omega) (hc.fr hF0) ?_ rfl trivial rfl ?_ ?_) (by omega) ?_⟩
  · refine ⟨?_, fun _ => ?_, fun w hw => by cases hw⟩
    · rw [hI_wI_s, upd_n _ (by decide), hI_wI_s, upd_s]; rfl
    · rw [hI_wI_s, upd_s]
  · intro j x hx
    cases j with
    | zero =>
      simp at hx
      subst hx
      rw [o43, upd_s]
    | succ j => simp at hx
  · intro v hv
    rw [hI_wI_s, upd_n _ (by decide), hI_wI_s, upd_n _ (by decide), hI_wI_n _ _ _ (Ne.symm (hs.ne 43))]
    have := hT v hv
    simpa using this
  rintro r μ1 ⟨rfl, hF1, hw1, g1, g2, g3⟩
  rw [Nat.zero_add] at g1
  simp only [List.nil_append, List.map_id'] at g2 g3
  have hbe : bestW sp (leftW D frm amt) (heldW D frm amt) (waysD D 5 frm T) none = bestD D sp frm amt T := rfl
  rw [hbe] at g2 g3
  have hF1' := hF0.tt hF1
  have hc1 := hc.fr hF1'
  have hs1 := hc1.1.1
  have w0 : hI μ1 (X 43) 0 = nI frm := by rw [hw1 0 (by omega), o43, upd_s]
  cases hb : bestD D sp frm amt T with
  | none =>
    have hz : waysD D 5 frm T = [] := (bestW_none.mp hb).1
    refine ⟨rfl, hs1.1, fun h => absurd (g2 hb) h, fun _ => ⟨hF1', g1, ?_, fun w hw => (by cases hw)⟩⟩
    rw [hz]; rfl
  | some w =>
    obtain ⟨⟨x1, x2, x3, x4⟩, k2, k3, k4, k5⟩ := g3 w hb
    have hne : (waysD D 5 frm T).length ≠ 0 := fun h => by
      have : bestD D sp frm amt T = none := bestW_none.mpr ⟨List.length_eq_zero_iff.mp h, rfl⟩
      rw [this] at hb; cases hb
    have hwl : 0 < w.length := List.length_pos_iff.mpr x1
    refine ⟨rfl, hs1.1, fun _ => ?_, fun h => absurd h (by rw [k3]; exact nI_ne0 hwl (by omega))⟩
    rw [k3]
    generalize hM1 : wI μ1 m 50 (nI w.length) = M1
    have hFM : mFr m X μ M1 := by rw [← hM1]; exact hF1'.f 50 _
    have m55 : hI M1 (X 55) = hI μ1 (X 55) := by rw [← hM1, hI_wI_n _ _ _ (hs.ne 55)]
    have m54 : hI M1 m 54 = hI μ1 m 54 := by rw [← hM1, hI_wI_s, upd_n _ (by decide)]
    have m50 : hI M1 m 50 = nI w.length := by rw [← hM1, hI_wI_s, upd_s]
    have hsM := (hc.fr hFM).1.1
    have key := loopUp (Q := fun i => ∀ F, (∀ j, j < i → F j = hI M1 (X 55) j) → J (wRow M1 (X 43) F) 0 0 50 [(0, .ref m), (1, .ref (X wi)), (2, .int (nI s)), (5, .int (nI amt)), (7, .int (nI i))] []) (w.length + 1) ?_ (fun i hi' ih F hF => ?_) 0 (Nat.zero_le _) (hI M1 (X 43)) (fun j hj => absurd hj (Nat.not_lt_zero _))
    · rw [wRow_id] at key; exact key
    · intro F hF
      refine B_X12_searches_50 g hr hsM.1 (hsM.r 43 0 6) (hsM.r 55 0 6) (hsM.s 55 0 6) (hsM.s 43 0 6) ?_
      have rm : hI (wRow M1 (X 43) F) m = hI M1 m := hI_wRow_n _ _ (Ne.symm (hs.ne 43))
      have hF2 : mFr m X μ (wRow M1 (X 43) F) := ⟨hFM.1.w2 (by simp), fun k hk => by rw [rm]; exact hFM.2 k hk⟩
      have hwyF : ∀ j x, (frm :: w)[j]? = some x → hI (wRow M1 (X 43) F) (X 43) j = nI x := fun j x hx => by
        rw [hI_wRow_s]
        have hj : j < w.length + 1 := by
          have := (List.getElem?_eq_some_iff.mp hx).1
          simpa using this
        rw [hF j hj, m55]; exact k2 j x hx
      rw [rm, m50]
      refine ⟨fun _ => xCall_of (c_mReckons (d := d - 1) (D := D) (u := frm) (w := w) (by omega) (hc.fr hF2) hD hs2 ho8 hf8 x3 x1 x2 hwyF (by rw [rm]; exact m50) (by rw [← hDto]; exact hwyF _ _ x4) hamt) (by omega) ?_, fun h => absurd (nI_lt (by omega) (by omega)) h⟩
      rintro r μ3 ⟨rfl, f1, f2, f3, f4, f5⟩
      refine ⟨rfl, hF2.tt f1.m, ?_, ?_, fun y hy => ?_⟩
      · rw [f1.2 54 (by decide), rm, m54]; exact g1
      · rw [if_neg hne]
      · rw [hb] at hy
        cases hy
        refine ⟨⟨x1, x2, x3, x4⟩, ?_, ?_, f2, f3, f4, f5⟩
        · rw [f1.2 50 (by decide), rm]; exact m50
        · rw [(f1.w (hs.of hF2.1.2.2.1 hF2.1.2.1) hi).1]; exact hwyF
    · refine B_X12_searches_50 g hr hsM.1 (hsM.r 43 0 6) (hsM.r 55 0 6) (hsM.s 55 0 6) (hsM.s 43 0 6) ?_
      have rm : hI (wRow M1 (X 43) F) m = hI M1 m := hI_wRow_n _ _ (Ne.symm (hs.ne 43))
      rw [rm, m50, nI_clamp (by omega), hI_wRow_n _ _ (hi.ne 55 43), wI_wRow, nI_1]
      refine ⟨fun h => absurd h (nI_nlt (by omega) (by omega)), fun _ => ⟨vp_in_nI (by omega) (by omega), vp_in_nI (by omega) (by omega), ih _ (fun j hj => ?_)⟩⟩
      by_cases hji : j = i
      · subst hji; rw [upd_s]
      · rw [upd_n _ hji]; exact hF j (by omega)
