/-! the model: a hop's article and rate, a stop's due -/
theorem oM_case {g : Nat → Nat} {o : Option Nat} (h : ∀ k, o = some k → g k < 2147483648) : oM g o = -1 ↔ o = none := by
  cases o with
  | none => exact ⟨fun _ => rfl, fun _ => rfl⟩
  | some k => exact ⟨fun q => absurd q (oM_ne (h k rfl)), fun q => by cases q⟩
theorem c_mArticleOf {d : Nat} {ro : Nat → Nat} {μ : Hp} {m : Nat} {X : Nat → Nat} {wi : Nat} {f lw lo tr : Nat → Int32} {n nl nf nt u v k s ow : Nat} {p q : Int32} (hd : 3 ≤ d) (h : mCx μ m X wi f lw lo tr n nl nf nt p q) (hk : k < n) (hu : f (64 + k) = nI u) (hv : f (48 + k) = nI v) (hs' : f (32 + k) = nI s) (hs2 : s < 2) (hu8 : u < nf) (hv8 : v < nf) (ho8 : ow < nf) (hne : cl (lo u) ≠ cl (lo v)) :
    xC d yX12_articleOf cX12_articleOf 11 (some .int) 0 0 [.ref m, .ref (X wi), .int (nI s), .int (nI u), .int (nI v), .int (nI ow), .int (nI (32 + 5 * k))] μ ro (fun r μ' => r = some (.int (nI (artD f lo tr nt p q ow k))) ∧ μ' = μ) := by
  obtain ⟨⟨hs, hi, hwi⟩, hb, hrw, ⟨hy, hp, hq⟩, hr0, hb0⟩ := h
  have hnf := hb0.1.2.1
  have hnl := hb0.1.1
  have hnt := hb0.1.2.2
  have hn16 := hr0.1.2.1
  have hw : hS μ (X wi) = some (0, 293) := by
    rcases hwi with rfl | rfl
    · exact hs.s 30 0 293
    · exact hs.s 31 0 293
  have lu := (hb0.2.1 u hu8).cl (by omega)
  have lv := (hb0.2.1 v hv8).cl (by omega)
  have lO := (hb0.2.1 ow ho8).cl (by omega)
  have fu : hI μ (X 10) (2 * u) = nI (cl (lo u)) := by rw [hb.2.2.1 u hu8]; exact lu.1
  have fv : hI μ (X 10) (2 * v) = nI (cl (lo v)) := by rw [hb.2.2.1 v hv8]; exact lv.1
  have fo : hI μ (X 10) (2 * ow) = nI (cl (lo ow)) := by rw [hb.2.2.1 ow ho8]; exact lO.1
  have ku : cl (f (64 + k)) = u := by rw [hu, cl_nI (by omega)]
  have kv : cl (f (48 + k)) = v := by rw [hv, cl_nI (by omega)]
  refine I_X12_articleOf (fun J g hr => B_X12_articleOf_0 g hr hs.1 (hs.r 10 0 16) (hs.s 10 0 16) (by omega) ?_)
  generalize hres : artD f lo tr nt p q ow k = res at hr
  unfold artD at hres
  rw [ku, kv] at hres
  generalize hA : cl (lo u) = A at *
  generalize hB : cl (lo v) = B at *
  generalize hO : cl (lo ow) = O at *
  rw [show (2 : Int32) * nI u = nI (2 * u) from i_mul 2 u, show (2 : Int32) * nI v = nI (2 * v) from i_mul 2 v, show (2 : Int32) * nI ow = nI (2 * ow) from i_mul 2 ow, nI_clamp (by omega), nI_clamp (by omega), nI_clamp (by omega), fu, fv, fo, hy]
  refine ⟨vp_in_nI (by omega) (by omega), vp_in_nI (by omega) (by omega), vp_in_nI (by omega) (by omega), xCall_of (c_mTreatyOf (d := d - 1) (by omega) hs hb hnt) (by omega) ?_⟩
  rintro r μ ⟨rfl, rfl⟩
  rw [hp, hq]
  refine ⟨_, rfl, fun ht => ?_, fun ht => ⟨?_, rfl⟩⟩
  · cases hc : tAf tr nt (f 0) p q A B with
    | none => rw [hc] at ht; exact absurd rfl ht
    | some t =>
      have htn := tAf_lt hc
      obtain ⟨-, -, tc, -⟩ := hb.2.2.2 t htn
      rw [artF_some hne hc] at hres
      have w8 : (8 : Int32) + nI v = nI (8 + v) := i_off 8 v
      have rs : hI μ (X wi) (8 + v) = f (2 + v) := (hrw.2.2.1 v (by omega)).1
      have x8 : oM (fun t => 11 * t) (some t) + 8 = nI (11 * t + 8) := nI_add _ 8
      have x9 : oM (fun t => 11 * t) (some t) + 9 = nI (11 * t + 9) := nI_add _ 9
      have c8 : hI μ (X 12) (11 * t + 8) = tr (72 + t) := tc 6 (by omega)
      have c9 : hI μ (X 12) (11 * t + 9) = tr (84 + t) := tc 7 (by omega)
      refine ⟨293, hw, ?_⟩
      rw [w8]
      refine ⟨vp_in_nI (by omega) (by omega), hs.1, X 12, hs.r 12 0 132, 132, hs.s 12 0 132, ?_⟩
      rw [x8, x9, nI_clamp (by omega), nI_clamp (by omega), nI_clamp (by omega), rs, c8, c9, hy]
      refine ⟨vp_in_nI (by omega) (by omega), fun h2 => ⟨vp_in_nI (by omega) (by omega), ?_⟩, fun h2 => ⟨?_, rfl⟩⟩
      · rw [if_neg (fun q => Int32.not_le.mpr q h2)] at hres
        have z3 : ((tr (84 + t) = 1 ∧ ¬ O = B) ∨ (tr (84 + t) = 2 ∧ ¬ O = A ∧ tAf tr nt (f 0) p q O A = none)) → some (Value.int 3) = some (.int (nI res)) ∧ μ = μ := fun h3 => ⟨by rw [← hres, if_pos h3]; rfl, rfl⟩
        have j127 : ¬ ((tr (84 + t) = 1 ∧ ¬ O = B) ∨ (tr (84 + t) = 2 ∧ ¬ O = A ∧ tAf tr nt (f 0) p q O A = none)) → J μ 0 0 127 [(0, .ref m), (1, .ref (X wi)), (2, .int (nI s)), (6, .int (nI (32 + 5 * k))), (10, .int (oM (fun t => 11 * t) (some t)))] [] := fun h3 => by
          rw [if_neg h3, hs'] at hres
          have x6 : oM (fun t => 11 * t) (some t) + 6 = nI (11 * t + 6) := nI_add _ 6
          have x7 : oM (fun t => 11 * t) (some t) + 7 = nI (11 * t + 7) := nI_add _ 7
          have y3 : nI (32 + 5 * k) + 3 = nI (32 + 5 * k + 3) := nI_add _ 3
          have y4 : nI (32 + 5 * k) + 4 = nI (32 + 5 * k + 4) := nI_add _ 4
          have c6 : hI μ (X 12) (11 * t + 6) = tr (48 + t) := tc 4 (by omega)
          have c7 : hI μ (X 12) (11 * t + 7) = tr (60 + t) := tc 5 (by omega)
          have d3 : hI μ (X wi) (32 + 5 * k + 3) = f (80 + k) := hrw.2.2.2 k 3 hk (by omega)
          have d4 : hI μ (X wi) (32 + 5 * k + 4) = f (96 + k) := hrw.2.2.2 k 4 hk (by omega)
          refine B_X12_articleOf_127 g hr hs.1 hw (hs.r 12 0 132) (hs.s 12 0 132) ?_
          rw [x6, x7, y3, y4, nI_clamp (by omega), nI_clamp (by omega), nI_clamp (by omega), nI_clamp (by omega), c6, c7, d3, d4, hy]
          have s1 : ¬ nI s = 0 → nI s = 1 := fun h => by
            have : s ≠ 0 := fun e => h (by rw [e]; rfl)
            have : s = 1 := by omega
            rw [this]; rfl
          have s0 : nI s = 0 → ¬ nI s = 1 := fun h e => by rw [h] at e; exact absurd e (by decide)
          refine ⟨fun h => ⟨fun _ => ⟨?_, rfl⟩, fun h' => absurd h' h⟩, fun h => ⟨vp_in_nI (by omega) (by omega), vp_in_nI (by omega) (by omega), fun h4 => ⟨fun h' => absurd h h', fun _ => ⟨vp_in_nI (by omega) (by omega), vp_in_nI (by omega) (by omega), fun h5 => ⟨?_, rfl⟩, fun h5 => ⟨?_, rfl⟩⟩⟩, fun h4 => ⟨?_, rfl⟩⟩⟩
          · rw [← hres, if_pos (s1 h)]; rfl
          · rw [← hres, if_neg (s0 h), if_neg (fun q => Int32.not_le.mpr q h4), if_neg (fun q => Int32.not_le.mpr q h5)]; rfl
          · rw [← hres, if_neg (s0 h), if_neg (fun q => Int32.not_le.mpr q h4), if_pos (Int32.not_le.mp h5)]; rfl
          · rw [← hres, if_neg (s0 h), if_pos (Int32.not_le.mp h4)]; rfl
        have call2 : tr (84 + t) = 2 → ¬ (tr (84 + t) = 1 ∧ ¬ O = B) → ((nI O = nI A → J μ 0 0 127 [(0, .ref m), (1, .ref (X wi)), (2, .int (nI s)), (6, .int (nI (32 + 5 * k))), (10, .int (oM (fun t => 11 * t) (some t)))] []) ∧ (¬ nI O = nI A → xCall d yX12_treatyOf cX12_treatyOf 8 (some .int) [.ref m, .int (nI O), .int (nI A), .int (f 0)] μ ro (fun r24 μ25 => ∃ y26 : Int32, r24 = some (.int y26) ∧ ((¬ y26 = (-1) → J μ25 0 0 127 [(0, .ref m), (1, .ref (X wi)), (2, .int (nI s)), (6, .int (nI (32 + 5 * k))), (10, .int (oM (fun t => 11 * t) (some t)))] []) ∧ (y26 = (-1) → some (Value.int 3) = some (.int (nI res)) ∧ μ25 = μ))))) := fun h2 h1 => by
          refine ⟨fun he => j127 ?_, fun he => xCall_of (c_mTreatyOf (d := d - 1) (by omega) hs hb hnt) (by omega) ?_⟩
          · rintro (z | z)
            · exact h1 z
            · exact z.2.1 ((nI_eq (by omega) (by omega)).mp he)
          · have he' : ¬ O = A := fun e => he (by rw [e])
            rintro r μ ⟨rfl, rfl⟩
            rw [hp, hq]
            have hcs := oM_case (g := fun t => 11 * t) (o := tAf tr nt (f 0) p q O A) (fun t' ht' => by have := tAf_lt ht'; omega)
            refine ⟨_, rfl, fun hh => j127 ?_, fun hh => z3 (Or.inr ⟨h2, he', hcs.mp hh⟩)⟩
            rintro (z | z)
            · exact h1 z
            · exact hh (hcs.mpr z.2.2)
        refine ⟨fun h1 => ⟨fun h2 => j127 ?_, fun h2 => call2 h2 (fun z => h1 z.1)⟩, fun h1 => ⟨fun hOB => z3 (Or.inl ⟨h1, fun e => hOB (by rw [e])⟩), fun hOB => ?_⟩⟩
        · rintro (z | z)
          · exact h1 z.1
          · exact h2 z.1
        · have hOB' : O = B := (nI_eq (by omega) (by omega)).mp hOB
          refine ⟨fun h2 => j127 ?_, fun h2 => call2 h2 (fun z => z.2 hOB')⟩
          rintro (z | z)
          · exact z.2 hOB'
          · exact h2 z.1
      · rw [← hres, if_pos (Int32.not_le.mp h2)]; rfl
  · have hcs := oM_case (g := fun t => 11 * t) (o := tAf tr nt (f 0) p q A B) (fun t' ht' => by have := tAf_lt ht'; omega)
    rw [← hres, artF, if_neg hne, hcs.mp ht]
    rfl
theorem c_mLaysHop {d : Nat} {ro : Nat → Nat} {μ : Hp} {m : Nat} {X : Nat → Nat} {wi : Nat} {f lw lo tr : Nat → Int32} {n nl nf nt u v k s ow : Nat} {p q : Int32} (hd : 4 ≤ d) (h : mCx μ m X wi f lw lo tr n nl nf nt p q) (hk : k < n) (hu : f (64 + k) = nI u) (hv : f (48 + k) = nI v) (hs' : f (32 + k) = nI s) (hs2 : s < 2) (hu8 : u < nf) (hv8 : v < nf) (ho8 : ow < nf) :
    xC d yX12_laysHop cX12_laysHop 9 none 0 0 [.ref m, .ref (X wi), .int (nI s), .int (nI u), .int (nI v), .int (nI ow), .int (nI (32 + 5 * k))] μ ro (fun r μ' => r = none ∧ μ' = wI (wI μ m 42 (nI (artD f lo tr nt p q ow k))) m 41 (rateD f lw lo tr nt p q ow k)) := by
  obtain ⟨⟨hs, hi, hwi⟩, hb, hrw, ⟨hy, hp, hq⟩, hr0, hb0⟩ := id h
  have hnf := hb0.1.2.1
  have hnl := hb0.1.1
  have hnt := hb0.1.2.2
  have hn16 := hr0.1.2.1
  have lu := (hb0.2.1 u hu8).cl (by omega)
  have lv := (hb0.2.1 v hv8).cl (by omega)
  have fu : hI μ (X 10) (2 * u) = nI (cl (lo u)) := by rw [hb.2.2.1 u hu8]; exact lu.1
  have fv : hI μ (X 10) (2 * v) = nI (cl (lo v)) := by rw [hb.2.2.1 v hv8]; exact lv.1
  have ku : cl (f (64 + k)) = u := by rw [hu, cl_nI (by omega)]
  have kv : cl (f (48 + k)) = v := by rw [hv, cl_nI (by omega)]
  have ks : cl (f (32 + k)) = s := by rw [hs', cl_nI (by omega)]
  have n10 : X 10 ≠ m := hs.ne 10
  have n12 : X 12 ≠ m := hs.ne 12
  have n8 : X 8 ≠ m := hs.ne 8
  have u2 : (2 : Int32) * nI u = nI (2 * u) := i_mul 2 u
  have v2 : (2 : Int32) * nI v = nI (2 * v) := i_mul 2 v
  have hart5 : artD f lo tr nt p q ow k ≤ 5 := artF_le
  refine I_X12_laysHop (fun J g hr => B_X12_laysHop_0 g hr hs.1 (hs.r 10 0 16) (hs.s 10 0 16) (by omega) ?_)
  have hshW : ∀ x : Int32, mSh (wI μ m 42 x) m X := fun x => hs.of rfl rfl
  have hbW : ∀ x : Int32, mBk (wI μ m 42 x) m X lw lo tr nl nf nt := fun x => by
    refine ⟨?_, ?_, ?_, ?_⟩
    · rw [hI_wI_s, upd_n _ (by decide), upd_n _ (by decide), upd_n _ (by decide)]; exact hb.1
    · rw [hI_wI_n _ _ _ n8]; exact hb.2.1
    · rw [hI_wI_n _ _ _ n10]; exact hb.2.2.1
    · rw [hI_wI_n _ _ _ n12]; exact hb.2.2.2
  rw [u2, v2, nI_clamp (by omega), nI_clamp (by omega), fu, fv]
  refine ⟨vp_in_nI (by omega) (by omega), vp_in_nI (by omega) (by omega), fun hne => ?_, fun he => ?_⟩
  · have hne' : cl (lo u) ≠ cl (lo v) := fun e => hne (by rw [e])
    refine xCall_of (c_mArticleOf (d := d - 1) (by omega) h hk hu hv hs' hs2 hu8 hv8 ho8 hne') (by omega) ?_
    rintro r μ ⟨rfl, rfl⟩
    refine ⟨_, rfl, hs.1, X 10, hs.r 10 0 16, 16, hs.s 10 0 16, vp_in_nI (by omega) (by omega), ?_⟩
    generalize hart : artD f lo tr nt p q ow k = art at hart5 hr ⊢
    rw [hI_wI_n _ _ _ n10, hI_wI_s, upd_n _ (by decide), fv, hy]
    refine xCall_of (c_mTreatyOf (d := d - 1) (by omega) (hshW _) (hbW _) hnt) (by omega) ?_
    rintro r μ ⟨rfl, rfl⟩
    rw [hI_wI_s, upd_n _ (by decide), upd_n _ (by decide), hp, hq]
    refine ⟨_, rfl, hs.1, X 10, hs.r 10 0 16, 16, hs.s 10 0 16, vp_in_nI (by omega) (by omega), ?_⟩
    rw [hI_wI_n _ _ _ n10, fv, upd_s]
    have hrate : rateD f lw lo tr nt p q ow k = (match tAf tr nt (f 0) p q (cl (lo u)) (cl (lo v)) with
        | none => lw (s * 6 + cl (lo u))
        | some t => if 1 ≤ art ∧ art ≤ 3 then lw (s * 6 + cl (lo u)) else if ¬ art = 0 then tr (24 + t) else if s = 1 then tr (36 + t) else tr (12 + t)) := by
      unfold rateD rateF
      rw [ku, kv, ks, if_neg hne', hart]
      rfl
    rw [hrate]
    have hart' := hart
    unfold artD at hart'
    rw [ku, kv] at hart'
    refine ⟨fun _ => ?_, fun e => absurd e hne⟩
    have nonz : tAf tr nt (f 0) p q (cl (lo u)) (cl (lo v)) = none → art = 1 := fun hc => by
      rw [← hart', artF, if_neg hne', hc]
    have tre : ¬ (1 ≤ art ∧ art ≤ 3) → ∃ t, t < nt ∧ tAf tr nt (f 0) p q (cl (lo u)) (cl (lo v)) = some t := fun hno => by
      cases hc : tAf tr nt (f 0) p q (cl (lo u)) (cl (lo v)) with
      | none => exact absurd (nonz hc) (by omega)
      | some t => exact ⟨t, tAf_lt hc, rfl⟩
    have cs0 : art = 0 → ∃ treaty_29 : Nat, hR (wI μ m 42 (nI art)) m 12 = some treaty_29 ∧ ((¬ nI s = 0 → ∃ N31 : Nat, hS (wI μ m 42 (nI art)) treaty_29 = some (0, N31) ∧ vp_in (oM (fun t => 11 * t) (tAf tr nt (f 0) p q (cl (lo u)) (cl (lo v))) + 5) N31 ∧ (none : Option Value) = none ∧ wI (wI μ m 42 (nI art)) m 41 (hI (wI μ m 42 (nI art)) treaty_29 ((oM (fun t => 11 * t) (tAf tr nt (f 0) p q (cl (lo u)) (cl (lo v))) + 5).toNatClampNeg)) = wI (wI μ m 42 (nI art)) m 41 (match tAf tr nt (f 0) p q (cl (lo u)) (cl (lo v)) with
        | none => lw (s * 6 + cl (lo u))
        | some t => if 1 ≤ art ∧ art ≤ 3 then lw (s * 6 + cl (lo u)) else if ¬ art = 0 then tr (24 + t) else if s = 1 then tr (36 + t) else tr (12 + t))) ∧ (nI s = 0 → ∃ N33 : Nat, hS (wI μ m 42 (nI art)) treaty_29 = some (0, N33) ∧ vp_in (oM (fun t => 11 * t) (tAf tr nt (f 0) p q (cl (lo u)) (cl (lo v))) + 3) N33 ∧ (none : Option Value) = none ∧ wI (wI μ m 42 (nI art)) m 41 (hI (wI μ m 42 (nI art)) treaty_29 ((oM (fun t => 11 * t) (tAf tr nt (f 0) p q (cl (lo u)) (cl (lo v))) + 3).toNatClampNeg)) = wI (wI μ m 42 (nI art)) m 41 (match tAf tr nt (f 0) p q (cl (lo u)) (cl (lo v)) with
        | none => lw (s * 6 + cl (lo u))
        | some t => if 1 ≤ art ∧ art ≤ 3 then lw (s * 6 + cl (lo u)) else if ¬ art = 0 then tr (24 + t) else if s = 1 then tr (36 + t) else tr (12 + t)))) := fun h0 => by
      obtain ⟨t, htn, hc⟩ := tre (by omega)
      have tc := (hb.2.2.2 t htn).2.2.1
      rw [hc]
      have x5 : oM (fun t => 11 * t) (some t) + 5 = nI (11 * t + 5) := nI_add _ 5
      have x3 : oM (fun t => 11 * t) (some t) + 3 = nI (11 * t + 3) := nI_add _ 3
      have c5 : hI μ (X 12) (11 * t + 5) = tr (36 + t) := tc 3 (by omega)
      have c3 : hI μ (X 12) (11 * t + 3) = tr (12 + t) := tc 1 (by omega)
      refine ⟨X 12, hs.r 12 0 132, fun h => ⟨132, hs.s 12 0 132, ?_⟩, fun h => ⟨132, hs.s 12 0 132, ?_⟩⟩
      · rw [x5, nI_clamp (by omega), hI_wI_n _ _ _ n12, c5]
        refine ⟨vp_in_nI (by omega) (by omega), rfl, ?_⟩
        have : s = 1 := by
          have : s ≠ 0 := fun e => h (by rw [e]; rfl)
          omega
        simp only []
        rw [if_neg (by omega), if_neg (fun z => z h0), if_pos this]
      · rw [x3, nI_clamp (by omega), hI_wI_n _ _ _ n12, c3]
        refine ⟨vp_in_nI (by omega) (by omega), rfl, ?_⟩
        have : ¬ s = 1 := fun e => by rw [e] at h; exact absurd h (by decide)
        simp only []
        rw [if_neg (by omega), if_neg (fun z => z h0), if_neg this]
    have cs4 : 3 < art → ∃ treaty_35 : Nat, hR (wI μ m 42 (nI art)) m 12 = some treaty_35 ∧ ∃ N36 : Nat, hS (wI μ m 42 (nI art)) treaty_35 = some (0, N36) ∧ vp_in (oM (fun t => 11 * t) (tAf tr nt (f 0) p q (cl (lo u)) (cl (lo v))) + 4) N36 ∧ (none : Option Value) = none ∧ wI (wI μ m 42 (nI art)) m 41 (hI (wI μ m 42 (nI art)) treaty_35 ((oM (fun t => 11 * t) (tAf tr nt (f 0) p q (cl (lo u)) (cl (lo v))) + 4).toNatClampNeg)) = wI (wI μ m 42 (nI art)) m 41 (match tAf tr nt (f 0) p q (cl (lo u)) (cl (lo v)) with
        | none => lw (s * 6 + cl (lo u))
        | some t => if 1 ≤ art ∧ art ≤ 3 then lw (s * 6 + cl (lo u)) else if ¬ art = 0 then tr (24 + t) else if s = 1 then tr (36 + t) else tr (12 + t)) := fun h0 => by
      obtain ⟨t, htn, hc⟩ := tre (by omega)
      have tc := (hb.2.2.2 t htn).2.2.1
      rw [hc]
      have x4 : oM (fun t => 11 * t) (some t) + 4 = nI (11 * t + 4) := nI_add _ 4
      have c4 : hI μ (X 12) (11 * t + 4) = tr (24 + t) := tc 2 (by omega)
      refine ⟨X 12, hs.r 12 0 132, 132, hs.s 12 0 132, ?_⟩
      rw [x4, nI_clamp (by omega), hI_wI_n _ _ _ n12, c4]
      refine ⟨vp_in_nI (by omega) (by omega), rfl, ?_⟩
      simp only []
      rw [if_neg (by omega), if_pos (by omega)]
    refine pk_lt art 1 (fun hlt => ?_) (fun hge => ?_)
    · exact pk_le art 0 (fun h0 => cs0 (by omega)) (fun h0 => absurd h0 (by omega))
    · refine pk_lt 3 art (fun hlt => ?_) (fun h3 => ?_)
      · exact pk_le art 0 (fun h0 => absurd h0 (by omega)) (fun h0 => cs4 hlt)
      · have m3 : (3 : Int32) * nI (cl (lo u)) + nI s = nI (3 * cl (lo u) + s) := by rw [show (3 : Int32) * nI (cl (lo u)) = nI (3 * cl (lo u)) from i_mul 3 _, nI_add]
        refine ⟨X 8, hs.r 8 0 18, 18, hs.s 8 0 18, ?_⟩
        rw [m3, nI_clamp (by omega), hI_wI_n _ _ _ n8, hb.2.1 _ s lu.2 (by omega)]
        refine ⟨vp_in_nI (by omega) (by omega), fun v56 e56 => ⟨rfl, ?_⟩⟩
        rw [e56]
        cases hc : tAf tr nt (f 0) p q (cl (lo u)) (cl (lo v)) with
        | none => rfl
        | some t => simp only []; rw [if_pos ⟨hge, h3⟩]
  · have he' : cl (lo u) = cl (lo v) := (nI_eq (by omega) (by omega)).mp he
    have hart0 : artD f lo tr nt p q ow k = 0 := by
      unfold artD artF
      rw [ku, kv, if_pos he']
    have hrate0 : rateD f lw lo tr nt p q ow k = 0 := by
      unfold rateD rateF
      rw [ku, kv, if_pos he']
    rw [hart0, hrate0]
    rw [hI_wI_n _ _ _ n10, hI_wI_s, upd_n _ (by decide), fv, hy]
    refine xCall_of (c_mTreatyOf (d := d - 1) (by omega) (hshW _) (hbW _) hnt) (by omega) ?_
    rintro r μ ⟨rfl, rfl⟩
    refine ⟨_, rfl, hs.1, X 10, hs.r 10 0 16, 16, hs.s 10 0 16, vp_in_nI (by omega) (by omega), ?_⟩
    rw [hI_wI_n _ _ _ n10, fv]
    exact ⟨fun hne => absurd he hne, fun _ => ⟨rfl, rfl⟩⟩
/-! a stop's due -/
theorem c_mDueOf {d : Nat} {ro : Nat → Nat} {μ : Hp} {m : Nat} {X : Nat → Nat} {wi : Nat} {f lw lo tr : Nat → Int32} {n nl nf nt v k s i P h c x : Nat} {p q : Int32} (hd : 1 ≤ d) (hc : mCx μ m X wi f lw lo tr n nl nf nt p q) (hi : i < 5) (hk : k < n) (hs' : f (32 + k) = nI s) (hs2 : s < 2) (hv8 : v < nf)
    (hw : hI μ (X 43) (i + 1) = nI v) (hP : hI μ (X 46) i = nI P) (hP6 : P ≤ 1000000) (hh : hI μ (X 47) i = nI h) (hhP : h ≤ P) (hcr : f (10 + v) = nI c) (hc9 : c ≤ 1000000000) (hx : lw (12 + cl (lo v)) = nI x) (hx1 : x ≤ 1000) :
    xC d yX12_dueOf cX12_dueOf 9 (some .int) 0 0 [.ref m, .ref (X wi), .int (nI s), .int (nI i), .int (f (80 + k))] μ ro (fun r μ' => r = some (.int (nI (dueN (txdF f k) P x h c))) ∧ μ' = wI μ (X 49) i (nI (crdN (txdF f k) P x h c))) := by
  obtain ⟨⟨hs, hi0, hwi⟩, hb, hrw, -, hr0, hb0⟩ := hc
  have hnf := hb0.1.2.1
  have hnl := hb0.1.1
  have hwS : hS μ (X wi) = some (0, 293) := by
    rcases hwi with rfl | rfl
    · exact hs.s 30 0 293
    · exact hs.s 31 0 293
  have lv := (hb0.2.1 v hv8).cl (by omega)
  have fv : hI μ (X 10) (2 * v) = nI (cl (lo v)) := by rw [hb.2.2.1 v hv8]; exact lv.1
  have v2 : (2 : Int32) * nI v = nI (2 * v) := i_mul 2 v
  have n1 : X 46 ≠ X 49 := hi0.ne 46 49
  have n2 : X 10 ≠ X 49 := hi0.ne 10 49
  have n3 : X 8 ≠ X 49 := hi0.ne 8 49
  have n4 : X 47 ≠ X 49 := hi0.ne 47 49
  have mpx : P * x ≤ 1000000 * 1000 := Nat.mul_le_mul hP6 hx1
  have hdiv : P * x / 1000 ≤ 1000000 := by omega
  have q1 : nI P * nI x / 1000 = nI (P * x / 1000) := by rw [pk_mul]; exact div_n 1000 (by omega) (by omega) (by omega)
  refine I_X12_dueOf (fun J g hr => B_X12_dueOf_0 g hr hs.1 (hs.r 43 0 6) (hs.s 43 0 6) (hs.r 49 0 5) hwS (hs.s 49 0 5) ?_)
  have e0 : (0 : Int32) + nI v = nI v := by rw [show (0 : Int32) + nI v = nI (0 + v) from i_off 0 v]; simp
  have rv : hI μ (X wi) v = nI c := by rw [(hrw.2.2.1 v (by omega)).2]; exact hcr
  rw [nI_1, nI_clamp (by omega), nI_clamp (by omega), hw, e0, nI_clamp (by omega), rv]
  have wob : ∀ y z : Int32, wI (wI μ (X 49) i y) (X 49) i z = wI μ (X 49) i z := fun y z => by rw [wI_wI, upd_upd]; rfl
  have j35 : txdF f k = true → J (wI μ (X 49) i (nI c)) 0 0 35 [(0, .ref m), (3, .int (nI i)), (5, .int (nI v))] [] := fun htx => by
    rw [htx] at hr
    refine B_X12_dueOf_35 g hr hs.1 (hs.r 46 0 5) (hs.s 46 0 5) (hs.r 8 0 18) (hs.r 10 0 16) (hs.s 10 0 16) (hs.s 8 0 18) (hs.r 47 0 5) (hs.s 47 0 5) (hs.r 49 0 5) (hs.s 49 0 5) hd ?_
    have m3 : (3 : Int32) * nI (cl (lo v)) + 2 = nI (3 * cl (lo v) + 2) := by rw [show (3 : Int32) * nI (cl (lo v)) = nI (3 * cl (lo v)) from i_mul 3 _]; exact nI_add _ 2
    rw [v2, nI_clamp (by omega), hI_wI_n _ _ _ n2, fv, m3, nI_clamp (by omega), nI_clamp (by omega), hI_wI_n _ _ _ n3, hb.2.1 _ 2 lv.2 (by omega), hI_wI_n _ _ _ n1, hI_wI_n _ _ _ n4, hP, hh, hI_wI_s, upd_s, nI_add]
    refine ⟨vp_in_nI hi (by omega), vp_in_nI (by omega) (by omega), vp_in_nI (by omega) (by omega), fun v6 e6 => ⟨vp_in_nI hi (by omega), vp_in_nI hi (by omega), fun v9 e9 => ?_⟩⟩
    rw [show (2 * 6 + cl (lo v)) = 12 + cl (lo v) from rfl, hx] at e6
    subst e6
    subst e9
    rw [q1]
    refine pk_le (h + c) (P * x / 1000) (fun hle => ?_) (fun hlt => ?_)
    · rw [pk_sub (Nat.le_refl _), pk_sub hle]
      refine pk_le (h + c - (h + c)) 1000000000 (fun _ => ⟨?_, ?_⟩) (fun hz => absurd hz (by omega))
      · rw [dueN, if_pos rfl, Nat.min_eq_right hle]
      · rw [wob, crdN, if_pos rfl, Nat.min_eq_right hle, Nat.min_eq_left (by omega)]
    · rw [pk_sub (a := h + c) (by omega)]
      refine pk_le (h + c - P * x / 1000) 1000000000 (fun hz v13 e13 => ⟨?_, ?_⟩) (fun hz v14 e14 => ⟨?_, ?_⟩)
      · rw [e13, pk_sub (Nat.le_refl _), dueN, if_pos rfl, Nat.min_eq_left (by omega)]
      · rw [wob, crdN, if_pos rfl, Nat.min_eq_left (a := P * x / 1000) (by omega), Nat.min_eq_left hz]
      · rw [e14, pk_sub (Nat.le_refl _), dueN, if_pos rfl, Nat.min_eq_left (by omega)]
      · rw [wob, crdN, if_pos rfl, Nat.min_eq_left (a := P * x / 1000) (by omega), Nat.min_eq_right (by omega)]
        rfl
  refine ⟨vp_in_nI (by omega) (by omega), vp_in_nI (by omega) (by omega), fun v3 e3 => ⟨vp_in_nI hi (by omega), fun h1 => ?_, fun h1 => ⟨fun h2 => ?_, fun h2 => ?_⟩⟩⟩
  · subst e3
    refine j35 ?_
    have : s = 1 := by
      have : s ≠ 0 := fun e => h1 (by rw [e]; rfl)
      omega
    simp [txdF, hs', this]
    exact Or.inl rfl
  · subst e3
    exact j35 (by simp only [txdF, decide_eq_true_eq]; exact Or.inr (Int32.not_le.mpr h2))
  · subst e3
    have : txdF f k = false := by
      simp only [txdF, decide_eq_false_iff_not, not_or]
      refine ⟨fun e => ?_, fun e => e (Int32.not_lt.mp h2)⟩
      rw [hs', h1] at e
      exact absurd e (by decide)
    rw [this]
    exact ⟨rfl, rfl⟩
