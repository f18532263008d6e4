section ctr
variable {d : Nat} {ro : Nat → Nat} {μ0 μ : Hp} {L : gL} {R : List (Nat × Nat × Nat)}
theorem k_X6_init {i a j1 : Nat} (hd : 1 ≤ d) (hsi : gSh i = (10, 5)) (h : gk μ0 ((i, a, (fun _ => 0)) :: L) R μ) (hni : i ∉ L.map (fun p => p.1)) (hR : i ∉ R.map (fun r => r.1)) (hsj1 : gSh j1 = (0, 400)) (hnj1 : j1 ∉ L.map (fun p => p.1)) (ne_j1_i : j1 ≠ i) : xC d yX6_init cX6_init 1 none 1 400 [.ref a] μ ro (fun r μ' => r = none ∧ ∃ q1, gk μ0 ((j1, q1, (fun _ => 0)) :: (i, a, (upd (fun _ => 0) 1 (-1))) :: L) ((i, 4, q1) :: R) μ') := by
  refine I_X6_init (fun J g hr => ?_)
  refine B_X6_init_0 g hr (h.shS (List.mem_of_getElem? (i := 0) rfl) hsi) (by omega) ?_
  have h1 := h.int0 (k := 0) (List.mem_of_getElem? (i := 0) rfl) rfl
  refine B_X6_init_9 g hr (h1.shS (List.mem_of_getElem? (i := 0) rfl) hsi)  ?_
  have h2 := h1.intH (k := 1) (x := (-1)) hni
  refine B_X6_init_14 g hr (h2.shS (List.mem_of_getElem? (i := 0) rfl) hsi)  ?_
  have h3 := h2.int0 (k := 2) (List.mem_of_getElem? (i := 0) rfl) rfl
  refine B_X6_init_19 g hr (h3.shS (List.mem_of_getElem? (i := 0) rfl) hsi)  ?_
  have h4 := h3.int0 (k := 3) (List.mem_of_getElem? (i := 0) rfl) rfl
  refine B_X6_init_24 g hr   ⟨by omega, by omega, fun q1 hq => ?_⟩
  have h5 := h4.newS hsj1 (nm ne_j1_i (hnj1)) hq
  have h6 := h5.ref (k := 4) (b := q1) (List.mem_of_getElem? (i := 1) rfl) (nr hR)
  refine ⟨h5.shS (List.mem_of_getElem? (i := 1) rfl) hsi, ?_⟩
  exact B_X6_init_33 g hr ⟨by omega, by omega, rfl, q1, h6⟩
theorem k_X9_init {i a j1 : Nat} (hd : 1 ≤ d) (hsi : gSh i = (13, 5)) (h : gk μ0 ((i, a, (fun _ => 0)) :: L) R μ) (hni : i ∉ L.map (fun p => p.1)) (hR : i ∉ R.map (fun r => r.1)) (hsj1 : gSh j1 = (0, 35)) (hnj1 : j1 ∉ L.map (fun p => p.1)) (ne_j1_i : j1 ≠ i) : xC d yX9_init cX9_init 1 none 1 35 [.ref a] μ ro (fun r μ' => r = none ∧ ∃ q1, gk μ0 ((j1, q1, (fun _ => 0)) :: (i, a, (fun _ => 0)) :: L) ((i, 0, q1) :: R) μ') := by
  refine I_X9_init (fun J g hr => ?_)
  refine B_X9_init_0 g hr  (by omega) ⟨by omega, by omega, fun q1 hq => ?_⟩
  have h1 := h.newS hsj1 (nm ne_j1_i (hnj1)) hq
  have h2 := h1.ref (k := 0) (b := q1) (List.mem_of_getElem? (i := 1) rfl) (nr hR)
  refine ⟨h1.shS (List.mem_of_getElem? (i := 1) rfl) hsi, ?_⟩
  refine B_X9_init_12 g hr (h2.shS (List.mem_of_getElem? (i := 1) rfl) hsi)  ?_
  have h3 := h2.int0 (k := 1) (List.mem_of_getElem? (i := 1) rfl) rfl
  refine B_X9_init_17 g hr (h3.shS (List.mem_of_getElem? (i := 1) rfl) hsi)  ?_
  have h4 := h3.int0 (k := 2) (List.mem_of_getElem? (i := 1) rfl) rfl
  refine B_X9_init_22 g hr (h4.shS (List.mem_of_getElem? (i := 1) rfl) hsi)  ?_
  have h5 := h4.int0 (k := 3) (List.mem_of_getElem? (i := 1) rfl) rfl
  refine B_X9_init_27 g hr (h5.shS (List.mem_of_getElem? (i := 1) rfl) hsi)  ?_
  have h6 := h5.int0 (k := 4) (List.mem_of_getElem? (i := 1) rfl) rfl
  exact B_X9_init_32 g hr ⟨by omega, by omega, rfl, q1, h6⟩
theorem k_X4_init {i a j1 : Nat} (hd : 1 ≤ d) (hsi : gSh i = (8, 3)) (h : gk μ0 ((i, a, (fun _ => 0)) :: L) R μ) (hni : i ∉ L.map (fun p => p.1)) (hR : i ∉ R.map (fun r => r.1)) (hsj1 : gSh j1 = (0, 4480)) (hnj1 : j1 ∉ L.map (fun p => p.1)) (ne_j1_i : j1 ≠ i) : xC d yX4_init cX4_init 1 none 1 4480 [.ref a] μ ro (fun r μ' => r = none ∧ ∃ q1, gk μ0 ((j1, q1, (fun _ => 0)) :: (i, a, (fun _ => 0)) :: L) ((i, 2, q1) :: R) μ') := by
  refine I_X4_init (fun J g hr => ?_)
  refine B_X4_init_0 g hr (h.shS (List.mem_of_getElem? (i := 0) rfl) hsi) (by omega) ?_
  have h1 := h.int0 (k := 0) (List.mem_of_getElem? (i := 0) rfl) rfl
  refine B_X4_init_9 g hr (h1.shS (List.mem_of_getElem? (i := 0) rfl) hsi)  ?_
  have h2 := h1.int0 (k := 1) (List.mem_of_getElem? (i := 0) rfl) rfl
  refine B_X4_init_14 g hr   ⟨by omega, by omega, fun q1 hq => ?_⟩
  have h3 := h2.newS hsj1 (nm ne_j1_i (hnj1)) hq
  have h4 := h3.ref (k := 2) (b := q1) (List.mem_of_getElem? (i := 1) rfl) (nr hR)
  refine ⟨h3.shS (List.mem_of_getElem? (i := 1) rfl) hsi, ?_⟩
  exact B_X4_init_23 g hr ⟨by omega, by omega, rfl, q1, h4⟩
theorem k_X5_init {i a j1 : Nat} (hd : 1 ≤ d) (hsi : gSh i = (9, 3)) (h : gk μ0 ((i, a, (fun _ => 0)) :: L) R μ) (hni : i ∉ L.map (fun p => p.1)) (hR : i ∉ R.map (fun r => r.1)) (hsj1 : gSh j1 = (0, 300)) (hnj1 : j1 ∉ L.map (fun p => p.1)) (ne_j1_i : j1 ≠ i) : xC d yX5_init cX5_init 1 none 1 300 [.ref a] μ ro (fun r μ' => r = none ∧ ∃ q1, gk μ0 ((j1, q1, (fun _ => 0)) :: (i, a, (fun _ => 0)) :: L) ((i, 2, q1) :: R) μ') := by
  refine I_X5_init (fun J g hr => ?_)
  refine B_X5_init_0 g hr (h.shS (List.mem_of_getElem? (i := 0) rfl) hsi) (by omega) ?_
  have h1 := h.int0 (k := 0) (List.mem_of_getElem? (i := 0) rfl) rfl
  refine B_X5_init_9 g hr (h1.shS (List.mem_of_getElem? (i := 0) rfl) hsi)  ?_
  have h2 := h1.int0 (k := 1) (List.mem_of_getElem? (i := 0) rfl) rfl
  refine B_X5_init_14 g hr   ⟨by omega, by omega, fun q1 hq => ?_⟩
  have h3 := h2.newS hsj1 (nm ne_j1_i (hnj1)) hq
  have h4 := h3.ref (k := 2) (b := q1) (List.mem_of_getElem? (i := 1) rfl) (nr hR)
  refine ⟨h3.shS (List.mem_of_getElem? (i := 1) rfl) hsi, ?_⟩
  exact B_X5_init_23 g hr ⟨by omega, by omega, rfl, q1, h4⟩
theorem k_X2_init {i a j1 j2 j3 j4 j5 : Nat} (hd : 1 ≤ d) (hsi : gSh i = (6, 9)) (h : gk μ0 ((i, a, (fun _ => 0)) :: L) R μ) (hni : i ∉ L.map (fun p => p.1)) (hR : i ∉ R.map (fun r => r.1)) (hsj1 : gSh j1 = (2, 6)) (hsj2 : gSh j2 = (2, 8)) (hsj3 : gSh j3 = (0, 18)) (hsj4 : gSh j4 = (0, 8)) (hsj5 : gSh j5 = (0, 132)) (hnj1 : j1 ∉ L.map (fun p => p.1)) (ne_j1_i : j1 ≠ i) (hnj2 : j2 ∉ L.map (fun p => p.1)) (ne_j2_i : j2 ≠ i) (ne_j2_j1 : j2 ≠ j1) (hnj3 : j3 ∉ L.map (fun p => p.1)) (ne_j3_i : j3 ≠ i) (ne_j3_j1 : j3 ≠ j1) (ne_j3_j2 : j3 ≠ j2) (hnj4 : j4 ∉ L.map (fun p => p.1)) (ne_j4_i : j4 ≠ i) (ne_j4_j1 : j4 ≠ j1) (ne_j4_j2 : j4 ≠ j2) (ne_j4_j3 : j4 ≠ j3) (hnj5 : j5 ∉ L.map (fun p => p.1)) (ne_j5_i : j5 ≠ i) (ne_j5_j1 : j5 ≠ j1) (ne_j5_j2 : j5 ≠ j2) (ne_j5_j3 : j5 ≠ j3) (ne_j5_j4 : j5 ≠ j4) : xC d yX2_init cX2_init 1 none 5 172 [.ref a] μ ro (fun r μ' => r = none ∧ ∃ q1, ∃ q2, ∃ q3, ∃ q4, ∃ q5, gk μ0 ((j5, q5, (fun _ => 0)) :: (j4, q4, (fun _ => 0)) :: (j3, q3, (fun _ => 0)) :: (j2, q2, (fun _ => 0)) :: (j1, q1, (fun _ => 0)) :: (i, a, (fun _ => 0)) :: L) ((i, 4, q5) :: (i, 3, q4) :: (i, 2, q3) :: (i, 1, q2) :: (i, 0, q1) :: R) μ') := by
  refine I_X2_init (fun J g hr => ?_)
  refine B_X2_init_0 g hr  (by omega) ⟨by omega, by omega, fun q1 hq => ?_⟩
  have h1 := h.newS hsj1 (nm ne_j1_i (hnj1)) hq
  have h2 := h1.ref (k := 0) (b := q1) (List.mem_of_getElem? (i := 1) rfl) (nr hR)
  refine ⟨h1.shS (List.mem_of_getElem? (i := 1) rfl) hsi, ?_⟩
  refine B_X2_init_12 g hr   ⟨by omega, by omega, fun q2 hq => ?_⟩
  have h3 := h2.newS hsj2 (nm ne_j2_j1 (nm ne_j2_i (hnj2))) hq
  have h4 := h3.ref (k := 1) (b := q2) (List.mem_of_getElem? (i := 2) rfl) (nrc (fun c => absurd c.2 (by decide)) (nr hR))
  refine ⟨h3.shS (List.mem_of_getElem? (i := 2) rfl) hsi, ?_⟩
  refine B_X2_init_20 g hr   ⟨by omega, by omega, fun q3 hq => ?_⟩
  have h5 := h4.newS hsj3 (nm ne_j3_j2 (nm ne_j3_j1 (nm ne_j3_i (hnj3)))) hq
  have h6 := h5.ref (k := 2) (b := q3) (List.mem_of_getElem? (i := 3) rfl) (nrc (fun c => absurd c.2 (by decide)) (nrc (fun c => absurd c.2 (by decide)) (nr hR)))
  refine ⟨h5.shS (List.mem_of_getElem? (i := 3) rfl) hsi, ?_⟩
  refine B_X2_init_28 g hr   ⟨by omega, by omega, fun q4 hq => ?_⟩
  have h7 := h6.newS hsj4 (nm ne_j4_j3 (nm ne_j4_j2 (nm ne_j4_j1 (nm ne_j4_i (hnj4))))) hq
  have h8 := h7.ref (k := 3) (b := q4) (List.mem_of_getElem? (i := 4) rfl) (nrc (fun c => absurd c.2 (by decide)) (nrc (fun c => absurd c.2 (by decide)) (nrc (fun c => absurd c.2 (by decide)) (nr hR))))
  refine ⟨h7.shS (List.mem_of_getElem? (i := 4) rfl) hsi, ?_⟩
  refine B_X2_init_36 g hr   ⟨by omega, by omega, fun q5 hq => ?_⟩
  have h9 := h8.newS hsj5 (nm ne_j5_j4 (nm ne_j5_j3 (nm ne_j5_j2 (nm ne_j5_j1 (nm ne_j5_i (hnj5)))))) hq
  have h10 := h9.ref (k := 4) (b := q5) (List.mem_of_getElem? (i := 5) rfl) (nrc (fun c => absurd c.2 (by decide)) (nrc (fun c => absurd c.2 (by decide)) (nrc (fun c => absurd c.2 (by decide)) (nrc (fun c => absurd c.2 (by decide)) (nr hR)))))
  refine ⟨h9.shS (List.mem_of_getElem? (i := 5) rfl) hsi, ?_⟩
  refine B_X2_init_45 g hr (h10.shS (List.mem_of_getElem? (i := 5) rfl) hsi)  ?_
  have h11 := h10.int0 (k := 5) (List.mem_of_getElem? (i := 5) rfl) rfl
  refine B_X2_init_50 g hr (h11.shS (List.mem_of_getElem? (i := 5) rfl) hsi)  ?_
  have h12 := h11.int0 (k := 6) (List.mem_of_getElem? (i := 5) rfl) rfl
  refine B_X2_init_55 g hr (h12.shS (List.mem_of_getElem? (i := 5) rfl) hsi)  ?_
  have h13 := h12.int0 (k := 7) (List.mem_of_getElem? (i := 5) rfl) rfl
  refine B_X2_init_60 g hr (h13.shS (List.mem_of_getElem? (i := 5) rfl) hsi)  ?_
  have h14 := h13.int0 (k := 8) (List.mem_of_getElem? (i := 5) rfl) rfl
  exact B_X2_init_65 g hr ⟨by omega, by omega, rfl, q1, q2, q3, q4, q5, h14⟩
theorem k_X7_init {i a j1 : Nat} (hd : 1 ≤ d) (hsi : gSh i = (11, 2)) (h : gk μ0 ((i, a, (fun _ => 0)) :: L) R μ) (hni : i ∉ L.map (fun p => p.1)) (hR : i ∉ R.map (fun r => r.1)) (hsj1 : gSh j1 = (0, 60)) (hnj1 : j1 ∉ L.map (fun p => p.1)) (ne_j1_i : j1 ≠ i) : xC d yX7_init cX7_init 1 none 1 60 [.ref a] μ ro (fun r μ' => r = none ∧ ∃ q1, gk μ0 ((j1, q1, (fun _ => 0)) :: (i, a, (fun _ => 0)) :: L) ((i, 0, q1) :: R) μ') := by
  refine I_X7_init (fun J g hr => ?_)
  refine B_X7_init_0 g hr  (by omega) ⟨by omega, by omega, fun q1 hq => ?_⟩
  have h1 := h.newS hsj1 (nm ne_j1_i (hnj1)) hq
  have h2 := h1.ref (k := 0) (b := q1) (List.mem_of_getElem? (i := 1) rfl) (nr hR)
  refine ⟨h1.shS (List.mem_of_getElem? (i := 1) rfl) hsi, ?_⟩
  refine B_X7_init_12 g hr (h2.shS (List.mem_of_getElem? (i := 1) rfl) hsi)  ?_
  have h3 := h2.int0 (k := 1) (List.mem_of_getElem? (i := 1) rfl) rfl
  exact B_X7_init_17 g hr ⟨by omega, by omega, rfl, q1, h3⟩
theorem k_X8_init {i a j1 bk : Nat} (hd : 1 ≤ d) (hsi : gSh i = (12, 4)) (h : gk μ0 ((i, a, (fun _ => 0)) :: L) R μ) (hni : i ∉ L.map (fun p => p.1)) (hR : i ∉ R.map (fun r => r.1)) (hsj1 : gSh j1 = (0, 112)) (hnj1 : j1 ∉ L.map (fun p => p.1)) (ne_j1_i : j1 ≠ i) : xC d yX8_init cX8_init 2 none 1 112 [.ref a, .ref bk] μ ro (fun r μ' => r = none ∧ ∃ q1, gk μ0 ((j1, q1, (fun _ => 0)) :: (i, a, (upd (upd (fun _ => 0) 2 (-1)) 3 (-1))) :: L) ((i, 1, bk) :: (i, 0, q1) :: R) μ') := by
  refine I_X8_init (fun J g hr => ?_)
  refine B_X8_init_0 g hr  (by omega) ⟨by omega, by omega, fun q1 hq => ?_⟩
  have h1 := h.newS hsj1 (nm ne_j1_i (hnj1)) hq
  have h2 := h1.ref (k := 0) (b := q1) (List.mem_of_getElem? (i := 1) rfl) (nr hR)
  refine ⟨h1.shS (List.mem_of_getElem? (i := 1) rfl) hsi, ?_⟩
  refine B_X8_init_12 g hr (h2.shS (List.mem_of_getElem? (i := 1) rfl) hsi)  ?_
  have h3 := (h2.swap.intH (k := 2) (x := (-1)) (nm (Ne.symm ne_j1_i) hni)).swap
  refine B_X8_init_17 g hr (h3.shS (List.mem_of_getElem? (i := 1) rfl) hsi)  ?_
  have h4 := (h3.swap.intH (k := 3) (x := (-1)) (nm (Ne.symm ne_j1_i) hni)).swap
  refine B_X8_init_22 g hr (h4.shS (List.mem_of_getElem? (i := 1) rfl) hsi)  ?_
  have h5 := h4.ref (k := 1) (b := bk) (List.mem_of_getElem? (i := 1) rfl) (nrc (fun c => absurd c.2 (by decide)) (nr hR))
  exact B_X8_init_27 g hr ⟨by omega, by omega, rfl, q1, h5⟩
theorem k_X1_init {i a bk : Nat} (hd : 1 ≤ d) (hsi : gSh i = (5, 1)) (h : gk μ0 ((i, a, (fun _ => 0)) :: L) R μ) (hni : i ∉ L.map (fun p => p.1)) (hR : i ∉ R.map (fun r => r.1))   : xC d yX1_init cX1_init 2 none 0 0 [.ref a, .ref bk] μ ro (fun r μ' => r = none ∧ gk μ0 ((i, a, (fun _ => 0)) :: L) ((i, 0, bk) :: R) μ') := by
  refine I_X1_init (fun J g hr => ?_)
  refine B_X1_init_0 g hr (h.shS (List.mem_of_getElem? (i := 0) rfl) hsi) (by omega) ?_
  have h1 := h.ref (k := 0) (b := bk) (List.mem_of_getElem? (i := 0) rfl) (nr hR)
  exact B_X1_init_9 g hr ⟨by omega, by omega, rfl, h1⟩
end ctr
