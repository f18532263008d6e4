/-! the class's acts by hand, undo, image, back, perform, run -/
section act2
variable {d : Nat} {ro : Nat → Nat} {μ : Hp} {A : Nat → Nat} {S : St}
theorem c_pay {s u t a : Int32} (hd : 14 ≤ d) (h : cR μ A S) : xC d yX11_pay cX11_pay 5 (some .int) 0 0 [.ref (A 0), .int s, .int u, .int t, .int a] μ ro (fun r μ' => r = some (.int (aHand S 0 s u t a)) ∧ cR μ' A (S.hand 0 s u t a) ∧ gFr hI' A μ μ') := by
  refine I_X11_pay (fun J g hz => B_X11_pay_0 g hz (h.1.1.1.s 0 14 18) (xCall_of (c_byHand (d := d - 1) (by omega) h) (by omega) ?_))
  rintro r μ' ⟨rfl, h2⟩
  exact ⟨_, rfl, rfl, h2⟩
theorem c_pass {n : Int32} (hd : 14 ≤ d) (h : cR μ A S) : xC d yX11_pass cX11_pass 2 (some .int) 0 0 [.ref (A 0), .int n] μ ro (fun r μ' => r = some (.int (aHand S 1 n 0 0 0)) ∧ cR μ' A (S.hand 1 n 0 0 0) ∧ gFr hI' A μ μ') := by
  refine I_X11_pass (fun J g hz => B_X11_pass_0 g hz (h.1.1.1.s 0 14 18) (xCall_of (c_byHand (d := d - 1) (by omega) h) (by omega) ?_))
  rintro r μ' ⟨rfl, h2⟩
  exact ⟨_, rfl, rfl, h2⟩
theorem c_staff {v n : Int32} (hd : 14 ≤ d) (h : cR μ A S) : xC d yX11_staff cX11_staff 3 (some .int) 0 0 [.ref (A 0), .int v, .int n] μ ro (fun r μ' => r = some (.int (aHand S 2 v n 0 0)) ∧ cR μ' A (S.hand 2 v n 0 0) ∧ gFr hI' A μ μ') := by
  refine I_X11_staff (fun J g hz => B_X11_staff_0 g hz (h.1.1.1.s 0 14 18) (xCall_of (c_byHand (d := d - 1) (by omega) h) (by omega) ?_))
  rintro r μ' ⟨rfl, h2⟩
  exact ⟨_, rfl, rfl, h2⟩
theorem c_own {v o s : Int32} (hd : 14 ≤ d) (h : cR μ A S) : xC d yX11_own cX11_own 4 (some .int) 0 0 [.ref (A 0), .int v, .int o, .int s] μ ro (fun r μ' => r = some (.int (aHand S 3 v o s 0)) ∧ cR μ' A (S.hand 3 v o s 0) ∧ gFr hI' A μ μ') := by
  refine I_X11_own (fun J g hz => B_X11_own_0 g hz (h.1.1.1.s 0 14 18) (xCall_of (c_byHand (d := d - 1) (by omega) h) (by omega) ?_))
  rintro r μ' ⟨rfl, h2⟩
  exact ⟨_, rfl, rfl, h2⟩
theorem c_lend {v o : Int32} (hd : 14 ≤ d) (h : cR μ A S) : xC d yX11_lend cX11_lend 3 (some .int) 0 0 [.ref (A 0), .int v, .int o] μ ro (fun r μ' => r = some (.int (aHand S 4 v o 0 0)) ∧ cR μ' A (S.hand 4 v o 0 0) ∧ gFr hI' A μ μ') := by
  refine I_X11_lend (fun J g hz => B_X11_lend_0 g hz (h.1.1.1.s 0 14 18) (xCall_of (c_byHand (d := d - 1) (by omega) h) (by omega) ?_))
  rintro r μ' ⟨rfl, h2⟩
  exact ⟨_, rfl, rfl, h2⟩
def St.undo (S : St) : St := match S.H with
  | [] => S
  | g :: H => S.upA g H (S.L.drop 1)
def aUndo (S : St) : Int32 := match S.H with
  | [] => -1
  | _ :: H => nI H.length
theorem c_undo (hd : 3 ≤ d) (h : cR μ A S) : xC d yX11_undo cX11_undo 1 (some .int) 0 0 [.ref (A 0)] μ ro (fun r μ' => r = some (.int (aUndo S)) ∧ cR μ' A S.undo ∧ gFr hI' A μ μ') := by
  have hrest := h.rest
  obtain ⟨hq, -, ⟨⟨nx, hh⟩, hgood, hHL⟩, ⟨ln, lh, hl⟩, -⟩ := id h
  have hsh := hq.1.1
  have hj := hq.1.2
  have hhs : isHs μ (A 24) (A 25) := ⟨hsh.s 24 8 3, hsh.r 24 2 25, hsh.s 25 0 4480⟩
  have hlg : isLg μ (A 26) (A 27) := ⟨hsh.s 26 9 3, hsh.r 26 2 27, hsh.s 27 0 300⟩
  refine I_X11_undo (fun J g hz => B_X11_undo_0 g hz (hsh.s 0 14 18) (hsh.r 0 4 24) (hsh.r 0 10 33) (hsh.s 24 8 3) (xCall_of (c_hsBack (d := d - 1) (by omega) hhs hsh.st hh.1.2.1 hh.1.2.2.1 hh.1.1 hh.1.2.2.2 (hj.ne 25 34)) (by omega) ?_))
  unfold aUndo St.undo
  cases hH : S.H with
  | nil =>
    rw [List.length_nil]
    rintro r μ' hp
    rw [if_pos rfl] at hp
    obtain ⟨rfl, rfl⟩ := hp
    exact ⟨_, rfl, fun c => absurd rfl c, fun _ => ⟨rfl, h, gFr.rf⟩⟩
  | cons g0 H =>
    rw [hH] at hh hgood hHL hl
    rw [List.length_cons] at hl hHL ⊢
    rintro r μ2 hp
    rw [if_neg (by omega)] at hp
    obtain ⟨rfl, e2⟩ := hp
    have hg0 := hgood g0 List.mem_cons_self
    have hrow : (fun j => if j < 112 then hI μ (A 25) ((nx + 39) % 40 * 112 + j) else hI μ (A 34) j) = g0 := funext fun j => by
      by_cases hjj : j < 112
      · rw [if_pos hjj]
        exact hh.2 0 g0 rfl j hjj
      · rw [if_neg hjj, hq.2.2.2.2.1.1, hq.2.2.2.2.2.2.1 j (by omega), hg0.2 j (by omega)]
    rw [hrow, show H.length + 1 - 1 = H.length by omega] at e2
    obtain ⟨e0, L', hL⟩ : ∃ e0 L', S.L = e0 :: L' := by
      cases hL : S.L with
      | nil => rw [hL] at hHL; simp at hHL
      | cons e0 L' => exact ⟨e0, L', rfl⟩
    rw [hL] at hl hHL ⊢
    have o2 : ∀ i, i < 51 → 24 ≠ i → 34 ≠ i → hI μ2 (A i) = hI μ (A i) := fun i hi n1 n2 => by
      rw [e2, hI_wRow_n _ _ (hj.ne i 24 hi (by decide) (Ne.symm n1)), hI_wRow_n _ _ (hj.ne i 34 hi (by decide) (Ne.symm n2))]
    have s2 : cSh μ2 A := hsh.of (by rw [e2]; rfl) (by rw [e2]; rfl)
    have q26 : hI μ2 (A 26) = hI μ (A 26) := o2 26 (by decide) (by decide) (by decide)
    have hlh : 0 < lh := by
      have := hl.1.2.2.2.2
      rw [List.length_cons] at this
      omega
    refine ⟨_, rfl, fun _ => ⟨s2.s 0 14 18, _, s2.r 0 5 26, s2.s 26 9 3, xCall_of (c_lgDrop (d := d - 1) (nx := ln) (hd := lh) ⟨s2.s 26 9 3, s2.r 26 2 27, s2.s 27 0 300⟩ (by rw [q26]; exact hl.1.2.1) hl.1.2.2.1 (by rw [q26]; exact hl.1.1) hl.1.2.2.2.1) (by omega) ?_⟩, fun c => absurd c (by decide)⟩
    rintro r μ9 ⟨rfl, e9⟩
    rw [if_neg (by omega), q26] at e9
    have F9 : Fr (aI.map A) μ μ9 := by
      rw [e9, e2]
      exact ((Fr.rf.rowA 34 _).rowA 24 _).rowA 26 _
    have G9 := F9.g
    have s9 : cSh μ9 A := hsh.fr F9
    have o9 : ∀ i, i < 51 → 26 ≠ i → hI μ9 (A i) = hI μ2 (A i) := fun i hi n1 => by
      rw [e9, hI_wRow_n _ _ (hj.ne i 26 hi (by decide) (Ne.symm n1))]
    have q24 : hI μ9 (A 24) = lgHead (hI μ (A 24)) ((nx + 39) % 40) H.length := by rw [o9 24 (by decide) (by decide), e2, hI_wRow_s]
    have hb := hh.back
    refine ⟨rfl, s9.s 0 14 18, _, s9.r 0 4 24, s9.s 24 8 3, ?_, ?_, G9.sub⟩
    · rw [q24, hb.1.1]
    · have r9 := hrest.fr hj G9
      have hq9 : cQ μ9 A S.B g0 := by
        obtain ⟨b1, b2, b3, b4, ⟨b5, b6, b7⟩, b8, b9, b10⟩ := hq
        refine ⟨⟨s9, hj⟩, ?_, ?_, b4, ⟨?_, hg0.1, ?_⟩, ?_, hg0.2, ?_⟩
        · rw [F9.o hj 39]; exact b2
        · rw [F9.o hj 42, F9.o hj 43, F9.o hj 44]; exact b3
        · rw [o9 34 (by decide) (by decide), e2, hI_wRow_n _ _ (hj.ne 34 24), hI_wRow_s]
        · rw [F9.o hj 33]; exact b7
        · rw [o9 14 (by decide) (by decide), o2 14 (by decide) (by decide) (by decide)]; exact b8
        · rw [o9 36 (by decide) (by decide), o2 36 (by decide) (by decide) (by decide)]; exact b10
      refine ⟨hq9, r9.1, ⟨⟨(nx + 39) % 40, ?_⟩, fun g' hg' => hgood g' (List.mem_cons_of_mem _ hg'), ?_⟩, ⟨(ln + 99) % 100, lh - 1, ?_⟩, r9.2.1, r9.2.2.1, r9.2.2.2.1, r9.2.2.2.2⟩
      · rw [q24, o9 25 (by decide) (by decide), o2 25 (by decide) (by decide) (by decide)]
        exact hb
      · show H.length ≤ L'.length
        rw [List.length_cons] at hHL
        omega
      · show lgOk (hI μ9 (A 26)) (hI μ9 (A 27)) _ _ L' (60 + H.length)
        rw [o9 27 (by decide) (by decide), o2 27 (by decide) (by decide) (by decide), e9, hI_wRow_s]
        exact lgDrop_ok hl (by omega) hlh
end act2
