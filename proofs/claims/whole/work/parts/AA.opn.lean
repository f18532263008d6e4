/-! text of the class: the draft becomes the book -/
def sw (i : Nat) : Nat := if 39 ≤ i ∧ i < 45 then i + 6 else if 45 ≤ i ∧ i < 51 then i - 6 else i
def swA (A : Nat → Nat) : Nat → Nat := fun i => A (sw i)
theorem sw_lt {i : Nat} (h : i < 51) : sw i < 51 := by unfold sw; split <;> (try split) <;> omega
theorem sw_inj {i j : Nat} (hi : i < 51) (hj : j < 51) (h : sw i = sw j) : i = j := by
  unfold sw at h
  split at h <;> split at h <;> (try split at h) <;> (try split at h) <;> omega
theorem swA_inj {A : Nat → Nat} (h : cInj A) : cInj (swA A) := fun i j hi hj e => sw_inj hi hj (h _ _ (sw_lt hi) (sw_lt hj) e)
theorem swA_lo {A : Nat → Nat} {i : Nat} (h : i < 39) : swA A i = A i := by
  unfold swA sw
  rw [if_neg (by omega), if_neg (by omega)]
theorem sw_tab : ∀ q ∈ cTab, (sw q.1, q.2) ∈ cTab := by decide
theorem sw_ref : ∀ q ∈ cRef, q ≠ (0, 13, 39) → q ≠ (0, 14, 45) → q ≠ (33, 1, 39) → q ≠ (35, 1, 39) → (sw q.1, q.2.1, sw q.2.2) ∈ cRef ∧ (sw q.1, q.2.1) ≠ (0, 13) ∧ (sw q.1, q.2.1) ≠ (0, 14) ∧ (sw q.1, q.2.1) ≠ (33, 1) ∧ (sw q.1, q.2.1) ≠ (35, 1) := by decide
theorem ref_lt : ∀ q ∈ cRef, q.1 < 51 ∧ q.2.2 < 51 := by decide
section opn
variable {d : Nat} {ro : Nat → Nat} {μ μ' : Hp} {A : Nat → Nat} {S : St}
theorem hR_wR_n (μ : Hp) {a b : Nat} (k : Nat) (x : Option Nat) (h : b ≠ a) : hR (wR μ a k x) b = hR μ b := va_up_ne _ _ h
theorem hR_wR_k (μ : Hp) (a : Nat) {k j : Nat} (x : Option Nat) (h : j ≠ k) : hR (wR μ a k x) a j = hR μ a j := by rw [hR_wR_s]; exact va_up_ne _ _ h
theorem hR_wR_e (μ : Hp) (a k : Nat) (x : Option Nat) : hR (wR μ a k x) a k = x := by rw [hR_wR_s]; exact va_up_self _ _ _
theorem sw_sh (h : cSh μ A) (hS' : hS μ' = hS μ) (h1 : hR μ' (A 0) 13 = some (A 45)) (h2 : hR μ' (A 0) 14 = some (A 39)) (h3 : hR μ' (A 33) 1 = some (A 45)) (h4 : hR μ' (A 35) 1 = some (A 45)) (ho : ∀ i k, i < 51 → (i, k) ≠ (0, 13) → (i, k) ≠ (0, 14) → (i, k) ≠ (33, 1) → (i, k) ≠ (35, 1) → hR μ' (A i) k = hR μ (A i) k) : cSh μ' (swA A) := by
  refine ⟨fun q hq => ?_, fun q hq => ?_⟩
  · rw [hS']
    exact h.1 _ (sw_tab q hq)
  · by_cases q1 : q = (0, 13, 39)
    · subst q1; exact h1
    by_cases q2 : q = (0, 14, 45)
    · subst q2; exact h2
    by_cases q3 : q = (33, 1, 39)
    · subst q3; exact h3
    by_cases q4 : q = (35, 1, 39)
    · subst q4; exact h4
    obtain ⟨r1, r2, r3, r4, r5⟩ := sw_ref q hq q1 q2 q3 q4
    have := ho (sw q.1) q.2.1 (sw_lt (ref_lt q hq).1) r2 r3 r4 r5
    show hR μ' (A (sw q.1)) q.2.1 = some (A (sw q.2.2))
    rw [this]
    exact h.2 _ r1
theorem c_open {P : Pb} (hd : 4 ≤ d) (h : cR μ A S) (hP : cPB μ A P) (hp : pOk P) (h0 : 0 < P.fm.length) : xC d yX11_openDraft cX11_openDraft 2 (some .int) 0 0 [.ref (A 0)] μ ro (fun r μ' => r = some (.int (nI P.fm.length)) ∧ cOut A μ μ' ∧ ∃ B f, mtB P B f ∧ cR μ' (swA A) (S.opn B f P)) := by
  have hsh := h.1.1.1
  have hj := h.1.1.2
  have ne : ∀ i j, i < 51 → j < 51 → i ≠ j → A i ≠ A j := fun i j hi hj' hij e => hij (hj i j hi hj' e)
  refine I_X11_openDraft (fun J g hr => B_X11_openDraft_0 g hr (hsh.s 0 14 18) (hsh.r 0 13 39) (hsh.r 0 14 45) ?_)
  have m1 : ∀ k, k ≠ 13 → k ≠ 14 → hR (wR (wR μ (A 0) 13 (some (A 45))) (A 0) 14 (some (A 39))) (A 0) k = hR μ (A 0) k := fun k k1 k2 => by rw [hR_wR_k _ _ _ k2, hR_wR_k _ _ _ k1]
  have m13 : hR (wR (wR μ (A 0) 13 (some (A 45))) (A 0) 14 (some (A 39))) (A 0) 13 = some (A 45) := by rw [hR_wR_k _ _ _ (by decide), hR_wR_e]
  refine ⟨A 35, by rw [m1 11 (by decide) (by decide)]; exact hsh.r 0 11 35, A 45, m13, hsh.s 35 12 4, A 33, by rw [hR_wR_n _ _ _ (hj.ne 0 35), m1 10 (by decide) (by decide)]; exact hsh.r 0 10 33, A 35, by rw [hR_wR_n _ _ _ (hj.ne 0 35), m1 11 (by decide) (by decide)]; exact hsh.r 0 11 35, hsh.s 33 12 4, ?_⟩
  generalize hμ1 : wR (wR (wR μ (A 0) 13 (some (A 45))) (A 0) 14 (some (A 39))) (A 35) 1 (some (A 45)) = μ1
  have i1 : hI μ1 = hI μ := by rw [← hμ1]; rfl
  have l1 : hL μ1 = hL μ := by rw [← hμ1]; rfl
  have s1 : hS μ1 = hS μ := by rw [← hμ1]; rfl
  have r1 : ∀ i k, i < 51 → (i, k) ≠ (0, 13) → (i, k) ≠ (0, 14) → (i, k) ≠ (35, 1) → hR μ1 (A i) k = hR μ (A i) k := fun i k hi n1 n2 n3 => by
    rw [← hμ1]
    by_cases e35 : i = 35
    · subst e35
      have : k ≠ 1 := fun e => n3 (by rw [e])
      rw [hR_wR_k _ _ _ this, hR_wR_n _ _ _ (hj.ne 35 0), hR_wR_n _ _ _ (hj.ne 35 0)]
    · rw [hR_wR_n _ _ _ (ne i 35 hi (by omega) e35)]
      by_cases e0 : i = 0
      · subst e0
        exact m1 k (fun e => n1 (by rw [e])) (fun e => n2 (by rw [e]))
      · rw [hR_wR_n _ _ _ (ne i 0 hi (by omega) e0), hR_wR_n _ _ _ (ne i 0 hi (by omega) e0)]
  have r13 : hR μ1 (A 0) 13 = some (A 45) := by rw [← hμ1, hR_wR_n _ _ _ (hj.ne 0 35)]; exact m13
  have r14 : hR μ1 (A 0) 14 = some (A 39) := by rw [← hμ1, hR_wR_n _ _ _ (hj.ne 0 35), hR_wR_e]
  have r35 : hR μ1 (A 35) 1 = some (A 45) := by rw [← hμ1, hR_wR_e]
  have st1 : isSt μ1 (A 33) (A 34) := ⟨by rw [s1]; exact hsh.s 33 12 4, by rw [r1 33 0 (by decide) (by decide) (by decide) (by decide)]; exact hsh.r 33 0 34, by rw [s1]; exact hsh.s 34 0 112⟩
  have sc1 : isSt μ1 (A 35) (A 36) := ⟨by rw [s1]; exact hsh.s 35 12 4, by rw [r1 35 0 (by decide) (by decide) (by decide) (by decide)]; exact hsh.r 35 0 36, by rw [s1]; exact hsh.s 36 0 112⟩
  refine xCall_of (c_copyFrom (d := d - 1) (by omega) st1 sc1 r35) (by omega) ?_
  rintro r μ2 ⟨rfl, e2⟩
  have s2 : hS μ2 = hS μ := by rw [e2, ← s1]; rfl
  have l2 : hL μ2 = hL μ := by rw [e2, ← l1]; rfl
  have rr2 : hR μ2 = hR (wR μ1 (A 33) 1 (some (A 45))) := by rw [e2]; rfl
  have r2 : ∀ i k, i < 51 → (i, k) ≠ (0, 13) → (i, k) ≠ (0, 14) → (i, k) ≠ (33, 1) → (i, k) ≠ (35, 1) → hR μ2 (A i) k = hR μ (A i) k := fun i k hi n1 n2 n3 n4 => by
    rw [rr2]
    by_cases e33 : i = 33
    · subst e33
      rw [hR_wR_k _ _ _ (fun e => n3 (by rw [e])), r1 33 k hi n1 n2 n4]
    · rw [hR_wR_n _ _ _ (ne i 33 hi (by omega) e33), r1 i k hi n1 n2 n4]
  have r2_13 : hR μ2 (A 0) 13 = some (A 45) := by rw [rr2, hR_wR_n _ _ _ (hj.ne 0 33)]; exact r13
  have r2_14 : hR μ2 (A 0) 14 = some (A 39) := by rw [rr2, hR_wR_n _ _ _ (hj.ne 0 33)]; exact r14
  have r2_35 : hR μ2 (A 35) 1 = some (A 45) := by rw [rr2, hR_wR_n _ _ _ (hj.ne 35 33)]; exact r35
  have r2_33 : hR μ2 (A 33) 1 = some (A 45) := by rw [rr2, hR_wR_e]
  have o2 : ∀ i, i < 51 → i ≠ 33 → i ≠ 34 → hI μ2 (A i) = hI μ (A i) := fun i hi n1 n2 => by
    rw [e2, hI_wI_n _ _ _ (ne i 33 hi (by omega) n1), hI_wI_n _ _ _ (ne i 33 hi (by omega) n1)]
    show hI (wRow μ1 (A 34) _) (A i) = _
    rw [hI_wRow_n _ _ (ne i 34 hi (by omega) n2), i1]
  have f2 : hI μ2 (A 34) = fun j => if j < 112 then hI μ (A 36) j else hI μ (A 34) j := by
    rw [e2, hI_wI_n _ _ _ (hj.ne 34 33), hI_wI_n _ _ _ (hj.ne 34 33)]
    show hI (wRow μ1 (A 34) _) (A 34) = _
    rw [hI_wRow_s, i1]
  have n2 : hI μ2 (A 33) 2 = -1 ∧ hI μ2 (A 33) 3 = -1 := by
    rw [e2, hI_wI_s, hI_wI_s]
    exact ⟨by rw [upd_n _ (by decide), upd_s], by rw [upd_s]⟩
  have b2 : ∀ b, b ∉ cO.map A → hI μ2 b = hI μ b ∧ hR μ2 b = hR μ b := fun b hb => by
    have nb : ∀ i, i ∈ cO → b ≠ A i := fun i hi e => hb (List.mem_map.mpr ⟨i, hi, e.symm⟩)
    refine ⟨?_, ?_⟩
    · rw [e2, hI_wI_n _ _ _ (nb 33 (by decide)), hI_wI_n _ _ _ (nb 33 (by decide))]
      show hI (wRow μ1 (A 34) _) b = _
      rw [hI_wRow_n _ _ (nb 34 (by decide)), i1]
    · rw [rr2, hR_wR_n _ _ _ (nb 33 (by decide)), ← hμ1, hR_wR_n _ _ _ (nb 35 (by decide)), hR_wR_n _ _ _ (nb 0 (by decide)), hR_wR_n _ _ _ (nb 0 (by decide))]
  clear e2 rr2 hμ1
  have q2 : ∀ i k, i < 51 → (i, k) ≠ (0, 13) → (i, k) ≠ (0, 14) → (i, k) ≠ (33, 1) → (i, k) ≠ (35, 1) → ∀ y, hR μ (A i) k = y → hR μ2 (A i) k = y := fun i k hi n1 n2 n3 n4 y hy => by rw [r2 i k hi n1 n2 n3 n4]; exact hy
  refine ⟨rfl, by rw [s2]; exact hsh.s 0 14 18, A 24, q2 0 4 (by decide) (by decide) (by decide) (by decide) (by decide) _ (hsh.r 0 4 24), by rw [s2]; exact hsh.s 24 8 3, ?_⟩
  refine xCall_of (c_hsForget (d := d - 1) (b := A 25) ⟨by rw [s2]; exact hsh.s 24 8 3, q2 24 2 (by decide) (by decide) (by decide) (by decide) (by decide) _ (hsh.r 24 2 25), by rw [s2]; exact hsh.s 25 0 4480⟩) (by omega) ?_
  rintro r μ3 ⟨rfl, rfl⟩
  refine ⟨rfl, by show hS μ2 _ = _; rw [s2]; exact hsh.s 0 14 18, A 26, q2 0 5 (by decide) (by decide) (by decide) (by decide) (by decide) _ (hsh.r 0 5 26), by show hS μ2 _ = _; rw [s2]; exact hsh.s 26 9 3, ?_⟩
  refine xCall_of (c_lgForget (d := d - 1) (μ := wI μ2 (A 24) 0 0) (b := A 27) ⟨by show hS μ2 _ = _; rw [s2]; exact hsh.s 26 9 3, q2 26 2 (by decide) (by decide) (by decide) (by decide) (by decide) _ (hsh.r 26 2 27), by show hS μ2 _ = _; rw [s2]; exact hsh.s 27 0 300⟩) (by omega) ?_
  rintro r μ3 ⟨rfl, rfl⟩
  refine ⟨rfl, by show hS μ2 _ = _; rw [s2]; exact hsh.s 0 14 18, A 1, q2 0 0 (by decide) (by decide) (by decide) (by decide) (by decide) _ (hsh.r 0 0 1), by show hS μ2 _ = _; rw [s2]; exact hsh.s 1 10 5, A 45, r2_13, by show hS μ2 _ = _; rw [s2]; exact hsh.s 45 6 9, ?_⟩
  generalize hμ4 : wI (wI (wI (wI μ2 (A 24) 0 0) (A 26) 0 0) (A 0) 16 0) (A 1) 0 0 = μ4
  have s4 : hS μ4 = hS μ := by rw [← hμ4, ← s2]; rfl
  have l4 : hL μ4 = hL μ := by rw [← hμ4, ← l2]; rfl
  have r4 : hR μ4 = hR μ2 := by rw [← hμ4]; rfl
  have o4 : ∀ i, i < 51 → i ≠ 0 → i ≠ 1 → i ≠ 24 → i ≠ 26 → hI μ4 (A i) = hI μ2 (A i) := fun i hi m0 m1 m2 m3 => by
    rw [← hμ4, hI_wI_n _ _ _ (ne i 1 hi (by omega) m1), hI_wI_n _ _ _ (ne i 0 hi (by omega) m0), hI_wI_n _ _ _ (ne i 26 hi (by omega) m3), hI_wI_n _ _ _ (ne i 24 hi (by omega) m2)]
  have o : ∀ i, i < 51 → i ≠ 0 → i ≠ 1 → i ≠ 24 → i ≠ 26 → i ≠ 33 → i ≠ 34 → hI μ4 (A i) = hI μ (A i) := fun i hi m0 m1 m2 m3 m4 m5 => by rw [o4 i hi m0 m1 m2 m3, o2 i hi m4 m5]
  have z0 : hI μ4 (A 0) = upd (hI μ (A 0)) 16 0 := by
    rw [← hμ4, hI_wI_n _ _ _ (hj.ne 0 1), hI_wI_s, hI_wI_n _ _ _ (hj.ne 0 26), hI_wI_n _ _ _ (hj.ne 0 24), o2 0 (by decide) (by decide) (by decide)]
  have z1 : hI μ4 (A 1) 0 = 0 := by rw [← hμ4, hI_wI_s, upd_s]
  have z24 : hI μ4 (A 24) = upd (hI μ (A 24)) 0 0 := by
    rw [← hμ4, hI_wI_n _ _ _ (hj.ne 24 1), hI_wI_n _ _ _ (hj.ne 24 0), hI_wI_n _ _ _ (hj.ne 24 26), hI_wI_s, o2 24 (by decide) (by decide) (by decide)]
  have z26 : hI μ4 (A 26) = upd (hI μ (A 26)) 0 0 := by
    rw [← hμ4, hI_wI_n _ _ _ (hj.ne 26 1), hI_wI_n _ _ _ (hj.ne 26 0), hI_wI_s, hI_wI_n _ _ _ (hj.ne 26 24), o2 26 (by decide) (by decide) (by decide)]
  have b4 : ∀ b, b ∉ cO.map A → hI μ4 b = hI μ b := fun b hb => by
    have nb : ∀ i, i ∈ cO → b ≠ A i := fun i hi e => hb (List.mem_map.mpr ⟨i, hi, e.symm⟩)
    rw [← hμ4, hI_wI_n _ _ _ (nb 1 (by decide)), hI_wI_n _ _ _ (nb 0 (by decide)), hI_wI_n _ _ _ (nb 26 (by decide)), hI_wI_n _ _ _ (nb 24 (by decide))]
    exact (b2 b hb).1
  clear hμ4
  obtain ⟨⟨a1, a2, a3, a4, a5, a6, a7, a8⟩, b1, ⟨⟨nx, bh⟩, -⟩, ⟨ln, lh, bl⟩, bi, bt, bs, br⟩ := h
  obtain ⟨p1, p2, p3, p4, p5, p6, p7⟩ := hP
  have f4 : hI μ4 (A 34) = fun j => if j < 112 then hI μ (A 36) j else 0 := by
    rw [o4 34 (by decide) (by decide) (by decide) (by decide) (by decide), f2]
    funext j
    by_cases q : j < 112
    · rw [if_pos q, if_pos q]
    · rw [if_neg q, if_neg q, a5.1]; exact a7 j (by omega)
  have flo : ∀ j, j < 112 → hI μ4 (A 34) j = hI μ (A 36) j := fun j hj1 => by rw [f4]; exact if_pos hj1
  have h8 := hp.1.2.1
  have h16 := hp.1.2.2.1
  have mt : mtB P (hI μ4 (A 48), hI μ4 (A 49), hI μ4 (A 50), P.ld.length, P.fm.length, P.tr.length) (hI μ4 (A 34)) := by
    refine ⟨⟨rfl, rfl, rfl⟩, fun i x hx j hj3 => ?_, fun i x hx => ⟨?_, ?_⟩, ⟨?_, fun i x hx => ?_⟩, fun i x hx j hj11 => ?_, ?_, fun j j1 j2 => ?_, fun j hj1 => ?_⟩
    · show hI μ4 (A 48) _ = _
      rw [o 48 (by decide) (by decide) (by decide) (by decide) (by decide) (by decide) (by decide)]; exact (p2 i x hx).2 j hj3
    · show hI μ4 (A 49) _ = _
      rw [o 49 (by decide) (by decide) (by decide) (by decide) (by decide) (by decide) (by decide)]; exact (p3 i x hx).2.1
    · have : i < P.fm.length := (List.getElem?_eq_some_iff.mp hx).1
      rw [flo _ (by omega)]; exact (p3 i x hx).2.2
    · rw [flo _ (by omega)]; exact p4.1
    · have : i < P.lk.length := (List.getElem?_eq_some_iff.mp hx).1
      rw [flo _ (by omega), flo _ (by omega), flo _ (by omega), flo _ (by omega), flo _ (by omega)]; exact p4.2 i x hx
    · show hI μ4 (A 50) _ = _
      rw [o 50 (by decide) (by decide) (by decide) (by decide) (by decide) (by decide) (by decide)]; exact p5 i x hx j hj11
    · rw [flo _ (by omega)]; exact p6
    · rw [flo _ (by omega)]; exact p7 j j1 j2
    · rw [f4]; exact if_neg (by omega)
  have mk := mt.ok hp h0
  refine ⟨?_, fun b hb => ⟨b4 b hb, by rw [l4], by rw [r4]; exact (b2 b hb).2, by rw [s4]⟩, _, _, mt, ⟨⟨⟨?_, swA_inj hj⟩, ⟨?_, ?_, ?_⟩, ⟨rfl, rfl, rfl⟩, mk.1, ⟨?_, mk.2.1, ?_, ?_⟩, ?_, mk.2.2, ?_⟩, ⟨fun l hl => ?_, fun j hjf => ?_⟩, ⟨⟨nx, ⟨?_, ?_, ?_, ?_⟩, fun i gg (hg : ([] : List (Nat → Int32))[i]? = some gg) => by rw [List.getElem?_nil] at hg; cases hg⟩, (fun gg (hg : gg ∈ ([] : List (Nat → Int32))) => absurd hg List.not_mem_nil), Nat.zero_le _⟩, ⟨ln, 0, ⟨?_, ?_, ?_, ?_, ?_, ?_⟩, fun i e hi => by omega⟩, ⟨?_, ?_, fun q hq => by cases hq⟩, ⟨?_, ?_, fun i hi => ?_⟩, ⟨?_, bs.2.1, fun k hk => ?_⟩, ?_⟩⟩
  · rw [o 45 (by decide) (by decide) (by decide) (by decide) (by decide) (by decide) (by decide), p1.2.1]
  · refine sw_sh hsh s4 (by rw [r4]; exact r2_13) (by rw [r4]; exact r2_14) (by rw [r4]; exact r2_33) (by rw [r4]; exact r2_35) (fun i k hi n1 n2 n3 n4 => ?_)
    rw [r4]; exact r2 i k hi n1 n2 n3 n4
  · show hI μ4 (A 45) 5 = _
    rw [o 45 (by decide) (by decide) (by decide) (by decide) (by decide) (by decide) (by decide)]; exact p1.1
  · show hI μ4 (A 45) 6 = _
    rw [o 45 (by decide) (by decide) (by decide) (by decide) (by decide) (by decide) (by decide)]; exact p1.2.1
  · show hI μ4 (A 45) 7 = _
    rw [o 45 (by decide) (by decide) (by decide) (by decide) (by decide) (by decide) (by decide)]; exact p1.2.2.1
  · rw [swA_lo (by omega)]; rfl
  · rw [swA_lo (by omega), o4 33 (by decide) (by decide) (by decide) (by decide) (by decide)]; exact n2.1
  · rw [swA_lo (by omega), o4 33 (by decide) (by decide) (by decide) (by decide) (by decide)]; exact n2.2
  · rw [swA_lo (by omega), o 14 (by decide) (by decide) (by decide) (by decide) (by decide) (by decide) (by decide)]; exact a6
  · rw [swA_lo (by omega), o 36 (by decide) (by decide) (by decide) (by decide) (by decide) (by decide) (by decide)]; exact a8
  · have hl' : l < P.ld.length := hl
    have hx : P.ld[l]? = some P.ld[l] := List.getElem?_eq_getElem hl'
    show nmOk ((P.lnm[l]?).getD []) ∧ hL μ4 (A 46) l = lN (codC ((P.lnm[l]?).getD []))
    rw [show P.lnm[l]? = some P.ld[l].1 by unfold Pb.lnm; rw [List.getElem?_map, hx]; rfl, l4]
    exact ⟨(hp.2.1 _ (List.getElem_mem hl')).1, (p2 l _ hx).1⟩
  · have hl' : j < P.fm.length := hjf
    have hx : P.fm[j]? = some P.fm[j] := List.getElem?_eq_getElem hl'
    show nmOk ((P.fnm[j]?).getD []) ∧ hL μ4 (A 47) j = lN (codC ((P.fnm[j]?).getD []))
    rw [show P.fnm[j]? = some P.fm[j].1 by unfold Pb.fnm; rw [List.getElem?_map, hx]; rfl, l4]
    exact ⟨(hp.2.2.1 _ (List.getElem_mem hl')).1, (p3 j _ hx).1⟩
  · rw [swA_lo (by omega), z24, upd_s]; rfl
  · rw [swA_lo (by omega), z24, upd_n _ (by decide)]; exact bh.1.2.1
  · exact bh.1.2.2.1
  · exact Nat.zero_le _
  · rw [swA_lo (by omega), z26, upd_s]; rfl
  · rw [swA_lo (by omega), z26, upd_n _ (by decide)]; exact bl.1.2.1
  · exact bl.1.2.2.1
  · exact Nat.zero_le _
  · exact Nat.zero_le _
  · exact Nat.min_le_left _ _
  · rw [swA_lo (by omega), z0, upd_s]; rfl
  · rw [swA_lo (by omega), o 38 (by decide) (by decide) (by decide) (by decide) (by decide) (by decide) (by decide)]; exact bi.2.1
  · rw [swA_lo (by omega), z1]; rfl
  · exact Nat.zero_le _
  · have : i < 0 := hi
    omega
  · rw [swA_lo (by omega), z0, upd_n _ (by decide)]; exact bs.1
  · have hk4 : k < 4 := Nat.lt_of_lt_of_le hk bs.2.1
    rw [swA_lo (by omega), swA_lo (by omega), o (4 + k) (by omega) (by omega) (by omega) (by omega) (by omega) (by omega) (by omega), o (9 + k) (by omega) (by omega) (by omega) (by omega) (by omega) (by omega) (by omega)]
    exact bs.2.2 k hk
  · unfold cRf
    rw [swA_lo (by omega), o 31 (by decide) (by decide) (by decide) (by decide) (by decide) (by decide) (by decide)]; exact br
end opn
