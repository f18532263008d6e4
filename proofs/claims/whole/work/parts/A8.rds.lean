/-! scripts, read by the class -/
theorem cSh.scp {μ : Hp} {A : Nat → Nat} (h : cSh μ A) {k : Nat} (hk : k < 5) : hS μ (A (4 + k)) = some (11, 2) ∧ hR μ (A (4 + k)) 0 = some (A (9 + k)) ∧ hS μ (A (9 + k)) = some (0, 60) ∧ hR μ (A 3) k = some (A (4 + k)) := by
  have : k = 0 ∨ k = 1 ∨ k = 2 ∨ k = 3 ∨ k = 4 := by omega
  rcases this with rfl | rfl | rfl | rfl | rfl
  · exact ⟨h.s 4 11 2, h.r 4 0 9, h.s 9 0 60, h.r 3 0 4⟩
  · exact ⟨h.s 5 11 2, h.r 5 0 10, h.s 10 0 60, h.r 3 1 5⟩
  · exact ⟨h.s 6 11 2, h.r 6 0 11, h.s 11 0 60, h.r 3 2 6⟩
  · exact ⟨h.s 7 11 2, h.r 7 0 12, h.s 12 0 60, h.r 3 3 7⟩
  · exact ⟨h.s 8 11 2, h.r 8 0 13, h.s 13 0 60, h.r 3 4 8⟩
section rds
variable {d : Nat} {ro : Nat → Nat} {μ : Hp} {A : Nat → Nat} {t : Nat → Int32} {len k : Nat} {c : Cu}
theorem Fr.one {S : List Nat} {a : Nat} {μ μ' : Hp} (h : Fr ([a]) μ μ') (ha : a ∈ S) : Fr S μ μ' := h.sub (fun b hb => by rw [List.mem_singleton.mp hb]; exact ha)
theorem rdR.w' {i j : Nat} {x : Int32} (h : rdR μ A t len c) (hj : cInj A) (hi : i < 51) (h1 : i ≠ 1) (h2 : i ≠ 2) : rdR (wI μ (A i) j x) A t len c := h.fr (hI_wI_n _ _ _ (fun e => h1 (hj 1 i (by decide) hi e).symm)) (hI_wI_n _ _ _ (fun e => h2 (hj 2 i (by decide) hi e).symm))
theorem c_rStep {n : Nat} (hd : 4 ≤ d) (hk : k < 5) (hn : n < 12) (hs : cSh μ A) (hj : cInj A) (h : rdR μ A t len c) : xC d yX7_readStep cX7_readStep 5 none 0 0 [.ref (A (4 + k)), .ref (A 1), .int (nI (n * 5))] μ ro (fun r μ' => r = none ∧ Fr [A 1, A (9 + k)] μ μ' ∧ rdR μ' A t len (rStep t len c).2 ∧ ((rStep t len c).2.1 = none → ∀ j, j < 5 → hI μ' (A (9 + k)) (n * 5 + j) = (rStep t len c).1 j) ∧ ∀ j, j < n * 5 → hI μ' (A (9 + k)) j = hI μ (A (9 + k)) j) := by
  refine I_X7_readStep (fun J g hr => B_X7_readStep_0 g hr (hs.s 1 10 5) (k_nw (by omega) hs hj h (fun μ1 r1 F1 => ⟨_, rfl, ?_⟩)))
  have s1 := hs.fr F1
  have o1 : hI μ1 (A (9 + k)) = hI μ (A (9 + k)) := F1.2.2.2 _ (fun q => by
    have := hj (9 + k) 1 (by omega) (by decide) (List.mem_singleton.mp q)
    omega)
  refine xCall_of (c_withCode (d := d - 1) (nxW_lt t len c)) (by omega) ?_
  rintro r μ1 ⟨rfl, rfl⟩
  have F1' : Fr [A 1, A (9 + k)] μ μ1 := Fr.one F1 (by simp)
  have bad : ∀ μ3, rStep t len c = (fun _ => 0, flC (nxW t len c).2 (nxW t len c).2.2.1) → rdR μ3 A t len (flC (nxW t len c).2 (nxW t len c).2.2.1) → Fr ([1].map A) μ1 μ3 → Fr [A 1, A (9 + k)] μ μ3 ∧ rdR μ3 A t len (rStep t len c).2 ∧ ((rStep t len c).2.1 = none → ∀ j, j < 5 → hI μ3 (A (9 + k)) (n * 5 + j) = (rStep t len c).1 j) ∧ ∀ j, j < n * 5 → hI μ3 (A (9 + k)) j = hI μ (A (9 + k)) j := by
    intro μ3 e r3 F3
    rw [e]
    refine ⟨F1'.tt (Fr.one F3 (by simp)), r3, fun q => absurd q flC_n, fun j _ => ?_⟩
    rw [F3.2.2.2 _ (fun q => by
      have := hj (9 + k) 1 (by omega) (by decide) (List.mem_singleton.mp q)
      omega), o1]
  refine ⟨_, rfl, fun q => ⟨s1.s 1 10 5, k_flS (by omega) s1 hj r1 (fun μ3 r3 F3 => ⟨rfl, rfl, bad μ3 (by unfold rStep; rw [q]) r3 F3⟩)⟩, fun i q => ?_⟩
  have hi : i < 12 := (nbr_lt q).1
  rw [roAct_st i hi]
  refine ⟨hi, fun q7 => ?_, fun q7 => ⟨s1.s 1 10 5, k_flS (by omega) s1 hj r1 (fun μ3 r3 F3 => ⟨rfl, rfl, bad μ3 ?_ r3 F3⟩)⟩⟩
  rotate_left
  · have h7 : i < 7 := by
      rcases Nat.lt_or_ge i 7 with h | h
      · exact h
      · rw [if_neg (by omega)] at q7
        exact absurd q7 (oI_ne (k := i - 7) (by omega))
    unfold rStep
    rw [q]
    show (if 7 ≤ i then _ else _) = _
    rw [if_neg (by omega)]
  have h7 : 7 ≤ i := by
    rcases Nat.lt_or_ge i 7 with h | h
    · rw [if_pos h] at q7; exact absurd rfl q7
    · exact h
  rw [if_neg (by omega), nI_clamp (by omega)]
  obtain ⟨x1, x2, x3, -⟩ := s1.scp hk
  have hne : A (9 + k) ≠ A 1 := fun e => by have := hj (9 + k) 1 (by omega) (by decide) e; omega
  have eS : rStep t len c = (stE i (rNum t len (fun _ => 9999) (stN i) (nxW t len c).2).1, (rNum t len (fun _ => 9999) (stN i) (nxW t len c).2).2) := by
    unfold rStep
    rw [q]
    show (if 7 ≤ i then _ else _) = _
    rw [if_pos h7]
  have h4 := stN_le i
  rw [eS] at hr
  refine ⟨x1, _, x2, 60, x3, vp_in_nI (by omega) (by omega), ?_⟩
  generalize (nxW t len c).2 = c1 at r1 hr ⊢
  have key := loopUp (Q := fun v => ∀ μ' : Hp, Fr [A 1, A (9 + k)] μ μ' → rdR μ' A t len (rNum t len (fun _ => 9999) (min v (stN i)) c1).2 → hI μ' (A (9 + k)) (n * 5) = nI (i - 7) → (∀ j, j < v → hI μ' (A (9 + k)) (n * 5 + (j + 1)) = stE i (rNum t len (fun _ => 9999) (stN i) c1).1 (j + 1)) → (∀ j, j < n * 5 → hI μ' (A (9 + k)) j = hI μ (A (9 + k)) j) → J μ' 0 0 42 [(0, .ref (A (4 + k))), (1, .ref (A 1)), (2, .int (nI (n * 5))), (3, .ref (ro (10 + i))), (4, .int (nI (v + 1)))] []) 4 ?_ (fun v hv ih => ?_) 0 (by omega)
  · refine key _ (F1'.w1 (by simp)) ?_ (by rw [hI_wI_s, upd_s]) (fun j hj0 => by omega) (fun j hj1 => by rw [hI_wI_s, upd_n _ (by omega), o1])
    rw [show min 0 (stN i) = 0 by omega]
    exact r1.w' hj (by omega) (by omega) (by omega)
  · intro μ' F' r' e0 v' o'
    have s' := hs.fr F'
    obtain ⟨y1, y2, y3, -⟩ := s'.scp hk
    rw [show min 4 (stN i) = stN i by omega] at r'
    refine B_X7_readStep_42 g hr hi y1 y2 y3 (s'.s 1 10 5) (pk_le 5 5 (fun _ => ⟨rfl, F', r', fun _ j hj5 => ?_, o'⟩) (fun q => by omega))
    rcases Nat.eq_zero_or_pos j with e | e
    · subst e; exact e0
    · have := v' (j - 1) (by omega)
      rw [show j - 1 + 1 = j by omega] at this
      exact this
  · intro μ' F' r' e0 v' o'
    have s' := hs.fr F'
    obtain ⟨y1, y2, y3, -⟩ := s'.scp hk
    refine B_X7_readStep_42 g hr hi y1 y2 y3 (s'.s 1 10 5) (pk_le 5 (v + 1) (fun q => by omega) (fun _ => ?_))
    rw [roNum_st i hi, nI_add, nI_clamp (by omega), nI_1]
    refine pk_lt (stN i) (v + 1) (fun q => ⟨vp_in_nI (by omega) (by omega), ih _ (F'.w1 (by simp)) ?_ ?_ (fun j hjv => ?_) (fun j hj1 => ?_)⟩) (fun q => ?_)
    · rw [show min (v + 1) (stN i) = min v (stN i) by omega]; exact r'.w' hj (by omega) (by omega) (by omega)
    · rw [hI_wI_s, upd_n _ (by omega)]; exact e0
    · rw [hI_wI_s]
      by_cases e : j = v
      · subst e
        rw [upd_s]
        unfold stE
        rw [if_neg (by omega), if_neg (by omega)]
      · rw [upd_n _ (by omega)]; exact v' j (by omega)
    · rw [hI_wI_s, upd_n _ (by omega)]; exact o' j hj1
    · rw [show min v (stN i) = v by omega] at r'
      refine k_nn (lo := 0) (hi := 9999) (by omega) s' hj r' (by omega) (by omega) (fun μ2 r2 F2 => ⟨_, rfl, 60, by rw [F2.2.2.1]; exact y3, vp_in_nI (by omega) (by omega), ?_⟩)
      have o2 : hI μ2 (A (9 + k)) = hI μ' (A (9 + k)) := F2.2.2.2 _ (fun q => hne (List.mem_singleton.mp q))
      refine ih _ ((F'.tt (Fr.one F2 (by simp))).w1 (by simp)) ?_ ?_ (fun j hjv => ?_) (fun j hj1 => ?_)
      · rw [show min (v + 1) (stN i) = v + 1 by omega]; exact r2.w' hj (by omega) (by omega) (by omega)
      · rw [hI_wI_s, upd_n _ (by omega), o2]; exact e0
      · rw [hI_wI_s]
        by_cases e : j = v
        · subst e
          rw [upd_s]
          unfold stE
          rw [if_neg (by omega), if_pos (by omega), rNum_j (stN i) (by omega)]
          rfl
        · rw [upd_n _ (by omega), o2]; exact v' j (by omega)
      · rw [hI_wI_s, upd_n _ (by omega), o2]; exact o' j hj1
/-- the steps of a script in its row -/
def scO (f : Nat → Int32) (ss : List (Nat → Int32)) : Prop := ∀ i x, ss[i]? = some x → ∀ j, j < 5 → f (i * 5 + j) = x j
def scZ (A : Nat → Nat) (t : Nat → Int32) (len k : Nat) (μ : Hp) : Option Value → Hp → Prop := fun r μ' => r = none ∧ Fr [A 1, A (4 + k), A (9 + k)] μ μ' ∧ rdR μ' A t len (rScript t len).2 ∧ ((rScript t len).2.1 = none → hI μ' (A (4 + k)) 1 = nI (rScript t len).1.length ∧ (rScript t len).1.length ≤ 12 ∧ scO (hI μ' (A (9 + k))) (rScript t len).1)
theorem c_rScript (hd : 6 ≤ d) (hk : k < 5) (hs : cSh μ A) (hj : cInj A) (h : tpR μ A t len) : xC d yX7_readFrom cX7_readFrom 4 none 0 0 [.ref (A (4 + k)), .ref (A 1)] μ ro (scZ A t len k μ) := by
  have ne : ∀ i j, i < 51 → j < 51 → i ≠ j → A i ≠ A j := fun i j hi hj' hij e => hij (hj i j hi hj' e)
  obtain ⟨x1, x2, x3, -⟩ := hs.scp hk
  refine I_X7_readFrom (fun J g hr => B_X7_readFrom_0 g hr x1 (hs.s 1 10 5) ?_)
  have t1 : tpR (wI μ (A (4 + k)) 1 0) A t len := by
    unfold tpR
    rw [hI_wI_n _ _ _ (ne 1 (4 + k) (by omega) (by omega) (by omega)), hI_wI_n _ _ _ (ne 2 (4 + k) (by omega) (by omega) (by omega))]
    exact h
  refine k_bg (by omega) (μ := wI μ (A (4 + k)) 1 0) hs hj t1 (fun μ1 r1 F1 => ⟨rfl, ?_⟩)
  have F1' : Fr [A 1, A (4 + k), A (9 + k)] μ μ1 := (Fr.wi (by simp)).tt (Fr.one F1 (by simp))
  have key : ∀ n i ss c μ', i + n = 12 → ss.length = i → Fr [A 1, A (4 + k), A (9 + k)] μ μ' → rdR μ' A t len c → (hI μ' (A (4 + k)) 1 = nI ss.length ∧ scO (hI μ' (A (9 + k))) ss) → rScr t len n ss c = rScript t len → J μ' 0 0 13 [(0, .ref (A (4 + k))), (1, .ref (A 1)), (2, .int 1), (3, .int (nI i))] [] := by
    intro n
    induction n with
    | zero =>
      intro i ss c μ' hi hl F' r' v' he
      have s' := hs.fr F'
      obtain ⟨y1, y2, y3, -⟩ := s'.scp hk
      have he' : (ss, flC c c.2.1) = rScript t len := he
      refine B_X7_readFrom_13 g hr (s'.s 1 10 5) y1 ⟨fun q => absurd q (by decide), fun _ => pk_le 12 i (fun _ => ⟨fun q => absurd q (by decide), fun _ => k_flS (by omega) s' hj r' (fun μ2 r2 F2 => ⟨rfl, rfl, F'.tt (Fr.one F2 (by simp)), ?_, fun e => ?_⟩)⟩) (fun q => by omega)⟩
      · rw [← he']; exact r2
      · rw [← he'] at e; exact absurd e flC_n
    | succ n ih =>
      intro i ss c μ' hi hl F' r' v' he
      have s' := hs.fr F'
      obtain ⟨y1, y2, y3, -⟩ := s'.scp hk
      refine B_X7_readFrom_13 g hr (s'.s 1 10 5) y1 ⟨fun q => absurd q (by decide), fun _ => pk_le 12 i (fun q => by omega) (fun _ => ?_)⟩
      rw [show nI i * 5 = nI (i * 5) from pk_mul i 5]
      refine xCall_of (c_rStep (d := d - 1) (by omega) hk (by omega) s' hj r') (by omega) ?_
      rintro r μ2 ⟨rfl, F2, r2, v2, o2⟩
      have F2' : Fr [A 1, A (4 + k), A (9 + k)] μ μ2 := F'.tt (F2.sub (fun b hb => by
        simp only [List.mem_cons, List.not_mem_nil, or_false] at hb ⊢
        rcases hb with e | e
        · exact Or.inl e
        · exact Or.inr (Or.inr e)))
      have s2 := hs.fr F2'
      obtain ⟨z1, z2, z3, -⟩ := s2.scp hk
      refine ⟨rfl, z1, s2.s 1 10 5, ?_⟩
      rw [nI_1]
      have r3 := r2.w' (i := 4 + k) (j := 1) (x := nI (i + 1)) hj (by omega) (by omega) (by omega)
      refine k_go (by omega) (μ := wI μ2 (A (4 + k)) 1 (nI (i + 1))) s2 hj r3 (fun μ4 r4 F4 => ⟨_, rfl, ?_⟩)
      have F4' : Fr [A 1, A (4 + k), A (9 + k)] μ μ4 := (F2'.w1 (by simp)).tt (Fr.one F4 (by simp))
      have o4 : ∀ m, m < 51 → m ≠ 1 → hI μ4 (A m) = hI (wI μ2 (A (4 + k)) 1 (nI (i + 1))) (A m) := fun m hm h1 => F4.2.2.2 _ (fun q => ne m 1 hm (by omega) h1 (List.mem_singleton.mp q))
      have st : (rStep t len c).2.1 = none → hI μ4 (A (4 + k)) 1 = nI (ss ++ [(rStep t len c).1]).length ∧ scO (hI μ4 (A (9 + k))) (ss ++ [(rStep t len c).1]) := fun e => by
        refine ⟨?_, fun m x hx j hj5 => ?_⟩
        · rw [o4 (4 + k) (by omega) (by omega), hI_wI_s, upd_s, List.length_append, List.length_singleton, hl]
        · rw [o4 (9 + k) (by omega) (by omega), hI_wI_n _ _ _ (ne (9 + k) (4 + k) (by omega) (by omega) (by omega))]
          rcases get_snoc hx with ⟨q1, q2⟩ | ⟨rfl, rfl⟩
          · rw [o2 _ (by omega)]; exact v'.2 m x q1 j hj5
          · rw [hl]; exact v2 e j hj5
      rw [rScr_s t len n ss c] at he
      by_cases q : (goC t len (rStep t len c).2).1 = true
      · rw [if_pos q] at he ⊢
        exact ih (i + 1) _ _ μ4 (by omega) (by rw [List.length_append, List.length_singleton, hl]) F4' r4 (st (goC_tn q)) he
      · rw [if_neg q] at he ⊢
        have s4 := hs.fr F4'
        obtain ⟨w1, -⟩ := s4.scp hk
        refine B_X7_readFrom_13 g hr (s4.s 1 10 5) w1 ⟨fun _ => ⟨fun _ => ⟨rfl, F4', ?_, fun e => ?_⟩, fun q => absurd rfl q⟩, fun q => absurd rfl q⟩
        · rw [← he]; exact r4
        · rw [← he] at e ⊢
          have := st (goC_nn e)
          exact ⟨this.1, by rw [List.length_append, List.length_singleton, hl]; omega, this.2⟩
  refine key 12 0 [] (none, 0, 0) μ1 (by omega) rfl F1' r1 ⟨?_, fun i x hx => by simp at hx⟩ rfl
  rw [F1.2.2.2 _ (fun q => ne (4 + k) 1 (by omega) (by omega) (by omega) (List.mem_singleton.mp q)), hI_wI_s, upd_s]; rfl
end rds
