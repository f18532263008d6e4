/-! the empty state, class and model -/
def S0 : St := (((fun _ => 0), (fun _ => 0), (fun _ => 0), 0, 0, 0), (fun _ => []), (fun _ => []), (fun _ => 0), [], [], none, (0, fun _ => 0), (0, fun _ => 0, fun _ _ => 0), fun _ => 0)
theorem S0_B : S0.B.ok := ⟨⟨⟨by decide, by decide, by decide⟩, fun _ h => absurd h (Nat.not_lt_zero _), fun _ _ _ h => absurd h (Nat.not_lt_zero _), fun _ h => absurd h (Nat.not_lt_zero _)⟩, fun _ => rfl⟩
theorem cl0 : cl (0 : Int32) = 0 := by decide
theorem S0_row : S0.B.row S0.f := by
  show rowOK (fun _ => 0) (cl 0) 0 0
  rw [cl0]
  exact ⟨⟨rfl, by decide, ⟨0, by decide, rfl⟩⟩, fun _ h => absurd h (Nat.not_lt_zero _), fun _ _ h => absurd h (Nat.not_lt_zero _), fun _ _ => ⟨⟨0, by decide, rfl⟩, ⟨0, by decide, rfl⟩⟩, fun _ _ _ => rfl⟩
theorem S0_ok : sOk S0 := ⟨S0_B, ⟨S0_row, fun _ _ => rfl⟩, (fun g h => by cases h), ⟨by decide, by decide⟩, (fun q h => by cases h), ⟨by decide, by decide⟩, fun _ h => absurd h (Nat.not_lt_zero _), fun _ h => absurd h (Nat.not_lt_zero _), fun _ h => absurd h (Nat.not_lt_zero _), fun _ h => absurd h (Nat.not_lt_zero _)⟩
theorem gT_c : ∀ q ∈ cTab, q.1 < 52 ∧ gSh q.1 = q.2 := by decide
theorem gT_m : ∀ p, p < 28 → mTab[p]? = some (gTab.getD (53 + p) (0, 0, 0)) := by decide
section beg
variable {μ0 μ : Hp} {L : gL} {R : List (Nat × Nat × Nat)} {A : Nat → Nat} {m : Nat} {X : Nat → Nat}
theorem cR0 (h : gk μ0 L R μ) (hA : gA L R A) : cR μ A S0 ∧ sb μ (A 30) (A 51) 16 [] := by
  have v : ∀ i, i < 52 → hI μ (A i) = cV i := fun i hi => (h.1 _ (hA.1 i hi)).2.2.1
  have z : ∀ i, i < 52 → i ≠ 1 → i ≠ 33 → i ≠ 35 → i ≠ 37 → hI μ (A i) = fun _ => 0 := fun i hi h1 h2 h3 h4 => by
    rw [v i hi, cV, if_neg h1, if_neg (fun c => by rcases c with c | c | c <;> contradiction)]
  have s : ∀ i, i < 52 → hS μ (A i) = some (gSh i) := fun i hi => h.sh (hA.1 i hi)
  have inj : ∀ i j, i < 52 → j < 52 → A i = A j → i = j := fun i j hi hj e => (h.2.1 _ (hA.1 i hi) _ (hA.1 j hj)).mp e
  have rf : ∀ q, q ∈ cRef ++ [(30, 0, 51)] → q.1 < 52 → hR μ (A q.1) q.2.1 = some (A q.2.2) := fun q hq hi => by
    obtain ⟨p, hp⟩ := List.mem_iff_getElem?.mp hq
    exact h.rf (hA.1 q.1 hi) (hA.2 p q hp)
  refine ⟨⟨⟨⟨⟨fun q hq => ?_, fun q hq => ?_⟩, fun i j hi hj e => inj i j (by omega) (by omega) e⟩, ?_, ?_, S0_B, ⟨?_, S0_row, ?_, ?_⟩, ?_, fun _ _ => rfl, ?_⟩, ⟨fun _ h => absurd h (Nat.not_lt_zero _), fun _ h => absurd h (Nat.not_lt_zero _)⟩, ⟨⟨0, ⟨?_, ?_, by decide, by decide⟩, fun i g hg => by cases hg⟩, (fun g hg => by cases hg), by decide⟩, ⟨0, 0, ⟨?_, ?_, by decide, by decide, by decide, by decide⟩, fun i e hi => absurd hi (Nat.not_lt_zero _)⟩, ⟨?_, ?_, fun q hq => by cases hq⟩, ⟨?_, by decide, fun _ h => absurd h (Nat.not_lt_zero _)⟩, ⟨?_, by decide, fun _ h => absurd h (Nat.not_lt_zero _)⟩, fun i hi => ?_⟩, ⟨?_, ?_, ?_, ?_⟩, ⟨?_, by decide, by decide, by decide⟩, fun j => ?_, fun j c hj => by cases hj⟩
  · rw [s q.1 (gT_c q hq).1, (gT_c q hq).2]
  · exact rf q (List.mem_append_left _ hq) (by have := (cR_src q hq).1; omega)
  · rw [z 39 (by decide) (by decide) (by decide) (by decide) (by decide)]; exact ⟨rfl, rfl, rfl⟩
  · rw [z 42 (by decide) (by decide) (by decide) (by decide) (by decide), z 43 (by decide) (by decide) (by decide) (by decide) (by decide), z 44 (by decide) (by decide) (by decide) (by decide) (by decide)]; exact ⟨rfl, rfl, rfl⟩
  · exact z 34 (by decide) (by decide) (by decide) (by decide) (by decide)
  · rw [v 33 (by decide)]; decide
  · rw [v 33 (by decide)]; decide
  · rw [z 14 (by decide) (by decide) (by decide) (by decide) (by decide)]
  · intro j _; rw [z 36 (by decide) (by decide) (by decide) (by decide) (by decide)]
  · rw [z 24 (by decide) (by decide) (by decide) (by decide) (by decide)]; rfl
  · rw [z 24 (by decide) (by decide) (by decide) (by decide) (by decide)]; rfl
  · rw [z 26 (by decide) (by decide) (by decide) (by decide) (by decide)]; rfl
  · rw [z 26 (by decide) (by decide) (by decide) (by decide) (by decide)]; rfl
  · rw [z 0 (by decide) (by decide) (by decide) (by decide) (by decide)]; rfl
  · intro j _; rw [z 38 (by decide) (by decide) (by decide) (by decide) (by decide)]
  · rw [v 1 (by decide)]; decide
  · rw [z 0 (by decide) (by decide) (by decide) (by decide) (by decide)]; rfl
  · rw [z 31 (by decide) (by decide) (by decide) (by decide) (by decide)]; rfl
  · exact s 30 (by decide)
  · exact rf (30, 0, 51) (List.mem_append_right _ List.mem_cons_self) (by decide)
  · rw [z 30 (by decide) (by decide) (by decide) (by decide) (by decide)]
  · rw [z 30 (by decide) (by decide) (by decide) (by decide) (by decide)]; rfl
  · exact s 51 (by decide)
  · rw [z 51 (by decide) (by decide) (by decide) (by decide) (by decide)]; exact (by decide : fits .byte (.int 0) = true)
theorem mR0 (h : gk μ0 L R μ) (hM : gM L R m X) : mR μ m X S0 := by
  have hp : ∀ q, q ∈ mTab → ∃ p, p < 28 ∧ mTab[p]? = some q := fun q hq => by
    obtain ⟨p, hp⟩ := List.mem_iff_getElem?.mp hq
    exact ⟨p, (List.getElem?_eq_some_iff.mp hp).1, hp⟩
  have vm : hI μ m = mV := (h.1 _ hM.1).2.2.1
  have z : ∀ i, i ∈ mK → hI μ (X i) = fun _ => 0 := fun i hi => by
    obtain ⟨q, hq, rfl⟩ := List.mem_map.mp hi
    obtain ⟨p, -, e⟩ := hp q hq
    exact (h.1 _ (hM.2 p q e).1).2.2.1
  refine ⟨⟨⟨⟨h.sh hM.1, fun q hq => ?_⟩, fun i j hi hj e => ?_⟩, ⟨⟨?_, ?_, ?_⟩, fun _ _ h => absurd h (Nat.not_lt_zero _), fun _ h => absurd h (Nat.not_lt_zero _), fun _ h => absurd h (Nat.not_lt_zero _)⟩, ?_, ⟨?_, ?_, ?_⟩, S0_B, S0_row⟩, ⟨?_, fun i e hi => absurd hi (Nat.not_lt_zero _)⟩, ⟨?_, 0, by decide, ?_, fun i g hg => by cases hg⟩, ⟨fun _ h => absurd h (Nat.not_lt_zero _), fun _ h => absurd h (Nat.not_lt_zero _)⟩, ⟨?_, fun q hq => by cases hq⟩, ?_, ?_, ?_⟩
  · obtain ⟨p, hp1, e⟩ := hp q hq
    refine ⟨h.rf hM.1 (hM.2 p q e).2, ?_⟩
    rw [h.sh (hM.2 p q e).1]
    have e2 := (gT_m p hp1).symm.trans e
    show some (gTab.getD (53 + p) (0, 0, 0)).2 = _
    rw [Option.some.inj e2]
  · obtain ⟨q, hq, rfl⟩ := List.mem_map.mp hi
    obtain ⟨q', hq', rfl⟩ := List.mem_map.mp hj
    obtain ⟨p, -, e1⟩ := hp q hq
    obtain ⟨p', -, e1'⟩ := hp q' hq'
    have := (h.2.1 _ (hM.2 p q e1).1 _ (hM.2 p' q' e1').1).mp e
    have e3 : p = p' := by have : 53 + p = 53 + p' := this; omega
    subst e3
    rw [e1] at e1'
    rw [Option.some.inj e1']
  · rw [vm]; decide
  · rw [vm]; decide
  · rw [vm]; decide
  · rw [z 30 (by decide)]
    refine ⟨⟨?_, ?_, fun _ _ => ⟨rfl, rfl⟩, fun _ _ _ _ => rfl⟩, rfl, fun _ _ => rfl, fun _ _ => rfl⟩
    · show (0 : Int32) = nI (cl 0); decide
    · show (0 : Int32) = nI (cl 0); decide
  · rw [vm]; decide
  · rw [vm]; decide
  · rw [vm]; decide
  · rw [z 30 (by decide)]; rfl
  · rw [vm]; decide
  · rw [vm]; decide
  · rw [vm]; decide
  · exact ⟨by rw [vm]; decide, fun _ h => absurd h (Nat.not_lt_zero _)⟩
  · exact ⟨by rw [vm]; decide, fun _ h => absurd h (Nat.not_lt_zero _)⟩
  · intro i _; rw [z 14 (by decide)]; rfl
end beg
