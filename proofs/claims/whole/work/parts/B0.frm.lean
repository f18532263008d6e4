/-! what one side leaves of the other -/
section frm
variable {μ μ' : Hp} {A : Nat → Nat} {S : St} {m : Nat} {X : Nat → Nat} {b N w x : Nat} {l : List Nat}
/-- a cell as it was -/
abbrev asW (μ μ' : Hp) (c : Nat) : Prop := hI μ' c = hI μ c ∧ hL μ' c = hL μ c ∧ hR μ' c = hR μ c ∧ hS μ' c = hS μ c
theorem cR.pt (h : cR μ A S) (kp : ∀ i, i < 51 → i ≠ 30 → asW μ μ' (A i)) (k30 : hS μ' (A 30) = hS μ (A 30)) : cR μ' A S := by
  obtain ⟨⟨⟨h1, h2⟩, q3, q4, q5, q6, q7, q8, q9⟩, r2, r3, r4, r5, r6, r7, r8⟩ := h
  have kI : ∀ i, i < 51 → i ≠ 30 → hI μ' (A i) = hI μ (A i) := fun i hi h30 => (kp i hi h30).1
  refine ⟨⟨⟨⟨fun q hq => ?_, fun q hq => ?_⟩, h2⟩, ?_, ?_, q5, ?_, ?_, q8, ?_⟩, ?_, ⟨?_, r3.2⟩, ?_, ?_, ?_, ?_, ?_⟩
  · by_cases e : q.1 = 30
    · rw [e, k30, ← e]; exact h1.1 q hq
    · rw [(kp q.1 ((by decide : ∀ q ∈ cTab, q.1 < 51) q hq) e).2.2.2]; exact h1.1 q hq
  · obtain ⟨ha, hb⟩ := cR_src q hq
    rw [(kp q.1 ha hb).2.2.1]
    exact h1.2 q hq
  · rw [kI 39 (by decide) (by decide)]; exact q3
  · rw [kI 42 (by decide) (by decide), kI 43 (by decide) (by decide), kI 44 (by decide) (by decide)]; exact q4
  · rw [kI 34 (by decide) (by decide), kI 33 (by decide) (by decide)]; exact q6
  · rw [kI 14 (by decide) (by decide)]; exact q7
  · rw [kI 36 (by decide) (by decide)]; exact q9
  · unfold cNm; rw [(kp 40 (by decide) (by decide)).2.1, (kp 41 (by decide) (by decide)).2.1]; exact r2
  · unfold cHs; rw [kI 24 (by decide) (by decide), kI 25 (by decide) (by decide)]; exact r3.1
  · unfold cLg; rw [kI 26 (by decide) (by decide), kI 27 (by decide) (by decide)]; exact r4
  · unfold cIm; rw [kI 0 (by decide) (by decide), kI 38 (by decide) (by decide), kI 28 (by decide) (by decide), kI 29 (by decide) (by decide), (kp 37 (by decide) (by decide)).2.2.1]; exact r5
  · unfold cTp; rw [kI 1 (by decide) (by decide), kI 2 (by decide) (by decide)]; exact r6
  · refine r7.fr (by rw [kI 0 (by decide) (by decide)]) (fun k hk => ?_)
    exact ⟨kI (4 + k) (by omega) (by omega), kI (9 + k) (by omega) (by omega)⟩
  · unfold cRf; rw [kI 31 (by decide) (by decide)]; exact r8
theorem mR.pt (h : mR μ m X S) (km : asW μ μ' m) (kx : ∀ i, i ∈ mK → asW μ μ' (X i)) : mR μ' m X S := by
  obtain ⟨⟨⟨⟨h1, h2⟩, h3⟩, h4, h5, h6, h7, h8⟩, h9, h10, h11, h12, h13, h14, h15⟩ := h
  have kI : ∀ i, i ∈ mK → hI μ' (X i) = hI μ (X i) := fun i hi => (kx i hi).1
  refine ⟨⟨⟨⟨by rw [km.2.2.2]; exact h1, fun q hq => ?_⟩, h3⟩, ?_, ?_, ?_, h7, h8⟩, ?_, ?_, ?_, ?_, ?_, ?_, ?_⟩
  · rw [km.2.2.1, (kx q.1 (List.mem_map.mpr ⟨q, hq, rfl⟩)).2.2.2]; exact h2 q hq
  · unfold mBk; rw [km.1, kI 8 (by decide), kI 10 (by decide), kI 12 (by decide)]; exact h4
  · rw [kI 30 (by decide)]; exact h5
  · rw [km.1]; exact h6
  · rw [kI 30 (by decide)]; exact h9
  · unfold mHs; rw [km.1, kI 33 (by decide)]; exact h10
  · unfold mNm; rw [(kx 16 (by decide)).2.1, (kx 18 (by decide)).2.1]; exact h11
  · unfold mIm; rw [km.1, kI 32 (by decide)]; exact h12
  · unfold mTp; rw [km.1, kI 1 (by decide)]; exact h13
  · unfold mSc; rw [km.1, kI 29 (by decide), kI 28 (by decide)]; exact h14
  · unfold mRf; rw [kI 14 (by decide)]; exact h15
theorem sb.pt {a : Nat} (h : sb μ a b N l) (ka : asW μ μ' a) (kb : asW μ μ' b) : sb μ' a b N l := by
  obtain ⟨⟨h1, h2, h3, h4⟩, ⟨g1, g2⟩, g5, g6⟩ := h
  refine ⟨⟨by rw [ka.2.2.2]; exact h1, by rw [ka.2.2.1]; exact h2, by rw [ka.1]; exact h3, by rw [ka.1]; exact h4⟩, ⟨by rw [kb.2.2.2]; exact g1, g2⟩, ?_, ?_⟩
  · rw [kb.1]; exact g5
  · rw [kb.1]; exact g6
/-- class and model side by side: their cells, the builder's bytes, the law's long -/
def LI (x m w : Nat) (A X : Nat → Nat) (S : St) (μ : Hp) : Prop :=
  (A 0 = x ∧ cR μ A S) ∧ mR μ m X S ∧ sOk S ∧ hS μ w = some (2, 1) ∧ (∃ b N l, sb μ (A 30) b N l ∧ b ∉ mK.map X) ∧ ∀ i, i < 51 → A i ∉ mK.map X
theorem mT_kd : ∀ q ∈ mTab, q.2 ≠ (2, 1) ∧ q.2.1 ≠ 4 := by decide
theorem cT_kd2 : ∀ q ∈ cTab, q.2 ≠ (2, 1) ∧ q.2.1 ≠ 15 := by decide
theorem cO_lt : ∀ i ∈ cO, i < 51 ∧ i ≠ 30 := by decide
theorem LI.cm (h : LI x m w A X S μ) : ∀ i, i < 51 → A i ≠ m := fun i hi e => by
  obtain ⟨q, hq, rfl⟩ := List.mem_map.mp (cT_all i hi)
  have h1 := h.1.2.1.1.1.1 q hq
  rw [e, h.2.1.1.1.1.1] at h1
  have e2 : q.2.1 = 15 := by rw [← Option.some.inj h1]
  exact (cT_kd2 q hq).2 e2
theorem cSh.nw (h : cSh μ A) (hw : hS μ w = some (2, 1)) {i : Nat} (hi : i < 51) : A i ≠ w := fun e => by
  obtain ⟨q, hq, rfl⟩ := List.mem_map.mp (cT_all i hi)
  have h1 := h.1 q hq
  rw [e, hw] at h1
  exact (cT_kd2 q hq).1 (Option.some.inj h1).symm
theorem swA_in (i : Nat) (hi : i < 51) : ∃ j, j < 51 ∧ ∀ A, swA A i = A j := ⟨sw i, (by decide : ∀ i, i < 51 → sw i < 51) i hi, fun _ => rfl⟩
/-- after the class changed its own cells -/
theorem LI.cls {A' : Nat → Nat} {S' : St} (h : LI x m w A X S μ) (hA : A' = A ∨ A' = swA A) (hc : cR μ' A' S') (ho : cOut A μ μ') : (A' 0 = x ∧ cR μ' A' S') ∧ mR μ' m X S ∧ hS μ' w = some (2, 1) ∧ (∃ b N l, sb μ' (A' 30) b N l ∧ b ∉ mK.map X) ∧ ∀ i, i < 51 → A' i ∉ mK.map X := by
  obtain ⟨⟨h1, h2⟩, h3, h4, h5, ⟨b, N, l, hs, hb⟩, h7⟩ := id h
  have hsh := h2.1.1.1
  have hj := h2.1.1.2
  have out : ∀ c, (∀ i, i < 51 → i ≠ 30 → A i ≠ c) → asW μ μ' c := fun c hc => ho c (fun hm => by
    obtain ⟨i, hi, e⟩ := List.mem_map.mp hm
    exact hc i (cO_lt i hi).1 (cO_lt i hi).2 e)
  have e30 : A' 30 = A 30 := by rcases hA with rfl | rfl <;> rfl
  have e0 : A' 0 = A 0 := by rcases hA with rfl | rfl <;> rfl
  refine ⟨⟨e0.trans h1, hc⟩, ?_, ?_, ⟨b, N, l, ?_, hb⟩, fun i hi => ?_⟩
  · refine h3.pt (out m (fun i hi _ => h.cm i hi)) (fun i hi => out (X i) (fun j hj2 _ e => h7 j hj2 (List.mem_map.mpr ⟨i, hi, e.symm⟩)))
  · rw [(out w (fun i hi _ => hsh.nw h5 hi)).2.2.2]; exact h5
  · rw [e30]
    exact hs.pt (out _ (fun i hi h30 e => h30 (hj i 30 hi (by decide) e))) (out b (fun i hi _ => (hsh.nb hs.2.1.1 hi).1))
  · rcases hA with rfl | rfl
    · exact h7 i hi
    · obtain ⟨j, hj1, e⟩ := swA_in i hi
      rw [e A]
      exact h7 j hj1
/-- after the model changed its own cells -/
theorem LI.mdl {S' : St} (h : (A 0 = x ∧ cR μ A S') ∧ mR μ m X S ∧ hS μ w = some (2, 1) ∧ (∃ b N l, sb μ (A 30) b N l ∧ b ∉ mK.map X) ∧ ∀ i, i < 51 → A i ∉ mK.map X) (hm : mR μ' m X S') (ho : mOut m X μ μ') (hok : sOk S') : LI x m w A X S' μ' := by
  obtain ⟨⟨h1, h2⟩, h3, h5, ⟨b, N, l, hs, hb⟩, h7⟩ := h
  have hms : hS μ m = some (15, 65) := h3.1.1.1.1
  have out : ∀ c, c ≠ m → c ∉ mK.map X → asW μ μ' c := fun c h1 h2 => ⟨(ho.2.2 c h1 h2).1, (ho.2.2 c h1 h2).2, by rw [ho.1], by rw [ho.2.1]⟩
  have cm : ∀ i, i < 51 → A i ≠ m := fun i hi e => by
    obtain ⟨q, hq, rfl⟩ := List.mem_map.mp (cT_all i hi)
    have h1 := h2.1.1.1.1 q hq
    rw [e, hms] at h1
    have e2 : q.2.1 = 15 := by rw [← Option.some.inj h1]
    exact (cT_kd2 q hq).2 e2
  refine ⟨⟨h1, h2.pt (fun i hi _ => out _ (cm i hi) (h7 i hi)) (by rw [ho.2.1])⟩, hm, hok, by rw [ho.2.1]; exact h5, ⟨b, N, l, hs.pt (out _ (cm 30 (by decide)) (h7 30 (by decide))) (out b (fun e => ?_) hb), hb⟩, h7⟩
  have := hs.2.1.1
  rw [e, hms] at this
  cases this
end frm
/-- after spell -/
theorem LI.spl {μ μ' : Hp} {A : Nat → Nat} {S : St} {m : Nat} {X : Nat → Nat} {b N w x b' N' : Nat} {l l' : List Nat} (h : LI x m w A X S μ) (hs : sb μ (A 30) b N l) (hb : b ∉ mK.map X) (hc : cR μ' A S) (hs' : sb μ' (A 30) b' N' l') (hF : spF A b b' μ μ') : (A 0 = x ∧ cR μ' A S) ∧ mR μ' m X S ∧ hS μ' w = some (2, 1) ∧ (∃ b N l, sb μ' (A 30) b N l ∧ b ∉ mK.map X) ∧ ∀ i, i < 51 → A i ∉ mK.map X := by
  obtain ⟨⟨h1, h2⟩, h3, h4, h5, -, h7⟩ := id h
  have hsh := h2.1.1.1
  have xs : ∀ i, i ∈ mK → ∃ y, hS μ (X i) = some y := fun i hi => by
    obtain ⟨q, hq, rfl⟩ := List.mem_map.mp hi
    exact ⟨_, (h3.1.1.1.2 q hq).2⟩
  have out : ∀ c y, (∀ i, i < 51 → A i ≠ c) → c ≠ b → hS μ c = some y → asW μ μ' c := fun c y hc hcb hy => by
    obtain ⟨k1, k2, k3⟩ := hF.2.2 c y (fun hm => by
      obtain ⟨i, hi, e⟩ := List.mem_map.mp hm
      exact hc i (cO_lt i hi).1 e) (fun e => hc 30 (by decide) e.symm) hcb hy
    exact ⟨k1, k2, k3, (hF.2.1 c y hy).trans hy.symm⟩
  refine ⟨⟨h1, hc⟩, ?_, hF.2.1 _ _ h5, ⟨b', N', l', hs', ?_⟩, h7⟩
  · refine h3.pt (out m _ (fun i hi => h.cm i hi) (fun e => ?_) h3.1.1.1.1) (fun i hi => ?_)
    · have := h3.1.1.1.1
      rw [e, hs.2.1.1] at this
      cases this
    · obtain ⟨y, hy⟩ := xs i hi
      exact out (X i) y (fun j hj e => h7 j hj (List.mem_map.mpr ⟨i, hi, e.symm⟩)) (fun e => hb (List.mem_map.mpr ⟨i, hi, e⟩)) hy
  · rcases hF.1 with e | e
    · rw [e]; exact hb
    · intro hm
      obtain ⟨i, hi, e2⟩ := List.mem_map.mp hm
      obtain ⟨y, hy⟩ := xs i hi
      rw [e2, e] at hy
      cases hy
