/-! Reader: length 0, fault 1, start 2, at 3; its tape -/
def isRd (μ : Hp) (a b : Nat) : Prop := hS μ a = some (10, 5) ∧ hR μ a 4 = some b ∧ hS μ b = some (0, 400)
theorem isRd.ne {μ : Hp} {a b : Nat} (h : isRd μ a b) : a ≠ b := ne_of_sh h.1 h.2.2 (by decide)
theorem isRd.fr {μ μ' : Hp} {a b : Nat} {S : List Nat} (h : isRd μ a b) (hf : Fr S μ μ') : isRd μ' a b := ⟨by rw [hf.2.2.1]; exact h.1, by rw [hf.2.1]; exact h.2.1, by rw [hf.2.2.1]; exact h.2.2⟩
theorem c_begin {d : Nat} {ro : Nat → Nat} {μ : Hp} {a b : Nat} (h : isRd μ a b) :
    xC d yX6_begin cX6_begin 1 none 0 0 [.ref a] μ ro (fun r μ' => r = none ∧ μ' = wRow μ a (upd (upd (upd (hI μ a) 3 0) 2 0) 1 (-1))) :=
  I_X6_begin (fun J g hr => B_X6_begin_0 g hr h.1 ⟨rfl, by rw [wI_eq μ, wI_wRow, wI_wRow]⟩)
theorem c_fail {d : Nat} {ro : Nat → Nat} {μ : Hp} {a b : Nat} {x : Int32} (h : isRd μ a b) :
    xC d yX6_fail cX6_fail 2 none 0 0 [.ref a, .int x] μ ro (fun r μ' => r = none ∧ μ' = if hI μ a 1 = -1 then wI μ a 1 x else μ) :=
  I_X6_fail (fun J g hr => B_X6_fail_0 g hr h.1 ⟨fun h1 => ⟨rfl, by rw [if_neg h1]⟩, fun h1 => ⟨rfl, by rw [if_pos h1]⟩⟩)
/-- the first place from a on, m at most, where p fails -/
def runE (p : Nat → Bool) : Nat → Nat → Nat
  | 0, a => a
  | m + 1, a => if p a = true then runE p m (a + 1) else a
theorem runE_t {p : Nat → Bool} {m a : Nat} (h : p a = true) : runE p (m + 1) a = runE p m (a + 1) := by simp [runE, h]
theorem runE_f {p : Nat → Bool} {m a : Nat} (h : ¬ p a = true) : runE p (m + 1) a = a := by simp [runE, h]
theorem runE_ge (p : Nat → Bool) : ∀ m a, a ≤ runE p m a
  | 0, a => Nat.le_refl _
  | m + 1, a => by
    unfold runE
    split
    · exact Nat.le_trans (Nat.le_succ a) (runE_ge p m (a + 1))
    · exact Nat.le_refl _
theorem runE_le (p : Nat → Bool) : ∀ m a, runE p m a ≤ a + m
  | 0, a => Nat.le_refl _
  | m + 1, a => by
    unfold runE
    split
    · have := runE_le p m (a + 1); omega
    · omega
def isB (t : Nat → Int32) (j : Nat) : Bool := decide (t j = 32)
theorem c_skip {d : Nat} {ro : Nat → Nat} {μ : Hp} {a b len at_ : Nat} (h : isRd μ a b) (hl : hI μ a 0 = nI len) (hl4 : len ≤ 400) (hat : hI μ a 3 = nI at_) (ha : at_ ≤ len) :
    xC d yX6_skipBlanks cX6_skipBlanks 1 none 0 0 [.ref a] μ ro (fun r μ' => r = none ∧ μ' = wRow μ a (upd (upd (hI μ a) 3 (nI (runE (isB (hI μ b)) (len - at_) at_))) 2 (nI (runE (isB (hI μ b)) (len - at_) at_)))) := by
  have hne := h.ne
  obtain ⟨hs0, hr0, hs1⟩ := h
  refine I_X6_skipBlanks (fun J g hr => ?_)
  generalize he : runE (isB (hI μ b)) (len - at_) at_ = e at hr
  have key : ∀ m i, i + m = len → runE (isB (hI μ b)) m i = e → J (wRow μ a (upd (hI μ a) 3 (nI i))) 0 0 0 [(0, .ref a)] [] := by
    intro m
    induction m with
    | zero =>
      intro i hi hi2
      have hin : i = len := by omega
      subst hin
      refine B_X6_skipBlanks_0 g hr hs0 hr0 hs1 ?_
      rw [hI_wRow_s, upd_n _ (by decide), upd_s, hl]
      refine ⟨fun _ => ⟨rfl, ?_⟩, fun h => absurd (Int32.le_refl _) h⟩
      rw [wI_wRow, ← hi2]
      rfl
    | succ m ih =>
      intro i hi hi2
      refine B_X6_skipBlanks_0 g hr hs0 hr0 hs1 ?_
      rw [hI_wRow_s, upd_n _ (by decide), upd_s, hl, hI_wRow_n _ _ (Ne.symm hne), nI_clamp (by omega)]
      refine ⟨fun h => absurd h (nI_ge (by omega) (by omega)), fun _ => ⟨vp_in_nI (by omega) (by omega), fun h => ⟨rfl, ?_⟩, fun h => ?_⟩⟩
      · rw [wI_wRow, ← hi2, runE_f (by simp [isB, h])]
      · have := ih (i + 1) (by omega) (by rw [← hi2, runE_t (by simp [isB, h])])
        rw [wI_wRow, nI_1, show upd (upd (hI μ a) 3 (nI i)) 3 (nI (i + 1)) = upd (hI μ a) 3 (nI (i + 1)) from upd_upd _ _ _ _]
        exact this
  have := key (len - at_) at_ (by omega) he
  rw [show wRow μ a (upd (hI μ a) 3 (nI at_)) = μ by rw [← hat, upd_id]; exact wRow_id _ _] at this
  exact this
