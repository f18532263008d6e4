/-! numbers and small loops -/
theorem i_off (c i : Nat) : Int32.ofNat c + nI i = nI (c + i) := nI_add c i
theorem off_in (c : Nat) {i N : Nat} (h : c + i < N) (hN : N < 2147483648) : vp_in (Int32.ofNat c + nI i) N := by rw [i_off]; exact vp_in_nI h hN
theorem off_cl (c : Nat) {i : Nat} (h : c + i < 2147483648) : (Int32.ofNat c + nI i).toNatClampNeg = c + i := by rw [i_off]; exact nI_clamp h
theorem lit_in (c : Nat) {N : Nat} (h : c < N) (hN : N < 2147483648) : vp_in (Int32.ofNat c) N := vp_in_nI h hN
/-- the first of m places from i on with p -/
def fstP (p : Nat → Bool) : Nat → Nat → Option Nat
  | _, 0 => none
  | i, m + 1 => if p i = true then some i else fstP p (i + 1) m
theorem fstP_t {p : Nat → Bool} {i m : Nat} (h : p i = true) : fstP p i (m + 1) = some i := by simp [fstP, h]
theorem fstP_f {p : Nat → Bool} {i m : Nat} (h : ¬ p i = true) : fstP p i (m + 1) = fstP p (i + 1) m := by simp [fstP, h]
def oI : Option Nat → Int32
  | none => -1
  | some k => nI k
/-- how many of m places from i on have p -/
def cntP (p : Nat → Bool) : Nat → Nat → Nat
  | _, 0 => 0
  | i, m + 1 => (if p i = true then 1 else 0) + cntP p (i + 1) m
/-- the sum of m places from i on -/
def sumP (f : Nat → Int32) : Nat → Nat → Int32
  | _, 0 => 0
  | i, m + 1 => f i + sumP f (i + 1) m
/-! State: its row holds year, links, staff, credit, got, taken, and the links by columns -/
/-- the State object at a has its row at b -/
def isSt (μ : Hp) (a b : Nat) : Prop := hS μ a = some (12, 4) ∧ hR μ a 0 = some b ∧ hS μ b = some (0, 112)
def lkP (f : Nat → Int32) (s a b : Int32) (k : Nat) : Bool := decide (f (32 + k) = s ∧ f (48 + k) = a ∧ f (64 + k) = b)
theorem c_linkOf {d : Nat} {ro : Nat → Nat} {μ : Hp} {a0 row n : Nat} {s a b : Int32} (hst : isSt μ a0 row) (hn : hI μ row 1 = nI n) (hn16 : n ≤ 16) :
    xC d yX8_linkOf cX8_linkOf 5 (some .int) 0 0 [.ref a0, .int s, .int a, .int b] μ ro (fun r μ' => r = some (.int (oI (fstP (lkP (hI μ row) s a b) 0 n))) ∧ μ' = μ) := by
  obtain ⟨hs0, hr0, hs1⟩ := hst
  refine I_X8_linkOf (fun J g hr => B_X8_linkOf_0 g hr ?_)
  have key : ∀ m i, i + m = n → fstP (lkP (hI μ row) s a b) i m = fstP (lkP (hI μ row) s a b) 0 n → J μ 0 0 3 [(0, .ref a0), (1, .int s), (2, .int a), (3, .int b), (4, .int (nI i))] [] := by
    intro m
    induction m with
    | zero =>
      intro i hi he
      have hin : i = n := by omega
      subst hin
      refine B_X8_linkOf_3 g hr hs0 hr0 hs1 ⟨lit_in 1 (by omega) (by omega), fun _ => ⟨?_, rfl⟩, fun h => absurd ?_ h⟩
      · rw [← he]; rfl
      · rw [hn]; exact Int32.le_refl _
    | succ m ih =>
      intro i hi he
      have e1 : ((32 : Int32) + nI i).toNatClampNeg = 32 + i := off_cl 32 (by omega)
      have e2 : ((48 : Int32) + nI i).toNatClampNeg = 48 + i := off_cl 48 (by omega)
      have e3 : ((64 : Int32) + nI i).toNatClampNeg = 64 + i := off_cl 64 (by omega)
      have nx : ¬ lkP (hI μ row) s a b i = true → J μ 0 0 3 [(0, .ref a0), (1, .int s), (2, .int a), (3, .int b), (4, .int (nI i + 1))] [] := by
        intro hf
        have := ih (i + 1) (by omega) (by rw [← he, fstP_f hf])
        rw [← nI_1] at this
        exact this
      refine B_X8_linkOf_3 g hr hs0 hr0 hs1 ⟨lit_in 1 (by omega) (by omega), fun h => ?_, fun _ => ⟨off_in 32 (by omega) (by omega), ?_⟩⟩
      · rw [hn] at h
        exact absurd h (nI_ge (by omega) (by omega))
      · rw [e1]
        refine ⟨fun h => nx (by simp [lkP, h]), fun h1 => ⟨off_in 48 (by omega) (by omega), ?_⟩⟩
        rw [e2]
        refine ⟨fun h => nx (by simp [lkP, h]), fun h2 => ⟨off_in 64 (by omega) (by omega), ?_⟩⟩
        rw [e3]
        refine ⟨fun h => nx (by simp [lkP, h]), fun h3 => ⟨?_, rfl⟩⟩
        rw [← he, fstP_t (by simp [lkP, h1, h2, h3])]
        rfl
  exact key n 0 (by omega) rfl
