/-! numbers and small loops -/
theorem i_off (c i : Nat) : Int32.ofNat c + nI i = nI (c + i) := nI_add c i
theorem off_in (c : Nat) {i N : Nat} (h : c + i < N) (hN : N < 2147483648) : vp_in (Int32.ofNat c + nI i) N := by rw [i_off]; exact vp_in_nI h hN
theorem off_cl (c : Nat) {i : Nat} (h : c + i < 2147483648) : (Int32.ofNat c + nI i).toNatClampNeg = c + i := by rw [i_off]; exact nI_clamp h
theorem lit_in (c : Nat) {N : Nat} (h : c < N) (hN : N < 2147483648) : vp_in (Int32.ofNat c) N := vp_in_nI h hN
/-- the first of m places from i on with p -/
def fstP (p : Nat → Bool) : Nat → Nat → Option Nat
  | _, 0 => none
  | i, m + 1 => if p i = true then some i else fstP p (i + 1) m
theorem fstP_t {p : Nat → Bool} {i m : Nat} (h : p i = true) : fstP p i (m + 1) = some i := by simp [fstP, h]
theorem fstP_f {p : Nat → Bool} {i m : Nat} (h : ¬ p i = true) : fstP p i (m + 1) = fstP p (i + 1) m := by simp [fstP, h]
def oI : Option Nat → Int32
  | none => -1
  | some k => nI k
/-- how many of the first places have p; the sum of the first places -/
def cntU (p : Nat → Bool) : Nat → Nat
  | 0 => 0
  | i + 1 => cntU p i + (if p i = true then 1 else 0)
def sumU (f : Nat → Int32) : Nat → Int32
  | 0 => 0
  | i + 1 => sumU f i + f i
theorem cnt_t {p : Nat → Bool} {i : Nat} (h : p i = true) : cntU p (i + 1) = cntU p i + 1 := by simp [cntU, h]
theorem cnt_f {p : Nat → Bool} {i : Nat} (h : ¬ p i = true) : cntU p (i + 1) = cntU p i := by simp [cntU, h]
/-- a loop that counts up: what holds at i, from what holds behind it -/
theorem loopUp {Q : Nat → Prop} (n : Nat) (h0 : Q n) (hs : ∀ i, i < n → Q (i + 1) → Q i) : ∀ i, i ≤ n → Q i := by
  intro i hi
  obtain ⟨m, rfl⟩ := Nat.exists_eq_add_of_le hi
  clear hi
  induction m generalizing i with
  | zero => exact h0
  | succ m ih => exact hs i (by omega) (ih (i + 1) (by rw [show i + 1 + m = i + (m + 1) by omega]; exact h0) (by rw [show i + 1 + m = i + (m + 1) by omega]; exact hs))
/-! State: its row holds year, links, staff, credit, got, taken, and the links by columns -/
/-- the State object at a has its row at b -/
def isSt (μ : Hp) (a b : Nat) : Prop := hS μ a = some (12, 4) ∧ hR μ a 0 = some b ∧ hS μ b = some (0, 112)
def lkP (f : Nat → Int32) (s a b : Int32) (k : Nat) : Bool := decide (f (32 + k) = s ∧ f (48 + k) = a ∧ f (64 + k) = b)
theorem c_linkOf {d : Nat} {ro : Nat → Nat} {μ : Hp} {a0 row n : Nat} {s a b : Int32} (hst : isSt μ a0 row) (hn : hI μ row 1 = nI n) (hn16 : n ≤ 16) :
    xC d yX8_linkOf cX8_linkOf 5 (some .int) 0 0 [.ref a0, .int s, .int a, .int b] μ ro (fun r μ' => r = some (.int (oI (fstP (lkP (hI μ row) s a b) 0 n))) ∧ μ' = μ) := by
  obtain ⟨hs0, hr0, hs1⟩ := hst
  refine I_X8_linkOf (fun J g hr => B_X8_linkOf_0 g hr ?_)
  have key : ∀ m i, i + m = n → fstP (lkP (hI μ row) s a b) i m = fstP (lkP (hI μ row) s a b) 0 n → J μ 0 0 3 [(0, .ref a0), (1, .int s), (2, .int a), (3, .int b), (4, .int (nI i))] [] := by
    intro m
    induction m with
    | zero =>
      intro i hi he
      have hin : i = n := by omega
      subst hin
      refine B_X8_linkOf_3 g hr hs0 hr0 hs1 ⟨lit_in 1 (by omega) (by omega), fun _ => ⟨?_, rfl⟩, fun h => absurd ?_ h⟩
      · rw [← he]; rfl
      · rw [hn]; exact Int32.le_refl _
    | succ m ih =>
      intro i hi he
      have e1 : ((32 : Int32) + nI i).toNatClampNeg = 32 + i := off_cl 32 (by omega)
      have e2 : ((48 : Int32) + nI i).toNatClampNeg = 48 + i := off_cl 48 (by omega)
      have e3 : ((64 : Int32) + nI i).toNatClampNeg = 64 + i := off_cl 64 (by omega)
      have nx : ¬ lkP (hI μ row) s a b i = true → J μ 0 0 3 [(0, .ref a0), (1, .int s), (2, .int a), (3, .int b), (4, .int (nI i + 1))] [] := by
        intro hf
        have := ih (i + 1) (by omega) (by rw [← he, fstP_f hf])
        rw [← nI_1] at this
        exact this
      refine B_X8_linkOf_3 g hr hs0 hr0 hs1 ⟨lit_in 1 (by omega) (by omega), fun h => ?_, fun _ => ⟨off_in 32 (by omega) (by omega), ?_⟩⟩
      · rw [hn] at h
        exact absurd h (nI_ge (by omega) (by omega))
      · rw [e1]
        refine ⟨fun h => nx (by simp [lkP, h]), fun h1 => ⟨off_in 48 (by omega) (by omega), ?_⟩⟩
        rw [e2]
        refine ⟨fun h => nx (by simp [lkP, h]), fun h2 => ⟨off_in 64 (by omega) (by omega), ?_⟩⟩
        rw [e3]
        refine ⟨fun h => nx (by simp [lkP, h]), fun h3 => ⟨?_, rfl⟩⟩
        rw [← he, fstP_t (by simp [lkP, h1, h2, h3])]
        rfl
  exact key n 0 (by omega) rfl
/-! rows as wholes -/
theorem va_up_up {α : Type} (f : Nat → α) (a : Nat) (x y : α) : va_up (va_up f a x) a y = va_up f a y := by
  funext j
  by_cases h : j = a <;> simp [va_up, h]
theorem va_up_id {α : Type} (f : Nat → α) (a : Nat) : va_up f a (f a) = f := by
  funext j
  by_cases h : j = a <;> simp [va_up, h]
theorem hI_wRow_s (μ : Hp) (a : Nat) (f : Nat → Int32) : hI (wRow μ a f) a = f := va_up_self _ _ _
theorem hI_wRow_n (μ : Hp) {a b : Nat} (f : Nat → Int32) (h : b ≠ a) : hI (wRow μ a f) b = hI μ b := va_up_ne _ _ h
theorem wI_eq (μ : Hp) (a k : Nat) (x : Int32) : wI μ a k x = wRow μ a (upd (hI μ a) k x) := rfl
theorem wRow_wRow (μ : Hp) (a : Nat) (f g : Nat → Int32) : wRow (wRow μ a f) a g = wRow μ a g := by
  show (va_up (va_up (hI μ) a f) a g, _, _, _) = (va_up (hI μ) a g, _, _, _)
  rw [va_up_up]
  rfl
theorem wI_wRow (μ : Hp) (a k : Nat) (f : Nat → Int32) (x : Int32) : wI (wRow μ a f) a k x = wRow μ a (upd f k x) := by rw [wI_eq, hI_wRow_s, wRow_wRow]
theorem wRow_id (μ : Hp) (a : Nat) : wRow μ a (hI μ a) = μ := by
  show (va_up (hI μ) a (hI μ a), hL μ, hR μ, hS μ) = μ
  rw [va_up_id]
  rfl
theorem hS_wRow (μ : Hp) (a : Nat) (f : Nat → Int32) : hS (wRow μ a f) = hS μ := rfl
theorem hR_wRow (μ : Hp) (a : Nat) (f : Nat → Int32) : hR (wRow μ a f) = hR μ := rfl
theorem hL_wRow (μ : Hp) (a : Nat) (f : Nat → Int32) : hL (wRow μ a f) = hL μ := rfl
theorem isSt.row {μ : Hp} {a b c : Nat} {f : Nat → Int32} (h : isSt μ a b) : isSt (wRow μ c f) a b := h
/-! State's other methods -/
theorem c_hasLink {d : Nat} {ro : Nat → Nat} {μ : Hp} {a0 row n : Nat} {x : Int32} (hst : isSt μ a0 row) (hn : hI μ row 1 = nI n) :
    xC d yX8_hasLink cX8_hasLink 2 (some .boolean) 0 0 [.ref a0, .int x] μ ro (fun r μ' => r = some (.int (if x < 0 ∨ nI n ≤ x then 0 else 1)) ∧ μ' = μ) := by
  obtain ⟨hs0, hr0, hs1⟩ := hst
  refine I_X8_hasLink (fun J g hr => B_X8_hasLink_0 g hr hs0 hr0 hs1 ⟨fun h => ⟨by simp [h], rfl⟩, fun h => ⟨lit_in 1 (by omega) (by omega), fun h2 => ⟨?_, rfl⟩, fun h2 => ⟨?_, rfl⟩⟩⟩)
  · rw [hn] at h2; simp [h2]
  · rw [hn] at h2; simp [h, h2]
theorem c_linksOf {d : Nat} {ro : Nat → Nat} {μ : Hp} {a0 row n : Nat} {x : Int32} (hst : isSt μ a0 row) (hn : hI μ row 1 = nI n) (hn16 : n ≤ 16) :
    xC d yX8_linksOf cX8_linksOf 4 (some .int) 0 0 [.ref a0, .int x] μ ro (fun r μ' => r = some (.int (nI (cntU (fun k => decide (hI μ row (48 + k) = x ∨ hI μ row (64 + k) = x)) n))) ∧ μ' = μ) := by
  obtain ⟨hs0, hr0, hs1⟩ := hst
  refine I_X8_linksOf (fun J g hr => B_X8_linksOf_0 g hr ?_)
  generalize hp : (fun k => decide (hI μ row (48 + k) = x ∨ hI μ row (64 + k) = x)) = p at hr
  have hpi : ∀ i, p i = true ↔ (hI μ row (48 + i) = x ∨ hI μ row (64 + i) = x) := fun i => by rw [← hp]; simp
  refine loopUp (Q := fun i => J μ 0 0 4 [(0, .ref a0), (1, .int x), (2, .int (nI (cntU p i))), (3, .int (nI i))] []) n ?_ (fun i hi ih => ?_) 0 (Nat.zero_le _)
  · refine B_X8_linksOf_4 g hr hs0 hr0 hs1 ⟨lit_in 1 (by omega) (by omega), fun _ => ⟨rfl, rfl⟩, fun h => absurd ?_ h⟩
    rw [hn]; exact Int32.le_refl _
  · have e2 : ((48 : Int32) + nI i).toNatClampNeg = 48 + i := off_cl 48 (by omega)
    have e3 : ((64 : Int32) + nI i).toNatClampNeg = 64 + i := off_cl 64 (by omega)
    refine B_X8_linksOf_4 g hr hs0 hr0 hs1 ⟨lit_in 1 (by omega) (by omega), fun h => ?_, fun _ => ⟨off_in 48 (by omega) (by omega), ?_⟩⟩
    · rw [hn] at h
      exact absurd h (nI_ge (by omega) (by omega))
    · rw [e2, e3]
      have yes : p i = true → J μ 0 0 4 [(0, .ref a0), (1, .int x), (2, .int (nI (cntU p i) + 1)), (3, .int (nI i + 1))] [] := fun h => by
        rw [nI_1, nI_1, ← cnt_t h]
        exact ih
      refine ⟨fun h => yes ((hpi i).mpr (Or.inl h)), fun h => ⟨off_in 64 (by omega) (by omega), fun h2 => ?_, fun h2 => yes ((hpi i).mpr (Or.inr h2))⟩⟩
      rw [Int32.add_zero, nI_1, ← cnt_f (p := p) (i := i) (by rw [hpi]; simp [h, h2])]
      exact ih
theorem c_laterLinks {d : Nat} {ro : Nat → Nat} {μ : Hp} {a0 row n : Nat} (hst : isSt μ a0 row) (hn : hI μ row 1 = nI n) (hn16 : n ≤ 16) :
    xC d yX8_laterLinks cX8_laterLinks 3 (some .int) 0 0 [.ref a0] μ ro (fun r μ' => r = some (.int (nI (cntU (fun k => decide (¬ hI μ row (96 + k) ≤ hI μ row 0)) n))) ∧ μ' = μ) := by
  obtain ⟨hs0, hr0, hs1⟩ := hst
  refine I_X8_laterLinks (fun J g hr => B_X8_laterLinks_0 g hr ?_)
  generalize hp : (fun k => decide (¬ hI μ row (96 + k) ≤ hI μ row 0)) = p at hr
  have hpi : ∀ i, p i = true ↔ ¬ hI μ row (96 + i) ≤ hI μ row 0 := fun i => by rw [← hp]; simp
  refine loopUp (Q := fun i => J μ 0 0 4 [(0, .ref a0), (1, .int (nI (cntU p i))), (2, .int (nI i))] []) n ?_ (fun i hi ih => ?_) 0 (Nat.zero_le _)
  · refine B_X8_laterLinks_4 g hr hs0 hr0 hs1 ⟨lit_in 1 (by omega) (by omega), fun _ => ⟨rfl, rfl⟩, fun h => absurd ?_ h⟩
    rw [hn]; exact Int32.le_refl _
  · have e2 : ((96 : Int32) + nI i).toNatClampNeg = 96 + i := off_cl 96 (by omega)
    refine B_X8_laterLinks_4 g hr hs0 hr0 hs1 ⟨lit_in 1 (by omega) (by omega), fun h => ?_, fun _ => ⟨off_in 96 (by omega) (by omega), lit_in 0 (by omega) (by omega), ?_⟩⟩
    · rw [hn] at h
      exact absurd h (nI_ge (by omega) (by omega))
    · rw [e2]
      refine ⟨fun h => ?_, fun h => ?_⟩
      · rw [Int32.add_zero, nI_1, ← cnt_f (p := p) (i := i) (by rw [hpi]; simp [h])]
        exact ih
      · rw [nI_1, nI_1, ← cnt_t ((hpi i).mpr h)]
        exact ih
def addF (f : Nat → Int32) (n : Nat) (s a b sh si : Int32) : Nat → Int32 := upd (upd (upd (upd (upd (upd f (32 + n) s) (48 + n) a) (64 + n) b) (80 + n) sh) (96 + n) si) 1 (nI (n + 1))
theorem c_addLink {d : Nat} {ro : Nat → Nat} {μ : Hp} {a0 row n : Nat} {s a b sh si : Int32} (hst : isSt μ a0 row) (hn : hI μ row 1 = nI n) (hn16 : n < 16) :
    xC d yX8_addLink cX8_addLink 7 none 0 0 [.ref a0, .int s, .int a, .int b, .int sh, .int si] μ ro (fun r μ' => r = none ∧ μ' = wRow μ row (addF (hI μ row) n s a b sh si)) := by
  obtain ⟨hs0, hr0, hs1⟩ := hst
  have e1 : ((32 : Int32) + nI n).toNatClampNeg = 32 + n := off_cl 32 (by omega)
  have e2 : ((48 : Int32) + nI n).toNatClampNeg = 48 + n := off_cl 48 (by omega)
  have e3 : ((64 : Int32) + nI n).toNatClampNeg = 64 + n := off_cl 64 (by omega)
  have e4 : ((80 : Int32) + nI n).toNatClampNeg = 80 + n := off_cl 80 (by omega)
  have e5 : ((96 : Int32) + nI n).toNatClampNeg = 96 + n := off_cl 96 (by omega)
  refine I_X8_addLink (fun J g hr => B_X8_addLink_0 g hr hs0 hr0 hs1 ?_)
  rw [hn, e1, e2, e3, e4, e5]
  refine ⟨lit_in 1 (by omega) (by omega), fun _ => ⟨off_in 32 (by omega) (by omega), off_in 48 (by omega) (by omega), off_in 64 (by omega) (by omega), off_in 80 (by omega) (by omega), off_in 96 (by omega) (by omega), rfl, ?_⟩, fun h => absurd (nI_lt (b := 16) hn16 (by omega)) h⟩
  rw [wI_eq μ, wI_wRow, wI_wRow, wI_wRow, wI_wRow, wI_wRow, nI_1]
  rfl
/-- the k-th of n links is gone, those behind it move up -/
def remF (f : Nat → Int32) (k n : Nat) (j : Nat) : Int32 := if j = 1 then nI (n - 1) else if 32 ≤ j ∧ j < 112 ∧ k ≤ (j - 32) % 16 ∧ (j - 32) % 16 + 1 < n then f (j + 1) else f j
def remG (f : Nat → Int32) (k i : Nat) (j : Nat) : Int32 := if 32 ≤ j ∧ j < 112 ∧ k ≤ (j - 32) % 16 ∧ (j - 32) % 16 < i then f (j + 1) else f j
theorem remG_up (f : Nat → Int32) (k i : Nat) (hk : k ≤ i) (hi : i < 15) : upd (upd (upd (upd (upd (remG f k i) (32 + i) (f (33 + i))) (48 + i) (f (49 + i))) (64 + i) (f (65 + i))) (80 + i) (f (81 + i))) (96 + i) (f (97 + i)) = remG f k (i + 1) := by
  funext j
  by_cases h5 : j = 96 + i
  · subst h5; rw [upd_s, remG, if_pos (by omega)]; congr 1; omega
  rw [upd_n _ h5]
  by_cases h4 : j = 80 + i
  · subst h4; rw [upd_s, remG, if_pos (by omega)]; congr 1; omega
  rw [upd_n _ h4]
  by_cases h3 : j = 64 + i
  · subst h3; rw [upd_s, remG, if_pos (by omega)]; congr 1; omega
  rw [upd_n _ h3]
  by_cases h2 : j = 48 + i
  · subst h2; rw [upd_s, remG, if_pos (by omega)]; congr 1; omega
  rw [upd_n _ h2]
  by_cases h1 : j = 32 + i
  · subst h1; rw [upd_s, remG, if_pos (by omega)]; congr 1; omega
  rw [upd_n _ h1]
  unfold remG
  by_cases hc : 32 ≤ j ∧ j < 112 ∧ k ≤ (j - 32) % 16 ∧ (j - 32) % 16 < i
  · rw [if_pos hc, if_pos (by omega)]
  · rw [if_neg hc, if_neg (by omega)]
theorem remG_at (f : Nat → Int32) {k i j : Nat} (h : (j - 32) % 16 ≥ i ∨ j < 32) : remG f k i j = f j := by
  unfold remG
  rw [if_neg (by omega)]
theorem c_removeLink {d : Nat} {ro : Nat → Nat} {μ : Hp} {a0 row n k : Nat} (hd : 1 ≤ d) (hst : isSt μ a0 row) (hn : hI μ row 1 = nI n) (hn16 : n ≤ 16) (hk : k < n) :
    xC d yX8_removeLink cX8_removeLink 3 none 0 0 [.ref a0, .int (nI k)] μ ro (fun r μ' => r = none ∧ μ' = wRow μ row (remF (hI μ row) k n)) := by
  obtain ⟨hs0, hr0, hs1⟩ := id hst
  refine I_X8_removeLink (fun J g hr => B_X8_removeLink_0 g hr hs0 hr0 hs1 hd ⟨fun h => absurd h (nI_pos (by omega)), fun _ => ⟨lit_in 1 (by omega) (by omega), fun h => ?_, fun _ => ?_⟩⟩)
  · rw [hn] at h
    exact absurd h (nI_ge hk (by omega))
  have key := loopUp (Q := fun i => k ≤ i → J (wRow μ row (remG (hI μ row) k i)) 0 0 11 [(0, .ref a0), (2, .int (nI i))] []) (n - 1) ?_ (fun i hi ih hki => ?_) k (by omega) (Nat.le_refl _)
  · rw [show wRow μ row (remG (hI μ row) k k) = μ by
      rw [show remG (hI μ row) k k = hI μ row from funext fun j => by unfold remG; rw [if_neg (by omega)]]
      exact wRow_id _ _] at key
    exact key
  · intro _
    refine B_X8_removeLink_11 g hr hs0 hr0 hs1 ?_
    rw [hI_wRow_s, remG_at _ (Or.inr (by omega)), hn]
    refine ⟨lit_in 1 (by omega) (by omega), fun _ => ⟨rfl, ?_⟩, fun h => absurd (by rw [nI_1, show n - 1 + 1 = n by omega]; exact Int32.le_refl _) h⟩
    rw [wI_wRow, show nI n - 1 = nI (n - 1) by rw [show n = (n - 1) + 1 by omega]; exact nI_pred _]
    congr 1
    funext j
    by_cases h1 : j = 1
    · subst h1; rw [upd_s]; rfl
    · rw [upd_n _ h1]
      unfold remG remF
      rw [if_neg h1]
      by_cases hc : 32 ≤ j ∧ j < 112 ∧ k ≤ (j - 32) % 16 ∧ (j - 32) % 16 + 1 < n
      · rw [if_pos hc, if_pos (by omega)]
      · rw [if_neg hc, if_neg (by omega)]
  · refine B_X8_removeLink_11 g hr hs0 hr0 hs1 ?_
    have e32 : ((32 : Int32) + nI i).toNatClampNeg = 32 + i := off_cl 32 (by omega)
    have q32 : ((32 : Int32) + nI i) + 1 = nI (33 + i) := by rw [show ((32 : Int32) + nI i) = nI (32 + i) from i_off 32 i, nI_1]; congr 1; omega
    have f32 : (((32 : Int32) + nI i) + 1).toNatClampNeg = 33 + i := by rw [q32]; exact nI_clamp (by omega)
    have g32 : vp_in (((32 : Int32) + nI i) + 1) 112 := by rw [q32]; exact vp_in_nI (by omega) (by omega)
    have e48 : ((48 : Int32) + nI i).toNatClampNeg = 48 + i := off_cl 48 (by omega)
    have q48 : ((48 : Int32) + nI i) + 1 = nI (49 + i) := by rw [show ((48 : Int32) + nI i) = nI (48 + i) from i_off 48 i, nI_1]; congr 1; omega
    have f48 : (((48 : Int32) + nI i) + 1).toNatClampNeg = 49 + i := by rw [q48]; exact nI_clamp (by omega)
    have g48 : vp_in (((48 : Int32) + nI i) + 1) 112 := by rw [q48]; exact vp_in_nI (by omega) (by omega)
    have e64 : ((64 : Int32) + nI i).toNatClampNeg = 64 + i := off_cl 64 (by omega)
    have q64 : ((64 : Int32) + nI i) + 1 = nI (65 + i) := by rw [show ((64 : Int32) + nI i) = nI (64 + i) from i_off 64 i, nI_1]; congr 1; omega
    have f64 : (((64 : Int32) + nI i) + 1).toNatClampNeg = 65 + i := by rw [q64]; exact nI_clamp (by omega)
    have g64 : vp_in (((64 : Int32) + nI i) + 1) 112 := by rw [q64]; exact vp_in_nI (by omega) (by omega)
    have e80 : ((80 : Int32) + nI i).toNatClampNeg = 80 + i := off_cl 80 (by omega)
    have q80 : ((80 : Int32) + nI i) + 1 = nI (81 + i) := by rw [show ((80 : Int32) + nI i) = nI (80 + i) from i_off 80 i, nI_1]; congr 1; omega
    have f80 : (((80 : Int32) + nI i) + 1).toNatClampNeg = 81 + i := by rw [q80]; exact nI_clamp (by omega)
    have g80 : vp_in (((80 : Int32) + nI i) + 1) 112 := by rw [q80]; exact vp_in_nI (by omega) (by omega)
    have e96 : ((96 : Int32) + nI i).toNatClampNeg = 96 + i := off_cl 96 (by omega)
    have q96 : ((96 : Int32) + nI i) + 1 = nI (97 + i) := by rw [show ((96 : Int32) + nI i) = nI (96 + i) from i_off 96 i, nI_1]; congr 1; omega
    have f96 : (((96 : Int32) + nI i) + 1).toNatClampNeg = 97 + i := by rw [q96]; exact nI_clamp (by omega)
    have g96 : vp_in (((96 : Int32) + nI i) + 1) 112 := by rw [q96]; exact vp_in_nI (by omega) (by omega)
    rw [hI_wRow_s, remG_at _ (Or.inr (by omega)), hn, e32, f32, e48, f48, e64, f64, e80, f80, e96, f96]
    refine ⟨lit_in 1 (by omega) (by omega), fun h => ?_, fun _ => ⟨g32, off_in 32 (by omega) (by omega), g48, fun v6 e6 => ⟨off_in 48 (by omega) (by omega), g64, fun v9 e9 => ⟨off_in 64 (by omega) (by omega), g80, fun v12 e12 => ⟨off_in 80 (by omega) (by omega), g96, fun v15 e15 => ⟨off_in 96 (by omega) (by omega), ?_⟩⟩⟩⟩⟩⟩
    · rw [nI_1] at h
      exact absurd h (nI_ge (by omega) (by omega))
    have r : ∀ j, (j - 32) % 16 ≥ i → remG (hI μ row) k i j = hI μ row j := fun j h => remG_at _ (Or.inl h)
    rw [wI_wRow, hI_wRow_s, upd_n _ (by omega), r _ (by omega)] at e6
    rw [wI_wRow, wI_wRow, hI_wRow_s, upd_n _ (by omega), upd_n _ (by omega), r _ (by omega)] at e9
    rw [wI_wRow, wI_wRow, wI_wRow, hI_wRow_s, upd_n _ (by omega), upd_n _ (by omega), upd_n _ (by omega), r _ (by omega)] at e12
    rw [wI_wRow, wI_wRow, wI_wRow, wI_wRow, hI_wRow_s, upd_n _ (by omega), upd_n _ (by omega), upd_n _ (by omega), upd_n _ (by omega), r _ (by omega)] at e15
    rw [wI_wRow, wI_wRow, wI_wRow, wI_wRow, wI_wRow, e6, e9, e12, e15, r (33 + i) (by omega), remG_up _ _ _ hki (by omega), nI_1]
    exact ih (by omega)
/-- sums and the first of the most -/
theorem c_sum {d : Nat} {ro : Nat → Nat} {μ : Hp} {a0 row at_ c : Nat} (hst : isSt μ a0 row) (hc : at_ + c ≤ 112) :
    xC d yX8_sum cX8_sum 5 (some .int) 0 0 [.ref a0, .int (nI at_), .int (nI c)] μ ro (fun r μ' => r = some (.int (sumU (fun i => hI μ row (at_ + i)) c)) ∧ μ' = μ) := by
  obtain ⟨hs0, hr0, hs1⟩ := hst
  refine I_X8_sum (fun J g hr => B_X8_sum_0 g hr ?_)
  refine loopUp (Q := fun i => J μ 0 0 5 [(0, .ref a0), (1, .int (nI at_)), (2, .int (nI c)), (3, .int (sumU (fun i => hI μ row (at_ + i)) i)), (4, .int (nI i))] []) c ?_ (fun i hi ih => ?_) 0 (Nat.zero_le _)
  · exact B_X8_sum_5 g hr hs0 hr0 hs1 ⟨fun _ => ⟨rfl, rfl⟩, fun h => absurd (Int32.le_refl _) h⟩
  · refine B_X8_sum_5 g hr hs0 hr0 hs1 ⟨fun h => absurd h (nI_ge (by omega) (by omega)), fun _ => ?_⟩
    rw [nI_add, nI_clamp (by omega), nI_1]
    exact ⟨vp_in_nI (by omega) (by omega), ih⟩
def fomU (g : Nat → Int32) : Nat → Nat
  | 0 => 0
  | i + 1 => if g (i + 1) ≤ g (fomU g i) then fomU g i else i + 1
theorem fomU_le (g : Nat → Int32) : ∀ i, fomU g i ≤ i
  | 0 => Nat.le_refl _
  | i + 1 => by
    have := fomU_le g i
    unfold fomU
    split <;> omega
theorem c_firstOfMost {d : Nat} {ro : Nat → Nat} {μ : Hp} {a0 row at_ c : Nat} (hst : isSt μ a0 row) (hc : at_ + c ≤ 112) (hc1 : 1 ≤ c) :
    xC d yX8_firstOfMost cX8_firstOfMost 5 (some .int) 0 0 [.ref a0, .int (nI at_), .int (nI c)] μ ro (fun r μ' => r = some (.int (nI (fomU (fun i => hI μ row (at_ + i)) (c - 1)))) ∧ μ' = μ) := by
  obtain ⟨hs0, hr0, hs1⟩ := hst
  refine I_X8_firstOfMost (fun J g hr => B_X8_firstOfMost_0 g hr ?_)
  generalize hG : (fun i => hI μ row (at_ + i)) = G at hr
  have hGi : ∀ j, G j = hI μ row (at_ + j) := fun j => by rw [← hG]
  refine loopUp (Q := fun i => J μ 0 0 5 [(0, .ref a0), (1, .int (nI at_)), (2, .int (nI c)), (3, .int (nI (fomU G i))), (4, .int (nI (i + 1)))] []) (c - 1) ?_ (fun i hi ih => ?_) 0 (Nat.zero_le _)
  · refine B_X8_firstOfMost_5 g hr hs0 hr0 hs1 ⟨fun _ => ⟨rfl, rfl⟩, fun h => absurd ?_ h⟩
    rw [show c - 1 + 1 = c by omega]
    exact Int32.le_refl _
  · have hf := fomU_le G i
    refine B_X8_firstOfMost_5 g hr hs0 hr0 hs1 ⟨fun h => absurd h (nI_ge (by omega) (by omega)), fun _ => ?_⟩
    rw [nI_add, nI_add, nI_clamp (by omega), nI_clamp (by omega), nI_1]
    refine ⟨vp_in_nI (by omega) (by omega), vp_in_nI (by omega) (by omega), fun h => ?_, fun h => ?_⟩
    · rw [show fomU G (i + 1) = fomU G i by rw [fomU, if_pos (by rw [hGi, hGi]; exact h)]] at ih
      exact ih
    · rw [show fomU G (i + 1) = i + 1 by rw [fomU, if_neg (by rw [hGi, hGi]; exact h)]] at ih
      exact ih
def clrF (f : Nat → Int32) (j : Nat) : Int32 := if j = 0 then 50 else if j < 112 then 0 else f j
theorem c_clear {d : Nat} {ro : Nat → Nat} {μ : Hp} {a0 row : Nat} (hst : isSt μ a0 row) :
    xC d yX8_clear cX8_clear 2 none 0 0 [.ref a0] μ ro (fun r μ' => r = none ∧ μ' = wRow μ row (clrF (hI μ row))) := by
  obtain ⟨hs0, hr0, hs1⟩ := hst
  refine I_X8_clear (fun J g hr => B_X8_clear_0 g hr ?_)
  have key := loopUp (Q := fun i => J (wRow μ row (fun j => if j < i then 0 else hI μ row j)) 0 0 2 [(0, .ref a0), (1, .int (nI i))] []) 112 ?_ (fun i hi ih => ?_) 0 (Nat.zero_le _)
  · have e : wRow μ row (fun j => if j < 0 then 0 else hI μ row j) = μ := by
      rw [show (fun j => if j < 0 then 0 else hI μ row j) = hI μ row from funext fun j => by rw [if_neg (by omega)]]
      exact wRow_id _ _
    rw [e] at key
    exact key
  · refine B_X8_clear_2 g hr hs0 hr0 hs1 ⟨fun _ => ⟨lit_in 0 (by omega) (by omega), rfl, ?_⟩, fun h => absurd (Int32.le_refl (nI 112)) h⟩
    rw [wI_wRow]
    rfl
  · refine B_X8_clear_2 g hr hs0 hr0 hs1 ⟨fun h => absurd h (nI_ge (b := 112) hi (by omega)), fun _ => ⟨vp_in_nI hi (by omega), ?_⟩⟩
    rw [nI_clamp (by omega), wI_wRow, nI_1]
    rw [show upd (fun j => if j < i then 0 else hI μ row j) i 0 = (fun j => if j < i + 1 then 0 else hI μ row j) from funext fun j => by
      by_cases h : j = i
      · subst h; rw [upd_s, if_pos (by omega)]
      · rw [upd_n _ h]
        by_cases h2 : j < i
        · rw [if_pos h2, if_pos (by omega)]
        · rw [if_neg h2, if_neg (by omega)]]
    exact ih
theorem c_lapse {d : Nat} {ro : Nat → Nat} {μ : Hp} {a0 : Nat} {x y : Int32} (hs : hS μ a0 = some (12, 4)) :
    xC d yX8_lapse cX8_lapse 3 none 0 0 [.ref a0, .int x, .int y] μ ro (fun r μ' => r = none ∧ μ' = wI (wI μ a0 2 x) a0 3 y) :=
  I_X8_lapse (fun J g hr => B_X8_lapse_0 g hr hs ⟨rfl, rfl⟩)
theorem cpy0 {f g : Nat → Int32} {n : Nat} : va_cpy f g 0 0 n = fun j => if j < n then f j else g j := by
  funext j
  by_cases h : j < n
  · rw [if_pos h, pk_cpy_in (Nat.zero_le _) (by omega)]; congr 1; omega
  · rw [if_neg h, pk_cpy_out (Or.inr (by omega))]
theorem c_copyFrom {d : Nat} {ro : Nat → Nat} {μ : Hp} {a0 a1 r0 r1 bk : Nat} (hd : 1 ≤ d) (h0 : isSt μ a0 r0) (h1 : isSt μ a1 r1) (hb : hR μ a1 1 = some bk) :
    xC d yX8_copyFrom cX8_copyFrom 2 none 0 0 [.ref a0, .ref a1] μ ro (fun r μ' => r = none ∧ μ' = wI (wI (wR (wRow μ r0 (fun j => if j < 112 then hI μ r1 j else hI μ r0 j)) a0 1 (some bk)) a0 2 (-1)) a0 3 (-1)) := by
  refine I_X8_copyFrom (fun J g hr => B_X8_copyFrom_0 g hr h1.1 h1.2.1 h0.1 h0.2.1 h1.2.2 h0.2.2 hb hd ⟨⟨by decide, by decide, by decide, by decide, by decide⟩, xCall_of (c_lapse (d := d - 1) (by exact h0.1)) (by omega) ?_⟩)
  rintro r μ' ⟨rfl, rfl⟩
  exact ⟨rfl, rfl, by rw [cpy0]⟩
