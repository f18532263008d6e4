/-! the whole state of the model -/
def logM (g : Nat → Int32) (L : List Tri) : Prop := g 112 = nI (min L.length 60) ∧ ∀ i e, i < min L.length 60 → L[i]? = some e → g (113 + 3 * (min L.length 60 - 1 - i)) = e.1 ∧ g (113 + 3 * (min L.length 60 - 1 - i) + 1) = e.2.1 ∧ g (113 + 3 * (min L.length 60 - 1 - i) + 2) = e.2.2
def mRow (g f : Nat → Int32) (L : List Tri) : Prop := nrw g f ∧ logM g L
def codM (ns : List Nat) : Nat := ns.foldl (fun v x => v * 32 + x) 0
def mNm (μ : Hp) (X : Nat → Nat) (B : Bk) (nmL nmF : Nat → List Nat) : Prop := (∀ l, l < B.nl → hL μ (X 16) l = lN (codM (nmL l))) ∧ ∀ j, j < B.nf → hL μ (X 18) j = lN (codM (nmF j))
def mHs (μ : Hp) (m : Nat) (X : Nat → Nat) (H : List (Nat → Int32)) (L : List Tri) : Prop := hI μ m 35 = nI H.length ∧ ∃ fi, fi < 40 ∧ hI μ m 34 = nI fi ∧ ∀ i g, H[i]? = some g → mRow (fun j => hI μ (X 33) (293 * ((fi + H.length - 1 - i) % 40) + j)) g (L.drop (i + 1))
def mIm (μ : Hp) (m : Nat) (X : Nat → Nat) (im : Option ((Nat → Int32) × List Tri)) : Prop := hI μ m 36 = (if im = none then 0 else 1) ∧ ∀ q, im = some q → mRow (hI μ (X 32)) q.1 q.2
def byt (n : Nat) : Int32 := if n < 128 then nI n else nI n - 256
def mTp (μ : Hp) (m : Nat) (X : Nat → Nat) (len : Nat) (tp : Nat → Nat) : Prop := hI μ m 2 = nI len ∧ ∀ i, i < len → hI μ (X 1) i = byt (tp i)
def mSc (μ : Hp) (m : Nat) (X : Nat → Nat) (ns : Nat) (sl : Nat → Nat) (sr : Nat → Nat → Int32) : Prop := hI μ m 27 = nI ns ∧ ∀ k, k < ns → hI μ (X 29) k = nI (sl k) ∧ ∀ j, j < sl k * 5 → hI μ (X 28) (60 * k + j) = sr k j
def mRf (μ : Hp) (X : Nat → Nat) (rf : Nat → Int32) : Prop := ∀ i, i < 4 → hI μ (X 14) i = rf i
def mRest (μ : Hp) (m : Nat) (X : Nat → Nat) (S : St) : Prop := mNm μ X S.B S.nmL S.nmF ∧ mIm μ m X S.im ∧ mTp μ m X S.len S.tp ∧ mSc μ m X S.ns S.sl S.sr ∧ mRf μ X S.rf
def mR (μ : Hp) (m : Nat) (X : Nat → Nat) (S : St) : Prop := mQ μ m X S.B S.f ∧ logM (hI μ (X 30)) S.L ∧ mHs μ m X S.H S.L ∧ mRest μ m X S
theorem mRest.fr {μ μ' : Hp} {m : Nat} {X : Nat → Nat} {S : St} (h : mRest μ m X S) (hL' : hL μ' (X 16) = hL μ (X 16) ∧ hL μ' (X 18) = hL μ (X 18)) (hm : ∀ k, k = 2 ∨ k = 27 ∨ k = 36 → hI μ' m k = hI μ m k) (hx : ∀ i, i ∈ [1, 14, 28, 29, 32] → hI μ' (X i) = hI μ (X i)) : mRest μ' m X S := by
  obtain ⟨a1, a2, a3, a4, a5⟩ := h
  refine ⟨?_, ?_, ?_, ?_, ?_⟩
  · unfold mNm; rw [hL'.1, hL'.2]; exact a1
  · unfold mIm; rw [hm 36 (by decide), hx 32 (by decide)]; exact a2
  · unfold mTp; rw [hm 2 (by decide), hx 1 (by decide)]; exact a3
  · unfold mSc; rw [hm 27 (by decide), hx 29 (by decide), hx 28 (by decide)]; exact a4
  · unfold mRf; rw [hx 14 (by decide)]; exact a5
theorem mR.fr {μ μ' : Hp} {m : Nat} {X : Nat → Nat} {S : St} (h : mR μ m X S) (hF : mqFr m X μ μ') : mR μ' m X S := by
  obtain ⟨a1, a2, ⟨a3, fi, a4, a5, a6⟩, a7⟩ := h
  have h1 := a1.1.1
  have h2 := a1.1.2
  refine ⟨a1.fr hF, ?_, ⟨?_, fi, a4, ?_, ?_⟩, a7.fr ⟨by rw [hF.1.1], by rw [hF.1.1]⟩ (fun k hk => hF.2 k (by omega)) (fun i hi => ?_)⟩
  · rw [hF.o h1 h2 30]; exact a2
  · rw [hF.2 35 (by decide)]; exact a3
  · rw [hF.2 34 (by decide)]; exact a5
  · rw [hF.o h1 h2 33]; exact a6
  · simp only [List.mem_cons, List.not_mem_nil, or_false] at hi
    rcases hi with rfl | rfl | rfl | rfl | rfl
    · exact hF.o h1 h2 1
    · exact hF.o h1 h2 14
    · exact hF.o h1 h2 28
    · exact hF.o h1 h2 29
    · exact hF.o h1 h2 32
theorem in_m1 {x : Int32} {n : Nat} (c : ¬ x < 0) (hn : n < 2 ^ 31) : inN x n ↔ ¬ (nI n - 1 < x) := by
  obtain ⟨j, hj, rfl⟩ := nI_of c
  rcases Nat.eq_zero_or_pos n with e | e
  · subst e
    refine ⟨fun q => ?_, fun q => absurd ?_ q⟩
    · have := (q.ex (by omega)).2; omega
    · exact Int32.lt_of_lt_of_le (by decide) (nI_pos' hj)
  · rw [show nI n - 1 = nI (n - 1) by rw [show n = (n - 1) + 1 by omega]; exact nI_pred _]
    refine ⟨fun q => ?_, fun q => ?_⟩
    · have := (q.ex (by omega)).2
      rw [cl_nI hj] at this
      exact nI_nlt (by omega) (by omega)
    · refine ⟨c, fun q' => q ?_⟩
      rcases Nat.lt_or_ge j n with l | l
      · exact absurd q' (nI_ge l (by omega))
      · exact nI_lt (by omega) (by omega)
