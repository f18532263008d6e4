/-! step, name, treaty, all of the class -/
section cq6
variable {d : Nat} {ro : Nat → Nat} {μ : Hp} {A : Nat → Nat} {S : St}
theorem cSh.scr {μ : Hp} {A : Nat → Nat} (h : cSh μ A) {k : Nat} (hk : k < 5) : hR μ (A 3) k = some (A (4 + k)) ∧ hS μ (A (4 + k)) = some (11, 2) ∧ hR μ (A (4 + k)) 0 = some (A (9 + k)) ∧ hS μ (A (9 + k)) = some (0, 60) := by
  have : k = 0 ∨ k = 1 ∨ k = 2 ∨ k = 3 ∨ k = 4 := by omega
  rcases this with rfl | rfl | rfl | rfl | rfl
  · exact ⟨h.r 3 0 4, h.s 4 11 2, h.r 4 0 9, h.s 9 0 60⟩
  · exact ⟨h.r 3 1 5, h.s 5 11 2, h.r 5 0 10, h.s 10 0 60⟩
  · exact ⟨h.r 3 2 6, h.s 6 11 2, h.r 6 0 11, h.s 11 0 60⟩
  · exact ⟨h.r 3 3 7, h.s 7 11 2, h.r 7 0 12, h.s 12 0 60⟩
  · exact ⟨h.r 3 4 8, h.s 8 11 2, h.r 8 0 13, h.s 13 0 60⟩
theorem c_step {k i x : Int32} (hd : 1 ≤ d) (h : cR μ A S) : xC d yX11_step cX11_step 4 (some .int) 0 0 [.ref (A 0), .int k, .int i, .int x] μ ro (fun r μ' => qFr A μ μ' ∧ r = some (.int (aStep S k i x))) := by
  obtain ⟨h1, -, -, -, -, -, ⟨hs, hs4, hsc⟩, -⟩ := h
  have hsh := h1.1.1
  unfold aStep
  refine I_X11_step (fun J g hr => B_X11_step_0 g hr (hsh.s 0 14 18) (hsh.r 0 1 3) (hsh.s 3 3 5) hd ?_)
  rw [hs]
  refine ⟨fun c => ⟨qFr.rf, by rw [if_neg (fun q => q.1.1 c)]⟩, fun c1 => ⟨fun c => ⟨qFr.rf, by rw [if_neg (fun q => q.1.2 c)]⟩, fun c2 => ?_⟩⟩
  have hk : inN k S.ns := ⟨c1, c2⟩
  obtain ⟨e1, k1⟩ := hk.ex (by omega)
  obtain ⟨g1, g2, g3, g4⟩ := hsh.scr (k := cl k) (by omega)
  obtain ⟨s1, s2, s3⟩ := hsc (cl k) k1
  refine ⟨fun c => ⟨qFr.rf, by rw [if_neg (fun q => q.2.1.1 c)]⟩, fun c3 => ⟨by rw [e1]; exact vp_in_nI (by omega) (by omega), _, g1, g2, ?_⟩⟩
  rw [s1]
  refine ⟨fun c => ⟨qFr.rf, by rw [if_neg (fun q => q.2.1.2 c)]⟩, fun c4 => ⟨fun c => ⟨qFr.rf, by rw [if_neg (fun q => q.2.2.1 c)]⟩, fun c5 => ⟨fun c6 => ?_, fun c => ⟨qFr.rf, by rw [if_neg (fun q => c q.2.2.2)]⟩⟩⟩⟩
  have hi : inN i (S.sl (cl k)) := ⟨c3, c4⟩
  obtain ⟨e2, k2⟩ := hi.ex (by omega)
  have hx : inN x 5 := ⟨c5, Int32.not_le.mpr c6⟩
  obtain ⟨e3, k3⟩ := hx.ex (by omega)
  rw [if_pos ⟨hk, hi, c5, c6⟩]
  have e5 : i * 5 + x = nI (cl i * 5 + cl x) := by
    have := m5 (cl i) (cl x)
    rw [← e2, ← e3] at this
    exact this
  rw [e5, nI_clamp (by omega)]
  exact ⟨_, g1, g2, _, g3, _, g4, vp_in_nI (by omega) (by omega), qFr.rf, by rw [s3 _ (by omega)]⟩
theorem c_name {s k i : Int32} (hd : 2 ≤ d) (h : cR μ A S) : xC d yX11_name cX11_name 4 (some .int) 0 0 [.ref (A 0), .int s, .int k, .int i] μ ro (fun r μ' => qFr A μ μ' ∧ r = some (.int (aName S s k i))) := by
  obtain ⟨h1, ⟨hnl, hnf⟩, -⟩ := h
  have hsh := h1.1.1
  have hB := h1.2.2.2.1.1.1
  unfold aName
  refine I_X11_name (fun J g hr => B_X11_name_0 g hr (hsh.s 0 14 18) (hsh.r 0 13 39) (hsh.s 39 6 9) (hsh.r 39 1 41) (hsh.s 41 2 8) (hsh.r 39 0 40) (hsh.s 40 2 6) (by omega) ?_)
  rw [h1.2.1.1, h1.2.1.2.1]
  refine ⟨fun c => ⟨qFr.rf, by rw [if_neg (fun q => q.1 c)]⟩, fun c1 => ⟨fun c2 => ?_, fun c => ⟨qFr.rf, by rw [if_neg (fun q => c q.2)]⟩⟩⟩
  have hi : inN i 8 := ⟨c1, Int32.not_le.mpr c2⟩
  obtain ⟨e3, k3⟩ := hi.ex (by omega)
  rw [if_pos ⟨c1, c2⟩]
  have fin : s = 1 → inN k S.B.nf → vp_in k 8 ∧ xCall d yX6_letterOf cX6_letterOf 4 (some .int) [.long (hL μ (A 41) k.toNatClampNeg), .int i] μ ro (fun r μ' => ∃ y : Int32, r = some (.int y) ∧ qFr A μ μ' ∧ some (Value.int y) = some (Value.int (if s = 0 ∧ inN k S.B.nl then ltAt (S.nmL (cl k)) (cl i) else if s = 1 ∧ inN k S.B.nf then ltAt (S.nmF (cl k)) (cl i) else -1))) := fun hs hk => by
    obtain ⟨e2, k2⟩ := hk.ex (by omega)
    obtain ⟨o1, o2⟩ := hnf _ k2
    refine ⟨by rw [e2]; exact vp_in_nI (by omega) (by omega), ?_⟩
    have key := c_letterOf (ro := ro) (d := d - 1) (μ := μ) (i := cl i) o1 k3
    rw [← e3] at key
    rw [show k.toNatClampNeg = cl k from rfl, o2]
    refine xCall_of key (by omega) ?_
    rintro r μ ⟨rfl, rfl⟩
    exact ⟨_, rfl, qFr.rf, by rw [if_neg (by rw [hs]; exact fun q => absurd q.1 (by decide)), if_pos ⟨hs, hk⟩]⟩
  refine ⟨fun n0 => ⟨fun n1 => ⟨qFr.rf, by rw [if_neg (fun q => n0 q.1), if_neg (fun q => n1 q.1)]⟩, fun y1 => ⟨fun c => ⟨qFr.rf, by rw [if_neg (fun q => n0 q.1), if_neg (fun q => q.2.1 c)]⟩, fun c3 => ⟨fun c => ⟨qFr.rf, by rw [if_neg (fun q => n0 q.1), if_neg (fun q => q.2.2 c)]⟩, fun c4 => fin y1 ⟨c3, c4⟩⟩⟩⟩, fun y0 => ?_⟩
  have n1 : ¬ s = 1 := by rw [y0]; decide
  refine ⟨fun c => ⟨fun _ => ⟨qFr.rf, by rw [if_neg (fun q => q.2.1 c), if_neg (fun q => n1 q.1)]⟩, fun q => absurd q n1⟩, fun c3 => ⟨fun c => ⟨fun _ => ⟨qFr.rf, by rw [if_neg (fun q => q.2.2 c), if_neg (fun q => n1 q.1)]⟩, fun q => absurd q n1⟩, fun c4 => ?_⟩⟩
  have hk : inN k S.B.nl := ⟨c3, c4⟩
  obtain ⟨e2, k2⟩ := hk.ex (by omega)
  obtain ⟨o1, o2⟩ := hnl _ k2
  refine ⟨by rw [e2]; exact vp_in_nI (by omega) (by omega), ?_⟩
  have key := c_letterOf (ro := ro) (d := d - 1) (μ := μ) (i := cl i) o1 k3
  rw [← e3] at key
  rw [show k.toNatClampNeg = cl k from rfl, o2]
  refine xCall_of key (by omega) ?_
  rintro r μ ⟨rfl, rfl⟩
  exact ⟨_, rfl, qFr.rf, by rw [if_pos ⟨y0, hk⟩]⟩
theorem tAf_no {tr : Nat → Int32} {nt l m : Nat} {y : Int32} (hl : l < 2 ^ 31) (hm : m < 2 ^ 31) : tAf tr nt y (-1) (-1) l m = trR (fun t => tr (120 + t)) (trF (fun t => tr (96 + t)) (fun t => tr (108 + t)) (fun t => tr (0 + t)) (nI l) (nI m) y nt) := by
  unfold tAf tAx
  have : ¬ lapB (-1) (-1) l m = true := by
    unfold lapB
    have h : ¬ nI l = -1 := oI_ne (k := l) (by omega)
    simp [h]
  rw [if_neg this]
theorem c_treaty {B : Bk} {f : Nat → Int32} {l o y x : Int32} (hd : 2 ≤ d) (h : cQ μ A B f) : xC d yX11_treaty cX11_treaty 6 (some .int) 0 0 [.ref (A 0), .int l, .int o, .int y, .int x] μ ro (fun r μ' => qFr A μ μ' ∧ r = some (.int (aTreaty B l o y x))) := by
  have hsh := h.1.1
  have hB := h.2.2.2.1.1.1
  unfold aTreaty
  refine I_X11_treaty (fun J g hr => B_X11_treaty_0 g hr (hsh.s 0 14 18) (hsh.r 0 13 39) (hsh.s 39 6 9) (by omega) ?_)
  rw [h.2.1.1]
  refine ⟨fun c => ⟨qFr.rf, by rw [if_neg (fun q => q.1.1 c)]⟩, fun c1 => ⟨fun c => ⟨qFr.rf, by rw [if_neg (fun q => q.1.2 c)]⟩, fun c2 => ⟨fun c => ⟨qFr.rf, by rw [if_neg (fun q => q.2.1.1 c)]⟩, fun c3 => ⟨fun c => ⟨qFr.rf, by rw [if_neg (fun q => q.2.1.2 c)]⟩, fun c4 => ⟨fun c => ⟨qFr.rf, by rw [if_neg (fun q => q.2.2.1.1 c)]⟩, fun c5 => ⟨fun c => ⟨qFr.rf, by rw [if_neg (fun q => q.2.2.1.2 c)]⟩, fun c6 => ⟨fun c => ⟨qFr.rf, by rw [if_neg (fun q => q.2.2.2.1 c)]⟩, fun c7 => ⟨fun c8 => ?_, fun c => ⟨qFr.rf, by rw [if_neg (fun q => c q.2.2.2.2)]⟩⟩⟩⟩⟩⟩⟩⟩⟩
  rw [if_pos ⟨⟨c1, c2⟩, ⟨c3, c4⟩, ⟨c5, c6⟩, c7, c8⟩]
  obtain ⟨e1, k1⟩ := inN.ex (n := B.nl) ⟨c1, c2⟩ (by omega)
  obtain ⟨e2, k2⟩ := inN.ex (n := B.nl) ⟨c3, c4⟩ (by omega)
  have hx : inN x 8 := ⟨c7, Int32.not_le.mpr c8⟩
  obtain ⟨e3, k3⟩ := hx.ex (by omega)
  refine xCall_of (c_treatyOf (d := d - 1) (n := B.nt) hsh.bk h.2.1.2.2 hB.2.2) (by omega) ?_
  rintro r μ ⟨rfl, rfl⟩
  rw [h.2.2.1.2.2]
  have et : trR (fun t => B.tr (120 + t)) (trF (fun t => B.tr (96 + t)) (fun t => B.tr (108 + t)) (fun t => B.tr (0 + t)) l o y B.nt) = tAf B.tr B.nt y (-1) (-1) (cl l) (cl o) := by
    rw [tAf_no (by omega) (by omega), ← e1, ← e2]
  rw [et]
  cases ht : tAf B.tr B.nt y (-1) (-1) (cl l) (cl o) with
  | none => exact ⟨_, rfl, fun c => absurd rfl c, fun _ => ⟨qFr.rf, rfl⟩⟩
  | some t =>
    have htn := tAf_lt ht
    refine ⟨_, rfl, fun _ => ⟨hsh.s 0 14 18, _, hsh.r 0 13 39, hsh.s 39 6 9, _, hsh.r 39 4 44, _, hsh.s 44 0 132, ?_⟩, fun c => absurd c (oI_ne (by omega))⟩
    have e : (0 : Int32) + x * 12 + oI (some t) = nI (12 * cl x + t) := by
      rw [e3, cl_nI (by omega), Int32.zero_add, show nI (cl x) * 12 = nI (cl x * 12) from pk_mul _ 12, show oI (some t) = nI t from rfl, nI_add, Nat.mul_comm]
    rw [e, nI_clamp (by omega), h.2.2.1.2.2]
    exact ⟨vp_in_nI (by omega) (by omega), qFr.rf, rfl⟩
/-- the pairs of lands, counted from the lower one and from the higher one -/
theorem cntU_ext {p q : Nat → Bool} : ∀ {n : Nat}, (∀ i, i < n → p i = q i) → cntU p n = cntU q n
  | 0, _ => rfl
  | n + 1, h => by rw [cntU, cntU, cntU_ext (fun i hi => h i (by omega)), h n (by omega)]
theorem cntU_0 {p : Nat → Bool} : ∀ {n : Nat}, (∀ i, i < n → p i = false) → cntU p n = 0
  | 0, _ => rfl
  | n + 1, h => by rw [cntU, cntU_0 (fun i hi => h i (by omega)), h n (by omega)]; rfl
theorem pairs {T : Nat → Nat → Bool} (hT : ∀ l m, T l m = T m l) : ∀ n, sumN (fun l => cntU (fun m => decide (l < m) && T l m) n) n = sumN (fun l => cntU (fun m => T l m) l) n
  | 0 => rfl
  | n + 1 => by
    have h1 : ∀ k, k ≤ n → sumN (fun l => cntU (fun m => decide (l < m) && T l m) (n + 1)) k = sumN (fun l => cntU (fun m => decide (l < m) && T l m) n) k + cntU (fun l => T l n) k := by
      intro k
      induction k with
      | zero => exact fun _ => rfl
      | succ k ih =>
        intro hk
        rw [sumN, sumN, ih (by omega), cntU, cntU]
        have : decide (k < n) = true := by simp; omega
        simp only [this, Bool.true_and]
        omega
    rw [sumN, sumN, h1 n (Nat.le_refl _), pairs hT n, cntU_0 (p := fun m => decide (n < m) && T n m) (n := n + 1) (fun i hi => by simp; omega)]
    rw [cntU_ext (p := fun l => T l n) (q := fun m => T n m) (fun i _ => hT i n)]
    rfl
theorem inFc_symm (B : Bk) (y : Int32) (l m : Nat) : inFc B y l m = inFc B y m l := by
  unfold inFc tAf
  rw [tAx_symm]
theorem cntU_le (p : Nat → Bool) : ∀ n, cntU p n ≤ n
  | 0 => Nat.le_refl _
  | n + 1 => by
    have := cntU_le p n
    rw [cntU]
    split <;> omega
theorem c_treatiesIn {B : Bk} {f : Nat → Int32} {y : Int32} (hd : 2 ≤ d) (h : cQ μ A B f) : xC d yX2_treatiesIn cX2_treatiesIn 5 (some .int) 0 0 [.ref (A 39), .int y] μ ro (fun r μ' => μ' = μ ∧ r = some (.int (nI (sumN (fun l => cntU (fun m => inFc B y l m) l) B.nl)))) := by
  have hsh := h.1.1
  have hB := h.2.2.2.1.1.1
  have hnl := h.2.1.1
  rw [← pairs (inFc_symm B y)]
  refine I_X2_treatiesIn (fun J g hr => B_X2_treatiesIn_0 g hr ?_)
  generalize hC : (fun l => cntU (fun m => decide (l < m) && inFc B y l m) B.nl) = C at hr
  refine loopUp (Q := fun l => J μ 0 0 4 [(0, .ref (A 39)), (1, .int y), (2, .int (nI (sumN C l))), (3, .int (nI l))] []) B.nl ?_ (fun l hl ih => ?_) 0 (Nat.zero_le _)
  · exact B_X2_treatiesIn_4 g hr (hsh.s 39 6 9) ⟨fun _ => ⟨rfl, rfl⟩, fun c => absurd (by rw [hnl]; exact Int32.le_refl _) c⟩
  · refine B_X2_treatiesIn_4 g hr (hsh.s 39 6 9) ⟨fun c => absurd c (by rw [hnl]; exact nI_ge hl (by omega)), fun _ => ?_⟩
    rw [nI_1]
    have key := loopUp (Q := fun m => l + 1 ≤ m → J μ 0 0 17 [(0, .ref (A 39)), (1, .int y), (2, .int (nI (sumN C l + cntU (fun m => decide (l < m) && inFc B y l m) m))), (3, .int (nI l)), (4, .int (nI m))] []) B.nl ?_ (fun m hm ih2 hlm => ?_) (l + 1) (by omega) (Nat.le_refl _)
    · rw [cntU_0 (fun i hi => by simp; omega), Nat.add_zero] at key
      exact key
    · intro _
      refine B_X2_treatiesIn_17 g hr (hsh.s 39 6 9) ⟨fun _ => ?_, fun c => absurd (by rw [hnl]; exact Int32.le_refl _) c⟩
      rw [nI_1]
      have e : sumN C l + cntU (fun m => decide (l < m) && inFc B y l m) B.nl = sumN C (l + 1) := by rw [sumN, ← hC]
      rw [e]
      exact ih
    · refine B_X2_treatiesIn_17 g hr (hsh.s 39 6 9) ⟨fun c => absurd c (by rw [hnl]; exact nI_ge hm (by omega)), fun _ => xCall_of (c_treatyOf (d := d - 1) (n := B.nt) hsh.bk h.2.1.2.2 hB.2.2) (by omega) ?_⟩
      rintro r μ ⟨rfl, rfl⟩
      rw [h.2.2.1.2.2, ← tAf_no (tr := B.tr) (by omega) (by omega), nI_1]
      have hlm' : decide (l < m) = true := by simp; omega
      cases ht : tAf B.tr B.nt y (-1) (-1) l m with
      | none =>
        refine ⟨_, rfl, fun c => absurd rfl c, fun _ => ?_⟩
        have := ih2 (by omega)
        rw [cnt_f (by simp [inFc, ht])] at this
        rw [Int32.add_zero, nI_1]
        exact this
      | some t =>
        have htn := tAf_lt ht
        refine ⟨_, rfl, fun _ => ?_, fun c => absurd c (oI_ne (by omega))⟩
        have := ih2 (by omega)
        rw [cnt_t (by simp [inFc, ht]; omega), ← Nat.add_assoc] at this
        rw [nI_1]
        exact this
theorem c_all {B : Bk} {f : Nat → Int32} {x : Int32} (hd : 4 ≤ d) (h : cQ μ A B f) : xC d yX11_all cX11_all 2 (some .int) 0 0 [.ref (A 0), .int x] μ ro (fun r μ' => qFr A μ μ' ∧ r = some (.int (aAll B f x))) := by
  have hsh := h.1.1
  have hB := h.2.2.2.1.1.1
  have hnl := h.2.1.1
  have hnf := h.2.1.2.1
  have hf := h.2.2.2.2.1.1
  have hrow := h.2.2.2.2.1.2.1
  have n16 := hrow.1.2.1
  refine I_X11_all (fun J g hr => B_X11_all_0 g hr (hsh.s 0 14 18) (hsh.r 0 13 39) (hsh.s 39 6 9) (hsh.r 0 10 33) (hsh.s 33 12 4) (hsh.r 33 0 34) (hsh.s 34 0 112) (by omega) ?_)
  rw [hnl, hnf, hf]
  refine pk_le B.nf 0 (fun c => ⟨qFr.rf, by unfold aAll; rw [if_pos (by omega)]⟩) (fun c0 => ?_)
  have n0 : ¬ B.nf = 0 := by omega
  unfold aAll
  rw [if_neg n0]
  refine ⟨fun c => ⟨qFr.rf, ?_⟩, fun c => ⟨lit_in 0 (by omega) (by omega), qFr.rf, by subst c; rfl⟩, fun c => xCall_of (c_sum (d := d - 1) (at_ := 10) (c := B.nf) hsh.st (by omega)) (by omega) ?_, fun c => xCall_of (c_sum (d := d - 1) (at_ := 26) (c := B.nl) hsh.st (by omega)) (by omega) ?_, fun c => xCall_of (c_sum (d := d - 1) (at_ := 18) (c := B.nf) hsh.st (by omega)) (by omega) ?_, fun c => ⟨lit_in 1 (by omega) (by omega), qFr.rf, by subst c; rfl⟩, fun c => ⟨lit_in 0 (by omega) (by omega), xCall_of (c_treatiesIn (d := d - 1) (by omega) h) (by omega) ?_⟩, fun c => xCall_of (c_firstOfMost (d := d - 1) (at_ := 2) (c := B.nf) hsh.st (by omega) (by omega)) (by omega) ?_, fun c => xCall_of (c_firstOfMost (d := d - 1) (at_ := 10) (c := B.nf) hsh.st (by omega) (by omega)) (by omega) ?_, fun c => xCall_of (c_laterLinks (d := d - 1) (n := cl (f 1)) hsh.st (by rw [hf]; exact hrow.1.1) n16) (by omega) ?_⟩
  · have n : ∀ k : Int32, k.toInt ≥ 0 → k.toInt ≤ 8 → ¬ x = k := fun k h1 h2 e => by subst e; omega
    rw [if_neg (n 0 (by decide) (by decide)), if_neg (n 1 (by decide) (by decide)), if_neg (n 2 (by decide) (by decide)), if_neg (n 3 (by decide) (by decide)), if_neg (n 4 (by decide) (by decide)), if_neg (n 5 (by decide) (by decide)), if_neg (n 6 (by decide) (by decide)), if_neg (n 7 (by decide) (by decide)), if_neg (n 8 (by decide) (by decide))]
  · rintro r μ ⟨rfl, rfl⟩; subst c; rw [hf]; exact ⟨_, rfl, qFr.rf, rfl⟩
  · rintro r μ ⟨rfl, rfl⟩; subst c; rw [hf]; exact ⟨_, rfl, qFr.rf, rfl⟩
  · rintro r μ ⟨rfl, rfl⟩; subst c; rw [hf]; exact ⟨_, rfl, qFr.rf, rfl⟩
  · rintro r μ ⟨rfl, rfl⟩; subst c; exact ⟨_, rfl, qFr.rf, rfl⟩
  · rintro r μ ⟨rfl, rfl⟩; subst c; rw [hf]; exact ⟨_, rfl, qFr.rf, rfl⟩
  · rintro r μ ⟨rfl, rfl⟩; subst c; rw [hf]; exact ⟨_, rfl, qFr.rf, rfl⟩
  · rintro r μ ⟨rfl, rfl⟩; subst c; rw [hf]; exact ⟨_, rfl, qFr.rf, rfl⟩
end cq6
