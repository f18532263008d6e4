/-! the model's queries -/
def nrw (g f : Nat → Int32) : Prop := rwL g f (cl (f 1)) ∧ g 30 = f 0 ∧ (∀ j, j < 8 → g (16 + j) = f (18 + j)) ∧ ∀ l, l < 6 → g (24 + l) = f (26 + l)
def mQ (μ : Hp) (m : Nat) (X : Nat → Nat) (B : Bk) (f : Nat → Int32) : Prop :=
  (mSh μ m X ∧ mInj X) ∧ mBk μ m X B.lw B.lo B.tr B.nl B.nf B.nt ∧ nrw (hI μ (X 30)) f ∧ (hI μ m 38 = -1 ∧ hI μ m 39 = -1 ∧ hI μ m 40 = -1) ∧ B.ok ∧ B.row f
def mqFr (m : Nat) (X : Nat → Nat) (μ μ' : Hp) : Prop := Fr [m, X 43, X 44, X 45, X 46, X 47, X 48, X 49, X 55, X 31, X 63] μ μ' ∧ ∀ k, k ≠ 0 ∧ k ≠ 37 ∧ k ≠ 64 ∧ (k < 41 ∨ 61 < k) → hI μ' m k = hI μ m k
theorem mqFr.rf {m : Nat} {X : Nat → Nat} {μ : Hp} : mqFr m X μ μ := ⟨Fr.rf, fun _ _ => rfl⟩
theorem mqFr.tt {m : Nat} {X : Nat → Nat} {μ μ1 μ2 : Hp} (h1 : mqFr m X μ μ1) (h2 : mqFr m X μ1 μ2) : mqFr m X μ μ2 := ⟨h1.1.tt h2.1, fun k hk => (h2.2 k hk).trans (h1.2 k hk)⟩
theorem mqFr.f {m : Nat} {X : Nat → Nat} {μ μ1 : Hp} (h : mqFr m X μ μ1) (k : Nat) (x : Int32) (hk : k = 0 ∨ k = 37 ∨ k = 64 ∨ (41 ≤ k ∧ k ≤ 61) := by decide) : mqFr m X μ (wI μ1 m k x) :=
  ⟨h.1.w1 (by simp), fun j hj => by rw [hI_wI_s, upd_n _ (by omega)]; exact h.2 j hj⟩
theorem mqFr.x {m : Nat} {X : Nat → Nat} {μ μ1 : Hp} (h : mqFr m X μ μ1) (hne : ∀ k, k ∈ mK → X k ≠ m) (i k : Nat) (x : Int32) (hk : i ∈ [43, 44, 45, 46, 47, 48, 49, 55, 31, 63] ∧ i ∈ mK := by decide) : mqFr m X μ (wI μ1 (X i) k x) :=
  ⟨h.1.w1 (by have h1 := hk.1; simp only [List.mem_cons, List.not_mem_nil, or_false] at h1 ⊢; rcases h1 with rfl | rfl | rfl | rfl | rfl | rfl | rfl | rfl | rfl | rfl <;> simp), fun j hj => by rw [hI_wI_n _ _ _ (Ne.symm (hne i hk.2))]; exact h.2 j hj⟩
theorem mqFr.w {m : Nat} {X : Nat → Nat} {μ μ1 : Hp} (h : mqFr m X μ μ1) (hne : ∀ k, k ∈ mK → X k ≠ m) (i : Nat) (g : Nat → Int32) (hk : i ∈ [43, 44, 45, 46, 47, 48, 49, 55, 31, 63] ∧ i ∈ mK := by decide) : mqFr m X μ (wRow μ1 (X i) g) :=
  ⟨h.1.w2 (by have h1 := hk.1; simp only [List.mem_cons, List.not_mem_nil, or_false] at h1 ⊢; rcases h1 with rfl | rfl | rfl | rfl | rfl | rfl | rfl | rfl | rfl | rfl <;> simp), fun j hj => by rw [hI_wRow_n _ _ (Ne.symm (hne i hk.2))]; exact h.2 j hj⟩
theorem mFr.q {m : Nat} {X : Nat → Nat} {μ μ1 : Hp} (h : mFr m X μ μ1) : mqFr m X μ μ1 := ⟨h.1.sub (fun a ha => by
  simp only [List.mem_cons, List.not_mem_nil, or_false] at ha ⊢
  rcases ha with rfl | rfl | rfl | rfl | rfl | rfl | rfl | rfl | rfl <;> simp), fun k hk => h.2 k (by omega)⟩
theorem mqFr.o {m : Nat} {X : Nat → Nat} {μ μ1 : Hp} (h : mqFr m X μ μ1) (hs : mSh μ m X) (hi : mInj X) (i : Nat) (hk : i ∈ mK ∧ i ∉ [43, 44, 45, 46, 47, 48, 49, 55, 31, 63] := by decide) : hI μ1 (X i) = hI μ (X i) := by
  refine h.1.2.2.2 _ ?_
  have hx : ∀ j, j ∈ [43, 44, 45, 46, 47, 48, 49, 55, 31, 63] → j ∈ mK → X i ≠ X j := fun j hj hj2 e => by
    have := hi i j hk.1 hj2 e
    subst this
    exact hk.2 hj
  simp only [List.mem_cons, List.not_mem_nil, or_false, not_or]
  exact ⟨hs.ne i hk.1, hx 43 (by decide) (by decide), hx 44 (by decide) (by decide), hx 45 (by decide) (by decide), hx 46 (by decide) (by decide), hx 47 (by decide) (by decide), hx 48 (by decide) (by decide), hx 49 (by decide) (by decide), hx 55 (by decide) (by decide), hx 31 (by decide) (by decide), hx 63 (by decide) (by decide)⟩
theorem mBk.fr {μ μ' : Hp} {m : Nat} {X : Nat → Nat} {lw lo tr : Nat → Int32} {nl nf nt : Nat} (h : mBk μ m X lw lo tr nl nf nt) (h0 : hI μ' m 20 = hI μ m 20 ∧ hI μ' m 22 = hI μ m 22 ∧ hI μ' m 24 = hI μ m 24) (h8 : hI μ' (X 8) = hI μ (X 8)) (h10 : hI μ' (X 10) = hI μ (X 10)) (h12 : hI μ' (X 12) = hI μ (X 12)) : mBk μ' m X lw lo tr nl nf nt := by
  unfold mBk at h ⊢
  rw [h0.1, h0.2.1, h0.2.2, h8, h10, h12]
  exact h
theorem mQ.fr {μ μ' : Hp} {m : Nat} {X : Nat → Nat} {B : Bk} {f : Nat → Int32} (h : mQ μ m X B f) (hF : mqFr m X μ μ') : mQ μ' m X B f := by
  obtain ⟨⟨h1, h2⟩, h3, h4, h5, h6⟩ := h
  refine ⟨⟨h1.of hF.1.2.2.1 hF.1.2.1, h2⟩, h3.fr ⟨hF.2 20 (by decide), hF.2 22 (by decide), hF.2 24 (by decide)⟩ (hF.o h1 h2 8) (hF.o h1 h2 10) (hF.o h1 h2 12), ?_, ?_, h6⟩
  · rw [hF.o h1 h2 30]; exact h4
  · rw [hF.2 38 (by decide), hF.2 39 (by decide), hF.2 40 (by decide)]; exact h5
theorem mSh.nn {μ : Hp} {m : Nat} {X : Nat → Nat} (h : mSh μ m X) : ∀ k, k ∈ mK → X k ≠ m := fun k hk => h.ne k hk
theorem tM_iff {M u v : Nat} {lv : Int32} (hM : (lv = -1 ∧ M = 0) ∨ ∃ k, k < 8 ∧ lv = nI k ∧ M = 2 ^ k) (hv : v < 8) : tM M u v = true ↔ (nI v = lv ∨ v = u) := by
  unfold tM
  rw [bit_T]
  simp only [addT, Bool.or_eq_true, beq_iff_eq]
  rcases hM with ⟨rfl, rfl⟩ | ⟨k, hk, rfl, rfl⟩
  · have : ¬ nI v = -1 := oI_ne (k := v) (by omega)
    simp [this]
  · have e : nI v = nI k ↔ v = k := ⟨fun q => by have := congrArg cl q; rw [cl_nI (by omega), cl_nI (by omega)] at this; exact this, fun q => by rw [q]⟩
    rw [e, Nat.testBit_two_pow]
    simp only [decide_eq_true_eq]
    constructor
    · rintro (q | q)
      · exact Or.inl q.symm
      · exact Or.inr q
    · rintro (q | q)
      · exact Or.inl q.symm
      · exact Or.inr q
section mq
variable {d : Nat} {ro : Nat → Nat} {μ : Hp} {m : Nat} {X : Nat → Nat} {B : Bk} {f : Nat → Int32} {s u t a : Int32}
/-- a search of the model -/
theorem q_ms {g : Nat → Int32} {wi M : Nat} {p q lv : Int32} {sp : Bool} (hd : 13 ≤ d) (hsh : mSh μ m X) (hi : mInj X) (hbk : mBk μ m X B.lw B.lo B.tr B.nl B.nf B.nt) (hB : B.ok) (hwi : wi = 30 ∨ wi = 31) (hg : rwL (hI μ (X wi)) g (cl (g 1))) (hrow : B.row g) (hy : hI μ m 37 = g 0) (hp : hI μ m 38 = p ∧ hI μ m 39 = q) (hlv : hI μ m 40 = lv) (hM : (lv = -1 ∧ M = 0) ∨ ∃ k, k < 8 ∧ lv = nI k ∧ M = 2 ^ k) (ha : asked B.nf s u t a) :
    xCall d yX12_searches cX12_searches 8 (some .boolean) [.ref m, .ref (X wi), .int s, .int u, .int t, .int a, .int (if sp = true then 1 else 0)] μ ro (fun r μ' => mFr m X μ μ' ∧ hI μ' m 54 = nI (waysD (B.D g p q s (cl t)) 5 (cl u) (tM M (cl u))).length ∧ r = some (.int (if wayOf B g p q sp s (cl u) (cl t) (cl a) M = none then 0 else 1)) ∧ ∀ w, wayOf B g p q sp s (cl u) (cl t) (cl a) M = some w → mFnd μ' m X (B.D g p q s (cl t)) (cl u) (cl a) w) := by
  have hnf := hB.1.1.2.1
  obtain ⟨⟨e1, k1⟩, ⟨e2, k2⟩, ⟨e3, k3⟩, -, e4, -, k4⟩ := ha.ex hnf
  have key := c_mSearches (ro := ro) (d := d - 1) (μ := μ) (m := m) (X := X) (wi := wi) (f := g) (lw := B.lw) (lo := B.lo) (tr := B.tr) (n := cl (g 1)) (nl := B.nl) (nf := B.nf) (nt := B.nt) (frm := cl u) (s := cl s) (ow := cl t) (amt := cl a) (p := p) (q := q) (D := B.D g p q s (cl t)) (sp := sp) (T := tM M (cl u)) (by omega) ⟨⟨hsh, hi, hwi⟩, hbk, hg, ⟨hy, hp.1, hp.2⟩, hrow, hB.1⟩ (by rw [← e1]; rfl) k1 k3 k2 k4 (fun v hv => by rw [hlv]; exact tM_iff hM (by omega))
  rw [← e1, ← e2, ← e3, ← e4] at key
  refine xCall_of key (by omega) ?_
  rintro r μ' ⟨g1, g2, rfl, g4⟩
  refine ⟨g1, g2, ?_, g4⟩
  by_cases hz : (waysD (B.D g p q s (cl t)) 5 (cl u) (tM M (cl u))).length = 0
  · rw [if_pos hz, if_pos (wayOf_none.mpr (List.length_eq_zero_iff.mp hz))]
  · rw [if_neg hz, if_neg (fun q => hz (by rw [wayOf_none.mp q]; rfl))]
theorem sort01 {s : Int32} : (¬ s < 0 ∧ ¬ 1 < s) ↔ (s = 0 ∨ s = 1) := by
  constructor
  · rintro ⟨h1, h2⟩
    obtain ⟨j, hj, rfl⟩ := smallx 1 h1 h2 (by decide)
    have : j = 0 ∨ j = 1 := by omega
    rcases this with rfl | rfl
    · exact Or.inl rfl
    · exact Or.inr rfl
  · rintro (rfl | rfl) <;> decide
theorem m_isAsked (hd : 1 ≤ d) (h : mQ μ m X B f) : xC d yX12_isAsked cX12_isAsked 5 (some .boolean) 0 0 [.ref m, .int s, .int u, .int t, .int a] μ ro (fun r μ' => μ' = wI μ m 37 (f 0) ∧ r = some (.int (if asked B.nf s u t a then 1 else 0))) := by
  obtain ⟨⟨h1, h2⟩, h3, h4, -⟩ := h
  refine I_X12_isAsked (fun J g hr => B_X12_isAsked_0 g hr h1.1 (h1.r 30 0 293) (h1.s 30 0 293) hd ⟨lit_in 30 (by omega) (by omega), ?_⟩)
  rw [hI_wI_s, upd_n _ (by decide), h3.1.2.1, h4.2.1]
  have no : ¬ asked B.nf s u t a → wI μ m 37 (f 0) = wI μ m 37 (f 0) ∧ some (Value.int 0) = some (.int (if asked B.nf s u t a then 1 else 0)) := fun h => by rw [if_neg h]; exact ⟨rfl, rfl⟩
  exact ⟨fun h => no (fun q => q.2.1.1 h), fun k1 => ⟨fun h => no (fun q => q.2.1.2 h), fun k2 => ⟨fun h => no (fun q => q.2.2.1.1 h), fun k3 => ⟨fun h => no (fun q => q.2.2.1.2 h), fun k4 => ⟨fun h => no (fun q => q.2.2.2.1 h), fun k5 => ⟨fun h => no (fun q => (sort01.mpr q.1).1 h), fun k6 => ⟨fun h => no (fun q => (sort01.mpr q.1).2 h), fun k7 => ⟨fun h => no (fun q => q.2.2.2.2.1 h), fun k8 => ⟨fun h => no (fun q => q.2.2.2.2.2 h), fun k9 => ⟨rfl, by rw [if_pos ⟨sort01.mp ⟨k6, k7⟩, ⟨k1, k2⟩, ⟨k3, k4⟩, k5, k8, k9⟩]⟩⟩⟩⟩⟩⟩⟩⟩⟩⟩
abbrev mFound (m : Nat) (X : Nat → Nat) (B : Bk) (f : Nat → Int32) (s u t a : Int32) (μ : Hp) (r : Option Value) (μ' : Hp) : Prop :=
  mqFr m X μ μ' ∧ ((r = some (.int 0) ∧ fndA B f s u t a = none) ∨ (r = some (.int 1) ∧ asked B.nf s u t a ∧ ∃ w, fndA B f s u t a = some w ∧ wayOf B f (-1) (-1) false s (cl u) (cl t) (cl a) 0 = some w ∧ mFnd μ' m X (B.D f (-1) (-1) s (cl t)) (cl u) (cl a) w))
/-- a search of the row now, in the year now -/
theorem q_mnow {sp : Bool} (hd : 13 ≤ d) (h : mQ μ m X B f) (hy : hI μ m 37 = f 0) (ha : asked B.nf s u t a) :
    xCall d yX12_searches cX12_searches 8 (some .boolean) [.ref m, .ref (X 30), .int s, .int u, .int t, .int a, .int (if sp = true then 1 else 0)] μ ro (fun r μ' => mFr m X μ μ' ∧ hI μ' m 54 = nI (waysD (B.D f (-1) (-1) s (cl t)) 5 (cl u) (tM 0 (cl u))).length ∧ r = some (.int (if wayOf B f (-1) (-1) sp s (cl u) (cl t) (cl a) 0 = none then 0 else 1)) ∧ ∀ w, wayOf B f (-1) (-1) sp s (cl u) (cl t) (cl a) 0 = some w → mFnd μ' m X (B.D f (-1) (-1) s (cl t)) (cl u) (cl a) w) := by
  obtain ⟨⟨h1, h2⟩, h3, h4, h5, h6, h7⟩ := h
  exact q_ms hd h1 h2 h3 h6 (Or.inl rfl) h4.1 h7 hy ⟨h5.1, h5.2.1⟩ h5.2.2 (Or.inl ⟨rfl, rfl⟩) ha
theorem m_finds (hd : 14 ≤ d) (h : mQ μ m X B f) : xC d yX12_finds cX12_finds 5 (some .boolean) 0 0 [.ref m, .int s, .int u, .int t, .int a] μ ro (mFound m X B f s u t a μ) := by
  have hsh := h.1.1
  refine I_X12_finds (fun J g hr => B_X12_finds_0 g hr hsh.1 (xCall_of (m_isAsked (d := d - 1) (by omega) h) (by omega) ?_))
  rintro r μ1 ⟨e1, rfl⟩
  have hF1 : mqFr m X μ μ1 := by rw [e1]; exact mqFr.rf.f 37 _
  have h1 := h.fr hF1
  have y1 : hI μ1 m 37 = f 0 := by rw [e1, hI_wI_s, upd_s]
  by_cases ha : asked B.nf s u t a
  · rw [if_pos ha]
    refine ⟨_, rfl, fun c => absurd c (by decide), fun _ => ⟨h1.1.1.1, _, h1.1.1.r 30 0 293, (q_mnow (sp := false) (by omega) h1 y1 ha).mono (Nat.le_refl _) ?_⟩⟩
    rintro r μ' ⟨g1, -, rfl, g4⟩
    have hF := hF1.tt g1.q
    cases hw : wayOf B f (-1) (-1) false s (cl u) (cl t) (cl a) 0 with
    | none => exact ⟨_, rfl, fun _ => ⟨hF, Or.inl ⟨rfl, by unfold fndA; rw [if_pos ha]; exact hw⟩⟩, fun c => absurd (if_pos rfl) c⟩
    | some w => exact ⟨_, rfl, fun c => absurd c (by rw [if_neg (by simp)]; decide), fun _ => ⟨hF, Or.inr ⟨rfl, ha, w, by unfold fndA; rw [if_pos ha]; exact hw, hw, g4 w hw⟩⟩⟩
  · rw [if_neg ha]
    exact ⟨_, rfl, fun _ => ⟨hF1, Or.inl ⟨rfl, by unfold fndA; rw [if_neg ha]⟩⟩, fun c => absurd rfl c⟩
end mq
