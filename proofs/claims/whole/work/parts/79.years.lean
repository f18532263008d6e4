/-! years of the class: draws -/
def dN (x : Int64) : Int64 := x * 6364136223846793005 + 1442695040888963407
def dV (x : Int64) (j : Nat) : Int32 := ((x.toUInt64 >>> ((33 : Int32).toInt64.toUInt64 &&& Int64.toUInt64 63)).toInt64 - (x.toUInt64 >>> ((33 : Int32).toInt64.toUInt64 &&& Int64.toUInt64 63)).toInt64 / (nI j).toInt64 * (nI j).toInt64).toInt32
/-- the state and the draws behind one drawn act -/
def drwS (S : St) (x : Int64) : St × Int64 :=
  if ¬ 3 < dV (dN x) 8 then (S.tryA 0 (dV (dN (dN x)) 2) (dV (dN (dN (dN x))) S.B.nf) (dV (dN (dN (dN (dN x)))) S.B.nf) (dV (dN (dN (dN (dN (dN x))))) 1000 + 1), dN (dN (dN (dN (dN x)))))
  else if dV (dN x) 8 = 4 then (S.tryA 1 (dV (dN (dN x)) 5 + 1) 0 0 0, dN (dN x))
  else if dV (dN x) 8 = 5 then (S.tryA 2 (dV (dN (dN x)) S.B.nf) (dV (dN (dN (dN x))) 100) 0 0, dN (dN (dN x)))
  else if dV (dN x) 8 = 6 then (S.tryA 3 (dV (dN (dN x)) S.B.nf) (dV (dN (dN (dN x))) S.B.nf) (dV (dN (dN (dN (dN x)))) 101) 0, dN (dN (dN (dN x))))
  else (S.tryA 4 (dV (dN (dN x)) S.B.nf) (dV (dN (dN (dN x))) S.B.nf) 0 0, dN (dN (dN x)))
def iterP {α : Type} (g : α → α) : Nat → α → α
  | 0, p => p
  | m + 1, p => iterP g m (g p)
theorem iterP_s {α : Type} (g : α → α) (m : Nat) (p : α) : iterP g (m + 1) p = iterP g m (g p) := rfl
def drwP (p : St × Int64) : St × Int64 := drwS p.1 p.2
def yrS (m : Nat) (S : St) (x : Int64) : St := (iterP drwP m (S, x)).1
def aYears (S : St) (n : Int32) (x : Int64) : Int32 := if ¬ S.B.nf = 0 ∧ ¬ n < 1 ∧ n ≤ 40 then (yrS (cl n) S x).f 0 else -1
def St.years (S : St) (n : Int32) (x : Int64) : St := if ¬ S.B.nf = 0 ∧ ¬ n < 1 ∧ n ≤ 40 then yrS (cl n) S x else S
section yr
variable {d : Nat} {ro : Nat → Nat} {μ : Hp} {A : Nat → Nat} {S : St}
theorem nIl_ne {j : Nat} (h : 0 < j) (hj : j < 2 ^ 31) : ¬ (nI j).toInt64 = 0 := by
  rw [nI_l hj]
  intro e
  have := (pk_lEQ (a := j) (b := 0) (by omega) (by omega)).mp e
  omega
theorem c_draw {j : Nat} (hs : hS μ (A 0) = some (14, 18)) (h0 : 0 < j) (hj : j < 2 ^ 31) : xC d yX11_draw cX11_draw 2 (some .int) 0 0 [.ref (A 0), .int (nI j)] μ ro (fun r μ' => r = some (.int (dV (dN (hL μ (A 0) 17)) j)) ∧ μ' = wL μ (A 0) 17 (dN (hL μ (A 0) 17))) := by
  refine I_X11_draw (fun J g hr => B_X11_draw_0 g hr hs ⟨fun c => absurd c (nI_nle h0 hj), fun _ v ev v2 ev2 => ⟨nIl_ne h0 hj, ?_, rfl⟩⟩)
  rw [hL_wL_s, updL_s] at ev
  rw [ev2, ev]
  rfl
/-- what drawing changes -/
def dH (A : Nat → Nat) (μ0 μ : Hp) (x : Int64) (g : Nat → Int32) : Prop := gFr [32] A μ0 μ ∧ hL μ (A 0) 17 = x ∧ hI μ (A 32) = g
theorem dH.wi {μ0 μ : Hp} {x : Int64} {g : Nat → Int32} (h : dH A μ0 μ x g) (k : Nat) (v : Int32) : dH A μ0 (wI μ (A 32) k v) x (upd g k v) :=
  ⟨h.1.tt (Fr.g (Fr.rf.wiA 32 k v)), h.2.1, by rw [hI_wI_s, h.2.2]⟩
theorem dH.wl {μ0 μ : Hp} {x : Int64} {g : Nat → Int32} (h : dH A μ0 μ x g) : dH A μ0 (wL μ (A 0) 17 (dN (hL μ (A 0) 17))) (dN x) g :=
  ⟨h.1.tt ⟨rfl, rfl, fun _ _ => rfl, fun a ha => va_up_ne _ _ ha⟩, by rw [hL_wL_s, updL_s, h.2.1], h.2.2⟩
theorem dH.sh {μ0 μ : Hp} {x : Int64} {g : Nat → Int32} (h : dH A μ0 μ x g) (hs : cSh μ0 A) : cSh μ A := hs.of h.1.2.1 h.1.1
/-- one more draw -/
theorem dH.dr {μ0 : Hp} {x : Int64} {g : Nat → Int32} {j : Nat} (h : dH A μ0 μ x g) (hs : cSh μ0 A) (hd : 1 ≤ d) (h0 : 0 < j) (hj : j < 2 ^ 31) : xCall d yX11_draw cX11_draw 2 (some .int) [.ref (A 0), .int (nI j)] μ ro (fun r μ' => r = some (.int (dV (dN x) j)) ∧ dH A μ0 μ' (dN x) g) := by
  refine xCall_of (c_draw (d := d - 1) ((h.sh hs).s 0 14 18) h0 hj) (by omega) ?_
  rintro r μ' ⟨rfl, rfl⟩
  rw [h.2.1]
  exact ⟨rfl, by have := h.wl; rw [h.2.1] at this; exact this⟩
theorem dH.bk {μ0 : Hp} {x : Int64} {g : Nat → Int32} (h : dH A μ0 μ x g) (hj : cInj A) : hI μ (A 39) = hI μ0 (A 39) := h.1.o hj 39
def stO (nf : Nat) (y : Int32) (x : Int64) (g : Nat → Int32) (x' : Int64) : Prop :=
  (¬ 3 < y → x' = dN (dN (dN (dN x))) ∧ g 0 = 0 ∧ g 1 = dV (dN x) 2 ∧ g 2 = dV (dN (dN x)) nf ∧ g 3 = dV (dN (dN (dN x))) nf ∧ g 4 = dV (dN (dN (dN (dN x)))) 1000 + 1) ∧
  (3 < y → y = 4 → x' = dN x ∧ g 0 = 1 ∧ g 1 = dV (dN x) 5 + 1) ∧
  (3 < y → ¬ y = 4 → y = 5 → x' = dN (dN x) ∧ g 0 = 2 ∧ g 1 = dV (dN x) nf ∧ g 2 = dV (dN (dN x)) 100) ∧
  (3 < y → ¬ y = 4 → ¬ y = 5 → y = 6 → x' = dN (dN (dN x)) ∧ g 0 = 3 ∧ g 1 = dV (dN x) nf ∧ g 2 = dV (dN (dN x)) nf ∧ g 3 = dV (dN (dN (dN x))) 101) ∧
  (3 < y → ¬ y = 4 → ¬ y = 5 → ¬ y = 6 → x' = dN (dN x) ∧ g 0 = 4 ∧ g 1 = dV (dN x) nf ∧ g 2 = dV (dN (dN x)) nf)
theorem c_drawStep {μ0 : Hp} {x : Int64} {g : Nat → Int32} {nf : Nat} {y : Int32} (hd : 1 ≤ d) (h : dH A μ0 μ x g) (hsh : cSh μ0 A) (hj : cInj A) (hnf : hI μ0 (A 39) 6 = nI nf) (h0 : 0 < nf) (hn8 : nf ≤ 8) :
    xC d yX11_drawStep cX11_drawStep 2 none 0 0 [.ref (A 0), .int y] μ ro (fun r μ' => r = none ∧ ∃ g' x', dH A μ0 μ' x' g' ∧ stO nf y x g' x') := by
  have s0 := h.sh hsh
  have bk : ∀ {μ1 : Hp} {x1 : Int64} {g1 : Nat → Int32}, dH A μ0 μ1 x1 g1 → hI μ1 (A 39) 6 = nI nf := fun h1 => by rw [h1.bk hj]; exact hnf
  refine I_X11_drawStep (fun J g' hr => B_X11_drawStep_0 g' hr (s0.s 0 14 18) (s0.r 0 9 32) (s0.r 0 13 39) (s0.s 39 6 9) (s0.s 32 0 5) ⟨fun c3 => ⟨fun c4 => ?_, fun c4 => ?_⟩, fun c3 => ?_⟩)
  · rw [bk h]
    refine (h.dr hsh hd h0 (by omega)).mono (Nat.le_refl _) ?_
    rintro r μ4 ⟨rfl, h4⟩
    have s4 := h4.sh hsh
    have h5 := h4.wi 1 (dV (dN x) nf)
    refine ⟨_, rfl, _, s4.s 32 0 5, lit_in 1 (by omega) (by omega), fun c5 => ⟨s4.s 0 14 18, _, s4.r 0 9 32, fun c6 => ⟨_, s4.s 32 0 5, lit_in 0 (by omega) (by omega), _, s4.r 0 13 39, s4.s 39 6 9, ?_⟩, fun c6 => ⟨_, s4.s 32 0 5, lit_in 0 (by omega) (by omega), _, s4.r 0 13 39, s4.s 39 6 9, ?_⟩⟩, fun c5 => ⟨s4.s 0 14 18, _, s4.r 0 9 32, _, s4.s 32 0 5, lit_in 0 (by omega) (by omega), ?_⟩⟩
    · have h6 := h5.wi 0 4
      rw [bk h6]
      refine (h6.dr hsh hd h0 (by omega)).mono (Nat.le_refl _) ?_
      rintro r μ7 ⟨rfl, h7⟩
      have s7 := h7.sh hsh
      have h8 := (h7.wi 2 (dV (dN (dN x)) nf)).wi 3 (-1)
      refine ⟨_, rfl, _, s7.s 32 0 5, lit_in 2 (by omega) (by omega), s7.s 0 14 18, _, s7.r 0 9 32, fun _ => ⟨_, s7.s 32 0 5, lit_in 3 (by omega) (by omega), rfl, _, _, h8, fun q => absurd c3 q, fun _ q => absurd q c4, fun _ _ q => absurd q c5, fun _ _ _ q => absurd q c6, fun _ _ _ _ => ⟨rfl, by simp [upd], by simp [upd], by simp [upd]⟩⟩, fun q => absurd q c6⟩
    · have h6 := h5.wi 0 3
      rw [bk h6]
      refine (h6.dr hsh hd h0 (by omega)).mono (Nat.le_refl _) ?_
      rintro r μ7 ⟨rfl, h7⟩
      have s7 := h7.sh hsh
      have h8 := h7.wi 2 (dV (dN (dN x)) nf)
      refine ⟨_, rfl, _, s7.s 32 0 5, lit_in 2 (by omega) (by omega), s7.s 0 14 18, _, s7.r 0 9 32, fun q => absurd c6 q, fun _ => (h8.dr (j := 101) hsh hd (by omega) (by omega)).mono (Nat.le_refl _) ?_⟩
      rintro r μ9 ⟨rfl, h9⟩
      have s9 := h9.sh hsh
      exact ⟨_, rfl, _, s9.s 32 0 5, lit_in 3 (by omega) (by omega), rfl, _, _, h9.wi 3 _, fun q => absurd c3 q, fun _ q => absurd q c4, fun _ _ q => absurd q c5, fun _ _ _ _ => ⟨rfl, by simp [upd], by simp [upd], by simp [upd], by simp [upd]⟩, fun _ _ _ q => absurd c6 q⟩
    · have h6 := h5.wi 0 2
      refine (h6.dr (j := 100) hsh hd (by omega) (by omega)).mono (Nat.le_refl _) ?_
      rintro r μ7 ⟨rfl, h7⟩
      have s7 := h7.sh hsh
      exact ⟨_, rfl, _, s7.s 32 0 5, lit_in 2 (by omega) (by omega), rfl, _, _, h7.wi 2 _, fun q => absurd c3 q, fun _ q => absurd q c4, fun _ _ _ => ⟨rfl, by simp [upd], by simp [upd], by simp [upd]⟩, fun _ _ q => absurd c5 q, fun _ _ q => absurd c5 q⟩
  · refine ⟨lit_in 0 (by omega) (by omega), ((h.wi 0 1).dr (j := 5) hsh hd (by omega) (by omega)).mono (Nat.le_refl _) ?_⟩
    rintro r μ7 ⟨rfl, h7⟩
    have s7 := h7.sh hsh
    exact ⟨_, rfl, _, s7.s 32 0 5, lit_in 1 (by omega) (by omega), rfl, _, _, h7.wi 1 _, fun q => absurd c3 q, fun _ _ => ⟨rfl, by simp [upd], by simp [upd]⟩, fun _ q => absurd c4 q, fun _ q => absurd c4 q, fun _ q => absurd c4 q⟩
  · refine ⟨lit_in 0 (by omega) (by omega), ((h.wi 0 0).dr (j := 2) hsh hd (by omega) (by omega)).mono (Nat.le_refl _) ?_⟩
    rintro r μ4 ⟨rfl, h4⟩
    have s4 := h4.sh hsh
    have h5 := h4.wi 1 (dV (dN x) 2)
    refine ⟨_, rfl, _, s4.s 32 0 5, lit_in 1 (by omega) (by omega), s4.s 0 14 18, _, s4.r 0 9 32, _, s4.r 0 13 39, s4.s 39 6 9, ?_⟩
    rw [bk h5]
    refine (h5.dr hsh hd h0 (by omega)).mono (Nat.le_refl _) ?_
    rintro r μ6 ⟨rfl, h6⟩
    have s6 := h6.sh hsh
    have h7 := h6.wi 2 (dV (dN (dN x)) nf)
    refine ⟨_, rfl, _, s6.s 32 0 5, lit_in 2 (by omega) (by omega), s6.s 0 14 18, _, s6.r 0 9 32, _, s6.r 0 13 39, s6.s 39 6 9, ?_⟩
    rw [bk h7]
    refine (h7.dr hsh hd h0 (by omega)).mono (Nat.le_refl _) ?_
    rintro r μ8 ⟨rfl, h8⟩
    have s8 := h8.sh hsh
    have h9 := h8.wi 3 (dV (dN (dN (dN x))) nf)
    refine ⟨_, rfl, _, s8.s 32 0 5, lit_in 3 (by omega) (by omega), s8.s 0 14 18, _, s8.r 0 9 32, (h9.dr (j := 1000) hsh hd (by omega) (by omega)).mono (Nat.le_refl _) ?_⟩
    rintro r μ10 ⟨rfl, h10⟩
    have s10 := h10.sh hsh
    exact ⟨_, rfl, _, s10.s 32 0 5, lit_in 4 (by omega) (by omega), rfl, _, _, h10.wi 4 _, fun _ => ⟨rfl, by simp [upd], by simp [upd], by simp [upd], by simp [upd], by simp [upd]⟩, fun q => absurd q c3, fun q => absurd q c3, fun q => absurd q c3, fun q => absurd q c3⟩
/-- the drawn act is the one of drwS -/
theorem tryA_of {act a b c e b' c' e' : Int32} (h1 : rsn S.B S.f act a b c e = rsn S.B S.f act a b' c' e') (h2 : doR S.B S.f act a b c e = doR S.B S.f act a b' c' e') (h3 : doN S.B S.f act a b c e = doN S.B S.f act a b' c' e') (h4 : fmO act a c = fmO act a c') : S.tryA act a b c e = S.tryA act a b' c' e' := by
  unfold St.tryA St.act
  rw [h1, h2, h3, h4]
theorem rsn0 {B : Bk} {f : Nat → Int32} {a b c e : Int32} : rsn B f 0 a b c e = rPay B f a b c e := by
  unfold rsn
  rw [if_pos rfl]
theorem rsn1 {B : Bk} {f : Nat → Int32} {a b c e : Int32} : rsn B f 1 a b c e = rPass B f a := by
  unfold rsn
  rw [if_neg (by decide), if_pos rfl]
theorem rsn2 {B : Bk} {f : Nat → Int32} {a b c e : Int32} : rsn B f 2 a b c e = rStaff B f a b := by
  unfold rsn
  rw [if_neg (by decide), if_neg (by decide), if_pos rfl]
theorem rsn3 {B : Bk} {f : Nat → Int32} {a b c e : Int32} : rsn B f 3 a b c e = rOwn B f a b c := by
  unfold rsn
  rw [if_neg (by decide), if_neg (by decide), if_neg (by decide), if_pos rfl]
theorem rsn4 {B : Bk} {f : Nat → Int32} {a b c e : Int32} : rsn B f 4 a b c e = rLend B f a b := by
  unfold rsn
  rw [if_neg (by decide), if_neg (by decide), if_neg (by decide), if_neg (by decide)]
theorem doR0 {B : Bk} {f : Nat → Int32} {a b c e : Int32} : doR B f 0 a b c e = doP B f a b c e := by
  unfold doR
  rw [if_pos rfl]
theorem doR1 {B : Bk} {f : Nat → Int32} {a b c e : Int32} : doR B f 1 a b c e = upd f 0 (f 0 + a) := by
  unfold doR
  rw [if_neg (by decide), if_pos rfl]
theorem doR2 {B : Bk} {f : Nat → Int32} {a b c e : Int32} : doR B f 2 a b c e = upd f (2 + cl a) b := by
  unfold doR
  rw [if_neg (by decide), if_neg (by decide), if_pos rfl]
theorem doR3 {B : Bk} {f : Nat → Int32} {a b c e : Int32} : doR B f 3 a b c e = doO f a b c := by
  unfold doR
  rw [if_neg (by decide), if_neg (by decide), if_neg (by decide), if_pos rfl]
theorem doR4 {B : Bk} {f : Nat → Int32} {a b c e : Int32} : doR B f 4 a b c e = doL f a b := by
  unfold doR
  rw [if_neg (by decide), if_neg (by decide), if_neg (by decide), if_neg (by decide)]
theorem doN0 {B : Bk} {f : Nat → Int32} {a b c e : Int32} : doN B f 0 a b c e = arrOf B f (-1) (-1) a (cl b) (cl c) (cl e) 0 := by
  unfold doN
  rw [if_pos rfl]
theorem doN1 {B : Bk} {f : Nat → Int32} {a b c e : Int32} : doN B f 1 a b c e = f 0 + a := by
  unfold doN
  rw [if_neg (by decide), if_pos rfl]
theorem doN2 {B : Bk} {f : Nat → Int32} {a b c e : Int32} : doN B f 2 a b c e = f (2 + cl a) := by
  unfold doN
  rw [if_neg (by decide), if_neg (by decide), if_pos rfl]
theorem doN3 {B : Bk} {f : Nat → Int32} {a b c e : Int32} : doN B f 3 a b c e = wasS f (lkA f 0 a b) := by
  unfold doN
  rw [if_neg (by decide), if_neg (by decide), if_neg (by decide), if_pos rfl]
theorem doN4 {B : Bk} {f : Nat → Int32} {a b c e : Int32} : doN B f 4 a b c e = if lkA f 1 a b = none then 1 else 0 := by
  unfold doN
  rw [if_neg (by decide), if_neg (by decide), if_neg (by decide), if_neg (by decide)]
theorem try1 {a b c e : Int32} : S.tryA 1 a b c e = S.tryA 1 a 0 0 0 := tryA_of (by rw [rsn1, rsn1]) (by rw [doR1, doR1]) (by rw [doN1, doN1]) rfl
theorem try2 {a b c e : Int32} : S.tryA 2 a b c e = S.tryA 2 a b 0 0 := tryA_of (by rw [rsn2, rsn2]) (by rw [doR2, doR2]) (by rw [doN2, doN2]) rfl
theorem try3 {a b c e : Int32} : S.tryA 3 a b c e = S.tryA 3 a b c 0 := tryA_of (by rw [rsn3, rsn3]) (by rw [doR3, doR3]) (by rw [doN3, doN3]) rfl
theorem try4 {a b c e : Int32} : S.tryA 4 a b c e = S.tryA 4 a b 0 0 := tryA_of (by rw [rsn4, rsn4]) (by rw [doR4, doR4]) (by rw [doN4, doN4]) rfl
theorem stO_try {x : Int64} {g : Nat → Int32} {x' : Int64} (h : stO S.B.nf (dV (dN x) 8) (dN x) g x') : (S.tryA (g 0) (g 1) (g 2) (g 3) (g 4), x') = drwS S x := by
  obtain ⟨a1, a2, a3, a4, a5⟩ := h
  unfold drwS
  by_cases c3 : ¬ 3 < dV (dN x) 8
  · rw [if_pos c3]
    obtain ⟨e, e0, e1, e2, e3, e4⟩ := a1 c3
    rw [e, e0, e1, e2, e3, e4]
  have c3' := Classical.not_not.mp c3
  rw [if_neg c3]
  by_cases c4 : dV (dN x) 8 = 4
  · rw [if_pos c4]
    obtain ⟨e, e0, e1⟩ := a2 c3' c4
    rw [e, e0, e1, try1]
  rw [if_neg c4]
  by_cases c5 : dV (dN x) 8 = 5
  · rw [if_pos c5]
    obtain ⟨e, e0, e1, e2⟩ := a3 c3' c4 c5
    rw [e, e0, e1, e2, try2]
  rw [if_neg c5]
  by_cases c6 : dV (dN x) 8 = 6
  · rw [if_pos c6]
    obtain ⟨e, e0, e1, e2, e3⟩ := a4 c3' c4 c5 c6
    rw [e, e0, e1, e2, e3, try3]
  · rw [if_neg c6]
    obtain ⟨e, e0, e1, e2⟩ := a5 c3' c4 c5 c6
    rw [e, e0, e1, e2, try4]
theorem tryA_B {act a b c e : Int32} : (S.tryA act a b c e).B = S.B := by
  unfold St.tryA
  split <;> rfl
theorem drwS_B {x : Int64} : (drwS S x).1.B = S.B := by
  unfold drwS
  repeat' split
  all_goals exact tryA_B
theorem cR.dr {μ0 : Hp} {x : Int64} {g : Nat → Int32} (h : cR μ0 A S) (hd : dH A μ0 μ x g) : cR μ A S := by
  have hj := h.1.1.2
  have hF := hd.1
  have hr := h.rest.fr hj hF.sub
  obtain ⟨⟨a1, a2, a3, a4, a5, a6, a7, a8⟩, -, ⟨b1, b2⟩, b3, -⟩ := h
  refine ⟨⟨⟨a1.1.of hF.2.1 hF.1, hj⟩, ?_, ?_, a4, ?_, ?_, a7, ?_⟩, hr.1, ⟨?_, b2⟩, ?_, hr.2⟩
  · rw [hF.o hj 39]; exact a2
  · rw [hF.o hj 42, hF.o hj 43, hF.o hj 44]; exact a3
  · rw [hF.o hj 34, hF.o hj 33]; exact a5
  · rw [hF.o hj 14]; exact a6
  · rw [hF.o hj 36]; exact a8
  · unfold cHs; rw [hF.o hj 24, hF.o hj 25]; exact b1
  · unfold cLg; rw [hF.o hj 26, hF.o hj 27]; exact b3
theorem c_years {n : Int32} {x : Int64} (hd : 15 ≤ d) (h : cR μ A S) : xC d yX11_years cX11_years 5 (some .int) 0 0 [.ref (A 0), .int n, .long x] μ ro (fun r μ' => r = some (.int (aYears S n x)) ∧ cR μ' A (S.years n x) ∧ cOut A μ μ') := by
  have hq := h.1
  have hsh := hq.1.1
  have hj := hq.1.2
  have hnf := hq.2.2.2.1.1.1.2.1
  unfold aYears St.years
  refine I_X11_years (fun J g hz => B_X11_years_0 g hz (hsh.s 0 14 18) (hsh.r 0 13 39) (hsh.s 39 6 9) (by omega) ?_)
  rw [hq.2.1.2.1]
  refine pk_le S.B.nf 0 (fun c => ⟨by rw [if_neg (fun q => q.1 (by omega))], by rw [if_neg (fun q => q.1 (by omega))]; exact h, cOut.rf⟩) (fun c0 => ?_)
  refine ⟨fun c => ⟨by rw [if_neg (fun q => q.2.1 c)], by rw [if_neg (fun q => q.2.1 c)]; exact h, cOut.rf⟩, fun c1 => ⟨fun c2 => ?_, fun c => ⟨by rw [if_neg (fun q => c q.2.2)], by rw [if_neg (fun q => c q.2.2)]; exact h, cOut.rf⟩⟩⟩
  have hc : ¬ S.B.nf = 0 ∧ ¬ n < 1 ∧ n ≤ 40 := ⟨by omega, c1, c2⟩
  rw [if_pos hc, if_pos hc] at hz
  have cn : ¬ n < 0 := fun q => c1 (Int32.lt_trans q (by decide))
  obtain ⟨m, hm, rfl⟩ := smallx 40 cn (Int32.not_lt.mpr c2) (by decide)
  rw [cl_nI (by omega)] at hz
  have h0 : dH A μ (wL μ (A 0) 17 x) x (hI μ (A 32)) := ⟨⟨rfl, rfl, fun _ _ => rfl, fun a ha => va_up_ne _ _ ha⟩, by rw [hL_wL_s, updL_s], rfl⟩
  have key := loopUp (Q := fun i => ∀ (μ' : Hp) (S' : St), cR μ' A S' → cOut A μ μ' → S'.B = S.B → yrS (m - i) S' (hL μ' (A 0) 17) = yrS m S x → J μ' 0 0 28 [(0, .ref (A 0)), (1, .int (nI m)), (4, .int (nI i))] []) m ?_ (fun i hi ih μ' S' h' ho hS he => ?_) 0 (Nat.zero_le _) _ S (h.dr h0) (h0.1.out) rfl (by rw [h0.2.1]; rfl)
  · exact key
  · intro μ' S' h' ho hS he
    have hs' := h'.1.1.1
    refine B_X11_years_28 g hz (hs'.s 0 14 18) (hs'.r 0 10 33) (hs'.s 33 12 4) (hs'.r 33 0 34) (hs'.s 34 0 112) ⟨fun _ => ⟨lit_in 0 (by omega) (by omega), ?_, ?_, ho⟩, fun c => absurd (Int32.le_refl _) c⟩
    · rw [← he, Nat.sub_self, h'.1.2.2.2.2.1.1]; rfl
    · rw [← he, Nat.sub_self]; exact h'
  · have hs' := h'.1.1.1
    have d0 : dH A μ' μ' (hL μ' (A 0) 17) (hI μ' (A 32)) := ⟨gFr.rf, rfl, rfl⟩
    generalize hx : hL μ' (A 0) 17 = x1 at d0 he
    have hnf' : hI μ' (A 39) 6 = nI S'.B.nf := h'.1.2.1.2.1
    refine B_X11_years_28 g hz (hs'.s 0 14 18) (hs'.r 0 10 33) (hs'.s 33 12 4) (hs'.r 33 0 34) (hs'.s 34 0 112) ⟨fun c => absurd c (nI_ge hi (by omega)), fun _ => (d0.dr (j := 8) hs' (by omega) (by omega) (by omega)).mono (Nat.le_refl _) ?_⟩
    rintro r μ2 ⟨rfl, d2⟩
    have s2 := d2.sh hs'
    refine ⟨_, rfl, s2.s 0 14 18, xCall_of (c_drawStep (d := d - 1) (nf := S'.B.nf) (by omega) d2 hs' hj hnf' (by rw [hS]; omega) (by rw [hS]; omega)) (by omega) ?_⟩
    rintro r μ3 ⟨rfl, g3, x3, d3, st3⟩
    have s3 := d3.sh hs'
    have h3 := h'.dr d3
    refine ⟨rfl, s3.s 0 14 18, _, s3.r 0 9 32, xCall_of (c_actIf (d := d - 1) (row := A 32) (i := 0) (act := g3 0) (a := g3 1) (b := g3 2) (c := g3 3) (e := g3 4) (by omega) h3 ⟨5, s3.s 32 0 5, by omega, by omega⟩ (by rw [d3.2.2]; exact ⟨rfl, rfl, rfl, rfl, rfl⟩) (fun hm => ?_)) (by omega) ?_⟩
    · obtain ⟨i, hi, e⟩ := List.mem_map.mp hm
      have h1 : ∀ i, i ∈ qI → i ≠ 32 ∧ i < 51 := by decide
      exact (h1 i hi).1 (hj i 32 (h1 i hi).2 (by decide) e)
    rintro r μ4 ⟨rfl, q1, q2, q3⟩
    have et := stO_try (S := S') st3
    have ep : drwP (S', x1) = drwS S' x1 := rfl
    rw [yrS, show m - i = (m - (i + 1)) + 1 by omega, iterP_s, ep, ← et] at he
    rw [nI_1]
    refine ⟨_, rfl, ih μ4 _ q1 (ho.tt ((gFr.out d3.1).tt q2.out)) (by rw [tryA_B]; exact hS) ?_⟩
    have hx4 : hL μ4 (A 0) 17 = x3 := by rw [← d3.2.1, q3]
    rw [hx4]
    exact he
end yr
