/-! acts: what stands against one, what it makes of a row -/
theorem nn {p : Prop} (h : p) : ¬ ¬ p := fun q => q h
def rPay (B : Bk) (f : Nat → Int32) (s u t a : Int32) : Int32 := if ¬ (inN u B.nf ∧ inN t B.nf) then 0 else if ¬ ((s = 0 ∨ s = 1) ∧ ¬ a < 1 ∧ ¬ 1000000 < a) then 1 else if u = t ∨ wayOf B f (-1) (-1) false s (cl u) (cl t) (cl a) 0 = none then 2 else -1
def rPass (B : Bk) (f : Nat → Int32) (n : Int32) : Int32 := if B.nf = 0 then 0 else if n < 1 ∨ ¬ n ≤ 20 then 1 else if f 0 + n ≤ 199 then -1 else 3
def rStaff (B : Bk) (f : Nat → Int32) (v n : Int32) : Int32 := if ¬ inN v B.nf then 0 else if n < 0 ∨ ¬ n ≤ 99 then 1 else if f (2 + cl v) = n then 2 else -1
def lkA (f : Nat → Int32) (s u v : Int32) : Option Nat := fstP (lkP f s u v) 0 (cl (f 1))
def wasS (f : Nat → Int32) (o : Option Nat) : Int32 := match o with
  | none => 0
  | some k => f (80 + k)
def rOwn (B : Bk) (f : Nat → Int32) (v o s : Int32) : Int32 := if ¬ (inN v B.nf ∧ inN o B.nf) then 0 else if s < 0 ∨ ¬ s ≤ 100 then 1 else if v = o ∨ wasS f (lkA f 0 v o) = s then 2 else if lkA f 0 v o = none ∧ ¬ f 1 < 16 then 3 else -1
def rLend (B : Bk) (f : Nat → Int32) (v o : Int32) : Int32 := if ¬ (inN v B.nf ∧ inN o B.nf) then 0 else if v = o then 2 else if lkA f 1 v o = none ∧ ¬ f 1 < 16 then 3 else -1
def rsn (B : Bk) (f : Nat → Int32) (act a b c d : Int32) : Int32 := if act = 0 then rPay B f a b c d else if act = 1 then rPass B f a else if act = 2 then rStaff B f a b else if act = 3 then rOwn B f a b c else rLend B f a b
theorem lkA_lt {B : Bk} {f : Nat → Int32} (hr : B.row f) {s u v : Int32} {k : Nat} (h : lkA f s u v = some k) : k < cl (f 1) ∧ lkP f s u v k = true := by
  have key : ∀ (m i : Nat), fstP (lkP f s u v) i m = some k → k < i + m ∧ lkP f s u v k = true := by
    intro m
    induction m with
    | zero => intro i h; cases h
    | succ m ih =>
      intro i h
      by_cases hp : lkP f s u v i = true
      · rw [fstP_t hp] at h
        cases h
        exact ⟨by omega, hp⟩
      · rw [fstP_f hp] at h
        have := ih (i + 1) h
        exact ⟨by omega, this.2⟩
  have := key _ _ h
  exact ⟨by omega, this.2⟩
section acts
variable {d : Nat} {ro : Nat → Nat} {μ : Hp} {A : Nat → Nat} {B : Bk} {f : Nat → Int32} {si : Nat}
/-- a state that is looked at: now or the scratch one -/
def cAt (μ : Hp) (A : Nat → Nat) (B : Bk) (f : Nat → Int32) (si : Nat) : Prop := (si = 33 ∨ si = 35) ∧ (cSh μ A ∧ cInj A) ∧ (hI μ (A 39) 5 = nI B.nl ∧ hI μ (A 39) 6 = nI B.nf ∧ hI μ (A 39) 7 = nI B.nt) ∧ (hI μ (A 42) = B.lw ∧ hI μ (A 43) = B.lo ∧ hI μ (A 44) = B.tr) ∧ B.ok ∧ (hI μ (A (si + 1)) = f ∧ B.row f ∧ hI μ (A si) 2 = -1 ∧ hI μ (A si) 3 = -1) ∧ hI μ (A 14) 8 = 0
theorem cAt.st (h : cAt μ A B f si) : isSt μ (A si) (A (si + 1)) ∧ hR μ (A si) 1 = some (A 39) := by
  obtain ⟨hsi, ⟨h1, -⟩, -⟩ := h
  rcases hsi with rfl | rfl
  · exact ⟨h1.st, h1.r 33 1 39⟩
  · exact ⟨h1.sc, h1.r 35 1 39⟩
theorem cQ.at (h : cQ μ A B f) : cAt μ A B f 33 := ⟨Or.inl rfl, h.1, h.2.1, h.2.2.1, h.2.2.2.1, h.2.2.2.2.1, h.2.2.2.2.2.1⟩
theorem cQ.sc {g : Nat → Int32} (h : cQ μ A B f) (hg : hI μ (A 36) = g) (hr : B.row g) (hp : hI μ (A 35) 2 = -1 ∧ hI μ (A 35) 3 = -1) : cAt μ A B g 35 := ⟨Or.inr rfl, h.1, h.2.1, h.2.2.1, h.2.2.2.1, ⟨hg, hr, hp⟩, h.2.2.2.2.2.1⟩
/-- a refusal -/
theorem c_aPass {n : Int32} (h : cAt μ A B f si) : xC d yX1_againstPass cX1_againstPass 2 (some .int) 0 0 [.ref (A si), .int n] μ ro (fun r μ' => μ' = μ ∧ r = some (.int (rPass B f n))) := by
  obtain ⟨hst, hbk⟩ := h.st
  obtain ⟨-, ⟨h1, h2⟩, h3, -, hB, ⟨hf, -⟩, -⟩ := h
  have hnf := hB.1.1.2.1
  unfold rPass
  refine I_X1_againstPass (fun J g hr => B_X1_againstPass_0 g hr hst.1 hbk (h1.s 39 6 9) hst.2.1 hst.2.2 ?_)
  rw [h3.2.1, hf]
  refine ⟨fun c => ?_, fun c => ?_⟩
  · have c' : ¬ B.nf = 0 := fun e => c (by rw [e]; rfl)
    rw [if_neg c']
    refine ⟨fun c1 => ⟨rfl, by rw [if_pos (Or.inl c1)]⟩, fun c1 => ⟨fun c2 => ⟨lit_in 0 (by omega) (by omega), ?_⟩, fun c2 => ⟨rfl, by rw [if_pos (Or.inr c2)]⟩⟩⟩
    rw [if_neg (not_or.mpr ⟨c1, nn c2⟩)]
    exact ⟨fun c3 => ⟨rfl, by rw [if_pos c3]⟩, fun c3 => ⟨rfl, by rw [if_neg c3]⟩⟩
  · have c' : B.nf = 0 := by
      rcases Nat.eq_zero_or_pos B.nf with e | e
      · exact e
      · exact absurd c (nI_ne0 e (by omega))
    rw [if_pos c']
    exact ⟨rfl, rfl⟩
theorem off_i {v : Int32} (c : Nat) (h : v = nI (cl v)) : Int32.ofNat c + v = nI (c + cl v) := by
  have := i_off c (cl v)
  rw [← h] at this
  exact this
theorem c_aStaff {v n : Int32} (hd : 1 ≤ d) (h : cAt μ A B f si) : xC d yX1_againstStaff cX1_againstStaff 3 (some .int) 0 0 [.ref (A si), .int v, .int n] μ ro (fun r μ' => μ' = μ ∧ r = some (.int (rStaff B f v n))) := by
  obtain ⟨hst, hbk⟩ := h.st
  obtain ⟨-, ⟨h1, h2⟩, h3, -, hB, ⟨hf, -⟩, -⟩ := h
  have hnf := hB.1.1.2.1
  unfold rStaff
  refine I_X1_againstStaff (fun J g hr => B_X1_againstStaff_0 g hr hst.1 hbk (h1.s 39 6 9) hst.2.1 hst.2.2 hd ?_)
  rw [h3.2.1, hf]
  refine ⟨fun c => ⟨rfl, by rw [if_pos (fun q => q.1 c)]⟩, fun c1 => ⟨fun c => ⟨rfl, by rw [if_pos (fun q => q.2 c)]⟩, fun c2 => ?_⟩⟩
  have hv : inN v B.nf := ⟨c1, c2⟩
  obtain ⟨e1, k1⟩ := hv.ex (by omega)
  rw [if_neg (nn hv)]
  refine ⟨fun c => ⟨rfl, by rw [if_pos (Or.inl c)]⟩, fun c3 => ⟨fun c4 => ?_, fun c => ⟨rfl, by rw [if_pos (Or.inr c)]⟩⟩⟩
  rw [if_neg (not_or.mpr ⟨c3, nn c4⟩), show (2 : Int32) + v = nI (2 + cl v) from off_i 2 e1, nI_clamp (by omega)]
  exact ⟨vp_in_nI (by omega) (by omega), fun c => ⟨rfl, by rw [if_neg c]⟩, fun c => ⟨rfl, by rw [if_pos c]⟩⟩
theorem c_aOwn {v o s : Int32} (hd : 1 ≤ d) (h : cAt μ A B f si) : xC d yX1_againstOwn cX1_againstOwn 6 (some .int) 0 0 [.ref (A si), .int v, .int o, .int s] μ ro (fun r μ' => μ' = μ ∧ r = some (.int (rOwn B f v o s))) := by
  obtain ⟨hst, hbk⟩ := h.st
  obtain ⟨-, ⟨h1, h2⟩, h3, -, hB, ⟨hf, hrow, -⟩, -⟩ := h
  have hnf := hB.1.1.2.1
  have n16 := hrow.1.2.1
  unfold rOwn
  refine I_X1_againstOwn (fun J g hr => B_X1_againstOwn_0 g hr hst.1 hbk (h1.s 39 6 9) hd ?_)
  rw [h3.2.1]
  refine ⟨fun c => ⟨rfl, by rw [if_pos (fun q => q.1.1 c)]⟩, fun c1 => ⟨fun c => ⟨rfl, by rw [if_pos (fun q => q.1.2 c)]⟩, fun c2 => ⟨fun c => ⟨rfl, by rw [if_pos (fun q => q.2.1 c)]⟩, fun c3 => ⟨fun c => ⟨rfl, by rw [if_pos (fun q => q.2.2 c)]⟩, fun c4 => ?_⟩⟩⟩⟩
  rw [if_neg (nn ⟨⟨c1, c2⟩, ⟨c3, c4⟩⟩)]
  refine ⟨fun c => ⟨rfl, by rw [if_pos (Or.inl c)]⟩, fun c5 => ⟨fun c6 => ?_, fun c => ⟨rfl, by rw [if_pos (Or.inr c)]⟩⟩⟩
  rw [if_neg (not_or.mpr ⟨c5, nn c6⟩)]
  refine xCall_of (c_linkOf (d := d - 1) (n := cl (f 1)) hst (by rw [hf]; exact hrow.1.1) n16) (by omega) ?_
  rintro r μ ⟨rfl, rfl⟩
  rw [hf, show fstP (lkP f 0 v o) 0 (cl (f 1)) = lkA f 0 v o from rfl]
  cases hk : lkA f 0 v o with
  | none =>
    rw [show wasS f none = 0 from rfl]
    refine ⟨_, rfl, fun c => absurd rfl c, fun _ => ⟨fun c => ⟨rfl, by rw [if_pos (Or.inl c)]⟩, fun c => ⟨fun c7 => ⟨fun c8 => absurd rfl c8, fun _ => ⟨hst.1, _, hst.2.1, _, hst.2.2, lit_in 1 (by omega) (by omega), ?_⟩⟩, fun c7 => ⟨rfl, by rw [if_pos (Or.inr c7)]⟩⟩⟩⟩
    rw [hf, if_neg (not_or.mpr ⟨c, c7⟩)]
    exact ⟨fun c9 => ⟨rfl, by rw [if_neg (fun q => q.2 c9)]⟩, fun c9 => ⟨rfl, by rw [if_pos ⟨rfl, c9⟩]⟩⟩
  | some k =>
    have hkn := (lkA_lt hrow hk).1
    rw [show wasS f (some k) = f (80 + k) from rfl]
    have e80 : (80 : Int32) + oI (some k) = nI (80 + k) := i_off 80 k
    refine ⟨_, rfl, fun _ => ⟨hst.1, _, hst.2.1, _, hst.2.2, ?_⟩, fun c => absurd c (oI_ne (by omega))⟩
    rw [e80, nI_clamp (by omega), hf]
    refine ⟨vp_in_nI (by omega) (by omega), fun c => ⟨rfl, by rw [if_pos (Or.inl c)]⟩, fun c => ⟨fun c7 => ⟨fun _ => ⟨rfl, ?_⟩, fun c8 => absurd c8 (oI_ne (by omega))⟩, fun c7 => ⟨rfl, by rw [if_pos (Or.inr c7)]⟩⟩⟩
    rw [if_neg (not_or.mpr ⟨c, c7⟩), if_neg (fun q => by cases q.1)]
theorem c_aLend {v o : Int32} (hd : 1 ≤ d) (h : cAt μ A B f si) : xC d yX1_againstLend cX1_againstLend 4 (some .int) 0 0 [.ref (A si), .int v, .int o] μ ro (fun r μ' => μ' = μ ∧ r = some (.int (rLend B f v o))) := by
  obtain ⟨hst, hbk⟩ := h.st
  obtain ⟨-, ⟨h1, h2⟩, h3, -, hB, ⟨hf, hrow, -⟩, -⟩ := h
  have n16 := hrow.1.2.1
  unfold rLend
  refine I_X1_againstLend (fun J g hr => B_X1_againstLend_0 g hr hst.1 hbk (h1.s 39 6 9) hst.2.1 hst.2.2 hd ?_)
  rw [h3.2.1]
  refine ⟨fun c => ⟨rfl, by rw [if_pos (fun q => q.1.1 c)]⟩, fun c1 => ⟨fun c => ⟨rfl, by rw [if_pos (fun q => q.1.2 c)]⟩, fun c2 => ⟨fun c => ⟨rfl, by rw [if_pos (fun q => q.2.1 c)]⟩, fun c3 => ⟨fun c => ⟨rfl, by rw [if_pos (fun q => q.2.2 c)]⟩, fun c4 => ?_⟩⟩⟩⟩
  rw [if_neg (nn ⟨⟨c1, c2⟩, ⟨c3, c4⟩⟩)]
  refine ⟨fun c5 => ⟨lit_in 1 (by omega) (by omega), ?_⟩, fun c => ⟨rfl, by rw [if_pos c]⟩⟩
  rw [hf, if_neg c5]
  refine ⟨fun c6 => ⟨rfl, by rw [if_neg (fun q => q.2 c6)]⟩, fun c6 => xCall_of (c_linkOf (d := d - 1) (n := cl (f 1)) hst (by rw [hf]; exact hrow.1.1) n16) (by omega) ?_⟩
  rintro r μ ⟨rfl, rfl⟩
  rw [hf, show fstP (lkP f 1 v o) 0 (cl (f 1)) = lkA f 1 v o from rfl]
  cases hk : lkA f 1 v o with
  | none => exact ⟨_, rfl, fun c => absurd rfl c, fun _ => ⟨rfl, by rw [if_pos ⟨rfl, c6⟩]⟩⟩
  | some k =>
    have hkn := (lkA_lt hrow hk).1
    exact ⟨_, rfl, fun _ => ⟨rfl, by rw [if_neg (fun q => by cases q.1)]⟩, fun c => absurd c (oI_ne (by omega))⟩
/-- what a search leaves alone -/
def sFr (A : Nat → Nat) (μ μ' : Hp) : Prop := qFr A μ μ' ∧ hI μ' (A 35) = hI μ (A 35) ∧ hI μ' (A 36) = hI μ (A 36)
theorem sFr.rf {A : Nat → Nat} {μ : Hp} : sFr A μ μ := ⟨qFr.rf, rfl, rfl⟩
theorem cAt.fr {μ' : Hp} (h : cAt μ A B f si) (hF : sFr A μ μ') : cAt μ' A B f si := by
  obtain ⟨hsi, ⟨h1, h2⟩, h3, h4, h5, h6, h7⟩ := h
  obtain ⟨hq, q5, q6⟩ := hF
  refine ⟨hsi, ⟨h1.fr hq.1, h2⟩, ?_, ?_, h5, ?_, ?_⟩
  · rw [hq.1.o h2 39]; exact h3
  · rw [hq.1.o h2 42, hq.1.o h2 43, hq.1.o h2 44]; exact h4
  · rcases hsi with rfl | rfl
    · rw [hq.1.o h2 34, hq.1.o h2 33]; exact h6
    · rw [q6, q5]; exact h6
  · rw [hq.2.1]; exact h7
theorem c_aPay {s u t a : Int32} (hd : 10 ≤ d) (h : cAt μ A B f si) : xC d yX1_againstPay cX1_againstPay 6 (some .int) 0 0 [.ref (A 23), .ref (A si), .int s, .int u, .int t, .int a] μ ro (fun r μ' => sFr A μ μ' ∧ r = some (.int (rPay B f s u t a)) ∧ (rPay B f s u t a = -1 → asked B.nf s u t a ∧ ∃ w, wayOf B f (-1) (-1) false s (cl u) (cl t) (cl a) 0 = some w ∧ cBest μ' A (B.D f (-1) (-1) s (cl t)) (cl u) (cl a) w)) := by
  obtain ⟨hst, hbk⟩ := h.st
  obtain ⟨hsi, ⟨h1, h2⟩, h3, h4, hB, ⟨hf, hrow, hp⟩, h8⟩ := h
  have hnf := hB.1.1.2.1
  refine I_X1_againstPay (fun J g hr => B_X1_againstPay_0 g hr hst.1 hbk (h1.s 39 6 9) (h1.s 23 5 1) (h1.r 23 0 14) (h1.s 14 7 9) (by omega) ?_)
  rw [h3.2.1]
  have z0 : ¬ (inN u B.nf ∧ inN t B.nf) → sFr A μ μ ∧ some (Value.int 0) = some (.int (rPay B f s u t a)) ∧ (rPay B f s u t a = -1 → asked B.nf s u t a ∧ ∃ w, wayOf B f (-1) (-1) false s (cl u) (cl t) (cl a) 0 = some w ∧ cBest μ A (B.D f (-1) (-1) s (cl t)) (cl u) (cl a) w) := fun c => by
    have e : rPay B f s u t a = 0 := by unfold rPay; rw [if_pos c]
    rw [e]
    exact ⟨sFr.rf, rfl, fun q => absurd q (by decide)⟩
  refine ⟨fun c => z0 (fun q => q.1.1 c), fun c1 => ⟨fun c => z0 (fun q => q.1.2 c), fun c2 => ⟨fun c => z0 (fun q => q.2.1 c), fun c3 => ⟨fun c => z0 (fun q => q.2.2 c), fun c4 => ?_⟩⟩⟩⟩
  have hin : inN u B.nf ∧ inN t B.nf := ⟨⟨c1, c2⟩, ⟨c3, c4⟩⟩
  have z1 : ¬ ((s = 0 ∨ s = 1) ∧ ¬ a < 1 ∧ ¬ 1000000 < a) → sFr A μ μ ∧ some (Value.int 1) = some (.int (rPay B f s u t a)) ∧ (rPay B f s u t a = -1 → asked B.nf s u t a ∧ ∃ w, wayOf B f (-1) (-1) false s (cl u) (cl t) (cl a) 0 = some w ∧ cBest μ A (B.D f (-1) (-1) s (cl t)) (cl u) (cl a) w) := fun c => by
    have e : rPay B f s u t a = 1 := by unfold rPay; rw [if_neg (nn hin), if_pos c]
    rw [e]
    exact ⟨sFr.rf, rfl, fun q => absurd q (by decide)⟩
  refine ⟨fun c => ?_, fun c => ⟨fun c' => z1 (fun q => q.1.elim c c'), fun c' => ?_⟩⟩
  all_goals
    have hs : s = 0 ∨ s = 1 := by first | exact Or.inl ‹_› | exact Or.inr ‹_›
    refine ⟨fun c => z1 (fun q => q.2.1 c), fun c5 => ⟨fun c => z1 (fun q => q.2.2 c), fun c6 => ?_⟩⟩
    have ha1 : (s = 0 ∨ s = 1) ∧ ¬ a < 1 ∧ ¬ 1000000 < a := ⟨hs, c5, c6⟩
    refine ⟨fun c => ?_, fun c7 => ?_⟩
    · have e : rPay B f s u t a = 2 := by unfold rPay; rw [if_neg (nn hin), if_neg (nn ha1), if_pos (Or.inl c)]
      rw [e]
      exact ⟨sFr.rf, rfl, fun q => absurd q (by decide)⟩
    · have ha : asked B.nf s u t a := ⟨hs, hin.1, hin.2, c7, c5, c6⟩
      obtain ⟨-, ⟨e2, k2⟩, ⟨e3, k3⟩, -, e4, -, k4⟩ := ha.ex hnf
      have key := c_cFind (ro := ro) (s := s) (sp := false) (M := 0) (d := d) (by omega) hsi h1 h2 h3 h4 hB hf hrow hp (by rw [h8]; rfl) k2 k3 k4 (by omega)
      rw [← e2, ← e3, ← e4] at key
      refine key.mono (Nat.le_refl _) ?_
      rintro r μ' ⟨g1, g2, g3, -, rfl, g6, g7⟩
      cases hw : wayOf B f (-1) (-1) false s (cl u) (cl t) (cl a) 0 with
      | none =>
        have e : rPay B f s u t a = 2 := by unfold rPay; rw [if_neg (nn hin), if_neg (nn ha1), if_pos (Or.inr hw)]
        rw [e]
        exact ⟨_, rfl, fun c => absurd (if_pos (g6.mpr hw)) c, fun _ => ⟨⟨g1, g2, g3⟩, rfl, fun q => absurd q (by decide)⟩⟩
      | some w =>
        have e : rPay B f s u t a = -1 := by unfold rPay; rw [if_neg (nn hin), if_neg (nn ha1), if_neg (not_or.mpr ⟨c7, by rw [hw]; simp⟩)]
        rw [e]
        have hz : ¬ (waysD (B.D f (-1) (-1) s (cl t)) 5 (cl u) (tM 0 (cl u))).length = 0 := fun q => by
          have := g6.mp q
          rw [hw] at this
          cases this
        exact ⟨_, rfl, fun _ => ⟨⟨g1, g2, g3⟩, rfl, fun _ => ⟨ha, w, rfl, g7 w hw⟩⟩, fun c => absurd c (by rw [if_neg hz]; decide)⟩
theorem c_reason {act a b c e : Int32} (hd : 11 ≤ d) (h : cAt μ A B f si) : xC d yX1_reasonAgainst cX1_reasonAgainst 7 (some .int) 0 0 [.ref (A 23), .ref (A si), .int act, .int a, .int b, .int c, .int e] μ ro (fun r μ' => sFr A μ μ' ∧ r = some (.int (rsn B f act a b c e)) ∧ (rsn B f act a b c e = -1 → act = 0 → asked B.nf a b c e ∧ ∃ w, wayOf B f (-1) (-1) false a (cl b) (cl c) (cl e) 0 = some w ∧ cBest μ' A (B.D f (-1) (-1) a (cl c)) (cl b) (cl e) w)) := by
  have h1 := h.2.1.1
  refine I_X1_reasonAgainst (fun J g hr => B_X1_reasonAgainst_0 g hr (h1.s 23 5 1) ⟨fun q => xCall_of (c_aLend (d := d - 1) (by omega) h) (by omega) ?_, fun q => xCall_of (c_aPay (d := d - 1) (by omega) h) (by omega) ?_, fun q => xCall_of (c_aPass (d := d - 1) h) (by omega) ?_, fun q => xCall_of (c_aStaff (d := d - 1) (by omega) h) (by omega) ?_, fun q => xCall_of (c_aOwn (d := d - 1) (by omega) h) (by omega) ?_⟩)
  · rintro r μ ⟨rfl, rfl⟩
    have n : ∀ k : Int32, k.toInt ≥ 0 → k.toInt ≤ 3 → ¬ act = k := fun k h1 h2 e => by subst e; omega
    refine ⟨_, rfl, sFr.rf, ?_, fun _ q0 => absurd q0 (n 0 (by decide) (by decide))⟩
    unfold rsn
    rw [if_neg (n 0 (by decide) (by decide)), if_neg (n 1 (by decide) (by decide)), if_neg (n 2 (by decide) (by decide)), if_neg (n 3 (by decide) (by decide))]
  · rintro r μ' ⟨g1, rfl, g3⟩
    subst q
    exact ⟨_, rfl, g1, rfl, fun q _ => g3 q⟩
  · rintro r μ ⟨rfl, rfl⟩
    subst q
    exact ⟨_, rfl, sFr.rf, rfl, fun _ q0 => absurd q0 (by decide)⟩
  · rintro r μ ⟨rfl, rfl⟩
    subst q
    exact ⟨_, rfl, sFr.rf, rfl, fun _ q0 => absurd q0 (by decide)⟩
  · rintro r μ ⟨rfl, rfl⟩
    subst q
    exact ⟨_, rfl, sFr.rf, rfl, fun _ q0 => absurd q0 (by decide)⟩
end acts
