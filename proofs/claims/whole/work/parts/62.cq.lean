/-! the class's queries of ways -/
section cq
variable {d : Nat} {ro : Nat → Nat} {μ : Hp} {A : Nat → Nat} {B : Bk} {f : Nat → Int32} {s u t a : Int32}
theorem c_isAsked (hd : 1 ≤ d) (h : cQ μ A B f) : xC d yX11_isAsked cX11_isAsked 5 (some .boolean) 0 0 [.ref (A 0), .int s, .int u, .int t, .int a] μ ro (fun r μ' => μ' = μ ∧ r = some (.int (if asked B.nf s u t a then 1 else 0))) := by
  obtain ⟨⟨h1, h2⟩, ⟨-, h3, -⟩, -⟩ := h
  refine I_X11_isAsked (fun J g hr => B_X11_isAsked_0 g hr (h1.s 0 14 18) (h1.r 0 13 39) (h1.s 39 6 9) hd ?_)
  rw [h3]
  have no : ¬ asked B.nf s u t a → μ = μ ∧ some (Value.int 0) = some (.int (if asked B.nf s u t a then 1 else 0)) := fun h => by rw [if_neg h]; exact ⟨rfl, rfl⟩
  have yes : asked B.nf s u t a → μ = μ ∧ some (Value.int 1) = some (.int (if asked B.nf s u t a then 1 else 0)) := fun h => by rw [if_pos h]; exact ⟨rfl, rfl⟩
  refine ⟨fun c => ?_, fun c => ⟨fun c' => no (fun q => q.1.elim c c'), fun c' => ?_⟩⟩
  all_goals
    have hs : s = 0 ∨ s = 1 := by first | exact Or.inl ‹_› | exact Or.inr ‹_›
    exact ⟨fun h => no (fun q => q.2.1.1 h), fun k1 => ⟨fun h => no (fun q => q.2.1.2 h), fun k2 => ⟨fun h => no (fun q => q.2.2.1.1 h), fun k3 => ⟨fun h => no (fun q => q.2.2.1.2 h), fun k4 => ⟨fun h => no (fun q => q.2.2.2.1 h), fun k5 => ⟨fun h => no (fun q => q.2.2.2.2.1 h), fun k6 => ⟨fun h => no (fun q => q.2.2.2.2.2 h), fun k7 => yes ⟨hs, ⟨k1, k2⟩, ⟨k3, k4⟩, k5, k6, k7⟩⟩⟩⟩⟩⟩⟩⟩
/-- a search as things are, of what is asked for -/
theorem q_find {sp : Bool} {M : Nat} (hd : 9 ≤ d) (h : cQ μ A B f) (hsp : sp = false) (ha : asked B.nf s u t a) (hM : M < 256) :
    xCall d yX3_find cX3_find 7 (some .boolean) [.ref (A 14), .ref (A 33), .int s, .int u, .int t, .int a, .int (nI M)] μ ro (fun r μ' => qFr A μ μ' ∧ hI μ' (A 35) = hI μ (A 35) ∧ hI μ' (A 36) = hI μ (A 36) ∧
      hI μ' (A 14) 1 = nI (waysD (B.D f (-1) (-1) s (cl t)) 5 (cl u) (tM M (cl u))).length ∧ r = some (.int (if wayOf B f (-1) (-1) sp s (cl u) (cl t) (cl a) M = none then 0 else 1)) ∧ ∀ w, wayOf B f (-1) (-1) sp s (cl u) (cl t) (cl a) M = some w → cBest μ' A (B.D f (-1) (-1) s (cl t)) (cl u) (cl a) w) := by
  obtain ⟨⟨h1, h2⟩, h3, h4, h5, ⟨h6, h7, h8⟩, h9, -⟩ := h
  obtain ⟨-, ⟨e2, k2⟩, ⟨e3, k3⟩, -, e4, -, k4⟩ := ha.ex h5.1.1.2.1
  subst hsp
  have key := c_cFind (ro := ro) (s := s) (sp := false) (M := M) hd (Or.inl rfl) h1 h2 h3 h4 h5 h6 h7 h8 (by rw [h9]; rfl) k2 k3 k4 hM
  rw [← e2, ← e3, ← e4] at key
  refine key.mono (Nat.le_refl _) ?_
  rintro r μ' ⟨g1, g2, g3, g4, g5, g6, g7⟩
  refine ⟨g1, g2, g3, g4, ?_, g7⟩
  rw [g5]
  by_cases hz : (waysD (B.D f (-1) (-1) s (cl t)) 5 (cl u) (tM M (cl u))).length = 0
  · rw [if_pos hz, if_pos (g6.mp hz)]
  · rw [if_neg hz, if_neg (fun q => hz (g6.mpr q))]
/-- the answer of isFound, and what lies then -/
abbrev cFound (A : Nat → Nat) (B : Bk) (f : Nat → Int32) (s u t a : Int32) (μ : Hp) (r : Option Value) (μ' : Hp) : Prop :=
  qFr A μ μ' ∧ ((r = some (.int 0) ∧ fndA B f s u t a = none) ∨ (r = some (.int 1) ∧ asked B.nf s u t a ∧ ∃ w, fndA B f s u t a = some w ∧ wayOf B f (-1) (-1) false s (cl u) (cl t) (cl a) 0 = some w ∧ cBest μ' A (B.D f (-1) (-1) s (cl t)) (cl u) (cl a) w))
theorem c_isFound (hd : 10 ≤ d) (h : cQ μ A B f) : xC d yX11_isFound cX11_isFound 5 (some .boolean) 0 0 [.ref (A 0), .int s, .int u, .int t, .int a] μ ro (cFound A B f s u t a μ) := by
  have hsh := h.1.1
  refine I_X11_isFound (fun J g hr => B_X11_isFound_0 g hr (hsh.s 0 14 18) (xCall_of (c_isAsked (d := d - 1) (by omega) h) (by omega) ?_))
  rintro r μ1 ⟨rfl, rfl⟩
  by_cases ha : asked B.nf s u t a
  · rw [if_pos ha]
    refine ⟨_, rfl, fun h => absurd h (by decide), fun _ => ⟨hsh.s 0 14 18, _, hsh.r 0 2 14, _, hsh.r 0 10 33, hsh.s 14 7 9, (q_find (d := d) (sp := false) (M := 0) (by omega) h rfl ha (by omega)).mono (Nat.le_refl _) ?_⟩⟩
    rintro r μ' ⟨g1, -, -, -, rfl, g6⟩
    cases hw : wayOf B f (-1) (-1) false s (cl u) (cl t) (cl a) 0 with
    | none => exact ⟨_, rfl, fun _ => ⟨g1, Or.inl ⟨rfl, by unfold fndA; rw [if_pos ha]; exact hw⟩⟩, fun h => absurd (if_pos rfl) h⟩
    | some w => exact ⟨_, rfl, fun h => absurd h (by rw [if_neg (by simp)]; decide), fun _ => ⟨g1, Or.inr ⟨rfl, ha, w, by unfold fndA; rw [if_pos ha]; exact hw, hw, g6 w hw⟩⟩⟩
  · rw [if_neg ha]
    exact ⟨_, rfl, fun _ => ⟨qFr.rf, Or.inl ⟨rfl, by unfold fndA; rw [if_neg ha]⟩⟩, fun h => absurd rfl h⟩
theorem wR_id {μ : Hp} {a k : Nat} {x : Option Nat} (h : hR μ a k = x) : wR μ a k x = μ := by
  show (hI μ, hL μ, va_up (hR μ) a (va_up (hR μ a) k x), hS μ) = μ
  rw [← h, va_up_id, va_up_id]
  rfl
/-- what is in the scratch state -/
theorem q_copy (hd : 3 ≤ d) (h : cQ μ A B f) : xCall d yX8_copyFrom cX8_copyFrom 2 none [.ref (A 35), .ref (A 33)] μ ro (fun r μ' => r = none ∧ qFr A μ μ' ∧ (hI μ' (A 36) = f ∧ hI μ' (A 35) 2 = -1 ∧ hI μ' (A 35) 3 = -1) ∧ ∀ b, b ≠ A 35 → b ≠ A 36 → hI μ' b = hI μ b) := by
  obtain ⟨⟨h1, h2⟩, h3, h4, h5, ⟨h6, h7, h8⟩, h9, h10, h11⟩ := h
  refine xCall_of (c_copyFrom (d := d - 1) (by omega) h1.sc h1.st (h1.r 33 1 39)) (by omega) ?_
  rintro r μ' ⟨rfl, rfl⟩
  have hg : (fun j => if j < 112 then hI μ (A 34) j else hI μ (A 36) j) = f := funext fun j => by
    by_cases hj : j < 112
    · rw [if_pos hj, h6]
    · rw [if_neg hj, h11 j (by omega), h10 j (by omega)]
  rw [hg, wR_id (μ := wRow μ (A 36) f) (h1.r 35 1 39)]
  refine ⟨rfl, ((qFr.rf.sc h2 (fun j hj => ?_)).wi h2 35 2 _).wi h2 35 3 _, ⟨?_, ?_, ?_⟩, fun b hb1 hb2 => ?_⟩
  · rw [h10 j hj, h11 j hj]
  · rw [hI_wI_n _ _ _ (h2.ne 36 35), hI_wI_n _ _ _ (h2.ne 36 35), hI_wRow_s]
  · rw [hI_wI_s, upd_n _ (by decide), hI_wI_s, upd_s]
  · rw [hI_wI_s, upd_s]
  · rw [hI_wI_n _ _ _ hb1, hI_wI_n _ _ _ hb1, hI_wRow_n _ _ hb2]
theorem c_arrivesIn {g : Nat → Int32} {p q : Int32} {si : Nat} (hd : 10 ≤ d) (h : cQ μ A B f) (hsi : si = 33 ∨ si = 35) (hg : hI μ (A (si + 1)) = g) (hrow : B.row g) (hp : hI μ (A si) 2 = p ∧ hI μ (A si) 3 = q) (ha : asked B.nf s u t a) :
    xC d yX11_arrivesIn cX11_arrivesIn 6 (some .int) 0 0 [.ref (A 0), .ref (A si), .int s, .int u, .int t, .int a] μ ro (fun r μ' => qFr A μ μ' ∧ (hI μ' (A 35) = hI μ (A 35) ∧ hI μ' (A 36) = hI μ (A 36)) ∧ r = some (.int (arrOf B g p q s (cl u) (cl t) (cl a) 0)) ∧ ∀ w, wayOf B g p q false s (cl u) (cl t) (cl a) 0 = some w → cBest μ' A (B.D g p q s (cl t)) (cl u) (cl a) w) := by
  obtain ⟨⟨h1, h2⟩, h3, h4, h5, -, h9, -⟩ := id h
  obtain ⟨-, ⟨e2, k2⟩, ⟨e3, k3⟩, -, e4, -, k4⟩ := ha.ex h5.1.1.2.1
  refine I_X11_arrivesIn (fun J g' hr => B_X11_arrivesIn_0 g' hr (h1.s 0 14 18) (h1.r 0 2 14) (h1.s 14 7 9) ?_)
  have key := c_cFind (ro := ro) (s := s) (sp := false) (M := 0) (d := d) (by omega) hsi h1 h2 h3 h4 h5 hg hrow hp (by rw [h9]; rfl) k2 k3 k4 (by omega)
  rw [← e2, ← e3, ← e4] at key
  refine key.mono (Nat.le_refl _) ?_
  rintro r μ' ⟨g1, g2, g3, -, rfl, g6, g7⟩
  cases hw : wayOf B g p q false s (cl u) (cl t) (cl a) 0 with
  | none =>
    rw [hw] at g7
    refine ⟨_, rfl, fun _ => ⟨g1, ⟨g2, g3⟩, ?_, g7⟩, fun c => absurd (if_pos (g6.mpr hw)) c⟩
    unfold arrOf; rw [hw]
  | some w =>
    rw [hw] at g7
    have hz : ¬ (waysD (B.D g p q s (cl t)) 5 (cl u) (tM 0 (cl u))).length = 0 := fun q => by
      have := g6.mp q
      rw [hw] at this
      cases this
    have hs' := (h.fr g1).1.1
    refine ⟨_, rfl, fun c => absurd c (by rw [if_neg hz]; decide), fun _ => ⟨hs'.s 0 14 18, _, hs'.r 0 2 14, hs'.s 14 7 9, _, hs'.r 14 0 15, hs'.s 15 13 5, g1, ⟨g2, g3⟩, ?_, g7⟩⟩
    rw [(g7 w rfl).2.2.2.2.1]
    unfold arrOf; rw [hw]
/-- treaties and hops as things are -/
theorem q_ft (hd : 3 ≤ d) (h : cQ μ A B f) : xCall d yX3_findTreaties cX3_findTreaties 6 none [.ref (A 14), .ref (A 33)] μ ro (fun r μ' => r = none ∧ qFr A μ μ' ∧ ∀ l m, l < B.nl → m < B.nl → l ≠ m → hI μ' (A 20) (l * 6 + m) = oI (tAf B.tr B.nt (f 0) (-1) (-1) l m)) := by
  obtain ⟨⟨h1, h2⟩, h3, h4, h5, ⟨h6, h7, h8⟩, h9, h10, h11⟩ := h
  refine xCall_of (c_findTreaties (d := d - 1) (nl := B.nl) (nt := B.nt) (by omega) h1.fd h1.st (h1.r 33 1 39) h1.bk h3.1 h5.1.1.1 h3.2.2 h5.1.1.2.2 (h2.ne 20 34) (h2.ne 20 44)) (by omega) ?_
  rintro r μ' ⟨rfl, F, rfl, hF⟩
  refine ⟨rfl, ⟨Fr.row (by simp), by rw [hI_wRow_n _ _ (h2.ne 14 20)], fun j _ => by rw [hI_wRow_n _ _ (h2.ne 36 20)]⟩, fun l m hl hm hn => ?_⟩
  rw [hI_wRow_s, hF l m hl hm hn]
  unfold tAof tAf
  rw [h8.1, h8.2, h4.2.2, h6]
theorem q_jh {ow : Nat} (hd : 3 ≤ d) (h : cQ μ A B f) (hT : ∀ l m, l < B.nl → m < B.nl → l ≠ m → hI μ (A 20) (l * 6 + m) = oI (tAf B.tr B.nt (f 0) (-1) (-1) l m)) (ho : ow < B.nf) :
    xCall d yX3_judgeHops cX3_judgeHops 6 none [.ref (A 14), .ref (A 33), .int s, .int (nI ow)] μ ro (fun r μ' => r = none ∧ qFr A μ μ' ∧ ∀ u v, u < 8 → v < 8 → hI μ' (A 17) (u * 8 + v) = oI ((B.D f (-1) (-1) s ow).lk u v) ∧ ∀ k, (B.D f (-1) (-1) s ow).lk u v = some k → hI μ' (A 19) (u * 8 + v) = nI ((B.D f (-1) (-1) s ow).ar k) ∧ hI μ' (A 18) (u * 8 + v) = nI ((B.D f (-1) (-1) s ow).rt k)) := by
  obtain ⟨⟨h1, h2⟩, h3, h4, h5, ⟨h6, h7, h8⟩, h9, h10, h11⟩ := h
  have hb := h5.1
  have hnl6 := hb.1.1
  have hnf8 := hb.1.2.1
  have n16 := h7.1.2.1
  refine xCall_of (c_judgeHops (d := d - 1) (s := s) (n := cl (f 1)) (nf := B.nf) (nl := B.nl) (ow := ow) (tA := tAf B.tr B.nt (f 0) (-1) (-1)) (sr := fun k => cl (f (32 + k))) (fi := fun k => cl (f (48 + k))) (se := fun k => cl (f (64 + k))) (ld := fun j => cl (B.lo j)) (by omega) h1.fd h1.st (h1.r 33 1 39) h1.bk (by rw [h6]; exact h7.1.1) ?_ ho hT (fun l m t h => Nat.lt_of_lt_of_le (tAf_lt h) hb.1.2.2) (h2.ne 17 19) (h2.ne 17 18) (h2.ne 19 18) ?_) (by omega) ?_
  · refine ⟨n16, hnf8, hnl6, fun k hk => ?_, fun j hj => ?_⟩
    · obtain ⟨k1, k2, k3, -⟩ := h7.2.1 k hk
      rw [h6]
      exact ⟨(k1.cl (by omega)).1, (k1.cl (by omega)).2, (k2.cl (by omega)).1, (k2.cl (by omega)).2, (k3.cl (by omega)).1, (k3.cl (by omega)).2⟩
    · rw [h4.2.1]
      exact (hb.2.1 j hj).cl (by omega)
  · intro b hb
    simp only [List.mem_cons, List.not_mem_nil, or_false] at hb
    rcases hb with rfl | rfl | rfl | rfl | rfl
    · exact ⟨h2.ne 34 17, h2.ne 34 19, h2.ne 34 18⟩
    · exact ⟨h2.ne 43 17, h2.ne 43 19, h2.ne 43 18⟩
    · exact ⟨h2.ne 20 17, h2.ne 20 19, h2.ne 20 18⟩
    · exact ⟨h2.ne 44 17, h2.ne 44 19, h2.ne 44 18⟩
    · exact ⟨h2.ne 42 17, h2.ne 42 19, h2.ne 42 18⟩
  rintro r μ' ⟨rfl, L, AA, RR, rfl, hL⟩
  refine ⟨rfl, ⟨?_, ?_, fun j _ => ?_⟩, fun u v hu hv => ?_⟩
  · unfold M3
    exact ((Fr.rf.w2 (by simp)).w2 (by simp)).w2 (by simp)
  · rw [M3_n (h2.ne 14 17) (h2.ne 14 19) (h2.ne 14 18)]
  · rw [M3_n (h2.ne 36 17) (h2.ne 36 19) (h2.ne 36 18)]
  · obtain ⟨e1, e2⟩ := hL u v hu hv
    rw [h6] at e1 e2
    have hlk : (B.D f (-1) (-1) s ow).lk u v = lstU (hpP f s u v) (cl (f 1)) := rfl
    rw [hlk, M3_la (h2.ne 17 19) (h2.ne 17 18), M3_aa (h2.ne 19 18), M3_ra]
    refine ⟨e1, fun k hk => ?_⟩
    obtain ⟨e3, e4⟩ := e2 k hk
    rw [e3, e4]
    unfold rateK artK
    rw [h6, h4.2.2, h4.1]
    exact ⟨rfl, ((rate_le (p := -1) (q := -1) (ow := ow) h7 hb (lstU_lt hk).1).cl (by omega)).1⟩
end cq
