/-! the model: a way is reckoned -/
theorem mN {μ : Hp} {m : Nat} {X : Nat → Nat} (hs : mSh μ m X) (hi : mInj X) : X 43 ≠ X 44 ∧ X 43 ≠ X 45 ∧ X 43 ≠ X 46 ∧ X 43 ≠ X 47 ∧ X 43 ≠ X 48 ∧ X 43 ≠ X 49 ∧ X 43 ≠ X 55 ∧ X 44 ≠ X 43 ∧ X 44 ≠ X 45 ∧ X 44 ≠ X 46 ∧ X 44 ≠ X 47 ∧ X 44 ≠ X 48 ∧ X 44 ≠ X 49 ∧ X 44 ≠ X 55 ∧ X 45 ≠ X 43 ∧ X 45 ≠ X 44 ∧ X 45 ≠ X 46 ∧ X 45 ≠ X 47 ∧ X 45 ≠ X 48 ∧ X 45 ≠ X 49 ∧ X 45 ≠ X 55 ∧ X 46 ≠ X 43 ∧ X 46 ≠ X 44 ∧ X 46 ≠ X 45 ∧ X 46 ≠ X 47 ∧ X 46 ≠ X 48 ∧ X 46 ≠ X 49 ∧ X 46 ≠ X 55 ∧ X 47 ≠ X 43 ∧ X 47 ≠ X 44 ∧ X 47 ≠ X 45 ∧ X 47 ≠ X 46 ∧ X 47 ≠ X 48 ∧ X 47 ≠ X 49 ∧ X 47 ≠ X 55 ∧ X 48 ≠ X 43 ∧ X 48 ≠ X 44 ∧ X 48 ≠ X 45 ∧ X 48 ≠ X 46 ∧ X 48 ≠ X 47 ∧ X 48 ≠ X 49 ∧ X 48 ≠ X 55 ∧ X 49 ≠ X 43 ∧ X 49 ≠ X 44 ∧ X 49 ≠ X 45 ∧ X 49 ≠ X 46 ∧ X 49 ≠ X 47 ∧ X 49 ≠ X 48 ∧ X 49 ≠ X 55 ∧ X 55 ≠ X 43 ∧ X 55 ≠ X 44 ∧ X 55 ≠ X 45 ∧ X 55 ≠ X 46 ∧ X 55 ≠ X 47 ∧ X 55 ≠ X 48 ∧ X 55 ≠ X 49 ∧ X 43 ≠ m ∧ m ≠ X 43 ∧ X 44 ≠ m ∧ m ≠ X 44 ∧ X 45 ≠ m ∧ m ≠ X 45 ∧ X 46 ≠ m ∧ m ≠ X 46 ∧ X 47 ≠ m ∧ m ≠ X 47 ∧ X 48 ≠ m ∧ m ≠ X 48 ∧ X 49 ≠ m ∧ m ≠ X 49 ∧ X 55 ≠ m ∧ m ≠ X 55 :=
  ⟨hi.ne 43 44, hi.ne 43 45, hi.ne 43 46, hi.ne 43 47, hi.ne 43 48, hi.ne 43 49, hi.ne 43 55, hi.ne 44 43, hi.ne 44 45, hi.ne 44 46, hi.ne 44 47, hi.ne 44 48, hi.ne 44 49, hi.ne 44 55, hi.ne 45 43, hi.ne 45 44, hi.ne 45 46, hi.ne 45 47, hi.ne 45 48, hi.ne 45 49, hi.ne 45 55, hi.ne 46 43, hi.ne 46 44, hi.ne 46 45, hi.ne 46 47, hi.ne 46 48, hi.ne 46 49, hi.ne 46 55, hi.ne 47 43, hi.ne 47 44, hi.ne 47 45, hi.ne 47 46, hi.ne 47 48, hi.ne 47 49, hi.ne 47 55, hi.ne 48 43, hi.ne 48 44, hi.ne 48 45, hi.ne 48 46, hi.ne 48 47, hi.ne 48 49, hi.ne 48 55, hi.ne 49 43, hi.ne 49 44, hi.ne 49 45, hi.ne 49 46, hi.ne 49 47, hi.ne 49 48, hi.ne 49 55, hi.ne 55 43, hi.ne 55 44, hi.ne 55 45, hi.ne 55 46, hi.ne 55 47, hi.ne 55 48, hi.ne 55 49, hs.ne 43, Ne.symm (hs.ne 43), hs.ne 44, Ne.symm (hs.ne 44), hs.ne 45, Ne.symm (hs.ne 45), hs.ne 46, Ne.symm (hs.ne 46), hs.ne 47, Ne.symm (hs.ne 47), hs.ne 48, Ne.symm (hs.ne 48), hs.ne 49, Ne.symm (hs.ne 49), hs.ne 55, Ne.symm (hs.ne 55)⟩
theorem lN_t {n : Nat} (h : n < 2 ^ 31) : (lN n).toInt32 = nI n := by
  rw [← nI_l h]
  exact Int32.toInt32_toInt64 _
theorem held_l {a b : Nat} (ha : a ≤ 1000000) (hb : b ≤ 1000) : ((nI a).toInt64 * (nI b).toInt64 / 1000).toInt32 = nI (a * b / 1000) := by
  have hm : a * b ≤ 1000000 * 1000 := Nat.mul_le_mul ha hb
  rw [nI_l (by omega), nI_l (by omega), show lN a * lN b = lN (a * b) from (Int64.ofNat_mul a b).symm]
  rw [show (1000 : Int64) = lN 1000 from rfl, pk_lDiv (by omega) (by omega) (by omega)]
  exact lN_t (by omega)
def chn (D : Hd) : Nat → List Nat → Prop
  | _, [] => True
  | u, v :: vs => (∃ k, D.lk u v = some k) ∧ v < D.nf ∧ chn D v vs
def dueW (D : Hd) : Nat → Nat → List Nat → Nat
  | _, _, [] => 0
  | u, p, v :: vs => if vs = [] then 0 else D.due u v p + dueW D v (D.rest u v p) vs
/-- what reckoning changes -/
def rFr (m : Nat) (X : Nat → Nat) (μ μ' : Hp) : Prop := Fr [m, X 44, X 45, X 46, X 47, X 48, X 49] μ μ' ∧ ∀ k, k ∉ [41, 42, 51, 52, 53] → hI μ' m k = hI μ m k
theorem rFr.rf {m : Nat} {X : Nat → Nat} {μ : Hp} : rFr m X μ μ := ⟨Fr.rf, fun _ _ => rfl⟩
theorem rFr.tt {m : Nat} {X : Nat → Nat} {μ μ1 μ2 : Hp} (h1 : rFr m X μ μ1) (h2 : rFr m X μ1 μ2) : rFr m X μ μ2 := ⟨h1.1.tt h2.1, fun k hk => (h2.2 k hk).trans (h1.2 k hk)⟩
theorem rFr.f {m : Nat} {X : Nat → Nat} {μ μ1 : Hp} (h : rFr m X μ μ1) (k : Nat) (x : Int32) (hk : k ∈ [41, 42, 51, 52, 53] := by decide) : rFr m X μ (wI μ1 m k x) :=
  ⟨h.1.w1 (by simp), fun j hj => by
    have hne : j ≠ k := fun e => hj (by rw [e]; exact hk)
    rw [hI_wI_s, upd_n _ hne]
    exact h.2 j hj⟩
theorem rFr.x {m : Nat} {X : Nat → Nat} {μ μ1 : Hp} (h : rFr m X μ μ1) (i k : Nat) (x : Int32) (hne : X i ≠ m) (hk : i ∈ [44, 45, 46, 47, 48, 49] := by decide) : rFr m X μ (wI μ1 (X i) k x) :=
  ⟨h.1.w1 (by simp only [List.mem_cons, List.not_mem_nil, or_false] at hk ⊢; rcases hk with rfl | rfl | rfl | rfl | rfl | rfl <;> simp), fun j hj => by rw [hI_wI_n _ _ _ (Ne.symm hne)]; exact h.2 j hj⟩
theorem rFr.m {m : Nat} {X : Nat → Nat} {μ μ1 : Hp} (h : rFr m X μ μ1) : mFr m X μ μ1 := ⟨h.1.sub (fun a ha => by
    simp only [List.mem_cons, List.not_mem_nil, or_false] at ha ⊢
    rcases ha with rfl | rfl | rfl | rfl | rfl | rfl | rfl <;> simp), fun k hk => h.2 k (by simp only [List.mem_cons, List.not_mem_nil, or_false, not_or]; omega)⟩
theorem rFr.w {m : Nat} {X : Nat → Nat} {μ μ1 : Hp} (h : rFr m X μ μ1) (hs : mSh μ m X) (hi : mInj X) : hI μ1 (X 43) = hI μ (X 43) ∧ hI μ1 (X 55) = hI μ (X 55) := by
  constructor
  · exact h.1.2.2.2 _ (by simp [mN hs hi])
  · exact h.1.2.2.2 _ (by simp [mN hs hi])
/-- five columns of a hop; its credit -/
def mR5 (μ : Hp) (X : Nat → Nat) (j : Nat) (r : Rc) : Prop := hI μ (X 44) j = nI r.rt ∧ hI μ (X 45) j = nI r.ar ∧ hI μ (X 46) j = nI r.pd ∧ hI μ (X 47) j = nI r.hd ∧ hI μ (X 48) j = nI r.du
def mRcF (μ : Hp) (X : Nat → Nat) (rs : List Rc) : Prop := ∀ j r, rs[j]? = some r → mR5 μ X j r ∧ (j + 1 < rs.length → hI μ (X 49) j = nI r.cr)
def mRc6 (μ : Hp) (X : Nat → Nat) (rs : List Rc) : Prop := ∀ j r, rs[j]? = some r → mR5 μ X j r ∧ hI μ (X 49) j = nI r.cr
theorem getl_app {α : Type} {l : List α} {a x : α} {j : Nat} (h : (l ++ [a])[j]? = some x) : (j < l.length ∧ l[j]? = some x) ∨ (j = l.length ∧ x = a) := by
  rcases Nat.lt_trichotomy j l.length with h1 | h1 | h1
  · rw [List.getElem?_append_left h1] at h
    exact Or.inl ⟨h1, h⟩
  · subst h1
    rw [List.getElem?_append_right (Nat.le_refl _)] at h
    simp at h
    exact Or.inr ⟨rfl, h.symm⟩
  · rw [List.getElem?_append_right (by omega), List.getElem?_eq_none (by simp; omega)] at h
    cases h
theorem mkD_lk {f lw lo tr : Nat → Int32} {n nl nf nt : Nat} {p q s : Int32} {ow u v : Nat} (hr : rowOK f n nf nl) : (mkD f lw lo tr nt nf p q s ow).lk u v = lstU (hpP f s u v) n := by
  have hn : cl (f 1) = n := by rw [hr.1.1, cl_nI (by have := hr.1.2.1; omega)]
  rw [← hn]
  rfl
theorem mkD_lk' {f lw lo tr : Nat → Int32} {n nl nf nt : Nat} {p q s : Int32} {ow u v k : Nat} (hr : rowOK f n nf nl) (h : (mkD f lw lo tr nt nf p q s ow).lk u v = some k) : k < n ∧ f (32 + k) = s ∧ f (64 + k) = nI u ∧ f (48 + k) = nI v := by
  rw [mkD_lk hr] at h
  obtain ⟨h1, h2⟩ := lstU_lt h
  simp only [hpP, decide_eq_true_eq] at h2
  exact ⟨h1, h2.1, h2.2.2.1, h2.2.2.2⟩
set_option maxHeartbeats 2000000 in
theorem c_mReckons {d : Nat} {ro : Nat → Nat} {μ : Hp} {m : Nat} {X : Nat → Nat} {wi : Nat} {f lw lo tr : Nat → Int32} {n nl nf nt u s ow amt : Nat} {p q : Int32} {D : Hd} {w : List Nat} (hd : 5 ≤ d) (hc : mCx μ m X wi f lw lo tr n nl nf nt p q) (hD : D = mkD f lw lo tr nt nf p q (nI s) ow) (hs2 : s < 2) (ho8 : ow < nf) (hu8 : u < nf)
    (hch : chn D u w) (hw : w ≠ []) (hl5 : w.length ≤ 5) (hway : ∀ j x, (u :: w)[j]? = some x → hI μ (X 43) j = nI x) (hh : hI μ m 50 = nI w.length) (how : hI μ (X 43) w.length = nI ow) (hamt : amt ≤ 1000000) :
    xC d yX12_reckons cX12_reckons 7 none 0 0 [.ref m, .ref (X wi), .int (nI s), .int (nI amt)] μ ro (fun r μ' => r = none ∧ rFr m X μ μ' ∧ mRcF μ' X (recs D u amt w) ∧ hI μ' m 51 = nI (leftW D u amt w) ∧ hI μ' m 52 = nI (heldW D u amt w) ∧ hI μ' m 53 = nI (dueW D u amt w)) := by
  obtain ⟨⟨hs, hi, hwi⟩, -, -, -, hr0, hb0⟩ := id hc
  have hnf := hb0.1.2.1
  have hn16 := hr0.1.2.1
  have hDok : D.ok := by rw [hD]; exact mkD_ok hr0 hb0 ho8
  have hDnf : D.nf = nf := by rw [hD]; rfl
  have hwiS : hS μ (X wi) = some (0, 293) := by
    rcases hwi with rfl | rfl
    · exact hs.s 30 0 293
    · exact hs.s 31 0 293
  refine I_X12_reckons (fun J g hr => B_X12_reckons_0 g hr hs.1 ?_)
  have key : ∀ (vs : List Nat) (k uk pk H0 D0 : Nat) (prs : List Rc) (μ1 : Hp), vs ≠ [] → rFr m X μ μ1 → k + vs.length = w.length → (∀ j x, (uk :: vs)[j]? = some x → hI μ (X 43) (k + j) = nI x) → chn D uk vs → uk < nf → prs.length = k → mRc6 μ1 X prs → hI μ1 m 52 = nI H0 → hI μ1 m 53 = nI D0 → pk ≤ 1000000 →
      recs D u amt w = prs ++ recs D uk pk vs → leftW D u amt w = leftW D uk pk vs → heldW D u amt w = H0 + heldW D uk pk vs → dueW D u amt w = D0 + dueW D uk pk vs →
      J μ1 0 0 16 [(0, .ref m), (1, .ref (X wi)), (2, .int (nI s)), (4, .int (nI pk)), (5, .int (nI k))] [] := by
    intro vs
    induction vs with
    | nil => intro k uk pk H0 D0 prs μ1 h; exact absurd rfl h
    | cons v vs ih =>
      intro k uk pk H0 D0 prs μ1 _ hF hkl hwy hcn huk hpl hrc h52 h53 hpk hrec hlft hhld hdue
      have hc1 := hc.fr hF.m
      have hs1 := hc1.1.1
      obtain ⟨hw43, -⟩ := hF.w hs hi
      have h50 : hI μ1 m 50 = nI w.length := by rw [hF.2 50 (by decide)]; exact hh
      obtain ⟨⟨kk, hlk⟩, hv, hcn'⟩ := hcn
      rw [hDnf] at hv
      obtain ⟨hkn, hk32, hk64, hk48⟩ := mkD_lk' hr0 (by rw [← hD]; exact hlk)
      have hkk : D.k uk v = kk := by unfold Hd.k; rw [hlk]; rfl
      have wk : hI μ (X 43) k = nI uk := hwy 0 uk rfl
      have wk1 : hI μ (X 43) (k + 1) = nI v := hwy 1 v rfl
      have hk5 : k < 5 := by simp only [List.length_cons] at hkl; omega
      have hheld := D.held_le hDok (p := pk) hlk
      have hdul := D.due_le hDok (p := pk) hlk (by omega)
      obtain ⟨hrt, har⟩ := hDok.2.2.2.1 uk v kk hlk
      obtain ⟨hxr, hcr⟩ := hDok.2.2.2.2 v (by omega)
      have hheq : D.held uk v pk = pk * D.rt kk / 1000 := by unfold Hd.held; rw [hkk]
      have wiNe : ∀ i, i ∈ mK → i ≠ 30 → i ≠ 31 → X wi ≠ X i := fun i hi' h1 h2 => by
        rcases hwi with rfl | rfl
        · exact hi.ne 30 i (by decide) hi' (Ne.symm h1)
        · exact hi.ne 31 i (by decide) hi' (Ne.symm h2)
      have wiM : X wi ≠ m := by
        rcases hwi with rfl | rfl
        · exact hs.ne 30
        · exact hs.ne 31
      refine B_X12_reckons_16 g hr hs1.1 (hs1.r 43 0 6) (hs1.s 43 0 6) ?_
      rw [h50, hw43, nI_1, nI_clamp (by omega), nI_clamp (by omega), wk, wk1]
      refine ⟨fun h => absurd h (nI_ge (by simp only [List.length_cons] at hkl; omega) (by omega)), fun _ => ⟨vp_in_nI (by omega) (by omega), vp_in_nI (by omega) (by omega), xCall_of (c_mHopOf (d := d - 1) (by omega) hc1) (by omega) ?_⟩⟩
      rintro r μ1 ⟨rfl, rfl⟩
      rw [← mkD_lk (lw := lw) (lo := lo) (tr := tr) (nt := nt) (p := p) (q := q) (ow := ow) hr0, ← hD, hlk]
      refine ⟨_, rfl, hs1.1, X 43, hs1.r 43 0 6, 6, hs1.s 43 0 6, vp_in_nI (by omega) (by omega), vp_in_nI (by omega) (by omega), ?_⟩
      rw [h50, hw43, nI_clamp (by omega), wk, wk1, how]
      refine ⟨vp_in_nI (by omega) (by omega), xCall_of (c_mLaysHop (d := d - 1) (k := kk) (u := uk) (v := v) (s := s) (ow := ow) (by omega) hc1 hkn hk64 hk48 hk32 hs2 huk hv ho8) (by omega) ?_⟩
      rintro r μ3 ⟨rfl, h3⟩
      have hrateN : rateD f lw lo tr nt p q ow kk = nI (D.rt kk) := by
        rw [hD]; exact ((rate_le (p := p) (q := q) (ow := ow) hr0 hb0 hkn).cl (by omega)).1
      have hartN : artD f lo tr nt p q ow kk = D.ar kk := by rw [hD]; rfl
      rw [hrateN, hartN] at h3
      have hF3 : rFr m X μ μ3 := by rw [h3]; exact (hF.f 42 _).f 41 _
      have hs3 : mSh μ3 m X := hs.of hF3.1.2.2.1 hF3.1.2.1
      have e41 : hI μ3 m 41 = nI (D.rt kk) := by rw [h3, hI_wI_s, upd_s]
      have e42 : hI μ3 m 42 = nI (D.ar kk) := by rw [h3, hI_wI_s, upd_n _ (by decide), hI_wI_s, upd_s]
      have eo : ∀ b, b ≠ m → hI μ3 b = hI μ1 b := fun b hb => by rw [h3, hI_wI_n _ _ _ hb, hI_wI_n _ _ _ hb]
      have e50 : hI μ3 m 50 = nI w.length := by rw [hF3.2 50 (by decide)]; exact hh
      have e52 : hI μ3 m 52 = nI H0 := by rw [h3, hI_wI_s, upd_n _ (by decide), hI_wI_s, upd_n _ (by decide)]; exact h52
      have e53 : hI μ3 m 53 = nI D0 := by rw [h3, hI_wI_s, upd_n _ (by decide), hI_wI_s, upd_n _ (by decide)]; exact h53
      clear h3
      have vk : vp_in (nI k) 5 := vp_in_nI hk5 (by omega)
      refine ⟨rfl, hs3.1, X 44, hs3.r 44 0 5, 5, hs3.s 44 0 5, vk, X 45, hs3.r 45 0 5, 5, hs3.s 45 0 5, vk, X 46, hs3.r 46 0 5, 5, hs3.s 46 0 5, vk, X 47, hs3.r 47 0 5, fun v24 e24 => ⟨5, hs3.s 47 0 5, vk, X 48, hs3.r 48 0 5, fun v28 e28 => ?_⟩⟩
      rw [hI_wI_n μ3 _ _ (Ne.symm (hs.ne 44)), e41, e42] at e24 e28 ⊢
      rw [hI_wI_n _ _ _ (Ne.symm (hs.ne 46)), hI_wI_n _ _ _ (Ne.symm (hs.ne 45)), hI_wI_n _ _ _ (Ne.symm (hs.ne 44)), e41] at e24
      subst e24
      rw [hI_wI_n _ _ _ (Ne.symm (hs.ne 47)), hI_wI_n _ _ _ (Ne.symm (hs.ne 46)), hI_wI_n _ _ _ (Ne.symm (hs.ne 45)), hI_wI_n _ _ _ (Ne.symm (hs.ne 44)), e50] at e28
      subst e28
      rw [held_l hpk hrt, ← hheq]
      generalize hM4 : wI (wI (wI (wI μ3 (X 44) k (nI (D.rt kk))) (X 45) k (nI (D.ar kk))) (X 46) k (nI pk)) (X 47) k (nI (D.held uk v pk)) = M4
      have hF4 : rFr m X μ M4 := by
        rw [← hM4]
        exact (((hF3.x 44 _ _ (hs.ne 44)).x 45 _ _ (hs.ne 45)).x 46 _ _ (hs.ne 46)).x 47 _ _ (hs.ne 47)
      have a44 : hI M4 (X 44) = upd (hI μ1 (X 44)) k (nI (D.rt kk)) := by rw [← hM4, hI_wI_n _ _ _ (hi.ne 44 47), hI_wI_n _ _ _ (hi.ne 44 46), hI_wI_n _ _ _ (hi.ne 44 45), hI_wI_s, eo _ (hs.ne 44)]
      have a45 : hI M4 (X 45) = upd (hI μ1 (X 45)) k (nI (D.ar kk)) := by rw [← hM4, hI_wI_n _ _ _ (hi.ne 45 47), hI_wI_n _ _ _ (hi.ne 45 46), hI_wI_s, hI_wI_n _ _ _ (hi.ne 45 44), eo _ (hs.ne 45)]
      have a46 : hI M4 (X 46) = upd (hI μ1 (X 46)) k (nI pk) := by rw [← hM4, hI_wI_n _ _ _ (hi.ne 46 47), hI_wI_s, hI_wI_n _ _ _ (hi.ne 46 45), hI_wI_n _ _ _ (hi.ne 46 44), eo _ (hs.ne 46)]
      have a47 : hI M4 (X 47) = upd (hI μ1 (X 47)) k (nI (D.held uk v pk)) := by rw [← hM4, hI_wI_s, hI_wI_n _ _ _ (hi.ne 47 46), hI_wI_n _ _ _ (hi.ne 47 45), hI_wI_n _ _ _ (hi.ne 47 44), eo _ (hs.ne 47)]
      have a48 : hI M4 (X 48) = hI μ1 (X 48) := by rw [← hM4, hI_wI_n _ _ _ (hi.ne 48 47), hI_wI_n _ _ _ (hi.ne 48 46), hI_wI_n _ _ _ (hi.ne 48 45), hI_wI_n _ _ _ (hi.ne 48 44), eo _ (hs.ne 48)]
      have a49 : hI M4 (X 49) = hI μ1 (X 49) := by rw [← hM4, hI_wI_n _ _ _ (hi.ne 49 47), hI_wI_n _ _ _ (hi.ne 49 46), hI_wI_n _ _ _ (hi.ne 49 45), hI_wI_n _ _ _ (hi.ne 49 44), eo _ (hs.ne 49)]
      have am : hI M4 m = hI μ3 m := by rw [← hM4, hI_wI_n _ _ _ (Ne.symm (hs.ne 47)), hI_wI_n _ _ _ (Ne.symm (hs.ne 46)), hI_wI_n _ _ _ (Ne.symm (hs.ne 45)), hI_wI_n _ _ _ (Ne.symm (hs.ne 44))]
      have awi : hI M4 (X wi) = hI μ1 (X wi) := by
        rw [← hM4, hI_wI_n _ _ _ (wiNe 47 (by decide) (by decide) (by decide)), hI_wI_n _ _ _ (wiNe 46 (by decide) (by decide) (by decide)), hI_wI_n _ _ _ (wiNe 45 (by decide) (by decide) (by decide)), hI_wI_n _ _ _ (wiNe 44 (by decide) (by decide) (by decide)), eo _ wiM]
      have M4S : hS M4 = hS μ3 := by rw [← hM4]; rfl
      have M4R : hR M4 = hR μ3 := by rw [← hM4]; rfl
      clear hM4
      have hc4 := hc.fr hF4.m
      have hs4 := hc4.1.1
      have hwl : nI w.length - 1 = nI (w.length - 1) := by
        rw [show (1 : Int32) = nI 1 from rfl, pk_sub]
        simp only [List.length_cons] at hkl; omega
      rw [hwl]
      have hwl2 : k = w.length - 1 ↔ vs = [] := by
        simp only [List.length_cons] at hkl
        constructor
        · intro e; exact List.length_eq_zero_iff.mp (by omega)
        · intro e; rw [e] at hkl; simp only [List.length_nil] at hkl; omega
      -- columns behind this hop
      have col : ∀ (M5 : Hp) (du : Nat) (r5 : Rc), (hI M5 (X 44) = hI M4 (X 44) ∧ hI M5 (X 45) = hI M4 (X 45) ∧ hI M5 (X 46) = hI M4 (X 46) ∧ hI M5 (X 47) = hI M4 (X 47) ∧ hI M5 (X 48) = upd (hI M4 (X 48)) k (nI du)) → r5.rt = D.rt kk → r5.ar = D.ar kk → r5.pd = pk → r5.hd = D.held uk v pk → r5.du = du → mR5 M5 X k r5 ∧ ∀ j r, j < k → mR5 μ1 X j r → mR5 M5 X j r := by
        rintro M5 du r5 ⟨z1, z2, z3, z4, z5⟩ y1 y2 y3 y4 y5
        refine ⟨?_, fun j r hj hr => ?_⟩
        · unfold mR5
          rw [z1, z2, z3, z4, z5, a44, a45, a46, a47, upd_s, upd_s, upd_s, upd_s, upd_s, y1, y2, y3, y4, y5]
          exact ⟨rfl, rfl, rfl, rfl, rfl⟩
        · unfold mR5 at hr ⊢
          rw [z1, z2, z3, z4, z5, a44, a45, a46, a47, a48, upd_n _ (by omega), upd_n _ (by omega), upd_n _ (by omega), upd_n _ (by omega), upd_n _ (by omega)]
          exact hr
      refine ⟨fun hnl => ?_, fun hla => ?_⟩
      · have hvs : vs ≠ [] := fun e => hnl (by rw [← hwl2.mpr e])
        have y3 : oM (fun k => 32 + 5 * k) (some kk) + 3 = nI (32 + 5 * kk + 3) := nI_add _ 3
        refine ⟨293, by rw [hF3.1.2.2.1]; exact hwiS, ?_⟩
        rw [y3, nI_clamp (by omega), awi]
        refine ⟨vp_in_nI (by omega) (by omega), fun v32 e32 => ?_⟩
        rw [hc1.2.2.1.2.2.2 kk 3 hkn (by omega)] at e32
        subst e32
        have hxx : lw (12 + cl (lo v)) = nI (D.xr v) := by
          rw [hD]
          exact ((hb0.2.2.1 2 _ (by omega) ((hb0.2.1 v hv).cl (by have := hb0.1.1; omega)).2).cl (by omega)).1
        have hcc : f (10 + v) = nI (D.cr v) := by
          rw [hD]
          exact ((hr0.2.2.2.1 v (by omega)).2.cl (by omega)).1
        have htx : txdF f kk = D.tx kk := by rw [hD]; rfl
        refine xCall_of (c_mDueOf (d := d - 1) (k := kk) (v := v) (s := s) (i := k) (P := pk) (h := D.held uk v pk) (c := D.cr v) (x := D.xr v) (by omega) hc4 hk5 hkn hk32 hs2 hv (by rw [(hF4.w hs hi).1]; exact wk1) (by rw [a46, upd_s]) hpk (by rw [a47, upd_s]) hheld hcc hcr hxx hxr) (by omega) ?_
        rintro r μ5 ⟨rfl, h5⟩
        have hduE : dueN (txdF f kk) pk (D.xr v) (D.held uk v pk) (D.cr v) = D.due uk v pk := by unfold Hd.due; rw [htx, hkk]
        have hcdE : crdN (txdF f kk) pk (D.xr v) (D.held uk v pk) (D.cr v) = D.crd uk v pk := by unfold Hd.crd; rw [htx, hkk]
        rw [hcdE] at h5
        rw [hduE]
        have hS5 : hS μ5 = hS μ3 := by rw [h5, ← M4S]; rfl
        have hR5 : hR μ5 = hR μ3 := by rw [h5, ← M4R]; rfl
        refine ⟨_, rfl, 5, by rw [hS5]; exact hs3.s 48 0 5, vk, by rw [hS5]; exact hs3.1, X 47, by rw [hR5]; exact hs3.r 47 0 5, 5, by rw [hS5]; exact hs3.s 47 0 5, vk, fun v41 e41' => ⟨X 48, by rw [hR5]; exact hs3.r 48 0 5, 5, by rw [hS5]; exact hs3.s 48 0 5, vk, fun v45 e45 v46 e46 v47 e47 v48 e48 => ?_⟩⟩
        have b52 : hI μ5 m 52 = nI H0 := by rw [h5, hI_wI_n _ _ _ (Ne.symm (hs.ne 49)), am]; exact e52
        have b53 : hI μ5 m 53 = nI D0 := by rw [h5, hI_wI_n _ _ _ (Ne.symm (hs.ne 49)), am]; exact e53
        have b47 : hI μ5 (X 47) = hI M4 (X 47) := by rw [h5, hI_wI_n _ _ _ (hi.ne 47 49)]
        rw [hI_wI_n _ _ _ (hi.ne 47 48), b47, a47, upd_s] at e41' e46
        rw [hI_wI_s, upd_s] at e45
        rw [hI_wI_n _ _ _ (Ne.symm (hs.ne 48)), b52, e46, nI_add] at e47 e48 ⊢
        rw [hI_wI_s, upd_n _ (by decide), hI_wI_n _ _ _ (Ne.symm (hs.ne 48)), b53] at e47
        rw [hI_wI_n _ _ _ (hs.ne 48), hI_wI_s, upd_s] at e48
        rw [e41', e45, e47, e48, nI_add, nI_add, pk_sub (by omega)]
        rw [show pk - (D.held uk v pk + D.due uk v pk) = D.rest uk v pk by unfold Hd.rest; omega]
        generalize hM5 : wI (wI (wI μ5 (X 48) k (nI (D.due uk v pk))) m 52 (nI (H0 + D.held uk v pk))) m 53 (nI (D0 + D.due uk v pk)) = M5
        have hF5 : rFr m X μ M5 := by
          rw [← hM5, h5]
          exact (((hF4.x 49 _ _ (hs.ne 49)).x 48 _ _ (hs.ne 48)).f 52 _).f 53 _
        have hcol := col M5 (D.due uk v pk) (rcM D uk v pk) (by
          rw [← hM5, h5]
          refine ⟨?_, ?_, ?_, ?_, ?_⟩
          · rw [hI_wI_n _ _ _ (hs.ne 44), hI_wI_n _ _ _ (hs.ne 44), hI_wI_n _ _ _ (hi.ne 44 48), hI_wI_n _ _ _ (hi.ne 44 49)]
          · rw [hI_wI_n _ _ _ (hs.ne 45), hI_wI_n _ _ _ (hs.ne 45), hI_wI_n _ _ _ (hi.ne 45 48), hI_wI_n _ _ _ (hi.ne 45 49)]
          · rw [hI_wI_n _ _ _ (hs.ne 46), hI_wI_n _ _ _ (hs.ne 46), hI_wI_n _ _ _ (hi.ne 46 48), hI_wI_n _ _ _ (hi.ne 46 49)]
          · rw [hI_wI_n _ _ _ (hs.ne 47), hI_wI_n _ _ _ (hs.ne 47), hI_wI_n _ _ _ (hi.ne 47 48), hI_wI_n _ _ _ (hi.ne 47 49)]
          · rw [hI_wI_n _ _ _ (hs.ne 48), hI_wI_n _ _ _ (hs.ne 48), hI_wI_s, hI_wI_n _ _ _ (hi.ne 48 49)]) (by show D.rt (D.k uk v) = _; rw [hkk]) (by show D.ar (D.k uk v) = _; rw [hkk]) rfl rfl rfl
        have b49 : hI M5 (X 49) = upd (hI μ1 (X 49)) k (nI (D.crd uk v pk)) := by
          rw [← hM5, h5, hI_wI_n _ _ _ (hs.ne 49), hI_wI_n _ _ _ (hs.ne 49), hI_wI_n _ _ _ (hi.ne 49 48), hI_wI_s, a49]
        refine ih (k + 1) v (D.rest uk v pk) (H0 + D.held uk v pk) (D0 + D.due uk v pk) (prs ++ [rcM D uk v pk]) M5 hvs hF5 (by simp only [List.length_cons] at hkl; omega) (fun j x hx => ?_) hcn' hv (by simp [hpl]) ?_ ?_ ?_ (by unfold Hd.rest; omega) ?_ ?_ ?_ ?_
        · rw [show k + 1 + j = k + (j + 1) by omega]
          exact hwy (j + 1) x (by simpa using hx)
        · intro j r hr
          rcases getl_app hr with ⟨h1, h2⟩ | ⟨h1, h2⟩
          · obtain ⟨o1, o2⟩ := hrc j r h2
            exact ⟨hcol.2 j r (by omega) o1, by rw [b49, upd_n _ (by omega)]; exact o2⟩
          · rw [hpl] at h1
            subst h1
            subst h2
            exact ⟨hcol.1, by rw [b49, upd_s]; rfl⟩
        · rw [← hM5, hI_wI_s, upd_n _ (by decide), hI_wI_s, upd_s]
        · rw [← hM5, hI_wI_s, upd_s]
        · rw [hrec, recs_more _ _ _ _ hvs]; simp
        · rw [hlft, leftW_more _ _ _ _ hvs]
        · rw [hhld, heldW_more _ _ _ _ hvs]; omega
        · rw [hdue, dueW, if_neg hvs]; omega
      · have hvs : vs = [] := hwl2.mp ((nI_eq (by omega) (by omega)).mp hla)
        subst hvs
        refine ⟨5, hs3.s 48 0 5, vk, fun v51 e51 v52 e52' v53 e53' v54 e54 v55 e55 v56 e56 => ?_⟩
        rw [hI_wI_n _ _ _ (hi.ne 47 48), a47, upd_s] at e51 e54
        rw [hI_wI_s, upd_s] at e52'
        rw [hI_wI_n _ _ _ (Ne.symm (hs.ne 48)), am, e52] at e53'
        rw [e53', e54, nI_add] at e55 e56 ⊢
        rw [hI_wI_s, upd_n _ (by decide), hI_wI_n _ _ _ (Ne.symm (hs.ne 48)), am, e53] at e55
        rw [hI_wI_n _ _ _ (hs.ne 48), hI_wI_s, upd_s] at e56
        rw [e51, e52', e55, e56, Int32.add_zero, Int32.add_zero, pk_sub hheld]
        generalize hM5 : wI (wI (wI M4 (X 48) k 0) m 52 (nI (H0 + D.held uk v pk))) m 53 (nI D0) = M5
        have hF5 : rFr m X μ M5 := by
          rw [← hM5]
          exact ((hF4.x 48 _ _ (hs.ne 48)).f 52 _).f 53 _
        have hcol := col M5 0 (rcE D uk v pk) (by
          rw [← hM5]
          refine ⟨?_, ?_, ?_, ?_, ?_⟩
          · rw [hI_wI_n _ _ _ (hs.ne 44), hI_wI_n _ _ _ (hs.ne 44), hI_wI_n _ _ _ (hi.ne 44 48)]
          · rw [hI_wI_n _ _ _ (hs.ne 45), hI_wI_n _ _ _ (hs.ne 45), hI_wI_n _ _ _ (hi.ne 45 48)]
          · rw [hI_wI_n _ _ _ (hs.ne 46), hI_wI_n _ _ _ (hs.ne 46), hI_wI_n _ _ _ (hi.ne 46 48)]
          · rw [hI_wI_n _ _ _ (hs.ne 47), hI_wI_n _ _ _ (hs.ne 47), hI_wI_n _ _ _ (hi.ne 47 48)]
          · rw [hI_wI_n _ _ _ (hs.ne 48), hI_wI_n _ _ _ (hs.ne 48), hI_wI_s]
            rfl) (by show D.rt (D.k uk v) = _; rw [hkk]) (by show D.ar (D.k uk v) = _; rw [hkk]) rfl rfl rfl
        have b49 : hI M5 (X 49) = hI μ1 (X 49) := by
          rw [← hM5, hI_wI_n _ _ _ (hs.ne 49), hI_wI_n _ _ _ (hs.ne 49), hI_wI_n _ _ _ (hi.ne 49 48), a49]
        have b52 : hI M5 m 52 = nI (H0 + D.held uk v pk) := by rw [← hM5, hI_wI_s, upd_n _ (by decide), hI_wI_s, upd_s]
        have b53 : hI M5 m 53 = nI D0 := by rw [← hM5, hI_wI_s, upd_s]
        have hs5 : mSh M5 m X := hs.of hF5.1.2.2.1 hF5.1.2.1
        have hkl' : k + 1 = w.length := by simpa using hkl
        refine B_X12_reckons_16 g hr hs5.1 (hs5.r 43 0 6) (hs5.s 43 0 6) ⟨fun _ => ?_, fun h => absurd (by rw [hF5.2 50 (by decide), hh, hkl']; exact Int32.le_refl _) h⟩
        have o5 : ∀ b, b ≠ m → hI (wI M5 m 51 (nI (pk - D.held uk v pk))) b = hI M5 b := fun b hb => hI_wI_n _ _ _ hb
        refine ⟨rfl, hF5.f 51 _, fun j r hr => ?_, ?_, ?_, ?_⟩
        · rw [hrec, recs_one] at hr ⊢
          have tr5 : ∀ j r, mR5 M5 X j r → mR5 (wI M5 m 51 (nI (pk - D.held uk v pk))) X j r := fun j r h => by
            unfold mR5 at h ⊢
            rw [o5 _ (hs.ne 44), o5 _ (hs.ne 45), o5 _ (hs.ne 46), o5 _ (hs.ne 47), o5 _ (hs.ne 48)]
            exact h
          rcases getl_app hr with ⟨h1, h2⟩ | ⟨h1, h2⟩
          · obtain ⟨o1, o2⟩ := hrc j r h2
            exact ⟨tr5 _ _ (hcol.2 j r (by omega) o1), fun _ => by rw [o5 _ (hs.ne 49), b49]; exact o2⟩
          · refine ⟨?_, fun hlt => ?_⟩
            · rw [hpl] at h1
              subst h1
              subst h2
              exact tr5 _ _ hcol.1
            · simp at hlt; omega
        · rw [hlft, leftW_one, hI_wI_s, upd_s]
        · rw [hhld, heldW_one, hI_wI_s, upd_n _ (by decide), b52]
        · rw [hdue, hI_wI_s, upd_n _ (by decide), b53]; simp [dueW]
  refine key w 0 u amt 0 0 [] _ hw ((rFr.rf.f 52 _).f 53 _) (by simp) (fun j x hx => by rw [Nat.zero_add]; exact hway j x hx) hch hu8 rfl (fun j r h => by simp at h) ?_ ?_ hamt rfl rfl (by simp) (by simp)
  · rw [hI_wI_s, upd_n _ (by decide), hI_wI_s, upd_s]; rfl
  · rw [hI_wI_s, upd_s]; rfl
