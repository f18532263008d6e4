/-! gross; what there is -/
section cq5
variable {d : Nat} {ro : Nat → Nat} {μ : Hp} {A : Nat → Nat} {B : Bk} {f : Nat → Int32} {s u t a : Int32}
theorem asked.amt {nf : Nat} {s u t a b : Int32} (h : asked nf s u t a) (h1 : ¬ b < 1) (h2 : ¬ 1000000 < b) : asked nf s u t b := ⟨h.1, h.2.1, h.2.2.1, h.2.2.2.1, h1, h2⟩
theorem asked.nI {nf : Nat} {s u t a : Int32} (h : asked nf s u t a) {p : Nat} (h1 : 1 ≤ p) (h2 : p ≤ 1000000) : asked nf s u t (nI p) := h.amt (nI_nlt (a := p) (b := 1) h1 (by omega)) (nI_nlt (a := 1000000) (b := p) h2 (by omega))
theorem c_gross (hd : 12 ≤ d) (h : cQ μ A B f) : xC d yX11_gross cX11_gross 9 (some .int) 0 0 [.ref (A 0), .int s, .int u, .int t, .int a] μ ro (fun r μ' => qFr A μ μ' ∧ r = some (.int (aGross B f s u t a))) := by
  have hsh := h.1.1
  have hB := h.2.2.2.1
  have hnf := hB.1.1.2.1
  have hrow := h.2.2.2.2.1.2.1
  unfold aGross
  refine I_X11_gross (fun J g hr => B_X11_gross_0 g hr (hsh.s 0 14 18) (xCall_of (c_isAsked (d := d - 1) (by omega) h) (by omega) ?_))
  rintro r μ ⟨rfl, rfl⟩
  by_cases ha : asked B.nf s u t a
  · rw [if_pos ha]
    rw [if_pos ha] at hr
    obtain ⟨-, ⟨e2, k2⟩, ⟨e3, k3⟩, -, e4, k4, k5⟩ := ha.ex hnf
    have amono : ∀ p p', p ≤ p' → p' ≤ 1000000 → arrOf B f (-1) (-1) s (cl u) (cl t) p 0 ≤ arrOf B f (-1) (-1) s (cl u) (cl t) p' 0 := fun p p' h1 h2 => arr_mono hB hrow k3 h1 h2
    have asmall : ∀ p, p < cl a → ¬ a ≤ arrOf B f (-1) (-1) s (cl u) (cl t) p 0 := fun p hp => by
      have := arr_gt (B := B) (f := f) (p := -1) (q := -1) (s := s) (u := cl u) (M := 0) hB hrow k3 hp k5
      rw [← e4] at this
      exact this
    have call : ∀ {μ1 : Hp} {p : Nat}, cQ μ1 A B f → 1 ≤ p → p ≤ 1000000 → xCall d yX11_arrivesIn cX11_arrivesIn 6 (some .int) [.ref (A 0), .ref (A 33), .int s, .int u, .int t, .int (nI p)] μ1 ro (fun r μ' => qFr A μ1 μ' ∧ r = some (.int (arrOf B f (-1) (-1) s (cl u) (cl t) p 0))) := fun {μ1 p} hq h1 h2 => by
      refine xCall_of (c_arrivesIn (d := d - 1) (g := f) (p := -1) (q := -1) (by omega) hq (Or.inl rfl) hq.2.2.2.2.1.1 hrow hq.2.2.2.2.1.2.2 (ha.nI h1 h2)) (by omega) ?_
      rintro r μ' ⟨g1, -, g2, -⟩
      rw [cl_nI (by omega)] at g2
      exact ⟨g1, g2⟩
    refine ⟨_, rfl, fun c => absurd c (by decide), fun _ => ⟨hsh.s 0 14 18, _, hsh.r 0 10 33, (call h (by omega) (Nat.le_refl 1000000)).mono (Nat.le_refl _) ?_⟩⟩
    rintro r μ1 ⟨hF1, rfl⟩
    generalize hg : (fun p => arrOf B f (-1) (-1) s (cl u) (cl t) p 0) = G at hr
    have hG : ∀ p, arrOf B f (-1) (-1) s (cl u) (cl t) p 0 = G p := fun p => by rw [← hg]
    simp only [hG] at amono asmall call hr ⊢
    refine ⟨_, rfl, fun c1 => ?_, fun c1 => ⟨hF1, ?_⟩⟩
    · have hlow : cl a ≤ 1000000 := k5
      have key : ∀ n lo hi (μ' : Hp), n ≤ 20 → cl a ≤ lo → lo ≤ hi → hi ≤ 1000000 → hi - lo < 2 ^ (20 - n) → a ≤ G hi → (∀ p, p < lo → ¬ a ≤ G p) → qFr A μ μ' → J μ' 0 0 43 [(0, .ref (A 0)), (1, .int s), (2, .int u), (3, .int t), (4, .int a), (5, .int (nI lo)), (6, .int (nI hi)), (7, .int (nI n))] [] := by
        intro n lo hi μ' hn
        obtain ⟨k, hk⟩ : ∃ k, n + k = 20 := ⟨20 - n, by omega⟩
        induction k generalizing n lo hi μ' with
        | zero =>
          intro a1 a2 a3 a4 a5 a6 a7
          have hnn : n = 20 := by omega
          subst hnn
          have : lo = hi := by
            have : (2 : Nat) ^ (20 - 20) = 1 := rfl
            omega
          subst this
          have hs' := (h.fr a7).1.1
          refine B_X11_gross_43 g hr (hs'.s 0 14 18) (hs'.r 0 10 33) ⟨fun _ => ⟨a7, ?_⟩, fun c => absurd (Int32.le_refl _) c⟩
          rw [fstP_is (j := lo) (by omega) (by omega) (decide_eq_true a5) (fun p _ hp => by simpa using a6 p hp)]
          rfl
        | succ k ih =>
          intro a1 a2 a3 a4 a5 a6 a7
          have hq := h.fr a7
          have hs' := hq.1.1
          refine B_X11_gross_43 g hr (hs'.s 0 14 18) (hs'.r 0 10 33) (pk_le hi lo (fun c => ⟨a7, ?_⟩) (fun c => ⟨fun q => absurd q (nI_ge (a := n) (b := 20) (by omega) (by omega)), fun _ => ?_⟩))
          · have : lo = hi := by omega
            subst this
            rw [fstP_is (j := lo) (by omega) (by omega) (decide_eq_true a5) (fun p _ hp => by simpa using a6 p hp)]
            rfl
          · have em : nI lo + (nI hi - nI lo) / 2 = nI (lo + (hi - lo) / 2) := by
              rw [pk_sub (by omega), show nI (hi - lo) / 2 = nI ((hi - lo) / 2) from div_n 2 (by omega) (by omega) (by omega), nI_add]
            have hp2 : 2 ^ (20 - n) = 2 * 2 ^ (20 - (n + 1)) := by rw [show 20 - n = (20 - (n + 1)) + 1 by omega, Nat.pow_succ, Nat.mul_comm]
            rw [em]
            generalize hm : lo + (hi - lo) / 2 = m
            refine (call hq (by omega) (by omega)).mono (Nat.le_refl _) ?_
            rintro r μ2 ⟨hF2, rfl⟩
            rw [nI_1, nI_1]
            refine ⟨_, rfl, fun c => ih (n + 1) (m + 1) hi μ2 (by omega) (by omega) (by omega) (by omega) a3 (by omega) a5 (fun p hp => ?_) (a7.tt hF2), fun c => ih (n + 1) lo m μ2 (by omega) (by omega) a1 (by omega) (by omega) (by omega) (Int32.not_lt.mp c) a6 (a7.tt hF2)⟩
            intro q
            exact absurd (Int32.le_trans q (amono p m (by omega) (by omega))) (Int32.not_le.mpr c)
      have h20 : 1000000 - cl a < 2 ^ (20 - 0) := by
        have : (2 : Nat) ^ (20 - 0) = 1048576 := rfl
        omega
      have := key 0 (cl a) 1000000 μ1 (by omega) (Nat.le_refl _) k5 (Nat.le_refl _) h20 c1 asmall hF1
      rw [← e4] at this
      exact this
    · rw [fstP_no (fun p hp hp' => by
        simp only [decide_eq_true_eq]
        exact fun q => c1 (Int32.le_trans q (amono p 1000000 (by omega) (Nat.le_refl _)))), if_pos ha]
      rfl
  · rw [if_neg ha, if_neg ha]
    exact ⟨_, rfl, fun _ => ⟨qFr.rf, rfl⟩, fun h => absurd rfl h⟩
def aLand (B : Bk) (f : Nat → Int32) (l x : Int32) : Int32 := if inN l B.nl ∧ ¬ x < 0 ∧ x ≤ 3 then (if x = 3 then f (26 + cl l) else B.lw (cl x * 6 + cl l)) else -1
theorem c_land {l x : Int32} (hd : 1 ≤ d) (h : cQ μ A B f) : xC d yX11_land cX11_land 3 (some .int) 0 0 [.ref (A 0), .int l, .int x] μ ro (fun r μ' => qFr A μ μ' ∧ r = some (.int (aLand B f l x))) := by
  have hsh := h.1.1
  have hnl := h.2.2.2.1.1.1.1
  unfold aLand
  refine I_X11_land (fun J g hr => B_X11_land_0 g hr (hsh.s 0 14 18) (hsh.r 0 13 39) (hsh.s 39 6 9) (hsh.r 39 2 42) (hsh.s 42 0 18) (hsh.r 0 10 33) (hsh.s 33 12 4) (hsh.r 33 0 34) (hsh.s 34 0 112) hd ?_)
  rw [h.2.1.1, h.2.2.1.1, h.2.2.2.2.1.1]
  refine ⟨fun c => ⟨qFr.rf, by rw [if_neg (fun q => q.1.1 c)]⟩, fun c1 => ⟨fun c => ⟨qFr.rf, by rw [if_neg (fun q => q.1.2 c)]⟩, fun c2 => ⟨fun c => ⟨qFr.rf, by rw [if_neg (fun q => q.2.1 c)]⟩, fun c3 => ⟨fun c4 => ?_, fun c => ⟨qFr.rf, by rw [if_neg (fun q => c q.2.2)]⟩⟩⟩⟩⟩
  obtain ⟨e1, k1⟩ := inN.ex (n := B.nl) ⟨c1, c2⟩ (by omega)
  obtain ⟨y, hy, rfl⟩ := smallx 3 c3 (Int32.not_lt.mpr c4) (by decide)
  rw [if_pos ⟨⟨c1, c2⟩, c3, c4⟩, cl_nI (by omega)]
  have e6 : nI y * 6 + l = nI (y * 6 + cl l) := by
    have := m6 y (cl l)
    rw [← e1] at this
    exact this
  have e26 : (26 : Int32) + l = nI (26 + cl l) := by
    have := i_off 26 (cl l)
    rw [← e1] at this
    exact this
  rw [e6, e26, nI_clamp (by omega), nI_clamp (by omega)]
  refine ⟨fun c => ⟨vp_in_nI ?_ (by omega), qFr.rf, by rw [if_neg c]⟩, fun c => ⟨vp_in_nI (by omega) (by omega), qFr.rf, by rw [if_pos c]⟩⟩
  have : y ≠ 3 := fun q => c (by rw [q]; rfl)
  omega
def aLink (f : Nat → Int32) (k x : Int32) : Int32 := if inN k (cl (f 1)) ∧ ¬ x < 0 ∧ x < 5 then f (32 + 16 * cl x + cl k) else -1
theorem c_link {k x : Int32} (hd : 1 ≤ d) (h : cQ μ A B f) : xC d yX11_link cX11_link 3 (some .int) 0 0 [.ref (A 0), .int k, .int x] μ ro (fun r μ' => qFr A μ μ' ∧ r = some (.int (aLink f k x))) := by
  have hsh := h.1.1
  have hrow := h.2.2.2.2.1.2.1
  have n16 := hrow.1.2.1
  unfold aLink
  refine I_X11_link (fun J g hr => B_X11_link_0 g hr (hsh.s 0 14 18) (hsh.r 0 10 33) (hsh.s 33 12 4) (hsh.r 33 0 34) (hsh.s 34 0 112) hd ?_)
  rw [h.2.2.2.2.1.1, hrow.1.1, cl_nI (by omega)]
  refine ⟨fun c => ⟨qFr.rf, by rw [if_neg (fun q => q.1.1 c)]⟩, fun c1 => ⟨lit_in 1 (by omega) (by omega), fun c => ⟨qFr.rf, by rw [if_neg (fun q => q.1.2 c)]⟩, fun c2 => ⟨fun c => ⟨qFr.rf, by rw [if_neg (fun q => q.2.1 c)]⟩, fun c3 => ⟨fun c4 => ?_, fun c => ⟨qFr.rf, by rw [if_neg (fun q => c q.2.2)]⟩⟩⟩⟩⟩
  obtain ⟨e1, k1⟩ := inN.ex (n := cl (f 1)) ⟨c1, c2⟩ (by omega)
  have hx5 : inN x 5 := ⟨c3, Int32.not_le.mpr c4⟩
  obtain ⟨e2, k2⟩ := hx5.ex (by omega)
  rw [if_pos ⟨⟨c1, c2⟩, c3, c4⟩]
  have e : (32 : Int32) + x * 16 + k = nI (32 + 16 * cl x + cl k) := by
    rw [e1, e2, cl_nI (by omega), cl_nI (by omega), show nI (cl x) * 16 = nI (cl x * 16) from pk_mul _ 16, show (32 : Int32) + nI (cl x * 16) = nI (32 + cl x * 16) from i_off 32 _, nI_add, Nat.mul_comm]
  rw [e, nI_clamp (by omega)]
  exact ⟨vp_in_nI (by omega) (by omega), qFr.rf, rfl⟩
end cq5
