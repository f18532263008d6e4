/-! all ways from a firm -/
theorem sm31 {v : Nat} (hv : v < 32) : ((nI v).toBitVec.smod 32).toNat = v := by
  have h : ∀ v, v < 32 → ((nI v).toBitVec.smod 32).toNat = v := by decide
  exact h v hv
theorem and31 {v : Nat} (hv : v < 32) : nI v &&& 31 = nI v := by
  have h : ∀ v, v < 32 → nI v &&& 31 = nI v := by decide
  exact h v hv
theorem bit_q {M v : Nat} (hM : M < 2 ^ 31) (hv : v < 32) : ((nI M >>> (nI v &&& 31)) &&& 1) = 0 ↔ M.testBit v = false := by
  have hlt : M / 2 ^ v < 2 ^ 31 := Nat.lt_of_le_of_lt (Nat.div_le_self _ _) hM
  rw [and31 hv, pk_shrN hM _ v (sm31 hv), pk_andN (by omega) 1 (by decide), show (0 : Int32) = nI 0 from rfl, nI_eq (by omega) (by omega), Nat.testBit_eq_decide_div_mod_eq]
  simp only [Nat.pow_one, decide_eq_false_iff_not]
  omega
theorem bit_s {M v : Nat} (hM : M < 256) (hv : v < 8) : nI M ||| (1 <<< (nI v &&& 31)) = nI (M ||| 2 ^ v) := by
  rw [and31 (by omega), show (1 : Int32) = nI 1 from rfl, pk_shlN _ v (sm31 (by omega)) (by have : 2 ^ v ≤ 2 ^ 7 := Nat.pow_le_pow_right (by omega) (by omega); omega), Nat.one_mul]
  have h2 : 2 ^ v < 2 ^ 8 := Nat.pow_lt_pow_right (by omega) hv
  have h3 : M ||| 2 ^ v < 2 ^ 8 := Nat.or_lt_two_pow hM h2
  refine Int32.toBitVec_inj.mp (BitVec.eq_of_toNat_eq ?_)
  rw [Int32.toBitVec_or, BitVec.toNat_or, pk_tn (by omega), pk_tn (by omega), pk_tn (by omega)]
theorem bit_lt {M v : Nat} (hM : M < 256) (hv : v < 8) : M ||| 2 ^ v < 256 := Nat.or_lt_two_pow (n := 8) hM (Nat.pow_lt_pow_right (by omega) hv)
theorem bit_T (M v : Nat) : (M ||| 2 ^ v).testBit = addT M.testBit v := by
  funext x
  rw [Nat.testBit_or, Nat.testBit_two_pow]
  unfold addT
  congr 1
  by_cases h : x = v
  · subst h; simp
  · have h' : ¬ v = x := fun e => h e.symm
    simp [h, h']
/-- what stands while ways are gone -/
def gStat (μ : Hp) (fa bw bwr tw twr la ra aa ta st row bk ln fn lw lo tr : Nat) (D : Hd) (sp : Bool) (frm : Nat) : Prop :=
  (isFd μ fa bw tw la ra aa ta ∧ isWy μ tw twr ∧ isWy μ bw bwr ∧ isSt μ st row ∧ hR μ st 1 = some bk ∧ isBk μ bk ln fn lw lo tr) ∧
  (hI μ bk 6 = nI D.nf ∧ hI μ fa 7 = nI D.to ∧ (hI μ fa 8 = if sp = true then 1 else 0) ∧ hI μ tw 1 = nI frm) ∧
  (∀ u v, u < 8 → v < 8 → hI μ la (u * 8 + v) = oI (D.lk u v) ∧ ∀ k, D.lk u v = some k → hI μ aa (u * 8 + v) = nI (D.ar k) ∧ hI μ ra (u * 8 + v) = nI (D.rt k)) ∧
  (∀ v, v < D.nf → hI μ row (10 + v) = nI (D.cr v) ∧ ∃ l, hI μ lo v = nI l ∧ l < 6 ∧ hI μ lw (12 + l) = nI (D.xr v)) ∧
  (∀ u v k, D.lk u v = some k → D.tx k = txdF (hI μ row) k)
/-- rows that are not those of ways -/
def gAp (bwr twr la ra aa row lw lo : Nat) : Prop := twr ≠ bwr ∧ ∀ b, b ∈ [row, lo, lw, la, aa, ra] → b ≠ twr ∧ b ≠ bwr
theorem gStat.fr {μ μ' : Hp} {fa bw bwr tw twr la ra aa ta st row bk ln fn lw lo tr : Nat} {D : Hd} {sp : Bool} {frm : Nat} (h : gStat μ fa bw bwr tw twr la ra aa ta st row bk ln fn lw lo tr D sp frm) (ha : gAp bwr twr la ra aa row lw lo) (hwt : bw ≠ tw)
    (hF : Fr [twr, fa, bw, bwr] μ μ') (hfa : ∀ k, k ≠ 1 → hI μ' fa k = hI μ fa k) : gStat μ' fa bw bwr tw twr la ra aa ta st row bk ln fn lw lo tr D sp frm := by
  obtain ⟨⟨g1, g2, g3, g4, g5, g6⟩, ⟨a1, a2, a3, a4⟩, b1, c1, e1⟩ := h
  have hS' : hS μ' = hS μ := hF.2.2.1
  have hR' : hR μ' = hR μ := hF.2.1
  have kp : ∀ b, b ≠ twr → b ≠ fa → b ≠ bw → b ≠ bwr → hI μ' b = hI μ b := fun b q1 q2 q3 q4 => hF.2.2.2 b (by simp [q1, q2, q3, q4])
  have kr : ∀ b, b ∈ [row, lo, lw, la, aa, ra] → (∃ n, hS μ b = some (0, n)) → hI μ' b = hI μ b := fun b hb ⟨n, hn⟩ => kp b (ha.2 b hb).1 (Ne.symm (ne_of_sh g1.1 hn (by decide))) (Ne.symm (ne_of_sh g3.1 hn (by decide))) (ha.2 b hb).2
  have rrow := kr row (by simp) ⟨_, g4.2.2⟩
  have rlo := kr lo (by simp) ⟨_, g6.2.2.2.2.2.1⟩
  have rlw := kr lw (by simp) ⟨_, g6.2.2.2.2.1⟩
  have rla := kr la (by simp) ⟨_, g1.2.2.1⟩
  have raa := kr aa (by simp) ⟨_, g1.2.2.2.2.1⟩
  have rra := kr ra (by simp) ⟨_, g1.2.2.2.1⟩
  have rbk := kp bk (ne_of_sh g6.1 g2.2.2 (by decide)) (ne_of_sh g6.1 g1.1 (by decide)) (ne_of_sh g6.1 g3.1 (by decide)) (ne_of_sh g6.1 g3.2.2 (by decide))
  have rtw := kp tw (ne_of_sh g2.1 g2.2.2 (by decide)) (Ne.symm (ne_of_sh g1.1 g2.1 (by decide))) (Ne.symm hwt) (ne_of_sh g2.1 g3.2.2 (by decide))
  refine ⟨⟨?_, ?_, ?_, ?_, ?_, ?_⟩, ⟨?_, ?_, ?_, ?_⟩, ?_, ?_, ?_⟩
  · unfold isFd at g1 ⊢; rw [hS', hR']; exact g1
  · unfold isWy at g2 ⊢; rw [hS', hR']; exact g2
  · unfold isWy at g3 ⊢; rw [hS', hR']; exact g3
  · unfold isSt at g4 ⊢; rw [hS', hR']; exact g4
  · rw [hR']; exact g5
  · unfold isBk at g6 ⊢; rw [hS', hR']; exact g6
  · rw [rbk]; exact a1
  · rw [hfa 7 (by decide)]; exact a2
  · rw [hfa 8 (by decide)]; exact a3
  · rw [rtw]; exact a4
  · rw [rla, raa, rra]; exact b1
  · rw [rrow, rlo, rlw]; exact c1
  · rw [rrow]; exact e1
/-- how many ways were gone, and the best of them -/
def GS (μ : Hp) (fa bw bwr : Nat) (D : Hd) (frm amt cnt : Nat) (b : Option (List Nat)) : Prop :=
  hI μ fa 1 = nI cnt ∧ (cnt = 0 ↔ b = none) ∧ ∀ w, b = some w → rcs (hI μ bwr) (recs D frm amt w) ∧ w.length ≤ 5 ∧ hI μ bw 1 = nI frm ∧ hI μ bw 2 = nI w.length ∧ hI μ bw 3 = nI (leftW D frm amt w) ∧ hI μ bw 4 = nI (heldW D frm amt w) ∧ leftW D frm amt w < 2 ^ 30 ∧ heldW D frm amt w < 2 ^ 30
theorem rcAt_of {f g : Nat → Int32} {j : Nat} {r : Rc} (h : rcAt f j r) (e0 : g j = f j) (e1 : g (5 + j) = f (5 + j)) (e2 : g (10 + j) = f (10 + j)) (e3 : g (15 + j) = f (15 + j)) (e4 : g (20 + j) = f (20 + j)) (e5 : g (25 + j) = f (25 + j)) (e6 : g (30 + j) = f (30 + j)) : rcAt g j r := by
  unfold rcAt at h ⊢
  rw [e0, e1, e2, e3, e4, e5, e6]
  exact h
/-- a hop's seven numbers are written at i -/
def put7 (f : Nat → Int32) (i : Nat) (x0 x1 x2 x3 x4 x5 x6 : Int32) : Nat → Int32 := upd (upd (upd (upd (upd (upd (upd f i x0) (5 + i) x1) (10 + i) x2) (15 + i) x3) (20 + i) x4) (25 + i) x5) (30 + i) x6
theorem put7_at {f : Nat → Int32} {i : Nat} {r : Rc} (hi : i < 5) : rcAt (put7 f i (nI r.fm) (nI r.rt) (nI r.ar) (nI r.pd) (nI r.hd) (nI r.du) (nI r.cr)) i r := by
  unfold rcAt put7
  refine ⟨?_, ?_, ?_, ?_, ?_, ?_, ?_⟩
  · rw [upd_n _ (by omega), upd_n _ (by omega), upd_n _ (by omega), upd_n _ (by omega), upd_n _ (by omega), upd_n _ (by omega), upd_s]
  · rw [upd_n _ (by omega), upd_n _ (by omega), upd_n _ (by omega), upd_n _ (by omega), upd_n _ (by omega), upd_s]
  · rw [upd_n _ (by omega), upd_n _ (by omega), upd_n _ (by omega), upd_n _ (by omega), upd_s]
  · rw [upd_n _ (by omega), upd_n _ (by omega), upd_n _ (by omega), upd_s]
  · rw [upd_n _ (by omega), upd_n _ (by omega), upd_s]
  · rw [upd_n _ (by omega), upd_s]
  · rw [upd_s]
theorem put7_ne {f : Nat → Int32} {i j : Nat} {r : Rc} {x0 x1 x2 x3 x4 x5 x6 : Int32} (hi : i < 5) (hj : j < i) (h : rcAt f j r) : rcAt (put7 f i x0 x1 x2 x3 x4 x5 x6) j r := by
  have k : ∀ q, q % 5 = j → put7 f i x0 x1 x2 x3 x4 x5 x6 q = f q := fun q hq => by
    unfold put7
    rw [upd_n _ (by omega), upd_n _ (by omega), upd_n _ (by omega), upd_n _ (by omega), upd_n _ (by omega), upd_n _ (by omega), upd_n _ (by omega)]
  exact rcAt_of h (k _ (by omega)) (k _ (by omega)) (k _ (by omega)) (k _ (by omega)) (k _ (by omega)) (k _ (by omega)) (k _ (by omega))
theorem GS.arr {μ μ' : Hp} {fa bw bwr twr frm amt cnt i A H : Nat} {D : Hd} {sp : Bool} {b : Option (List Nat)} {w : List Nat} (A0 H0 h0 : Nat) (hg : GS μ fa bw bwr D frm amt cnt b) (hb0 : ∀ x, b = some x → A0 = leftW D frm amt x ∧ H0 = heldW D frm amt x ∧ h0 = x.length)
    (hfa : hI μ' fa = upd (hI μ fa) 1 (nI (cnt + 1))) (hw : w.length = i + 1) (hi : i < 5) (hA : leftW D frm amt w = A) (hH : heldW D frm amt w = H) (hA9 : A < 2 ^ 30) (hH9 : H < 2 ^ 30) (hrc : rcs (hI μ' twr) (recs D frm amt w))
    (hif : if cnt = 0 ∨ betB sp A H (i + 1) A0 H0 h0 = true then (∀ j, j < 35 → hI μ' bwr j = hI μ' twr j) ∧ hI μ' bw 1 = nI frm ∧ hI μ' bw 2 = nI (i + 1) ∧ hI μ' bw 3 = nI A ∧ hI μ' bw 4 = nI H else hI μ' bwr = hI μ bwr ∧ hI μ' bw = hI μ bw) :
    GS μ' fa bw bwr D frm amt (cnt + 1) (pickW sp (leftW D frm amt) (heldW D frm amt) b w) := by
  obtain ⟨g1, g2, g3⟩ := hg
  have new : ((∀ j, j < 35 → hI μ' bwr j = hI μ' twr j) ∧ hI μ' bw 1 = nI frm ∧ hI μ' bw 2 = nI (i + 1) ∧ hI μ' bw 3 = nI A ∧ hI μ' bw 4 = nI H) → GS μ' fa bw bwr D frm amt (cnt + 1) (some w) := by
    rintro ⟨k1, k2, k3, k4, k5⟩
    refine ⟨by rw [hfa, upd_s], ⟨fun h => absurd h (by omega), fun h => (by cases h)⟩, fun x hx => ?_⟩
    cases hx
    refine ⟨fun j r hr => ?_, by omega, k2, by rw [k3, hw], by rw [k4, hA], by rw [k5, hH], by omega, by omega⟩
    have hj : j < 5 := by
      have := (List.getElem?_eq_some_iff.mp hr).1
      rw [recs_len, hw] at this
      omega
    exact rcAt_of (hrc j r hr) (k1 _ (by omega)) (k1 _ (by omega)) (k1 _ (by omega)) (k1 _ (by omega)) (k1 _ (by omega)) (k1 _ (by omega)) (k1 _ (by omega))
  have old : (hI μ' bwr = hI μ bwr ∧ hI μ' bw = hI μ bw) → cnt ≠ 0 → GS μ' fa bw bwr D frm amt (cnt + 1) b := by
    rintro ⟨k1, k2⟩ hc
    refine ⟨by rw [hfa, upd_s], ⟨fun h => absurd h (by omega), fun h => absurd (g2.mpr h) hc⟩, fun x hx => ?_⟩
    rw [k1, k2]
    exact g3 x hx
  cases b with
  | none =>
    have hc : cnt = 0 := g2.mpr rfl
    rw [if_pos (Or.inl hc)] at hif
    exact new hif
  | some x =>
    have hc : cnt ≠ 0 := fun h => by have := g2.mp h; cases this
    obtain ⟨rfl, rfl, rfl⟩ := hb0 x rfl
    unfold pickW
    simp only []
    rw [hA, hH, hw]
    by_cases hbt : betB sp A H (i + 1) (leftW D frm amt x) (heldW D frm amt x) x.length = true
    · rw [if_pos hbt]
      rw [if_pos (Or.inr hbt)] at hif
      exact new hif
    · rw [if_neg hbt]
      rw [if_neg (fun q => q.elim hc hbt)] at hif
      exact old hif hc
theorem recs_one (D : Hd) (u p v : Nat) : recs D u p [v] = [rcE D u v p] := by simp [recs]
theorem recs_more (D : Hd) (u p v : Nat) {w : List Nat} (h : w ≠ []) : recs D u p (v :: w) = rcM D u v p :: recs D v (D.rest u v p) w := by rw [recs, if_neg h]
theorem leftW_one (D : Hd) (u p v : Nat) : leftW D u p [v] = p - D.held u v p := by simp [leftW]
theorem leftW_more (D : Hd) (u p v : Nat) {w : List Nat} (h : w ≠ []) : leftW D u p (v :: w) = leftW D v (D.rest u v p) w := by rw [leftW, if_neg h]
theorem heldW_one (D : Hd) (u p v : Nat) : heldW D u p [v] = D.held u v p := by simp [heldW]
theorem heldW_more (D : Hd) (u p v : Nat) {w : List Nat} (h : w ≠ []) : heldW D u p (v :: w) = D.held u v p + heldW D v (D.rest u v p) w := by rw [heldW, if_neg h]
theorem flat_succ {β : Type} (f : Nat → List β) (n : Nat) : (List.range (n + 1)).flatMap f = (List.range n).flatMap f ++ f n := by
  rw [List.range_succ, List.flatMap_append]
  simp
theorem c_goOn {ro : Nat → Nat} {fa bw bwr tw twr la ra aa ta st row bk ln fn lw lo tr : Nat} {D : Hd} {sp : Bool} {frm amt : Nat} (hD : D.ok) (ha : gAp bwr twr la ra aa row lw lo) (hwt : bw ≠ tw) :
    ∀ (fuel i : Nat), i + fuel = 5 → ∀ (d : Nat) (μ : Hp) (u p M wh cnt : Nat) (b : Option (List Nat)) (pre : List Nat) (prs : List Rc), fuel + 2 ≤ d → gStat μ fa bw bwr tw twr la ra aa ta st row bk ln fn lw lo tr D sp frm → GS μ fa bw bwr D frm amt cnt b →
      u < D.nf → p ≤ 1000000 → wh ≤ i * 1000000 → M < 256 → cnt + 8 ^ fuel < 2 ^ 30 → pre.length = i → prs.length = i → rcs (hI μ twr) prs →
      (∀ w, w ≠ [] → recs D frm amt (pre ++ w) = prs ++ recs D u p w ∧ leftW D frm amt (pre ++ w) = leftW D u p w ∧ heldW D frm amt (pre ++ w) = wh + heldW D u p w) →
      xC d yX3_goOn cX3_goOn 11 none 0 0 [.ref fa, .ref st, .int (nI u), .int (nI p), .int (nI i), .int (nI M), .int (nI wh)] μ ro (fun r μ' => r = none ∧ Fr [twr, fa, bw, bwr] μ μ' ∧ (∀ k, k ≠ 1 → hI μ' fa k = hI μ fa k) ∧ rcs (hI μ' twr) prs ∧
        GS μ' fa bw bwr D frm amt (cnt + (waysD D fuel u M.testBit).length) (bestW sp (leftW D frm amt) (heldW D frm amt) ((waysD D fuel u M.testBit).map (fun w => pre ++ w)) b)) := by
  intro fuel
  induction fuel with
  | zero =>
    intro i hi d μ u p M wh cnt b pre prs hd hst hgs hu hp hwh hM hcn hpre hprs hrc hspl
    have : i = 5 := by omega
    subst this
    refine I_X3_goOn (fun J g hr => B_X3_goOn_0 g hr ⟨fun h => absurd h (by decide), fun _ => ⟨rfl, Fr.rf, fun _ _ => rfl, hrc, ?_⟩⟩)
    exact hgs
  | succ fuel ih =>
    intro i hi d μ u p M wh cnt b pre prs hd hst hgs hu hp hwh hM hcn hpre hprs hrc hspl
    have hi5 : i < 5 := by omega
    have hnf8 : D.nf ≤ 8 := hD.1
    generalize hrec : (fun v => waysD D fuel v (addT M.testBit v)) = rec
    have hways : waysD D (fuel + 1) u M.testBit = (List.range D.nf).flatMap (stepW D rec u M.testBit) := by rw [← hrec]; rfl
    have hlen := ways_len D hnf8 (fuel + 1) u M.testBit
    rw [hways] at hlen ⊢
    generalize hA : leftW D frm amt = A
    generalize hH : heldW D frm amt = H
    refine I_X3_goOn (fun J g hr => B_X3_goOn_0 g hr ⟨fun _ => ?_, fun h => absurd (nI_lt (b := 5) hi5 (by omega)) h⟩)
    refine loopUp (Q := fun v => ∀ μ1, Fr [twr, fa, bw, bwr] μ μ1 → (∀ k, k ≠ 1 → hI μ1 fa k = hI μ fa k) → rcs (hI μ1 twr) prs → GS μ1 fa bw bwr D frm amt (cnt + ((List.range v).flatMap (stepW D rec u M.testBit)).length) (bestW sp A H (((List.range v).flatMap (stepW D rec u M.testBit)).map (fun w => pre ++ w)) b) →
      J μ1 0 0 10 [(0, .ref fa), (1, .ref st), (2, .int (nI u)), (3, .int (nI p)), (4, .int (nI i)), (5, .int (nI M)), (6, .int (nI wh)), (7, .int (nI v))] []) D.nf ?_ (fun v hv ihv μ1 hF hfa hrc1 hg1 => ?_) 0 (Nat.zero_le _) μ Fr.rf (fun _ _ => rfl) hrc hgs
    · intro μ1 hF hfa hrc1 hg1
      obtain ⟨⟨g1, g2, g3, g4, g5, g6⟩, ⟨a1, a2, a3, a4⟩, b1, c1, e1⟩ := hst.fr ha hwt hF hfa
      refine B_X3_goOn_10 g hr g4.1 g5 g6.1 g1.1 g1.2.1.2.1 g1.2.2.1 g1.2.1.2.2.1 g1.2.2.2.1 g1.2.1.2.2.2.2.2 g2.1 g2.2.1 g2.2.2 g1.2.1.2.2.2.1 g1.2.2.2.2.1 ?_
      rw [a1]
      exact ⟨fun _ => ⟨rfl, hF, hfa, hrc1, hg1⟩, fun h => absurd (Int32.le_refl _) h⟩
    · have hst1 := hst.fr ha hwt hF hfa
      obtain ⟨⟨g1, g2, g3, g4, g5, g6⟩, ⟨a1, a2, a3, a4⟩, b1, c1, e1⟩ := id hst1
      have hv8 : v < 8 := by omega
      have hu8 : u < 8 := by omega
      obtain ⟨l1, l2⟩ := b1 u v hu8 hv8
      have at8 : nI u * 8 + nI v = nI (u * 8 + v) := by rw [show nI u * 8 = nI (u * 8) from pk_mul u 8, nI_add]
      have nra : ra ≠ twr := (ha.2 ra (by simp)).1
      have naa : aa ≠ twr := (ha.2 aa (by simp)).1
      have nla : la ≠ twr := (ha.2 la (by simp)).1
      have nrow : row ≠ twr := (ha.2 row (by simp)).1
      have nlo : lo ≠ twr := (ha.2 lo (by simp)).1
      have nlw : lw ≠ twr := (ha.2 lw (by simp)).1
      have nfa : fa ≠ twr := ne_of_sh g1.1 g2.2.2 (by decide)
      have skip : stepW D rec u M.testBit v = [] → J μ1 0 0 10 [(0, .ref fa), (1, .ref st), (2, .int (nI u)), (3, .int (nI p)), (4, .int (nI i)), (5, .int (nI M)), (6, .int (nI wh)), (7, .int (nI v + 1))] [] := fun h => by
        rw [nI_1]
        refine ihv μ1 hF hfa hrc1 ?_
        rw [flat_succ, h, List.append_nil]
        exact hg1
      have hsl : ((List.range v).flatMap (stepW D rec u M.testBit)).length + (stepW D rec u M.testBit v).length ≤ 8 ^ (fuel + 1) := by
        rw [← List.length_append, ← flat_succ]
        refine Nat.le_trans ?_ hlen
        have hsp : List.range D.nf = List.range (v + 1) ++ (List.range (D.nf - (v + 1))).map (fun x => v + 1 + x) := by
          conv => lhs; rw [show D.nf = (v + 1) + (D.nf - (v + 1)) by omega]
          exact List.range_add
        rw [hsp, List.flatMap_append, List.length_append]
        exact Nat.le_add_right _ _
      refine B_X3_goOn_10 g hr g4.1 g5 g6.1 g1.1 g1.2.1.2.1 g1.2.2.1 g1.2.1.2.2.1 g1.2.2.2.1 g1.2.1.2.2.2.2.2 g2.1 g2.2.1 g2.2.2 g1.2.1.2.2.2.1 g1.2.2.2.2.1 ?_
      rw [a1, at8, nI_clamp (by omega), l1, show ((0 : Int32) + nI i).toNatClampNeg = 0 + i from off_cl 0 (by omega), show ((5 : Int32) + nI i).toNatClampNeg = 5 + i from off_cl 5 (by omega), show ((10 : Int32) + nI i).toNatClampNeg = 10 + i from off_cl 10 (by omega), show ((15 : Int32) + nI i).toNatClampNeg = 15 + i from off_cl 15 (by omega), show ((20 : Int32) + nI i).toNatClampNeg = 20 + i from off_cl 20 (by omega), show ((25 : Int32) + nI i).toNatClampNeg = 25 + i from off_cl 25 (by omega), Nat.zero_add]
      have inat : vp_in (nI (u * 8 + v)) 64 := vp_in_nI (by omega) (by omega)
      refine ⟨fun h => absurd h (nI_ge hv (by omega)), fun _ => ⟨inat, fun h => skip ?_, fun hne => ⟨fun h => skip ?_, fun hbit => ?_⟩⟩⟩
      · have hn : D.lk u v = none := by
          cases hc : D.lk u v with
          | none => rfl
          | some k => rw [hc] at h; exact absurd h (oI_ne (by have := hD.2.2.1 u v k hc; omega))
        rw [stepW, if_neg]
        rw [hn]
        simp
      · rw [bit_q (by omega) (by omega)] at h
        rw [stepW, if_neg]
        exact fun q => h q.2
      · rw [bit_q (by omega) (by omega)] at hbit
        cases hc : D.lk u v with
        | none => rw [hc] at hne; exact absurd rfl hne
        | some k =>
          obtain ⟨l3, l4⟩ := l2 k hc
          have hk16 := hD.2.2.1 u v k hc
          obtain ⟨hrt, har⟩ := hD.2.2.2.1 u v k hc
          obtain ⟨hxr, hcr⟩ := hD.2.2.2.2 v hv
          have hkk : D.k u v = k := by unfold Hd.k; rw [hc]; rfl
          have hheld := D.held_le hD (p := p) hc
          have hdue := D.due_le hD (p := p) hc hv
          have hmul : p * D.rt k ≤ 1000000 * 1000 := Nat.mul_le_mul hp hrt
          have hh : D.held u v p = p * D.rt k / 1000 := by unfold Hd.held; rw [hkk]
          have hdiv : nI p * nI (D.rt k) / 1000 = nI (D.held u v p) := by
            rw [pk_mul, hh]
            exact div_n 1000 (by omega) (by omega) (by omega)
          have hstep : stepW D rec u M.testBit v = if v = D.to then [[v]] else (rec v).map (fun w => v :: w) := by
            rw [stepW, if_pos]
            exact ⟨by rw [hc]; rfl, hbit⟩
          rw [l4, hdiv]
          refine ⟨inat, off_in 0 (by omega) (by omega), fun v7 e7 => ⟨off_in 5 (by omega) (by omega), inat, fun v10 e10 => ⟨off_in 10 (by omega) (by omega), off_in 15 (by omega) (by omega), off_in 20 (by omega) (by omega), fun v14 e14 => ?_⟩⟩⟩
          rw [hI_wI_n _ _ _ nra, l4] at e7
          rw [hI_wI_n _ _ _ naa, hI_wI_n _ _ _ naa, l3] at e10
          subst e7
          subst e10
          generalize hG : upd (upd (upd (upd (upd (hI μ1 twr) i (nI v)) (5 + i) (nI (D.rt k))) (10 + i) (nI (D.ar k))) (15 + i) (nI p)) (20 + i) (nI (D.held u v p)) = G at e14 ⊢
          have hMu : wI (wI (wI (wI (wI μ1 twr i (nI v)) twr (5 + i) (nI (D.rt k))) twr (10 + i) (nI (D.ar k))) twr (15 + i) (nI p)) twr (20 + i) (nI (D.held u v p)) = wRow μ1 twr G := by
            rw [wI_eq μ1, wI_wRow, wI_wRow, wI_wRow, wI_wRow, hG]
          rw [hMu] at e14 ⊢
          rw [hI_wRow_n _ _ nfa, a2] at e14
          subst e14
          have hF2 : Fr [twr, fa, bw, bwr] μ1 (wRow μ1 twr G) := Fr.row (by simp)
          have hfa2 : ∀ k, k ≠ 1 → hI (wRow μ1 twr G) fa k = hI μ1 fa k := fun k _ => by rw [hI_wRow_n _ _ nfa]
          have hst2 := hst1.fr ha hwt hF2 hfa2
          have nbw : bw ≠ twr := ne_of_sh g3.1 g2.2.2 (by decide)
          have Gfm : G i = nI v := by rw [← hG, upd_n _ (by omega), upd_n _ (by omega), upd_n _ (by omega), upd_n _ (by omega), upd_s]
          have Gpd : G (15 + i) = nI p := by rw [← hG, upd_n _ (by omega), upd_s]
          have Ghd : G (20 + i) = nI (D.held u v p) := by rw [← hG, upd_s]
          refine ⟨fun hto v16 e16 => ?_, fun hto v27 e27 v28 e28 => ?_⟩
          · have hto' : ¬ v = D.to := fun e => hto (by rw [e])
            rw [if_neg hto'] at hstep
            rw [hI_wRow_n _ _ nla, l1, hc] at e16
            subst e16
            obtain ⟨c2, l, c3, c4, c5⟩ := c1 v hv
            refine xCall_of (c_taxStop (d := d - 1) (μ := wRow μ1 twr G) (i := i) (k := k) (v := v) (c := D.cr v) (l := l) (x := D.xr v) (p := p) (h := D.held u v p) (by omega) hst2.1.1 hst2.1.2.1 hst2.1.2.2.2.1 hst2.1.2.2.2.2.1 hst2.1.2.2.2.2.2 hi5 hk16 (by rw [hI_wRow_s]; exact Gfm) hv8 (by rw [hI_wRow_n _ _ nrow]; exact c2) hcr (by rw [hI_wRow_n _ _ nlo]; exact c3) c4 (by rw [hI_wRow_n _ _ nlw]; exact c5) hxr (by rw [hI_wRow_s]; exact Gpd) hp (by rw [hI_wRow_s]; exact Ghd) hheld) (by omega) ?_
            rintro r μ2 ⟨rfl, rfl⟩
            rw [hI_wRow_n _ _ nrow, hI_wRow_s, wRow_wRow, ← e1 u v k hc]
            have hdu : dueN (D.tx k) p (D.xr v) (D.held u v p) (D.cr v) = D.due u v p := by unfold Hd.due; rw [hkk]
            have hcd : crdN (D.tx k) p (D.xr v) (D.held u v p) (D.cr v) = D.crd u v p := by unfold Hd.crd; rw [hkk]
            rw [hdu, hcd]
            have hGG : upd (upd G (25 + i) (nI (D.due u v p))) (30 + i) (nI (D.crd u v p)) = put7 (hI μ1 twr) i (nI (rcM D u v p).fm) (nI (rcM D u v p).rt) (nI (rcM D u v p).ar) (nI (rcM D u v p).pd) (nI (rcM D u v p).hd) (nI (rcM D u v p).du) (nI (rcM D u v p).cr) := by
              rw [← hG]
              show _ = put7 (hI μ1 twr) i (nI v) (nI (D.rt (D.k u v))) (nI (D.ar (D.k u v))) (nI p) (nI (D.held u v p)) (nI (D.due u v p)) (nI (D.crd u v p))
              rw [hkk]
              rfl
            have hdat : (upd (upd G (25 + i) (nI (D.due u v p))) (30 + i) (nI (D.crd u v p))) (25 + i) = nI (D.due u v p) := by rw [upd_n _ (by omega), upd_s]
            generalize hGe : upd (upd G (25 + i) (nI (D.due u v p))) (30 + i) (nI (D.crd u v p)) = G2 at hdat hGG ⊢
            have hF3 : Fr [twr, fa, bw, bwr] μ1 (wRow μ1 twr G2) := Fr.row (by simp)
            have hfa3 : ∀ k, k ≠ 1 → hI (wRow μ1 twr G2) fa k = hI μ1 fa k := fun k _ => by rw [hI_wRow_n _ _ nfa]
            have hst3 := hst1.fr ha hwt hF3 hfa3
            refine ⟨rfl, fun v19 e19 => ⟨g1.1, tw, g1.2.1.2.2.2.2.2, g2.1, twr, g2.2.1, 35, g2.2.2, off_in 25 (by omega) (by omega), fun v24 e24 => ?_⟩⟩
            rw [pk_sub hheld] at e19
            rw [nI_add] at e24
            subst e19
            subst e24
            rw [hI_wRow_s, hdat, pk_sub (by omega), nI_1, bit_s hM hv8]
            have hrest : p - D.held u v p - D.due u v p = D.rest u v p := rfl
            rw [hrest]
            have hmt := bit_T M v
            have hrv : rec v = waysD D fuel v (M ||| 2 ^ v).testBit := by rw [hmt, ← hrec]
            refine xCall_of (ih (i + 1) (by omega) (d - 1) (wRow μ1 twr G2) v (D.rest u v p) (M ||| 2 ^ v) (wh + D.held u v p) (cnt + ((List.range v).flatMap (stepW D rec u M.testBit)).length) (bestW sp A H (((List.range v).flatMap (stepW D rec u M.testBit)).map (fun w => pre ++ w)) b) (pre ++ [v]) (prs ++ [rcM D u v p]) (by omega) hst3 ?_ hv (by unfold Hd.rest; omega) (by omega) (bit_lt hM hv8) ?_ (by simp; omega) (by simp; omega) ?_ ?_) (by omega) ?_
            · refine ⟨?_, hg1.2.1, ?_⟩
              · rw [hI_wRow_n _ _ nfa]; exact hg1.1
              · rw [hI_wRow_n _ _ (Ne.symm ha.1), hI_wRow_n _ _ nbw]; exact hg1.2.2
            · have hl2 : ((List.range v).flatMap (stepW D rec u M.testBit)).length ≤ v * 8 ^ fuel := by
                have := len_flat (stepW D rec u M.testBit) (8 ^ fuel) (List.range v) (fun x _ => by
                  rw [stepW]
                  have hp1 : 1 ≤ 8 ^ fuel := Nat.pow_pos (by omega)
                  split
                  · split
                    · simpa using hp1
                    · rw [List.length_map, ← hrec]; exact ways_len D hnf8 fuel x _
                  · simp)
                rwa [List.length_range] at this
              have : v * 8 ^ fuel + 8 ^ fuel ≤ 8 ^ (fuel + 1) := by
                rw [Nat.pow_succ, ← Nat.succ_mul, Nat.mul_comm (8 ^ fuel)]
                exact Nat.mul_le_mul_right _ hv8
              omega
            · rw [hI_wRow_s, hGG]
              refine rcs_app hrc1 (fun j r hj hr => put7_ne hi5 (by omega) hr) ?_
              rw [hprs]
              exact put7_at hi5
            · intro w hw
              obtain ⟨s1, s2, s3⟩ := hspl (v :: w) (by simp)
              rw [List.append_assoc, List.singleton_append, s1, s2, s3, recs_more _ _ _ _ hw, leftW_more _ _ _ _ hw, heldW_more _ _ _ _ hw]
              refine ⟨by simp, rfl, by omega⟩
            · rintro r μ3 ⟨rfl, f1, f2, f3, f4⟩
              refine ⟨rfl, ?_⟩
              rw [nI_1]
              refine ihv μ3 (hF.tt (hF3.tt f1)) (fun k hk => (f2 k hk).trans ((hfa3 k hk).trans (hfa k hk))) ?_ ?_
              · intro j r hr
                have : j < prs.length := (List.getElem?_eq_some_iff.mp hr).1
                exact f3 j r (by rw [List.getElem?_append_left this]; exact hr)
              · rw [flat_succ, hstep, List.length_append, List.map_append, bestW_app, List.length_map, List.map_map, hrv, ← Nat.add_assoc]
                rw [hA, hH] at f4
                have hmm : ((fun w => pre ++ w) ∘ fun w => v :: w) = fun w => (pre ++ [v]) ++ w := by funext w; simp
                rw [hmm]
                exact f4
          · have hto' : v = D.to := (nI_eq (by omega) (by have := hD.2.1; omega)).mp hto
            rw [if_pos hto'] at hstep
            rw [pk_sub hheld] at e27
            rw [nI_add] at e28
            subst e27
            subst e28
            obtain ⟨c2, -⟩ := c1 v hv
            obtain ⟨s1, s2, s3⟩ := hspl [v] (by simp)
            rw [recs_one] at s1
            rw [leftW_one] at s2
            rw [heldW_one] at s3
            generalize hcnt : cnt + ((List.range v).flatMap (stepW D rec u M.testBit)).length = cn at hg1
            generalize hbb : bestW sp A H (((List.range v).flatMap (stepW D rec u M.testBit)).map (fun w => pre ++ w)) b = bb at hg1
            have hold : ∃ A0 H0 h0, (∀ x, bb = some x → A0 = leftW D frm amt x ∧ H0 = heldW D frm amt x ∧ h0 = x.length) := by
              cases bb with
              | none => exact ⟨0, 0, 0, fun x hx => by cases hx⟩
              | some y => exact ⟨_, _, _, fun x hx => by cases hx; exact ⟨rfl, rfl, rfl⟩⟩
            obtain ⟨A0, H0, h0, hold⟩ := hold
            have hwh' : i * 1000000 ≤ 4 * 1000000 := Nat.mul_le_mul_right _ (by omega)
            refine xCall_of (c_arrive (d := d - 1) (μ := wRow μ1 twr G) (sp := sp) (cnt := cn) (to := D.to) A0 H0 h0 (by omega) hst2.1.1 hst2.1.2.1 hst2.1.2.2.1 hst2.1.2.2.2.1 hi5 (by omega) (by omega) hst2.2.1.2.1 (by have := hD.2.1; omega) hst2.2.1.2.2.1 (by rw [hI_wRow_n _ _ nfa]; exact hg1.1) (by omega) ?_ ha.1 (Ne.symm nrow) hwt) (by omega) ?_
            · intro hc0
              cases hbx : bb with
              | none => exact absurd (hg1.2.1.mpr hbx) hc0
              | some x =>
                obtain ⟨o1, o2, o3⟩ := hold x hbx
                obtain ⟨w1, w2, w3, w4, w5, w6, w7, w8⟩ := hg1.2.2 x hbx
                rw [hI_wRow_n _ _ nbw, o1, o2, o3]
                exact ⟨w4, w5, w6, by omega, w7, w8⟩
            · rintro r μ3 ⟨rfl, f1, f2, f3, f4⟩
              rw [hI_wRow_s, hI_wRow_n _ _ nrow, ← hto', c2] at f2
              rw [hI_wRow_n _ _ nfa] at f3
              have hGG : hI μ3 twr = put7 (hI μ1 twr) i (nI (rcE D u v p).fm) (nI (rcE D u v p).rt) (nI (rcE D u v p).ar) (nI (rcE D u v p).pd) (nI (rcE D u v p).hd) (nI (rcE D u v p).du) (nI (rcE D u v p).cr) := by
                rw [f2, ← hG]
                show _ = put7 (hI μ1 twr) i (nI v) (nI (D.rt (D.k u v))) (nI (D.ar (D.k u v))) (nI p) (nI (D.held u v p)) 0 (nI (D.cr v))
                rw [hkk]
                rfl
              have hr3 : rcs (hI μ3 twr) (recs D frm amt (pre ++ [v])) := by
                rw [s1, hGG]
                refine rcs_app hrc1 (fun j r hj hr => put7_ne hi5 (by omega) hr) ?_
                rw [hprs]
                exact put7_at hi5
              refine ⟨rfl, ?_⟩
              rw [nI_1]
              refine ihv μ3 (hF.tt (hF2.tt f1)) (fun k hk => ?_) ?_ ?_
              · rw [f3, upd_n _ hk]; exact hfa k hk
              · intro j r hr
                have : j < prs.length := (List.getElem?_eq_some_iff.mp hr).1
                exact hr3 j r (by rw [s1, List.getElem?_append_left this]; exact hr)
              · rw [flat_succ, hstep, List.length_append, List.map_append, bestW_app, ← Nat.add_assoc, hcnt, hbb]
                have hg2 : GS (wRow μ1 twr G) fa bw bwr D frm amt cn bb := by
                  refine ⟨?_, hg1.2.1, ?_⟩
                  · rw [hI_wRow_n _ _ nfa]; exact hg1.1
                  · rw [hI_wRow_n _ _ (Ne.symm ha.1), hI_wRow_n _ _ nbw]; exact hg1.2.2
                have ntw : tw ≠ twr := ne_of_sh g2.1 g2.2.2 (by decide)
                rw [hI_wRow_n _ _ ntw, a4] at f4
                have := GS.arr (w := pre ++ [v]) (i := i) A0 H0 h0 hg2 hold (by rw [hI_wRow_n _ _ nfa]; exact f3) (by simp; omega) hi5 s2 s3 (by omega) (by omega) hr3 f4
                rw [hA, hH] at this
                exact this
