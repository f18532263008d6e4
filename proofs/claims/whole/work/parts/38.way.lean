/-! ways, as mathematics -/
/-- what is known of hops: the link by two firms; by link its rate, article, whether the stop is taxed; by firm its land's tax, its credit; how many firms; whereto -/
def Hd : Type := (Nat → Nat → Option Nat) × (Nat → Nat) × (Nat → Nat) × (Nat → Bool) × (Nat → Nat) × (Nat → Nat) × Nat × Nat
def Hd.lk (D : Hd) : Nat → Nat → Option Nat := D.1
def Hd.rt (D : Hd) : Nat → Nat := D.2.1
def Hd.ar (D : Hd) : Nat → Nat := D.2.2.1
def Hd.tx (D : Hd) : Nat → Bool := D.2.2.2.1
def Hd.xr (D : Hd) : Nat → Nat := D.2.2.2.2.1
def Hd.cr (D : Hd) : Nat → Nat := D.2.2.2.2.2.1
def Hd.nf (D : Hd) : Nat := D.2.2.2.2.2.2.1
def Hd.to (D : Hd) : Nat := D.2.2.2.2.2.2.2
/-- a hop: whereto, rate, article, paid, held, due, credit -/
def Rc : Type := Nat × Nat × Nat × Nat × Nat × Nat × Nat
def Rc.fm (r : Rc) : Nat := r.1
def Rc.rt (r : Rc) : Nat := r.2.1
def Rc.ar (r : Rc) : Nat := r.2.2.1
def Rc.pd (r : Rc) : Nat := r.2.2.2.1
def Rc.hd (r : Rc) : Nat := r.2.2.2.2.1
def Rc.du (r : Rc) : Nat := r.2.2.2.2.2.1
def Rc.cr (r : Rc) : Nat := r.2.2.2.2.2.2
def Hd.k (D : Hd) (u v : Nat) : Nat := (D.lk u v).getD 0
def Hd.held (D : Hd) (u v p : Nat) : Nat := p * D.rt (D.k u v) / 1000
def Hd.due (D : Hd) (u v p : Nat) : Nat := dueN (D.tx (D.k u v)) p (D.xr v) (D.held u v p) (D.cr v)
def Hd.crd (D : Hd) (u v p : Nat) : Nat := crdN (D.tx (D.k u v)) p (D.xr v) (D.held u v p) (D.cr v)
def Hd.rest (D : Hd) (u v p : Nat) : Nat := p - D.held u v p - D.due u v p
def rcM (D : Hd) (u v p : Nat) : Rc := (v, D.rt (D.k u v), D.ar (D.k u v), p, D.held u v p, D.due u v p, D.crd u v p)
def rcE (D : Hd) (u v p : Nat) : Rc := (v, D.rt (D.k u v), D.ar (D.k u v), p, D.held u v p, 0, D.cr v)
/-- a way (the firms behind the first) from u with p: its hops -/
def recs (D : Hd) : Nat → Nat → List Nat → List Rc
  | _, _, [] => []
  | u, p, v :: vs => if vs = [] then [rcE D u v p] else rcM D u v p :: recs D v (D.rest u v p) vs
def leftW (D : Hd) : Nat → Nat → List Nat → Nat
  | _, p, [] => p
  | u, p, v :: vs => if vs = [] then p - D.held u v p else leftW D v (D.rest u v p) vs
def heldW (D : Hd) : Nat → Nat → List Nat → Nat
  | _, _, [] => 0
  | u, p, v :: vs => if vs = [] then D.held u v p else D.held u v p + heldW D v (D.rest u v p) vs
theorem recs_len (D : Hd) : ∀ (w : List Nat) (u p : Nat), (recs D u p w).length = w.length
  | [], _, _ => rfl
  | v :: vs, u, p => by
    unfold recs
    by_cases h : vs = []
    · rw [if_pos h, h]; rfl
    · rw [if_neg h, List.length_cons, recs_len D vs, List.length_cons]
def stepW (D : Hd) (rec : Nat → List (List Nat)) (u : Nat) (T : Nat → Bool) (v : Nat) : List (List Nat) :=
  if (D.lk u v).isSome = true ∧ T v = false then (if v = D.to then [[v]] else (rec v).map (fun w => v :: w)) else []
def addT (T : Nat → Bool) (v : Nat) : Nat → Bool := fun x => T x || x == v
def waysD (D : Hd) : Nat → Nat → (Nat → Bool) → List (List Nat)
  | 0, _, _ => []
  | n + 1, u, T => (List.range D.nf).flatMap (stepW D (fun v => waysD D n v (addT T v)) u T)
theorem len_flat {α β : Type} (f : α → List β) (M : Nat) : ∀ l : List α, (∀ x ∈ l, (f x).length ≤ M) → (l.flatMap f).length ≤ l.length * M
  | [], _ => by simp
  | x :: l, h => by
    have := len_flat f M l (fun y hy => h y (List.mem_cons_of_mem _ hy))
    have := h x (List.mem_cons_self ..)
    rw [List.flatMap_cons, List.length_append, List.length_cons, Nat.add_mul]
    omega
theorem ways_len (D : Hd) (h8 : D.nf ≤ 8) : ∀ (n u : Nat) (T : Nat → Bool), (waysD D n u T).length ≤ 8 ^ n
  | 0, _, _ => by simp [waysD]
  | n + 1, u, T => by
    unfold waysD
    have h1 : ∀ v, (stepW D (fun v => waysD D n v (addT T v)) u T v).length ≤ 8 ^ n := fun v => by
      unfold stepW
      have := ways_len D h8 n v (addT T v)
      have hp : 1 ≤ 8 ^ n := Nat.pow_pos (by omega)
      split
      · split
        · simpa using hp
        · simpa using this
      · simp
    have h2 := len_flat (stepW D (fun v => waysD D n v (addT T v)) u T) (8 ^ n) (List.range D.nf) (fun v _ => h1 v)
    rw [List.length_range] at h2
    calc _ ≤ D.nf * 8 ^ n := h2
      _ ≤ 8 * 8 ^ n := Nat.mul_le_mul_right _ h8
      _ = 8 ^ (n + 1) := by rw [Nat.pow_succ, Nat.mul_comm]
/-- e is better than b -/
def betB (sp : Bool) (A H h A0 H0 h0 : Nat) : Bool := if sp = true then decide (H < H0 ∨ H = H0 ∧ h < h0) else decide (A0 < A ∨ A = A0 ∧ h < h0)
def pickW (sp : Bool) (A H : List Nat → Nat) (b : Option (List Nat)) (w : List Nat) : Option (List Nat) := match b with
  | none => some w
  | some x => if betB sp (A w) (H w) w.length (A x) (H x) x.length = true then some w else some x
def bestW (sp : Bool) (A H : List Nat → Nat) (ws : List (List Nat)) (b : Option (List Nat)) : Option (List Nat) := ws.foldl (pickW sp A H) b
theorem bestW_app (sp : Bool) (A H : List Nat → Nat) (ws vs : List (List Nat)) (b : Option (List Nat)) : bestW sp A H (ws ++ vs) b = bestW sp A H vs (bestW sp A H ws b) := List.foldl_append ..
/-- the data are in their bounds -/
def Hd.ok (D : Hd) : Prop := D.nf ≤ 8 ∧ D.to < D.nf ∧ (∀ u v k, D.lk u v = some k → k < 16) ∧ (∀ u v k, D.lk u v = some k → D.rt k ≤ 1000 ∧ D.ar k ≤ 5) ∧ (∀ v, v < D.nf → D.xr v ≤ 1000 ∧ D.cr v ≤ 1000000000)
theorem mulrate {p r : Nat} (hr : r ≤ 1000) : p * r / 1000 ≤ p := by
  have : p * r ≤ p * 1000 := Nat.mul_le_mul_left _ hr
  omega
theorem dueN_le {tx : Bool} {p x h c : Nat} (hx : x ≤ 1000) (hh : h ≤ p) : h + dueN tx p x h c ≤ p := by
  unfold dueN
  have := mulrate (p := p) hx
  split
  · omega
  · omega
theorem Hd.held_le {D : Hd} (hD : D.ok) {u v p k : Nat} (h : D.lk u v = some k) : D.held u v p ≤ p := by
  unfold Hd.held Hd.k
  rw [h]
  exact mulrate (hD.2.2.2.1 u v k h).1
theorem Hd.due_le {D : Hd} (hD : D.ok) {u v p k : Nat} (h : D.lk u v = some k) (hv : v < D.nf) : D.held u v p + D.due u v p ≤ p :=
  dueN_le (hD.2.2.2.2 v hv).1 (D.held_le hD h)
theorem crdN_le {tx : Bool} {p x h c : Nat} (hc : c ≤ 1000000000) : crdN tx p x h c ≤ 1000000000 := by
  unfold crdN
  split
  · exact Nat.min_le_right _ _
  · exact hc
/-! a Way's row holds hops -/
def rcAt (f : Nat → Int32) (j : Nat) (r : Rc) : Prop := f j = nI r.fm ∧ f (5 + j) = nI r.rt ∧ f (10 + j) = nI r.ar ∧ f (15 + j) = nI r.pd ∧ f (20 + j) = nI r.hd ∧ f (25 + j) = nI r.du ∧ f (30 + j) = nI r.cr
def rcs (f : Nat → Int32) (rs : List Rc) : Prop := ∀ j r, rs[j]? = some r → rcAt f j r
theorem rcs_app {f g : Nat → Int32} {rs : List Rc} {r : Rc} (h : rcs f rs) (hg : ∀ j r, j < rs.length → rcAt f j r → rcAt g j r) (hr : rcAt g rs.length r) : rcs g (rs ++ [r]) := by
  intro j q hq
  rcases Nat.lt_trichotomy j rs.length with h1 | h1 | h1
  · rw [List.getElem?_append_left h1] at hq
    exact hg j q h1 (h j q hq)
  · subst h1
    rw [List.getElem?_append_right (Nat.le_refl _)] at hq
    simp at hq
    subst hq
    exact hr
  · rw [List.getElem?_append_right (by omega)] at hq
    have : ([r] : List Rc)[j - rs.length]? = none := by rw [List.getElem?_eq_none]; simp; omega
    rw [this] at hq
    cases hq
theorem sub_gt {a b : Nat} (ha : a < 2 ^ 30) (hb : b < 2 ^ 30) : 0 < nI a - nI b ↔ b < a := by
  rw [Int32.lt_iff_toInt_lt, pk_sub_toInt ha hb]
  show (0 : Int) < _ ↔ _
  omega
theorem sub_eq0 {a b : Nat} (ha : a < 2 ^ 30) (hb : b < 2 ^ 30) : nI a - nI b = 0 ↔ a = b := by
  rw [← Int32.toInt_inj, pk_sub_toInt ha hb]
  show _ = (0 : Int) ↔ _
  omega
theorem Fr.tt {S : List Nat} {μ μ1 μ2 : Hp} (h1 : Fr S μ μ1) (h2 : Fr S μ1 μ2) : Fr S μ μ2 := Fr.tr h1 h2 (fun _ h => h) (fun _ h => h)
theorem Fr.w1 {S : List Nat} {μ μ1 : Hp} {a k : Nat} {x : Int32} (h : Fr S μ μ1) (ha : a ∈ S) : Fr S μ (wI μ1 a k x) := h.tt (Fr.wi ha)
theorem Fr.w2 {S : List Nat} {μ μ1 : Hp} {a : Nat} {f : Nat → Int32} (h : Fr S μ μ1) (ha : a ∈ S) : Fr S μ (wRow μ1 a f) := h.tt (Fr.row ha)
theorem Fr.sub {S S' : List Nat} {μ μ1 : Hp} (h : Fr S μ μ1) (hs : ∀ a ∈ S, a ∈ S') : Fr S' μ μ1 := ⟨h.1, h.2.1, h.2.2.1, fun a ha => h.2.2.2 a (fun q => ha (hs a q))⟩
/-! a way is at its end -/
theorem c_arrive {d : Nat} {ro : Nat → Nat} {μ : Hp} {fa bw bwr tw twr la ra aa ta st row i A H cnt to : Nat} {sp : Bool} (A0 H0 h0 : Nat) (hd : 1 ≤ d) (hfd : isFd μ fa bw tw la ra aa ta) (htw : isWy μ tw twr) (hbw : isWy μ bw bwr) (hst : isSt μ st row)
    (hi : i < 5) (hA : A < 2 ^ 30) (hH : H < 2 ^ 30) (hto : hI μ fa 7 = nI to) (hto8 : to < 8) (hsp : hI μ fa 8 = if sp = true then 1 else 0) (hcn : hI μ fa 1 = nI cnt) (hc : cnt < 2 ^ 30)
    (hb : cnt ≠ 0 → hI μ bw 2 = nI h0 ∧ hI μ bw 3 = nI A0 ∧ hI μ bw 4 = nI H0 ∧ h0 < 2 ^ 30 ∧ A0 < 2 ^ 30 ∧ H0 < 2 ^ 30) (n1 : twr ≠ bwr) (n2 : twr ≠ row) (n3 : bw ≠ tw) :
    xC d yX3_arrive cX3_arrive 6 none 0 0 [.ref fa, .ref st, .int (nI i), .int (nI A), .int (nI H)] μ ro (fun r μ' => r = none ∧ Fr [twr, fa, bw, bwr] μ μ' ∧ hI μ' twr = upd (upd (hI μ twr) (25 + i) 0) (30 + i) (hI μ row (10 + to)) ∧ hI μ' fa = upd (hI μ fa) 1 (nI (cnt + 1)) ∧
      (if cnt = 0 ∨ betB sp A H (i + 1) A0 H0 h0 = true then (∀ j, j < 35 → hI μ' bwr j = hI μ' twr j) ∧ hI μ' bw 1 = hI μ tw 1 ∧ hI μ' bw 2 = nI (i + 1) ∧ hI μ' bw 3 = nI A ∧ hI μ' bw 4 = nI H else hI μ' bwr = hI μ bwr ∧ hI μ' bw = hI μ bw)) := by
  have m1 : fa ≠ twr := ne_of_sh hfd.1 htw.2.2 (by decide)
  have m2 : fa ≠ bwr := ne_of_sh hfd.1 hbw.2.2 (by decide)
  have m3 : fa ≠ bw := ne_of_sh hfd.1 hbw.1 (by decide)
  have m4 : bw ≠ twr := ne_of_sh hbw.1 htw.2.2 (by decide)
  have m5 : bw ≠ bwr := ne_of_sh hbw.1 hbw.2.2 (by decide)
  have m6' : tw ≠ twr := ne_of_sh htw.1 htw.2.2 (by decide)
  have m7 : tw ≠ bwr := ne_of_sh htw.1 hbw.2.2 (by decide)
  have m8 : tw ≠ fa := Ne.symm (ne_of_sh hfd.1 htw.1 (by decide))
  have m9 : row ≠ twr := Ne.symm n2
  obtain ⟨hf0, ⟨hfb, -, -, -, -, hft⟩, -⟩ := hfd
  obtain ⟨ht0, ht1, ht2⟩ := htw
  obtain ⟨hb0, hb1, hb2⟩ := hbw
  obtain ⟨hs0, hs1, hs2⟩ := hst
  have e25 : ((25 : Int32) + nI i).toNatClampNeg = 25 + i := off_cl 25 (by omega)
  have e30 : ((30 : Int32) + nI i).toNatClampNeg = 30 + i := off_cl 30 (by omega)
  generalize hG : upd (upd (hI μ twr) (25 + i) 0) (30 + i) (hI μ row (10 + to)) = G
  generalize hM : wI (wRow μ twr G) fa 1 (nI (cnt + 1)) = M
  have Mtwr : hI M twr = G := by rw [← hM, hI_wI_n _ _ _ (Ne.symm m1), hI_wRow_s]
  have Mfa : hI M fa = upd (hI μ fa) 1 (nI (cnt + 1)) := by rw [← hM, hI_wI_s, hI_wRow_n _ _ m1]
  have Mo : ∀ b, b ≠ twr → b ≠ fa → hI M b = hI μ b := fun b q1 q2 => by rw [← hM, hI_wI_n _ _ _ q2, hI_wRow_n _ _ q1]
  have MF : Fr [twr, fa, bw, bwr] μ M := by
    rw [← hM]
    exact Fr.tr (S1 := [twr]) (S2 := [fa]) (Fr.row (by simp)) (Fr.wi (by simp)) (by simp) (by simp)
  refine I_X3_arrive (fun J g hr => B_X3_arrive_0 g hr hf0 hft ht0 ht1 ht2 hs0 hs1 hs2 hfb hb0 ?_)
  have j109 : (cnt = 0 ∨ betB sp A H (i + 1) A0 H0 h0 = true) → J M 0 0 109 [(0, .ref fa), (2, .int (nI i)), (3, .int (nI A)), (4, .int (nI H))] [] := fun hb' => by
    have MS : hS M = hS μ := MF.2.2.1
    have MR : hR M = hR μ := MF.2.1
    refine B_X3_arrive_109 g hr (by rw [MS]; exact hf0) (by rw [MR]; exact hft) (by rw [MS]; exact ht0) (by rw [MR]; exact ht1) (by rw [MR]; exact hfb) (by rw [MS]; exact hb0) (by rw [MR]; exact hb1) (by rw [MS]; exact ht2) (by rw [MS]; exact hb2) hd ⟨⟨by decide, by decide, by decide, by decide, by decide⟩, fun v2 e2 => ⟨rfl, ?_, ?_, ?_, ?_⟩⟩
    · exact ((((MF.w2 (by simp)).w1 (by simp)).w1 (by simp)).w1 (by simp)).w1 (by simp)
    · rw [hI_wI_n _ _ _ (Ne.symm m4), hI_wI_n _ _ _ (Ne.symm m4), hI_wI_n _ _ _ (Ne.symm m4), hI_wI_n _ _ _ (Ne.symm m4), hI_wRow_n _ _ n1, Mtwr]
    · rw [hI_wI_n _ _ _ m3, hI_wI_n _ _ _ m3, hI_wI_n _ _ _ m3, hI_wI_n _ _ _ m3, hI_wRow_n _ _ m2, Mfa]
    · rw [if_pos hb']
      rw [hI_wRow_n _ _ m7, Mo _ m6' m8] at e2
      refine ⟨fun j hj => ?_, ?_, ?_, ?_, ?_⟩
      · rw [hI_wI_n _ _ _ (Ne.symm m5), hI_wI_n _ _ _ (Ne.symm m5), hI_wI_n _ _ _ (Ne.symm m5), hI_wI_n _ _ _ (Ne.symm m5), hI_wRow_s]
        rw [hI_wI_n _ _ _ (Ne.symm m4), hI_wI_n _ _ _ (Ne.symm m4), hI_wI_n _ _ _ (Ne.symm m4), hI_wI_n _ _ _ (Ne.symm m4), hI_wRow_n _ _ n1, Mtwr]
        rw [cpy0]
        exact if_pos hj
      · rw [hI_wI_s, upd_n _ (by decide), hI_wI_s, upd_n _ (by decide), hI_wI_s, upd_n _ (by decide), hI_wI_s, upd_s, e2]
      · rw [hI_wI_s, upd_n _ (by decide), hI_wI_s, upd_n _ (by decide), hI_wI_s, upd_s, nI_1]
      · rw [hI_wI_s, upd_n _ (by decide), hI_wI_s, upd_s]
      · rw [hI_wI_s, upd_s]
  have jno : ¬ (cnt = 0 ∨ betB sp A H (i + 1) A0 H0 h0 = true) → (none : Option Value) = none ∧ Fr [twr, fa, bw, bwr] μ M ∧ hI M twr = G ∧ hI M fa = upd (hI μ fa) 1 (nI (cnt + 1)) ∧
      (if cnt = 0 ∨ betB sp A H (i + 1) A0 H0 h0 = true then (∀ j, j < 35 → hI M bwr j = hI M twr j) ∧ hI M bw 1 = hI μ tw 1 ∧ hI M bw 2 = nI (i + 1) ∧ hI M bw 3 = nI A ∧ hI M bw 4 = nI H else hI M bwr = hI μ bwr ∧ hI M bw = hI μ bw) := fun h => by
    rw [if_neg h]
    exact ⟨rfl, MF, Mtwr, Mfa, Mo _ (Ne.symm n1) (Ne.symm m2), Mo _ m4 (Ne.symm m3)⟩
  rw [e25, e30, hI_wI_n _ _ _ m1, hto, hI_wI_n _ _ _ m9, show ((10 : Int32) + nI to).toNatClampNeg = 10 + to from off_cl 10 (by omega)]
  refine ⟨off_in 25 (by omega) (by omega), off_in 10 (by omega) (by omega), fun v3 e3 => ⟨off_in 30 (by omega) (by omega), fun v5 e5 v6 e6 => ?_⟩⟩
  subst e3
  rw [hI_wI_n _ _ _ m1, hI_wI_n _ _ _ m1, hcn] at e5
  subst e5
  rw [nI_1, wI_wI, hG, hM] at e6 ⊢
  rw [Mfa, upd_n _ (by decide), hsp] at e6
  have one : nI (cnt + 1) = 1 ↔ cnt = 0 := by
    rw [show (1 : Int32) = nI 1 from rfl, nI_eq (by omega) (by omega)]
    omega
  have c1 : hI M fa 1 = nI (cnt + 1) := by rw [Mfa, upd_s]
  have cb : hI M bw = hI μ bw := Mo _ m4 (Ne.symm m3)
  refine ⟨fun h6 v8 e8 v9 e9 => ?_, fun h6 v8 e8 v9 e9 => ?_⟩
  · have hs : sp = false := by
      cases sp
      · rfl
      · rw [e6] at h6; exact absurd h6 (by decide)
    rw [c1] at e9
    rw [e9]
    refine ⟨fun h => j109 (Or.inl (one.mp h)), fun h => ?_⟩
    have hc0 : cnt ≠ 0 := fun q => h (one.mpr q)
    obtain ⟨q2, q3, q4, l2, l3, l4⟩ := hb hc0
    rw [cb, q3] at e8
    subst e8
    subst hs
    refine ⟨fun h => j109 (Or.inr ?_), fun h => ⟨fun h2 => jno ?_, fun h2 v13 e13 => ?_⟩⟩
    · rw [sub_gt hA l3] at h
      simp [betB, h]
    · rw [sub_gt hA l3] at h
      rw [sub_eq0 hA l3] at h2
      simp [betB, hc0, h, h2]
    · rw [sub_eq0 hA l3] at h2
      rw [cb, q2] at e13
      rw [e13, nI_1]
      rw [sub_gt hA l3] at h
      refine pk_le h0 (i + 1) (fun h3 => jno ?_) (fun h3 => j109 (Or.inr ?_))
      · simp [betB, hc0, h]; omega
      · simp [betB]; omega
  · have hs : sp = true := by
      cases sp
      · rw [e6] at h6; exact absurd rfl h6
      · rfl
    rw [c1] at e9
    rw [e9]
    refine ⟨fun h => j109 (Or.inl (one.mp h)), fun h => ?_⟩
    have hc0 : cnt ≠ 0 := fun q => h (one.mpr q)
    obtain ⟨q2, q3, q4, l2, l3, l4⟩ := hb hc0
    rw [cb, q4] at e8
    subst e8
    subst hs
    refine ⟨fun h => j109 (Or.inr ?_), fun h => ⟨fun h2 => jno ?_, fun h2 v13 e13 => ?_⟩⟩
    · rw [sub_gt l4 hH] at h
      simp [betB, h]
    · rw [sub_gt l4 hH] at h
      rw [sub_eq0 l4 hH] at h2
      simp [betB, hc0, h]; omega
    · rw [sub_eq0 l4 hH] at h2
      rw [cb, q2] at e13
      rw [e13, nI_1]
      rw [sub_gt l4 hH] at h
      refine pk_le h0 (i + 1) (fun h3 => jno ?_) (fun h3 => j109 (Or.inr ?_))
      · simp [betB, hc0, h]; omega
      · simp [betB]; omega
