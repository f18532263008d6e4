/-! pure: staff between thresholds; more paid brings never less -/
theorem artF_staff {here there home n : Nat} {tA : Nat → Nat → Option Nat} {sort shareL since year : Int32} {tS tO tH tY : Nat → Int32} (h : ∀ t, tA here there = some t → bd (tS t) 100 ∧ tS t ≠ nI (n + 1)) (hn : n + 1 < 100) :
    artF here there home tA sort (nI (n + 1)) shareL since year tS tO tH tY = artF here there home tA sort (nI n) shareL since year tS tO tH tY := by
  by_cases e : here = there
  · rw [artF, artF, if_pos e, if_pos e]
  · cases hc : tA here there with
    | none => rw [artF, artF, if_neg e, if_neg e, hc]
    | some t =>
      rw [artF_some e hc, artF_some e hc]
      obtain ⟨⟨m, hm, em⟩, hne⟩ := h t hc
      have : (nI (n + 1) < tS t) = (nI n < tS t) := by
        rw [em]
        rw [em] at hne
        have hmn : m ≠ n + 1 := fun q => hne (by rw [q])
        rcases Nat.lt_or_ge n m with h | h
        · exact propext ⟨fun _ => nI_lt h (by omega), fun _ => nI_lt (by omega) (by omega)⟩
        · exact propext ⟨fun q => absurd q (nI_nlt (by omega) (by omega)), fun q => absurd q (nI_nlt (by omega) (by omega))⟩
      simp only [this]
theorem artD_staff {B : Bk} (hB : B.ok) {f : Nat → Int32} {p q : Int32} {ow k v n : Nat} (hv : v < 8) (hn : n + 1 < 100) (h : ∀ t, t < B.nt → B.tr (72 + t) ≠ nI (n + 1)) :
    artD (upd f (2 + v) (nI (n + 1))) B.lo B.tr B.nt p q ow k = artD (upd f (2 + v) (nI n)) B.lo B.tr B.nt p q ow k := by
  unfold artD
  have e : ∀ x j, j = 0 ∨ 10 ≤ j → upd f (2 + v) x j = f j := fun x j hj => upd_n _ (by omega)
  rw [e _ (64 + k) (by omega), e _ (48 + k) (by omega), e _ 0 (by omega), e _ (32 + k) (by omega), e _ (80 + k) (by omega), e _ (96 + k) (by omega), e _ (64 + k) (by omega), e _ (48 + k) (by omega), e _ 0 (by omega), e _ (32 + k) (by omega), e _ (80 + k) (by omega), e _ (96 + k) (by omega)]
  by_cases hc : cl (f (48 + k)) = v
  · rw [hc, upd_s, upd_s]
    exact artF_staff (fun t ht => ⟨((hB.1.2.2.2 t (tAf_lt ht)).1.2.2.2.2.2.2.1), h t (tAf_lt ht)⟩) hn
  · rw [upd_n _ (by omega), upd_n _ (by omega)]
theorem D_staff {B : Bk} (hB : B.ok) {f : Nat → Int32} {p q s : Int32} {ow v n : Nat} (hv : v < 8) (hn : n + 1 < 100) (h : ∀ t, t < B.nt → B.tr (72 + t) ≠ nI (n + 1)) :
    B.D (upd f (2 + v) (nI (n + 1))) p q s ow = B.D (upd f (2 + v) (nI n)) p q s ow := by
  have e : ∀ x j, j < 2 ∨ 10 ≤ j → upd f (2 + v) x j = f j := fun x j hj => upd_n _ (by omega)
  have hA : ∀ k, artD (upd f (2 + v) (nI (n + 1))) B.lo B.tr B.nt p q ow k = artD (upd f (2 + v) (nI n)) B.lo B.tr B.nt p q ow k := fun k => artD_staff hB hv hn h
  have hp : ∀ x u w, hpP (upd f (2 + v) x) s u w = hpP f s u w := fun x u w => funext fun k => by
    unfold hpP
    rw [e _ (32 + k) (by omega), e _ 0 (by omega), e _ (96 + k) (by omega), e _ (64 + k) (by omega), e _ (48 + k) (by omega)]
  have ht : ∀ x, txdF (upd f (2 + v) x) = txdF f := fun x => funext fun k => by
    unfold txdF
    rw [e _ (32 + k) (by omega), e _ (80 + k) (by omega)]
  have hR : ∀ k, rateD (upd f (2 + v) (nI (n + 1))) B.lw B.lo B.tr B.nt p q ow k = rateD (upd f (2 + v) (nI n)) B.lw B.lo B.tr B.nt p q ow k := fun k => by
    unfold rateD
    rw [hA, e _ (64 + k) (by omega), e _ (48 + k) (by omega), e _ 0 (by omega), e _ (32 + k) (by omega), e _ (64 + k) (by omega), e _ (48 + k) (by omega), e _ 0 (by omega), e _ (32 + k) (by omega)]
  have hcr : ∀ x (j : Nat), upd f (2 + v) x (10 + j) = f (10 + j) := fun x j => e x _ (by omega)
  unfold Bk.D mkD
  simp only [hA, hR, hp, ht, hcr, e _ 1 (by omega)]
  rfl
theorem arr_staff {B : Bk} (hB : B.ok) {f : Nat → Int32} {p q s : Int32} {u t a M v n : Nat} (hv : v < 8) (hn : n + 1 < 100) (h : ∀ t, t < B.nt → B.tr (72 + t) ≠ nI (n + 1)) :
    arrOf B (upd f (2 + v) (nI (n + 1))) p q s u t a M = arrOf B (upd f (2 + v) (nI n)) p q s u t a M := by
  unfold arrOf wayOf
  rw [D_staff hB hv hn h]
/-- a cut takes one more at most of one more -/
theorem cut_mono {p p' r : Nat} (h : p ≤ p') (hr : r ≤ 1000) : p - p * r / 1000 ≤ p' - p' * r / 1000 := by
  have h1 : p' * r ≤ p * r + (p' - p) * 1000 := by
    obtain ⟨e, rfl⟩ := Nat.exists_eq_add_of_le h
    rw [Nat.add_mul, Nat.add_sub_cancel_left]
    exact Nat.add_le_add_left (Nat.mul_le_mul_left e hr) _
  have h2 : p' * r / 1000 ≤ p * r / 1000 + (p' - p) := by
    calc p' * r / 1000 ≤ (p * r + (p' - p) * 1000) / 1000 := Nat.div_le_div_right h1
      _ = p * r / 1000 + (p' - p) := Nat.add_mul_div_right _ _ (by omega)
  have h3 : p * r / 1000 ≤ p := mulrate hr
  have h4 : p' * r / 1000 ≤ p' := mulrate hr
  omega
theorem rest_mono {D : Hd} (hD : D.ok) {u v p p' k : Nat} (hk : D.lk u v = some k) (hv : v < D.nf) (h : p ≤ p') : D.rest u v p ≤ D.rest u v p' := by
  have hr := (hD.2.2.2.1 _ _ _ hk).1
  have hx := (hD.2.2.2.2 v hv).1
  have ek : D.k u v = k := by unfold Hd.k; rw [hk]; rfl
  have c1 := cut_mono h hr
  have c2 := cut_mono h hx
  have m1 : p * D.rt k / 1000 ≤ p := mulrate hr
  have m2 : p' * D.rt k / 1000 ≤ p' := mulrate hr
  have m3 : p * D.xr v / 1000 ≤ p := mulrate hx
  have m4 : p' * D.xr v / 1000 ≤ p' := mulrate hx
  unfold Hd.rest Hd.due Hd.held dueN
  rw [ek]
  generalize p * D.rt k / 1000 = a1 at *
  generalize p' * D.rt k / 1000 = a2 at *
  generalize p * D.xr v / 1000 = b1 at *
  generalize p' * D.xr v / 1000 = b2 at *
  generalize D.cr v = c
  split <;> omega
theorem left_mono {D : Hd} (hD : D.ok) : ∀ {w : List Nat} {u p p' : Nat}, chn D u w → p ≤ p' → leftW D u p w ≤ leftW D u p' w
  | [], _, _, _, _, h => h
  | v :: vs, u, p, p', hc, h => by
    obtain ⟨⟨k, hk⟩, hv, hc'⟩ := hc
    unfold leftW
    by_cases e : vs = []
    · rw [if_pos e, if_pos e]
      have ek : D.k u v = k := by unfold Hd.k; rw [hk]; rfl
      unfold Hd.held
      rw [ek]
      exact cut_mono h (hD.2.2.2.1 _ _ _ hk).1
    · rw [if_neg e, if_neg e]
      exact left_mono hD hc' (rest_mono hD hk hv h)
theorem bestW_max {A H : List Nat → Nat} : ∀ {ws : List (List Nat)} {b : Option (List Nat)} {w : List Nat}, bestW false A H ws b = some w → (∀ x ∈ ws, A x ≤ A w) ∧ ∀ x, b = some x → A x ≤ A w
  | [], b, w, h => by
    have h' : b = some w := h
    refine ⟨fun x hx => by simp at hx, fun x hx => ?_⟩
    rw [h'] at hx
    cases hx
    exact Nat.le_refl _
  | v :: ws, b, w, h => by
    have h' : bestW false A H ws (pickW false A H b v) = some w := h
    obtain ⟨h1, h2⟩ := bestW_max h'
    have h3 : A v ≤ A w ∧ ∀ x, b = some x → A x ≤ A w := by
      cases b with
      | none => exact ⟨h2 v rfl, fun x hx => by cases hx⟩
      | some y =>
        have h2' : ∀ x, (if betB false (A v) (H v) v.length (A y) (H y) y.length = true then some v else some y) = some x → A x ≤ A w := h2
        by_cases hb : betB false (A v) (H v) v.length (A y) (H y) y.length = true
        · have := h2' v (if_pos hb)
          have hb' : A y ≤ A v := by
            simp only [betB] at hb
            simp at hb
            omega
          exact ⟨this, fun x hx => by cases hx; exact Nat.le_trans hb' this⟩
        · have := h2' y (if_neg hb)
          have hb' : A v ≤ A y := by
            simp only [betB] at hb
            simp at hb
            omega
          exact ⟨Nat.le_trans hb' this, fun x hx => by cases hx; exact this⟩
    refine ⟨fun x hx => ?_, h3.2⟩
    rcases List.mem_cons.mp hx with rfl | hx
    · exact h3.1
    · exact h1 x hx
theorem wayOf_none {B : Bk} {f : Nat → Int32} {p q : Int32} {sp : Bool} {s : Int32} {u t a M : Nat} : wayOf B f p q sp s u t a M = none ↔ waysD (B.D f p q s t) 5 u (tM M u) = [] := by
  unfold wayOf bestD
  rw [bestW_none]
  simp
theorem arr_le {B : Bk} (hB : B.ok) {f : Nat → Int32} (hr : B.row f) {p q s : Int32} {u t a M : Nat} (ht : t < B.nf) {w : List Nat} (hw : wayOf B f p q false s u t a M = some w) : leftW (B.D f p q s t) u a w ≤ a := by
  have := hl_le (Bk.D_ok (p := p) (q := q) (s := s) hB hr ht) (p := a) (wayOf_ok hw).2.2.1
  omega
theorem arr_mono {B : Bk} (hB : B.ok) {f : Nat → Int32} (hr : B.row f) {p q s : Int32} {u t a a' M : Nat} (ht : t < B.nf) (h : a ≤ a') (h' : a' ≤ 1000000) : arrOf B f p q s u t a M ≤ arrOf B f p q s u t a' M := by
  unfold arrOf
  cases hw : wayOf B f p q false s u t a M with
  | none =>
    have : wayOf B f p q false s u t a' M = none := wayOf_none.mpr (wayOf_none.mp hw)
    rw [this]
    exact Int32.le_refl _
  | some w =>
    cases hw' : wayOf B f p q false s u t a' M with
    | none =>
      have : wayOf B f p q false s u t a M = none := wayOf_none.mpr (wayOf_none.mp hw')
      rw [this] at hw
      cases hw
    | some w' =>
      have hok := Bk.D_ok (p := p) (q := q) (s := s) hB hr ht
      have h1 := left_mono hok (wayOf_ok hw).2.2.1 h
      have hm : w ∈ waysD (B.D f p q s t) 5 u (tM M u) := by
        rcases bestW_mem hw with h | h
        · exact h
        · cases h
      have h2 := (bestW_max hw').1 w hm
      have h3 := arr_le hB hr ht hw'
      exact nI_le (by omega) (by omega)
theorem arr_gt {B : Bk} (hB : B.ok) {f : Nat → Int32} (hr : B.row f) {p q s : Int32} {u t a b M : Nat} (ht : t < B.nf) (h : a < b) (hb : b ≤ 1000000) : ¬ nI b ≤ arrOf B f p q s u t a M := by
  unfold arrOf
  cases hw : wayOf B f p q false s u t a M with
  | none => exact fun q => absurd (Int32.le_trans (nI_pos' (n := b) (by omega)) q) (show ¬ (0 : Int32) ≤ -1 by decide)
  | some w =>
    have := arr_le hB hr ht hw
    exact nI_ge (by omega) (by omega)
/-- the first place -/
theorem fstP_is {P : Nat → Bool} : ∀ {m i j : Nat}, i ≤ j → j < i + m → P j = true → (∀ k, i ≤ k → k < j → ¬ P k = true) → fstP P i m = some j
  | 0, i, j, h1, h2, _, _ => by omega
  | m + 1, i, j, h1, h2, h3, h4 => by
    by_cases e : i = j
    · subst e; exact fstP_t h3
    · rw [fstP_f (h4 i (Nat.le_refl _) (by omega))]
      exact fstP_is (by omega) (by omega) h3 (fun k hk hk' => h4 k (by omega) hk')
theorem fstP_no {P : Nat → Bool} : ∀ {m i : Nat}, (∀ k, i ≤ k → k < i + m → ¬ P k = true) → fstP P i m = none
  | 0, i, _ => rfl
  | m + 1, i, h => by
    rw [fstP_f (h i (Nat.le_refl _) (by omega))]
    exact fstP_no (fun k hk hk' => h k (by omega) (by omega))
