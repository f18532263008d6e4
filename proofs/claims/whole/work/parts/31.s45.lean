/-! Log and History: rings -/
theorem upd_upd (f : Nat → Int32) (k : Nat) (x y : Int32) : upd (upd f k x) k y = upd f k y := by
  funext j
  by_cases h : j = k <;> simp [upd, h]
theorem upd_id (f : Nat → Int32) (k : Nat) : upd f k (f k) = f := by
  funext j
  by_cases h : j = k <;> simp [upd, h]
theorem hI_wI_n (μ : Hp) {a b : Nat} (k : Nat) (x : Int32) (h : b ≠ a) : hI (wI μ a k x) b = hI μ b := va_up_ne _ _ h
theorem ne_of_sh {μ : Hp} {a b k n k' n' : Nat} (h1 : hS μ a = some (k, n)) (h2 : hS μ b = some (k', n')) (h : k ≠ k') : a ≠ b := fun e => by
  subst e
  rw [h1] at h2
  cases h2
  exact h rfl
/-- only the int slots of the cells in S differ -/
def Fr (S : List Nat) (μ μ' : Hp) : Prop := hL μ' = hL μ ∧ hR μ' = hR μ ∧ hS μ' = hS μ ∧ ∀ a, a ∉ S → hI μ' a = hI μ a
theorem Fr.rf {S : List Nat} {μ : Hp} : Fr S μ μ := ⟨rfl, rfl, rfl, fun _ _ => rfl⟩
theorem Fr.tr {S S1 S2 : List Nat} {μ μ1 μ2 : Hp} (h1 : Fr S1 μ μ1) (h2 : Fr S2 μ1 μ2) (i1 : ∀ a ∈ S1, a ∈ S) (i2 : ∀ a ∈ S2, a ∈ S) : Fr S μ μ2 :=
  ⟨h2.1.trans h1.1, h2.2.1.trans h1.2.1, h2.2.2.1.trans h1.2.2.1, fun a ha => (h2.2.2.2 a (fun q => ha (i2 a q))).trans (h1.2.2.2 a (fun q => ha (i1 a q)))⟩
theorem Fr.row {S : List Nat} {μ : Hp} {a : Nat} {f : Nat → Int32} (h : a ∈ S) : Fr S μ (wRow μ a f) := ⟨rfl, rfl, rfl, fun b hb => hI_wRow_n _ _ (fun e => hb (e ▸ h))⟩
theorem Fr.wi {S : List Nat} {μ : Hp} {a k : Nat} {x : Int32} (h : a ∈ S) : Fr S μ (wI μ a k x) := Fr.row h
theorem wI_wI (μ : Hp) (a k k' : Nat) (x y : Int32) : wI (wI μ a k x) a k' y = wRow μ a (upd (upd (hI μ a) k x) k' y) := by rw [wI_eq μ, wI_wRow]
theorem min_lit (c : Nat) {x : Nat} (hx : x < 2 ^ 31) (hc : c < 2 ^ 31) : (if Int32.ofNat c < nI x then Int32.ofNat c else nI x) = nI (min x c) := by
  show (if nI c < nI x then nI c else nI x) = nI (min x c)
  by_cases h : x ≤ c
  · rw [if_neg (nI_nlt h hc), Nat.min_eq_left h]
  · rw [if_pos (nI_lt (a := c) (by omega) hx), Nat.min_eq_right (by omega)]
theorem wRow_comm (μ : Hp) {a b : Nat} (f g : Nat → Int32) (h : a ≠ b) : wRow (wRow μ a f) b g = wRow (wRow μ b g) a f := by
  have e : va_up (va_up (hI μ) a f) b g = va_up (va_up (hI μ) b g) a f := by
    funext j
    by_cases h1 : j = a
    · subst h1; simp [va_up, h]
    · by_cases h2 : j = b
      · subst h2; simp [va_up, h1]
      · simp [va_up, h1, h2]
  show (va_up (va_up (hI μ) a f) b g, _, _, _) = (va_up (va_up (hI μ) b g) a f, _, _, _)
  rw [e]
  rfl
/-- the Log at a has its row at b -/
def isLg (μ : Hp) (a b : Nat) : Prop := hS μ a = some (9, 3) ∧ hR μ a 2 = some b ∧ hS μ b = some (0, 300)
theorem isLg.ne {μ : Hp} {a b : Nat} (h : isLg μ a b) : a ≠ b := ne_of_sh h.1 h.2.2 (by decide)
theorem c_lgForget {d : Nat} {ro : Nat → Nat} {μ : Hp} {a b : Nat} (h : isLg μ a b) :
    xC d yX5_forget cX5_forget 1 none 0 0 [.ref a] μ ro (fun r μ' => r = none ∧ μ' = wI μ a 0 0) :=
  I_X5_forget (fun J g hr => B_X5_forget_0 g hr h.1 ⟨rfl, rfl⟩)
theorem rem_n {a : Nat} (d : Nat) (ha : a < 2 ^ 31) (h0 : 0 < d) (hd : d < 2 ^ 31) : nI a - nI a / Int32.ofNat d * Int32.ofNat d = nI (a % d) := pk_rem ha h0 hd
def lgRow (f : Nat → Int32) (nx : Nat) (x y z : Int32) : Nat → Int32 := upd (upd (upd f (nx * 3) x) (nx * 3 + 1) y) (nx * 3 + 2) z
def lgHead (f : Nat → Int32) (nx hd : Nat) : Nat → Int32 := upd (upd f 1 (nI nx)) 0 (nI hd)
theorem c_lgAdd {d : Nat} {ro : Nat → Nat} {μ : Hp} {a b nx hd : Nat} {x y z : Int32} (hd9 : 1 ≤ d) (h : isLg μ a b) (hnx : hI μ a 1 = nI nx) (hnx1 : nx < 100) (hhd : hI μ a 0 = nI hd) (hhd1 : hd ≤ 100) :
    xC d yX5_add cX5_add 5 none 0 0 [.ref a, .int x, .int y, .int z] μ ro (fun r μ' => r = none ∧ μ' = wRow (wRow μ b (lgRow (hI μ b) nx x y z)) a (lgHead (hI μ a) ((nx + 1) % 100) (min (hd + 1) 100))) := by
  have hne := h.ne
  obtain ⟨hs0, hr0, hs1⟩ := h
  refine I_X5_add (fun J g hr => B_X5_add_0 g hr hs0 hr0 hs1 hd9 ?_)
  have m3 : nI nx * 3 = nI (nx * 3) := pk_mul nx 3
  have m4 : nI (nx * 3) + 1 = nI (nx * 3 + 1) := nI_1 _
  have m5 : nI (nx * 3) + 2 = nI (nx * 3 + 2) := nI_add _ 2
  rw [hnx, m3, m4, m5, nI_clamp (by omega), nI_clamp (by omega), nI_clamp (by omega)]
  refine ⟨vp_in_nI (by omega) (by omega), vp_in_nI (by omega) (by omega), vp_in_nI (by omega) (by omega), fun v4 e4 v5 e5 => ⟨rfl, ?_⟩⟩
  rw [hI_wI_n _ _ _ hne, hI_wI_n _ _ _ hne, hI_wI_n _ _ _ hne, hnx] at e4
  rw [e4, nI_1, show nI (nx + 1) - nI (nx + 1) / 100 * 100 = nI ((nx + 1) % 100) from rem_n 100 (by omega) (by omega) (by omega)] at e5 ⊢
  rw [wI_eq μ, wI_wRow, wI_wRow, wI_eq _ a, hI_wRow_n _ _ hne, hI_wRow_s, upd_n _ (by decide), hhd] at e5
  rw [wI_eq μ, wI_wRow, wI_wRow, wI_wI, hI_wRow_n _ _ hne, e5, nI_1, show (if (100 : Int32) < nI (hd + 1) then 100 else nI (hd + 1)) = nI (min (hd + 1) 100) from min_lit 100 (by omega) (by omega)]
  rfl
theorem c_lgDrop {d : Nat} {ro : Nat → Nat} {μ : Hp} {a b nx hd : Nat} (h : isLg μ a b) (hnx : hI μ a 1 = nI nx) (hnx1 : nx < 100) (hhd : hI μ a 0 = nI hd) (hhd1 : hd ≤ 100) :
    xC d yX5_dropLatest cX5_dropLatest 1 none 0 0 [.ref a] μ ro (fun r μ' => r = none ∧ μ' = if hd = 0 then μ else wRow μ a (lgHead (hI μ a) ((nx + 99) % 100) (hd - 1))) := by
  refine I_X5_dropLatest (fun J g hr => B_X5_dropLatest_0 g hr h.1 ⟨fun h0 => ⟨rfl, ?_⟩, fun h0 v2 e2 => ⟨rfl, ?_⟩⟩)
  · rw [hhd] at h0
    rw [if_pos]
    rcases Nat.eq_zero_or_pos hd with h1 | h1
    · exact h1
    · exact absurd h0 (nI_nle h1 (by omega))
  · rw [hhd] at h0
    have h1 : hd ≠ 0 := fun e => h0 (by subst e; decide)
    rw [if_neg h1]
    have p1 : nI nx + 100 = nI (nx + 99 + 1) := nI_add nx 100
    rw [hnx, p1, nI_pred, show nI (nx + 99) - nI (nx + 99) / 100 * 100 = nI ((nx + 99) % 100) from rem_n 100 (by omega) (by omega) (by omega)] at e2
    rw [e2, wI_eq μ, hI_wRow_s, upd_n _ (by decide), wI_wRow, hhd, show nI hd - 1 = nI (hd - 1) by
      conv => lhs; rw [show hd = (hd - 1) + 1 by omega]
      exact nI_pred _]
    rfl
theorem c_lgSize {d : Nat} {ro : Nat → Nat} {μ : Hp} {a b hd : Nat} (hd9 : 1 ≤ d) (h : isLg μ a b) (hhd : hI μ a 0 = nI hd) (hhd1 : hd ≤ 100) :
    xC d yX5_size cX5_size 1 (some .int) 0 0 [.ref a] μ ro (fun r μ' => r = some (.int (nI (min hd 60))) ∧ μ' = μ) := by
  refine I_X5_size (fun J g hr => B_X5_size_0 g hr h.1 hd9 ⟨?_, rfl⟩)
  rw [hhd, show (if (60 : Int32) < nI hd then 60 else nI hd) = nI (min hd 60) from min_lit 60 (by omega) (by omega)]
theorem c_lgPart {d : Nat} {ro : Nat → Nat} {μ : Hp} {a b nx i w : Nat} (h : isLg μ a b) (hnx : hI μ a 1 = nI nx) (hnx1 : nx < 100) (hi : i < 60) (hw : w < 3) :
    xC d yX5_part cX5_part 3 (some .int) 0 0 [.ref a, .int (nI i), .int (nI w)] μ ro (fun r μ' => r = some (.int (hI μ b ((nx + 99 - i) % 100 * 3 + w))) ∧ μ' = μ) := by
  refine I_X5_part (fun J g hr => B_X5_part_0 g hr h.1 h.2.1 h.2.2 (fun v1 e1 => ?_))
  have p1 : nI nx + 100 = nI (nx + 99 + 1) := nI_add nx 100
  rw [hnx, p1, nI_pred, pk_sub (by omega), show nI (nx + 99 - i) - nI (nx + 99 - i) / 100 * 100 = nI ((nx + 99 - i) % 100) from rem_n 100 (by omega) (by omega) (by omega)] at e1
  have hm : (nx + 99 - i) % 100 < 100 := Nat.mod_lt _ (by omega)
  rw [e1, show nI ((nx + 99 - i) % 100) * 3 = nI ((nx + 99 - i) % 100 * 3) from pk_mul _ 3, nI_add, nI_clamp (by omega)]
  exact ⟨vp_in_nI (by omega) (by omega), rfl, rfl⟩
theorem c_lgCopy {d : Nat} {ro : Nat → Nat} {μ : Hp} {a b a' b' : Nat} (hd9 : 1 ≤ d) (h : isLg μ a b) (h' : isLg μ a' b') (hne : a ≠ a') :
    xC d yX5_copyFrom cX5_copyFrom 2 none 0 0 [.ref a, .ref a'] μ ro (fun r μ' => r = none ∧ μ' = wRow (wRow μ b (fun j => if j < 300 then hI μ b' j else hI μ b j)) a (upd (upd (hI μ a) 0 (hI μ a' 0)) 1 (hI μ a' 1))) := by
  have n1 : a ≠ b := h.ne
  have n2 : a' ≠ b := ne_of_sh h'.1 h.2.2 (by decide)
  refine I_X5_copyFrom (fun J g hr => B_X5_copyFrom_0 g hr h'.1 h'.2.1 h.1 h.2.1 h.2.2 h'.2.2 hd9 ⟨⟨by decide, by decide, by decide, by decide, by decide⟩, fun v2 e2 v3 e3 => ⟨rfl, ?_⟩⟩)
  rw [hI_wRow_n _ _ n2] at e2
  rw [hI_wI_n _ _ _ (Ne.symm hne), hI_wRow_n _ _ n2] at e3
  rw [e2, e3, wI_wI, hI_wRow_n _ _ n1]
  rw [show (Int32.ofNat 300).toNatClampNeg = 300 by decide, cpy0]
/-- the History at a has its rows at b -/
def isHs (μ : Hp) (a b : Nat) : Prop := hS μ a = some (8, 3) ∧ hR μ a 2 = some b ∧ hS μ b = some (0, 4480)
theorem isHs.ne {μ : Hp} {a b : Nat} (h : isHs μ a b) : a ≠ b := ne_of_sh h.1 h.2.2 (by decide)
theorem c_hsForget {d : Nat} {ro : Nat → Nat} {μ : Hp} {a b : Nat} (h : isHs μ a b) :
    xC d yX4_forget cX4_forget 1 none 0 0 [.ref a] μ ro (fun r μ' => r = none ∧ μ' = wI μ a 0 0) :=
  I_X4_forget (fun J g hr => B_X4_forget_0 g hr h.1 ⟨rfl, rfl⟩)
def hsRow (f s : Nat → Int32) (nx : Nat) (j : Nat) : Int32 := if nx * 112 ≤ j ∧ j < nx * 112 + 112 then s (j - nx * 112) else f j
theorem c_hsKeep {d : Nat} {ro : Nat → Nat} {μ : Hp} {a b s sr nx hd : Nat} (hd9 : 1 ≤ d) (h : isHs μ a b) (hst : isSt μ s sr) (hnx : hI μ a 1 = nI nx) (hnx1 : nx < 40) (hhd : hI μ a 0 = nI hd) (hhd1 : hd ≤ 40) :
    xC d yX4_keep cX4_keep 2 none 0 0 [.ref a, .ref s] μ ro (fun r μ' => r = none ∧ μ' = wRow (wRow μ b (hsRow (hI μ b) (hI μ sr) nx)) a (lgHead (hI μ a) ((nx + 1) % 40) (min (hd + 1) 40))) := by
  have hne := h.ne
  obtain ⟨hs0, hr0, hs1⟩ := h
  refine I_X4_keep (fun J g hr => B_X4_keep_0 g hr hst.1 hst.2.1 hs0 hr0 hst.2.2 hs1 hd9 ?_)
  have m3 : nI nx * 112 = nI (nx * 112) := pk_mul nx 112
  rw [hnx, m3, nI_clamp (by omega)]
  refine ⟨⟨by decide, nI_pos (by omega), by decide, by decide, ?_⟩, fun v2 e2 v3 e3 => ⟨rfl, ?_⟩⟩
  · rw [nI_clamp (by omega), show (112 : Int32).toNatClampNeg = 112 by decide]; omega
  rw [hI_wRow_n _ _ hne, hnx] at e2
  rw [e2, nI_1, show nI (nx + 1) - nI (nx + 1) / 40 * 40 = nI ((nx + 1) % 40) from rem_n 40 (by omega) (by omega) (by omega)] at e3 ⊢
  rw [wI_eq _ a, hI_wRow_n _ _ hne, hI_wRow_s, upd_n _ (by decide), hhd] at e3
  rw [wI_wI, hI_wRow_n _ _ hne, e3, nI_1, show (if (40 : Int32) < nI (hd + 1) then 40 else nI (hd + 1)) = nI (min (hd + 1) 40) from min_lit 40 (by omega) (by omega)]
  congr 1
  congr 1
  funext j
  unfold hsRow
  by_cases hc : nx * 112 ≤ j ∧ j < nx * 112 + 112
  · rw [if_pos hc, pk_cpy_in hc.1 hc.2]; congr 1; omega
  · rw [if_neg hc, pk_cpy_out (by omega)]
theorem c_hsBack {d : Nat} {ro : Nat → Nat} {μ : Hp} {a b s sr nx hd : Nat} (hd9 : 1 ≤ d) (h : isHs μ a b) (hst : isSt μ s sr) (hnx : hI μ a 1 = nI nx) (hnx1 : nx < 40) (hhd : hI μ a 0 = nI hd) (hhd1 : hd ≤ 40) (hbs : b ≠ sr) :
    xC d yX4_giveBack cX4_giveBack 2 (some .boolean) 0 0 [.ref a, .ref s] μ ro (fun r μ' => if hd = 0 then r = some (.int 0) ∧ μ' = μ else r = some (.int 1) ∧ μ' = wRow (wRow μ sr (fun j => if j < 112 then hI μ b ((nx + 39) % 40 * 112 + j) else hI μ sr j)) a (lgHead (hI μ a) ((nx + 39) % 40) (hd - 1))) := by
  have hne := h.ne
  have n2 : sr ≠ a := Ne.symm (ne_of_sh h.1 hst.2.2 (by decide))
  obtain ⟨hs0, hr0, hs1⟩ := h
  refine I_X4_giveBack (fun J g hr => B_X4_giveBack_0 g hr hs0 hr0 hst.1 hst.2.1 hs1 hst.2.2 hd9 ⟨fun h0 v2 e2 => ?_, fun h0 => ?_⟩)
  · rw [hhd] at h0
    have h1 : hd ≠ 0 := fun e => h0 (by subst e; decide)
    have p1 : nI nx + 40 = nI (nx + 39 + 1) := nI_add nx 40
    have hm : (nx + 39) % 40 < 40 := Nat.mod_lt _ (by omega)
    rw [hnx, p1, nI_pred, show nI (nx + 39) - nI (nx + 39) / 40 * 40 = nI ((nx + 39) % 40) from rem_n 40 (by omega) (by omega) (by omega)] at e2 ⊢
    rw [hI_wI_s, upd_s] at e2
    have m3 : nI ((nx + 39) % 40) * 112 = nI ((nx + 39) % 40 * 112) := pk_mul _ 112
    rw [e2, m3, nI_clamp (by omega)]
    refine ⟨⟨nI_pos (by omega), by decide, by decide, ?_, by decide⟩, fun v4 e4 => ?_⟩
    · rw [nI_clamp (by omega), show (112 : Int32).toNatClampNeg = 112 by decide]; omega
    rw [if_neg h1]
    refine ⟨rfl, ?_⟩
    rw [hI_wRow_n _ _ (Ne.symm n2), hI_wI_s, upd_n _ (by decide), hhd] at e4
    rw [e4, show nI hd - 1 = nI (hd - 1) by
      conv => lhs; rw [show hd = (hd - 1) + 1 by omega]
      exact nI_pred _, hI_wI_n _ _ _ (Ne.symm hne), hI_wI_n _ _ _ n2, wI_eq _ a 0, hI_wRow_n _ _ (Ne.symm n2), hI_wI_s]
    rw [wI_eq μ a 1, wRow_comm _ _ _ (Ne.symm n2), wRow_wRow]
    congr 2
    funext j
    by_cases hj : j < 112
    · rw [if_pos hj, pk_cpy_in (Nat.zero_le _) (by omega)]; congr 1
    · rw [if_neg hj, pk_cpy_out (Or.inr (by omega))]
  · rw [hhd] at h0
    rcases Nat.eq_zero_or_pos hd with h1 | h1
    · rw [if_pos h1]; exact ⟨rfl, rfl⟩
    · exact absurd h0 (nI_ne0 h1 (by omega))
