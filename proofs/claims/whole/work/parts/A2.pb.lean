/-! a book as it is read: lands (name, law), firms (name, land, staff), links, treaties, the year, whether it was told -/
def Pb : Type := List (List Nat × (Nat → Nat)) × List (List Nat × Nat × Nat) × List (Nat × Nat × Nat × Nat × Nat) × List (Nat → Nat) × Nat × Bool
def Pb.ld (P : Pb) : List (List Nat × (Nat → Nat)) := P.1
def Pb.fm (P : Pb) : List (List Nat × Nat × Nat) := P.2.1
def Pb.lk (P : Pb) : List (Nat × Nat × Nat × Nat × Nat) := P.2.2.1
def Pb.tr (P : Pb) : List (Nat → Nat) := P.2.2.2.1
def Pb.yr (P : Pb) : Nat := P.2.2.2.2.1
def Pb.tl (P : Pb) : Bool := P.2.2.2.2.2
def Pb.addL (P : Pb) (x : List Nat × (Nat → Nat)) : Pb := (P.ld ++ [x], P.fm, P.lk, P.tr, P.yr, P.tl)
def Pb.addF (P : Pb) (x : List Nat × Nat × Nat) : Pb := (P.ld, P.fm ++ [x], P.lk, P.tr, P.yr, P.tl)
def Pb.addK (P : Pb) (x : Nat × Nat × Nat × Nat × Nat) : Pb := (P.ld, P.fm, P.lk ++ [x], P.tr, P.yr, P.tl)
def Pb.addT (P : Pb) (x : Nat → Nat) : Pb := (P.ld, P.fm, P.lk, P.tr ++ [x], P.yr, P.tl)
def Pb.setY (P : Pb) (y : Nat) : Pb := (P.ld, P.fm, P.lk, P.tr, y, true)
def Pb.lnm (P : Pb) : List (List Nat) := P.ld.map (fun x => x.1)
def Pb.fnm (P : Pb) : List (List Nat) := P.fm.map (fun x => x.1)
def Pb.nil : Pb := ([], [], [], [], 50, false)
def nwN (t : Nat → Int32) (len : Nat) (P : Pb) (c : Cu) : List Nat × Cu := ((nxW t len c).1, if nbr P.lnm (nxW t len c).1 = none ∧ nbr P.fnm (nxW t len c).1 = none ∧ nbr kwds (nxW t len c).1 = none then (nxW t len c).2 else flC (nxW t len c).2 (nxW t len c).2.2.1)
def tdN (t : Nat → Int32) (len : Nat) (ns : List (List Nat)) (un : Option Nat) (c : Cu) : Option Nat × Cu := (nbr ns (nxW t len c).1, if nbr ns (nxW t len c).1 = none ∨ nbr ns (nxW t len c).1 = un then flC (nxW t len c).2 (nxW t len c).2.2.1 else (nxW t len c).2)
def rNum (t : Nat → Int32) (len : Nat) (hi : Nat → Nat) : Nat → Cu → (Nat → Nat) × Cu
  | 0, c => (fun _ => 0, c)
  | i + 1, c => (updN (rNum t len hi i c).1 i (nxN t len 0 (hi i) (rNum t len hi i c).2).1, (nxN t len 0 (hi i) (rNum t len hi i c).2).2)
def bnd (i : Nat) : Nat := ([99, 1000, 1000, 1000, 100, 20, 99, 2] : List Nat).getD i 0
def rLand (t : Nat → Int32) (len : Nat) (P : Pb) (c : Cu) : Pb × Cu := if 6 ≤ P.ld.length then (P, flC c c.2.1) else
  (P.addL ((nwN t len P c).1, (rNum t len (fun _ => 1000) 3 (nwN t len P c).2).1), (rNum t len (fun _ => 1000) 3 (nwN t len P c).2).2)
def rFirm1 (t : Nat → Int32) (len : Nat) (P : Pb) (c : Cu) : Option Nat × Cu := tdN t len P.lnm none (nwN t len P c).2
def rFirm (t : Nat → Int32) (len : Nat) (P : Pb) (c : Cu) : Pb × Cu := if 8 ≤ P.fm.length then (P, flC c c.2.1) else
  (P.addF ((nwN t len P c).1, (rFirm1 t len P c).1.getD 0, (nxN t len 0 99 (rFirm1 t len P c).2).1), (nxN t len 0 99 (rFirm1 t len P c).2).2)
def hasK (P : Pb) (s : Nat) (a b : Option Nat) : Bool := P.lk.any (fun x => decide (x.1 = s ∧ some x.2.1 = a ∧ some x.2.2.1 = b))
def rLk2 (t : Nat → Int32) (len : Nat) (P : Pb) (c : Cu) : Option Nat × Option Nat × Cu := ((tdN t len P.fnm none c).1, (tdN t len P.fnm (tdN t len P.fnm none c).1 (tdN t len P.fnm none c).2).1, (tdN t len P.fnm (tdN t len P.fnm none c).1 (tdN t len P.fnm none c).2).2)
def rLk3 (t : Nat → Int32) (len : Nat) (P : Pb) (s : Nat) (c : Cu) : Cu := if hasK P s (rLk2 t len P c).1 (rLk2 t len P c).2.1 = true then flC (rLk2 t len P c).2.2 (rLk2 t len P c).2.2.2.1 else (rLk2 t len P c).2.2
def rLk4 (t : Nat → Int32) (len : Nat) (P : Pb) (s : Nat) (c : Cu) : Nat × Cu := if s = 0 then nxN t len 1 100 (rLk3 t len P s c) else (0, rLk3 t len P s c)
def rLink (t : Nat → Int32) (len : Nat) (P : Pb) (s : Nat) (c : Cu) : Pb × Cu := if 16 ≤ P.lk.length then (P, flC c c.2.1) else
  (P.addK (s, (rLk2 t len P c).1.getD 0, (rLk2 t len P c).2.1.getD 0, (rLk4 t len P s c).1, (nxN t len 0 99 (rLk4 t len P s c).2).1), (nxN t len 0 99 (rLk4 t len P s c).2).2)
def rTr2 (t : Nat → Int32) (len : Nat) (P : Pb) (c : Cu) : Option Nat × Option Nat × Cu := ((tdN t len P.lnm none c).1, (tdN t len P.lnm (tdN t len P.lnm none c).1 (tdN t len P.lnm none c).2).1, (tdN t len P.lnm (tdN t len P.lnm none c).1 (tdN t len P.lnm none c).2).2)
def trE (f : Nat → Nat) (a b e : Nat) : Nat → Nat := fun j => if j < 8 then f j else if j = 8 then a else if j = 9 then b else e
def rTrty (t : Nat → Int32) (len : Nat) (P : Pb) (n e : Nat) (c : Cu) : Pb × Cu := if 12 ≤ P.tr.length then (P, flC c c.2.1) else
  (P.addT (trE (rNum t len bnd n (rTr2 t len P c).2.2).1 ((rTr2 t len P c).1.getD 0) ((rTr2 t len P c).2.1.getD 0) e), (rNum t len bnd n (rTr2 t len P c).2.2).2)
def rYear (t : Nat → Int32) (len : Nat) (P : Pb) (c : Cu) : Pb × Cu := if P.tl = true then (P, flC c c.2.1) else (P.setY (nxN t len 0 99 c).1, (nxN t len 0 99 c).2)
def rLine (t : Nat → Int32) (len : Nat) (P : Pb) (c : Cu) : Pb × Cu := match nbr kwds (nxW t len c).1 with
  | some 0 => rLand t len P (nxW t len c).2
  | some 1 => rFirm t len P (nxW t len c).2
  | some 2 => rLink t len P 0 (nxW t len c).2
  | some 3 => rLink t len P 1 (nxW t len c).2
  | some 4 => rTrty t len P 8 0 (nxW t len c).2
  | some 5 => rTrty t len P 1 1 (nxW t len c).2
  | some 6 => rYear t len P (nxW t len c).2
  | _ => (P, flC (nxW t len c).2 (nxW t len c).2.2.1)
def rBk (t : Nat → Int32) (len : Nat) : Nat → Pb → Cu → Pb × Cu
  | 0, P, c => (P, c)
  | n + 1, P, c => if (goC t len (rLine t len P c).2).1 = true then rBk t len n (rLine t len P c).1 (goC t len (rLine t len P c).2).2 else ((rLine t len P c).1, (goC t len (rLine t len P c).2).2)
def rBook (t : Nat → Int32) (len : Nat) : Pb × Cu := ((rBk t len 401 Pb.nil (none, 0, 0)).1, if (rBk t len 401 Pb.nil (none, 0, 0)).1.fm.length = 0 then flC (rBk t len 401 Pb.nil (none, 0, 0)).2 len else (rBk t len 401 Pb.nil (none, 0, 0)).2)
/-! what holds of a book that is read without a fault -/
def pOk (P : Pb) : Prop := (P.ld.length ≤ 6 ∧ P.fm.length ≤ 8 ∧ P.lk.length ≤ 16 ∧ P.tr.length ≤ 12) ∧ (∀ x ∈ P.ld, nmOk x.1 ∧ ∀ j, j < 3 → x.2 j ≤ 1000) ∧ (∀ x ∈ P.fm, nmOk x.1 ∧ x.2.1 < P.ld.length ∧ x.2.2 ≤ 99) ∧ (∀ x ∈ P.lk, x.1 < 2 ∧ x.2.1 < P.fm.length ∧ x.2.2.1 < P.fm.length ∧ x.2.1 ≠ x.2.2.1 ∧ x.2.2.2.1 ≤ 100 ∧ x.2.2.2.2 ≤ 99) ∧ (∀ (i j : Nat) (x y : Nat × Nat × Nat × Nat × Nat), P.lk[i]? = some x → P.lk[j]? = some y → x.1 = y.1 → x.2.1 = y.2.1 → x.2.2.1 = y.2.2.1 → i = j) ∧ (∀ x ∈ P.tr, (∀ j, j < 8 → x j ≤ bnd j) ∧ x 8 < P.ld.length ∧ x 9 < P.ld.length ∧ x 10 < 2) ∧ P.yr ≤ 99
theorem flC_no {c c' : Cu} {x : Nat} {p : Prop} [Decidable p] (h : (if p then flC c x else c').1 = none) : ¬ p ∧ c'.1 = none := by
  by_cases q : p
  · rw [if_pos q] at h; exact absurd h flC_n
  · rw [if_neg q] at h; exact ⟨q, h⟩
theorem nwN_n {t : Nat → Int32} {len : Nat} {P : Pb} {c : Cu} (h : (nwN t len P c).2.1 = none) : c.1 = none ∧ nmOk (nwN t len P c).1 ∧ nbr P.lnm (nwN t len P c).1 = none ∧ nbr P.fnm (nwN t len P c).1 = none := by
  unfold nwN at h ⊢
  simp only at h
  by_cases q : nbr P.lnm (nxW t len c).1 = none ∧ nbr P.fnm (nxW t len c).1 = none ∧ nbr kwds (nxW t len c).1 = none
  · rw [if_pos q] at h; exact ⟨(nxW_nm h).1, (nxW_nm h).2, q.1, q.2.1⟩
  · rw [if_neg q] at h; exact absurd h flC_n
theorem tdN_n {t : Nat → Int32} {len : Nat} {ns : List (List Nat)} {un : Option Nat} {c : Cu} (h : (tdN t len ns un c).2.1 = none) : c.1 = none ∧ ∃ k, (tdN t len ns un c).1 = some k ∧ k < ns.length ∧ un ≠ some k := by
  unfold tdN at h ⊢
  obtain ⟨h1, h2⟩ := flC_no h
  refine ⟨(nxW_nm h2).1, ?_⟩
  cases e : nbr ns (nxW t len c).1 with
  | none => exact absurd (Or.inl e) h1
  | some k => exact ⟨k, rfl, (nbr_lt e).1, fun q => h1 (Or.inr (by rw [e, q]))⟩
theorem rNum_n {t : Nat → Int32} {len : Nat} {hi : Nat → Nat} : ∀ {n : Nat} {c : Cu}, (rNum t len hi n c).2.1 = none → c.1 = none
  | 0, _, h => h
  | n + 1, c, h => rNum_n (n := n) (nxN_n h)
theorem rNum_b {t : Nat → Int32} {len : Nat} {hi : Nat → Nat} : ∀ (n : Nat) (c : Cu) (j : Nat), (rNum t len hi n c).1 j ≤ hi j
  | 0, c, j => Nat.zero_le _
  | n + 1, c, j => by
    show updN _ n _ j ≤ hi j
    unfold updN
    by_cases e : j = n
    · rw [if_pos e, e]; exact (nxN_b (Nat.zero_le _)).2
    · rw [if_neg e]; exact rNum_b n c j
theorem rNum_ok {t : Nat → Int32} {len : Nat} {hi : Nat → Nat} : ∀ (n : Nat) {c : Cu}, cuOk len c → cuOk len (rNum t len hi n c).2
  | 0, _, h => h
  | n + 1, c, h => nxN_ok (rNum_ok n h)
/-- a number stays as the next are read -/
theorem rNum_j {t : Nat → Int32} {len : Nat} {hi : Nat → Nat} {c : Cu} {i : Nat} : ∀ n, i < n → (rNum t len hi n c).1 i = (nxN t len 0 (hi i) (rNum t len hi i c).2).1
  | 0, h => by omega
  | n + 1, h => by
    show updN _ n _ i = _
    unfold updN
    by_cases e : i = n
    · rw [if_pos e, e]
    · rw [if_neg e]; exact rNum_j n (by omega)
theorem rNum_z {t : Nat → Int32} {len : Nat} {hi : Nat → Nat} {c : Cu} {i : Nat} : ∀ n, n ≤ i → (rNum t len hi n c).1 i = 0
  | 0, _ => rfl
  | n + 1, h => by
    show updN _ n _ i = _
    unfold updN
    rw [if_neg (by omega)]; exact rNum_z n (by omega)
theorem flC_cu {len : Nat} {c : Cu} (h : cuOk len c) : cuOk len (flC c c.2.1) := flC_ok h h.1
theorem ifC_ok {len : Nat} {p : Prop} [Decidable p] {c c' : Cu} (h1 : cuOk len c) (h2 : cuOk len c') : cuOk len (if p then c else c') := by
  by_cases q : p
  · rw [if_pos q]; exact h1
  · rw [if_neg q]; exact h2
theorem nwN_ok {t : Nat → Int32} {len : Nat} {P : Pb} {c : Cu} (h : cuOk len c) : cuOk len (nwN t len P c).2 := ifC_ok (nxW_ok h) (flC_cu (nxW_ok h))
theorem tdN_ok {t : Nat → Int32} {len : Nat} {ns : List (List Nat)} {un : Option Nat} {c : Cu} (h : cuOk len c) : cuOk len (tdN t len ns un c).2 := ifC_ok (flC_cu (nxW_ok h)) (nxW_ok h)
theorem rLine_ok {t : Nat → Int32} {len : Nat} {P : Pb} {c : Cu} (h0 : cuOk len c) : cuOk len (rLine t len P c).2 := by
  have h := nxW_ok (t := t) h0
  unfold rLine
  have ht : ∀ n e, cuOk len (rTrty t len P n e (nxW t len c).2).2 := fun n e => by
    unfold rTrty
    by_cases q : 12 ≤ P.tr.length
    · rw [if_pos q]; exact flC_cu h
    · rw [if_neg q]; exact rNum_ok _ (tdN_ok (tdN_ok h))
  have hk : ∀ s, cuOk len (rLink t len P s (nxW t len c).2).2 := fun s => by
    unfold rLink
    by_cases q : 16 ≤ P.lk.length
    · rw [if_pos q]; exact flC_cu h
    · rw [if_neg q]
      have h3 : cuOk len (rLk3 t len P s (nxW t len c).2) := ifC_ok (flC_cu (tdN_ok (tdN_ok h))) (tdN_ok (tdN_ok h))
      refine nxN_ok ?_
      unfold rLk4
      by_cases q : s = 0
      · rw [if_pos q]; exact nxN_ok h3
      · rw [if_neg q]; exact h3
  split
  · unfold rLand
    by_cases q : 6 ≤ P.ld.length
    · rw [if_pos q]; exact flC_cu h
    · rw [if_neg q]; exact rNum_ok _ (nwN_ok h)
  · unfold rFirm
    by_cases q : 8 ≤ P.fm.length
    · rw [if_pos q]; exact flC_cu h
    · rw [if_neg q]; exact nxN_ok (tdN_ok (nwN_ok h))
  · exact hk 0
  · exact hk 1
  · exact ht 8 0
  · exact ht 1 1
  · unfold rYear
    by_cases q : P.tl = true
    · rw [if_pos q]; exact flC_cu h
    · rw [if_neg q]; exact nxN_ok h
  · exact flC_cu h
theorem mem_snoc {α : Type} {l : List α} {x y : α} (h : y ∈ l ++ [x]) : y ∈ l ∨ y = x := by
  rcases List.mem_append.mp h with q | q
  · exact Or.inl q
  · exact Or.inr (by simpa using q)
theorem get_snoc {α : Type} {l : List α} {x y : α} {i : Nat} (h : (l ++ [x])[i]? = some y) : l[i]? = some y ∧ i < l.length ∨ i = l.length ∧ y = x := by
  rcases Nat.lt_or_ge i l.length with q | q
  · rw [List.getElem?_append_left q] at h; exact Or.inl ⟨h, q⟩
  · rw [List.getElem?_append_right q] at h
    rcases Nat.eq_zero_or_pos (i - l.length) with e | e
    · rw [e] at h
      simp only [List.getElem?_cons_zero, Option.some.injEq] at h
      exact Or.inr ⟨by omega, h.symm⟩
    · rw [List.getElem?_eq_none (by simp; omega)] at h; cases h
theorem rLand_p {t : Nat → Int32} {len : Nat} {P : Pb} {c : Cu} (h : pOk P) (hn : (rLand t len P c).2.1 = none) : pOk (rLand t len P c).1 := by
  unfold rLand at hn ⊢
  by_cases q : 6 ≤ P.ld.length
  · rw [if_pos q] at hn; exact absurd hn flC_n
  · rw [if_neg q] at hn ⊢
    have h1 := nwN_n (rNum_n hn)
    obtain ⟨⟨a1, a2, a3, a4⟩, b1, b2, b3, b4, b5, b6⟩ := h
    refine ⟨⟨?_, a2, a3, a4⟩, fun x hx => ?_, fun x hx => ?_, b3, b4, fun x hx => ?_, b6⟩
    · show (P.ld ++ [_]).length ≤ 6
      rw [List.length_append, List.length_singleton]; omega
    · rcases mem_snoc hx with q | rfl
      · exact b1 x q
      · exact ⟨h1.2.1, fun j _ => rNum_b 3 _ j⟩
    · have := b2 x hx
      refine ⟨this.1, ?_, this.2.2⟩
      show x.2.1 < (P.ld ++ [_]).length
      rw [List.length_append, List.length_singleton]; omega
    · have := b5 x hx
      refine ⟨this.1, ?_, ?_, this.2.2.2⟩
      · show x 8 < (P.ld ++ [_]).length
        rw [List.length_append, List.length_singleton]; omega
      · show x 9 < (P.ld ++ [_]).length
        rw [List.length_append, List.length_singleton]; omega
theorem rFirm_p {t : Nat → Int32} {len : Nat} {P : Pb} {c : Cu} (h : pOk P) (hn : (rFirm t len P c).2.1 = none) : pOk (rFirm t len P c).1 := by
  unfold rFirm at hn ⊢
  by_cases q : 8 ≤ P.fm.length
  · rw [if_pos q] at hn; exact absurd hn flC_n
  · rw [if_neg q] at hn ⊢
    obtain ⟨h1, k, e, hk, -⟩ := tdN_n (nxN_n hn)
    have h2 := nwN_n h1
    have e' : (rFirm1 t len P c).1 = some k := e
    obtain ⟨⟨a1, a2, a3, a4⟩, b1, b2, b3, b4, b5, b6⟩ := h
    refine ⟨⟨a1, ?_, a3, a4⟩, b1, fun x hx => ?_, fun x hx => ?_, b4, b5, b6⟩
    · show (P.fm ++ [_]).length ≤ 8
      rw [List.length_append, List.length_singleton]; omega
    · rcases mem_snoc hx with q | rfl
      · exact b2 x q
      · refine ⟨h2.2.1, ?_, (nxN_b (Nat.zero_le _)).2⟩
        show (rFirm1 t len P c).1.getD 0 < P.ld.length
        rw [e']
        simpa [Pb.lnm] using hk
    · have := b3 x hx
      refine ⟨this.1, ?_, ?_, this.2.2.2⟩
      · show x.2.1 < (P.fm ++ [_]).length
        rw [List.length_append, List.length_singleton]; omega
      · show x.2.2.1 < (P.fm ++ [_]).length
        rw [List.length_append, List.length_singleton]; omega
theorem rLk_n {t : Nat → Int32} {len : Nat} {P : Pb} {s : Nat} {c : Cu} (h : (rLk3 t len P s c).1 = none) : hasK P s (rLk2 t len P c).1 (rLk2 t len P c).2.1 = false ∧ ∃ a b, (rLk2 t len P c).1 = some a ∧ (rLk2 t len P c).2.1 = some b ∧ a < P.fm.length ∧ b < P.fm.length ∧ a ≠ b := by
  obtain ⟨h1, h2⟩ := flC_no h
  refine ⟨by simpa using h1, ?_⟩
  obtain ⟨h3, b, e, hb, hu⟩ := tdN_n h2
  obtain ⟨h4, a, e2, ha, -⟩ := tdN_n h3
  refine ⟨a, b, e2, e, by simpa [Pb.fnm] using ha, by simpa [Pb.fnm] using hb, fun q => hu (by rw [e2, q])⟩
theorem rLk4_n {t : Nat → Int32} {len : Nat} {P : Pb} {s : Nat} {c : Cu} (h : (rLk4 t len P s c).2.1 = none) : (rLk3 t len P s c).1 = none := by
  unfold rLk4 at h
  by_cases q : s = 0
  · rw [if_pos q] at h; exact nxN_n h
  · rw [if_neg q] at h; exact h
theorem rLink_p {t : Nat → Int32} {len : Nat} {P : Pb} {s : Nat} {c : Cu} (h : pOk P) (hs : s < 2) (hn : (rLink t len P s c).2.1 = none) : pOk (rLink t len P s c).1 := by
  unfold rLink at hn ⊢
  by_cases q : 16 ≤ P.lk.length
  · rw [if_pos q] at hn; exact absurd hn flC_n
  · rw [if_neg q] at hn ⊢
    obtain ⟨h1, a, b, ea, eb, ha, hb, hab⟩ := rLk_n (rLk4_n (nxN_n hn))
    obtain ⟨⟨a1, a2, a3, a4⟩, b1, b2, b3, b4, b5, b6⟩ := h
    have hno : ∀ x ∈ P.lk, x.1 = s → x.2.1 = a → x.2.2.1 = b → False := fun x hx e1 e2 e3 => by
      have : hasK P s (some a) (some b) = true := List.any_eq_true.mpr ⟨x, hx, by simp [e1, e2, e3]⟩
      rw [ea, eb] at h1
      rw [h1] at this; cases this
    refine ⟨⟨a1, a2, ?_, a4⟩, b1, b2, fun x hx => ?_, fun i j x y hx hy e1 e2 e3 => ?_, b5, b6⟩
    · show (P.lk ++ [_]).length ≤ 16
      rw [List.length_append, List.length_singleton]; omega
    · rcases mem_snoc hx with q | rfl
      · exact b3 x q
      · show s < 2 ∧ (rLk2 t len P c).1.getD 0 < P.fm.length ∧ (rLk2 t len P c).2.1.getD 0 < P.fm.length ∧ (rLk2 t len P c).1.getD 0 ≠ (rLk2 t len P c).2.1.getD 0 ∧ (rLk4 t len P s c).1 ≤ 100 ∧ _
        rw [ea, eb]
        refine ⟨hs, ha, hb, hab, ?_, (nxN_b (Nat.zero_le _)).2⟩
        unfold rLk4
        by_cases q : s = 0
        · rw [if_pos q]; exact (nxN_b (by omega)).2
        · rw [if_neg q]; exact Nat.zero_le _
    · rcases get_snoc hx with ⟨x1, x2⟩ | ⟨x1, x2⟩ <;> rcases get_snoc hy with ⟨y1, y2⟩ | ⟨y1, y2⟩
      · exact b4 i j x y x1 y1 e1 e2 e3
      · exfalso
        subst y2
        refine hno x (List.mem_of_getElem? x1) e1 ?_ ?_
        · rw [e2]; show (rLk2 t len P c).1.getD 0 = a; rw [ea]; rfl
        · rw [e3]; show (rLk2 t len P c).2.1.getD 0 = b; rw [eb]; rfl
      · exfalso
        subst x2
        refine hno y (List.mem_of_getElem? y1) e1.symm ?_ ?_
        · rw [← e2]; show (rLk2 t len P c).1.getD 0 = a; rw [ea]; rfl
        · rw [← e3]; show (rLk2 t len P c).2.1.getD 0 = b; rw [eb]; rfl
      · omega
theorem rTr_n {t : Nat → Int32} {len : Nat} {P : Pb} {c : Cu} (h : (rTr2 t len P c).2.2.1 = none) : ∃ a b, (rTr2 t len P c).1 = some a ∧ (rTr2 t len P c).2.1 = some b ∧ a < P.ld.length ∧ b < P.ld.length ∧ a ≠ b := by
  obtain ⟨h3, b, e, hb, hu⟩ := tdN_n h
  obtain ⟨h4, a, e2, ha, -⟩ := tdN_n h3
  refine ⟨a, b, e2, e, by simpa [Pb.lnm] using ha, by simpa [Pb.lnm] using hb, fun q => hu (by rw [e2, q])⟩
theorem rTrty_p {t : Nat → Int32} {len : Nat} {P : Pb} {n e : Nat} {c : Cu} (h : pOk P) (he : e < 2) (hn : (rTrty t len P n e c).2.1 = none) : pOk (rTrty t len P n e c).1 := by
  unfold rTrty at hn ⊢
  by_cases q : 12 ≤ P.tr.length
  · rw [if_pos q] at hn; exact absurd hn flC_n
  · rw [if_neg q] at hn ⊢
    obtain ⟨a, b, ea, eb, ha, hb, hab⟩ := rTr_n (rNum_n hn)
    obtain ⟨⟨a1, a2, a3, a4⟩, b1, b2, b3, b4, b5, b6⟩ := h
    refine ⟨⟨a1, a2, a3, ?_⟩, b1, b2, b3, b4, fun x hx => ?_, b6⟩
    · show (P.tr ++ [_]).length ≤ 12
      rw [List.length_append, List.length_singleton]; omega
    · rcases mem_snoc hx with q | rfl
      · exact b5 x q
      · rw [ea, eb]
        refine ⟨fun j hj => ?_, ha, hb, he⟩
        show trE _ _ _ _ j ≤ _
        unfold trE
        rw [if_pos hj]
        exact rNum_b n _ j
theorem rYear_p {t : Nat → Int32} {len : Nat} {P : Pb} {c : Cu} (h : pOk P) (hn : (rYear t len P c).2.1 = none) : pOk (rYear t len P c).1 := by
  unfold rYear at hn ⊢
  by_cases q : P.tl = true
  · rw [if_pos q] at hn; exact absurd hn flC_n
  · rw [if_neg q] at hn ⊢
    exact ⟨h.1, h.2.1, h.2.2.1, h.2.2.2.1, h.2.2.2.2.1, h.2.2.2.2.2.1, (nxN_b (Nat.zero_le _)).2⟩
theorem rLine_p {t : Nat → Int32} {len : Nat} {P : Pb} {c : Cu} (h : pOk P) (hn : (rLine t len P c).2.1 = none) : pOk (rLine t len P c).1 := by
  unfold rLine at hn ⊢
  split at hn
  · exact rLand_p h hn
  · exact rFirm_p h hn
  · exact rLink_p h (by omega) hn
  · exact rLink_p h (by omega) hn
  · exact rTrty_p h (by omega) hn
  · exact rTrty_p h (by omega) hn
  · exact rYear_p h hn
  · exact absurd hn flC_n
theorem pOk_nil : pOk Pb.nil := by
  refine ⟨⟨Nat.zero_le _, Nat.zero_le _, Nat.zero_le _, Nat.zero_le _⟩, fun x hx => absurd hx List.not_mem_nil, fun x hx => absurd hx List.not_mem_nil, fun x hx => absurd hx List.not_mem_nil, fun i j x y hx => ?_, fun x hx => absurd hx List.not_mem_nil, Nat.le_of_ble_eq_true rfl⟩
  have hx' : ([] : List (Nat × Nat × Nat × Nat × Nat))[i]? = some x := hx
  rw [List.getElem?_nil] at hx'; cases hx'
