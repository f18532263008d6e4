/-! a whole book, a whole script, read by the class -/
theorem goC_tn {t : Nat → Int32} {len : Nat} {c : Cu} (h : (goC t len c).1 = true) : c.1 = none := by
  unfold goC at h
  by_cases e : c.1 = none
  · exact e
  · rw [if_neg e] at h; cases h
theorem goC_nn {t : Nat → Int32} {len : Nat} {c : Cu} (h : (goC t len c).2.1 = none) : c.1 = none := by
  unfold goC at h
  by_cases e : c.1 = none
  · exact e
  · rw [if_neg e] at h; exact absurd h e
def stN (k : Nat) : Nat := ([0, 0, 0, 0, 0, 0, 0, 4, 1, 2, 3, 2] : List Nat).getD k 0
def stE (k : Nat) (v : Nat → Nat) : Nat → Int32 := fun j => if j = 0 then nI (k - 7) else if j ≤ stN k then nI (v (j - 1)) else -1
def rStep (t : Nat → Int32) (len : Nat) (c : Cu) : (Nat → Int32) × Cu := match nbr kwds (nxW t len c).1 with
  | some k => if 7 ≤ k then (stE k (rNum t len (fun _ => 9999) (stN k) (nxW t len c).2).1, (rNum t len (fun _ => 9999) (stN k) (nxW t len c).2).2) else (fun _ => 0, flC (nxW t len c).2 (nxW t len c).2.2.1)
  | none => (fun _ => 0, flC (nxW t len c).2 (nxW t len c).2.2.1)
def rScr (t : Nat → Int32) (len : Nat) : Nat → List (Nat → Int32) → Cu → List (Nat → Int32) × Cu
  | 0, ss, c => (ss, flC c c.2.1)
  | n + 1, ss, c => if (goC t len (rStep t len c).2).1 = true then rScr t len n (ss ++ [(rStep t len c).1]) (goC t len (rStep t len c).2).2 else (ss ++ [(rStep t len c).1], (goC t len (rStep t len c).2).2)
def rScript (t : Nat → Int32) (len : Nat) : List (Nat → Int32) × Cu := rScr t len 12 [] (none, 0, 0)
theorem stN_le : ∀ k, stN k ≤ 4 := fun k => by
  rcases Nat.lt_or_ge k 12 with h | h
  · have : k = 0 ∨ k = 1 ∨ k = 2 ∨ k = 3 ∨ k = 4 ∨ k = 5 ∨ k = 6 ∨ k = 7 ∨ k = 8 ∨ k = 9 ∨ k = 10 ∨ k = 11 := by omega
    rcases this with rfl | rfl | rfl | rfl | rfl | rfl | rfl | rfl | rfl | rfl | rfl | rfl <;> decide
  · unfold stN
    rw [List.getD_eq_getElem?_getD, List.getElem?_eq_none (by simpa using h)]
    exact Nat.zero_le _
theorem roNum_st : ∀ k, k < 12 → roNum.getD k 0 = nI (stN k) := by decide
theorem roAct_st : ∀ k, k < 12 → roAct.getD k 0 = if k < 7 then -1 else nI (k - 7) := by decide
/-! reading goes on, never back -/
theorem nxW_ge {t : Nat → Int32} {len : Nat} {c : Cu} : c.2.2 ≤ (nxW t len c).2.2.2 := by
  unfold nxW
  by_cases e : c.1 = none
  · rw [if_pos e]; exact Nat.le_trans (skE_ge t len c.2.2) (wdE_ge t len c.2.2)
  · rw [if_neg e]; exact Nat.le_refl _
theorem nxN_ge {t : Nat → Int32} {len lo hi : Nat} {c : Cu} : c.2.2 ≤ (nxN t len lo hi c).2.2.2 := by
  unfold nxN
  by_cases e : c.1 = none
  · rw [if_pos e]; exact Nat.le_trans (skE_ge t len c.2.2) (dgE_ge t len c.2.2)
  · rw [if_neg e]; exact Nat.le_refl _
theorem flC_ge {c : Cu} {x : Nat} : c.2.2 ≤ (flC c x).2.2 := by rw [flC_st]; exact Nat.le_refl _
theorem ifC_ge {p : Prop} [Decidable p] {n : Nat} {c c' : Cu} (h1 : n ≤ c.2.2) (h2 : n ≤ c'.2.2) : n ≤ (if p then c else c').2.2 := by
  by_cases q : p
  · rw [if_pos q]; exact h1
  · rw [if_neg q]; exact h2
theorem rNum_ge {t : Nat → Int32} {len : Nat} {hi : Nat → Nat} : ∀ (n : Nat) {c : Cu}, c.2.2 ≤ (rNum t len hi n c).2.2.2
  | 0, _ => Nat.le_refl _
  | n + 1, c => Nat.le_trans (rNum_ge n) nxN_ge
theorem nwN_ge {t : Nat → Int32} {len : Nat} {P : Pb} {c : Cu} : c.2.2 ≤ (nwN t len P c).2.2.2 := ifC_ge nxW_ge (Nat.le_trans nxW_ge flC_ge)
theorem tdN_ge {t : Nat → Int32} {len : Nat} {ns : List (List Nat)} {un : Option Nat} {c : Cu} : c.2.2 ≤ (tdN t len ns un c).2.2.2 := ifC_ge (Nat.le_trans nxW_ge flC_ge) nxW_ge
theorem rLine_ge {t : Nat → Int32} {len : Nat} {P : Pb} {c : Cu} : c.2.2 ≤ (rLine t len P c).2.2.2 := by
  refine Nat.le_trans (nxW_ge (t := t) (len := len)) ?_
  unfold rLine
  generalize (nxW t len c).2 = c1
  have ht : ∀ n e, c1.2.2 ≤ (rTrty t len P n e c1).2.2.2 := fun n e => by
    unfold rTrty
    by_cases q : 12 ≤ P.tr.length
    · rw [if_pos q]; exact flC_ge
    · rw [if_neg q]; exact Nat.le_trans (Nat.le_trans tdN_ge tdN_ge) (rNum_ge n)
  have hk : ∀ s, c1.2.2 ≤ (rLink t len P s c1).2.2.2 := fun s => by
    unfold rLink
    by_cases q : 16 ≤ P.lk.length
    · rw [if_pos q]; exact flC_ge
    · rw [if_neg q]
      have h3 : c1.2.2 ≤ (rLk3 t len P s c1).2.2 := ifC_ge (Nat.le_trans (Nat.le_trans tdN_ge tdN_ge) flC_ge) (Nat.le_trans tdN_ge tdN_ge)
      refine Nat.le_trans ?_ nxN_ge
      unfold rLk4
      by_cases q : s = 0
      · rw [if_pos q]; exact Nat.le_trans h3 nxN_ge
      · rw [if_neg q]; exact h3
  split
  · unfold rLand
    by_cases q : 6 ≤ P.ld.length
    · rw [if_pos q]; exact flC_ge
    · rw [if_neg q]; exact Nat.le_trans nwN_ge (rNum_ge 3)
  · unfold rFirm
    by_cases q : 8 ≤ P.fm.length
    · rw [if_pos q]; exact flC_ge
    · rw [if_neg q]; exact Nat.le_trans (Nat.le_trans nwN_ge tdN_ge) nxN_ge
  · exact hk 0
  · exact hk 1
  · exact ht 8 0
  · exact ht 1 1
  · unfold rYear
    by_cases q : P.tl = true
    · rw [if_pos q]; exact flC_ge
    · rw [if_neg q]; exact nxN_ge
  · exact flC_ge
theorem rBk_s (t : Nat → Int32) (len n : Nat) (P : Pb) (c : Cu) : rBk t len (n + 1) P c = if (goC t len (rLine t len P c).2).1 = true then rBk t len n (rLine t len P c).1 (goC t len (rLine t len P c).2).2 else ((rLine t len P c).1, (goC t len (rLine t len P c).2).2) := rfl
theorem rScr_s (t : Nat → Int32) (len n : Nat) (ss : List (Nat → Int32)) (c : Cu) : rScr t len (n + 1) ss c = if (goC t len (rStep t len c).2).1 = true then rScr t len n (ss ++ [(rStep t len c).1]) (goC t len (rStep t len c).2).2 else (ss ++ [(rStep t len c).1], (goC t len (rStep t len c).2).2) := rfl
section rdf
variable {d : Nat} {ro : Nat → Nat} {μ : Hp} {A : Nat → Nat} {t : Nat → Int32} {len : Nat} {c : Cu} {P : Pb}
/-- a tape ready to be read -/
def tpR (μ : Hp) (A : Nat → Nat) (t : Nat → Int32) (len : Nat) : Prop := hI μ (A 1) 0 = nI len ∧ len ≤ 400 ∧ ∀ i, i < len → hI μ (A 2) i = t i
theorem k_bg {K : Option Value → Hp → Prop} (hd : 1 ≤ d) (hs : cSh μ A) (hj : cInj A) (h : tpR μ A t len) (hK : ∀ μ', rdR μ' A t len (none, 0, 0) → Fr ([1].map A) μ μ' → K none μ') : xCall d yX6_begin cX6_begin 1 none [.ref (A 1)] μ ro K := by
  refine xCall_of (c_begin (d := d - 1) hs.rd) (by omega) ?_
  rintro r μ' ⟨rfl, rfl⟩
  refine hK _ ⟨?_, h.2.1, ⟨Nat.zero_le _, Nat.zero_le _, fun p hp => by cases hp⟩, ?_⟩ (Fr.row (by simp))
  · rw [hI_wRow_s]
    exact ⟨by rw [upd_n _ (by decide), upd_n _ (by decide), upd_n _ (by decide)]; exact h.1, by rw [upd_s]; rfl, by rw [upd_n _ (by decide), upd_s]; rfl, by rw [upd_n _ (by decide), upd_n _ (by decide), upd_s]; rfl⟩
  · rw [hI_wRow_n _ _ (hj.ne 2 1)]; exact h.2.2
theorem c_rBook (hd : 8 ≤ d) (hs : cSh μ A) (hj : cInj A) (h : tpR μ A t len) : xC d yX2_readFrom cX2_readFrom 5 none 0 0 [.ref (A 45), .ref (A 1), .ref (A 35)] μ ro (lnZ A t len μ (rBook t len)) := by
  refine I_X2_readFrom (fun J g hr => B_X2_readFrom_0 g hr (hs.s 45 6 9) (hs.s 35 12 4) ?_)
  have D1 : dFr A μ (wI (wI (wI (wI μ (A 45) 5 0) (A 45) 6 0) (A 45) 7 0) (A 45) 8 0) := (((dFr.w hj 45 5 0 (by decide)).tt (dFr.w hj 45 6 0 (by decide))).tt (dFr.w hj 45 7 0 (by decide))).tt (dFr.w hj 45 8 0 (by decide))
  have s1 := D1.sh hs
  have t1 : tpR (wI (wI (wI (wI μ (A 45) 5 0) (A 45) 6 0) (A 45) 7 0) (A 45) 8 0) A t len := by
    unfold tpR
    rw [D1.o hj 2, hI_wI_n _ _ _ (hj.ne 1 45), hI_wI_n _ _ _ (hj.ne 1 45), hI_wI_n _ _ _ (hj.ne 1 45), hI_wI_n _ _ _ (hj.ne 1 45)]
    exact h
  have c1 : cPN (hI (wI (wI (wI (wI μ (A 45) 5 0) (A 45) 6 0) (A 45) 7 0) (A 45) 8 0) (A 45)) Pb.nil := by
    rw [hI_wI_s, hI_wI_s, hI_wI_s, hI_wI_s]
    exact ⟨by rw [upd_n _ (by decide), upd_n _ (by decide), upd_n _ (by decide), upd_s]; rfl, by rw [upd_n _ (by decide), upd_n _ (by decide), upd_s]; rfl, by rw [upd_n _ (by decide), upd_s]; rfl, by rw [upd_s]; rfl⟩
  generalize wI (wI (wI (wI μ (A 45) 5 0) (A 45) 6 0) (A 45) 7 0) (A 45) 8 0 = μ1 at D1 s1 t1 c1 ⊢
  refine xCall_of (c_clear (d := d - 1) s1.sc) (by omega) ?_
  rintro r μ2 ⟨rfl, rfl⟩
  have s2 : cSh (wRow μ1 (A 36) (clrF (hI μ1 (A 36)))) A := s1
  have D2 : dFr A μ (wRow μ1 (A 36) (clrF (hI μ1 (A 36)))) := D1.tt (dFr.row hj _ (fun j hj1 => by unfold clrF; rw [if_neg (by omega), if_neg (by omega)]))
  have t2 : tpR (wRow μ1 (A 36) (clrF (hI μ1 (A 36)))) A t len := by
    unfold tpR
    rw [hI_wRow_n _ _ (hj.ne 1 36), hI_wRow_n _ _ (hj.ne 2 36)]; exact t1
  have P2 : cPB (wRow μ1 (A 36) (clrF (hI μ1 (A 36)))) A Pb.nil := by
    refine ⟨by rw [hI_wRow_n _ _ (hj.ne 45 36)]; exact c1, fun i x hx => ?_, fun i x hx => ?_, ⟨by rw [hI_wRow_s]; rfl, fun i x hx => ?_⟩, fun i x hx => ?_, by rw [hI_wRow_s]; rfl, fun j j1 j2 => Or.inr ?_⟩
    · have hx' : ([] : List (List Nat × (Nat → Nat)))[i]? = some x := hx
      rw [List.getElem?_nil] at hx'; cases hx'
    · have hx' : ([] : List (List Nat × Nat × Nat))[i]? = some x := hx
      rw [List.getElem?_nil] at hx'; cases hx'
    · have hx' : ([] : List (Nat × Nat × Nat × Nat × Nat))[i]? = some x := hx
      rw [List.getElem?_nil] at hx'; cases hx'
    · have hx' : ([] : List (Nat → Nat))[i]? = some x := hx
      rw [List.getElem?_nil] at hx'; cases hx'
    · rw [hI_wRow_s]
      unfold clrF
      rw [if_neg (by omega), if_pos (by omega)]
  refine ⟨rfl, s2.s 1 10 5, k_bg (by omega) s2 hj t2 (fun μ3 r3 F3 => ⟨rfl, ?_⟩)⟩
  unfold rBook at hr
  have ex : ∀ (μ' : Hp) (x : Int32), dFr A μ μ' → rdR μ' A t len (rBk t len 401 Pb.nil (none, 0, 0)).2 → ((rBk t len 401 Pb.nil (none, 0, 0)).2.1 = none → cPB μ' A (rBk t len 401 Pb.nil (none, 0, 0)).1 ∧ pOk (rBk t len 401 Pb.nil (none, 0, 0)).1) → J μ' 0 0 33 [(0, .ref (A 45)), (1, .ref (A 1)), (2, .ref (A 35)), (3, .int 0), (4, .int x)] [] := by
    intro μ' x D' r' P'
    have s' := D'.sh hs
    refine B_X2_readFrom_33 g hr (s'.s 45 6 9) (s'.s 1 10 5) ⟨fun _ => ?_, fun q => absurd rfl q⟩
    rw [r'.1.1]
    generalize rBk t len 401 Pb.nil (none, 0, 0) = Q at r' P' ⊢
    have e8 : Q.2.1 = none → (hI μ' (A 45) 6 = 0 ↔ Q.1.fm.length = 0) := fun e => by
      have h8 := (P' e).2.1.2.1
      rw [(P' e).1.1.2.1]
      exact nI_eq (b := 0) (by omega) (by omega)
    refine ⟨fun q => ⟨rfl, D', ?_, fun e => ?_⟩, fun q => k_fl (by omega) s' hj r' (Nat.le_refl _) (fun μ4 r4 F4 => ⟨rfl, rfl, D'.tt (Fr1_d F4 hj), ?_, fun e => ?_⟩)⟩
    · by_cases e0 : Q.1.fm.length = 0
      · have hn : ¬ Q.2.1 = none := fun e => q ((e8 e).mpr e0)
        rw [if_pos e0, flC_id hn]; exact r'
      · rw [if_neg e0]; exact r'
    · by_cases e0 : Q.1.fm.length = 0
      · simp only [if_pos e0] at e; exact absurd e flC_n
      · simp only [if_neg e0] at e; exact (P' e).1
    · by_cases e0 : Q.1.fm.length = 0
      · rw [if_pos e0]; exact r4
      · rw [if_neg e0]
        have hn : ¬ Q.2.1 = none := fun e => e0 ((e8 e).mp q)
        rw [flC_id hn] at r4; exact r4
    · by_cases e0 : Q.1.fm.length = 0
      · simp only [if_pos e0] at e; exact absurd e flC_n
      · simp only [if_neg e0] at e; exact absurd ((e8 e).mp q) e0
  have key : ∀ n i P c μ', i + n = 401 → i ≤ c.2.2 → c.1 = none → dFr A μ μ' → rdR μ' A t len c → cPB μ' A P → pOk P → rBk t len n P c = rBk t len 401 Pb.nil (none, 0, 0) → J μ' 0 0 33 [(0, .ref (A 45)), (1, .ref (A 1)), (2, .ref (A 35)), (3, .int 1), (4, .int (nI i))] [] := by
    intro n
    induction n with
    | zero =>
      intro i P c μ' hi hc _ _ r' _ _ _
      have h1 := r'.2.1
      have h2 := r'.2.2.1.2.1
      omega
    | succ n ih =>
      intro i P c μ' hi hc hn D' r' P' hp he
      have s' := D'.sh hs
      refine B_X2_readFrom_33 g hr (s'.s 45 6 9) (s'.s 1 10 5) ⟨fun q => absurd q (by decide), fun _ => pk_lt 400 i (fun q => by omega) (fun _ => xCall_of (c_rLine (d := d - 1) (by omega) s' hj r' P' hp) (by omega) ?_)⟩
      rintro r μ4 ⟨rfl, D4, r4, P4⟩
      have D4' := D'.tt D4
      have s4 := D4'.sh hs
      refine ⟨rfl, s4.s 1 10 5, k_go (by omega) s4 hj r4 (fun μ5 r5 F5 => ⟨_, rfl, ?_⟩)⟩
      rw [nI_1]
      have D5 := D4'.tt (Fr1_d F5 hj)
      rw [rBk_s t len n P c] at he
      by_cases q : (goC t len (rLine t len P c).2).1 = true
      · rw [if_pos q] at he ⊢
        have h1 := goC_tn q
        have h2 := goC_t q
        have hat : c.2.2 ≤ (rLine t len P c).2.2.2 := rLine_ge
        exact ih (i + 1) _ _ μ5 (by omega) (by omega) h2.1 D5 r5 ((P4 h1).fr hj F5) (rLine_p hp h1) he
      · rw [if_neg q] at he ⊢
        refine ex μ5 _ D5 (by rw [← he]; exact r5) (fun e => ?_)
        rw [← he] at e ⊢
        have h1 := goC_nn e
        exact ⟨(P4 h1).fr hj F5, rLine_p hp h1⟩
  exact key 401 0 Pb.nil (none, 0, 0) μ3 (by omega) (Nat.le_refl _) rfl (D2.tt (Fr1_d F3 hj)) r3 (P2.fr hj F3) pOk_nil rfl
end rdf
