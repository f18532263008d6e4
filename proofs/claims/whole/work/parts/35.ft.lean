/-! all treaties in force of a state, by two lands -/
theorem trOk_symm (one oth frm : Nat → Int32) (a b y : Int32) (p : Option Nat) (t : Nat) : trOk one oth frm a b y p t = trOk one oth frm b a y p t := by
  unfold trOk
  congr 1
  simp only [decide_eq_decide]
  exact Or.comm
theorem trF_symm (one oth frm : Nat → Int32) (a b y : Int32) : ∀ n, trF one oth frm a b y n = trF one oth frm b a y n
  | 0 => rfl
  | n + 1 => by
    unfold trF
    rw [trF_symm one oth frm a b y n, trOk_symm]
def lapB (u v : Int32) (l m : Nat) : Bool := decide ((nI l = u ∧ nI m = v) ∨ (nI l = v ∧ nI m = u))
theorem lapB_symm (u v : Int32) (l m : Nat) : lapB u v l m = lapB u v m l := by
  unfold lapB
  simp only [decide_eq_decide]
  constructor
  · rintro (h | h)
    · exact Or.inr ⟨h.2, h.1⟩
    · exact Or.inl ⟨h.2, h.1⟩
  · rintro (h | h)
    · exact Or.inr ⟨h.2, h.1⟩
    · exact Or.inl ⟨h.2, h.1⟩
/-- the treaty in force of two lands -/
def tAx (u v : Int32) (one oth frm ends : Nat → Int32) (y : Int32) (nt l m : Nat) : Option Nat := if lapB u v l m = true then none else trR ends (trF one oth frm (nI l) (nI m) y nt)
theorem tAx_symm (u v : Int32) (one oth frm ends : Nat → Int32) (y : Int32) (nt l m : Nat) : tAx u v one oth frm ends y nt l m = tAx u v one oth frm ends y nt m l := by
  unfold tAx
  rw [lapB_symm, trF_symm]
theorem trR_lt {ends : Nat → Int32} {p : Option Nat} {k : Nat} (h : trR ends p = some k) : p = some k := by
  cases p with
  | none => exact h
  | some j =>
    unfold trR at h
    simp only at h
    split at h
    · cases h
    · exact h
theorem tAx_lt {u v : Int32} {one oth frm ends : Nat → Int32} {y : Int32} {nt l m t : Nat} (h : tAx u v one oth frm ends y nt l m = some t) : t < nt := by
  unfold tAx at h
  split at h
  · cases h
  · exact trF_lt (trR_lt h)
/-- what the treaties' row of a book says, with a state's year and its two lapsed lands -/
def tAof (μ : Hp) (st row tr nt : Nat) (l m : Nat) : Option Nat := tAx (hI μ st 2) (hI μ st 3) (fun t => hI μ tr (96 + t)) (fun t => hI μ tr (108 + t)) (fun t => hI μ tr (0 + t)) (fun t => hI μ tr (120 + t)) (hI μ row 0) nt l m
theorem c_findTreaties {d : Nat} {ro : Nat → Nat} {μ : Hp} {fa bw tw la ra aa ta st row bk ln fn lw lo tr nl nt : Nat} (hd : 1 ≤ d) (hfd : isFd μ fa bw tw la ra aa ta) (hst : isSt μ st row) (hb : hR μ st 1 = some bk) (hbk : isBk μ bk ln fn lw lo tr)
    (hnl : hI μ bk 5 = nI nl) (hnl6 : nl ≤ 6) (hnt : hI μ bk 7 = nI nt) (hnt12 : nt ≤ 12) (n1 : ta ≠ row) (n2 : ta ≠ tr) :
    xC d yX3_findTreaties cX3_findTreaties 6 none 0 0 [.ref fa, .ref st] μ ro (fun r μ' => r = none ∧ ∃ F, μ' = wRow μ ta F ∧ ∀ l m, l < nl → m < nl → l ≠ m → F (l * 6 + m) = oI (tAof μ st row tr nt l m)) := by
  have hbk0 := hbk
  have n3 : ta ≠ st := Ne.symm (ne_of_sh hst.1 hfd.2.2.2.2.2 (by decide))
  have n4 : ta ≠ bk := Ne.symm (ne_of_sh hbk.1 hfd.2.2.2.2.2 (by decide))
  obtain ⟨hf0, ⟨-, -, -, -, hft, -⟩, ⟨-, -, -, hta⟩⟩ := hfd
  obtain ⟨hs0, hs1, hs2⟩ := id hst
  obtain ⟨hb0, -, ⟨-, -, -, -, htr⟩⟩ := hbk
  refine I_X3_findTreaties (fun J g hr => B_X3_findTreaties_0 g hr ?_)
  have hsy : ∀ l m, tAof μ st row tr nt l m = tAof μ st row tr nt m l := fun l m => tAx_symm _ _ _ _ _ _ _ _ _ _
  have outer := loopUp (Q := fun l => ∀ F, (∀ a b, a < l → b < l → a ≠ b → F (a * 6 + b) = oI (tAof μ st row tr nt a b)) → J (wRow μ ta F) 0 0 2 [(0, .ref fa), (1, .ref st), (2, .int (nI l))] []) nl ?_ (fun l hl ih F hF => ?_) 0 (Nat.zero_le _) (hI μ ta) (fun a b ha => absurd ha (Nat.not_lt_zero _))
  · rw [wRow_id] at outer
    exact outer
  · intro F hF
    refine B_X3_findTreaties_2 g hr hs0 hb hb0 ?_
    rw [hI_wRow_n _ _ (Ne.symm n4), hnl]
    exact ⟨fun _ => ⟨rfl, F, rfl, hF⟩, fun h => absurd (Int32.le_refl _) h⟩
  · refine B_X3_findTreaties_2 g hr hs0 hb hb0 ?_
    rw [hI_wRow_n _ _ (Ne.symm n4), hnl]
    refine ⟨fun h => absurd h (nI_ge hl (by omega)), fun _ => ?_⟩
    refine loopUp (Q := fun m => ∀ F, (∀ a b, a < l → b < l → a ≠ b → F (a * 6 + b) = oI (tAof μ st row tr nt a b)) → (∀ b, b < m → F (l * 6 + b) = oI (tAof μ st row tr nt l b) ∧ F (b * 6 + l) = oI (tAof μ st row tr nt b l)) → J (wRow μ ta F) 0 0 15 [(0, .ref fa), (1, .ref st), (2, .int (nI l)), (3, .int (nI m))] []) l ?_ (fun m hm ih2 F hF hG => ?_) 0 (Nat.zero_le _) F hF (fun b hb => absurd hb (Nat.not_lt_zero _))
    · intro F hF hG
      refine B_X3_findTreaties_15 g hr hs0 ⟨fun _ => ?_, fun h => absurd (Int32.le_refl _) h⟩
      rw [nI_1]
      refine ih F (fun a b ha hb hab => ?_)
      by_cases h1 : a = l
      · subst h1; exact (hG b (by omega)).1
      · by_cases h2 : b = l
        · subst h2; exact (hG a (by omega)).2
        · exact hF a b (by omega) (by omega) hab
    · have i1 : vp_in (nI l * 6 + nI m) 36 := by rw [m6]; exact vp_in_nI (by omega) (by omega)
      have i2 : vp_in (nI m * 6 + nI l) 36 := by rw [m6]; exact vp_in_nI (by omega) (by omega)
      have step : ∀ x : Int32, x = oI (tAof μ st row tr nt l m) → J (wI (wI (wRow μ ta F) ta ((nI l * 6 + nI m).toNatClampNeg) x) ta ((nI m * 6 + nI l).toNatClampNeg) x) 0 0 15 [(0, .ref fa), (1, .ref st), (2, .int (nI l)), (3, .int (nI m + 1))] [] := by
        intro x hx
        rw [m6, m6, nI_clamp (by omega), nI_clamp (by omega), wI_wRow, wI_wRow, nI_1]
        refine ih2 _ (fun a b ha hb hab => ?_) (fun b hb => ?_)
        · rw [upd_n _ (by omega), upd_n _ (by omega)]
          exact hF a b ha hb hab
        · by_cases hbm : b = m
          · subst hbm
            refine ⟨?_, ?_⟩
            · rw [upd_n _ (by omega), upd_s]; exact hx
            · rw [upd_s, hx, hsy]
          · rw [upd_n _ (by omega), upd_n _ (by omega), upd_n _ (by omega), upd_n _ (by omega)]
            exact hG b (by omega)
      have b52 : lapB (hI μ st 2) (hI μ st 3) l m = true → J (wRow μ ta F) 0 0 52 [(0, .ref fa), (1, .ref st), (2, .int (nI l)), (3, .int (nI m))] [] := fun hlap =>
        B_X3_findTreaties_52 g hr hf0 hft hta ⟨i1, i2, step (-1) (by rw [tAof, tAx, if_pos hlap]; rfl)⟩
      have b56 : ¬ lapB (hI μ st 2) (hI μ st 3) l m = true → J (wRow μ ta F) 0 0 56 [(0, .ref fa), (1, .ref st), (2, .int (nI l)), (3, .int (nI m))] [] := fun hlap => by
        refine B_X3_findTreaties_56 g hr hs0 hb hs1 hs2 hb0 ⟨lit_in 0 (by omega) (by omega), xCall_of (c_treatyOf (d := d - 1) (μ := wRow μ ta F) hbk0 (by rw [hI_wRow_n _ _ (Ne.symm n4)]; exact hnt) hnt12) (by omega) ?_⟩
        rintro r μ' ⟨rfl, rfl⟩
        refine ⟨_, rfl, hf0, ta, hft, 36, hta, i1, i2, step _ ?_⟩
        rw [tAof, tAx, if_neg hlap, hI_wRow_n _ _ (Ne.symm n2), hI_wRow_n _ _ (Ne.symm n1)]
      have b36 : ¬ (nI l = hI μ st 2 ∧ nI m = hI μ st 3) → J (wRow μ ta F) 0 0 36 [(0, .ref fa), (1, .ref st), (2, .int (nI l)), (3, .int (nI m))] [] := fun h0 => by
        refine B_X3_findTreaties_36 g hr hs0 ?_
        rw [hI_wRow_n _ _ (Ne.symm n3)]
        refine ⟨fun h => b56 ?_, fun h1 => ⟨fun h => b56 ?_, fun h2 => b52 (by simp [lapB, h1, h2])⟩⟩
        · simp only [lapB, decide_eq_true_eq]
          rintro (q | q)
          · exact h0 q
          · exact h q.1
        · simp only [lapB, decide_eq_true_eq]
          rintro (q | q)
          · exact h0 q
          · exact h q.2
      refine B_X3_findTreaties_15 g hr hs0 ?_
      rw [hI_wRow_n _ _ (Ne.symm n3)]
      refine ⟨fun h => absurd h (nI_ge hm (by omega)), fun _ => ⟨fun h => b36 (fun q => h q.1), fun h1 => ⟨fun h2 => b52 (by simp [lapB, h1, h2]), fun h2 => b36 (fun q => h2 q.2)⟩⟩⟩
