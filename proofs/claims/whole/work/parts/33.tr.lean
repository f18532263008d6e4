/-! treaties: of those of two lands with from no later the one with the latest, of several the last told -/
def trOk (one oth frm : Nat → Int32) (a b y : Int32) (p : Option Nat) (t : Nat) : Bool := decide ((one t = a ∧ oth t = b) ∨ (one t = b ∧ oth t = a)) && (decide (¬ y < frm t) && (match p with
  | none => true
  | some k => decide (¬ frm t < frm k)))
def trF (one oth frm : Nat → Int32) (a b y : Int32) : Nat → Option Nat
  | 0 => none
  | t + 1 => if trOk one oth frm a b y (trF one oth frm a b y t) t = true then some t else trF one oth frm a b y t
theorem trF_lt {one oth frm : Nat → Int32} {a b y : Int32} : ∀ {n k : Nat}, trF one oth frm a b y n = some k → k < n
  | 0, _, h => by simp [trF] at h
  | t + 1, k, h => by
    unfold trF at h
    split at h
    · cases h; exact Nat.lt_succ_self _
    · exact Nat.lt_succ_of_lt (trF_lt h)
/-- the one in force -/
def trR (ends : Nat → Int32) (p : Option Nat) : Option Nat := match p with
  | none => none
  | some k => if ends k = 1 then none else some k
theorem oI_none : oI none = -1 := rfl
theorem oI_ne {k : Nat} (hk : k < 2147483648) : ¬ oI (some k) = -1 := by
  intro h
  have h1 : ¬ (nI k) < 0 := nI_pos hk
  rw [show nI k = -1 from h] at h1
  exact h1 (by decide)
/-- the Book at a has its treaties at b -/
def isBk (μ : Hp) (a ln fn lw lo tr : Nat) : Prop := hS μ a = some (6, 9) ∧ (hR μ a 0 = some ln ∧ hR μ a 1 = some fn ∧ hR μ a 2 = some lw ∧ hR μ a 3 = some lo ∧ hR μ a 4 = some tr) ∧ (hS μ ln = some (2, 6) ∧ hS μ fn = some (2, 8) ∧ hS μ lw = some (0, 18) ∧ hS μ lo = some (0, 8) ∧ hS μ tr = some (0, 132))
theorem c_treatyOf {d : Nat} {ro : Nat → Nat} {μ : Hp} {a0 ln fn lw lo tr n : Nat} {a b y : Int32} (hbk : isBk μ a0 ln fn lw lo tr) (hn : hI μ a0 7 = nI n) (hn12 : n ≤ 12) :
    xC d yX2_treatyOf cX2_treatyOf 10 (some .int) 0 0 [.ref a0, .int a, .int b, .int y] μ ro (fun r μ' => r = some (.int (oI (trR (fun t => hI μ tr (120 + t)) (trF (fun t => hI μ tr (96 + t)) (fun t => hI μ tr (108 + t)) (fun t => hI μ tr (0 + t)) a b y n)))) ∧ μ' = μ) := by
  obtain ⟨hs0, ⟨-, -, -, -, hr0⟩, ⟨-, -, -, -, hs1⟩⟩ := hbk
  refine I_X2_treatyOf (fun J g hr => B_X2_treatyOf_0 g hr ?_)
  generalize hone : (fun t => hI μ tr (96 + t)) = one at hr
  generalize hoth : (fun t => hI μ tr (108 + t)) = oth at hr
  generalize hfrm : (fun t => hI μ tr (0 + t)) = frm at hr
  generalize hend : (fun t => hI μ tr (120 + t)) = ends at hr
  have i1 : ∀ t, hI μ tr (96 + t) = one t := fun t => by rw [← hone]
  have i2 : ∀ t, hI μ tr (108 + t) = oth t := fun t => by rw [← hoth]
  have i3 : ∀ t, hI μ tr (0 + t) = frm t := fun t => by rw [← hfrm]
  have i4 : ∀ t, hI μ tr (120 + t) = ends t := fun t => by rw [← hend]
  refine loopUp (Q := fun i => J μ 0 0 6 [(0, .ref a0), (1, .int a), (2, .int b), (3, .int y), (4, .int (oI (trF one oth frm a b y i))), (5, .int (nI i))] []) n ?_ (fun i hi ih => ?_) 0 (Nat.zero_le _)
  · refine B_X2_treatyOf_6 g hr hs0 hr0 hs1 ⟨fun _ => ?_, fun h => absurd (by rw [hn]; exact Int32.le_refl _) h⟩
    cases hp : trF one oth frm a b y n with
    | none => exact ⟨fun _ => ⟨rfl, rfl⟩, fun h => absurd rfl h⟩
    | some k =>
      have hk := trF_lt hp
      refine ⟨fun h => absurd h (oI_ne (by omega)), fun _ => ?_⟩
      rw [show ((120 : Int32) + oI (some k)).toNatClampNeg = 120 + k from off_cl 120 (by omega), i4]
      refine ⟨off_in 120 (by omega) (by omega), fun h => ⟨?_, rfl⟩, fun h => ⟨?_, rfl⟩⟩
      · rw [trR, if_neg h]
      · rw [trR, if_pos h]; rfl
  · have yes : trOk one oth frm a b y (trF one oth frm a b y i) i = true → J μ 0 0 116 [(0, .ref a0), (1, .int a), (2, .int b), (3, .int y), (4, .int (nI i)), (5, .int (nI i))] [] := fun h => by
      refine B_X2_treatyOf_116 g hr ?_
      rw [trF, if_pos h, ← nI_1] at ih
      exact ih
    have no : ¬ trOk one oth frm a b y (trF one oth frm a b y i) i = true → J μ 0 0 116 [(0, .ref a0), (1, .int a), (2, .int b), (3, .int y), (4, .int (oI (trF one oth frm a b y i))), (5, .int (nI i))] [] := fun h => by
      refine B_X2_treatyOf_116 g hr ?_
      rw [trF, if_neg h, ← nI_1] at ih
      exact ih
    have fin : ((one i = a ∧ oth i = b) ∨ (one i = b ∧ oth i = a)) → ¬ y < frm i → (oI (trF one oth frm a b y i) = -1 → J μ 0 0 116 [(0, .ref a0), (1, .int a), (2, .int b), (3, .int y), (4, .int (nI i)), (5, .int (nI i))] []) ∧ (¬ oI (trF one oth frm a b y i) = -1 → vp_in (0 + oI (trF one oth frm a b y i)) 132 ∧ ((frm i < hI μ tr ((0 + oI (trF one oth frm a b y i)).toNatClampNeg) → J μ 0 0 116 [(0, .ref a0), (1, .int a), (2, .int b), (3, .int y), (4, .int (oI (trF one oth frm a b y i))), (5, .int (nI i))] []) ∧ (¬ frm i < hI μ tr ((0 + oI (trF one oth frm a b y i)).toNatClampNeg) → J μ 0 0 116 [(0, .ref a0), (1, .int a), (2, .int b), (3, .int y), (4, .int (nI i)), (5, .int (nI i))] []))) := by
      intro h1 h2
      cases hp : trF one oth frm a b y i with
      | none =>
        refine ⟨fun _ => yes ?_, fun h => absurd rfl h⟩
        rw [hp]; simp [trOk, h1, h2]
      | some k =>
        have hk := trF_lt hp
        refine ⟨fun h => absurd h (oI_ne (by omega)), fun _ => ?_⟩
        rw [show ((0 : Int32) + oI (some k)).toNatClampNeg = 0 + k from off_cl 0 (by omega), i3]
        refine ⟨off_in 0 (by omega) (by omega), fun h => ?_, fun h => yes ?_⟩
        · have := no (by rw [hp]; simp [trOk, h])
          rw [hp] at this
          exact this
        · rw [hp]; simp [trOk, h1, h2, h]
    have e1 : ((96 : Int32) + nI i).toNatClampNeg = 96 + i := off_cl 96 (by omega)
    have e2 : ((108 : Int32) + nI i).toNatClampNeg = 108 + i := off_cl 108 (by omega)
    have e3 : ((0 : Int32) + nI i).toNatClampNeg = 0 + i := off_cl 0 (by omega)
    have early : ¬ ((one i = a ∧ oth i = b) ∨ (one i = b ∧ oth i = a)) → ¬ trOk one oth frm a b y (trF one oth frm a b y i) i = true := fun h => by simp [trOk, h]
    have late : y < frm i → ¬ trOk one oth frm a b y (trF one oth frm a b y i) i = true := fun h => by simp [trOk, h]
    have b62 : ¬ (one i = a ∧ oth i = b) → J μ 0 0 62 [(0, .ref a0), (1, .int a), (2, .int b), (3, .int y), (4, .int (oI (trF one oth frm a b y i))), (5, .int (nI i)), (6, .int (one i)), (7, .int (oth i)), (8, .int (frm i))] [] := fun h0 => by
      refine B_X2_treatyOf_62 g hr hs0 hr0 hs1 ⟨fun h => no (early ?_), fun h1 => ⟨fun h => no (early ?_), fun h2 => ⟨fun h => no (late h), fun h => fin (Or.inr ⟨h1, h2⟩) h⟩⟩⟩
      · rintro (q | q)
        · exact h0 q
        · exact h q.1
      · rintro (q | q)
        · exact h0 q
        · exact h q.2
    refine B_X2_treatyOf_6 g hr hs0 hr0 hs1 ⟨fun h => ?_, fun _ => ⟨off_in 96 (by omega) (by omega), off_in 108 (by omega) (by omega), off_in 0 (by omega) (by omega), ?_⟩⟩
    · rw [hn] at h
      exact absurd h (nI_ge hi (by omega))
    · rw [e1, e2, e3, i1, i2, i3]
      refine ⟨fun h => b62 (fun q => h q.1), fun h1 => ⟨fun h2 => ⟨fun h => no (late h), fun h => fin (Or.inl ⟨h1, h2⟩) h⟩, fun h2 => b62 (fun q => h2 q.2)⟩⟩
