/-! a hop's article and rate -/
def artF (here there home : Nat) (tA : Nat → Nat → Option Nat) (sort staffY shareL since year : Int32) (tS tO tH tY : Nat → Int32) : Nat :=
  if here = there then 0 else
  match tA here there with
  | none => 1
  | some t => if staffY < tS t then 2 else if (tO t = 1 ∧ ¬ home = there) ∨ (tO t = 2 ∧ ¬ home = here ∧ tA home here = none) then 3 else if sort = 1 then 0 else if shareL < tH t then 4 else if year - since < tY t then 5 else 0
theorem artF_some {here there home t : Nat} {tA : Nat → Nat → Option Nat} {sort staffY shareL since year : Int32} {tS tO tH tY : Nat → Int32} (h : ¬ here = there) (hc : tA here there = some t) :
    artF here there home tA sort staffY shareL since year tS tO tH tY = if staffY < tS t then 2 else if (tO t = 1 ∧ ¬ home = there) ∨ (tO t = 2 ∧ ¬ home = here ∧ tA home here = none) then 3 else if sort = 1 then 0 else if shareL < tH t then 4 else if year - since < tY t then 5 else 0 := by
  rw [artF, if_neg h, hc]
/-- the Finder at a: its ways, its rows -/
def isFd (μ : Hp) (a bw tw la ra aa ta : Nat) : Prop := hS μ a = some (7, 9) ∧ (hR μ a 0 = some bw ∧ hR μ a 2 = some la ∧ hR μ a 3 = some ra ∧ hR μ a 4 = some aa ∧ hR μ a 5 = some ta ∧ hR μ a 6 = some tw) ∧ (hS μ la = some (0, 64) ∧ hS μ ra = some (0, 64) ∧ hS μ aa = some (0, 64) ∧ hS μ ta = some (0, 36))
theorem ij6 {i j : Nat} (hi : i < 6) (hj : j < 6) : i * 6 + j < 36 := by omega
theorem m6 (i j : Nat) : nI i * 6 + nI j = nI (i * 6 + j) := by
  rw [show nI i * 6 = nI (i * 6) from pk_mul i 6, nI_add]
theorem c_articleOf {d : Nat} {ro : Nat → Nat} {μ : Hp} {fa bw tw la ra aa ta st row bk ln fn lw lo tr k p q lp lq home nl : Nat} {tA : Nat → Nat → Option Nat} (hfd : isFd μ fa bw tw la ra aa ta) (hst : isSt μ st row) (hb : hR μ st 1 = some bk) (hbk : isBk μ bk ln fn lw lo tr)
    (hk : k < 16) (hp : hI μ row (48 + k) = nI p) (hq : hI μ row (64 + k) = nI q) (hp8 : p < 8) (hq8 : q < 8) (hlp : hI μ lo p = nI lp) (hlq : hI μ lo q = nI lq) (hnl : nl ≤ 6) (hlp6 : lp < nl) (hlq6 : lq < nl) (hh6 : home < nl)
    (htA : ∀ l m, l < nl → m < nl → l ≠ m → hI μ ta (l * 6 + m) = oI (tA l m)) (ht12 : ∀ l m t, tA l m = some t → t < 12) :
    xC d yX3_articleOf cX3_articleOf 11 (some .int) 0 0 [.ref fa, .ref st, .int (nI k), .int (nI home)] μ ro (fun r μ' => r = some (.int (nI (artF lq lp home tA (hI μ row (32 + k)) (hI μ row (2 + p)) (hI μ row (80 + k)) (hI μ row (96 + k)) (hI μ row 0) (fun t => hI μ tr (72 + t)) (fun t => hI μ tr (84 + t)) (fun t => hI μ tr (48 + t)) (fun t => hI μ tr (60 + t))))) ∧ μ' = μ) := by
  obtain ⟨hf0, ⟨-, -, -, -, hft, -⟩, ⟨-, -, -, hta⟩⟩ := hfd
  obtain ⟨hs0, hs1, hs2⟩ := hst
  obtain ⟨hb0, ⟨-, -, -, hblo, hbtr⟩, ⟨-, -, -, hlo, htr⟩⟩ := hbk
  refine I_X3_articleOf (fun J g hr => B_X3_articleOf_0 g hr hs0 hs1 hs2 hb hb0 hblo hlo hf0 hft hta hbtr htr ?_)
  generalize hR0 : artF lq lp home tA (hI μ row (32 + k)) (hI μ row (2 + p)) (hI μ row (80 + k)) (hI μ row (96 + k)) (hI μ row 0) (fun t => hI μ tr (72 + t)) (fun t => hI μ tr (84 + t)) (fun t => hI μ tr (48 + t)) (fun t => hI μ tr (60 + t)) = res at hr
  rw [show ((48 : Int32) + nI k).toNatClampNeg = 48 + k from off_cl 48 (by omega), show ((64 : Int32) + nI k).toNatClampNeg = 64 + k from off_cl 64 (by omega), hp, hq, nI_clamp (by omega), nI_clamp (by omega), hlp, hlq]
  refine ⟨off_in 48 (by omega) (by omega), off_in 64 (by omega) (by omega), vp_in_nI (by omega) (by omega), fun v4 e4 => ⟨vp_in_nI (by omega) (by omega), fun v6 e6 => ?_⟩⟩
  subst e4
  subst e6
  refine ⟨fun hne => ?_, fun he => ⟨?_, rfl⟩⟩
  · have hne' : lq ≠ lp := fun e => hne (by rw [e])
    rw [m6, nI_clamp (by omega), htA _ _ hlq6 hlp6 hne']
    refine ⟨vp_in_nI (by omega) (by omega), fun ht => ?_, fun ht => ⟨?_, rfl⟩⟩
    · cases hc : tA lq lp with
      | none => rw [hc] at ht; exact absurd rfl ht
      | some t =>
        have ht12' := ht12 _ _ _ hc
        rw [show oI (some t) = nI t from rfl, show ((2 : Int32) + nI p).toNatClampNeg = 2 + p from off_cl 2 (by omega), show ((72 : Int32) + nI t).toNatClampNeg = 72 + t from off_cl 72 (by omega), show ((84 : Int32) + nI t).toNatClampNeg = 84 + t from off_cl 84 (by omega)]
        refine ⟨off_in 2 (by omega) (by omega), fun v11 e11 => ⟨off_in 72 (by omega) (by omega), fun v13 e13 => ?_⟩⟩
        subst e11
        subst e13
        rw [artF_some hne' hc] at hR0
        have w1 : ((32 : Int32) + nI k).toNatClampNeg = 32 + k := off_cl 32 (by omega)
        have w2 : ((80 : Int32) + nI k).toNatClampNeg = 80 + k := off_cl 80 (by omega)
        have w3 : ((96 : Int32) + nI k).toNatClampNeg = 96 + k := off_cl 96 (by omega)
        have w4 : ((48 : Int32) + nI t).toNatClampNeg = 48 + t := off_cl 48 (by omega)
        have w5 : ((60 : Int32) + nI t).toNatClampNeg = 60 + t := off_cl 60 (by omega)
        refine ⟨fun h2 => ⟨off_in 84 (by omega) (by omega), fun v16 e16 => ?_⟩, fun h2 => ⟨?_, rfl⟩⟩
        · subst e16
          rw [if_neg (fun q => Int32.not_le.mpr q h2)] at hR0
          have k169 : ¬ ((hI μ tr (84 + t) = 1 ∧ ¬ home = lp) ∨ (hI μ tr (84 + t) = 2 ∧ ¬ home = lq ∧ tA home lq = none)) → J μ 0 0 169 [(1, .ref st), (2, .int (nI k)), (7, .int (nI t)), (8, .ref tr)] [] := fun h3 => by
            rw [if_neg h3] at hR0
            refine B_X3_articleOf_169 g hr hs0 hs1 hs2 htr ?_
            rw [w1, w2, w3, w4, w5]
            refine ⟨off_in 32 (by omega) (by omega), fun h4 => ⟨off_in 80 (by omega) (by omega), off_in 48 (by omega) (by omega), fun h5 => ⟨lit_in 0 (by omega) (by omega), off_in 96 (by omega) (by omega), off_in 60 (by omega) (by omega), fun h6 => ⟨?_, rfl⟩, fun h6 => ⟨?_, rfl⟩⟩, fun h5 => ⟨?_, rfl⟩⟩, fun h4 => ⟨?_, rfl⟩⟩
            · rw [← hR0, if_neg h4, if_neg (fun q => Int32.not_le.mpr q h5), if_neg (fun q => Int32.not_le.mpr q h6)]; rfl
            · rw [← hR0, if_neg h4, if_neg (fun q => Int32.not_le.mpr q h5), if_pos (Int32.not_le.mp h6)]; rfl
            · rw [← hR0, if_neg h4, if_pos (Int32.not_le.mp h5)]; rfl
            · rw [← hR0, if_pos h4]; rfl
          have z3 : ((hI μ tr (84 + t) = 1 ∧ ¬ home = lp) ∨ (hI μ tr (84 + t) = 2 ∧ ¬ home = lq ∧ tA home lq = none)) → some (Value.int 3) = some (.int (nI res)) ∧ μ = μ := fun h3 => ⟨by rw [← hR0, if_pos h3]; rfl, rfl⟩
          have k156 : ∀ fl : Int32, (fl = 0 → ¬ (¬ home = lq ∧ tA home lq = none)) → (¬ fl = 0 → (¬ home = lq ∧ tA home lq = none)) → ¬ (hI μ tr (84 + t) = 1 ∧ ¬ home = lp) → J μ 0 0 156 [(1, .ref st), (2, .int (nI k)), (7, .int (nI t)), (8, .ref tr), (9, .int (hI μ tr (84 + t))), (10, .int fl)] [] := fun fl f0 f1 hno => by
            refine B_X3_articleOf_156 g hr ⟨fun h => k169 ?_, fun h => ⟨fun hf => k169 ?_, fun hf => z3 (Or.inr ⟨h, f1 hf⟩)⟩⟩
            · rintro (q | q)
              · exact hno q
              · exact h q.1
            · rintro (q | q)
              · exact hno q
              · exact f0 hf q.2
          have both : ∀ fl : Int32, (fl = 0 → ¬ (¬ home = lq ∧ tA home lq = none)) → (¬ fl = 0 → (¬ home = lq ∧ tA home lq = none)) → (¬ hI μ tr (84 + t) = 1 → J μ 0 0 156 [(1, .ref st), (2, .int (nI k)), (7, .int (nI t)), (8, .ref tr), (9, .int (hI μ tr (84 + t))), (10, .int fl)] []) ∧ (hI μ tr (84 + t) = 1 → (¬ nI home = nI lp → some (Value.int 3) = some (.int (nI res)) ∧ μ = μ) ∧ (nI home = nI lp → J μ 0 0 156 [(1, .ref st), (2, .int (nI k)), (7, .int (nI t)), (8, .ref tr), (9, .int (hI μ tr (84 + t))), (10, .int fl)] [])) := fun fl f0 f1 =>
            ⟨fun h => k156 fl f0 f1 (fun q => h q.1), fun h => ⟨fun hh => z3 (Or.inl ⟨h, fun e => hh (by rw [e])⟩), fun hh => k156 fl f0 f1 (fun q => q.2 ((nI_eq (by omega) (by omega)).mp hh))⟩⟩
          refine ⟨fun hh => both 0 (fun _ q => q.1 ((nI_eq (by omega) (by omega)).mp hh)) (fun q => absurd rfl q), fun hh => ?_⟩
          have hhq : ¬ home = lq := fun e => hh (by rw [e])
          rw [m6, nI_clamp (by omega), htA _ _ hh6 hlq6 hhq]
          refine ⟨vp_in_nI (by omega) (by omega), fun h => both 0 (fun _ q => h (by rw [q.2]; rfl)) (fun q => absurd rfl q), fun h => both 1 (fun q => absurd q (by decide)) (fun _ => ⟨hhq, ?_⟩)⟩
          cases hc2 : tA home lq with
          | none => rfl
          | some t2 => rw [hc2] at h; exact absurd h (oI_ne (by have := ht12 _ _ _ hc2; omega))
        · rw [← hR0, if_pos (Int32.not_le.mp h2)]
          rfl
    · rw [← hR0, artF, if_neg hne']
      cases hc : tA lq lp with
      | none => rfl
      | some t => rw [hc] at ht; exact absurd ht (oI_ne (by have := ht12 _ _ _ hc; omega))
  · have : lq = lp := (nI_eq (by omega) (by omega)).mp he
    rw [← hR0, artF, if_pos this]
    rfl
def rateF (here there : Nat) (tA : Nat → Nat → Option Nat) (srt art : Nat) (law tL tHi tI : Nat → Int32) : Int32 :=
  if here = there then 0 else
  match tA here there with
  | none => law here
  | some t => if 1 ≤ art ∧ art ≤ 3 then law here else if ¬ art = 0 then tHi t else if srt = 1 then tI t else tL t
theorem c_rateOf {d : Nat} {ro : Nat → Nat} {μ : Hp} {fa bw tw la ra aa ta st row bk ln fn lw lo tr k p q lp lq art srt nl : Nat} {tA : Nat → Nat → Option Nat} (hfd : isFd μ fa bw tw la ra aa ta) (hst : isSt μ st row) (hb : hR μ st 1 = some bk) (hbk : isBk μ bk ln fn lw lo tr)
    (hk : k < 16) (hp : hI μ row (48 + k) = nI p) (hq : hI μ row (64 + k) = nI q) (hp8 : p < 8) (hq8 : q < 8) (hlp : hI μ lo p = nI lp) (hlq : hI μ lo q = nI lq) (hnl : nl ≤ 6) (hlp6 : lp < nl) (hlq6 : lq < nl) (ha5 : art ≤ 5) (hsr : hI μ row (32 + k) = nI srt) (hs2 : srt < 2)
    (htA : ∀ l m, l < nl → m < nl → l ≠ m → hI μ ta (l * 6 + m) = oI (tA l m)) (ht12 : ∀ l m t, tA l m = some t → t < 12) :
    xC d yX3_rateOf cX3_rateOf 8 (some .int) 0 0 [.ref fa, .ref st, .int (nI k), .int (nI art)] μ ro (fun r μ' => r = some (.int (rateF lq lp tA srt art (fun l => hI μ lw (srt * 6 + l)) (fun t => hI μ tr (12 + t)) (fun t => hI μ tr (24 + t)) (fun t => hI μ tr (36 + t)))) ∧ μ' = μ) := by
  obtain ⟨hf0, ⟨-, -, -, -, hft, -⟩, ⟨-, -, -, hta⟩⟩ := hfd
  obtain ⟨hs0, hs1, hs2'⟩ := hst
  obtain ⟨hb0, ⟨-, -, hblw, hblo, hbtr⟩, ⟨-, -, hlw, hlo, htr⟩⟩ := hbk
  refine I_X3_rateOf (fun J g hr => B_X3_rateOf_0 g hr hs0 hs1 hs2' hb hb0 hblo hlo hf0 hft hta hblw hlw ?_)
  generalize hR0 : rateF lq lp tA srt art (fun l => hI μ lw (srt * 6 + l)) (fun t => hI μ tr (12 + t)) (fun t => hI μ tr (24 + t)) (fun t => hI μ tr (36 + t)) = res at hr
  rw [show ((48 : Int32) + nI k).toNatClampNeg = 48 + k from off_cl 48 (by omega), show ((64 : Int32) + nI k).toNatClampNeg = 64 + k from off_cl 64 (by omega), show ((32 : Int32) + nI k).toNatClampNeg = 32 + k from off_cl 32 (by omega), hp, hq, hsr, nI_clamp (by omega), nI_clamp (by omega), hlp, hlq]
  refine ⟨off_in 32 (by omega) (by omega), off_in 64 (by omega) (by omega), vp_in_nI (by omega) (by omega), fun v4 e4 => ⟨off_in 48 (by omega) (by omega), vp_in_nI (by omega) (by omega), fun v7 e7 => ?_⟩⟩
  subst e4
  subst e7
  refine ⟨fun hne => ?_, fun he => ⟨?_, rfl⟩⟩
  · have hne' : ¬ lq = lp := fun e => hne (by rw [e])
    rw [m6, m6, nI_clamp (by omega), nI_clamp (by omega), htA _ _ hlq6 hlp6 hne']
    rw [rateF, if_neg hne'] at hR0
    refine ⟨vp_in_nI (by omega) (by omega), fun ht => ⟨vp_in_nI (by omega) (by omega), fun v12 e12 => ⟨?_, rfl⟩⟩, fun ht => ?_⟩
    · cases hc : tA lq lp with
      | none => rw [hc] at hR0; rw [e12, ← hR0]
      | some t => rw [hc] at ht; exact absurd ht (oI_ne (by have := ht12 _ _ _ hc; omega))
    · cases hc : tA lq lp with
      | none => rw [hc] at ht; exact absurd rfl ht
      | some t =>
        have ht12' := ht12 _ _ _ hc
        rw [hc] at hR0
        have hR1 : (if 1 ≤ art ∧ art ≤ 3 then hI μ lw (srt * 6 + lq) else if ¬ art = 0 then hI μ tr (24 + t) else if srt = 1 then hI μ tr (36 + t) else hI μ tr (12 + t)) = res := hR0
        have k106 : ¬ (1 ≤ art ∧ art ≤ 3) → J μ 0 0 106 [(1, .ref st), (3, .int (nI art)), (4, .int (nI srt)), (7, .int (nI t))] [] := fun h => by
          rw [if_neg h] at hR1
          refine B_X3_rateOf_106 g hr hs0 hb hb0 hbtr htr ?_
          rw [show ((12 : Int32) + nI t).toNatClampNeg = 12 + t from off_cl 12 (by omega), show ((24 : Int32) + nI t).toNatClampNeg = 24 + t from off_cl 24 (by omega), show ((36 : Int32) + nI t).toNatClampNeg = 36 + t from off_cl 36 (by omega)]
          refine ⟨fun h0 => ?_, fun h0 => ⟨off_in 24 (by omega) (by omega), ?_, rfl⟩⟩
          · have ha0 : art = 0 := (nI_eq (b := 0) (by omega) (by omega)).mp h0
            rw [if_neg (fun q => q ha0)] at hR1
            refine ⟨fun h1 => ⟨off_in 12 (by omega) (by omega), ?_, rfl⟩, fun h1 => ⟨off_in 36 (by omega) (by omega), ?_, rfl⟩⟩
            · rw [← hR1, if_neg (fun q => h1 (by rw [q]; rfl))]
            · rw [← hR1, if_pos ((nI_eq (b := 1) (by omega) (by omega)).mp h1)]
          · rw [← hR1, if_pos (fun q => h0 (by rw [q]; rfl))]
        refine ⟨fun h => k106 (fun q => nI_nlt (b := 1) q.1 (by omega) h), fun h => ⟨fun h2 => k106 (fun q => nI_nlt q.2 (by omega) h2), fun h2 => ⟨vp_in_nI (by omega) (by omega), fun v16 e16 => ⟨?_, rfl⟩⟩⟩⟩
        rw [e16, ← hR1, if_pos]
        constructor
        · rcases Nat.lt_or_ge art 1 with q | q
          · exact absurd (nI_lt (b := 1) q (by omega)) h
          · exact q
        · rcases Nat.lt_or_ge 3 art with q | q
          · exact absurd (nI_lt (a := 3) q (by omega)) h2
          · exact q
  · have : lq = lp := (nI_eq (by omega) (by omega)).mp he
    rw [← hR0, rateF, if_pos this]
