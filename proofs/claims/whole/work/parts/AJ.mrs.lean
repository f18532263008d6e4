/-! scripts, read by the model; its fault -/
theorem skE_id {t : Nat → Int32} {len a : Nat} (h : a ≤ len) : skE t len (skE t len a) = skE t len a := by
  have h1 := skE_le t h
  unfold skE at h1 ⊢
  generalize he : runE (isB t) (len - a) a = e at h1
  rcases Nat.lt_or_ge e len with q | q
  · have hs := runE_stop (isB t) (len - a) a (by rw [he]; omega)
    rw [he] at hs
    obtain ⟨n, hn⟩ : ∃ n, len - e = n + 1 := ⟨len - e - 1, by omega⟩
    rw [hn, runE_f hs]
  · rw [show len - e = 0 by omega]; rfl
theorem goC_sk {t : Nat → Int32} {len s : Nat} {c : Cu} (hc : cuOk len c) (h : c.1 = none) : goC t len (none, s, skE t len c.2.2) = goC t len c := by
  unfold goC
  rw [if_pos h, if_pos rfl, skE_id hc.2.1]
section mrs
variable {d : Nat} {ro : Nat → Nat} {μ μ' : Hp} {m : Nat} {X : Nat → Nat} {t : Nat → Int32} {len : Nat} {c : Cu} {S : St}
/-- what reading a script may change in the model -/
def sFm (m : Nat) (X : Nat → Nat) (μ μ' : Hp) : Prop := (hR μ' = hR μ ∧ hS μ' = hS μ) ∧ (∀ a, a ≠ m → a ≠ X 28 → a ≠ X 29 → hI μ' a = hI μ a) ∧ (∀ a, a ≠ m → hL μ' a = hL μ a) ∧ (∀ k, k ≠ 3 → k ≠ 4 → k ≠ 5 → hI μ' m k = hI μ m k) ∧ (∀ k, k ≠ 6 → hL μ' m k = hL μ m k) ∧ (∀ j, j < 240 → hI μ' (X 28) j = hI μ (X 28) j) ∧ ∀ j, j < 4 → hI μ' (X 29) j = hI μ (X 29) j
theorem sFm.tt {μ1 : Hp} (h : sFm m X μ μ1) (h' : sFm m X μ1 μ') : sFm m X μ μ' := ⟨⟨h'.1.1.trans h.1.1, h'.1.2.trans h.1.2⟩, fun a h1 h2 h3 => (h'.2.1 a h1 h2 h3).trans (h.2.1 a h1 h2 h3), fun a h1 => (h'.2.2.1 a h1).trans (h.2.2.1 a h1), fun k h1 h2 h3 => (h'.2.2.2.1 k h1 h2 h3).trans (h.2.2.2.1 k h1 h2 h3), fun k hk => (h'.2.2.2.2.1 k hk).trans (h.2.2.2.2.1 k hk), fun j hj => (h'.2.2.2.2.2.1 j hj).trans (h.2.2.2.2.2.1 j hj), fun j hj => (h'.2.2.2.2.2.2 j hj).trans (h.2.2.2.2.2.2 j hj)⟩
theorem wFr.s (h : wFr m μ μ') (hs : mSh μ m X) : sFm m X μ μ' := ⟨h.1, fun a h1 _ _ => (h.2.1 a h1).1, fun a h1 => (h.2.1 a h1).2, h.2.2.1, h.2.2.2, fun j _ => by rw [(h.2.1 _ (hs.ne 28)).1], fun j _ => by rw [(h.2.1 _ (hs.ne 29)).1]⟩
theorem sFm.sh (h : sFm m X μ μ') (hs : mSh μ m X) : mSh μ' m X := hs.of h.1.2 h.1.1
theorem sFm.w28 (hs : mSh μ m X) (hi : mInj X) (k : Nat) (x : Int32) (hk : 240 ≤ k) : sFm m X μ (wI μ (X 28) k x) := ⟨⟨rfl, rfl⟩, fun a _ h2 _ => hI_wI_n _ _ _ h2, fun _ _ => rfl, fun k _ _ _ => by rw [hI_wI_n _ _ _ (Ne.symm (hs.ne 28))], fun _ _ => rfl, fun j hj => by rw [hI_wI_s, upd_n _ (by omega)], fun j _ => by rw [hI_wI_n _ _ _ (hi.ne 29 28)]⟩
theorem sFm.w29 (hs : mSh μ m X) (hi : mInj X) (x : Int32) : sFm m X μ (wI μ (X 29) 4 x) := ⟨⟨rfl, rfl⟩, fun a _ _ h3 => hI_wI_n _ _ _ h3, fun _ _ => rfl, fun k _ _ _ => by rw [hI_wI_n _ _ _ (Ne.symm (hs.ne 29))], fun _ _ => rfl, fun j _ => by rw [hI_wI_n _ _ _ (hi.ne 28 29)], fun j hj => by rw [hI_wI_s, upd_n _ (by omega)]⟩
theorem c_mStep {n : Nat} (hd : 8 ≤ d) (hn : n < 12) (hs : mSh μ m X) (hi : mInj X) (h : mCu μ m X t len c) (hc : c.1 = none) : xC d yX12_readStep cX12_readStep 6 none 0 0 [.ref m, .int (nI n)] μ ro (fun r μ' => r = none ∧ sFm m X μ μ' ∧ mCu μ' m X t len (rStep t len c).2 ∧ ((rStep t len c).2.1 = none → ∀ j, j < 5 → hI μ' (X 28) (240 + n * 5 + j) = (rStep t len c).1 j) ∧ ∀ j, j < 240 + n * 5 → hI μ' (X 28) j = hI μ (X 28) j) := by
  refine I_X12_readStep (fun J g hr => B_X12_readStep_0 g hr hs.1 (k_mw (by omega) hs h (fun μ1 m1 W1 v1 => ⟨rfl, ?_⟩)))
  have s1 := W1.sh hs
  obtain ⟨v5, v6⟩ := v1 hc
  have hst := m1.2.2.1.1
  have o1 : hI μ1 (X 28) = hI μ (X 28) := (W1.2.1 _ (hs.ne 28)).1
  rw [show (5 : Int32) * (48 + nI n) = nI (240 + n * 5) by rw [show (48 : Int32) + nI n = nI (48 + n) from nI_add 48 n, show (5 : Int32) * nI (48 + n) = nI (5 * (48 + n)) from pk_mul 5 _]; congr 1; omega]
  have bad : ∀ (μ2 : Hp) (x : Int32), wFr m μ μ2 → mCu μ2 m X t len (rStep t len c).2 → ¬ (rStep t len c).2.1 = none → J μ2 0 0 54 [(0, .ref m), (2, .int (nI (240 + n * 5))), (3, .int x)] [] := fun μ2 x W2 m2 q => by
    have s2 := W2.sh hs
    exact B_X12_readStep_54 g hr s2.1 (s2.r 28 0 300) (s2.s 28 0 300) ⟨fun z => absurd (m2.f4.mp z) q, fun _ => ⟨rfl, W2.s hs, m2, fun z => absurd z q, fun j _ => by rw [(W2.2.1 _ (hs.ne 28)).1]⟩⟩
  refine ⟨s1.1, fun q => ⟨fun _ => ?_, fun z => absurd z q⟩, fun q => ?_⟩
  · have hno : ¬ (nxW t len c).2.1 = none := fun z => q (m1.f4.mpr z)
    have e : rStep t len c = (fun _ => 0, (nxW t len c).2) := by
      unfold rStep
      rw [nxW_kw hno]
      show (_, flC _ _) = _
      rw [flC_id hno]
    exact bad μ1 _ W1 (by rw [e]; exact m1) (by rw [e]; exact hno)
  · have hn1 := m1.f4.mp q
    rw [v6]
    refine xCall_of (c_known (d := d - 1) (by omega) (nxW_lt t len c)) (by omega) ?_
    rintro r μ1 ⟨rfl, rfl⟩
    refine ⟨_, rfl, s1.1, fun z => absurd q z, fun _ => ?_⟩
    have fl : rStep t len c = (fun _ => 0, flC (nxW t len c).2 (nxW t len c).2.2.1) → ∀ x, xCall d yX12_fails cX12_fails 2 none [.ref m, .int (hI μ1 m 5)] μ1 ro (fun r12 μ13 => r12 = none ∧ J μ13 0 0 54 [(0, .ref m), (2, .int (nI (240 + n * 5))), (3, .int x)] []) := fun e x => by
      rw [v5]
      exact k_mf (by omega) s1 m1 hst (fun μ2 m2 W2 _ _ => ⟨rfl, bad μ2 x (W1.tt W2) (by rw [e]; exact m2) (by rw [e]; exact flC_n)⟩)
    cases hk : nbr kwds (nxW t len c).1 with
    | none => exact ⟨fun z => absurd z (by decide), fun _ => fl (by unfold rStep; rw [hk]) _⟩
    | some k =>
      have hk12 : k < 12 := (nbr_lt hk).1
      rcases Nat.lt_or_ge k 7 with h7 | h7
      · have hneg : ¬ (0 : Int32) ≤ oI (some k) - 7 := fun z => by
          have := pk_sneg (a := k) (b := 7) (by omega) h7
          exact Int32.not_lt.mpr z this
        exact ⟨fun z => absurd z hneg, fun _ => fl (by
          unfold rStep
          rw [hk]
          show (if 7 ≤ k then _ else _) = _
          rw [if_neg (by omega)]) _⟩
      · have e7 : oI (some k) - 7 = nI (k - 7) := pk_sub (b := 7) h7
        rw [e7]
        have eS : rStep t len c = (stE k (rNum t len (fun _ => 9999) (stN k) (nxW t len c).2).1, (rNum t len (fun _ => 9999) (stN k) (nxW t len c).2).2) := by
          unfold rStep
          rw [hk]
          show (if 7 ≤ k then _ else _) = _
          rw [if_pos h7]
        have h4 := stN_le k
        refine ⟨fun _ => ?_, fun z => absurd (nI_pos' (by omega)) z⟩
        rw [eS] at hr
        generalize (nxW t len c).2 = c1 at m1 hn1 hr
        have key := loopUp (Q := fun v => ∀ μ' : Hp, sFm m X μ μ' → mCu μ' m X t len (rNum t len (fun _ => 9999) (min v (stN k)) c1).2 → hI μ' (X 28) (240 + n * 5) = nI (k - 7) → (∀ j, j < v → hI μ' (X 28) (240 + n * 5 + (j + 1)) = stE k (rNum t len (fun _ => 9999) (stN k) c1).1 (j + 1)) → (∀ j, j < 240 + n * 5 → hI μ' (X 28) j = hI μ (X 28) j) → J μ' 0 0 102 [(0, .ref m), (2, .int (nI (240 + n * 5))), (4, .int (nI (stN k))), (5, .int (nI v))] []) 4 ?_ (fun v hv ih => ?_) 0 (by omega)
        · have go : J (wI μ1 (X 28) (240 + n * 5) (nI (k - 7))) 0 0 102 [(0, .ref m), (2, .int (nI (240 + n * 5))), (4, .int (nI (stN k))), (5, .int (nI 0))] [] := by
            refine key _ ((W1.s hs).tt (sFm.w28 s1 hi _ _ (by omega))) ?_ (by rw [hI_wI_s, upd_s]) (fun j hj => by omega) (fun j hj => by rw [hI_wI_s, upd_n _ (by omega), o1])
            rw [show min 0 (stN k) = 0 by omega]
            exact m1.x s1 hi 28 _ _
          refine B_X12_readStep_54 g hr s1.1 (s1.r 28 0 300) (s1.s 28 0 300) ⟨fun _ => ⟨vp_in_nI (by omega) (by omega), ?_⟩, fun z => absurd q z⟩
          rw [nI_clamp (by omega)]
          have : k = 7 ∨ k = 8 ∨ k = 9 ∨ k = 10 ∨ k = 11 := by omega
          rcases this with rfl | rfl | rfl | rfl | rfl
          · exact ⟨fun z => absurd rfl z, fun _ => go⟩
          · exact ⟨fun _ => ⟨fun z => absurd rfl z, fun _ => go⟩, fun z => absurd z (by decide)⟩
          · exact ⟨fun _ => ⟨fun _ => ⟨fun _ => go, fun z => absurd z (by decide)⟩, fun z => absurd z (by decide)⟩, fun z => absurd z (by decide)⟩
          · exact ⟨fun _ => ⟨fun _ => ⟨fun z => absurd rfl z, fun _ => go⟩, fun z => absurd z (by decide)⟩, fun z => absurd z (by decide)⟩
          · exact ⟨fun _ => ⟨fun _ => ⟨fun _ => go, fun z => absurd z (by decide)⟩, fun z => absurd z (by decide)⟩, fun z => absurd z (by decide)⟩
        · intro μ' F' m' e0 v' o'
          have s' := F'.sh hs
          rw [show min 4 (stN k) = stN k by omega] at m'
          refine B_X12_readStep_102 g hr s'.1 (s'.r 28 0 300) (s'.s 28 0 300) (pk_le 4 4 (fun _ => ⟨rfl, F', m', fun _ j hj5 => ?_, o'⟩) (fun z => by omega))
          rcases Nat.eq_zero_or_pos j with e | e
          · subst e; exact e0
          · have := v' (j - 1) (by omega)
            rw [show j - 1 + 1 = j by omega] at this
            exact this
        · intro μ' F' m' e0 v' o'
          have s' := F'.sh hs
          refine B_X12_readStep_102 g hr s'.1 (s'.r 28 0 300) (s'.s 28 0 300) (pk_le 4 v (fun z => by omega) (fun _ => ?_))
          rw [nI_1 (240 + n * 5), nI_1 v, nI_add, nI_clamp (by omega)]
          rw [show 240 + n * 5 + 1 + v = 240 + n * 5 + (v + 1) by omega]
          refine pk_le (stN k) v (fun z => ⟨vp_in_nI (by omega) (by omega), ih _ (F'.tt (sFm.w28 s' hi _ _ (by omega))) ?_ ?_ (fun j hjv => ?_) (fun j hj1 => ?_)⟩) (fun z => ?_)
          · rw [show min (v + 1) (stN k) = min v (stN k) by omega]; exact m'.x s' hi 28 _ _
          · rw [hI_wI_s, upd_n _ (by omega)]; exact e0
          · rw [hI_wI_s]
            by_cases e : j = v
            · subst e
              rw [upd_s]
              unfold stE
              rw [if_neg (by omega), if_neg (by omega)]
            · rw [upd_n _ (by omega)]; exact v' j (by omega)
          · rw [hI_wI_s, upd_n _ (by omega)]; exact o' j hj1
          · rw [show min v (stN k) = v by omega] at m'
            refine k_mn (lo := 0) (hi := 9999) (by omega) s' m' (by omega) (by omega) (fun μ2 m2 W2 _ => ⟨_, rfl, 300, (W2.sh s').s 28 0 300, vp_in_nI (by omega) (by omega), ?_⟩)
            have s2 := W2.sh s'
            have o2 : hI μ2 (X 28) = hI μ' (X 28) := (W2.2.1 _ (s'.ne 28)).1
            refine ih _ (F'.tt ((W2.s s').tt (sFm.w28 s2 hi _ _ (by omega)))) ?_ ?_ (fun j hjv => ?_) (fun j hj1 => ?_)
            · rw [show min (v + 1) (stN k) = v + 1 by omega]; exact m2.x s2 hi 28 _ _
            · rw [hI_wI_s, upd_n _ (by omega), o2]; exact e0
            · rw [hI_wI_s]
              by_cases e : j = v
              · subst e
                rw [upd_s]
                unfold stE
                rw [if_neg (by omega), if_pos (by omega), rNum_j (stN k) (by omega)]
                rfl
              · rw [upd_n _ (by omega), o2]; exact v' j (by omega)
            · rw [hI_wI_s, upd_n _ (by omega), o2]; exact o' j hj1
def scM (f : Nat → Int32) (ss : List (Nat → Int32)) : Prop := ∀ i x, ss[i]? = some x → ∀ j, j < 5 → f (240 + i * 5 + j) = x j
def scZm (m : Nat) (X : Nat → Nat) (t : Nat → Int32) (len : Nat) (μ : Hp) : Hp → Prop := fun μ' => sFm m X μ μ' ∧ hI μ' m 4 = oI (rScript t len).2.1 ∧ ((rScript t len).2.1 = none → hI μ' (X 29) 4 = nI (rScript t len).1.length ∧ (rScript t len).1.length ≤ 12 ∧ scM (hI μ' (X 28)) (rScript t len).1)
theorem c_mScript (hd : 10 ≤ d) (hs : mSh μ m X) (hi : mInj X) (h : mCu μ m X t len (none, 0, 0)) (hb : ∀ i, i < len → ∃ n, 1 ≤ n ∧ n ≤ 255 ∧ t i = nI n) : xC d yX12_readScript cX12_readScript 3 none 0 0 [.ref m] μ ro (fun r μ' => r = none ∧ scZm m X t len μ μ') := by
  refine I_X12_readScript (fun J g hr => B_X12_readScript_0 g hr ?_)
  have key : ∀ n i ss c μ', i + n = 12 → 0 < n → ss.length = i → c.1 = none → sFm m X μ μ' → mCu μ' m X t len c → scM (hI μ' (X 28)) ss → rScr t len n ss c = rScript t len → J μ' 0 0 4 [(0, .ref m), (1, .int (nI i)), (2, .int 1)] [] := by
    intro n
    induction n with
    | zero => intro i ss c μ' hi1 h0; omega
    | succ n ih =>
      intro i ss c μ' hi1 _ hl hc F' m' v' he
      have s' := F'.sh hs
      refine B_X12_readScript_4 g hr s'.1 (s'.r 29 0 5) (s'.s 29 0 5) ⟨fun q => absurd q (by decide), fun _ => xCall_of (c_mStep (d := d - 1) (by omega) (by omega) s' hi m' hc) (by omega) ?_⟩
      rintro r μ2 ⟨rfl, F2, m2, v2, o2⟩
      have F2' := F'.tt F2
      have s2 := F2'.sh hs
      rw [rScr_s t len n ss c] at he
      refine ⟨rfl, s2.1, fun q => ?_, fun q => ⟨rfl, F2', ?_, fun e => ?_⟩⟩
      · have hn := m2.f4.mp q
        have sc2 : scM (hI μ2 (X 28)) (ss ++ [(rStep t len c).1]) := fun k x hx j hj => by
          rcases get_snoc hx with ⟨q1, q2⟩ | ⟨rfl, rfl⟩
          · rw [o2 _ (by omega)]; exact v' k x q1 j hj
          · rw [hl]; exact v2 hn j hj
        have hsl := skE_le t m2.2.2.1.2.1
        have eG := goC_sk (t := t) (s := (rStep t len c).2.2.1) m2.2.2.1 hn
        refine xCall_of (c_look (d := d - 1) (by omega) s2 m2) (by omega) ?_
        rintro r μ3 ⟨rfl, rfl⟩
        have W3 : wFr m μ2 (wI μ2 m 3 (nI (skE t len (rStep t len c).2.2.2))) := wFr.w 3 _ (by omega)
        have s3 := W3.sh s2
        have m3 : mCu (wI μ2 m 3 (nI (skE t len (rStep t len c).2.2.2))) m X t len (none, (rStep t len c).2.2.1, skE t len (rStep t len c).2.2.2) := ⟨⟨by rw [hI_wI_s, upd_n _ (by decide)]; exact m2.1.1, by rw [hI_wI_s, upd_n _ (by decide)]; exact m2.f4.mpr hn, by rw [hI_wI_s, upd_s]⟩, m2.2.1, ⟨m2.2.2.1.1, hsl, fun p hp => by cases hp⟩, by rw [hI_wI_n _ _ _ (s2.ne 1)]; exact m2.2.2.2⟩
        have o3 : ∀ k, k ∈ mK → hI (wI μ2 m 3 (nI (skE t len (rStep t len c).2.2.2))) (X k) = hI μ2 (X k) := fun k hk => hI_wI_n _ _ _ (s2.ne k hk)
        have at3 : hI (wI μ2 m 3 (nI (skE t len (rStep t len c).2.2.2))) m 3 = nI (skE t len (rStep t len c).2.2.2) := by rw [hI_wI_s, upd_s]
        have F3 := F2'.tt (W3.s s2)
        have hgt : (goC t len (rStep t len c).2).1 = true ↔ (if skE t len (rStep t len c).2.2.2 < len then t (skE t len (rStep t len c).2.2.2) else -1) = 59 := by
          unfold goC
          rw [if_pos hn]
          by_cases e2 : skE t len (rStep t len c).2.2.2 < len
          · rw [if_pos e2, if_pos e2]
            by_cases e3 : t (skE t len (rStep t len c).2.2.2) = 59
            · rw [if_pos e3]; exact ⟨fun _ => e3, fun _ => rfl⟩
            · rw [if_neg e3]; exact ⟨fun z => (by cases z), fun z => absurd z e3⟩
          · rw [if_neg e2, if_neg e2]; exact ⟨fun z => (by cases z), fun z => absurd z (by decide)⟩
        have hgs : (goC t len (rStep t len c).2).1 = true → (goC t len (rStep t len c).2).2 = (none, skE t len (rStep t len c).2.2.2, skE t len (rStep t len c).2.2.2 + 1) := by
          unfold goC
          rw [if_pos hn]
          by_cases e2 : skE t len (rStep t len c).2.2.2 < len
          · rw [if_pos e2]
            by_cases e3 : t (skE t len (rStep t len c).2.2.2) = 59
            · rw [if_pos e3]; exact fun _ => rfl
            · rw [if_neg e3]; intro z; cases z
          · rw [if_neg e2]; intro z; cases z
        generalize wI μ2 m 3 (nI (skE t len (rStep t len c).2.2.2)) = μ3 at W3 s3 m3 o3 at3 F3 ⊢
        rw [nI_1]
        -- a text that ends or can't go on
        have stop : ¬ (goC t len (rStep t len c).2).1 = true → xCall d yX12_goesOn cX12_goesOn 2 (some .boolean) [.ref m] μ3 ro (fun r10 μ11 => ∃ y12 : Int32, r10 = some (.int y12) ∧ J μ11 0 0 4 [(0, .ref m), (1, .int (nI (i + 1))), (2, .int y12)] []) := fun z => by
          rw [if_neg z] at he
          refine k_mg (by omega) s3 m3 hb (fun μ4 m4 W4 => ⟨_, rfl, ?_⟩)
          rw [eG] at m4 ⊢
          rw [if_neg z]
          have s4 := W4.sh s3
          have F4 := F3.tt (W4.s s3)
          refine B_X12_readScript_4 g hr s4.1 (s4.r 29 0 5) (s4.s 29 0 5) ⟨fun _ => ⟨lit_in 4 (by omega) (by omega), rfl, F4.tt (sFm.w29 s4 hi _), ?_, fun e => ⟨?_, ?_, ?_⟩⟩, fun q => absurd rfl q⟩
          · rw [hI_wI_n _ _ _ (Ne.symm (s4.ne 29)), ← he]; exact m4.1.2.1
          · rw [hI_wI_s, upd_s, ← he, List.length_append, List.length_singleton, hl]
          · rw [← he, List.length_append, List.length_singleton, hl]; omega
          · rw [hI_wI_n _ _ _ (hi.ne 28 29), ← he, (W4.2.1 _ (s3.ne 28)).1, o3 28 (by decide)]; exact sc2
        refine ⟨_, rfl, fun z => ⟨s3.1, stop (fun y => z (hgt.mp y))⟩, fun z => pk_ne (i + 1) 12 (fun y => ⟨s3.1, ?_⟩) (fun y => ⟨s3.1, ?_⟩)⟩
        · have z' := hgt.mpr z
          rw [if_pos z'] at he
          refine k_mg (by omega) s3 m3 hb (fun μ4 m4 W4 => ⟨_, rfl, ?_⟩)
          rw [eG] at m4 ⊢
          rw [if_pos z']
          refine ih (i + 1) _ _ μ4 (by omega) (by omega) (by rw [List.length_append, List.length_singleton, hl]) (goC_t z').1 (F3.tt (W4.s s3)) m4 ?_ he
          rw [(W4.2.1 _ (s3.ne 28)).1, o3 28 (by decide)]; exact sc2
        · have z' := hgt.mpr z
          have n0 : n = 0 := by omega
          subst n0
          rw [if_pos z', hgs z'] at he
          have he' : rScript t len = (ss ++ [(rStep t len c).1], flC (none, skE t len (rStep t len c).2.2.2, skE t len (rStep t len c).2.2.2 + 1) (skE t len (rStep t len c).2.2.2)) := he.symm
          rw [at3]
          refine k_mf (by omega) s3 m3 hsl (fun μ4 m4 W4 _ _ => ⟨rfl, rfl, F3.tt (W4.s s3), ?_, fun e => ?_⟩)
          · rw [he', m4.1.2.1]; rfl
          · rw [he'] at e; exact absurd e flC_n
      · have hn : ¬ (rStep t len c).2.1 = none := fun z => q (m2.f4.mpr z)
        have eg : goC t len (rStep t len c).2 = (false, (rStep t len c).2) := by unfold goC; rw [if_neg hn]
        rw [eg, if_neg (show ¬ false = true by decide)] at he
        rw [← he]; exact m2.1.2.1
      · have hn : ¬ (rStep t len c).2.1 = none := fun z => q (m2.f4.mpr z)
        have eg : goC t len (rStep t len c).2 = (false, (rStep t len c).2) := by unfold goC; rw [if_neg hn]
        rw [eg, if_neg (show ¬ false = true by decide)] at he
        rw [← he] at e; exact absurd e hn
  exact key 12 0 [] (none, 0, 0) μ (by omega) (by omega) rfl rfl ((wFr.rf).s hs) h (fun i x hx => by simp at hx) rfl
end mrs
