theorem recs_rt {D : Hd} (hD : D.ok) : ∀ {w : List Nat} {u p : Nat}, chn D u w → ∀ r ∈ recs D u p w, r.fm < D.nf ∧ r.rt ≤ 1000 ∧ r.ar ≤ 5
  | [], _, _, _, r, h => by simp [recs] at h
  | v :: vs, u, p, hc, r, h => by
    obtain ⟨⟨k, hk⟩, hv, hc'⟩ := hc
    have hr := hD.2.2.2.1 u v k hk
    have ek : D.k u v = k := by unfold Hd.k; rw [hk]; rfl
    rw [← ek] at hr
    unfold recs at h
    by_cases e : vs = []
    · rw [if_pos e, List.mem_singleton] at h
      subst h
      exact ⟨hv, hr⟩
    · rw [if_neg e] at h
      rcases List.mem_cons.mp h with rfl | h
      · exact ⟨hv, hr⟩
      · exact recs_rt hD hc' r h
theorem m1 {x : Int32} (h : x < 0) (h2 : ¬ x < -1) : x = -1 := by
  have h3 := Int32.lt_iff_toInt_lt.mp h
  have h4 := Int32.le_iff_toInt_le.mp (Int32.not_lt.mp h2)
  apply Int32.toInt_inj.mp
  rw [show (-1 : Int32).toInt = -1 from by decide] at h4 ⊢
  rw [show (0 : Int32).toInt = 0 from by decide] at h3
  omega
/-- the way in words -/
def spT (S : St) (s u t a : Int32) (w : List Nat) : List Nat := wayT S.nmF (cl u) (recs (S.B.D S.f (-1) (-1) s (cl t)) (cl u) (cl a) w)
def aSpell (S : St) (s u t a x : Int32) : Int32 := if x < -1 then -1 else onW (fndA S.B S.f s u t a) (fun w => if x = -1 then nI (spT S s u t a w).length else if x < nI (spT S s u t a w).length then nI ((spT S s u t a w).getD (cl x) 0) else -1)
/-- what spell leaves alone -/
def spF (A : Nat → Nat) (b b' : Nat) (μ μ' : Hp) : Prop := (b' = b ∨ hS μ b' = none) ∧ (∀ c x, hS μ c = some x → hS μ' c = some x) ∧ ∀ c x, c ∉ cO.map A → c ≠ A 30 → c ≠ b → hS μ c = some x → hI μ' c = hI μ c ∧ hL μ' c = hL μ c ∧ hR μ' c = hR μ c
theorem spF.rf {A : Nat → Nat} {b : Nat} {μ : Hp} : spF A b b μ μ := ⟨Or.inl rfl, fun _ _ h => h, fun _ _ _ _ _ _ => ⟨rfl, rfl, rfl⟩⟩
theorem spF.q {A : Nat → Nat} {b : Nat} {μ μ' : Hp} (h : qFr A μ μ') : spF A b b μ μ' := ⟨Or.inl rfl, fun _ _ hx => by rw [h.1.2.2.1]; exact hx, fun c x hc _ _ _ => ⟨h.1.2.2.2 c (fun hm => hc (by
    obtain ⟨i, hi, rfl⟩ := List.mem_map.mp hm
    exact List.mem_map.mpr ⟨i, (by decide : ∀ i ∈ qI, i ∈ cO) i hi, rfl⟩)), by rw [h.1.1], by rw [h.1.2.1]⟩⟩
theorem cT_all : ∀ i, i < 51 → i ∈ cTab.map Prod.fst := by decide
theorem cT_kd : ∀ q ∈ cTab, q.2.1 ≠ 1 := by decide
theorem cR_src : ∀ q ∈ cRef, q.1 < 51 ∧ q.1 ≠ 30 := by decide
theorem cSh.nb {μ : Hp} {A : Nat → Nat} {b N : Nat} (h : cSh μ A) (hb : hS μ b = some (1, N)) {i : Nat} (hi : i < 51) : A i ≠ b ∧ ∃ x, hS μ (A i) = some x := by
  obtain ⟨q, hq, rfl⟩ := List.mem_map.mp (cT_all i hi)
  have hs := h.1 q hq
  refine ⟨fun e => ?_, _, hs⟩
  rw [e, hb] at hs
  have := cT_kd q hq
  have e2 := Option.some.inj hs
  rw [← e2] at this
  exact this rfl
section sbh
variable {d : Nat} {ro : Nat → Nat} {μ μ' : Hp} {A : Nat → Nat} {S : St} {b b' N : Nat} {l : List Nat}
theorem spF.s {b1 : Nat} {μ1 μ2 : Hp} (h1 : spF A b b μ μ1) (hs : sb μ (A 30) b N l) (h : cR μ A S) (h2 : sF (A 30) b b1 μ1 μ2) : spF A b b1 μ μ2 := by
  obtain ⟨e1, e2, e3⟩ := h1
  obtain ⟨f1, f2, f3⟩ := h2
  refine ⟨?_, fun c x hx => f2 c x (e2 c x hx), fun c x hc h30 hb hx => ?_⟩
  · rcases f1 with f1 | f1
    · exact Or.inl f1
    · right
      cases h9 : hS μ b1 with
      | none => rfl
      | some y => rw [e2 _ _ h9] at f1; cases f1
  · obtain ⟨g1, g2, g3⟩ := e3 c x hc h30 hb hx
    obtain ⟨k1, k2, k3⟩ := f3 c x h30 hb (e2 c x hx)
    exact ⟨k1.trans g1, k2.trans g2, k3.trans g3⟩
theorem sb.qf (hs : sb μ (A 30) b N l) (h : cR μ A S) (hq : qFr A μ μ') : sb μ' (A 30) b N l := by
  have hj := h.1.1.2
  have ea : hI μ' (A 30) = hI μ (A 30) := hq.1.o hj 30
  have eb : hI μ' b = hI μ b := hq.1.2.2.2 b (fun hm => by
    obtain ⟨i, hi, e⟩ := List.mem_map.mp hm
    exact (h.1.1.1.nb hs.2.1.1 ((by decide : ∀ i ∈ qI, i < 51) i hi)).1 e)
  obtain ⟨⟨h1, h2, h3, h4⟩, ⟨g1, g2⟩, g5, g6⟩ := hs
  refine ⟨⟨by rw [hq.1.2.2.1]; exact h1, by rw [hq.1.2.1]; exact h2, by rw [ea]; exact h3, by rw [ea]; exact h4⟩, ⟨by rw [hq.1.2.2.1]; exact g1, g2⟩, ?_, ?_⟩
  · rw [eb]; exact g5
  · rw [eb]; exact g6
/-- the class's state when only the builder changes -/
theorem cR.sf (h : cR μ A S) (hs : sb μ (A 30) b N l) (hF : sF (A 30) b b' μ μ') : cR μ' A S := by
  obtain ⟨⟨⟨h1, h2⟩, q3, q4, q5, q6, q7, q8, q9⟩, r2, r3, r4, r5, r6, r7, r8⟩ := h
  have kp : ∀ i, i < 51 → i ≠ 30 → hI μ' (A i) = hI μ (A i) ∧ hL μ' (A i) = hL μ (A i) ∧ hR μ' (A i) = hR μ (A i) := fun i hi h30 => by
    obtain ⟨hn, x, hx⟩ := h1.nb hs.2.1.1 hi
    exact hF.2.2 _ x (fun e => h30 (h2 i 30 hi (by decide) e)) hn hx
  have kI : ∀ i, i < 51 → i ≠ 30 → hI μ' (A i) = hI μ (A i) := fun i hi h30 => (kp i hi h30).1
  refine ⟨⟨⟨⟨fun q hq => hF.2.1 _ _ (h1.1 q hq), fun q hq => ?_⟩, h2⟩, ?_, ?_, q5, ?_, ?_, q8, ?_⟩, ?_, ⟨?_, r3.2⟩, ?_, ?_, ?_, ?_, ?_⟩
  · obtain ⟨ha, hb⟩ := cR_src q hq
    rw [(kp q.1 ha hb).2.2]
    exact h1.2 q hq
  · rw [kI 39 (by decide) (by decide)]; exact q3
  · rw [kI 42 (by decide) (by decide), kI 43 (by decide) (by decide), kI 44 (by decide) (by decide)]; exact q4
  · rw [kI 34 (by decide) (by decide), kI 33 (by decide) (by decide)]; exact q6
  · rw [kI 14 (by decide) (by decide)]; exact q7
  · rw [kI 36 (by decide) (by decide)]; exact q9
  · unfold cNm; rw [(kp 40 (by decide) (by decide)).2.1, (kp 41 (by decide) (by decide)).2.1]; exact r2
  · unfold cHs; rw [kI 24 (by decide) (by decide), kI 25 (by decide) (by decide)]; exact r3.1
  · unfold cLg; rw [kI 26 (by decide) (by decide), kI 27 (by decide) (by decide)]; exact r4
  · unfold cIm; rw [kI 0 (by decide) (by decide), kI 38 (by decide) (by decide), kI 28 (by decide) (by decide), kI 29 (by decide) (by decide), (kp 37 (by decide) (by decide)).2.2]; exact r5
  · unfold cTp; rw [kI 1 (by decide) (by decide), kI 2 (by decide) (by decide)]; exact r6
  · refine r7.fr (by rw [kI 0 (by decide) (by decide)]) (fun k hk => ?_)
    exact ⟨kI (4 + k) (by omega) (by omega), kI (9 + k) (by omega) (by omega)⟩
  · unfold cRf; rw [kI 31 (by decide) (by decide)]; exact r8
theorem c_spell {s u t a x : Int32} (hd : 12 ≤ d) (h : cR μ A S) (hs : sb μ (A 30) b N l) : xC d yX11_spell cX11_spell 6 (some .int) 448 5600 [.ref (A 0), .int s, .int u, .int t, .int a, .int x] μ ro (fun r μ' => r = some (.int (aSpell S s u t a x)) ∧ cR μ' A S ∧ ∃ b' N' l', sb μ' (A 30) b' N' l' ∧ spF A b b' μ μ') := by
  refine xC_intro (own := RX11) (lv := [(0, .ref (A 0)), (1, .int s), (2, .int u), (3, .int t), (4, .int a), (5, .int x)]) (by decide) rfl (Nat.le_of_ble_eq_true rfl) rfl (fun J g hr => ?_)
  refine r_iload g dX11_spell_0 rfl ?_
  refine r_iconst g (-1) dX11_spell_2 (by decide) ?_
  refine r_icmp_lt g 18 dX11_spell_3 (by decide) (fun c => ?_) (fun c => ?_)
  · refine r_iconst g (-1) dX11_spell_18 (by decide) ?_
    exact hr.2.1 _ rfl _ _ _ _ _ _ dX11_spell_19 rfl (by omega) (by omega) ⟨by unfold aSpell; rw [if_pos c], h, b, N, l, hs, spF.rf⟩
  · refine r_aload_n g dX11_spell_6 rfl ?_
    refine r_iload_n g dX11_spell_7 rfl ?_
    refine r_iload_n g dX11_spell_8 rfl ?_
    refine r_iload_n g dX11_spell_9 rfl ?_
    refine r_iload g dX11_spell_10 rfl ?_
    refine r_callV (d' := d - 1) (st := []) (As := [.int s, .int u, .int t, .int a]) g sX11_260 iX11_isFound eX11_isFound (show vwCl[10]? = some (RX11, TX11, 18) from rfl) (h.1.1.1.s 0 14 18) rfl (Nat.le_of_ble_eq_true rfl) dX11_spell_12 (by omega) (by omega) (by omega) (c_isFound (by omega) h.1) (fun r μ1 hz => ?_)
    obtain ⟨hq, hz⟩ := hz
    have h1 := h.fr hq
    have hs1 := hs.qf h hq
    have hsh1 := h1.1.1.1
    rcases hz with ⟨rfl, hn⟩ | ⟨rfl, ha, w, hw1, hw, hB⟩
    · refine r_if_ne g 20 dX11_spell_15 (by decide) (fun c => absurd rfl c) (fun _ => ?_)
      refine r_iconst g (-1) dX11_spell_18 (by decide) ?_
      exact hr.2.1 _ rfl _ _ _ _ _ _ dX11_spell_19 rfl (by omega) (by omega) ⟨by unfold aSpell; rw [if_neg c, hn]; rfl, h1, b, N, l, hs1, spF.q hq⟩
    · refine r_if_ne g 20 dX11_spell_15 (by decide) (fun _ => ?_) (fun c => absurd c (by decide))
      have hnf8 : S.B.nf ≤ 8 := h.1.2.2.2.1.1.1.2.1
      have hD := Bk.D_ok (f := S.f) (p := -1) (q := -1) (s := s) h.1.2.2.2.1 h.1.2.2.2.2.1.2.1 (ha.ex hnf8).2.2.1.2
      have hch := (wayOf_ok hw).2.2.1
      have hrs := recs_rt hD (p := cl a) hch
      have hT1 : tlR μ1 (A 15) (A 16) (A 39) (A 41) (cl u) S.B.nf (recs (S.B.D S.f (-1) (-1) s (cl t)) (cl u) (cl a) w) S.nmF := ⟨⟨hsh1.s 15 13 5, hsh1.r 15 0 16, hsh1.s 16 0 35, hsh1.s 39 6 9, hsh1.r 39 1 41, hsh1.s 41 2 8⟩, ⟨hB.2.2.1, by rw [recs_len]; exact hB.2.2.2.1, hB.1⟩, h1.2.1.2⟩
      refine r_aload_n g dX11_spell_20 rfl ?_
      refine r_getR g fX11_58 rfl (hsh1.s 0 14 18) (hsh1.r 0 7 30) dX11_spell_21 ?_
      refine r_iconst g 0 dX11_spell_24 (by decide) ?_
      refine r_callV (d' := d - 1) (st := []) (As := [.int 0]) g sX11_273 iJ4_setLength_d00df eJ4_setLength_d00df (show vwCl[0]? = some ("java/lang/StringBuilder", TJ4, 4) from rfl) hs1.1.1 rfl (Nat.le_of_ble_eq_true rfl) dX11_spell_25 (by omega) (by omega) (by omega) (c_set4 (by omega) hs1) (fun r μ2 hz => ?_)
      obtain ⟨rfl, hs2, hF2⟩ := hz
      have h2 := h1.sf hs1 hF2
      have hsh2 := h2.1.1.1
      refine r_aload_n g dX11_spell_28 rfl ?_
      refine r_getR g fX11_25 rfl (hsh2.s 0 14 18) (hsh2.r 0 2 14) dX11_spell_29 ?_
      refine r_getR g fX11_251 rfl (hsh2.s 14 7 9) (hsh2.r 14 0 15) dX11_spell_32 ?_
      refine r_aload_n g dX11_spell_35 rfl ?_
      refine r_getR g fX11_58 rfl (hsh2.s 0 14 18) (hsh2.r 0 7 30) dX11_spell_36 ?_
      refine r_aload_n g dX11_spell_39 rfl ?_
      refine r_getR g fX11_72 rfl (hsh2.s 0 14 18) (hsh2.r 0 13 39) dX11_spell_40 ?_
      refine r_callV (d' := d - 1) (st := []) (As := [.ref (A 30), .ref (A 39)]) g sX11_276 iX9_tell eX9_tell (show vwCl[9]? = some (RX9, TX9, 5) from rfl) (hsh2.s 15 13 5) rfl (Nat.le_of_ble_eq_true rfl) dX11_spell_43 (by omega) (by omega) (by omega) (c_tell (by omega) hs2 (hT1.fr hs1 hF2) (ha.ex hnf8).2.1.2 hnf8 (by rw [recs_len]; exact hB.2.1) hrs) (fun r μ3 hz => ?_)
      obtain ⟨rfl, b3, N3, hN3, hs3, hF3⟩ := hz
      have h3 := h2.sf hs2 hF3
      have hsh3 := h3.1.1.1
      have hE := (spF.q hq).s hs h (hF2.tt hs1.2.1.1 hF3)
      refine r_iload g dX11_spell_46 rfl ?_
      refine r_iconst g (-1) dX11_spell_48 (by decide) ?_
      replace hs3 : sb μ3 (A 30) b3 N3 (spT S s u t a w) := hs3
      generalize hT9 : spT S s u t a w = T at hs3
      by_cases cx : x = -1
      · refine r_icmp_ne g 60 dX11_spell_49 (by decide) (fun q => absurd cx q) (fun _ => ?_)
        refine r_aload_n g dX11_spell_52 rfl ?_
        refine r_getR g fX11_58 rfl (hsh3.s 0 14 18) (hsh3.r 0 7 30) dX11_spell_53 ?_
        refine r_callV (d' := d - 1) (st := []) (As := []) g sX11_280 iJ4_length_8abf5 eJ4_length_8abf5 (show vwCl[0]? = some ("java/lang/StringBuilder", TJ4, 4) from rfl) hs3.1.1 rfl (Nat.le_of_ble_eq_true rfl) dX11_spell_56 (by omega) (by omega) (by omega) (c_len4 (by omega) hs3) (fun r μ4 hz => ?_)
        obtain ⟨rfl, rfl⟩ := hz
        exact hr.2.1 _ rfl _ _ _ _ _ _ dX11_spell_59 rfl (by omega) (by omega) ⟨by unfold aSpell; rw [if_neg c, hw1]; show _ = some (Value.int (if x = -1 then nI (spT S s u t a w).length else if x < nI (spT S s u t a w).length then nI ((spT S s u t a w).getD (cl x) 0) else -1)); rw [hT9, if_pos cx], h3, b3, N3, _, hs3, hE⟩
      · refine r_icmp_ne g 60 dX11_spell_49 (by decide) (fun _ => ?_) (fun q => absurd q cx)
        refine r_iload g dX11_spell_60 rfl ?_
        refine r_aload_n g dX11_spell_62 rfl ?_
        refine r_getR g fX11_58 rfl (hsh3.s 0 14 18) (hsh3.r 0 7 30) dX11_spell_63 ?_
        refine r_callV (d' := d - 1) (st := [.int x]) (As := []) g sX11_280 iJ4_length_8abf5 eJ4_length_8abf5 (show vwCl[0]? = some ("java/lang/StringBuilder", TJ4, 4) from rfl) hs3.1.1 rfl (Nat.le_of_ble_eq_true rfl) dX11_spell_66 (by omega) (by omega) (by omega) (c_len4 (by omega) hs3) (fun r μ4 hz => ?_)
        obtain ⟨rfl, rfl⟩ := hz
        have hTl : T.length < 2 ^ 31 := by have := hs3.2.1; omega
        refine r_icmp_ge g 84 dX11_spell_69 (by decide) (fun c9 => ?_) (fun c9 => ?_)
        · refine r_iconst g (-1) dX11_spell_84 (by decide) ?_
          exact hr.2.1 _ rfl _ _ _ _ _ _ dX11_spell_85 rfl (by omega) (by omega) ⟨by unfold aSpell; rw [if_neg c, hw1]; show _ = some (Value.int (if x = -1 then nI (spT S s u t a w).length else if x < nI (spT S s u t a w).length then nI ((spT S s u t a w).getD (cl x) 0) else -1)); rw [hT9, if_neg cx, if_neg (Int32.not_lt.mpr c9)], h3, b3, N3, _, hs3, hE⟩
        · have hx : inN x T.length := ⟨fun q => cx (m1 q c), c9⟩
          obtain ⟨ex, hxl⟩ := hx.ex hTl
          obtain ⟨z9, hc9⟩ : ∃ z, T[cl x]? = some z := ⟨_, List.getElem?_eq_getElem hxl⟩
          refine r_aload_n g dX11_spell_72 rfl ?_
          refine r_getR g fX11_58 rfl (hsh3.s 0 14 18) (hsh3.r 0 7 30) dX11_spell_73 ?_
          refine r_iload g dX11_spell_76 rfl ?_
          refine r_nmV (.int (nI (cl x))) (by rw [← ex]) ?_
          refine r_callV (d' := d - 1) (st := []) (As := [.int (nI (cl x))]) g sX11_282 iJ4_charAt_5068e eJ4_charAt_5068e (show vwCl[0]? = some ("java/lang/StringBuilder", TJ4, 4) from rfl) hs3.1.1 rfl (Nat.le_of_ble_eq_true rfl) dX11_spell_78 (by omega) (by omega) (by omega) (c_chr4 (by omega) hs3 hc9) (fun r μ5 hz => ?_)
          obtain ⟨rfl, rfl⟩ := hz
          refine r_goto g 85 dX11_spell_81 (by decide) ?_
          exact hr.2.1 _ rfl _ _ _ _ _ _ dX11_spell_85 rfl (by omega) (by omega) ⟨by unfold aSpell; rw [if_neg c, hw1]; show _ = some (Value.int (if x = -1 then nI (spT S s u t a w).length else if x < nI (spT S s u t a w).length then nI ((spT S s u t a w).getD (cl x) 0) else -1)); rw [hT9, if_neg cx, if_pos (Int32.not_le.mp c9), List.getD_eq_getElem?_getD, hc9]; rfl, h3, b3, N3, _, hs3, hE⟩
end sbh
