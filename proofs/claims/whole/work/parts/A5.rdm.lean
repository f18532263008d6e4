/-! the lines of a book, read by the class: links, treaties -/
theorem nI_oI {x : Nat} {a : Option Nat} (hx : x < 2 ^ 31) (ha : ∀ k, a = some k → k < 2 ^ 31) : nI x = oI a ↔ some x = a := by
  cases a with
  | none => exact ⟨fun e => absurd e (oI_ne (k := x) (by omega)), fun e => by cases e⟩
  | some k =>
    have := ha k rfl
    show nI x = nI k ↔ _
    rw [nI_eq hx this, Option.some.injEq]
theorem hasK_iff {f : Nat → Int32} {P : Pb} {s : Nat} {a b : Option Nat} (h : cPK f P.lk) (hp : pOk P) (hs : s < 2) (ha : ∀ k, a = some k → k < 100) (hb : ∀ k, b = some k → k < 100) : oI (fstP (lkP f (nI s) (oI a) (oI b)) 0 P.lk.length) = -1 ↔ hasK P s a b = false := by
  have h16 := hp.1.2.2.1
  have h8 := hp.1.2.1
  have key : ∀ i x, P.lk[i]? = some x → (lkP f (nI s) (oI a) (oI b) i = true ↔ (x.1 = s ∧ some x.2.1 = a ∧ some x.2.2.1 = b)) := fun i x hx => by
    obtain ⟨e1, e2, e3, -⟩ := h.2 i x hx
    have hx' := hp.2.2.2.1 x (List.mem_of_getElem? hx)
    unfold lkP
    rw [e1, e2, e3, decide_eq_true_eq, nI_eq (by omega) (by omega), nI_oI (by omega) (fun k hk => by have := ha k hk; omega), nI_oI (by omega) (fun k hk => by have := hb k hk; omega)]
  cases e : fstP (lkP f (nI s) (oI a) (oI b)) 0 P.lk.length with
  | none =>
    refine ⟨fun _ => ?_, fun _ => rfl⟩
    unfold hasK
    rw [List.any_eq_false]
    intro x hx
    obtain ⟨i, hi, e2⟩ := List.getElem_of_mem hx
    have hx2 : P.lk[i]? = some x := by rw [List.getElem?_eq_getElem hi, e2]
    have := fstP_none e i (by omega) (by omega)
    rw [key i x hx2] at this
    simpa using this
  | some k =>
    have hk := fstP_spec e
    refine ⟨fun q => absurd q (oI_ne (by omega)), fun q => ?_⟩
    have hl : k < P.lk.length := by omega
    have hx2 : P.lk[k]? = some P.lk[k] := List.getElem?_eq_getElem hl
    have := (key k _ hx2).mp hk.2.1
    have : hasK P s a b = true := List.any_eq_true.mpr ⟨_, List.mem_of_getElem? hx2, by simpa using this⟩
    rw [q] at this; cases this
theorem addF_lo {f : Nat → Int32} {n j : Nat} {s a b sh si : Int32} (h : j ≠ 1) (hj : j < 32) : addF f n s a b sh si j = f j := by
  unfold addF
  rw [upd_n _ h, upd_n _ (by omega), upd_n _ (by omega), upd_n _ (by omega), upd_n _ (by omega), upd_n _ (by omega)]
theorem addF_hi {f : Nat → Int32} {n j : Nat} {s a b sh si : Int32} (hn : n < 16) (hj : 112 ≤ j) : addF f n s a b sh si j = f j := by
  unfold addF
  rw [upd_n _ (by omega), upd_n _ (by omega), upd_n _ (by omega), upd_n _ (by omega), upd_n _ (by omega), upd_n _ (by omega)]
theorem addF_old {f : Nat → Int32} {n i k : Nat} {s a b sh si : Int32} (hn : n < 16) (hi : i < n) (hk : k < 5) : addF f n s a b sh si (32 + 16 * k + i) = f (32 + 16 * k + i) := by
  unfold addF
  rw [upd_n _ (by omega), upd_n _ (by omega), upd_n _ (by omega), upd_n _ (by omega), upd_n _ (by omega), upd_n _ (by omega)]
theorem cPK.add {f : Nat → Int32} {lk : List (Nat × Nat × Nat × Nat × Nat)} {s a b sh si : Nat} (h : cPK f lk) (hn : lk.length < 16) : cPK (addF f lk.length (nI s) (nI a) (nI b) (nI sh) (nI si)) (lk ++ [(s, a, b, sh, si)]) := by
  refine ⟨?_, fun i x hx => ?_⟩
  · unfold addF
    rw [upd_s, List.length_append, List.length_singleton]
  · rcases get_snoc hx with ⟨x1, x2⟩ | ⟨rfl, rfl⟩
    · have := h.2 i x x1
      have o : ∀ k, k < 5 → addF f lk.length (nI s) (nI a) (nI b) (nI sh) (nI si) (32 + 16 * k + i) = f (32 + 16 * k + i) := fun k hk => addF_old hn x2 hk
      exact ⟨(o 0 (by omega)).trans this.1, (o 1 (by omega)).trans this.2.1, (o 2 (by omega)).trans this.2.2.1, (o 3 (by omega)).trans this.2.2.2.1, (o 4 (by omega)).trans this.2.2.2.2⟩
    · unfold addF
      refine ⟨?_, ?_, ?_, ?_, ?_⟩
      · rw [upd_n _ (by omega), upd_n _ (by omega), upd_n _ (by omega), upd_n _ (by omega), upd_n _ (by omega), upd_s]
      · rw [upd_n _ (by omega), upd_n _ (by omega), upd_n _ (by omega), upd_n _ (by omega), upd_s]
      · rw [upd_n _ (by omega), upd_n _ (by omega), upd_n _ (by omega), upd_s]
      · rw [upd_n _ (by omega), upd_n _ (by omega), upd_s]
      · rw [upd_n _ (by omega), upd_s]
section rdm
variable {d : Nat} {ro : Nat → Nat} {μ : Hp} {A : Nat → Nat} {t : Nat → Int32} {len : Nat} {c : Cu} {P : Pb}
theorem dFr.row (hj : cInj A) (g : Nat → Int32) (hg : ∀ j, 112 ≤ j → g j = hI μ (A 36) j) : dFr A μ (wRow μ (A 36) g) := ⟨⟨rfl, rfl⟩, fun a ha => hI_wRow_n _ _ (fun e => ha (List.mem_map.mpr ⟨36, by decide, e.symm⟩)), fun _ _ => rfl, fun j hj1 => by rw [hI_wRow_s]; exact hg j hj1⟩
theorem cPB.addK {x : Nat × Nat × Nat × Nat × Nat} (h : cPB μ A P) (hj : cInj A) (hn : P.lk.length < 16) (h8 : P.fm.length ≤ 8) : cPB (wRow μ (A 36) (addF (hI μ (A 36)) P.lk.length (nI x.1) (nI x.2.1) (nI x.2.2.1) (nI x.2.2.2.1) (nI x.2.2.2.2))) A (P.addK x) := by
  obtain ⟨a1, a2, a3, a4, a5, a6, a7⟩ := h
  refine ⟨?_, fun i x hx => ?_, fun i x hx => ?_, ?_, ?_, ?_, fun j j1 j2 => ?_⟩
  · rw [hI_wRow_n _ _ (hj.ne 45 36)]; exact a1
  · rw [hI_wRow_n _ _ (hj.ne 48 36)]; exact a2 i x hx
  · rw [hI_wRow_n _ _ (hj.ne 49 36), hI_wRow_s, addF_lo (by omega) (by
      have : i < P.fm.length := (List.getElem?_eq_some_iff.mp hx).1
      omega)]
    exact a3 i x hx
  · rw [hI_wRow_s]; exact a4.add hn
  · rw [hI_wRow_n _ _ (hj.ne 50 36)]; exact a5
  · rw [hI_wRow_s, addF_lo (by omega) (by omega)]; exact a6
  · rw [hI_wRow_s, addF_lo (by omega) (by omega)]; exact a7 j j1 j2
theorem c_rLink {s : Nat} (hd : 5 ≤ d) (hs2 : s < 2) (hs : cSh μ A) (hj : cInj A) (h : rdR μ A t len c) (hP : cPB μ A P) (hp : pOk P) : xC d yX2_readLink cX2_readLink 8 none 0 0 [.ref (A 45), .ref (A 1), .ref (A 35), .int (nI s)] μ ro (lnZ A t len μ (rLink t len P s c)) := by
  have h8 := hp.1.2.1
  have h16 := hp.1.2.2.1
  refine I_X2_readLink (fun J g hr => B_X2_readLink_0 g hr (hs.s 35 12 4) (hs.r 35 0 36) (hs.s 36 0 112) (hs.s 45 6 9) (hs.r 45 1 47) (hs.s 1 10 5) ⟨lit_in 1 (by omega) (by omega), ?_⟩)
  unfold rLink at hr ⊢
  rw [hP.2.2.2.1.1]
  refine pk_lt P.lk.length 16 (fun hl => ?_) (fun hl => k_flS (by omega) hs hj h (fun μ1 r1 F1 => ?_))
  rotate_left
  · rw [if_pos hl]
    exact ⟨rfl, rfl, Fr1_d F1 hj, r1, fun e => absurd e flC_n⟩
  rw [if_neg (by omega)] at hr
  have hlt : ∀ un c k, (tdN t len P.fnm un c).1 = some k → k < 100 := fun un c k hk => by have := (nbr_lt hk).1; rw [fnm_len] at this; omega
  refine k_td (un := none) (ns := P.fnm) (by omega) hs hj h (hs.s 47 2 8) (by rw [fnm_len]; exact h8) (by omega) (by rw [fnm_len]; exact hP.1.2.1) (hP.names hp).2 (fun k hk => by cases hk) (fun μ1 r1 F1 => ⟨_, rfl, ?_⟩)
  have s1 := hs.fr F1
  have P1 := hP.fr hj F1
  refine ⟨s1.s 45 6 9, _, s1.r 45 1 47, ?_⟩
  refine k_td (un := (tdN t len P.fnm none c).1) (ns := P.fnm) (by omega) s1 hj r1 (s1.s 47 2 8) (by rw [fnm_len]; exact h8) (by omega) (by rw [fnm_len]; exact P1.1.2.1) (P1.names hp).2 (hlt _ _) (fun μ2 r2 F2 => ⟨_, rfl, ?_⟩)
  have s2 := s1.fr F2
  have P2 := P1.fr hj F2
  have D2 := (Fr1_d F1 hj).tt (Fr1_d F2 hj)
  refine ⟨s2.s 35 12 4, xCall_of (c_linkOf (d := d - 1) s2.sc P2.2.2.2.1.1 h16) (by omega) ?_⟩
  rintro r μ3 ⟨rfl, rfl⟩
  refine ⟨_, rfl, ?_⟩
  have hk := hasK_iff P2.2.2.2.1 hp hs2 (hlt none c) (hlt (tdN t len P.fnm none c).1 (tdN t len P.fnm none c).2)
  rw [hk]
  have go : ∀ μ', dFr A μ μ' → rdR μ' A t len (rLk3 t len P s c) → cPB μ' A P → J μ' 0 0 72 [(1, .ref (A 1)), (2, .ref (A 35)), (3, .int (nI s)), (4, .int (oI (tdN t len P.fnm none c).1)), (5, .int (oI (tdN t len P.fnm (tdN t len P.fnm none c).1 (tdN t len P.fnm none c).2).1))] [] := by
    intro μ' D' r' P'
    have s' := D'.sh hs
    have fin : ∀ μ5 sh c5, rLk4 t len P s c = (sh, c5) → dFr A μ μ5 → rdR μ5 A t len (nxN t len 0 99 c5).2 → cPB μ5 A P → hS μ5 (A 1) = some (10, 5) ∧ ((¬ hI μ5 (A 1) 1 = -1 → lnZ A t len μ (P.addK (s, (rLk2 t len P c).1.getD 0, (rLk2 t len P c).2.1.getD 0, (rLk4 t len P s c).1, (nxN t len 0 99 (rLk4 t len P s c).2).1), (nxN t len 0 99 (rLk4 t len P s c).2).2) none μ5) ∧ (hI μ5 (A 1) 1 = -1 → hS μ5 (A 35) = some (12, 4) ∧ xCall d yX8_addLink cX8_addLink 7 none [.ref (A 35), .int (nI s), .int (oI (tdN t len P.fnm none c).1), .int (oI (tdN t len P.fnm (tdN t len P.fnm none c).1 (tdN t len P.fnm none c).2).1), .int (nI sh), .int (nI (nxN t len 0 99 c5).1)] μ5 ro (fun r6 μ7 => r6 = none ∧ lnZ A t len μ (P.addK (s, (rLk2 t len P c).1.getD 0, (rLk2 t len P c).2.1.getD 0, (rLk4 t len P s c).1, (nxN t len 0 99 (rLk4 t len P s c).2).1), (nxN t len 0 99 (rLk4 t len P s c).2).2) none μ7))) := by
      intro μ5 sh c5 e4 D5 r5 P5
      have s5 := D5.sh hs
      have e42 : (rLk4 t len P s c).2 = c5 := by rw [e4]
      have e41 : (rLk4 t len P s c).1 = sh := by rw [e4]
      rw [e42, e41, r5.f1]
      refine ⟨s5.s 1 10 5, fun q => ⟨rfl, D5, r5, fun e => absurd e q⟩, fun q => ⟨s5.s 35 12 4, ?_⟩⟩
      have h3 : (rLk3 t len P s c).1 = none := rLk4_n (by rw [e42]; exact nxN_n q)
      obtain ⟨-, a, b, ea, eb, -⟩ := rLk_n h3
      have ea' : (tdN t len P.fnm none c).1 = some a := ea
      have eb' : (tdN t len P.fnm (tdN t len P.fnm none c).1 (tdN t len P.fnm none c).2).1 = some b := eb
      rw [eb', ea', ea, eb]
      refine xCall_of (c_addLink (d := d - 1) s5.sc P5.2.2.2.1.1 hl) (by omega) ?_
      rintro r μ7 ⟨rfl, rfl⟩
      refine ⟨rfl, rfl, D5.tt (dFr.row hj _ (fun j hj1 => addF_hi hl hj1)), r5.fr (hI_wRow_n _ _ (hj.ne 1 36)) (hI_wRow_n _ _ (hj.ne 2 36)), fun _ => ?_⟩
      exact P5.addK (x := (s, a, b, sh, (nxN t len 0 99 c5).1)) hj hl h8
    refine B_X2_readLink_72 g hr (s'.s 1 10 5) ⟨fun q => ?_, fun q => ?_⟩
    · have hs0 : s ≠ 0 := fun e => q (by rw [e]; rfl)
      have e4 : rLk4 t len P s c = (0, rLk3 t len P s c) := by unfold rLk4; rw [if_neg hs0]
      refine k_nn (lo := 0) (hi := 99) (by omega) s' hj r' (by omega) (by omega) (fun μ2 r2 F2 => ⟨_, rfl, ?_⟩)
      exact fin μ2 0 _ e4 (D'.tt (Fr1_d F2 hj)) r2 (P'.fr hj F2)
    · have hs0 : s = 0 := (nI_eq (b := 0) (by omega) (by omega)).mp q
      have e4 : rLk4 t len P s c = nxN t len 1 100 (rLk3 t len P s c) := by unfold rLk4; rw [if_pos hs0]
      refine k_nn (lo := 1) (hi := 100) (by omega) s' hj r' (by omega) (by omega) (fun μ2 r2 F2 => ⟨_, rfl, (s'.fr F2).s 1 10 5, ?_⟩)
      refine k_nn (lo := 0) (hi := 99) (by omega) (s'.fr F2) hj r2 (by omega) (by omega) (fun μ3 r3 F3 => ⟨_, rfl, ?_⟩)
      exact fin μ3 _ _ e4 ((D'.tt (Fr1_d F2 hj)).tt (Fr1_d F3 hj)) r3 ((P'.fr hj F2).fr hj F3)
  have e3 : ∀ b : Bool, hasK P s (rLk2 t len P c).1 (rLk2 t len P c).2.1 = b → rLk3 t len P s c = if b = true then flC (rLk2 t len P c).2.2 (rLk2 t len P c).2.2.2.1 else (rLk2 t len P c).2.2 := fun b hb => by unfold rLk3; rw [hb]
  refine ⟨fun q => go _ D2 ?_ P2, fun q => ⟨s2.s 1 10 5, k_flS (by omega) s2 hj r2 (fun μ3 r3 F3 => ⟨rfl, go _ (D2.tt (Fr1_d F3 hj)) ?_ (P2.fr hj F3)⟩)⟩⟩
  · rw [e3 false q, if_neg (by decide)]; exact r2
  · have q' : hasK P s (rLk2 t len P c).1 (rLk2 t len P c).2.1 = true := by
      cases e : hasK P s (rLk2 t len P c).1 (rLk2 t len P c).2.1 with
      | true => rfl
      | false => exact absurd e q
    rw [e3 true q', if_pos rfl]; exact r3
end rdm
