/-! firm and name of the model -/
theorem shr_l {n : Nat} (h : n < 2 ^ 63) (s : Int64) (k : Nat) (hs : (s.toBitVec.smod 64).toNat = k) : lN n >>> s = lN (n / 2 ^ k) := by
  apply Int64.toInt_inj.mp
  have h2 : n / 2 ^ k ≤ n := Nat.div_le_self _ _
  have e : (lN n >>> s).toInt = (lN n).toInt >>> k := by
    show ((lN n).toBitVec.sshiftRight (s.toBitVec.smod 64).toNat).toInt = _
    rw [hs, BitVec.toInt_sshiftRight]
    rfl
  rw [e, pk_lT h, pk_lT (by omega), Int.shiftRight_eq_div_pow]
  rfl
theorem sh5s {i : Nat} (hi : i < 8) : (((5 * nI i).toInt64 &&& 63).toBitVec.smod 64).toNat = 5 * i := by
  have : i = 0 ∨ i = 1 ∨ i = 2 ∨ i = 3 ∨ i = 4 ∨ i = 5 ∨ i = 6 ∨ i = 7 := by omega
  rcases this with rfl | rfl | rfl | rfl | rfl | rfl | rfl | rfl <;> decide
theorem codM_rev : ∀ l : List Nat, codM l.reverse = codC l
  | [] => rfl
  | x :: xs => by
    have ih := codM_rev xs
    unfold codM at ih ⊢
    rw [List.reverse_cons, List.foldl_append, ih]
    show codC xs * 32 + x = x + 32 * codC xs
    omega
theorem codM_eq (ns : List Nat) : codM ns = codC ns.reverse := by rw [← codM_rev, List.reverse_reverse]
theorem nmOk.rev {ns : List Nat} (h : nmOk ns) : nmOk ns.reverse := ⟨by simpa using h.1, by simpa using h.2.1, fun x hx => h.2.2 x (by simpa using hx)⟩
theorem codC_pos : ∀ {l : List Nat} {i : Nat}, (∀ x ∈ l, 1 ≤ x ∧ x ≤ 26) → (codC l / 32 ^ i = 0 ↔ l.length ≤ i)
  | [], i, _ => by simp [codC]
  | x :: xs, 0, h => by
    have h2 := h x List.mem_cons_self
    simp only [codC, Nat.pow_zero, Nat.div_one, List.length_cons]
    omega
  | x :: xs, i + 1, h => by
    have h2 := h x List.mem_cons_self
    have e : codC (x :: xs) / 32 ^ (i + 1) = codC xs / 32 ^ i := by
      rw [Nat.pow_succ, Nat.mul_comm, ← Nat.div_div_eq_div_mul, codC]
      congr 1
      omega
    rw [e, codC_pos (fun y hy => h y (List.mem_cons_of_mem _ hy)), List.length_cons]
    omega
section mname
variable {d : Nat} {ro : Nat → Nat} {μ : Hp} {m : Nat} {X : Nat → Nat} {S : St} {B : Bk} {f : Nat → Int32}
theorem lgc0 {n : Nat} (h : n < 2 ^ 63) : lg_cmp (lN n) 0 = 0 ↔ n = 0 := by
  unfold lg_cmp
  have e : lN n = 0 ↔ n = 0 := by
    have := pk_lEQ (a := n) (b := 0) h (by omega)
    exact this
  by_cases hz : n = 0
  · subst hz; exact ⟨fun _ => rfl, fun _ => by decide⟩
  · have hl : (0 : Int64) < lN n := (pk_lLT (a := 0) (b := n) (by omega) h).mpr (by omega)
    have hn : ¬ lN n < 0 := fun q => Int64.lt_irrefl (Int64.lt_trans hl q)
    refine ⟨fun q => ?_, fun q => absurd q hz⟩
    revert q
    simp [hl, hn, e, hz]
theorem m_lettersOf {ns : List Nat} (h : nmOk ns) : xC d yX12_lettersOf cX12_lettersOf 3 (some .int) 0 0 [.long (lN (codM ns))] μ ro (fun r μ' => μ' = μ ∧ r = some (.int (nI ns.length))) := by
  have hr := h.rev
  have hl := hr.lt
  rw [codM_eq]
  have hlen : ns.reverse.length = ns.length := List.length_reverse
  have h8 := h.2.1
  refine I_X12_lettersOf (fun J g hz => B_X12_lettersOf_0 g hz ?_)
  refine loopUp (Q := fun i => J μ 0 0 2 [(0, .long (lN (codC ns.reverse))), (2, .int (nI i))] []) ns.length ?_ (fun i hi ih => ?_) 0 (Nat.zero_le _)
  · refine B_X12_lettersOf_2 g hz (pk_le 8 ns.length (fun c => ⟨rfl, rfl⟩) (fun c => ?_))
    have hd : codC ns.reverse / 2 ^ (5 * ns.length) ≤ codC ns.reverse := Nat.div_le_self _ _
    rw [shr_l (by omega) _ _ (sh5s (by omega)), lgc0 (by omega), Nat.pow_mul, show (2 : Nat) ^ 5 = 32 from rfl, codC_pos hr.2.2, hlen]
    exact ⟨fun _ => ⟨rfl, rfl⟩, fun c => absurd (Nat.le_refl _) c⟩
  · refine B_X12_lettersOf_2 g hz (pk_le 8 i (fun c => absurd c (by omega)) (fun c => ?_))
    have hd : codC ns.reverse / 2 ^ (5 * i) ≤ codC ns.reverse := Nat.div_le_self _ _
    rw [shr_l (by omega) _ _ (sh5s (by omega)), lgc0 (by omega), Nat.pow_mul, show (2 : Nat) ^ 5 = 32 from rfl, codC_pos hr.2.2, hlen, nI_1]
    exact ⟨fun c => absurd c (by omega), fun _ => ih⟩
theorem m_letterOf {ns : List Nat} {i : Nat} (hd : 1 ≤ d) (h : nmOk ns) (hi : i < ns.length) : xC d yX12_letterOf cX12_letterOf 3 (some .int) 0 0 [.long (lN (codM ns)), .int (nI i)] μ ro (fun r μ' => μ' = μ ∧ r = some (.int (ltAt ns i))) := by
  have hr := h.rev
  have hl := hr.lt
  have h8 := h.2.1
  refine I_X12_letterOf (fun J g hz => B_X12_letterOf_0 g hz (xCall_of (m_lettersOf (d := d - 1) h) (by omega) ?_))
  rintro r μ ⟨rfl, rfl⟩
  refine ⟨_, rfl, fun v ev => ⟨rfl, ?_⟩⟩
  have hd : codC ns.reverse / 2 ^ (5 * (ns.length - 1 - i)) ≤ codC ns.reverse := Nat.div_le_self _ _
  rw [pred_n (by omega), pk_sub (by omega), codM_eq, shr_l (by omega) _ _ (sh5s (by omega)), andL31 (by omega), Nat.pow_mul, show (2 : Nat) ^ 5 = 32 from rfl, codC_at hr.2.2, show (96 : Int32) + nI ((ns.reverse[ns.length - 1 - i]?).getD 0) = nI (96 + (ns.reverse[ns.length - 1 - i]?).getD 0) from i_off 96 _] at ev
  rw [ev]
  unfold ltAt
  rw [List.getElem?_reverse (by omega), show ns.length - 1 - (ns.length - 1 - i) = i by omega, List.getElem?_eq_getElem hi]
  rfl
theorem ltAt_no {ns : List Nat} {i : Nat} (h : ns.length ≤ i) : ltAt ns i = -1 := by
  unfold ltAt
  rw [List.getElem?_eq_none h]
theorem m_name {s k i : Int32} (hd : 3 ≤ d) (h : mR μ m X S) (hok : sOk S) : xC d yX12_name cX12_name 6 (some .int) 0 0 [.ref m, .int s, .int k, .int i] μ ro (fun r μ' => mqFr m X μ μ' ∧ r = some (.int (aName S s k i))) := by
  obtain ⟨hF0, -, n20, n22⟩ := h.1.th
  have h0 := h.fr hF0
  have hs := h.1.1.1
  have hB := hok.1.1.1
  /- the letter of a name that is there -/
  have fin : ∀ (ns : List Nat), nmOk ns → aName S s k i = (if ¬ i < 0 ∧ i < 8 then ltAt ns (cl i) else -1) → xCall d yX12_lettersOf cX12_lettersOf 3 (some .int) [.long (lN (codM ns))] (wI μ m 0 0) ro (fun r μ4 => ∃ y5 : Int32, r = some (.int y5) ∧ ((i < 0 → mqFr m X μ μ4 ∧ some (Value.int (-1)) = some (.int (aName S s k i))) ∧ (¬ i < 0 → (((y5 - 1) < i → mqFr m X μ μ4 ∧ some (Value.int (-1)) = some (.int (aName S s k i))) ∧ (¬ (y5 - 1) < i → xCall d yX12_letterOf cX12_letterOf 3 (some .int) [.long (lN (codM ns)), .int i] μ4 ro (fun r14 μ15 => ∃ y16 : Int32, r14 = some (.int y16) ∧ mqFr m X μ μ15 ∧ some (Value.int y16) = some (.int (aName S s k i)))))))) := fun ns hns ea => by
    have h8 := hns.2.1
    refine xCall_of (m_lettersOf (d := d - 1) hns) (by omega) ?_
    rintro r μ4 ⟨e4, rfl⟩
    have hF4 : mqFr m X μ μ4 := by rw [e4]; exact hF0
    refine ⟨_, rfl, fun c => ⟨hF4, by rw [ea, if_neg (fun q => q.1 c)]⟩, fun c1 => ⟨fun c => ⟨hF4, ?_⟩, fun c2 => ?_⟩⟩
    · rw [ea]
      split
      · obtain ⟨j, hj, rfl⟩ := nI_of c1
        rw [cl_nI hj]
        have hn := fun q => (in_m1 (x := nI j) (n := ns.length) c1 (by omega)).mp q c
        rw [ltAt_no]
        rcases Nat.lt_or_ge j ns.length with q | q
        · exact absurd (inN_nI q (by omega)) hn
        · exact q
      · rfl
    · have hin := (in_m1 c1 (by omega)).mpr c2
      obtain ⟨e1, k1⟩ := hin.ex (by omega)
      have key := m_letterOf (ro := ro) (d := d - 1) (μ := μ4) (i := cl i) (by omega) hns k1
      rw [← e1] at key
      refine xCall_of key (by omega) ?_
      rintro r μ5 ⟨e5, rfl⟩
      have i8 : i < 8 := by rw [e1]; exact nI_lt (b := 8) (by omega) (by omega)
      exact ⟨_, rfl, by rw [e5]; exact hF4, by rw [ea, if_pos ⟨c1, i8⟩]⟩
  have no : (¬ (s = 0 ∧ inN k S.B.nl)) → (¬ (s = 1 ∧ inN k S.B.nf)) → aName S s k i = -1 := fun c1 c2 => by
    unfold aName
    rw [if_neg c1, if_neg c2]
    split <;> rfl
  refine I_X12_name (fun J g hr => B_X12_name_0 g hr hs.1 (by omega) ?_)
  rw [n20, n22]
  have b40 : (s = 0 ∧ inN k S.B.nl) ∨ (s = 1 ∧ inN k S.B.nf) → J (wI μ m 0 0) 0 0 40 [(0, .ref m), (1, .int s), (2, .int k), (3, .int i)] [] := fun hc => by
    refine B_X12_name_40 g hr hs.1 (hs.r 18 2 8) (hs.s 18 2 8) (hs.r 16 2 6) (hs.s 16 2 6) (by omega) ⟨fun c0 => ?_, fun c0 => ?_⟩
    · obtain ⟨s1, hk⟩ := hc.resolve_left (fun q => c0 q.1)
      obtain ⟨e1, k1⟩ := hk.ex (by omega)
      refine ⟨by rw [e1]; exact vp_in_nI (by omega) (by omega), ?_⟩
      rw [show k.toNatClampNeg = cl k from rfl, h0.2.2.2.1.2 _ k1]
      refine fin _ (hok.2.2.2.2.2.2.2.2.1 _ k1) ?_
      unfold aName
      rw [if_neg (fun q : s = 0 ∧ inN k S.B.nl => c0 q.1), if_pos (⟨s1, hk⟩ : s = 1 ∧ inN k S.B.nf)]
    · have hk : inN k S.B.nl := by
        rcases hc with q | q
        · exact q.2
        · rw [c0] at q; exact absurd q.1 (by decide)
      obtain ⟨e1, k1⟩ := hk.ex (by omega)
      refine ⟨by rw [e1]; exact vp_in_nI (by omega) (by omega), ?_⟩
      rw [show k.toNatClampNeg = cl k from rfl, h0.2.2.2.1.1 _ k1]
      refine fin _ (hok.2.2.2.2.2.2.2.1 _ k1) ?_
      unfold aName
      rw [if_pos (⟨c0, hk⟩ : s = 0 ∧ inN k S.B.nl)]
  have z : aName S s k i = -1 → mqFr m X μ (wI μ m 0 0) ∧ some (Value.int (-1)) = some (.int (aName S s k i)) := fun e => ⟨hF0, by rw [e]⟩
  refine ⟨fun c => z (no (fun q => (sort01.mpr (Or.inl q.1)).1 c) (fun q => (sort01.mpr (Or.inr q.1)).1 c)), fun s1 => ⟨fun c => z (no (fun q => (sort01.mpr (Or.inl q.1)).2 c) (fun q => (sort01.mpr (Or.inr q.1)).2 c)), fun s2 => ⟨fun c0 => ?_, fun c0 => ?_⟩⟩⟩
  · have h1 : s = 1 := (sort01.mp ⟨s1, s2⟩).resolve_left c0
    exact ⟨fun c => z (no (fun q => c0 q.1) (fun q => q.2.1 c)), fun c1 => ⟨fun c => z (no (fun q => c0 q.1) (fun q => q.2.2 c)), fun c2 => b40 (Or.inr ⟨h1, c1, c2⟩)⟩⟩
  · have h1 : ¬ s = 1 := by rw [c0]; decide
    exact ⟨fun c => z (no (fun q => q.2.1 c) (fun q => h1 q.1)), fun c1 => ⟨fun c => z (no (fun q => q.2.2 c) (fun q => h1 q.1)), fun c2 => ⟨fun c => absurd c (nl_pos hok.1 ⟨c1, c2⟩), fun _ => b40 (Or.inl ⟨c0, c1, c2⟩)⟩⟩⟩
def firmOk (B : Bk) (v x : Int32) : Prop := inN v B.nf ∧ ¬ x < 0 ∧ ¬ 4 < x
def aFirm (B : Bk) (f : Nat → Int32) (v x : Int32) : Int32 := if x = 0 then B.lo (cl v) else if x = 1 then f (2 + cl v) else if x = 2 then f (10 + cl v) else if x = 3 then f (18 + cl v) else nI (cntU (fun k => decide (f (48 + k) = v ∨ f (64 + k) = v)) (cl (f 1)))
theorem m_linksOf {v : Int32} (hd : 1 ≤ d) (h : mQ μ m X B f) : xC d yX12_linksOf cX12_linksOf 4 (some .int) 0 0 [.ref m, .int v] μ ro (fun r μ' => μ' = μ ∧ r = some (.int (nI (cntU (fun k => decide (f (48 + k) = v ∨ f (64 + k) = v)) (cl (f 1)))))) := by
  have hs := h.1.1
  have n16 := h.2.2.2.2.2.1.2.1
  obtain ⟨⟨a1, a2, a3, a4⟩, a5, -⟩ := h.2.2.1
  refine I_X12_linksOf (fun J g hr => B_X12_linksOf_0 g hr ?_)
  generalize hp : (fun k => decide (f (48 + k) = v ∨ f (64 + k) = v)) = p at hr
  have hpi : ∀ i, p i = true ↔ (f (48 + i) = v ∨ f (64 + i) = v) := fun i => by rw [← hp]; simp
  refine loopUp (Q := fun i => J μ 0 0 4 [(0, .ref m), (1, .int v), (2, .int (nI (cntU p i))), (3, .int (nI i))] []) (cl (f 1)) ?_ (fun i hi ih => ?_) 0 (Nat.zero_le _)
  · exact B_X12_linksOf_4 g hr hs.1 (hs.r 30 0 293) (hs.s 30 0 293) hd ⟨lit_in 31 (by omega) (by omega), fun _ => ⟨rfl, rfl⟩, fun c => absurd (by rw [a1]; exact Int32.le_refl _) c⟩
  · refine B_X12_linksOf_4 g hr hs.1 (hs.r 30 0 293) (hs.s 30 0 293) hd ⟨lit_in 31 (by omega) (by omega), fun c => absurd c (by rw [a1]; exact nI_ge hi (by omega)), fun _ => ?_⟩
    have e0 : (32 : Int32) + 5 * nI i = nI (32 + 5 * i) := by rw [show (5 : Int32) * nI i = nI (5 * i) from i_mul 5 i]; exact i_off 32 _
    have e1 := a4 i 1 hi (by omega)
    have e2 := a4 i 2 hi (by omega)
    rw [e0, show nI (32 + 5 * i) + 1 = nI (32 + 5 * i + 1) from nI_add _ 1, show nI (32 + 5 * i) + 2 = nI (32 + 5 * i + 2) from nI_add _ 2, nI_clamp (by omega), nI_clamp (by omega), e1, e2, show 32 + 16 * 1 + i = 48 + i by omega, show 32 + 16 * 2 + i = 64 + i by omega]
    have yes : p i = true → J μ 0 0 4 [(0, .ref m), (1, .int v), (2, .int (nI (cntU p i) + 1)), (3, .int (nI i + 1))] [] := fun hh => by
      rw [nI_1, nI_1, ← cnt_t hh]
      exact ih
    refine ⟨vp_in_nI (by omega) (by omega), fun c => yes ((hpi i).mpr (Or.inl c)), fun c => ⟨vp_in_nI (by omega) (by omega), fun c2 => ?_, fun c2 => yes ((hpi i).mpr (Or.inr c2))⟩⟩
    rw [Int32.add_zero, nI_1, ← cnt_f (p := p) (i := i) (by rw [hpi]; simp [c, c2])]
    exact ih
theorem m_firm {v x : Int32} (hd : 2 ≤ d) (h : mQ μ m X B f) : xC d yX12_firm cX12_firm 3 (some .int) 0 0 [.ref m, .int v, .int x] μ ro (fun r μ' => mqFr m X μ μ' ∧ (¬ firmOk B v x → hI μ' m 0 = 1) ∧ (¬ firmOk B v x → ∃ y : Int32, r = some (.int y)) ∧ (firmOk B v x → hI μ' m 0 = 0 ∧ r = some (.int (aFirm B f v x)))) := by
  obtain ⟨hF0, h0, n20, n22⟩ := h.th
  have hs := h.1.1
  have hB := h.2.2.2.2.1
  have hnf := hB.1.1.2.1
  have hg := h0.2.2.1
  refine I_X12_firm (fun J g hr => B_X12_firm_0 g hr hs.1 (hs.r 10 0 16) (hs.s 10 0 16) (hs.r 30 0 293) (hs.s 30 0 293) (by omega) ?_)
  rw [n22]
  have bad : ¬ firmOk B v x → mqFr m X μ (wI (wI μ m 0 0) m 0 1) ∧ (¬ firmOk B v x → hI (wI (wI μ m 0 0) m 0 1) m 0 = 1) ∧ (¬ firmOk B v x → ∃ y : Int32, some (Value.int 0) = some (.int y)) ∧ (firmOk B v x → hI (wI (wI μ m 0 0) m 0 1) m 0 = 0 ∧ some (Value.int 0) = some (.int (aFirm B f v x))) := fun c => ⟨hF0.f 0 _, fun _ => by rw [hI_wI_s, upd_s], fun _ => ⟨_, rfl⟩, fun q => absurd q c⟩
  refine ⟨fun c => bad (fun q => q.1.1 c), fun c1 => ⟨fun c => bad (fun q => q.1.2 c), fun c2 => ⟨fun c => bad (fun q => q.2.1 c), fun c3 => ⟨fun c => bad (fun q => q.2.2 c), fun c4 => ?_⟩⟩⟩⟩
  have hv : inN v B.nf := ⟨c1, c2⟩
  obtain ⟨e1, k1⟩ := hv.ex (by omega)
  have t0 : hI (wI μ m 0 0) m 0 = 0 := by rw [hI_wI_s, upd_s]
  have good : ∀ y : Int32, y = aFirm B f v x → mqFr m X μ (wI μ m 0 0) ∧ (¬ firmOk B v x → hI (wI μ m 0 0) m 0 = 1) ∧ (¬ firmOk B v x → ∃ y' : Int32, some (Value.int y) = some (.int y')) ∧ (firmOk B v x → hI (wI μ m 0 0) m 0 = 0 ∧ some (Value.int y) = some (.int (aFirm B f v x))) := fun y hy => ⟨hF0, fun q => absurd ⟨hv, c3, c4⟩ q, fun _ => ⟨_, rfl⟩, fun _ => ⟨t0, by rw [hy]⟩⟩
  have e2 : (2 : Int32) * v = nI (2 * cl v) := by
    have := i_mul 2 (cl v)
    rw [← e1] at this
    exact this
  rw [e2, show (8 : Int32) + v = nI (8 + cl v) from off_i 8 e1, show (0 : Int32) + v = nI (0 + cl v) from off_i 0 e1, show (16 : Int32) + v = nI (16 + cl v) from off_i 16 e1, nI_clamp (by omega), nI_clamp (by omega), nI_clamp (by omega), nI_clamp (by omega)]
  refine ⟨fun c => xCall_of (m_linksOf (d := d - 1) (by omega) h0) (by omega) ?_, fun c => ⟨vp_in_nI (by omega) (by omega), good _ ?_⟩, fun c => ⟨vp_in_nI (by omega) (by omega), good _ ?_⟩, fun c => ⟨vp_in_nI (by omega) (by omega), good _ ?_⟩, fun c => ⟨vp_in_nI (by omega) (by omega), good _ ?_⟩⟩
  · rintro r μ' ⟨e', rfl⟩
    have n : ∀ k : Int32, k.toInt ≥ 0 → k.toInt ≤ 3 → ¬ x = k := fun k h1 h2 e => by subst e; omega
    rw [e']
    refine ⟨_, rfl, good _ ?_⟩
    unfold aFirm
    rw [if_neg (n 0 (by decide) (by decide)), if_neg (n 1 (by decide) (by decide)), if_neg (n 2 (by decide) (by decide)), if_neg (n 3 (by decide) (by decide))]
  · subst c; rw [h0.2.1.2.2.1 _ k1]; rfl
  · subst c; rw [(hg.1.2.2.1 _ (by omega)).1]; rfl
  · subst c; rw [Nat.zero_add, (hg.1.2.2.1 _ (by omega)).2]; rfl
  · subst c; rw [hg.2.2.1 _ (by omega)]; rfl
end mname
