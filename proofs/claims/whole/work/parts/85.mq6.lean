/-! gross, take, hop, direct of the model -/
section mq6
variable {d : Nat} {ro : Nat → Nat} {μ : Hp} {m : Nat} {X : Nat → Nat} {B : Bk} {f : Nat → Int32} {s u t a : Int32}
theorem m_brings {p : Nat} (hd : 14 ≤ d) (h : mQ μ m X B f) (hy : hI μ m 37 = f 0) (ha : asked B.nf s u t a) (h1p : 1 ≤ p) (hp : p ≤ 1000000) : xC d yX12_brings_ cX12_brings_ 6 (some .boolean) 0 0 [.ref m, .int s, .int u, .int t, .int (nI p), .int a] μ ro (fun r μ' => mqFr m X μ μ' ∧ hI μ' m 37 = f 0 ∧ r = some (.int (if a ≤ arrOf B f (-1) (-1) s (cl u) (cl t) p 0 then 1 else 0))) := by
  have ha' := ha.nI h1p hp
  refine I_X12_brings_ (fun J g hr => B_X12_brings__0 g hr h.1.1.1 (h.1.1.r 30 0 293) ((q_mnow (sp := false) (d := d) (by omega) h hy ha').mono (Nat.le_refl _) ?_))
  rw [cl_nI (by omega)]
  rintro r μ' ⟨g1, -, rfl, g4⟩
  have hs' := (h.fr g1.q).1.1
  have y' : hI μ' m 37 = f 0 := by rw [g1.2 37 (by decide)]; exact hy
  cases e : wayOf B f (-1) (-1) false s (cl u) (cl t) p 0 with
  | none =>
    have hn : ¬ a ≤ -1 := fun q => ha.2.2.2.2.1 (Int32.lt_of_le_of_lt q (by decide))
    rw [arr_m1 e, if_neg hn]
    exact ⟨_, rfl, fun _ => ⟨g1.q, y', rfl⟩, fun c => absurd (if_pos rfl) c⟩
  | some w =>
    obtain ⟨k1, k2, k3, k4, k5, k6, k7⟩ := g4 w e
    rw [arr_w e, k5]
    exact ⟨_, rfl, fun c => absurd c (by rw [if_neg (by simp)]; decide), fun _ => ⟨hs'.1, fun c => ⟨g1.q, y', by rw [if_neg (Int32.not_le.mpr c)]⟩, fun c => ⟨g1.q, y', by rw [if_pos (Int32.not_lt.mp c)]⟩⟩⟩
theorem m_gross (hd : 15 ≤ d) (h : mQ μ m X B f) : xC d yX12_gross cX12_gross 8 (some .int) 0 0 [.ref m, .int s, .int u, .int t, .int a] μ ro (fun r μ' => mqFr m X μ μ' ∧ r = some (.int (aGross B f s u t a))) := by
  obtain ⟨hF0, h0, -, -⟩ := h.th
  have hB := h.2.2.2.2.1
  have hrow := h.2.2.2.2.2
  have hnf := hB.1.1.2.1
  unfold aGross
  refine I_X12_gross (fun J g hr => B_X12_gross_0 g hr h.1.1.1 (xCall_of (m_isAsked (d := d - 1) (by omega) h0) (by omega) ?_))
  rintro r μ1 ⟨e1, rfl⟩
  have hF1 : mqFr m X μ μ1 := by rw [e1]; exact hF0.f 37 _
  have h1 := h.fr hF1
  have y1 : hI μ1 m 37 = f 0 := by rw [e1, hI_wI_s, upd_s]
  by_cases ha : asked B.nf s u t a
  · rw [if_pos ha]
    rw [if_pos ha] at hr
    obtain ⟨-, ⟨e2, k2⟩, ⟨e3, k3⟩, -, e4, k4, k5⟩ := ha.ex hnf
    have amono : ∀ p p', p ≤ p' → p' ≤ 1000000 → arrOf B f (-1) (-1) s (cl u) (cl t) p 0 ≤ arrOf B f (-1) (-1) s (cl u) (cl t) p' 0 := fun p p' h1 h2 => arr_mono hB hrow k3 h1 h2
    have asmall : ¬ a ≤ arrOf B f (-1) (-1) s (cl u) (cl t) 0 0 := by
      have := arr_gt (B := B) (f := f) (p := -1) (q := -1) (s := s) (u := cl u) (M := 0) (a := 0) hB hrow k3 (show 0 < cl a by omega) k5
      rw [← e4] at this
      exact this
    have call : ∀ {μ1 : Hp} {p : Nat}, mqFr m X μ μ1 → hI μ1 m 37 = f 0 → 1 ≤ p → p ≤ 1000000 → xCall d yX12_brings_ cX12_brings_ 6 (some .boolean) [.ref m, .int s, .int u, .int t, .int (nI p), .int a] μ1 ro (fun r μ' => mqFr m X μ μ' ∧ hI μ' m 37 = f 0 ∧ r = some (.int (if a ≤ arrOf B f (-1) (-1) s (cl u) (cl t) p 0 then 1 else 0))) := fun {μ1 p} hF hy h1 h2 => by
      refine xCall_of (m_brings (d := d - 1) (by omega) (h.fr hF) hy ha h1 h2) (by omega) ?_
      rintro r μ' ⟨g1, g2, g3⟩
      exact ⟨hF.tt g1, g2, g3⟩
    refine ⟨_, rfl, fun c => absurd c (by decide), fun _ => ⟨h1.1.1.1, (call (p := 1000000) hF1 y1 (by omega) (Nat.le_refl _)).mono (Nat.le_refl _) ?_⟩⟩
    rintro r μ2 ⟨hF2, y2, rfl⟩
    generalize hg : (fun p => arrOf B f (-1) (-1) s (cl u) (cl t) p 0) = G at hr
    have hG : ∀ p, arrOf B f (-1) (-1) s (cl u) (cl t) p 0 = G p := fun p => by rw [← hg]
    simp only [hG] at amono asmall call hr ⊢
    by_cases c1 : a ≤ G 1000000
    · rw [if_pos c1]
      refine ⟨_, rfl, fun _ => ?_, fun c => absurd c (by decide)⟩
      have key : ∀ k lo hi (μ' : Hp), hi - lo ≤ k → 1 ≤ lo → lo ≤ hi → hi ≤ 1000000 → a ≤ G hi → (∀ p, p < lo → ¬ a ≤ G p) → mqFr m X μ μ' → hI μ' m 37 = f 0 → J μ' 0 0 42 [(0, .ref m), (1, .int s), (2, .int u), (3, .int t), (4, .int a), (5, .int (nI lo)), (6, .int (nI hi))] [] := by
        intro k
        induction k with
        | zero =>
          intro lo hi μ' a0 a1 a2 a3 a4 a5 a6 a7
          have : lo = hi := by omega
          subst this
          refine B_X12_gross_42 g hr (h.fr a6).1.1.1 ⟨fun _ => ⟨a6, ?_⟩, fun c => absurd (Int32.le_refl _) c⟩
          rw [fstP_is (j := lo) (by omega) (by omega) (decide_eq_true a4) (fun p _ hp => by simpa using a5 p hp)]
          rfl
        | succ k ih =>
          intro lo hi μ' a0 a1 a2 a3 a4 a5 a6 a7
          refine B_X12_gross_42 g hr (h.fr a6).1.1.1 (pk_le hi lo (fun c => ⟨a6, ?_⟩) (fun c => ?_))
          · have : lo = hi := by omega
            subst this
            rw [fstP_is (j := lo) (by omega) (by omega) (decide_eq_true a4) (fun p _ hp => by simpa using a5 p hp)]
            rfl
          · have em : (nI lo + nI hi) / 2 = nI ((lo + hi) / 2) := by
              rw [nI_add, show nI (lo + hi) / 2 = nI ((lo + hi) / 2) from div_n 2 (by omega) (by omega) (by omega)]
            rw [em]
            generalize hm : (lo + hi) / 2 = md
            refine (call a6 a7 (by omega) (by omega)).mono (Nat.le_refl _) ?_
            rintro r μ3 ⟨b1, b2, rfl⟩
            rw [nI_1]
            by_cases c5 : a ≤ G md
            · rw [if_pos c5]
              exact ⟨_, rfl, fun c => absurd c (by decide), fun _ => ih lo md μ3 (by omega) a1 (by omega) (by omega) c5 a5 b1 b2⟩
            · rw [if_neg c5]
              refine ⟨_, rfl, fun _ => ih (md + 1) hi μ3 (by omega) (by omega) (by omega) a3 a4 (fun p hp => ?_) b1 b2, fun c => absurd rfl c⟩
              exact fun q => c5 (Int32.le_trans q (amono p md (by omega) (by omega)))
      exact key 1000000 1 1000000 μ2 (by omega) (Nat.le_refl _) (by omega) (Nat.le_refl _) c1 (fun p hp => by rw [show p = 0 by omega]; exact asmall) hF2 y2
    · rw [if_neg c1]
      refine ⟨_, rfl, fun c => absurd rfl c, fun _ => ⟨hF2, ?_⟩⟩
      rw [if_pos ha, fstP_no (fun p hp hp' => by
        simp only [decide_eq_true_eq]
        exact fun q => c1 (Int32.le_trans q (amono p 1000000 (by omega) (Nat.le_refl _))))]
      rfl
  · rw [if_neg ha, if_neg ha]
    exact ⟨_, rfl, fun _ => ⟨hF1, rfl⟩, fun h => absurd rfl h⟩
/-- a way's records by the model's rows -/
theorem m_take {l : Int32} (hd : 15 ≤ d) (h : mQ μ m X B f) : xC d yX12_take cX12_take 8 (some .int) 0 0 [.ref m, .int s, .int u, .int t, .int a, .int l] μ ro (fun r μ' => mqFr m X μ μ' ∧ r = some (.int (aTake B f s u t a l))) := by
  obtain ⟨hF0, h0, n20, n22⟩ := h.th
  have hB := h.2.2.2.2.1
  have hnf := hB.1.1.2.1
  unfold aTake
  refine I_X12_take (fun J g hr => B_X12_take_0 g hr h.1.1.1 (by omega) ?_)
  rw [n20, n22]
  refine ⟨fun c => ⟨hF0, by rw [if_neg (fun q => q.1 c)]⟩, fun c1 => ⟨fun c => ⟨hF0, by rw [if_neg (fun q => q.2 c)]⟩, fun c2 => ⟨fun c => absurd c (nl_pos hB ⟨c1, c2⟩), fun _ => xCall_of (m_finds (d := d - 1) (by omega) h0) (by omega) ?_⟩⟩⟩
  rintro r μ' ⟨hF, (⟨rfl, e⟩ | ⟨rfl, ha, w, e, e', k1, k2, k3, k4, k5, k6, k7⟩)⟩
  · exact ⟨_, rfl, fun h => absurd rfl h, fun _ => ⟨hF0.tt hF, by rw [if_pos ⟨c1, c2⟩, e, onW_none]⟩⟩
  · rw [if_pos ⟨c1, c2⟩, e, onW_some] at hr
    have hF' := hF0.tt hF
    have h' := h.fr hF'
    have hs' := h'.1.1
    refine ⟨_, rfl, fun _ => ?_, fun h => absurd h (by decide)⟩
    have hu := (ha.ex hnf).2.1.2
    have hw5 := k1.2.1
    have hfm : ∀ j x, (cl u :: w)[j]? = some x → x < B.nf := fun j x hx => by
      rcases List.mem_cons.mp (List.mem_of_getElem? hx) with rfl | hm
      · exact hu
      · exact chn_lt k1.2.2.1 x hm
    have hlo : ∀ x, x < B.nf → hI μ' (X 10) (2 * x) = B.lo x := h'.2.1.2.2.1
    generalize hrs : recs (B.D f (-1) (-1) s (cl t)) (cl u) (cl a) w = rs at hr k4
    have hlen : rs.length = w.length := by rw [← hrs, recs_len]
    have hfw : ∀ (j : Nat) (r : Rc), rs[j]? = some r → w[j]? = some r.fm := fun j r hr => by rw [← hrs] at hr; exact recs_get hr
    have hla : ∀ (j : Nat) (r : Rc), rs[j]? = some r → j + 1 = w.length → r.du = 0 := fun j r hr hj => by rw [← hrs] at hr; exact (recs_last hr hj).1
    have key : ∀ (suf pre : List Rc) (acc : Int32) (p : Nat), rs = pre ++ suf → (cl u :: w)[pre.length]? = some p → tkA B l acc p suf = tkA B l 0 (cl u) rs → J μ' 0 0 34 [(0, .ref m), (5, .int l), (6, .int acc), (7, .int (nI pre.length))] [] := by
      intro suf
      induction suf with
      | nil =>
        intro pre acc p ep hp he
        rw [List.append_nil] at ep
        subst ep
        refine B_X12_take_34 g hr hs'.1 (hs'.r 43 0 6) (hs'.s 43 0 6) (hs'.r 10 0 16) (hs'.s 10 0 16) (hs'.r 48 0 5) (hs'.s 48 0 5) (hs'.r 47 0 5) (hs'.s 47 0 5) (by omega) ⟨fun _ => ⟨hF', ?_⟩, fun c => absurd (by rw [k2, hlen]; exact Int32.le_refl _) c⟩
        rw [← he]; rfl
      | cons r suf ih =>
        intro pre acc p ep hp he
        have hl : w.length = pre.length + (suf.length + 1) := by rw [← hlen, ep]; simp
        have hget : rs[pre.length]? = some r := by rw [ep]; simp
        obtain ⟨⟨r1, r2, r3, r4, r5⟩, -⟩ := k4 _ _ hget
        have hwf : (cl u :: w)[pre.length + 1]? = some r.fm := by rw [List.getElem?_cons_succ]; exact hfw _ _ hget
        have w0 := k3 _ _ hp
        have w1 := k3 _ _ hwf
        have p8 := hfm _ _ hp
        have f8 := hfm _ _ hwf
        have ih' := fun acc' => ih (pre ++ [r]) acc' r.fm (by rw [ep]; simp) (by rw [List.length_append, List.length_singleton]; exact hwf)
        rw [List.length_append, List.length_singleton] at ih'
        rw [show tkA B l acc p (r :: suf) = tkA B l ((acc + (if B.lo p = l then nI r.hd else 0)) + (if B.lo r.fm = l then nI r.du else 0)) r.fm suf from rfl] at he
        refine B_X12_take_34 g hr hs'.1 (hs'.r 43 0 6) (hs'.s 43 0 6) (hs'.r 10 0 16) (hs'.s 10 0 16) (hs'.r 48 0 5) (hs'.s 48 0 5) (hs'.r 47 0 5) (hs'.s 47 0 5) (by omega) ⟨fun c => absurd c (by rw [k2]; exact nI_ge (by omega) (by omega)), fun _ => ?_⟩
        rw [nI_1, nI_clamp (show pre.length < 2147483648 by omega), nI_clamp (show pre.length + 1 < 2147483648 by omega), w0, w1, show (2 : Int32) * nI p = nI (2 * p) from i_mul 2 p, show (2 : Int32) * nI r.fm = nI (2 * r.fm) from i_mul 2 _, nI_clamp (show 2 * p < 2147483648 by omega), nI_clamp (show 2 * r.fm < 2147483648 by omega), hlo p p8, hlo r.fm f8, r4, r5, k2, show nI w.length - 1 = nI (w.length - 1) by rw [show w.length = (w.length - 1) + 1 by omega]; exact nI_pred _]
        refine ⟨vp_in_nI (by omega) (by omega), vp_in_nI (by omega) (by omega), fun v ev => ?_⟩
        subst ev
        refine ⟨fun q1 => ?_, fun q1 => ⟨vp_in_nI (by omega) (by omega), ?_⟩⟩
        · rw [if_neg q1] at he
          refine pk_le (w.length - 1) pre.length (fun c => ih' _ ?_) (fun c => ⟨vp_in_nI (by omega) (by omega), vp_in_nI (by omega) (by omega), fun v ev => ?_⟩)
          · have hd0 := hla _ _ hget (by omega)
            rw [hd0] at he
            rw [show (if B.lo r.fm = l then nI 0 else 0) = 0 by split <;> rfl] at he
            exact he
          · subst ev
            refine ⟨fun q2 => ih' _ ?_, fun q2 => ⟨vp_in_nI (by omega) (by omega), ih' _ ?_⟩⟩
            · rw [if_neg q2] at he; exact he
            · rw [if_pos q2] at he; exact he
        · rw [if_pos q1] at he
          refine pk_le (w.length - 1) pre.length (fun c => ih' _ ?_) (fun c => ⟨vp_in_nI (by omega) (by omega), vp_in_nI (by omega) (by omega), fun v ev => ?_⟩)
          · have hd0 := hla _ _ hget (by omega)
            rw [hd0] at he
            rw [show (if B.lo r.fm = l then nI 0 else 0) = 0 by split <;> rfl] at he
            exact he
          · subst ev
            refine ⟨fun q2 => ih' _ ?_, fun q2 => ⟨vp_in_nI (by omega) (by omega), fun v2 ev2 => ?_⟩⟩
            · rw [if_neg q2] at he; exact he
            · rw [if_pos q2] at he; rw [ev2]; exact ih' _ he
    exact key rs [] 0 (cl u) rfl rfl rfl
theorem m_hop {o x : Int32} (hd : 6 ≤ d) (h : mQ μ m X B f) : xC d yX12_hop cX12_hop 7 (some .int) 0 0 [.ref m, .int s, .int u, .int t, .int o, .int x] μ ro (fun r μ' => mqFr m X μ μ' ∧ r = some (.int (aHop B f s u t o x))) := by
  obtain ⟨hF0, h0, -, n22⟩ := h.th
  have hB := h.2.2.2.2.1
  have hnf := hB.1.1.2.1
  have hrow := h.2.2.2.2.2
  have n16 := hrow.1.2.1
  unfold aHop
  refine I_X12_hop (fun J g hr => B_X12_hop_0 g hr h.1.1.1 (h.1.1.r 30 0 293) (h.1.1.s 30 0 293) (by omega) ?_)
  rw [n22]
  refine ⟨fun c => ⟨hF0, by rw [if_neg (fun q => q.2.1.1 c)]⟩, fun c1 => ⟨fun c => ⟨hF0, by rw [if_neg (fun q => q.2.1.2 c)]⟩, fun c2 => ⟨fun c => ⟨hF0, by rw [if_neg (fun q => q.2.2.1.1 c)]⟩, fun c3 => ⟨fun c => ⟨hF0, by rw [if_neg (fun q => q.2.2.1.2 c)]⟩, fun c4 => ⟨fun c => ⟨hF0, by rw [if_neg (fun q => q.2.2.2.1.1 c)]⟩, fun c5 => ⟨fun c => ⟨hF0, by rw [if_neg (fun q => q.2.2.2.1.2 c)]⟩, fun c6 => ⟨fun c => ⟨hF0, by rw [if_neg (fun q => (sort01.mpr q.1).1 c)]⟩, fun s1 => ⟨fun c => ⟨hF0, by rw [if_neg (fun q => (sort01.mpr q.1).2 c)]⟩, fun s2 => ⟨fun c => ⟨hF0, by rw [if_neg (fun q => q.2.2.2.2.1 c)]⟩, fun c7 => ⟨fun c => ⟨hF0, by rw [if_neg (fun q => Int32.not_lt.mpr q.2.2.2.2.2 c)]⟩, fun c8 => ⟨lit_in 30 (by omega) (by omega), ?_⟩⟩⟩⟩⟩⟩⟩⟩⟩⟩⟩
  have hs := sort01.mp ⟨s1, s2⟩
  rw [if_pos ⟨hs, ⟨c1, c2⟩, ⟨c3, c4⟩, ⟨c5, c6⟩, c7, Int32.not_lt.mp c8⟩, h0.2.2.1.2.1]
  obtain ⟨e2, k2⟩ := inN.ex (n := B.nf) ⟨c1, c2⟩ (by omega)
  obtain ⟨e3, k3⟩ := inN.ex (n := B.nf) ⟨c3, c4⟩ (by omega)
  obtain ⟨e4, k4⟩ := inN.ex (n := B.nf) ⟨c5, c6⟩ (by omega)
  have es : s = nI (cl s) ∧ cl s < 2 := by rcases hs with rfl | rfl <;> decide
  have hF1 : mqFr m X μ (wI (wI μ m 0 0) m 37 (f 0)) := hF0.f 37 _
  have h1 := h.fr hF1
  have cx := h1.cx (by rw [hI_wI_s, upd_s])
  have key := c_mHopOf (ro := ro) (d := d - 1) (u := cl u) (v := cl t) (s := s) (by omega) cx
  rw [← e2, ← e3] at key
  refine xCall_of key (by omega) ?_
  rintro r μ2 ⟨rfl, e⟩
  have hlk : (B.D f (-1) (-1) s (cl o)).lk (cl u) (cl t) = lstU (hpP f s (cl u) (cl t)) (cl (f 1)) := rfl
  rw [hlk]
  have hF2 : mqFr m X μ μ2 := by rw [e]; exact hF1
  cases hk : lstU (hpP f s (cl u) (cl t)) (cl (f 1)) with
  | none => exact ⟨_, rfl, fun c => absurd rfl c, fun _ => ⟨hF2, rfl⟩⟩
  | some k =>
    have hk' := mkD_lk' (lw := B.lw) (lo := B.lo) (tr := B.tr) (nt := B.nt) (p := -1) (q := -1) (ow := cl o) hrow (hlk.trans hk)
    have cx2 : mCx μ2 m X 30 f B.lw B.lo B.tr (cl (f 1)) B.nl B.nf B.nt (-1) (-1) := by rw [e]; exact cx
    have key2 := c_mLaysHop (ro := ro) (d := d - 1) (u := cl u) (v := cl t) (k := k) (s := cl s) (ow := cl o) (by omega) cx2 hk'.1 hk'.2.2.1 hk'.2.2.2 (by rw [hk'.2.1]; exact es.1) es.2 k2 k3 k4
    rw [← es.1, ← e2, ← e3, ← e4] at key2
    refine ⟨_, rfl, fun _ => ⟨cx2.1.1.1, _, cx2.1.1.r 30 0 293, xCall_of key2 (by omega) ?_⟩, fun c => absurd c (oM_ne (by omega))⟩
    rintro r μ3 ⟨rfl, e5⟩
    have hF3 : mqFr m X μ μ3 := by rw [e5]; exact (hF2.f 42 _).f 41 _
    have hs3 := (h.fr hF3).1.1
    refine ⟨rfl, fun c => ⟨hs3.1, hF3, ?_⟩, fun c => ⟨hs3.1, hF3, ?_⟩⟩
    · rw [onK_some, if_neg c, e5, hI_wI_s, upd_n _ (by decide), hI_wI_s, upd_s]; rfl
    · rw [onK_some, if_pos c, e5, hI_wI_s, upd_s]
      have := ((rate_le (p := -1) (q := -1) (ow := cl o) hrow hB.1 hk'.1).cl (by omega)).1
      rw [this]; rfl
theorem m_direct (hd : 7 ≤ d) (h : mQ μ m X B f) : xC d yX12_direct cX12_direct 5 (some .int) 0 0 [.ref m, .int s, .int u, .int t, .int a] μ ro (fun r μ' => mqFr m X μ μ' ∧ r = some (.int (aDirect B f s u t a))) := by
  obtain ⟨hF0, h0, -, -⟩ := h.th
  have hB := h.2.2.2.2.1
  have hrow := h.2.2.2.2.2
  have hnf := hB.1.1.2.1
  unfold aDirect
  refine I_X12_direct (fun J g hr => B_X12_direct_0 g hr h.1.1.1 (xCall_of (m_isAsked (d := d - 1) (by omega) h0) (by omega) ?_))
  rintro r μ1 ⟨e1, rfl⟩
  have hF1 : mqFr m X μ μ1 := by rw [e1]; exact hF0.f 37 _
  have h1 := h.fr hF1
  have y1 : hI μ1 m 37 = f 0 := by rw [e1, hI_wI_s, upd_s]
  by_cases ha : asked B.nf s u t a
  · rw [if_pos ha, if_pos ha]
    obtain ⟨es, ⟨e2, k2⟩, ⟨e3, k3⟩, -, e4, -, k4⟩ := ha.ex hnf
    have cx := h1.cx y1
    have key := c_mHopOf (ro := ro) (d := d - 1) (u := cl u) (v := cl t) (s := s) (by omega) cx
    rw [← e2, ← e3] at key
    refine ⟨_, rfl, fun h => absurd h (by decide), fun _ => ⟨h1.1.1.1, _, h1.1.1.r 30 0 293, xCall_of key (by omega) ?_⟩⟩
    rintro r μ1 ⟨rfl, rfl⟩
    have hlk : (B.D f (-1) (-1) s (cl t)).lk (cl u) (cl t) = lstU (hpP f s (cl u) (cl t)) (cl (f 1)) := rfl
    cases hk : (B.D f (-1) (-1) s (cl t)).lk (cl u) (cl t) with
    | none =>
      rw [← hlk, hk]
      exact ⟨_, rfl, fun c => absurd rfl c, fun _ => ⟨hF1, rfl⟩⟩
    | some k =>
      have hk' := mkD_lk' (lw := B.lw) (lo := B.lo) (tr := B.tr) (nt := B.nt) (p := -1) (q := -1) (ow := cl t) hrow hk
      have n16 := hrow.1.2.1
      have hs1 := h1.1.1
      have hj := h1.1.2
      rw [← hlk, hk]
      generalize hM : wI (wI (wI μ1 (X 43) 0 u) (X 43) 1 t) m 50 1 = M
      have hFM : mqFr m X μ M := by rw [← hM]; exact ((hF1.x hs1.nn 43 _ _).x hs1.nn 43 _ _).f 50 _
      have h3 := h.fr hFM
      have yM : hI M m 37 = f 0 := by rw [← hM, hI_wI_s, upd_n _ (by decide), hI_wI_n _ _ _ (Ne.symm (hs1.ne 43)), hI_wI_n _ _ _ (Ne.symm (hs1.ne 43))]; exact y1
      have w43 : hI M (X 43) 0 = nI (cl u) ∧ hI M (X 43) 1 = nI (cl t) := by
        rw [← hM, hI_wI_n _ _ _ (hs1.ne 43), hI_wI_s, hI_wI_s]
        exact ⟨by rw [upd_n _ (by decide), upd_s]; exact e2, by rw [upd_s]; exact e3⟩
      have key2 := c_mReckons (ro := ro) (d := d - 1) (μ := M) (m := m) (X := X) (wi := 30) (u := cl u) (s := cl s) (ow := cl t) (amt := cl a) (D := B.D f (-1) (-1) s (cl t)) (w := [cl t]) (by omega) (h3.cx yM) (by rw [← es.1]; rfl) es.2 k3 k2 ⟨⟨k, hk⟩, k3, trivial⟩ (by simp) (by simp) (fun j x hx => by
          match j, hx with
          | 0, hx => simp at hx; subst hx; exact w43.1
          | 1, hx => simp at hx; subst hx; exact w43.2
          | j + 2, hx => simp at hx) (by rw [← hM, hI_wI_s, upd_s]; rfl) w43.2 k4
      rw [← es.1, ← e4] at key2
      refine ⟨_, rfl, fun _ => ⟨hs1.1, _, hs1.r 43 0 6, _, hs1.s 43 0 6, lit_in 0 (by omega) (by omega), lit_in 1 (by omega) (by omega), _, hs1.r 30 0 293, ?_⟩, fun c => absurd c (oM_ne (by omega))⟩
      rw [hM]
      refine xCall_of key2 (by omega) ?_
      rintro r μ' ⟨rfl, g1, -, g3, -⟩
      refine ⟨rfl, (h3.fr g1.m.q).1.1.1, hFM.tt g1.m.q, ?_⟩
      rw [g3, onK_some]
      show some (Value.int (nI (if ([] : List Nat) = [] then cl a - (B.D f (-1) (-1) s (cl t)).held (cl u) (cl t) (cl a) else _))) = _
      rw [if_pos rfl]
      unfold Hd.held Hd.k
      rw [hk]
      rfl
  · rw [if_neg ha, if_neg ha]
    exact ⟨_, rfl, fun _ => ⟨hF1, rfl⟩, fun h => absurd rfl h⟩
end mq6
