/-! the best way of a state, by the numbers of its row and of its book -/
def cl (x : Int32) : Nat := x.toNatClampNeg
theorem cl_nI {n : Nat} (h : n < 2 ^ 31) : cl (nI n) = n := nI_clamp h
/-- a small number -/
def bd (x : Int32) (N : Nat) : Prop := ∃ s, s < N ∧ x = nI s
theorem bd.cl {x : Int32} {N : Nat} (h : bd x N) (hN : N ≤ 2 ^ 31) : x = nI (cl x) ∧ cl x < N := by
  obtain ⟨s, hs, rfl⟩ := h
  rw [cl_nI (by omega)]
  exact ⟨rfl, hs⟩
theorem bd.mono {x : Int32} {N M : Nat} (h : bd x N) (hM : N ≤ M) : bd x M := by
  obtain ⟨s, hs, rfl⟩ := h
  exact ⟨s, by omega, rfl⟩
theorem bd_nI {n N : Nat} (h : n < N) : bd (nI n) N := ⟨n, h, rfl⟩
def tAf (tr : Nat → Int32) (nt : Nat) (y p q : Int32) (l m : Nat) : Option Nat := tAx p q (fun t => tr (96 + t)) (fun t => tr (108 + t)) (fun t => tr (0 + t)) (fun t => tr (120 + t)) y nt l m
def artD (f lo tr : Nat → Int32) (nt : Nat) (p q : Int32) (ow k : Nat) : Nat := artF (cl (lo (cl (f (64 + k))))) (cl (lo (cl (f (48 + k))))) (cl (lo ow)) (tAf tr nt (f 0) p q) (f (32 + k)) (f (2 + cl (f (48 + k)))) (f (80 + k)) (f (96 + k)) (f 0) (fun t => tr (72 + t)) (fun t => tr (84 + t)) (fun t => tr (48 + t)) (fun t => tr (60 + t))
def rateD (f lw lo tr : Nat → Int32) (nt : Nat) (p q : Int32) (ow k : Nat) : Int32 := rateF (cl (lo (cl (f (64 + k))))) (cl (lo (cl (f (48 + k))))) (tAf tr nt (f 0) p q) (cl (f (32 + k))) (artD f lo tr nt p q ow k) (fun l => lw (cl (f (32 + k)) * 6 + l)) (fun t => tr (12 + t)) (fun t => tr (24 + t)) (fun t => tr (36 + t))
/-- f: the row; lw, lo, tr: laws, lands, treaties; p, q: the lapsed lands; s: the sort; ow: the owner -/
def mkD (f lw lo tr : Nat → Int32) (nt nf : Nat) (p q s : Int32) (ow : Nat) : Hd :=
  (fun u v => lstU (hpP f s u v) (cl (f 1)), fun k => cl (rateD f lw lo tr nt p q ow k), fun k => artD f lo tr nt p q ow k, txdF f, fun v => cl (lw (12 + cl (lo v))), fun v => cl (f (10 + v)), nf, ow)
def lkOk (f : Nat → Int32) (nf k : Nat) : Prop := bd (f (32 + k)) 2 ∧ bd (f (48 + k)) nf ∧ bd (f (64 + k)) nf ∧ bd (f (80 + k)) 101 ∧ bd (f (96 + k)) 200 ∧ f (48 + k) ≠ f (64 + k)
def rowOK (f : Nat → Int32) (n nf nl : Nat) : Prop := (f 1 = nI n ∧ n ≤ 16 ∧ bd (f 0) 200) ∧ (∀ k, k < n → lkOk f nf k) ∧ (∀ k k', k < n → k' < n → f (32 + k) = f (32 + k') → f (48 + k) = f (48 + k') → f (64 + k) = f (64 + k') → k = k') ∧ (∀ j, j < 8 → bd (f (2 + j)) 100 ∧ bd (f (10 + j)) 1000000001) ∧ ∀ l, nl ≤ l → l < 6 → f (26 + l) = 0
def bookOK (lw lo tr : Nat → Int32) (nl nf nt : Nat) : Prop := (nl ≤ 6 ∧ nf ≤ 8 ∧ nt ≤ 12) ∧ (∀ j, j < nf → bd (lo j) nl) ∧ (∀ c l, c < 3 → l < nl → bd (lw (c * 6 + l)) 1001) ∧ ∀ t, t < nt → (bd (tr (0 + t)) 100 ∧ bd (tr (12 + t)) 1001 ∧ bd (tr (24 + t)) 1001 ∧ bd (tr (36 + t)) 1001 ∧ bd (tr (48 + t)) 101 ∧ bd (tr (60 + t)) 21 ∧ bd (tr (72 + t)) 100 ∧ bd (tr (84 + t)) 3) ∧ bd (tr (96 + t)) nl ∧ bd (tr (108 + t)) nl ∧ bd (tr (120 + t)) 2
theorem tAf_lt {tr : Nat → Int32} {nt : Nat} {y p q : Int32} {l m t : Nat} (h : tAf tr nt y p q l m = some t) : t < nt := tAx_lt h
section mkDs
variable {f lw lo tr : Nat → Int32} {n nl nf nt : Nat} {p q s : Int32} {ow : Nat}
theorem rate_le (hr : rowOK f n nf nl) (hb : bookOK lw lo tr nl nf nt) {k : Nat} (hk : k < n) : bd (rateD f lw lo tr nt p q ow k) 1001 := by
  obtain ⟨k1, k2, k3, -⟩ := hr.2.1 k hk
  have s2 := (k1.cl (by omega)).2
  have e64 := (k3.cl (by have := hb.1.2.1; omega)).2
  have h1 := ((hb.2.1 _ e64).cl (by have := hb.1.1; omega)).2
  have hl := hb.2.2.1 (cl (f (32 + k))) _ (by omega) h1
  unfold rateD rateF
  split
  · exact bd_nI (n := 0) (by omega)
  · cases hc : tAf tr nt (f 0) p q (cl (lo (cl (f (64 + k))))) (cl (lo (cl (f (48 + k))))) with
    | none => exact hl
    | some t =>
      have ht := hb.2.2.2 t (tAf_lt hc)
      simp only []
      split
      · exact hl
      · split
        · exact ht.1.2.2.1
        · split
          · exact ht.1.2.2.2.1
          · exact ht.1.2.1
theorem mkD_ok (hr : rowOK f n nf nl) (hb : bookOK lw lo tr nl nf nt) (ho : ow < nf) : (mkD f lw lo tr nt nf p q s ow).ok := by
  have hn : cl (f 1) = n := by rw [hr.1.1, cl_nI (by have := hr.1.2.1; omega)]
  have hlk : ∀ u v k, (mkD f lw lo tr nt nf p q s ow).lk u v = some k → k < n := fun u v k h => by
    have h' : lstU (hpP f s u v) (cl (f 1)) = some k := h
    rw [hn] at h'
    exact (lstU_lt h').1
  refine ⟨hb.1.2.1, ho, fun u v k h => Nat.lt_of_lt_of_le (hlk u v k h) hr.1.2.1, fun u v k h => ⟨?_, artF_le⟩, fun v hv => ⟨?_, ?_⟩⟩
  · have := ((rate_le (p := p) (q := q) (ow := ow) hr hb (hlk u v k h)).cl (by omega)).2
    exact Nat.le_of_lt_succ this
  · have h1 := ((hb.2.1 v hv).cl (by have := hb.1.1; omega)).2
    have h2 := ((hb.2.2.1 2 _ (by omega) h1).cl (by omega)).2
    exact Nat.le_of_lt_succ h2
  · have h2 := ((hr.2.2.2.1 v (by have := hb.1.2.1; have : v < nf := hv; omega)).2.cl (by omega)).2
    exact Nat.le_of_lt_succ h2
end mkDs
/-- shapes and places of what a search touches -/
def fSh (μ : Hp) (fa bw bwr tw twr la ra aa ta st row bk ln fn lw lo tr : Nat) : Prop := isFd μ fa bw tw la ra aa ta ∧ isWy μ tw twr ∧ isWy μ bw bwr ∧ isSt μ st row ∧ hR μ st 1 = some bk ∧ isBk μ bk ln fn lw lo tr
def fAp (bw bwr tw twr la ra aa ta row lw lo tr : Nat) : Prop := bw ≠ tw ∧ [twr, bwr, la, aa, ra, ta, row, lw, lo, tr].Nodup
def fS (fa bw bwr tw twr la ra aa ta : Nat) : List Nat := [twr, fa, bw, bwr, tw, la, aa, ra, ta]
/-- what a search finds -/
def bestD (D : Hd) (sp : Bool) (frm amt : Nat) (T : Nat → Bool) : Option (List Nat) := bestW sp (leftW D frm amt) (heldW D frm amt) (waysD D 5 frm T) none
theorem Fr.sh {S : List Nat} {μ μ' : Hp} {fa bw bwr tw twr la ra aa ta st row bk ln fn lw lo tr : Nat} (h : Fr S μ μ') (hs : fSh μ fa bw bwr tw twr la ra aa ta st row bk ln fn lw lo tr) : fSh μ' fa bw bwr tw twr la ra aa ta st row bk ln fn lw lo tr := by
  have hS' : hS μ' = hS μ := h.2.2.1
  have hR' : hR μ' = hR μ := h.2.1
  unfold fSh isFd isWy isSt isBk at hs ⊢
  rw [hS', hR']
  exact hs
set_option maxHeartbeats 1000000 in
theorem c_find {d : Nat} {ro : Nat → Nat} {μ : Hp} {fa bw bwr tw twr la ra aa ta st row bk ln fn lw lo tr n nl nf nt u to amt M : Nat} {s : Int32} {sp : Bool} (hd : 8 ≤ d) (hsh : fSh μ fa bw bwr tw twr la ra aa ta st row bk ln fn lw lo tr) (hap : fAp bw bwr tw twr la ra aa ta row lw lo tr)
    (hrow : rowOK (hI μ row) n nf nl) (hbook : bookOK (hI μ lw) (hI μ lo) (hI μ tr) nl nf nt) (hnl : hI μ bk 5 = nI nl) (hnf : hI μ bk 6 = nI nf) (hnt : hI μ bk 7 = nI nt) (hsp : hI μ fa 8 = if sp = true then 1 else 0) (hu : u < nf) (hto : to < nf) (hamt : amt ≤ 1000000) (hM : M < 256) :
    xC d yX3_find cX3_find 7 (some .boolean) 0 0 [.ref fa, .ref st, .int s, .int (nI u), .int (nI to), .int (nI amt), .int (nI M)] μ ro (fun r μ' => Fr (fS fa bw bwr tw twr la ra aa ta) μ μ' ∧ (∀ k, k ≠ 1 → k ≠ 7 → hI μ' fa k = hI μ fa k) ∧
      r = some (.int (if (waysD (mkD (hI μ row) (hI μ lw) (hI μ lo) (hI μ tr) nt nf (hI μ st 2) (hI μ st 3) s to) 5 u (M ||| 2 ^ u).testBit).length = 0 then 0 else 1)) ∧
      GS μ' fa bw bwr (mkD (hI μ row) (hI μ lw) (hI μ lo) (hI μ tr) nt nf (hI μ st 2) (hI μ st 3) s to) u amt (waysD (mkD (hI μ row) (hI μ lw) (hI μ lo) (hI μ tr) nt nf (hI μ st 2) (hI μ st 3) s to) 5 u (M ||| 2 ^ u).testBit).length (bestD (mkD (hI μ row) (hI μ lw) (hI μ lo) (hI μ tr) nt nf (hI μ st 2) (hI μ st 3) s to) sp u amt (M ||| 2 ^ u).testBit)) := by
  obtain ⟨g1, g2, g3, g4, g5, g6⟩ := id hsh
  obtain ⟨hwt, hnd⟩ := hap
  simp only [List.nodup_cons, List.mem_cons, List.not_mem_nil, or_false, not_or, List.nodup_nil, and_true, not_false_eq_true] at hnd
  obtain ⟨⟨t1, t2, t3, t4, t5, t6, t7, t8, t9⟩, ⟨b1, b2, b3, b4, b5, b6, b7, b8⟩, ⟨l1, l2, l3, l4, l5, l6, l7⟩, ⟨a1, a2, a3, a4, a5, a6⟩, ⟨r1, r2, r3, r4, r5⟩, ⟨c1, c2, c3, c4⟩, ⟨w1, w2, w3⟩, ⟨x1, x2⟩, y1⟩ := hnd
  have hnl6 := hbook.1.1
  have hnf8 := hbook.1.2.1
  have hnt12 := hbook.1.2.2
  have n16 := hrow.1.2.1
  have q1 : fa ≠ tw := ne_of_sh g1.1 g2.1 (by decide)
  have obj0 : ∀ a k m, hS μ a = some (0, m) → k ≠ 0 → ∀ z j, hS μ z = some (k, j) → a ≠ z := fun a k m h hk z j hz => Ne.symm (ne_of_sh hz h hk)
  have nfa : ∀ a m, hS μ a = some (0, m) → a ≠ fa := fun a m h => obj0 a 7 m h (by decide) fa 9 g1.1
  have ntw : ∀ a m, hS μ a = some (0, m) → a ≠ tw := fun a m h => obj0 a 13 m h (by decide) tw 5 g2.1
  have srow := g4.2.2
  have slw := g6.2.2.2.2.1
  have slo := g6.2.2.2.2.2.1
  have str := g6.2.2.2.2.2.2
  refine I_X3_find (fun J g hr => B_X3_find_0 g hr g1.1 g1.2.1.2.2.2.2.2 g2.1 ?_)
  generalize hDD : mkD (hI μ row) (hI μ lw) (hI μ lo) (hI μ tr) nt nf (hI μ st 2) (hI μ st 3) s to = D at hr
  have hDok : D.ok := by rw [← hDD]; exact mkD_ok hrow hbook hto
  generalize hM0 : wI (wI (wI μ fa 7 (nI to)) fa 1 0) tw 1 (nI u) = M0
  have hF0 : Fr (fS fa bw bwr tw twr la ra aa ta) μ M0 := by
    rw [← hM0]
    exact ((Fr.rf.w1 (by simp [fS])).w1 (by simp [fS])).w1 (by simp [fS])
  have o0 : ∀ b, b ≠ fa → b ≠ tw → hI M0 b = hI μ b := fun b h1 h2 => by rw [← hM0, hI_wI_n _ _ _ h2, hI_wI_n _ _ _ h1, hI_wI_n _ _ _ h1]
  have fa0 : hI M0 fa = upd (upd (hI μ fa) 7 (nI to)) 1 0 := by rw [← hM0, hI_wI_n _ _ _ q1, hI_wI_s, hI_wI_s]
  have tw0 : hI M0 tw 1 = nI u := by rw [← hM0, hI_wI_s, upd_s]
  have sh0 := hF0.sh hsh
  have bk0 : hI M0 bk = hI μ bk := o0 _ (ne_of_sh g6.1 g1.1 (by decide)) (ne_of_sh g6.1 g2.1 (by decide))
  have st0 : hI M0 st = hI μ st := o0 _ (ne_of_sh g4.1 g1.1 (by decide)) (ne_of_sh g4.1 g2.1 (by decide))
  have row0 : hI M0 row = hI μ row := o0 _ (nfa _ _ srow) (ntw _ _ srow)
  have lw0 : hI M0 lw = hI μ lw := o0 _ (nfa _ _ slw) (ntw _ _ slw)
  have lo0 : hI M0 lo = hI μ lo := o0 _ (nfa _ _ slo) (ntw _ _ slo)
  have tr0 : hI M0 tr = hI μ tr := o0 _ (nfa _ _ str) (ntw _ _ str)
  refine xCall_of (c_findTreaties (d := d - 1) (μ := M0) (nl := nl) (nt := nt) (by omega) sh0.1 sh0.2.2.2.1 sh0.2.2.2.2.1 sh0.2.2.2.2.2 (by rw [bk0]; exact hnl) hnl6 (by rw [bk0]; exact hnt) hnt12 c1 c4) (by omega) ?_
  rintro r M1 ⟨rfl, F, hM1, hF⟩
  have hF1 : Fr (fS fa bw bwr tw twr la ra aa ta) M0 M1 := by rw [hM1]; exact Fr.rf.w2 (by simp [fS])
  have o1 : ∀ b, b ≠ ta → hI M1 b = hI M0 b := fun b h => by rw [hM1, hI_wRow_n _ _ h]
  have sh1 := hF1.sh sh0
  have row1 : hI M1 row = hI μ row := (o1 _ (Ne.symm c1)).trans row0
  have lw1 : hI M1 lw = hI μ lw := (o1 _ (Ne.symm c2)).trans lw0
  have lo1 : hI M1 lo = hI μ lo := (o1 _ (Ne.symm c3)).trans lo0
  have tr1 : hI M1 tr = hI μ tr := (o1 _ (Ne.symm c4)).trans tr0
  have nta : ta ≠ fa := nfa _ _ g1.2.2.2.2.2
  have fa1 : hI M1 fa = hI M0 fa := o1 _ (Ne.symm nta)
  refine ⟨rfl, sh1.1.1, xCall_of (c_judgeHops (d := d - 1) (μ := M1) (s := s) (n := n) (nf := nf) (nl := nl) (ow := to) (tA := tAf (hI μ tr) nt (hI μ row 0) (hI μ st 2) (hI μ st 3)) (sr := fun k => cl (hI μ row (32 + k))) (fi := fun k => cl (hI μ row (48 + k))) (se := fun k => cl (hI μ row (64 + k))) (ld := fun j => cl (hI μ lo j)) (by omega) sh1.1 sh1.2.2.2.1 sh1.2.2.2.2.1 sh1.2.2.2.2.2 (by rw [row1]; exact hrow.1.1) ?_ hto ?_ (fun l m t h => Nat.lt_of_lt_of_le (tAf_lt h) hnt12) l1 l2 a1 ?_) (by omega) ?_⟩
  · refine ⟨n16, hnf8, hnl6, fun k hk => ?_, fun j hj => ?_⟩
    · obtain ⟨k1, k2, k3, -⟩ := hrow.2.1 k hk
      rw [row1]
      exact ⟨(k1.cl (by omega)).1, (k1.cl (by omega)).2, (k2.cl (by omega)).1, (k2.cl (by omega)).2, (k3.cl (by omega)).1, (k3.cl (by omega)).2⟩
    · rw [lo1]
      exact (hbook.2.1 j hj).cl (by omega)
  · intro l m hl hm hlm
    rw [hM1, hI_wRow_s, hF l m hl hm hlm]
    unfold tAof tAf
    rw [st0, row0, tr0]
  · intro b hb
    simp only [List.mem_cons, List.not_mem_nil, or_false] at hb
    rcases hb with rfl | rfl | rfl | rfl | rfl
    · exact ⟨Ne.symm l4, Ne.symm a3, Ne.symm r2⟩
    · exact ⟨Ne.symm l6, Ne.symm a5, Ne.symm r4⟩
    · exact ⟨Ne.symm l3, Ne.symm a2, Ne.symm r1⟩
    · exact ⟨Ne.symm l7, Ne.symm a6, Ne.symm r5⟩
    · exact ⟨Ne.symm l5, Ne.symm a4, Ne.symm r3⟩
  rintro r M2 ⟨rfl, L, AA, RR, hM2, hLAR⟩
  have hF2 : Fr (fS fa bw bwr tw twr la ra aa ta) M1 M2 := by
    rw [hM2, M3]
    exact ((Fr.rf.w2 (by simp [fS])).w2 (by simp [fS])).w2 (by simp [fS])
  have o2 : ∀ b, b ≠ la → b ≠ aa → b ≠ ra → hI M2 b = hI M1 b := fun b h1 h2 h3 => by rw [hM2, M3_n h1 h2 h3]
  have sh2 := hF2.sh sh1
  have sla := g1.2.2.1
  have sra := g1.2.2.2.1
  have saa := g1.2.2.2.2.1
  have fa2 : hI M2 fa = hI M0 fa := (o2 _ (Ne.symm (nfa _ _ sla)) (Ne.symm (nfa _ _ saa)) (Ne.symm (nfa _ _ sra))).trans fa1
  have row2 : hI M2 row = hI μ row := (o2 _ (Ne.symm l4) (Ne.symm a3) (Ne.symm r2)).trans row1
  have lw2 : hI M2 lw = hI μ lw := (o2 _ (Ne.symm l5) (Ne.symm a4) (Ne.symm r3)).trans lw1
  have lo2 : hI M2 lo = hI μ lo := (o2 _ (Ne.symm l6) (Ne.symm a5) (Ne.symm r4)).trans lo1
  have bk2 : hI M2 bk = hI μ bk := (o2 _ (ne_of_sh g6.1 sla (by decide)) (ne_of_sh g6.1 saa (by decide)) (ne_of_sh g6.1 sra (by decide))).trans ((o1 _ (ne_of_sh g6.1 g1.2.2.2.2.2 (by decide))).trans bk0)
  have tw2 : hI M2 tw 1 = nI u := by rw [o2 _ (ne_of_sh g2.1 sla (by decide)) (ne_of_sh g2.1 saa (by decide)) (ne_of_sh g2.1 sra (by decide)), o1 _ (ne_of_sh g2.1 g1.2.2.2.2.2 (by decide))]; exact tw0
  have hcl1 : cl (hI μ row 1) = n := by rw [hrow.1.1, cl_nI (by omega)]
  have hst2 : gStat M2 fa bw bwr tw twr la ra aa ta st row bk ln fn lw lo tr D sp u := by
    refine ⟨sh2, ⟨?_, ?_, ?_, tw2⟩, ?_, ?_, ?_⟩
    · rw [bk2, hnf, ← hDD]; rfl
    · rw [fa2, fa0, upd_n _ (by decide), upd_s, ← hDD]; rfl
    · rw [fa2, fa0, upd_n _ (by decide), upd_n _ (by decide)]; exact hsp
    · intro u' v' hu' hv'
      obtain ⟨e1, e2⟩ := hLAR u' v' hu' hv'
      rw [row1] at e1 e2
      have hlk : D.lk u' v' = lstU (hpP (hI μ row) s u' v') n := by rw [← hDD, ← hcl1]; rfl
      rw [hlk]
      refine ⟨?_, fun k hk => ?_⟩
      · rw [hM2, M3_la l1 l2]; exact e1
      · obtain ⟨e3, e4⟩ := e2 k hk
        have hkn := (lstU_lt hk).1
        refine ⟨?_, ?_⟩
        · rw [hM2, M3_aa a1, e3, ← hDD]
          unfold artK
          rw [row1, tr1]
          rfl
        · rw [hM2, M3_ra, e4, ← hDD]
          unfold rateK artK
          rw [row1, tr1, lw1]
          exact ((rate_le (p := hI μ st 2) (q := hI μ st 3) (ow := to) hrow hbook hkn).cl (by omega)).1
    · intro v hv
      have hv' : v < nf := by rw [← hDD] at hv; exact hv
      rw [row2, lo2, lw2, ← hDD]
      have h1 := (hbook.2.1 v hv').cl (by omega)
      refine ⟨((hrow.2.2.2.1 v (by omega)).2.cl (by omega)).1, cl (hI μ lo v), h1.1, by omega, ?_⟩
      exact ((hbook.2.2.1 2 _ (by omega) h1.2).cl (by omega)).1
    · intro u' v' k hk
      rw [row2, ← hDD]
      rfl
  have gap : gAp bwr twr la ra aa row lw lo := by
    refine ⟨t1, fun b hb => ?_⟩
    simp only [List.mem_cons, List.not_mem_nil, or_false] at hb
    rcases hb with rfl | rfl | rfl | rfl | rfl | rfl
    · exact ⟨Ne.symm t6, Ne.symm b5⟩
    · exact ⟨Ne.symm t8, Ne.symm b7⟩
    · exact ⟨Ne.symm t7, Ne.symm b6⟩
    · exact ⟨Ne.symm t2, Ne.symm b1⟩
    · exact ⟨Ne.symm t3, Ne.symm b2⟩
    · exact ⟨Ne.symm t4, Ne.symm b3⟩
  have hgs : GS M2 fa bw bwr D u amt 0 none := ⟨by rw [fa2, fa0, upd_s]; rfl, ⟨fun _ => rfl, fun _ => rfl⟩, fun w hw => by cases hw⟩
  refine ⟨rfl, sh2.1.1, ?_⟩
  rw [bit_s hM (by omega)]
  refine xCall_of (c_goOn (amt := amt) hDok gap hwt 5 0 rfl (d - 1) M2 u amt (M ||| 2 ^ u) 0 0 none [] [] (by omega) hst2 hgs (by rw [← hDD]; exact hu) hamt (by omega) (bit_lt hM (by omega)) (by decide) rfl rfl (fun j r h => by simp at h) (fun w _ => ⟨rfl, rfl, by simp⟩)) (by omega) ?_
  rintro r M3' ⟨rfl, f1, f2, -, f4⟩
  have hsub : ∀ a ∈ [twr, fa, bw, bwr], a ∈ fS fa bw bwr tw twr la ra aa ta := fun a ha => by
    simp only [List.mem_cons, List.not_mem_nil, or_false] at ha
    unfold fS
    rcases ha with rfl | rfl | rfl | rfl <;> simp
  have hF3 := hF0.tt (hF1.tt (hF2.tt (f1.sub hsub)))
  have hfa3 : ∀ k, k ≠ 1 → k ≠ 7 → hI M3' fa k = hI μ fa k := fun k h1 h7 => by rw [f2 k h1, fa2, fa0, upd_n _ h1, upd_n _ h7]
  rw [Nat.zero_add] at f4
  simp only [List.nil_append, List.map_id'] at f4
  have hlen : (waysD D 5 u (M ||| 2 ^ u).testBit).length ≤ 8 ^ 5 := ways_len D hDok.1 5 u _
  refine ⟨rfl, (hF3.sh hsh).1.1, fun h => ⟨hF3, hfa3, ?_, f4⟩, fun h => ⟨hF3, hfa3, ?_, f4⟩⟩
  · rw [f4.1] at h
    rw [if_pos]
    rcases Nat.eq_zero_or_pos (waysD D 5 u (M ||| 2 ^ u).testBit).length with h1 | h1
    · exact h1
    · exact absurd h (nI_nle h1 (by omega))
  · rw [f4.1] at h
    rw [if_neg]
    intro e
    rw [e] at h
    exact h (by decide)
