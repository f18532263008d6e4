/-! what paying by a way makes of a row -/
def crU (f : Nat → Int32) (rs : List Rc) : Nat → Int32 := rs.foldl (fun g r => upd g (10 + r.fm) (nI r.cr)) f
def tkG (B : Bk) (g : Nat → Int32) (u : Nat) (rs : List Rc) (l : Nat) (j : Nat) : Int32 := if 26 ≤ j ∧ j < 26 + l then g j + tkA B (nI (j - 26)) 0 u rs else g j
def payF (B : Bk) (f : Nat → Int32) (u t : Nat) (rs : List Rc) (left : Nat) : Nat → Int32 := upd (tkG B (crU f rs) u rs B.nl) (18 + t) (tkG B (crU f rs) u rs B.nl (18 + t) + nI left)
theorem crU_app (f : Nat → Int32) (rs : List Rc) (r : Rc) : crU f (rs ++ [r]) = upd (crU f rs) (10 + r.fm) (nI r.cr) := List.foldl_append ..
theorem crU_o (rs : List Rc) : ∀ (f : Nat → Int32) {j : Nat}, (∀ r ∈ rs, j ≠ 10 + r.fm) → crU f rs j = f j := by
  induction rs with
  | nil => exact fun f j _ => rfl
  | cons r rs ih =>
    intro f j h
    show crU (upd f (10 + r.fm) (nI r.cr)) rs j = f j
    rw [ih _ (fun r' hr' => h r' (List.mem_cons_of_mem _ hr')), upd_n _ (h r List.mem_cons_self)]
theorem crU_in (rs : List Rc) : ∀ (f : Nat → Int32) {j : Nat}, crU f rs j = f j ∨ ∃ r ∈ rs, crU f rs j = nI r.cr := by
  induction rs with
  | nil => exact fun f j => Or.inl rfl
  | cons r rs ih =>
    intro f j
    have h : crU f (r :: rs) j = crU (upd f (10 + r.fm) (nI r.cr)) rs j := rfl
    rw [h]
    rcases ih (upd f (10 + r.fm) (nI r.cr)) (j := j) with e | ⟨r', hr', e⟩
    · rw [e]
      by_cases hj : j = 10 + r.fm
      · subst hj; rw [upd_s]; exact Or.inr ⟨r, List.mem_cons_self, rfl⟩
      · rw [upd_n _ hj]; exact Or.inl rfl
    · exact Or.inr ⟨r', List.mem_cons_of_mem _ hr', e⟩
theorem recs_cr {D : Hd} (hD : D.ok) : ∀ {w : List Nat} {u p : Nat}, chn D u w → ∀ r ∈ recs D u p w, r.cr ≤ 1000000000 ∧ r.fm < D.nf
  | [], _, _, _, r, h => by simp [recs] at h
  | v :: vs, u, p, hc, r, h => by
    obtain ⟨⟨k, hk⟩, hv, hc'⟩ := hc
    have hcr := (hD.2.2.2.2 v hv).2
    unfold recs at h
    by_cases e : vs = []
    · rw [if_pos e, List.mem_singleton] at h
      subst h
      exact ⟨hcr, hv⟩
    · rw [if_neg e] at h
      rcases List.mem_cons.mp h with rfl | h
      · exact ⟨crdN_le hcr, hv⟩
      · exact recs_cr hD hc' r h
theorem tkG_o {B : Bk} {g : Nat → Int32} {u : Nat} {rs : List Rc} {l j : Nat} (h : j < 26 ∨ 26 + l ≤ j) : tkG B g u rs l j = g j := by
  unfold tkG
  rw [if_neg (by omega)]
theorem payF_o {B : Bk} {f : Nat → Int32} {u t : Nat} {rs : List Rc} {left j : Nat} (hB : B.nl ≤ 6) (ht : t < 8) (hf : ∀ r ∈ rs, r.fm < 8) (h : j < 10 ∨ 32 ≤ j) : payF B f u t rs left j = f j := by
  unfold payF
  rw [upd_n _ (by omega), tkG_o (by omega), crU_o _ _ (fun r hr => by have := hf r hr; omega)]
theorem Bk.row_pay {B : Bk} (hB : B.ok) {f : Nat → Int32} (h : B.row f) {u t left : Nat} {rs : List Rc} (ht : t < 8) (hf : ∀ r ∈ rs, r.cr ≤ 1000000000 ∧ r.fm < 8) : B.row (payF B f u t rs left) := by
  have hnl := hB.1.1.1
  have o : ∀ j, j < 10 ∨ 32 ≤ j → payF B f u t rs left j = f j := fun j hj => payF_o hnl ht (fun r hr => (hf r hr).2) hj
  unfold Bk.row at h ⊢
  rw [o 1 (by omega)]
  refine h.of (o 1 (by omega)) (by rw [o 0 (by omega)]; exact h.1.2.2) (fun j hj => by rw [o _ (by omega)]; exact (h.2.2.2.1 j hj).1) (fun j hj => ?_) (fun l h1 h2 => ?_) (fun j hj => o j (Or.inr hj))
  · unfold payF
    rw [upd_n _ (by omega), tkG_o (by omega)]
    rcases crU_in rs f (j := 10 + j) with e | ⟨r, hr, e⟩
    · rw [e]; exact (h.2.2.2.1 j hj).2
    · rw [e]; exact bd_nI (by have := (hf r hr).1; omega)
  · unfold payF
    rw [upd_n _ (by omega), tkG_o (by omega), crU_o _ _ (fun r hr => by have := (hf r hr).2; omega)]
    exact h.2.2.2.2 l h1 h2
theorem c_payByBest {d : Nat} {ro : Nat → Nat} {μ : Hp} {A : Nat → Nat} {B : Bk} {g : Nat → Int32} {si u t left : Nat} {rs : List Rc} (hd : 1 ≤ d) (hsi : si = 33 ∨ si = 35) (h1 : cSh μ A) (h2 : cInj A) (hB : B.ok) (hnl : hI μ (A 39) 5 = nI B.nl) (hlo : hI μ (A 43) = B.lo) (hg : hI μ (A (si + 1)) = g)
    (hr : rcs (hI μ (A 16)) rs) (h5 : rs.length ≤ 5) (hu : hI μ (A 15) 1 = nI u) (hu8 : u < 8) (hn : hI μ (A 15) 2 = nI rs.length) (hl : hI μ (A 15) 3 = nI left) (hf : ∀ r ∈ rs, r.fm < 8) (ht : t < 8) :
    xC d yX1_payByBest cX1_payByBest 5 none 0 0 [.ref (A 23), .ref (A si), .int (nI t)] μ ro (fun r μ' => r = none ∧ μ' = wRow μ (A (si + 1)) (payF B g u t rs left)) := by
  have hst : isSt μ (A si) (A (si + 1)) ∧ hR μ (A si) 1 = some (A 39) ∧ A 16 ≠ A (si + 1) ∧ A 15 ≠ A (si + 1) ∧ A 39 ≠ A (si + 1) ∧ A 43 ≠ A (si + 1) := by
    rcases hsi with rfl | rfl
    · exact ⟨h1.st, h1.r 33 1 39, h2.ne 16 34, h2.ne 15 34, h2.ne 39 34, h2.ne 43 34⟩
    · exact ⟨h1.sc, h1.r 35 1 39, h2.ne 16 36, h2.ne 15 36, h2.ne 39 36, h2.ne 43 36⟩
  obtain ⟨hst, hbk, n16, n15, n39, n43⟩ := hst
  generalize A (si + 1) = row at hg hst n16 n15 n39 n43 ⊢
  have hnl6 := hB.1.1.1
  have p1 : ∀ G, cSh (wRow μ row G) A := fun G => h1.of rfl rfl
  have p2 : ∀ G, isSt (wRow μ row G) (A si) row := fun G => hst
  refine I_X1_payByBest (fun J g' hz => B_X1_payByBest_0 g' hz (h1.s 23 5 1) (h1.r 23 0 14) (h1.s 14 7 9) (h1.r 14 0 15) ?_)
  have key := loopUp (Q := fun i => J (wRow μ row (crU g (rs.take i))) 0 0 11 [(1, .ref (A si)), (2, .int (nI t)), (3, .ref (A 15)), (4, .int (nI i))] []) rs.length ?_ (fun i hi ih => ?_) 0 (Nat.zero_le _)
  · rw [show crU g (rs.take 0) = hI μ row from hg.symm, wRow_id] at key
    exact key
  · rw [List.take_length]
    refine B_X1_payByBest_11 g' hz (h1.s 15 13 5) hst.1 hst.2.1 (h1.r 15 0 16) (h1.s 16 0 35) hst.2.2 ⟨fun _ => ?_, fun c => absurd (by rw [hI_wRow_n _ _ n15, hn]; exact Int32.le_refl _) c⟩
    have key2 := loopUp (Q := fun l => J (wRow μ row (tkG B (crU g rs) u rs l)) 0 0 56 [(1, .ref (A si)), (2, .int (nI t)), (3, .ref (A 15)), (4, .int (nI l))] []) B.nl ?_ (fun l hl' ih => ?_) 0 (Nat.zero_le _)
    · rw [show tkG B (crU g rs) u rs 0 = crU g rs from funext fun j => tkG_o (by omega)] at key2
      exact key2
    · refine B_X1_payByBest_56 g' hz hst.1 hbk (h1.s 39 6 9) hst.2.1 hst.2.2 (h1.s 15 13 5) ⟨fun _ => ⟨off_in 18 (by omega) (by omega), rfl, ?_⟩, fun c => absurd (by rw [hI_wRow_n _ _ n39, hnl]; exact Int32.le_refl _) c⟩
      rw [show ((18 : Int32) + nI t).toNatClampNeg = 18 + t from off_cl 18 (by omega), wI_wRow, hI_wRow_s, hI_wRow_n _ _ n15, hl]
      rfl
    · refine B_X1_payByBest_56 g' hz hst.1 hbk (h1.s 39 6 9) hst.2.1 hst.2.2 (h1.s 15 13 5) ⟨fun c => absurd c (by rw [hI_wRow_n _ _ n39, hnl]; exact nI_ge hl' (by omega)), fun _ => ⟨off_in 26 (by omega) (by omega), xCall_of (c_takenBy (d := d - 1) (B := B) (p := u) (rs := rs) (p1 _).wb (p1 _).bk (by rw [hI_wRow_n _ _ n43]; exact hlo) (by rw [hI_wRow_n _ _ n15]; exact hn) h5 (by rw [hI_wRow_n _ _ n16]; exact hr) hf (by rw [hI_wRow_n _ _ n15]; exact hu) hu8) (by omega) ?_⟩⟩
      rintro r μ5 ⟨rfl, rfl⟩
      refine ⟨_, rfl, _, hst.2.2, off_in 26 (by omega) (by omega), ?_⟩
      rw [show ((26 : Int32) + nI l).toNatClampNeg = 26 + l from off_cl 26 (by omega), wI_wRow, hI_wRow_s, nI_1]
      have e : upd (tkG B (crU g rs) u rs l) (26 + l) (tkG B (crU g rs) u rs l (26 + l) + tkA B (nI l) 0 u rs) = tkG B (crU g rs) u rs (l + 1) := funext fun j => by
        by_cases hj : j = 26 + l
        · subst hj
          rw [upd_s, tkG_o (by omega)]
          unfold tkG
          rw [if_pos (by omega), show 26 + l - 26 = l by omega]
        · rw [upd_n _ hj]
          unfold tkG
          by_cases hc : 26 ≤ j ∧ j < 26 + l
          · rw [if_pos hc, if_pos (by omega)]
          · rw [if_neg hc, if_neg (by omega)]
      rw [e]
      exact ih
  · have hx : rs[i]? = some rs[i] := List.getElem?_eq_getElem hi
    have hrc := hr i _ hx
    have hf8 := hf _ (List.mem_of_getElem? hx)
    refine B_X1_payByBest_11 g' hz (h1.s 15 13 5) hst.1 hst.2.1 (h1.r 15 0 16) (h1.s 16 0 35) hst.2.2 ⟨fun c => absurd c (by rw [hI_wRow_n _ _ n15, hn]; exact nI_ge hi (by omega)), fun _ => ?_⟩
    rw [show ((0 : Int32) + nI i).toNatClampNeg = 0 + i from off_cl 0 (by omega), show ((30 : Int32) + nI i).toNatClampNeg = 30 + i from off_cl 30 (by omega), hI_wRow_n _ _ n16, Nat.zero_add, hrc.1, hrc.2.2.2.2.2.2, show ((10 : Int32) + nI rs[i].fm).toNatClampNeg = 10 + rs[i].fm from off_cl 10 (by omega), wI_wRow, nI_1]
    refine ⟨off_in 0 (by omega) (by omega), off_in 30 (by omega) (by omega), off_in 10 (by omega) (by omega), ?_⟩
    rw [take_s hx, crU_app] at ih
    exact ih
def aTwice (B : Bk) (f : Nat → Int32) (s u t a : Int32) : Int32 := onW (fndA B f s u t a) (fun w => nI (leftW (B.D f (-1) (-1) s (cl t)) (cl u) (cl a) w) + arrOf B (payF B f (cl u) (cl t) (recs (B.D f (-1) (-1) s (cl t)) (cl u) (cl a) w) (leftW (B.D f (-1) (-1) s (cl t)) (cl u) (cl a) w)) (-1) (-1) s (cl u) (cl t) (cl a) 0)
section tw
variable {d : Nat} {ro : Nat → Nat} {μ : Hp} {A : Nat → Nat} {B : Bk} {f : Nat → Int32} {s u t a : Int32}
theorem c_twice (hd : 12 ≤ d) (h : cQ μ A B f) : xC d yX11_twice cX11_twice 6 (some .int) 0 0 [.ref (A 0), .int s, .int u, .int t, .int a] μ ro (fun r μ' => qFr A μ μ' ∧ r = some (.int (aTwice B f s u t a))) := by
  have hsh := h.1.1
  have hj := h.1.2
  have hB := h.2.2.2.1
  have hrow := h.2.2.2.2.1.2.1
  have hnf := hB.1.1.2.1
  unfold aTwice
  refine I_X11_twice (fun J g hr => B_X11_twice_0 g hr (hsh.s 0 14 18) (xCall_of (c_isFound (d := d - 1) (by omega) h) (by omega) ?_))
  rintro r μ' ⟨hF, (⟨rfl, e⟩ | ⟨rfl, ha, w, e, e', k1, k2, k3, k4, k5, k6⟩)⟩
  · exact ⟨_, rfl, fun h => absurd rfl h, fun _ => ⟨hF, by rw [e, onW_none]⟩⟩
  · have hq := h.fr hF
    have hs' := hq.1.1
    rw [e, onW_some]
    obtain ⟨-, ⟨e2, m2⟩, ⟨e3, m3⟩, -, -⟩ := ha.ex hnf
    have hok := Bk.D_ok (p := -1) (q := -1) (s := s) hB hrow m3
    have hcr := recs_cr hok (p := cl a) (wayOf_ok e').2.2.1
    have hcr8 : ∀ r ∈ recs (B.D f (-1) (-1) s (cl t)) (cl u) (cl a) w, r.cr ≤ 1000000000 ∧ r.fm < 8 := fun r hr => ⟨(hcr r hr).1, Nat.lt_of_lt_of_le (hcr r hr).2 hnf⟩
    refine ⟨_, rfl, fun _ => ⟨hs'.s 0 14 18, _, hs'.r 0 11 35, _, hs'.r 0 10 33, hs'.s 35 12 4, (q_copy (by omega) hq).mono (Nat.le_refl _) ?_⟩, fun h => absurd h (by decide)⟩
    rintro r μ2 ⟨rfl, hF2, ⟨g1, g2, g3⟩, ho⟩
    have hq2 := hq.fr hF2
    have hs2 := hq2.1.1
    have o15 : hI μ2 (A 15) = hI μ' (A 15) := ho _ (hj.ne 15 35) (hj.ne 15 36)
    have o16 : hI μ2 (A 16) = hI μ' (A 16) := ho _ (hj.ne 16 35) (hj.ne 16 36)
    have key := c_payByBest (ro := ro) (d := d - 1) (g := f) (B := B) (u := cl u) (t := cl t) (left := leftW (B.D f (-1) (-1) s (cl t)) (cl u) (cl a) w) (rs := recs (B.D f (-1) (-1) s (cl t)) (cl u) (cl a) w) (by omega) (Or.inr rfl) hs2 hj hB hq2.2.1.1 hq2.2.2.1.2.1 g1 (by rw [o16]; exact k1) (by rw [recs_len]; exact k2) (by rw [o15]; exact k3) (by omega) (by rw [o15, recs_len]; exact k4) (by rw [o15]; exact k5) (fun r hr => (hcr8 r hr).2) (by omega)
    rw [← e3] at key
    refine ⟨rfl, hs2.s 0 14 18, _, hs2.r 0 2 14, hs2.s 14 7 9, _, hs2.r 14 0 15, hs2.s 15 13 5, _, hs2.r 0 3 23, _, hs2.r 0 11 35, hs2.s 23 5 1, xCall_of key (by omega) ?_⟩
    rintro r μ3 ⟨rfl, rfl⟩
    have hF3 : qFr A μ2 (wRow μ2 (A 36) (payF B f (cl u) (cl t) (recs (B.D f (-1) (-1) s (cl t)) (cl u) (cl a) w) (leftW (B.D f (-1) (-1) s (cl t)) (cl u) (cl a) w))) := qFr.rf.sc hj (fun j hj' => by
      rw [g1]; exact payF_o hB.1.1.1 (by omega) (fun r hr => (hcr8 r hr).2) (by omega))
    have hq3 := hq2.fr hF3
    have hs3 := hq3.1.1
    refine ⟨rfl, hs3.s 0 14 18, _, hs3.r 0 11 35, xCall_of (c_arrivesIn (d := d - 1) (g := payF B f (cl u) (cl t) (recs (B.D f (-1) (-1) s (cl t)) (cl u) (cl a) w) (leftW (B.D f (-1) (-1) s (cl t)) (cl u) (cl a) w)) (p := -1) (q := -1) (by omega) hq3 (Or.inr rfl) (hI_wRow_s _ _ _) (Bk.row_pay hB hrow (by omega) hcr8) (by rw [hI_wRow_n _ _ (hj.ne 35 36)]; exact ⟨g2, g3⟩) ha) (by omega) ?_⟩
    rintro r μ4 ⟨hF4, -, rfl, -⟩
    exact ⟨_, rfl, hF.tt (hF2.tt (hF3.tt hF4)), by rw [o15, k5]⟩
end tw
