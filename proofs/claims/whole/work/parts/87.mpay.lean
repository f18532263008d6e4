/-! the model pays -/
def mpay (B : Bk) : (Nat → Int32) → Nat → List Rc → (Nat → Int32)
  | g, _, [] => g
  | g, p, r :: rs => mpay B (if rs = [] then upd g (24 + cl (B.lo p)) (g (24 + cl (B.lo p)) + nI r.hd) else upd (upd (upd g (24 + cl (B.lo p)) (g (24 + cl (B.lo p)) + nI r.hd)) (24 + cl (B.lo r.fm)) (upd g (24 + cl (B.lo p)) (g (24 + cl (B.lo p)) + nI r.hd) (24 + cl (B.lo r.fm)) + nI r.du)) r.fm (nI r.cr)) r.fm rs
theorem tkA_acc (B : Bk) (l : Int32) : ∀ (rs : List Rc) (acc : Int32) (p : Nat), tkA B l acc p rs = acc + tkA B l 0 p rs
  | [], acc, p => by show acc = acc + 0; rw [Int32.add_zero]
  | r :: rs, acc, p => by
    show tkA B l ((acc + (if B.lo p = l then nI r.hd else 0)) + (if B.lo r.fm = l then nI r.du else 0)) r.fm rs = acc + tkA B l ((0 + (if B.lo p = l then nI r.hd else 0)) + (if B.lo r.fm = l then nI r.du else 0)) r.fm rs
    rw [tkA_acc B l rs ((acc + (if B.lo p = l then nI r.hd else 0)) + (if B.lo r.fm = l then nI r.du else 0)), tkA_acc B l rs ((0 + (if B.lo p = l then nI r.hd else 0)) + (if B.lo r.fm = l then nI r.du else 0)), Int32.zero_add]
    rw [Int32.add_assoc acc, Int32.add_assoc acc]
/-- what is at a land -/
theorem mpay_tk {B : Bk} (hB : B.ok) {l : Nat} (hl : l < 6) : ∀ (rs : List Rc) (g : Nat → Int32) (p : Nat), p < B.nf → (∀ r ∈ rs, r.fm < B.nf) → (∀ r, rs.getLast? = some r → r.du = 0) → mpay B g p rs (24 + l) = tkA B (nI l) (g (24 + l)) p rs
  | [], g, p, _, _, _ => rfl
  | r :: rs, g, p, hp, hf, hla => by
    have b1 := hB.1.1
    have hf0 := hf r List.mem_cons_self
    have lp := (hB.1.2.1 p hp).cl (by omega)
    have lf := (hB.1.2.1 r.fm hf0).cl (by omega)
    have ip : B.lo p = nI l ↔ cl (B.lo p) = l := ⟨fun q => by rw [q, cl_nI (by omega)], fun q => by rw [← q]; exact lp.1⟩
    have jf : B.lo r.fm = nI l ↔ cl (B.lo r.fm) = l := ⟨fun q => by rw [q, cl_nI (by omega)], fun q => by rw [← q]; exact lf.1⟩
    have hla' : ∀ r', rs.getLast? = some r' → r'.du = 0 := fun r' hr' => hla r' (by
      cases rs with
      | nil => simp at hr'
      | cons a as => rw [List.getLast?_cons_cons]; exact hr')
    show mpay B _ r.fm rs (24 + l) = tkA B (nI l) ((g (24 + l) + (if B.lo p = nI l then nI r.hd else 0)) + (if B.lo r.fm = nI l then nI r.du else 0)) r.fm rs
    rw [mpay_tk hB hl rs _ _ hf0 (fun r' hr' => hf r' (List.mem_cons_of_mem _ hr')) hla']
    congr 1
    have s1 : upd g (24 + cl (B.lo p)) (g (24 + cl (B.lo p)) + nI r.hd) (24 + l) = g (24 + l) + (if B.lo p = nI l then nI r.hd else 0) := by
      by_cases e : cl (B.lo p) = l
      · rw [if_pos (ip.mpr e), e, upd_s]
      · rw [if_neg (fun q => e (ip.mp q)), upd_n _ (by omega), Int32.add_zero]
    by_cases e : rs = []
    · rw [if_pos e, s1]
      have hd0 : r.du = 0 := hla r (by rw [e]; rfl)
      rw [hd0, show (if B.lo r.fm = nI l then nI 0 else 0) = 0 by split <;> rfl, Int32.add_zero]
    · rw [if_neg e, upd_n _ (by omega)]
      by_cases e2 : cl (B.lo r.fm) = l
      · rw [if_pos (jf.mpr e2), e2, upd_s, s1]
      · rw [if_neg (fun q => e2 (jf.mp q)), upd_n _ (by omega), Int32.add_zero, s1]
theorem mpay_o {B : Bk} (hB : B.ok) {j : Nat} (hj : (8 ≤ j ∧ j < 24) ∨ 30 ≤ j) : ∀ (rs : List Rc) (g : Nat → Int32) (p : Nat), p < B.nf → (∀ r ∈ rs, r.fm < B.nf) → mpay B g p rs j = g j
  | [], g, p, _, _ => rfl
  | r :: rs, g, p, hp, hf => by
    have b1 := hB.1.1
    have hf0 := hf r List.mem_cons_self
    have lp := (hB.1.2.1 p hp).cl (by omega)
    have lf := (hB.1.2.1 r.fm hf0).cl (by omega)
    show mpay B _ r.fm rs j = g j
    rw [mpay_o hB hj rs _ _ hf0 (fun r' hr' => hf r' (List.mem_cons_of_mem _ hr'))]
    by_cases e : rs = []
    · rw [if_pos e, upd_n _ (by omega)]
    · rw [if_neg e, upd_n _ (by omega), upd_n _ (by omega), upd_n _ (by omega)]
theorem mpay_cr {B : Bk} (hB : B.ok) {j : Nat} (hj : j < 8) : ∀ (rs : List Rc) (g f : Nat → Int32) (p : Nat), p < B.nf → (∀ r ∈ rs, r.fm < B.nf) → (rs.map Rc.fm).Nodup → (∀ r, rs.getLast? = some r → nI r.cr = f (10 + r.fm)) → g j = f (10 + j) → mpay B g p rs j = crU f rs (10 + j)
  | [], g, f, p, _, _, _, _, h => h
  | r :: rs, g, f, p, hp, hf, hn, hla, h => by
    have b1 := hB.1.1
    have hf0 := hf r List.mem_cons_self
    have lp := (hB.1.2.1 p hp).cl (by omega)
    have lf := (hB.1.2.1 r.fm hf0).cl (by omega)
    rw [List.map_cons, List.nodup_cons] at hn
    show mpay B _ r.fm rs j = crU (upd f (10 + r.fm) (nI r.cr)) rs (10 + j)
    have hla' : ∀ r', rs.getLast? = some r' → nI r'.cr = upd f (10 + r.fm) (nI r.cr) (10 + r'.fm) := fun r' hr' => by
      have hm : r' ∈ rs := List.mem_of_getLast? hr'
      have hne : r'.fm ≠ r.fm := fun q => hn.1 (by rw [← q]; exact List.mem_map.mpr ⟨r', hm, rfl⟩)
      rw [upd_n _ (by omega)]
      refine hla r' ?_
      cases rs with
      | nil => simp at hr'
      | cons a as => rw [List.getLast?_cons_cons]; exact hr'
    refine mpay_cr hB hj rs _ _ _ hf0 (fun r' hr' => hf r' (List.mem_cons_of_mem _ hr')) hn.2 hla' ?_
    by_cases e : rs = []
    · rw [if_pos e, upd_n _ (by omega)]
      have hc : nI r.cr = f (10 + r.fm) := hla r (by rw [e]; rfl)
      rw [hc, upd_id]; exact h
    · rw [if_neg e]
      by_cases ej : j = r.fm
      · subst ej; rw [upd_s, upd_s]
      · rw [upd_n _ ej, upd_n _ (by omega), upd_n _ (by omega), upd_n _ (by omega)]; exact h
theorem last_recs {D : Hd} {w : List Nat} {u p : Nat} {r : Rc} (h : (recs D u p w).getLast? = some r) : r.du = 0 ∧ r.cr = D.cr r.fm := by
  have hne : w ≠ [] := fun e => by rw [e] at h; simp [recs] at h
  have hl : 0 < w.length := List.length_pos_iff.mpr hne
  rw [List.getLast?_eq_getElem?, recs_len] at h
  exact recs_last h (by omega)
/-- the whole row behind a payment -/
theorem mpay_nrw {B : Bk} (hB : B.ok) {f g : Nat → Int32} (hr : B.row f) (h : nrw g f) {s : Int32} {u t a : Nat} {w : List Nat} (hu : u < B.nf) (ht : t < B.nf) (hw : wayOf B f (-1) (-1) false s u t a 0 = some w) :
    nrw (upd (mpay B g u (recs (B.D f (-1) (-1) s t) u a w)) (16 + t) (mpay B g u (recs (B.D f (-1) (-1) s t) u a w) (16 + t) + nI (leftW (B.D f (-1) (-1) s t) u a w))) (payF B f u t (recs (B.D f (-1) (-1) s t) u a w) (leftW (B.D f (-1) (-1) s t) u a w)) := by
  have b1 := hB.1.1
  have hok := Bk.D_ok (p := -1) (q := -1) (s := s) hB hr ht
  have hwo := wayOf_ok hw
  have hcr := recs_cr hok (p := a) hwo.2.2.1
  have hnd : ((recs (B.D f (-1) (-1) s t) u a w).map Rc.fm).Nodup := by rw [recs_fm]; exact hwo.2.2.2.2.2.1
  have hlast : ∀ r, (recs (B.D f (-1) (-1) s t) u a w).getLast? = some r → r.du = 0 ∧ nI r.cr = f (10 + r.fm) := fun r hl => by
    obtain ⟨q1, q2⟩ := last_recs hl
    have hfm := (hcr r (List.mem_of_getLast? hl)).2
    have hfm' : r.fm < B.nf := hfm
    refine ⟨q1, ?_⟩
    rw [q2]
    exact (((hr.2.2.2.1 r.fm (by omega)).2).cl (by omega)).1.symm
  generalize recs (B.D f (-1) (-1) s t) u a w = rs at *
  generalize leftW (B.D f (-1) (-1) s t) u a w = V
  have hf : ∀ r ∈ rs, r.fm < B.nf := fun r hm => (hcr r hm).2
  have hf8 : ∀ r ∈ rs, r.fm < 8 := fun r hm => Nat.lt_of_lt_of_le (hcr r hm).2 b1.2.1
  obtain ⟨⟨a1, a2, a3, a4⟩, a5, a6, a7⟩ := h
  have o : ∀ j, j < 10 ∨ 32 ≤ j → payF B f u t rs V j = f j := fun j hj => payF_o b1.1 (by omega) hf8 hj
  have n16 := hr.1.2.1
  have e1 : cl (payF B f u t rs V 1) = cl (f 1) := by rw [o 1 (by omega)]
  refine ⟨?_, ?_, fun j hj => ?_, fun l hl => ?_⟩
  · rw [e1]
    refine ⟨by rw [upd_n _ (by omega), mpay_o hB (by omega) rs g u hu hf]; exact a1, by rw [o 1 (by omega)]; exact a2, fun j hj => ⟨?_, ?_⟩, fun k c hk hc => ?_⟩
    · rw [upd_n _ (by omega), mpay_o hB (by omega) rs g u hu hf, o _ (by omega)]; exact (a3 j hj).1
    · rw [upd_n _ (by omega), mpay_cr hB hj rs g f u hu hf hnd (fun r hr => (hlast r hr).2) (a3 j hj).2]
      unfold payF
      rw [upd_n _ (by omega), tkG_o (by omega)]
    · rw [upd_n _ (by omega), mpay_o hB (by omega) rs g u hu hf, o _ (by omega)]; exact a4 k c hk hc
  · rw [upd_n _ (by omega), mpay_o hB (by omega) rs g u hu hf, o _ (by omega)]; exact a5
  · unfold payF
    by_cases e : j = t
    · subst e
      rw [upd_s, upd_s, mpay_o hB (by omega) rs g u hu hf, tkG_o (by omega), crU_o _ _ (fun r hm => by have := hf8 r hm; omega), a6 j hj]
    · rw [upd_n _ (by omega), upd_n _ (by omega), mpay_o hB (by omega) rs g u hu hf, tkG_o (by omega), crU_o _ _ (fun r hm => by have := hf8 r hm; omega)]; exact a6 j hj
  · unfold payF
    rw [upd_n _ (by omega), upd_n _ (by omega), mpay_tk hB hl rs g u hu hf (fun r hr => (hlast r hr).1), tkA_acc, a7 l hl]
    unfold tkG
    by_cases e : l < B.nl
    · rw [if_pos (by omega), show 26 + l - 26 = l by omega, crU_o _ _ (fun r hm => by have := hf8 r hm; omega)]
    · rw [if_neg (by omega), crU_o _ _ (fun r hm => by have := hf8 r hm; omega)]
      have z : ∀ (rs : List Rc) (p : Nat), p < B.nf → (∀ r ∈ rs, r.fm < B.nf) → tkA B (nI l) 0 p rs = 0 := by
        intro rs
        induction rs with
        | nil => exact fun p _ _ => rfl
        | cons r rs ih =>
          intro p hp hf
          have hf0 := hf r List.mem_cons_self
          have lp := (hB.1.2.1 p hp).cl (by omega)
          have lf := (hB.1.2.1 r.fm hf0).cl (by omega)
          have n1 : ¬ B.lo p = nI l := fun q => by have := congrArg cl q; rw [cl_nI (by omega)] at this; omega
          have n2 : ¬ B.lo r.fm = nI l := fun q => by have := congrArg cl q; rw [cl_nI (by omega)] at this; omega
          show tkA B (nI l) ((0 + (if B.lo p = nI l then nI r.hd else 0)) + (if B.lo r.fm = nI l then nI r.du else 0)) r.fm rs = 0
          rw [if_neg n1, if_neg n2]
          exact ih r.fm hf0 (fun r' hr' => hf r' (List.mem_cons_of_mem _ hr'))
      rw [z rs u hu hf, Int32.add_zero]
