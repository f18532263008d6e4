/-! the model's acts on the whole state -/
def sOk (S : St) : Prop := S.B.ok ∧ goodR S.B S.f ∧ (∀ g ∈ S.H, goodR S.B g) ∧ (S.H.length ≤ 40 ∧ S.H.length ≤ S.L.length) ∧ (∀ q, S.im = some q → goodR S.B q.1) ∧ (S.len ≤ 400 ∧ S.ns ≤ 4) ∧ (∀ k, k < S.ns → S.sl k ≤ 12) ∧ (∀ l, l < S.B.nl → nmOk (S.nmL l)) ∧ (∀ j, j < S.B.nf → nmOk (S.nmF j)) ∧ ∀ i, i < S.len → 1 ≤ S.tp i ∧ S.tp i ≤ 255
theorem cR.ok {μ : Hp} {A : Nat → Nat} {S : St} (h : cR μ A S) : sOk S := by
  obtain ⟨h1, h2, ⟨⟨nx, h3⟩, h4, h5⟩, h6, h7, h8, h9, h10⟩ := h
  exact ⟨h1.2.2.2.1, ⟨h1.2.2.2.2.1.2.1, h1.2.2.2.2.2.2.1⟩, h4, ⟨h3.1.2.2.2, h5⟩, fun q hq => ⟨(h7.2.2 q hq).1.2, fun j hj => by rw [← (h7.2.2 q hq).1.1]; exact h7.2.1 j hj⟩, ⟨h8.2.1, h9.2.1⟩, fun k hk => (h9.2.2 k hk).2.1, fun l hl => (h2.1 l hl).1, fun j hj => (h2.2 j hj).1, fun i hi => (h8.2.2 i hi).2⟩
/-- what the model may change -/
def mOut (m : Nat) (X : Nat → Nat) (μ μ' : Hp) : Prop := hR μ' = hR μ ∧ hS μ' = hS μ ∧ ∀ b, b ≠ m → b ∉ mK.map X → hI μ' b = hI μ b ∧ hL μ' b = hL μ b
theorem mOut.rf {m : Nat} {X : Nat → Nat} {μ : Hp} : mOut m X μ μ := ⟨rfl, rfl, fun _ _ _ => ⟨rfl, rfl⟩⟩
theorem mOut.tt {m : Nat} {X : Nat → Nat} {μ μ1 μ2 : Hp} (h : mOut m X μ μ1) (h' : mOut m X μ1 μ2) : mOut m X μ μ2 := ⟨h'.1.trans h.1, h'.2.1.trans h.2.1, fun b h1 h2 => ⟨((h'.2.2 b h1 h2).1).trans (h.2.2 b h1 h2).1, ((h'.2.2 b h1 h2).2).trans (h.2.2 b h1 h2).2⟩⟩
theorem mOut.f {m : Nat} {X : Nat → Nat} {μ μ1 : Hp} (h : mOut m X μ μ1) (k : Nat) (x : Int32) : mOut m X μ (wI μ1 m k x) := h.tt ⟨rfl, rfl, fun b h1 _ => ⟨hI_wI_n _ _ _ h1, rfl⟩⟩
theorem mOut.w {m : Nat} {X : Nat → Nat} {μ μ1 : Hp} (h : mOut m X μ μ1) (i : Nat) (g : Nat → Int32) (hi : i ∈ mK := by decide) : mOut m X μ (wRow μ1 (X i) g) := h.tt ⟨rfl, rfl, fun b _ h2 => ⟨hI_wRow_n _ _ (fun e => h2 (List.mem_map.mpr ⟨i, hi, e.symm⟩)), rfl⟩⟩
theorem mOut.x {m : Nat} {X : Nat → Nat} {μ μ1 : Hp} (h : mOut m X μ μ1) (i k : Nat) (x : Int32) (hi : i ∈ mK := by decide) : mOut m X μ (wI μ1 (X i) k x) := h.w i _ hi
theorem Fr.mout {I : List Nat} {m : Nat} {X : Nat → Nat} {μ μ' : Hp} (h : Fr I μ μ') (hI' : ∀ b ∈ I, b = m ∨ b ∈ mK.map X) : mOut m X μ μ' := ⟨h.2.1, h.2.2.1, fun b h1 h2 => ⟨h.2.2.2 b (fun q => (hI' b q).elim h1 h2), by rw [h.1]⟩⟩
theorem mqFr.out {m : Nat} {X : Nat → Nat} {μ μ' : Hp} (h : mqFr m X μ μ') : mOut m X μ μ' := Fr.mout h.1 (fun b hb => by
  have hx : ∀ i, i ∈ mK → b = X i → b = m ∨ b ∈ mK.map X := fun i hi e => Or.inr (List.mem_map.mpr ⟨i, hi, e.symm⟩)
  simp only [List.mem_cons, List.not_mem_nil, or_false] at hb
  rcases hb with e | e | e | e | e | e | e | e | e | e | e
  · exact Or.inl e
  · exact hx 43 (by decide) e
  · exact hx 44 (by decide) e
  · exact hx 45 (by decide) e
  · exact hx 46 (by decide) e
  · exact hx 47 (by decide) e
  · exact hx 48 (by decide) e
  · exact hx 49 (by decide) e
  · exact hx 55 (by decide) e
  · exact hx 31 (by decide) e
  · exact hx 63 (by decide) e)
theorem mwFr.out {m : Nat} {X : Nat → Nat} {μ μ' : Hp} (h : mwFr 30 m X μ μ') : mOut m X μ μ' := Fr.mout h.1 (fun b hb => by
  have hx : ∀ i, i ∈ mK → b = X i → b = m ∨ b ∈ mK.map X := fun i hi e => Or.inr (List.mem_map.mpr ⟨i, hi, e.symm⟩)
  simp only [List.mem_cons, List.not_mem_nil, or_false] at hb
  rcases hb with e | e | e | e | e | e | e | e | e | e
  · exact Or.inl e
  · exact hx 43 (by decide) e
  · exact hx 44 (by decide) e
  · exact hx 45 (by decide) e
  · exact hx 46 (by decide) e
  · exact hx 47 (by decide) e
  · exact hx 48 (by decide) e
  · exact hx 49 (by decide) e
  · exact hx 55 (by decide) e
  · exact hx 30 (by decide) e)
theorem nrw_congr {g g' f : Nat → Int32} (h : nrw g f) (hn : cl (f 1) ≤ 16) (e : ∀ j, j < 112 → g' j = g j) : nrw g' f := by
  obtain ⟨⟨a1, a2, a3, a4⟩, a5, a6, a7⟩ := h
  exact ⟨⟨by rw [e _ (by omega)]; exact a1, a2, fun j hj => by rw [e _ (by omega), e _ (by omega)]; exact a3 j hj, fun k c hk hc => by rw [e _ (by omega)]; exact a4 k c hk hc⟩, by rw [e _ (by omega)]; exact a5, fun j hj => by rw [e _ (by omega)]; exact a6 j hj, fun l hl => by rw [e _ (by omega)]; exact a7 l hl⟩
theorem logM_congr {g g' : Nat → Int32} {L : List Tri} (h : logM g L) (e : ∀ j, 112 ≤ j → j < 293 → g' j = g j) : logM g' L := by
  refine ⟨by rw [e _ (by omega) (by omega)]; exact h.1, fun i t hi ht => ?_⟩
  rw [e _ (by omega) (by omega), e _ (by omega) (by omega), e _ (by omega) (by omega)]
  exact h.2 i t hi ht
theorem mRow_congr {g g' f : Nat → Int32} {L : List Tri} (h : mRow g f L) (hn : cl (f 1) ≤ 16) (e : ∀ j, j < 293 → g' j = g j) : mRow g' f L := ⟨nrw_congr h.1 hn (fun j hj => e j (by omega)), logM_congr h.2 (fun j _ hj => e j hj)⟩
/-- the log one longer -/
def apF (g : Nat → Int32) (n : Nat) (e : Tri) : Nat → Int32 := upd (upd (upd (upd g (113 + 3 * n) e.1) (113 + 3 * n + 1) e.2.1) (113 + 3 * n + 2) e.2.2) 112 (nI (n + 1))
def shF (g : Nat → Int32) : Nat → Int32 := upd (fun j => if 113 ≤ j ∧ j < 290 then g (j + 3) else g j) 112 (nI 59)
theorem apF_lo {g : Nat → Int32} {n : Nat} {e : Tri} {j : Nat} (h : j < 112) : apF g n e j = g j := by
  unfold apF
  rw [upd_n _ (by omega), upd_n _ (by omega), upd_n _ (by omega), upd_n _ (by omega)]
theorem shF_lo {g : Nat → Int32} {j : Nat} (h : j < 112) : shF g j = g j := by
  unfold shF
  rw [upd_n _ (by omega), if_neg (by omega)]
theorem logM.ap {g : Nat → Int32} {L : List Tri} {e : Tri} (h : logM g L) (hl : L.length < 60) : logM (apF g L.length e) (e :: L) := by
  obtain ⟨h1, h2⟩ := h
  rw [Nat.min_eq_left (by omega)] at h1 h2
  refine ⟨?_, fun i t hi ht => ?_⟩
  · rw [List.length_cons, Nat.min_eq_left (by omega)]
    unfold apF; rw [upd_s]
  · rw [List.length_cons, Nat.min_eq_left (by omega)] at hi ⊢
    rcases getE_cons ht with ⟨rfl, rfl⟩ | ⟨k, rfl, hk⟩
    · rw [show L.length + 1 - 1 - 0 = L.length by omega]
      unfold apF
      exact ⟨by rw [upd_n _ (by omega), upd_n _ (by omega), upd_n _ (by omega), upd_s], by rw [upd_n _ (by omega), upd_n _ (by omega), upd_s], by rw [upd_n _ (by omega), upd_s]⟩
    · have := h2 k t (by omega) hk
      rw [show L.length + 1 - 1 - (k + 1) = L.length - 1 - k by omega]
      have o : ∀ j, 113 ≤ j → j < 113 + 3 * L.length → apF g L.length e j = g j := fun j h1 h2 => by
        unfold apF
        rw [upd_n _ (by omega), upd_n _ (by omega), upd_n _ (by omega), upd_n _ (by omega)]
      rw [o _ (by omega) (by omega), o _ (by omega) (by omega), o _ (by omega) (by omega)]
      exact this
theorem logM.sh {g : Nat → Int32} {L : List Tri} {e : Tri} (h : logM g L) (hl : 60 ≤ L.length) : logM (apF (shF g) 59 e) (e :: L) := by
  obtain ⟨h1, h2⟩ := h
  rw [Nat.min_eq_right (by omega)] at h1 h2
  refine ⟨?_, fun i t hi ht => ?_⟩
  · rw [List.length_cons, Nat.min_eq_right (by omega)]
    unfold apF; rw [upd_s]
  · rw [List.length_cons, Nat.min_eq_right (by omega)] at hi ⊢
    rcases getE_cons ht with ⟨rfl, rfl⟩ | ⟨k, rfl, hk⟩
    · unfold apF
      exact ⟨by rw [upd_n _ (by omega), upd_n _ (by omega), upd_n _ (by omega), upd_s], by rw [upd_n _ (by omega), upd_n _ (by omega), upd_s], by rw [upd_n _ (by omega), upd_s]⟩
    · have := h2 k t (by omega) hk
      have o : ∀ j, 113 ≤ j → j < 290 → apF (shF g) 59 e j = g (j + 3) := fun j h1 h2 => by
        unfold apF shF
        rw [upd_n _ (by omega), upd_n _ (by omega), upd_n _ (by omega), upd_n _ (by omega), upd_n _ (by omega), if_pos (by omega)]
      rw [o _ (by omega) (by omega), o _ (by omega) (by omega), o _ (by omega) (by omega)]
      rw [show 113 + 3 * (60 - 1 - (k + 1)) + 3 = 113 + 3 * (60 - 1 - k) by omega, show 113 + 3 * (60 - 1 - (k + 1)) + 1 + 3 = 113 + 3 * (60 - 1 - k) + 1 by omega, show 113 + 3 * (60 - 1 - (k + 1)) + 2 + 3 = 113 + 3 * (60 - 1 - k) + 2 by omega]
      exact this
def noF (g : Nat → Int32) (n : Nat) (e : Tri) : Nat → Int32 := if n = 60 then apF (shF g) 59 e else apF g n e
theorem logM.no {g : Nat → Int32} {L : List Tri} {e : Tri} (h : logM g L) : logM (noF g (min L.length 60) e) (e :: L) := by
  unfold noF
  by_cases c : min L.length 60 = 60
  · rw [if_pos c]; exact h.sh (by omega)
  · rw [if_neg c, Nat.min_eq_left (by omega)]; exact h.ap (by omega)
theorem noF_lo {g : Nat → Int32} {n : Nat} {e : Tri} {j : Nat} (h : j < 112) : noF g n e j = g j := by
  unfold noF
  split
  · rw [apF_lo h, shF_lo h]
  · exact apF_lo h
section mact
variable {d : Nat} {ro : Nat → Nat} {μ : Hp} {m : Nat} {X : Nat → Nat} {S : St}
theorem m_notes {n : Nat} {x : Int32} (hs : mSh μ m X) (hn : hI μ (X 30) 112 = nI n) (hn60 : n ≤ 60) : xC d yX12_notes cX12_notes 3 none 0 0 [.ref m, .int x] μ ro (fun r μ' => r = none ∧ μ' = wRow μ (X 30) (noF (hI μ (X 30)) n (x, hI μ m 60, hI μ m 61))) := by
  have hwm : X 30 ≠ m := hs.ne 30
  have h30 := hs.s 30 0 293
  refine I_X12_notes (fun J g hr => B_X12_notes_0 g hr hs.1 (hs.r 30 0 293) h30 ⟨lit_in 112 (by omega) (by omega), ?_⟩)
  rw [hn]
  have app : ∀ (G : Nat → Int32) (k : Nat), k < 60 → G 112 = nI k → apF G k (x, hI μ m 60, hI μ m 61) = noF (hI μ (X 30)) n (x, hI μ m 60, hI μ m 61) → J (wRow μ (X 30) G) 0 0 58 [(0, .ref m), (1, .int x)] [] := fun G k hk hG he => by
    refine B_X12_notes_58 g hr hs.1 (hs.r 30 0 293) h30 ⟨lit_in 112 (by omega) (by omega), ?_⟩
    have e0 : (113 : Int32) + 3 * nI k = nI (113 + 3 * k) := by rw [show (3 : Int32) * nI k = nI (3 * k) from i_mul 3 k]; exact i_off 113 _
    rw [hI_wRow_s, hG, e0, show nI (113 + 3 * k) + 1 = nI (113 + 3 * k + 1) from nI_add _ 1, show nI (113 + 3 * k) + 2 = nI (113 + 3 * k + 2) from nI_add _ 2, nI_clamp (by omega), nI_clamp (by omega), nI_clamp (by omega)]
    refine ⟨vp_in_nI (by omega) (by omega), fun v3 e3 => ⟨vp_in_nI (by omega) (by omega), fun v5 e5 => ⟨vp_in_nI (by omega) (by omega), fun v7 e7 => ⟨rfl, ?_⟩⟩⟩⟩
    rw [hI_wI_n _ _ _ (Ne.symm hwm), hI_wRow_n _ _ (Ne.symm hwm)] at e3
    rw [hI_wI_n _ _ _ (Ne.symm hwm), hI_wI_n _ _ _ (Ne.symm hwm), hI_wRow_n _ _ (Ne.symm hwm)] at e5
    rw [wI_wRow, wI_wRow, wI_wRow, hI_wRow_s, upd_n _ (by omega), upd_n _ (by omega), upd_n _ (by omega), hG] at e7
    rw [wI_wRow, wI_wRow, wI_wRow, wI_wRow, e3, e5, e7, nI_1, ← he]
    rfl
  have h60 : nI n = 60 ↔ n = 60 := ⟨fun q => by have := congrArg cl q; rw [cl_nI (by omega)] at this; exact this, fun q => by rw [q]; rfl⟩
  refine ⟨fun c => ?_, fun c => ?_⟩
  · have c' : ¬ n = 60 := fun q => c (h60.mpr q)
    have := app (hI μ (X 30)) n (by omega) hn (by unfold noF; rw [if_neg c'])
    rw [wRow_id] at this
    exact this
  · have c' := h60.mp c
    have key := loopUp (Q := fun i => 1 ≤ i → J (wRow μ (X 30) (fun j => if 113 ≤ j ∧ j < 112 + i then hI μ (X 30) (j + 3) else hI μ (X 30) j)) 0 0 14 [(0, .ref m), (1, .int x), (2, .int (nI i))] []) 178 ?_ (fun i hi ih h1 => ?_) 1 (by omega) (Nat.le_refl _)
    · rw [show (fun j => if 113 ≤ j ∧ j < 112 + 1 then hI μ (X 30) (j + 3) else hI μ (X 30) j) = hI μ (X 30) from funext fun j => if_neg (by omega), wRow_id] at key
      exact key
    · intro _
      refine B_X12_notes_14 g hr hs.1 (hs.r 30 0 293) h30 ⟨fun _ => ⟨lit_in 112 (by omega) (by omega), ?_⟩, fun c => absurd (nI_lt (a := 177) (b := 178) (by omega) (by omega)) c⟩
      rw [wI_wRow, hI_wRow_s, if_neg (by omega), hn, c', show nI 60 - 1 = nI 59 from rfl]
      refine app _ 59 (by omega) (by rw [upd_s]) ?_
      unfold noF
      rw [if_pos c']
      rfl
    · refine B_X12_notes_14 g hr hs.1 (hs.r 30 0 293) h30 ⟨fun c => absurd c (nI_nlt (a := 177) (b := i) (by omega) (by omega)), fun _ => ?_⟩
      rw [show (112 : Int32) + nI i = nI (112 + i) from i_off 112 i, show nI (112 + i) + 3 = nI (112 + i + 3) from nI_add _ 3, nI_clamp (by omega), nI_clamp (by omega), hI_wRow_s, if_neg (by omega), wI_wRow, nI_1]
      refine ⟨vp_in_nI (by omega) (by omega), vp_in_nI (by omega) (by omega), ?_⟩
      have e : upd (fun j => if 113 ≤ j ∧ j < 112 + i then hI μ (X 30) (j + 3) else hI μ (X 30) j) (112 + i) (hI μ (X 30) (112 + i + 3)) = (fun j => if 113 ≤ j ∧ j < 112 + (i + 1) then hI μ (X 30) (j + 3) else hI μ (X 30) j) := funext fun j => by
        by_cases hj : j = 112 + i
        · subst hj; rw [upd_s, if_pos (by omega)]
        · rw [upd_n _ hj]
          by_cases hc : 113 ≤ j ∧ j < 112 + i
          · rw [if_pos hc, if_pos (by omega)]
          · rw [if_neg hc, if_neg (by omega)]
      rw [e]
      exact ih (by omega)
/-- the kept rows with one more -/
theorem keep_rows {K R f : Nat → Int32} {fi fi' : Nat} {H : List (Nat → Int32)} {L : List Tri} {e : Tri} (hR : mRow R f L) (hf : cl (f 1) ≤ 16) (hH : ∀ g ∈ H, cl (g 1) ≤ 16) (hl : H.length ≤ 40) (hfi : fi < 40) (hfi' : fi' = if H.length = 40 then (fi + 1) % 40 else fi) (h : ∀ i g, H[i]? = some g → mRow (fun j => K (293 * ((fi + H.length - 1 - i) % 40) + j)) g (L.drop (i + 1))) :
    ∀ i g, ((f :: H).take 40)[i]? = some g → mRow (fun j => cpR R K 0 (293 * ((fi' + ((f :: H).take 40).length - 1) % 40)) (293 * ((fi' + ((f :: H).take 40).length - 1 - i) % 40) + j)) g ((e :: L).drop (i + 1)) := by
  intro i g hg
  rw [take40 hl]
  obtain ⟨hi, hg⟩ := getE_take hg
  rcases getE_cons hg with ⟨rfl, rfl⟩ | ⟨k, rfl, hk⟩
  · refine mRow_congr (g := R) hR hf (fun j hj => ?_)
    unfold cpR
    rw [Nat.sub_zero, if_pos (by omega)]
    congr 1
    omega
  · have hkl := (List.getElem?_eq_some_iff.mp hk).1
    have hgm : g ∈ H := List.mem_of_getElem? hk
    refine mRow_congr (h k g hk) (hH g hgm) (fun j hj => ?_)
    have e : (fi' + min (H.length + 1) 40 - 1 - (k + 1)) % 40 = (fi + H.length - 1 - k) % 40 := by
      rw [hfi']
      split <;> omega
    have e2 : (fi' + min (H.length + 1) 40 - 1) % 40 ≠ (fi + H.length - 1 - k) % 40 := by
      rw [hfi']
      split <;> omega
    rw [e]
    unfold cpR
    rw [if_neg (by omega)]
theorem m_remember (hd : 1 ≤ d) (h : mR μ m X S) (hok : sOk S) (e : Tri) : xC d yX12_remember cX12_remember 1 none 0 0 [.ref m] μ ro (fun r μ' => r = none ∧ mHs μ' m X ((S.f :: S.H).take 40) (e :: S.L) ∧ mOut m X μ μ' ∧ (hI μ' (X 30) = hI μ (X 30) ∧ hL μ' = hL μ) ∧ (∀ i, i ∈ mK → i ≠ 33 → hI μ' (X i) = hI μ (X i)) ∧ ∀ k, k ≠ 34 ∧ k ≠ 35 → hI μ' m k = hI μ m k) := by
  obtain ⟨h1, h2, ⟨h3, fi, h4, h5, h6⟩, h7⟩ := h
  have hs := h1.1.1
  have hi := h1.1.2
  have hl := hok.2.2.2.1.1
  have n16 := hok.2.1.1.1.2.1
  have hH16 : ∀ g ∈ S.H, cl (g 1) ≤ 16 := fun g hg => (hok.2.2.1 g hg).1.1.2.1
  have hwm : X 33 ≠ m := hs.ne 33
  have hlen := take40 (x := S.f) hl
  have fin : ∀ (μ1 : Hp) (fi' : Nat), fi' = (if S.H.length = 40 then (fi + 1) % 40 else fi) → hI μ1 m 34 = nI fi' → hI μ1 m 35 = nI (min (S.H.length + 1) 40) → (∀ i, i ∈ mK → hI μ1 (X i) = hI μ (X i)) → mOut m X μ μ1 → hL μ1 = hL μ → (∀ k, k ≠ 34 ∧ k ≠ 35 → hI μ1 m k = hI μ m k) → ∀ (r : Option Value) (μ' : Hp), (r = none ∧ μ' = wRow μ1 (X 33) (cpR (hI μ1 (X 30)) (hI μ1 (X 33)) 0 (293 * ((fi' + min (S.H.length + 1) 40 - 1) % 40)))) → r = none ∧ (none : Option Value) = none ∧ mHs μ' m X ((S.f :: S.H).take 40) (e :: S.L) ∧ mOut m X μ μ' ∧ (hI μ' (X 30) = hI μ (X 30) ∧ hL μ' = hL μ) ∧ (∀ i, i ∈ mK → i ≠ 33 → hI μ' (X i) = hI μ (X i)) ∧ ∀ k, k ≠ 34 ∧ k ≠ 35 → hI μ' m k = hI μ m k := by
    rintro μ1 fi' hfi' q1 q2 q3 q4 q4' q5 r μ' ⟨rfl, rfl⟩
    have o : ∀ i, i ∈ mK → i ≠ 33 → hI (wRow μ1 (X 33) (cpR (hI μ1 (X 30)) (hI μ1 (X 33)) 0 (293 * ((fi' + min (S.H.length + 1) 40 - 1) % 40)))) (X i) = hI μ (X i) := fun i hik hn => by
      rw [hI_wRow_n _ _ (fun q => hn (hi i 33 hik (by decide) q))]; exact q3 i hik
    refine ⟨rfl, rfl, ⟨?_, fi', ?_, ?_, ?_⟩, q4.w 33 _, ⟨o 30 (by decide) (by decide), q4'⟩, o, fun k hk => ?_⟩
    · rw [hI_wRow_n _ _ (Ne.symm hwm), hlen]; exact q2
    · rw [hfi']; split <;> omega
    · rw [hI_wRow_n _ _ (Ne.symm hwm)]; exact q1
    · rw [hI_wRow_s, q3 30 (by decide), q3 33 (by decide)]
      have := keep_rows (K := hI μ (X 33)) (R := hI μ (X 30)) (e := e) ⟨h1.2.2.1, h2⟩ n16 hH16 hl h4 hfi' h6
      rw [hlen] at this ⊢
      exact this
    · rw [hI_wRow_n _ _ (Ne.symm hwm)]; exact q5 k hk
  refine I_X12_remember (fun J g hr => B_X12_remember_0 g hr hs.1 (hs.r 30 0 293) (hs.r 33 0 11720) ?_)
  rw [h3, h5]
  have h40 : nI S.H.length = 40 ↔ S.H.length = 40 := ⟨fun q => by have := congrArg cl q; rw [cl_nI (by omega)] at this; exact this, fun q => by rw [q]; rfl⟩
  refine ⟨fun c v2 e2 => ?_, fun c v5 e5 v6 e6 => ?_⟩
  · have c' : ¬ S.H.length = 40 := fun q => c (h40.mpr q)
    rw [hI_wI_s, upd_n _ (by decide), upd_s, h5, nI_1, nI_add] at e2
    rw [e2, nI_1, pred_n (by omega), show nI (fi + (S.H.length + 1) - 1) - nI (fi + (S.H.length + 1) - 1) / 40 * 40 = nI ((fi + (S.H.length + 1) - 1) % 40) from rem_n 40 (by omega) (by omega) (by omega), show (293 : Int32) * nI ((fi + (S.H.length + 1) - 1) % 40) = nI (293 * ((fi + (S.H.length + 1) - 1) % 40)) from i_mul 293 _]
    refine xCall_of (m_copyRow (d := d - 1) (μ := wI μ m 35 (nI (S.H.length + 1))) (x := 0) (N2 := 11720) (hs.s 30 0 293) (hs.s 33 0 11720) (hi.ne 30 33) (by omega) (by omega) (by omega)) (by omega) ?_
    intro r μ' hp
    have := fin (wI μ m 35 (nI (S.H.length + 1))) fi (by rw [if_neg c']) (by rw [hI_wI_s, upd_n _ (by decide)]; exact h5) (by rw [hI_wI_s, upd_s, Nat.min_eq_left (by omega)]) (fun i hik => hI_wI_n _ _ _ (hs.ne i hik)) (mOut.rf.f 35 _) rfl (fun k hk => by rw [hI_wI_s, upd_n _ hk.2]) r μ' (by rw [Nat.min_eq_left (by omega)]; exact hp)
    exact this
  · have c' := h40.mp c
    rw [show nI fi + 1 = nI (fi + 1) from nI_1 _, show nI (fi + 1) - nI (fi + 1) / 40 * 40 = nI ((fi + 1) % 40) from rem_n 40 (by omega) (by omega) (by omega)] at e5 e6 ⊢
    rw [hI_wI_s, upd_s] at e5
    rw [hI_wI_s, upd_n _ (by decide), h3, c'] at e6
    rw [e5, e6, nI_add, pred_n (by omega), show nI ((fi + 1) % 40 + 40 - 1) - nI ((fi + 1) % 40 + 40 - 1) / 40 * 40 = nI (((fi + 1) % 40 + 40 - 1) % 40) from rem_n 40 (by omega) (by omega) (by omega), show (293 : Int32) * nI (((fi + 1) % 40 + 40 - 1) % 40) = nI (293 * (((fi + 1) % 40 + 40 - 1) % 40)) from i_mul 293 _]
    refine xCall_of (m_copyRow (d := d - 1) (μ := wI μ m 34 (nI ((fi + 1) % 40))) (x := 0) (N2 := 11720) (hs.s 30 0 293) (hs.s 33 0 11720) (hi.ne 30 33) (by omega) (by omega) (by omega)) (by omega) ?_
    intro r μ' hp
    have e40 : min (S.H.length + 1) 40 = 40 := by omega
    have := fin (wI μ m 34 (nI ((fi + 1) % 40))) ((fi + 1) % 40) (by rw [if_pos c']) (by rw [hI_wI_s, upd_s]) (by rw [hI_wI_s, upd_n _ (by decide), h3, e40, c']) (fun i hik => hI_wI_n _ _ _ (hs.ne i hik)) (mOut.rf.f 34 _) rfl (fun k hk => by rw [hI_wI_s, upd_n _ hk.1]) r μ' (by rw [e40]; exact hp)
    exact this
end mact
