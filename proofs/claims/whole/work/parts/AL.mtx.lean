/-! the model's text: a book begins, a script is kept -/
section mtx
variable {d : Nat} {ro : Nat → Nat} {μ μ' : Hp} {m : Nat} {X : Nat → Nat} {S : St} {P : Pb}
theorem c_copyInts {a b N M : Nat} (ha : hS μ a = some (0, N)) (hb : hS μ b = some (0, M)) (hNM : N ≤ M) (hN : M < 1000) (hne : a ≠ b) : xC d yX12_copyInts cX12_copyInts 3 none 0 0 [.ref a, .ref b] μ ro (fun r μ' => r = none ∧ μ' = wRow μ b (fun j => if j < N then hI μ a j else hI μ b j)) := by
  refine I_X12_copyInts (fun J g hr => B_X12_copyInts_0 g hr ?_)
  have key := loopUp (Q := fun i => J (wRow μ b (fun j => if j < i then hI μ a j else hI μ b j)) 0 0 2 [(0, .ref a), (1, .ref b), (2, .int (nI i))] []) N ?_ (fun i hi ih => ?_) 0 (Nat.zero_le _)
  · have e : (fun j => if j < 0 then hI μ a j else hI μ b j) = hI μ b := funext fun j => if_neg (by omega)
    rw [e, wRow_id] at key
    exact key
  · exact B_X12_copyInts_2 g hr ha hb (pk_le N N (fun _ => ⟨rfl, rfl⟩) (fun q => by omega))
  · refine B_X12_copyInts_2 g hr ha hb (pk_le N i (fun q => by omega) (fun _ => ⟨vp_in_nI (by omega) (by omega), vp_in_nI (by omega) (by omega), ?_⟩))
    rw [nI_clamp (by omega), hI_wRow_n _ _ hne, wI_wRow, nI_1]
    have e : upd (fun j => if j < i then hI μ a j else hI μ b j) i (hI μ a i) = fun j => if j < i + 1 then hI μ a j else hI μ b j := funext fun j => by
      by_cases q : j = i
      · subst q; rw [upd_s, if_pos (by omega)]
      · rw [upd_n _ q]
        by_cases z : j < i
        · rw [if_pos z, if_pos (by omega)]
        · rw [if_neg z, if_neg (by omega)]
    rw [e]; exact ih
/-- what a beginning book may change in the model -/
def gFm (m : Nat) (X : Nat → Nat) (μ μ' : Hp) : Prop := (hR μ' = hR μ ∧ hS μ' = hS μ) ∧ (∀ a, a ≠ m → a ≠ X 8 → a ≠ X 10 → a ≠ X 12 → a ≠ X 30 → hI μ' a = hI μ a) ∧ (∀ a, a ≠ X 16 → a ≠ X 18 → hL μ' a = hL μ a) ∧ ∀ k, k ≠ 20 → k ≠ 22 → k ≠ 24 → k ≠ 35 → k ≠ 36 → hI μ' m k = hI μ m k
theorem gFm.tt {μ1 : Hp} (h : gFm m X μ μ1) (h' : gFm m X μ1 μ') : gFm m X μ μ' := ⟨⟨h'.1.1.trans h.1.1, h'.1.2.trans h.1.2⟩, fun a h1 h2 h3 h4 h5 => (h'.2.1 a h1 h2 h3 h4 h5).trans (h.2.1 a h1 h2 h3 h4 h5), fun a h1 h2 => (h'.2.2.1 a h1 h2).trans (h.2.2.1 a h1 h2), fun k h1 h2 h3 h4 h5 => (h'.2.2.2 k h1 h2 h3 h4 h5).trans (h.2.2.2 k h1 h2 h3 h4 h5)⟩
theorem gFm.x (hs : mSh μ m X) (i : Nat) (g : Nat → Int32) (hi : (i = 8 ∨ i = 10 ∨ i = 12 ∨ i = 30) ∧ i ∈ mK := by decide) : gFm m X μ (wRow μ (X i) g) := ⟨⟨rfl, rfl⟩, fun a h1 h2 h3 h4 h5 => hI_wRow_n _ _ (by rcases hi.1 with rfl | rfl | rfl | rfl <;> assumption), fun _ _ _ => rfl, fun k _ _ _ _ _ => by rw [hI_wRow_n _ _ (Ne.symm (hs.ne i hi.2))]⟩
theorem gFm.l (i k : Nat) (x : Int64) (hi : i = 16 ∨ i = 18 := by decide) : gFm m X μ (wL μ (X i) k x) := ⟨⟨rfl, rfl⟩, fun _ _ _ _ _ _ => rfl, fun a h1 h2 => hL_wL_n _ _ _ (by rcases hi with rfl | rfl <;> assumption), fun _ _ _ _ _ _ => rfl⟩
theorem gFm.g (k : Nat) (x : Int32) (hk : k = 20 ∨ k = 22 ∨ k = 24 ∨ k = 35 ∨ k = 36 := by decide) : gFm m X μ (wI μ m k x) := ⟨⟨rfl, rfl⟩, fun a h1 _ _ _ _ => hI_wI_n _ _ _ h1, fun _ _ _ => rfl, fun j h1 h2 h3 h4 h5 => by rw [hI_wI_s, upd_n _ (by omega)]⟩
theorem gFm.sh (h : gFm m X μ μ') (hs : mSh μ m X) : mSh μ' m X := hs.of h.1.2 h.1.1
theorem gFm.o (h : gFm m X μ μ') (hs : mSh μ m X) (hi : mInj X) (i : Nat) (hk : i ∈ mK ∧ i ≠ 8 ∧ i ≠ 10 ∧ i ≠ 12 ∧ i ≠ 30 := by decide) : hI μ' (X i) = hI μ (X i) := h.2.1 _ (hs.ne i hk.1) (fun e => hk.2.1 (hi i 8 hk.1 (by decide) e)) (fun e => hk.2.2.1 (hi i 10 hk.1 (by decide) e)) (fun e => hk.2.2.2.1 (hi i 12 hk.1 (by decide) e)) (fun e => hk.2.2.2.2 (hi i 30 hk.1 (by decide) e))
/-- a book that has begun: what was read, where it is kept now -/
def bgD (X : Nat → Nat) (μ μ' : Hp) : Prop := (∀ j, j < 18 → hI μ' (X 8) j = hI μ (X 7) j) ∧ (∀ j, j < 16 → hI μ' (X 10) j = hI μ (X 9) j) ∧ ∀ j, j < 132 → hI μ' (X 12) j = hI μ (X 11) j
def bgN (X : Nat → Nat) (μ μ' : Hp) : Prop := (∀ j, j < 6 → hL μ' (X 16) j = hL μ (X 15) j) ∧ ∀ j, j < 8 → hL μ' (X 18) j = hL μ (X 17) j
theorem c_mBegins (hd : 1 ≤ d) (hs : mSh μ m X) (hi : mInj X) (hP : mPB μ m X P) (hp : pOk P) : xC d yX12_begins cX12_begins 2 none 0 0 [.ref m] μ ro (fun r μ' => r = none ∧ gFm m X μ μ' ∧ bgD X μ μ' ∧ bgN X μ μ' ∧ (hI μ' m 20 = nI P.ld.length ∧ hI μ' m 22 = nI P.fm.length ∧ hI μ' m 24 = nI P.tr.length ∧ hI μ' m 35 = 0 ∧ hI μ' m 36 = 0) ∧ hI μ' (X 30) 30 = nI P.yr ∧ hI μ' (X 30) 31 = nI P.lk.length ∧ (∀ j, j < P.fm.length → hI μ' (X 30) (8 + j) = hI μ (X 9) (2 * j + 1)) ∧ (∀ j, j < 5 * P.lk.length → hI μ' (X 30) (32 + j) = hI μ (X 13) j) ∧ ∀ j, j < 293 → j ≠ 30 → j ≠ 31 → ¬ (8 ≤ j ∧ j < 8 + P.fm.length) → ¬ (32 ≤ j ∧ j < 32 + 5 * P.lk.length) → hI μ' (X 30) j = 0) := by
  obtain ⟨⟨p6, p8, p16, p12⟩, -⟩ := id hp
  refine I_X12_begins (fun J g hr => B_X12_begins_0 g hr hs.1 (hs.r 7 0 18) (hs.r 8 0 18) ?_)
  -- the links
  have s190 : ∀ k, k ≤ 5 * P.lk.length → ∀ μ', gFm m X μ μ' → bgD X μ μ' → bgN X μ μ' → (hI μ' m 20 = nI P.ld.length ∧ hI μ' m 22 = nI P.fm.length ∧ hI μ' m 24 = nI P.tr.length) → hI μ' (X 30) 30 = nI P.yr → hI μ' (X 30) 31 = nI P.lk.length → (∀ j, j < P.fm.length → hI μ' (X 30) (8 + j) = hI μ (X 9) (2 * j + 1)) → (∀ j, j < k → hI μ' (X 30) (32 + j) = hI μ (X 13) j) → (∀ j, j < 293 → j ≠ 30 → j ≠ 31 → ¬ (8 ≤ j ∧ j < 8 + P.fm.length) → ¬ (32 ≤ j ∧ j < 32 + k) → hI μ' (X 30) j = 0) → J μ' 0 0 190 [(0, .ref m), (1, .int (nI k))] [] := by
    refine loopUp (Q := fun k => ∀ μ', gFm m X μ μ' → bgD X μ μ' → bgN X μ μ' → (hI μ' m 20 = nI P.ld.length ∧ hI μ' m 22 = nI P.fm.length ∧ hI μ' m 24 = nI P.tr.length) → hI μ' (X 30) 30 = nI P.yr → hI μ' (X 30) 31 = nI P.lk.length → (∀ j, j < P.fm.length → hI μ' (X 30) (8 + j) = hI μ (X 9) (2 * j + 1)) → (∀ j, j < k → hI μ' (X 30) (32 + j) = hI μ (X 13) j) → (∀ j, j < 293 → j ≠ 30 → j ≠ 31 → ¬ (8 ≤ j ∧ j < 8 + P.fm.length) → ¬ (32 ≤ j ∧ j < 32 + k) → hI μ' (X 30) j = 0) → J μ' 0 0 190 [(0, .ref m), (1, .int (nI k))] []) (5 * P.lk.length) ?_ (fun k hk ih => ?_)
    · intro μ' G' D' N' c' y' l' f' k' z'
      have s' := G'.sh hs
      refine B_X12_begins_190 g hr s'.1 (s'.r 30 0 293) (s'.r 13 0 80) (s'.s 13 0 80) (s'.s 30 0 293) ?_
      rw [G'.2.2.2 25 (by decide) (by decide) (by decide) (by decide) (by decide), hP.1.2.2.2.1, show (5 : Int32) * nI P.lk.length = nI (5 * P.lk.length) from pk_mul 5 _]
      refine pk_le (5 * P.lk.length) (5 * P.lk.length) (fun _ => ⟨rfl, G'.tt ((gFm.g 35 _).tt (gFm.g 36 _)), ?_, N', ?_, ?_, ?_, ?_, ?_, ?_⟩) (fun q => by omega)
      · refine ⟨fun j hj => ?_, fun j hj => ?_, fun j hj => ?_⟩
        · rw [hI_wI_n _ _ _ (s'.ne 8), hI_wI_n _ _ _ (s'.ne 8)]; exact D'.1 j hj
        · rw [hI_wI_n _ _ _ (s'.ne 10), hI_wI_n _ _ _ (s'.ne 10)]; exact D'.2.1 j hj
        · rw [hI_wI_n _ _ _ (s'.ne 12), hI_wI_n _ _ _ (s'.ne 12)]; exact D'.2.2 j hj
      · rw [hI_wI_s, hI_wI_s]
        exact ⟨by rw [upd_n _ (by decide), upd_n _ (by decide)]; exact c'.1, by rw [upd_n _ (by decide), upd_n _ (by decide)]; exact c'.2.1, by rw [upd_n _ (by decide), upd_n _ (by decide)]; exact c'.2.2, by rw [upd_n _ (by decide), upd_s], upd_s _ _ _⟩
      · rw [hI_wI_n _ _ _ (s'.ne 30), hI_wI_n _ _ _ (s'.ne 30)]; exact y'
      · rw [hI_wI_n _ _ _ (s'.ne 30), hI_wI_n _ _ _ (s'.ne 30)]; exact l'
      · rw [hI_wI_n _ _ _ (s'.ne 30), hI_wI_n _ _ _ (s'.ne 30)]; exact f'
      · rw [hI_wI_n _ _ _ (s'.ne 30), hI_wI_n _ _ _ (s'.ne 30)]; exact k'
      · rw [hI_wI_n _ _ _ (s'.ne 30), hI_wI_n _ _ _ (s'.ne 30)]; exact z'
    · intro μ' G' D' N' c' y' l' f' k' z'
      have s' := G'.sh hs
      refine B_X12_begins_190 g hr s'.1 (s'.r 30 0 293) (s'.r 13 0 80) (s'.s 13 0 80) (s'.s 30 0 293) ?_
      rw [G'.2.2.2 25 (by decide) (by decide) (by decide) (by decide) (by decide), hP.1.2.2.2.1, show (5 : Int32) * nI P.lk.length = nI (5 * P.lk.length) from pk_mul 5 _, show (32 : Int32) + nI k = nI (32 + k) from nI_add 32 k, nI_clamp (by omega), nI_clamp (by omega), nI_1, G'.o hs hi 13]
      refine pk_le (5 * P.lk.length) k (fun q => by omega) (fun _ => ⟨vp_in_nI (by omega) (by omega), vp_in_nI (by omega) (by omega), ih _ (G'.tt (gFm.x s' 30 _)) ⟨?_, ?_, ?_⟩ N' ?_ ?_ ?_ (fun j hj => ?_) (fun j hj => ?_) (fun j h1 h2 h3 h4 h5 => ?_)⟩)
      · rw [wI_eq, hI_wRow_n _ _ (hi.ne 8 30)]; exact D'.1
      · rw [wI_eq, hI_wRow_n _ _ (hi.ne 10 30)]; exact D'.2.1
      · rw [wI_eq, hI_wRow_n _ _ (hi.ne 12 30)]; exact D'.2.2
      · rw [hI_wI_n _ _ _ (Ne.symm (s'.ne 30))]; exact c'
      · rw [hI_wI_s, upd_n _ (by omega)]; exact y'
      · rw [hI_wI_s, upd_n _ (by omega)]; exact l'
      · rw [hI_wI_s, upd_n _ (by omega)]; exact f' j hj
      · rw [hI_wI_s]
        by_cases e : j = k
        · subst e; rw [upd_s]
        · rw [upd_n _ (by omega)]; exact k' j (by omega)
      · rw [hI_wI_s, upd_n _ (by omega)]; exact z' j h1 h2 h3 h4 (by omega)
  -- the staff
  have s144 : ∀ f, f ≤ P.fm.length → ∀ μ', gFm m X μ μ' → bgD X μ μ' → bgN X μ μ' → (hI μ' m 20 = nI P.ld.length ∧ hI μ' m 22 = nI P.fm.length ∧ hI μ' m 24 = nI P.tr.length) → hI μ' (X 30) 30 = nI P.yr → (∀ j, j < f → hI μ' (X 30) (8 + j) = hI μ (X 9) (2 * j + 1)) → (∀ j, j < 293 → j ≠ 30 → ¬ (8 ≤ j ∧ j < 8 + f) → hI μ' (X 30) j = 0) → J μ' 0 0 144 [(0, .ref m), (1, .int (nI f))] [] := by
    refine loopUp (Q := fun f => ∀ μ', gFm m X μ μ' → bgD X μ μ' → bgN X μ μ' → (hI μ' m 20 = nI P.ld.length ∧ hI μ' m 22 = nI P.fm.length ∧ hI μ' m 24 = nI P.tr.length) → hI μ' (X 30) 30 = nI P.yr → (∀ j, j < f → hI μ' (X 30) (8 + j) = hI μ (X 9) (2 * j + 1)) → (∀ j, j < 293 → j ≠ 30 → ¬ (8 ≤ j ∧ j < 8 + f) → hI μ' (X 30) j = 0) → J μ' 0 0 144 [(0, .ref m), (1, .int (nI f))] []) P.fm.length ?_ (fun f hf ih => ?_)
    · intro μ' G' D' N' c' y' f' z'
      have s' := G'.sh hs
      refine B_X12_begins_144 g hr s'.1 (s'.r 30 0 293) (s'.s 30 0 293) (s'.r 10 0 16) (s'.s 10 0 16) ?_
      rw [c'.2.1, G'.2.2.2 25 (by decide) (by decide) (by decide) (by decide) (by decide), hP.1.2.2.2.1]
      refine pk_le P.fm.length P.fm.length (fun _ => ⟨lit_in 31 (by omega) (by omega), s190 0 (Nat.zero_le _) _ (G'.tt (gFm.x s' 30 _)) ⟨?_, ?_, ?_⟩ N' ?_ ?_ ?_ (fun j hj => ?_) (fun j hj => by omega) (fun j h1 h2 h3 h4 h5 => ?_)⟩) (fun q => by omega)
      · rw [wI_eq, hI_wRow_n _ _ (hi.ne 8 30)]; exact D'.1
      · rw [wI_eq, hI_wRow_n _ _ (hi.ne 10 30)]; exact D'.2.1
      · rw [wI_eq, hI_wRow_n _ _ (hi.ne 12 30)]; exact D'.2.2
      · rw [hI_wI_n _ _ _ (Ne.symm (s'.ne 30))]; exact c'
      · rw [hI_wI_s, upd_n _ (by decide)]; exact y'
      · rw [hI_wI_s, upd_s]
      · rw [hI_wI_s, upd_n _ (by omega)]; exact f' j hj
      · rw [hI_wI_s, upd_n _ h3]; exact z' j h1 h2 h4
    · intro μ' G' D' N' c' y' f' z'
      have s' := G'.sh hs
      refine B_X12_begins_144 g hr s'.1 (s'.r 30 0 293) (s'.s 30 0 293) (s'.r 10 0 16) (s'.s 10 0 16) ?_
      rw [c'.2.1, show (2 : Int32) * nI f = nI (2 * f) from pk_mul 2 _, nI_1 (2 * f), nI_1 f, show (8 : Int32) + nI f = nI (8 + f) from nI_add 8 f, nI_clamp (by omega), nI_clamp (by omega), D'.2.1 (2 * f + 1) (by omega)]
      refine pk_le P.fm.length f (fun q => by omega) (fun _ => ⟨vp_in_nI (by omega) (by omega), vp_in_nI (by omega) (by omega), ih _ (G'.tt (gFm.x s' 30 _)) ⟨?_, ?_, ?_⟩ N' ?_ ?_ (fun j hj => ?_) (fun j h1 h2 h3 => ?_)⟩)
      · rw [wI_eq, hI_wRow_n _ _ (hi.ne 8 30)]; exact D'.1
      · rw [wI_eq, hI_wRow_n _ _ (hi.ne 10 30)]; exact D'.2.1
      · rw [wI_eq, hI_wRow_n _ _ (hi.ne 12 30)]; exact D'.2.2
      · rw [hI_wI_n _ _ _ (Ne.symm (s'.ne 30))]; exact c'
      · rw [hI_wI_s, upd_n _ (by omega)]; exact y'
      · rw [hI_wI_s]
        by_cases e : j = f
        · subst e; rw [upd_s]
        · rw [upd_n _ (by omega)]; exact f' j (by omega)
      · rw [hI_wI_s, upd_n _ (by omega)]; exact z' j h1 h2 (by omega)
  -- the zeros
  have s111 : ∀ i, i ≤ 293 → ∀ μ', gFm m X μ μ' → bgD X μ μ' → bgN X μ μ' → (hI μ' m 20 = nI P.ld.length ∧ hI μ' m 22 = nI P.fm.length ∧ hI μ' m 24 = nI P.tr.length) → (∀ j, j < i → hI μ' (X 30) j = 0) → J μ' 0 0 111 [(0, .ref m), (1, .int (nI i))] [] := by
    refine loopUp (Q := fun i => ∀ μ', gFm m X μ μ' → bgD X μ μ' → bgN X μ μ' → (hI μ' m 20 = nI P.ld.length ∧ hI μ' m 22 = nI P.fm.length ∧ hI μ' m 24 = nI P.tr.length) → (∀ j, j < i → hI μ' (X 30) j = 0) → J μ' 0 0 111 [(0, .ref m), (1, .int (nI i))] []) 293 ?_ (fun i hi9 ih => ?_)
    · intro μ' G' D' N' c' z'
      have s' := G'.sh hs
      refine B_X12_begins_111 g hr s'.1 (s'.r 30 0 293) (s'.s 30 0 293) ?_
      rw [G'.2.2.2 26 (by decide) (by decide) (by decide) (by decide) (by decide), hP.1.2.2.2.2]
      refine pk_le 293 293 (fun _ => ⟨lit_in 30 (by omega) (by omega), s144 0 (Nat.zero_le _) _ (G'.tt (gFm.x s' 30 _)) ⟨?_, ?_, ?_⟩ N' ?_ ?_ (fun j hj => by omega) (fun j h1 h2 _ => ?_)⟩) (fun q => by omega)
      · rw [wI_eq, hI_wRow_n _ _ (hi.ne 8 30)]; exact D'.1
      · rw [wI_eq, hI_wRow_n _ _ (hi.ne 10 30)]; exact D'.2.1
      · rw [wI_eq, hI_wRow_n _ _ (hi.ne 12 30)]; exact D'.2.2
      · rw [hI_wI_n _ _ _ (Ne.symm (s'.ne 30))]; exact c'
      · rw [hI_wI_s, upd_s]
      · rw [hI_wI_s, upd_n _ h2]; exact z' j h1
    · intro μ' G' D' N' c' z'
      have s' := G'.sh hs
      refine B_X12_begins_111 g hr s'.1 (s'.r 30 0 293) (s'.s 30 0 293) ?_
      rw [nI_clamp (by omega), nI_1]
      refine pk_le 293 i (fun q => by omega) (fun _ => ⟨vp_in_nI (by omega) (by omega), ih _ (G'.tt (gFm.x s' 30 _)) ⟨?_, ?_, ?_⟩ N' ?_ (fun j hj => ?_)⟩)
      · rw [wI_eq, hI_wRow_n _ _ (hi.ne 8 30)]; exact D'.1
      · rw [wI_eq, hI_wRow_n _ _ (hi.ne 10 30)]; exact D'.2.1
      · rw [wI_eq, hI_wRow_n _ _ (hi.ne 12 30)]; exact D'.2.2
      · rw [hI_wI_n _ _ _ (Ne.symm (s'.ne 30))]; exact c'
      · rw [hI_wI_s]
        by_cases e : j = i
        · subst e; rw [upd_s]
        · rw [upd_n _ e]; exact z' j (by omega)
  -- the firms' names
  have s61 : ∀ i, i ≤ 8 → ∀ μ', gFm m X μ μ' → bgD X μ μ' → (∀ j, j < 6 → hL μ' (X 16) j = hL μ (X 15) j) → (∀ j, j < i → hL μ' (X 18) j = hL μ (X 17) j) → J μ' 0 0 61 [(0, .ref m), (1, .int (nI i))] [] := by
    refine loopUp (Q := fun i => ∀ μ', gFm m X μ μ' → bgD X μ μ' → (∀ j, j < 6 → hL μ' (X 16) j = hL μ (X 15) j) → (∀ j, j < i → hL μ' (X 18) j = hL μ (X 17) j) → J μ' 0 0 61 [(0, .ref m), (1, .int (nI i))] []) 8 ?_ (fun i hi9 ih => ?_)
    · intro μ' G' D' n1 n2
      have s' := G'.sh hs
      have c19 := G'.2.2.2 19 (by decide) (by decide) (by decide) (by decide) (by decide)
      have c21 := G'.2.2.2 21 (by decide) (by decide) (by decide) (by decide) (by decide)
      have c23 := G'.2.2.2 23 (by decide) (by decide) (by decide) (by decide) (by decide)
      refine B_X12_begins_61 g hr s'.1 (s'.r 18 2 8) (s'.r 17 2 8) (s'.s 17 2 8) (s'.s 18 2 8) (pk_le 8 8 (fun _ v2 e2 => ?_) (fun q => by omega))
      rw [hI_wI_s, upd_n _ (by decide), hI_wI_s, upd_n _ (by decide), c23, hP.1.2.2.1] at e2
      rw [hI_wI_s, upd_n _ (by decide), c19, c21, hP.1.1, hP.1.2.1, e2]
      refine s111 0 (Nat.zero_le _) _ (((G'.tt (gFm.g 20 _)).tt (gFm.g 22 _)).tt (gFm.g 24 _)) ⟨?_, ?_, ?_⟩ ⟨n1, n2⟩ ⟨?_, ?_, ?_⟩ (fun j hj => by omega)
      · rw [hI_wI_n _ _ _ (s'.ne 8), hI_wI_n _ _ _ (s'.ne 8), hI_wI_n _ _ _ (s'.ne 8)]; exact D'.1
      · rw [hI_wI_n _ _ _ (s'.ne 10), hI_wI_n _ _ _ (s'.ne 10), hI_wI_n _ _ _ (s'.ne 10)]; exact D'.2.1
      · rw [hI_wI_n _ _ _ (s'.ne 12), hI_wI_n _ _ _ (s'.ne 12), hI_wI_n _ _ _ (s'.ne 12)]; exact D'.2.2
      · rw [hI_wI_s, upd_n _ (by decide), hI_wI_s, upd_n _ (by decide), hI_wI_s, upd_s]
      · rw [hI_wI_s, upd_n _ (by decide), hI_wI_s, upd_s]
      · rw [hI_wI_s, upd_s]
    · intro μ' G' D' n1 n2
      have s' := G'.sh hs
      refine B_X12_begins_61 g hr s'.1 (s'.r 18 2 8) (s'.r 17 2 8) (s'.s 17 2 8) (s'.s 18 2 8) (pk_le 8 i (fun q => by omega) (fun _ => ⟨vp_in_nI (by omega) (by omega), vp_in_nI (by omega) (by omega), ?_⟩))
      rw [nI_clamp (by omega), nI_1, G'.2.2.1 _ (hi.ne 17 16) (hi.ne 17 18)]
      refine ih _ (G'.tt (gFm.l 18 _ _)) D' (fun j hj => ?_) (fun j hj => ?_)
      · rw [hL_wL_n _ _ _ (hi.ne 16 18)]; exact n1 j hj
      · rw [hL_wL_s]
        by_cases e : j = i
        · subst e; rw [updL_s]
        · rw [updL_n _ e]; exact n2 j (by omega)
  -- the lands' names
  have s35 : ∀ i, i ≤ 6 → ∀ μ', gFm m X μ μ' → bgD X μ μ' → (∀ j, j < i → hL μ' (X 16) j = hL μ (X 15) j) → J μ' 0 0 35 [(0, .ref m), (1, .int (nI i))] [] := by
    refine loopUp (Q := fun i => ∀ μ', gFm m X μ μ' → bgD X μ μ' → (∀ j, j < i → hL μ' (X 16) j = hL μ (X 15) j) → J μ' 0 0 35 [(0, .ref m), (1, .int (nI i))] []) 6 ?_ (fun i hi9 ih => ?_)
    · intro μ' G' D' n1
      have s' := G'.sh hs
      exact B_X12_begins_35 g hr s'.1 (s'.r 16 2 6) (s'.r 15 2 6) (s'.s 15 2 6) (s'.s 16 2 6) (pk_le 6 6 (fun _ => s61 0 (Nat.zero_le _) μ' G' D' n1 (fun j hj => by omega)) (fun q => by omega))
    · intro μ' G' D' n1
      have s' := G'.sh hs
      refine B_X12_begins_35 g hr s'.1 (s'.r 16 2 6) (s'.r 15 2 6) (s'.s 15 2 6) (s'.s 16 2 6) (pk_le 6 i (fun q => by omega) (fun _ => ⟨vp_in_nI (by omega) (by omega), vp_in_nI (by omega) (by omega), ?_⟩))
      rw [nI_clamp (by omega), nI_1, G'.2.2.1 _ (hi.ne 15 16) (hi.ne 15 18)]
      refine ih _ (G'.tt (gFm.l 16 _ _)) D' (fun j hj => ?_)
      rw [hL_wL_s]
      by_cases e : j = i
      · subst e; rw [updL_s]
      · rw [updL_n _ e]; exact n1 j (by omega)
  refine xCall_of (c_copyInts (d := d - 1) (hs.s 7 0 18) (hs.s 8 0 18) (by omega) (by omega) (hi.ne 7 8)) (by omega) ?_
  rintro r μ1 ⟨rfl, e1⟩
  have G1 : gFm m X μ μ1 := by rw [e1]; exact gFm.x hs 8 _
  have s1 := G1.sh hs
  refine ⟨rfl, s1.1, X 9, s1.r 9 0 16, X 10, s1.r 10 0 16, xCall_of (c_copyInts (d := d - 1) (s1.s 9 0 16) (s1.s 10 0 16) (by omega) (by omega) (hi.ne 9 10)) (by omega) ?_⟩
  rintro r μ2 ⟨rfl, e2⟩
  have G2 : gFm m X μ1 μ2 := by rw [e2]; exact gFm.x s1 10 _
  have s2 := G2.sh s1
  refine ⟨rfl, s2.1, X 11, s2.r 11 0 132, X 12, s2.r 12 0 132, xCall_of (c_copyInts (d := d - 1) (s2.s 11 0 132) (s2.s 12 0 132) (by omega) (by omega) (hi.ne 11 12)) (by omega) ?_⟩
  rintro r μ3 ⟨rfl, e3⟩
  have G3 : gFm m X μ2 μ3 := by rw [e3]; exact gFm.x s2 12 _
  refine ⟨rfl, s35 0 (Nat.zero_le _) μ3 ((G1.tt G2).tt G3) ⟨fun j hj => ?_, fun j hj => ?_, fun j hj => ?_⟩ (fun j hj => by omega)⟩
  · rw [e3, hI_wRow_n _ _ (hi.ne 8 12), e2, hI_wRow_n _ _ (hi.ne 8 10), e1, hI_wRow_s, if_pos hj]
  · rw [e3, hI_wRow_n _ _ (hi.ne 10 12), e2, hI_wRow_s, if_pos hj, G1.o hs hi 9]
  · rw [e3, hI_wRow_s, if_pos hj, G2.o s1 hi 11, G1.o hs hi 11]
end mtx
