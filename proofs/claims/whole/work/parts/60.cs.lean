/-! the class's cells: A i is the address of the i-th -/
def cTab : List (Nat × Nat × Nat) := [(0, 14, 18), (1, 10, 5), (2, 0, 400), (3, 3, 5), (4, 11, 2), (5, 11, 2), (6, 11, 2), (7, 11, 2), (8, 11, 2), (9, 0, 60), (10, 0, 60), (11, 0, 60), (12, 0, 60), (13, 0, 60), (14, 7, 9), (15, 13, 5), (16, 0, 35), (17, 0, 64), (18, 0, 64), (19, 0, 64), (20, 0, 36), (21, 13, 5), (22, 0, 35), (23, 5, 1), (24, 8, 3), (25, 0, 4480), (26, 9, 3), (27, 0, 300), (28, 9, 3), (29, 0, 300), (30, 4, 4), (31, 0, 4), (32, 0, 5), (33, 12, 4), (34, 0, 112), (35, 12, 4), (36, 0, 112), (37, 12, 4), (38, 0, 112), (39, 6, 9), (40, 2, 6), (41, 2, 8), (42, 0, 18), (43, 0, 8), (44, 0, 132), (45, 6, 9), (46, 2, 6), (47, 2, 8), (48, 0, 18), (49, 0, 8), (50, 0, 132)]
def cRef : List (Nat × Nat × Nat) := [(0, 0, 1), (0, 1, 3), (0, 2, 14), (0, 3, 23), (0, 4, 24), (0, 5, 26), (0, 6, 28), (0, 7, 30), (0, 8, 31), (0, 9, 32), (0, 10, 33), (0, 11, 35), (0, 12, 37), (0, 13, 39), (0, 14, 45), (1, 4, 2), (3, 0, 4), (3, 1, 5), (3, 2, 6), (3, 3, 7), (3, 4, 8), (4, 0, 9), (5, 0, 10), (6, 0, 11), (7, 0, 12), (8, 0, 13), (14, 0, 15), (14, 2, 17), (14, 3, 18), (14, 4, 19), (14, 5, 20), (14, 6, 21), (15, 0, 16), (21, 0, 22), (23, 0, 14), (24, 2, 25), (26, 2, 27), (28, 2, 29), (33, 0, 34), (33, 1, 39), (35, 0, 36), (35, 1, 39), (37, 0, 38), (39, 0, 40), (39, 1, 41), (39, 2, 42), (39, 3, 43), (39, 4, 44), (45, 0, 46), (45, 1, 47), (45, 2, 48), (45, 3, 49), (45, 4, 50)]
def cSh (μ : Hp) (A : Nat → Nat) : Prop := (∀ q, q ∈ cTab → hS μ (A q.1) = some q.2) ∧ ∀ q, q ∈ cRef → hR μ (A q.1) q.2.1 = some (A q.2.2)
def cInj (A : Nat → Nat) : Prop := ∀ i j, i < 51 → j < 51 → A i = A j → i = j
theorem cInj.ne {A : Nat → Nat} (h : cInj A) (i j : Nat) (hi : i < 51 := by decide) (hj : j < 51 := by decide) (hij : i ≠ j := by decide) : A i ≠ A j := fun e => hij (h i j hi hj e)
theorem cSh.s {μ : Hp} {A : Nat → Nat} (h : cSh μ A) (i k n : Nat) (hk : (i, k, n) ∈ cTab := by decide) : hS μ (A i) = some (k, n) := h.1 (i, k, n) hk
theorem cSh.r {μ : Hp} {A : Nat → Nat} (h : cSh μ A) (i k j : Nat) (hk : (i, k, j) ∈ cRef := by decide) : hR μ (A i) k = some (A j) := h.2 (i, k, j) hk
theorem cSh.of {μ μ' : Hp} {A : Nat → Nat} (h : cSh μ A) (h1 : hS μ' = hS μ) (h2 : hR μ' = hR μ) : cSh μ' A := by
  unfold cSh at h ⊢
  rw [h1, h2]
  exact h
theorem cSh.fr {μ μ' : Hp} {A : Nat → Nat} {S : List Nat} (h : cSh μ A) (hF : Fr S μ μ') : cSh μ' A := h.of hF.2.2.1 hF.2.1
/-- a cell out of those that changed -/
theorem Fr.o {A : Nat → Nat} {I : List Nat} {μ μ' : Hp} (h : Fr (I.map A) μ μ') (hj : cInj A) (i : Nat) (hi : i < 51 ∧ i ∉ I ∧ ∀ k ∈ I, k < 51 := by decide) : hI μ' (A i) = hI μ (A i) := by
  refine h.2.2.2 _ (fun hm => ?_)
  obtain ⟨k, hk, e⟩ := List.mem_map.mp hm
  have := hj k i (hi.2.2 k hk) hi.1 e
  subst this
  exact hi.2.1 hk
theorem Fr.wiA {A : Nat → Nat} {I : List Nat} {μ μ' : Hp} (h : Fr (I.map A) μ μ') (i k : Nat) (x : Int32) (hi : i ∈ I := by decide) : Fr (I.map A) μ (wI μ' (A i) k x) := h.w1 (List.mem_map.mpr ⟨i, hi, rfl⟩)
theorem Fr.rowA {A : Nat → Nat} {I : List Nat} {μ μ' : Hp} (h : Fr (I.map A) μ μ') (i : Nat) (g : Nat → Int32) (hi : i ∈ I := by decide) : Fr (I.map A) μ (wRow μ' (A i) g) := h.w2 (List.mem_map.mpr ⟨i, hi, rfl⟩)
theorem Fr.subA {A : Nat → Nat} {I K : List Nat} {μ μ' : Hp} (h : Fr (I.map A) μ μ') (hi : ∀ k ∈ I, k ∈ K := by decide) : Fr (K.map A) μ μ' := h.sub (fun a ha => by
  obtain ⟨k, hk, e⟩ := List.mem_map.mp ha
  exact List.mem_map.mpr ⟨k, hi k hk, e⟩)
theorem cSh.st {μ : Hp} {A : Nat → Nat} (h : cSh μ A) : isSt μ (A 33) (A 34) := ⟨h.s 33 12 4, h.r 33 0 34, h.s 34 0 112⟩
theorem cSh.sc {μ : Hp} {A : Nat → Nat} (h : cSh μ A) : isSt μ (A 35) (A 36) := ⟨h.s 35 12 4, h.r 35 0 36, h.s 36 0 112⟩
theorem cSh.im {μ : Hp} {A : Nat → Nat} (h : cSh μ A) : isSt μ (A 37) (A 38) := ⟨h.s 37 12 4, h.r 37 0 38, h.s 38 0 112⟩
theorem cSh.bk {μ : Hp} {A : Nat → Nat} (h : cSh μ A) : isBk μ (A 39) (A 40) (A 41) (A 42) (A 43) (A 44) :=
  ⟨h.s 39 6 9, ⟨h.r 39 0 40, h.r 39 1 41, h.r 39 2 42, h.r 39 3 43, h.r 39 4 44⟩, h.s 40 2 6, h.s 41 2 8, h.s 42 0 18, h.s 43 0 8, h.s 44 0 132⟩
theorem cSh.fd {μ : Hp} {A : Nat → Nat} (h : cSh μ A) : isFd μ (A 14) (A 15) (A 21) (A 17) (A 18) (A 19) (A 20) :=
  ⟨h.s 14 7 9, ⟨h.r 14 0 15, h.r 14 2 17, h.r 14 3 18, h.r 14 4 19, h.r 14 5 20, h.r 14 6 21⟩, h.s 17 0 64, h.s 18 0 64, h.s 19 0 64, h.s 20 0 36⟩
theorem cSh.wb {μ : Hp} {A : Nat → Nat} (h : cSh μ A) : isWy μ (A 15) (A 16) := ⟨h.s 15 13 5, h.r 15 0 16, h.s 16 0 35⟩
theorem cSh.wt {μ : Hp} {A : Nat → Nat} (h : cSh μ A) : isWy μ (A 21) (A 22) := ⟨h.s 21 13 5, h.r 21 0 22, h.s 22 0 35⟩
/-! a book's numbers -/
def Bk : Type := (Nat → Int32) × (Nat → Int32) × (Nat → Int32) × Nat × Nat × Nat
def Bk.lw (B : Bk) : Nat → Int32 := B.1
def Bk.lo (B : Bk) : Nat → Int32 := B.2.1
def Bk.tr (B : Bk) : Nat → Int32 := B.2.2.1
def Bk.nl (B : Bk) : Nat := B.2.2.2.1
def Bk.nf (B : Bk) : Nat := B.2.2.2.2.1
def Bk.nt (B : Bk) : Nat := B.2.2.2.2.2
def Bk.ok (B : Bk) : Prop := bookOK B.lw B.lo B.tr B.nl B.nf B.nt ∧ (B.nf = 0 → B.nl = 0)
def Bk.row (B : Bk) (f : Nat → Int32) : Prop := rowOK f (cl (f 1)) B.nf B.nl
def Bk.D (B : Bk) (f : Nat → Int32) (p q s : Int32) (to : Nat) : Hd := mkD f B.lw B.lo B.tr B.nt B.nf p q s to
theorem Bk.D_ok {B : Bk} (hb : B.ok) {f : Nat → Int32} (hr : B.row f) {p q s : Int32} {to : Nat} (ht : to < B.nf) : (B.D f p q s to).ok := mkD_ok hr hb.1 ht
def tM (M u : Nat) : Nat → Bool := (M ||| 2 ^ u).testBit
/-- the way that a search finds; what arrives by it -/
def wayOf (B : Bk) (f : Nat → Int32) (p q : Int32) (sp : Bool) (s : Int32) (u t a M : Nat) : Option (List Nat) := bestD (B.D f p q s t) sp u a (tM M u)
def arrOf (B : Bk) (f : Nat → Int32) (p q s : Int32) (u t a M : Nat) : Int32 := match wayOf B f p q false s u t a M with
  | none => -1
  | some w => nI (leftW (B.D f p q s t) u a w)
abbrev inN (x : Int32) (n : Nat) : Prop := ¬ x < 0 ∧ ¬ nI n ≤ x
theorem inN.ex {x : Int32} {n : Nat} (h : inN x n) (hn : n < 2 ^ 31) : x = nI (cl x) ∧ cl x < n := by
  obtain ⟨h1, h2⟩ := h
  obtain ⟨j, hj, rfl⟩ := nI_of h1
  rw [cl_nI hj]
  refine ⟨rfl, ?_⟩
  rcases Nat.lt_or_ge j n with h | h
  · exact h
  · exact absurd (nI_le h hj) h2
theorem inN_nI {k n : Nat} (h : k < n) (hn : n < 2 ^ 31) : inN (nI k) n := ⟨nI_pos (by omega), nI_ge h hn⟩
/-- what can be asked for a way -/
abbrev asked (nf : Nat) (s u t a : Int32) : Prop := (s = 0 ∨ s = 1) ∧ inN u nf ∧ inN t nf ∧ ¬ u = t ∧ ¬ a < 1 ∧ ¬ 1000000 < a
theorem asked.ex {nf : Nat} {s u t a : Int32} (h : asked nf s u t a) (hn : nf ≤ 8) : (s = nI (cl s) ∧ cl s < 2) ∧ (u = nI (cl u) ∧ cl u < nf) ∧ (t = nI (cl t) ∧ cl t < nf) ∧ cl u ≠ cl t ∧ a = nI (cl a) ∧ 1 ≤ cl a ∧ cl a ≤ 1000000 := by
  obtain ⟨h1, h2, h3, h4, h5, h6⟩ := h
  have e2 := h2.ex (by omega)
  have e3 := h3.ex (by omega)
  refine ⟨?_, e2, e3, fun e => h4 (by rw [e2.1, e3.1, e]), ?_⟩
  · rcases h1 with rfl | rfl <;> decide
  · have h0 : ¬ a < 0 := fun h => h5 (Int32.lt_trans h (by decide))
    obtain ⟨j, hj, rfl⟩ := nI_of h0
    rw [cl_nI hj]
    refine ⟨rfl, ?_, ?_⟩
    · rcases Nat.eq_zero_or_pos j with e | e
      · subst e; exact absurd (by decide) h5
      · exact e
    · rcases Nat.lt_or_ge 1000000 j with e | e
      · exact absurd (nI_lt e hj) h6
      · exact e
/-- the way found as things are, if it can be asked for -/
def fndA (B : Bk) (f : Nat → Int32) (s u t a : Int32) : Option (List Nat) := if asked B.nf s u t a then wayOf B f (-1) (-1) false s (cl u) (cl t) (cl a) 0 else none
/-! what a query of the class reads and changes -/
def cQ (μ : Hp) (A : Nat → Nat) (B : Bk) (f : Nat → Int32) : Prop :=
  (cSh μ A ∧ cInj A) ∧ (hI μ (A 39) 5 = nI B.nl ∧ hI μ (A 39) 6 = nI B.nf ∧ hI μ (A 39) 7 = nI B.nt) ∧ (hI μ (A 42) = B.lw ∧ hI μ (A 43) = B.lo ∧ hI μ (A 44) = B.tr) ∧ B.ok ∧ (hI μ (A 34) = f ∧ B.row f ∧ hI μ (A 33) 2 = -1 ∧ hI μ (A 33) 3 = -1) ∧ hI μ (A 14) 8 = 0 ∧ (∀ j, 112 ≤ j → f j = 0) ∧ ∀ j, 112 ≤ j → hI μ (A 36) j = 0
abbrev qI : List Nat := [14, 15, 16, 17, 18, 19, 20, 21, 22, 35, 36]
def qFr (A : Nat → Nat) (μ μ' : Hp) : Prop := Fr (qI.map A) μ μ' ∧ hI μ' (A 14) 8 = hI μ (A 14) 8 ∧ ∀ j, 112 ≤ j → hI μ' (A 36) j = hI μ (A 36) j
theorem qFr.rf {A : Nat → Nat} {μ : Hp} : qFr A μ μ := ⟨Fr.rf, rfl, fun _ _ => rfl⟩
theorem qFr.tt {A : Nat → Nat} {μ μ1 μ2 : Hp} (h : qFr A μ μ1) (h2 : qFr A μ1 μ2) : qFr A μ μ2 := ⟨h.1.tt h2.1, h2.2.1.trans h.2.1, fun j hj => (h2.2.2 j hj).trans (h.2.2 j hj)⟩
theorem qFr.wi {A : Nat → Nat} {μ μ1 : Hp} (h : qFr A μ μ1) (hj : cInj A) (i k : Nat) (x : Int32) (hi : (i ∈ qI ∧ i ≠ 14 ∧ i < 51) ∧ (i ≠ 36 ∨ k < 112) := by decide) : qFr A μ (wI μ1 (A i) k x) :=
  ⟨h.1.w1 (List.mem_map.mpr ⟨i, hi.1.1, rfl⟩), by rw [hI_wI_n _ _ _ (hj.ne 14 i (by decide) hi.1.2.2 (Ne.symm hi.1.2.1))]; exact h.2.1, fun j hj1 => by
    by_cases e : i = 36
    · subst e
      rw [hI_wI_s, upd_n _ (by omega)]; exact h.2.2 j hj1
    · rw [hI_wI_n _ _ _ (hj.ne 36 i (by decide) hi.1.2.2 (Ne.symm e))]; exact h.2.2 j hj1⟩
theorem qFr.sc {A : Nat → Nat} {μ μ1 : Hp} (h : qFr A μ μ1) (hj : cInj A) {g : Nat → Int32} (hg : ∀ j, 112 ≤ j → g j = hI μ (A 36) j) : qFr A μ (wRow μ1 (A 36) g) :=
  ⟨h.1.w2 (List.mem_map.mpr ⟨36, by decide, rfl⟩), by rw [hI_wRow_n _ _ (hj.ne 14 36)]; exact h.2.1, fun j hj1 => by rw [hI_wRow_s]; exact hg j hj1⟩
theorem cQ.fr {μ μ' : Hp} {A : Nat → Nat} {B : Bk} {f : Nat → Int32} (h : cQ μ A B f) (hF : qFr A μ μ') : cQ μ' A B f := by
  obtain ⟨⟨h1, h2⟩, h3, h4, h5, h6, h7, h8, h9⟩ := h
  refine ⟨⟨h1.fr hF.1, h2⟩, ?_, ?_, h5, ?_, ?_, h8, fun j hj => (hF.2.2 j hj).trans (h9 j hj)⟩
  · rw [hF.1.o h2 39]; exact h3
  · rw [hF.1.o h2 42, hF.1.o h2 43, hF.1.o h2 44]; exact h4
  · rw [hF.1.o h2 34, hF.1.o h2 33]; exact h6
  · rw [hF.2.1]; exact h7
/-- the best way as the finder holds it -/
def cBest (μ : Hp) (A : Nat → Nat) (D : Hd) (u a : Nat) (w : List Nat) : Prop := rcs (hI μ (A 16)) (recs D u a w) ∧ w.length ≤ 5 ∧ hI μ (A 15) 1 = nI u ∧ hI μ (A 15) 2 = nI w.length ∧ hI μ (A 15) 3 = nI (leftW D u a w) ∧ hI μ (A 15) 4 = nI (heldW D u a w)
theorem nodup_map {A : Nat → Nat} : ∀ {I : List Nat}, (∀ a ∈ I, ∀ b ∈ I, A a = A b → a = b) → I.Nodup → (I.map A).Nodup
  | [], _, _ => List.nodup_nil
  | i :: I, h, hn => by
    rw [List.nodup_cons] at hn
    rw [List.map_cons, List.nodup_cons]
    refine ⟨fun hm => ?_, nodup_map (fun a ha b hb => h a (List.mem_cons_of_mem _ ha) b (List.mem_cons_of_mem _ hb)) hn.2⟩
    obtain ⟨k, hk, e⟩ := List.mem_map.mp hm
    have := h k (List.mem_cons_of_mem _ hk) i List.mem_cons_self e
    subst this
    exact hn.1 hk
theorem xCall.mono {d d' : Nat} {y : MethodName} {bytes : ByteArray} {maxL : Nat} {rt : Option FieldType} {As : List Value} {μ : Hp} {ro : Nat → Nat} {K K' : Option Value → Hp → Prop} (h : xCall d' y bytes maxL rt As μ ro K) (hd : d' ≤ d) (hk : ∀ r μ', K r μ' → K' r μ') : xCall d y bytes maxL rt As μ ro K' := by
  obtain ⟨e, Z, h1, h2, h3⟩ := h
  exact ⟨e, Z, h1, by omega, fun r μ' h => hk r μ' (h3 r μ' h)⟩
theorem c_cFind {d : Nat} {ro : Nat → Nat} {μ : Hp} {A : Nat → Nat} {B : Bk} {g : Nat → Int32} {si u to amt M : Nat} {s p q : Int32} {sp : Bool} (hd : 9 ≤ d) (hsi : si = 33 ∨ si = 35) (hsh : cSh μ A) (hj : cInj A) (hn : hI μ (A 39) 5 = nI B.nl ∧ hI μ (A 39) 6 = nI B.nf ∧ hI μ (A 39) 7 = nI B.nt) (hb : hI μ (A 42) = B.lw ∧ hI μ (A 43) = B.lo ∧ hI μ (A 44) = B.tr) (hB : B.ok)
    (hg : hI μ (A (si + 1)) = g) (hrow : B.row g) (hp : hI μ (A si) 2 = p ∧ hI μ (A si) 3 = q) (hsp : hI μ (A 14) 8 = if sp = true then 1 else 0) (hu : u < B.nf) (hto : to < B.nf) (hamt : amt ≤ 1000000) (hM : M < 256) :
    xCall d yX3_find cX3_find 7 (some .boolean) [.ref (A 14), .ref (A si), .int s, .int (nI u), .int (nI to), .int (nI amt), .int (nI M)] μ ro (fun r μ' => qFr A μ μ' ∧ hI μ' (A 35) = hI μ (A 35) ∧ hI μ' (A 36) = hI μ (A 36) ∧
      hI μ' (A 14) 1 = nI (waysD (B.D g p q s to) 5 u (tM M u)).length ∧ r = some (.int (if (waysD (B.D g p q s to) 5 u (tM M u)).length = 0 then 0 else 1)) ∧ ((waysD (B.D g p q s to) 5 u (tM M u)).length = 0 ↔ wayOf B g p q sp s u to amt M = none) ∧ ∀ w, wayOf B g p q sp s u to amt M = some w → cBest μ' A (B.D g p q s to) u amt w) := by
  have hfs : fSh μ (A 14) (A 15) (A 16) (A 21) (A 22) (A 17) (A 18) (A 19) (A 20) (A si) (A (si + 1)) (A 39) (A 40) (A 41) (A 42) (A 43) (A 44) := by
    rcases hsi with rfl | rfl
    · exact ⟨hsh.fd, hsh.wt, hsh.wb, hsh.st, hsh.r 33 1 39, hsh.bk⟩
    · exact ⟨hsh.fd, hsh.wt, hsh.wb, hsh.sc, hsh.r 35 1 39, hsh.bk⟩
  have hap : fAp (A 15) (A 16) (A 21) (A 22) (A 17) (A 18) (A 19) (A 20) (A (si + 1)) (A 42) (A 43) (A 44) := by
    refine ⟨hj.ne 15 21, ?_⟩
    have h1 : ∀ I : List Nat, (∀ i ∈ I, i < 51) → I.Nodup → (I.map A).Nodup := fun I h1 h2 => nodup_map (fun a ha b hb e => hj a b (h1 a ha) (h1 b hb) e) h2
    rcases hsi with rfl | rfl
    · exact h1 [22, 16, 17, 19, 18, 20, 34, 42, 43, 44] (by decide) (by decide)
    · exact h1 [22, 16, 17, 19, 18, 20, 36, 42, 43, 44] (by decide) (by decide)
  subst hg
  obtain ⟨rfl, rfl⟩ := hp
  refine xCall_of (c_find (d := d - 1) (μ := μ) (s := s) (sp := sp) (by omega) hfs hap hrow (by rw [hb.1, hb.2.1, hb.2.2]; exact hB.1) hn.1 hn.2.1 hn.2.2 hsp hu hto hamt hM) (by omega) ?_
  rintro r μ' ⟨h1, h2, h3, h4⟩
  rw [hb.1, hb.2.1, hb.2.2] at h3 h4
  have hF : Fr (([22, 14, 15, 16, 21, 17, 19, 18, 20] : List Nat).map A) μ μ' := h1
  obtain ⟨k1, k2, k3⟩ := h4
  exact ⟨⟨hF.subA, h2 8 (by decide) (by decide), fun j _ => by rw [hF.o hj 36]⟩, hF.o hj 35, hF.o hj 36, k1, h3, k2, fun w hw => ⟨(k3 w hw).1, (k3 w hw).2.1, (k3 w hw).2.2.1, (k3 w hw).2.2.2.1, (k3 w hw).2.2.2.2.1, (k3 w hw).2.2.2.2.2.1⟩⟩
