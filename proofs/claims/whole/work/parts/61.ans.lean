/-! the answers, as numbers of book and row -/
section ans
variable (B : Bk) (f : Nat → Int32)
/-- by the way that is found: g of it -/
def onW (o : Option (List Nat)) (g : List Nat → Int32) : Int32 := match o with
  | none => -1
  | some w => g w
theorem onW_none (g : List Nat → Int32) : onW none g = -1 := rfl
theorem onW_some (w : List Nat) (g : List Nat → Int32) : onW (some w) g = g w := rfl
def aBest (s u t a x : Int32) : Int32 := if x < 0 ∨ 3 < x then -1 else onW (fndA B f s u t a) (fun w =>
  if x = 0 then nI (leftW (B.D f (-1) (-1) s (cl t)) (cl u) (cl a) w) else if x = 1 then nI w.length else if x = 2 then nI (heldW (B.D f (-1) (-1) s (cl t)) (cl u) (cl a) w) else nI (dueW (B.D f (-1) (-1) s (cl t)) (cl u) (cl a) w))
def rcN (r : Rc) (x : Int32) : Int32 := if x = 0 then nI r.fm else if x = 1 then nI r.rt else if x = 2 then nI r.ar else if x = 3 then nI r.pd else nI r.hd
def aStop (s u t a i x : Int32) : Int32 := if i < 0 ∨ x < 0 ∨ 4 < x then -1 else onW (fndA B f s u t a) (fun w =>
  match (recs (B.D f (-1) (-1) s (cl t)) (cl u) (cl a) w)[cl i]? with
  | none => -1
  | some r => rcN r x)
def aLoops (s u t : Int32) : Int32 := if asked B.nf s u t 1 then nI (waysD (B.D f (-1) (-1) s (cl t)) 5 (cl u) (tM 0 (cl u))).length else -1
def aLeast (s u t a x : Int32) : Int32 := if x < 0 ∨ 2 < x then -1 else if asked B.nf s u t a then onW (wayOf B f (-1) (-1) true s (cl u) (cl t) (cl a) 0) (fun w =>
  if x = 0 then nI (heldW (B.D f (-1) (-1) s (cl t)) (cl u) (cl a) w) else if x = 1 then nI w.length else nI (leftW (B.D f (-1) (-1) s (cl t)) (cl u) (cl a) w)) else -1
def onK (o : Option Nat) (g : Nat → Int32) : Int32 := match o with
  | none => -1
  | some k => g k
def aDirect (s u t a : Int32) : Int32 := if asked B.nf s u t a then onK ((B.D f (-1) (-1) s (cl t)).lk (cl u) (cl t)) (fun k => nI (cl a - cl a * (B.D f (-1) (-1) s (cl t)).rt k / 1000)) else -1
def aHop (s u t o x : Int32) : Int32 := if (s = 0 ∨ s = 1) ∧ inN u B.nf ∧ inN t B.nf ∧ inN o B.nf ∧ ¬ x < 0 ∧ x ≤ 1 then onK ((B.D f (-1) (-1) s (cl o)).lk (cl u) (cl t)) (fun k => if x = 0 then nI ((B.D f (-1) (-1) s (cl o)).rt k) else nI ((B.D f (-1) (-1) s (cl o)).ar k)) else -1
/-- what a land takes of hops -/
def tkA (l : Int32) : Int32 → Nat → List Rc → Int32
  | acc, _, [] => acc
  | acc, p, r :: rs => tkA l ((acc + (if B.lo p = l then nI r.hd else 0)) + (if B.lo r.fm = l then nI r.du else 0)) r.fm rs
def aTake (s u t a l : Int32) : Int32 := if inN l B.nl then onW (fndA B f s u t a) (fun w => tkA B l 0 (cl u) (recs (B.D f (-1) (-1) s (cl t)) (cl u) (cl a) w)) else -1
def aAsOf (s u t a y x : Int32) : Int32 := if x < 0 ∨ 1 < x ∨ y < 0 ∨ 199 < y then -1 else if asked B.nf s u t a then onW (wayOf B (upd f 0 y) (-1) (-1) false s (cl u) (cl t) (cl a) 0) (fun w =>
  if x = 0 then nI (leftW (B.D (upd f 0 y) (-1) (-1) s (cl t)) (cl u) (cl a) w) else nI w.length) else -1
/-- the first of the most: g at i, i + 1 .. -/
def fmA (g : Nat → Int32) : Nat → Nat → Int32 → Int32 → Int32
  | _, 0, _, b => b
  | i, m + 1, mo, b => if g i ≤ mo then fmA g (i + 1) m mo b else fmA g (i + 1) m (g i) (nI i)
def aHire (s u t a v : Int32) : Int32 := if inN v B.nf ∧ asked B.nf s u t a then fmA (fun n => arrOf B (upd f (2 + cl v) (nI n)) (-1) (-1) s (cl u) (cl t) (cl a) 0) 0 100 (-1) (-1) else -1
def aWithout (s u t a v : Int32) : Int32 := if (inN v B.nf ∧ ¬ v = u ∧ ¬ v = t) ∧ asked B.nf s u t a then arrOf B f (-1) (-1) s (cl u) (cl t) (cl a) (2 ^ cl v) else -1
/-- the first of the least, where p lets it -/
def flA (p : Nat → Bool) (g : Nat → Int32) : Nat → Nat → Int32 → Int32 → Int32
  | _, 0, _, b => b
  | i, m + 1, mo, b => if p i = true ∧ ¬ mo ≤ g i then flA p g (i + 1) m (g i) (nI i) else flA p g (i + 1) m mo b
def aKey (s u t a : Int32) : Int32 := onW (fndA B f s u t a) (fun _ => flA (fun v => decide (¬ v = cl u ∧ ¬ v = cl t)) (fun v => arrOf B f (-1) (-1) s (cl u) (cl t) (cl a) (2 ^ v)) 0 B.nf 1000001 (-1))
def aLapsed (s u t a l o : Int32) : Int32 := if (inN l B.nl ∧ inN o B.nl ∧ ¬ l = o) ∧ asked B.nf s u t a then arrOf B f l o s (cl u) (cl t) (cl a) 0 else -1
def aSoon (s u t a : Int32) : Int32 := if asked B.nf s u t a then fmA (fun y => arrOf B (upd f 0 (nI y)) (-1) (-1) s (cl u) (cl t) (cl a) 0) (cl (f 0)) (min (cl (f 0) + 20) 199 + 1 - cl (f 0)) (-1) (-1) else -1
def aWorth (s u t a k : Int32) : Int32 := if inN k (cl (f 1)) then onW (fndA B f s u t a) (fun w => nI (leftW (B.D f (-1) (-1) s (cl t)) (cl u) (cl a) w) - (if 0 < arrOf B (remF f (cl k) (cl (f 1))) (-1) (-1) s (cl u) (cl t) (cl a) 0 then arrOf B (remF f (cl k) (cl (f 1))) (-1) (-1) s (cl u) (cl t) (cl a) 0 else 0)) else -1
def aGross (s u t a : Int32) : Int32 := if asked B.nf s u t a then oI (fstP (fun p => decide (a ≤ arrOf B f (-1) (-1) s (cl u) (cl t) p 0)) 1 1000000) else -1
end ans
/-! ways as lists -/
def wOk (D : Hd) (n u : Nat) (T : Nat → Bool) (w : List Nat) : Prop := w ≠ [] ∧ w.length ≤ n ∧ chn D u w ∧ (u :: w)[w.length]? = some D.to ∧ (∀ x ∈ w.dropLast, x ≠ D.to) ∧ w.Nodup ∧ ∀ x ∈ w, T x = false
theorem mem_ways {D : Hd} : ∀ {n u : Nat} {T : Nat → Bool} {w : List Nat}, w ∈ waysD D n u T → wOk D n u T w
  | 0, u, T, w, h => by simp [waysD] at h
  | n + 1, u, T, w, h => by
    unfold waysD at h
    obtain ⟨v, hv, h⟩ := List.mem_flatMap.mp h
    have hv' : v < D.nf := List.mem_range.mp hv
    unfold stepW at h
    split at h
    · rename_i hc
      have hlk : ∃ k, D.lk u v = some k := Option.isSome_iff_exists.mp hc.1
      split at h
      · rename_i he
        rw [List.mem_singleton] at h
        subst h
        refine ⟨by simp, by simp, ⟨hlk, hv', trivial⟩, by simp [he], by simp, by simp, fun x hx => ?_⟩
        rw [List.mem_singleton] at hx
        subst hx; exact hc.2
      · rename_i he
        obtain ⟨w', hw', rfl⟩ := List.mem_map.mp h
        obtain ⟨k1, k2, k3, k4, k5, k6, k7⟩ := mem_ways hw'
        have hT : ∀ x ∈ w', T x = false ∧ x ≠ v := fun x hx => by
          have := k7 x hx
          simp only [addT, Bool.or_eq_false_iff, beq_eq_false_iff_ne] at this
          exact this
        refine ⟨by simp, by simp; omega, ⟨hlk, hv', k3⟩, ?_, ?_, ?_, ?_⟩
        · simpa using k4
        · intro x hx
          rw [List.dropLast_cons_of_ne_nil k1] at hx
          rcases List.mem_cons.mp hx with rfl | hx
          · exact he
          · exact k5 x hx
        · rw [List.nodup_cons]
          exact ⟨fun hm => (hT v hm).2 rfl, k6⟩
        · intro x hx
          rcases List.mem_cons.mp hx with rfl | hx
          · exact hc.2
          · exact (hT x hx).1
    · simp at h
theorem bestW_mem {sp : Bool} {A H : List Nat → Nat} : ∀ {ws : List (List Nat)} {b : Option (List Nat)} {w : List Nat}, bestW sp A H ws b = some w → w ∈ ws ∨ b = some w
  | [], b, w, h => Or.inr h
  | v :: ws, b, w, h => by
    have h' : bestW sp A H ws (pickW sp A H b v) = some w := h
    rcases bestW_mem h' with h | h
    · exact Or.inl (List.mem_cons_of_mem _ h)
    · unfold pickW at h
      cases b with
      | none =>
        simp only [Option.some.injEq] at h
        exact Or.inl (by rw [h]; exact List.mem_cons_self)
      | some x =>
        simp only [] at h
        split at h
        · rw [Option.some.injEq] at h
          exact Or.inl (by rw [h]; exact List.mem_cons_self)
        · exact Or.inr h
theorem bestD_ok {D : Hd} {sp : Bool} {u a : Nat} {T : Nat → Bool} {w : List Nat} (h : bestD D sp u a T = some w) : wOk D 5 u T w := by
  rcases bestW_mem h with h | h
  · exact mem_ways h
  · cases h
theorem wayOf_ok {B : Bk} {f : Nat → Int32} {p q : Int32} {sp : Bool} {s : Int32} {u t a M : Nat} {w : List Nat} (h : wayOf B f p q sp s u t a M = some w) : wOk (B.D f p q s t) 5 u (tM M u) w := bestD_ok h
theorem recs_fm {D : Hd} : ∀ (w : List Nat) (u p : Nat), (recs D u p w).map Rc.fm = w
  | [], _, _ => rfl
  | v :: vs, u, p => by
    unfold recs
    by_cases h : vs = []
    · rw [if_pos h, h]; rfl
    · rw [if_neg h, List.map_cons, recs_fm vs]; rfl
theorem recs_du {D : Hd} : ∀ (w : List Nat) (u p : Nat), ((recs D u p w).map Rc.du).sum = dueW D u p w
  | [], _, _ => rfl
  | v :: vs, u, p => by
    unfold recs dueW
    by_cases h : vs = []
    · rw [if_pos h, if_pos h]; rfl
    · rw [if_neg h, if_neg h, List.map_cons, List.sum_cons, recs_du vs]; rfl
theorem recs_get {D : Hd} {w : List Nat} {u p j : Nat} {r : Rc} (h : (recs D u p w)[j]? = some r) : w[j]? = some r.fm := by
  rw [← recs_fm (D := D) w u p, List.getElem?_map, h]; rfl
/-- the last hop has nothing due -/
theorem recs_last {D : Hd} : ∀ {w : List Nat} {u p j : Nat} {r : Rc}, (recs D u p w)[j]? = some r → j + 1 = w.length → r.du = 0 ∧ r.cr = D.cr r.fm
  | [], _, _, _, _, _, h => by simp at h
  | v :: vs, u, p, j, r, h, hj => by
    unfold recs at h
    by_cases hv : vs = []
    · rw [if_pos hv] at h
      subst hv
      simp at hj
      subst hj
      simp at h
      subst h
      exact ⟨rfl, rfl⟩
    · rw [if_neg hv] at h
      have hl : 0 < vs.length := List.length_pos_iff.mpr hv
      simp at hj
      obtain ⟨i, rfl⟩ : ∃ i, j = i + 1 := ⟨j - 1, by omega⟩
      rw [List.getElem?_cons_succ] at h
      exact recs_last h (by omega)
/-! the class's way: its sums -/
theorem take_s {α : Type} {l : List α} {i : Nat} {x : α} (h : l[i]? = some x) : l.take (i + 1) = l.take i ++ [x] := by rw [List.take_succ, h]; rfl
theorem c_duePaid {d : Nat} {ro : Nat → Nat} {μ : Hp} {a b : Nat} {rs : List Rc} (h : isWy μ a b) (hn : hI μ a 2 = nI rs.length) (h5 : rs.length ≤ 5) (hr : rcs (hI μ b) rs) :
    xC d yX9_duePaid cX9_duePaid 3 (some .int) 0 0 [.ref a] μ ro (fun r μ' => μ' = μ ∧ r = some (.int (nI (rs.map Rc.du).sum))) := by
  refine I_X9_duePaid (fun J g hz => B_X9_duePaid_0 g hz ?_)
  refine loopUp (Q := fun i => J μ 0 0 4 [(0, .ref a), (1, .int (nI ((rs.take i).map Rc.du).sum)), (2, .int (nI i))] []) rs.length ?_ (fun i hi ih => ?_) 0 (Nat.zero_le _)
  · refine B_X9_duePaid_4 g hz h.1 h.2.1 h.2.2 ⟨fun _ => ⟨rfl, ?_⟩, fun h => absurd (by rw [hn]; exact Int32.le_refl _) h⟩
    rw [List.take_length]
  · refine B_X9_duePaid_4 g hz h.1 h.2.1 h.2.2 ⟨fun h => absurd h (by rw [hn]; exact nI_ge (by omega) (by omega)), fun _ => ⟨off_in 25 (by omega) (by omega), ?_⟩⟩
    have hx : rs[i]? = some rs[i] := List.getElem?_eq_getElem hi
    rw [show ((25 : Int32) + nI i).toNatClampNeg = 25 + i from off_cl 25 (by omega), (hr i _ hx).2.2.2.2.2.1, nI_add, nI_1]
    rw [take_s hx, List.map_append, List.sum_append] at ih
    simpa using ih
theorem c_takenBy {d : Nat} {ro : Nat → Nat} {μ : Hp} {a b bk ln fn lw lo tr p : Nat} {B : Bk} {l : Int32} {rs : List Rc} (h : isWy μ a b) (hb : isBk μ bk ln fn lw lo tr) (hlo : hI μ lo = B.lo) (hn : hI μ a 2 = nI rs.length) (h5 : rs.length ≤ 5) (hr : rcs (hI μ b) rs) (hfm : ∀ r ∈ rs, r.fm < 8) (hp : hI μ a 1 = nI p) (hp8 : p < 8) :
    xC d yX9_takenBy cX9_takenBy 7 (some .int) 0 0 [.ref a, .ref bk, .int l] μ ro (fun r μ' => μ' = μ ∧ r = some (.int (tkA B l 0 p rs))) := by
  refine I_X9_takenBy (fun J g hz => B_X9_takenBy_0 g hz h.1 ?_)
  rw [hp]
  have key : ∀ (suf pre : List Rc) (acc : Int32) (p' : Nat), rs = pre ++ suf → p' < 8 → tkA B l acc p' suf = tkA B l 0 p rs → J μ 0 0 11 [(0, .ref a), (1, .ref bk), (2, .int l), (3, .int acc), (4, .int (nI p')), (5, .int (nI pre.length))] [] := by
    intro suf
    induction suf with
    | nil =>
      intro pre acc p' e _ he
      rw [List.append_nil] at e
      subst e
      refine B_X9_takenBy_11 g hz h.1 h.2.1 h.2.2 hb.1 hb.2.1.2.2.2.1 hb.2.2.2.2.2.1 ⟨fun _ => ⟨rfl, ?_⟩, fun h => absurd (by rw [hn]; exact Int32.le_refl _) h⟩
      rw [← he]; rfl
    | cons r suf ih =>
      intro pre acc p' e hp' he
      have hl : rs.length = pre.length + (suf.length + 1) := by rw [e]; simp
      have hget : rs[pre.length]? = some r := by rw [e]; simp
      have hrc := hr _ _ hget
      have hf8 := hfm r (List.mem_of_getElem? hget)
      have e0 : hI μ b ((0 : Int32) + nI pre.length).toNatClampNeg = nI r.fm := by
        rw [show ((0 : Int32) + nI pre.length).toNatClampNeg = 0 + pre.length from off_cl 0 (by omega), Nat.zero_add]; exact hrc.1
      have e20 : hI μ b ((20 : Int32) + nI pre.length).toNatClampNeg = nI r.hd := by
        rw [show ((20 : Int32) + nI pre.length).toNatClampNeg = 20 + pre.length from off_cl 20 (by omega)]; exact hrc.2.2.2.2.1
      have e25 : hI μ b ((25 : Int32) + nI pre.length).toNatClampNeg = nI r.du := by
        rw [show ((25 : Int32) + nI pre.length).toNatClampNeg = 25 + pre.length from off_cl 25 (by omega)]; exact hrc.2.2.2.2.2.1
      refine B_X9_takenBy_11 g hz h.1 h.2.1 h.2.2 hb.1 hb.2.1.2.2.2.1 hb.2.2.2.2.2.1 ⟨fun h => absurd h (by rw [hn]; exact nI_ge (by omega) (by omega)), fun _ => ?_⟩
      rw [e0, e20, e25, nI_clamp (show p' < 2147483648 by omega), nI_clamp (show r.fm < 2147483648 by omega), hlo, nI_1]
      have ih' := fun acc' => ih (pre ++ [r]) acc' r.fm (by rw [e]; simp) hf8
      rw [List.length_append, List.length_singleton] at ih'
      rw [show tkA B l acc p' (r :: suf) = tkA B l ((acc + (if B.lo p' = l then nI r.hd else 0)) + (if B.lo r.fm = l then nI r.du else 0)) r.fm suf from rfl] at he
      refine ⟨off_in 0 (by omega) (by omega), vp_in_nI hp' (by omega), fun c1 => ⟨vp_in_nI hf8 (by omega), fun v ev => ⟨fun c2 => ih' _ ?_, fun c2 => ⟨off_in 25 (by omega) (by omega), ih' _ ?_⟩⟩⟩, fun c1 => ⟨off_in 20 (by omega) (by omega), vp_in_nI hf8 (by omega), fun v ev => ⟨fun c2 => ih' _ ?_, fun c2 => ⟨off_in 25 (by omega) (by omega), fun v2 ev2 => ih' _ ?_⟩⟩⟩⟩
      · rw [ev] at c2; rw [if_neg c1, if_neg c2] at he; exact he
      · rw [ev] at c2; rw [if_neg c1, if_pos c2] at he; exact he
      · rw [ev] at c2; rw [if_pos c1, if_neg c2] at he; exact he
      · rw [ev] at c2; rw [if_pos c1, if_pos c2] at he; rw [ev2]; exact he
  exact key rs [] 0 p rfl hp8 rfl
/-! rows that differ little -/
theorem rowOK.of {f g : Nat → Int32} {n nf nl : Nat} (h : rowOK f n nf nl) (h1 : g 1 = f 1) (h0 : bd (g 0) 200) (hs : ∀ j, j < 8 → bd (g (2 + j)) 100) (hc : ∀ j, j < 8 → bd (g (10 + j)) 1000000001) (ht : ∀ l, nl ≤ l → l < 6 → g (26 + l) = 0) (hl : ∀ j, 32 ≤ j → g j = f j) : rowOK g n nf nl := by
  refine ⟨⟨h1.trans h.1.1, h.1.2.1, h0⟩, fun k hk => ?_, fun k k' hk hk' => ?_, fun j hj => ⟨hs j hj, hc j hj⟩, ht⟩
  · unfold lkOk
    rw [hl _ (by omega), hl _ (by omega), hl _ (by omega), hl _ (by omega), hl _ (by omega)]
    exact h.2.1 k hk
  · rw [hl (32 + k) (by omega), hl (48 + k) (by omega), hl (64 + k) (by omega), hl (32 + k') (by omega), hl (48 + k') (by omega), hl (64 + k') (by omega)]
    exact h.2.2.1 k k' hk hk'
theorem Bk.row_year {B : Bk} {f : Nat → Int32} (h : B.row f) {y : Int32} (hy : bd y 200) : B.row (upd f 0 y) := by
  unfold Bk.row at h ⊢
  rw [upd_n _ (by decide)]
  refine h.of (upd_n _ (by decide)) (by rw [upd_s]; exact hy) (fun j hj => ?_) (fun j hj => ?_) (fun l h1 h2 => ?_) (fun j hj => upd_n _ (by omega))
  · rw [upd_n _ (by omega)]; exact (h.2.2.2.1 j hj).1
  · rw [upd_n _ (by omega)]; exact (h.2.2.2.1 j hj).2
  · rw [upd_n _ (by omega)]; exact h.2.2.2.2 l h1 h2
theorem Bk.row_staff {B : Bk} {f : Nat → Int32} (h : B.row f) {v : Nat} {x : Int32} (hv : v < 8) (hx : bd x 100) : B.row (upd f (2 + v) x) := by
  unfold Bk.row at h ⊢
  rw [upd_n _ (by omega)]
  refine h.of (upd_n _ (by omega)) (by rw [upd_n _ (by omega)]; exact h.1.2.2) (fun j hj => ?_) (fun j hj => ?_) (fun l h1 h2 => ?_) (fun j hj => upd_n _ (by omega))
  · by_cases e : j = v
    · subst e; rw [upd_s]; exact hx
    · rw [upd_n _ (by omega)]; exact (h.2.2.2.1 j hj).1
  · rw [upd_n _ (by omega)]; exact (h.2.2.2.1 j hj).2
  · rw [upd_n _ (by omega)]; exact h.2.2.2.2 l h1 h2
theorem remF_lk (f : Nat → Int32) {k n j c : Nat} (hj : j + 1 < n) (hn : n ≤ 16) (hc : c < 5) : remF f k n (32 + 16 * c + j) = f (32 + 16 * c + (if k ≤ j then j + 1 else j)) := by
  unfold remF
  rw [if_neg (by omega)]
  by_cases h : k ≤ j
  · rw [if_pos (by omega), if_pos h]; congr 1
  · rw [if_neg (by omega), if_neg h]
theorem remF_lo (f : Nat → Int32) {k n j : Nat} (hj : j < 32) (h1 : j ≠ 1) : remF f k n j = f j := by
  unfold remF
  rw [if_neg h1, if_neg (by omega)]
theorem rowOK.rem {f : Nat → Int32} {n nf nl k : Nat} (h : rowOK f n nf nl) (hk : k < n) : rowOK (remF f k n) (n - 1) nf nl := by
  have n16 := h.1.2.1
  have e : ∀ j, j < n - 1 → ∀ c, c < 5 → remF f k n (32 + 16 * c + j) = f (32 + 16 * c + (if k ≤ j then j + 1 else j)) := fun j hj c hc => remF_lk f (by omega) n16 hc
  have hlt : ∀ j, j < n - 1 → (if k ≤ j then j + 1 else j) < n := fun j hj => by split <;> omega
  refine ⟨⟨by unfold remF; rw [if_pos rfl], by omega, ?_⟩, fun j hj => ?_, fun j j' hj hj' => ?_, fun j hj => ?_, fun l h1 h2 => ?_⟩
  · rw [remF_lo _ (by omega) (by omega)]; exact h.1.2.2
  · have := h.2.1 _ (hlt j hj)
    unfold lkOk at this ⊢
    have e0 := e j hj 0 (by omega)
    have e1 := e j hj 1 (by omega)
    have e2 := e j hj 2 (by omega)
    have e3 := e j hj 3 (by omega)
    have e4 := e j hj 4 (by omega)
    simp only [Nat.mul_zero, Nat.add_zero, Nat.mul_one, Nat.reduceMul, Nat.reduceAdd] at e0 e1 e2 e3 e4
    rw [e0, e1, e2, e3, e4]
    exact this
  · have e0 := e j hj 0 (by omega)
    have e1 := e j hj 1 (by omega)
    have e2 := e j hj 2 (by omega)
    have e0' := e j' hj' 0 (by omega)
    have e1' := e j' hj' 1 (by omega)
    have e2' := e j' hj' 2 (by omega)
    simp only [Nat.mul_zero, Nat.add_zero, Nat.mul_one, Nat.reduceMul, Nat.reduceAdd] at e0 e1 e2 e0' e1' e2'
    rw [e0, e1, e2, e0', e1', e2']
    intro q1 q2 q3
    have := h.2.2.1 _ _ (hlt j hj) (hlt j' hj') q1 q2 q3
    split at this <;> split at this <;> omega
  · rw [remF_lo _ (by omega) (by omega), remF_lo _ (by omega) (by omega)]; exact h.2.2.2.1 j hj
  · rw [remF_lo _ (by omega) (by omega)]; exact h.2.2.2.2 l h1 h2
theorem Bk.row_rem {B : Bk} {f : Nat → Int32} (h : B.row f) {k : Nat} (hk : k < cl (f 1)) : B.row (remF f k (cl (f 1))) := by
  have h' := rowOK.rem h hk
  unfold Bk.row
  rw [h'.1.1, cl_nI (by have := h'.1.2.1; omega)]
  exact h'
