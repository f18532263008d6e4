/-! what an act makes of a row -/
theorem addF_o {f : Nat → Int32} {n : Nat} {s a b sh si : Int32} {j : Nat} (h : j ≠ 1 ∧ j ≠ 32 + n ∧ j ≠ 48 + n ∧ j ≠ 64 + n ∧ j ≠ 80 + n ∧ j ≠ 96 + n) : addF f n s a b sh si j = f j := by
  unfold addF
  rw [upd_n _ h.1, upd_n _ h.2.2.2.2.2, upd_n _ h.2.2.2.2.1, upd_n _ h.2.2.2.1, upd_n _ h.2.2.1, upd_n _ h.2.1]
theorem addF_n {f : Nat → Int32} {n : Nat} {s a b sh si : Int32} (hn : n < 16) : addF f n s a b sh si (32 + n) = s ∧ addF f n s a b sh si (48 + n) = a ∧ addF f n s a b sh si (64 + n) = b ∧ addF f n s a b sh si (80 + n) = sh ∧ addF f n s a b sh si (96 + n) = si := by
  unfold addF
  refine ⟨?_, ?_, ?_, ?_, ?_⟩
  · rw [upd_n _ (by omega), upd_n _ (by omega), upd_n _ (by omega), upd_n _ (by omega), upd_n _ (by omega), upd_s]
  · rw [upd_n _ (by omega), upd_n _ (by omega), upd_n _ (by omega), upd_n _ (by omega), upd_s]
  · rw [upd_n _ (by omega), upd_n _ (by omega), upd_n _ (by omega), upd_s]
  · rw [upd_n _ (by omega), upd_n _ (by omega), upd_s]
  · rw [upd_n _ (by omega), upd_s]
theorem rowOK.add {f : Nat → Int32} {n nf nl : Nat} (h : rowOK f n nf nl) (hn : n < 16) {s a b sh si : Int32} (hs : bd s 2) (ha : bd a nf) (hb : bd b nf) (hab : a ≠ b) (hsh : bd sh 101) (hsi : bd si 200) (hnew : ∀ k, k < n → ¬ (f (32 + k) = s ∧ f (48 + k) = a ∧ f (64 + k) = b)) : rowOK (addF f n s a b sh si) (n + 1) nf nl := by
  obtain ⟨e0, e1, e2, e3, e4⟩ := addF_n (f := f) (s := s) (a := a) (b := b) (sh := sh) (si := si) hn
  have o : ∀ k, k < n → ∀ c, c < 5 → addF f n s a b sh si (32 + 16 * c + k) = f (32 + 16 * c + k) := fun k hk c hc => addF_o ⟨by omega, by omega, by omega, by omega, by omega, by omega⟩
  have o0 : ∀ k, k < n → addF f n s a b sh si (32 + k) = f (32 + k) := fun k hk => o k hk 0 (by omega)
  have o1 : ∀ k, k < n → addF f n s a b sh si (48 + k) = f (48 + k) := fun k hk => o k hk 1 (by omega)
  have o2 : ∀ k, k < n → addF f n s a b sh si (64 + k) = f (64 + k) := fun k hk => o k hk 2 (by omega)
  have o3 : ∀ k, k < n → addF f n s a b sh si (80 + k) = f (80 + k) := fun k hk => o k hk 3 (by omega)
  have o4 : ∀ k, k < n → addF f n s a b sh si (96 + k) = f (96 + k) := fun k hk => o k hk 4 (by omega)
  have ol : ∀ j, j < 32 → j ≠ 1 → addF f n s a b sh si j = f j := fun j hj h1 => addF_o ⟨h1, by omega, by omega, by omega, by omega, by omega⟩
  refine ⟨⟨by unfold addF; rw [upd_s], by omega, by rw [ol 0 (by omega) (by omega)]; exact h.1.2.2⟩, fun k hk => ?_, fun k k' hk hk' => ?_, fun j hj => ?_, fun l h1 h2 => ?_⟩
  · unfold lkOk
    rcases Nat.lt_succ_iff_lt_or_eq.mp hk with h' | rfl
    · rw [o0 k h', o1 k h', o2 k h', o3 k h', o4 k h']; exact h.2.1 k h'
    · rw [e0, e1, e2, e3, e4]; exact ⟨hs, ha, hb, hsh, hsi, hab⟩
  · rcases Nat.lt_succ_iff_lt_or_eq.mp hk with q | rfl
    · rcases Nat.lt_succ_iff_lt_or_eq.mp hk' with q' | rfl
      · rw [o0 k q, o1 k q, o2 k q, o0 k' q', o1 k' q', o2 k' q']; exact h.2.2.1 k k' q q'
      · rw [o0 k q, o1 k q, o2 k q, e0, e1, e2]
        exact fun a1 a2 a3 => absurd ⟨a1, a2, a3⟩ (hnew k q)
    · rcases Nat.lt_succ_iff_lt_or_eq.mp hk' with q' | rfl
      · rw [o0 k' q', o1 k' q', o2 k' q', e0, e1, e2]
        exact fun a1 a2 a3 => absurd ⟨a1.symm, a2.symm, a3.symm⟩ (hnew k' q')
      · exact fun _ _ _ => rfl
  · rw [ol _ (by omega) (by omega), ol _ (by omega) (by omega)]; exact h.2.2.2.1 j hj
  · rw [ol _ (by omega) (by omega)]; exact h.2.2.2.2 l h1 h2
theorem Bk.row_add {B : Bk} {f : Nat → Int32} (h : B.row f) (hn : cl (f 1) < 16) {s a b sh si : Int32} (hs : bd s 2) (ha : bd a B.nf) (hb : bd b B.nf) (hab : a ≠ b) (hsh : bd sh 101) (hsi : bd si 200) (hnew : lkA f s a b = none) : B.row (addF f (cl (f 1)) s a b sh si) := by
  have key : ∀ (m i : Nat), fstP (lkP f s a b) i m = none → ∀ k, i ≤ k → k < i + m → ¬ lkP f s a b k = true := by
    intro m
    induction m with
    | zero => intro i _ k h1 h2; omega
    | succ m ih =>
      intro i h k h1 h2
      by_cases hp : lkP f s a b i = true
      · rw [fstP_t hp] at h; cases h
      · rw [fstP_f hp] at h
        by_cases e : k = i
        · subst e; exact hp
        · exact ih (i + 1) h k (by omega) (by omega)
  have h' := rowOK.add h hn hs ha hb hab hsh hsi (fun k hk q => key _ _ hnew k (by omega) (by omega) (by unfold lkP; exact decide_eq_true q))
  unfold Bk.row
  rw [h'.1.1, cl_nI (by omega)]
  exact h'
theorem Bk.row_share {B : Bk} {f : Nat → Int32} (h : B.row f) {k : Nat} (hk : k < cl (f 1)) {s : Int32} (hs : bd s 101) : B.row (upd f (80 + k) s) := by
  have n16 := h.1.2.1
  have o : ∀ j, j ≠ 80 + k → upd f (80 + k) s j = f j := fun j hj => upd_n _ hj
  unfold Bk.row at h ⊢
  rw [o 1 (by omega)]
  refine ⟨⟨by rw [o 1 (by omega)]; exact h.1.1, h.1.2.1, by rw [o 0 (by omega)]; exact h.1.2.2⟩, fun i hi => ?_, fun i i' hi hi' => ?_, fun j hj => ?_, fun l h1 h2 => ?_⟩
  · unfold lkOk
    rw [o (32 + i) (by omega), o (48 + i) (by omega), o (64 + i) (by omega), o (96 + i) (by omega)]
    obtain ⟨k1, k2, k3, k4, k5, k6⟩ := h.2.1 i hi
    refine ⟨k1, k2, k3, ?_, k5, k6⟩
    by_cases e : i = k
    · subst e; rw [upd_s]; exact hs
    · rw [o _ (by omega)]; exact k4
  · rw [o (32 + i) (by omega), o (48 + i) (by omega), o (64 + i) (by omega), o (32 + i') (by omega), o (48 + i') (by omega), o (64 + i') (by omega)]
    exact h.2.2.1 i i' hi hi'
  · rw [o _ (by omega), o _ (by omega)]; exact h.2.2.2.1 j hj
  · rw [o _ (by omega)]; exact h.2.2.2.2 l h1 h2
def doP (B : Bk) (f : Nat → Int32) (s u t a : Int32) : Nat → Int32 := match wayOf B f (-1) (-1) false s (cl u) (cl t) (cl a) 0 with
  | none => f
  | some w => payF B f (cl u) (cl t) (recs (B.D f (-1) (-1) s (cl t)) (cl u) (cl a) w) (leftW (B.D f (-1) (-1) s (cl t)) (cl u) (cl a) w)
def doO (f : Nat → Int32) (v o s : Int32) : Nat → Int32 := match lkA f 0 v o with
  | none => addF f (cl (f 1)) 0 v o s (f 0)
  | some k => if s = 0 then remF f k (cl (f 1)) else upd f (80 + k) s
def doL (f : Nat → Int32) (v o : Int32) : Nat → Int32 := match lkA f 1 v o with
  | none => addF f (cl (f 1)) 1 v o 0 (f 0)
  | some k => remF f k (cl (f 1))
def doR (B : Bk) (f : Nat → Int32) (act a b c e : Int32) : Nat → Int32 := if act = 0 then doP B f a b c e else if act = 1 then upd f 0 (f 0 + a) else if act = 2 then upd f (2 + cl a) b else if act = 3 then doO f a b c else doL f a b
def doN (B : Bk) (f : Nat → Int32) (act a b c e : Int32) : Int32 := if act = 0 then arrOf B f (-1) (-1) a (cl b) (cl c) (cl e) 0 else if act = 1 then f 0 + a else if act = 2 then f (2 + cl a) else if act = 3 then wasS f (lkA f 0 a b) else (if lkA f 1 a b = none then 1 else 0)
theorem le_bd {x : Int32} (n : Nat) (h0 : ¬ x < 0) (h1 : x ≤ nI n) (hn : n < 2 ^ 31) : bd x (n + 1) := by
  obtain ⟨j, hj, rfl⟩ := smallx n h0 (Int32.not_lt.mpr h1) hn
  exact bd_nI (by omega)
theorem inN.bd {x : Int32} {n : Nat} (h : inN x n) (hn : n < 2 ^ 31) : bd x n := by
  obtain ⟨e, k⟩ := h.ex hn
  rw [e]; exact bd_nI k
theorem lt16 {B : Bk} {f : Nat → Int32} (h : B.row f) (hl : f 1 < 16) : cl (f 1) < 16 := by
  rcases Nat.lt_or_ge (cl (f 1)) 16 with q | q
  · exact q
  · have n16 := h.1.2.1
    rw [h.1.1] at hl
    exact absurd hl (nI_nlt (a := cl (f 1)) (b := 16) q (by omega))
/-- the row behind an act that can be -/
theorem doR_ok {B : Bk} (hB : B.ok) {f : Nat → Int32} (hr : B.row f) (hz : ∀ j, 112 ≤ j → f j = 0) {act a b c e : Int32} (h : rsn B f act a b c e = -1) : B.row (doR B f act a b c e) ∧ ∀ j, 112 ≤ j → doR B f act a b c e j = 0 := by
  have hnf := hB.1.1.2.1
  have n16 := hr.1.2.1
  unfold rsn at h
  unfold doR
  by_cases h0 : act = 0
  · rw [if_pos h0] at h ⊢
    unfold rPay at h
    by_cases c1 : ¬ (inN b B.nf ∧ inN c B.nf)
    · rw [if_pos c1] at h; exact absurd h (by decide)
    rw [if_neg c1] at h
    have c1' : inN b B.nf ∧ inN c B.nf := Classical.not_not.mp c1
    obtain ⟨-, kb⟩ := c1'.1.ex (by omega)
    obtain ⟨-, kc⟩ := c1'.2.ex (by omega)
    unfold doP
    cases hw : wayOf B f (-1) (-1) false a (cl b) (cl c) (cl e) 0 with
    | none => exact ⟨hr, hz⟩
    | some w =>
      have hok := Bk.D_ok (p := -1) (q := -1) (s := a) hB hr kc
      have hcr := recs_cr hok (p := cl e) (wayOf_ok hw).2.2.1
      have hcr8 : ∀ r ∈ recs (B.D f (-1) (-1) a (cl c)) (cl b) (cl e) w, r.cr ≤ 1000000000 ∧ r.fm < 8 := fun r hr => ⟨(hcr r hr).1, Nat.lt_of_lt_of_le (hcr r hr).2 hnf⟩
      exact ⟨Bk.row_pay hB hr (by omega) hcr8, fun j hj => by
        simp only []
        rw [payF_o hB.1.1.1 (by omega) (fun r hr => (hcr8 r hr).2) (by omega)]; exact hz j hj⟩
  rw [if_neg h0] at h ⊢
  by_cases h1 : act = 1
  · rw [if_pos h1] at h ⊢
    unfold rPass at h
    split at h
    · exact absurd h (by decide)
    split at h
    · exact absurd h (by decide)
    rename_i c2
    split at h
    · rename_i c3
      obtain ⟨y, hy, ey⟩ := hr.1.2.2
      have ca : ¬ a < 0 := fun q => c2 (Or.inl (Int32.lt_trans q (by decide)))
      obtain ⟨n, hn, rfl⟩ := le_bd 20 ca (Classical.not_not.mp (fun q => c2 (Or.inr q))) (by decide)
      refine ⟨Bk.row_year hr ?_, fun j hj => by rw [upd_n _ (by omega)]; exact hz j hj⟩
      rw [ey, nI_add] at c3 ⊢
      exact le_bd 199 (nI_pos (by omega)) c3 (by decide)
    · exact absurd h (by decide)
  rw [if_neg h1] at h ⊢
  by_cases h2 : act = 2
  · rw [if_pos h2] at h ⊢
    unfold rStaff at h
    split at h
    · exact absurd h (by decide)
    rename_i c1
    split at h
    · exact absurd h (by decide)
    rename_i c2
    obtain ⟨-, ka⟩ := (Classical.not_not.mp c1).ex (by omega)
    exact ⟨Bk.row_staff hr (by omega) (le_bd 99 (fun q => c2 (Or.inl q)) (Classical.not_not.mp (fun q => c2 (Or.inr q))) (by decide)), fun j hj => by rw [upd_n _ (by omega)]; exact hz j hj⟩
  rw [if_neg h2] at h ⊢
  have hrem : ∀ {k j : Nat}, 112 ≤ j → remF f k (cl (f 1)) j = 0 := fun {k j} hj => by
    unfold remF
    rw [if_neg (by omega), if_neg (by omega)]; exact hz j hj
  have hadd : ∀ {s a b sh si : Int32} {j : Nat}, cl (f 1) < 16 → 112 ≤ j → addF f (cl (f 1)) s a b sh si j = 0 := fun {s a b sh si j} hn hj => by
    rw [addF_o ⟨by omega, by omega, by omega, by omega, by omega, by omega⟩]; exact hz j hj
  by_cases h3 : act = 3
  · rw [if_pos h3] at h ⊢
    unfold rOwn at h
    split at h
    · exact absurd h (by decide)
    rename_i c1
    split at h
    · exact absurd h (by decide)
    rename_i c2
    split at h
    · exact absurd h (by decide)
    rename_i c3
    split at h
    · exact absurd h (by decide)
    rename_i c4
    have c1' := Classical.not_not.mp c1
    have hs : bd c 101 := le_bd 100 (fun q => c2 (Or.inl q)) (Classical.not_not.mp (fun q => c2 (Or.inr q))) (by decide)
    unfold doO
    cases hk : lkA f 0 a b with
    | none =>
      have hn := lt16 hr (Classical.not_not.mp (fun q => c4 ⟨hk, q⟩))
      exact ⟨Bk.row_add hr hn (bd_nI (n := 0) (by omega)) (c1'.1.bd (by omega)) (c1'.2.bd (by omega)) (fun q => c3 (Or.inl q)) hs hr.1.2.2 hk, fun j hj => hadd hn hj⟩
    | some k =>
      have hkn := (lkA_lt hr hk).1
      simp only []
      split
      · exact ⟨Bk.row_rem hr hkn, fun j hj => hrem hj⟩
      · exact ⟨Bk.row_share hr hkn hs, fun j hj => by rw [upd_n _ (by omega)]; exact hz j hj⟩
  rw [if_neg h3] at h ⊢
  unfold rLend at h
  split at h
  · exact absurd h (by decide)
  rename_i c1
  split at h
  · exact absurd h (by decide)
  rename_i c3
  split at h
  · exact absurd h (by decide)
  rename_i c4
  have c1' := Classical.not_not.mp c1
  unfold doL
  cases hk : lkA f 1 a b with
  | none =>
    have hn := lt16 hr (Classical.not_not.mp (fun q => c4 ⟨hk, q⟩))
    exact ⟨Bk.row_add hr hn (bd_nI (n := 1) (by omega)) (c1'.1.bd (by omega)) (c1'.2.bd (by omega)) c3 (bd_nI (n := 0) (by omega)) hr.1.2.2 hk, fun j hj => hadd hn hj⟩
  | some k =>
    have hkn := (lkA_lt hr hk).1
    exact ⟨Bk.row_rem hr hkn, fun j hj => hrem hj⟩
