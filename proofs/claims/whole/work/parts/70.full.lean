/-! the whole state, as numbers and lists -/
abbrev Tri : Type := Int32 × Int32 × Int32
def St : Type := Bk × (Nat → List Nat) × (Nat → List Nat) × (Nat → Int32) × List (Nat → Int32) × List Tri × Option ((Nat → Int32) × List Tri) × (Nat × (Nat → Nat)) × (Nat × (Nat → Nat) × (Nat → Nat → Int32)) × (Nat → Int32)
def St.B (S : St) : Bk := S.1
def St.nmL (S : St) : Nat → List Nat := S.2.1
def St.nmF (S : St) : Nat → List Nat := S.2.2.1
def St.f (S : St) : Nat → Int32 := S.2.2.2.1
def St.H (S : St) : List (Nat → Int32) := S.2.2.2.2.1
def St.L (S : St) : List Tri := S.2.2.2.2.2.1
def St.im (S : St) : Option ((Nat → Int32) × List Tri) := S.2.2.2.2.2.2.1
def St.len (S : St) : Nat := S.2.2.2.2.2.2.2.1.1
def St.tp (S : St) : Nat → Nat := S.2.2.2.2.2.2.2.1.2
def St.ns (S : St) : Nat := S.2.2.2.2.2.2.2.2.1.1
def St.sl (S : St) : Nat → Nat := S.2.2.2.2.2.2.2.2.1.2.1
def St.sr (S : St) : Nat → Nat → Int32 := S.2.2.2.2.2.2.2.2.1.2.2
def St.rf (S : St) : Nat → Int32 := S.2.2.2.2.2.2.2.2.2
/-- rings: the class's history and log -/
def hsOk (h0 rows : Nat → Int32) (nx : Nat) (H : List (Nat → Int32)) : Prop := (h0 0 = nI H.length ∧ h0 1 = nI nx ∧ nx < 40 ∧ H.length ≤ 40) ∧ ∀ i g, H[i]? = some g → ∀ j, j < 112 → rows ((nx + 39 - i) % 40 * 112 + j) = g j
def lgOk (h0 row : Nat → Int32) (nx hd : Nat) (L : List Tri) (M : Nat) : Prop := (h0 0 = nI hd ∧ h0 1 = nI nx ∧ nx < 100 ∧ hd ≤ 100 ∧ hd ≤ L.length ∧ min L.length M ≤ hd) ∧ ∀ i e, i < hd → L[i]? = some e → row ((nx + 99 - i) % 100 * 3) = e.1 ∧ row ((nx + 99 - i) % 100 * 3 + 1) = e.2.1 ∧ row ((nx + 99 - i) % 100 * 3 + 2) = e.2.2
def goodR (B : Bk) (g : Nat → Int32) : Prop := B.row g ∧ ∀ j, 112 ≤ j → g j = 0
/-- the parts of the class's state -/
def cNm (μ : Hp) (A : Nat → Nat) (B : Bk) (nmL nmF : Nat → List Nat) : Prop := (∀ l, l < B.nl → nmOk (nmL l) ∧ hL μ (A 40) l = lN (codC (nmL l))) ∧ ∀ j, j < B.nf → nmOk (nmF j) ∧ hL μ (A 41) j = lN (codC (nmF j))
def cHs (μ : Hp) (A : Nat → Nat) (H : List (Nat → Int32)) : Prop := ∃ nx, hsOk (hI μ (A 24)) (hI μ (A 25)) nx H
def cLg (μ : Hp) (A : Nat → Nat) (L : List Tri) (M : Nat) : Prop := ∃ nx hd, lgOk (hI μ (A 26)) (hI μ (A 27)) nx hd L M
def cIm (μ : Hp) (A : Nat → Nat) (B : Bk) (im : Option ((Nat → Int32) × List Tri)) : Prop := hI μ (A 0) 16 = (if im = none then 0 else 1) ∧ (∀ j, 112 ≤ j → hI μ (A 38) j = 0) ∧ ∀ q, im = some q → (hI μ (A 38) = q.1 ∧ B.row q.1) ∧ hR μ (A 37) 1 = some (A 39) ∧ ∃ nx hd, lgOk (hI μ (A 28)) (hI μ (A 29)) nx hd q.2 60
def cTp (μ : Hp) (A : Nat → Nat) (len : Nat) (tp : Nat → Nat) : Prop := hI μ (A 1) 0 = nI len ∧ len ≤ 400 ∧ ∀ i, i < len → hI μ (A 2) i = nI (tp i) ∧ 1 ≤ tp i ∧ tp i ≤ 255
def cSc (μ : Hp) (A : Nat → Nat) (ns : Nat) (sl : Nat → Nat) (sr : Nat → Nat → Int32) : Prop := hI μ (A 0) 15 = nI ns ∧ ns ≤ 4 ∧ ∀ k, k < ns → hI μ (A (4 + k)) 1 = nI (sl k) ∧ sl k ≤ 12 ∧ ∀ j, j < sl k * 5 → hI μ (A (9 + k)) j = sr k j
def cRf (μ : Hp) (A : Nat → Nat) (rf : Nat → Int32) : Prop := ∀ i, i < 4 → hI μ (A 31) i = rf i
def cR (μ : Hp) (A : Nat → Nat) (S : St) : Prop :=
  cQ μ A S.B S.f ∧ cNm μ A S.B S.nmL S.nmF ∧ (cHs μ A S.H ∧ (∀ g ∈ S.H, goodR S.B g) ∧ S.H.length ≤ S.L.length) ∧ cLg μ A S.L (60 + S.H.length) ∧ cIm μ A S.B S.im ∧ cTp μ A S.len S.tp ∧ cSc μ A S.ns S.sl S.sr ∧ cRf μ A S.rf
theorem cSc.fr {μ μ' : Hp} {A : Nat → Nat} {ns : Nat} {sl : Nat → Nat} {sr : Nat → Nat → Int32} (h : cSc μ A ns sl sr) (h0 : hI μ' (A 0) 15 = hI μ (A 0) 15) (h1 : ∀ k, k < 4 → hI μ' (A (4 + k)) = hI μ (A (4 + k)) ∧ hI μ' (A (9 + k)) = hI μ (A (9 + k))) : cSc μ' A ns sl sr := by
  obtain ⟨g0, g1, g2⟩ := h
  refine ⟨h0.trans g0, g1, fun k hk => ?_⟩
  obtain ⟨e1, e2⟩ := h1 k (by omega)
  rw [e1, e2]
  exact g2 k hk
theorem cR.fr {μ μ' : Hp} {A : Nat → Nat} {S : St} (h : cR μ A S) (hF : qFr A μ μ') : cR μ' A S := by
  obtain ⟨h1, h2, h3, h4, h5, h6, h7, h8⟩ := h
  have hj := h1.1.2
  have hF' := hF.1
  refine ⟨h1.fr hF, ?_, ⟨?_, h3.2⟩, ?_, ?_, ?_, ?_, ?_⟩
  · unfold cNm; rw [hF'.1]; exact h2
  · unfold cHs; rw [hF'.o hj 24, hF'.o hj 25]; exact h3.1
  · unfold cLg; rw [hF'.o hj 26, hF'.o hj 27]; exact h4
  · unfold cIm; rw [hF'.o hj 0, hF'.o hj 38, hF'.o hj 28, hF'.o hj 29, hF'.2.1]; exact h5
  · unfold cTp; rw [hF'.o hj 1, hF'.o hj 2]; exact h6
  · refine h7.fr (by rw [hF'.o hj 0]) (fun k hk => ?_)
    have : k = 0 ∨ k = 1 ∨ k = 2 ∨ k = 3 := by omega
    rcases this with rfl | rfl | rfl | rfl
    · exact ⟨hF'.o hj 4, hF'.o hj 9⟩
    · exact ⟨hF'.o hj 5, hF'.o hj 10⟩
    · exact ⟨hF'.o hj 6, hF'.o hj 11⟩
    · exact ⟨hF'.o hj 7, hF'.o hj 12⟩
  · unfold cRf; rw [hF'.o hj 31]; exact h8
/-! the answers -/
def aCount (S : St) (x : Int32) : Int32 := if x = 0 then nI S.B.nf else if x = 1 then nI S.ns else if x = 2 then nI S.len else if x = 3 then nI (min S.L.length 60) else if x = 4 then nI S.H.length else if x = 5 then nI S.B.nl else if x = 6 then S.f 1 else -1000000
def aStatus (S : St) (x : Int32) : Int32 := if inN x 4 then S.rf (cl x) else -1
def triN (e : Tri) (x : Int32) : Int32 := if x = 0 then e.1 else if x = 1 then e.2.1 else e.2.2
def aLog (S : St) (i x : Int32) : Int32 := if inN i (min S.L.length 60) ∧ ¬ x < 0 ∧ x < 3 then (match S.L[cl i]? with
  | none => -1000000
  | some e => triN e x) else -1000000
def aStep (S : St) (k i x : Int32) : Int32 := if inN k S.ns ∧ inN i (S.sl (cl k)) ∧ ¬ x < 0 ∧ x < 5 then S.sr (cl k) (cl i * 5 + cl x) else -1000000
def aName (S : St) (s k i : Int32) : Int32 := if ¬ i < 0 ∧ i < 8 then (if s = 0 ∧ inN k S.B.nl then ltAt (S.nmL (cl k)) (cl i) else if s = 1 ∧ inN k S.B.nf then ltAt (S.nmF (cl k)) (cl i) else -1) else -1
def aTreaty (B : Bk) (l o y x : Int32) : Int32 := if inN l B.nl ∧ inN o B.nl ∧ (¬ y < 0 ∧ ¬ 199 < y) ∧ ¬ x < 0 ∧ x < 8 then onK (tAf B.tr B.nt y (-1) (-1) (cl l) (cl o)) (fun t => B.tr (12 * cl x + t)) else -1
def sumN (g : Nat → Nat) : Nat → Nat
  | 0 => 0
  | n + 1 => sumN g n + g n
def inFc (B : Bk) (y : Int32) (l m : Nat) : Bool := (tAf B.tr B.nt y (-1) (-1) l m).isSome
def aAll (B : Bk) (f : Nat → Int32) (x : Int32) : Int32 := if B.nf = 0 then -1000000 else if x = 0 then f 0 else if x = 1 then sumU (fun i => f (10 + i)) B.nf else if x = 2 then sumU (fun i => f (26 + i)) B.nl else if x = 3 then sumU (fun i => f (18 + i)) B.nf else if x = 4 then f 1 else if x = 5 then nI (sumN (fun l => cntU (fun m => inFc B (f 0) l m) l) B.nl) else if x = 6 then nI (fomU (fun i => f (2 + i)) (B.nf - 1)) else if x = 7 then nI (fomU (fun i => f (10 + i)) (B.nf - 1)) else if x = 8 then nI (cntU (fun k => decide (¬ f (96 + k) ≤ f 0)) (cl (f 1))) else -1000000
section full
variable {d : Nat} {ro : Nat → Nat} {μ : Hp} {A : Nat → Nat} {S : St}
theorem lgOk.min {h0 row : Nat → Int32} {nx hd : Nat} {L : List Tri} {M : Nat} (h : lgOk h0 row nx hd L M) (hM : 60 ≤ M) : min hd 60 = min L.length 60 := by
  obtain ⟨⟨-, -, -, -, h1, h2⟩, -⟩ := h
  omega
theorem c_count {x : Int32} (hd : 3 ≤ d) (h : cR μ A S) : xC d yX11_count cX11_count 2 (some .int) 0 0 [.ref (A 0), .int x] μ ro (fun r μ' => qFr A μ μ' ∧ r = some (.int (aCount S x))) := by
  obtain ⟨h1, -, ⟨⟨hx, hh⟩, -⟩, ⟨nx, hd', hl⟩, -, ⟨ht, -⟩, ⟨hs, -⟩, -⟩ := h
  have hsh := h1.1.1
  refine I_X11_count (fun J g hr => B_X11_count_0 g hr (hsh.s 0 14 18) (hsh.r 0 13 39) (hsh.s 39 6 9) (hsh.r 0 0 1) (hsh.s 1 10 5) (hsh.r 0 5 26) (hsh.s 26 9 3) (hsh.r 0 4 24) (hsh.s 24 8 3) (hsh.r 0 10 33) (hsh.s 33 12 4) (hsh.r 33 0 34) (hsh.s 34 0 112) ⟨fun c => ⟨qFr.rf, ?_⟩, fun c => ⟨qFr.rf, ?_⟩, fun c => ⟨qFr.rf, ?_⟩, fun c => ⟨qFr.rf, ?_⟩, fun c => ?_, fun c => ⟨qFr.rf, ?_⟩, fun c => ⟨qFr.rf, ?_⟩, fun c => ⟨lit_in 1 (by omega) (by omega), qFr.rf, ?_⟩⟩)
  · have n : ∀ k : Int32, k.toInt ≥ 0 → k.toInt ≤ 6 → ¬ x = k := fun k h1 h2 e => by subst e; omega
    unfold aCount
    rw [if_neg (n 0 (by decide) (by decide)), if_neg (n 1 (by decide) (by decide)), if_neg (n 2 (by decide) (by decide)), if_neg (n 3 (by decide) (by decide)), if_neg (n 4 (by decide) (by decide)), if_neg (n 5 (by decide) (by decide)), if_neg (n 6 (by decide) (by decide))]
  · subst c; rw [h1.2.1.2.1]; rfl
  · subst c; rw [hs]; rfl
  · subst c; rw [ht]; rfl
  · subst c
    refine xCall_of (c_lgSize (d := d - 1) (b := A 27) (by omega) ⟨hsh.s 26 9 3, hsh.r 26 2 27, hsh.s 27 0 300⟩ hl.1.1 hl.1.2.2.2.1) (by omega) ?_
    rintro r μ ⟨rfl, rfl⟩
    refine ⟨_, rfl, qFr.rf, ?_⟩
    rw [hl.min (by omega)]; rfl
  · subst c; rw [hh.1.1]; rfl
  · subst c; rw [h1.2.1.1]; rfl
  · subst c; rw [h1.2.2.2.2.1.1]; rfl
theorem c_status {x : Int32} (h : cR μ A S) : xC d yX11_status cX11_status 2 (some .int) 0 0 [.ref (A 0), .int x] μ ro (fun r μ' => qFr A μ μ' ∧ r = some (.int (aStatus S x))) := by
  have hsh := h.1.1.1
  have hrf := h.2.2.2.2.2.2.2
  unfold aStatus
  refine I_X11_status (fun J g hr => B_X11_status_0 g hr (hsh.s 0 14 18) (hsh.r 0 8 31) (hsh.s 31 0 4) ⟨fun c => ⟨qFr.rf, by rw [if_neg (fun q => q.1 c)]⟩, fun c1 => ⟨fun c => ⟨qFr.rf, by rw [if_neg (fun q => q.2 c)]⟩, fun c2 => ?_⟩⟩)
  have hx : inN x 4 := ⟨c1, c2⟩
  obtain ⟨e, k⟩ := hx.ex (by omega)
  rw [if_pos hx]
  refine ⟨by rw [e]; exact vp_in_nI k (by omega), qFr.rf, ?_⟩
  rw [show x.toNatClampNeg = cl x from rfl, hrf _ k]
theorem c_log {i x : Int32} (hd : 3 ≤ d) (h : cR μ A S) : xC d yX11_log cX11_log 3 (some .int) 0 0 [.ref (A 0), .int i, .int x] μ ro (fun r μ' => qFr A μ μ' ∧ r = some (.int (aLog S i x))) := by
  obtain ⟨h1, -, -, ⟨nx, hd', hl⟩, -⟩ := h
  have hsh := h1.1.1
  have hlg : isLg μ (A 26) (A 27) := ⟨hsh.s 26 9 3, hsh.r 26 2 27, hsh.s 27 0 300⟩
  unfold aLog
  refine I_X11_log (fun J g hr => B_X11_log_0 g hr (hsh.s 0 14 18) (hsh.r 0 5 26) (hsh.s 26 9 3) ⟨fun c => ⟨qFr.rf, by rw [if_neg (fun q => q.1.1 c)]⟩, fun c1 => xCall_of (c_lgSize (d := d - 1) (b := A 27) (by omega) hlg hl.1.1 hl.1.2.2.2.1) (by omega) ?_⟩)
  rintro r μ ⟨rfl, rfl⟩
  rw [hl.min (by omega)]
  refine ⟨_, rfl, fun c => ⟨qFr.rf, by rw [if_neg (fun q => q.1.2 c)]⟩, fun c2 => ⟨fun c => ⟨qFr.rf, by rw [if_neg (fun q => q.2.1 c)]⟩, fun c3 => ⟨fun c4 => ?_, fun c => ⟨qFr.rf, by rw [if_neg (fun q => c q.2.2)]⟩⟩⟩⟩
  have hi : inN i (min S.L.length 60) := ⟨c1, c2⟩
  obtain ⟨e1, k1⟩ := hi.ex (by omega)
  have hx : inN x 3 := ⟨c3, Int32.not_le.mpr c4⟩
  obtain ⟨e2, k2⟩ := hx.ex (by omega)
  rw [if_pos ⟨⟨c1, c2⟩, c3, c4⟩]
  have key := c_lgPart (ro := ro) (d := d - 1) (i := cl i) (w := cl x) hlg hl.1.2.1 hl.1.2.2.1 (by omega) k2
  rw [← e1, ← e2] at key
  refine ⟨hsh.s 0 14 18, _, hsh.r 0 5 26, hsh.s 26 9 3, xCall_of key (by omega) ?_⟩
  rintro r μ ⟨rfl, rfl⟩
  refine ⟨_, rfl, qFr.rf, ?_⟩
  have hlt : cl i < S.L.length := by omega
  have hm := hl.1.2.2.2.2
  obtain ⟨p0, p1, p2⟩ := hl.2 (cl i) _ (by omega) (List.getElem?_eq_getElem hlt)
  rw [List.getElem?_eq_getElem hlt]
  have : cl x = 0 ∨ cl x = 1 ∨ cl x = 2 := by omega
  rcases this with q | q | q
  · rw [q] at e2 ⊢
    subst e2
    rw [Nat.add_zero, p0]; rfl
  · rw [q] at e2 ⊢
    subst e2
    rw [p1]; rfl
  · rw [q] at e2 ⊢
    subst e2
    rw [p2]; rfl
end full
