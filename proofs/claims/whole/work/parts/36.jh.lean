/-! judging all hops -/
theorem hp_ext {μ ν : Hp} (h1 : ∀ a, hI μ a = hI ν a) (h2 : hL μ = hL ν) (h3 : hR μ = hR ν) (h4 : hS μ = hS ν) : μ = ν := by
  obtain ⟨a, b, c, e⟩ := μ
  obtain ⟨a', b', c', e'⟩ := ν
  have : a = a' := funext h1
  have h2' : b = b' := h2
  have h3' : c = c' := h3
  have h4' : e = e' := h4
  subst this; subst h2'; subst h3'; subst h4'
  rfl
def lstU (p : Nat → Bool) : Nat → Option Nat
  | 0 => none
  | k + 1 => if p k = true then some k else lstU p k
theorem lstU_lt {p : Nat → Bool} : ∀ {n k : Nat}, lstU p n = some k → k < n ∧ p k = true
  | 0, _, h => by simp [lstU] at h
  | n + 1, k, h => by
    unfold lstU at h
    split at h
    · cases h; exact ⟨Nat.lt_succ_self _, by assumption⟩
    · exact ⟨Nat.lt_succ_of_lt (lstU_lt h).1, (lstU_lt h).2⟩
/-- the k-th link leads a hop of the sort from u to v now -/
def hpP (f : Nat → Int32) (s : Int32) (u v : Nat) (k : Nat) : Bool := decide (f (32 + k) = s ∧ ¬ f 0 < f (96 + k) ∧ f (64 + k) = nI u ∧ f (48 + k) = nI v)
def M3 (μ : Hp) (la aa ra : Nat) (L A R : Nat → Int32) : Hp := wRow (wRow (wRow μ la L) aa A) ra R
section M3s
variable {μ : Hp} {la aa ra : Nat} {L A R : Nat → Int32} (h1 : la ≠ aa) (h2 : la ≠ ra) (h3 : aa ≠ ra)
theorem M3_la (h1 : la ≠ aa) (h2 : la ≠ ra) : hI (M3 μ la aa ra L A R) la = L := by rw [M3, hI_wRow_n _ _ h2, hI_wRow_n _ _ h1, hI_wRow_s]
theorem M3_aa (h3 : aa ≠ ra) : hI (M3 μ la aa ra L A R) aa = A := by rw [M3, hI_wRow_n _ _ h3, hI_wRow_s]
theorem M3_ra : hI (M3 μ la aa ra L A R) ra = R := hI_wRow_s _ _ _
theorem M3_n {b : Nat} (g1 : b ≠ la) (g2 : b ≠ aa) (g3 : b ≠ ra) : hI (M3 μ la aa ra L A R) b = hI μ b := by rw [M3, hI_wRow_n _ _ g3, hI_wRow_n _ _ g2, hI_wRow_n _ _ g1]
theorem M3_eq {μ1 : Hp} (h1 : la ≠ aa) (h2 : la ≠ ra) (h3 : aa ≠ ra) (e1 : hI μ1 la = L) (e2 : hI μ1 aa = A) (e3 : hI μ1 ra = R) (e4 : ∀ b, b ≠ la → b ≠ aa → b ≠ ra → hI μ1 b = hI μ b) (e5 : hL μ1 = hL μ) (e6 : hR μ1 = hR μ) (e7 : hS μ1 = hS μ) : μ1 = M3 μ la aa ra L A R := by
  refine hp_ext (fun b => ?_) e5 e6 e7
  by_cases q3 : b = ra
  · subst q3; rw [e3, M3_ra]
  · by_cases q2 : b = aa
    · subst q2; rw [e2, M3_aa h3]
    · by_cases q1 : b = la
      · subst q1; rw [e1, M3_la h1 h2]
      · rw [e4 b q1 q2 q3, M3_n q1 q2 q3]
end M3s
/-- what is known of the links of a state: their sorts, who holds (fi), of whom (se), and of the firms' lands (ld) -/
def lkOK (μ : Hp) (row lo n nf nl : Nat) (sr fi se ld : Nat → Nat) : Prop := n ≤ 16 ∧ nf ≤ 8 ∧ nl ≤ 6 ∧ (∀ k, k < n → hI μ row (32 + k) = nI (sr k) ∧ sr k < 2 ∧ hI μ row (48 + k) = nI (fi k) ∧ fi k < nf ∧ hI μ row (64 + k) = nI (se k) ∧ se k < nf) ∧ ∀ j, j < nf → hI μ lo j = nI (ld j) ∧ ld j < nl
def artK (μ : Hp) (row tr : Nat) (tA : Nat → Nat → Option Nat) (fi se ld : Nat → Nat) (home k : Nat) : Nat := artF (ld (se k)) (ld (fi k)) home tA (hI μ row (32 + k)) (hI μ row (2 + fi k)) (hI μ row (80 + k)) (hI μ row (96 + k)) (hI μ row 0) (fun t => hI μ tr (72 + t)) (fun t => hI μ tr (84 + t)) (fun t => hI μ tr (48 + t)) (fun t => hI μ tr (60 + t))
def rateK (μ : Hp) (row tr lw : Nat) (tA : Nat → Nat → Option Nat) (sr fi se ld : Nat → Nat) (home k : Nat) : Int32 := rateF (ld (se k)) (ld (fi k)) tA (sr k) (artK μ row tr tA fi se ld home k) (fun l => hI μ lw (sr k * 6 + l)) (fun t => hI μ tr (12 + t)) (fun t => hI μ tr (24 + t)) (fun t => hI μ tr (36 + t))
theorem artF_le {here there home : Nat} {tA : Nat → Nat → Option Nat} {sort staffY shareL since year : Int32} {tS tO tH tY : Nat → Int32} : artF here there home tA sort staffY shareL since year tS tO tH tY ≤ 5 := by
  unfold artF
  split
  · omega
  · split
    · omega
    · repeat' split
      all_goals omega
theorem hpP_uniq {f : Nat → Int32} {s : Int32} {u v u' v' k : Nat} (hu : u < 8) (hv : v < 8) (hu' : u' < 8) (hv' : v' < 8) (h : hpP f s u v k = true) (h' : hpP f s u' v' k = true) : u = u' ∧ v = v' := by
  simp only [hpP, decide_eq_true_eq] at h h'
  have e1 := h.2.2.1.symm.trans h'.2.2.1
  have e2 := h.2.2.2.symm.trans h'.2.2.2
  exact ⟨(nI_eq (by omega) (by omega)).mp e1, (nI_eq (by omega) (by omega)).mp e2⟩
theorem c_judgeHops {d : Nat} {ro : Nat → Nat} {μ : Hp} {fa bw tw la ra aa ta st row bk ln fn lw lo tr nl nf n ow : Nat} {s : Int32} {tA : Nat → Nat → Option Nat} {sr fi se ld : Nat → Nat} (hd : 1 ≤ d) (hfd : isFd μ fa bw tw la ra aa ta) (hst : isSt μ st row) (hb : hR μ st 1 = some bk) (hbk : isBk μ bk ln fn lw lo tr)
    (hn : hI μ row 1 = nI n) (hlk : lkOK μ row lo n nf nl sr fi se ld) (how : ow < nf) (htA : ∀ l m, l < nl → m < nl → l ≠ m → hI μ ta (l * 6 + m) = oI (tA l m)) (ht12 : ∀ l m t, tA l m = some t → t < 12)
    (d1 : la ≠ aa) (d2 : la ≠ ra) (d3 : aa ≠ ra) (hap : ∀ b, b ∈ [row, lo, ta, tr, lw] → b ≠ la ∧ b ≠ aa ∧ b ≠ ra) :
    xC d yX3_judgeHops cX3_judgeHops 6 none 0 0 [.ref fa, .ref st, .int s, .int (nI ow)] μ ro (fun r μ' => r = none ∧ ∃ L A R, μ' = M3 μ la aa ra L A R ∧ ∀ u v, u < 8 → v < 8 → L (u * 8 + v) = oI (lstU (hpP (hI μ row) s u v) n) ∧ ∀ k, lstU (hpP (hI μ row) s u v) n = some k → A (u * 8 + v) = nI (artK μ row tr tA fi se ld (ld ow) k) ∧ R (u * 8 + v) = rateK μ row tr lw tA sr fi se ld (ld ow) k) := by
  have hfd0 := hfd
  have hst0 := hst
  have hbk0 := hbk
  obtain ⟨hf0, ⟨-, hfl, hfr, hfa, -, -⟩, ⟨hla, hra, haa, -⟩⟩ := hfd
  obtain ⟨hs0, hs1, hs2⟩ := hst
  obtain ⟨hb0, ⟨-, -, -, hblo, -⟩, ⟨-, -, -, hlo, -⟩⟩ := hbk
  obtain ⟨hn16, hnf, hnl, hk, hld⟩ := hlk
  have arow := hap row (by simp)
  have alo := hap lo (by simp)
  have ata := hap ta (by simp)
  have atr := hap tr (by simp)
  have alw := hap lw (by simp)
  refine I_X3_judgeHops (fun J g hr => B_X3_judgeHops_0 g hr ?_)
  have second : ∀ L0 A0 R0, (∀ u v, u < 8 → v < 8 → L0 (u * 8 + v) = -1) → J (M3 μ la aa ra L0 A0 R0) 0 0 30 [(0, .ref fa), (1, .ref st), (2, .int s), (3, .int (nI ow)), (4, .int 0)] [] := by
    intro L0 A0 R0 hL0
    refine loopUp (Q := fun k => ∀ L A R, (∀ u v, u < 8 → v < 8 → L (u * 8 + v) = oI (lstU (hpP (hI μ row) s u v) k) ∧ ∀ k', lstU (hpP (hI μ row) s u v) k = some k' → A (u * 8 + v) = nI (artK μ row tr tA fi se ld (ld ow) k') ∧ R (u * 8 + v) = rateK μ row tr lw tA sr fi se ld (ld ow) k') → J (M3 μ la aa ra L A R) 0 0 30 [(0, .ref fa), (1, .ref st), (2, .int s), (3, .int (nI ow)), (4, .int (nI k))] []) n ?_ (fun k hkn ih L A R hI0 => ?_) 0 (Nat.zero_le _) L0 A0 R0 (fun u v hu hv => ⟨hL0 u v hu hv, fun k' h => by cases h⟩)
    · intro L A R hI0
      refine B_X3_judgeHops_30 g hr hs0 hs1 hs2 hf0 hfl hla hfa hb hb0 hblo hlo ?_
      rw [M3_n arow.1 arow.2.1 arow.2.2, hn]
      exact ⟨lit_in 1 (by omega) (by omega), fun _ => ⟨rfl, L, A, R, rfl, hI0⟩, fun h => absurd (Int32.le_refl _) h⟩
    · obtain ⟨k1, k2, k3, k4, k5, k6⟩ := hk k hkn
      have skip : (∀ u v, u < 8 → v < 8 → ¬ hpP (hI μ row) s u v k = true) → J (M3 μ la aa ra L A R) 0 0 30 [(0, .ref fa), (1, .ref st), (2, .int s), (3, .int (nI ow)), (4, .int (nI k + 1))] [] := fun h => by
        rw [nI_1]
        refine ih L A R (fun u v hu hv => ?_)
        rw [lstU, if_neg (h u v hu hv)]
        exact hI0 u v hu hv
      refine B_X3_judgeHops_30 g hr hs0 hs1 hs2 hf0 hfl hla hfa hb hb0 hblo hlo ?_
      rw [M3_n arow.1 arow.2.1 arow.2.2, hn, show ((32 : Int32) + nI k).toNatClampNeg = 32 + k from off_cl 32 (by omega), show ((96 : Int32) + nI k).toNatClampNeg = 96 + k from off_cl 96 (by omega), show ((64 : Int32) + nI k).toNatClampNeg = 64 + k from off_cl 64 (by omega), show ((48 : Int32) + nI k).toNatClampNeg = 48 + k from off_cl 48 (by omega)]
      refine ⟨lit_in 1 (by omega) (by omega), fun h => absurd h (nI_ge hkn (by omega)), fun _ => ⟨off_in 32 (by omega) (by omega), fun h => skip (fun u v _ _ q => by simp [hpP, h] at q), fun hsrt => ⟨off_in 96 (by omega) (by omega), lit_in 0 (by omega) (by omega), fun h => skip (fun u v _ _ q => by simp [hpP, h] at q), fun hsin => ⟨off_in 64 (by omega) (by omega), off_in 48 (by omega) (by omega), fun v10 e10 => ?_⟩⟩⟩⟩
      rw [k5, k3, show nI (se k) * 8 = nI (se k * 8) from pk_mul _ 8, nI_add] at e10
      subst e10
      rw [nI_clamp (by omega), nI_clamp (by omega)]
      have inat : vp_in (nI (se k * 8 + fi k)) 64 := vp_in_nI (by omega) (by omega)
      refine ⟨inat, vp_in_nI (by omega) (by omega), fun v13 e13 => ?_⟩
      rw [hI_wI_n _ _ _ alo.1, M3_n alo.1 alo.2.1 alo.2.2, (hld ow how).1] at e13
      subst e13
      -- the heap ahead of the first call
      have hA1 : wI (M3 μ la aa ra L A R) la (se k * 8 + fi k) (nI k) = M3 μ la aa ra (upd L (se k * 8 + fi k) (nI k)) A R := by
        refine M3_eq d1 d2 d3 ?_ ?_ ?_ (fun b g1 g2 g3 => ?_) rfl rfl rfl
        · rw [hI_wI_s, M3_la d1 d2]
        · rw [hI_wI_n _ _ _ (Ne.symm d1), M3_aa d3]
        · rw [hI_wI_n _ _ _ (Ne.symm d2), M3_ra]
        · rw [hI_wI_n _ _ _ g1, M3_n g1 g2 g3]
      rw [hA1]
      generalize hL1 : upd L (se k * 8 + fi k) (nI k) = L1
      have rd : ∀ (A' : Nat → Int32) b, b ∈ [row, lo, ta, tr, lw] → hI (M3 μ la aa ra L1 A' R) b = hI μ b := fun A' b hb => M3_n (hap b hb).1 (hap b hb).2.1 (hap b hb).2.2
      have hart := fun A' => c_articleOf (d := d - 1) (ro := ro) (μ := M3 μ la aa ra L1 A' R) (nl := nl) (tA := tA) (k := k) (p := fi k) (q := se k) (lp := ld (fi k)) (lq := ld (se k)) (home := ld ow) hfd0 hst0 hb hbk0 (by omega) (by rw [rd A' row (by simp)]; exact k3) (by rw [rd A' row (by simp)]; exact k5) (by omega) (by omega) (by rw [rd A' lo (by simp)]; exact (hld _ k4).1) (by rw [rd A' lo (by simp)]; exact (hld _ k6).1) hnl (hld _ k4).2 (hld _ k6).2 (hld _ how).2 (fun l m h1 h2 h3 => by rw [rd A' ta (by simp)]; exact htA l m h1 h2 h3) ht12
      refine xCall_of (hart A) (by omega) ?_
      rintro r μ1 ⟨rfl, rfl⟩
      rw [rd A row (by simp), rd A tr (by simp)]
      refine ⟨_, rfl, 64, haa, inat, hf0, ra, hfr, aa, hfa, 64, haa, inat, fun v23 e23 => ?_⟩
      have hA2 : wI (M3 μ la aa ra L1 A R) aa (se k * 8 + fi k) (nI (artK μ row tr tA fi se ld (ld ow) k)) = M3 μ la aa ra L1 (upd A (se k * 8 + fi k) (nI (artK μ row tr tA fi se ld (ld ow) k))) R := by
        refine M3_eq d1 d2 d3 ?_ ?_ ?_ (fun b g1 g2 g3 => ?_) rfl rfl rfl
        · rw [hI_wI_n _ _ _ d1, M3_la d1 d2]
        · rw [hI_wI_s, M3_aa d3]
        · rw [hI_wI_n _ _ _ (Ne.symm d3), M3_ra]
        · rw [hI_wI_n _ _ _ g2, M3_n g1 g2 g3]
      change v23 = hI (wI (M3 μ la aa ra L1 A R) aa (se k * 8 + fi k) (nI (artK μ row tr tA fi se ld (ld ow) k))) aa (se k * 8 + fi k) at e23
      rw [hI_wI_s, upd_s] at e23
      subst e23
      show xCall d yX3_rateOf cX3_rateOf 8 (some .int) [.ref fa, .ref st, .int (nI k), .int (nI (artK μ row tr tA fi se ld (ld ow) k))] (wI (M3 μ la aa ra L1 A R) aa (se k * 8 + fi k) (nI (artK μ row tr tA fi se ld (ld ow) k))) ro _
      rw [hA2]
      generalize hAA : upd A (se k * 8 + fi k) (nI (artK μ row tr tA fi se ld (ld ow) k)) = A1
      refine xCall_of (c_rateOf (d := d - 1) (ro := ro) (μ := M3 μ la aa ra L1 A1 R) (nl := nl) (tA := tA) (k := k) (p := fi k) (q := se k) (lp := ld (fi k)) (lq := ld (se k)) (srt := sr k) hfd0 hst0 hb hbk0 (by omega) (by rw [rd A1 row (by simp)]; exact k3) (by rw [rd A1 row (by simp)]; exact k5) (by omega) (by omega) (by rw [rd A1 lo (by simp)]; exact (hld _ k4).1) (by rw [rd A1 lo (by simp)]; exact (hld _ k6).1) hnl (hld _ k4).2 (hld _ k6).2 artF_le (by rw [rd A1 row (by simp)]; exact k1) k2 (fun l m h1 h2 h3 => by rw [rd A1 ta (by simp)]; exact htA l m h1 h2 h3) ht12) (by omega) ?_
      rintro r μ1 ⟨rfl, rfl⟩
      rw [rd A1 tr (by simp), rd A1 lw (by simp)]
      refine ⟨_, rfl, 64, hra, inat, ?_⟩
      have hA3 : ∀ x, wI (M3 μ la aa ra L1 A1 R) ra (se k * 8 + fi k) x = M3 μ la aa ra L1 A1 (upd R (se k * 8 + fi k) x) := fun x => by
        refine M3_eq d1 d2 d3 ?_ ?_ ?_ (fun b g1 g2 g3 => ?_) rfl rfl rfl
        · rw [hI_wI_n _ _ _ d2, M3_la d1 d2]
        · rw [hI_wI_n _ _ _ d3, M3_aa d3]
        · rw [hI_wI_s, M3_ra]
        · rw [hI_wI_n _ _ _ g3, M3_n g1 g2 g3]
      rw [hA3, nI_1]
      refine ih L1 A1 _ (fun u v hu hv => ?_)
      have hpk : hpP (hI μ row) s (se k) (fi k) k = true := by simp [hpP, hsrt, hsin, k5, k3]
      by_cases huv : u = se k ∧ v = fi k
      · obtain ⟨rfl, rfl⟩ := huv
        rw [lstU, if_pos hpk, ← hL1, ← hAA, upd_s, upd_s, upd_s]
        refine ⟨rfl, fun k' h => ?_⟩
        cases h
        exact ⟨rfl, rfl⟩
      · have hno : ¬ hpP (hI μ row) s u v k = true := fun q => huv (by
          have := hpP_uniq hu hv (by omega) (by omega) q hpk
          exact this)
        rw [lstU, if_neg hno, ← hL1, ← hAA, upd_n _ (by omega), upd_n _ (by omega), upd_n _ (by omega)]
        exact hI0 u v hu hv
  have first := loopUp (Q := fun i => ∀ L, (∀ j, j < i → L j = -1) → J (M3 μ la aa ra L (hI μ aa) (hI μ ra)) 0 0 3 [(0, .ref fa), (1, .ref st), (2, .int s), (3, .int (nI ow)), (4, .int (nI i))] []) 64 ?_ (fun i hi ih L hL => ?_) 0 (Nat.zero_le _) (hI μ la) (fun j hj => absurd hj (Nat.not_lt_zero _))
  · rw [← M3_eq d1 d2 d3 rfl rfl rfl (fun _ _ _ _ => rfl) rfl rfl rfl] at first
    exact first
  · intro L hL
    refine B_X3_judgeHops_3 g hr hf0 hfl hla ⟨fun _ => second L _ _ (fun u v hu hv => hL _ (by omega)), fun h => absurd (Int32.le_refl (nI 64)) h⟩
  · refine B_X3_judgeHops_3 g hr hf0 hfl hla ⟨fun h => absurd h (nI_ge (b := 64) hi (by omega)), fun _ => ⟨vp_in_nI hi (by omega), ?_⟩⟩
    rw [nI_clamp (by omega), nI_1]
    have hA1 : wI (M3 μ la aa ra L (hI μ aa) (hI μ ra)) la i (-1) = M3 μ la aa ra (upd L i (-1)) (hI μ aa) (hI μ ra) := by
      refine M3_eq d1 d2 d3 ?_ ?_ ?_ (fun b g1 g2 g3 => ?_) rfl rfl rfl
      · rw [hI_wI_s, M3_la d1 d2]
      · rw [hI_wI_n _ _ _ (Ne.symm d1), M3_aa d3]
      · rw [hI_wI_n _ _ _ (Ne.symm d2), M3_ra]
      · rw [hI_wI_n _ _ _ g1, M3_n g1 g2 g3]
    rw [hA1]
    refine ih _ (fun j hj => ?_)
    by_cases h : j = i
    · subst h; rw [upd_s]
    · rw [upd_n _ h]; exact hL j (by omega)
