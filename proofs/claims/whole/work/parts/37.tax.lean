/-! a stop's tax -/
/-- the Way at a has its row at b -/
def isWy (μ : Hp) (a b : Nat) : Prop := hS μ a = some (13, 5) ∧ hR μ a 0 = some b ∧ hS μ b = some (0, 35)
def dueN (txd : Bool) (p x h c : Nat) : Nat := if txd = true then p * x / 1000 - min (p * x / 1000) (h + c) else 0
def crdN (txd : Bool) (p x h c : Nat) : Nat := if txd = true then min (h + c - min (p * x / 1000) (h + c)) 1000000000 else c
def txdF (f : Nat → Int32) (k : Nat) : Bool := decide (f (32 + k) = 1 ∨ ¬ 25 ≤ f (80 + k))
theorem div_n {a : Nat} (d : Nat) (ha : a < 2 ^ 31) (h0 : 0 < d) (hd : d < 2 ^ 31) : nI a / Int32.ofNat d = nI (a / d) := pk_div ha h0 hd
theorem min_nn {x y : Nat} (hx : x < 2 ^ 31) (hy : y < 2 ^ 31) : (if nI y < nI x then nI y else nI x) = nI (min x y) := by
  by_cases h : x ≤ y
  · rw [if_neg (nI_nlt h hy), Nat.min_eq_left h]
  · rw [if_pos (nI_lt (by omega) hx), Nat.min_eq_right (by omega)]
theorem c_taxStop {d : Nat} {ro : Nat → Nat} {μ : Hp} {fa bw tw twr la ra aa ta st row bk ln fn lw lo tr i k v c l x p h : Nat} (hd : 1 ≤ d) (hfd : isFd μ fa bw tw la ra aa ta) (htw : isWy μ tw twr) (hst : isSt μ st row) (hb : hR μ st 1 = some bk) (hbk : isBk μ bk ln fn lw lo tr)
    (hi : i < 5) (hk : k < 16) (hv : hI μ twr i = nI v) (hv8 : v < 8) (hc : hI μ row (10 + v) = nI c) (hc9 : c ≤ 1000000000) (hl : hI μ lo v = nI l) (hl6 : l < 6) (hx : hI μ lw (12 + l) = nI x) (hx1 : x ≤ 1000) (hp : hI μ twr (15 + i) = nI p) (hp6 : p ≤ 1000000) (hh : hI μ twr (20 + i) = nI h) (hhp : h ≤ p) :
    xC d yX3_taxStop cX3_taxStop 10 none 0 0 [.ref fa, .ref st, .int (nI i), .int (nI k)] μ ro (fun r μ' => r = none ∧ μ' = wRow μ twr (upd (upd (hI μ twr) (25 + i) (nI (dueN (txdF (hI μ row) k) p x h c))) (30 + i) (nI (crdN (txdF (hI μ row) k) p x h c)))) := by
  obtain ⟨hf0, ⟨-, -, -, -, -, hft⟩, -⟩ := hfd
  obtain ⟨ht0, ht1, ht2⟩ := htw
  obtain ⟨hs0, hs1, hs2⟩ := hst
  obtain ⟨hb0, ⟨-, -, hblw, hblo, -⟩, ⟨-, -, hlw, hlo, -⟩⟩ := hbk
  have e0 : ((0 : Int32) + nI i).toNatClampNeg = i := by rw [show ((0 : Int32) + nI i) = nI (0 + i) from i_off 0 i, nI_clamp (by omega)]; omega
  have e25 : ((25 : Int32) + nI i).toNatClampNeg = 25 + i := off_cl 25 (by omega)
  have e30 : ((30 : Int32) + nI i).toNatClampNeg = 30 + i := off_cl 30 (by omega)
  have e15 : ((15 : Int32) + nI i).toNatClampNeg = 15 + i := off_cl 15 (by omega)
  have e20 : ((20 : Int32) + nI i).toNatClampNeg = 20 + i := off_cl 20 (by omega)
  have mpx : p * x ≤ 1000000 * 1000 := Nat.mul_le_mul hp6 hx1
  have hdiv : p * x / 1000 ≤ 1000000 := by omega
  refine I_X3_taxStop (fun J g hr => B_X3_taxStop_0 g hr hf0 hft ht0 ht1 ht2 hs0 hs1 hs2 ?_)
  have j55 : txdF (hI μ row) k = true → J μ 0 0 55 [(0, .ref fa), (1, .ref st), (2, .int (nI i)), (4, .int (nI v)), (6, .int (nI c))] [] := fun htx => by
    rw [htx] at hr
    refine B_X3_taxStop_55 g hr hf0 hft ht0 ht1 ht2 hs0 hb hb0 hblw hblo hlo hlw hd ?_
    rw [nI_clamp (by omega), hl, show ((12 : Int32) + nI l).toNatClampNeg = 12 + l from off_cl 12 (by omega), hx, e15, e20, e25, e30, hp, hh, nI_add]
    refine ⟨off_in 15 (by omega) (by omega), vp_in_nI (by omega) (by omega), off_in 12 (by omega) (by omega), fun v4 e4 => ⟨off_in 20 (by omega) (by omega), fun v6 e6 v7 e7 v8 e8 => ⟨off_in 25 (by omega) (by omega), off_in 30 (by omega) (by omega), rfl, ?_⟩⟩⟩
    have q1 : nI p * v4 / 1000 = nI (p * x / 1000) := by rw [e4, pk_mul]; exact div_n 1000 (by omega) (by omega) (by omega)
    rw [q1, min_nn (by omega) (by omega)] at e6
    rw [q1, e6, pk_sub (Nat.min_le_left _ _)] at e7
    rw [e6, pk_sub (Nat.min_le_right _ _), show (if (1000000000 : Int32) < nI (h + c - min (p * x / 1000) (h + c)) then 1000000000 else nI (h + c - min (p * x / 1000) (h + c))) = nI (min (h + c - min (p * x / 1000) (h + c)) 1000000000) from min_lit 1000000000 (by omega) (by omega)] at e8
    rw [e7, e8, wI_wI]
    rfl
  rw [e0, hv, show ((10 : Int32) + nI v).toNatClampNeg = 10 + v from off_cl 10 (by omega), show ((32 : Int32) + nI k).toNatClampNeg = 32 + k from off_cl 32 (by omega), show ((80 : Int32) + nI k).toNatClampNeg = 80 + k from off_cl 80 (by omega), e25, e30]
  refine ⟨off_in 0 (by omega) (by omega), off_in 10 (by omega) (by omega), fun v3 e3 => ⟨off_in 32 (by omega) (by omega), fun h1 => ?_, fun h1 => ⟨off_in 80 (by omega) (by omega), fun h2 => ⟨off_in 25 (by omega) (by omega), off_in 30 (by omega) (by omega), rfl, ?_⟩, fun h2 => ?_⟩⟩⟩
  · rw [e3, hc]; exact j55 (by simp [txdF, h1])
  · rw [e3, hc, wI_wI]
    have : txdF (hI μ row) k = false := by simp [txdF, h1, h2]
    rw [this]
    rfl
  · rw [e3, hc]; exact j55 (by simp [txdF, h2])
