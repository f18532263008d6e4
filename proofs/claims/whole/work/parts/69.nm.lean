/-! names: letters 1 to 26, coded low first by the class, high first by the model -/
def codC : List Nat → Nat
  | [] => 0
  | x :: xs => x + 32 * codC xs
def nmOk (ns : List Nat) : Prop := ns ≠ [] ∧ ns.length ≤ 8 ∧ ∀ x ∈ ns, 1 ≤ x ∧ x ≤ 26
theorem codC_lt : ∀ {ns : List Nat}, (∀ x ∈ ns, 1 ≤ x ∧ x ≤ 26) → codC ns < 32 ^ ns.length
  | [], _ => by simp [codC]
  | x :: xs, h => by
    have h1 := codC_lt (ns := xs) (fun y hy => h y (List.mem_cons_of_mem _ hy))
    have h2 := h x List.mem_cons_self
    rw [codC, List.length_cons, Nat.pow_succ]
    omega
theorem nmOk.lt {ns : List Nat} (h : nmOk ns) : codC ns < 2 ^ 40 := by
  have h1 := codC_lt h.2.2
  have h2 : 32 ^ ns.length ≤ 32 ^ 8 := Nat.pow_le_pow_right (by omega) h.2.1
  have h3 : (32 : Nat) ^ 8 = 2 ^ 40 := by decide
  omega
theorem codC_at : ∀ {ns : List Nat} {i : Nat}, (∀ x ∈ ns, 1 ≤ x ∧ x ≤ 26) → codC ns / 32 ^ i % 32 = (ns[i]?).getD 0
  | [], i, _ => by simp [codC]
  | x :: xs, 0, h => by
    have h2 := h x List.mem_cons_self
    simp [codC]
    omega
  | x :: xs, i + 1, h => by
    have h2 := h x List.mem_cons_self
    have e : codC (x :: xs) / 32 ^ (i + 1) = codC xs / 32 ^ i := by
      rw [Nat.pow_succ, Nat.mul_comm, ← Nat.div_div_eq_div_mul, codC]
      congr 1
      omega
    rw [e, codC_at (fun y hy => h y (List.mem_cons_of_mem _ hy)), List.getElem?_cons_succ]
theorem u64 {n : Nat} (h : n < 2 ^ 64) : (UInt64.ofNat n).toNat = n := UInt64.toNat_ofNat_of_lt' (by rw [show UInt64.size = 2 ^ 64 from rfl]; exact h)
theorem ushr_l {n s : Nat} (hn : n < 2 ^ 63) (hs : s < 64) : ((lN n).toUInt64 >>> (UInt64.ofNat s)).toInt64 = lN (n / 2 ^ s) := by
  have h1 : (lN n).toUInt64 = UInt64.ofNat n := rfl
  have h2 : lN (n / 2 ^ s) = (UInt64.ofNat (n / 2 ^ s)).toInt64 := rfl
  rw [h1, h2]
  congr 1
  apply UInt64.toNat_inj.mp
  have h3 : n / 2 ^ s ≤ n := Nat.div_le_self _ _
  rw [UInt64.toNat_shiftRight, u64 (by omega), u64 (by omega), u64 (by omega), Nat.mod_eq_of_lt hs, Nat.shiftRight_eq_div_pow]
theorem andL31 {n : Nat} (hn : n < 2 ^ 63) : (lN n &&& 31).toInt32 = nI (n % 32) := by
  have h1 : lN n &&& 31 = lN (n % 32) := by
    have h2 : lN n &&& 31 = (UInt64.ofNat n &&& 31).toInt64 := rfl
    have h3 : lN (n % 32) = (UInt64.ofNat (n % 32)).toInt64 := rfl
    rw [h2, h3]
    congr 1
    apply UInt64.toNat_inj.mp
    rw [UInt64.toNat_and, u64 (by omega), u64 (by omega)]
    exact Nat.and_two_pow_sub_one_eq_mod n 5
  rw [h1, lN_i]
theorem sh5 {i : Nat} (hi : i < 8) : (5 * nI i).toInt64.toUInt64 &&& Int64.toUInt64 63 = UInt64.ofNat (5 * i) := by
  have : i = 0 ∨ i = 1 ∨ i = 2 ∨ i = 3 ∨ i = 4 ∨ i = 5 ∨ i = 6 ∨ i = 7 := by omega
  rcases this with rfl | rfl | rfl | rfl | rfl | rfl | rfl | rfl <;> decide
/-- a letter of a name -/
def ltAt (ns : List Nat) (i : Nat) : Int32 := match ns[i]? with
  | none => -1
  | some x => nI (96 + x)
theorem c_letterOf {d : Nat} {ro : Nat → Nat} {μ : Hp} {ns : List Nat} {i : Nat} (h : nmOk ns) (hi : i < 8) :
    xC d yX6_letterOf cX6_letterOf 4 (some .int) 0 0 [.long (lN (codC ns)), .int (nI i)] μ ro (fun r μ' => r = some (.int (ltAt ns i)) ∧ μ' = μ) := by
  refine I_X6_letterOf (fun J g hr => B_X6_letterOf_0 g hr (fun v ev => ?_))
  have hl := h.lt
  have hd : codC ns / 2 ^ (5 * i) ≤ codC ns := Nat.div_le_self _ _
  rw [sh5 hi, ushr_l (by omega) (by omega)] at ev
  rw [ev, andL31 (by omega), Nat.pow_mul, show (2 : Nat) ^ 5 = 32 from rfl, codC_at h.2.2]
  unfold ltAt
  cases hx : ns[i]? with
  | none => exact ⟨fun c => absurd rfl c, fun _ => ⟨rfl, rfl⟩⟩
  | some x =>
    have hx1 := h.2.2 x (List.mem_of_getElem? hx)
    refine ⟨fun _ => ⟨?_, rfl⟩, fun c => absurd c (nI_ne0 (by simp; omega) (by simp; omega))⟩
    simp only [Option.getD_some]
    rw [show nI x + 97 = nI (x + 97) from nI_add x 97, show nI (x + 97) - 1 = nI (x + 96) from nI_pred (x + 96), Nat.add_comm]
