/-! step of the model -/
section mfull
variable {d : Nat} {ro : Nat → Nat} {μ : Hp} {m : Nat} {X : Nat → Nat} {S : St} {B : Bk} {f : Nat → Int32}
theorem m_isScript {k : Int32} (hd : 1 ≤ d) (h : mR μ m X S) (hns : S.ns ≤ 4) : xC d yX12_isScript cX12_isScript 2 (some .boolean) 0 0 [.ref m, .int k] μ ro (fun r μ' => μ' = μ ∧ r = some (.int (if inN k S.ns then 1 else 0))) := by
  refine I_X12_isScript (fun J g hr => B_X12_isScript_0 g hr h.1.1.1.1 hd ?_)
  rw [h.2.2.2.2.2.2.1.1]
  exact ⟨fun c => ⟨rfl, by rw [if_neg (fun q => q.1 c)]⟩, fun c1 => ⟨fun c => ⟨rfl, by rw [if_neg (fun q => ((in_m1 c1 (by omega)).mp q) c)]⟩, fun c2 => ⟨rfl, by rw [if_pos ((in_m1 c1 (by omega)).mpr c2)]⟩⟩⟩
theorem m_step {k i x : Int32} (hd : 2 ≤ d) (h : mR μ m X S) (hns : S.ns ≤ 4) (hsl : ∀ k, k < S.ns → S.sl k ≤ 12) : xC d yX12_step cX12_step 4 (some .int) 0 0 [.ref m, .int k, .int i, .int x] μ ro (fun r μ' => mqFr m X μ μ' ∧ r = some (.int (aStep S k i x))) := by
  obtain ⟨hF0, -, -, -⟩ := h.1.th
  have h0 := h.fr hF0
  have hs := h.1.1.1
  unfold aStep
  refine I_X12_step (fun J g hr => B_X12_step_0 g hr hs.1 (by omega) (xCall_of (m_isScript (d := d - 1) (by omega) h0 hns) (by omega) ?_))
  rintro r μ2 ⟨e2, rfl⟩
  have hF2 : mqFr m X μ μ2 := by rw [e2]; exact hF0
  have h2 := h.fr hF2
  have hs2 := h2.1.1.1
  by_cases hk : inN k S.ns
  · rw [if_pos hk]
    obtain ⟨e1, k1⟩ := hk.ex (by omega)
    have hsl' := hsl _ k1
    obtain ⟨s1, s2⟩ := h2.2.2.2.2.2.2.1.2 _ k1
    refine ⟨_, rfl, fun c => absurd c (by decide), fun _ => ⟨hs2.1, _, hs2.r 29 0 5, _, hs2.s 29 0 5, by rw [e1]; exact vp_in_nI (by omega) (by omega), ?_⟩⟩
    rw [show k.toNatClampNeg = cl k from rfl, s1]
    refine ⟨fun c => ⟨hF2, by rw [if_neg (fun q => q.2.1.1 c)]⟩, fun c3 => ⟨fun c => ⟨hF2, by rw [if_neg (fun q => ((in_m1 c3 (by omega)).mp q.2.1) c)]⟩, fun c4 => ⟨fun c => ⟨hF2, by rw [if_neg (fun q => q.2.2.1 c)]⟩, fun c5 => ⟨fun c => ⟨hF2, by rw [if_neg (fun q => btw 4 (by omega) c5 c q.2.2.2)]⟩, fun c6 => ?_⟩⟩⟩⟩
    have hi := (in_m1 c3 (by omega)).mpr c4
    obtain ⟨e3, k3⟩ := hi.ex (by omega)
    obtain ⟨z, hz, rfl⟩ := smallx 4 c5 c6 (by decide)
    rw [if_pos ⟨hk, hi, c5, nI_lt (b := 5) (by omega) (by omega)⟩, cl_nI (by omega)]
    have e : (5 : Int32) * (12 * k + i) + nI z = nI (60 * cl k + (cl i * 5 + z)) := by
      have t1 := i_mul 12 (cl k)
      rw [← e1] at t1
      have t2 : nI (12 * cl k) + i = nI (12 * cl k + cl i) := by
        have := nI_add (12 * cl k) (cl i)
        rw [← e3] at this
        exact this
      rw [show (12 : Int32) * k = nI (12 * cl k) from t1, t2, show (5 : Int32) * nI (12 * cl k + cl i) = nI (5 * (12 * cl k + cl i)) from i_mul 5 _, nI_add]
      congr 1
      omega
    rw [e, nI_clamp (by omega)]
    exact ⟨_, hs2.r 28 0 300, _, hs2.s 28 0 300, vp_in_nI (by omega) (by omega), hF2, by rw [s2 _ (by omega)]⟩
  · rw [if_neg hk]
    exact ⟨_, rfl, fun _ => ⟨hF2, by rw [if_neg (fun q => hk q.1)]⟩, fun c => absurd rfl c⟩
end mfull
