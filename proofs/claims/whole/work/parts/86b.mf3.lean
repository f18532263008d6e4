/-! count, status of the model -/
section mfull
variable {d : Nat} {ro : Nat → Nat} {μ : Hp} {m : Nat} {X : Nat → Nat} {S : St} {B : Bk} {f : Nat → Int32}
theorem m_count {x : Int32} (h : mR μ m X S) : xC d yX12_count cX12_count 2 (some .int) 0 0 [.ref m, .int x] μ ro (fun r μ' => mqFr m X μ μ' ∧ r = some (.int (aCount S x))) := by
  obtain ⟨hF0, -, n20, n22⟩ := h.1.th
  have h0 := h.fr hF0
  have hs := h.1.1.1
  refine I_X12_count (fun J g hr => B_X12_count_0 g hr hs.1 (hs.r 30 0 293) (hs.s 30 0 293) ⟨fun c => ⟨hF0, ?_⟩, fun c => ⟨hF0, ?_⟩, fun c => ⟨hF0, ?_⟩, fun c => ⟨hF0, ?_⟩, fun c => ⟨lit_in 112 (by omega) (by omega), hF0, ?_⟩, fun c => ⟨hF0, ?_⟩, fun c => ⟨hF0, ?_⟩, fun c => ⟨lit_in 31 (by omega) (by omega), hF0, ?_⟩⟩)
  · have n : ∀ k : Int32, k.toInt ≥ 0 → k.toInt ≤ 6 → ¬ x = k := fun k h1 h2 e => by subst e; omega
    unfold aCount
    rw [if_neg (n 0 (by decide) (by decide)), if_neg (n 1 (by decide) (by decide)), if_neg (n 2 (by decide) (by decide)), if_neg (n 3 (by decide) (by decide)), if_neg (n 4 (by decide) (by decide)), if_neg (n 5 (by decide) (by decide)), if_neg (n 6 (by decide) (by decide))]
  · subst c; rw [n22]; rfl
  · subst c; rw [h0.2.2.2.2.2.2.1.1]; rfl
  · subst c; rw [h0.2.2.2.2.2.1.1]; rfl
  · subst c; rw [h0.2.1.1]; rfl
  · subst c; rw [h0.2.2.1.1]; rfl
  · subst c; rw [n20]; rfl
  · subst c; rw [h0.1.2.2.1.1.1, ← h0.1.2.2.1.1.2.1]; rfl
theorem m_status {x : Int32} (hd : 1 ≤ d) (h : mR μ m X S) : xC d yX12_status cX12_status 2 (some .int) 0 0 [.ref m, .int x] μ ro (fun r μ' => mqFr m X μ μ' ∧ r = some (.int (aStatus S x))) := by
  obtain ⟨hF0, -, -, -⟩ := h.1.th
  have h0 := h.fr hF0
  have hs := h.1.1.1
  unfold aStatus
  refine I_X12_status (fun J g hr => B_X12_status_0 g hr hs.1 (hs.r 14 0 4) (hs.s 14 0 4) hd ⟨fun c => ⟨hF0, by rw [if_neg (fun q => q.1 c)]⟩, fun c1 => ⟨fun c => ⟨hF0, by rw [if_neg (fun q => btw 3 (by omega) c1 c (Int32.not_le.mp q.2))]⟩, fun c2 => ?_⟩⟩)
  obtain ⟨z, hz, rfl⟩ := smallx 3 c1 c2 (by decide)
  rw [if_pos (inN_nI (by omega) (by omega)), cl_nI (by omega), nI_clamp (by omega), h0.2.2.2.2.2.2.2 z (by omega)]
  exact ⟨vp_in_nI (by omega) (by omega), hF0, rfl⟩
end mfull
