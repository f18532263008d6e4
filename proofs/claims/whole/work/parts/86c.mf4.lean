/-! log of the model -/
section mfull
variable {d : Nat} {ro : Nat → Nat} {μ : Hp} {m : Nat} {X : Nat → Nat} {S : St} {B : Bk} {f : Nat → Int32}
theorem pred_n {n : Nat} (h : 0 < n) : nI n - 1 = nI (n - 1) := by
  obtain ⟨k, rfl⟩ : ∃ k, n = k + 1 := ⟨n - 1, by omega⟩
  exact nI_pred k
theorem m_log {i x : Int32} (hd : 1 ≤ d) (h : mR μ m X S) : xC d yX12_log cX12_log 3 (some .int) 0 0 [.ref m, .int i, .int x] μ ro (fun r μ' => mqFr m X μ μ' ∧ r = some (.int (aLog S i x))) := by
  obtain ⟨hF0, -, -, -⟩ := h.1.th
  have h0 := h.fr hF0
  have hs := h.1.1.1
  have hl := h0.2.1
  unfold logM at hl
  unfold aLog
  have hcl : min S.L.length 60 ≤ S.L.length ∧ min S.L.length 60 ≤ 60 := by omega
  generalize min S.L.length 60 = cnt at hl hcl ⊢
  refine I_X12_log (fun J g hr => B_X12_log_0 g hr hs.1 (hs.r 30 0 293) (hs.s 30 0 293) hd ?_)
  rw [hl.1]
  refine ⟨fun c => ⟨hF0, by rw [if_neg (fun q => q.1.1 c)]⟩, fun c1 => ⟨lit_in 112 (by omega) (by omega), fun c => ⟨hF0, by rw [if_neg (fun q => q.1.2 c)]⟩, fun c2 => ⟨fun c => ⟨hF0, by rw [if_neg (fun q => q.2.1 c)]⟩, fun c3 => ⟨fun c => ⟨hF0, by rw [if_neg (fun q => btw 2 (by omega) c3 c q.2.2)]⟩, fun c4 => ?_⟩⟩⟩⟩
  have hi : inN i cnt := ⟨c1, c2⟩
  obtain ⟨e1, k1⟩ := hi.ex (by omega)
  obtain ⟨z, hz, rfl⟩ := smallx 2 c3 c4 (by decide)
  rw [if_pos ⟨hi, c3, nI_lt (b := 3) (by omega) (by omega)⟩]
  generalize hI' : cl i = I at e1 k1
  have hlt : I < S.L.length := by omega
  obtain ⟨p0, p1, p2⟩ := hl.2 I _ k1 (List.getElem?_eq_getElem hlt)
  rw [List.getElem?_eq_getElem hlt]
  have e : (113 : Int32) + 3 * (nI cnt - 1 - i) + nI z = nI (113 + 3 * (cnt - 1 - I) + z) := by
    rw [e1, pred_n (by omega), pk_sub (by omega), show (3 : Int32) * nI (cnt - 1 - I) = nI (3 * (cnt - 1 - I)) from i_mul 3 _, show (113 : Int32) + nI (3 * (cnt - 1 - I)) = nI (113 + 3 * (cnt - 1 - I)) from i_off 113 _, nI_add]
  rw [e, nI_clamp (by omega)]
  refine ⟨vp_in_nI (by omega) (by omega), fun v ev => ⟨hF0, ?_⟩⟩
  rw [ev]
  have : z = 0 ∨ z = 1 ∨ z = 2 := by omega
  rcases this with rfl | rfl | rfl
  · rw [Nat.add_zero, p0]; rfl
  · rw [p1]; rfl
  · rw [p2]; rfl
end mfull
