/-! land, link, treaty of the model -/
section mfull
variable {d : Nat} {ro : Nat → Nat} {μ : Hp} {m : Nat} {X : Nat → Nat} {S : St} {B : Bk} {f : Nat → Int32}
theorem btw {x : Int32} (n : Nat) (hn : n + 1 < 2 ^ 31) (c0 : ¬ x < 0) (c : nI n < x) (q : x < nI (n + 1)) : False := by
  obtain ⟨j, hj, rfl⟩ := nI_of c0
  rcases Nat.lt_or_ge n j with h | h
  · exact absurd q (nI_nlt (by omega) (by omega))
  · exact absurd c (nI_nlt h (by omega))
theorem m_land {l x : Int32} (hd : 1 ≤ d) (h : mQ μ m X B f) : xC d yX12_land cX12_land 3 (some .int) 0 0 [.ref m, .int l, .int x] μ ro (fun r μ' => mqFr m X μ μ' ∧ r = some (.int (aLand B f l x))) := by
  obtain ⟨hF0, h0, n20, n22⟩ := h.th
  have hB := h.2.2.2.2.1
  have hnl := hB.1.1.1
  have hs := h.1.1
  unfold aLand
  refine I_X12_land (fun J g hr => B_X12_land_0 g hr hs.1 (hs.r 8 0 18) (hs.s 8 0 18) (hs.r 30 0 293) (hs.s 30 0 293) hd ?_)
  rw [n20, n22]
  refine ⟨fun c => ⟨hF0, by rw [if_neg (fun q => q.1.1 c)]⟩, fun c1 => ⟨fun c => ⟨hF0, by rw [if_neg (fun q => q.1.2 c)]⟩, fun c2 => ⟨fun c => absurd c (nl_pos hB ⟨c1, c2⟩), fun _ => ⟨fun c => ⟨hF0, by rw [if_neg (fun q => q.2.1 c)]⟩, fun c3 => ⟨fun c => ⟨hF0, by rw [if_neg (fun q => Int32.not_lt.mpr q.2.2 c)]⟩, fun c4 => ?_⟩⟩⟩⟩⟩
  obtain ⟨e1, k1⟩ := inN.ex (n := B.nl) ⟨c1, c2⟩ (by omega)
  obtain ⟨y, hy, rfl⟩ := smallx 3 c3 c4 (by decide)
  rw [if_pos ⟨⟨c1, c2⟩, c3, Int32.not_lt.mp c4⟩, cl_nI (by omega)]
  have e3 : (3 : Int32) * l + nI y = nI (3 * cl l + y) := by
    have := i_mul 3 (cl l)
    rw [← e1] at this
    rw [show (3 : Int32) * l = nI (3 * cl l) from this, nI_add]
  rw [e3, show (24 : Int32) + l = nI (24 + cl l) from off_i 24 e1, nI_clamp (by omega), nI_clamp (by omega)]
  refine ⟨fun c => ?_, fun c => ⟨vp_in_nI (by omega) (by omega), hF0, ?_⟩⟩
  · have : y ≠ 3 := fun q => c (by rw [q]; rfl)
    refine ⟨vp_in_nI (by omega) (by omega), hF0, ?_⟩
    rw [if_neg c, h0.2.1.2.1 (cl l) y k1 (by omega)]
  · rw [if_pos c, h0.2.2.1.2.2.2 (cl l) (by omega)]
theorem m_link {k x : Int32} (hd : 1 ≤ d) (h : mQ μ m X B f) : xC d yX12_link cX12_link 3 (some .int) 0 0 [.ref m, .int k, .int x] μ ro (fun r μ' => mqFr m X μ μ' ∧ r = some (.int (aLink f k x))) := by
  obtain ⟨hF0, h0, n20, n22⟩ := h.th
  have hrow := h.2.2.2.2.2
  have n16 := hrow.1.2.1
  have hs := h.1.1
  unfold aLink
  refine I_X12_link (fun J g hr => B_X12_link_0 g hr hs.1 (hs.r 30 0 293) (hs.s 30 0 293) hd ⟨lit_in 31 (by omega) (by omega), ?_⟩)
  rw [h0.2.2.1.1.1]
  refine ⟨fun c => ⟨hF0, by rw [if_neg (fun q => q.1.1 c)]⟩, fun c1 => ⟨fun c => ⟨hF0, by rw [if_neg (fun q => ((in_m1 c1 (by omega)).mp q.1) c)]⟩, fun c2 => ⟨fun c => ⟨hF0, by rw [if_neg (fun q => q.2.1 c)]⟩, fun c3 => ⟨fun c => ⟨hF0, by rw [if_neg (fun q => btw 4 (by omega) c3 c q.2.2)]⟩, fun c4 => ?_⟩⟩⟩⟩
  have hk := (in_m1 c1 (by omega)).mpr c2
  obtain ⟨e1, k1⟩ := hk.ex (by omega)
  obtain ⟨y, hy, rfl⟩ := smallx 4 c3 c4 (by decide)
  rw [if_pos ⟨hk, c3, nI_lt (b := 5) (by omega) (by omega)⟩, cl_nI (by omega)]
  have e : (32 : Int32) + 5 * k + nI y = nI (32 + 5 * cl k + y) := by
    have := i_mul 5 (cl k)
    rw [← e1] at this
    rw [show (5 : Int32) * k = nI (5 * cl k) from this, show (32 : Int32) + nI (5 * cl k) = nI (32 + 5 * cl k) from i_off 32 _, nI_add]
  rw [e, nI_clamp (by omega), h0.2.2.1.1.2.2.2 (cl k) y k1 (by omega)]
  exact ⟨vp_in_nI (by omega) (by omega), hF0, rfl⟩
theorem m_treaty {l o y x : Int32} (hd : 3 ≤ d) (h : mQ μ m X B f) : xC d yX12_treaty cX12_treaty 6 (some .int) 0 0 [.ref m, .int l, .int o, .int y, .int x] μ ro (fun r μ' => mqFr m X μ μ' ∧ r = some (.int (aTreaty B l o y x))) := by
  obtain ⟨hF0, h0, n20, n22⟩ := h.th
  have hB := h.2.2.2.2.1
  have hb1 := hB.1.1
  unfold aTreaty
  refine I_X12_treaty (fun J g hr => B_X12_treaty_0 g hr h.1.1.1 (by omega) ?_)
  rw [n20, n22]
  refine ⟨fun c => ⟨hF0, by rw [if_neg (fun q => q.1.1 c)]⟩, fun c1 => ⟨fun c => ⟨hF0, by rw [if_neg (fun q => q.1.2 c)]⟩, fun c2 => ⟨fun c => absurd c (nl_pos hB ⟨c1, c2⟩), fun _ => ⟨fun c => ⟨hF0, by rw [if_neg (fun q => q.2.1.1 c)]⟩, fun c3 => ⟨fun c => ⟨hF0, by rw [if_neg (fun q => q.2.1.2 c)]⟩, fun c4 => ⟨fun c => absurd c (nl_pos hB ⟨c1, c2⟩), fun _ => ⟨fun c => ⟨hF0, by rw [if_neg (fun q => q.2.2.1.1 c)]⟩, fun c5 => ⟨fun c => ⟨hF0, by rw [if_neg (fun q => q.2.2.1.2 c)]⟩, fun c6 => ⟨fun c => ⟨hF0, by rw [if_neg (fun q => q.2.2.2.1 c)]⟩, fun c7 => ⟨fun c => ⟨hF0, by rw [if_neg (fun q => btw 7 (by omega) c7 c q.2.2.2.2)]⟩, fun c8 => ?_⟩⟩⟩⟩⟩⟩⟩⟩⟩⟩
  obtain ⟨z, hz, rfl⟩ := smallx 7 c7 c8 (by decide)
  rw [if_pos ⟨⟨c1, c2⟩, ⟨c3, c4⟩, ⟨c5, c6⟩, c7, nI_lt (b := 8) (by omega) (by omega)⟩, cl_nI (by omega)]
  obtain ⟨e1, k1⟩ := inN.ex (n := B.nl) ⟨c1, c2⟩ (by omega)
  obtain ⟨e2, k2⟩ := inN.ex (n := B.nl) ⟨c3, c4⟩ (by omega)
  have key := c_mTreatyOf (ro := ro) (d := d - 1) (l := cl l) (k := cl o) (y := y) (by omega) h0.1.1 h0.2.1 hb1.2.2
  rw [← e1, ← e2, h0.2.2.2.1.1, h0.2.2.2.1.2.1] at key
  refine xCall_of key (by omega) ?_
  rintro r μ2 ⟨rfl, e⟩
  have hF2 : mqFr m X μ μ2 := by rw [e]; exact hF0
  have h2 := h.fr hF2
  cases ht : tAf B.tr B.nt y (-1) (-1) (cl l) (cl o) with
  | none => exact ⟨_, rfl, fun c => absurd rfl c, fun _ => ⟨hF2, rfl⟩⟩
  | some t =>
    have htn := tAf_lt ht
    refine ⟨_, rfl, fun _ => ⟨h2.1.1.1, _, h2.1.1.r 12 0 132, _, h2.1.1.s 12 0 132, ?_⟩, fun c => absurd c (oM_ne (by omega))⟩
    rw [show oM (fun t => 11 * t) (some t) + 2 = nI (11 * t + 2) from nI_add _ 2, nI_add, nI_clamp (by omega), (h2.2.1.2.2.2 t htn).2.2.1 z (by omega)]
    exact ⟨vp_in_nI (by omega) (by omega), hF2, rfl⟩
end mfull
