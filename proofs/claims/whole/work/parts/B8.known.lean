theorem K_cls {s : State} {args : Array Value} (hgt : ∀ w ∈ gtbl, w.before args s = true) : ∃ D : va_G, ∀ (c : Nat) (q : vw_C), vwCl[c]? = some q → u_Kn s q.1 q.2.1 q.2.2 (D.1 c) (D.2 c) := by
  obtain ⟨c0, i0, k0⟩ := u_known (C := RJ4) (T := TJ4) (N := 4) (n := 4) hgt inJ4 (hgt _ (tb_1 188 (by decide +kernel) rfl))
  obtain ⟨c1, i1, k1⟩ := u_known (C := RX1) (T := TX1) (N := 1) (n := 1) hgt inX1 (hgt _ (tb_1 145 (by decide +kernel) rfl))
  obtain ⟨c2, i2, k2⟩ := u_known (C := RX2) (T := TX2) (N := 9) (n := 9) hgt inX2 (hgt _ (tb_1 220 (by decide +kernel) rfl))
  obtain ⟨c3, i3, k3⟩ := u_known (C := RX3) (T := TX3) (N := 9) (n := 9) hgt inX3 (hgt _ (tb_1 71 (by decide +kernel) rfl))
  obtain ⟨c4, i4, k4⟩ := u_known (C := RX4) (T := TX4) (N := 3) (n := 3) hgt inX4 (hgt _ (tb_1 155 (by decide +kernel) rfl))
  obtain ⟨c5, i5, k5⟩ := u_known (C := RX5) (T := TX5) (N := 3) (n := 3) hgt inX5 (hgt _ (tb_1 172 (by decide +kernel) rfl))
  obtain ⟨c6, i6, k6⟩ := u_known (C := RX6) (T := TX6) (N := 5) (n := 5) hgt inX6 (hgt _ (tb_1 40 (by decide +kernel) rfl))
  obtain ⟨c7, i7, k7⟩ := u_known (C := RX7) (T := TX7) (N := 2) (n := 2) hgt inX7 (hgt _ (tb_2 59 (by decide +kernel) rfl))
  obtain ⟨c8, i8, k8⟩ := u_known (C := RX8) (T := TX8) (N := 4) (n := 4) hgt inX8 (hgt _ (tb_2 31 (by decide +kernel) rfl))
  obtain ⟨c9, i9, k9⟩ := u_known (C := RX9) (T := TX9) (N := 5) (n := 5) hgt inX9 (hgt _ (tb_1 77 (by decide +kernel) rfl))
  obtain ⟨c10, i10, k10⟩ := u_known (C := RX11) (T := TX11) (N := 18) (n := 18) hgt inX11 (hgt _ (tb_1 32 (by decide +kernel) rfl))
  obtain ⟨c11, i11, k11⟩ := u_known (C := RX12) (T := TX12) (N := 65) (n := 65) hgt inX12 (hgt _ (tb_5 238 (by decide +kernel) rfl))
  refine ⟨(fun c => ([c0, c1, c2, c3, c4, c5, c6, c7, c8, c9, c10, c11] : List ClassId).getD c c0, fun c => ([i0, i1, i2, i3, i4, i5, i6, i7, i8, i9, i10, i11] : List (Nat → Nat)).getD c i0), fun c q hq => ?_⟩
  match c, q, hq with
  | 0, q, hq => cases hq; exact k0
  | 1, q, hq => cases hq; exact k1
  | 2, q, hq => cases hq; exact k2
  | 3, q, hq => cases hq; exact k3
  | 4, q, hq => cases hq; exact k4
  | 5, q, hq => cases hq; exact k5
  | 6, q, hq => cases hq; exact k6
  | 7, q, hq => cases hq; exact k7
  | 8, q, hq => cases hq; exact k8
  | 9, q, hq => cases hq; exact k9
  | 10, q, hq => cases hq; exact k10
  | 11, q, hq => cases hq; exact k11
  | c + 12, q, hq => cases hq
theorem K_arr {s : State} {args : Array Value} {ty : FieldType} (h : (Cond.arrayClass ty).before args s = true) : ∃ cA : ClassId, ArrOfT s cA ty ∧ s.vm.findClass ("[" ++ ty.toString) = some cA := by
  obtain ⟨c, k, comp, h1, h2, h3⟩ := Cond.arrayClass_spec h
  exact ⟨c, fun N z => ⟨(fun k h => by cases h), k, h2, comp, h3⟩, h1⟩
theorem K_all {s : State} {args : Array Value} (hgt : ∀ w ∈ gtbl, w.before args s = true) (hq : ∃ cA : ClassId, ArrOfT s cA (.object "TreatyRouter$Script") ∧ va_RA s cA (.object "TreatyRouter$Script")) : ∃ (D : va_G) (cA : Nat → ClassId), va_K D vwCl (xtys cA) s := by
  obtain ⟨D, hD⟩ := K_cls hgt
  obtain ⟨a0, x0, y0⟩ := K_arr (hgt _ w_arrI)
  obtain ⟨a1, x1, y1⟩ := K_arr (hgt _ w_arrB)
  obtain ⟨a2, x2, y2⟩ := K_arr (hgt _ w_arrL)
  obtain ⟨a3, x3, y3⟩ := hq
  refine ⟨D, fun k => ([a0, a1, a2, a3] : List ClassId).getD k a0, hD, fun k q hk => ?_⟩
  match k, q, hk with
  | 0, q, hk => cases hk; exact ⟨x0, y0⟩
  | 1, q, hk => cases hk; exact ⟨x1, y1⟩
  | 2, q, hk => cases hk; exact ⟨x2, y2⟩
  | 3, q, hk => cases hk; exact ⟨x3, y3⟩
  | k + 4, q, hk => cases hk
theorem K_scr {s : State} {args : Array Value} (h : (Cond.arrayOver (.object "TreatyRouter$Script")).before args s = true) : ∃ cA : ClassId, ArrOfT s cA (.object "TreatyRouter$Script") ∧ va_RA s cA (.object "TreatyRouter$Script") := by
  obtain ⟨comp, c, k, h1, h2, h3, h4, h5⟩ := Cond.arrayOver_spec h
  exact ⟨c, fun N z => ⟨(fun k h => by cases h), k, h3, comp, h4⟩, k, comp, h3, h4, h1, h5⟩
theorem K_full {s : State} {args : Array Value} (hts : ∀ w ∈ lw_tbl, w.before args s = true) : va_AO "TreatyRouter$Script" s ∧ ∃ (D : va_G) (cA : Nat → ClassId), va_K D vwCl (xtys cA) s := by
  have h : (Cond.arrayOver (.object "TreatyRouter$Script")).before args s = true := hts _ (List.mem_append_right _ (List.mem_of_getElem? (i := 69) (by decide +kernel)))
  exact ⟨va_AO.of h, K_all (hgt_of hts) (K_scr h)⟩
