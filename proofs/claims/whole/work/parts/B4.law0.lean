theorem iX11_init : Cond.instanceMethod yX11_init ∈ gtbl := (tb_1 34 (by decide +kernel) rfl)
theorem sL_15 : xSite RL 15 yX11_init cX11_init 2 none 0 := ⟨(tb_1 33 (by decide +kernel) rfl), (tb_1 1 (by decide +kernel) rfl), (tb_1 35 (by decide +kernel) rfl), by decide +kernel, by decide⟩
theorem iX12_init : Cond.instanceMethod yX12_init ∈ gtbl := (tb_6 0 (by decide +kernel) rfl)
theorem sL_18 : xSite RL 18 yX12_init cX12_init 1 none 0 := ⟨(tb_5 239 (by decide +kernel) rfl), (tb_1 15 (by decide +kernel) rfl), (tb_6 1 (by decide +kernel) rfl), by decide +kernel, by decide⟩
theorem nL_16 : xNew RL 16 11 65 := ⟨RX12, TX12, tyX12, rfl, inX12, tyX12_ok, (tb_5 237 (by decide +kernel) rfl), (tb_5 238 (by decide +kernel) rfl), (tb_1 15 (by decide +kernel) rfl), by decide +kernel⟩
theorem nL_8 : xNew RL 8 10 18 := ⟨RX11, TX11, tyX11, rfl, inX11, tyX11_ok, (tb_1 31 (by decide +kernel) rfl), (tb_1 32 (by decide +kernel) rfl), (tb_1 1 (by decide +kernel) rfl), by decide +kernel⟩
section law0
variable {d mc ms : Nat} {yn : String} {ro : Nat → Nat} {J : JT} {b0 Ls : Nat} {xs : Nat → Int32} {μ0 : Hp}
theorem asN {μ : Hp} {q kd n c : Nat} {x : Nat × Nat} (hq : hS μ q = none) (hc : hS μ c = some x) : asW μ (wN μ q kd n) c := by
  have : c ≠ q := fun e => by rw [e, hq] at hc; cases hc
  exact ⟨va_up_ne _ _ this, va_up_ne _ _ this, va_up_ne _ _ this, va_up_ne _ _ this⟩
theorem law_J (g : xCtx RL cL_law 7 d mc ms yn ro J) (hd : 40 ≤ d) (hmc : 300000 ≤ mc) (hms : 3000000 ≤ ms) (hsl : SL J b0 Ls xs) (hsn : ∀ (μ : Hp) (k n pc : Nat) (lv : List (Nat × Value)) (st : List Value), decode cL_law pc = .ok (.arraylength, 1) → J μ k n (pc + 1) lv (.int (nI Ls) :: st) → J μ k n pc lv (.ref b0 :: st)) (hend : ∀ (μ : Hp) (k n : Nat) (lv : List (Nat × Value)), k ≤ mc → n ≤ ms → J μ k n 2370 lv [.int 1]) (hfm : ∀ x m w X, FM J mc ms x m w X) (hLs : Ls ≤ 3584) : J μ0 0 0 0 [(0, .ref b0)] [] := by
  refine r_new g nL_8 (by omega) (by omega) dL_law_0 (fun q0 hq0 => ?_)
  have h0 := (gk.start (μ := μ0)).newS (i := 0) rfl List.not_mem_nil hq0
  refine r_dup g dL_law_3 rfl ?_
  refine r_callI (d' := d - 1) (st := [.ref q0]) (As := []) g sL_15 rfl iX11_init rfl (Nat.le_of_ble_eq_true rfl) dL_law_4 (by omega) (by omega) (by omega) (k_X11_init (by omega) h0) (fun r μ1 hz => ?_)
  obtain ⟨rfl, L1, R1, A, h1, hA0, -, hA⟩ := hz
  obtain ⟨c1, s1⟩ := cR0 h1 hA
  refine r_astore_n g [(1, .ref q0), (0, .ref b0)] dL_law_7 (by decide) rfl ?_
  refine r_new g nL_16 (by omega) (by omega) dL_law_8 (fun m hm0 => ?_)
  have h2 := (gk.start (μ := μ1)).newS (i := 52) rfl List.not_mem_nil hm0
  refine r_dup g dL_law_11 rfl ?_
  refine r_callI (d' := d - 1) (st := [.ref m]) (As := []) g sL_18 rfl iX12_init rfl (Nat.le_of_ble_eq_true rfl) dL_law_12 (by omega) (by omega) (by omega) (k_X12_init (by omega) h2 (fun _ _ _ => List.not_mem_nil) (fun _ _ _ => List.not_mem_nil)) (fun r μ2 hz => ?_)
  obtain ⟨rfl, L2, R2, X, h3, hM⟩ := hz
  have m2 := mR0 h3 hM
  have kp : ∀ c y, hS μ1 c = some y → asW μ1 μ2 c := fun c y hy => by
    obtain ⟨k1, k2, k3, k4⟩ := h3.2.2.2 c y hy
    exact ⟨k2, k3, k4, k1.trans hy.symm⟩
  have hAs : ∀ i, i < 52 → ∃ y, hS μ1 (A i) = some y := fun i hi => ⟨_, h1.sh (hA.1 i hi)⟩
  have c2 : cR μ2 A S0 := c1.pt (fun i hi _ => by obtain ⟨y, hy⟩ := hAs i (by omega); exact kp _ y hy) (by obtain ⟨y, hy⟩ := hAs 30 (by omega); exact (kp _ y hy).2.2.2)
  have s2 : sb μ2 (A 30) (A 51) 16 [] := s1.pt (by obtain ⟨y, hy⟩ := hAs 30 (by omega); exact kp _ y hy) (by obtain ⟨y, hy⟩ := hAs 51 (by omega); exact kp _ y hy)
  have hXf : ∀ i, i ∈ mK → hS μ1 (X i) = none ∧ ∃ y, hS μ2 (X i) = some y := fun i hi => by
    obtain ⟨q, hq, rfl⟩ := List.mem_map.mp hi
    obtain ⟨p, hp⟩ := List.mem_iff_getElem?.mp hq
    exact ⟨(h3.1 _ (hM.2 p q hp).1).2.1, _, (h3.1 _ (hM.2 p q hp).1).1⟩
  have hap : ∀ i, i < 52 → A i ∉ mK.map X := fun i hi hmm => by
    obtain ⟨j, hj, e⟩ := List.mem_map.mp hmm
    obtain ⟨y, hy⟩ := hAs i hi
    rw [← e, (hXf j hj).1] at hy
    cases hy
  refine r_astore_n g [(2, .ref m), (1, .ref q0), (0, .ref b0)] dL_law_15 (by decide) rfl ?_
  refine r_iconst g 1 dL_law_16 (by decide) ?_
  refine r_newL g 1 (by decide) (by decide) (by omega) (by omega) (by omega) dL_law_17 (fun w hw => ?_)
  have hA2 : ∀ i, i < 52 → asW μ2 (wN μ2 w 2 1) (A i) := fun i hi => by
    obtain ⟨y, hy⟩ := hAs i hi
    exact asN hw ((kp _ y hy).2.2.2.trans hy)
  have hL : LI q0 m w A X S0 (wN μ2 w 2 1) := ⟨⟨hA0, c2.pt (fun i hi _ => hA2 i (by omega)) (hA2 30 (by omega)).2.2.2⟩, m2.pt (asN hw m2.1.1.1.1) (fun i hi => by obtain ⟨-, y, hy⟩ := hXf i hi; exact asN hw hy), S0_ok, hS_wN _ _ _ _, ⟨A 51, 16, [], s2.pt (hA2 30 (by omega)) (hA2 51 (by omega)), hap 51 (by omega)⟩, fun i hi => hap i (by omega)⟩
  refine r_astore_n g [(3, .ref w), (2, .ref m), (1, .ref q0), (0, .ref b0)] dL_law_19 (by decide) rfl ?_
  refine r_iconst g 0 dL_law_20 (by decide) ?_
  refine r_istore g [(4, .int 0), (3, .ref w), (2, .ref m), (1, .ref q0), (0, .ref b0)] dL_law_21 (by decide) rfl ?_
  exact L_loop g hd hsl hsn hend (hfm _ _ _ _) hLs 512 0 _ _ A S0 _ (by omega) (by omega) (by omega) (by omega) hL
end law0
