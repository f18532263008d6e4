set_option maxHeartbeats 4000000 in
set_option maxRecDepth 100000 in
theorem B_X11_init_191S {d : Nat} {mc ms k n : Nat} {ro : Nat → Nat} {J : JT} {Z : Option Value → Hp → Prop} (g : xCtx RX11 cX11_init 2 d mc ms yX11_init.name ro J) (hr : xRet cX11_init none mc ms Z J) {μ : Hp} {a0 : Nat} {x1 : Int32} {a0_scripts : Nat} {N_a0_scripts : Nat} (hs_a0 : hS μ a0 = some (14, 18)) (hr_a0_scripts : hR μ a0 1 = some a0_scripts) (hs_a0_scripts : hS μ a0_scripts = some (3, N_a0_scripts))
    (h : (((Int32.ofNat N_a0_scripts) ≤ x1 → k ≤ mc ∧ n ≤ ms ∧ Z none μ) ∧ (¬ (Int32.ofNat N_a0_scripts) ≤ x1 → k + 1 ≤ mc ∧ n + 2 ≤ ms ∧ (∀ q3 : Nat, hS μ q3 = none → xCallA d mc ms (k + 1) (n + 2) yX7_init cX7_init 1 none [.ref q3] (wN μ q3 11 2) ro (fun r9 μ5 k6 n7 => r9 = none ∧ ∃ N8 : Nat, hS μ5 a0_scripts = some (3, N8) ∧ hS μ5 q3 = some (11, 2) ∧ vp_in x1 N8 ∧ J (wR μ5 a0_scripts x1.toNatClampNeg (some q3)) k6 n7 191 [(0, .ref a0), (1, .int (x1 + 1))] []))))) :
    J μ k n 191 [(0, .ref a0), (1, .int x1)] [] := by
  refine r_iload_n g dX11_init_191 rfl ?_
  refine r_aload_n g dX11_init_192 rfl ?_
  refine r_getR g fX11_18 rfl hs_a0 hr_a0_scripts dX11_init_193 ?_
  refine r_alenS g hs_a0_scripts dX11_init_196 ?_
  refine r_icmp_ge g 219 dX11_init_197 (by decide) (fun c1 => ?_) (fun c1 => ?_)
  · replace h := h.1 c1
    obtain ⟨hk2, hk2_, h⟩ := h
    exact hr.1 rfl _ _ _ _ _ dX11_init_219 hk2 hk2_ h
  · replace h := h.2 c1
    refine r_aload_n g dX11_init_200 rfl ?_
    refine r_getR g fX11_18 rfl hs_a0 hr_a0_scripts dX11_init_201 ?_
    refine r_iload_n g dX11_init_204 rfl ?_
    obtain ⟨hk4, hk4_, h⟩ := h
    refine r_new g nX11_16 hk4 hk4_ dX11_init_205 (fun q3 hf_q3 => ?_)
    replace h := h q3 hf_q3
    have hs_a0_q3 := hS_wN_o (kd := 11) (n := 2) hs_a0 hf_q3
    have hs_a0_scripts_q3 := hS_wN_o (kd := 11) (n := 2) hs_a0_scripts hf_q3
    have hr_a0_scripts_q3 := hR_wN_o (kd := 11) (n := 2) hs_a0 hf_q3 hr_a0_scripts
    have hs_q3 := hS_wN μ q3 11 2
    refine r_dup g dX11_init_208 rfl ?_
    obtain ⟨d1, mc1, ms1, Z1, hc1, hd1, hk1, hn1, h1⟩ := h
    refine r_callIN (st := [.ref q3, .int x1, .ref a0_scripts]) (As := []) g sX11_106 rfl iX7_init rfl (Nat.le_of_ble_eq_true rfl) dX11_init_209 hd1 hk1 hn1 hc1 (fun r9 μ5 hZ1 => ?_)
    replace h := h1 _ _ hZ1
    clear h1 hc1 hd1 hZ1 hk1 hn1 Z1 d1
    obtain ⟨rfl, h⟩ := h
    generalize (k + 1) + mc1 = k6 at h ⊢
    generalize (n + 2) + ms1 = n7 at h ⊢
    obtain ⟨N8, hs_a0_scripts_, h⟩ := h
    obtain ⟨hs_q3, h⟩ := h
    obtain ⟨hi9, h⟩ := h
    refine r_aastore g hs_a0_scripts_ hi9 hs_q3 dX11_init_212 ?_
    refine r_iinc g (x1 + 1) [(1, .int (x1 + 1)), (0, .ref a0)] dX11_init_213 rfl rfl (by decide) rfl ?_
    refine r_goto g 191 dX11_init_216 (by decide) ?_
    refine r_sub g (lv' := [(0, .ref a0), (1, .int (x1 + 1))]) (⟨rfl, rfl, trivial⟩) ?_
    exact h
section ctr3
variable {d : Nat} {ro : Nat → Nat} {μ0 μ : Hp}
/-- the class's numbers at the beginning -/
def cV (i : Nat) : Nat → Int32 := if i = 1 then upd (fun _ => 0) 1 (-1) else if i = 33 ∨ i = 35 ∨ i = 37 then upd (upd (fun _ => 0) 2 (-1)) 3 (-1) else fun _ => 0
/-- the class's cells among those made -/
def gA (L : gL) (R : List (Nat × Nat × Nat)) (A : Nat → Nat) : Prop := (∀ i, i < 52 → (i, A i, cV i) ∈ L) ∧ ∀ (p : Nat) (q : Nat × Nat × Nat), (cRef ++ [(30, 0, 51)])[p]? = some q → (q.1, q.2.1, A q.2.2) ∈ R
theorem k_X11_init {a : Nat} (hd : 5 ≤ d) (h : gk μ0 [(0, a, (fun _ => 0))] [] μ) : xC d yX11_init cX11_init 2 none 51 6866 [.ref a] μ ro (fun r μ' => r = none ∧ ∃ L R A, gk μ0 L R μ' ∧ A 0 = a ∧ L.map (fun p => p.1) = [13, 8, 12, 7, 11, 6, 10, 5, 9, 4, 38, 37, 36, 35, 34, 33, 50, 49, 48, 47, 46, 45, 44, 43, 42, 41, 40, 39, 32, 31, 51, 30, 29, 28, 27, 26, 25, 24, 23, 22, 21, 20, 19, 18, 17, 16, 15, 14, 3, 2, 1, 0] ∧ gA L R A) := by
  refine I_X11_init (fun J g hr => ?_)
  refine B_X11_init_0 g hr  (by omega) ⟨by omega, by omega, fun q1 hq => ?_⟩
  have h1 := h.newS (i := 1) rfl (nmb rfl (List.not_mem_nil)) hq
  refine ⟨d - 1, 1, 400, _, k_X6_init (i := 1) (j1 := 2) (by omega) rfl h1 (nmb rfl (List.not_mem_nil)) (List.not_mem_nil) rfl  (nmb rfl (List.not_mem_nil)) (by decide), by omega, by omega, by omega, ?_⟩
  rintro r ν1 ⟨rfl, q2, h2⟩
  refine ⟨rfl, h2.shS (List.mem_of_getElem? (i := 2) rfl) rfl, ?_⟩
  have h3 := h2.ref (k := 0) (b := q1) (List.mem_of_getElem? (i := 2) rfl) (nrc (by decide) (nr (List.not_mem_nil)))
  refine B_X11_init_15 g hr   ⟨by omega, by omega, fun q3 hq => ?_⟩
  have h4 := h3.newS (i := 3) rfl (nmb rfl (nmb rfl (nmb rfl (List.not_mem_nil)))) hq
  refine ⟨h4.shS (List.mem_of_getElem? (i := 3) rfl) rfl, ?_⟩
  have h5 := h4.ref (k := 1) (b := q3) (List.mem_of_getElem? (i := 3) rfl) (nrc (by decide) (nrc (by decide) (nr (List.not_mem_nil))))
  refine B_X11_init_23 g hr   ⟨by omega, by omega, fun q4 hq => ?_⟩
  have h6 := h5.newS (i := 14) rfl (nmb rfl (nmb rfl (nmb rfl (nmb rfl (List.not_mem_nil))))) hq
  refine ⟨d - 1, 8, 308, _, k_X3_init (by omega) h6 (fun t h1 h2 => nm (by show t ≠ 3; omega) (nm (by show t ≠ 2; omega) (nm (by show t ≠ 1; omega) (nm (by show t ≠ 0; omega) (List.not_mem_nil))))) (fun t h1 h2 => nm (by show t ≠ 0; omega) (nm (by show t ≠ 0; omega) (nm (by show t ≠ 1; omega) (List.not_mem_nil)))), by omega, by omega, by omega, ?_⟩
  rintro r ν2 ⟨rfl, q5, q6, q7, q8, q9, q10, q11, q12, h7⟩
  refine ⟨rfl, h7.shS (List.mem_of_getElem? (i := 12) rfl) rfl, ?_⟩
  have h8 := h7.ref (k := 2) (b := q4) (List.mem_of_getElem? (i := 12) rfl) (nrc (by decide) (nrc (by decide) (nrc (by decide) (nrc (by decide) (nrc (by decide) (nrc (by decide) (nrc (by decide) (nrc (by decide) (nrc (by decide) (nrc (by decide) (nrc (by decide) (nr (List.not_mem_nil)))))))))))))
  refine B_X11_init_34 g hr   ⟨by omega, by omega, fun q13 hq => ?_⟩
  have h9 := h8.newS (i := 23) rfl (nmb rfl (nmb rfl (nmb rfl (nmb rfl (nmb rfl (nmb rfl (nmb rfl (nmb rfl (nmb rfl (nmb rfl (nmb rfl (nmb rfl (nmb rfl (List.not_mem_nil)))))))))))))) hq
  refine ⟨h9.shS (List.mem_of_getElem? (i := 13) rfl) rfl, q4, h9.rf (List.mem_of_getElem? (i := 13) rfl) (List.mem_of_getElem? (i := 0) rfl), ?_⟩
  refine ⟨d - 1, 0, 0, _, k_X1_init (i := 23) (bk := q4) (by omega) rfl h9 (nmb rfl (nmb rfl (nmb rfl (nmb rfl (nmb rfl (nmb rfl (nmb rfl (nmb rfl (nmb rfl (nmb rfl (nmb rfl (nmb rfl (nmb rfl (List.not_mem_nil)))))))))))))) (nmb rfl (nmb rfl (nmb rfl (nmb rfl (nmb rfl (nmb rfl (nmb rfl (nmb rfl (nmb rfl (nmb rfl (nmb rfl (nmb rfl (List.not_mem_nil)))))))))))))  , by omega, by omega, by omega, ?_⟩
  rintro r ν3 ⟨rfl, h10⟩
  refine ⟨rfl, h10.shS (List.mem_of_getElem? (i := 13) rfl) rfl, ?_⟩
  have h11 := h10.ref (k := 3) (b := q13) (List.mem_of_getElem? (i := 13) rfl) (nrc (by decide) (nrc (by decide) (nrc (by decide) (nrc (by decide) (nrc (by decide) (nrc (by decide) (nrc (by decide) (nrc (by decide) (nrc (by decide) (nrc (by decide) (nrc (by decide) (nrc (by decide) (nrc (by decide) (nr (List.not_mem_nil)))))))))))))))
  refine B_X11_init_49 g hr   ⟨by omega, by omega, fun q14 hq => ?_⟩
  have h12 := h11.newS (i := 24) rfl (nmb rfl (nmb rfl (nmb rfl (nmb rfl (nmb rfl (nmb rfl (nmb rfl (nmb rfl (nmb rfl (nmb rfl (nmb rfl (nmb rfl (nmb rfl (nmb rfl (List.not_mem_nil))))))))))))))) hq
  refine ⟨d - 1, 1, 4480, _, k_X4_init (i := 24) (j1 := 25) (by omega) rfl h12 (nmb rfl (nmb rfl (nmb rfl (nmb rfl (nmb rfl (nmb rfl (nmb rfl (nmb rfl (nmb rfl (nmb rfl (nmb rfl (nmb rfl (nmb rfl (nmb rfl (List.not_mem_nil))))))))))))))) (nmb rfl (nmb rfl (nmb rfl (nmb rfl (nmb rfl (nmb rfl (nmb rfl (nmb rfl (nmb rfl (nmb rfl (nmb rfl (nmb rfl (nmb rfl (nmb rfl (List.not_mem_nil))))))))))))))) rfl  (nmb rfl (nmb rfl (nmb rfl (nmb rfl (nmb rfl (nmb rfl (nmb rfl (nmb rfl (nmb rfl (nmb rfl (nmb rfl (nmb rfl (nmb rfl (nmb rfl (List.not_mem_nil))))))))))))))) (by decide), by omega, by omega, by omega, ?_⟩
  rintro r ν4 ⟨rfl, q15, h13⟩
  refine ⟨rfl, h13.shS (List.mem_of_getElem? (i := 15) rfl) rfl, ?_⟩
  have h14 := h13.ref (k := 4) (b := q14) (List.mem_of_getElem? (i := 15) rfl) (nrc (by decide) (nrc (by decide) (nrc (by decide) (nrc (by decide) (nrc (by decide) (nrc (by decide) (nrc (by decide) (nrc (by decide) (nrc (by decide) (nrc (by decide) (nrc (by decide) (nrc (by decide) (nrc (by decide) (nrc (by decide) (nrc (by decide) (nr (List.not_mem_nil)))))))))))))))))
  refine B_X11_init_60 g hr   ⟨by omega, by omega, fun q16 hq => ?_⟩
  have h15 := h14.newS (i := 26) rfl (nmb rfl (nmb rfl (nmb rfl (nmb rfl (nmb rfl (nmb rfl (nmb rfl (nmb rfl (nmb rfl (nmb rfl (nmb rfl (nmb rfl (nmb rfl (nmb rfl (nmb rfl (nmb rfl (List.not_mem_nil))))))))))))))))) hq
  refine ⟨d - 1, 1, 300, _, k_X5_init (i := 26) (j1 := 27) (by omega) rfl h15 (nmb rfl (nmb rfl (nmb rfl (nmb rfl (nmb rfl (nmb rfl (nmb rfl (nmb rfl (nmb rfl (nmb rfl (nmb rfl (nmb rfl (nmb rfl (nmb rfl (nmb rfl (nmb rfl (List.not_mem_nil))))))))))))))))) (nmb rfl (nmb rfl (nmb rfl (nmb rfl (nmb rfl (nmb rfl (nmb rfl (nmb rfl (nmb rfl (nmb rfl (nmb rfl (nmb rfl (nmb rfl (nmb rfl (nmb rfl (nmb rfl (List.not_mem_nil))))))))))))))))) rfl  (nmb rfl (nmb rfl (nmb rfl (nmb rfl (nmb rfl (nmb rfl (nmb rfl (nmb rfl (nmb rfl (nmb rfl (nmb rfl (nmb rfl (nmb rfl (nmb rfl (nmb rfl (nmb rfl (List.not_mem_nil))))))))))))))))) (by decide), by omega, by omega, by omega, ?_⟩
  rintro r ν5 ⟨rfl, q17, h16⟩
  refine ⟨rfl, h16.shS (List.mem_of_getElem? (i := 17) rfl) rfl, ?_⟩
  have h17 := h16.ref (k := 5) (b := q16) (List.mem_of_getElem? (i := 17) rfl) (nrc (by decide) (nrc (by decide) (nrc (by decide) (nrc (by decide) (nrc (by decide) (nrc (by decide) (nrc (by decide) (nrc (by decide) (nrc (by decide) (nrc (by decide) (nrc (by decide) (nrc (by decide) (nrc (by decide) (nrc (by decide) (nrc (by decide) (nrc (by decide) (nrc (by decide) (nr (List.not_mem_nil)))))))))))))))))))
  refine B_X11_init_71 g hr   ⟨by omega, by omega, fun q18 hq => ?_⟩
  have h18 := h17.newS (i := 28) rfl (nmb rfl (nmb rfl (nmb rfl (nmb rfl (nmb rfl (nmb rfl (nmb rfl (nmb rfl (nmb rfl (nmb rfl (nmb rfl (nmb rfl (nmb rfl (nmb rfl (nmb rfl (nmb rfl (nmb rfl (nmb rfl (List.not_mem_nil))))))))))))))))))) hq
  refine ⟨d - 1, 1, 300, _, k_X5_init (i := 28) (j1 := 29) (by omega) rfl h18 (nmb rfl (nmb rfl (nmb rfl (nmb rfl (nmb rfl (nmb rfl (nmb rfl (nmb rfl (nmb rfl (nmb rfl (nmb rfl (nmb rfl (nmb rfl (nmb rfl (nmb rfl (nmb rfl (nmb rfl (nmb rfl (List.not_mem_nil))))))))))))))))))) (nmb rfl (nmb rfl (nmb rfl (nmb rfl (nmb rfl (nmb rfl (nmb rfl (nmb rfl (nmb rfl (nmb rfl (nmb rfl (nmb rfl (nmb rfl (nmb rfl (nmb rfl (nmb rfl (nmb rfl (nmb rfl (List.not_mem_nil))))))))))))))))))) rfl  (nmb rfl (nmb rfl (nmb rfl (nmb rfl (nmb rfl (nmb rfl (nmb rfl (nmb rfl (nmb rfl (nmb rfl (nmb rfl (nmb rfl (nmb rfl (nmb rfl (nmb rfl (nmb rfl (nmb rfl (nmb rfl (List.not_mem_nil))))))))))))))))))) (by decide), by omega, by omega, by omega, ?_⟩
  rintro r ν6 ⟨rfl, q19, h19⟩
  refine ⟨rfl, h19.shS (List.mem_of_getElem? (i := 19) rfl) rfl, ?_⟩
  have h20 := h19.ref (k := 6) (b := q18) (List.mem_of_getElem? (i := 19) rfl) (nrc (by decide) (nrc (by decide) (nrc (by decide) (nrc (by decide) (nrc (by decide) (nrc (by decide) (nrc (by decide) (nrc (by decide) (nrc (by decide) (nrc (by decide) (nrc (by decide) (nrc (by decide) (nrc (by decide) (nrc (by decide) (nrc (by decide) (nrc (by decide) (nrc (by decide) (nrc (by decide) (nrc (by decide) (nr (List.not_mem_nil)))))))))))))))))))))
  refine B_X11_init_82 g hr   ⟨by omega, by omega, fun q20 hq => ?_⟩
  have h21 := h20.newS (i := 30) rfl (nmb rfl (nmb rfl (nmb rfl (nmb rfl (nmb rfl (nmb rfl (nmb rfl (nmb rfl (nmb rfl (nmb rfl (nmb rfl (nmb rfl (nmb rfl (nmb rfl (nmb rfl (nmb rfl (nmb rfl (nmb rfl (nmb rfl (nmb rfl (List.not_mem_nil))))))))))))))))))))) hq
  refine ⟨d - 1, 1, 16, _, k_J4_init_da8c8 (i := 30) (j1 := 51) (by omega) rfl h21 (nmb rfl (nmb rfl (nmb rfl (nmb rfl (nmb rfl (nmb rfl (nmb rfl (nmb rfl (nmb rfl (nmb rfl (nmb rfl (nmb rfl (nmb rfl (nmb rfl (nmb rfl (nmb rfl (nmb rfl (nmb rfl (nmb rfl (nmb rfl (List.not_mem_nil))))))))))))))))))))) (nmb rfl (nmb rfl (nmb rfl (nmb rfl (nmb rfl (nmb rfl (nmb rfl (nmb rfl (nmb rfl (nmb rfl (nmb rfl (nmb rfl (nmb rfl (nmb rfl (nmb rfl (nmb rfl (nmb rfl (nmb rfl (nmb rfl (nmb rfl (List.not_mem_nil))))))))))))))))))))) rfl  (nmb rfl (nmb rfl (nmb rfl (nmb rfl (nmb rfl (nmb rfl (nmb rfl (nmb rfl (nmb rfl (nmb rfl (nmb rfl (nmb rfl (nmb rfl (nmb rfl (nmb rfl (nmb rfl (nmb rfl (nmb rfl (nmb rfl (nmb rfl (List.not_mem_nil))))))))))))))))))))) (by decide), by omega, by omega, by omega, ?_⟩
  rintro r ν7 ⟨rfl, q21, h22⟩
  refine ⟨rfl, h22.shS (List.mem_of_getElem? (i := 21) rfl) rfl, ?_⟩
  have h23 := h22.ref (k := 7) (b := q20) (List.mem_of_getElem? (i := 21) rfl) (nrc (by decide) (nrc (by decide) (nrc (by decide) (nrc (by decide) (nrc (by decide) (nrc (by decide) (nrc (by decide) (nrc (by decide) (nrc (by decide) (nrc (by decide) (nrc (by decide) (nrc (by decide) (nrc (by decide) (nrc (by decide) (nrc (by decide) (nrc (by decide) (nrc (by decide) (nrc (by decide) (nrc (by decide) (nrc (by decide) (nrc (by decide) (nr (List.not_mem_nil)))))))))))))))))))))))
  refine B_X11_init_93 g hr   ⟨by omega, by omega, fun q22 hq => ?_⟩
  have h24 := h23.newS (i := 31) rfl (nmb rfl (nmb rfl (nmb rfl (nmb rfl (nmb rfl (nmb rfl (nmb rfl (nmb rfl (nmb rfl (nmb rfl (nmb rfl (nmb rfl (nmb rfl (nmb rfl (nmb rfl (nmb rfl (nmb rfl (nmb rfl (nmb rfl (nmb rfl (nmb rfl (nmb rfl (List.not_mem_nil))))))))))))))))))))))) hq
  refine ⟨h24.shS (List.mem_of_getElem? (i := 22) rfl) rfl, ?_⟩
  have h25 := h24.ref (k := 8) (b := q22) (List.mem_of_getElem? (i := 22) rfl) (nrc (by decide) (nrc (by decide) (nrc (by decide) (nrc (by decide) (nrc (by decide) (nrc (by decide) (nrc (by decide) (nrc (by decide) (nrc (by decide) (nrc (by decide) (nrc (by decide) (nrc (by decide) (nrc (by decide) (nrc (by decide) (nrc (by decide) (nrc (by decide) (nrc (by decide) (nrc (by decide) (nrc (by decide) (nrc (by decide) (nrc (by decide) (nrc (by decide) (nr (List.not_mem_nil))))))))))))))))))))))))
  refine B_X11_init_100 g hr   ⟨by omega, by omega, fun q23 hq => ?_⟩
  have h26 := h25.newS (i := 32) rfl (nmb rfl (nmb rfl (nmb rfl (nmb rfl (nmb rfl (nmb rfl (nmb rfl (nmb rfl (nmb rfl (nmb rfl (nmb rfl (nmb rfl (nmb rfl (nmb rfl (nmb rfl (nmb rfl (nmb rfl (nmb rfl (nmb rfl (nmb rfl (nmb rfl (nmb rfl (nmb rfl (List.not_mem_nil)))))))))))))))))))))))) hq
  refine ⟨h26.shS (List.mem_of_getElem? (i := 23) rfl) rfl, ?_⟩
  have h27 := h26.ref (k := 9) (b := q23) (List.mem_of_getElem? (i := 23) rfl) (nrc (by decide) (nrc (by decide) (nrc (by decide) (nrc (by decide) (nrc (by decide) (nrc (by decide) (nrc (by decide) (nrc (by decide) (nrc (by decide) (nrc (by decide) (nrc (by decide) (nrc (by decide) (nrc (by decide) (nrc (by decide) (nrc (by decide) (nrc (by decide) (nrc (by decide) (nrc (by decide) (nrc (by decide) (nrc (by decide) (nrc (by decide) (nrc (by decide) (nrc (by decide) (nr (List.not_mem_nil)))))))))))))))))))))))))
  refine B_X11_init_107 g hr   ⟨by omega, by omega, fun q24 hq => ?_⟩
  have h28 := h27.newS (i := 39) rfl (nmb rfl (nmb rfl (nmb rfl (nmb rfl (nmb rfl (nmb rfl (nmb rfl (nmb rfl (nmb rfl (nmb rfl (nmb rfl (nmb rfl (nmb rfl (nmb rfl (nmb rfl (nmb rfl (nmb rfl (nmb rfl (nmb rfl (nmb rfl (nmb rfl (nmb rfl (nmb rfl (nmb rfl (List.not_mem_nil))))))))))))))))))))))))) hq
  refine ⟨d - 1, 5, 172, _, k_X2_init (i := 39) (j1 := 40) (j2 := 41) (j3 := 42) (j4 := 43) (j5 := 44) (by omega) rfl h28 (nmb rfl (nmb rfl (nmb rfl (nmb rfl (nmb rfl (nmb rfl (nmb rfl (nmb rfl (nmb rfl (nmb rfl (nmb rfl (nmb rfl (nmb rfl (nmb rfl (nmb rfl (nmb rfl (nmb rfl (nmb rfl (nmb rfl (nmb rfl (nmb rfl (nmb rfl (nmb rfl (nmb rfl (List.not_mem_nil))))))))))))))))))))))))) (nmb rfl (nmb rfl (nmb rfl (nmb rfl (nmb rfl (nmb rfl (nmb rfl (nmb rfl (nmb rfl (nmb rfl (nmb rfl (nmb rfl (nmb rfl (nmb rfl (nmb rfl (nmb rfl (nmb rfl (nmb rfl (nmb rfl (nmb rfl (nmb rfl (nmb rfl (nmb rfl (nmb rfl (List.not_mem_nil))))))))))))))))))))))))) rfl rfl rfl rfl rfl  (nmb rfl (nmb rfl (nmb rfl (nmb rfl (nmb rfl (nmb rfl (nmb rfl (nmb rfl (nmb rfl (nmb rfl (nmb rfl (nmb rfl (nmb rfl (nmb rfl (nmb rfl (nmb rfl (nmb rfl (nmb rfl (nmb rfl (nmb rfl (nmb rfl (nmb rfl (nmb rfl (nmb rfl (List.not_mem_nil))))))))))))))))))))))))) (by decide) (nmb rfl (nmb rfl (nmb rfl (nmb rfl (nmb rfl (nmb rfl (nmb rfl (nmb rfl (nmb rfl (nmb rfl (nmb rfl (nmb rfl (nmb rfl (nmb rfl (nmb rfl (nmb rfl (nmb rfl (nmb rfl (nmb rfl (nmb rfl (nmb rfl (nmb rfl (nmb rfl (nmb rfl (List.not_mem_nil))))))))))))))))))))))))) (by decide) (by decide) (nmb rfl (nmb rfl (nmb rfl (nmb rfl (nmb rfl (nmb rfl (nmb rfl (nmb rfl (nmb rfl (nmb rfl (nmb rfl (nmb rfl (nmb rfl (nmb rfl (nmb rfl (nmb rfl (nmb rfl (nmb rfl (nmb rfl (nmb rfl (nmb rfl (nmb rfl (nmb rfl (nmb rfl (List.not_mem_nil))))))))))))))))))))))))) (by decide) (by decide) (by decide) (nmb rfl (nmb rfl (nmb rfl (nmb rfl (nmb rfl (nmb rfl (nmb rfl (nmb rfl (nmb rfl (nmb rfl (nmb rfl (nmb rfl (nmb rfl (nmb rfl (nmb rfl (nmb rfl (nmb rfl (nmb rfl (nmb rfl (nmb rfl (nmb rfl (nmb rfl (nmb rfl (nmb rfl (List.not_mem_nil))))))))))))))))))))))))) (by decide) (by decide) (by decide) (by decide) (nmb rfl (nmb rfl (nmb rfl (nmb rfl (nmb rfl (nmb rfl (nmb rfl (nmb rfl (nmb rfl (nmb rfl (nmb rfl (nmb rfl (nmb rfl (nmb rfl (nmb rfl (nmb rfl (nmb rfl (nmb rfl (nmb rfl (nmb rfl (nmb rfl (nmb rfl (nmb rfl (nmb rfl (List.not_mem_nil))))))))))))))))))))))))) (by decide) (by decide) (by decide) (by decide) (by decide), by omega, by omega, by omega, ?_⟩
  rintro r ν8 ⟨rfl, q25, q26, q27, q28, q29, h29⟩
  refine ⟨rfl, h29.shS (List.mem_of_getElem? (i := 29) rfl) rfl, ?_⟩
  have h30 := h29.ref (k := 13) (b := q24) (List.mem_of_getElem? (i := 29) rfl) (nrc (by decide) (nrc (by decide) (nrc (by decide) (nrc (by decide) (nrc (by decide) (nrc (by decide) (nrc (by decide) (nrc (by decide) (nrc (by decide) (nrc (by decide) (nrc (by decide) (nrc (by decide) (nrc (by decide) (nrc (by decide) (nrc (by decide) (nrc (by decide) (nrc (by decide) (nrc (by decide) (nrc (by decide) (nrc (by decide) (nrc (by decide) (nrc (by decide) (nrc (by decide) (nrc (by decide) (nrc (by decide) (nrc (by decide) (nrc (by decide) (nrc (by decide) (nrc (by decide) (nr (List.not_mem_nil)))))))))))))))))))))))))))))))
  refine B_X11_init_118 g hr   ⟨by omega, by omega, fun q30 hq => ?_⟩
  have h31 := h30.newS (i := 45) rfl (nmb rfl (nmb rfl (nmb rfl (nmb rfl (nmb rfl (nmb rfl (nmb rfl (nmb rfl (nmb rfl (nmb rfl (nmb rfl (nmb rfl (nmb rfl (nmb rfl (nmb rfl (nmb rfl (nmb rfl (nmb rfl (nmb rfl (nmb rfl (nmb rfl (nmb rfl (nmb rfl (nmb rfl (nmb rfl (nmb rfl (nmb rfl (nmb rfl (nmb rfl (nmb rfl (List.not_mem_nil))))))))))))))))))))))))))))))) hq
  refine ⟨d - 1, 5, 172, _, k_X2_init (i := 45) (j1 := 46) (j2 := 47) (j3 := 48) (j4 := 49) (j5 := 50) (by omega) rfl h31 (nmb rfl (nmb rfl (nmb rfl (nmb rfl (nmb rfl (nmb rfl (nmb rfl (nmb rfl (nmb rfl (nmb rfl (nmb rfl (nmb rfl (nmb rfl (nmb rfl (nmb rfl (nmb rfl (nmb rfl (nmb rfl (nmb rfl (nmb rfl (nmb rfl (nmb rfl (nmb rfl (nmb rfl (nmb rfl (nmb rfl (nmb rfl (nmb rfl (nmb rfl (nmb rfl (List.not_mem_nil))))))))))))))))))))))))))))))) (nmb rfl (nmb rfl (nmb rfl (nmb rfl (nmb rfl (nmb rfl (nmb rfl (nmb rfl (nmb rfl (nmb rfl (nmb rfl (nmb rfl (nmb rfl (nmb rfl (nmb rfl (nmb rfl (nmb rfl (nmb rfl (nmb rfl (nmb rfl (nmb rfl (nmb rfl (nmb rfl (nmb rfl (nmb rfl (nmb rfl (nmb rfl (nmb rfl (nmb rfl (nmb rfl (List.not_mem_nil))))))))))))))))))))))))))))))) rfl rfl rfl rfl rfl  (nmb rfl (nmb rfl (nmb rfl (nmb rfl (nmb rfl (nmb rfl (nmb rfl (nmb rfl (nmb rfl (nmb rfl (nmb rfl (nmb rfl (nmb rfl (nmb rfl (nmb rfl (nmb rfl (nmb rfl (nmb rfl (nmb rfl (nmb rfl (nmb rfl (nmb rfl (nmb rfl (nmb rfl (nmb rfl (nmb rfl (nmb rfl (nmb rfl (nmb rfl (nmb rfl (List.not_mem_nil))))))))))))))))))))))))))))))) (by decide) (nmb rfl (nmb rfl (nmb rfl (nmb rfl (nmb rfl (nmb rfl (nmb rfl (nmb rfl (nmb rfl (nmb rfl (nmb rfl (nmb rfl (nmb rfl (nmb rfl (nmb rfl (nmb rfl (nmb rfl (nmb rfl (nmb rfl (nmb rfl (nmb rfl (nmb rfl (nmb rfl (nmb rfl (nmb rfl (nmb rfl (nmb rfl (nmb rfl (nmb rfl (nmb rfl (List.not_mem_nil))))))))))))))))))))))))))))))) (by decide) (by decide) (nmb rfl (nmb rfl (nmb rfl (nmb rfl (nmb rfl (nmb rfl (nmb rfl (nmb rfl (nmb rfl (nmb rfl (nmb rfl (nmb rfl (nmb rfl (nmb rfl (nmb rfl (nmb rfl (nmb rfl (nmb rfl (nmb rfl (nmb rfl (nmb rfl (nmb rfl (nmb rfl (nmb rfl (nmb rfl (nmb rfl (nmb rfl (nmb rfl (nmb rfl (nmb rfl (List.not_mem_nil))))))))))))))))))))))))))))))) (by decide) (by decide) (by decide) (nmb rfl (nmb rfl (nmb rfl (nmb rfl (nmb rfl (nmb rfl (nmb rfl (nmb rfl (nmb rfl (nmb rfl (nmb rfl (nmb rfl (nmb rfl (nmb rfl (nmb rfl (nmb rfl (nmb rfl (nmb rfl (nmb rfl (nmb rfl (nmb rfl (nmb rfl (nmb rfl (nmb rfl (nmb rfl (nmb rfl (nmb rfl (nmb rfl (nmb rfl (nmb rfl (List.not_mem_nil))))))))))))))))))))))))))))))) (by decide) (by decide) (by decide) (by decide) (nmb rfl (nmb rfl (nmb rfl (nmb rfl (nmb rfl (nmb rfl (nmb rfl (nmb rfl (nmb rfl (nmb rfl (nmb rfl (nmb rfl (nmb rfl (nmb rfl (nmb rfl (nmb rfl (nmb rfl (nmb rfl (nmb rfl (nmb rfl (nmb rfl (nmb rfl (nmb rfl (nmb rfl (nmb rfl (nmb rfl (nmb rfl (nmb rfl (nmb rfl (nmb rfl (List.not_mem_nil))))))))))))))))))))))))))))))) (by decide) (by decide) (by decide) (by decide) (by decide), by omega, by omega, by omega, ?_⟩
  rintro r ν9 ⟨rfl, q31, q32, q33, q34, q35, h32⟩
  refine ⟨rfl, h32.shS (List.mem_of_getElem? (i := 35) rfl) rfl, ?_⟩
  have h33 := h32.ref (k := 14) (b := q30) (List.mem_of_getElem? (i := 35) rfl) (nrc (by decide) (nrc (by decide) (nrc (by decide) (nrc (by decide) (nrc (by decide) (nrc (by decide) (nrc (by decide) (nrc (by decide) (nrc (by decide) (nrc (by decide) (nrc (by decide) (nrc (by decide) (nrc (by decide) (nrc (by decide) (nrc (by decide) (nrc (by decide) (nrc (by decide) (nrc (by decide) (nrc (by decide) (nrc (by decide) (nrc (by decide) (nrc (by decide) (nrc (by decide) (nrc (by decide) (nrc (by decide) (nrc (by decide) (nrc (by decide) (nrc (by decide) (nrc (by decide) (nrc (by decide) (nrc (by decide) (nrc (by decide) (nrc (by decide) (nrc (by decide) (nrc (by decide) (nr (List.not_mem_nil)))))))))))))))))))))))))))))))))))))
  refine B_X11_init_129 g hr (h33.shS (List.mem_of_getElem? (i := 35) rfl) rfl)  ?_
  have h34 := h33.int0 (k := 15) (List.mem_of_getElem? (i := 35) rfl) rfl
  refine B_X11_init_134 g hr (h34.shS (List.mem_of_getElem? (i := 35) rfl) rfl)  ?_
  have h35 := h34.int0 (k := 16) (List.mem_of_getElem? (i := 35) rfl) rfl
  refine B_X11_init_139 g hr (h35.shS (List.mem_of_getElem? (i := 35) rfl) rfl)  ?_
  have h36 := h35.lng0 (k := 17) (List.mem_of_getElem? (i := 35) rfl)
  refine B_X11_init_144 g hr   ⟨by omega, by omega, fun q36 hq => ?_⟩
  have h37 := h36.newS (i := 33) rfl (nmb rfl (nmb rfl (nmb rfl (nmb rfl (nmb rfl (nmb rfl (nmb rfl (nmb rfl (nmb rfl (nmb rfl (nmb rfl (nmb rfl (nmb rfl (nmb rfl (nmb rfl (nmb rfl (nmb rfl (nmb rfl (nmb rfl (nmb rfl (nmb rfl (nmb rfl (nmb rfl (nmb rfl (nmb rfl (nmb rfl (nmb rfl (nmb rfl (nmb rfl (nmb rfl (nmb rfl (nmb rfl (nmb rfl (nmb rfl (nmb rfl (nmb rfl (List.not_mem_nil))))))))))))))))))))))))))))))))))))) hq
  refine ⟨h37.shS (List.mem_of_getElem? (i := 36) rfl) rfl, q24, h37.rf (List.mem_of_getElem? (i := 36) rfl) (List.mem_of_getElem? (i := 6) rfl), ?_⟩
  refine ⟨d - 1, 1, 112, _, k_X8_init (i := 33) (j1 := 34) (bk := q24) (by omega) rfl h37 (nmb rfl (nmb rfl (nmb rfl (nmb rfl (nmb rfl (nmb rfl (nmb rfl (nmb rfl (nmb rfl (nmb rfl (nmb rfl (nmb rfl (nmb rfl (nmb rfl (nmb rfl (nmb rfl (nmb rfl (nmb rfl (nmb rfl (nmb rfl (nmb rfl (nmb rfl (nmb rfl (nmb rfl (nmb rfl (nmb rfl (nmb rfl (nmb rfl (nmb rfl (nmb rfl (nmb rfl (nmb rfl (nmb rfl (nmb rfl (nmb rfl (nmb rfl (List.not_mem_nil))))))))))))))))))))))))))))))))))))) (nmb rfl (nmb rfl (nmb rfl (nmb rfl (nmb rfl (nmb rfl (nmb rfl (nmb rfl (nmb rfl (nmb rfl (nmb rfl (nmb rfl (nmb rfl (nmb rfl (nmb rfl (nmb rfl (nmb rfl (nmb rfl (nmb rfl (nmb rfl (nmb rfl (nmb rfl (nmb rfl (nmb rfl (nmb rfl (nmb rfl (nmb rfl (nmb rfl (nmb rfl (nmb rfl (nmb rfl (nmb rfl (nmb rfl (nmb rfl (nmb rfl (nmb rfl (List.not_mem_nil))))))))))))))))))))))))))))))))))))) rfl  (nmb rfl (nmb rfl (nmb rfl (nmb rfl (nmb rfl (nmb rfl (nmb rfl (nmb rfl (nmb rfl (nmb rfl (nmb rfl (nmb rfl (nmb rfl (nmb rfl (nmb rfl (nmb rfl (nmb rfl (nmb rfl (nmb rfl (nmb rfl (nmb rfl (nmb rfl (nmb rfl (nmb rfl (nmb rfl (nmb rfl (nmb rfl (nmb rfl (nmb rfl (nmb rfl (nmb rfl (nmb rfl (nmb rfl (nmb rfl (nmb rfl (nmb rfl (List.not_mem_nil))))))))))))))))))))))))))))))))))))) (by decide), by omega, by omega, by omega, ?_⟩
  rintro r ν10 ⟨rfl, q37, h38⟩
  refine ⟨rfl, h38.shS (List.mem_of_getElem? (i := 37) rfl) rfl, ?_⟩
  have h39 := h38.ref (k := 10) (b := q36) (List.mem_of_getElem? (i := 37) rfl) (nrc (by decide) (nrc (by decide) (nrc (by decide) (nrc (by decide) (nrc (by decide) (nrc (by decide) (nrc (by decide) (nrc (by decide) (nrc (by decide) (nrc (by decide) (nrc (by decide) (nrc (by decide) (nrc (by decide) (nrc (by decide) (nrc (by decide) (nrc (by decide) (nrc (by decide) (nrc (by decide) (nrc (by decide) (nrc (by decide) (nrc (by decide) (nrc (by decide) (nrc (by decide) (nrc (by decide) (nrc (by decide) (nrc (by decide) (nrc (by decide) (nrc (by decide) (nrc (by decide) (nrc (by decide) (nrc (by decide) (nrc (by decide) (nrc (by decide) (nrc (by decide) (nrc (by decide) (nrc (by decide) (nrc (by decide) (nrc (by decide) (nr (List.not_mem_nil))))))))))))))))))))))))))))))))))))))))
  refine B_X11_init_159 g hr   ⟨by omega, by omega, fun q38 hq => ?_⟩
  have h40 := h39.newS (i := 35) rfl (nmb rfl (nmb rfl (nmb rfl (nmb rfl (nmb rfl (nmb rfl (nmb rfl (nmb rfl (nmb rfl (nmb rfl (nmb rfl (nmb rfl (nmb rfl (nmb rfl (nmb rfl (nmb rfl (nmb rfl (nmb rfl (nmb rfl (nmb rfl (nmb rfl (nmb rfl (nmb rfl (nmb rfl (nmb rfl (nmb rfl (nmb rfl (nmb rfl (nmb rfl (nmb rfl (nmb rfl (nmb rfl (nmb rfl (nmb rfl (nmb rfl (nmb rfl (nmb rfl (nmb rfl (List.not_mem_nil))))))))))))))))))))))))))))))))))))))) hq
  refine ⟨h40.shS (List.mem_of_getElem? (i := 38) rfl) rfl, q24, h40.rf (List.mem_of_getElem? (i := 38) rfl) (List.mem_of_getElem? (i := 9) rfl), ?_⟩
  refine ⟨d - 1, 1, 112, _, k_X8_init (i := 35) (j1 := 36) (bk := q24) (by omega) rfl h40 (nmb rfl (nmb rfl (nmb rfl (nmb rfl (nmb rfl (nmb rfl (nmb rfl (nmb rfl (nmb rfl (nmb rfl (nmb rfl (nmb rfl (nmb rfl (nmb rfl (nmb rfl (nmb rfl (nmb rfl (nmb rfl (nmb rfl (nmb rfl (nmb rfl (nmb rfl (nmb rfl (nmb rfl (nmb rfl (nmb rfl (nmb rfl (nmb rfl (nmb rfl (nmb rfl (nmb rfl (nmb rfl (nmb rfl (nmb rfl (nmb rfl (nmb rfl (nmb rfl (nmb rfl (List.not_mem_nil))))))))))))))))))))))))))))))))))))))) (nmb rfl (nmb rfl (nmb rfl (nmb rfl (nmb rfl (nmb rfl (nmb rfl (nmb rfl (nmb rfl (nmb rfl (nmb rfl (nmb rfl (nmb rfl (nmb rfl (nmb rfl (nmb rfl (nmb rfl (nmb rfl (nmb rfl (nmb rfl (nmb rfl (nmb rfl (nmb rfl (nmb rfl (nmb rfl (nmb rfl (nmb rfl (nmb rfl (nmb rfl (nmb rfl (nmb rfl (nmb rfl (nmb rfl (nmb rfl (nmb rfl (nmb rfl (nmb rfl (nmb rfl (nmb rfl (List.not_mem_nil)))))))))))))))))))))))))))))))))))))))) rfl  (nmb rfl (nmb rfl (nmb rfl (nmb rfl (nmb rfl (nmb rfl (nmb rfl (nmb rfl (nmb rfl (nmb rfl (nmb rfl (nmb rfl (nmb rfl (nmb rfl (nmb rfl (nmb rfl (nmb rfl (nmb rfl (nmb rfl (nmb rfl (nmb rfl (nmb rfl (nmb rfl (nmb rfl (nmb rfl (nmb rfl (nmb rfl (nmb rfl (nmb rfl (nmb rfl (nmb rfl (nmb rfl (nmb rfl (nmb rfl (nmb rfl (nmb rfl (nmb rfl (nmb rfl (List.not_mem_nil))))))))))))))))))))))))))))))))))))))) (by decide), by omega, by omega, by omega, ?_⟩
  rintro r ν11 ⟨rfl, q39, h41⟩
  refine ⟨rfl, h41.shS (List.mem_of_getElem? (i := 39) rfl) rfl, ?_⟩
  have h42 := h41.ref (k := 11) (b := q38) (List.mem_of_getElem? (i := 39) rfl) (nrc (by decide) (nrc (by decide) (nrc (by decide) (nrc (by decide) (nrc (by decide) (nrc (by decide) (nrc (by decide) (nrc (by decide) (nrc (by decide) (nrc (by decide) (nrc (by decide) (nrc (by decide) (nrc (by decide) (nrc (by decide) (nrc (by decide) (nrc (by decide) (nrc (by decide) (nrc (by decide) (nrc (by decide) (nrc (by decide) (nrc (by decide) (nrc (by decide) (nrc (by decide) (nrc (by decide) (nrc (by decide) (nrc (by decide) (nrc (by decide) (nrc (by decide) (nrc (by decide) (nrc (by decide) (nrc (by decide) (nrc (by decide) (nrc (by decide) (nrc (by decide) (nrc (by decide) (nrc (by decide) (nrc (by decide) (nrc (by decide) (nrc (by decide) (nrc (by decide) (nrc (by decide) (nr (List.not_mem_nil)))))))))))))))))))))))))))))))))))))))))))
  refine B_X11_init_174 g hr   ⟨by omega, by omega, fun q40 hq => ?_⟩
  have h43 := h42.newS (i := 37) rfl (nmb rfl (nmb rfl (nmb rfl (nmb rfl (nmb rfl (nmb rfl (nmb rfl (nmb rfl (nmb rfl (nmb rfl (nmb rfl (nmb rfl (nmb rfl (nmb rfl (nmb rfl (nmb rfl (nmb rfl (nmb rfl (nmb rfl (nmb rfl (nmb rfl (nmb rfl (nmb rfl (nmb rfl (nmb rfl (nmb rfl (nmb rfl (nmb rfl (nmb rfl (nmb rfl (nmb rfl (nmb rfl (nmb rfl (nmb rfl (nmb rfl (nmb rfl (nmb rfl (nmb rfl (nmb rfl (nmb rfl (List.not_mem_nil))))))))))))))))))))))))))))))))))))))))) hq
  refine ⟨h43.shS (List.mem_of_getElem? (i := 40) rfl) rfl, q24, h43.rf (List.mem_of_getElem? (i := 40) rfl) (List.mem_of_getElem? (i := 12) rfl), ?_⟩
  refine ⟨d - 1, 1, 112, _, k_X8_init (i := 37) (j1 := 38) (bk := q24) (by omega) rfl h43 (nmb rfl (nmb rfl (nmb rfl (nmb rfl (nmb rfl (nmb rfl (nmb rfl (nmb rfl (nmb rfl (nmb rfl (nmb rfl (nmb rfl (nmb rfl (nmb rfl (nmb rfl (nmb rfl (nmb rfl (nmb rfl (nmb rfl (nmb rfl (nmb rfl (nmb rfl (nmb rfl (nmb rfl (nmb rfl (nmb rfl (nmb rfl (nmb rfl (nmb rfl (nmb rfl (nmb rfl (nmb rfl (nmb rfl (nmb rfl (nmb rfl (nmb rfl (nmb rfl (nmb rfl (nmb rfl (nmb rfl (List.not_mem_nil))))))))))))))))))))))))))))))))))))))))) (nmb rfl (nmb rfl (nmb rfl (nmb rfl (nmb rfl (nmb rfl (nmb rfl (nmb rfl (nmb rfl (nmb rfl (nmb rfl (nmb rfl (nmb rfl (nmb rfl (nmb rfl (nmb rfl (nmb rfl (nmb rfl (nmb rfl (nmb rfl (nmb rfl (nmb rfl (nmb rfl (nmb rfl (nmb rfl (nmb rfl (nmb rfl (nmb rfl (nmb rfl (nmb rfl (nmb rfl (nmb rfl (nmb rfl (nmb rfl (nmb rfl (nmb rfl (nmb rfl (nmb rfl (nmb rfl (nmb rfl (nmb rfl (nmb rfl (List.not_mem_nil))))))))))))))))))))))))))))))))))))))))))) rfl  (nmb rfl (nmb rfl (nmb rfl (nmb rfl (nmb rfl (nmb rfl (nmb rfl (nmb rfl (nmb rfl (nmb rfl (nmb rfl (nmb rfl (nmb rfl (nmb rfl (nmb rfl (nmb rfl (nmb rfl (nmb rfl (nmb rfl (nmb rfl (nmb rfl (nmb rfl (nmb rfl (nmb rfl (nmb rfl (nmb rfl (nmb rfl (nmb rfl (nmb rfl (nmb rfl (nmb rfl (nmb rfl (nmb rfl (nmb rfl (nmb rfl (nmb rfl (nmb rfl (nmb rfl (nmb rfl (nmb rfl (List.not_mem_nil))))))))))))))))))))))))))))))))))))))))) (by decide), by omega, by omega, by omega, ?_⟩
  rintro r ν12 ⟨rfl, q41, h44⟩
  refine ⟨rfl, h44.shS (List.mem_of_getElem? (i := 41) rfl) rfl, ?_⟩
  have h45 := h44.ref (k := 12) (b := q40) (List.mem_of_getElem? (i := 41) rfl) (nrc (by decide) (nrc (by decide) (nrc (by decide) (nrc (by decide) (nrc (by decide) (nrc (by decide) (nrc (by decide) (nrc (by decide) (nrc (by decide) (nrc (by decide) (nrc (by decide) (nrc (by decide) (nrc (by decide) (nrc (by decide) (nrc (by decide) (nrc (by decide) (nrc (by decide) (nrc (by decide) (nrc (by decide) (nrc (by decide) (nrc (by decide) (nrc (by decide) (nrc (by decide) (nrc (by decide) (nrc (by decide) (nrc (by decide) (nrc (by decide) (nrc (by decide) (nrc (by decide) (nrc (by decide) (nrc (by decide) (nrc (by decide) (nrc (by decide) (nrc (by decide) (nrc (by decide) (nrc (by decide) (nrc (by decide) (nrc (by decide) (nrc (by decide) (nrc (by decide) (nrc (by decide) (nrc (by decide) (nrc (by decide) (nrc (by decide) (nr (List.not_mem_nil))))))))))))))))))))))))))))))))))))))))))))))
  refine B_X11_init_189 g hr ?_
  refine B_X11_init_191S g hr (h45.shS (List.mem_of_getElem? (i := 41) rfl) rfl) (h45.rf (List.mem_of_getElem? (i := 41) rfl) (List.mem_of_getElem? (i := 42) rfl)) (h45.shS (List.mem_of_getElem? (i := 38) rfl) rfl) ⟨fun c => absurd c (by decide), fun _ => ⟨by omega, by omega, fun q42 hq => ?_⟩⟩
  have h46 := h45.newS (i := 4) rfl (nmb rfl (nmb rfl (nmb rfl (nmb rfl (nmb rfl (nmb rfl (nmb rfl (nmb rfl (nmb rfl (nmb rfl (nmb rfl (nmb rfl (nmb rfl (nmb rfl (nmb rfl (nmb rfl (nmb rfl (nmb rfl (nmb rfl (nmb rfl (nmb rfl (nmb rfl (nmb rfl (nmb rfl (nmb rfl (nmb rfl (nmb rfl (nmb rfl (nmb rfl (nmb rfl (nmb rfl (nmb rfl (nmb rfl (nmb rfl (nmb rfl (nmb rfl (nmb rfl (nmb rfl (nmb rfl (nmb rfl (nmb rfl (nmb rfl (List.not_mem_nil))))))))))))))))))))))))))))))))))))))))))) hq
  refine ⟨d - 1, 1, 60, _, k_X7_init (i := 4) (j1 := 9) (by omega) rfl h46 (nmb rfl (nmb rfl (nmb rfl (nmb rfl (nmb rfl (nmb rfl (nmb rfl (nmb rfl (nmb rfl (nmb rfl (nmb rfl (nmb rfl (nmb rfl (nmb rfl (nmb rfl (nmb rfl (nmb rfl (nmb rfl (nmb rfl (nmb rfl (nmb rfl (nmb rfl (nmb rfl (nmb rfl (nmb rfl (nmb rfl (nmb rfl (nmb rfl (nmb rfl (nmb rfl (nmb rfl (nmb rfl (nmb rfl (nmb rfl (nmb rfl (nmb rfl (nmb rfl (nmb rfl (nmb rfl (nmb rfl (nmb rfl (nmb rfl (List.not_mem_nil))))))))))))))))))))))))))))))))))))))))))) (nmb rfl (nmb rfl (nmb rfl (nmb rfl (nmb rfl (nmb rfl (nmb rfl (nmb rfl (nmb rfl (nmb rfl (nmb rfl (nmb rfl (nmb rfl (nmb rfl (nmb rfl (nmb rfl (nmb rfl (nmb rfl (nmb rfl (nmb rfl (nmb rfl (nmb rfl (nmb rfl (nmb rfl (nmb rfl (nmb rfl (nmb rfl (nmb rfl (nmb rfl (nmb rfl (nmb rfl (nmb rfl (nmb rfl (nmb rfl (nmb rfl (nmb rfl (nmb rfl (nmb rfl (nmb rfl (nmb rfl (nmb rfl (nmb rfl (nmb rfl (nmb rfl (nmb rfl (List.not_mem_nil)))))))))))))))))))))))))))))))))))))))))))))) rfl  (nmb rfl (nmb rfl (nmb rfl (nmb rfl (nmb rfl (nmb rfl (nmb rfl (nmb rfl (nmb rfl (nmb rfl (nmb rfl (nmb rfl (nmb rfl (nmb rfl (nmb rfl (nmb rfl (nmb rfl (nmb rfl (nmb rfl (nmb rfl (nmb rfl (nmb rfl (nmb rfl (nmb rfl (nmb rfl (nmb rfl (nmb rfl (nmb rfl (nmb rfl (nmb rfl (nmb rfl (nmb rfl (nmb rfl (nmb rfl (nmb rfl (nmb rfl (nmb rfl (nmb rfl (nmb rfl (nmb rfl (nmb rfl (nmb rfl (List.not_mem_nil))))))))))))))))))))))))))))))))))))))))))) (by decide), by omega, by omega, by omega, ?_⟩
  rintro r ν13 ⟨rfl, q43, h47⟩
  refine ⟨rfl, 5, h47.shS (List.mem_of_getElem? (i := 40) rfl) rfl, h47.shS (List.mem_of_getElem? (i := 1) rfl) rfl, vp_in_nI (n := 0) (by omega) (by omega), ?_⟩
  have h48 := h47.ref (k := 0) (b := q42) (List.mem_of_getElem? (i := 40) rfl) (nrc (by decide) (nrc (by decide) (nrc (by decide) (nrc (by decide) (nrc (by decide) (nrc (by decide) (nrc (by decide) (nrc (by decide) (nrc (by decide) (nrc (by decide) (nrc (by decide) (nrc (by decide) (nrc (by decide) (nrc (by decide) (nrc (by decide) (nrc (by decide) (nrc (by decide) (nrc (by decide) (nrc (by decide) (nrc (by decide) (nrc (by decide) (nrc (by decide) (nrc (by decide) (nrc (by decide) (nrc (by decide) (nrc (by decide) (nrc (by decide) (nrc (by decide) (nrc (by decide) (nrc (by decide) (nrc (by decide) (nrc (by decide) (nrc (by decide) (nrc (by decide) (nrc (by decide) (nrc (by decide) (nrc (by decide) (nrc (by decide) (nrc (by decide) (nrc (by decide) (nrc (by decide) (nrc (by decide) (nrc (by decide) (nrc (by decide) (nrc (by decide) (nrc (by decide) (nr (List.not_mem_nil))))))))))))))))))))))))))))))))))))))))))))))))
  rw [show (0 : Int32).toNatClampNeg = 0 from by decide, show (0 : Int32) + 1 = 1 from by decide]
  refine B_X11_init_191S g hr (h48.shS (List.mem_of_getElem? (i := 43) rfl) rfl) (h48.rf (List.mem_of_getElem? (i := 43) rfl) (List.mem_of_getElem? (i := 44) rfl)) (h48.shS (List.mem_of_getElem? (i := 40) rfl) rfl) ⟨fun c => absurd c (by decide), fun _ => ⟨by omega, by omega, fun q44 hq => ?_⟩⟩
  have h49 := h48.newS (i := 5) rfl (nmb rfl (nmb rfl (nmb rfl (nmb rfl (nmb rfl (nmb rfl (nmb rfl (nmb rfl (nmb rfl (nmb rfl (nmb rfl (nmb rfl (nmb rfl (nmb rfl (nmb rfl (nmb rfl (nmb rfl (nmb rfl (nmb rfl (nmb rfl (nmb rfl (nmb rfl (nmb rfl (nmb rfl (nmb rfl (nmb rfl (nmb rfl (nmb rfl (nmb rfl (nmb rfl (nmb rfl (nmb rfl (nmb rfl (nmb rfl (nmb rfl (nmb rfl (nmb rfl (nmb rfl (nmb rfl (nmb rfl (nmb rfl (nmb rfl (nmb rfl (nmb rfl (List.not_mem_nil))))))))))))))))))))))))))))))))))))))))))))) hq
  refine ⟨d - 1, 1, 60, _, k_X7_init (i := 5) (j1 := 10) (by omega) rfl h49 (nmb rfl (nmb rfl (nmb rfl (nmb rfl (nmb rfl (nmb rfl (nmb rfl (nmb rfl (nmb rfl (nmb rfl (nmb rfl (nmb rfl (nmb rfl (nmb rfl (nmb rfl (nmb rfl (nmb rfl (nmb rfl (nmb rfl (nmb rfl (nmb rfl (nmb rfl (nmb rfl (nmb rfl (nmb rfl (nmb rfl (nmb rfl (nmb rfl (nmb rfl (nmb rfl (nmb rfl (nmb rfl (nmb rfl (nmb rfl (nmb rfl (nmb rfl (nmb rfl (nmb rfl (nmb rfl (nmb rfl (nmb rfl (nmb rfl (nmb rfl (nmb rfl (List.not_mem_nil))))))))))))))))))))))))))))))))))))))))))))) (nmb rfl (nmb rfl (nmb rfl (nmb rfl (nmb rfl (nmb rfl (nmb rfl (nmb rfl (nmb rfl (nmb rfl (nmb rfl (nmb rfl (nmb rfl (nmb rfl (nmb rfl (nmb rfl (nmb rfl (nmb rfl (nmb rfl (nmb rfl (nmb rfl (nmb rfl (nmb rfl (nmb rfl (nmb rfl (nmb rfl (nmb rfl (nmb rfl (nmb rfl (nmb rfl (nmb rfl (nmb rfl (nmb rfl (nmb rfl (nmb rfl (nmb rfl (nmb rfl (nmb rfl (nmb rfl (nmb rfl (nmb rfl (nmb rfl (nmb rfl (nmb rfl (nmb rfl (nmb rfl (nmb rfl (List.not_mem_nil)))))))))))))))))))))))))))))))))))))))))))))))) rfl  (nmb rfl (nmb rfl (nmb rfl (nmb rfl (nmb rfl (nmb rfl (nmb rfl (nmb rfl (nmb rfl (nmb rfl (nmb rfl (nmb rfl (nmb rfl (nmb rfl (nmb rfl (nmb rfl (nmb rfl (nmb rfl (nmb rfl (nmb rfl (nmb rfl (nmb rfl (nmb rfl (nmb rfl (nmb rfl (nmb rfl (nmb rfl (nmb rfl (nmb rfl (nmb rfl (nmb rfl (nmb rfl (nmb rfl (nmb rfl (nmb rfl (nmb rfl (nmb rfl (nmb rfl (nmb rfl (nmb rfl (nmb rfl (nmb rfl (nmb rfl (nmb rfl (List.not_mem_nil))))))))))))))))))))))))))))))))))))))))))))) (by decide), by omega, by omega, by omega, ?_⟩
  rintro r ν14 ⟨rfl, q45, h50⟩
  refine ⟨rfl, 5, h50.shS (List.mem_of_getElem? (i := 42) rfl) rfl, h50.shS (List.mem_of_getElem? (i := 1) rfl) rfl, vp_in_nI (n := 1) (by omega) (by omega), ?_⟩
  have h51 := h50.ref (k := 1) (b := q44) (List.mem_of_getElem? (i := 42) rfl) (nrc (by decide) (nrc (by decide) (nrc (by decide) (nrc (by decide) (nrc (by decide) (nrc (by decide) (nrc (by decide) (nrc (by decide) (nrc (by decide) (nrc (by decide) (nrc (by decide) (nrc (by decide) (nrc (by decide) (nrc (by decide) (nrc (by decide) (nrc (by decide) (nrc (by decide) (nrc (by decide) (nrc (by decide) (nrc (by decide) (nrc (by decide) (nrc (by decide) (nrc (by decide) (nrc (by decide) (nrc (by decide) (nrc (by decide) (nrc (by decide) (nrc (by decide) (nrc (by decide) (nrc (by decide) (nrc (by decide) (nrc (by decide) (nrc (by decide) (nrc (by decide) (nrc (by decide) (nrc (by decide) (nrc (by decide) (nrc (by decide) (nrc (by decide) (nrc (by decide) (nrc (by decide) (nrc (by decide) (nrc (by decide) (nrc (by decide) (nrc (by decide) (nrc (by decide) (nrc (by decide) (nrc (by decide) (nr (List.not_mem_nil))))))))))))))))))))))))))))))))))))))))))))))))))
  rw [show (1 : Int32).toNatClampNeg = 1 from by decide, show (1 : Int32) + 1 = 2 from by decide]
  refine B_X11_init_191S g hr (h51.shS (List.mem_of_getElem? (i := 45) rfl) rfl) (h51.rf (List.mem_of_getElem? (i := 45) rfl) (List.mem_of_getElem? (i := 46) rfl)) (h51.shS (List.mem_of_getElem? (i := 42) rfl) rfl) ⟨fun c => absurd c (by decide), fun _ => ⟨by omega, by omega, fun q46 hq => ?_⟩⟩
  have h52 := h51.newS (i := 6) rfl (nmb rfl (nmb rfl (nmb rfl (nmb rfl (nmb rfl (nmb rfl (nmb rfl (nmb rfl (nmb rfl (nmb rfl (nmb rfl (nmb rfl (nmb rfl (nmb rfl (nmb rfl (nmb rfl (nmb rfl (nmb rfl (nmb rfl (nmb rfl (nmb rfl (nmb rfl (nmb rfl (nmb rfl (nmb rfl (nmb rfl (nmb rfl (nmb rfl (nmb rfl (nmb rfl (nmb rfl (nmb rfl (nmb rfl (nmb rfl (nmb rfl (nmb rfl (nmb rfl (nmb rfl (nmb rfl (nmb rfl (nmb rfl (nmb rfl (nmb rfl (nmb rfl (nmb rfl (nmb rfl (List.not_mem_nil))))))))))))))))))))))))))))))))))))))))))))))) hq
  refine ⟨d - 1, 1, 60, _, k_X7_init (i := 6) (j1 := 11) (by omega) rfl h52 (nmb rfl (nmb rfl (nmb rfl (nmb rfl (nmb rfl (nmb rfl (nmb rfl (nmb rfl (nmb rfl (nmb rfl (nmb rfl (nmb rfl (nmb rfl (nmb rfl (nmb rfl (nmb rfl (nmb rfl (nmb rfl (nmb rfl (nmb rfl (nmb rfl (nmb rfl (nmb rfl (nmb rfl (nmb rfl (nmb rfl (nmb rfl (nmb rfl (nmb rfl (nmb rfl (nmb rfl (nmb rfl (nmb rfl (nmb rfl (nmb rfl (nmb rfl (nmb rfl (nmb rfl (nmb rfl (nmb rfl (nmb rfl (nmb rfl (nmb rfl (nmb rfl (nmb rfl (nmb rfl (List.not_mem_nil))))))))))))))))))))))))))))))))))))))))))))))) (nmb rfl (nmb rfl (nmb rfl (nmb rfl (nmb rfl (nmb rfl (nmb rfl (nmb rfl (nmb rfl (nmb rfl (nmb rfl (nmb rfl (nmb rfl (nmb rfl (nmb rfl (nmb rfl (nmb rfl (nmb rfl (nmb rfl (nmb rfl (nmb rfl (nmb rfl (nmb rfl (nmb rfl (nmb rfl (nmb rfl (nmb rfl (nmb rfl (nmb rfl (nmb rfl (nmb rfl (nmb rfl (nmb rfl (nmb rfl (nmb rfl (nmb rfl (nmb rfl (nmb rfl (nmb rfl (nmb rfl (nmb rfl (nmb rfl (nmb rfl (nmb rfl (nmb rfl (nmb rfl (nmb rfl (nmb rfl (nmb rfl (List.not_mem_nil)))))))))))))))))))))))))))))))))))))))))))))))))) rfl  (nmb rfl (nmb rfl (nmb rfl (nmb rfl (nmb rfl (nmb rfl (nmb rfl (nmb rfl (nmb rfl (nmb rfl (nmb rfl (nmb rfl (nmb rfl (nmb rfl (nmb rfl (nmb rfl (nmb rfl (nmb rfl (nmb rfl (nmb rfl (nmb rfl (nmb rfl (nmb rfl (nmb rfl (nmb rfl (nmb rfl (nmb rfl (nmb rfl (nmb rfl (nmb rfl (nmb rfl (nmb rfl (nmb rfl (nmb rfl (nmb rfl (nmb rfl (nmb rfl (nmb rfl (nmb rfl (nmb rfl (nmb rfl (nmb rfl (nmb rfl (nmb rfl (nmb rfl (nmb rfl (List.not_mem_nil))))))))))))))))))))))))))))))))))))))))))))))) (by decide), by omega, by omega, by omega, ?_⟩
  rintro r ν15 ⟨rfl, q47, h53⟩
  refine ⟨rfl, 5, h53.shS (List.mem_of_getElem? (i := 44) rfl) rfl, h53.shS (List.mem_of_getElem? (i := 1) rfl) rfl, vp_in_nI (n := 2) (by omega) (by omega), ?_⟩
  have h54 := h53.ref (k := 2) (b := q46) (List.mem_of_getElem? (i := 44) rfl) (nrc (by decide) (nrc (by decide) (nrc (by decide) (nrc (by decide) (nrc (by decide) (nrc (by decide) (nrc (by decide) (nrc (by decide) (nrc (by decide) (nrc (by decide) (nrc (by decide) (nrc (by decide) (nrc (by decide) (nrc (by decide) (nrc (by decide) (nrc (by decide) (nrc (by decide) (nrc (by decide) (nrc (by decide) (nrc (by decide) (nrc (by decide) (nrc (by decide) (nrc (by decide) (nrc (by decide) (nrc (by decide) (nrc (by decide) (nrc (by decide) (nrc (by decide) (nrc (by decide) (nrc (by decide) (nrc (by decide) (nrc (by decide) (nrc (by decide) (nrc (by decide) (nrc (by decide) (nrc (by decide) (nrc (by decide) (nrc (by decide) (nrc (by decide) (nrc (by decide) (nrc (by decide) (nrc (by decide) (nrc (by decide) (nrc (by decide) (nrc (by decide) (nrc (by decide) (nrc (by decide) (nrc (by decide) (nrc (by decide) (nrc (by decide) (nr (List.not_mem_nil))))))))))))))))))))))))))))))))))))))))))))))))))))
  rw [show (2 : Int32).toNatClampNeg = 2 from by decide, show (2 : Int32) + 1 = 3 from by decide]
  refine B_X11_init_191S g hr (h54.shS (List.mem_of_getElem? (i := 47) rfl) rfl) (h54.rf (List.mem_of_getElem? (i := 47) rfl) (List.mem_of_getElem? (i := 48) rfl)) (h54.shS (List.mem_of_getElem? (i := 44) rfl) rfl) ⟨fun c => absurd c (by decide), fun _ => ⟨by omega, by omega, fun q48 hq => ?_⟩⟩
  have h55 := h54.newS (i := 7) rfl (nmb rfl (nmb rfl (nmb rfl (nmb rfl (nmb rfl (nmb rfl (nmb rfl (nmb rfl (nmb rfl (nmb rfl (nmb rfl (nmb rfl (nmb rfl (nmb rfl (nmb rfl (nmb rfl (nmb rfl (nmb rfl (nmb rfl (nmb rfl (nmb rfl (nmb rfl (nmb rfl (nmb rfl (nmb rfl (nmb rfl (nmb rfl (nmb rfl (nmb rfl (nmb rfl (nmb rfl (nmb rfl (nmb rfl (nmb rfl (nmb rfl (nmb rfl (nmb rfl (nmb rfl (nmb rfl (nmb rfl (nmb rfl (nmb rfl (nmb rfl (nmb rfl (nmb rfl (nmb rfl (nmb rfl (nmb rfl (List.not_mem_nil))))))))))))))))))))))))))))))))))))))))))))))))) hq
  refine ⟨d - 1, 1, 60, _, k_X7_init (i := 7) (j1 := 12) (by omega) rfl h55 (nmb rfl (nmb rfl (nmb rfl (nmb rfl (nmb rfl (nmb rfl (nmb rfl (nmb rfl (nmb rfl (nmb rfl (nmb rfl (nmb rfl (nmb rfl (nmb rfl (nmb rfl (nmb rfl (nmb rfl (nmb rfl (nmb rfl (nmb rfl (nmb rfl (nmb rfl (nmb rfl (nmb rfl (nmb rfl (nmb rfl (nmb rfl (nmb rfl (nmb rfl (nmb rfl (nmb rfl (nmb rfl (nmb rfl (nmb rfl (nmb rfl (nmb rfl (nmb rfl (nmb rfl (nmb rfl (nmb rfl (nmb rfl (nmb rfl (nmb rfl (nmb rfl (nmb rfl (nmb rfl (nmb rfl (nmb rfl (List.not_mem_nil))))))))))))))))))))))))))))))))))))))))))))))))) (nmb rfl (nmb rfl (nmb rfl (nmb rfl (nmb rfl (nmb rfl (nmb rfl (nmb rfl (nmb rfl (nmb rfl (nmb rfl (nmb rfl (nmb rfl (nmb rfl (nmb rfl (nmb rfl (nmb rfl (nmb rfl (nmb rfl (nmb rfl (nmb rfl (nmb rfl (nmb rfl (nmb rfl (nmb rfl (nmb rfl (nmb rfl (nmb rfl (nmb rfl (nmb rfl (nmb rfl (nmb rfl (nmb rfl (nmb rfl (nmb rfl (nmb rfl (nmb rfl (nmb rfl (nmb rfl (nmb rfl (nmb rfl (nmb rfl (nmb rfl (nmb rfl (nmb rfl (nmb rfl (nmb rfl (nmb rfl (nmb rfl (nmb rfl (nmb rfl (List.not_mem_nil)))))))))))))))))))))))))))))))))))))))))))))))))))) rfl  (nmb rfl (nmb rfl (nmb rfl (nmb rfl (nmb rfl (nmb rfl (nmb rfl (nmb rfl (nmb rfl (nmb rfl (nmb rfl (nmb rfl (nmb rfl (nmb rfl (nmb rfl (nmb rfl (nmb rfl (nmb rfl (nmb rfl (nmb rfl (nmb rfl (nmb rfl (nmb rfl (nmb rfl (nmb rfl (nmb rfl (nmb rfl (nmb rfl (nmb rfl (nmb rfl (nmb rfl (nmb rfl (nmb rfl (nmb rfl (nmb rfl (nmb rfl (nmb rfl (nmb rfl (nmb rfl (nmb rfl (nmb rfl (nmb rfl (nmb rfl (nmb rfl (nmb rfl (nmb rfl (nmb rfl (nmb rfl (List.not_mem_nil))))))))))))))))))))))))))))))))))))))))))))))))) (by decide), by omega, by omega, by omega, ?_⟩
  rintro r ν16 ⟨rfl, q49, h56⟩
  refine ⟨rfl, 5, h56.shS (List.mem_of_getElem? (i := 46) rfl) rfl, h56.shS (List.mem_of_getElem? (i := 1) rfl) rfl, vp_in_nI (n := 3) (by omega) (by omega), ?_⟩
  have h57 := h56.ref (k := 3) (b := q48) (List.mem_of_getElem? (i := 46) rfl) (nrc (by decide) (nrc (by decide) (nrc (by decide) (nrc (by decide) (nrc (by decide) (nrc (by decide) (nrc (by decide) (nrc (by decide) (nrc (by decide) (nrc (by decide) (nrc (by decide) (nrc (by decide) (nrc (by decide) (nrc (by decide) (nrc (by decide) (nrc (by decide) (nrc (by decide) (nrc (by decide) (nrc (by decide) (nrc (by decide) (nrc (by decide) (nrc (by decide) (nrc (by decide) (nrc (by decide) (nrc (by decide) (nrc (by decide) (nrc (by decide) (nrc (by decide) (nrc (by decide) (nrc (by decide) (nrc (by decide) (nrc (by decide) (nrc (by decide) (nrc (by decide) (nrc (by decide) (nrc (by decide) (nrc (by decide) (nrc (by decide) (nrc (by decide) (nrc (by decide) (nrc (by decide) (nrc (by decide) (nrc (by decide) (nrc (by decide) (nrc (by decide) (nrc (by decide) (nrc (by decide) (nrc (by decide) (nrc (by decide) (nrc (by decide) (nrc (by decide) (nrc (by decide) (nr (List.not_mem_nil))))))))))))))))))))))))))))))))))))))))))))))))))))))
  rw [show (3 : Int32).toNatClampNeg = 3 from by decide, show (3 : Int32) + 1 = 4 from by decide]
  refine B_X11_init_191S g hr (h57.shS (List.mem_of_getElem? (i := 49) rfl) rfl) (h57.rf (List.mem_of_getElem? (i := 49) rfl) (List.mem_of_getElem? (i := 50) rfl)) (h57.shS (List.mem_of_getElem? (i := 46) rfl) rfl) ⟨fun c => absurd c (by decide), fun _ => ⟨by omega, by omega, fun q50 hq => ?_⟩⟩
  have h58 := h57.newS (i := 8) rfl (nmb rfl (nmb rfl (nmb rfl (nmb rfl (nmb rfl (nmb rfl (nmb rfl (nmb rfl (nmb rfl (nmb rfl (nmb rfl (nmb rfl (nmb rfl (nmb rfl (nmb rfl (nmb rfl (nmb rfl (nmb rfl (nmb rfl (nmb rfl (nmb rfl (nmb rfl (nmb rfl (nmb rfl (nmb rfl (nmb rfl (nmb rfl (nmb rfl (nmb rfl (nmb rfl (nmb rfl (nmb rfl (nmb rfl (nmb rfl (nmb rfl (nmb rfl (nmb rfl (nmb rfl (nmb rfl (nmb rfl (nmb rfl (nmb rfl (nmb rfl (nmb rfl (nmb rfl (nmb rfl (nmb rfl (nmb rfl (nmb rfl (nmb rfl (List.not_mem_nil))))))))))))))))))))))))))))))))))))))))))))))))))) hq
  refine ⟨d - 1, 1, 60, _, k_X7_init (i := 8) (j1 := 13) (by omega) rfl h58 (nmb rfl (nmb rfl (nmb rfl (nmb rfl (nmb rfl (nmb rfl (nmb rfl (nmb rfl (nmb rfl (nmb rfl (nmb rfl (nmb rfl (nmb rfl (nmb rfl (nmb rfl (nmb rfl (nmb rfl (nmb rfl (nmb rfl (nmb rfl (nmb rfl (nmb rfl (nmb rfl (nmb rfl (nmb rfl (nmb rfl (nmb rfl (nmb rfl (nmb rfl (nmb rfl (nmb rfl (nmb rfl (nmb rfl (nmb rfl (nmb rfl (nmb rfl (nmb rfl (nmb rfl (nmb rfl (nmb rfl (nmb rfl (nmb rfl (nmb rfl (nmb rfl (nmb rfl (nmb rfl (nmb rfl (nmb rfl (nmb rfl (nmb rfl (List.not_mem_nil))))))))))))))))))))))))))))))))))))))))))))))))))) (nmb rfl (nmb rfl (nmb rfl (nmb rfl (nmb rfl (nmb rfl (nmb rfl (nmb rfl (nmb rfl (nmb rfl (nmb rfl (nmb rfl (nmb rfl (nmb rfl (nmb rfl (nmb rfl (nmb rfl (nmb rfl (nmb rfl (nmb rfl (nmb rfl (nmb rfl (nmb rfl (nmb rfl (nmb rfl (nmb rfl (nmb rfl (nmb rfl (nmb rfl (nmb rfl (nmb rfl (nmb rfl (nmb rfl (nmb rfl (nmb rfl (nmb rfl (nmb rfl (nmb rfl (nmb rfl (nmb rfl (nmb rfl (nmb rfl (nmb rfl (nmb rfl (nmb rfl (nmb rfl (nmb rfl (nmb rfl (nmb rfl (nmb rfl (nmb rfl (nmb rfl (nmb rfl (List.not_mem_nil)))))))))))))))))))))))))))))))))))))))))))))))))))))) rfl  (nmb rfl (nmb rfl (nmb rfl (nmb rfl (nmb rfl (nmb rfl (nmb rfl (nmb rfl (nmb rfl (nmb rfl (nmb rfl (nmb rfl (nmb rfl (nmb rfl (nmb rfl (nmb rfl (nmb rfl (nmb rfl (nmb rfl (nmb rfl (nmb rfl (nmb rfl (nmb rfl (nmb rfl (nmb rfl (nmb rfl (nmb rfl (nmb rfl (nmb rfl (nmb rfl (nmb rfl (nmb rfl (nmb rfl (nmb rfl (nmb rfl (nmb rfl (nmb rfl (nmb rfl (nmb rfl (nmb rfl (nmb rfl (nmb rfl (nmb rfl (nmb rfl (nmb rfl (nmb rfl (nmb rfl (nmb rfl (nmb rfl (nmb rfl (List.not_mem_nil))))))))))))))))))))))))))))))))))))))))))))))))))) (by decide), by omega, by omega, by omega, ?_⟩
  rintro r ν17 ⟨rfl, q51, h59⟩
  refine ⟨rfl, 5, h59.shS (List.mem_of_getElem? (i := 48) rfl) rfl, h59.shS (List.mem_of_getElem? (i := 1) rfl) rfl, vp_in_nI (n := 4) (by omega) (by omega), ?_⟩
  have h60 := h59.ref (k := 4) (b := q50) (List.mem_of_getElem? (i := 48) rfl) (nrc (by decide) (nrc (by decide) (nrc (by decide) (nrc (by decide) (nrc (by decide) (nrc (by decide) (nrc (by decide) (nrc (by decide) (nrc (by decide) (nrc (by decide) (nrc (by decide) (nrc (by decide) (nrc (by decide) (nrc (by decide) (nrc (by decide) (nrc (by decide) (nrc (by decide) (nrc (by decide) (nrc (by decide) (nrc (by decide) (nrc (by decide) (nrc (by decide) (nrc (by decide) (nrc (by decide) (nrc (by decide) (nrc (by decide) (nrc (by decide) (nrc (by decide) (nrc (by decide) (nrc (by decide) (nrc (by decide) (nrc (by decide) (nrc (by decide) (nrc (by decide) (nrc (by decide) (nrc (by decide) (nrc (by decide) (nrc (by decide) (nrc (by decide) (nrc (by decide) (nrc (by decide) (nrc (by decide) (nrc (by decide) (nrc (by decide) (nrc (by decide) (nrc (by decide) (nrc (by decide) (nrc (by decide) (nrc (by decide) (nrc (by decide) (nrc (by decide) (nrc (by decide) (nrc (by decide) (nrc (by decide) (nr (List.not_mem_nil))))))))))))))))))))))))))))))))))))))))))))))))))))))))
  rw [show (4 : Int32).toNatClampNeg = 4 from by decide, show (4 : Int32) + 1 = 5 from by decide]
  refine B_X11_init_191S g hr (h60.shS (List.mem_of_getElem? (i := 51) rfl) rfl) (h60.rf (List.mem_of_getElem? (i := 51) rfl) (List.mem_of_getElem? (i := 52) rfl)) (h60.shS (List.mem_of_getElem? (i := 48) rfl) rfl) ⟨fun _ => ⟨by omega, by omega, rfl, _, _, (fun i => ([a, q1, q2, q3, q42, q44, q46, q48, q50, q43, q45, q47, q49, q51, q4, q5, q6, q7, q8, q9, q10, q11, q12, q13, q14, q15, q16, q17, q18, q19, q20, q22, q23, q36, q37, q38, q39, q40, q41, q24, q25, q26, q27, q28, q29, q30, q31, q32, q33, q34, q35, q21] : List Nat).getD i 0), h60, rfl, (by rfl), fun i hi => ?_, fun p q hq => ?_⟩, fun c => absurd (by decide) c⟩
  · match i, hi with
    | 0, hi => exact List.mem_of_getElem? (i := 51) rfl
    | 1, hi => exact List.mem_of_getElem? (i := 50) rfl
    | 2, hi => exact List.mem_of_getElem? (i := 49) rfl
    | 3, hi => exact List.mem_of_getElem? (i := 48) rfl
    | 4, hi => exact List.mem_of_getElem? (i := 9) rfl
    | 5, hi => exact List.mem_of_getElem? (i := 7) rfl
    | 6, hi => exact List.mem_of_getElem? (i := 5) rfl
    | 7, hi => exact List.mem_of_getElem? (i := 3) rfl
    | 8, hi => exact List.mem_of_getElem? (i := 1) rfl
    | 9, hi => exact List.mem_of_getElem? (i := 8) rfl
    | 10, hi => exact List.mem_of_getElem? (i := 6) rfl
    | 11, hi => exact List.mem_of_getElem? (i := 4) rfl
    | 12, hi => exact List.mem_of_getElem? (i := 2) rfl
    | 13, hi => exact List.mem_of_getElem? (i := 0) rfl
    | 14, hi => exact List.mem_of_getElem? (i := 47) rfl
    | 15, hi => exact List.mem_of_getElem? (i := 46) rfl
    | 16, hi => exact List.mem_of_getElem? (i := 45) rfl
    | 17, hi => exact List.mem_of_getElem? (i := 44) rfl
    | 18, hi => exact List.mem_of_getElem? (i := 43) rfl
    | 19, hi => exact List.mem_of_getElem? (i := 42) rfl
    | 20, hi => exact List.mem_of_getElem? (i := 41) rfl
    | 21, hi => exact List.mem_of_getElem? (i := 40) rfl
    | 22, hi => exact List.mem_of_getElem? (i := 39) rfl
    | 23, hi => exact List.mem_of_getElem? (i := 38) rfl
    | 24, hi => exact List.mem_of_getElem? (i := 37) rfl
    | 25, hi => exact List.mem_of_getElem? (i := 36) rfl
    | 26, hi => exact List.mem_of_getElem? (i := 35) rfl
    | 27, hi => exact List.mem_of_getElem? (i := 34) rfl
    | 28, hi => exact List.mem_of_getElem? (i := 33) rfl
    | 29, hi => exact List.mem_of_getElem? (i := 32) rfl
    | 30, hi => exact List.mem_of_getElem? (i := 31) rfl
    | 31, hi => exact List.mem_of_getElem? (i := 29) rfl
    | 32, hi => exact List.mem_of_getElem? (i := 28) rfl
    | 33, hi => exact List.mem_of_getElem? (i := 15) rfl
    | 34, hi => exact List.mem_of_getElem? (i := 14) rfl
    | 35, hi => exact List.mem_of_getElem? (i := 13) rfl
    | 36, hi => exact List.mem_of_getElem? (i := 12) rfl
    | 37, hi => exact List.mem_of_getElem? (i := 11) rfl
    | 38, hi => exact List.mem_of_getElem? (i := 10) rfl
    | 39, hi => exact List.mem_of_getElem? (i := 27) rfl
    | 40, hi => exact List.mem_of_getElem? (i := 26) rfl
    | 41, hi => exact List.mem_of_getElem? (i := 25) rfl
    | 42, hi => exact List.mem_of_getElem? (i := 24) rfl
    | 43, hi => exact List.mem_of_getElem? (i := 23) rfl
    | 44, hi => exact List.mem_of_getElem? (i := 22) rfl
    | 45, hi => exact List.mem_of_getElem? (i := 21) rfl
    | 46, hi => exact List.mem_of_getElem? (i := 20) rfl
    | 47, hi => exact List.mem_of_getElem? (i := 19) rfl
    | 48, hi => exact List.mem_of_getElem? (i := 18) rfl
    | 49, hi => exact List.mem_of_getElem? (i := 17) rfl
    | 50, hi => exact List.mem_of_getElem? (i := 16) rfl
    | 51, hi => exact List.mem_of_getElem? (i := 30) rfl
    | i + 52, hi => omega
  · match p, q, hq with
    | 0, q, hq => cases hq; exact List.mem_of_getElem? (i := 53) rfl
    | 1, q, hq => cases hq; exact List.mem_of_getElem? (i := 52) rfl
    | 2, q, hq => cases hq; exact List.mem_of_getElem? (i := 43) rfl
    | 3, q, hq => cases hq; exact List.mem_of_getElem? (i := 41) rfl
    | 4, q, hq => cases hq; exact List.mem_of_getElem? (i := 39) rfl
    | 5, q, hq => cases hq; exact List.mem_of_getElem? (i := 37) rfl
    | 6, q, hq => cases hq; exact List.mem_of_getElem? (i := 35) rfl
    | 7, q, hq => cases hq; exact List.mem_of_getElem? (i := 33) rfl
    | 8, q, hq => cases hq; exact List.mem_of_getElem? (i := 32) rfl
    | 9, q, hq => cases hq; exact List.mem_of_getElem? (i := 31) rfl
    | 10, q, hq => cases hq; exact List.mem_of_getElem? (i := 16) rfl
    | 11, q, hq => cases hq; exact List.mem_of_getElem? (i := 13) rfl
    | 12, q, hq => cases hq; exact List.mem_of_getElem? (i := 10) rfl
    | 13, q, hq => cases hq; exact List.mem_of_getElem? (i := 25) rfl
    | 14, q, hq => cases hq; exact List.mem_of_getElem? (i := 19) rfl
    | 15, q, hq => cases hq; exact List.mem_of_getElem? (i := 54) rfl
    | 16, q, hq => cases hq; exact List.mem_of_getElem? (i := 8) rfl
    | 17, q, hq => cases hq; exact List.mem_of_getElem? (i := 6) rfl
    | 18, q, hq => cases hq; exact List.mem_of_getElem? (i := 4) rfl
    | 19, q, hq => cases hq; exact List.mem_of_getElem? (i := 2) rfl
    | 20, q, hq => cases hq; exact List.mem_of_getElem? (i := 0) rfl
    | 21, q, hq => cases hq; exact List.mem_of_getElem? (i := 9) rfl
    | 22, q, hq => cases hq; exact List.mem_of_getElem? (i := 7) rfl
    | 23, q, hq => cases hq; exact List.mem_of_getElem? (i := 5) rfl
    | 24, q, hq => cases hq; exact List.mem_of_getElem? (i := 3) rfl
    | 25, q, hq => cases hq; exact List.mem_of_getElem? (i := 1) rfl
    | 26, q, hq => cases hq; exact List.mem_of_getElem? (i := 50) rfl
    | 27, q, hq => cases hq; exact List.mem_of_getElem? (i := 49) rfl
    | 28, q, hq => cases hq; exact List.mem_of_getElem? (i := 48) rfl
    | 29, q, hq => cases hq; exact List.mem_of_getElem? (i := 47) rfl
    | 30, q, hq => cases hq; exact List.mem_of_getElem? (i := 46) rfl
    | 31, q, hq => cases hq; exact List.mem_of_getElem? (i := 44) rfl
    | 32, q, hq => cases hq; exact List.mem_of_getElem? (i := 51) rfl
    | 33, q, hq => cases hq; exact List.mem_of_getElem? (i := 45) rfl
    | 34, q, hq => cases hq; exact List.mem_of_getElem? (i := 42) rfl
    | 35, q, hq => cases hq; exact List.mem_of_getElem? (i := 40) rfl
    | 36, q, hq => cases hq; exact List.mem_of_getElem? (i := 38) rfl
    | 37, q, hq => cases hq; exact List.mem_of_getElem? (i := 36) rfl
    | 38, q, hq => cases hq; exact List.mem_of_getElem? (i := 18) rfl
    | 39, q, hq => cases hq; exact List.mem_of_getElem? (i := 17) rfl
    | 40, q, hq => cases hq; exact List.mem_of_getElem? (i := 15) rfl
    | 41, q, hq => cases hq; exact List.mem_of_getElem? (i := 14) rfl
    | 42, q, hq => cases hq; exact List.mem_of_getElem? (i := 12) rfl
    | 43, q, hq => cases hq; exact List.mem_of_getElem? (i := 30) rfl
    | 44, q, hq => cases hq; exact List.mem_of_getElem? (i := 29) rfl
    | 45, q, hq => cases hq; exact List.mem_of_getElem? (i := 28) rfl
    | 46, q, hq => cases hq; exact List.mem_of_getElem? (i := 27) rfl
    | 47, q, hq => cases hq; exact List.mem_of_getElem? (i := 26) rfl
    | 48, q, hq => cases hq; exact List.mem_of_getElem? (i := 24) rfl
    | 49, q, hq => cases hq; exact List.mem_of_getElem? (i := 23) rfl
    | 50, q, hq => cases hq; exact List.mem_of_getElem? (i := 22) rfl
    | 51, q, hq => cases hq; exact List.mem_of_getElem? (i := 21) rfl
    | 52, q, hq => cases hq; exact List.mem_of_getElem? (i := 20) rfl
    | 53, q, hq => cases hq; exact List.mem_of_getElem? (i := 34) rfl
    | p + 54, q, hq => cases hq
end ctr3
