/-! the law's call of its own firm; the start -/
theorem LI.w64 {x m w : Nat} {A X : Nat → Nat} {S : St} {μ : Hp} (h : LI x m w A X S μ) (z : Int64) : LI x m w A X S (wL μ w 0 z) := by
  obtain ⟨⟨h1, h2⟩, h3, h4, h5, ⟨b, N, l, hs, hb⟩, h7⟩ := id h
  have hsh := h2.1.1.1
  have out : ∀ c, c ≠ w → asW μ (wL μ w 0 z) c := fun c hc => ⟨rfl, hL_wL_n _ _ _ hc, rfl, rfl⟩
  have xw : ∀ i, i ∈ mK → X i ≠ w := fun i hi e => by
    obtain ⟨q, hq, rfl⟩ := List.mem_map.mp hi
    have h9 := (h3.1.1.1.2 q hq).2
    rw [e, h5] at h9
    exact (mT_kd q hq).1 (Option.some.inj h9).symm
  have mw : m ≠ w := fun e => by
    have h9 := h3.1.1.1.1
    rw [e, h5] at h9
    cases h9
  have bw : b ≠ w := fun e => by
    have h9 := hs.2.1.1
    rw [e, h5] at h9
    cases h9
  exact ⟨⟨h1, h2.pt (fun i hi _ => out _ (hsh.nw h5 hi)) rfl⟩, h3.pt (out m mw) (fun i hi => out _ (xw i hi)), h4, h5, ⟨b, N, l, hs.pt (out _ (hsh.nw h5 (by decide))) (out b bw), hb⟩, h7⟩
theorem lf_good : GoodIn gtbl (va_wsS RL 42 yL_firm (.codeWith yL_firm cL_firm 5 (some .int) hhF :: gtbl)) := by
  have h0 : ∀ w ∈ va_wsS RL 42 yL_firm (.codeWith yL_firm cL_firm 5 (some .int) hhF :: gtbl), w ∈ gtbl := by
    intro w hw
    unfold va_wsS at hw
    rcases List.mem_append.mp hw with h | h
    · simp only [List.mem_cons, List.not_mem_nil, or_false] at h
      rcases h with rfl | rfl | rfl
      · exact lf_link
      · exact lf_stat
      · exact lf_ini
    · rcases List.mem_cons.mp h with rfl | h
      · exact lf_code
      · exact h
  exact fun w hw => gtbl_good w (h0 w hw)
set_option maxHeartbeats 4000000 in
set_option maxRecDepth 100000 in
theorem LF_FM {p : Program} {l : Launch} {e : Env} {s : State} {m : MethodId} {args : Array Value} {below : List Frame} {meth : Method} {c : Code} {D : va_G} {cA : Nat → ClassId} {Q : State → Prop} {ro : Nat → Nat} (hl : l.stackTraces = false) (hx : p.tables.exec = Jvm.exec) (hb : c.code = cL_law) (hml : c.maxLocals = 7) (hown : s.vm.findClass RL = some m.cls) (hgt : ∀ w ∈ gtbl, w.before args s = true) (hK : va_K D vwCl (xtys cA) s) (hRO : xRO ro (fun q => s.heap.size ≤ q) s s.heap) (hNw : xNw ro s) (hZ : tZq (fun q => s.heap.size ≤ q) s s.heap) (x m9 w : Nat) (X : Nat → Nat) : FM (xJ p l e room_1 s m args below meth c D cA (fun q => s.heap.size ≤ q) 7 Q) 601024 7293034 x m9 w X := by
  intro μ k n lv A S v y hk hn hLI kk L H locs ls ⟨hP, hD, hL1, hS1⟩ hl1
  obtain ⟨⟨hA0, hc⟩, -, -, hw, -, -⟩ := id hLI
  subst hA0
  have hA : ∀ q : Nat, s.heap.size ≤ q → (fun q : Nat => s.heap.size ≤ q) q := fun _ h => h
  have k2 : ∀ (μ1 : Hp) (r1 : Int32), xJ p l e room_1 s m args below meth c D cA (fun q => s.heap.size ≤ q) 7 Q μ1 (k + 448) (n + 5600) 426 lv [.int r1] → xJ p l e room_1 s m args below meth c D cA (fun q => s.heap.size ≤ q) 7 Q μ1 (k + 1) (n + 6) 426 lv [.int r1] := fun μ1 r1 h L H locs ls hr hl => W.widen (by omega) (by omega) (h L H locs ls hr hl)
  refine xgo (Z := lfZ S.B S.f v y w μ) (a := #[]) (mc' := 1) (ms' := 6) (vx_runSW (As := [.ref (A 0), .int v, .int y, .ref w]) (rest := []) ⟨hx, hb, hml, hown, hgt⟩ (LF_met hl D cA L H.size hc.1 hw) (vx_cwSW 4 hgt lf_good rfl rfl rfl (by decide +kernel) ⟨Nat.le_of_ble_eq_true rfl, Nat.le_of_ble_eq_true rfl⟩) ⟨fmblind, fun U hU hW9 => ⟨rfl, xpre hP hD hL1 hS1 hK hA hRO hNw hU hW9, zpre hD hS1 hA hZ hU hW9⟩⟩ rfl rfl hl1.1 rfl (lv_room (Nat.le_of_ble_eq_true rfl)) dL_law_423 ⟨Nat.le_trans (show k + 1 ≤ 601024 by omega) (Nat.le_of_ble_eq_true rfl), Nat.le_trans (show n + 6 ≤ 7293034 by omega) (Nat.le_of_ble_eq_true rfl)⟩) hD hS1 hA hl1 (fun r μ' hz => ?_)
  rcases hz with ⟨hok, er, em⟩ | ⟨hno, er, em⟩
  · rw [er, em]
    refine k2 _ _ (kk _ 0 (hLI.w64 _) (fun _ => ⟨rfl, ?_⟩) (fun q => absurd hok q))
    rw [hL_wL_s]
    simp [vp_updL]
  · rw [er, em]
    exact k2 _ _ (kk _ 1 hLI (fun q => absurd q hno) (fun _ => rfl))
theorem tr_off {l : Launch} (hflags : l.flags = flags0) : l.stackTraces = false := by
  unfold Launch.stackTraces
  rw [hflags]
  decide +kernel
theorem tz_of {s : State} {args : Array Value} (hts : ∀ w ∈ lw_tbl, w.before args s = true) (hg : (Jvm.Cond.and given_1 narrow_1).before args s = true) : tZq (fun q : Nat => s.heap.size ≤ q) s s.heap := by
  have ht : ∀ (i : Nat) (w : Cond), tables_1[i]? = some w → w.before args s = true := fun i w h => hts w (List.mem_append_right _ (List.mem_of_getElem? h))
  have hA : ∀ a : Nat, a < s.heap.size → ¬ (fun q : Nat => s.heap.size ≤ q) a := fun a h => Nat.not_le.mpr h
  refine ⟨vx_Zqof (ht 1159 _ (by decide +kernel)) (ht 23 _ (by decide +kernel)) (nw_i hg 258 (by decide +kernel)) hA, vx_Zqof (ht 1161 _ (by decide +kernel)) (ht 23 _ (by decide +kernel)) (nw_i hg 259 (by decide +kernel)) hA, fun w hw => ?_⟩
  have ho := nseBad_ot w hw
  simp only [nseBad, List.mem_cons, List.not_mem_nil, or_false] at hw
  rcases hw with rfl | rfl | rfl | rfl
  · exact va_tabs ho rfl (ht 1135 _ (by decide +kernel))
  · exact va_tabs ho rfl (ht 1137 _ (by decide +kernel))
  · exact va_tabs ho rfl (ht 1139 _ (by decide +kernel))
  · exact va_tabs ho rfl (ht 1134 _ (by decide +kernel))
/-- from the entry, for every script of at most 3584 ints, the law comes to its end with true -/
theorem whole_start {p : Program} {e : Env} {s : State} {m : MethodId} {below : List Frame} {meth : Method} {c : Code} (l : Launch) (hflags : l.flags = flags0) {b L : Nat} {xs : Nat → Int32} (hL : L ≤ 3584) (C0 : lw_At p s m meth c b L xs) : W p l e room_1 s m #[Value.ref b] below meth c s.heap [] 0 0 (lw_Z below #[Value.ref b] s) (entryFrame m ([Value.ref b] : List Value).toArray 7) := by
  obtain ⟨hx, hb, hret, hml, hown, hts, hX, hbl, hlocks, hgv⟩ := id C0
  have hgt := hgt_of hts
  obtain ⟨-, D, cA, hK⟩ := K_full hts
  have hA : ∀ a : Nat, a < s.heap.size → ¬ (fun q : Nat => s.heap.size ≤ q) a := fun a h => Nat.not_le.mpr h
  have hRO := ro_RO hts hgv hA
  have hNw := ro_Nw hts hgv
  exact law_W hL C0 hgt hK hRO hNw (fun x m9 w X => LF_FM (tr_off hflags) hx hb hml hown hgt hK hRO hNw (tz_of hts hgv) x m9 w X)
