/-! the law's own reads and its end -/
section lawW
variable {p : Program} {l : Launch} {e : Env} {R : Room} {s : State} {m : MethodId} {args : Array Value} {below : List Frame} {meth : Method} {c : Code} {D : va_G} {cA : Nat → ClassId} {A0 : Nat → Prop} {Q : State → Prop} {b Ls : Nat} {xs : Nat → Int32}
theorem sl_J (hx : p.tables.exec = Jvm.exec) (hb : c.code = cL_law) (hX : va_X b Ls xs s s.heap) (hbl : b < s.heap.size) (hbA : ¬ A0 b) (hL : Ls ≤ 3584) : SL (xJ p l e R s m args below meth c D cA A0 7 Q) b Ls xs := by
  intro μ k n pc lv st i hi hdg kk L H locs ls hr hl
  refine va_sld hx hb hX hbl hbA hr.2.2.2 (i := nI i) (vp_in_nI hi (by omega)) hdg ?_
  rw [nI_clamp (by omega)]
  exact kk L H locs ls hr hl
theorem sn_J (hx : p.tables.exec = Jvm.exec) (hb : c.code = cL_law) (hX : va_X b Ls xs s s.heap) (hbl : b < s.heap.size) (hbA : ¬ A0 b) (μ : Hp) (k n pc : Nat) (lv : List (Nat × Value)) (st : List Value) (hdg : decode cL_law pc = .ok (.arraylength, 1)) (kk : xJ p l e R s m args below meth c D cA A0 7 Q μ k n (pc + 1) lv (.int (nI Ls) :: st)) : xJ p l e R s m args below meth c D cA A0 7 Q μ k n pc lv (.ref b :: st) := by
  intro L H locs ls hr hl
  exact va_slen hx hb hX hbl hbA hr.2.2.2 hdg (kk L H locs ls hr hl)
theorem end_J (hx : p.tables.exec = Jvm.exec) (hb : c.code = code) (hret : meth.sig.returnType = ret) (hlocks : meth.locks = false) (μ : Hp) (k n : Nat) (lv : List (Nat × Value)) (hk : k ≤ 601024) (hn : n ≤ 7293034) : xJ p l e room_1 s m #[Value.ref b] below meth c D cA (fun q => s.heap.size ≤ q) 7 (lw_Z below #[Value.ref b] s) μ k n 2370 lv [.int 1] := by
  intro L H locs ls hr hl
  refine va_forget (fun q hq => hr.2.2.2.2.2 q hq) ?_
  refine W.widen (k := 601024) (n := 7293034) hk hn ?_
  exact lw_ret hx hb hret hlocks dL_law_2370
/-- the empty heap -/
def hp0 : Hp := (fun _ _ => 0, fun _ _ => 0, fun _ _ => none, fun _ => none)
theorem law_W {ro : Nat → Nat} (hL : Ls ≤ 3584) (C0 : lw_At p s m meth c b Ls xs) (hgt : ∀ w ∈ gtbl, w.before #[Value.ref b] s = true) (hK : va_K D vwCl (xtys cA) s) (hRO : xRO ro (fun q => s.heap.size ≤ q) s s.heap) (hNw : xNw ro s)
    (hfm2 : ∀ x m9 w X, FM (xJ p l e room_1 s m #[Value.ref b] below meth c D cA (fun q => s.heap.size ≤ q) 7 (lw_Z below #[Value.ref b] s)) 601024 7293034 x m9 w X) : W p l e room_1 s m #[Value.ref b] below meth c s.heap [] 0 0 (lw_Z below #[Value.ref b] s) (entryFrame m ([Value.ref b] : List Value).toArray 7) := by
  obtain ⟨hx, hb, hret, hml, hown, hts, hX, hbl, hlocks, hgv⟩ := C0
  have hbA : ¬ (fun q : Nat => s.heap.size ≤ q) b := Nat.not_le.mpr hbl
  have g : xCtx RL cL_law 7 40 601024 7293034 meth.name ro (xJ p l e room_1 s m #[Value.ref b] below meth c D cA (fun q => s.heap.size ≤ q) 7 (lw_Z below #[Value.ref b] s)) :=
    ⟨p, l, e, room_1, s, m, #[Value.ref b], below, meth, c, D, cA, _, _, rfl, ⟨hx, hb, hml, hown, hgt⟩, hK, fun _ h => h, ⟨hRO, hNw⟩, ⟨Nat.le_of_ble_eq_true rfl, Nat.le_of_ble_eq_true rfl, Nat.le_of_ble_eq_true rfl, Nat.le_of_ble_eq_true rfl⟩, rfl⟩
  have hJ := law_J (μ0 := hp0) (b0 := b) (Ls := Ls) (xs := xs) g (Nat.le_refl _) (Nat.le_of_ble_eq_true rfl) (Nat.le_of_ble_eq_true rfl) (sl_J hx hb hX hbl hbA hL) (sn_J hx hb hX hbl hbA) (fun μ k n lv hk hn => end_J hx hb hret hlocks μ k n lv hk hn) hfm2 hL
  have hl := lv_entry ([Value.ref b] : List Value) (n := 7) (Nat.le_of_ble_eq_true rfl)
  rw [lg_entry_eq]
  exact hJ [] s.heap [] _ ⟨fun i x h => (by cases h), ⟨fun i j a1 b1 h => (by cases h), fun i x h => (by cases h)⟩, fun a x h => (by cases h), va_S.rf⟩ hl
end lawW
