/-- what a local holds -/
def lget : List (Nat × Value) → Nat → Option Value
  | [], _ => none
  | (j, v) :: l, i => if j = i then some v else lget l i
theorem lget_mem : ∀ {l : List (Nat × Value)} {i : Nat} {v : Value}, lget l i = some v → (i, v) ∈ l
  | [], _, _, h => by simp [lget] at h
  | (j, w) :: l, i, v, h => by
    simp only [lget] at h
    by_cases hj : j = i
    · rw [if_pos hj] at h
      cases h
      subst hj
      exact List.mem_cons_self
    · rw [if_neg hj] at h
      exact List.mem_cons_of_mem _ (lget_mem h)
theorem lget_has {ls : Array Slot} {nL : Nat} {l : List (Nat × Value)} {i : Nat} {v : Value} (h : lv_has ls nL l) (hg : lget l i = some v) : ls[i]? = some (.val v) := h.2.2 (i, v) (lget_mem hg)
/-- fewer locals known -/
theorem lsub_has {ls : Array Slot} {nL : Nat} {l l' : List (Nat × Value)} (h : lv_has ls nL l) (hg : l'.all (fun q => decide (lget l q.1 = some q.2)) = true) : lv_has ls nL l' := ⟨h.1, h.2.1, fun q hq => by
  have := List.all_eq_true.mp hg q hq
  exact h.2.2 q (lget_mem (of_decide_eq_true this))⟩
def lsubs (l : List (Nat × Value)) : List (Nat × Value) → Prop
  | [] => True
  | q :: t => lget l q.1 = some q.2 ∧ lsubs l t
theorem lsubs_mem {l : List (Nat × Value)} : ∀ {l' : List (Nat × Value)}, lsubs l l' → ∀ q ∈ l', lget l q.1 = some q.2
  | [], _, q, hq => by cases hq
  | a :: t, h, q, hq => by
    rcases List.mem_cons.mp hq with e | e
    · subst e; exact h.1
    · exact lsubs_mem h.2 q e
theorem lsubs_has {ls : Array Slot} {nL : Nat} {l l' : List (Nat × Value)} (h : lv_has ls nL l) (hg : lsubs l l') : lv_has ls nL l' := ⟨h.1, h.2.1, fun q hq => h.2.2 q (lget_mem (lsubs_mem hg q hq))⟩
def lset1 (lv : List (Nat × Value)) (i : Nat) (v : Value) : List (Nat × Value) := (i, v) :: lv.filter (fun q => !(q.1 == i) && !(q.1 + 1 == i && q.2.category == 2))
def lset2 (lv : List (Nat × Value)) (i : Nat) (v : Value) : List (Nat × Value) := (i, v) :: lv.filter (fun q => !(q.1 == i) && (!(q.1 == i + 1) && !(q.1 + 1 == i && q.2.category == 2)))

set_option maxHeartbeats 1000000 in
theorem r_iadd {own : String} {cc : ByteArray} {nL d mc ms : Nat} {yn : String} {ro : Nat → Nat} {J : JT} (g : xCtx own cc nL d mc ms yn ro J) {μ : Hp} {k n pc : Nat} {lv : List (Nat × Value)} {st : List Value} {x y : Int32} (hdg : decode cc pc = .ok (.iadd, 1)) (kk : J μ k n (pc + 1) lv (.int (x + y) :: st)) : J μ k n pc lv (.int y :: .int x :: st) := by
  obtain ⟨p, l, e, R, s, m, args, below, meth, c, D, cA, A0, Q, rfl, ⟨hx, hb, hml, hown, hts⟩, hK, hA, ⟨hRO, hNw⟩, hroom, hyn⟩ := g
  exact fun L H locs ls hr hl => lv_iadd hx hb hdg (kk L H locs ls hr hl)
set_option maxHeartbeats 1000000 in
theorem r_isub {own : String} {cc : ByteArray} {nL d mc ms : Nat} {yn : String} {ro : Nat → Nat} {J : JT} (g : xCtx own cc nL d mc ms yn ro J) {μ : Hp} {k n pc : Nat} {lv : List (Nat × Value)} {st : List Value} {x y : Int32} (hdg : decode cc pc = .ok (.isub, 1)) (kk : J μ k n (pc + 1) lv (.int (x - y) :: st)) : J μ k n pc lv (.int y :: .int x :: st) := by
  obtain ⟨p, l, e, R, s, m, args, below, meth, c, D, cA, A0, Q, rfl, ⟨hx, hb, hml, hown, hts⟩, hK, hA, ⟨hRO, hNw⟩, hroom, hyn⟩ := g
  exact fun L H locs ls hr hl => lv_isub hx hb hdg (kk L H locs ls hr hl)
set_option maxHeartbeats 1000000 in
theorem r_imul {own : String} {cc : ByteArray} {nL d mc ms : Nat} {yn : String} {ro : Nat → Nat} {J : JT} (g : xCtx own cc nL d mc ms yn ro J) {μ : Hp} {k n pc : Nat} {lv : List (Nat × Value)} {st : List Value} {x y : Int32} (hdg : decode cc pc = .ok (.imul, 1)) (kk : J μ k n (pc + 1) lv (.int (x * y) :: st)) : J μ k n pc lv (.int y :: .int x :: st) := by
  obtain ⟨p, l, e, R, s, m, args, below, meth, c, D, cA, A0, Q, rfl, ⟨hx, hb, hml, hown, hts⟩, hK, hA, ⟨hRO, hNw⟩, hroom, hyn⟩ := g
  exact fun L H locs ls hr hl => lv_imul hx hb hdg (kk L H locs ls hr hl)
set_option maxHeartbeats 1000000 in
theorem r_iand {own : String} {cc : ByteArray} {nL d mc ms : Nat} {yn : String} {ro : Nat → Nat} {J : JT} (g : xCtx own cc nL d mc ms yn ro J) {μ : Hp} {k n pc : Nat} {lv : List (Nat × Value)} {st : List Value} {x y : Int32} (hdg : decode cc pc = .ok (.iand, 1)) (kk : J μ k n (pc + 1) lv (.int (x &&& y) :: st)) : J μ k n pc lv (.int y :: .int x :: st) := by
  obtain ⟨p, l, e, R, s, m, args, below, meth, c, D, cA, A0, Q, rfl, ⟨hx, hb, hml, hown, hts⟩, hK, hA, ⟨hRO, hNw⟩, hroom, hyn⟩ := g
  exact fun L H locs ls hr hl => lv_iand hx hb hdg (kk L H locs ls hr hl)
set_option maxHeartbeats 1000000 in
theorem r_ior {own : String} {cc : ByteArray} {nL d mc ms : Nat} {yn : String} {ro : Nat → Nat} {J : JT} (g : xCtx own cc nL d mc ms yn ro J) {μ : Hp} {k n pc : Nat} {lv : List (Nat × Value)} {st : List Value} {x y : Int32} (hdg : decode cc pc = .ok (.ior, 1)) (kk : J μ k n (pc + 1) lv (.int (x ||| y) :: st)) : J μ k n pc lv (.int y :: .int x :: st) := by
  obtain ⟨p, l, e, R, s, m, args, below, meth, c, D, cA, A0, Q, rfl, ⟨hx, hb, hml, hown, hts⟩, hK, hA, ⟨hRO, hNw⟩, hroom, hyn⟩ := g
  exact fun L H locs ls hr hl => lv_ior hx hb hdg (kk L H locs ls hr hl)
set_option maxHeartbeats 1000000 in
theorem r_ixor {own : String} {cc : ByteArray} {nL d mc ms : Nat} {yn : String} {ro : Nat → Nat} {J : JT} (g : xCtx own cc nL d mc ms yn ro J) {μ : Hp} {k n pc : Nat} {lv : List (Nat × Value)} {st : List Value} {x y : Int32} (hdg : decode cc pc = .ok (.ixor, 1)) (kk : J μ k n (pc + 1) lv (.int (x ^^^ y) :: st)) : J μ k n pc lv (.int y :: .int x :: st) := by
  obtain ⟨p, l, e, R, s, m, args, below, meth, c, D, cA, A0, Q, rfl, ⟨hx, hb, hml, hown, hts⟩, hK, hA, ⟨hRO, hNw⟩, hroom, hyn⟩ := g
  exact fun L H locs ls hr hl => lv_ixor hx hb hdg (kk L H locs ls hr hl)
set_option maxHeartbeats 1000000 in
theorem r_ishl {own : String} {cc : ByteArray} {nL d mc ms : Nat} {yn : String} {ro : Nat → Nat} {J : JT} (g : xCtx own cc nL d mc ms yn ro J) {μ : Hp} {k n pc : Nat} {lv : List (Nat × Value)} {st : List Value} {x y : Int32} (hdg : decode cc pc = .ok (.ishl, 1)) (kk : J μ k n (pc + 1) lv (.int (x <<< (y &&& 31)) :: st)) : J μ k n pc lv (.int y :: .int x :: st) := by
  obtain ⟨p, l, e, R, s, m, args, below, meth, c, D, cA, A0, Q, rfl, ⟨hx, hb, hml, hown, hts⟩, hK, hA, ⟨hRO, hNw⟩, hroom, hyn⟩ := g
  exact fun L H locs ls hr hl => lv_ishl hx hb hdg (kk L H locs ls hr hl)
set_option maxHeartbeats 1000000 in
theorem r_ishr {own : String} {cc : ByteArray} {nL d mc ms : Nat} {yn : String} {ro : Nat → Nat} {J : JT} (g : xCtx own cc nL d mc ms yn ro J) {μ : Hp} {k n pc : Nat} {lv : List (Nat × Value)} {st : List Value} {x y : Int32} (hdg : decode cc pc = .ok (.ishr, 1)) (kk : J μ k n (pc + 1) lv (.int (x >>> (y &&& 31)) :: st)) : J μ k n pc lv (.int y :: .int x :: st) := by
  obtain ⟨p, l, e, R, s, m, args, below, meth, c, D, cA, A0, Q, rfl, ⟨hx, hb, hml, hown, hts⟩, hK, hA, ⟨hRO, hNw⟩, hroom, hyn⟩ := g
  exact fun L H locs ls hr hl => lv_ishr hx hb hdg (kk L H locs ls hr hl)
set_option maxHeartbeats 1000000 in
theorem r_idiv {own : String} {cc : ByteArray} {nL d mc ms : Nat} {yn : String} {ro : Nat → Nat} {J : JT} (g : xCtx own cc nL d mc ms yn ro J) {μ : Hp} {k n pc : Nat} {lv : List (Nat × Value)} {st : List Value} {x y : Int32} (hne : ¬ y = 0) (hdg : decode cc pc = .ok (.idiv, 1)) (kk : J μ k n (pc + 1) lv (.int (x / y) :: st)) : J μ k n pc lv (.int y :: .int x :: st) := by
  obtain ⟨p, l, e, R, s, m, args, below, meth, c, D, cA, A0, Q, rfl, ⟨hx, hb, hml, hown, hts⟩, hK, hA, ⟨hRO, hNw⟩, hroom, hyn⟩ := g
  exact fun L H locs ls hr hl => lv_idiv hx hb hdg hne (kk L H locs ls hr hl)
set_option maxHeartbeats 1000000 in
theorem r_irem {own : String} {cc : ByteArray} {nL d mc ms : Nat} {yn : String} {ro : Nat → Nat} {J : JT} (g : xCtx own cc nL d mc ms yn ro J) {μ : Hp} {k n pc : Nat} {lv : List (Nat × Value)} {st : List Value} {x y : Int32} (hne : ¬ y = 0) (hdg : decode cc pc = .ok (.irem, 1)) (kk : J μ k n (pc + 1) lv (.int (x - x / y * y) :: st)) : J μ k n pc lv (.int y :: .int x :: st) := by
  obtain ⟨p, l, e, R, s, m, args, below, meth, c, D, cA, A0, Q, rfl, ⟨hx, hb, hml, hown, hts⟩, hK, hA, ⟨hRO, hNw⟩, hroom, hyn⟩ := g
  exact fun L H locs ls hr hl => lv_irem hx hb hdg hne (kk L H locs ls hr hl)
set_option maxHeartbeats 1000000 in
theorem r_ineg {own : String} {cc : ByteArray} {nL d mc ms : Nat} {yn : String} {ro : Nat → Nat} {J : JT} (g : xCtx own cc nL d mc ms yn ro J) {μ : Hp} {k n pc : Nat} {lv : List (Nat × Value)} {st : List Value} {x : Int32} (hdg : decode cc pc = .ok (.ineg, 1)) (kk : J μ k n (pc + 1) lv (.int (-x) :: st)) : J μ k n pc lv (.int x :: st) := by
  obtain ⟨p, l, e, R, s, m, args, below, meth, c, D, cA, A0, Q, rfl, ⟨hx, hb, hml, hown, hts⟩, hK, hA, ⟨hRO, hNw⟩, hroom, hyn⟩ := g
  exact fun L H locs ls hr hl => lv_ineg hx hb hdg (kk L H locs ls hr hl)
set_option maxHeartbeats 1000000 in
theorem r_iushr {own : String} {cc : ByteArray} {nL d mc ms : Nat} {yn : String} {ro : Nat → Nat} {J : JT} (g : xCtx own cc nL d mc ms yn ro J) {μ : Hp} {k n pc : Nat} {lv : List (Nat × Value)} {st : List Value} {x y : Int32} (hdg : decode cc pc = .ok (.iushr, 1)) (kk : J μ k n (pc + 1) lv (.int ((x.toUInt32 >>> (y.toUInt32 &&& Int32.toUInt32 31)).toInt32) :: st)) : J μ k n pc lv (.int y :: .int x :: st) := by
  obtain ⟨p, l, e, R, s, m, args, below, meth, c, D, cA, A0, Q, rfl, ⟨hx, hb, hml, hown, hts⟩, hK, hA, ⟨hRO, hNw⟩, hroom, hyn⟩ := g
  exact fun L H locs ls hr hl => lv_iushr hx hb hdg rfl (kk L H locs ls hr hl)
set_option maxHeartbeats 1000000 in
theorem r_ladd {own : String} {cc : ByteArray} {nL d mc ms : Nat} {yn : String} {ro : Nat → Nat} {J : JT} (g : xCtx own cc nL d mc ms yn ro J) {μ : Hp} {k n pc : Nat} {lv : List (Nat × Value)} {st : List Value} {x y : Int64} (hdg : decode cc pc = .ok (.ladd, 1)) (kk : J μ k n (pc + 1) lv (.long (x + y) :: st)) : J μ k n pc lv (.long y :: .long x :: st) := by
  obtain ⟨p, l, e, R, s, m, args, below, meth, c, D, cA, A0, Q, rfl, ⟨hx, hb, hml, hown, hts⟩, hK, hA, ⟨hRO, hNw⟩, hroom, hyn⟩ := g
  exact fun L H locs ls hr hl => lv_ladd hx hb hdg (kk L H locs ls hr hl)
set_option maxHeartbeats 1000000 in
theorem r_lsub {own : String} {cc : ByteArray} {nL d mc ms : Nat} {yn : String} {ro : Nat → Nat} {J : JT} (g : xCtx own cc nL d mc ms yn ro J) {μ : Hp} {k n pc : Nat} {lv : List (Nat × Value)} {st : List Value} {x y : Int64} (hdg : decode cc pc = .ok (.lsub, 1)) (kk : J μ k n (pc + 1) lv (.long (x - y) :: st)) : J μ k n pc lv (.long y :: .long x :: st) := by
  obtain ⟨p, l, e, R, s, m, args, below, meth, c, D, cA, A0, Q, rfl, ⟨hx, hb, hml, hown, hts⟩, hK, hA, ⟨hRO, hNw⟩, hroom, hyn⟩ := g
  exact fun L H locs ls hr hl => lv_lsub hx hb hdg (kk L H locs ls hr hl)
set_option maxHeartbeats 1000000 in
theorem r_lmul {own : String} {cc : ByteArray} {nL d mc ms : Nat} {yn : String} {ro : Nat → Nat} {J : JT} (g : xCtx own cc nL d mc ms yn ro J) {μ : Hp} {k n pc : Nat} {lv : List (Nat × Value)} {st : List Value} {x y : Int64} (hdg : decode cc pc = .ok (.lmul, 1)) (kk : J μ k n (pc + 1) lv (.long (x * y) :: st)) : J μ k n pc lv (.long y :: .long x :: st) := by
  obtain ⟨p, l, e, R, s, m, args, below, meth, c, D, cA, A0, Q, rfl, ⟨hx, hb, hml, hown, hts⟩, hK, hA, ⟨hRO, hNw⟩, hroom, hyn⟩ := g
  exact fun L H locs ls hr hl => lv_lmul hx hb hdg (kk L H locs ls hr hl)
set_option maxHeartbeats 1000000 in
theorem r_land {own : String} {cc : ByteArray} {nL d mc ms : Nat} {yn : String} {ro : Nat → Nat} {J : JT} (g : xCtx own cc nL d mc ms yn ro J) {μ : Hp} {k n pc : Nat} {lv : List (Nat × Value)} {st : List Value} {x y : Int64} (hdg : decode cc pc = .ok (.land, 1)) (kk : J μ k n (pc + 1) lv (.long (x &&& y) :: st)) : J μ k n pc lv (.long y :: .long x :: st) := by
  obtain ⟨p, l, e, R, s, m, args, below, meth, c, D, cA, A0, Q, rfl, ⟨hx, hb, hml, hown, hts⟩, hK, hA, ⟨hRO, hNw⟩, hroom, hyn⟩ := g
  exact fun L H locs ls hr hl => lv_land hx hb hdg (kk L H locs ls hr hl)
set_option maxHeartbeats 1000000 in
theorem r_lor {own : String} {cc : ByteArray} {nL d mc ms : Nat} {yn : String} {ro : Nat → Nat} {J : JT} (g : xCtx own cc nL d mc ms yn ro J) {μ : Hp} {k n pc : Nat} {lv : List (Nat × Value)} {st : List Value} {x y : Int64} (hdg : decode cc pc = .ok (.lor, 1)) (kk : J μ k n (pc + 1) lv (.long (x ||| y) :: st)) : J μ k n pc lv (.long y :: .long x :: st) := by
  obtain ⟨p, l, e, R, s, m, args, below, meth, c, D, cA, A0, Q, rfl, ⟨hx, hb, hml, hown, hts⟩, hK, hA, ⟨hRO, hNw⟩, hroom, hyn⟩ := g
  exact fun L H locs ls hr hl => lv_lor hx hb hdg (kk L H locs ls hr hl)
set_option maxHeartbeats 1000000 in
theorem r_ldiv {own : String} {cc : ByteArray} {nL d mc ms : Nat} {yn : String} {ro : Nat → Nat} {J : JT} (g : xCtx own cc nL d mc ms yn ro J) {μ : Hp} {k n pc : Nat} {lv : List (Nat × Value)} {st : List Value} {x y : Int64} (hne : ¬ y = 0) (hdg : decode cc pc = .ok (.ldiv, 1)) (kk : J μ k n (pc + 1) lv (.long (x / y) :: st)) : J μ k n pc lv (.long y :: .long x :: st) := by
  obtain ⟨p, l, e, R, s, m, args, below, meth, c, D, cA, A0, Q, rfl, ⟨hx, hb, hml, hown, hts⟩, hK, hA, ⟨hRO, hNw⟩, hroom, hyn⟩ := g
  exact fun L H locs ls hr hl => lv_ldiv hx hb hdg hne (kk L H locs ls hr hl)
set_option maxHeartbeats 1000000 in
theorem r_lrem {own : String} {cc : ByteArray} {nL d mc ms : Nat} {yn : String} {ro : Nat → Nat} {J : JT} (g : xCtx own cc nL d mc ms yn ro J) {μ : Hp} {k n pc : Nat} {lv : List (Nat × Value)} {st : List Value} {x y : Int64} (hne : ¬ y = 0) (hdg : decode cc pc = .ok (.lrem, 1)) (kk : J μ k n (pc + 1) lv (.long (x - x / y * y) :: st)) : J μ k n pc lv (.long y :: .long x :: st) := by
  obtain ⟨p, l, e, R, s, m, args, below, meth, c, D, cA, A0, Q, rfl, ⟨hx, hb, hml, hown, hts⟩, hK, hA, ⟨hRO, hNw⟩, hroom, hyn⟩ := g
  exact fun L H locs ls hr hl => lv_lrem hx hb hdg hne (kk L H locs ls hr hl)
set_option maxHeartbeats 1000000 in
theorem r_lshl {own : String} {cc : ByteArray} {nL d mc ms : Nat} {yn : String} {ro : Nat → Nat} {J : JT} (g : xCtx own cc nL d mc ms yn ro J) {μ : Hp} {k n pc : Nat} {lv : List (Nat × Value)} {st : List Value} {x : Int64} {y : Int32} (hdg : decode cc pc = .ok (.lshl, 1)) (kk : J μ k n (pc + 1) lv (.long (x <<< (y.toInt64 &&& 63)) :: st)) : J μ k n pc lv (.int y :: .long x :: st) := by
  obtain ⟨p, l, e, R, s, m, args, below, meth, c, D, cA, A0, Q, rfl, ⟨hx, hb, hml, hown, hts⟩, hK, hA, ⟨hRO, hNw⟩, hroom, hyn⟩ := g
  exact fun L H locs ls hr hl => lv_lshl hx hb hdg rfl (kk L H locs ls hr hl)
set_option maxHeartbeats 1000000 in
theorem r_lshr {own : String} {cc : ByteArray} {nL d mc ms : Nat} {yn : String} {ro : Nat → Nat} {J : JT} (g : xCtx own cc nL d mc ms yn ro J) {μ : Hp} {k n pc : Nat} {lv : List (Nat × Value)} {st : List Value} {x : Int64} {y : Int32} (hdg : decode cc pc = .ok (.lshr, 1)) (kk : J μ k n (pc + 1) lv (.long (x >>> (y.toInt64 &&& 63)) :: st)) : J μ k n pc lv (.int y :: .long x :: st) := by
  obtain ⟨p, l, e, R, s, m, args, below, meth, c, D, cA, A0, Q, rfl, ⟨hx, hb, hml, hown, hts⟩, hK, hA, ⟨hRO, hNw⟩, hroom, hyn⟩ := g
  exact fun L H locs ls hr hl => lv_lshr hx hb hdg rfl (kk L H locs ls hr hl)
set_option maxHeartbeats 1000000 in
theorem r_lushr {own : String} {cc : ByteArray} {nL d mc ms : Nat} {yn : String} {ro : Nat → Nat} {J : JT} (g : xCtx own cc nL d mc ms yn ro J) {μ : Hp} {k n pc : Nat} {lv : List (Nat × Value)} {st : List Value} {x : Int64} {y : Int32} (hdg : decode cc pc = .ok (.lushr, 1)) (kk : J μ k n (pc + 1) lv (.long ((x.toUInt64 >>> (y.toInt64.toUInt64 &&& Int64.toUInt64 63)).toInt64) :: st)) : J μ k n pc lv (.int y :: .long x :: st) := by
  obtain ⟨p, l, e, R, s, m, args, below, meth, c, D, cA, A0, Q, rfl, ⟨hx, hb, hml, hown, hts⟩, hK, hA, ⟨hRO, hNw⟩, hroom, hyn⟩ := g
  exact fun L H locs ls hr hl => lv_lushr hx hb hdg rfl (kk L H locs ls hr hl)
set_option maxHeartbeats 1000000 in
theorem r_i2l {own : String} {cc : ByteArray} {nL d mc ms : Nat} {yn : String} {ro : Nat → Nat} {J : JT} (g : xCtx own cc nL d mc ms yn ro J) {μ : Hp} {k n pc : Nat} {lv : List (Nat × Value)} {st : List Value} {x : Int32} (hdg : decode cc pc = .ok (.i2l, 1)) (kk : J μ k n (pc + 1) lv (.long x.toInt64 :: st)) : J μ k n pc lv (.int x :: st) := by
  obtain ⟨p, l, e, R, s, m, args, below, meth, c, D, cA, A0, Q, rfl, ⟨hx, hb, hml, hown, hts⟩, hK, hA, ⟨hRO, hNw⟩, hroom, hyn⟩ := g
  exact fun L H locs ls hr hl => lv_i2l hx hb hdg rfl (kk L H locs ls hr hl)
set_option maxHeartbeats 1000000 in
theorem r_l2i {own : String} {cc : ByteArray} {nL d mc ms : Nat} {yn : String} {ro : Nat → Nat} {J : JT} (g : xCtx own cc nL d mc ms yn ro J) {μ : Hp} {k n pc : Nat} {lv : List (Nat × Value)} {st : List Value} {x : Int64} (hdg : decode cc pc = .ok (.l2i, 1)) (kk : J μ k n (pc + 1) lv (.int x.toInt32 :: st)) : J μ k n pc lv (.long x :: st) := by
  obtain ⟨p, l, e, R, s, m, args, below, meth, c, D, cA, A0, Q, rfl, ⟨hx, hb, hml, hown, hts⟩, hK, hA, ⟨hRO, hNw⟩, hroom, hyn⟩ := g
  exact fun L H locs ls hr hl => lv_l2i hx hb hdg rfl (kk L H locs ls hr hl)
set_option maxHeartbeats 1000000 in
theorem r_i2b {own : String} {cc : ByteArray} {nL d mc ms : Nat} {yn : String} {ro : Nat → Nat} {J : JT} (g : xCtx own cc nL d mc ms yn ro J) {μ : Hp} {k n pc : Nat} {lv : List (Nat × Value)} {st : List Value} {x : Int32} (hdg : decode cc pc = .ok (.i2b, 1)) (kk : J μ k n (pc + 1) lv (.int x.toInt8.toInt32 :: st)) : J μ k n pc lv (.int x :: st) := by
  obtain ⟨p, l, e, R, s, m, args, below, meth, c, D, cA, A0, Q, rfl, ⟨hx, hb, hml, hown, hts⟩, hK, hA, ⟨hRO, hNw⟩, hroom, hyn⟩ := g
  exact fun L H locs ls hr hl => lv_i2b hx hb hdg rfl (kk L H locs ls hr hl)
set_option maxHeartbeats 1000000 in
theorem r_i2c {own : String} {cc : ByteArray} {nL d mc ms : Nat} {yn : String} {ro : Nat → Nat} {J : JT} (g : xCtx own cc nL d mc ms yn ro J) {μ : Hp} {k n pc : Nat} {lv : List (Nat × Value)} {st : List Value} {x : Int32} (hdg : decode cc pc = .ok (.i2c, 1)) (kk : J μ k n (pc + 1) lv (.int (x.toUInt32 % 65536).toInt32 :: st)) : J μ k n pc lv (.int x :: st) := by
  obtain ⟨p, l, e, R, s, m, args, below, meth, c, D, cA, A0, Q, rfl, ⟨hx, hb, hml, hown, hts⟩, hK, hA, ⟨hRO, hNw⟩, hroom, hyn⟩ := g
  exact fun L H locs ls hr hl => lv_i2c hx hb hdg rfl (kk L H locs ls hr hl)
set_option maxHeartbeats 1000000 in
theorem r_lcmp {own : String} {cc : ByteArray} {nL d mc ms : Nat} {yn : String} {ro : Nat → Nat} {J : JT} (g : xCtx own cc nL d mc ms yn ro J) {μ : Hp} {k n pc : Nat} {lv : List (Nat × Value)} {st : List Value} {x y : Int64} (hdg : decode cc pc = .ok (.lcmp, 1)) (kk : J μ k n (pc + 1) lv (.int (lg_cmp x y) :: st)) : J μ k n pc lv (.long y :: .long x :: st) := by
  obtain ⟨p, l, e, R, s, m, args, below, meth, c, D, cA, A0, Q, rfl, ⟨hx, hb, hml, hown, hts⟩, hK, hA, ⟨hRO, hNw⟩, hroom, hyn⟩ := g
  exact fun L H locs ls hr hl => W.lcmp hx hb hdg (kk L H locs ls hr hl)
set_option maxHeartbeats 1000000 in
theorem r_iconst {own : String} {cc : ByteArray} {nL d mc ms : Nat} {yn : String} {ro : Nat → Nat} {J : JT} (g : xCtx own cc nL d mc ms yn ro J) {μ : Hp} {k n pc : Nat} {lv : List (Nat × Value)} {st : List Value} {z : Int} (v : Int32) (hdg : decode cc pc = .ok (.iconst z, 1)) (hv : Int32.ofInt z = v) (kk : J μ k n (pc + 1) lv (.int v :: st)) : J μ k n pc lv st := by
  obtain ⟨p, l, e, R, s, m, args, below, meth, c, D, cA, A0, Q, rfl, ⟨hx, hb, hml, hown, hts⟩, hK, hA, ⟨hRO, hNw⟩, hroom, hyn⟩ := g
  exact fun L H locs ls hr hl => lv_iconst hx hb hdg hv (kk L H locs ls hr hl)
set_option maxHeartbeats 1000000 in
theorem r_bipush {own : String} {cc : ByteArray} {nL d mc ms : Nat} {yn : String} {ro : Nat → Nat} {J : JT} (g : xCtx own cc nL d mc ms yn ro J) {μ : Hp} {k n pc : Nat} {lv : List (Nat × Value)} {st : List Value} {z : Int} (v : Int32) (hdg : decode cc pc = .ok (.bipush z, 2)) (hv : (Int8.ofInt z).toInt32 = v) (kk : J μ k n (pc + 2) lv (.int v :: st)) : J μ k n pc lv st := by
  obtain ⟨p, l, e, R, s, m, args, below, meth, c, D, cA, A0, Q, rfl, ⟨hx, hb, hml, hown, hts⟩, hK, hA, ⟨hRO, hNw⟩, hroom, hyn⟩ := g
  exact fun L H locs ls hr hl => lv_bipush hx hb hdg hv (kk L H locs ls hr hl)
set_option maxHeartbeats 1000000 in
theorem r_sipush {own : String} {cc : ByteArray} {nL d mc ms : Nat} {yn : String} {ro : Nat → Nat} {J : JT} (g : xCtx own cc nL d mc ms yn ro J) {μ : Hp} {k n pc : Nat} {lv : List (Nat × Value)} {st : List Value} {z : Int} (v : Int32) (hdg : decode cc pc = .ok (.sipush z, 3)) (hv : (Int16.ofInt z).toInt32 = v) (kk : J μ k n (pc + 3) lv (.int v :: st)) : J μ k n pc lv st := by
  obtain ⟨p, l, e, R, s, m, args, below, meth, c, D, cA, A0, Q, rfl, ⟨hx, hb, hml, hown, hts⟩, hK, hA, ⟨hRO, hNw⟩, hroom, hyn⟩ := g
  exact fun L H locs ls hr hl => lv_sipush hx hb hdg hv (kk L H locs ls hr hl)
set_option maxHeartbeats 1000000 in
theorem r_lconst {own : String} {cc : ByteArray} {nL d mc ms : Nat} {yn : String} {ro : Nat → Nat} {J : JT} (g : xCtx own cc nL d mc ms yn ro J) {μ : Hp} {k n pc : Nat} {lv : List (Nat × Value)} {st : List Value} {z : Fin 2} (v : Int64) (hdg : decode cc pc = .ok (.lconst z, 1)) (hv : Int64.ofNat (z : Nat) = v) (kk : J μ k n (pc + 1) lv (.long v :: st)) : J μ k n pc lv st := by
  obtain ⟨p, l, e, R, s, m, args, below, meth, c, D, cA, A0, Q, rfl, ⟨hx, hb, hml, hown, hts⟩, hK, hA, ⟨hRO, hNw⟩, hroom, hyn⟩ := g
  exact fun L H locs ls hr hl => lv_lconst hx hb hdg hv (kk L H locs ls hr hl)
set_option maxHeartbeats 1000000 in
theorem r_ldc {own : String} {cc : ByteArray} {nL d mc ms : Nat} {yn : String} {ro : Nat → Nat} {J : JT} (g : xCtx own cc nL d mc ms yn ro J) {μ : Hp} {k n pc : Nat} {lv : List (Nat × Value)} {st : List Value} {index : Nat} (v : Int32) (hc : Jvm.Cond.constant own index v ∈ gtbl) (hdg : decode cc pc = .ok (.ldc index, 2)) (kk : J μ k n (pc + 2) lv (.int v :: st)) : J μ k n pc lv st := by
  obtain ⟨p, l, e, R, s, m, args, below, meth, c, D, cA, A0, Q, rfl, ⟨hx, hb, hml, hown, hts⟩, hK, hA, ⟨hRO, hNw⟩, hroom, hyn⟩ := g
  exact fun L H locs ls hr hl => lv_ldc hx hb hown (hts _ hc) hdg (kk L H locs ls hr hl)
set_option maxHeartbeats 1000000 in
theorem r_ldcw {own : String} {cc : ByteArray} {nL d mc ms : Nat} {yn : String} {ro : Nat → Nat} {J : JT} (g : xCtx own cc nL d mc ms yn ro J) {μ : Hp} {k n pc : Nat} {lv : List (Nat × Value)} {st : List Value} {index : Nat} (v : Int32) (hc : Jvm.Cond.constant own index v ∈ gtbl) (hdg : decode cc pc = .ok (.ldc_w index, 3)) (kk : J μ k n (pc + 3) lv (.int v :: st)) : J μ k n pc lv st := by
  obtain ⟨p, l, e, R, s, m, args, below, meth, c, D, cA, A0, Q, rfl, ⟨hx, hb, hml, hown, hts⟩, hK, hA, ⟨hRO, hNw⟩, hroom, hyn⟩ := g
  exact fun L H locs ls hr hl => lv_ldcw hx hb hown (hts _ hc) hdg (kk L H locs ls hr hl)
set_option maxHeartbeats 1000000 in
theorem r_ldc2 {own : String} {cc : ByteArray} {nL d mc ms : Nat} {yn : String} {ro : Nat → Nat} {J : JT} (g : xCtx own cc nL d mc ms yn ro J) {μ : Hp} {k n pc : Nat} {lv : List (Nat × Value)} {st : List Value} {index : Nat} (v : Int64) (hc : Jvm.Cond.constantLong own index v ∈ gtbl) (hdg : decode cc pc = .ok (.ldc2_w index, 3)) (kk : J μ k n (pc + 3) lv (.long v :: st)) : J μ k n pc lv st := by
  obtain ⟨p, l, e, R, s, m, args, below, meth, c, D, cA, A0, Q, rfl, ⟨hx, hb, hml, hown, hts⟩, hK, hA, ⟨hRO, hNw⟩, hroom, hyn⟩ := g
  exact fun L H locs ls hr hl => lv_ldc2 hx hb hown (hts _ hc) hdg (kk L H locs ls hr hl)
set_option maxHeartbeats 1000000 in
theorem r_null {own : String} {cc : ByteArray} {nL d mc ms : Nat} {yn : String} {ro : Nat → Nat} {J : JT} (g : xCtx own cc nL d mc ms yn ro J) {μ : Hp} {k n pc : Nat} {lv : List (Nat × Value)} {st : List Value} (hdg : decode cc pc = .ok (.aconst_null, 1)) (kk : J μ k n (pc + 1) lv (.null :: st)) : J μ k n pc lv st := by
  obtain ⟨p, l, e, R, s, m, args, below, meth, c, D, cA, A0, Q, rfl, ⟨hx, hb, hml, hown, hts⟩, hK, hA, ⟨hRO, hNw⟩, hroom, hyn⟩ := g
  exact fun L H locs ls hr hl => lv_null hx hb hdg (kk L H locs ls hr hl)
set_option maxHeartbeats 1000000 in
theorem r_iload_n {own : String} {cc : ByteArray} {nL d mc ms : Nat} {yn : String} {ro : Nat → Nat} {J : JT} (g : xCtx own cc nL d mc ms yn ro J) {μ : Hp} {k n pc : Nat} {lv : List (Nat × Value)} {st : List Value} {i : Fin 4} {x : Int32} (hdg : decode cc pc = .ok (.iload_n i, 1)) (hg : lget lv (i : Nat) = some (.int x)) (kk : J μ k n (pc + 1) lv (.int x :: st)) : J μ k n pc lv st := by
  obtain ⟨p, l, e, R, s, m, args, below, meth, c, D, cA, A0, Q, rfl, ⟨hx, hb, hml, hown, hts⟩, hK, hA, ⟨hRO, hNw⟩, hroom, hyn⟩ := g
  exact fun L H locs ls hr hl => lv_iload_n hx hb hdg rfl (lget_has hl hg) (kk L H locs ls hr hl)
set_option maxHeartbeats 1000000 in
theorem r_iload {own : String} {cc : ByteArray} {nL d mc ms : Nat} {yn : String} {ro : Nat → Nat} {J : JT} (g : xCtx own cc nL d mc ms yn ro J) {μ : Hp} {k n pc : Nat} {lv : List (Nat × Value)} {st : List Value} {i : Nat} {x : Int32} (hdg : decode cc pc = .ok (.iload i, 2)) (hg : lget lv i = some (.int x)) (kk : J μ k n (pc + 2) lv (.int x :: st)) : J μ k n pc lv st := by
  obtain ⟨p, l, e, R, s, m, args, below, meth, c, D, cA, A0, Q, rfl, ⟨hx, hb, hml, hown, hts⟩, hK, hA, ⟨hRO, hNw⟩, hroom, hyn⟩ := g
  exact fun L H locs ls hr hl => lv_iload hx hb hdg (lget_has hl hg) (kk L H locs ls hr hl)
set_option maxHeartbeats 1000000 in
theorem r_lload_n {own : String} {cc : ByteArray} {nL d mc ms : Nat} {yn : String} {ro : Nat → Nat} {J : JT} (g : xCtx own cc nL d mc ms yn ro J) {μ : Hp} {k n pc : Nat} {lv : List (Nat × Value)} {st : List Value} {i : Fin 4} {x : Int64} (hdg : decode cc pc = .ok (.lload_n i, 1)) (hg : lget lv (i : Nat) = some (.long x)) (kk : J μ k n (pc + 1) lv (.long x :: st)) : J μ k n pc lv st := by
  obtain ⟨p, l, e, R, s, m, args, below, meth, c, D, cA, A0, Q, rfl, ⟨hx, hb, hml, hown, hts⟩, hK, hA, ⟨hRO, hNw⟩, hroom, hyn⟩ := g
  exact fun L H locs ls hr hl => lv_lload_n hx hb hdg rfl (lget_has hl hg) (kk L H locs ls hr hl)
set_option maxHeartbeats 1000000 in
theorem r_lload {own : String} {cc : ByteArray} {nL d mc ms : Nat} {yn : String} {ro : Nat → Nat} {J : JT} (g : xCtx own cc nL d mc ms yn ro J) {μ : Hp} {k n pc : Nat} {lv : List (Nat × Value)} {st : List Value} {i : Nat} {x : Int64} (hdg : decode cc pc = .ok (.lload i, 2)) (hg : lget lv i = some (.long x)) (kk : J μ k n (pc + 2) lv (.long x :: st)) : J μ k n pc lv st := by
  obtain ⟨p, l, e, R, s, m, args, below, meth, c, D, cA, A0, Q, rfl, ⟨hx, hb, hml, hown, hts⟩, hK, hA, ⟨hRO, hNw⟩, hroom, hyn⟩ := g
  exact fun L H locs ls hr hl => lv_lload hx hb hdg (lget_has hl hg) (kk L H locs ls hr hl)
set_option maxHeartbeats 1000000 in
theorem r_aload_n {own : String} {cc : ByteArray} {nL d mc ms : Nat} {yn : String} {ro : Nat → Nat} {J : JT} (g : xCtx own cc nL d mc ms yn ro J) {μ : Hp} {k n pc : Nat} {lv : List (Nat × Value)} {st : List Value} {i : Fin 4} {x : Nat} (hdg : decode cc pc = .ok (.aload_n i, 1)) (hg : lget lv (i : Nat) = some (.ref x)) (kk : J μ k n (pc + 1) lv (.ref x :: st)) : J μ k n pc lv st := by
  obtain ⟨p, l, e, R, s, m, args, below, meth, c, D, cA, A0, Q, rfl, ⟨hx, hb, hml, hown, hts⟩, hK, hA, ⟨hRO, hNw⟩, hroom, hyn⟩ := g
  exact fun L H locs ls hr hl => lv_aload_n hx hb hdg rfl (lget_has hl hg) (kk L H locs ls hr hl)
set_option maxHeartbeats 1000000 in
theorem r_aload {own : String} {cc : ByteArray} {nL d mc ms : Nat} {yn : String} {ro : Nat → Nat} {J : JT} (g : xCtx own cc nL d mc ms yn ro J) {μ : Hp} {k n pc : Nat} {lv : List (Nat × Value)} {st : List Value} {i : Nat} {x : Nat} (hdg : decode cc pc = .ok (.aload i, 2)) (hg : lget lv i = some (.ref x)) (kk : J μ k n (pc + 2) lv (.ref x :: st)) : J μ k n pc lv st := by
  obtain ⟨p, l, e, R, s, m, args, below, meth, c, D, cA, A0, Q, rfl, ⟨hx, hb, hml, hown, hts⟩, hK, hA, ⟨hRO, hNw⟩, hroom, hyn⟩ := g
  exact fun L H locs ls hr hl => lv_aload hx hb hdg (lget_has hl hg) (kk L H locs ls hr hl)
set_option maxHeartbeats 1000000 in
theorem r_aload_nN {own : String} {cc : ByteArray} {nL d mc ms : Nat} {yn : String} {ro : Nat → Nat} {J : JT} (g : xCtx own cc nL d mc ms yn ro J) {μ : Hp} {k n pc : Nat} {lv : List (Nat × Value)} {st : List Value} {i : Fin 4} (hdg : decode cc pc = .ok (.aload_n i, 1)) (hg : lget lv (i : Nat) = some .null) (kk : J μ k n (pc + 1) lv (.null :: st)) : J μ k n pc lv st := by
  obtain ⟨p, l, e, R, s, m, args, below, meth, c, D, cA, A0, Q, rfl, ⟨hx, hb, hml, hown, hts⟩, hK, hA, ⟨hRO, hNw⟩, hroom, hyn⟩ := g
  exact fun L H locs ls hr hl => lv_aload_nN hx hb hdg rfl (lget_has hl hg) (kk L H locs ls hr hl)
set_option maxHeartbeats 1000000 in
theorem r_istore_n {own : String} {cc : ByteArray} {nL d mc ms : Nat} {yn : String} {ro : Nat → Nat} {J : JT} (g : xCtx own cc nL d mc ms yn ro J) {μ : Hp} {k n pc : Nat} {lv : List (Nat × Value)} {st : List Value} {i : Fin 4} {x : Int32} (lv' : List (Nat × Value)) (hdg : decode cc pc = .ok (.istore_n i, 1)) (hn : (i : Nat) < nL) (hlv : lset1 lv (i : Nat) (.int x) = lv') (kk : J μ k n (pc + 1) lv' st) : J μ k n pc lv (.int x :: st) := by
  obtain ⟨p, l, e, R, s, m, args, below, meth, c, D, cA, A0, Q, rfl, ⟨hx, hb, hml, hown, hts⟩, hK, hA, ⟨hRO, hNw⟩, hroom, hyn⟩ := g
  exact fun L H locs ls hr hl => lv_istore_n hx hb hdg rfl hl hn hlv (fun ls1 hl1 => kk L H locs ls1 hr hl1)
set_option maxHeartbeats 1000000 in
theorem r_istore {own : String} {cc : ByteArray} {nL d mc ms : Nat} {yn : String} {ro : Nat → Nat} {J : JT} (g : xCtx own cc nL d mc ms yn ro J) {μ : Hp} {k n pc : Nat} {lv : List (Nat × Value)} {st : List Value} {i : Nat} {x : Int32} (lv' : List (Nat × Value)) (hdg : decode cc pc = .ok (.istore i, 2)) (hn : i < nL) (hlv : lset1 lv i (.int x) = lv') (kk : J μ k n (pc + 2) lv' st) : J μ k n pc lv (.int x :: st) := by
  obtain ⟨p, l, e, R, s, m, args, below, meth, c, D, cA, A0, Q, rfl, ⟨hx, hb, hml, hown, hts⟩, hK, hA, ⟨hRO, hNw⟩, hroom, hyn⟩ := g
  exact fun L H locs ls hr hl => lv_istore hx hb hdg hl hn hlv (fun ls1 hl1 => kk L H locs ls1 hr hl1)
set_option maxHeartbeats 1000000 in
theorem r_lstore_n {own : String} {cc : ByteArray} {nL d mc ms : Nat} {yn : String} {ro : Nat → Nat} {J : JT} (g : xCtx own cc nL d mc ms yn ro J) {μ : Hp} {k n pc : Nat} {lv : List (Nat × Value)} {st : List Value} {i : Fin 4} {x : Int64} (lv' : List (Nat × Value)) (hdg : decode cc pc = .ok (.lstore_n i, 1)) (hn : (i : Nat) + 1 < nL) (hlv : lset2 lv (i : Nat) (.long x) = lv') (kk : J μ k n (pc + 1) lv' st) : J μ k n pc lv (.long x :: st) := by
  obtain ⟨p, l, e, R, s, m, args, below, meth, c, D, cA, A0, Q, rfl, ⟨hx, hb, hml, hown, hts⟩, hK, hA, ⟨hRO, hNw⟩, hroom, hyn⟩ := g
  exact fun L H locs ls hr hl => lv_lstore_n hx hb hdg rfl hl hn hlv (fun ls1 hl1 => kk L H locs ls1 hr hl1)
set_option maxHeartbeats 1000000 in
theorem r_lstore {own : String} {cc : ByteArray} {nL d mc ms : Nat} {yn : String} {ro : Nat → Nat} {J : JT} (g : xCtx own cc nL d mc ms yn ro J) {μ : Hp} {k n pc : Nat} {lv : List (Nat × Value)} {st : List Value} {i : Nat} {x : Int64} (lv' : List (Nat × Value)) (hdg : decode cc pc = .ok (.lstore i, 2)) (hn : i + 1 < nL) (hlv : lset2 lv i (.long x) = lv') (kk : J μ k n (pc + 2) lv' st) : J μ k n pc lv (.long x :: st) := by
  obtain ⟨p, l, e, R, s, m, args, below, meth, c, D, cA, A0, Q, rfl, ⟨hx, hb, hml, hown, hts⟩, hK, hA, ⟨hRO, hNw⟩, hroom, hyn⟩ := g
  exact fun L H locs ls hr hl => lv_lstore hx hb hdg hl hn hlv (fun ls1 hl1 => kk L H locs ls1 hr hl1)
set_option maxHeartbeats 1000000 in
theorem r_astore_n {own : String} {cc : ByteArray} {nL d mc ms : Nat} {yn : String} {ro : Nat → Nat} {J : JT} (g : xCtx own cc nL d mc ms yn ro J) {μ : Hp} {k n pc : Nat} {lv : List (Nat × Value)} {st : List Value} {i : Fin 4} {x : Nat} (lv' : List (Nat × Value)) (hdg : decode cc pc = .ok (.astore_n i, 1)) (hn : (i : Nat) < nL) (hlv : lset1 lv (i : Nat) (.ref x) = lv') (kk : J μ k n (pc + 1) lv' st) : J μ k n pc lv (.ref x :: st) := by
  obtain ⟨p, l, e, R, s, m, args, below, meth, c, D, cA, A0, Q, rfl, ⟨hx, hb, hml, hown, hts⟩, hK, hA, ⟨hRO, hNw⟩, hroom, hyn⟩ := g
  exact fun L H locs ls hr hl => lv_astore_n hx hb hdg rfl hl hn hlv (fun ls1 hl1 => kk L H locs ls1 hr hl1)
set_option maxHeartbeats 1000000 in
theorem r_astore {own : String} {cc : ByteArray} {nL d mc ms : Nat} {yn : String} {ro : Nat → Nat} {J : JT} (g : xCtx own cc nL d mc ms yn ro J) {μ : Hp} {k n pc : Nat} {lv : List (Nat × Value)} {st : List Value} {i : Nat} {x : Nat} (lv' : List (Nat × Value)) (hdg : decode cc pc = .ok (.astore i, 2)) (hn : i < nL) (hlv : lset1 lv i (.ref x) = lv') (kk : J μ k n (pc + 2) lv' st) : J μ k n pc lv (.ref x :: st) := by
  obtain ⟨p, l, e, R, s, m, args, below, meth, c, D, cA, A0, Q, rfl, ⟨hx, hb, hml, hown, hts⟩, hK, hA, ⟨hRO, hNw⟩, hroom, hyn⟩ := g
  exact fun L H locs ls hr hl => lv_astore hx hb hdg hl hn hlv (fun ls1 hl1 => kk L H locs ls1 hr hl1)
set_option maxHeartbeats 1000000 in
theorem r_astore_nN {own : String} {cc : ByteArray} {nL d mc ms : Nat} {yn : String} {ro : Nat → Nat} {J : JT} (g : xCtx own cc nL d mc ms yn ro J) {μ : Hp} {k n pc : Nat} {lv : List (Nat × Value)} {st : List Value} {i : Fin 4} (lv' : List (Nat × Value)) (hdg : decode cc pc = .ok (.astore_n i, 1)) (hn : (i : Nat) < nL) (hlv : lset1 lv (i : Nat) .null = lv') (kk : J μ k n (pc + 1) lv' st) : J μ k n pc lv (.null :: st) := by
  obtain ⟨p, l, e, R, s, m, args, below, meth, c, D, cA, A0, Q, rfl, ⟨hx, hb, hml, hown, hts⟩, hK, hA, ⟨hRO, hNw⟩, hroom, hyn⟩ := g
  exact fun L H locs ls hr hl => lv_astore_nN hx hb hdg rfl hl hn hlv (fun ls1 hl1 => kk L H locs ls1 hr hl1)
set_option maxHeartbeats 1000000 in
theorem r_iinc {own : String} {cc : ByteArray} {nL d mc ms : Nat} {yn : String} {ro : Nat → Nat} {J : JT} (g : xCtx own cc nL d mc ms yn ro J) {μ : Hp} {k n pc : Nat} {lv : List (Nat × Value)} {st : List Value} {i : Nat} {z : Int} {x : Int32} (v : Int32) (lv' : List (Nat × Value)) (hdg : decode cc pc = .ok (.iinc i z, 3)) (hg : lget lv i = some (.int x)) (hv : x + Int32.ofInt z = v) (hn : i < nL) (hlv : lset1 lv i (.int v) = lv') (kk : J μ k n (pc + 3) lv' st) : J μ k n pc lv st := by
  obtain ⟨p, l, e, R, s, m, args, below, meth, c, D, cA, A0, Q, rfl, ⟨hx, hb, hml, hown, hts⟩, hK, hA, ⟨hRO, hNw⟩, hroom, hyn⟩ := g
  exact fun L H locs ls hr hl => by
    obtain ⟨j, hj⟩ := List.getElem?_of_mem (lget_mem hg)
    exact lv_iinc hx hb hdg hl hj hv hn hlv (fun ls1 hl1 => kk L H locs ls1 hr hl1)
set_option maxHeartbeats 1000000 in
theorem r_dup {own : String} {cc : ByteArray} {nL d mc ms : Nat} {yn : String} {ro : Nat → Nat} {J : JT} (g : xCtx own cc nL d mc ms yn ro J) {μ : Hp} {k n pc : Nat} {lv : List (Nat × Value)} {st : List Value} {v : Value} (hdg : decode cc pc = .ok (.dup, 1)) (hv : v.category = 1) (kk : J μ k n (pc + 1) lv (v :: v :: st)) : J μ k n pc lv (v :: st) := by
  obtain ⟨p, l, e, R, s, m, args, below, meth, c, D, cA, A0, Q, rfl, ⟨hx, hb, hml, hown, hts⟩, hK, hA, ⟨hRO, hNw⟩, hroom, hyn⟩ := g
  exact fun L H locs ls hr hl => lv_dup hx hb hdg hv (kk L H locs ls hr hl)
set_option maxHeartbeats 1000000 in
theorem r_pop {own : String} {cc : ByteArray} {nL d mc ms : Nat} {yn : String} {ro : Nat → Nat} {J : JT} (g : xCtx own cc nL d mc ms yn ro J) {μ : Hp} {k n pc : Nat} {lv : List (Nat × Value)} {st : List Value} {v : Value} (hdg : decode cc pc = .ok (.pop, 1)) (hv : v.category = 1) (kk : J μ k n (pc + 1) lv st) : J μ k n pc lv (v :: st) := by
  obtain ⟨p, l, e, R, s, m, args, below, meth, c, D, cA, A0, Q, rfl, ⟨hx, hb, hml, hown, hts⟩, hK, hA, ⟨hRO, hNw⟩, hroom, hyn⟩ := g
  exact fun L H locs ls hr hl => lv_pop hx hb hdg hv (kk L H locs ls hr hl)
set_option maxHeartbeats 1000000 in
theorem r_dup2_11 {own : String} {cc : ByteArray} {nL d mc ms : Nat} {yn : String} {ro : Nat → Nat} {J : JT} (g : xCtx own cc nL d mc ms yn ro J) {μ : Hp} {k n pc : Nat} {lv : List (Nat × Value)} {st : List Value} {v w : Value} (hdg : decode cc pc = .ok (.dup2, 1)) (hv : v.category = 1) (hw : w.category = 1) (kk : J μ k n (pc + 1) lv (v :: w :: v :: w :: st)) : J μ k n pc lv (v :: w :: st) := by
  obtain ⟨p, l, e, R, s, m, args, below, meth, c, D, cA, A0, Q, rfl, ⟨hx, hb, hml, hown, hts⟩, hK, hA, ⟨hRO, hNw⟩, hroom, hyn⟩ := g
  exact fun L H locs ls hr hl => lv_dup2_11 hx hb hdg hv hw (kk L H locs ls hr hl)
set_option maxHeartbeats 1000000 in
theorem r_dup_x1 {own : String} {cc : ByteArray} {nL d mc ms : Nat} {yn : String} {ro : Nat → Nat} {J : JT} (g : xCtx own cc nL d mc ms yn ro J) {μ : Hp} {k n pc : Nat} {lv : List (Nat × Value)} {st : List Value} {v w : Value} (hdg : decode cc pc = .ok (.dup_x1, 1)) (hv : v.category = 1) (hw : w.category = 1) (kk : J μ k n (pc + 1) lv (v :: w :: v :: st)) : J μ k n pc lv (v :: w :: st) := by
  obtain ⟨p, l, e, R, s, m, args, below, meth, c, D, cA, A0, Q, rfl, ⟨hx, hb, hml, hown, hts⟩, hK, hA, ⟨hRO, hNw⟩, hroom, hyn⟩ := g
  exact fun L H locs ls hr hl => lv_dup_x1 hx hb hdg hv hw (kk L H locs ls hr hl)
set_option maxHeartbeats 1000000 in
theorem r_goto {own : String} {cc : ByteArray} {nL d mc ms : Nat} {yn : String} {ro : Nat → Nat} {J : JT} (g : xCtx own cc nL d mc ms yn ro J) {μ : Hp} {k n pc : Nat} {lv : List (Nat × Value)} {st : List Value} {off : Int} (tgt : Nat) (hdg : decode cc pc = .ok (.goto off, 3)) (ht : (pc : Int) + off = (tgt : Int)) (kk : J μ k n tgt lv st) : J μ k n pc lv st := by
  obtain ⟨p, l, e, R, s, m, args, below, meth, c, D, cA, A0, Q, rfl, ⟨hx, hb, hml, hown, hts⟩, hK, hA, ⟨hRO, hNw⟩, hroom, hyn⟩ := g
  exact fun L H locs ls hr hl => lv_goto hx hb hdg ht (kk L H locs ls hr hl)
set_option maxHeartbeats 1000000 in
theorem r_if_eq {own : String} {cc : ByteArray} {nL d mc ms : Nat} {yn : String} {ro : Nat → Nat} {J : JT} (g : xCtx own cc nL d mc ms yn ro J) {μ : Hp} {k n pc : Nat} {lv : List (Nat × Value)} {st : List Value} {x : Int32} {off : Int} (tgt : Nat) (hdg : decode cc pc = .ok (.ifCond .eq off, 3)) (ht : (pc : Int) + off = (tgt : Int)) (kt : x = 0 → J μ k n tgt lv st) (kf : ¬ x = 0 → J μ k n (pc + 3) lv st) : J μ k n pc lv (.int x :: st) := by
  obtain ⟨p, l, e, R, s, m, args, below, meth, c, D, cA, A0, Q, rfl, ⟨hx, hb, hml, hown, hts⟩, hK, hA, ⟨hRO, hNw⟩, hroom, hyn⟩ := g
  exact fun L H locs ls hr hl => lv_if_eq hx hb hdg ht (fun h => kt h L H locs ls hr hl) (fun h => kf h L H locs ls hr hl)
set_option maxHeartbeats 1000000 in
theorem r_if_ne {own : String} {cc : ByteArray} {nL d mc ms : Nat} {yn : String} {ro : Nat → Nat} {J : JT} (g : xCtx own cc nL d mc ms yn ro J) {μ : Hp} {k n pc : Nat} {lv : List (Nat × Value)} {st : List Value} {x : Int32} {off : Int} (tgt : Nat) (hdg : decode cc pc = .ok (.ifCond .ne off, 3)) (ht : (pc : Int) + off = (tgt : Int)) (kt : ¬ x = 0 → J μ k n tgt lv st) (kf : x = 0 → J μ k n (pc + 3) lv st) : J μ k n pc lv (.int x :: st) := by
  obtain ⟨p, l, e, R, s, m, args, below, meth, c, D, cA, A0, Q, rfl, ⟨hx, hb, hml, hown, hts⟩, hK, hA, ⟨hRO, hNw⟩, hroom, hyn⟩ := g
  exact fun L H locs ls hr hl => lv_if_ne hx hb hdg ht (fun h => kt h L H locs ls hr hl) (fun h => kf h L H locs ls hr hl)
set_option maxHeartbeats 1000000 in
theorem r_if_lt {own : String} {cc : ByteArray} {nL d mc ms : Nat} {yn : String} {ro : Nat → Nat} {J : JT} (g : xCtx own cc nL d mc ms yn ro J) {μ : Hp} {k n pc : Nat} {lv : List (Nat × Value)} {st : List Value} {x : Int32} {off : Int} (tgt : Nat) (hdg : decode cc pc = .ok (.ifCond .lt off, 3)) (ht : (pc : Int) + off = (tgt : Int)) (kt : x < 0 → J μ k n tgt lv st) (kf : ¬ x < 0 → J μ k n (pc + 3) lv st) : J μ k n pc lv (.int x :: st) := by
  obtain ⟨p, l, e, R, s, m, args, below, meth, c, D, cA, A0, Q, rfl, ⟨hx, hb, hml, hown, hts⟩, hK, hA, ⟨hRO, hNw⟩, hroom, hyn⟩ := g
  exact fun L H locs ls hr hl => lv_if_lt hx hb hdg ht (fun h => kt h L H locs ls hr hl) (fun h => kf h L H locs ls hr hl)
set_option maxHeartbeats 1000000 in
theorem r_if_ge {own : String} {cc : ByteArray} {nL d mc ms : Nat} {yn : String} {ro : Nat → Nat} {J : JT} (g : xCtx own cc nL d mc ms yn ro J) {μ : Hp} {k n pc : Nat} {lv : List (Nat × Value)} {st : List Value} {x : Int32} {off : Int} (tgt : Nat) (hdg : decode cc pc = .ok (.ifCond .ge off, 3)) (ht : (pc : Int) + off = (tgt : Int)) (kt : 0 ≤ x → J μ k n tgt lv st) (kf : ¬ 0 ≤ x → J μ k n (pc + 3) lv st) : J μ k n pc lv (.int x :: st) := by
  obtain ⟨p, l, e, R, s, m, args, below, meth, c, D, cA, A0, Q, rfl, ⟨hx, hb, hml, hown, hts⟩, hK, hA, ⟨hRO, hNw⟩, hroom, hyn⟩ := g
  exact fun L H locs ls hr hl => lv_if_ge hx hb hdg ht (fun h => kt h L H locs ls hr hl) (fun h => kf h L H locs ls hr hl)
set_option maxHeartbeats 1000000 in
theorem r_if_gt {own : String} {cc : ByteArray} {nL d mc ms : Nat} {yn : String} {ro : Nat → Nat} {J : JT} (g : xCtx own cc nL d mc ms yn ro J) {μ : Hp} {k n pc : Nat} {lv : List (Nat × Value)} {st : List Value} {x : Int32} {off : Int} (tgt : Nat) (hdg : decode cc pc = .ok (.ifCond .gt off, 3)) (ht : (pc : Int) + off = (tgt : Int)) (kt : 0 < x → J μ k n tgt lv st) (kf : ¬ 0 < x → J μ k n (pc + 3) lv st) : J μ k n pc lv (.int x :: st) := by
  obtain ⟨p, l, e, R, s, m, args, below, meth, c, D, cA, A0, Q, rfl, ⟨hx, hb, hml, hown, hts⟩, hK, hA, ⟨hRO, hNw⟩, hroom, hyn⟩ := g
  exact fun L H locs ls hr hl => lv_if_gt hx hb hdg ht (fun h => kt h L H locs ls hr hl) (fun h => kf h L H locs ls hr hl)
set_option maxHeartbeats 1000000 in
theorem r_if_le {own : String} {cc : ByteArray} {nL d mc ms : Nat} {yn : String} {ro : Nat → Nat} {J : JT} (g : xCtx own cc nL d mc ms yn ro J) {μ : Hp} {k n pc : Nat} {lv : List (Nat × Value)} {st : List Value} {x : Int32} {off : Int} (tgt : Nat) (hdg : decode cc pc = .ok (.ifCond .le off, 3)) (ht : (pc : Int) + off = (tgt : Int)) (kt : x ≤ 0 → J μ k n tgt lv st) (kf : ¬ x ≤ 0 → J μ k n (pc + 3) lv st) : J μ k n pc lv (.int x :: st) := by
  obtain ⟨p, l, e, R, s, m, args, below, meth, c, D, cA, A0, Q, rfl, ⟨hx, hb, hml, hown, hts⟩, hK, hA, ⟨hRO, hNw⟩, hroom, hyn⟩ := g
  exact fun L H locs ls hr hl => lv_if_le hx hb hdg ht (fun h => kt h L H locs ls hr hl) (fun h => kf h L H locs ls hr hl)
set_option maxHeartbeats 1000000 in
theorem r_icmp_eq {own : String} {cc : ByteArray} {nL d mc ms : Nat} {yn : String} {ro : Nat → Nat} {J : JT} (g : xCtx own cc nL d mc ms yn ro J) {μ : Hp} {k n pc : Nat} {lv : List (Nat × Value)} {st : List Value} {x y : Int32} {off : Int} (tgt : Nat) (hdg : decode cc pc = .ok (.if_icmp .eq off, 3)) (ht : (pc : Int) + off = (tgt : Int)) (kt : x = y → J μ k n tgt lv st) (kf : ¬ x = y → J μ k n (pc + 3) lv st) : J μ k n pc lv (.int y :: .int x :: st) := by
  obtain ⟨p, l, e, R, s, m, args, below, meth, c, D, cA, A0, Q, rfl, ⟨hx, hb, hml, hown, hts⟩, hK, hA, ⟨hRO, hNw⟩, hroom, hyn⟩ := g
  exact fun L H locs ls hr hl => lv_icmp_eq hx hb hdg ht (fun h => kt h L H locs ls hr hl) (fun h => kf h L H locs ls hr hl)
set_option maxHeartbeats 1000000 in
theorem r_icmp_ne {own : String} {cc : ByteArray} {nL d mc ms : Nat} {yn : String} {ro : Nat → Nat} {J : JT} (g : xCtx own cc nL d mc ms yn ro J) {μ : Hp} {k n pc : Nat} {lv : List (Nat × Value)} {st : List Value} {x y : Int32} {off : Int} (tgt : Nat) (hdg : decode cc pc = .ok (.if_icmp .ne off, 3)) (ht : (pc : Int) + off = (tgt : Int)) (kt : ¬ x = y → J μ k n tgt lv st) (kf : x = y → J μ k n (pc + 3) lv st) : J μ k n pc lv (.int y :: .int x :: st) := by
  obtain ⟨p, l, e, R, s, m, args, below, meth, c, D, cA, A0, Q, rfl, ⟨hx, hb, hml, hown, hts⟩, hK, hA, ⟨hRO, hNw⟩, hroom, hyn⟩ := g
  exact fun L H locs ls hr hl => lv_icmp_ne hx hb hdg ht (fun h => kt h L H locs ls hr hl) (fun h => kf h L H locs ls hr hl)
set_option maxHeartbeats 1000000 in
theorem r_icmp_lt {own : String} {cc : ByteArray} {nL d mc ms : Nat} {yn : String} {ro : Nat → Nat} {J : JT} (g : xCtx own cc nL d mc ms yn ro J) {μ : Hp} {k n pc : Nat} {lv : List (Nat × Value)} {st : List Value} {x y : Int32} {off : Int} (tgt : Nat) (hdg : decode cc pc = .ok (.if_icmp .lt off, 3)) (ht : (pc : Int) + off = (tgt : Int)) (kt : x < y → J μ k n tgt lv st) (kf : ¬ x < y → J μ k n (pc + 3) lv st) : J μ k n pc lv (.int y :: .int x :: st) := by
  obtain ⟨p, l, e, R, s, m, args, below, meth, c, D, cA, A0, Q, rfl, ⟨hx, hb, hml, hown, hts⟩, hK, hA, ⟨hRO, hNw⟩, hroom, hyn⟩ := g
  exact fun L H locs ls hr hl => lv_icmp_lt hx hb hdg ht (fun h => kt h L H locs ls hr hl) (fun h => kf h L H locs ls hr hl)
set_option maxHeartbeats 1000000 in
theorem r_icmp_ge {own : String} {cc : ByteArray} {nL d mc ms : Nat} {yn : String} {ro : Nat → Nat} {J : JT} (g : xCtx own cc nL d mc ms yn ro J) {μ : Hp} {k n pc : Nat} {lv : List (Nat × Value)} {st : List Value} {x y : Int32} {off : Int} (tgt : Nat) (hdg : decode cc pc = .ok (.if_icmp .ge off, 3)) (ht : (pc : Int) + off = (tgt : Int)) (kt : y ≤ x → J μ k n tgt lv st) (kf : ¬ y ≤ x → J μ k n (pc + 3) lv st) : J μ k n pc lv (.int y :: .int x :: st) := by
  obtain ⟨p, l, e, R, s, m, args, below, meth, c, D, cA, A0, Q, rfl, ⟨hx, hb, hml, hown, hts⟩, hK, hA, ⟨hRO, hNw⟩, hroom, hyn⟩ := g
  exact fun L H locs ls hr hl => lv_icmp_ge hx hb hdg ht (fun h => kt h L H locs ls hr hl) (fun h => kf h L H locs ls hr hl)
set_option maxHeartbeats 1000000 in
theorem r_icmp_gt {own : String} {cc : ByteArray} {nL d mc ms : Nat} {yn : String} {ro : Nat → Nat} {J : JT} (g : xCtx own cc nL d mc ms yn ro J) {μ : Hp} {k n pc : Nat} {lv : List (Nat × Value)} {st : List Value} {x y : Int32} {off : Int} (tgt : Nat) (hdg : decode cc pc = .ok (.if_icmp .gt off, 3)) (ht : (pc : Int) + off = (tgt : Int)) (kt : y < x → J μ k n tgt lv st) (kf : ¬ y < x → J μ k n (pc + 3) lv st) : J μ k n pc lv (.int y :: .int x :: st) := by
  obtain ⟨p, l, e, R, s, m, args, below, meth, c, D, cA, A0, Q, rfl, ⟨hx, hb, hml, hown, hts⟩, hK, hA, ⟨hRO, hNw⟩, hroom, hyn⟩ := g
  exact fun L H locs ls hr hl => lv_icmp_gt hx hb hdg ht (fun h => kt h L H locs ls hr hl) (fun h => kf h L H locs ls hr hl)
set_option maxHeartbeats 1000000 in
theorem r_icmp_le {own : String} {cc : ByteArray} {nL d mc ms : Nat} {yn : String} {ro : Nat → Nat} {J : JT} (g : xCtx own cc nL d mc ms yn ro J) {μ : Hp} {k n pc : Nat} {lv : List (Nat × Value)} {st : List Value} {x y : Int32} {off : Int} (tgt : Nat) (hdg : decode cc pc = .ok (.if_icmp .le off, 3)) (ht : (pc : Int) + off = (tgt : Int)) (kt : x ≤ y → J μ k n tgt lv st) (kf : ¬ x ≤ y → J μ k n (pc + 3) lv st) : J μ k n pc lv (.int y :: .int x :: st) := by
  obtain ⟨p, l, e, R, s, m, args, below, meth, c, D, cA, A0, Q, rfl, ⟨hx, hb, hml, hown, hts⟩, hK, hA, ⟨hRO, hNw⟩, hroom, hyn⟩ := g
  exact fun L H locs ls hr hl => lv_icmp_le hx hb hdg ht (fun h => kt h L H locs ls hr hl) (fun h => kf h L H locs ls hr hl)
set_option maxHeartbeats 1000000 in
theorem r_ifnull {own : String} {cc : ByteArray} {nL d mc ms : Nat} {yn : String} {ro : Nat → Nat} {J : JT} (g : xCtx own cc nL d mc ms yn ro J) {μ : Hp} {k n pc : Nat} {lv : List (Nat × Value)} {st : List Value} {x : Nat} {off : Int} (hdg : decode cc pc = .ok (.ifnull off, 3)) (kk : J μ k n (pc + 3) lv st) : J μ k n pc lv (.ref x :: st) := by
  obtain ⟨p, l, e, R, s, m, args, below, meth, c, D, cA, A0, Q, rfl, ⟨hx, hb, hml, hown, hts⟩, hK, hA, ⟨hRO, hNw⟩, hroom, hyn⟩ := g
  exact fun L H locs ls hr hl => lv_ifnull hx hb hdg (kk L H locs ls hr hl)
set_option maxHeartbeats 1000000 in
theorem r_ifnullN {own : String} {cc : ByteArray} {nL d mc ms : Nat} {yn : String} {ro : Nat → Nat} {J : JT} (g : xCtx own cc nL d mc ms yn ro J) {μ : Hp} {k n pc : Nat} {lv : List (Nat × Value)} {st : List Value} {off : Int} (tgt : Nat) (hdg : decode cc pc = .ok (.ifnull off, 3)) (ht : (pc : Int) + off = (tgt : Int)) (kk : J μ k n tgt lv st) : J μ k n pc lv (.null :: st) := by
  obtain ⟨p, l, e, R, s, m, args, below, meth, c, D, cA, A0, Q, rfl, ⟨hx, hb, hml, hown, hts⟩, hK, hA, ⟨hRO, hNw⟩, hroom, hyn⟩ := g
  exact fun L H locs ls hr hl => lv_ifnullN hx hb hdg ht (kk L H locs ls hr hl)
set_option maxHeartbeats 1000000 in
theorem r_ifnonnull {own : String} {cc : ByteArray} {nL d mc ms : Nat} {yn : String} {ro : Nat → Nat} {J : JT} (g : xCtx own cc nL d mc ms yn ro J) {μ : Hp} {k n pc : Nat} {lv : List (Nat × Value)} {st : List Value} {x : Nat} {off : Int} (tgt : Nat) (hdg : decode cc pc = .ok (.ifnonnull off, 3)) (ht : (pc : Int) + off = (tgt : Int)) (kk : J μ k n tgt lv st) : J μ k n pc lv (.ref x :: st) := by
  obtain ⟨p, l, e, R, s, m, args, below, meth, c, D, cA, A0, Q, rfl, ⟨hx, hb, hml, hown, hts⟩, hK, hA, ⟨hRO, hNw⟩, hroom, hyn⟩ := g
  exact fun L H locs ls hr hl => lv_ifnonnull hx hb hdg ht (kk L H locs ls hr hl)
set_option maxHeartbeats 1000000 in
theorem r_ifnonnullN {own : String} {cc : ByteArray} {nL d mc ms : Nat} {yn : String} {ro : Nat → Nat} {J : JT} (g : xCtx own cc nL d mc ms yn ro J) {μ : Hp} {k n pc : Nat} {lv : List (Nat × Value)} {st : List Value} {off : Int} (hdg : decode cc pc = .ok (.ifnonnull off, 3)) (kk : J μ k n (pc + 3) lv st) : J μ k n pc lv (.null :: st) := by
  obtain ⟨p, l, e, R, s, m, args, below, meth, c, D, cA, A0, Q, rfl, ⟨hx, hb, hml, hown, hts⟩, hK, hA, ⟨hRO, hNw⟩, hroom, hyn⟩ := g
  exact fun L H locs ls hr hl => lv_ifnonnullN hx hb hdg (kk L H locs ls hr hl)
set_option maxHeartbeats 1000000 in
theorem r_tableIn {own : String} {cc : ByteArray} {nL d mc ms : Nat} {yn : String} {ro : Nat → Nat} {J : JT} (g : xCtx own cc nL d mc ms yn ro J) {μ : Hp} {k n pc : Nat} {lv : List (Nat × Value)} {st : List Value} {dflt lo hi : Int} {offs : Array Int} {len : Nat} {x : Int32} {off : Int} (tgt : Nat) (hdg : decode cc pc = .ok (.tableswitch dflt lo hi offs, len)) (h1 : ¬ x.toInt < lo) (h2 : ¬ hi < x.toInt) (ho : offs[(x.toInt - lo).toNat]? = some off) (ht : (pc : Int) + off = (tgt : Int)) (kk : J μ k n tgt lv st) : J μ k n pc lv (.int x :: st) := by
  obtain ⟨p, l, e, R, s, m, args, below, meth, c, D, cA, A0, Q, rfl, ⟨hx, hb, hml, hown, hts⟩, hK, hA, ⟨hRO, hNw⟩, hroom, hyn⟩ := g
  exact fun L H locs ls hr hl => lv_tableIn hx hb hdg h1 h2 ho ht (kk L H locs ls hr hl)
set_option maxHeartbeats 1000000 in
theorem r_tableOut {own : String} {cc : ByteArray} {nL d mc ms : Nat} {yn : String} {ro : Nat → Nat} {J : JT} (g : xCtx own cc nL d mc ms yn ro J) {μ : Hp} {k n pc : Nat} {lv : List (Nat × Value)} {st : List Value} {dflt lo hi : Int} {offs : Array Int} {len : Nat} {x : Int32} (tgt : Nat) (hdg : decode cc pc = .ok (.tableswitch dflt lo hi offs, len)) (h : x.toInt < lo ∨ hi < x.toInt) (ht : (pc : Int) + dflt = (tgt : Int)) (kk : J μ k n tgt lv st) : J μ k n pc lv (.int x :: st) := by
  obtain ⟨p, l, e, R, s, m, args, below, meth, c, D, cA, A0, Q, rfl, ⟨hx, hb, hml, hown, hts⟩, hK, hA, ⟨hRO, hNw⟩, hroom, hyn⟩ := g
  exact fun L H locs ls hr hl => lv_tableOut hx hb hdg h ht (kk L H locs ls hr hl)
set_option maxHeartbeats 1000000 in
theorem r_nmI {J : JT} {μ : Hp} {k n pc : Nat} {lv : List (Nat × Value)} {st : List Value} {x : Int32} (kk : ∀ v : Int32, v = x → J μ k n pc lv (.int v :: st)) : J μ k n pc lv (.int x :: st) := kk x rfl
theorem r_nmL {J : JT} {μ : Hp} {k n pc : Nat} {lv : List (Nat × Value)} {st : List Value} {x : Int64} (kk : ∀ v : Int64, v = x → J μ k n pc lv (.long v :: st)) : J μ k n pc lv (.long x :: st) := kk x rfl

set_option maxHeartbeats 1000000 in
theorem r_sub {own : String} {cc : ByteArray} {nL d mc ms : Nat} {yn : String} {ro : Nat → Nat} {J : JT} (g : xCtx own cc nL d mc ms yn ro J) {μ : Hp} {k n pc : Nat} {lv : List (Nat × Value)} {st : List Value} {lv' : List (Nat × Value)} (h : lsubs lv lv') (kk : J μ k n pc lv' st) : J μ k n pc lv st := by
  obtain ⟨p, l, e, R, s, m, args, below, meth, c, D, cA, A0, Q, rfl, ⟨hx, hb, hml, hown, hts⟩, hK, hA, ⟨hRO, hNw⟩, hroom, hyn⟩ := g
  exact fun L H locs ls hr hl => kk L H locs ls hr (lsubs_has hl h)
theorem r_widen {own : String} {cc : ByteArray} {nL d mc ms : Nat} {yn : String} {ro : Nat → Nat} {J : JT} (g : xCtx own cc nL d mc ms yn ro J) {μ : Hp} {k n pc : Nat} {lv : List (Nat × Value)} {st : List Value} {k' n' : Nat} (hk : k ≤ k') (hn : n ≤ n') (kk : J μ k' n' pc lv st) : J μ k n pc lv st := by
  obtain ⟨p, l, e, R, s, m, args, below, meth, c, D, cA, A0, Q, rfl, ⟨hx, hb, hml, hown, hts⟩, hK, hA, ⟨hRO, hNw⟩, hroom, hyn⟩ := g
  exact fun L H locs ls hr hl => W.widen hk hn (kk L H locs ls hr hl)
/-! the heap -/
theorem in_of {ws : List Cond} (h : ws.all (fun w => decide (w ∈ lw_tbl) && goodWord w) = true) : ∀ w ∈ ws, w ∈ gtbl := fun w hw => by
  have := List.all_eq_true.mp h w hw
  rw [Bool.and_eq_true] at this
  exact gtbl_in (of_decide_eq_true this.1) this.2
/-- a field's site: in class own, entry idx, it is slot q of the ci-th class, of N slots -/
def xFld (own : String) (idx ci q N : Nat) (fty : FieldType) (fin : Bool) : Prop := ∃ (C : String) (T : u_T) (ty : Nat → FieldType), vwCl[ci]? = some (C, T, N) ∧ (∀ w ∈ u_ws C T N, w ∈ gtbl) ∧ (∀ k, k < N → parseFieldDescriptor (T k).2.2.1 = some (ty k)) ∧ (∀ a, a < N → ∀ b, b < N → a ≠ b → (T a).2.1 ≠ (T b).2.1) ∧ q < N ∧ Cond.fieldLink own idx (T q).1 (T q).2.1 (T q).2.2.1 ∈ gtbl ∧ ty q = fty ∧ (T q).2.2.2 = fin
/-- in a constructor: the field is the class's own -/
def xFin (own : String) (ci q : Nat) : Prop := ∀ (C : String) (T : u_T) (N : Nat), vwCl[ci]? = some (C, T, N) → (T q).1 = own
theorem objRs {cA : Nat → ClassId} {μ : Hp} {a c k n x : Nat} (h : hS μ a = some (c + 4, n)) (hk : k < n) (hf : fk c k = 2) : cellOf cA (wR μ a k (some x)) a = .inr (c, ((List.range n).map (fval μ a c)).set k (.ref x)) := objR h hk hf
theorem xset {A0 : Nat → Prop} {cA : Nat → ClassId} {μ μ' : Hp} {L : List Nat} {a j : Nat} {e : va_E} (hD : va_D A0 (xws cA μ L)) (hm : a ∈ L) (hj : (xws cA μ L)[j]? = some (a, cellOf cA μ a)) (hμ : ∀ b, va_up (cellOf cA μ) a e b = cellOf cA μ' b) : (xws cA μ L).set j (a, e) = xws cA μ' L := by
  have h := va_pl_set (X := []) (e := e) hD hm hj
  rw [List.nil_append, List.nil_append] at h
  rw [h]
  exact va_pl_congr hμ
theorem xget {cA : Nat → ClassId} {μ : Hp} {L : List Nat} {a : Nat} (hm : a ∈ L) : ∃ j : Nat, (xws cA μ L)[j]? = some (a, cellOf cA μ a) := va_pl_get (X := []) hm

set_option maxHeartbeats 1000000 in
theorem r_getI {own : String} {cc : ByteArray} {nL d mc ms : Nat} {yn : String} {ro : Nat → Nat} {J : JT} (g : xCtx own cc nL d mc ms yn ro J) {μ : Hp} {k n pc : Nat} {lv : List (Nat × Value)} {st : List Value} {idx ci q N a : Nat} {fty : FieldType} {fin : Bool} (hf : xFld own idx ci q N fty fin) (hq : fk ci q = 0) (hs : hS μ a = some (ci + 4, N)) (hdg : decode cc pc = .ok (.getfield idx, 3)) (kk : J μ k n (pc + 3) lv (.int (hI μ a q) :: st)) : J μ k n pc lv (.ref a :: st) := by
  obtain ⟨p, l, e, R, s, m, args, below, meth, c, D, cA, A0, Q, rfl, ⟨hx, hb, hml, hown, hts⟩, hK, hA, ⟨hRO, hNw⟩, hroom, hyn⟩ := g
  intro L H locs ls ⟨hP, hD, hL1, hS1⟩ hl
  obtain ⟨C, T, ty, hc, hin, hty, hnm, hqN, hlk, -, -⟩ := hf
  obtain ⟨j, hj⟩ := xget (cA := cA) (hL1 a _ hs)
  rw [cell_obj hs] at hj
  exact va_get hx hb hts hin hown hK hP j hj hc q hqN (hts _ hlk) (fun _ h => h) ((fval_get hqN).trans (by rw [fval_int hq])) hdg (kk L H locs ls ⟨hP, hD, hL1, hS1⟩ hl)
set_option maxHeartbeats 1000000 in
theorem r_getL {own : String} {cc : ByteArray} {nL d mc ms : Nat} {yn : String} {ro : Nat → Nat} {J : JT} (g : xCtx own cc nL d mc ms yn ro J) {μ : Hp} {k n pc : Nat} {lv : List (Nat × Value)} {st : List Value} {idx ci q N a : Nat} {fty : FieldType} {fin : Bool} (hf : xFld own idx ci q N fty fin) (hq : fk ci q = 1) (hs : hS μ a = some (ci + 4, N)) (hdg : decode cc pc = .ok (.getfield idx, 3)) (kk : J μ k n (pc + 3) lv (.long (hL μ a q) :: st)) : J μ k n pc lv (.ref a :: st) := by
  obtain ⟨p, l, e, R, s, m, args, below, meth, c, D, cA, A0, Q, rfl, ⟨hx, hb, hml, hown, hts⟩, hK, hA, ⟨hRO, hNw⟩, hroom, hyn⟩ := g
  intro L H locs ls ⟨hP, hD, hL1, hS1⟩ hl
  obtain ⟨C, T, ty, hc, hin, hty, hnm, hqN, hlk, -, -⟩ := hf
  obtain ⟨j, hj⟩ := xget (cA := cA) (hL1 a _ hs)
  rw [cell_obj hs] at hj
  exact va_get hx hb hts hin hown hK hP j hj hc q hqN (hts _ hlk) (fun _ h => h) ((fval_get hqN).trans (by rw [fval_long hq])) hdg (kk L H locs ls ⟨hP, hD, hL1, hS1⟩ hl)
set_option maxHeartbeats 1000000 in
theorem r_getR {own : String} {cc : ByteArray} {nL d mc ms : Nat} {yn : String} {ro : Nat → Nat} {J : JT} (g : xCtx own cc nL d mc ms yn ro J) {μ : Hp} {k n pc : Nat} {lv : List (Nat × Value)} {st : List Value} {idx ci q N a b : Nat} {fty : FieldType} {fin : Bool} (hf : xFld own idx ci q N fty fin) (hq : fk ci q = 2) (hs : hS μ a = some (ci + 4, N)) (hr : hR μ a q = some b) (hdg : decode cc pc = .ok (.getfield idx, 3)) (kk : J μ k n (pc + 3) lv (.ref b :: st)) : J μ k n pc lv (.ref a :: st) := by
  obtain ⟨p, l, e, R, s, m, args, below, meth, c, D, cA, A0, Q, rfl, ⟨hx, hb, hml, hown, hts⟩, hK, hA, ⟨hRO, hNw⟩, hroom, hyn⟩ := g
  intro L H locs ls ⟨hP, hD, hL1, hS1⟩ hl
  obtain ⟨C, T, ty, hc, hin, hty, hnm, hqN, hlk, -, -⟩ := hf
  obtain ⟨j, hj⟩ := xget (cA := cA) (hL1 a _ hs)
  rw [cell_obj hs] at hj
  exact va_get hx hb hts hin hown hK hP j hj hc q hqN (hts _ hlk) (fun _ h => h) ((fval_get hqN).trans (by rw [fval_ref hq, hr]; rfl)) hdg (kk L H locs ls ⟨hP, hD, hL1, hS1⟩ hl)
set_option maxHeartbeats 1000000 in
theorem r_putI {own : String} {cc : ByteArray} {nL d mc ms : Nat} {yn : String} {ro : Nat → Nat} {J : JT} (g : xCtx own cc nL d mc ms yn ro J) {μ : Hp} {k n pc : Nat} {lv : List (Nat × Value)} {st : List Value} {idx ci q N a : Nat} {fty : FieldType} {x : Int32} (hf : xFld own idx ci q N fty false) (hq : fk ci q = 0) (hs : hS μ a = some (ci + 4, N)) (hn : narrow fty (.int x) = .int x) (hfit : fits fty (.int x) = true) (hdg : decode cc pc = .ok (.putfield idx, 3)) (kk : J (wI μ a q x) k n (pc + 3) lv st) : J μ k n pc lv (.int x :: .ref a :: st) := by
  obtain ⟨p, l, e, R, s, m, args, below, meth, c, D, cA, A0, Q, rfl, ⟨hx, hb, hml, hown, hts⟩, hK, hA, ⟨hRO, hNw⟩, hroom, hyn⟩ := g
  intro L H locs ls ⟨hP, hD, hL1, hS1⟩ hl
  obtain ⟨C, T, ty, hc, hin, hty, hnm, hqN, hlk, hfty, hfin⟩ := hf
  obtain ⟨j, hj⟩ := xget (cA := cA) (hL1 a _ hs)
  have hj0 := hj
  rw [cell_obj hs] at hj
  refine va_put hx hb hts hin ty hty hnm hown hK hP hD hS1 j hj hc q hqN (hts _ hlk) (fun _ h => h) hfin (ty := fty) (by rw [hty q hqN, hfty]) hn hfit (by simpa using hqN) hdg (fun H1 locs1 hP1 hD1 hS2 => ?_)
  rw [xset hD (hL1 a _ hs) hj0 (cell_up wI_ne (objI hs hqN hq))] at hP1 hD1
  exact kk L H1 locs1 ls ⟨hP1, hD1, hL1, hS2⟩ hl
set_option maxHeartbeats 1000000 in
theorem r_putIF {own : String} {cc : ByteArray} {nL d mc ms : Nat} {yn : String} {ro : Nat → Nat} {J : JT} (g : xCtx own cc nL d mc ms yn ro J) {μ : Hp} {k n pc : Nat} {lv : List (Nat × Value)} {st : List Value} {idx ci q N a : Nat} {fty : FieldType} {x : Int32} (hf : xFld own idx ci q N fty true) (hq : fk ci q = 0) (hs : hS μ a = some (ci + 4, N)) (hn : narrow fty (.int x) = .int x) (hfit : fits fty (.int x) = true) (hin9 : yn = "<init>") (hown9 : xFin own ci q) (hdg : decode cc pc = .ok (.putfield idx, 3)) (kk : J (wI μ a q x) k n (pc + 3) lv st) : J μ k n pc lv (.int x :: .ref a :: st) := by
  obtain ⟨p, l, e, R, s, m, args, below, meth, c, D, cA, A0, Q, rfl, ⟨hx, hb, hml, hown, hts⟩, hK, hA, ⟨hRO, hNw⟩, hroom, hyn⟩ := g
  intro L H locs ls ⟨hP, hD, hL1, hS1⟩ hl
  obtain ⟨C, T, ty, hc, hin, hty, hnm, hqN, hlk, hfty, hfin⟩ := hf
  obtain ⟨j, hj⟩ := xget (cA := cA) (hL1 a _ hs)
  have hj0 := hj
  rw [cell_obj hs] at hj
  refine va_putF hx hb hts hin ty hty hnm hown hK hP hD hS1 j hj hc q hqN (hts _ hlk) (fun _ h => h) hfin (hyn.trans hin9) (hown9 _ _ _ hc) (ty := fty) (by rw [hty q hqN, hfty]) hn hfit (by simpa using hqN) hdg (fun H1 locs1 hP1 hD1 hS2 => ?_)
  rw [xset hD (hL1 a _ hs) hj0 (cell_up wI_ne (objI hs hqN hq))] at hP1 hD1
  exact kk L H1 locs1 ls ⟨hP1, hD1, hL1, hS2⟩ hl
set_option maxHeartbeats 1000000 in
theorem r_putL {own : String} {cc : ByteArray} {nL d mc ms : Nat} {yn : String} {ro : Nat → Nat} {J : JT} (g : xCtx own cc nL d mc ms yn ro J) {μ : Hp} {k n pc : Nat} {lv : List (Nat × Value)} {st : List Value} {idx ci q N a : Nat} {fty : FieldType} {x : Int64} (hf : xFld own idx ci q N fty false) (hq : fk ci q = 1) (hs : hS μ a = some (ci + 4, N)) (hn : narrow fty (.long x) = .long x) (hfit : fits fty (.long x) = true) (hdg : decode cc pc = .ok (.putfield idx, 3)) (kk : J (wL μ a q x) k n (pc + 3) lv st) : J μ k n pc lv (.long x :: .ref a :: st) := by
  obtain ⟨p, l, e, R, s, m, args, below, meth, c, D, cA, A0, Q, rfl, ⟨hx, hb, hml, hown, hts⟩, hK, hA, ⟨hRO, hNw⟩, hroom, hyn⟩ := g
  intro L H locs ls ⟨hP, hD, hL1, hS1⟩ hl
  obtain ⟨C, T, ty, hc, hin, hty, hnm, hqN, hlk, hfty, hfin⟩ := hf
  obtain ⟨j, hj⟩ := xget (cA := cA) (hL1 a _ hs)
  have hj0 := hj
  rw [cell_obj hs] at hj
  refine va_put hx hb hts hin ty hty hnm hown hK hP hD hS1 j hj hc q hqN (hts _ hlk) (fun _ h => h) hfin (ty := fty) (by rw [hty q hqN, hfty]) hn hfit (by simpa using hqN) hdg (fun H1 locs1 hP1 hD1 hS2 => ?_)
  rw [xset hD (hL1 a _ hs) hj0 (cell_up wL_ne (objL hs hqN hq))] at hP1 hD1
  exact kk L H1 locs1 ls ⟨hP1, hD1, hL1, hS2⟩ hl
set_option maxHeartbeats 1000000 in
theorem r_putLF {own : String} {cc : ByteArray} {nL d mc ms : Nat} {yn : String} {ro : Nat → Nat} {J : JT} (g : xCtx own cc nL d mc ms yn ro J) {μ : Hp} {k n pc : Nat} {lv : List (Nat × Value)} {st : List Value} {idx ci q N a : Nat} {fty : FieldType} {x : Int64} (hf : xFld own idx ci q N fty true) (hq : fk ci q = 1) (hs : hS μ a = some (ci + 4, N)) (hn : narrow fty (.long x) = .long x) (hfit : fits fty (.long x) = true) (hin9 : yn = "<init>") (hown9 : xFin own ci q) (hdg : decode cc pc = .ok (.putfield idx, 3)) (kk : J (wL μ a q x) k n (pc + 3) lv st) : J μ k n pc lv (.long x :: .ref a :: st) := by
  obtain ⟨p, l, e, R, s, m, args, below, meth, c, D, cA, A0, Q, rfl, ⟨hx, hb, hml, hown, hts⟩, hK, hA, ⟨hRO, hNw⟩, hroom, hyn⟩ := g
  intro L H locs ls ⟨hP, hD, hL1, hS1⟩ hl
  obtain ⟨C, T, ty, hc, hin, hty, hnm, hqN, hlk, hfty, hfin⟩ := hf
  obtain ⟨j, hj⟩ := xget (cA := cA) (hL1 a _ hs)
  have hj0 := hj
  rw [cell_obj hs] at hj
  refine va_putF hx hb hts hin ty hty hnm hown hK hP hD hS1 j hj hc q hqN (hts _ hlk) (fun _ h => h) hfin (hyn.trans hin9) (hown9 _ _ _ hc) (ty := fty) (by rw [hty q hqN, hfty]) hn hfit (by simpa using hqN) hdg (fun H1 locs1 hP1 hD1 hS2 => ?_)
  rw [xset hD (hL1 a _ hs) hj0 (cell_up wL_ne (objL hs hqN hq))] at hP1 hD1
  exact kk L H1 locs1 ls ⟨hP1, hD1, hL1, hS2⟩ hl
set_option maxHeartbeats 1000000 in
theorem r_putR {own : String} {cc : ByteArray} {nL d mc ms : Nat} {yn : String} {ro : Nat → Nat} {J : JT} (g : xCtx own cc nL d mc ms yn ro J) {μ : Hp} {k n pc : Nat} {lv : List (Nat × Value)} {st : List Value} {idx ci q N a : Nat} {fty : FieldType} {x : Nat} (hf : xFld own idx ci q N fty false) (hq : fk ci q = 2) (hs : hS μ a = some (ci + 4, N)) (hn : narrow fty (.ref x) = .ref x) (hfit : fits fty (.ref x) = true) (hdg : decode cc pc = .ok (.putfield idx, 3)) (kk : J (wR μ a q (some x)) k n (pc + 3) lv st) : J μ k n pc lv (.ref x :: .ref a :: st) := by
  obtain ⟨p, l, e, R, s, m, args, below, meth, c, D, cA, A0, Q, rfl, ⟨hx, hb, hml, hown, hts⟩, hK, hA, ⟨hRO, hNw⟩, hroom, hyn⟩ := g
  intro L H locs ls ⟨hP, hD, hL1, hS1⟩ hl
  obtain ⟨C, T, ty, hc, hin, hty, hnm, hqN, hlk, hfty, hfin⟩ := hf
  obtain ⟨j, hj⟩ := xget (cA := cA) (hL1 a _ hs)
  have hj0 := hj
  rw [cell_obj hs] at hj
  refine va_put hx hb hts hin ty hty hnm hown hK hP hD hS1 j hj hc q hqN (hts _ hlk) (fun _ h => h) hfin (ty := fty) (by rw [hty q hqN, hfty]) hn hfit (by simpa using hqN) hdg (fun H1 locs1 hP1 hD1 hS2 => ?_)
  rw [xset hD (hL1 a _ hs) hj0 (cell_up wR_ne (objRs hs hqN hq))] at hP1 hD1
  exact kk L H1 locs1 ls ⟨hP1, hD1, hL1, hS2⟩ hl
set_option maxHeartbeats 1000000 in
theorem r_putRF {own : String} {cc : ByteArray} {nL d mc ms : Nat} {yn : String} {ro : Nat → Nat} {J : JT} (g : xCtx own cc nL d mc ms yn ro J) {μ : Hp} {k n pc : Nat} {lv : List (Nat × Value)} {st : List Value} {idx ci q N a : Nat} {fty : FieldType} {x : Nat} (hf : xFld own idx ci q N fty true) (hq : fk ci q = 2) (hs : hS μ a = some (ci + 4, N)) (hn : narrow fty (.ref x) = .ref x) (hfit : fits fty (.ref x) = true) (hin9 : yn = "<init>") (hown9 : xFin own ci q) (hdg : decode cc pc = .ok (.putfield idx, 3)) (kk : J (wR μ a q (some x)) k n (pc + 3) lv st) : J μ k n pc lv (.ref x :: .ref a :: st) := by
  obtain ⟨p, l, e, R, s, m, args, below, meth, c, D, cA, A0, Q, rfl, ⟨hx, hb, hml, hown, hts⟩, hK, hA, ⟨hRO, hNw⟩, hroom, hyn⟩ := g
  intro L H locs ls ⟨hP, hD, hL1, hS1⟩ hl
  obtain ⟨C, T, ty, hc, hin, hty, hnm, hqN, hlk, hfty, hfin⟩ := hf
  obtain ⟨j, hj⟩ := xget (cA := cA) (hL1 a _ hs)
  have hj0 := hj
  rw [cell_obj hs] at hj
  refine va_putF hx hb hts hin ty hty hnm hown hK hP hD hS1 j hj hc q hqN (hts _ hlk) (fun _ h => h) hfin (hyn.trans hin9) (hown9 _ _ _ hc) (ty := fty) (by rw [hty q hqN, hfty]) hn hfit (by simpa using hqN) hdg (fun H1 locs1 hP1 hD1 hS2 => ?_)
  rw [xset hD (hL1 a _ hs) hj0 (cell_up wR_ne (objRs hs hqN hq))] at hP1 hD1
  exact kk L H1 locs1 ls ⟨hP1, hD1, hL1, hS2⟩ hl
set_option maxHeartbeats 1000000 in
theorem r_iaload {own : String} {cc : ByteArray} {nL d mc ms : Nat} {yn : String} {ro : Nat → Nat} {J : JT} (g : xCtx own cc nL d mc ms yn ro J) {μ : Hp} {k n pc : Nat} {lv : List (Nat × Value)} {st : List Value} {a N : Nat} {i : Int32} (hs : hS μ a = some (0, N)) (hi : vp_in i N) (hdg : decode cc pc = .ok (.iaload, 1)) (kk : J μ k n (pc + 1) lv (.int (hI μ a i.toNatClampNeg) :: st)) : J μ k n pc lv (.int i :: .ref a :: st) := by
  obtain ⟨p, l, e, R, s, m, args, below, meth, c, D, cA, A0, Q, rfl, ⟨hx, hb, hml, hown, hts⟩, hK, hA, ⟨hRO, hNw⟩, hroom, hyn⟩ := g
  intro L H locs ls ⟨hP, hD, hL1, hS1⟩ hl
  obtain ⟨j, hj⟩ := xget (cA := cA) (hL1 a _ hs)
  rw [cell_int hs] at hj
  exact va_iald hx hb hK hP j 0 hj rfl hi hdg (kk L H locs ls ⟨hP, hD, hL1, hS1⟩ hl)
set_option maxHeartbeats 1000000 in
theorem r_baload {own : String} {cc : ByteArray} {nL d mc ms : Nat} {yn : String} {ro : Nat → Nat} {J : JT} (g : xCtx own cc nL d mc ms yn ro J) {μ : Hp} {k n pc : Nat} {lv : List (Nat × Value)} {st : List Value} {a N : Nat} {i : Int32} (hs : hS μ a = some (1, N)) (hi : vp_in i N) (hdg : decode cc pc = .ok (.baload, 1)) (kk : J μ k n (pc + 1) lv (.int (hI μ a i.toNatClampNeg) :: st)) : J μ k n pc lv (.int i :: .ref a :: st) := by
  obtain ⟨p, l, e, R, s, m, args, below, meth, c, D, cA, A0, Q, rfl, ⟨hx, hb, hml, hown, hts⟩, hK, hA, ⟨hRO, hNw⟩, hroom, hyn⟩ := g
  intro L H locs ls ⟨hP, hD, hL1, hS1⟩ hl
  obtain ⟨j, hj⟩ := xget (cA := cA) (hL1 a _ hs)
  rw [cell_byte hs] at hj
  exact va_bald hx hb hK hP j 1 hj rfl hi hdg (kk L H locs ls ⟨hP, hD, hL1, hS1⟩ hl)
set_option maxHeartbeats 1000000 in
theorem r_laload {own : String} {cc : ByteArray} {nL d mc ms : Nat} {yn : String} {ro : Nat → Nat} {J : JT} (g : xCtx own cc nL d mc ms yn ro J) {μ : Hp} {k n pc : Nat} {lv : List (Nat × Value)} {st : List Value} {a N : Nat} {i : Int32} (hs : hS μ a = some (2, N)) (hi : vp_in i N) (hdg : decode cc pc = .ok (.laload, 1)) (kk : J μ k n (pc + 1) lv (.long (hL μ a i.toNatClampNeg) :: st)) : J μ k n pc lv (.int i :: .ref a :: st) := by
  obtain ⟨p, l, e, R, s, m, args, below, meth, c, D, cA, A0, Q, rfl, ⟨hx, hb, hml, hown, hts⟩, hK, hA, ⟨hRO, hNw⟩, hroom, hyn⟩ := g
  intro L H locs ls ⟨hP, hD, hL1, hS1⟩ hl
  obtain ⟨j, hj⟩ := xget (cA := cA) (hL1 a _ hs)
  rw [cell_long hs] at hj
  exact va_lald hx hb hK hP j 2 hj rfl hi hdg (kk L H locs ls ⟨hP, hD, hL1, hS1⟩ hl)
set_option maxHeartbeats 1000000 in
theorem r_aaload {own : String} {cc : ByteArray} {nL d mc ms : Nat} {yn : String} {ro : Nat → Nat} {J : JT} (g : xCtx own cc nL d mc ms yn ro J) {μ : Hp} {k n pc : Nat} {lv : List (Nat × Value)} {st : List Value} {a N b : Nat} {i : Int32} (hs : hS μ a = some (3, N)) (hi : vp_in i N) (hr : hR μ a i.toNatClampNeg = some b) (hdg : decode cc pc = .ok (.aaload, 1)) (kk : J μ k n (pc + 1) lv (.ref b :: st)) : J μ k n pc lv (.int i :: .ref a :: st) := by
  obtain ⟨p, l, e, R, s, m, args, below, meth, c, D, cA, A0, Q, rfl, ⟨hx, hb, hml, hown, hts⟩, hK, hA, ⟨hRO, hNw⟩, hroom, hyn⟩ := g
  intro L H locs ls ⟨hP, hD, hL1, hS1⟩ hl
  obtain ⟨j, hj⟩ := xget (cA := cA) (hL1 a _ hs)
  rw [cell_scr hs] at hj
  have kk1 := kk L H locs ls ⟨hP, hD, hL1, hS1⟩ hl
  exact va_aldq hx hb hK hP j 3 hj rfl hi hdg (by rw [hr]; exact kk1)
set_option maxHeartbeats 1000000 in
theorem r_iastore {own : String} {cc : ByteArray} {nL d mc ms : Nat} {yn : String} {ro : Nat → Nat} {J : JT} (g : xCtx own cc nL d mc ms yn ro J) {μ : Hp} {k n pc : Nat} {lv : List (Nat × Value)} {st : List Value} {a N : Nat} {i : Int32} {x : Int32} (hs : hS μ a = some (0, N)) (hi : vp_in i N) (hdg : decode cc pc = .ok (.iastore, 1)) (kk : J (wI μ a i.toNatClampNeg x) k n (pc + 1) lv st) : J μ k n pc lv (.int x :: .int i :: .ref a :: st) := by
  obtain ⟨p, l, e, R, s, m, args, below, meth, c, D, cA, A0, Q, rfl, ⟨hx, hb, hml, hown, hts⟩, hK, hA, ⟨hRO, hNw⟩, hroom, hyn⟩ := g
  intro L H locs ls ⟨hP, hD, hL1, hS1⟩ hl
  obtain ⟨j, hj⟩ := xget (cA := cA) (hL1 a _ hs)
  have hj0 := hj
  rw [cell_int hs] at hj
  refine va_iast hx hb hK hP hD hS1 j 0 hj rfl hi hdg (fun H1 locs1 hP1 hD1 hS2 => ?_)
  rw [xset hD (hL1 a _ hs) hj0 (cell_up wI_ne (by rw [cell_int (show hS (wI μ a i.toNatClampNeg x) a = _ from hs), hI_wI_s]))] at hP1 hD1
  exact kk L H1 locs1 ls ⟨hP1, hD1, hL1, hS2⟩ hl
set_option maxHeartbeats 1000000 in
theorem r_bastore {own : String} {cc : ByteArray} {nL d mc ms : Nat} {yn : String} {ro : Nat → Nat} {J : JT} (g : xCtx own cc nL d mc ms yn ro J) {μ : Hp} {k n pc : Nat} {lv : List (Nat × Value)} {st : List Value} {a N : Nat} {i : Int32} {x : Int32} (hs : hS μ a = some (1, N)) (hi : vp_in i N) (hdg : decode cc pc = .ok (.bastore, 1)) (kk : J (wI μ a i.toNatClampNeg (vp_nar .byte x)) k n (pc + 1) lv st) : J μ k n pc lv (.int x :: .int i :: .ref a :: st) := by
  obtain ⟨p, l, e, R, s, m, args, below, meth, c, D, cA, A0, Q, rfl, ⟨hx, hb, hml, hown, hts⟩, hK, hA, ⟨hRO, hNw⟩, hroom, hyn⟩ := g
  intro L H locs ls ⟨hP, hD, hL1, hS1⟩ hl
  obtain ⟨j, hj⟩ := xget (cA := cA) (hL1 a _ hs)
  have hj0 := hj
  rw [cell_byte hs] at hj
  refine va_bast hx hb hK hP hD hS1 j 1 hj rfl hi hdg (fun H1 locs1 hP1 hD1 hS2 => ?_)
  rw [xset hD (hL1 a _ hs) hj0 (cell_up wI_ne (by rw [cell_byte (show hS (wI μ a i.toNatClampNeg (vp_nar .byte x)) a = _ from hs), hI_wI_s]))] at hP1 hD1
  exact kk L H1 locs1 ls ⟨hP1, hD1, hL1, hS2⟩ hl
set_option maxHeartbeats 1000000 in
theorem r_lastore {own : String} {cc : ByteArray} {nL d mc ms : Nat} {yn : String} {ro : Nat → Nat} {J : JT} (g : xCtx own cc nL d mc ms yn ro J) {μ : Hp} {k n pc : Nat} {lv : List (Nat × Value)} {st : List Value} {a N : Nat} {i : Int32} {x : Int64} (hs : hS μ a = some (2, N)) (hi : vp_in i N) (hdg : decode cc pc = .ok (.lastore, 1)) (kk : J (wL μ a i.toNatClampNeg x) k n (pc + 1) lv st) : J μ k n pc lv (.long x :: .int i :: .ref a :: st) := by
  obtain ⟨p, l, e, R, s, m, args, below, meth, c, D, cA, A0, Q, rfl, ⟨hx, hb, hml, hown, hts⟩, hK, hA, ⟨hRO, hNw⟩, hroom, hyn⟩ := g
  intro L H locs ls ⟨hP, hD, hL1, hS1⟩ hl
  obtain ⟨j, hj⟩ := xget (cA := cA) (hL1 a _ hs)
  have hj0 := hj
  rw [cell_long hs] at hj
  refine va_last hx hb hK hP hD hS1 j 2 hj rfl hi hdg (fun H1 locs1 hP1 hD1 hS2 => ?_)
  rw [xset hD (hL1 a _ hs) hj0 (cell_up wL_ne (by rw [cell_long (show hS (wL μ a i.toNatClampNeg x) a = _ from hs), hL_wL_s]))] at hP1 hD1
  exact kk L H1 locs1 ls ⟨hP1, hD1, hL1, hS2⟩ hl
set_option maxHeartbeats 1000000 in
theorem m_minS : Cond.static Lib.Math.min.name ∈ gtbl := gtbl_at 541 (by decide +kernel) rfl
set_option maxHeartbeats 1000000 in
theorem m_maxS : Cond.static Lib.Math.max.name ∈ gtbl := gtbl_at 787 (by decide +kernel) rfl
set_option maxHeartbeats 1000000 in
theorem m_ini : Cond.initialized "java/lang/Math" ∈ gtbl := gtbl_at 111 (by decide +kernel) rfl
set_option maxHeartbeats 1000000 in
theorem m_minC : Cond.code Lib.Math.min.name Lib.Math.min.code 2 (some .int) ∈ gtbl := gtbl_at 542 (by decide +kernel) rfl
set_option maxHeartbeats 1000000 in
theorem m_maxC : Cond.code Lib.Math.max.name Lib.Math.max.code 2 (some .int) ∈ gtbl := gtbl_at 788 (by decide +kernel) rfl
set_option maxHeartbeats 1000000 in
theorem m_cpN : Cond.native arraycopyName ∈ gtbl := gtbl_at 604 (by decide +kernel) rfl
set_option maxHeartbeats 1000000 in
theorem m_cpS : Cond.static arraycopyName ∈ gtbl := gtbl_at 603 (by decide +kernel) rfl
set_option maxHeartbeats 1000000 in
theorem m_cpI : Cond.initialized "java/lang/System" ∈ gtbl := gtbl_at 114 (by decide +kernel) rfl
set_option maxHeartbeats 1000000 in
theorem r_alenI {own : String} {cc : ByteArray} {nL d mc ms : Nat} {yn : String} {ro : Nat → Nat} {J : JT} (g : xCtx own cc nL d mc ms yn ro J) {μ : Hp} {k n pc : Nat} {lv : List (Nat × Value)} {st : List Value} {a N : Nat} (hs : hS μ a = some (0, N)) (hdg : decode cc pc = .ok (.arraylength, 1)) (kk : J μ k n (pc + 1) lv (.int (Int32.ofNat N) :: st)) : J μ k n pc lv (.ref a :: st) := by
  obtain ⟨p, l, e, R, s, m, args, below, meth, c, D, cA, A0, Q, rfl, ⟨hx, hb, hml, hown, hts⟩, hK, hA, ⟨hRO, hNw⟩, hroom, hyn⟩ := g
  intro L H locs ls ⟨hP, hD, hL1, hS1⟩ hl
  obtain ⟨j, hj⟩ := xget (cA := cA) (hL1 a _ hs)
  rw [cell_int hs] at hj
  exact va_alen hx hb hK hP j 0 hj rfl rfl hdg (kk L H locs ls ⟨hP, hD, hL1, hS1⟩ hl)
set_option maxHeartbeats 1000000 in
theorem r_alenB {own : String} {cc : ByteArray} {nL d mc ms : Nat} {yn : String} {ro : Nat → Nat} {J : JT} (g : xCtx own cc nL d mc ms yn ro J) {μ : Hp} {k n pc : Nat} {lv : List (Nat × Value)} {st : List Value} {a N : Nat} (hs : hS μ a = some (1, N)) (hdg : decode cc pc = .ok (.arraylength, 1)) (kk : J μ k n (pc + 1) lv (.int (Int32.ofNat N) :: st)) : J μ k n pc lv (.ref a :: st) := by
  obtain ⟨p, l, e, R, s, m, args, below, meth, c, D, cA, A0, Q, rfl, ⟨hx, hb, hml, hown, hts⟩, hK, hA, ⟨hRO, hNw⟩, hroom, hyn⟩ := g
  intro L H locs ls ⟨hP, hD, hL1, hS1⟩ hl
  obtain ⟨j, hj⟩ := xget (cA := cA) (hL1 a _ hs)
  rw [cell_byte hs] at hj
  exact va_alen hx hb hK hP j 1 hj rfl rfl hdg (kk L H locs ls ⟨hP, hD, hL1, hS1⟩ hl)
set_option maxHeartbeats 1000000 in
theorem r_alenL {own : String} {cc : ByteArray} {nL d mc ms : Nat} {yn : String} {ro : Nat → Nat} {J : JT} (g : xCtx own cc nL d mc ms yn ro J) {μ : Hp} {k n pc : Nat} {lv : List (Nat × Value)} {st : List Value} {a N : Nat} (hs : hS μ a = some (2, N)) (hdg : decode cc pc = .ok (.arraylength, 1)) (kk : J μ k n (pc + 1) lv (.int (Int32.ofNat N) :: st)) : J μ k n pc lv (.ref a :: st) := by
  obtain ⟨p, l, e, R, s, m, args, below, meth, c, D, cA, A0, Q, rfl, ⟨hx, hb, hml, hown, hts⟩, hK, hA, ⟨hRO, hNw⟩, hroom, hyn⟩ := g
  intro L H locs ls ⟨hP, hD, hL1, hS1⟩ hl
  obtain ⟨j, hj⟩ := xget (cA := cA) (hL1 a _ hs)
  rw [cell_long hs] at hj
  exact va_alen hx hb hK hP j 2 hj rfl rfl hdg (kk L H locs ls ⟨hP, hD, hL1, hS1⟩ hl)
set_option maxHeartbeats 1000000 in
theorem r_alenS {own : String} {cc : ByteArray} {nL d mc ms : Nat} {yn : String} {ro : Nat → Nat} {J : JT} (g : xCtx own cc nL d mc ms yn ro J) {μ : Hp} {k n pc : Nat} {lv : List (Nat × Value)} {st : List Value} {a N : Nat} (hs : hS μ a = some (3, N)) (hdg : decode cc pc = .ok (.arraylength, 1)) (kk : J μ k n (pc + 1) lv (.int (Int32.ofNat N) :: st)) : J μ k n pc lv (.ref a :: st) := by
  obtain ⟨p, l, e, R, s, m, args, below, meth, c, D, cA, A0, Q, rfl, ⟨hx, hb, hml, hown, hts⟩, hK, hA, ⟨hRO, hNw⟩, hroom, hyn⟩ := g
  intro L H locs ls ⟨hP, hD, hL1, hS1⟩ hl
  obtain ⟨j, hj⟩ := xget (cA := cA) (hL1 a _ hs)
  rw [cell_scr hs] at hj
  exact va_alen hx hb hK hP j 3 hj rfl rfl hdg (kk L H locs ls ⟨hP, hD, hL1, hS1⟩ hl)
/-- a call's site: what the tables say of it -/
def xSite (own : String) (idx : Nat) (y : MethodName) (bytes : ByteArray) (maxL : Nat) (rt : Option FieldType) (n : Nat) : Prop := Cond.methodLink own idx y ∈ gtbl ∧ Cond.initialized y.cls ∈ gtbl ∧ Cond.code y bytes maxL rt ∈ gtbl ∧ (y.cls ≠ "java/lang/invoke/MethodHandle" ∧ y.cls ≠ "java/lang/invoke/VarHandle" ∧ (parseMethodDescriptor y.desc).map (fun d => d.parameters.length) = some n) ∧ maxL ≤ 40
theorem xblind {D : va_G} {cA : Nat → ClassId} {L : List Nat} {μ : Hp} {ro : Nat → Nat} {sz : Nat} {As : List Value} : FrameBlind (va_Pc As (fun U => U.heap.size = sz ∧ va_P D vwCl (xws cA μ L) U.heap ∧ va_K D vwCl (xtys cA) U ∧ va_D (fun _ => True) (xws cA μ L) ∧ (∀ a x, hS μ a = some x → a ∈ L) ∧ xRO ro (va_A (xws cA μ L) sz) U U.heap ∧ xNw ro U)) := by
  intro a U g mk q
  obtain ⟨q0, q1, q2, q3, q4, q5, q6, q7⟩ := q
  exact ⟨q0, q1, q2, va_K.moved (u := U) (U := U.calling g mk a) (Vm.Alike.refl U.vm) q3, q4, q5, xRO.moved (u := U) (U := U.calling g mk a) (Vm.Alike.refl U.vm) q6, xNw.same (u := U) (U := U.calling g mk a) rfl q7⟩

set_option maxHeartbeats 1000000 in
theorem xpre {s U : State} {D : va_G} {cA : Nat → ClassId} {A0 : Nat → Prop} {L : List Nat} {μ : Hp} {ro : Nat → Nat} {H : Heap} {locs : List Loc} (hP : va_P D vwCl (xws cA μ L) H) (hD : va_D A0 (xws cA μ L)) (hL1 : ∀ a x, hS μ a = some x → a ∈ L) (hS1 : va_S A0 s.heap H locs) (hK : va_K D vwCl (xtys cA) s) (hA : ∀ q, s.heap.size ≤ q → A0 q) (hRO : xRO ro A0 s s.heap) (hNw : xNw ro s) (hU : U.heap = H) (hW : s.WarmedH U.vm) :
    U.heap.size = H.size ∧ va_P D vwCl (xws cA μ L) U.heap ∧ va_K D vwCl (xtys cA) U ∧ va_D (fun _ => True) (xws cA μ L) ∧ (∀ a x, hS μ a = some x → a ∈ L) ∧ xRO ro (va_A (xws cA μ L) H.size) U U.heap ∧ xNw ro U := by
  refine ⟨by rw [hU], by rw [hU]; exact hP, va_K.moved hW.alike hK, hD.weaken (fun _ _ _ _ => trivial), hL1, ?_, hNw.warm hW⟩
  rw [hU]
  refine ((hRO.kept hS1.2.1).narrow (B := va_A (xws cA μ L) H.size) (fun q h => ?_)).moved hW.alike
  rcases h with ⟨j, e, h⟩ | h
  · exact hD.2 j _ h
  · exact hA q (Nat.le_trans hS1.1 h)

/-- behind a call -/
theorem xgo {p : Program} {l : Launch} {e : Env} {R : Room} {s : State} {m : MethodId} {args : Array Value} {below : List Frame} {meth : Method} {c : Code} {D : va_G} {cA : Nat → ClassId} {A0 : Nat → Prop} {nL : Nat} {Q : State → Prop} {μ : Hp} {L : List Nat} {H : Heap} {locs : List Loc} {k n pc mc' ms' : Nat} {ls : Array Slot} {lv : List (Nat × Value)} {st0 rest : List Value} {Z : Option Value → Hp → Prop} {a : Array Value}
    (hr : va_Run p l e R s m args below meth c H locs k n mc' ms' (F0 m pc ls st0) rest ((fun _ st o t => (∃ (r : Option Value) (μ' : Hp) (L' : List Nat), o = .returned r ∧ Z r μ' ∧ va_P D vwCl (xws cA μ' L') t.heap ∧ va_D (va_A (xws cA μ L) H.size) (xws cA μ' L') ∧ (∀ a x, hS μ' a = some x → a ∈ L')) ∧ va_F (va_A (xws cA μ L) H.size) st t : Array Value → State → Outcome → State → Prop) a) (va_A (xws cA μ L) H.size))
    (hD : va_D A0 (xws cA μ L)) (hS1 : va_S A0 s.heap H locs) (hA : ∀ q, s.heap.size ≤ q → A0 q) (hl : lv_has ls nL lv)
    (kk : ∀ (r : Option Value) (μ' : Hp), Z r μ' → xJ p l e R s m args below meth c D cA A0 nL Q μ' (k + mc') (n + ms') (pc + 3) lv (r.toList ++ rest)) : W p l e R s m args below meth c H locs k n Q (F0 m pc ls st0) := by
  have hF : ∀ q, va_A (xws cA μ L) H.size q → A0 q := by
    intro q h
    rcases h with ⟨j, e, h⟩ | h
    · exact hD.2 j _ h
    · exact hA q (Nat.le_trans hS1.1 h)
  intro T hT X
  obtain ⟨v, st₀, t, T', Ls, h0, X', hLs, e1, e2, ⟨⟨r, μ', L', hv, hZ, hP1, hD1, hL2⟩, hz, hk⟩, st⟩ := hr T hT X
  cases hv
  rw [h0] at hz hk
  obtain ⟨t2, a1, b1⟩ := kk v μ' hZ L' T'.heap (locs ++ Ls) ls ⟨by rw [e1]; exact hP1, hD1.weaken (fun _ _ _ h => hF _ h), hL2, ⟨Nat.le_trans hS1.1 (by rw [e1]; exact hz), fun q h1 h2 => by rw [e1, hk q (Nat.lt_of_lt_of_le h1 hS1.1) (fun z => h2 (hF q z))]; exact hS1.2.1 q h1 h2, fun q hq => by
      rcases List.mem_append.mp hq with h | h
      · exact hS1.2.2 q h
      · exact hF _ (hLs q h)⟩⟩ hl T' rfl X'
  exact ⟨t2, st t2 a1, b1⟩

set_option maxHeartbeats 1000000 in
theorem r_callV {own : String} {cc : ByteArray} {nL d mc ms : Nat} {yn : String} {ro : Nat → Nat} {J : JT} (g : xCtx own cc nL d mc ms yn ro J) {μ : Hp} {k n pc : Nat} {lv : List (Nat × Value)} {st : List Value} {idx maxL mc' ms' d' nA : Nat} {y : MethodName} {bytes : ByteArray} {rt : Option FieldType} {As : List Value} {Z : Option Value → Hp → Prop} (hsite : xSite own idx y bytes maxL rt nA) {b ci N : Nat} {T : u_T} (hinst : Cond.instanceMethod y ∈ gtbl) (hsel : Cond.selects y.cls y y ∈ gtbl) (hcl : vwCl[ci]? = some (y.cls, T, N)) (hs : hS μ b = some (ci + 4, N)) (hn : As.length = nA) (hW : (st.map fun v => v.category).sum ≤ 8) (hdg : decode cc pc = .ok (.invokevirtual idx, 3)) (hd : d' + 1 ≤ d) (hk : k + mc' ≤ mc) (hns : n + ms' ≤ ms) (hc : xC d' y bytes maxL rt mc' ms' (.ref b :: As) μ ro Z) (kk : ∀ (r : Option Value) (μ' : Hp), Z r μ' → J μ' (k + mc') (n + ms') (pc + 3) lv (r.toList ++ st)) : J μ k n pc lv (As.reverse ++ .ref b :: st) := by
  obtain ⟨p, l, e, R, s, m, args, below, meth, c, D, cA, A0, Q, rfl, ⟨hx, hb, hml, hown, hts⟩, hK, hA, ⟨hRO, hNw⟩, hroom, hyn⟩ := g
  obtain ⟨hR1, hR2, hR3, hR4⟩ := hroom
  obtain ⟨hlk, hini, hcode, hy, hmx⟩ := hsite
  intro L H locs ls ⟨hP, hD, hL1, hS1⟩ hl
  have hM := hc l D cA L H.size
  obtain ⟨j, hj⟩ := xget (cA := cA) (hL1 b _ hs)
  rw [cell_obj hs] at hj
  exact xgo (Z := Z) (a := #[]) (va_runV (As := As) (rest := st) ⟨hx, hb, hml, hown, hts⟩ hM ⟨callB_of nA hts (gtbl_goodC hcode) rfl rfl rfl (hts _ hini) (hts _ hlk) hy ⟨by show d' + 1 ≤ R.frames; omega, by show 8 + (maxL + 11) + 64 * d' ≤ R.locals; omega⟩, hts _ hinst, hts _ hsel⟩ ⟨xblind, va_recv hK hP hcl hj, fun U hU hW9 => ⟨rfl, xpre hP hD hL1 hS1 hK hA hRO hNw hU hW9⟩⟩ rfl hn hl.1 rfl (lv_room hW) hdg ⟨by omega, by omega⟩) hD hS1 hA hl kk
set_option maxHeartbeats 1000000 in
theorem r_callS {own : String} {cc : ByteArray} {nL d mc ms : Nat} {yn : String} {ro : Nat → Nat} {J : JT} (g : xCtx own cc nL d mc ms yn ro J) {μ : Hp} {k n pc : Nat} {lv : List (Nat × Value)} {st : List Value} {idx maxL mc' ms' d' nA : Nat} {y : MethodName} {bytes : ByteArray} {rt : Option FieldType} {As : List Value} {Z : Option Value → Hp → Prop} (hsite : xSite own idx y bytes maxL rt nA) (hstat : Cond.static y ∈ gtbl) (hn : As.length = nA) (hW : (st.map fun v => v.category).sum ≤ 8) (hdg : decode cc pc = .ok (.invokestatic idx, 3)) (hd : d' + 1 ≤ d) (hk : k + mc' ≤ mc) (hns : n + ms' ≤ ms) (hc : xC d' y bytes maxL rt mc' ms' (As) μ ro Z) (kk : ∀ (r : Option Value) (μ' : Hp), Z r μ' → J μ' (k + mc') (n + ms') (pc + 3) lv (r.toList ++ st)) : J μ k n pc lv (As.reverse ++ st) := by
  obtain ⟨p, l, e, R, s, m, args, below, meth, c, D, cA, A0, Q, rfl, ⟨hx, hb, hml, hown, hts⟩, hK, hA, ⟨hRO, hNw⟩, hroom, hyn⟩ := g
  obtain ⟨hR1, hR2, hR3, hR4⟩ := hroom
  obtain ⟨hlk, hini, hcode, hy, hmx⟩ := hsite
  intro L H locs ls ⟨hP, hD, hL1, hS1⟩ hl
  have hM := hc l D cA L H.size
  exact xgo (Z := Z) (a := #[]) (va_runS (As := As) (rest := st) ⟨hx, hb, hml, hown, hts⟩ hM ⟨callB_of nA hts (gtbl_goodC hcode) rfl rfl rfl (hts _ hini) (hts _ hlk) hy ⟨by show d' + 1 ≤ R.frames; omega, by show 8 + (maxL + 11) + 64 * d' ≤ R.locals; omega⟩, hts _ hstat⟩ ⟨xblind, fun U hU hW9 => ⟨rfl, xpre hP hD hL1 hS1 hK hA hRO hNw hU hW9⟩⟩ rfl hn hl.1 rfl (lv_room hW) hdg ⟨by omega, by omega⟩) hD hS1 hA hl kk
def xSiteN (own : String) (idx : Nat) (y : MethodName) (bytes : ByteArray) (maxL : Nat) (rt : Option FieldType) (n : Nat) : Prop := (∃ host, (own, idx, y, host) ∈ roM) ∧ Cond.initialized y.cls ∈ gtbl ∧ Cond.code y bytes maxL rt ∈ gtbl ∧ (y.cls ≠ "java/lang/invoke/MethodHandle" ∧ y.cls ≠ "java/lang/invoke/VarHandle" ∧ (parseMethodDescriptor y.desc).map (fun d => d.parameters.length) = some n) ∧ maxL ≤ 40
set_option maxHeartbeats 1000000 in
theorem r_callSN {own : String} {cc : ByteArray} {nL d mc ms : Nat} {yn : String} {ro : Nat → Nat} {J : JT} (g : xCtx own cc nL d mc ms yn ro J) {μ : Hp} {k n pc : Nat} {lv : List (Nat × Value)} {st : List Value} {idx maxL mc' ms' d' nA : Nat} {y : MethodName} {bytes : ByteArray} {rt : Option FieldType} {As : List Value} {Z : Option Value → Hp → Prop} (hsite : xSiteN own idx y bytes maxL rt nA) (hstat : Cond.static y ∈ gtbl) (hn : As.length = nA) (hW : (st.map fun v => v.category).sum ≤ 8) (hdg : decode cc pc = .ok (.invokestatic idx, 3)) (hd : d' + 1 ≤ d) (hk : k + mc' ≤ mc) (hns : n + ms' ≤ ms) (hc : xC d' y bytes maxL rt mc' ms' (As) μ ro Z) (kk : ∀ (r : Option Value) (μ' : Hp), Z r μ' → J μ' (k + mc') (n + ms') (pc + 3) lv (r.toList ++ st)) : J μ k n pc lv (As.reverse ++ st) := by
  obtain ⟨p, l, e, R, s, m, args, below, meth, c, D, cA, A0, Q, rfl, ⟨hx, hb, hml, hown, hts⟩, hK, hA, ⟨hRO, hNw⟩, hroom, hyn⟩ := g
  obtain ⟨hR1, hR2, hR3, hR4⟩ := hroom
  obtain ⟨hlk, hini, hcode, hy, hmx⟩ := hsite
  intro L H locs ls ⟨hP, hD, hL1, hS1⟩ hl
  have hM := hc l D cA L H.size
  obtain ⟨host, hlk⟩ := hlk
  exact xgo (Z := Z) (a := #[]) (va_runSN (As := As) (rest := st) (host := host) ⟨hx, hb, hml, hown, hts⟩ hM ⟨va_cnB nA hts (gtbl_goodC hcode) rfl rfl rfl (hNw.1 _ hlk) (hts _ hini) hy ⟨by show d' + 1 ≤ R.frames; omega, by show 8 + (maxL + 11) + 64 * d' ≤ R.locals; omega⟩, hts _ hstat, trivial⟩ ⟨xblind, fun U hU hW9 => ⟨rfl, xpre hP hD hL1 hS1 hK hA hRO hNw hU hW9⟩⟩ rfl hn hl.1 rfl (lv_room hW) hdg ⟨by omega, by omega⟩) hD hS1 hA hl kk
set_option maxHeartbeats 1000000 in
theorem r_mmin {own : String} {cc : ByteArray} {nL d mc ms : Nat} {yn : String} {ro : Nat → Nat} {J : JT} (g : xCtx own cc nL d mc ms yn ro J) {μ : Hp} {k n pc : Nat} {lv : List (Nat × Value)} {st : List Value} {x y : Int32} {index : Nat} (hlk : Cond.methodLink own index Lib.Math.min.name ∈ gtbl) (hd : 1 ≤ d) (hk : k ≤ mc) (hn : n ≤ ms) (hw : (st.map fun v => v.category).sum ≤ 8) (hdg : decode cc pc = .ok (.invokestatic index, 3)) (kk : J μ k n (pc + 3) lv (.int (if y < x then y else x) :: st)) : J μ k n pc lv (.int y :: .int x :: st) := by
  obtain ⟨p, l, e, R, s, m, args, below, meth, c, D, cA, A0, Q, rfl, ⟨hx, hb, hml, hown, hts⟩, hK, hA, ⟨hRO, hNw⟩, hroom, hyn⟩ := g
  exact fun L H locs ls hr hl => va_mmin hx hb (hml.trans hl.1.symm) hown (hts _ hlk) (hts _ m_minS) (hts _ m_ini) (hts _ m_minC) (by omega) (by omega) (by omega) (by omega) hdg (kk L H locs ls hr hl)
set_option maxHeartbeats 1000000 in
theorem r_mmax {own : String} {cc : ByteArray} {nL d mc ms : Nat} {yn : String} {ro : Nat → Nat} {J : JT} (g : xCtx own cc nL d mc ms yn ro J) {μ : Hp} {k n pc : Nat} {lv : List (Nat × Value)} {st : List Value} {x y : Int32} {index : Nat} (hlk : Cond.methodLink own index Lib.Math.max.name ∈ gtbl) (hd : 1 ≤ d) (hk : k ≤ mc) (hn : n ≤ ms) (hw : (st.map fun v => v.category).sum ≤ 8) (hdg : decode cc pc = .ok (.invokestatic index, 3)) (kk : J μ k n (pc + 3) lv (.int (if x < y then y else x) :: st)) : J μ k n pc lv (.int y :: .int x :: st) := by
  obtain ⟨p, l, e, R, s, m, args, below, meth, c, D, cA, A0, Q, rfl, ⟨hx, hb, hml, hown, hts⟩, hK, hA, ⟨hRO, hNw⟩, hroom, hyn⟩ := g
  exact fun L H locs ls hr hl => va_mmax hx hb (hml.trans hl.1.symm) hown (hts _ hlk) (hts _ m_maxS) (hts _ m_ini) (hts _ m_maxC) (by omega) (by omega) (by omega) (by omega) hdg (kk L H locs ls hr hl)
def xcpOK (sp dp n : Int32) (N0 N1 : Nat) : Prop := ¬ sp < 0 ∧ ¬ dp < 0 ∧ ¬ n < 0 ∧ sp.toNatClampNeg + n.toNatClampNeg ≤ N0 ∧ dp.toNatClampNeg + n.toNatClampNeg ≤ N1
theorem rowCell {cA : Nat → ClassId} {μ : Hp} {a N : Nat} {f : Nat → Int32} (hs : hS μ a = some (0, N)) : cellOf cA (wRow μ a f) a = .inl (cA 0, N, .inl f) := by
  rw [cell_int (show hS (wRow μ a f) a = _ from hs), show hI (wRow μ a f) a = f from va_up_self _ _ _]

set_option maxHeartbeats 1000000 in
theorem r_copyi {own : String} {cc : ByteArray} {nL d mc ms : Nat} {yn : String} {ro : Nat → Nat} {J : JT} (g : xCtx own cc nL d mc ms yn ro J) {μ : Hp} {k n pc : Nat} {lv : List (Nat × Value)} {st : List Value} {index a b N0 N1 : Nat} {sp dp m9 : Int32} (hlk : Cond.methodLink own index arraycopyName ∈ gtbl) (hd : 1 ≤ d) (hw : (st.map fun v => v.category).sum ≤ 8) (hs0 : hS μ a = some (0, N0)) (hs1 : hS μ b = some (0, N1)) (hc : xcpOK sp dp m9 N0 N1) (hdg : decode cc pc = .ok (.invokestatic index, 3)) (kk : J (wRow μ b (va_cpy (hI μ a) (hI μ b) sp.toNatClampNeg dp.toNatClampNeg m9.toNatClampNeg)) k n (pc + 3) lv st) : J μ k n pc lv (.int m9 :: .int dp :: .ref b :: .int sp :: .ref a :: st) := by
  obtain ⟨p, l, e, R, s, m, args, below, meth, c, D, cA, A0, Q, rfl, ⟨hx, hb, hml, hown, hts⟩, hK, hA, ⟨hRO, hNw⟩, hroom, hyn⟩ := g
  intro L H locs ls ⟨hP, hD, hL1, hS1⟩ hl
  obtain ⟨j, hj⟩ := xget (cA := cA) (hL1 a _ hs0)
  obtain ⟨j1, hj1⟩ := xget (cA := cA) (hL1 b _ hs1)
  have hj0 := hj1
  rw [cell_int hs0] at hj
  rw [cell_int hs1] at hj1
  obtain ⟨h1, h2, h3, h4, h5⟩ := hc
  have hwd : nativeFrameWords "java/lang/System" "arraycopy" 5 + 11 + 8 ≤ 64 := by decide +kernel
  refine va_copyi hx hb (hml.trans hl.1.symm) hown (hts _ hlk) (hts _ m_cpN) (hts _ m_cpS) (hts _ m_cpI) hK hP hD hS1 j j1 0 0 hj hj1 rfl rfl rfl h1 h2 h3 h4 h5 (fun _ _ => rfl) (by omega) (by omega) hdg (fun H1 locs1 hP1 hD1 hS2 => ?_)
  rw [xset hD (hL1 b _ hs1) hj0 (cell_up wRow_ne (rowCell hs1))] at hP1 hD1
  exact kk L H1 locs1 ls ⟨hP1, hD1, hL1, hS2⟩ hl
/-- a call whose callee makes nothing: some contract of it, and what follows for all that it allows -/
def xCall (d : Nat) (y : MethodName) (bytes : ByteArray) (maxL : Nat) (rt : Option FieldType) (As : List Value) (μ : Hp) (ro : Nat → Nat) (K : Option Value → Hp → Prop) : Prop :=
  ∃ (d' : Nat) (Z : Option Value → Hp → Prop), xC d' y bytes maxL rt 0 0 As μ ro Z ∧ d' + 1 ≤ d ∧ ∀ (r : Option Value) (μ' : Hp), Z r μ' → K r μ'
theorem xCall_of {d d' : Nat} {y : MethodName} {bytes : ByteArray} {maxL : Nat} {rt : Option FieldType} {As : List Value} {μ : Hp} {ro : Nat → Nat} {K Z : Option Value → Hp → Prop} (hc : xC d' y bytes maxL rt 0 0 As μ ro Z) (hd : d' + 1 ≤ d) (h : ∀ (r : Option Value) (μ' : Hp), Z r μ' → K r μ') : xCall d y bytes maxL rt As μ ro K := ⟨d', Z, hc, hd, h⟩
theorem sw_cases {x : Int32} (lo hi : Int) (_ : -2147483648 ≤ lo) (_ : hi ≤ 2147483647) : (x.toInt < lo ∨ hi < x.toInt) ∨ ∃ z : Int, lo ≤ z ∧ z ≤ hi ∧ x = Int32.ofInt z := by
  by_cases h : x.toInt < lo ∨ hi < x.toInt
  · exact Or.inl h
  · refine Or.inr ⟨x.toInt, by omega, by omega, ?_⟩
    rw [Int32.ofInt_toInt]

/-- a call's site by an inherited name -/
def xSiteU (own : String) (idx : Nat) (C : String) (x y : MethodName) (bytes : ByteArray) (maxL : Nat) (rt : Option FieldType) (n : Nat) : Prop := Cond.methodLink own idx x ∈ gtbl ∧ Cond.sameMethod x.cls y.cls x.name x.desc ∈ gtbl ∧ Cond.selects C x y ∈ gtbl ∧ Cond.instanceMethod y ∈ gtbl ∧ Cond.initialized y.cls ∈ gtbl ∧ Cond.code y bytes maxL rt ∈ gtbl ∧ y = ⟨y.cls, x.name, x.desc⟩ ∧ (y.cls ≠ "java/lang/invoke/MethodHandle" ∧ y.cls ≠ "java/lang/invoke/VarHandle" ∧ (parseMethodDescriptor x.desc).map (fun d => d.parameters.length) = some n) ∧ maxL ≤ 40
