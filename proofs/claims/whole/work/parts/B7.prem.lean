/-! the words of the tables -/
theorem jx_one {s : State} {args : Array Value} {y y0 : MethodName} (h0 : (Cond.selects "java/lang/StringBuilder" y0 y0).before args s = true) (hcl : y.cls = y0.cls) (hpriv : (Cond.privateMethod y).before args s = true) (hinst : (Cond.instanceMethod y).before args s = true) (hy : y.cls ≠ "java/lang/invoke/MethodHandle" ∧ y.cls ≠ "java/lang/invoke/VarHandle") : (Cond.selects "java/lang/StringBuilder" y y).before args s = true := by
  obtain ⟨c2, r2, m2, q1, q2, q3, q4, kP, hkP, hkPi⟩ := Cond.selects_spec h0
  obtain ⟨mk, methM, hnamed, hmethM, -, -⟩ := Cond.instanceMethod_spec hinst
  have hfound : s.methodFound? y.cls y.name y.desc = some mk := State.methodFound?_of_named hnamed hy
  have hcls : mk.cls = m2.cls := by
    have a := findClass_of_methodNamed hnamed
    have b := findClass_of_methodNamed q3
    rw [hcl] at a
    exact Option.some.inj (a.symm.trans b)
  have hsel : selectMethod {} s.vm c2 mk = .method mk := selectMethod_private hmethM (Cond.privateMethod_at hpriv mk methM hnamed hmethM)
  rw [← hcls] at hkP
  simp only [Cond.before, Cond.holds, Cond.value, q1, hfound, hnamed, hsel, hkP]
  simp; exact hkPi
theorem hgt_of {s : State} {args : Array Value} (hts : ∀ w ∈ lw_tbl, w.before args s = true) : ∀ w ∈ gtbl, w.before args s = true := by
  have ht : ∀ (i : Nat) (w : Cond), tables_1[i]? = some w → w.before args s = true := fun i w h => hts w (List.mem_append_right _ (List.mem_of_getElem? h))
  have h0 : (Cond.selects "java/lang/StringBuilder" yJ5_isLatin1_aae02 yJ5_isLatin1_aae02).before args s = true := ht 717 _ (by decide +kernel)
  intro w hw
  rcases gtbl_lw hw with h | h
  · obtain ⟨y, hy, rfl⟩ := List.mem_map.mp h
    simp only [jxPrivs, List.mem_cons, List.not_mem_nil, or_false] at hy
    rcases hy with rfl | rfl | rfl | rfl
    · exact jx_one h0 rfl (ht 684 _ (by decide +kernel)) (ht 685 _ (by decide +kernel)) (by decide)
    · exact jx_one h0 rfl (ht 688 _ (by decide +kernel)) (ht 689 _ (by decide +kernel)) (by decide)
    · exact jx_one h0 rfl (ht 829 _ (by decide +kernel)) (ht 830 _ (by decide +kernel)) (by decide)
    · exact jx_one h0 rfl (ht 833 _ (by decide +kernel)) (ht 834 _ (by decide +kernel)) (by decide)
  · exact hts w h
