theorem N_lnk {s : State} {args : Array Value} (hts : ∀ w ∈ lw_tbl, w.before args s = true) : (∀ q ∈ roM, va_Nw (.methodLinkNest q.1 q.2.1 q.2.2.1 q.2.2.2) s) ∧ va_Nw (.fieldLinkNest "TreatyRouter$Word" 88 "TreatyRouter" "WORDS" "[LTreatyRouter$Word;" "TreatyRouter") s := by
  have ht : ∀ (i : Nat) (w : Cond), tables_1[i]? = some w → w.onTables = true → va_Nw w s := fun i w h ho => va_tabs ho rfl (hts w (List.mem_append_right _ (List.mem_of_getElem? h)))
  refine ⟨fun q hq => ?_, ht 421 _ (by decide +kernel) rfl⟩
  simp only [roM, List.mem_cons, List.not_mem_nil, or_false] at hq
  rcases hq with rfl | rfl | rfl | rfl | rfl | rfl | rfl | rfl | rfl
  · exact ht 41 _ (by decide +kernel) rfl
  · exact ht 72 _ (by decide +kernel) rfl
  · exact ht 78 _ (by decide +kernel) rfl
  · exact ht 156 _ (by decide +kernel) rfl
  · exact ht 173 _ (by decide +kernel) rfl
  · exact ht 221 _ (by decide +kernel) rfl
  · exact ht 300 _ (by decide +kernel) rfl
  · exact ht 987 _ (by decide +kernel) rfl
  · exact ht 988 _ (by decide +kernel) rfl
