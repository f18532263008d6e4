/-! cells made by constructors: (which, address, its numbers); references: (which, place, address) -/
def gTab : List (Nat × Nat × Nat) := cTab ++ [(51, 1, 16), (52, 15, 65)] ++ mTab
def gSh (i : Nat) : Nat × Nat := (gTab.getD i (0, 0, 0)).2
abbrev gL : Type := List (Nat × Nat × (Nat → Int32))
def gk (μ0 : Hp) (L : gL) (R : List (Nat × Nat × Nat)) (μ : Hp) : Prop :=
  (∀ p ∈ L, hS μ p.2.1 = some (gSh p.1) ∧ hS μ0 p.2.1 = none ∧ hI μ p.2.1 = p.2.2 ∧ hL μ p.2.1 = fun _ => 0) ∧ (∀ p ∈ L, ∀ p' ∈ L, (p.2.1 = p'.2.1 ↔ p.1 = p'.1)) ∧ (∀ r ∈ R, r.1 ∈ L.map (fun p => p.1) ∧ ∀ p ∈ L, p.1 = r.1 → hR μ p.2.1 r.2.1 = some r.2.2) ∧ ∀ c x, hS μ0 c = some x → hS μ c = some x ∧ hI μ c = hI μ0 c ∧ hL μ c = hL μ0 c ∧ hR μ c = hR μ0 c
section gks
variable {μ0 μ : Hp} {L : gL} {R : List (Nat × Nat × Nat)}
theorem gk.start : gk μ [] [] μ := ⟨(fun _ h => by cases h), (fun _ h => by cases h), (fun _ h => by cases h), fun _ _ h => ⟨h, rfl, rfl, rfl⟩⟩
theorem gk.sh {i a : Nat} {v : Nat → Int32} (h : gk μ0 L R μ) (hm : (i, a, v) ∈ L) : hS μ a = some (gSh i) := (h.1 _ hm).1
theorem gk.new {i q : Nat} (h : gk μ0 L R μ) (hi : i ∉ L.map (fun p => p.1)) (hq : hS μ q = none) : gk μ0 ((i, q, fun _ => 0) :: L) R (wN μ q (gSh i).1 (gSh i).2) := by
  obtain ⟨h1, h2, h3, h4⟩ := h
  have hne : ∀ p ∈ L, p.2.1 ≠ q := fun p hp e => by have := (h1 p hp).1; rw [e, hq] at this; cases this
  have hix : ∀ p ∈ L, p.1 ≠ i := fun p hp e => hi (List.mem_map.mpr ⟨p, hp, e⟩)
  have h0q : hS μ0 q = none := by
    cases h9 : hS μ0 q with
    | none => rfl
    | some y => rw [(h4 q y h9).1] at hq; cases hq
  refine ⟨fun p hp => ?_, fun p hp p' hp' => ?_, fun r hr => ⟨List.mem_cons_of_mem _ (h3 r hr).1, fun p hp e => ?_⟩, fun c x hx => ?_⟩
  · rcases List.mem_cons.mp hp with rfl | hp
    · exact ⟨va_up_self _ _ _, h0q, va_up_self _ _ _, va_up_self _ _ _⟩
    · obtain ⟨k1, k2, k3, k4⟩ := h1 p hp
      have := hne p hp
      exact ⟨(va_up_ne _ _ this).trans k1, k2, (va_up_ne _ _ this).trans k3, (va_up_ne _ _ this).trans k4⟩
  · rcases List.mem_cons.mp hp with rfl | hp
    · rcases List.mem_cons.mp hp' with rfl | hp'
      · exact Iff.intro (fun _ => rfl) (fun _ => rfl)
      · exact ⟨fun e => absurd e.symm (hne p' hp'), fun e => absurd e.symm (hix p' hp')⟩
    · rcases List.mem_cons.mp hp' with rfl | hp'
      · exact ⟨fun e => absurd e (hne p hp), fun e => absurd e (hix p hp)⟩
      · exact h2 p hp p' hp'
  · rcases List.mem_cons.mp hp with rfl | hp
    · obtain ⟨p', hp', e'⟩ := List.mem_map.mp (h3 r hr).1
      exact absurd (e'.trans e.symm) (hix p' hp')
    · have e2 : hR (wN μ q (gSh i).1 (gSh i).2) p.2.1 = hR μ p.2.1 := va_up_ne _ _ (hne p hp)
      rw [e2]
      exact (h3 r hr).2 p hp e
  · have hc : c ≠ q := fun e => by rw [e, h0q] at hx; cases hx
    obtain ⟨k1, k2, k3, k4⟩ := h4 c x hx
    exact ⟨(va_up_ne _ _ hc).trans k1, (va_up_ne _ _ hc).trans k2, (va_up_ne _ _ hc).trans k3, (va_up_ne _ _ hc).trans k4⟩
theorem gk.ref {i a k b : Nat} {v : Nat → Int32} (h : gk μ0 L R μ) (hm : (i, a, v) ∈ L) (hn : (i, k) ∉ R.map (fun r => (r.1, r.2.1))) : gk μ0 L ((i, k, b) :: R) (wR μ a k (some b)) := by
  obtain ⟨h1, h2, h3, h4⟩ := h
  have h0a := (h1 _ hm).2.1
  refine ⟨h1, h2, fun r hr => ?_, fun c x hx => ?_⟩
  · rcases List.mem_cons.mp hr with rfl | hr
    · refine ⟨List.mem_map.mpr ⟨_, hm, rfl⟩, fun p hp e => ?_⟩
      have : p.2.1 = a := (h2 p hp _ hm).mpr e
      rw [this]
      exact hR_wR_e _ _ _ _
    · refine ⟨(h3 r hr).1, fun p hp e => ?_⟩
      by_cases ea : p.2.1 = a
      · have ei : p.1 = i := (h2 p hp _ hm).mp ea
        have : r.2.1 ≠ k := fun ek => hn (List.mem_map.mpr ⟨r, hr, by rw [← e, ei, ek]⟩)
        have e3 := (h3 r hr).2 p hp e
        rw [ea] at e3 ⊢
        rw [hR_wR_k _ _ _ this]
        exact e3
      · rw [hR_wR_n _ _ _ ea]
        exact (h3 r hr).2 p hp e
  · have hc : c ≠ a := fun e => by rw [e] at hx; rw [h0a] at hx; cases hx
    obtain ⟨k1, k2, k3, k4⟩ := h4 c x hx
    exact ⟨k1, k2, k3, by rw [hR_wR_n _ _ _ hc]; exact k4⟩
theorem gk.intG {L' : gL} {i a k : Nat} {v : Nat → Int32} {x : Int32} (h : gk μ0 L R μ) (hm : (i, a, v) ∈ L) (hL' : L'.map (fun p => (p.1, p.2.1)) = L.map (fun p => (p.1, p.2.1))) (hv : ∀ p ∈ L', p.2.2 = hI (wI μ a k x) p.2.1) : gk μ0 L' R (wI μ a k x) := by
  obtain ⟨h1, h2, h3, h4⟩ := h
  have h0a := (h1 _ hm).2.1
  have back : ∀ p ∈ L', ∃ p' ∈ L, p'.1 = p.1 ∧ p'.2.1 = p.2.1 := fun p hp => by
    have : (p.1, p.2.1) ∈ L.map (fun p => (p.1, p.2.1)) := hL' ▸ List.mem_map.mpr ⟨p, hp, rfl⟩
    obtain ⟨p', hp', e⟩ := List.mem_map.mp this
    exact ⟨p', hp', (Prod.mk.inj e).1, (Prod.mk.inj e).2⟩
  have hm1 : L'.map (fun p => p.1) = L.map (fun p => p.1) := by
    have := congrArg (List.map Prod.fst) hL'
    rw [List.map_map, List.map_map] at this
    exact this
  refine ⟨fun p hp => ?_, fun p hp p' hp' => ?_, fun r hr => ⟨by rw [hm1]; exact (h3 r hr).1, fun p hp e => ?_⟩, fun c x hx => ?_⟩
  · obtain ⟨p', hp', e1, e2⟩ := back p hp
    obtain ⟨k1, k2, k3, k4⟩ := h1 p' hp'
    rw [← e2, ← e1]
    exact ⟨k1, k2, by rw [e2]; exact (hv p hp).symm, k4⟩
  · obtain ⟨s, hs, e1, e2⟩ := back p hp
    obtain ⟨s', hs', e1', e2'⟩ := back p' hp'
    rw [← e1, ← e2, ← e1', ← e2']
    exact h2 s hs s' hs'
  · obtain ⟨s, hs, e1, e2⟩ := back p hp
    rw [← e2]
    exact (h3 r hr).2 s hs (e1.trans e)
  · have hc : c ≠ a := fun e => by rw [e] at hx; rw [h0a] at hx; cases hx
    obtain ⟨k1, k2, k3, k4⟩ := h4 c x hx
    exact ⟨k1, by rw [hI_wI_n _ _ _ hc]; exact k2, k3, k4⟩
theorem gk.int0 {i a k : Nat} {v : Nat → Int32} (h : gk μ0 L R μ) (hm : (i, a, v) ∈ L) (hv : v k = 0) : gk μ0 L R (wI μ a k 0) := by
  refine h.intG hm rfl (fun p hp => ?_)
  by_cases e : p.2.1 = a
  · rw [e, hI_wI_s, (h.1 _ hm).2.2.1]
    have e2 : p.2.2 = v := by rw [← (h.1 _ hp).2.2.1, e, (h.1 _ hm).2.2.1]
    rw [e2]
    show v = upd v k 0
    rw [← hv]
    exact (upd_id v k).symm
  · rw [hI_wI_n _ _ _ e]
    exact (h.1 _ hp).2.2.1.symm
theorem gk.intH {i a k : Nat} {v : Nat → Int32} {x : Int32} (h : gk μ0 ((i, a, v) :: L) R μ) (hi : i ∉ L.map (fun p => p.1)) : gk μ0 ((i, a, upd v k x) :: L) R (wI μ a k x) := by
  refine h.intG List.mem_cons_self rfl (fun p hp => ?_)
  rcases List.mem_cons.mp hp with rfl | hp
  · show upd v k x = _
    rw [hI_wI_s, (h.1 _ List.mem_cons_self).2.2.1]
  · have hne : p.2.1 ≠ a := fun e => hi (List.mem_map.mpr ⟨p, hp, (h.2.1 p (List.mem_cons_of_mem _ hp) _ List.mem_cons_self).mp e⟩)
    rw [hI_wI_n _ _ _ hne]
    exact (h.1 _ (List.mem_cons_of_mem _ hp)).2.2.1.symm
theorem gk.swap {p q : Nat × Nat × (Nat → Int32)} (h : gk μ0 (p :: q :: L) R μ) : gk μ0 (q :: p :: L) R μ := by
  have hs : ∀ s, s ∈ q :: p :: L → s ∈ p :: q :: L := fun s hs => by
    rcases List.mem_cons.mp hs with rfl | hs
    · exact List.mem_cons_of_mem _ List.mem_cons_self
    · rcases List.mem_cons.mp hs with rfl | hs
      · exact List.mem_cons_self
      · exact List.mem_cons_of_mem _ (List.mem_cons_of_mem _ hs)
  refine ⟨fun s hp => h.1 s (hs s hp), fun s hp s' hp' => h.2.1 s (hs s hp) s' (hs s' hp'), fun r hr => ⟨?_, fun s hp => (h.2.2.1 r hr).2 s (hs s hp)⟩, h.2.2.2⟩
  obtain ⟨s, h1, h2⟩ := List.mem_map.mp (h.2.2.1 r hr).1
  refine List.mem_map.mpr ⟨s, ?_, h2⟩
  rcases List.mem_cons.mp h1 with rfl | h1
  · exact List.mem_cons_of_mem _ List.mem_cons_self
  · rcases List.mem_cons.mp h1 with rfl | h1
    · exact List.mem_cons_self
    · exact List.mem_cons_of_mem _ (List.mem_cons_of_mem _ h1)
theorem gk.lng0 {i a k : Nat} {v : Nat → Int32} (h : gk μ0 L R μ) (hm : (i, a, v) ∈ L) : gk μ0 L R (wL μ a k 0) := by
  obtain ⟨h1, h2, h3, h4⟩ := h
  have h0a := (h1 _ hm).2.1
  refine ⟨fun p hp => ?_, h2, h3, fun c x hx => ?_⟩
  · obtain ⟨k1, k2, k3, k4⟩ := h1 p hp
    refine ⟨k1, k2, k3, ?_⟩
    by_cases e : p.2.1 = a
    · rw [e] at k4 ⊢
      rw [hL_wL_s, k4]
      funext j
      show vp_updL (fun _ => 0) k 0 j = 0
      unfold vp_updL
      split <;> rfl
    · rw [hL_wL_n _ _ _ e]
      exact k4
  · have hc : c ≠ a := fun e => by rw [e] at hx; rw [h0a] at hx; cases hx
    obtain ⟨k1, k2, k3, k4⟩ := h4 c x hx
    exact ⟨k1, k2, by rw [hL_wL_n _ _ _ hc]; exact k3, k4⟩
theorem nm {t i : Nat} {l : List Nat} (h1 : t ≠ i) (h2 : t ∉ l) : t ∉ i :: l := fun h => by
  rcases List.mem_cons.mp h with h | h
  · exact h1 h
  · exact h2 h
theorem nr {i k : Nat} (h : i ∉ R.map (fun r => r.1)) : (i, k) ∉ R.map (fun r => (r.1, r.2.1)) := fun hm => by
  obtain ⟨r, hr, e⟩ := List.mem_map.mp hm
  exact h (List.mem_map.mpr ⟨r, hr, (Prod.mk.inj e).1⟩)
theorem nrc {i k i' k' b : Nat} (hk : ¬ (i = i' ∧ k = k')) (h : (i, k) ∉ R.map (fun r => (r.1, r.2.1))) : (i, k) ∉ ((i', k', b) :: R).map (fun r => (r.1, r.2.1)) := fun hm => by
  rw [List.map_cons] at hm
  rcases List.mem_cons.mp hm with e | hm
  · exact hk ⟨(Prod.mk.inj e).1, (Prod.mk.inj e).2⟩
  · exact h hm
theorem gk.newS {i q kd n : Nat} (h : gk μ0 L R μ) (hs : gSh i = (kd, n)) (hi : i ∉ L.map (fun p => p.1)) (hq : hS μ q = none) : gk μ0 ((i, q, fun _ => 0) :: L) R (wN μ q kd n) := by
  have := h.new hi hq
  rw [hs] at this
  exact this
theorem gk.shS {i a kd n : Nat} {v : Nat → Int32} (h : gk μ0 L R μ) (hm : (i, a, v) ∈ L) (hs : gSh i = (kd, n)) : hS μ a = some (kd, n) := by
  rw [← hs]
  exact h.sh hm
end gks
