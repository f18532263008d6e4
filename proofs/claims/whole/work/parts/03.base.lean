/-! THE ABSTRACT HEAP. A state of the system: what the int-like, long and reference slots of each cell hold (by address and slot), and each cell's shape: kind and size. Kinds: 0 int[], 1 byte[], 2 long[], 3 Script[], 4 + k: an object of the k-th class of vwCl. -/
/-! beside the tables' words: which method a builder's call of a private one of its superclass picks -/
def jxPrivs : List MethodName := [⟨"java/lang/AbstractStringBuilder", "ensureCapacityInternal", "(I)V"⟩, ⟨"java/lang/AbstractStringBuilder", "newCapacity", "(I)I"⟩, ⟨"java/lang/AbstractStringBuilder", "putStringAt", "(ILjava/lang/String;)V"⟩, ⟨"java/lang/AbstractStringBuilder", "inflateIfNeededFor", "(Ljava/lang/String;)V"⟩]
def jxSels : List Cond := jxPrivs.map (fun y => Cond.selects "java/lang/StringBuilder" y y)
def gtbl : List Cond := (jxSels ++ lw_tbl).filter goodWord
theorem gtbl_in {w : Cond} (h : w ∈ lw_tbl) (hg : goodWord w = true) : w ∈ gtbl := List.mem_filter.mpr ⟨List.mem_append_right _ h, hg⟩
theorem jx_in {y : MethodName} (i : Nat) (h : jxPrivs[i]? = some y) : Cond.selects "java/lang/StringBuilder" y y ∈ gtbl := List.mem_filter.mpr ⟨List.mem_append_left _ (List.mem_map.mpr ⟨y, List.mem_of_getElem? h, rfl⟩), rfl⟩
theorem gtbl_at {w : Cond} (i : Nat) (h : lw_tbl[i]? = some w) (hg : goodWord w = true) : w ∈ gtbl := gtbl_in (List.mem_of_getElem? h) hg
theorem gtbl_lw {w : Cond} (h : w ∈ gtbl) : w ∈ jxSels ∨ w ∈ lw_tbl := List.mem_append.mp (List.mem_filter.mp h).1
theorem gtbl_good : GoodIn gtbl gtbl := fun w h => ⟨h, good_of_word (List.mem_filter.mp h).2⟩
theorem gtbl_goodC {c : Cond} (hc : c ∈ gtbl) : GoodIn gtbl (c :: gtbl) := fun w h => (List.mem_cons.mp h).elim (fun e => e ▸ gtbl_good c hc) (gtbl_good w)
theorem tb_1 {w : Cond} (i : Nat) (h : tables_1_1[i]? = some w) (hg : goodWord w = true) : w ∈ gtbl := gtbl_in (List.mem_append_right _ (List.mem_append_left _ (List.mem_of_getElem? h))) hg
theorem tb_2 {w : Cond} (i : Nat) (h : tables_1_2[i]? = some w) (hg : goodWord w = true) : w ∈ gtbl := gtbl_in (List.mem_append_right _ (List.mem_append_right _ (List.mem_append_left _ (List.mem_of_getElem? h)))) hg
theorem tb_3 {w : Cond} (i : Nat) (h : tables_1_3[i]? = some w) (hg : goodWord w = true) : w ∈ gtbl := gtbl_in (List.mem_append_right _ (List.mem_append_right _ (List.mem_append_right _ (List.mem_append_left _ (List.mem_of_getElem? h))))) hg
theorem tb_4 {w : Cond} (i : Nat) (h : tables_1_4[i]? = some w) (hg : goodWord w = true) : w ∈ gtbl := gtbl_in (List.mem_append_right _ (List.mem_append_right _ (List.mem_append_right _ (List.mem_append_right _ (List.mem_append_left _ (List.mem_of_getElem? h)))))) hg
theorem tb_5 {w : Cond} (i : Nat) (h : tables_1_5[i]? = some w) (hg : goodWord w = true) : w ∈ gtbl := gtbl_in (List.mem_append_right _ (List.mem_append_right _ (List.mem_append_right _ (List.mem_append_right _ (List.mem_append_right _ (List.mem_append_left _ (List.mem_of_getElem? h))))))) hg
theorem tb_6 {w : Cond} (i : Nat) (h : tables_1_6[i]? = some w) (hg : goodWord w = true) : w ∈ gtbl := gtbl_in (List.mem_append_right _ (List.mem_append_right _ (List.mem_append_right _ (List.mem_append_right _ (List.mem_append_right _ (List.mem_append_right _ (List.mem_append_left _ (List.mem_of_getElem? h)))))))) hg
theorem tb_7 {w : Cond} (i : Nat) (h : tables_1_7[i]? = some w) (hg : goodWord w = true) : w ∈ gtbl := gtbl_in (List.mem_append_right _ (List.mem_append_right _ (List.mem_append_right _ (List.mem_append_right _ (List.mem_append_right _ (List.mem_append_right _ (List.mem_append_right _ (List.mem_append_left _ (List.mem_of_getElem? h))))))))) hg
theorem tb_8 {w : Cond} (i : Nat) (h : tables_1_8[i]? = some w) (hg : goodWord w = true) : w ∈ gtbl := gtbl_in (List.mem_append_right _ (List.mem_append_right _ (List.mem_append_right _ (List.mem_append_right _ (List.mem_append_right _ (List.mem_append_right _ (List.mem_append_right _ (List.mem_append_right _ (List.mem_append_left _ (List.mem_of_getElem? h)))))))))) hg
theorem tb_9 {w : Cond} (i : Nat) (h : tables_1_9[i]? = some w) (hg : goodWord w = true) : w ∈ gtbl := gtbl_in (List.mem_append_right _ (List.mem_append_right _ (List.mem_append_right _ (List.mem_append_right _ (List.mem_append_right _ (List.mem_append_right _ (List.mem_append_right _ (List.mem_append_right _ (List.mem_append_right _ (List.mem_of_getElem? h)))))))))) hg
theorem tp_1 {q : MethodName × Nat} (i : Nat) (h : lw_privs_1[i]? = some q) (hg : goodWord (Cond.selects q.1.cls q.1 q.1) = true) : Cond.selects q.1.cls q.1 q.1 ∈ gtbl := gtbl_in (List.mem_append_left _ (List.mem_map.mpr ⟨q, List.mem_append_left _ (List.mem_of_getElem? h), rfl⟩)) hg
theorem tp_2 {q : MethodName × Nat} (i : Nat) (h : lw_privs_2[i]? = some q) (hg : goodWord (Cond.selects q.1.cls q.1 q.1) = true) : Cond.selects q.1.cls q.1 q.1 ∈ gtbl := gtbl_in (List.mem_append_left _ (List.mem_map.mpr ⟨q, List.mem_append_right _ (List.mem_append_left _ (List.mem_of_getElem? h)), rfl⟩)) hg
theorem tp_3 {q : MethodName × Nat} (i : Nat) (h : lw_privs_3[i]? = some q) (hg : goodWord (Cond.selects q.1.cls q.1 q.1) = true) : Cond.selects q.1.cls q.1 q.1 ∈ gtbl := gtbl_in (List.mem_append_left _ (List.mem_map.mpr ⟨q, List.mem_append_right _ (List.mem_append_right _ (List.mem_append_left _ (List.mem_of_getElem? h))), rfl⟩)) hg
theorem tp_4 {q : MethodName × Nat} (i : Nat) (h : lw_privs_4[i]? = some q) (hg : goodWord (Cond.selects q.1.cls q.1 q.1) = true) : Cond.selects q.1.cls q.1 q.1 ∈ gtbl := gtbl_in (List.mem_append_left _ (List.mem_map.mpr ⟨q, List.mem_append_right _ (List.mem_append_right _ (List.mem_append_right _ (List.mem_append_left _ (List.mem_of_getElem? h)))), rfl⟩)) hg
theorem tp_5 {q : MethodName × Nat} (i : Nat) (h : lw_privs_5[i]? = some q) (hg : goodWord (Cond.selects q.1.cls q.1 q.1) = true) : Cond.selects q.1.cls q.1 q.1 ∈ gtbl := gtbl_in (List.mem_append_left _ (List.mem_map.mpr ⟨q, List.mem_append_right _ (List.mem_append_right _ (List.mem_append_right _ (List.mem_append_right _ (List.mem_append_left _ (List.mem_of_getElem? h))))), rfl⟩)) hg
theorem tp_6 {q : MethodName × Nat} (i : Nat) (h : lw_privs_6[i]? = some q) (hg : goodWord (Cond.selects q.1.cls q.1 q.1) = true) : Cond.selects q.1.cls q.1 q.1 ∈ gtbl := gtbl_in (List.mem_append_left _ (List.mem_map.mpr ⟨q, List.mem_append_right _ (List.mem_append_right _ (List.mem_append_right _ (List.mem_append_right _ (List.mem_append_right _ (List.mem_of_getElem? h))))), rfl⟩)) hg
abbrev Hp : Type := (Nat → Nat → Int32) × (Nat → Nat → Int64) × (Nat → Nat → Option Nat) × (Nat → Option (Nat × Nat))
def hI (μ : Hp) : Nat → Nat → Int32 := μ.1
def hL (μ : Hp) : Nat → Nat → Int64 := μ.2.1
def hR (μ : Hp) : Nat → Nat → Option Nat := μ.2.2.1
def hS (μ : Hp) : Nat → Option (Nat × Nat) := μ.2.2.2
def wI (μ : Hp) (a k : Nat) (x : Int32) : Hp := (va_up (hI μ) a (upd (hI μ a) k x), hL μ, hR μ, hS μ)
def wL (μ : Hp) (a k : Nat) (x : Int64) : Hp := (hI μ, va_up (hL μ) a (vp_updL (hL μ a) k x), hR μ, hS μ)
def wR (μ : Hp) (a k : Nat) (x : Option Nat) : Hp := (hI μ, hL μ, va_up (hR μ) a (va_up (hR μ a) k x), hS μ)
/-- the whole contents of an int row -/
def wRow (μ : Hp) (a : Nat) (f : Nat → Int32) : Hp := (va_up (hI μ) a f, hL μ, hR μ, hS μ)
/-- a new cell -/
def wN (μ : Hp) (a kd n : Nat) : Hp := (va_up (hI μ) a (fun _ => 0), va_up (hL μ) a (fun _ => 0), va_up (hR μ) a (fun _ => none), va_up (hS μ) a (some (kd, n)))
/-- a field's sort: 0 int-like, 1 long, 2 reference; by class and slot -/
def fkT : List (List Nat) := [[2, 0, 0, 0], [2], [2, 2, 2, 2, 2, 0, 0, 0, 0], [2, 0, 2, 2, 2, 2, 2, 0, 0], [0, 0, 2], [0, 0, 2], [0, 0, 0, 0, 2], [2, 0], [2, 2, 0, 0], [2, 0, 0, 0, 0], [2, 2, 2, 2, 2, 2, 2, 2, 2, 2, 2, 2, 2, 2, 2, 0, 0, 1], [0, 2, 0, 0, 0, 0, 1, 2, 2, 2, 2, 2, 2, 2, 2, 2, 2, 2, 2, 0, 0, 0, 0, 0, 0, 0, 0, 0, 2, 2, 2, 2, 2, 2, 0, 0, 0, 0, 0, 0, 0, 0, 0, 2, 2, 2, 2, 2, 2, 2, 0, 0, 0, 0, 0, 2, 0, 0, 0, 0, 0, 0, 1, 2, 0]]
def fk (c k : Nat) : Nat := (fkT.getD c []).getD k 0
def fval (μ : Hp) (a c k : Nat) : Value := match fk c k with
  | 0 => .int (hI μ a k)
  | 1 => .long (hL μ a k)
  | _ => va_rf (hR μ a k)
def cellOf (cA : Nat → ClassId) (μ : Hp) (a : Nat) : va_E := match hS μ a with
  | some (0, n) => .inl (cA 0, n, .inl (hI μ a))
  | some (1, n) => .inl (cA 1, n, .inl (hI μ a))
  | some (2, n) => .inl (cA 2, n, .inr (.inl (hL μ a)))
  | some (3, n) => .inl (cA 3, n, .inr (.inr (.inr (.inr (hR μ a)))))
  | some (k + 4, n) => .inr (k, (List.range n).map (fval μ a k))
  | none => .inr (1000, [])
theorem cell_int {cA : Nat → ClassId} {μ : Hp} {a n : Nat} (h : hS μ a = some (0, n)) : cellOf cA μ a = .inl (cA 0, n, .inl (hI μ a)) := by simp [cellOf, h]
theorem cell_byte {cA : Nat → ClassId} {μ : Hp} {a n : Nat} (h : hS μ a = some (1, n)) : cellOf cA μ a = .inl (cA 1, n, .inl (hI μ a)) := by simp [cellOf, h]
theorem cell_long {cA : Nat → ClassId} {μ : Hp} {a n : Nat} (h : hS μ a = some (2, n)) : cellOf cA μ a = .inl (cA 2, n, .inr (.inl (hL μ a))) := by simp [cellOf, h]
theorem cell_scr {cA : Nat → ClassId} {μ : Hp} {a n : Nat} (h : hS μ a = some (3, n)) : cellOf cA μ a = .inl (cA 3, n, .inr (.inr (.inr (.inr (hR μ a))))) := by simp [cellOf, h]
theorem cell_obj {cA : Nat → ClassId} {μ : Hp} {a k n : Nat} (h : hS μ a = some (k + 4, n)) : cellOf cA μ a = .inr (k, (List.range n).map (fval μ a k)) := by simp [cellOf, h]
/-- a cell that is not the one written -/
theorem cell_ne {cA : Nat → ClassId} {μ μ' : Hp} {b : Nat} (h0 : hS μ' b = hS μ b) (h1 : hI μ' b = hI μ b) (h2 : hL μ' b = hL μ b) (h3 : hR μ' b = hR μ b) : cellOf cA μ' b = cellOf cA μ b := by
  have hf : ∀ k, fval μ' b k = fval μ b k := fun k => by
    funext j
    simp only [fval, h1, h2, h3]
  simp only [cellOf, h0, h1, h2, h3, hf]
theorem cell_up {cA : Nat → ClassId} {μ μ' : Hp} {a : Nat} {e : va_E} (h : ∀ b, b ≠ a → cellOf cA μ' b = cellOf cA μ b) (ha : cellOf cA μ' a = e) : ∀ b, va_up (cellOf cA μ) a e b = cellOf cA μ' b := by
  intro b
  by_cases hb : b = a
  · subst hb
    rw [va_up_self, ha]
  · rw [va_up_ne _ _ hb, h b hb]
theorem wI_ne {μ : Hp} {a k : Nat} {x : Int32} {cA : Nat → ClassId} : ∀ b, b ≠ a → cellOf cA (wI μ a k x) b = cellOf cA μ b := fun b hb => cell_ne rfl (va_up_ne _ _ hb) rfl rfl
theorem wL_ne {μ : Hp} {a k : Nat} {x : Int64} {cA : Nat → ClassId} : ∀ b, b ≠ a → cellOf cA (wL μ a k x) b = cellOf cA μ b := fun b hb => cell_ne rfl rfl (va_up_ne _ _ hb) rfl
theorem wR_ne {μ : Hp} {a k : Nat} {x : Option Nat} {cA : Nat → ClassId} : ∀ b, b ≠ a → cellOf cA (wR μ a k x) b = cellOf cA μ b := fun b hb => cell_ne rfl rfl rfl (va_up_ne _ _ hb)
theorem wRow_ne {μ : Hp} {a : Nat} {f : Nat → Int32} {cA : Nat → ClassId} : ∀ b, b ≠ a → cellOf cA (wRow μ a f) b = cellOf cA μ b := fun b hb => cell_ne rfl (va_up_ne _ _ hb) rfl rfl
theorem wN_ne {μ : Hp} {a kd n : Nat} {cA : Nat → ClassId} : ∀ b, b ≠ a → cellOf cA (wN μ a kd n) b = cellOf cA μ b := fun b hb => cell_ne (va_up_ne _ _ hb) (va_up_ne _ _ hb) (va_up_ne _ _ hb) (va_up_ne _ _ hb)
theorem range_set {α : Type} {n k : Nat} {f g : Nat → α} (hk : k < n) (h : ∀ j, j ≠ k → g j = f j) : ((List.range n).map f).set k (g k) = (List.range n).map g := by
  apply List.ext_getElem?
  intro i
  by_cases hi : i = k
  · subst hi
    rw [List.getElem?_set_self (by simpa using hk)]
    simp [hk]
  · rw [List.getElem?_set_ne (fun e => hi e.symm)]
    by_cases hl : i < n
    · simp [hl, h i hi]
    · simp [hl]
theorem fval_get {μ : Hp} {a c k n : Nat} (h : k < n) : ((List.range n).map (fval μ a c))[k]? = some (fval μ a c k) := by simp [h]
theorem fval_int {μ : Hp} {a c k : Nat} (h : fk c k = 0) : fval μ a c k = .int (hI μ a k) := by simp [fval, h]
theorem fval_long {μ : Hp} {a c k : Nat} (h : fk c k = 1) : fval μ a c k = .long (hL μ a k) := by simp [fval, h]
theorem fval_ref {μ : Hp} {a c k : Nat} (h : fk c k = 2) : fval μ a c k = va_rf (hR μ a k) := by simp [fval, h]
theorem upd_s (f : Nat → Int32) (k : Nat) (x : Int32) : upd f k x k = x := by simp [upd]
theorem upd_n {f : Nat → Int32} {k j : Nat} (x : Int32) (h : j ≠ k) : upd f k x j = f j := by simp [upd, h]
theorem updL_s (f : Nat → Int64) (k : Nat) (x : Int64) : vp_updL f k x k = x := by simp [vp_updL]
theorem updL_n {f : Nat → Int64} {k j : Nat} (x : Int64) (h : j ≠ k) : vp_updL f k x j = f j := by simp [vp_updL, h]
theorem hI_wI_s (μ : Hp) (a k : Nat) (x : Int32) : hI (wI μ a k x) a = upd (hI μ a) k x := va_up_self _ _ _
theorem hL_wL_s (μ : Hp) (a k : Nat) (x : Int64) : hL (wL μ a k x) a = vp_updL (hL μ a) k x := va_up_self _ _ _
theorem hR_wR_s (μ : Hp) (a k : Nat) (x : Option Nat) : hR (wR μ a k x) a = va_up (hR μ a) k x := va_up_self _ _ _
theorem objI {cA : Nat → ClassId} {μ : Hp} {a c k n : Nat} {x : Int32} (h : hS μ a = some (c + 4, n)) (hk : k < n) (hf : fk c k = 0) : cellOf cA (wI μ a k x) a = .inr (c, ((List.range n).map (fval μ a c)).set k (.int x)) := by
  rw [cell_obj (show hS (wI μ a k x) a = some (c + 4, n) from h)]
  have e : fval (wI μ a k x) a c k = .int x := by rw [fval_int hf, hI_wI_s, upd_s]
  rw [← e, range_set hk]
  intro j hj
  show fval (wI μ a k x) a c j = fval μ a c j
  simp only [fval, hI_wI_s, upd_n x hj]
  rfl
theorem objL {cA : Nat → ClassId} {μ : Hp} {a c k n : Nat} {x : Int64} (h : hS μ a = some (c + 4, n)) (hk : k < n) (hf : fk c k = 1) : cellOf cA (wL μ a k x) a = .inr (c, ((List.range n).map (fval μ a c)).set k (.long x)) := by
  rw [cell_obj (show hS (wL μ a k x) a = some (c + 4, n) from h)]
  have e : fval (wL μ a k x) a c k = .long x := by rw [fval_long hf, hL_wL_s, updL_s]
  rw [← e, range_set hk]
  intro j hj
  show fval (wL μ a k x) a c j = fval μ a c j
  simp only [fval, hL_wL_s, updL_n x hj]
  rfl
theorem objR {cA : Nat → ClassId} {μ : Hp} {a c k n : Nat} {x : Option Nat} (h : hS μ a = some (c + 4, n)) (hk : k < n) (hf : fk c k = 2) : cellOf cA (wR μ a k x) a = .inr (c, ((List.range n).map (fval μ a c)).set k (va_rf x)) := by
  rw [cell_obj (show hS (wR μ a k x) a = some (c + 4, n) from h)]
  have e : fval (wR μ a k x) a c k = va_rf x := by rw [fval_ref hf, hR_wR_s, va_up_self]
  rw [← e, range_set hk]
  intro j hj
  show fval (wR μ a k x) a c j = fval μ a c j
  simp only [fval, hR_wR_s, va_up_ne _ _ hj]
  rfl
