/-! feed and end, both -/
def bt (x : Int32) (k : Nat) : Nat := x.toBitVec.toNat / 2 ^ (8 * k) % 256
theorem and255 (y : Int32) : y &&& 255 = nI (y.toBitVec.toNat % 256) := by
  apply Int32.toBitVec_inj.mp
  apply BitVec.eq_of_toNat_eq
  have e : (y &&& 255).toBitVec = y.toBitVec &&& 255#32 := rfl
  rw [e, BitVec.toNat_and, pk_tn (by omega)]
  exact Nat.and_two_pow_sub_one_eq_mod _ 8
theorem ss255 (b : BitVec 32) (k : Nat) (hk : k ≤ 24) : b.sshiftRight k &&& 255#32 = (b >>> k) &&& 255#32 := by
  apply BitVec.eq_of_getLsbD_eq
  intro i hi
  rw [BitVec.getLsbD_and, BitVec.getLsbD_and, BitVec.getLsbD_sshiftRight, BitVec.getLsbD_ushiftRight]
  by_cases h8 : i < 8
  · have h1 : k + i < 32 := by omega
    have h2 : ¬ 32 ≤ i := by omega
    simp [h1, h2]
  · have : (255#32).getLsbD i = false := by
      rw [BitVec.getLsbD_ofNat]
      have : (255 : Nat).testBit i = false := Nat.testBit_lt_two_pow (Nat.lt_of_lt_of_le (by decide : 255 < 2 ^ 8) (Nat.pow_le_pow_right (by omega) (by omega)))
      rw [this]; simp
    rw [this, Bool.and_false, Bool.and_false]
theorem bt_c {x : Int32} {k : Nat} (hk : k < 4) : (x.toUInt32 >>> ((nI (8 * k)).toUInt32 &&& Int32.toUInt32 31)).toInt32 &&& 255 = nI (bt x k) := by
  have hs : (((nI (8 * k)).toUInt32 &&& Int32.toUInt32 31).toBitVec % 32).toNat = 8 * k := by
    have : k = 0 ∨ k = 1 ∨ k = 2 ∨ k = 3 := by omega
    rcases this with rfl | rfl | rfl | rfl <;> decide
  rw [and255, pk_ushr _ _ _ hs]
  rfl
theorem ss_e1 (x s : Int32) (K : Nat) (h : ((s &&& 31).toBitVec.smod 32).toNat = K) : ((x >>> (s &&& 31)) &&& 255).toBitVec = x.toBitVec.sshiftRight K &&& 255#32 := by
  subst h; rfl
theorem ss_e3 (x s : Int32) (K : Nat) (h : ((s.toUInt32 &&& Int32.toUInt32 31).toBitVec % 32).toNat = K) : (x.toUInt32 >>> (s.toUInt32 &&& Int32.toUInt32 31)).toInt32.toBitVec = x.toBitVec >>> K := by
  subst h
  exact UInt32.toBitVec_shiftRight _ _
theorem bt_m {x : Int32} {k : Nat} (hk : k < 4) : (x >>> (nI (8 * k) &&& 31)) &&& 255 = nI (bt x k) := by
  have hs : ((nI (8 * k) &&& 31).toBitVec.smod 32).toNat = 8 * k := by
    have : k = 0 ∨ k = 1 ∨ k = 2 ∨ k = 3 := by omega
    rcases this with rfl | rfl | rfl | rfl <;> decide
  have e : (x >>> (nI (8 * k) &&& 31)) &&& 255 = (x.toUInt32 >>> ((nI (8 * k)).toUInt32 &&& Int32.toUInt32 31)).toInt32 &&& 255 := by
    apply Int32.toBitVec_inj.mp
    have e1 : ((x >>> (nI (8 * k) &&& 31)) &&& 255).toBitVec = x.toBitVec.sshiftRight (8 * k) &&& 255#32 := by
      exact ss_e1 x _ _ hs
    have hs2 : (((nI (8 * k)).toUInt32 &&& Int32.toUInt32 31).toBitVec % 32).toNat = 8 * k := by
      have : k = 0 ∨ k = 1 ∨ k = 2 ∨ k = 3 := by omega
      rcases this with rfl | rfl | rfl | rfl <;> decide
    have e2 : ((x.toUInt32 >>> ((nI (8 * k)).toUInt32 &&& Int32.toUInt32 31)).toInt32 &&& 255).toBitVec = (x.toBitVec >>> (8 * k)) &&& 255#32 := by
      have e3 : (x.toUInt32 >>> ((nI (8 * k)).toUInt32 &&& Int32.toUInt32 31)).toInt32.toBitVec = x.toBitVec >>> (8 * k) := by
        exact ss_e3 x _ _ hs2
      have e4 : ((x.toUInt32 >>> ((nI (8 * k)).toUInt32 &&& Int32.toUInt32 31)).toInt32 &&& 255).toBitVec = (x.toUInt32 >>> ((nI (8 * k)).toUInt32 &&& Int32.toUInt32 31)).toInt32.toBitVec &&& 255#32 := rfl
      rw [e4, e3]
    rw [e1, e2, ss255 _ _ (by omega)]
  rw [e, bt_c hk]
theorem bt_lt (x : Int32) (k : Nat) : bt x k < 256 := Nat.mod_lt _ (by omega)
/-- the bytes of a number, the highest first; the tape behind them -/
def bysN (x : Int32) : Nat → List Nat
  | 0 => []
  | k + 1 => (if bt x k = 0 then [] else [bt x k]) ++ bysN x k
def updN (f : Nat → Nat) (k v : Nat) : Nat → Nat := fun j => if j = k then v else f j
def apT (p : Nat × (Nat → Nat)) (bs : List Nat) : Nat × (Nat → Nat) := bs.foldl (fun p b => (p.1 + 1, updN p.2 p.1 b)) p
theorem apT_1 (p : Nat × (Nat → Nat)) (bs : List Nat) : (apT p bs).1 = p.1 + bs.length := by
  induction bs generalizing p with
  | nil => rfl
  | cons b bs ih =>
    show (apT (p.1 + 1, updN p.2 p.1 b) bs).1 = _
    rw [ih, List.length_cons]
    show p.1 + 1 + bs.length = p.1 + (bs.length + 1)
    omega
theorem bysN_len (x : Int32) : ∀ k, (bysN x k).length = cntU (fun j => decide (bt x j ≠ 0)) k
  | 0 => rfl
  | k + 1 => by
    rw [bysN, List.length_append, bysN_len x k, cntU]
    by_cases h : bt x k = 0
    · rw [if_pos h, if_neg (by simp [h])]; simp
    · rw [if_neg h, if_pos (by simp [h])]; simp; omega
theorem bys_le (x : Int32) : (bysN x 4).length ≤ 4 := by rw [bysN_len]; exact cntU_le _ 4
def St.upT (S : St) (p : Nat × (Nat → Nat)) : St := (S.1, S.2.1, S.2.2.1, S.2.2.2.1, S.2.2.2.2.1, S.2.2.2.2.2.1, S.2.2.2.2.2.2.1, p, S.2.2.2.2.2.2.2.2)
def fedB (a b c d e : Int32) : List Nat := bysN a 4 ++ (bysN b 4 ++ (bysN c 4 ++ (bysN d 4 ++ bysN e 4)))
def St.feed (S : St) (a b c d e : Int32) : St := if S.len + (fedB a b c d e).length ≤ 400 then S.upT (apT (S.len, S.tp) (fedB a b c d e)) else S
def aFeed (S : St) (a b c d e : Int32) : Int32 := if S.len + (fedB a b c d e).length ≤ 400 then nI (S.len + (fedB a b c d e).length) else -1
def St.endT (S : St) (n : Int32) : St := if ¬ n < 0 ∧ n ≤ nI S.len then S.upT (cl n, S.tp) else S
def aEnd (S : St) (n : Int32) : Int32 := if ¬ n < 0 ∧ n ≤ nI S.len then 1 else 0
theorem loopDown {Q : Nat → Prop} (n : Nat) (h0 : Q 0) (hs : ∀ k, k < n → Q k → Q (k + 1)) : Q n := by
  have : ∀ k, k ≤ n → Q k := by
    intro k
    induction k with
    | zero => exact fun _ => h0
    | succ k ih => exact fun hk => hs k (by omega) (ih (by omega))
  exact this n (Nat.le_refl _)
section feed
variable {d : Nat} {ro : Nat → Nat} {μ : Hp}
theorem c_bytesIn {x : Int32} : xC d yX6_bytesIn cX6_bytesIn 3 (some .int) 0 0 [.int x] μ ro (fun r μ' => μ' = μ ∧ r = some (.int (nI (bysN x 4).length))) := by
  rw [bysN_len]
  refine I_X6_bytesIn (fun J g hr => B_X6_bytesIn_0 g hr ?_)
  have key := loopUp (Q := fun i => J μ 0 0 4 [(0, .int x), (1, .int (nI (cntU (fun j => decide (bt x j ≠ 0)) i))), (2, .int (nI (8 * i)))] []) 4 ?_ (fun i hi ih => ?_) 0 (Nat.zero_le _)
  · exact key
  · exact B_X6_bytesIn_4 g hr ⟨fun _ => ⟨rfl, rfl⟩, fun c => absurd (Int32.le_refl _) c⟩
  · refine B_X6_bytesIn_4 g hr ⟨fun c => absurd c (nI_ge (a := 8 * i) (b := 32) (by omega) (by omega)), fun _ v ev => ?_⟩
    rw [ev, bt_c hi, show nI (8 * i) + 8 = nI (8 * (i + 1)) from nI_add _ 8]
    have hb := bt_lt x i
    refine ⟨fun c => ?_, fun c => ?_⟩
    · have c' : bt x i ≠ 0 := fun q => c (by rw [q]; rfl)
      rw [cnt_t (by simp [c'])] at ih
      rw [nI_1]; exact ih
    · have c' : bt x i = 0 := by
        rcases Nat.eq_zero_or_pos (bt x i) with q | q
        · exact q
        · exact absurd c (nI_ne0 q (by omega))
      rw [cnt_f (by simp [c'])] at ih
      rw [Int32.add_zero]; exact ih
theorem m_bytesOf {x : Int32} : xC d yX12_bytesOf cX12_bytesOf 3 (some .int) 0 0 [.int x] μ ro (fun r μ' => μ' = μ ∧ r = some (.int (nI (bysN x 4).length))) := by
  rw [bysN_len]
  refine I_X12_bytesOf (fun J g hr => B_X12_bytesOf_0 g hr ?_)
  have key := loopUp (Q := fun i => J μ 0 0 4 [(0, .int x), (1, .int (nI (cntU (fun j => decide (bt x j ≠ 0)) i))), (2, .int (nI i))] []) 4 ?_ (fun i hi ih => ?_) 0 (Nat.zero_le _)
  · exact key
  · exact B_X12_bytesOf_4 g hr ⟨fun _ => ⟨rfl, rfl⟩, fun c => absurd (Int32.le_refl _) c⟩
  · refine B_X12_bytesOf_4 g hr ⟨fun c => absurd c (nI_ge (a := i) (b := 4) (by omega) (by omega)), fun _ => ?_⟩
    rw [show (8 : Int32) * nI i = nI (8 * i) from i_mul 8 i, bt_m hi, nI_1 i]
    have hb := bt_lt x i
    refine ⟨fun c => ?_, fun c => ?_⟩
    · have c' : bt x i ≠ 0 := fun q => c (by rw [q]; rfl)
      rw [cnt_t (by simp [c'])] at ih
      rw [nI_1]; exact ih
    · have c' : bt x i = 0 := by
        rcases Nat.eq_zero_or_pos (bt x i) with q | q
        · exact q
        · exact absurd c (nI_ne0 q (by omega))
      rw [cnt_f (by simp [c'])] at ih
      rw [Int32.add_zero]; exact ih
theorem step8 (k : Nat) : nI (8 * (k + 1)) + (-8) = nI (8 * k) := by
  rw [show nI (8 * (k + 1)) = nI (8 * k) + 8 from (nI_add (8 * k) 8).symm, Int32.add_assoc]
  rw [show (8 : Int32) + (-8) = 0 by decide, Int32.add_zero]
theorem c_put {A : Nat → Nat} {x : Int32} {len : Nat} {tp : Nat → Nat} (hsh : cSh μ A) (hj : cInj A) (h : cTp μ A len tp) (hl : len + (bysN x 4).length ≤ 400) : xC d yX6_put cX6_put 4 none 0 0 [.ref (A 1), .int x] μ ro (fun r μ' => r = none ∧ gFr [1, 2] A μ μ' ∧ cTp μ' A (apT (len, tp) (bysN x 4)).1 (apT (len, tp) (bysN x 4)).2) := by
  refine I_X6_put (fun J g hr => B_X6_put_0 g hr ?_)
  have key := loopDown (Q := fun k => ∀ (μ' : Hp) (p : Nat × (Nat → Nat)), gFr [1, 2] A μ μ' → cTp μ' A p.1 p.2 → p.1 + (bysN x k).length ≤ 400 → apT p (bysN x k) = apT (len, tp) (bysN x 4) → J μ' 0 0 3 [(0, .ref (A 1)), (1, .int x), (2, .int (nI (8 * k) + (-8)))] []) 4 ?_ (fun k hk ih μ' p hF hp hl' he => ?_) μ (len, tp) gFr.rf h hl rfl
  · exact key
  · intro μ' p hF hp hl' he
    have hs' : cSh μ' A := hsh.of hF.2.1 hF.1
    refine B_X6_put_3 g hr (hs'.s 1 10 5) (hs'.r 1 4 2) (hs'.s 2 0 400) ⟨fun _ => ⟨rfl, hF, ?_⟩, fun c => absurd (by decide) c⟩
    rw [← he]; exact hp
  · have hs' : cSh μ' A := hsh.of hF.2.1 hF.1
    have hb := bt_lt x k
    rw [step8]
    refine B_X6_put_3 g hr (hs'.s 1 10 5) (hs'.r 1 4 2) (hs'.s 2 0 400) ⟨fun c => absurd c (nI_pos (by omega)), fun _ v ev => ?_⟩
    rw [ev, bt_c hk]
    rw [bysN] at hl' he
    refine ⟨fun c => ?_, fun c => ?_⟩
    · have c' : bt x k = 0 := by
        rcases Nat.eq_zero_or_pos (bt x k) with q | q
        · exact q
        · exact absurd c (nI_ne0 q (by omega))
      rw [if_pos c', List.nil_append] at hl' he
      exact ih μ' p hF hp hl' he
    · have c' : ¬ bt x k = 0 := fun q => c (by rw [q]; rfl)
      rw [if_neg c', List.singleton_append] at hl' he
      rw [List.length_cons] at hl'
      obtain ⟨p1, p2, p3⟩ := hp
      rw [p1]
      refine ⟨fun c => absurd c (nI_ge (a := p.1) (b := 400) (by omega) (by omega)), fun _ => ⟨vp_in_nI (by omega) (by omega), fun v6 e6 => ?_⟩⟩
      rw [nI_clamp (by omega), hI_wI_n _ _ _ (hj.ne 1 2), p1] at e6
      rw [nI_clamp (by omega), e6, nI_1]
      refine ih _ (p.1 + 1, updN p.2 p.1 (bt x k)) ?_ ⟨?_, by omega, fun i hi => ?_⟩ (by simpa using (by omega : p.1 + 1 + (bysN x k).length ≤ 400)) he
      · exact hF.tt (Fr.g ((Fr.rf.wiA 2 _ _).wiA 1 _ _))
      · rw [hI_wI_s, upd_s]
      · have hi' : i < p.1 + 1 := hi
        rw [hI_wI_n _ _ _ (hj.ne 2 1), hI_wI_s]
        show upd (hI μ' (A 2)) p.1 (nI (bt x k)) i = nI (updN p.2 p.1 (bt x k) i) ∧ 1 ≤ updN p.2 p.1 (bt x k) i ∧ updN p.2 p.1 (bt x k) i ≤ 255
        unfold updN
        by_cases e : i = p.1
        · subst e; rw [upd_s, if_pos rfl]; exact ⟨rfl, by omega, by omega⟩
        · rw [upd_n _ e, if_neg e]; exact p3 i (by omega)
end feed
