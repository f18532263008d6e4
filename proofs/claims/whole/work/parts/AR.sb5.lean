/-! a way in words: the class -/
theorem dX9_putName_0 : decode cX9_putName 0 = .ok (.iconst 0, 1) := by decide +kernel
theorem dX9_putName_1 : decode cX9_putName 1 = .ok (.istore_n 3, 1) := by decide +kernel
theorem dX9_putName_2 : decode cX9_putName 2 = .ok (.iload_n 3, 1) := by decide +kernel
theorem dX9_putName_3 : decode cX9_putName 3 = .ok (.bipush 8, 2) := by decide +kernel
theorem dX9_putName_5 : decode cX9_putName 5 = .ok (.if_icmp .ge 30, 3) := by decide +kernel
theorem dX9_putName_8 : decode cX9_putName 8 = .ok (.lload_n 1, 1) := by decide +kernel
theorem dX9_putName_9 : decode cX9_putName 9 = .ok (.iload_n 3, 1) := by decide +kernel
theorem dX9_putName_10 : decode cX9_putName 10 = .ok (.invokestatic 55, 3) := by decide +kernel
theorem dX9_putName_13 : decode cX9_putName 13 = .ok (.istore 4, 2) := by decide +kernel
theorem dX9_putName_15 : decode cX9_putName 15 = .ok (.iload 4, 2) := by decide +kernel
theorem dX9_putName_17 : decode cX9_putName 17 = .ok (.iconst (-1), 1) := by decide +kernel
theorem dX9_putName_18 : decode cX9_putName 18 = .ok (.if_icmp .eq 11, 3) := by decide +kernel
theorem dX9_putName_21 : decode cX9_putName 21 = .ok (.aload_n 0, 1) := by decide +kernel
theorem dX9_putName_22 : decode cX9_putName 22 = .ok (.iload 4, 2) := by decide +kernel
theorem dX9_putName_24 : decode cX9_putName 24 = .ok (.i2c, 1) := by decide +kernel
theorem dX9_putName_25 : decode cX9_putName 25 = .ok (.invokevirtual 52, 3) := by decide +kernel
theorem dX9_putName_28 : decode cX9_putName 28 = .ok (.pop, 1) := by decide +kernel
theorem dX9_putName_29 : decode cX9_putName 29 = .ok (.iinc 3 1, 3) := by decide +kernel
theorem dX9_putName_32 : decode cX9_putName 32 = .ok (.goto (-30), 3) := by decide +kernel
theorem dX9_putName_35 : decode cX9_putName 35 = .ok (.return_, 1) := by decide +kernel
theorem dX9_tell_0 : decode cX9_tell 0 = .ok (.aload_n 1, 1) := by decide +kernel
theorem dX9_tell_1 : decode cX9_tell 1 = .ok (.aload_n 2, 1) := by decide +kernel
theorem dX9_tell_2 : decode cX9_tell 2 = .ok (.getfield 33, 3) := by decide +kernel
theorem dX9_tell_5 : decode cX9_tell 5 = .ok (.aload_n 0, 1) := by decide +kernel
theorem dX9_tell_6 : decode cX9_tell 6 = .ok (.getfield 15, 3) := by decide +kernel
theorem dX9_tell_9 : decode cX9_tell 9 = .ok (.laload, 1) := by decide +kernel
theorem dX9_tell_10 : decode cX9_tell 10 = .ok (.invokestatic 37, 3) := by decide +kernel
theorem dX9_tell_13 : decode cX9_tell 13 = .ok (.iconst 0, 1) := by decide +kernel
theorem dX9_tell_14 : decode cX9_tell 14 = .ok (.istore_n 3, 1) := by decide +kernel
theorem dX9_tell_15 : decode cX9_tell 15 = .ok (.iload_n 3, 1) := by decide +kernel
theorem dX9_tell_16 : decode cX9_tell 16 = .ok (.aload_n 0, 1) := by decide +kernel
theorem dX9_tell_17 : decode cX9_tell 17 = .ok (.getfield 19, 3) := by decide +kernel
theorem dX9_tell_20 : decode cX9_tell 20 = .ok (.if_icmp .ge 119, 3) := by decide +kernel
theorem dX9_tell_23 : decode cX9_tell 23 = .ok (.aload_n 0, 1) := by decide +kernel
theorem dX9_tell_24 : decode cX9_tell 24 = .ok (.getfield 11, 3) := by decide +kernel
theorem dX9_tell_27 : decode cX9_tell 27 = .ok (.iconst 5, 1) := by decide +kernel
theorem dX9_tell_28 : decode cX9_tell 28 = .ok (.iload_n 3, 1) := by decide +kernel
theorem dX9_tell_29 : decode cX9_tell 29 = .ok (.iadd, 1) := by decide +kernel
theorem dX9_tell_30 : decode cX9_tell 30 = .ok (.iaload, 1) := by decide +kernel
theorem dX9_tell_31 : decode cX9_tell 31 = .ok (.istore 4, 2) := by decide +kernel
theorem dX9_tell_33 : decode cX9_tell 33 = .ok (.aload_n 1, 1) := by decide +kernel
theorem dX9_tell_34 : decode cX9_tell 34 = .ok (.ldc 41, 2) := by decide +kernel
theorem dX9_tell_36 : decode cX9_tell 36 = .ok (.invokevirtual 43, 3) := by decide +kernel
theorem dX9_tell_39 : decode cX9_tell 39 = .ok (.iload 4, 2) := by decide +kernel
theorem dX9_tell_41 : decode cX9_tell 41 = .ok (.bipush 10, 2) := by decide +kernel
theorem dX9_tell_43 : decode cX9_tell 43 = .ok (.idiv, 1) := by decide +kernel
theorem dX9_tell_44 : decode cX9_tell 44 = .ok (.invokevirtual 49, 3) := by decide +kernel
theorem dX9_tell_47 : decode cX9_tell 47 = .ok (.pop, 1) := by decide +kernel
theorem dX9_tell_48 : decode cX9_tell 48 = .ok (.iload 4, 2) := by decide +kernel
theorem dX9_tell_50 : decode cX9_tell 50 = .ok (.bipush 10, 2) := by decide +kernel
theorem dX9_tell_52 : decode cX9_tell 52 = .ok (.irem, 1) := by decide +kernel
theorem dX9_tell_53 : decode cX9_tell 53 = .ok (.ifCond .eq 18, 3) := by decide +kernel
theorem dX9_tell_56 : decode cX9_tell 56 = .ok (.aload_n 1, 1) := by decide +kernel
theorem dX9_tell_57 : decode cX9_tell 57 = .ok (.bipush 46, 2) := by decide +kernel
theorem dX9_tell_59 : decode cX9_tell 59 = .ok (.invokevirtual 52, 3) := by decide +kernel
theorem dX9_tell_62 : decode cX9_tell 62 = .ok (.iload 4, 2) := by decide +kernel
theorem dX9_tell_64 : decode cX9_tell 64 = .ok (.bipush 10, 2) := by decide +kernel
theorem dX9_tell_66 : decode cX9_tell 66 = .ok (.irem, 1) := by decide +kernel
theorem dX9_tell_67 : decode cX9_tell 67 = .ok (.invokevirtual 49, 3) := by decide +kernel
theorem dX9_tell_70 : decode cX9_tell 70 = .ok (.pop, 1) := by decide +kernel
theorem dX9_tell_71 : decode cX9_tell 71 = .ok (.aload_n 1, 1) := by decide +kernel
theorem dX9_tell_72 : decode cX9_tell 72 = .ok (.bipush 37, 2) := by decide +kernel
theorem dX9_tell_74 : decode cX9_tell 74 = .ok (.invokevirtual 52, 3) := by decide +kernel
theorem dX9_tell_77 : decode cX9_tell 77 = .ok (.pop, 1) := by decide +kernel
theorem dX9_tell_78 : decode cX9_tell 78 = .ok (.aload_n 0, 1) := by decide +kernel
theorem dX9_tell_79 : decode cX9_tell 79 = .ok (.getfield 11, 3) := by decide +kernel
theorem dX9_tell_82 : decode cX9_tell 82 = .ok (.bipush 10, 2) := by decide +kernel
theorem dX9_tell_84 : decode cX9_tell 84 = .ok (.iload_n 3, 1) := by decide +kernel
theorem dX9_tell_85 : decode cX9_tell 85 = .ok (.iadd, 1) := by decide +kernel
theorem dX9_tell_86 : decode cX9_tell 86 = .ok (.iaload, 1) := by decide +kernel
theorem dX9_tell_87 : decode cX9_tell 87 = .ok (.ifCond .eq 22, 3) := by decide +kernel
theorem dX9_tell_90 : decode cX9_tell 90 = .ok (.aload_n 1, 1) := by decide +kernel
theorem dX9_tell_91 : decode cX9_tell 91 = .ok (.bipush 33, 2) := by decide +kernel
theorem dX9_tell_93 : decode cX9_tell 93 = .ok (.invokevirtual 52, 3) := by decide +kernel
theorem dX9_tell_96 : decode cX9_tell 96 = .ok (.aload_n 0, 1) := by decide +kernel
theorem dX9_tell_97 : decode cX9_tell 97 = .ok (.getfield 11, 3) := by decide +kernel
theorem dX9_tell_100 : decode cX9_tell 100 = .ok (.bipush 10, 2) := by decide +kernel
theorem dX9_tell_102 : decode cX9_tell 102 = .ok (.iload_n 3, 1) := by decide +kernel
theorem dX9_tell_103 : decode cX9_tell 103 = .ok (.iadd, 1) := by decide +kernel
theorem dX9_tell_104 : decode cX9_tell 104 = .ok (.iaload, 1) := by decide +kernel
theorem dX9_tell_105 : decode cX9_tell 105 = .ok (.invokevirtual 49, 3) := by decide +kernel
theorem dX9_tell_108 : decode cX9_tell 108 = .ok (.pop, 1) := by decide +kernel
theorem dX9_tell_109 : decode cX9_tell 109 = .ok (.aload_n 1, 1) := by decide +kernel
theorem dX9_tell_110 : decode cX9_tell 110 = .ok (.bipush 32, 2) := by decide +kernel
theorem dX9_tell_112 : decode cX9_tell 112 = .ok (.invokevirtual 52, 3) := by decide +kernel
theorem dX9_tell_115 : decode cX9_tell 115 = .ok (.pop, 1) := by decide +kernel
theorem dX9_tell_116 : decode cX9_tell 116 = .ok (.aload_n 1, 1) := by decide +kernel
theorem dX9_tell_117 : decode cX9_tell 117 = .ok (.aload_n 2, 1) := by decide +kernel
theorem dX9_tell_118 : decode cX9_tell 118 = .ok (.getfield 33, 3) := by decide +kernel
theorem dX9_tell_121 : decode cX9_tell 121 = .ok (.aload_n 0, 1) := by decide +kernel
theorem dX9_tell_122 : decode cX9_tell 122 = .ok (.getfield 11, 3) := by decide +kernel
theorem dX9_tell_125 : decode cX9_tell 125 = .ok (.iconst 0, 1) := by decide +kernel
theorem dX9_tell_126 : decode cX9_tell 126 = .ok (.iload_n 3, 1) := by decide +kernel
theorem dX9_tell_127 : decode cX9_tell 127 = .ok (.iadd, 1) := by decide +kernel
theorem dX9_tell_128 : decode cX9_tell 128 = .ok (.iaload, 1) := by decide +kernel
theorem dX9_tell_129 : decode cX9_tell 129 = .ok (.laload, 1) := by decide +kernel
theorem dX9_tell_130 : decode cX9_tell 130 = .ok (.invokestatic 37, 3) := by decide +kernel
theorem dX9_tell_133 : decode cX9_tell 133 = .ok (.iinc 3 1, 3) := by decide +kernel
theorem dX9_tell_136 : decode cX9_tell 136 = .ok (.goto (-121), 3) := by decide +kernel
theorem dX9_tell_139 : decode cX9_tell 139 = .ok (.return_, 1) := by decide +kernel
theorem dX11_spell_0 : decode cX11_spell 0 = .ok (.iload 5, 2) := by decide +kernel
theorem dX11_spell_2 : decode cX11_spell 2 = .ok (.iconst (-1), 1) := by decide +kernel
theorem dX11_spell_3 : decode cX11_spell 3 = .ok (.if_icmp .lt 15, 3) := by decide +kernel
theorem dX11_spell_6 : decode cX11_spell 6 = .ok (.aload_n 0, 1) := by decide +kernel
theorem dX11_spell_7 : decode cX11_spell 7 = .ok (.iload_n 1, 1) := by decide +kernel
theorem dX11_spell_8 : decode cX11_spell 8 = .ok (.iload_n 2, 1) := by decide +kernel
theorem dX11_spell_9 : decode cX11_spell 9 = .ok (.iload_n 3, 1) := by decide +kernel
theorem dX11_spell_10 : decode cX11_spell 10 = .ok (.iload 4, 2) := by decide +kernel
theorem dX11_spell_12 : decode cX11_spell 12 = .ok (.invokevirtual 260, 3) := by decide +kernel
theorem dX11_spell_15 : decode cX11_spell 15 = .ok (.ifCond .ne 5, 3) := by decide +kernel
theorem dX11_spell_18 : decode cX11_spell 18 = .ok (.iconst (-1), 1) := by decide +kernel
theorem dX11_spell_19 : decode cX11_spell 19 = .ok (.ireturn, 1) := by decide +kernel
theorem dX11_spell_20 : decode cX11_spell 20 = .ok (.aload_n 0, 1) := by decide +kernel
theorem dX11_spell_21 : decode cX11_spell 21 = .ok (.getfield 58, 3) := by decide +kernel
theorem dX11_spell_24 : decode cX11_spell 24 = .ok (.iconst 0, 1) := by decide +kernel
theorem dX11_spell_25 : decode cX11_spell 25 = .ok (.invokevirtual 273, 3) := by decide +kernel
theorem dX11_spell_28 : decode cX11_spell 28 = .ok (.aload_n 0, 1) := by decide +kernel
theorem dX11_spell_29 : decode cX11_spell 29 = .ok (.getfield 25, 3) := by decide +kernel
theorem dX11_spell_32 : decode cX11_spell 32 = .ok (.getfield 251, 3) := by decide +kernel
theorem dX11_spell_35 : decode cX11_spell 35 = .ok (.aload_n 0, 1) := by decide +kernel
theorem dX11_spell_36 : decode cX11_spell 36 = .ok (.getfield 58, 3) := by decide +kernel
theorem dX11_spell_39 : decode cX11_spell 39 = .ok (.aload_n 0, 1) := by decide +kernel
theorem dX11_spell_40 : decode cX11_spell 40 = .ok (.getfield 72, 3) := by decide +kernel
theorem dX11_spell_43 : decode cX11_spell 43 = .ok (.invokevirtual 276, 3) := by decide +kernel
theorem dX11_spell_46 : decode cX11_spell 46 = .ok (.iload 5, 2) := by decide +kernel
theorem dX11_spell_48 : decode cX11_spell 48 = .ok (.iconst (-1), 1) := by decide +kernel
theorem dX11_spell_49 : decode cX11_spell 49 = .ok (.if_icmp .ne 11, 3) := by decide +kernel
theorem dX11_spell_52 : decode cX11_spell 52 = .ok (.aload_n 0, 1) := by decide +kernel
theorem dX11_spell_53 : decode cX11_spell 53 = .ok (.getfield 58, 3) := by decide +kernel
theorem dX11_spell_56 : decode cX11_spell 56 = .ok (.invokevirtual 280, 3) := by decide +kernel
theorem dX11_spell_59 : decode cX11_spell 59 = .ok (.ireturn, 1) := by decide +kernel
theorem dX11_spell_60 : decode cX11_spell 60 = .ok (.iload 5, 2) := by decide +kernel
theorem dX11_spell_62 : decode cX11_spell 62 = .ok (.aload_n 0, 1) := by decide +kernel
theorem dX11_spell_63 : decode cX11_spell 63 = .ok (.getfield 58, 3) := by decide +kernel
theorem dX11_spell_66 : decode cX11_spell 66 = .ok (.invokevirtual 280, 3) := by decide +kernel
theorem dX11_spell_69 : decode cX11_spell 69 = .ok (.if_icmp .ge 15, 3) := by decide +kernel
theorem dX11_spell_72 : decode cX11_spell 72 = .ok (.aload_n 0, 1) := by decide +kernel
theorem dX11_spell_73 : decode cX11_spell 73 = .ok (.getfield 58, 3) := by decide +kernel
theorem dX11_spell_76 : decode cX11_spell 76 = .ok (.iload 5, 2) := by decide +kernel
theorem dX11_spell_78 : decode cX11_spell 78 = .ok (.invokevirtual 282, 3) := by decide +kernel
theorem dX11_spell_81 : decode cX11_spell 81 = .ok (.goto 4, 3) := by decide +kernel
theorem dX11_spell_84 : decode cX11_spell 84 = .ok (.iconst (-1), 1) := by decide +kernel
theorem dX11_spell_85 : decode cX11_spell 85 = .ok (.ireturn, 1) := by decide +kernel
theorem iJ4_setLength_d00df : Cond.instanceMethod yJ4_setLength_d00df ∈ gtbl := (tb_3 197 (by decide +kernel) rfl)
theorem eJ4_setLength_d00df : Cond.selects yJ4_setLength_d00df.cls yJ4_setLength_d00df yJ4_setLength_d00df ∈ gtbl := (tb_3 198 (by decide +kernel) rfl)
theorem sX11_273 : xSite RX11 273 yJ4_setLength_d00df cJ4_setLength_d00df 2 none 1 := ⟨(tb_3 196 (by decide +kernel) rfl), (tb_1 9 (by decide +kernel) rfl), (tb_3 199 (by decide +kernel) rfl), by decide +kernel, by decide⟩
theorem iX9_tell : Cond.instanceMethod yX9_tell ∈ gtbl := (tb_4 13 (by decide +kernel) rfl)
theorem eX9_tell : Cond.selects yX9_tell.cls yX9_tell yX9_tell ∈ gtbl := (tb_4 14 (by decide +kernel) rfl)
theorem sX11_276 : xSite RX11 276 yX9_tell cX9_tell 5 none 2 := ⟨(tb_4 12 (by decide +kernel) rfl), (tb_1 4 (by decide +kernel) rfl), (tb_4 15 (by decide +kernel) rfl), by decide +kernel, by decide⟩
theorem iJ4_length_8abf5 : Cond.instanceMethod yJ4_length_8abf5 ∈ gtbl := (tb_4 149 (by decide +kernel) rfl)
theorem eJ4_length_8abf5 : Cond.selects yJ4_length_8abf5.cls yJ4_length_8abf5 yJ4_length_8abf5 ∈ gtbl := (tb_4 150 (by decide +kernel) rfl)
theorem sX11_280 : xSite RX11 280 yJ4_length_8abf5 cJ4_length_8abf5 1 (some .int) 0 := ⟨(tb_4 148 (by decide +kernel) rfl), (tb_1 9 (by decide +kernel) rfl), (tb_4 151 (by decide +kernel) rfl), by decide +kernel, by decide⟩
theorem iJ4_charAt_5068e : Cond.instanceMethod yJ4_charAt_5068e ∈ gtbl := (tb_4 156 (by decide +kernel) rfl)
theorem eJ4_charAt_5068e : Cond.selects yJ4_charAt_5068e.cls yJ4_charAt_5068e yJ4_charAt_5068e ∈ gtbl := (tb_4 157 (by decide +kernel) rfl)
theorem sX11_282 : xSite RX11 282 yJ4_charAt_5068e cJ4_charAt_5068e 2 (some .char) 1 := ⟨(tb_4 155 (by decide +kernel) rfl), (tb_1 9 (by decide +kernel) rfl), (tb_4 158 (by decide +kernel) rfl), by decide +kernel, by decide⟩
theorem iX9_putName : Cond.static yX9_putName ∈ gtbl := (tb_4 17 (by decide +kernel) rfl)
theorem sX9_37 : xSite RX9 37 yX9_putName cX9_putName 5 none 2 := ⟨(tb_4 16 (by decide +kernel) rfl), (tb_1 4 (by decide +kernel) rfl), (tb_4 18 (by decide +kernel) rfl), by decide +kernel, by decide⟩
theorem iJ4_append_15ec4 : Cond.instanceMethod yJ4_append_15ec4 ∈ gtbl := (tb_4 77 (by decide +kernel) rfl)
theorem eJ4_append_15ec4 : Cond.selects yJ4_append_15ec4.cls yJ4_append_15ec4 yJ4_append_15ec4 ∈ gtbl := (tb_4 78 (by decide +kernel) rfl)
theorem sX9_43 : xSite RX9 43 yJ4_append_15ec4 cJ4_append_15ec4 2 (some (.object "java/lang/StringBuilder")) 1 := ⟨(tb_4 76 (by decide +kernel) rfl), (tb_1 9 (by decide +kernel) rfl), (tb_4 79 (by decide +kernel) rfl), by decide +kernel, by decide⟩
theorem iJ4_append_bf812 : Cond.instanceMethod yJ4_append_bf812 ∈ gtbl := (tb_4 124 (by decide +kernel) rfl)
theorem eJ4_append_bf812 : Cond.selects yJ4_append_bf812.cls yJ4_append_bf812 yJ4_append_bf812 ∈ gtbl := (tb_4 125 (by decide +kernel) rfl)
theorem sX9_49 : xSite RX9 49 yJ4_append_bf812 cJ4_append_bf812 2 (some (.object "java/lang/StringBuilder")) 1 := ⟨(tb_4 123 (by decide +kernel) rfl), (tb_1 9 (by decide +kernel) rfl), (tb_4 126 (by decide +kernel) rfl), by decide +kernel, by decide⟩
theorem iJ4_append_cf468 : Cond.instanceMethod yJ4_append_cf468 ∈ gtbl := (tb_4 21 (by decide +kernel) rfl)
theorem eJ4_append_cf468 : Cond.selects yJ4_append_cf468.cls yJ4_append_cf468 yJ4_append_cf468 ∈ gtbl := (tb_4 22 (by decide +kernel) rfl)
theorem sX9_52 : xSite RX9 52 yJ4_append_cf468 cJ4_append_cf468 2 (some (.object "java/lang/StringBuilder")) 1 := ⟨(tb_4 20 (by decide +kernel) rfl), (tb_1 9 (by decide +kernel) rfl), (tb_4 23 (by decide +kernel) rfl), by decide +kernel, by decide⟩
theorem sX9_55 : xSite RX9 55 yX6_letterOf cX6_letterOf 4 (some .int) 2 := ⟨(tb_4 19 (by decide +kernel) rfl), (tb_1 2 (by decide +kernel) rfl), (tb_3 63 (by decide +kernel) rfl), by decide +kernel, by decide⟩
theorem fX9_33 : xFld RX9 33 2 1 9 (.array .long) true := ⟨RX2, TX2, tyX2, rfl, inX2, tyX2_ok, nmX2, by decide, (tb_1 228 (by decide +kernel) rfl), rfl, rfl⟩
theorem chr2 : ∀ c, c < 128 → ((nI c).toUInt32 % 65536).toInt32 = nI c := by decide +kernel
theorem ne1 {c : Nat} (h : c < 2 ^ 31) : ¬ nI c = -1 := fun e => absurd (e ▸ nI_pos h : ¬ (-1 : Int32) < 0) (by decide)
/-- a name's letters as characters -/
def nmT (ns : List Nat) : List Nat := ns.map (fun x => 96 + x)
theorem nmT_app (x y : List Nat) : nmT (x ++ y) = nmT x ++ nmT y := List.map_append
theorem tk_none {ns : List Nat} {i : Nat} (h : ns[i]? = none) : ns.take (i + 1) = ns.take i := by
  have := List.getElem?_eq_none_iff.mp h
  rw [List.take_of_length_le (by omega), List.take_of_length_le this]
theorem tk_some {ns : List Nat} {i x : Nat} (h : ns[i]? = some x) : ns.take (i + 1) = ns.take i ++ [x] := by
  rw [List.take_add_one, h]
  rfl
theorem gCost (N q : Nat) : (gC N q + N ≤ gN N q ∧ gC N q ≤ 1) ∧ gS N q + 2 * N ≤ 2 * gN N q ∧ (N ≤ 400 → q ≤ 190 → gN N q ≤ 400) := by
  unfold gC gN gS
  split <;> omega
section sbf
variable {d : Nat} {ro : Nat → Nat} {μ : Hp} {a b N : Nat} {l : List Nat}
theorem c_putN {ns : List Nat} (hd : 6 ≤ d) (h : sb μ a b N l) (hns : nmOk ns) (hl : l.length + 8 ≤ 190) : xC d yX9_putName cX9_putName 5 none 8 800 [.ref a, .long (lN (codC ns))] μ ro (fun r μ' => r = none ∧ ∃ b' N', N ≤ N' ∧ sb μ' a b' N' (l ++ nmT ns) ∧ sF a b b' μ μ') := by
  refine xC_intro (own := RX9) (lv := [(0, .ref a), (1, .long (lN (codC ns)))]) (by decide) rfl (Nat.le_of_ble_eq_true rfl) rfl (fun J g hr => ?_)
  refine r_iconst g 0 dX9_putName_0 (by decide) ?_
  refine r_istore_n g [(3, .int 0), (0, .ref a), (1, .long (lN (codC ns)))] dX9_putName_1 (by decide) rfl ?_
  have key : ∀ m i, i + m = 8 → ∀ μ1 b1 N1 k n, sb μ1 a b1 N1 (l ++ nmT (ns.take i)) → sF a b b1 μ μ1 → N ≤ N1 → k ≤ i → n ≤ 2 * (N1 - N) → J μ1 k n 2 [(3, .int (nI i)), (0, .ref a), (1, .long (lN (codC ns)))] [] := by
    intro m
    induction m with
    | zero =>
      intro i hi μ1 b1 N1 k n h1 hF hN hk hn
      refine r_iload_n g dX9_putName_2 rfl ?_
      refine r_bipush g 8 dX9_putName_3 (by decide) ?_
      refine r_icmp_ge g 35 dX9_putName_5 (by decide) (fun _ => ?_) (fun c => absurd (nI_le (a := 8) (b := i) (by omega) (by omega)) c)
      refine hr.1 rfl _ _ _ _ _ dX9_putName_35 (by omega) (by have := h1.2.1.2.2.2; omega) ⟨rfl, b1, N1, hN, ?_, hF⟩
      rw [List.take_of_length_le (by have := hns.2.1; omega)] at h1
      exact h1
    | succ m ih =>
      intro i hi μ1 b1 N1 k n h1 hF hN hk hn
      have hN4 := h1.2.1.2.2.2
      refine r_iload_n g dX9_putName_2 rfl ?_
      refine r_bipush g 8 dX9_putName_3 (by decide) ?_
      refine r_icmp_ge g 35 dX9_putName_5 (by decide) (fun c => absurd c (nI_ge (a := i) (b := 8) (by omega) (by omega))) (fun _ => ?_)
      refine r_lload_n g dX9_putName_8 rfl ?_
      refine r_iload_n g dX9_putName_9 rfl ?_
      refine r_callS (d' := d - 1) (st := []) (As := [.long (lN (codC ns)), .int (nI i)]) g sX9_55 iX6_letterOf rfl (Nat.le_of_ble_eq_true rfl) dX9_putName_10 (by omega) (by omega) (by omega) (c_letterOf hns (by omega)) (fun r μ' hz => ?_)
      obtain ⟨rfl, rfl⟩ := hz
      refine r_istore g [(4, .int (ltAt ns i)), (3, .int (nI i)), (0, .ref a), (1, .long (lN (codC ns)))] dX9_putName_13 (by decide) rfl ?_
      refine r_iload g dX9_putName_15 rfl ?_
      refine r_iconst g (-1) dX9_putName_17 (by decide) ?_
      have hlen : (l ++ nmT (ns.take i)).length ≤ l.length + i := by rw [List.length_append, nmT, List.length_map, List.length_take]; omega
      cases hx : ns[i]? with
      | none =>
        have e : ltAt ns i = -1 := by simp only [ltAt, hx]
        rw [e]
        refine r_icmp_eq g 29 dX9_putName_18 (by decide) (fun _ => ?_) (fun c => absurd rfl c)
        refine r_iinc g (nI (i + 1)) [(3, .int (nI (i + 1))), (4, .int (-1)), (0, .ref a), (1, .long (lN (codC ns)))] dX9_putName_29 rfl (by rw [nIadd]; rfl) (by decide) rfl ?_
        refine r_goto g 2 dX9_putName_32 (by decide) ?_
        refine r_sub g (lv' := [(3, .int (nI (i + 1))), (0, .ref a), (1, .long (lN (codC ns)))]) (⟨rfl, rfl, rfl, trivial⟩) ?_
        exact ih (i + 1) (by omega) _ b1 N1 _ _ (by rw [tk_none hx]; exact h1) hF hN (by omega) (by omega)
      | some x =>
        have e : ltAt ns i = nI (96 + x) := by simp only [ltAt, hx]
        have hx9 := hns.2.2 x (List.mem_of_getElem? hx)
        rw [e]
        refine r_icmp_eq g 29 dX9_putName_18 (by decide) (fun c => absurd c (ne1 (by omega))) (fun _ => ?_)
        refine r_aload_n g dX9_putName_21 rfl ?_
        refine r_iload g dX9_putName_22 rfl ?_
        refine r_i2c g dX9_putName_24 ?_
        refine r_nmV (.int (nI (96 + x))) (by rw [chr2 _ (by omega)]) ?_
        have hg := gCost N1 ((l ++ nmT (ns.take i)).length + 1)
        refine r_callV (d' := d - 1) (st := []) (As := [.int (nI (96 + x))]) g sX9_52 iJ4_append_cf468 eJ4_append_cf468 (show vwCl[0]? = some ("java/lang/StringBuilder", TJ4, 4) from rfl) h1.1.1 rfl (Nat.le_of_ble_eq_true rfl) dX9_putName_25 (by omega) (by have := hg.1; omega) (by have := hg.2.1; have := hg.2.2 h1.2.1.2.2.2 (by omega); omega) (c_apC4 (by omega) h1 (by omega) (by omega)) (fun r μ2 hz => ?_)
        obtain ⟨rfl, b2, h2, hF2⟩ := hz
        refine r_pop g dX9_putName_28 rfl ?_
        refine r_iinc g (nI (i + 1)) [(3, .int (nI (i + 1))), (4, .int (nI (96 + x))), (0, .ref a), (1, .long (lN (codC ns)))] dX9_putName_29 rfl (by rw [nIadd]; rfl) (by decide) rfl ?_
        refine r_goto g 2 dX9_putName_32 (by decide) ?_
        refine r_sub g (lv' := [(3, .int (nI (i + 1))), (0, .ref a), (1, .long (lN (codC ns)))]) (⟨rfl, rfl, rfl, trivial⟩) ?_
        have hg3 := hg.2.2 h1.2.1.2.2.2 (by omega)
        refine ih (i + 1) (by omega) _ b2 (gN N1 ((l ++ nmT (ns.take i)).length + 1)) _ _ ?_ (hF.tt h.2.1.1 hF2) (by have := (gN_ge (N := N1) (q := (l ++ nmT (ns.take i)).length + 1)).2; omega) (by have := hg.1; omega) (by have := hg.2.1; omega)
        rw [tk_some hx, nmT_app, ← List.append_assoc]
        exact h2
  exact key 8 0 rfl μ b N 0 0 (by rw [List.take_zero]; show sb μ a b N (l ++ []); rw [List.append_nil]; exact h) sF.rf (Nat.le_refl _) (Nat.le_refl _) (Nat.zero_le _)
end sbf
