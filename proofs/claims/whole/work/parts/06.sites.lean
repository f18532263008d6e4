theorem inJ4 : ∀ w ∈ u_ws RJ4 TJ4 4, w ∈ gtbl := in_of (by decide +kernel)
theorem inX1 : ∀ w ∈ u_ws RX1 TX1 1, w ∈ gtbl := in_of (by decide +kernel)
theorem inX2 : ∀ w ∈ u_ws RX2 TX2 9, w ∈ gtbl := in_of (by decide +kernel)
theorem inX3 : ∀ w ∈ u_ws RX3 TX3 9, w ∈ gtbl := in_of (by decide +kernel)
theorem inX4 : ∀ w ∈ u_ws RX4 TX4 3, w ∈ gtbl := in_of (by decide +kernel)
theorem inX5 : ∀ w ∈ u_ws RX5 TX5 3, w ∈ gtbl := in_of (by decide +kernel)
theorem inX6 : ∀ w ∈ u_ws RX6 TX6 5, w ∈ gtbl := in_of (by decide +kernel)
theorem inX7 : ∀ w ∈ u_ws RX7 TX7 2, w ∈ gtbl := in_of (by decide +kernel)
theorem inX8 : ∀ w ∈ u_ws RX8 TX8 4, w ∈ gtbl := in_of (by decide +kernel)
theorem inX9 : ∀ w ∈ u_ws RX9 TX9 5, w ∈ gtbl := in_of (by decide +kernel)
theorem inX11 : ∀ w ∈ u_ws RX11 TX11 18, w ∈ gtbl := in_of (by decide +kernel)
theorem inX12 : ∀ w ∈ u_ws RX12 TX12 65, w ∈ gtbl := in_of (by decide +kernel)
theorem iX8_addLink : Cond.instanceMethod yX8_addLink ∈ gtbl := (tb_2 227 (by decide +kernel) rfl)
theorem eX8_addLink : Cond.selects yX8_addLink.cls yX8_addLink yX8_addLink ∈ gtbl := (tb_2 228 (by decide +kernel) rfl)
theorem sX1_100 : xSite RX1 100 yX8_addLink cX8_addLink 7 none 5 := ⟨(tb_5 61 (by decide +kernel) rfl), (tb_1 13 (by decide +kernel) rfl), (tb_2 229 (by decide +kernel) rfl), by decide +kernel, by decide⟩
theorem iX8_removeLink : Cond.instanceMethod yX8_removeLink ∈ gtbl := (tb_5 5 (by decide +kernel) rfl)
theorem eX8_removeLink : Cond.selects yX8_removeLink.cls yX8_removeLink yX8_removeLink ∈ gtbl := (tb_5 6 (by decide +kernel) rfl)
theorem sX1_104 : xSite RX1 104 yX8_removeLink cX8_removeLink 3 none 1 := ⟨(tb_5 62 (by decide +kernel) rfl), (tb_1 13 (by decide +kernel) rfl), (tb_5 7 (by decide +kernel) rfl), by decide +kernel, by decide⟩
theorem iX1_againstPay : Cond.instanceMethod yX1_againstPay ∈ gtbl := (tb_5 24 (by decide +kernel) rfl)
theorem eX1_againstPay : Cond.selects yX1_againstPay.cls yX1_againstPay yX1_againstPay ∈ gtbl := (tp_2 (q := (yX1_againstPay, 1)) 5 (by decide +kernel) rfl)
theorem sX1_15 : xSite RX1 15 yX1_againstPay cX1_againstPay 6 (some .int) 5 := ⟨(tb_5 22 (by decide +kernel) rfl), (tb_1 5 (by decide +kernel) rfl), (tb_5 25 (by decide +kernel) rfl), by decide +kernel, by decide⟩
theorem iX1_againstPass : Cond.static yX1_againstPass ∈ gtbl := (tb_5 31 (by decide +kernel) rfl)
theorem sX1_19 : xSite RX1 19 yX1_againstPass cX1_againstPass 2 (some .int) 2 := ⟨(tb_5 30 (by decide +kernel) rfl), (tb_1 5 (by decide +kernel) rfl), (tb_5 32 (by decide +kernel) rfl), by decide +kernel, by decide⟩
theorem iX1_againstStaff : Cond.static yX1_againstStaff ∈ gtbl := (tb_5 34 (by decide +kernel) rfl)
theorem sX1_23 : xSite RX1 23 yX1_againstStaff cX1_againstStaff 3 (some .int) 3 := ⟨(tb_5 33 (by decide +kernel) rfl), (tb_1 5 (by decide +kernel) rfl), (tb_5 35 (by decide +kernel) rfl), by decide +kernel, by decide⟩
theorem iX1_againstOwn : Cond.static yX1_againstOwn ∈ gtbl := (tb_5 37 (by decide +kernel) rfl)
theorem sX1_27 : xSite RX1 27 yX1_againstOwn cX1_againstOwn 6 (some .int) 4 := ⟨(tb_5 36 (by decide +kernel) rfl), (tb_1 5 (by decide +kernel) rfl), (tb_5 38 (by decide +kernel) rfl), by decide +kernel, by decide⟩
theorem iX1_againstLend : Cond.static yX1_againstLend ∈ gtbl := (tb_5 41 (by decide +kernel) rfl)
theorem sX1_31 : xSite RX1 31 yX1_againstLend cX1_againstLend 4 (some .int) 3 := ⟨(tb_5 40 (by decide +kernel) rfl), (tb_1 5 (by decide +kernel) rfl), (tb_5 42 (by decide +kernel) rfl), by decide +kernel, by decide⟩
theorem iX2_hasFirm : Cond.instanceMethod yX2_hasFirm ∈ gtbl := (tb_3 66 (by decide +kernel) rfl)
theorem eX2_hasFirm : Cond.selects yX2_hasFirm.cls yX2_hasFirm yX2_hasFirm ∈ gtbl := (tb_3 67 (by decide +kernel) rfl)
theorem sX1_40 : xSite RX1 40 yX2_hasFirm cX2_hasFirm 2 (some .boolean) 1 := ⟨(tb_5 26 (by decide +kernel) rfl), (tb_1 12 (by decide +kernel) rfl), (tb_3 68 (by decide +kernel) rfl), by decide +kernel, by decide⟩
theorem iX11_isSort : Cond.static yX11_isSort ∈ gtbl := (tb_3 93 (by decide +kernel) rfl)
theorem sX1_46 : xSiteN RX1 46 yX11_isSort cX11_isSort 1 (some .boolean) 1 := ⟨⟨_, List.mem_of_getElem? (i := 7) rfl⟩, (tb_1 1 (by decide +kernel) rfl), (tb_3 94 (by decide +kernel) rfl), by decide +kernel, by decide⟩
theorem iX11_isAmount : Cond.static yX11_isAmount ∈ gtbl := (tb_3 160 (by decide +kernel) rfl)
theorem sX1_49 : xSiteN RX1 49 yX11_isAmount cX11_isAmount 1 (some .boolean) 1 := ⟨⟨_, List.mem_of_getElem? (i := 8) rfl⟩, (tb_1 1 (by decide +kernel) rfl), (tb_3 161 (by decide +kernel) rfl), by decide +kernel, by decide⟩
theorem iX3_find : Cond.instanceMethod yX3_find ∈ gtbl := (tb_3 164 (by decide +kernel) rfl)
theorem eX3_find : Cond.selects yX3_find.cls yX3_find yX3_find ∈ gtbl := (tb_3 165 (by decide +kernel) rfl)
theorem sX1_52 : xSite RX1 52 yX3_find cX3_find 7 (some .boolean) 6 := ⟨(tb_5 29 (by decide +kernel) rfl), (tb_1 3 (by decide +kernel) rfl), (tb_3 166 (by decide +kernel) rfl), by decide +kernel, by decide⟩
theorem iX8_linkOf : Cond.instanceMethod yX8_linkOf ∈ gtbl := (tb_2 223 (by decide +kernel) rfl)
theorem eX8_linkOf : Cond.selects yX8_linkOf.cls yX8_linkOf yX8_linkOf ∈ gtbl := (tb_2 224 (by decide +kernel) rfl)
theorem sX1_66 : xSite RX1 66 yX8_linkOf cX8_linkOf 5 (some .int) 3 := ⟨(tb_5 39 (by decide +kernel) rfl), (tb_1 13 (by decide +kernel) rfl), (tb_2 225 (by decide +kernel) rfl), by decide +kernel, by decide⟩
theorem iX1_payByBest : Cond.instanceMethod yX1_payByBest ∈ gtbl := (tb_4 232 (by decide +kernel) rfl)
theorem eX1_payByBest : Cond.selects yX1_payByBest.cls yX1_payByBest yX1_payByBest ∈ gtbl := (tb_4 233 (by decide +kernel) rfl)
theorem sX1_70 : xSite RX1 70 yX1_payByBest cX1_payByBest 5 none 2 := ⟨(tb_5 57 (by decide +kernel) rfl), (tb_1 5 (by decide +kernel) rfl), (tb_4 234 (by decide +kernel) rfl), by decide +kernel, by decide⟩
theorem iX1_setShare : Cond.static yX1_setShare ∈ gtbl := (tb_5 59 (by decide +kernel) rfl)
theorem sX1_83 : xSite RX1 83 yX1_setShare cX1_setShare 6 (some .int) 4 := ⟨(tb_5 58 (by decide +kernel) rfl), (tb_1 5 (by decide +kernel) rfl), (tb_5 60 (by decide +kernel) rfl), by decide +kernel, by decide⟩
theorem iX1_turnLoan : Cond.static yX1_turnLoan ∈ gtbl := (tb_5 64 (by decide +kernel) rfl)
theorem sX1_86 : xSite RX1 86 yX1_turnLoan cX1_turnLoan 4 (some .int) 3 := ⟨(tb_5 63 (by decide +kernel) rfl), (tb_1 5 (by decide +kernel) rfl), (tb_5 65 (by decide +kernel) rfl), by decide +kernel, by decide⟩
theorem iX9_takenBy : Cond.instanceMethod yX9_takenBy ∈ gtbl := (tb_4 189 (by decide +kernel) rfl)
theorem eX9_takenBy : Cond.selects yX9_takenBy.cls yX9_takenBy yX9_takenBy ∈ gtbl := (tb_4 190 (by decide +kernel) rfl)
theorem sX1_96 : xSite RX1 96 yX9_takenBy cX9_takenBy 7 (some .int) 2 := ⟨(tb_4 235 (by decide +kernel) rfl), (tb_1 4 (by decide +kernel) rfl), (tb_4 191 (by decide +kernel) rfl), by decide +kernel, by decide⟩
theorem iX6_bytesIn : Cond.static yX6_bytesIn ∈ gtbl := (tb_2 133 (by decide +kernel) rfl)
theorem sX11_107 : xSite RX11 107 yX6_bytesIn cX6_bytesIn 3 (some .int) 1 := ⟨(tb_2 132 (by decide +kernel) rfl), (tb_1 2 (by decide +kernel) rfl), (tb_2 134 (by decide +kernel) rfl), by decide +kernel, by decide⟩
theorem iX6_put : Cond.instanceMethod yX6_put ∈ gtbl := (tb_2 136 (by decide +kernel) rfl)
theorem eX6_put : Cond.selects yX6_put.cls yX6_put yX6_put ∈ gtbl := (tb_2 137 (by decide +kernel) rfl)
theorem sX11_114 : xSite RX11 114 yX6_put cX6_put 4 none 1 := ⟨(tb_2 135 (by decide +kernel) rfl), (tb_1 2 (by decide +kernel) rfl), (tb_2 138 (by decide +kernel) rfl), by decide +kernel, by decide⟩
theorem iX2_readFrom : Cond.instanceMethod yX2_readFrom ∈ gtbl := (tb_2 148 (by decide +kernel) rfl)
theorem eX2_readFrom : Cond.selects yX2_readFrom.cls yX2_readFrom yX2_readFrom ∈ gtbl := (tb_2 149 (by decide +kernel) rfl)
theorem sX11_118 : xSite RX11 118 yX2_readFrom cX2_readFrom 5 none 2 := ⟨(tb_2 147 (by decide +kernel) rfl), (tb_1 12 (by decide +kernel) rfl), (tb_2 150 (by decide +kernel) rfl), by decide +kernel, by decide⟩
theorem iX7_readFrom : Cond.instanceMethod yX7_readFrom ∈ gtbl := (tb_3 5 (by decide +kernel) rfl)
theorem eX7_readFrom : Cond.selects yX7_readFrom.cls yX7_readFrom yX7_readFrom ∈ gtbl := (tb_3 6 (by decide +kernel) rfl)
theorem sX11_125 : xSite RX11 125 yX7_readFrom cX7_readFrom 4 none 1 := ⟨(tb_3 4 (by decide +kernel) rfl), (tb_1 14 (by decide +kernel) rfl), (tb_3 7 (by decide +kernel) rfl), by decide +kernel, by decide⟩
theorem iX11_openDraft : Cond.instanceMethod yX11_openDraft ∈ gtbl := (tb_3 24 (by decide +kernel) rfl)
theorem eX11_openDraft : Cond.selects yX11_openDraft.cls yX11_openDraft yX11_openDraft ∈ gtbl := (tp_1 (q := (yX11_openDraft, 18)) 9 (by decide +kernel) rfl)
theorem sX11_128 : xSite RX11 128 yX11_openDraft cX11_openDraft 2 (some .int) 0 := ⟨(tb_3 22 (by decide +kernel) rfl), (tb_1 1 (by decide +kernel) rfl), (tb_3 25 (by decide +kernel) rfl), by decide +kernel, by decide⟩
theorem iX11_keepScript : Cond.instanceMethod yX11_keepScript ∈ gtbl := (tb_3 47 (by decide +kernel) rfl)
theorem eX11_keepScript : Cond.selects yX11_keepScript.cls yX11_keepScript yX11_keepScript ∈ gtbl := (tp_1 (q := (yX11_keepScript, 18)) 10 (by decide +kernel) rfl)
theorem sX11_132 : xSite RX11 132 yX11_keepScript cX11_keepScript 1 (some .int) 0 := ⟨(tb_3 45 (by decide +kernel) rfl), (tb_1 1 (by decide +kernel) rfl), (tb_3 48 (by decide +kernel) rfl), by decide +kernel, by decide⟩
theorem iX8_copyFrom : Cond.instanceMethod yX8_copyFrom ∈ gtbl := (tb_3 27 (by decide +kernel) rfl)
theorem eX8_copyFrom : Cond.selects yX8_copyFrom.cls yX8_copyFrom yX8_copyFrom ∈ gtbl := (tb_3 28 (by decide +kernel) rfl)
theorem sX11_136 : xSite RX11 136 yX8_copyFrom cX8_copyFrom 2 none 1 := ⟨(tb_3 26 (by decide +kernel) rfl), (tb_1 13 (by decide +kernel) rfl), (tb_3 29 (by decide +kernel) rfl), by decide +kernel, by decide⟩
theorem iX4_forget : Cond.instanceMethod yX4_forget ∈ gtbl := (tb_3 38 (by decide +kernel) rfl)
theorem eX4_forget : Cond.selects yX4_forget.cls yX4_forget yX4_forget ∈ gtbl := (tb_3 39 (by decide +kernel) rfl)
theorem sX11_140 : xSite RX11 140 yX4_forget cX4_forget 1 none 0 := ⟨(tb_3 37 (by decide +kernel) rfl), (tb_1 6 (by decide +kernel) rfl), (tb_3 40 (by decide +kernel) rfl), by decide +kernel, by decide⟩
theorem iX5_forget : Cond.instanceMethod yX5_forget ∈ gtbl := (tb_3 42 (by decide +kernel) rfl)
theorem eX5_forget : Cond.selects yX5_forget.cls yX5_forget yX5_forget ∈ gtbl := (tb_3 43 (by decide +kernel) rfl)
theorem sX11_143 : xSite RX11 143 yX5_forget cX5_forget 1 none 0 := ⟨(tb_3 41 (by decide +kernel) rfl), (tb_1 7 (by decide +kernel) rfl), (tb_3 44 (by decide +kernel) rfl), by decide +kernel, by decide⟩
theorem iX2_hasLand : Cond.instanceMethod yX2_hasLand ∈ gtbl := (tb_3 54 (by decide +kernel) rfl)
theorem eX2_hasLand : Cond.selects yX2_hasLand.cls yX2_hasLand yX2_hasLand ∈ gtbl := (tb_3 55 (by decide +kernel) rfl)
theorem sX11_147 : xSite RX11 147 yX2_hasLand cX2_hasLand 2 (some .boolean) 1 := ⟨(tb_3 53 (by decide +kernel) rfl), (tb_1 12 (by decide +kernel) rfl), (tb_3 56 (by decide +kernel) rfl), by decide +kernel, by decide⟩
theorem sX11_157 : xSite RX11 157 yX2_hasFirm cX2_hasFirm 2 (some .boolean) 1 := ⟨(tb_3 65 (by decide +kernel) rfl), (tb_1 12 (by decide +kernel) rfl), (tb_3 68 (by decide +kernel) rfl), by decide +kernel, by decide⟩
theorem iX6_letterOf : Cond.static yX6_letterOf ∈ gtbl := (tb_3 62 (by decide +kernel) rfl)
theorem sX11_173 : xSite RX11 173 yX6_letterOf cX6_letterOf 4 (some .int) 2 := ⟨(tb_3 61 (by decide +kernel) rfl), (tb_1 2 (by decide +kernel) rfl), (tb_3 63 (by decide +kernel) rfl), by decide +kernel, by decide⟩
theorem iX8_hasLink : Cond.instanceMethod yX8_hasLink ∈ gtbl := (tb_3 74 (by decide +kernel) rfl)
theorem eX8_hasLink : Cond.selects yX8_hasLink.cls yX8_hasLink yX8_hasLink ∈ gtbl := (tb_3 75 (by decide +kernel) rfl)
theorem sX11_180 : xSite RX11 180 yX8_hasLink cX8_hasLink 2 (some .boolean) 1 := ⟨(tb_3 73 (by decide +kernel) rfl), (tb_1 13 (by decide +kernel) rfl), (tb_3 76 (by decide +kernel) rfl), by decide +kernel, by decide⟩
theorem iX11_isYear : Cond.static yX11_isYear ∈ gtbl := (tb_3 82 (by decide +kernel) rfl)
theorem sX11_183 : xSite RX11 183 yX11_isYear cX11_isYear 1 (some .boolean) 1 := ⟨(tb_3 81 (by decide +kernel) rfl), (tb_1 1 (by decide +kernel) rfl), (tb_3 83 (by decide +kernel) rfl), by decide +kernel, by decide⟩
theorem iX2_treatyOf : Cond.instanceMethod yX2_treatyOf ∈ gtbl := (tb_3 85 (by decide +kernel) rfl)
theorem eX2_treatyOf : Cond.selects yX2_treatyOf.cls yX2_treatyOf yX2_treatyOf ∈ gtbl := (tb_3 86 (by decide +kernel) rfl)
theorem sX11_186 : xSite RX11 186 yX2_treatyOf cX2_treatyOf 10 (some .int) 3 := ⟨(tb_3 84 (by decide +kernel) rfl), (tb_1 12 (by decide +kernel) rfl), (tb_3 87 (by decide +kernel) rfl), by decide +kernel, by decide⟩
theorem sX11_193 : xSite RX11 193 yX11_isSort cX11_isSort 1 (some .boolean) 1 := ⟨(tb_3 92 (by decide +kernel) rfl), (tb_1 1 (by decide +kernel) rfl), (tb_3 94 (by decide +kernel) rfl), by decide +kernel, by decide⟩
theorem iX3_findTreaties : Cond.instanceMethod yX3_findTreaties ∈ gtbl := (tb_3 96 (by decide +kernel) rfl)
theorem eX3_findTreaties : Cond.selects yX3_findTreaties.cls yX3_findTreaties yX3_findTreaties ∈ gtbl := (tb_3 97 (by decide +kernel) rfl)
theorem sX11_196 : xSite RX11 196 yX3_findTreaties cX3_findTreaties 6 none 1 := ⟨(tb_3 95 (by decide +kernel) rfl), (tb_1 3 (by decide +kernel) rfl), (tb_3 98 (by decide +kernel) rfl), by decide +kernel, by decide⟩
theorem iX3_judgeHops : Cond.instanceMethod yX3_judgeHops ∈ gtbl := (tb_3 101 (by decide +kernel) rfl)
theorem eX3_judgeHops : Cond.selects yX3_judgeHops.cls yX3_judgeHops yX3_judgeHops ∈ gtbl := (tb_3 102 (by decide +kernel) rfl)
theorem sX11_199 : xSite RX11 199 yX3_judgeHops cX3_judgeHops 6 none 3 := ⟨(tb_3 100 (by decide +kernel) rfl), (tb_1 3 (by decide +kernel) rfl), (tb_3 103 (by decide +kernel) rfl), by decide +kernel, by decide⟩
theorem iX11_hasBook : Cond.instanceMethod yX11_hasBook ∈ gtbl := (tb_3 118 (by decide +kernel) rfl)
theorem eX11_hasBook : Cond.selects yX11_hasBook.cls yX11_hasBook yX11_hasBook ∈ gtbl := (tp_1 (q := (yX11_hasBook, 18)) 13 (by decide +kernel) rfl)
theorem sX11_212 : xSite RX11 212 yX11_hasBook cX11_hasBook 1 (some .boolean) 0 := ⟨(tb_3 116 (by decide +kernel) rfl), (tb_1 1 (by decide +kernel) rfl), (tb_3 119 (by decide +kernel) rfl), by decide +kernel, by decide⟩
theorem iX8_sum : Cond.instanceMethod yX8_sum ∈ gtbl := (tb_3 122 (by decide +kernel) rfl)
theorem eX8_sum : Cond.selects yX8_sum.cls yX8_sum yX8_sum ∈ gtbl := (tb_3 123 (by decide +kernel) rfl)
theorem sX11_217 : xSite RX11 217 yX8_sum cX8_sum 5 (some .int) 2 := ⟨(tb_3 121 (by decide +kernel) rfl), (tb_1 13 (by decide +kernel) rfl), (tb_3 124 (by decide +kernel) rfl), by decide +kernel, by decide⟩
theorem iX2_treatiesIn : Cond.instanceMethod yX2_treatiesIn ∈ gtbl := (tb_3 126 (by decide +kernel) rfl)
theorem eX2_treatiesIn : Cond.selects yX2_treatiesIn.cls yX2_treatiesIn yX2_treatiesIn ∈ gtbl := (tb_3 127 (by decide +kernel) rfl)
theorem sX11_224 : xSite RX11 224 yX2_treatiesIn cX2_treatiesIn 5 (some .int) 1 := ⟨(tb_3 125 (by decide +kernel) rfl), (tb_1 12 (by decide +kernel) rfl), (tb_3 128 (by decide +kernel) rfl), by decide +kernel, by decide⟩
theorem iX8_firstOfMost : Cond.instanceMethod yX8_firstOfMost ∈ gtbl := (tb_3 131 (by decide +kernel) rfl)
theorem eX8_firstOfMost : Cond.selects yX8_firstOfMost.cls yX8_firstOfMost yX8_firstOfMost ∈ gtbl := (tb_3 132 (by decide +kernel) rfl)
theorem sX11_227 : xSite RX11 227 yX8_firstOfMost cX8_firstOfMost 5 (some .int) 2 := ⟨(tb_3 130 (by decide +kernel) rfl), (tb_1 13 (by decide +kernel) rfl), (tb_3 133 (by decide +kernel) rfl), by decide +kernel, by decide⟩
theorem iX8_laterLinks : Cond.instanceMethod yX8_laterLinks ∈ gtbl := (tb_3 135 (by decide +kernel) rfl)
theorem eX8_laterLinks : Cond.selects yX8_laterLinks.cls yX8_laterLinks yX8_laterLinks ∈ gtbl := (tb_3 136 (by decide +kernel) rfl)
theorem sX11_230 : xSite RX11 230 yX8_laterLinks cX8_laterLinks 3 (some .int) 0 := ⟨(tb_3 134 (by decide +kernel) rfl), (tb_1 13 (by decide +kernel) rfl), (tb_3 137 (by decide +kernel) rfl), by decide +kernel, by decide⟩
theorem iX5_size : Cond.instanceMethod yX5_size ∈ gtbl := (tb_3 143 (by decide +kernel) rfl)
theorem eX5_size : Cond.selects yX5_size.cls yX5_size yX5_size ∈ gtbl := (tb_3 144 (by decide +kernel) rfl)
theorem sX11_233 : xSite RX11 233 yX5_size cX5_size 1 (some .int) 0 := ⟨(tb_3 142 (by decide +kernel) rfl), (tb_1 7 (by decide +kernel) rfl), (tb_3 145 (by decide +kernel) rfl), by decide +kernel, by decide⟩
theorem sX11_240 : xSite RX11 240 yX11_isAmount cX11_isAmount 1 (some .boolean) 1 := ⟨(tb_3 159 (by decide +kernel) rfl), (tb_1 1 (by decide +kernel) rfl), (tb_3 161 (by decide +kernel) rfl), by decide +kernel, by decide⟩
theorem iX11_isAsked : Cond.instanceMethod yX11_isAsked ∈ gtbl := (tb_3 157 (by decide +kernel) rfl)
theorem eX11_isAsked : Cond.selects yX11_isAsked.cls yX11_isAsked yX11_isAsked ∈ gtbl := (tp_1 (q := (yX11_isAsked, 18)) 15 (by decide +kernel) rfl)
theorem sX11_243 : xSite RX11 243 yX11_isAsked cX11_isAsked 5 (some .boolean) 4 := ⟨(tb_3 155 (by decide +kernel) rfl), (tb_1 1 (by decide +kernel) rfl), (tb_3 158 (by decide +kernel) rfl), by decide +kernel, by decide⟩
theorem sX11_247 : xSite RX11 247 yX3_find cX3_find 7 (some .boolean) 6 := ⟨(tb_3 163 (by decide +kernel) rfl), (tb_1 3 (by decide +kernel) rfl), (tb_3 166 (by decide +kernel) rfl), by decide +kernel, by decide⟩
theorem iX11_isFound : Cond.instanceMethod yX11_isFound ∈ gtbl := (tb_3 153 (by decide +kernel) rfl)
theorem eX11_isFound : Cond.selects yX11_isFound.cls yX11_isFound yX11_isFound ∈ gtbl := (tp_1 (q := (yX11_isFound, 18)) 14 (by decide +kernel) rfl)
theorem sX11_260 : xSite RX11 260 yX11_isFound cX11_isFound 5 (some .boolean) 4 := ⟨(tb_3 151 (by decide +kernel) rfl), (tb_1 1 (by decide +kernel) rfl), (tb_3 154 (by decide +kernel) rfl), by decide +kernel, by decide⟩
theorem iX9_duePaid : Cond.instanceMethod yX9_duePaid ∈ gtbl := (tb_3 185 (by decide +kernel) rfl)
theorem eX9_duePaid : Cond.selects yX9_duePaid.cls yX9_duePaid yX9_duePaid ∈ gtbl := (tb_3 186 (by decide +kernel) rfl)
theorem sX11_269 : xSite RX11 269 yX9_duePaid cX9_duePaid 3 (some .int) 0 := ⟨(tb_3 184 (by decide +kernel) rfl), (tb_1 4 (by decide +kernel) rfl), (tb_3 187 (by decide +kernel) rfl), by decide +kernel, by decide⟩
theorem iX3_findSparing : Cond.instanceMethod yX3_findSparing ∈ gtbl := (tb_4 176 (by decide +kernel) rfl)
theorem eX3_findSparing : Cond.selects yX3_findSparing.cls yX3_findSparing yX3_findSparing ∈ gtbl := (tb_4 177 (by decide +kernel) rfl)
theorem sX11_289 : xSite RX11 289 yX3_findSparing cX3_findSparing 7 (some .boolean) 5 := ⟨(tb_4 175 (by decide +kernel) rfl), (tb_1 3 (by decide +kernel) rfl), (tb_4 178 (by decide +kernel) rfl), by decide +kernel, by decide⟩
theorem sX11_293 : xSite RX11 293 yX9_takenBy cX9_takenBy 7 (some .int) 2 := ⟨(tb_4 188 (by decide +kernel) rfl), (tb_1 4 (by decide +kernel) rfl), (tb_4 191 (by decide +kernel) rfl), by decide +kernel, by decide⟩
theorem iX11_arrivesIn : Cond.instanceMethod yX11_arrivesIn ∈ gtbl := (tb_4 198 (by decide +kernel) rfl)
theorem eX11_arrivesIn : Cond.selects yX11_arrivesIn.cls yX11_arrivesIn yX11_arrivesIn ∈ gtbl := (tp_2 (q := (yX11_arrivesIn, 18)) 3 (by decide +kernel) rfl)
theorem sX11_297 : xSite RX11 297 yX11_arrivesIn cX11_arrivesIn 6 (some .int) 5 := ⟨(tb_4 196 (by decide +kernel) rfl), (tb_1 1 (by decide +kernel) rfl), (tb_4 199 (by decide +kernel) rfl), by decide +kernel, by decide⟩
theorem iX2_asksForStaff : Cond.instanceMethod yX2_asksForStaff ∈ gtbl := (tb_4 205 (by decide +kernel) rfl)
theorem eX2_asksForStaff : Cond.selects yX2_asksForStaff.cls yX2_asksForStaff yX2_asksForStaff ∈ gtbl := (tb_4 206 (by decide +kernel) rfl)
theorem sX11_301 : xSite RX11 301 yX2_asksForStaff cX2_asksForStaff 3 (some .boolean) 1 := ⟨(tb_4 204 (by decide +kernel) rfl), (tb_1 12 (by decide +kernel) rfl), (tb_4 207 (by decide +kernel) rfl), by decide +kernel, by decide⟩
theorem iX8_lapse : Cond.instanceMethod yX8_lapse ∈ gtbl := (tb_3 34 (by decide +kernel) rfl)
theorem eX8_lapse : Cond.selects yX8_lapse.cls yX8_lapse yX8_lapse ∈ gtbl := (tb_3 35 (by decide +kernel) rfl)
theorem sX11_305 : xSite RX11 305 yX8_lapse cX8_lapse 3 none 2 := ⟨(tb_4 221 (by decide +kernel) rfl), (tb_1 13 (by decide +kernel) rfl), (tb_3 36 (by decide +kernel) rfl), by decide +kernel, by decide⟩
theorem sX11_314 : xSite RX11 314 yX1_payByBest cX1_payByBest 5 none 2 := ⟨(tb_4 231 (by decide +kernel) rfl), (tb_1 5 (by decide +kernel) rfl), (tb_4 234 (by decide +kernel) rfl), by decide +kernel, by decide⟩
theorem sX11_318 : xSite RX11 318 yX8_removeLink cX8_removeLink 3 none 1 := ⟨(tb_5 4 (by decide +kernel) rfl), (tb_1 13 (by decide +kernel) rfl), (tb_5 7 (by decide +kernel) rfl), by decide +kernel, by decide⟩
theorem iX11_actByHand : Cond.instanceMethod yX11_actByHand ∈ gtbl := (tb_5 16 (by decide +kernel) rfl)
theorem eX11_actByHand : Cond.selects yX11_actByHand.cls yX11_actByHand yX11_actByHand ∈ gtbl := (tp_2 (q := (yX11_actByHand, 18)) 4 (by decide +kernel) rfl)
theorem sX11_324 : xSite RX11 324 yX11_actByHand cX11_actByHand 7 (some .int) 5 := ⟨(tb_5 14 (by decide +kernel) rfl), (tb_1 1 (by decide +kernel) rfl), (tb_5 17 (by decide +kernel) rfl), by decide +kernel, by decide⟩
theorem iX1_reasonAgainst : Cond.instanceMethod yX1_reasonAgainst ∈ gtbl := (tb_5 19 (by decide +kernel) rfl)
theorem eX1_reasonAgainst : Cond.selects yX1_reasonAgainst.cls yX1_reasonAgainst yX1_reasonAgainst ∈ gtbl := (tb_5 20 (by decide +kernel) rfl)
theorem sX11_328 : xSite RX11 328 yX1_reasonAgainst cX1_reasonAgainst 7 (some .int) 6 := ⟨(tb_5 18 (by decide +kernel) rfl), (tb_1 5 (by decide +kernel) rfl), (tb_5 21 (by decide +kernel) rfl), by decide +kernel, by decide⟩
theorem iX11_actNow : Cond.instanceMethod yX11_actNow ∈ gtbl := (tb_5 45 (by decide +kernel) rfl)
theorem eX11_actNow : Cond.selects yX11_actNow.cls yX11_actNow yX11_actNow ∈ gtbl := (tp_2 (q := (yX11_actNow, 18)) 6 (by decide +kernel) rfl)
theorem sX11_332 : xSite RX11 332 yX11_actNow cX11_actNow 6 (some .int) 4 := ⟨(tb_5 43 (by decide +kernel) rfl), (tb_1 1 (by decide +kernel) rfl), (tb_5 46 (by decide +kernel) rfl), by decide +kernel, by decide⟩
theorem iX4_keep : Cond.instanceMethod yX4_keep ∈ gtbl := (tb_5 48 (by decide +kernel) rfl)
theorem eX4_keep : Cond.selects yX4_keep.cls yX4_keep yX4_keep ∈ gtbl := (tb_5 49 (by decide +kernel) rfl)
theorem sX11_336 : xSite RX11 336 yX4_keep cX4_keep 2 none 1 := ⟨(tb_5 47 (by decide +kernel) rfl), (tb_1 6 (by decide +kernel) rfl), (tb_5 50 (by decide +kernel) rfl), by decide +kernel, by decide⟩
theorem iX1_carryOut : Cond.instanceMethod yX1_carryOut ∈ gtbl := (tb_5 54 (by decide +kernel) rfl)
theorem eX1_carryOut : Cond.selects yX1_carryOut.cls yX1_carryOut yX1_carryOut ∈ gtbl := (tb_5 55 (by decide +kernel) rfl)
theorem sX11_339 : xSite RX11 339 yX1_carryOut cX1_carryOut 7 (some .int) 5 := ⟨(tb_5 53 (by decide +kernel) rfl), (tb_1 5 (by decide +kernel) rfl), (tb_5 56 (by decide +kernel) rfl), by decide +kernel, by decide⟩
theorem iX1_firmOf : Cond.static yX1_firmOf ∈ gtbl := (tb_5 67 (by decide +kernel) rfl)
theorem sX11_342 : xSite RX11 342 yX1_firmOf cX1_firmOf 3 (some .int) 3 := ⟨(tb_5 66 (by decide +kernel) rfl), (tb_1 5 (by decide +kernel) rfl), (tb_5 68 (by decide +kernel) rfl), by decide +kernel, by decide⟩
theorem iX5_add : Cond.instanceMethod yX5_add ∈ gtbl := (tb_5 70 (by decide +kernel) rfl)
theorem eX5_add : Cond.selects yX5_add.cls yX5_add yX5_add ∈ gtbl := (tb_5 71 (by decide +kernel) rfl)
theorem sX11_345 : xSite RX11 345 yX5_add cX5_add 5 none 3 := ⟨(tb_5 69 (by decide +kernel) rfl), (tb_1 7 (by decide +kernel) rfl), (tb_5 72 (by decide +kernel) rfl), by decide +kernel, by decide⟩
theorem iX11_draw : Cond.instanceMethod yX11_draw ∈ gtbl := (tb_5 95 (by decide +kernel) rfl)
theorem eX11_draw : Cond.selects yX11_draw.cls yX11_draw yX11_draw ∈ gtbl := (tp_2 (q := (yX11_draw, 18)) 7 (by decide +kernel) rfl)
theorem sX11_349 : xSite RX11 349 yX11_draw cX11_draw 2 (some .int) 1 := ⟨(tb_5 93 (by decide +kernel) rfl), (tb_1 1 (by decide +kernel) rfl), (tb_5 96 (by decide +kernel) rfl), by decide +kernel, by decide⟩
theorem iX11_drawStep : Cond.instanceMethod yX11_drawStep ∈ gtbl := (tb_5 101 (by decide +kernel) rfl)
theorem eX11_drawStep : Cond.selects yX11_drawStep.cls yX11_drawStep yX11_drawStep ∈ gtbl := (tp_2 (q := (yX11_drawStep, 18)) 8 (by decide +kernel) rfl)
theorem sX11_352 : xSite RX11 352 yX11_drawStep cX11_drawStep 2 none 1 := ⟨(tb_5 99 (by decide +kernel) rfl), (tb_1 1 (by decide +kernel) rfl), (tb_5 102 (by decide +kernel) rfl), by decide +kernel, by decide⟩
theorem iX11_actIfItCanBe : Cond.instanceMethod yX11_actIfItCanBe ∈ gtbl := (tb_5 105 (by decide +kernel) rfl)
theorem eX11_actIfItCanBe : Cond.selects yX11_actIfItCanBe.cls yX11_actIfItCanBe yX11_actIfItCanBe ∈ gtbl := (tp_2 (q := (yX11_actIfItCanBe, 18)) 9 (by decide +kernel) rfl)
theorem sX11_355 : xSite RX11 355 yX11_actIfItCanBe cX11_actIfItCanBe 3 (some .boolean) 2 := ⟨(tb_5 103 (by decide +kernel) rfl), (tb_1 1 (by decide +kernel) rfl), (tb_5 106 (by decide +kernel) rfl), by decide +kernel, by decide⟩
theorem iX4_giveBack : Cond.instanceMethod yX4_giveBack ∈ gtbl := (tb_5 116 (by decide +kernel) rfl)
theorem eX4_giveBack : Cond.selects yX4_giveBack.cls yX4_giveBack yX4_giveBack ∈ gtbl := (tb_5 117 (by decide +kernel) rfl)
theorem sX11_363 : xSite RX11 363 yX4_giveBack cX4_giveBack 2 (some .boolean) 1 := ⟨(tb_5 115 (by decide +kernel) rfl), (tb_1 6 (by decide +kernel) rfl), (tb_5 118 (by decide +kernel) rfl), by decide +kernel, by decide⟩
theorem iX5_dropLatest : Cond.instanceMethod yX5_dropLatest ∈ gtbl := (tb_5 120 (by decide +kernel) rfl)
theorem eX5_dropLatest : Cond.selects yX5_dropLatest.cls yX5_dropLatest yX5_dropLatest ∈ gtbl := (tb_5 121 (by decide +kernel) rfl)
theorem sX11_367 : xSite RX11 367 yX5_dropLatest cX5_dropLatest 1 none 0 := ⟨(tb_5 119 (by decide +kernel) rfl), (tb_1 7 (by decide +kernel) rfl), (tb_5 122 (by decide +kernel) rfl), by decide +kernel, by decide⟩
theorem iX5_part : Cond.instanceMethod yX5_part ∈ gtbl := (tb_5 128 (by decide +kernel) rfl)
theorem eX5_part : Cond.selects yX5_part.cls yX5_part yX5_part ∈ gtbl := (tb_5 129 (by decide +kernel) rfl)
theorem sX11_370 : xSite RX11 370 yX5_part cX5_part 3 (some .int) 2 := ⟨(tb_5 127 (by decide +kernel) rfl), (tb_1 7 (by decide +kernel) rfl), (tb_5 130 (by decide +kernel) rfl), by decide +kernel, by decide⟩
theorem iX11_hasScript : Cond.instanceMethod yX11_hasScript ∈ gtbl := (tb_5 137 (by decide +kernel) rfl)
theorem eX11_hasScript : Cond.selects yX11_hasScript.cls yX11_hasScript yX11_hasScript ∈ gtbl := (tp_2 (q := (yX11_hasScript, 18)) 10 (by decide +kernel) rfl)
theorem sX11_373 : xSite RX11 373 yX11_hasScript cX11_hasScript 2 (some .boolean) 1 := ⟨(tb_5 135 (by decide +kernel) rfl), (tb_1 1 (by decide +kernel) rfl), (tb_5 138 (by decide +kernel) rfl), by decide +kernel, by decide⟩
theorem iX11_runApart : Cond.instanceMethod yX11_runApart ∈ gtbl := (tb_5 145 (by decide +kernel) rfl)
theorem eX11_runApart : Cond.selects yX11_runApart.cls yX11_runApart yX11_runApart ∈ gtbl := (tp_2 (q := (yX11_runApart, 18)) 11 (by decide +kernel) rfl)
theorem sX11_380 : xSite RX11 380 yX11_runApart cX11_runApart 8 (some .int) 1 := ⟨(tb_5 143 (by decide +kernel) rfl), (tb_1 1 (by decide +kernel) rfl), (tb_5 146 (by decide +kernel) rfl), by decide +kernel, by decide⟩
theorem iX5_copyFrom : Cond.instanceMethod yX5_copyFrom ∈ gtbl := (tb_5 156 (by decide +kernel) rfl)
theorem eX5_copyFrom : Cond.selects yX5_copyFrom.cls yX5_copyFrom yX5_copyFrom ∈ gtbl := (tb_5 157 (by decide +kernel) rfl)
theorem sX11_384 : xSite RX11 384 yX5_copyFrom cX5_copyFrom 2 none 1 := ⟨(tb_5 155 (by decide +kernel) rfl), (tb_1 7 (by decide +kernel) rfl), (tb_5 158 (by decide +kernel) rfl), by decide +kernel, by decide⟩
theorem iX12_bytesOf : Cond.static yX12_bytesOf ∈ gtbl := (tb_6 208 (by decide +kernel) rfl)
theorem sX12_112 : xSite RX12 112 yX12_bytesOf cX12_bytesOf 3 (some .int) 1 := ⟨(tb_6 207 (by decide +kernel) rfl), (tb_1 15 (by decide +kernel) rfl), (tb_6 209 (by decide +kernel) rfl), by decide +kernel, by decide⟩
theorem iX12_brings : Cond.instanceMethod yX12_brings ∈ gtbl := (tb_6 212 (by decide +kernel) rfl)
theorem eX12_brings : Cond.selects yX12_brings.cls yX12_brings yX12_brings ∈ gtbl := (tp_2 (q := (yX12_brings, 65)) 13 (by decide +kernel) rfl)
theorem sX12_116 : xSite RX12 116 yX12_brings cX12_brings 4 none 1 := ⟨(tb_6 210 (by decide +kernel) rfl), (tb_1 15 (by decide +kernel) rfl), (tb_6 213 (by decide +kernel) rfl), by decide +kernel, by decide⟩
theorem iX12_here : Cond.instanceMethod yX12_here ∈ gtbl := (tb_7 3 (by decide +kernel) rfl)
theorem eX12_here : Cond.selects yX12_here.cls yX12_here yX12_here ∈ gtbl := (tp_3 (q := (yX12_here, 65)) 2 (by decide +kernel) rfl)
theorem sX12_123 : xSite RX12 123 yX12_here cX12_here 1 (some .int) 0 := ⟨(tb_7 1 (by decide +kernel) rfl), (tb_1 15 (by decide +kernel) rfl), (tb_7 4 (by decide +kernel) rfl), by decide +kernel, by decide⟩
theorem iX12_look : Cond.instanceMethod yX12_look ∈ gtbl := (tb_6 239 (by decide +kernel) rfl)
theorem eX12_look : Cond.selects yX12_look.cls yX12_look yX12_look ∈ gtbl := (tp_3 (q := (yX12_look, 65)) 1 (by decide +kernel) rfl)
theorem sX12_130 : xSite RX12 130 yX12_look cX12_look 1 (some .int) 0 := ⟨(tb_6 237 (by decide +kernel) rfl), (tb_1 15 (by decide +kernel) rfl), (tb_7 0 (by decide +kernel) rfl), by decide +kernel, by decide⟩
theorem iX12_isLetter : Cond.instanceMethod yX12_isLetter ∈ gtbl := (tb_7 7 (by decide +kernel) rfl)
theorem eX12_isLetter : Cond.selects yX12_isLetter.cls yX12_isLetter yX12_isLetter ∈ gtbl := (tp_3 (q := (yX12_isLetter, 65)) 3 (by decide +kernel) rfl)
theorem sX12_140 : xSite RX12 140 yX12_isLetter cX12_isLetter 1 (some .boolean) 0 := ⟨(tb_7 5 (by decide +kernel) rfl), (tb_1 15 (by decide +kernel) rfl), (tb_7 8 (by decide +kernel) rfl), by decide +kernel, by decide⟩
theorem iX12_fails : Cond.instanceMethod yX12_fails ∈ gtbl := (tb_7 11 (by decide +kernel) rfl)
theorem eX12_fails : Cond.selects yX12_fails.cls yX12_fails yX12_fails ∈ gtbl := (tp_3 (q := (yX12_fails, 65)) 4 (by decide +kernel) rfl)
theorem sX12_144 : xSite RX12 144 yX12_fails cX12_fails 2 none 1 := ⟨(tb_7 9 (by decide +kernel) rfl), (tb_1 15 (by decide +kernel) rfl), (tb_7 12 (by decide +kernel) rfl), by decide +kernel, by decide⟩
theorem iJ0_length_8abf5 : Cond.instanceMethod yJ0_length_8abf5 ∈ gtbl := (tb_4 100 (by decide +kernel) rfl)
theorem eJ0_length_8abf5 : Cond.selects yJ0_length_8abf5.cls yJ0_length_8abf5 yJ0_length_8abf5 ∈ gtbl := (tb_4 101 (by decide +kernel) rfl)
theorem sX12_149 : xSite RX12 149 yJ0_length_8abf5 cJ0_length_8abf5 1 (some .int) 0 := ⟨(tb_7 17 (by decide +kernel) rfl), (tb_1 10 (by decide +kernel) rfl), (tb_4 102 (by decide +kernel) rfl), by decide +kernel, by decide⟩
theorem iJ0_charAt_5068e : Cond.instanceMethod yJ0_charAt_5068e ∈ gtbl := (tb_7 19 (by decide +kernel) rfl)
theorem eJ0_charAt_5068e : Cond.selects yJ0_charAt_5068e.cls yJ0_charAt_5068e yJ0_charAt_5068e ∈ gtbl := (tb_7 20 (by decide +kernel) rfl)
theorem sX12_153 : xSite RX12 153 yJ0_charAt_5068e cJ0_charAt_5068e 2 (some .char) 1 := ⟨(tb_7 18 (by decide +kernel) rfl), (tb_1 10 (by decide +kernel) rfl), (tb_7 21 (by decide +kernel) rfl), by decide +kernel, by decide⟩
theorem iX12_isDigit : Cond.instanceMethod yX12_isDigit ∈ gtbl := (tb_7 52 (by decide +kernel) rfl)
theorem eX12_isDigit : Cond.selects yX12_isDigit.cls yX12_isDigit yX12_isDigit ∈ gtbl := (tp_3 (q := (yX12_isDigit, 65)) 8 (by decide +kernel) rfl)
theorem sX12_157 : xSite RX12 157 yX12_isDigit cX12_isDigit 1 (some .boolean) 0 := ⟨(tb_7 50 (by decide +kernel) rfl), (tb_1 15 (by decide +kernel) rfl), (tb_7 53 (by decide +kernel) rfl), by decide +kernel, by decide⟩
theorem iX12_isIn : Cond.static yX12_isIn ∈ gtbl := (tb_6 223 (by decide +kernel) rfl)
theorem sX12_161 : xSite RX12 161 yX12_isIn cX12_isIn 6 (some .boolean) 3 := ⟨(tb_6 222 (by decide +kernel) rfl), (tb_1 15 (by decide +kernel) rfl), (tb_6 224 (by decide +kernel) rfl), by decide +kernel, by decide⟩
theorem iX12_word : Cond.instanceMethod yX12_word ∈ gtbl := (tb_6 235 (by decide +kernel) rfl)
theorem eX12_word : Cond.selects yX12_word.cls yX12_word yX12_word ∈ gtbl := (tp_3 (q := (yX12_word, 65)) 0 (by decide +kernel) rfl)
theorem sX12_165 : xSite RX12 165 yX12_word cX12_word 2 none 0 := ⟨(tb_6 233 (by decide +kernel) rfl), (tb_1 15 (by decide +kernel) rfl), (tb_6 236 (by decide +kernel) rfl), by decide +kernel, by decide⟩
theorem iX12_known : Cond.static yX12_known ∈ gtbl := (tb_7 14 (by decide +kernel) rfl)
theorem sX12_167 : xSite RX12 167 yX12_known cX12_known 6 (some .int) 1 := ⟨(tb_7 13 (by decide +kernel) rfl), (tb_1 15 (by decide +kernel) rfl), (tb_7 15 (by decide +kernel) rfl), by decide +kernel, by decide⟩
theorem iX12_spotOf : Cond.static yX12_spotOf ∈ gtbl := (tb_7 44 (by decide +kernel) rfl)
theorem sX12_174 : xSite RX12 174 yX12_spotOf cX12_spotOf 5 (some .int) 3 := ⟨(tb_7 43 (by decide +kernel) rfl), (tb_1 15 (by decide +kernel) rfl), (tb_7 45 (by decide +kernel) rfl), by decide +kernel, by decide⟩
theorem iX12_fresh : Cond.instanceMethod yX12_fresh ∈ gtbl := (tb_7 41 (by decide +kernel) rfl)
theorem eX12_fresh : Cond.selects yX12_fresh.cls yX12_fresh yX12_fresh ∈ gtbl := (tp_3 (q := (yX12_fresh, 65)) 6 (by decide +kernel) rfl)
theorem sX12_181 : xSite RX12 181 yX12_fresh cX12_fresh 1 (some .long) 0 := ⟨(tb_7 39 (by decide +kernel) rfl), (tb_1 15 (by decide +kernel) rfl), (tb_7 42 (by decide +kernel) rfl), by decide +kernel, by decide⟩
theorem iX12_number : Cond.instanceMethod yX12_number ∈ gtbl := (tb_7 48 (by decide +kernel) rfl)
theorem eX12_number : Cond.selects yX12_number.cls yX12_number yX12_number ∈ gtbl := (tp_3 (q := (yX12_number, 65)) 7 (by decide +kernel) rfl)
theorem sX12_185 : xSite RX12 185 yX12_number cX12_number 5 (some .int) 2 := ⟨(tb_7 46 (by decide +kernel) rfl), (tb_1 15 (by decide +kernel) rfl), (tb_7 49 (by decide +kernel) rfl), by decide +kernel, by decide⟩
theorem iX12_aLand : Cond.instanceMethod yX12_aLand ∈ gtbl := (tb_7 61 (by decide +kernel) rfl)
theorem eX12_aLand : Cond.selects yX12_aLand.cls yX12_aLand yX12_aLand ∈ gtbl := (tp_3 (q := (yX12_aLand, 65)) 10 (by decide +kernel) rfl)
theorem sX12_189 : xSite RX12 189 yX12_aLand cX12_aLand 2 (some .int) 0 := ⟨(tb_7 59 (by decide +kernel) rfl), (tb_1 15 (by decide +kernel) rfl), (tb_7 62 (by decide +kernel) rfl), by decide +kernel, by decide⟩
theorem iX12_aFirm : Cond.instanceMethod yX12_aFirm ∈ gtbl := (tb_7 69 (by decide +kernel) rfl)
theorem eX12_aFirm : Cond.selects yX12_aFirm.cls yX12_aFirm yX12_aFirm ∈ gtbl := (tp_3 (q := (yX12_aFirm, 65)) 12 (by decide +kernel) rfl)
theorem sX12_192 : xSite RX12 192 yX12_aFirm cX12_aFirm 2 (some .int) 0 := ⟨(tb_7 67 (by decide +kernel) rfl), (tb_1 15 (by decide +kernel) rfl), (tb_7 70 (by decide +kernel) rfl), by decide +kernel, by decide⟩
theorem iX12_mostOf : Cond.static yX12_mostOf ∈ gtbl := (tb_7 76 (by decide +kernel) rfl)
theorem sX12_201 : xSite RX12 201 yX12_mostOf cX12_mostOf 1 (some .int) 1 := ⟨(tb_7 75 (by decide +kernel) rfl), (tb_1 15 (by decide +kernel) rfl), (tb_7 77 (by decide +kernel) rfl), by decide +kernel, by decide⟩
theorem iX12_readLand : Cond.instanceMethod yX12_readLand ∈ gtbl := (tb_7 37 (by decide +kernel) rfl)
theorem eX12_readLand : Cond.selects yX12_readLand.cls yX12_readLand yX12_readLand ∈ gtbl := (tp_3 (q := (yX12_readLand, 65)) 5 (by decide +kernel) rfl)
theorem sX12_206 : xSite RX12 206 yX12_readLand cX12_readLand 4 none 0 := ⟨(tb_7 35 (by decide +kernel) rfl), (tb_1 15 (by decide +kernel) rfl), (tb_7 38 (by decide +kernel) rfl), by decide +kernel, by decide⟩
theorem iX12_readFirm : Cond.instanceMethod yX12_readFirm ∈ gtbl := (tb_7 57 (by decide +kernel) rfl)
theorem eX12_readFirm : Cond.selects yX12_readFirm.cls yX12_readFirm yX12_readFirm ∈ gtbl := (tp_3 (q := (yX12_readFirm, 65)) 9 (by decide +kernel) rfl)
theorem sX12_209 : xSite RX12 209 yX12_readFirm cX12_readFirm 3 none 0 := ⟨(tb_7 55 (by decide +kernel) rfl), (tb_1 15 (by decide +kernel) rfl), (tb_7 58 (by decide +kernel) rfl), by decide +kernel, by decide⟩
theorem iX12_readLink : Cond.instanceMethod yX12_readLink ∈ gtbl := (tb_7 65 (by decide +kernel) rfl)
theorem eX12_readLink : Cond.selects yX12_readLink.cls yX12_readLink yX12_readLink ∈ gtbl := (tp_3 (q := (yX12_readLink, 65)) 11 (by decide +kernel) rfl)
theorem sX12_212 : xSite RX12 212 yX12_readLink cX12_readLink 6 none 1 := ⟨(tb_7 63 (by decide +kernel) rfl), (tb_1 15 (by decide +kernel) rfl), (tb_7 66 (by decide +kernel) rfl), by decide +kernel, by decide⟩
theorem iX12_readTreaty : Cond.instanceMethod yX12_readTreaty ∈ gtbl := (tb_7 73 (by decide +kernel) rfl)
theorem eX12_readTreaty : Cond.selects yX12_readTreaty.cls yX12_readTreaty yX12_readTreaty ∈ gtbl := (tp_3 (q := (yX12_readTreaty, 65)) 13 (by decide +kernel) rfl)
theorem sX12_215 : xSite RX12 215 yX12_readTreaty cX12_readTreaty 4 none 1 := ⟨(tb_7 71 (by decide +kernel) rfl), (tb_1 15 (by decide +kernel) rfl), (tb_7 74 (by decide +kernel) rfl), by decide +kernel, by decide⟩
theorem iX12_readLine : Cond.instanceMethod yX12_readLine ∈ gtbl := (tb_6 231 (by decide +kernel) rfl)
theorem eX12_readLine : Cond.selects yX12_readLine.cls yX12_readLine yX12_readLine ∈ gtbl := (tp_2 (q := (yX12_readLine, 65)) 15 (by decide +kernel) rfl)
theorem sX12_222 : xSite RX12 222 yX12_readLine cX12_readLine 4 (some .boolean) 1 := ⟨(tb_6 229 (by decide +kernel) rfl), (tb_1 15 (by decide +kernel) rfl), (tb_6 232 (by decide +kernel) rfl), by decide +kernel, by decide⟩
theorem iX12_goesOn : Cond.instanceMethod yX12_goesOn ∈ gtbl := (tb_7 80 (by decide +kernel) rfl)
theorem eX12_goesOn : Cond.selects yX12_goesOn.cls yX12_goesOn yX12_goesOn ∈ gtbl := (tp_3 (q := (yX12_goesOn, 65)) 14 (by decide +kernel) rfl)
theorem sX12_226 : xSite RX12 226 yX12_goesOn cX12_goesOn 2 (some .boolean) 0 := ⟨(tb_7 78 (by decide +kernel) rfl), (tb_1 15 (by decide +kernel) rfl), (tb_7 81 (by decide +kernel) rfl), by decide +kernel, by decide⟩
theorem iX12_readStep : Cond.instanceMethod yX12_readStep ∈ gtbl := (tb_7 88 (by decide +kernel) rfl)
theorem eX12_readStep : Cond.selects yX12_readStep.cls yX12_readStep yX12_readStep ∈ gtbl := (tp_4 (q := (yX12_readStep, 65)) 0 (by decide +kernel) rfl)
theorem sX12_229 : xSite RX12 229 yX12_readStep cX12_readStep 6 none 1 := ⟨(tb_7 86 (by decide +kernel) rfl), (tb_1 15 (by decide +kernel) rfl), (tb_7 89 (by decide +kernel) rfl), by decide +kernel, by decide⟩
theorem iX12_readBook : Cond.instanceMethod yX12_readBook ∈ gtbl := (tb_6 227 (by decide +kernel) rfl)
theorem eX12_readBook : Cond.selects yX12_readBook.cls yX12_readBook yX12_readBook ∈ gtbl := (tp_2 (q := (yX12_readBook, 65)) 14 (by decide +kernel) rfl)
theorem sX12_232 : xSite RX12 232 yX12_readBook cX12_readBook 3 none 0 := ⟨(tb_6 225 (by decide +kernel) rfl), (tb_1 15 (by decide +kernel) rfl), (tb_6 228 (by decide +kernel) rfl), by decide +kernel, by decide⟩
theorem iX12_readScript : Cond.instanceMethod yX12_readScript ∈ gtbl := (tb_7 84 (by decide +kernel) rfl)
theorem eX12_readScript : Cond.selects yX12_readScript.cls yX12_readScript yX12_readScript ∈ gtbl := (tp_3 (q := (yX12_readScript, 65)) 15 (by decide +kernel) rfl)
theorem sX12_235 : xSite RX12 235 yX12_readScript cX12_readScript 3 none 0 := ⟨(tb_7 82 (by decide +kernel) rfl), (tb_1 15 (by decide +kernel) rfl), (tb_7 85 (by decide +kernel) rfl), by decide +kernel, by decide⟩
theorem iX12_copyInts : Cond.static yX12_copyInts ∈ gtbl := (tb_7 100 (by decide +kernel) rfl)
theorem sX12_238 : xSite RX12 238 yX12_copyInts cX12_copyInts 3 none 2 := ⟨(tb_7 99 (by decide +kernel) rfl), (tb_1 15 (by decide +kernel) rfl), (tb_7 101 (by decide +kernel) rfl), by decide +kernel, by decide⟩
theorem iX12_fault : Cond.instanceMethod yX12_fault ∈ gtbl := (tb_6 219 (by decide +kernel) rfl)
theorem eX12_fault : Cond.selects yX12_fault.cls yX12_fault yX12_fault ∈ gtbl := (tb_6 220 (by decide +kernel) rfl)
theorem sX12_261 : xSite RX12 261 yX12_fault cX12_fault 2 (some .int) 1 := ⟨(tb_7 94 (by decide +kernel) rfl), (tb_1 15 (by decide +kernel) rfl), (tb_6 221 (by decide +kernel) rfl), by decide +kernel, by decide⟩
theorem iX12_begins : Cond.instanceMethod yX12_begins ∈ gtbl := (tb_7 97 (by decide +kernel) rfl)
theorem eX12_begins : Cond.selects yX12_begins.cls yX12_begins yX12_begins ∈ gtbl := (tp_4 (q := (yX12_begins, 65)) 1 (by decide +kernel) rfl)
theorem sX12_263 : xSite RX12 263 yX12_begins cX12_begins 2 none 0 := ⟨(tb_7 95 (by decide +kernel) rfl), (tb_1 15 (by decide +kernel) rfl), (tb_7 98 (by decide +kernel) rfl), by decide +kernel, by decide⟩
theorem iX12_areLapsed : Cond.instanceMethod yX12_areLapsed ∈ gtbl := (tb_7 175 (by decide +kernel) rfl)
theorem eX12_areLapsed : Cond.selects yX12_areLapsed.cls yX12_areLapsed yX12_areLapsed ∈ gtbl := (tp_5 (q := (yX12_areLapsed, 65)) 1 (by decide +kernel) rfl)
theorem sX12_266 : xSite RX12 266 yX12_areLapsed cX12_areLapsed 3 (some .boolean) 2 := ⟨(tb_7 173 (by decide +kernel) rfl), (tb_1 15 (by decide +kernel) rfl), (tb_7 176 (by decide +kernel) rfl), by decide +kernel, by decide⟩
theorem iX12_linkRow : Cond.static yX12_linkRow ∈ gtbl := (tb_7 147 (by decide +kernel) rfl)
theorem sX12_270 : xSite RX12 270 yX12_linkRow cX12_linkRow 1 (some .int) 1 := ⟨(tb_7 146 (by decide +kernel) rfl), (tb_1 15 (by decide +kernel) rfl), (tb_7 148 (by decide +kernel) rfl), by decide +kernel, by decide⟩
theorem iX12_linkOf : Cond.static yX12_linkOf ∈ gtbl := (tb_7 144 (by decide +kernel) rfl)
theorem sX12_273 : xSite RX12 273 yX12_linkOf cX12_linkOf 5 (some .int) 4 := ⟨(tb_7 143 (by decide +kernel) rfl), (tb_1 15 (by decide +kernel) rfl), (tb_7 145 (by decide +kernel) rfl), by decide +kernel, by decide⟩
theorem iX12_landOf : Cond.instanceMethod yX12_landOf ∈ gtbl := (tb_7 163 (by decide +kernel) rfl)
theorem eX12_landOf : Cond.selects yX12_landOf.cls yX12_landOf yX12_landOf ∈ gtbl := (tp_4 (q := (yX12_landOf, 65)) 14 (by decide +kernel) rfl)
theorem sX12_280 : xSite RX12 280 yX12_landOf cX12_landOf 2 (some .int) 1 := ⟨(tb_7 161 (by decide +kernel) rfl), (tb_1 15 (by decide +kernel) rfl), (tb_7 164 (by decide +kernel) rfl), by decide +kernel, by decide⟩
theorem iX12_treatyOf : Cond.instanceMethod yX12_treatyOf ∈ gtbl := (tb_7 171 (by decide +kernel) rfl)
theorem eX12_treatyOf : Cond.selects yX12_treatyOf.cls yX12_treatyOf yX12_treatyOf ∈ gtbl := (tp_5 (q := (yX12_treatyOf, 65)) 0 (by decide +kernel) rfl)
theorem sX12_283 : xSite RX12 283 yX12_treatyOf cX12_treatyOf 8 (some .int) 3 := ⟨(tb_7 169 (by decide +kernel) rfl), (tb_1 15 (by decide +kernel) rfl), (tb_7 172 (by decide +kernel) rfl), by decide +kernel, by decide⟩
theorem iX12_articleOf : Cond.instanceMethod yX12_articleOf ∈ gtbl := (tb_7 167 (by decide +kernel) rfl)
theorem eX12_articleOf : Cond.selects yX12_articleOf.cls yX12_articleOf yX12_articleOf ∈ gtbl := (tp_4 (q := (yX12_articleOf, 65)) 15 (by decide +kernel) rfl)
theorem sX12_287 : xSite RX12 287 yX12_articleOf cX12_articleOf 11 (some .int) 6 := ⟨(tb_7 165 (by decide +kernel) rfl), (tb_1 15 (by decide +kernel) rfl), (tb_7 168 (by decide +kernel) rfl), by decide +kernel, by decide⟩
theorem iX12_hopOf : Cond.instanceMethod yX12_hopOf ∈ gtbl := (tb_7 141 (by decide +kernel) rfl)
theorem eX12_hopOf : Cond.selects yX12_hopOf.cls yX12_hopOf yX12_hopOf ∈ gtbl := (tp_4 (q := (yX12_hopOf, 65)) 10 (by decide +kernel) rfl)
theorem sX12_309 : xSite RX12 309 yX12_hopOf cX12_hopOf 6 (some .int) 4 := ⟨(tb_7 139 (by decide +kernel) rfl), (tb_1 15 (by decide +kernel) rfl), (tb_7 142 (by decide +kernel) rfl), by decide +kernel, by decide⟩
theorem iX12_laysHop : Cond.instanceMethod yX12_laysHop ∈ gtbl := (tb_7 159 (by decide +kernel) rfl)
theorem eX12_laysHop : Cond.selects yX12_laysHop.cls yX12_laysHop yX12_laysHop ∈ gtbl := (tp_4 (q := (yX12_laysHop, 65)) 13 (by decide +kernel) rfl)
theorem sX12_312 : xSite RX12 312 yX12_laysHop cX12_laysHop 9 none 6 := ⟨(tb_7 157 (by decide +kernel) rfl), (tb_1 15 (by decide +kernel) rfl), (tb_7 160 (by decide +kernel) rfl), by decide +kernel, by decide⟩
theorem iX12_dueOf : Cond.instanceMethod yX12_dueOf ∈ gtbl := (tb_7 181 (by decide +kernel) rfl)
theorem eX12_dueOf : Cond.selects yX12_dueOf.cls yX12_dueOf yX12_dueOf ∈ gtbl := (tp_5 (q := (yX12_dueOf, 65)) 2 (by decide +kernel) rfl)
theorem sX12_318 : xSite RX12 318 yX12_dueOf cX12_dueOf 9 (some .int) 4 := ⟨(tb_7 179 (by decide +kernel) rfl), (tb_1 15 (by decide +kernel) rfl), (tb_7 182 (by decide +kernel) rfl), by decide +kernel, by decide⟩
theorem iX12_reckons : Cond.instanceMethod yX12_reckons ∈ gtbl := (tb_7 155 (by decide +kernel) rfl)
theorem eX12_reckons : Cond.selects yX12_reckons.cls yX12_reckons yX12_reckons ∈ gtbl := (tp_4 (q := (yX12_reckons, 65)) 12 (by decide +kernel) rfl)
theorem sX12_327 : xSite RX12 327 yX12_reckons cX12_reckons 7 none 3 := ⟨(tb_7 153 (by decide +kernel) rfl), (tb_1 15 (by decide +kernel) rfl), (tb_7 156 (by decide +kernel) rfl), by decide +kernel, by decide⟩
theorem iX12_isOn : Cond.instanceMethod yX12_isOn ∈ gtbl := (tb_7 137 (by decide +kernel) rfl)
theorem eX12_isOn : Cond.selects yX12_isOn.cls yX12_isOn yX12_isOn ∈ gtbl := (tp_4 (q := (yX12_isOn, 65)) 9 (by decide +kernel) rfl)
theorem sX12_340 : xSite RX12 340 yX12_isOn cX12_isOn 4 (some .boolean) 2 := ⟨(tb_7 135 (by decide +kernel) rfl), (tb_1 15 (by decide +kernel) rfl), (tb_7 138 (by decide +kernel) rfl), by decide +kernel, by decide⟩
theorem iX12_ends : Cond.instanceMethod yX12_ends ∈ gtbl := (tb_7 151 (by decide +kernel) rfl)
theorem eX12_ends : Cond.selects yX12_ends.cls yX12_ends yX12_ends ∈ gtbl := (tp_4 (q := (yX12_ends, 65)) 11 (by decide +kernel) rfl)
theorem sX12_343 : xSite RX12 343 yX12_ends cX12_ends 7 none 4 := ⟨(tb_7 149 (by decide +kernel) rfl), (tb_1 15 (by decide +kernel) rfl), (tb_7 152 (by decide +kernel) rfl), by decide +kernel, by decide⟩
theorem iX12_goesFrom : Cond.instanceMethod yX12_goesFrom ∈ gtbl := (tb_7 133 (by decide +kernel) rfl)
theorem eX12_goesFrom : Cond.selects yX12_goesFrom.cls yX12_goesFrom yX12_goesFrom ∈ gtbl := (tp_4 (q := (yX12_goesFrom, 65)) 8 (by decide +kernel) rfl)
theorem sX12_347 : xSite RX12 347 yX12_goesFrom cX12_goesFrom 8 none 6 := ⟨(tb_7 131 (by decide +kernel) rfl), (tb_1 15 (by decide +kernel) rfl), (tb_7 134 (by decide +kernel) rfl), by decide +kernel, by decide⟩
theorem iX12_isFirm : Cond.instanceMethod yX12_isFirm ∈ gtbl := (tb_7 124 (by decide +kernel) rfl)
theorem eX12_isFirm : Cond.selects yX12_isFirm.cls yX12_isFirm yX12_isFirm ∈ gtbl := (tp_4 (q := (yX12_isFirm, 65)) 6 (by decide +kernel) rfl)
theorem sX12_351 : xSite RX12 351 yX12_isFirm cX12_isFirm 2 (some .boolean) 1 := ⟨(tb_7 122 (by decide +kernel) rfl), (tb_1 15 (by decide +kernel) rfl), (tb_7 125 (by decide +kernel) rfl), by decide +kernel, by decide⟩
theorem iX12_isAsked : Cond.instanceMethod yX12_isAsked ∈ gtbl := (tb_8 89 (by decide +kernel) rfl)
theorem eX12_isAsked : Cond.selects yX12_isAsked.cls yX12_isAsked yX12_isAsked ∈ gtbl := (tp_5 (q := (yX12_isAsked, 65)) 15 (by decide +kernel) rfl)
theorem sX12_357 : xSite RX12 357 yX12_isAsked cX12_isAsked 5 (some .boolean) 4 := ⟨(tb_8 87 (by decide +kernel) rfl), (tb_1 15 (by decide +kernel) rfl), (tb_8 90 (by decide +kernel) rfl), by decide +kernel, by decide⟩
theorem iX12_searches : Cond.instanceMethod yX12_searches ∈ gtbl := (tb_7 129 (by decide +kernel) rfl)
theorem eX12_searches : Cond.selects yX12_searches.cls yX12_searches yX12_searches ∈ gtbl := (tp_4 (q := (yX12_searches, 65)) 7 (by decide +kernel) rfl)
theorem sX12_361 : xSite RX12 361 yX12_searches cX12_searches 8 (some .boolean) 6 := ⟨(tb_7 127 (by decide +kernel) rfl), (tb_1 15 (by decide +kernel) rfl), (tb_7 130 (by decide +kernel) rfl), by decide +kernel, by decide⟩
theorem iX12_stopsPaying : Cond.instanceMethod yX12_stopsPaying ∈ gtbl := (tb_7 120 (by decide +kernel) rfl)
theorem eX12_stopsPaying : Cond.selects yX12_stopsPaying.cls yX12_stopsPaying yX12_stopsPaying ∈ gtbl := (tp_4 (q := (yX12_stopsPaying, 65)) 5 (by decide +kernel) rfl)
theorem sX12_365 : xSite RX12 365 yX12_stopsPaying cX12_stopsPaying 6 (some .int) 5 := ⟨(tb_7 118 (by decide +kernel) rfl), (tb_1 15 (by decide +kernel) rfl), (tb_7 121 (by decide +kernel) rfl), by decide +kernel, by decide⟩
theorem iX12_stopsOwning : Cond.instanceMethod yX12_stopsOwning ∈ gtbl := (tb_7 188 (by decide +kernel) rfl)
theorem eX12_stopsOwning : Cond.selects yX12_stopsOwning.cls yX12_stopsOwning yX12_stopsOwning ∈ gtbl := (tp_5 (q := (yX12_stopsOwning, 65)) 3 (by decide +kernel) rfl)
theorem sX12_373 : xSite RX12 373 yX12_stopsOwning cX12_stopsOwning 7 (some .int) 4 := ⟨(tb_7 186 (by decide +kernel) rfl), (tb_1 15 (by decide +kernel) rfl), (tb_7 189 (by decide +kernel) rfl), by decide +kernel, by decide⟩
theorem iX12_pays : Cond.instanceMethod yX12_pays ∈ gtbl := (tb_7 204 (by decide +kernel) rfl)
theorem eX12_pays : Cond.selects yX12_pays.cls yX12_pays yX12_pays ∈ gtbl := (tp_5 (q := (yX12_pays, 65)) 6 (by decide +kernel) rfl)
theorem sX12_381 : xSite RX12 381 yX12_pays cX12_pays 8 none 5 := ⟨(tb_7 202 (by decide +kernel) rfl), (tb_1 15 (by decide +kernel) rfl), (tb_7 205 (by decide +kernel) rfl), by decide +kernel, by decide⟩
theorem iX12_owns : Cond.instanceMethod yX12_owns ∈ gtbl := (tb_7 208 (by decide +kernel) rfl)
theorem eX12_owns : Cond.selects yX12_owns.cls yX12_owns yX12_owns ∈ gtbl := (tp_5 (q := (yX12_owns, 65)) 7 (by decide +kernel) rfl)
theorem sX12_391 : xSite RX12 391 yX12_owns cX12_owns 6 none 4 := ⟨(tb_7 206 (by decide +kernel) rfl), (tb_1 15 (by decide +kernel) rfl), (tb_7 209 (by decide +kernel) rfl), by decide +kernel, by decide⟩
theorem iX12_lends : Cond.instanceMethod yX12_lends ∈ gtbl := (tb_7 218 (by decide +kernel) rfl)
theorem eX12_lends : Cond.selects yX12_lends.cls yX12_lends yX12_lends ∈ gtbl := (tp_5 (q := (yX12_lends, 65)) 8 (by decide +kernel) rfl)
theorem sX12_395 : xSite RX12 395 yX12_lends cX12_lends 5 none 3 := ⟨(tb_7 216 (by decide +kernel) rfl), (tb_1 15 (by decide +kernel) rfl), (tb_7 219 (by decide +kernel) rfl), by decide +kernel, by decide⟩
theorem iX12_makes : Cond.static yX12_makes ∈ gtbl := (tb_7 211 (by decide +kernel) rfl)
theorem sX12_398 : xSite RX12 398 yX12_makes cX12_makes 6 none 5 := ⟨(tb_7 210 (by decide +kernel) rfl), (tb_1 15 (by decide +kernel) rfl), (tb_7 212 (by decide +kernel) rfl), by decide +kernel, by decide⟩
theorem iX12_unmakes : Cond.static yX12_unmakes ∈ gtbl := (tb_7 214 (by decide +kernel) rfl)
theorem sX12_401 : xSite RX12 401 yX12_unmakes cX12_unmakes 3 none 2 := ⟨(tb_7 213 (by decide +kernel) rfl), (tb_1 15 (by decide +kernel) rfl), (tb_7 215 (by decide +kernel) rfl), by decide +kernel, by decide⟩
theorem iX12_copyRow : Cond.static yX12_copyRow ∈ gtbl := (tb_7 196 (by decide +kernel) rfl)
theorem sX12_408 : xSite RX12 408 yX12_copyRow cX12_copyRow 5 none 4 := ⟨(tb_7 195 (by decide +kernel) rfl), (tb_1 15 (by decide +kernel) rfl), (tb_7 197 (by decide +kernel) rfl), by decide +kernel, by decide⟩
theorem iX12_stops : Cond.instanceMethod yX12_stops ∈ gtbl := (tb_7 116 (by decide +kernel) rfl)
theorem eX12_stops : Cond.selects yX12_stops.cls yX12_stops yX12_stops ∈ gtbl := (tp_4 (q := (yX12_stops, 65)) 4 (by decide +kernel) rfl)
theorem sX12_412 : xSite RX12 412 yX12_stops cX12_stops 7 (some .int) 6 := ⟨(tb_7 114 (by decide +kernel) rfl), (tb_1 15 (by decide +kernel) rfl), (tb_7 117 (by decide +kernel) rfl), by decide +kernel, by decide⟩
theorem iX12_remember : Cond.instanceMethod yX12_remember ∈ gtbl := (tb_7 193 (by decide +kernel) rfl)
theorem eX12_remember : Cond.selects yX12_remember.cls yX12_remember yX12_remember ∈ gtbl := (tp_5 (q := (yX12_remember, 65)) 4 (by decide +kernel) rfl)
theorem sX12_415 : xSite RX12 415 yX12_remember cX12_remember 1 none 0 := ⟨(tb_7 191 (by decide +kernel) rfl), (tb_1 15 (by decide +kernel) rfl), (tb_7 194 (by decide +kernel) rfl), by decide +kernel, by decide⟩
theorem iX12_does : Cond.instanceMethod yX12_does ∈ gtbl := (tb_7 200 (by decide +kernel) rfl)
theorem eX12_does : Cond.selects yX12_does.cls yX12_does yX12_does ∈ gtbl := (tp_5 (q := (yX12_does, 65)) 5 (by decide +kernel) rfl)
theorem sX12_418 : xSite RX12 418 yX12_does cX12_does 7 none 6 := ⟨(tb_7 198 (by decide +kernel) rfl), (tb_1 15 (by decide +kernel) rfl), (tb_7 201 (by decide +kernel) rfl), by decide +kernel, by decide⟩
theorem iX12_notes : Cond.instanceMethod yX12_notes ∈ gtbl := (tb_7 222 (by decide +kernel) rfl)
theorem eX12_notes : Cond.selects yX12_notes.cls yX12_notes yX12_notes ∈ gtbl := (tp_5 (q := (yX12_notes, 65)) 9 (by decide +kernel) rfl)
theorem sX12_421 : xSite RX12 421 yX12_notes cX12_notes 3 none 1 := ⟨(tb_7 220 (by decide +kernel) rfl), (tb_1 15 (by decide +kernel) rfl), (tb_7 223 (by decide +kernel) rfl), by decide +kernel, by decide⟩
theorem iX12_tries : Cond.instanceMethod yX12_tries ∈ gtbl := (tb_7 112 (by decide +kernel) rfl)
theorem eX12_tries : Cond.selects yX12_tries.cls yX12_tries yX12_tries ∈ gtbl := (tp_4 (q := (yX12_tries, 65)) 3 (by decide +kernel) rfl)
theorem sX12_424 : xSite RX12 424 yX12_tries cX12_tries 7 (some .int) 5 := ⟨(tb_7 110 (by decide +kernel) rfl), (tb_1 15 (by decide +kernel) rfl), (tb_7 113 (by decide +kernel) rfl), by decide +kernel, by decide⟩
theorem iX12_act : Cond.instanceMethod yX12_act ∈ gtbl := (tb_7 108 (by decide +kernel) rfl)
theorem eX12_act : Cond.selects yX12_act.cls yX12_act yX12_act ∈ gtbl := (tp_4 (q := (yX12_act, 65)) 2 (by decide +kernel) rfl)
theorem sX12_428 : xSite RX12 428 yX12_act cX12_act 7 (some .int) 5 := ⟨(tb_7 106 (by decide +kernel) rfl), (tb_1 15 (by decide +kernel) rfl), (tb_7 109 (by decide +kernel) rfl), by decide +kernel, by decide⟩
theorem iX12_draw : Cond.instanceMethod yX12_draw ∈ gtbl := (tb_8 11 (by decide +kernel) rfl)
theorem eX12_draw : Cond.selects yX12_draw.cls yX12_draw yX12_draw ∈ gtbl := (tp_5 (q := (yX12_draw, 65)) 11 (by decide +kernel) rfl)
theorem sX12_438 : xSite RX12 438 yX12_draw cX12_draw 2 (some .int) 1 := ⟨(tb_8 9 (by decide +kernel) rfl), (tb_1 15 (by decide +kernel) rfl), (tb_8 12 (by decide +kernel) rfl), by decide +kernel, by decide⟩
theorem iX12_happens : Cond.instanceMethod yX12_happens ∈ gtbl := (tb_8 7 (by decide +kernel) rfl)
theorem eX12_happens : Cond.selects yX12_happens.cls yX12_happens yX12_happens ∈ gtbl := (tp_5 (q := (yX12_happens, 65)) 10 (by decide +kernel) rfl)
theorem sX12_443 : xSite RX12 443 yX12_happens cX12_happens 5 (some .int) 0 := ⟨(tb_8 5 (by decide +kernel) rfl), (tb_1 15 (by decide +kernel) rfl), (tb_8 8 (by decide +kernel) rfl), by decide +kernel, by decide⟩
theorem iX12_isLand : Cond.instanceMethod yX12_isLand ∈ gtbl := (tb_8 43 (by decide +kernel) rfl)
theorem eX12_isLand : Cond.selects yX12_isLand.cls yX12_isLand yX12_isLand ∈ gtbl := (tp_5 (q := (yX12_isLand, 65)) 12 (by decide +kernel) rfl)
theorem sX12_449 : xSite RX12 449 yX12_isLand cX12_isLand 2 (some .boolean) 1 := ⟨(tb_8 41 (by decide +kernel) rfl), (tb_1 15 (by decide +kernel) rfl), (tb_8 44 (by decide +kernel) rfl), by decide +kernel, by decide⟩
theorem iX12_linksOf : Cond.instanceMethod yX12_linksOf ∈ gtbl := (tb_8 52 (by decide +kernel) rfl)
theorem eX12_linksOf : Cond.selects yX12_linksOf.cls yX12_linksOf yX12_linksOf ∈ gtbl := (tp_5 (q := (yX12_linksOf, 65)) 13 (by decide +kernel) rfl)
theorem sX12_454 : xSite RX12 454 yX12_linksOf cX12_linksOf 4 (some .int) 1 := ⟨(tb_8 50 (by decide +kernel) rfl), (tb_1 15 (by decide +kernel) rfl), (tb_8 53 (by decide +kernel) rfl), by decide +kernel, by decide⟩
theorem iX12_lettersOf : Cond.static yX12_lettersOf ∈ gtbl := (tb_8 59 (by decide +kernel) rfl)
theorem sX12_457 : xSite RX12 457 yX12_lettersOf cX12_lettersOf 3 (some .int) 1 := ⟨(tb_8 58 (by decide +kernel) rfl), (tb_1 15 (by decide +kernel) rfl), (tb_8 60 (by decide +kernel) rfl), by decide +kernel, by decide⟩
theorem iX12_letterOf : Cond.static yX12_letterOf ∈ gtbl := (tb_8 62 (by decide +kernel) rfl)
theorem sX12_462 : xSite RX12 462 yX12_letterOf cX12_letterOf 3 (some .int) 2 := ⟨(tb_8 61 (by decide +kernel) rfl), (tb_1 15 (by decide +kernel) rfl), (tb_8 63 (by decide +kernel) rfl), by decide +kernel, by decide⟩
theorem iX12_finds : Cond.instanceMethod yX12_finds ∈ gtbl := (tb_8 85 (by decide +kernel) rfl)
theorem eX12_finds : Cond.selects yX12_finds.cls yX12_finds yX12_finds ∈ gtbl := (tp_5 (q := (yX12_finds, 65)) 14 (by decide +kernel) rfl)
theorem sX12_470 : xSite RX12 470 yX12_finds cX12_finds 5 (some .boolean) 4 := ⟨(tb_8 83 (by decide +kernel) rfl), (tb_1 15 (by decide +kernel) rfl), (tb_8 86 (by decide +kernel) rfl), by decide +kernel, by decide⟩
theorem iX12_says : Cond.instanceMethod yX12_says ∈ gtbl := (tb_8 109 (by decide +kernel) rfl)
theorem eX12_says : Cond.selects yX12_says.cls yX12_says yX12_says ∈ gtbl := (tp_6 (q := (yX12_says, 65)) 2 (by decide +kernel) rfl)
theorem sX12_476 : xSite RX12 476 yX12_says cX12_says 2 none 1 := ⟨(tb_8 107 (by decide +kernel) rfl), (tb_1 15 (by decide +kernel) rfl), (tb_8 110 (by decide +kernel) rfl), by decide +kernel, by decide⟩
theorem iX12_saysNumber : Cond.instanceMethod yX12_saysNumber ∈ gtbl := (tb_8 113 (by decide +kernel) rfl)
theorem eX12_saysNumber : Cond.selects yX12_saysNumber.cls yX12_saysNumber yX12_saysNumber ∈ gtbl := (tp_6 (q := (yX12_saysNumber, 65)) 3 (by decide +kernel) rfl)
theorem sX12_479 : xSite RX12 479 yX12_saysNumber cX12_saysNumber 2 none 1 := ⟨(tb_8 111 (by decide +kernel) rfl), (tb_1 15 (by decide +kernel) rfl), (tb_8 114 (by decide +kernel) rfl), by decide +kernel, by decide⟩
theorem iX12_saysName : Cond.instanceMethod yX12_saysName ∈ gtbl := (tb_8 105 (by decide +kernel) rfl)
theorem eX12_saysName : Cond.selects yX12_saysName.cls yX12_saysName yX12_saysName ∈ gtbl := (tp_6 (q := (yX12_saysName, 65)) 1 (by decide +kernel) rfl)
theorem sX12_482 : xSite RX12 482 yX12_saysName cX12_saysName 3 none 1 := ⟨(tb_8 103 (by decide +kernel) rfl), (tb_1 15 (by decide +kernel) rfl), (tb_8 106 (by decide +kernel) rfl), by decide +kernel, by decide⟩
theorem iX12_spells : Cond.instanceMethod yX12_spells ∈ gtbl := (tb_8 101 (by decide +kernel) rfl)
theorem eX12_spells : Cond.selects yX12_spells.cls yX12_spells yX12_spells ∈ gtbl := (tp_6 (q := (yX12_spells, 65)) 0 (by decide +kernel) rfl)
theorem sX12_485 : xSite RX12 485 yX12_spells cX12_spells 2 none 0 := ⟨(tb_8 99 (by decide +kernel) rfl), (tb_1 15 (by decide +kernel) rfl), (tb_8 102 (by decide +kernel) rfl), by decide +kernel, by decide⟩
theorem iX12_findsIn : Cond.instanceMethod yX12_findsIn ∈ gtbl := (tb_8 121 (by decide +kernel) rfl)
theorem eX12_findsIn : Cond.selects yX12_findsIn.cls yX12_findsIn yX12_findsIn ∈ gtbl := (tp_6 (q := (yX12_findsIn, 65)) 4 (by decide +kernel) rfl)
theorem sX12_488 : xSite RX12 488 yX12_findsIn cX12_findsIn 6 (some .boolean) 5 := ⟨(tb_8 119 (by decide +kernel) rfl), (tb_1 15 (by decide +kernel) rfl), (tb_8 122 (by decide +kernel) rfl), by decide +kernel, by decide⟩
theorem iX12_withoutOne : Cond.instanceMethod yX12_withoutOne ∈ gtbl := (tb_8 137 (by decide +kernel) rfl)
theorem eX12_withoutOne : Cond.selects yX12_withoutOne.cls yX12_withoutOne yX12_withoutOne ∈ gtbl := (tp_6 (q := (yX12_withoutOne, 65)) 5 (by decide +kernel) rfl)
theorem sX12_492 : xSite RX12 492 yX12_withoutOne cX12_withoutOne 7 (some .int) 5 := ⟨(tb_8 135 (by decide +kernel) rfl), (tb_1 15 (by decide +kernel) rfl), (tb_8 138 (by decide +kernel) rfl), by decide +kernel, by decide⟩
theorem iX12_brings_ : Cond.instanceMethod yX12_brings_ ∈ gtbl := (tb_8 174 (by decide +kernel) rfl)
theorem eX12_brings_ : Cond.selects yX12_brings_.cls yX12_brings_ yX12_brings_ ∈ gtbl := (tp_6 (q := (yX12_brings_, 65)) 6 (by decide +kernel) rfl)
theorem sX12_496 : xSite RX12 496 yX12_brings_ cX12_brings_ 6 (some .boolean) 5 := ⟨(tb_8 172 (by decide +kernel) rfl), (tb_1 15 (by decide +kernel) rfl), (tb_8 175 (by decide +kernel) rfl), by decide +kernel, by decide⟩
theorem iX12_isScript : Cond.instanceMethod yX12_isScript ∈ gtbl := (tb_8 186 (by decide +kernel) rfl)
theorem eX12_isScript : Cond.selects yX12_isScript.cls yX12_isScript yX12_isScript ∈ gtbl := (tp_6 (q := (yX12_isScript, 65)) 7 (by decide +kernel) rfl)
theorem sX12_498 : xSite RX12 498 yX12_isScript cX12_isScript 2 (some .boolean) 1 := ⟨(tb_8 184 (by decide +kernel) rfl), (tb_1 15 (by decide +kernel) rfl), (tb_8 187 (by decide +kernel) rfl), by decide +kernel, by decide⟩
theorem iX12_takenOf : Cond.static yX12_takenOf ∈ gtbl := (tb_8 193 (by decide +kernel) rfl)
theorem sX12_501 : xSite RX12 501 yX12_takenOf cX12_takenOf 3 (some .int) 1 := ⟨(tb_8 192 (by decide +kernel) rfl), (tb_1 15 (by decide +kernel) rfl), (tb_8 194 (by decide +kernel) rfl), by decide +kernel, by decide⟩
theorem iX12_sumOf : Cond.instanceMethod yX12_sumOf ∈ gtbl := (tb_8 205 (by decide +kernel) rfl)
theorem eX12_sumOf : Cond.selects yX12_sumOf.cls yX12_sumOf yX12_sumOf ∈ gtbl := (tp_6 (q := (yX12_sumOf, 65)) 8 (by decide +kernel) rfl)
theorem sX12_505 : xSite RX12 505 yX12_sumOf cX12_sumOf 4 (some .int) 1 := ⟨(tb_8 203 (by decide +kernel) rfl), (tb_1 15 (by decide +kernel) rfl), (tb_8 206 (by decide +kernel) rfl), by decide +kernel, by decide⟩
theorem iX12_inForce : Cond.instanceMethod yX12_inForce ∈ gtbl := (tb_8 209 (by decide +kernel) rfl)
theorem eX12_inForce : Cond.selects yX12_inForce.cls yX12_inForce yX12_inForce ∈ gtbl := (tp_6 (q := (yX12_inForce, 65)) 9 (by decide +kernel) rfl)
theorem sX12_508 : xSite RX12 508 yX12_inForce cX12_inForce 4 (some .int) 0 := ⟨(tb_8 207 (by decide +kernel) rfl), (tb_1 15 (by decide +kernel) rfl), (tb_8 210 (by decide +kernel) rfl), by decide +kernel, by decide⟩
theorem iX12_mostOf_ : Cond.instanceMethod yX12_mostOf_ ∈ gtbl := (tb_8 213 (by decide +kernel) rfl)
theorem eX12_mostOf_ : Cond.selects yX12_mostOf_.cls yX12_mostOf_ yX12_mostOf_ ∈ gtbl := (tp_6 (q := (yX12_mostOf_, 65)) 10 (by decide +kernel) rfl)
theorem sX12_511 : xSite RX12 511 yX12_mostOf_ cX12_mostOf_ 5 (some .int) 2 := ⟨(tb_8 211 (by decide +kernel) rfl), (tb_1 15 (by decide +kernel) rfl), (tb_8 214 (by decide +kernel) rfl), by decide +kernel, by decide⟩
theorem iX12_later : Cond.instanceMethod yX12_later ∈ gtbl := (tb_8 217 (by decide +kernel) rfl)
theorem eX12_later : Cond.selects yX12_later.cls yX12_later yX12_later ∈ gtbl := (tp_6 (q := (yX12_later, 65)) 11 (by decide +kernel) rfl)
theorem sX12_513 : xSite RX12 513 yX12_later cX12_later 3 (some .int) 0 := ⟨(tb_8 215 (by decide +kernel) rfl), (tb_1 15 (by decide +kernel) rfl), (tb_8 218 (by decide +kernel) rfl), by decide +kernel, by decide⟩
theorem iX2_readLink : Cond.instanceMethod yX2_readLink ∈ gtbl := (tb_2 220 (by decide +kernel) rfl)
theorem eX2_readLink : Cond.selects yX2_readLink.cls yX2_readLink yX2_readLink ∈ gtbl := (tp_1 (q := (yX2_readLink, 9)) 5 (by decide +kernel) rfl)
theorem sX2_100 : xSite RX2 100 yX2_readLink cX2_readLink 8 none 3 := ⟨(tb_2 218 (by decide +kernel) rfl), (tb_1 12 (by decide +kernel) rfl), (tb_2 221 (by decide +kernel) rfl), by decide +kernel, by decide⟩
theorem iX2_readTreaty : Cond.instanceMethod yX2_readTreaty ∈ gtbl := (tb_2 232 (by decide +kernel) rfl)
theorem eX2_readTreaty : Cond.selects yX2_readTreaty.cls yX2_readTreaty yX2_readTreaty ∈ gtbl := (tp_1 (q := (yX2_readTreaty, 9)) 6 (by decide +kernel) rfl)
theorem sX2_104 : xSite RX2 104 yX2_readTreaty cX2_readTreaty 6 none 3 := ⟨(tb_2 230 (by decide +kernel) rfl), (tb_1 12 (by decide +kernel) rfl), (tb_2 233 (by decide +kernel) rfl), by decide +kernel, by decide⟩
theorem iX2_readYear : Cond.instanceMethod yX2_readYear ∈ gtbl := (tb_2 238 (by decide +kernel) rfl)
theorem eX2_readYear : Cond.selects yX2_readYear.cls yX2_readYear yX2_readYear ∈ gtbl := (tp_1 (q := (yX2_readYear, 9)) 7 (by decide +kernel) rfl)
theorem sX2_108 : xSite RX2 108 yX2_readYear cX2_readYear 3 none 2 := ⟨(tb_2 236 (by decide +kernel) rfl), (tb_1 12 (by decide +kernel) rfl), (tb_2 239 (by decide +kernel) rfl), by decide +kernel, by decide⟩
theorem iX2_newName : Cond.instanceMethod yX2_newName ∈ gtbl := (tb_2 198 (by decide +kernel) rfl)
theorem eX2_newName : Cond.selects yX2_newName.cls yX2_newName yX2_newName ∈ gtbl := (tp_1 (q := (yX2_newName, 9)) 3 (by decide +kernel) rfl)
theorem sX2_111 : xSite RX2 111 yX2_newName cX2_newName 5 (some .long) 1 := ⟨(tb_2 196 (by decide +kernel) rfl), (tb_1 12 (by decide +kernel) rfl), (tb_2 199 (by decide +kernel) rfl), by decide +kernel, by decide⟩
theorem iX6_nextNumber : Cond.instanceMethod yX6_nextNumber ∈ gtbl := (tb_2 204 (by decide +kernel) rfl)
theorem eX6_nextNumber : Cond.selects yX6_nextNumber.cls yX6_nextNumber yX6_nextNumber ∈ gtbl := (tb_2 205 (by decide +kernel) rfl)
theorem sX2_115 : xSite RX2 115 yX6_nextNumber cX6_nextNumber 4 (some .int) 2 := ⟨(tb_2 203 (by decide +kernel) rfl), (tb_1 2 (by decide +kernel) rfl), (tb_2 206 (by decide +kernel) rfl), by decide +kernel, by decide⟩
theorem iX2_toldName : Cond.static yX2_toldName ∈ gtbl := (tb_2 216 (by decide +kernel) rfl)
theorem sX2_122 : xSite RX2 122 yX2_toldName cX2_toldName 5 (some .int) 4 := ⟨(tb_2 215 (by decide +kernel) rfl), (tb_1 12 (by decide +kernel) rfl), (tb_2 217 (by decide +kernel) rfl), by decide +kernel, by decide⟩
theorem sX2_129 : xSite RX2 129 yX8_linkOf cX8_linkOf 5 (some .int) 3 := ⟨(tb_2 222 (by decide +kernel) rfl), (tb_1 13 (by decide +kernel) rfl), (tb_2 225 (by decide +kernel) rfl), by decide +kernel, by decide⟩
theorem sX2_132 : xSite RX2 132 yX8_addLink cX8_addLink 7 none 5 := ⟨(tb_2 226 (by decide +kernel) rfl), (tb_1 13 (by decide +kernel) rfl), (tb_2 229 (by decide +kernel) rfl), by decide +kernel, by decide⟩
theorem iX2_numberOf : Cond.static yX2_numberOf ∈ gtbl := (tb_2 201 (by decide +kernel) rfl)
theorem sX2_139 : xSite RX2 139 yX2_numberOf cX2_numberOf 5 (some .int) 3 := ⟨(tb_2 200 (by decide +kernel) rfl), (tb_1 12 (by decide +kernel) rfl), (tb_2 202 (by decide +kernel) rfl), by decide +kernel, by decide⟩
theorem sX2_42 : xSite RX2 42 yX2_treatyOf cX2_treatyOf 10 (some .int) 3 := ⟨(tb_3 129 (by decide +kernel) rfl), (tb_1 12 (by decide +kernel) rfl), (tb_3 87 (by decide +kernel) rfl), by decide +kernel, by decide⟩
theorem iX8_clear : Cond.instanceMethod yX8_clear ∈ gtbl := (tb_2 152 (by decide +kernel) rfl)
theorem eX8_clear : Cond.selects yX8_clear.cls yX8_clear yX8_clear ∈ gtbl := (tb_2 153 (by decide +kernel) rfl)
theorem sX2_46 : xSite RX2 46 yX8_clear cX8_clear 2 none 0 := ⟨(tb_2 151 (by decide +kernel) rfl), (tb_1 13 (by decide +kernel) rfl), (tb_2 154 (by decide +kernel) rfl), by decide +kernel, by decide⟩
theorem iX6_begin : Cond.instanceMethod yX6_begin ∈ gtbl := (tb_2 156 (by decide +kernel) rfl)
theorem eX6_begin : Cond.selects yX6_begin.cls yX6_begin yX6_begin ∈ gtbl := (tb_2 157 (by decide +kernel) rfl)
theorem sX2_51 : xSite RX2 51 yX6_begin cX6_begin 1 none 0 := ⟨(tb_2 155 (by decide +kernel) rfl), (tb_1 2 (by decide +kernel) rfl), (tb_2 158 (by decide +kernel) rfl), by decide +kernel, by decide⟩
theorem iX2_readLine : Cond.instanceMethod yX2_readLine ∈ gtbl := (tb_2 161 (by decide +kernel) rfl)
theorem eX2_readLine : Cond.selects yX2_readLine.cls yX2_readLine yX2_readLine ∈ gtbl := (tp_1 (q := (yX2_readLine, 9)) 0 (by decide +kernel) rfl)
theorem sX2_56 : xSite RX2 56 yX2_readLine cX2_readLine 4 none 2 := ⟨(tb_2 159 (by decide +kernel) rfl), (tb_1 12 (by decide +kernel) rfl), (tb_2 162 (by decide +kernel) rfl), by decide +kernel, by decide⟩
theorem iX6_goesOn : Cond.instanceMethod yX6_goesOn ∈ gtbl := (tb_3 1 (by decide +kernel) rfl)
theorem eX6_goesOn : Cond.selects yX6_goesOn.cls yX6_goesOn yX6_goesOn ∈ gtbl := (tb_3 2 (by decide +kernel) rfl)
theorem sX2_60 : xSite RX2 60 yX6_goesOn cX6_goesOn 1 (some .boolean) 0 := ⟨(tb_3 0 (by decide +kernel) rfl), (tb_1 2 (by decide +kernel) rfl), (tb_3 3 (by decide +kernel) rfl), by decide +kernel, by decide⟩
theorem iX6_fail : Cond.instanceMethod yX6_fail ∈ gtbl := (tb_2 175 (by decide +kernel) rfl)
theorem eX6_fail : Cond.selects yX6_fail.cls yX6_fail yX6_fail ∈ gtbl := (tb_2 176 (by decide +kernel) rfl)
theorem sX2_67 : xSite RX2 67 yX6_fail cX6_fail 2 none 1 := ⟨(tb_2 183 (by decide +kernel) rfl), (tb_1 2 (by decide +kernel) rfl), (tb_2 177 (by decide +kernel) rfl), by decide +kernel, by decide⟩
theorem iX6_nextWord : Cond.instanceMethod yX6_nextWord ∈ gtbl := (tb_2 164 (by decide +kernel) rfl)
theorem eX6_nextWord : Cond.selects yX6_nextWord.cls yX6_nextWord yX6_nextWord ∈ gtbl := (tb_2 165 (by decide +kernel) rfl)
theorem sX2_71 : xSite RX2 71 yX6_nextWord cX6_nextWord 3 (some .long) 0 := ⟨(tb_2 163 (by decide +kernel) rfl), (tb_1 2 (by decide +kernel) rfl), (tb_2 166 (by decide +kernel) rfl), by decide +kernel, by decide⟩
theorem iX10_withCode : Cond.static yX10_withCode ∈ gtbl := (tb_2 179 (by decide +kernel) rfl)
theorem sX2_75 : xSite RX2 75 yX10_withCode cX10_withCode 6 (some (.object "TreatyRouter$Word")) 1 := ⟨(tb_2 178 (by decide +kernel) rfl), (tb_1 17 (by decide +kernel) rfl), (tb_2 180 (by decide +kernel) rfl), by decide +kernel, by decide⟩
theorem iX2_readLand : Cond.instanceMethod yX2_readLand ∈ gtbl := (tb_2 194 (by decide +kernel) rfl)
theorem eX2_readLand : Cond.selects yX2_readLand.cls yX2_readLand yX2_readLand ∈ gtbl := (tp_1 (q := (yX2_readLand, 9)) 2 (by decide +kernel) rfl)
theorem sX2_93 : xSite RX2 93 yX2_readLand cX2_readLand 3 none 1 := ⟨(tb_2 192 (by decide +kernel) rfl), (tb_1 12 (by decide +kernel) rfl), (tb_2 195 (by decide +kernel) rfl), by decide +kernel, by decide⟩
theorem iX2_readFirm : Cond.instanceMethod yX2_readFirm ∈ gtbl := (tb_2 213 (by decide +kernel) rfl)
theorem eX2_readFirm : Cond.selects yX2_readFirm.cls yX2_readFirm yX2_readFirm ∈ gtbl := (tp_1 (q := (yX2_readFirm, 9)) 4 (by decide +kernel) rfl)
theorem sX2_97 : xSite RX2 97 yX2_readFirm cX2_readFirm 3 none 2 := ⟨(tb_2 211 (by decide +kernel) rfl), (tb_1 12 (by decide +kernel) rfl), (tb_2 214 (by decide +kernel) rfl), by decide +kernel, by decide⟩
theorem iX3_arrive : Cond.instanceMethod yX3_arrive ∈ gtbl := (tb_3 175 (by decide +kernel) rfl)
theorem eX3_arrive : Cond.selects yX3_arrive.cls yX3_arrive yX3_arrive ∈ gtbl := (tp_2 (q := (yX3_arrive, 9)) 1 (by decide +kernel) rfl)
theorem sX3_108 : xSite RX3 108 yX3_arrive cX3_arrive 6 none 4 := ⟨(tb_3 173 (by decide +kernel) rfl), (tb_1 3 (by decide +kernel) rfl), (tb_3 176 (by decide +kernel) rfl), by decide +kernel, by decide⟩
theorem iX3_taxStop : Cond.instanceMethod yX3_taxStop ∈ gtbl := (tb_3 180 (by decide +kernel) rfl)
theorem eX3_taxStop : Cond.selects yX3_taxStop.cls yX3_taxStop yX3_taxStop ∈ gtbl := (tp_2 (q := (yX3_taxStop, 9)) 2 (by decide +kernel) rfl)
theorem sX3_112 : xSite RX3 112 yX3_taxStop cX3_taxStop 10 none 3 := ⟨(tb_3 178 (by decide +kernel) rfl), (tb_1 3 (by decide +kernel) rfl), (tb_3 181 (by decide +kernel) rfl), by decide +kernel, by decide⟩
theorem sX3_48 : xSite RX3 48 yX3_findTreaties cX3_findTreaties 6 none 1 := ⟨(tb_3 167 (by decide +kernel) rfl), (tb_1 3 (by decide +kernel) rfl), (tb_3 98 (by decide +kernel) rfl), by decide +kernel, by decide⟩
theorem sX3_52 : xSite RX3 52 yX3_judgeHops cX3_judgeHops 6 none 3 := ⟨(tb_3 168 (by decide +kernel) rfl), (tb_1 3 (by decide +kernel) rfl), (tb_3 103 (by decide +kernel) rfl), by decide +kernel, by decide⟩
theorem iX3_goOn : Cond.instanceMethod yX3_goOn ∈ gtbl := (tb_3 171 (by decide +kernel) rfl)
theorem eX3_goOn : Cond.selects yX3_goOn.cls yX3_goOn yX3_goOn ∈ gtbl := (tp_2 (q := (yX3_goOn, 9)) 0 (by decide +kernel) rfl)
theorem sX3_56 : xSite RX3 56 yX3_goOn cX3_goOn 11 none 6 := ⟨(tb_3 169 (by decide +kernel) rfl), (tb_1 3 (by decide +kernel) rfl), (tb_3 172 (by decide +kernel) rfl), by decide +kernel, by decide⟩
theorem sX3_60 : xSite RX3 60 yX3_find cX3_find 7 (some .boolean) 6 := ⟨(tb_4 179 (by decide +kernel) rfl), (tb_1 3 (by decide +kernel) rfl), (tb_3 166 (by decide +kernel) rfl), by decide +kernel, by decide⟩
theorem iX3_articleOf : Cond.instanceMethod yX3_articleOf ∈ gtbl := (tb_3 106 (by decide +kernel) rfl)
theorem eX3_articleOf : Cond.selects yX3_articleOf.cls yX3_articleOf yX3_articleOf ∈ gtbl := (tp_1 (q := (yX3_articleOf, 9)) 11 (by decide +kernel) rfl)
theorem sX3_78 : xSite RX3 78 yX3_articleOf cX3_articleOf 11 (some .int) 3 := ⟨(tb_3 104 (by decide +kernel) rfl), (tb_1 3 (by decide +kernel) rfl), (tb_3 107 (by decide +kernel) rfl), by decide +kernel, by decide⟩
theorem iX3_rateOf : Cond.instanceMethod yX3_rateOf ∈ gtbl := (tb_3 110 (by decide +kernel) rfl)
theorem eX3_rateOf : Cond.selects yX3_rateOf.cls yX3_rateOf yX3_rateOf ∈ gtbl := (tp_1 (q := (yX3_rateOf, 9)) 12 (by decide +kernel) rfl)
theorem sX3_82 : xSite RX3 82 yX3_rateOf cX3_rateOf 8 (some .int) 3 := ⟨(tb_3 108 (by decide +kernel) rfl), (tb_1 3 (by decide +kernel) rfl), (tb_3 111 (by decide +kernel) rfl), by decide +kernel, by decide⟩
theorem sX3_94 : xSite RX3 94 yX2_treatyOf cX2_treatyOf 10 (some .int) 3 := ⟨(tb_3 99 (by decide +kernel) rfl), (tb_1 12 (by decide +kernel) rfl), (tb_3 87 (by decide +kernel) rfl), by decide +kernel, by decide⟩
theorem iX6_skipBlanks : Cond.instanceMethod yX6_skipBlanks ∈ gtbl := (tb_2 169 (by decide +kernel) rfl)
theorem eX6_skipBlanks : Cond.selects yX6_skipBlanks.cls yX6_skipBlanks yX6_skipBlanks ∈ gtbl := (tp_1 (q := (yX6_skipBlanks, 5)) 1 (by decide +kernel) rfl)
theorem sX6_30 : xSite RX6 30 yX6_skipBlanks cX6_skipBlanks 1 none 0 := ⟨(tb_2 167 (by decide +kernel) rfl), (tb_1 2 (by decide +kernel) rfl), (tb_2 170 (by decide +kernel) rfl), by decide +kernel, by decide⟩
theorem iX6_codeOf : Cond.static yX6_codeOf ∈ gtbl := (tb_2 172 (by decide +kernel) rfl)
theorem sX6_33 : xSite RX6 33 yX6_codeOf cX6_codeOf 2 (some .long) 2 := ⟨(tb_2 171 (by decide +kernel) rfl), (tb_1 2 (by decide +kernel) rfl), (tb_2 173 (by decide +kernel) rfl), by decide +kernel, by decide⟩
theorem sX6_37 : xSite RX6 37 yX6_fail cX6_fail 2 none 1 := ⟨(tb_2 174 (by decide +kernel) rfl), (tb_1 2 (by decide +kernel) rfl), (tb_2 177 (by decide +kernel) rfl), by decide +kernel, by decide⟩
theorem sX7_19 : xSite RX7 19 yX6_begin cX6_begin 1 none 0 := ⟨(tb_3 8 (by decide +kernel) rfl), (tb_1 2 (by decide +kernel) rfl), (tb_2 158 (by decide +kernel) rfl), by decide +kernel, by decide⟩
theorem iX7_readStep : Cond.instanceMethod yX7_readStep ∈ gtbl := (tb_3 11 (by decide +kernel) rfl)
theorem eX7_readStep : Cond.selects yX7_readStep.cls yX7_readStep yX7_readStep ∈ gtbl := (tp_1 (q := (yX7_readStep, 2)) 8 (by decide +kernel) rfl)
theorem sX7_24 : xSite RX7 24 yX7_readStep cX7_readStep 5 none 2 := ⟨(tb_3 9 (by decide +kernel) rfl), (tb_1 14 (by decide +kernel) rfl), (tb_3 12 (by decide +kernel) rfl), by decide +kernel, by decide⟩
theorem sX7_28 : xSite RX7 28 yX6_goesOn cX6_goesOn 1 (some .boolean) 0 := ⟨(tb_3 17 (by decide +kernel) rfl), (tb_1 2 (by decide +kernel) rfl), (tb_3 3 (by decide +kernel) rfl), by decide +kernel, by decide⟩
theorem sX7_35 : xSite RX7 35 yX6_fail cX6_fail 2 none 1 := ⟨(tb_3 15 (by decide +kernel) rfl), (tb_1 2 (by decide +kernel) rfl), (tb_2 177 (by decide +kernel) rfl), by decide +kernel, by decide⟩
theorem sX7_39 : xSite RX7 39 yX6_nextWord cX6_nextWord 3 (some .long) 0 := ⟨(tb_3 13 (by decide +kernel) rfl), (tb_1 2 (by decide +kernel) rfl), (tb_2 166 (by decide +kernel) rfl), by decide +kernel, by decide⟩
theorem sX7_43 : xSite RX7 43 yX10_withCode cX10_withCode 6 (some (.object "TreatyRouter$Word")) 1 := ⟨(tb_3 14 (by decide +kernel) rfl), (tb_1 17 (by decide +kernel) rfl), (tb_2 180 (by decide +kernel) rfl), by decide +kernel, by decide⟩
theorem sX7_55 : xSite RX7 55 yX6_nextNumber cX6_nextNumber 4 (some .int) 2 := ⟨(tb_3 16 (by decide +kernel) rfl), (tb_1 2 (by decide +kernel) rfl), (tb_2 206 (by decide +kernel) rfl), by decide +kernel, by decide⟩
theorem sX8_32 : xSite RX8 32 yX8_lapse cX8_lapse 3 none 2 := ⟨(tb_3 33 (by decide +kernel) rfl), (tb_1 13 (by decide +kernel) rfl), (tb_3 36 (by decide +kernel) rfl), by decide +kernel, by decide⟩
theorem sX8_36 : xSite RX8 36 yX8_hasLink cX8_hasLink 2 (some .boolean) 1 := ⟨(tb_5 8 (by decide +kernel) rfl), (tb_1 13 (by decide +kernel) rfl), (tb_3 76 (by decide +kernel) rfl), by decide +kernel, by decide⟩
theorem uX2_89 : xSiteU RX2 89 "TreatyRouter$Word" ⟨"TreatyRouter$Word", "ordinal", "()I"⟩ yJx29ce0_ordinal_8abf5 cJx29ce0_ordinal_8abf5 1 (some .int) 0 := ⟨(tb_2 186 (by decide +kernel) rfl), (tb_2 187 (by decide +kernel) rfl), (tb_2 189 (by decide +kernel) rfl), (tb_2 190 (by decide +kernel) rfl), (tb_1 16 (by decide +kernel) rfl), (tb_2 191 (by decide +kernel) rfl), rfl, by decide +kernel, by decide⟩
theorem kX11_216 : Jvm.Cond.constant RX11 216 (-1000000) ∈ gtbl := (tb_3 120 (by decide +kernel) rfl)
theorem kX11_239 : Jvm.Cond.constant RX11 239 1000000 ∈ gtbl := (tb_3 162 (by decide +kernel) rfl)
theorem kX11_304 : Jvm.Cond.constant RX11 304 1000001 ∈ gtbl := (tb_4 216 (by decide +kernel) rfl)
theorem kX12_160 : Jvm.Cond.constant RX12 160 99999 ∈ gtbl := (tb_7 54 (by decide +kernel) rfl)
theorem kX12_299 : Jvm.Cond.constant RX12 299 1000000000 ∈ gtbl := (tb_7 183 (by decide +kernel) rfl)
theorem kX12_448 : Jvm.Cond.constant RX12 448 (-1000000) ∈ gtbl := (tb_8 28 (by decide +kernel) rfl)
theorem kX12_495 : Jvm.Cond.constant RX12 495 1000000 ∈ gtbl := (tb_8 171 (by decide +kernel) rfl)
theorem kX3_121 : Jvm.Cond.constant RX3 121 1000000000 ∈ gtbl := (tb_3 183 (by decide +kernel) rfl)
theorem kX6_41 : Jvm.Cond.constant RX6 41 1000000 ∈ gtbl := (tb_2 207 (by decide +kernel) rfl)
theorem kX11_359 : Jvm.Cond.constantLong RX11 359 6364136223846793005 ∈ gtbl := (tb_5 97 (by decide +kernel) rfl)
theorem kX11_361 : Jvm.Cond.constantLong RX11 361 1442695040888963407 ∈ gtbl := (tb_5 98 (by decide +kernel) rfl)
theorem kX12_204 : Jvm.Cond.constantLong RX12 204 6 ∈ gtbl := (tb_7 34 (by decide +kernel) rfl)
theorem kX12_297 : Jvm.Cond.constantLong RX12 297 3 ∈ gtbl := (tb_7 177 (by decide +kernel) rfl)
theorem kX12_316 : Jvm.Cond.constantLong RX12 316 1000 ∈ gtbl := (tb_7 178 (by decide +kernel) rfl)
theorem kX12_355 : Jvm.Cond.constantLong RX12 355 1000000 ∈ gtbl := (tb_7 126 (by decide +kernel) rfl)
theorem kX12_369 : Jvm.Cond.constantLong RX12 369 20 ∈ gtbl := (tb_7 184 (by decide +kernel) rfl)
theorem kX12_371 : Jvm.Cond.constantLong RX12 371 99 ∈ gtbl := (tb_7 185 (by decide +kernel) rfl)
theorem kX12_376 : Jvm.Cond.constantLong RX12 376 100 ∈ gtbl := (tb_7 190 (by decide +kernel) rfl)
theorem kX12_434 : Jvm.Cond.constantLong RX12 434 6364136223846793005 ∈ gtbl := (tb_8 13 (by decide +kernel) rfl)
theorem kX12_436 : Jvm.Cond.constantLong RX12 436 1442695040888963407 ∈ gtbl := (tb_8 14 (by decide +kernel) rfl)
theorem kX12_441 : Jvm.Cond.constantLong RX12 441 40 ∈ gtbl := (tb_8 4 (by decide +kernel) rfl)
theorem kX12_446 : Jvm.Cond.constantLong RX12 446 2 ∈ gtbl := (tb_8 27 (by decide +kernel) rfl)
theorem kX12_452 : Jvm.Cond.constantLong RX12 452 4 ∈ gtbl := (tb_8 49 (by decide +kernel) rfl)
theorem kX12_460 : Jvm.Cond.constantLong RX12 460 31 ∈ gtbl := (tb_8 64 (by decide +kernel) rfl)
theorem kX12_466 : Jvm.Cond.constantLong RX12 466 199 ∈ gtbl := (tb_8 73 (by decide +kernel) rfl)
theorem kX12_468 : Jvm.Cond.constantLong RX12 468 7 ∈ gtbl := (tb_8 74 (by decide +kernel) rfl)
theorem kX6_28 : Jvm.Cond.constantLong RX6 28 31 ∈ gtbl := (tb_3 64 (by decide +kernel) rfl)
theorem tX3_131 : Cond.methodLink RX3 131 arraycopyName ∈ gtbl := (tb_3 177 (by decide +kernel) rfl)
theorem tX4_25 : Cond.methodLink RX4 25 arraycopyName ∈ gtbl := (tb_5 51 (by decide +kernel) rfl)
theorem tX5_28 : Cond.methodLink RX5 28 arraycopyName ∈ gtbl := (tb_5 159 (by decide +kernel) rfl)
theorem tX8_26 : Cond.methodLink RX8 26 arraycopyName ∈ gtbl := (tb_3 30 (by decide +kernel) rfl)
theorem fX1_34 : xFld RX1 34 8 1 4 (.object "TreatyRouter$Book") false := ⟨RX8, TX8, tyX8, rfl, inX8, tyX8_ok, nmX8, by decide, (tb_2 43 (by decide +kernel) rfl), rfl, rfl⟩
theorem fX1_58 : xFld RX1 58 2 6 9 (.int) false := ⟨RX2, TX2, tyX2, rfl, inX2, tyX2_ok, nmX2, by decide, (tb_2 5 (by decide +kernel) rfl), rfl, rfl⟩
theorem fX1_62 : xFld RX1 62 8 0 4 (.array .int) true := ⟨RX8, TX8, tyX8, rfl, inX8, tyX8_ok, nmX8, by decide, (tb_2 38 (by decide +kernel) rfl), rfl, rfl⟩
theorem fX1_74 : xFld RX1 74 3 0 9 (.object "TreatyRouter$Way") true := ⟨RX3, TX3, tyX3, rfl, inX3, tyX3_ok, nmX3, by decide, (tb_1 111 (by decide +kernel) rfl), rfl, rfl⟩
theorem fX1_78 : xFld RX1 78 9 3 5 (.int) false := ⟨RX9, TX9, tyX9, rfl, inX9, tyX9_ok, nmX9, by decide, (tb_1 93 (by decide +kernel) rfl), rfl, rfl⟩
theorem fX1_89 : xFld RX1 89 9 2 5 (.int) false := ⟨RX9, TX9, tyX9, rfl, inX9, tyX9_ok, nmX9, by decide, (tb_1 89 (by decide +kernel) rfl), rfl, rfl⟩
theorem fX1_9 : xFld RX1 9 1 0 1 (.object "TreatyRouter$Finder") true := ⟨RX1, TX1, tyX1, rfl, inX1, tyX1_ok, nmX1, by decide, (tb_1 150 (by decide +kernel) rfl), rfl, rfl⟩
theorem fX1_92 : xFld RX1 92 9 0 5 (.array .int) true := ⟨RX9, TX9, tyX9, rfl, inX9, tyX9_ok, nmX9, by decide, (tb_1 84 (by decide +kernel) rfl), rfl, rfl⟩
theorem fX1_93 : xFld RX1 93 2 5 9 (.int) false := ⟨RX2, TX2, tyX2, rfl, inX2, tyX2_ok, nmX2, by decide, (tb_2 2 (by decide +kernel) rfl), rfl, rfl⟩
theorem fX11_10 : xFld RX11 10 10 0 18 (.object "TreatyRouter$Reader") true := ⟨RX11, TX11, tyX11, rfl, inX11, tyX11_ok, nmX11, by decide, (tb_2 73 (by decide +kernel) rfl), rfl, rfl⟩
theorem fX11_100 : xFld RX11 100 10 11 18 (.object "TreatyRouter$State") true := ⟨RX11, TX11, tyX11, rfl, inX11, tyX11_ok, nmX11, by decide, (tb_2 84 (by decide +kernel) rfl), rfl, rfl⟩
theorem fX11_103 : xFld RX11 103 10 12 18 (.object "TreatyRouter$State") true := ⟨RX11, TX11, tyX11, rfl, inX11, tyX11_ok, nmX11, by decide, (tb_2 85 (by decide +kernel) rfl), rfl, rfl⟩
theorem fX11_111 : xFld RX11 111 6 0 5 (.int) false := ⟨RX6, TX6, tyX6, rfl, inX6, tyX6_ok, nmX6, by decide, (tb_1 46 (by decide +kernel) rfl), rfl, rfl⟩
theorem fX11_122 : xFld RX11 122 6 1 5 (.int) false := ⟨RX6, TX6, tyX6, rfl, inX6, tyX6_ok, nmX6, by decide, (tb_1 49 (by decide +kernel) rfl), rfl, rfl⟩
theorem fX11_135 : xFld RX11 135 8 1 4 (.object "TreatyRouter$Book") false := ⟨RX8, TX8, tyX8, rfl, inX8, tyX8_ok, nmX8, by decide, (tb_2 45 (by decide +kernel) rfl), rfl, rfl⟩
theorem fX11_144 : xFld RX11 144 2 6 9 (.int) false := ⟨RX2, TX2, tyX2, rfl, inX2, tyX2_ok, nmX2, by decide, (tb_2 6 (by decide +kernel) rfl), rfl, rfl⟩
theorem fX11_151 : xFld RX11 151 8 0 4 (.array .int) true := ⟨RX8, TX8, tyX8, rfl, inX8, tyX8_ok, nmX8, by decide, (tb_2 40 (by decide +kernel) rfl), rfl, rfl⟩
theorem fX11_154 : xFld RX11 154 2 2 9 (.array .int) true := ⟨RX2, TX2, tyX2, rfl, inX2, tyX2_ok, nmX2, by decide, (tb_1 232 (by decide +kernel) rfl), rfl, rfl⟩
theorem fX11_169 : xFld RX11 169 2 0 9 (.array .long) true := ⟨RX2, TX2, tyX2, rfl, inX2, tyX2_ok, nmX2, by decide, (tb_1 226 (by decide +kernel) rfl), rfl, rfl⟩
theorem fX11_177 : xFld RX11 177 2 1 9 (.array .long) true := ⟨RX2, TX2, tyX2, rfl, inX2, tyX2_ok, nmX2, by decide, (tb_1 229 (by decide +kernel) rfl), rfl, rfl⟩
theorem fX11_18 : xFld RX11 18 10 1 18 (.array (.object "TreatyRouter$Script")) true := ⟨RX11, TX11, tyX11, rfl, inX11, tyX11_ok, nmX11, by decide, (tb_2 74 (by decide +kernel) rfl), rfl, rfl⟩
theorem fX11_190 : xFld RX11 190 2 4 9 (.array .int) true := ⟨RX2, TX2, tyX2, rfl, inX2, tyX2_ok, nmX2, by decide, (tb_1 239 (by decide +kernel) rfl), rfl, rfl⟩
theorem fX11_203 : xFld RX11 203 3 2 9 (.array .int) true := ⟨RX3, TX3, tyX3, rfl, inX3, tyX3_ok, nmX3, by decide, (tb_1 116 (by decide +kernel) rfl), rfl, rfl⟩
theorem fX11_206 : xFld RX11 206 3 3 9 (.array .int) true := ⟨RX3, TX3, tyX3, rfl, inX3, tyX3_ok, nmX3, by decide, (tb_1 118 (by decide +kernel) rfl), rfl, rfl⟩
theorem fX11_209 : xFld RX11 209 3 4 9 (.array .int) true := ⟨RX3, TX3, tyX3, rfl, inX3, tyX3_ok, nmX3, by decide, (tb_1 120 (by decide +kernel) rfl), rfl, rfl⟩
theorem fX11_221 : xFld RX11 221 2 5 9 (.int) false := ⟨RX2, TX2, tyX2, rfl, inX2, tyX2_ok, nmX2, by decide, (tb_2 3 (by decide +kernel) rfl), rfl, rfl⟩
theorem fX11_236 : xFld RX11 236 4 0 3 (.int) false := ⟨RX4, TX4, tyX4, rfl, inX4, tyX4_ok, nmX4, by decide, (tb_1 161 (by decide +kernel) rfl), rfl, rfl⟩
theorem fX11_25 : xFld RX11 25 10 2 18 (.object "TreatyRouter$Finder") true := ⟨RX11, TX11, tyX11, rfl, inX11, tyX11_ok, nmX11, by decide, (tb_2 75 (by decide +kernel) rfl), rfl, rfl⟩
theorem fX11_251 : xFld RX11 251 3 0 9 (.object "TreatyRouter$Way") true := ⟨RX3, TX3, tyX3, rfl, inX3, tyX3_ok, nmX3, by decide, (tb_1 112 (by decide +kernel) rfl), rfl, rfl⟩
theorem fX11_255 : xFld RX11 255 9 3 5 (.int) false := ⟨RX9, TX9, tyX9, rfl, inX9, tyX9_ok, nmX9, by decide, (tb_1 95 (by decide +kernel) rfl), rfl, rfl⟩
theorem fX11_263 : xFld RX11 263 9 2 5 (.int) false := ⟨RX9, TX9, tyX9, rfl, inX9, tyX9_ok, nmX9, by decide, (tb_1 91 (by decide +kernel) rfl), rfl, rfl⟩
theorem fX11_266 : xFld RX11 266 9 4 5 (.int) false := ⟨RX9, TX9, tyX9, rfl, inX9, tyX9_ok, nmX9, by decide, (tb_1 98 (by decide +kernel) rfl), rfl, rfl⟩
theorem fX11_272 : xFld RX11 272 9 0 5 (.array .int) true := ⟨RX9, TX9, tyX9, rfl, inX9, tyX9_ok, nmX9, by decide, (tb_1 85 (by decide +kernel) rfl), rfl, rfl⟩
theorem fX11_286 : xFld RX11 286 3 1 9 (.int) false := ⟨RX3, TX3, tyX3, rfl, inX3, tyX3_ok, nmX3, by decide, (tb_1 114 (by decide +kernel) rfl), rfl, rfl⟩
theorem fX11_34 : xFld RX11 34 10 3 18 (.object "TreatyRouter$Acts") true := ⟨RX11, TX11, tyX11, rfl, inX11, tyX11_ok, nmX11, by decide, (tb_2 76 (by decide +kernel) rfl), rfl, rfl⟩
theorem fX11_376 : xFld RX11 376 7 1 2 (.int) false := ⟨RX7, TX7, tyX7, rfl, inX7, tyX7_ok, nmX7, by decide, (tb_2 67 (by decide +kernel) rfl), rfl, rfl⟩
theorem fX11_379 : xFld RX11 379 7 0 2 (.array .int) true := ⟨RX7, TX7, tyX7, rfl, inX7, tyX7_ok, nmX7, by decide, (tb_2 65 (by decide +kernel) rfl), rfl, rfl⟩
theorem fX11_41 : xFld RX11 41 10 4 18 (.object "TreatyRouter$History") true := ⟨RX11, TX11, tyX11, rfl, inX11, tyX11_ok, nmX11, by decide, (tb_2 77 (by decide +kernel) rfl), rfl, rfl⟩
theorem fX11_48 : xFld RX11 48 10 5 18 (.object "TreatyRouter$Log") true := ⟨RX11, TX11, tyX11, rfl, inX11, tyX11_ok, nmX11, by decide, (tb_2 78 (by decide +kernel) rfl), rfl, rfl⟩
theorem fX11_52 : xFld RX11 52 10 6 18 (.object "TreatyRouter$Log") true := ⟨RX11, TX11, tyX11, rfl, inX11, tyX11_ok, nmX11, by decide, (tb_2 79 (by decide +kernel) rfl), rfl, rfl⟩
theorem fX11_62 : xFld RX11 62 10 8 18 (.array .int) true := ⟨RX11, TX11, tyX11, rfl, inX11, tyX11_ok, nmX11, by decide, (tb_2 81 (by decide +kernel) rfl), rfl, rfl⟩
theorem fX11_66 : xFld RX11 66 10 9 18 (.array .int) true := ⟨RX11, TX11, tyX11, rfl, inX11, tyX11_ok, nmX11, by decide, (tb_2 82 (by decide +kernel) rfl), rfl, rfl⟩
theorem fX11_72 : xFld RX11 72 10 13 18 (.object "TreatyRouter$Book") false := ⟨RX11, TX11, tyX11, rfl, inX11, tyX11_ok, nmX11, by decide, (tb_2 86 (by decide +kernel) rfl), rfl, rfl⟩
theorem fX11_76 : xFld RX11 76 10 14 18 (.object "TreatyRouter$Book") false := ⟨RX11, TX11, tyX11, rfl, inX11, tyX11_ok, nmX11, by decide, (tb_2 87 (by decide +kernel) rfl), rfl, rfl⟩
theorem fX11_79 : xFld RX11 79 10 15 18 (.int) false := ⟨RX11, TX11, tyX11, rfl, inX11, tyX11_ok, nmX11, by decide, (tb_2 88 (by decide +kernel) rfl), rfl, rfl⟩
theorem fX11_83 : xFld RX11 83 10 16 18 (.boolean) false := ⟨RX11, TX11, tyX11, rfl, inX11, tyX11_ok, nmX11, by decide, (tb_2 89 (by decide +kernel) rfl), rfl, rfl⟩
theorem fX11_87 : xFld RX11 87 10 17 18 (.long) false := ⟨RX11, TX11, tyX11, rfl, inX11, tyX11_ok, nmX11, by decide, (tb_2 90 (by decide +kernel) rfl), rfl, rfl⟩
theorem fX11_96 : xFld RX11 96 10 10 18 (.object "TreatyRouter$State") true := ⟨RX11, TX11, tyX11, rfl, inX11, tyX11_ok, nmX11, by decide, (tb_2 83 (by decide +kernel) rfl), rfl, rfl⟩
theorem fX12_100 : xFld RX12 100 11 55 65 (.array .int) true := ⟨RX12, TX12, tyX12, rfl, inX12, tyX12_ok, nmX12, by decide, (tb_6 58 (by decide +kernel) rfl), rfl, rfl⟩
theorem fX12_103 : xFld RX12 103 11 63 65 (.array .byte) true := ⟨RX12, TX12, tyX12, rfl, inX12, tyX12_ok, nmX12, by decide, (tb_6 66 (by decide +kernel) rfl), rfl, rfl⟩
theorem fX12_106 : xFld RX12 106 11 0 65 (.int) false := ⟨RX12, TX12, tyX12, rfl, inX12, tyX12_ok, nmX12, by decide, (tb_6 3 (by decide +kernel) rfl), rfl, rfl⟩
theorem fX12_109 : xFld RX12 109 11 2 65 (.int) false := ⟨RX12, TX12, tyX12, rfl, inX12, tyX12_ok, nmX12, by decide, (tb_6 5 (by decide +kernel) rfl), rfl, rfl⟩
theorem fX12_120 : xFld RX12 120 11 3 65 (.int) false := ⟨RX12, TX12, tyX12, rfl, inX12, tyX12_ok, nmX12, by decide, (tb_6 6 (by decide +kernel) rfl), rfl, rfl⟩
theorem fX12_127 : xFld RX12 127 11 4 65 (.int) false := ⟨RX12, TX12, tyX12, rfl, inX12, tyX12_ok, nmX12, by decide, (tb_6 7 (by decide +kernel) rfl), rfl, rfl⟩
theorem fX12_13 : xFld RX12 13 11 7 65 (.array .int) true := ⟨RX12, TX12, tyX12, rfl, inX12, tyX12_ok, nmX12, by decide, (tb_6 10 (by decide +kernel) rfl), rfl, rfl⟩
theorem fX12_133 : xFld RX12 133 11 5 65 (.int) false := ⟨RX12, TX12, tyX12, rfl, inX12, tyX12_ok, nmX12, by decide, (tb_6 8 (by decide +kernel) rfl), rfl, rfl⟩
theorem fX12_136 : xFld RX12 136 11 6 65 (.long) false := ⟨RX12, TX12, tyX12, rfl, inX12, tyX12_ok, nmX12, by decide, (tb_6 9 (by decide +kernel) rfl), rfl, rfl⟩
theorem fX12_17 : xFld RX12 17 11 8 65 (.array .int) true := ⟨RX12, TX12, tyX12, rfl, inX12, tyX12_ok, nmX12, by decide, (tb_6 11 (by decide +kernel) rfl), rfl, rfl⟩
theorem fX12_171 : xFld RX12 171 11 19 65 (.int) false := ⟨RX12, TX12, tyX12, rfl, inX12, tyX12_ok, nmX12, by decide, (tb_6 22 (by decide +kernel) rfl), rfl, rfl⟩
theorem fX12_178 : xFld RX12 178 11 21 65 (.int) false := ⟨RX12, TX12, tyX12, rfl, inX12, tyX12_ok, nmX12, by decide, (tb_6 24 (by decide +kernel) rfl), rfl, rfl⟩
theorem fX12_195 : xFld RX12 195 11 25 65 (.int) false := ⟨RX12, TX12, tyX12, rfl, inX12, tyX12_ok, nmX12, by decide, (tb_6 28 (by decide +kernel) rfl), rfl, rfl⟩
theorem fX12_198 : xFld RX12 198 11 23 65 (.int) false := ⟨RX12, TX12, tyX12, rfl, inX12, tyX12_ok, nmX12, by decide, (tb_6 26 (by decide +kernel) rfl), rfl, rfl⟩
theorem fX12_20 : xFld RX12 20 11 9 65 (.array .int) true := ⟨RX12, TX12, tyX12, rfl, inX12, tyX12_ok, nmX12, by decide, (tb_6 12 (by decide +kernel) rfl), rfl, rfl⟩
theorem fX12_219 : xFld RX12 219 11 26 65 (.int) false := ⟨RX12, TX12, tyX12, rfl, inX12, tyX12_ok, nmX12, by decide, (tb_6 29 (by decide +kernel) rfl), rfl, rfl⟩
theorem fX12_23 : xFld RX12 23 11 10 65 (.array .int) true := ⟨RX12, TX12, tyX12, rfl, inX12, tyX12_ok, nmX12, by decide, (tb_6 13 (by decide +kernel) rfl), rfl, rfl⟩
theorem fX12_242 : xFld RX12 242 11 20 65 (.int) false := ⟨RX12, TX12, tyX12, rfl, inX12, tyX12_ok, nmX12, by decide, (tb_6 23 (by decide +kernel) rfl), rfl, rfl⟩
theorem fX12_245 : xFld RX12 245 11 22 65 (.int) false := ⟨RX12, TX12, tyX12, rfl, inX12, tyX12_ok, nmX12, by decide, (tb_6 25 (by decide +kernel) rfl), rfl, rfl⟩
theorem fX12_248 : xFld RX12 248 11 24 65 (.int) false := ⟨RX12, TX12, tyX12, rfl, inX12, tyX12_ok, nmX12, by decide, (tb_6 27 (by decide +kernel) rfl), rfl, rfl⟩
theorem fX12_251 : xFld RX12 251 11 35 65 (.int) false := ⟨RX12, TX12, tyX12, rfl, inX12, tyX12_ok, nmX12, by decide, (tb_6 38 (by decide +kernel) rfl), rfl, rfl⟩
theorem fX12_254 : xFld RX12 254 11 36 65 (.boolean) false := ⟨RX12, TX12, tyX12, rfl, inX12, tyX12_ok, nmX12, by decide, (tb_6 39 (by decide +kernel) rfl), rfl, rfl⟩
theorem fX12_258 : xFld RX12 258 11 27 65 (.int) false := ⟨RX12, TX12, tyX12, rfl, inX12, tyX12_ok, nmX12, by decide, (tb_6 30 (by decide +kernel) rfl), rfl, rfl⟩
theorem fX12_26 : xFld RX12 26 11 11 65 (.array .int) true := ⟨RX12, TX12, tyX12, rfl, inX12, tyX12_ok, nmX12, by decide, (tb_6 14 (by decide +kernel) rfl), rfl, rfl⟩
theorem fX12_277 : xFld RX12 277 11 37 65 (.int) false := ⟨RX12, TX12, tyX12, rfl, inX12, tyX12_ok, nmX12, by decide, (tb_6 40 (by decide +kernel) rfl), rfl, rfl⟩
theorem fX12_29 : xFld RX12 29 11 12 65 (.array .int) true := ⟨RX12, TX12, tyX12, rfl, inX12, tyX12_ok, nmX12, by decide, (tb_6 15 (by decide +kernel) rfl), rfl, rfl⟩
theorem fX12_291 : xFld RX12 291 11 42 65 (.int) false := ⟨RX12, TX12, tyX12, rfl, inX12, tyX12_ok, nmX12, by decide, (tb_6 45 (by decide +kernel) rfl), rfl, rfl⟩
theorem fX12_294 : xFld RX12 294 11 41 65 (.int) false := ⟨RX12, TX12, tyX12, rfl, inX12, tyX12_ok, nmX12, by decide, (tb_6 44 (by decide +kernel) rfl), rfl, rfl⟩
theorem fX12_300 : xFld RX12 300 11 52 65 (.int) false := ⟨RX12, TX12, tyX12, rfl, inX12, tyX12_ok, nmX12, by decide, (tb_6 55 (by decide +kernel) rfl), rfl, rfl⟩
theorem fX12_303 : xFld RX12 303 11 53 65 (.int) false := ⟨RX12, TX12, tyX12, rfl, inX12, tyX12_ok, nmX12, by decide, (tb_6 56 (by decide +kernel) rfl), rfl, rfl⟩
theorem fX12_306 : xFld RX12 306 11 50 65 (.int) false := ⟨RX12, TX12, tyX12, rfl, inX12, tyX12_ok, nmX12, by decide, (tb_6 53 (by decide +kernel) rfl), rfl, rfl⟩
theorem fX12_32 : xFld RX12 32 11 13 65 (.array .int) true := ⟨RX12, TX12, tyX12, rfl, inX12, tyX12_ok, nmX12, by decide, (tb_6 16 (by decide +kernel) rfl), rfl, rfl⟩
theorem fX12_321 : xFld RX12 321 11 51 65 (.int) false := ⟨RX12, TX12, tyX12, rfl, inX12, tyX12_ok, nmX12, by decide, (tb_6 54 (by decide +kernel) rfl), rfl, rfl⟩
theorem fX12_324 : xFld RX12 324 11 54 65 (.int) false := ⟨RX12, TX12, tyX12, rfl, inX12, tyX12_ok, nmX12, by decide, (tb_6 57 (by decide +kernel) rfl), rfl, rfl⟩
theorem fX12_331 : xFld RX12 331 11 58 65 (.int) false := ⟨RX12, TX12, tyX12, rfl, inX12, tyX12_ok, nmX12, by decide, (tb_6 61 (by decide +kernel) rfl), rfl, rfl⟩
theorem fX12_334 : xFld RX12 334 11 57 65 (.int) false := ⟨RX12, TX12, tyX12, rfl, inX12, tyX12_ok, nmX12, by decide, (tb_6 60 (by decide +kernel) rfl), rfl, rfl⟩
theorem fX12_337 : xFld RX12 337 11 56 65 (.int) false := ⟨RX12, TX12, tyX12, rfl, inX12, tyX12_ok, nmX12, by decide, (tb_6 59 (by decide +kernel) rfl), rfl, rfl⟩
theorem fX12_35 : xFld RX12 35 11 14 65 (.array .int) true := ⟨RX12, TX12, tyX12, rfl, inX12, tyX12_ok, nmX12, by decide, (tb_6 17 (by decide +kernel) rfl), rfl, rfl⟩
theorem fX12_378 : xFld RX12 378 11 61 65 (.int) false := ⟨RX12, TX12, tyX12, rfl, inX12, tyX12_ok, nmX12, by decide, (tb_6 64 (by decide +kernel) rfl), rfl, rfl⟩
theorem fX12_38 : xFld RX12 38 11 15 65 (.array .long) true := ⟨RX12, TX12, tyX12, rfl, inX12, tyX12_ok, nmX12, by decide, (tb_6 18 (by decide +kernel) rfl), rfl, rfl⟩
theorem fX12_385 : xFld RX12 385 11 59 65 (.int) false := ⟨RX12, TX12, tyX12, rfl, inX12, tyX12_ok, nmX12, by decide, (tb_6 62 (by decide +kernel) rfl), rfl, rfl⟩
theorem fX12_388 : xFld RX12 388 11 60 65 (.int) false := ⟨RX12, TX12, tyX12, rfl, inX12, tyX12_ok, nmX12, by decide, (tb_6 63 (by decide +kernel) rfl), rfl, rfl⟩
theorem fX12_405 : xFld RX12 405 11 34 65 (.int) false := ⟨RX12, TX12, tyX12, rfl, inX12, tyX12_ok, nmX12, by decide, (tb_6 37 (by decide +kernel) rfl), rfl, rfl⟩
theorem fX12_42 : xFld RX12 42 11 16 65 (.array .long) true := ⟨RX12, TX12, tyX12, rfl, inX12, tyX12_ok, nmX12, by decide, (tb_6 19 (by decide +kernel) rfl), rfl, rfl⟩
theorem fX12_431 : xFld RX12 431 11 62 65 (.long) false := ⟨RX12, TX12, tyX12, rfl, inX12, tyX12_ok, nmX12, by decide, (tb_6 65 (by decide +kernel) rfl), rfl, rfl⟩
theorem fX12_45 : xFld RX12 45 11 17 65 (.array .long) true := ⟨RX12, TX12, tyX12, rfl, inX12, tyX12_ok, nmX12, by decide, (tb_6 20 (by decide +kernel) rfl), rfl, rfl⟩
theorem fX12_473 : xFld RX12 473 11 64 65 (.int) false := ⟨RX12, TX12, tyX12, rfl, inX12, tyX12_ok, nmX12, by decide, (tb_6 67 (by decide +kernel) rfl), rfl, rfl⟩
theorem fX12_48 : xFld RX12 48 11 18 65 (.array .long) true := ⟨RX12, TX12, tyX12, rfl, inX12, tyX12_ok, nmX12, by decide, (tb_6 21 (by decide +kernel) rfl), rfl, rfl⟩
theorem fX12_51 : xFld RX12 51 11 28 65 (.array .int) true := ⟨RX12, TX12, tyX12, rfl, inX12, tyX12_ok, nmX12, by decide, (tb_6 31 (by decide +kernel) rfl), rfl, rfl⟩
theorem fX12_54 : xFld RX12 54 11 29 65 (.array .int) true := ⟨RX12, TX12, tyX12, rfl, inX12, tyX12_ok, nmX12, by decide, (tb_6 32 (by decide +kernel) rfl), rfl, rfl⟩
theorem fX12_57 : xFld RX12 57 11 30 65 (.array .int) true := ⟨RX12, TX12, tyX12, rfl, inX12, tyX12_ok, nmX12, by decide, (tb_6 33 (by decide +kernel) rfl), rfl, rfl⟩
theorem fX12_60 : xFld RX12 60 11 31 65 (.array .int) true := ⟨RX12, TX12, tyX12, rfl, inX12, tyX12_ok, nmX12, by decide, (tb_6 34 (by decide +kernel) rfl), rfl, rfl⟩
theorem fX12_63 : xFld RX12 63 11 32 65 (.array .int) true := ⟨RX12, TX12, tyX12, rfl, inX12, tyX12_ok, nmX12, by decide, (tb_6 35 (by decide +kernel) rfl), rfl, rfl⟩
theorem fX12_66 : xFld RX12 66 11 33 65 (.array .int) true := ⟨RX12, TX12, tyX12, rfl, inX12, tyX12_ok, nmX12, by decide, (tb_6 36 (by decide +kernel) rfl), rfl, rfl⟩
theorem fX12_69 : xFld RX12 69 11 38 65 (.int) false := ⟨RX12, TX12, tyX12, rfl, inX12, tyX12_ok, nmX12, by decide, (tb_6 41 (by decide +kernel) rfl), rfl, rfl⟩
theorem fX12_73 : xFld RX12 73 11 39 65 (.int) false := ⟨RX12, TX12, tyX12, rfl, inX12, tyX12_ok, nmX12, by decide, (tb_6 42 (by decide +kernel) rfl), rfl, rfl⟩
theorem fX12_76 : xFld RX12 76 11 40 65 (.int) false := ⟨RX12, TX12, tyX12, rfl, inX12, tyX12_ok, nmX12, by decide, (tb_6 43 (by decide +kernel) rfl), rfl, rfl⟩
theorem fX12_79 : xFld RX12 79 11 43 65 (.array .int) true := ⟨RX12, TX12, tyX12, rfl, inX12, tyX12_ok, nmX12, by decide, (tb_6 46 (by decide +kernel) rfl), rfl, rfl⟩
theorem fX12_82 : xFld RX12 82 11 44 65 (.array .int) true := ⟨RX12, TX12, tyX12, rfl, inX12, tyX12_ok, nmX12, by decide, (tb_6 47 (by decide +kernel) rfl), rfl, rfl⟩
theorem fX12_85 : xFld RX12 85 11 45 65 (.array .int) true := ⟨RX12, TX12, tyX12, rfl, inX12, tyX12_ok, nmX12, by decide, (tb_6 48 (by decide +kernel) rfl), rfl, rfl⟩
theorem fX12_88 : xFld RX12 88 11 46 65 (.array .int) true := ⟨RX12, TX12, tyX12, rfl, inX12, tyX12_ok, nmX12, by decide, (tb_6 49 (by decide +kernel) rfl), rfl, rfl⟩
theorem fX12_9 : xFld RX12 9 11 1 65 (.array .byte) true := ⟨RX12, TX12, tyX12, rfl, inX12, tyX12_ok, nmX12, by decide, (tb_6 4 (by decide +kernel) rfl), rfl, rfl⟩
theorem fX12_91 : xFld RX12 91 11 47 65 (.array .int) true := ⟨RX12, TX12, tyX12, rfl, inX12, tyX12_ok, nmX12, by decide, (tb_6 50 (by decide +kernel) rfl), rfl, rfl⟩
theorem fX12_94 : xFld RX12 94 11 48 65 (.array .int) true := ⟨RX12, TX12, tyX12, rfl, inX12, tyX12_ok, nmX12, by decide, (tb_6 51 (by decide +kernel) rfl), rfl, rfl⟩
theorem fX12_97 : xFld RX12 97 11 49 65 (.array .int) true := ⟨RX12, TX12, tyX12, rfl, inX12, tyX12_ok, nmX12, by decide, (tb_6 52 (by decide +kernel) rfl), rfl, rfl⟩
theorem fX2_119 : xFld RX2 119 6 1 5 (.int) false := ⟨RX6, TX6, tyX6, rfl, inX6, tyX6_ok, nmX6, by decide, (tb_1 50 (by decide +kernel) rfl), rfl, rfl⟩
theorem fX2_126 : xFld RX2 126 8 0 4 (.array .int) true := ⟨RX8, TX8, tyX8, rfl, inX8, tyX8_ok, nmX8, by decide, (tb_2 41 (by decide +kernel) rfl), rfl, rfl⟩
theorem fX2_15 : xFld RX2 15 2 1 9 (.array .long) true := ⟨RX2, TX2, tyX2, rfl, inX2, tyX2_ok, nmX2, by decide, (tb_1 227 (by decide +kernel) rfl), rfl, rfl⟩
theorem fX2_18 : xFld RX2 18 2 2 9 (.array .int) true := ⟨RX2, TX2, tyX2, rfl, inX2, tyX2_ok, nmX2, by decide, (tb_1 230 (by decide +kernel) rfl), rfl, rfl⟩
theorem fX2_22 : xFld RX2 22 2 3 9 (.array .int) true := ⟨RX2, TX2, tyX2, rfl, inX2, tyX2_ok, nmX2, by decide, (tb_1 233 (by decide +kernel) rfl), rfl, rfl⟩
theorem fX2_25 : xFld RX2 25 2 4 9 (.array .int) true := ⟨RX2, TX2, tyX2, rfl, inX2, tyX2_ok, nmX2, by decide, (tb_1 237 (by decide +kernel) rfl), rfl, rfl⟩
theorem fX2_28 : xFld RX2 28 2 5 9 (.int) false := ⟨RX2, TX2, tyX2, rfl, inX2, tyX2_ok, nmX2, by decide, (tb_2 0 (by decide +kernel) rfl), rfl, rfl⟩
theorem fX2_32 : xFld RX2 32 2 6 9 (.int) false := ⟨RX2, TX2, tyX2, rfl, inX2, tyX2_ok, nmX2, by decide, (tb_2 4 (by decide +kernel) rfl), rfl, rfl⟩
theorem fX2_35 : xFld RX2 35 2 7 9 (.int) false := ⟨RX2, TX2, tyX2, rfl, inX2, tyX2_ok, nmX2, by decide, (tb_2 8 (by decide +kernel) rfl), rfl, rfl⟩
theorem fX2_38 : xFld RX2 38 2 8 9 (.boolean) false := ⟨RX2, TX2, tyX2, rfl, inX2, tyX2_ok, nmX2, by decide, (tb_2 9 (by decide +kernel) rfl), rfl, rfl⟩
theorem fX2_64 : xFld RX2 64 6 0 5 (.int) false := ⟨RX6, TX6, tyX6, rfl, inX6, tyX6_ok, nmX6, by decide, (tb_1 47 (by decide +kernel) rfl), rfl, rfl⟩
theorem fX2_81 : xFld RX2 81 6 2 5 (.int) false := ⟨RX6, TX6, tyX6, rfl, inX6, tyX6_ok, nmX6, by decide, (tb_1 53 (by decide +kernel) rfl), rfl, rfl⟩
theorem fX2_9 : xFld RX2 9 2 0 9 (.array .long) true := ⟨RX2, TX2, tyX2, rfl, inX2, tyX2_ok, nmX2, by decide, (tb_1 225 (by decide +kernel) rfl), rfl, rfl⟩
theorem fX3_101 : xFld RX3 101 2 2 9 (.array .int) true := ⟨RX2, TX2, tyX2, rfl, inX2, tyX2_ok, nmX2, by decide, (tb_1 231 (by decide +kernel) rfl), rfl, rfl⟩
theorem fX3_104 : xFld RX3 104 2 6 9 (.int) false := ⟨RX2, TX2, tyX2, rfl, inX2, tyX2_ok, nmX2, by decide, (tb_2 7 (by decide +kernel) rfl), rfl, rfl⟩
theorem fX3_107 : xFld RX3 107 9 0 5 (.array .int) true := ⟨RX9, TX9, tyX9, rfl, inX9, tyX9_ok, nmX9, by decide, (tb_1 83 (by decide +kernel) rfl), rfl, rfl⟩
theorem fX3_12 : xFld RX3 12 3 0 9 (.object "TreatyRouter$Way") true := ⟨RX3, TX3, tyX3, rfl, inX3, tyX3_ok, nmX3, by decide, (tb_1 110 (by decide +kernel) rfl), rfl, rfl⟩
theorem fX3_122 : xFld RX3 122 9 4 5 (.int) false := ⟨RX9, TX9, tyX9, rfl, inX9, tyX9_ok, nmX9, by decide, (tb_1 97 (by decide +kernel) rfl), rfl, rfl⟩
theorem fX3_125 : xFld RX3 125 9 3 5 (.int) false := ⟨RX9, TX9, tyX9, rfl, inX9, tyX9_ok, nmX9, by decide, (tb_1 94 (by decide +kernel) rfl), rfl, rfl⟩
theorem fX3_128 : xFld RX3 128 9 2 5 (.int) false := ⟨RX9, TX9, tyX9, rfl, inX9, tyX9_ok, nmX9, by decide, (tb_1 90 (by decide +kernel) rfl), rfl, rfl⟩
theorem fX3_18 : xFld RX3 18 3 1 9 (.int) false := ⟨RX3, TX3, tyX3, rfl, inX3, tyX3_ok, nmX3, by decide, (tb_1 113 (by decide +kernel) rfl), rfl, rfl⟩
theorem fX3_22 : xFld RX3 22 3 2 9 (.array .int) true := ⟨RX3, TX3, tyX3, rfl, inX3, tyX3_ok, nmX3, by decide, (tb_1 115 (by decide +kernel) rfl), rfl, rfl⟩
theorem fX3_26 : xFld RX3 26 3 3 9 (.array .int) true := ⟨RX3, TX3, tyX3, rfl, inX3, tyX3_ok, nmX3, by decide, (tb_1 117 (by decide +kernel) rfl), rfl, rfl⟩
theorem fX3_29 : xFld RX3 29 3 4 9 (.array .int) true := ⟨RX3, TX3, tyX3, rfl, inX3, tyX3_ok, nmX3, by decide, (tb_1 119 (by decide +kernel) rfl), rfl, rfl⟩
theorem fX3_32 : xFld RX3 32 3 5 9 (.array .int) true := ⟨RX3, TX3, tyX3, rfl, inX3, tyX3_ok, nmX3, by decide, (tb_1 121 (by decide +kernel) rfl), rfl, rfl⟩
theorem fX3_35 : xFld RX3 35 3 6 9 (.object "TreatyRouter$Way") true := ⟨RX3, TX3, tyX3, rfl, inX3, tyX3_ok, nmX3, by decide, (tb_1 122 (by decide +kernel) rfl), rfl, rfl⟩
theorem fX3_38 : xFld RX3 38 3 7 9 (.int) false := ⟨RX3, TX3, tyX3, rfl, inX3, tyX3_ok, nmX3, by decide, (tb_1 123 (by decide +kernel) rfl), rfl, rfl⟩
theorem fX3_41 : xFld RX3 41 3 8 9 (.boolean) false := ⟨RX3, TX3, tyX3, rfl, inX3, tyX3_ok, nmX3, by decide, (tb_1 124 (by decide +kernel) rfl), rfl, rfl⟩
theorem fX3_45 : xFld RX3 45 9 1 5 (.int) false := ⟨RX9, TX9, tyX9, rfl, inX9, tyX9_ok, nmX9, by decide, (tb_1 87 (by decide +kernel) rfl), rfl, rfl⟩
theorem fX3_64 : xFld RX3 64 8 0 4 (.array .int) true := ⟨RX8, TX8, tyX8, rfl, inX8, tyX8_ok, nmX8, by decide, (tb_2 39 (by decide +kernel) rfl), rfl, rfl⟩
theorem fX3_69 : xFld RX3 69 8 1 4 (.object "TreatyRouter$Book") false := ⟨RX8, TX8, tyX8, rfl, inX8, tyX8_ok, nmX8, by decide, (tb_2 44 (by decide +kernel) rfl), rfl, rfl⟩
theorem fX3_73 : xFld RX3 73 2 3 9 (.array .int) true := ⟨RX2, TX2, tyX2, rfl, inX2, tyX2_ok, nmX2, by decide, (tb_1 235 (by decide +kernel) rfl), rfl, rfl⟩
theorem fX3_85 : xFld RX3 85 2 5 9 (.int) false := ⟨RX2, TX2, tyX2, rfl, inX2, tyX2_ok, nmX2, by decide, (tb_2 1 (by decide +kernel) rfl), rfl, rfl⟩
theorem fX3_88 : xFld RX3 88 8 2 4 (.int) false := ⟨RX8, TX8, tyX8, rfl, inX8, tyX8_ok, nmX8, by decide, (tb_2 47 (by decide +kernel) rfl), rfl, rfl⟩
theorem fX3_91 : xFld RX3 91 8 3 4 (.int) false := ⟨RX8, TX8, tyX8, rfl, inX8, tyX8_ok, nmX8, by decide, (tb_2 49 (by decide +kernel) rfl), rfl, rfl⟩
theorem fX3_98 : xFld RX3 98 2 4 9 (.array .int) true := ⟨RX2, TX2, tyX2, rfl, inX2, tyX2_ok, nmX2, by decide, (tb_1 238 (by decide +kernel) rfl), rfl, rfl⟩
theorem fX4_13 : xFld RX4 13 4 1 3 (.int) false := ⟨RX4, TX4, tyX4, rfl, inX4, tyX4_ok, nmX4, by decide, (tb_1 162 (by decide +kernel) rfl), rfl, rfl⟩
theorem fX4_18 : xFld RX4 18 4 2 3 (.array .int) true := ⟨RX4, TX4, tyX4, rfl, inX4, tyX4_ok, nmX4, by decide, (tb_1 163 (by decide +kernel) rfl), rfl, rfl⟩
theorem fX4_22 : xFld RX4 22 8 0 4 (.array .int) true := ⟨RX8, TX8, tyX8, rfl, inX8, tyX8_ok, nmX8, by decide, (tb_2 37 (by decide +kernel) rfl), rfl, rfl⟩
theorem fX4_7 : xFld RX4 7 4 0 3 (.int) false := ⟨RX4, TX4, tyX4, rfl, inX4, tyX4_ok, nmX4, by decide, (tb_1 160 (by decide +kernel) rfl), rfl, rfl⟩
theorem fX5_11 : xFld RX5 11 5 0 3 (.int) false := ⟨RX5, TX5, tyX5, rfl, inX5, tyX5_ok, nmX5, by decide, (tb_1 177 (by decide +kernel) rfl), rfl, rfl⟩
theorem fX5_15 : xFld RX5 15 5 1 3 (.int) false := ⟨RX5, TX5, tyX5, rfl, inX5, tyX5_ok, nmX5, by decide, (tb_1 178 (by decide +kernel) rfl), rfl, rfl⟩
theorem fX5_18 : xFld RX5 18 5 2 3 (.array .int) true := ⟨RX5, TX5, tyX5, rfl, inX5, tyX5_ok, nmX5, by decide, (tb_1 179 (by decide +kernel) rfl), rfl, rfl⟩
theorem fX6_15 : xFld RX6 15 6 1 5 (.int) false := ⟨RX6, TX6, tyX6, rfl, inX6, tyX6_ok, nmX6, by decide, (tb_1 48 (by decide +kernel) rfl), rfl, rfl⟩
theorem fX6_18 : xFld RX6 18 6 2 5 (.int) false := ⟨RX6, TX6, tyX6, rfl, inX6, tyX6_ok, nmX6, by decide, (tb_1 51 (by decide +kernel) rfl), rfl, rfl⟩
theorem fX6_21 : xFld RX6 21 6 3 5 (.int) false := ⟨RX6, TX6, tyX6, rfl, inX6, tyX6_ok, nmX6, by decide, (tb_1 54 (by decide +kernel) rfl), rfl, rfl⟩
theorem fX6_24 : xFld RX6 24 6 4 5 (.array .int) true := ⟨RX6, TX6, tyX6, rfl, inX6, tyX6_ok, nmX6, by decide, (tb_1 55 (by decide +kernel) rfl), rfl, rfl⟩
theorem fX6_9 : xFld RX6 9 6 0 5 (.int) false := ⟨RX6, TX6, tyX6, rfl, inX6, tyX6_ok, nmX6, by decide, (tb_1 45 (by decide +kernel) rfl), rfl, rfl⟩
theorem fX7_11 : xFld RX7 11 7 0 2 (.array .int) true := ⟨RX7, TX7, tyX7, rfl, inX7, tyX7_ok, nmX7, by decide, (tb_2 64 (by decide +kernel) rfl), rfl, rfl⟩
theorem fX7_15 : xFld RX7 15 7 1 2 (.int) false := ⟨RX7, TX7, tyX7, rfl, inX7, tyX7_ok, nmX7, by decide, (tb_2 66 (by decide +kernel) rfl), rfl, rfl⟩
theorem fX7_32 : xFld RX7 32 6 2 5 (.int) false := ⟨RX6, TX6, tyX6, rfl, inX6, tyX6_ok, nmX6, by decide, (tb_1 52 (by decide +kernel) rfl), rfl, rfl⟩
theorem fX8_11 : xFld RX8 11 8 0 4 (.array .int) true := ⟨RX8, TX8, tyX8, rfl, inX8, tyX8_ok, nmX8, by decide, (tb_2 36 (by decide +kernel) rfl), rfl, rfl⟩
theorem fX8_15 : xFld RX8 15 8 2 4 (.int) false := ⟨RX8, TX8, tyX8, rfl, inX8, tyX8_ok, nmX8, by decide, (tb_2 46 (by decide +kernel) rfl), rfl, rfl⟩
theorem fX8_19 : xFld RX8 19 8 3 4 (.int) false := ⟨RX8, TX8, tyX8, rfl, inX8, tyX8_ok, nmX8, by decide, (tb_2 48 (by decide +kernel) rfl), rfl, rfl⟩
theorem fX8_22 : xFld RX8 22 8 1 4 (.object "TreatyRouter$Book") false := ⟨RX8, TX8, tyX8, rfl, inX8, tyX8_ok, nmX8, by decide, (tb_2 42 (by decide +kernel) rfl), rfl, rfl⟩
theorem fX9_11 : xFld RX9 11 9 0 5 (.array .int) true := ⟨RX9, TX9, tyX9, rfl, inX9, tyX9_ok, nmX9, by decide, (tb_1 82 (by decide +kernel) rfl), rfl, rfl⟩
theorem fX9_15 : xFld RX9 15 9 1 5 (.int) false := ⟨RX9, TX9, tyX9, rfl, inX9, tyX9_ok, nmX9, by decide, (tb_1 86 (by decide +kernel) rfl), rfl, rfl⟩
theorem fX9_19 : xFld RX9 19 9 2 5 (.int) false := ⟨RX9, TX9, tyX9, rfl, inX9, tyX9_ok, nmX9, by decide, (tb_1 88 (by decide +kernel) rfl), rfl, rfl⟩
theorem fX9_28 : xFld RX9 28 2 3 9 (.array .int) true := ⟨RX2, TX2, tyX2, rfl, inX2, tyX2_ok, nmX2, by decide, (tb_1 234 (by decide +kernel) rfl), rfl, rfl⟩
theorem tX11_309 : Cond.methodLink RX11 309 Lib.Math.min.name ∈ gtbl := (tb_4 226 (by decide +kernel) rfl)
theorem tX11_321 : Cond.methodLink RX11 321 Lib.Math.max.name ∈ gtbl := (tb_5 9 (by decide +kernel) rfl)
theorem tX3_115 : Cond.methodLink RX3 115 Lib.Math.min.name ∈ gtbl := (tb_3 182 (by decide +kernel) rfl)
theorem tX4_31 : Cond.methodLink RX4 31 Lib.Math.min.name ∈ gtbl := (tb_5 52 (by decide +kernel) rfl)
theorem tX5_22 : Cond.methodLink RX5 22 Lib.Math.min.name ∈ gtbl := (tb_3 146 (by decide +kernel) rfl)
theorem tX6_42 : Cond.methodLink RX6 42 Lib.Math.min.name ∈ gtbl := (tb_2 208 (by decide +kernel) rfl)
theorem zX10_77 : Cond.fieldLink RX10 77 "TreatyRouter$Word" "code" "J" ∈ gtbl := (tb_9 13 (by decide +kernel) rfl)
theorem zX2_136 : Cond.fieldLink RX2 136 "TreatyRouter$Book" "BOUNDS" "[I" ∈ gtbl := (tb_2 234 (by decide +kernel) rfl)
theorem zX2_84 : Cond.fieldLink RX2 84 "TreatyRouter$1" "$SwitchMap$TreatyRouter$Word" "[I" ∈ gtbl := (tb_2 184 (by decide +kernel) rfl)
theorem zX7_49 : Cond.fieldLink RX7 49 "TreatyRouter$Word" "act" "I" ∈ gtbl := (tb_9 15 (by decide +kernel) rfl)
theorem zX7_52 : Cond.fieldLink RX7 52 "TreatyRouter$Word" "numbers" "I" ∈ gtbl := (tb_9 16 (by decide +kernel) rfl)
