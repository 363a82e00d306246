theorem ndS : ∀ k, k < 7 → defaultValue (nYS k) = if fkR 0 k = true then .null else .int 0 := by decide +kernel
theorem inS : Cond.instantiable nRS 7 ∈ WA := wa_of (tw_1 18 rfl) rfl
theorem izS : Cond.initialized nRS ∈ WA := wa_of (tw_1 1 rfl) rfl
theorem ndW : ∀ k, k < 3 → defaultValue (nYW k) = if fkR 1 k = true then .null else .int 0 := by decide +kernel
theorem inW : Cond.instantiable nRW 3 ∈ WA := wa_of (tw_1 26 rfl) rfl
theorem izW : Cond.initialized nRW ∈ WA := wa_of (tw_1 2 rfl) rfl
theorem ndO : ∀ k, k < 8 → defaultValue (nYO k) = if fkR 2 k = true then .null else .int 0 := by decide +kernel
theorem inO : Cond.instantiable nRO 8 ∈ WA := wa_of (tw_1 48 rfl) rfl
theorem izO : Cond.initialized nRO ∈ WA := wa_of (tw_1 3 rfl) rfl
theorem ndK : ∀ k, k < 3 → defaultValue (nYK k) = if fkR 3 k = true then .null else .int 0 := by decide +kernel
theorem inK : Cond.instantiable nRK 3 ∈ WA := wa_of (tw_1 131 rfl) rfl
theorem izK : Cond.initialized nRK ∈ WA := wa_of (tw_1 7 rfl) rfl
theorem ndI : ∀ k, k < 5 → defaultValue (nYI k) = if fkR 4 k = true then .null else .int 0 := by decide +kernel
theorem inI : Cond.instantiable nRI 5 ∈ WA := wa_of (tw_1 180 rfl) rfl
theorem izI : Cond.initialized nRI ∈ WA := wa_of (tw_1 8 rfl) rfl
theorem ndE : ∀ k, k < 6 → defaultValue (nYE k) = if fkR 5 k = true then .null else .int 0 := by decide +kernel
theorem inE : Cond.instantiable nRE 6 ∈ WA := wa_of (tw_1 125 rfl) rfl
theorem izE : Cond.initialized nRE ∈ WA := wa_of (tw_1 6 rfl) rfl
theorem ndR : ∀ k, k < 8 → defaultValue (nYR k) = if fkR 6 k = true then .null else .int 0 := by decide +kernel
theorem inR : Cond.instantiable nRR 8 ∈ WA := wa_of (tw_1 116 rfl) rfl
theorem izR : Cond.initialized nRR ∈ WA := wa_of (tw_1 5 rfl) rfl
theorem ndH : ∀ k, k < 7 → defaultValue (nYH k) = if fkR 7 k = true then .null else .int 0 := by decide +kernel
theorem inH : Cond.instantiable nRH 7 ∈ WA := wa_of (tw_1 80 rfl) rfl
theorem izH : Cond.initialized nRH ∈ WA := wa_of (tw_1 4 rfl) rfl
theorem ndB : ∀ k, k < 8 → defaultValue (nYB k) = if fkR 8 k = true then .null else .int 0 := by decide +kernel
theorem inB : Cond.instantiable nRB 8 ∈ WA := wa_of (tw_2 92 rfl) rfl
theorem izB : Cond.initialized nRB ∈ WA := wa_of (tw_1 12 rfl) rfl
theorem ndC : ∀ k, k < 12 → defaultValue (nYC k) = if fkR 9 k = true then .null else .int 0 := by decide +kernel
theorem inC : Cond.instantiable nRC 12 ∈ WA := wa_of (tw_2 3 rfl) rfl
theorem izC : Cond.initialized nRC ∈ WA := wa_of (tw_1 10 rfl) rfl
theorem ndP : ∀ k, k < 12 → defaultValue (nYP k) = if fkR 10 k = true then .null else .int 0 := by decide +kernel
theorem inP : Cond.instantiable nRP 12 ∈ WA := wa_of (tw_2 46 rfl) rfl
theorem izP : Cond.initialized nRP ∈ WA := wa_of (tw_1 11 rfl) rfl
theorem ndD : ∀ k, k < 16 → defaultValue (nYD k) = if fkR 11 k = true then .null else .int 0 := by decide +kernel
theorem inD : Cond.instantiable nRD 16 ∈ WA := wa_of (tw_1 235 rfl) rfl
theorem izD : Cond.initialized nRD ∈ WA := wa_of (tw_1 9 rfl) rfl
theorem ndM : ∀ k, k < 69 → defaultValue (nYM k) = if fkR 12 k = true then .null else .int 0 := by decide +kernel
theorem inM : Cond.instantiable nRM 69 ∈ WA := wa_of (tw_4 154 rfl) rfl
theorem izM : Cond.initialized nRM ∈ WA := wa_of (tw_1 13 rfl) rfl
theorem clL_7 : Cond.classLink nRL 7 "LacedSound" ∈ WA := wa_of (tw_1 17 rfl) rfl
theorem clS_7 : Cond.classLink nRS 7 "LacedSound$Wire" ∈ WA := wa_of (tw_1 25 rfl) rfl
theorem clS_20 : Cond.classLink nRS 20 "LacedSound$Outbox" ∈ WA := wa_of (tw_1 46 rfl) rfl
theorem clS_29 : Cond.classLink nRS 29 "LacedSound$Hand" ∈ WA := wa_of (tw_1 79 rfl) rfl
theorem clS_36 : Cond.classLink nRS 36 "LacedSound$Reader" ∈ WA := wa_of (tw_1 115 rfl) rfl
theorem clR_11 : Cond.classLink nRR 11 "LacedSound$Inbox" ∈ WA := wa_of (tw_1 121 rfl) rfl
theorem clR_17 : Cond.classLink nRR 17 "LacedSound$Event" ∈ WA := wa_of (tw_1 123 rfl) rfl
theorem clE_15 : Cond.classLink nRE 15 "LacedSound$Packet" ∈ WA := wa_of (tw_1 130 rfl) rfl
theorem clI_7 : Cond.classLink nRI 7 "LacedSound$Packet" ∈ WA := wa_of (tw_1 185 rfl) rfl
theorem clS_45 : Cond.classLink nRS 45 "LacedSound$Decoder" ∈ WA := wa_of (tw_1 234 rfl) rfl
theorem clD_9 : Cond.classLink nRD 9 "LacedSound$Book" ∈ WA := wa_of (tw_2 0 rfl) rfl
theorem clD_17 : Cond.classLink nRD 17 "LacedSound$CurvePlan" ∈ WA := wa_of (tw_2 2 rfl) rfl
theorem clD_24 : Cond.classLink nRD 24 "LacedSound$ValuePlan" ∈ WA := wa_of (tw_2 45 rfl) rfl
theorem clP_28 : Cond.classLink nRP 28 "[[I" ∈ WA := wa_of (tw_2 51 rfl) rfl
theorem clD_37 : Cond.classLink nRD 37 "[[I" ∈ WA := wa_of (tw_2 91 rfl) rfl
theorem clL_10 : Cond.classLink nRL 10 "LacedSoundModel" ∈ WA := wa_of (tw_4 153 rfl) rfl
theorem ka_ai : Cond.arrayClass .int ∈ WA := wa_of (tw_1 45 rfl) rfl
theorem ka_az : Cond.arrayClass .boolean ∈ WA := wa_of (tw_1 78 rfl) rfl
theorem ka_obj : Cond.instanceMethod Lib.objectInit ∈ WA ∧ Cond.code Lib.objectInit ⟨#[0xb1]⟩ 1 none ∈ WA := ⟨wa_of (tw_1 23 rfl) rfl, wa_of (tw_1 24 rfl) rfl⟩
theorem mj_S_init : Cond.instanceMethod yS_init ∈ WA := wa_of (tw_1 20 rfl) rfl
theorem flS_10 : FL nRS 10 0 0 (.object "LacedSound$Wire") true := ⟨nRS, nTS, 7, ci_0, by decide, wa_of (tw_2 181 rfl) rfl, rfl, npS 0 (by decide), rfl, rfl⟩
theorem flS_16 : FL nRS 16 0 1 (.array .int) true := ⟨nRS, nTS, 7, ci_0, by decide, wa_of (tw_2 182 rfl) rfl, rfl, npS 1 (by decide), rfl, rfl⟩
theorem flS_22 : FL nRS 22 0 3 (.array (.object "LacedSound$Outbox")) true := ⟨nRS, nTS, 7, ci_0, by decide, wa_of (tw_2 184 rfl) rfl, rfl, npS 3 (by decide), rfl, rfl⟩
theorem flS_32 : FL nRS 32 0 4 (.object "LacedSound$Hand") true := ⟨nRS, nTS, 7, ci_0, by decide, wa_of (tw_2 185 rfl) rfl, rfl, npS 4 (by decide), rfl, rfl⟩
theorem flS_41 : FL nRS 41 0 5 (.object "LacedSound$Reader") true := ⟨nRS, nTS, 7, ci_0, by decide, wa_of (tw_2 186 rfl) rfl, rfl, npS 5 (by decide), rfl, rfl⟩
theorem flS_50 : FL nRS 50 0 6 (.object "LacedSound$Decoder") true := ⟨nRS, nTS, 7, ci_0, by decide, wa_of (tw_2 187 rfl) rfl, rfl, npS 6 (by decide), rfl, rfl⟩
theorem mj_M_init : Cond.instanceMethod yM_init ∈ WA := wa_of (tw_4 156 rfl) rfl
theorem flM_7 : FL nRM 7 12 0 (.array .int) true := ⟨nRM, nTM, 69, ci_12, by decide, wa_of (tw_4 159 rfl) rfl, rfl, npM 0 (by decide), rfl, rfl⟩
theorem flM_13 : FL nRM 13 12 3 (.array .int) true := ⟨nRM, nTM, 69, ci_12, by decide, wa_of (tw_4 162 rfl) rfl, rfl, npM 3 (by decide), rfl, rfl⟩
theorem flM_16 : FL nRM 16 12 5 (.array .int) true := ⟨nRM, nTM, 69, ci_12, by decide, wa_of (tw_4 164 rfl) rfl, rfl, npM 5 (by decide), rfl, rfl⟩
theorem flM_19 : FL nRM 19 12 6 (.array .int) true := ⟨nRM, nTM, 69, ci_12, by decide, wa_of (tw_4 165 rfl) rfl, rfl, npM 6 (by decide), rfl, rfl⟩
theorem flM_22 : FL nRM 22 12 7 (.array .int) true := ⟨nRM, nTM, 69, ci_12, by decide, wa_of (tw_4 166 rfl) rfl, rfl, npM 7 (by decide), rfl, rfl⟩
theorem flM_25 : FL nRM 25 12 8 (.array .int) true := ⟨nRM, nTM, 69, ci_12, by decide, wa_of (tw_4 167 rfl) rfl, rfl, npM 8 (by decide), rfl, rfl⟩
theorem flM_28 : FL nRM 28 12 9 (.array .int) true := ⟨nRM, nTM, 69, ci_12, by decide, wa_of (tw_4 168 rfl) rfl, rfl, npM 9 (by decide), rfl, rfl⟩
theorem flM_31 : FL nRM 31 12 10 (.array .int) true := ⟨nRM, nTM, 69, ci_12, by decide, wa_of (tw_4 169 rfl) rfl, rfl, npM 10 (by decide), rfl, rfl⟩
theorem flM_34 : FL nRM 34 12 11 (.array .boolean) true := ⟨nRM, nTM, 69, ci_12, by decide, wa_of (tw_4 170 rfl) rfl, rfl, npM 11 (by decide), rfl, rfl⟩
theorem flM_38 : FL nRM 38 12 12 (.array .int) true := ⟨nRM, nTM, 69, ci_12, by decide, wa_of (tw_4 171 rfl) rfl, rfl, npM 12 (by decide), rfl, rfl⟩
theorem flM_41 : FL nRM 41 12 15 (.array .int) true := ⟨nRM, nTM, 69, ci_12, by decide, wa_of (tw_4 174 rfl) rfl, rfl, npM 15 (by decide), rfl, rfl⟩
theorem flM_44 : FL nRM 44 12 16 (.array .int) true := ⟨nRM, nTM, 69, ci_12, by decide, wa_of (tw_4 175 rfl) rfl, rfl, npM 16 (by decide), rfl, rfl⟩
theorem flM_47 : FL nRM 47 12 17 (.array .int) true := ⟨nRM, nTM, 69, ci_12, by decide, wa_of (tw_4 176 rfl) rfl, rfl, npM 17 (by decide), rfl, rfl⟩
theorem flM_50 : FL nRM 50 12 18 (.array .boolean) true := ⟨nRM, nTM, 69, ci_12, by decide, wa_of (tw_4 177 rfl) rfl, rfl, npM 18 (by decide), rfl, rfl⟩
theorem flM_53 : FL nRM 53 12 19 (.array .int) true := ⟨nRM, nTM, 69, ci_12, by decide, wa_of (tw_4 178 rfl) rfl, rfl, npM 19 (by decide), rfl, rfl⟩
theorem flM_56 : FL nRM 56 12 20 (.array .int) true := ⟨nRM, nTM, 69, ci_12, by decide, wa_of (tw_4 179 rfl) rfl, rfl, npM 20 (by decide), rfl, rfl⟩
theorem flM_59 : FL nRM 59 12 23 (.array .int) true := ⟨nRM, nTM, 69, ci_12, by decide, wa_of (tw_4 182 rfl) rfl, rfl, npM 23 (by decide), rfl, rfl⟩
theorem flM_62 : FL nRM 62 12 24 (.array .int) true := ⟨nRM, nTM, 69, ci_12, by decide, wa_of (tw_4 183 rfl) rfl, rfl, npM 24 (by decide), rfl, rfl⟩
theorem flM_65 : FL nRM 65 12 25 (.array .int) true := ⟨nRM, nTM, 69, ci_12, by decide, wa_of (tw_4 184 rfl) rfl, rfl, npM 25 (by decide), rfl, rfl⟩
theorem flM_68 : FL nRM 68 12 26 (.array .boolean) true := ⟨nRM, nTM, 69, ci_12, by decide, wa_of (tw_4 185 rfl) rfl, rfl, npM 26 (by decide), rfl, rfl⟩
theorem flM_71 : FL nRM 71 12 27 (.array .int) true := ⟨nRM, nTM, 69, ci_12, by decide, wa_of (tw_4 186 rfl) rfl, rfl, npM 27 (by decide), rfl, rfl⟩
theorem flM_74 : FL nRM 74 12 28 (.array .int) true := ⟨nRM, nTM, 69, ci_12, by decide, wa_of (tw_4 187 rfl) rfl, rfl, npM 28 (by decide), rfl, rfl⟩
theorem flM_77 : FL nRM 77 12 35 (.array .int) true := ⟨nRM, nTM, 69, ci_12, by decide, wa_of (tw_4 194 rfl) rfl, rfl, npM 35 (by decide), rfl, rfl⟩
theorem flM_80 : FL nRM 80 12 45 (.array .int) true := ⟨nRM, nTM, 69, ci_12, by decide, wa_of (tw_4 204 rfl) rfl, rfl, npM 45 (by decide), rfl, rfl⟩
theorem flM_83 : FL nRM 83 12 46 (.array .int) true := ⟨nRM, nTM, 69, ci_12, by decide, wa_of (tw_4 205 rfl) rfl, rfl, npM 46 (by decide), rfl, rfl⟩
theorem flM_86 : FL nRM 86 12 47 (.array .int) true := ⟨nRM, nTM, 69, ci_12, by decide, wa_of (tw_4 206 rfl) rfl, rfl, npM 47 (by decide), rfl, rfl⟩
theorem flM_89 : FL nRM 89 12 48 (.array .int) true := ⟨nRM, nTM, 69, ci_12, by decide, wa_of (tw_4 207 rfl) rfl, rfl, npM 48 (by decide), rfl, rfl⟩
theorem flM_92 : FL nRM 92 12 49 (.array .boolean) true := ⟨nRM, nTM, 69, ci_12, by decide, wa_of (tw_4 208 rfl) rfl, rfl, npM 49 (by decide), rfl, rfl⟩
theorem flM_95 : FL nRM 95 12 50 (.array .int) true := ⟨nRM, nTM, 69, ci_12, by decide, wa_of (tw_4 209 rfl) rfl, rfl, npM 50 (by decide), rfl, rfl⟩
theorem flM_98 : FL nRM 98 12 51 (.array .int) true := ⟨nRM, nTM, 69, ci_12, by decide, wa_of (tw_4 210 rfl) rfl, rfl, npM 51 (by decide), rfl, rfl⟩
theorem flM_101 : FL nRM 101 12 52 (.array .int) true := ⟨nRM, nTM, 69, ci_12, by decide, wa_of (tw_4 211 rfl) rfl, rfl, npM 52 (by decide), rfl, rfl⟩
theorem flM_104 : FL nRM 104 12 53 (.int) false := ⟨nRM, nTM, 69, ci_12, by decide, wa_of (tw_4 212 rfl) rfl, rfl, npM 53 (by decide), rfl, rfl⟩
theorem flM_108 : FL nRM 108 12 59 (.array .boolean) true := ⟨nRM, nTM, 69, ci_12, by decide, wa_of (tw_4 218 rfl) rfl, rfl, npM 59 (by decide), rfl, rfl⟩
theorem flM_111 : FL nRM 111 12 60 (.array .int) true := ⟨nRM, nTM, 69, ci_12, by decide, wa_of (tw_4 219 rfl) rfl, rfl, npM 60 (by decide), rfl, rfl⟩
theorem flM_114 : FL nRM 114 12 61 (.array .int) true := ⟨nRM, nTM, 69, ci_12, by decide, wa_of (tw_4 220 rfl) rfl, rfl, npM 61 (by decide), rfl, rfl⟩
theorem flM_117 : FL nRM 117 12 62 (.array .int) true := ⟨nRM, nTM, 69, ci_12, by decide, wa_of (tw_4 221 rfl) rfl, rfl, npM 62 (by decide), rfl, rfl⟩
theorem flM_120 : FL nRM 120 12 63 (.array .int) true := ⟨nRM, nTM, 69, ci_12, by decide, wa_of (tw_4 222 rfl) rfl, rfl, npM 63 (by decide), rfl, rfl⟩
theorem flM_123 : FL nRM 123 12 64 (.array .boolean) true := ⟨nRM, nTM, 69, ci_12, by decide, wa_of (tw_4 223 rfl) rfl, rfl, npM 64 (by decide), rfl, rfl⟩
theorem flM_126 : FL nRM 126 12 66 (.array .int) true := ⟨nRM, nTM, 69, ci_12, by decide, wa_of (tw_4 225 rfl) rfl, rfl, npM 66 (by decide), rfl, rfl⟩
theorem flM_129 : FL nRM 129 12 67 (.array .int) true := ⟨nRM, nTM, 69, ci_12, by decide, wa_of (tw_4 226 rfl) rfl, rfl, npM 67 (by decide), rfl, rfl⟩
theorem mj_B_init : Cond.instanceMethod yB_init ∈ WA := wa_of (tw_2 94 rfl) rfl
theorem flB_9 : FL nRB 9 8 1 (.int) false := ⟨nRB, nTB, 8, ci_8, by decide, wa_of (tw_2 99 rfl) rfl, rfl, npB 1 (by decide), rfl, rfl⟩
theorem flB_15 : FL nRB 15 8 2 (.array .int) true := ⟨nRB, nTB, 8, ci_8, by decide, wa_of (tw_2 101 rfl) rfl, rfl, npB 2 (by decide), rfl, rfl⟩
theorem flB_19 : FL nRB 19 8 3 (.array .int) true := ⟨nRB, nTB, 8, ci_8, by decide, wa_of (tw_2 102 rfl) rfl, rfl, npB 3 (by decide), rfl, rfl⟩
theorem flB_22 : FL nRB 22 8 6 (.array .int) true := ⟨nRB, nTB, 8, ci_8, by decide, wa_of (tw_2 107 rfl) rfl, rfl, npB 6 (by decide), rfl, rfl⟩
theorem flB_25 : FL nRB 25 8 7 (.array .int) true := ⟨nRB, nTB, 8, ci_8, by decide, wa_of (tw_2 108 rfl) rfl, rfl, npB 7 (by decide), rfl, rfl⟩
theorem mj_C_init : Cond.instanceMethod yC_init ∈ WA := wa_of (tw_2 5 rfl) rfl
theorem flC_11 : FL nRC 11 9 2 (.array .int) true := ⟨nRC, nTC, 12, ci_9, by decide, wa_of (tw_2 10 rfl) rfl, rfl, npC 2 (by decide), rfl, rfl⟩
theorem flC_15 : FL nRC 15 9 3 (.array .int) true := ⟨nRC, nTC, 12, ci_9, by decide, wa_of (tw_2 11 rfl) rfl, rfl, npC 3 (by decide), rfl, rfl⟩
theorem flC_18 : FL nRC 18 9 4 (.array .boolean) true := ⟨nRC, nTC, 12, ci_9, by decide, wa_of (tw_2 12 rfl) rfl, rfl, npC 4 (by decide), rfl, rfl⟩
theorem flC_22 : FL nRC 22 9 5 (.array .int) true := ⟨nRC, nTC, 12, ci_9, by decide, wa_of (tw_2 13 rfl) rfl, rfl, npC 5 (by decide), rfl, rfl⟩
theorem flC_25 : FL nRC 25 9 6 (.array .int) true := ⟨nRC, nTC, 12, ci_9, by decide, wa_of (tw_2 14 rfl) rfl, rfl, npC 6 (by decide), rfl, rfl⟩
theorem flC_28 : FL nRC 28 9 8 (.array .int) true := ⟨nRC, nTC, 12, ci_9, by decide, wa_of (tw_2 16 rfl) rfl, rfl, npC 8 (by decide), rfl, rfl⟩
theorem flC_31 : FL nRC 31 9 9 (.array .int) true := ⟨nRC, nTC, 12, ci_9, by decide, wa_of (tw_2 17 rfl) rfl, rfl, npC 9 (by decide), rfl, rfl⟩
theorem flC_34 : FL nRC 34 9 10 (.array .int) true := ⟨nRC, nTC, 12, ci_9, by decide, wa_of (tw_2 18 rfl) rfl, rfl, npC 10 (by decide), rfl, rfl⟩
theorem flC_37 : FL nRC 37 9 11 (.array .boolean) true := ⟨nRC, nTC, 12, ci_9, by decide, wa_of (tw_2 19 rfl) rfl, rfl, npC 11 (by decide), rfl, rfl⟩
theorem mj_D_init : Cond.instanceMethod yD_init ∈ WA := wa_of (tw_1 237 rfl) rfl
theorem flD_11 : FL nRD 11 11 1 (.array (.object "LacedSound$Book")) true := ⟨nRD, nTD, 16, ci_11, by decide, wa_of (tw_2 128 rfl) rfl, rfl, npD 1 (by decide), rfl, rfl⟩
theorem flD_20 : FL nRD 20 11 7 (.object "LacedSound$CurvePlan") false := ⟨nRD, nTD, 16, ci_11, by decide, wa_of (tw_2 134 rfl) rfl, rfl, npD 7 (by decide), rfl, rfl⟩
theorem flD_27 : FL nRD 27 11 8 (.object "LacedSound$ValuePlan") false := ⟨nRD, nTD, 16, ci_11, by decide, wa_of (tw_2 135 rfl) rfl, rfl, npD 8 (by decide), rfl, rfl⟩
theorem flD_31 : FL nRD 31 11 9 (.object "LacedSound$CurvePlan") false := ⟨nRD, nTD, 16, ci_11, by decide, wa_of (tw_2 136 rfl) rfl, rfl, npD 9 (by decide), rfl, rfl⟩
theorem flD_34 : FL nRD 34 11 10 (.object "LacedSound$ValuePlan") false := ⟨nRD, nTD, 16, ci_11, by decide, wa_of (tw_2 137 rfl) rfl, rfl, npD 10 (by decide), rfl, rfl⟩
theorem flD_39 : FL nRD 39 11 13 (.array (.array .int)) true := ⟨nRD, nTD, 16, ci_11, by decide, wa_of (tw_2 142 rfl) rfl, rfl, npD 13 (by decide), rfl, rfl⟩
theorem flD_42 : FL nRD 42 11 14 (.array (.array .int)) true := ⟨nRD, nTD, 16, ci_11, by decide, wa_of (tw_2 144 rfl) rfl, rfl, npD 14 (by decide), rfl, rfl⟩
theorem flD_45 : FL nRD 45 11 0 (.object "LacedSound$Hand") true := ⟨nRD, nTD, 16, ci_11, by decide, wa_of (tw_2 127 rfl) rfl, rfl, npD 0 (by decide), rfl, rfl⟩
theorem mj_E_init : Cond.instanceMethod yE_init ∈ WA := wa_of (tw_1 127 rfl) rfl
theorem flE_9 : FL nRE 9 5 0 (.int) false := ⟨nRE, nTE, 6, ci_5, by decide, wa_of (tw_1 150 rfl) rfl, rfl, npE 0 (by decide), rfl, rfl⟩
theorem flE_18 : FL nRE 18 5 5 (.object "LacedSound$Packet") true := ⟨nRE, nTE, 6, ci_5, by decide, wa_of (tw_1 164 rfl) rfl, rfl, npE 5 (by decide), rfl, rfl⟩
theorem mj_H_init : Cond.instanceMethod yH_init ∈ WA := wa_of (tw_1 82 rfl) rfl
theorem flH_9 : FL nRH 9 7 0 (.array .int) true := ⟨nRH, nTH, 7, ci_7, by decide, wa_of (tw_1 85 rfl) rfl, rfl, npH 0 (by decide), rfl, rfl⟩
theorem mj_I_init : Cond.instanceMethod yI_init ∈ WA := wa_of (tw_1 182 rfl) rfl
theorem flI_10 : FL nRI 10 4 4 (.object "LacedSound$Packet") true := ⟨nRI, nTI, 5, ci_4, by decide, wa_of (tw_1 194 rfl) rfl, rfl, npI 4 (by decide), rfl, rfl⟩
theorem mj_O_init : Cond.instanceMethod yO_init ∈ WA := wa_of (tw_1 50 rfl) rfl
theorem flO_11 : FL nRO 11 2 1 (.array .int) true := ⟨nRO, nTO, 8, ci_2, by decide, wa_of (tw_1 54 rfl) rfl, rfl, npO 1 (by decide), rfl, rfl⟩
theorem flO_15 : FL nRO 15 2 2 (.array .int) true := ⟨nRO, nTO, 8, ci_2, by decide, wa_of (tw_1 55 rfl) rfl, rfl, npO 2 (by decide), rfl, rfl⟩
theorem flO_18 : FL nRO 18 2 3 (.array .int) true := ⟨nRO, nTO, 8, ci_2, by decide, wa_of (tw_1 56 rfl) rfl, rfl, npO 3 (by decide), rfl, rfl⟩
theorem flO_21 : FL nRO 21 2 4 (.array .boolean) true := ⟨nRO, nTO, 8, ci_2, by decide, wa_of (tw_1 57 rfl) rfl, rfl, npO 4 (by decide), rfl, rfl⟩
theorem flO_25 : FL nRO 25 2 0 (.int) true := ⟨nRO, nTO, 8, ci_2, by decide, wa_of (tw_1 53 rfl) rfl, rfl, npO 0 (by decide), rfl, rfl⟩
theorem mj_K_init : Cond.instanceMethod yK_init ∈ WA := wa_of (tw_1 133 rfl) rfl
theorem flK_11 : FL nRK 11 3 0 (.array .int) true := ⟨nRK, nTK, 3, ci_3, by decide, wa_of (tw_1 136 rfl) rfl, rfl, npK 0 (by decide), rfl, rfl⟩
theorem mj_R_init : Cond.instanceMethod yR_init ∈ WA := wa_of (tw_1 118 rfl) rfl
theorem flR_13 : FL nRR 13 6 2 (.array (.object "LacedSound$Inbox")) true := ⟨nRR, nTR, 8, ci_6, by decide, wa_of (tw_1 209 rfl) rfl, rfl, npR 2 (by decide), rfl, rfl⟩
theorem flR_19 : FL nRR 19 6 3 (.array (.object "LacedSound$Event")) true := ⟨nRR, nTR, 8, ci_6, by decide, wa_of (tw_1 210 rfl) rfl, rfl, npR 3 (by decide), rfl, rfl⟩
theorem flR_24 : FL nRR 24 6 6 (.object "LacedSound$Event") true := ⟨nRR, nTR, 8, ci_6, by decide, wa_of (tw_1 213 rfl) rfl, rfl, npR 6 (by decide), rfl, rfl⟩
theorem flR_28 : FL nRR 28 6 0 (.object "LacedSound$Wire") true := ⟨nRR, nTR, 8, ci_6, by decide, wa_of (tw_1 207 rfl) rfl, rfl, npR 0 (by decide), rfl, rfl⟩
theorem flR_32 : FL nRR 32 6 1 (.object "LacedSound$Hand") true := ⟨nRR, nTR, 8, ci_6, by decide, wa_of (tw_1 208 rfl) rfl, rfl, npR 1 (by decide), rfl, rfl⟩
theorem mj_P_init : Cond.instanceMethod yP_init ∈ WA := wa_of (tw_2 48 rfl) rfl
theorem flP_9 : FL nRP 9 10 0 (.int) false := ⟨nRP, nTP, 12, ci_10, by decide, wa_of (tw_2 53 rfl) rfl, rfl, npP 0 (by decide), rfl, rfl⟩
theorem flP_15 : FL nRP 15 10 4 (.int) false := ⟨nRP, nTP, 12, ci_10, by decide, wa_of (tw_2 57 rfl) rfl, rfl, npP 4 (by decide), rfl, rfl⟩
theorem flP_18 : FL nRP 18 10 5 (.int) false := ⟨nRP, nTP, 12, ci_10, by decide, wa_of (tw_2 58 rfl) rfl, rfl, npP 5 (by decide), rfl, rfl⟩
theorem flP_21 : FL nRP 21 10 7 (.array .int) true := ⟨nRP, nTP, 12, ci_10, by decide, wa_of (tw_2 60 rfl) rfl, rfl, npP 7 (by decide), rfl, rfl⟩
theorem flP_25 : FL nRP 25 10 10 (.array .int) true := ⟨nRP, nTP, 12, ci_10, by decide, wa_of (tw_2 64 rfl) rfl, rfl, npP 10 (by decide), rfl, rfl⟩
theorem flP_30 : FL nRP 30 10 11 (.array (.array .int)) true := ⟨nRP, nTP, 12, ci_10, by decide, wa_of (tw_2 65 rfl) rfl, rfl, npP 11 (by decide), rfl, rfl⟩
theorem mj_W_init : Cond.instanceMethod yW_init ∈ WA := wa_of (tw_1 28 rfl) rfl
theorem flW_9 : FL nRW 9 1 0 (.array .int) true := ⟨nRW, nTW, 3, ci_1, by decide, wa_of (tw_1 31 rfl) rfl, rfl, npW 0 (by decide), rfl, rfl⟩
theorem dK_init_0 : decode kK_init 0 = .ok (.aload_n 0, 1) := by decide +kernel
theorem dK_init_1 : decode kK_init 1 = .ok (.invokespecial 3, 3) := by decide +kernel
theorem dK_init_4 : decode kK_init 4 = .ok (.aload_n 0, 1) := by decide +kernel
theorem dK_init_5 : decode kK_init 5 = .ok (.bipush 64, 2) := by decide +kernel
theorem dK_init_7 : decode kK_init 7 = .ok (.newarray .int, 2) := by decide +kernel
theorem dK_init_9 : decode kK_init 9 = .ok (.putfield 11, 3) := by decide +kernel
theorem dK_init_12 : decode kK_init 12 = .ok (.return_, 1) := by decide +kernel
abbrev rcK_init : Room := { frames := 1, cells := 1, slots := 64, locals := 20 }
def wp_K_init (θ : TH) (a0 : Nat) (N : Nat) (V : VT) (U : UT) (K : Nat → VT → UT → Prop) : Prop := vz θ N V U ∧ tL θ N = (1, 0, 64) ∧ isO (θn θ (N + 1)) a0 3 ∧ (tb θ + N) ≠ 0 ∧ ∀ U_4 : UT, U_4 = up2 U a0 0 (tb θ + N) → K (N + 1) V U_4
set_option maxRecDepth 100000 in
set_option maxHeartbeats 4000000 in
theorem c_K_init (l : Launch) (θ : TH) (a0 : Nat) (N : Nat) (V : VT) (U : UT) (K : Nat → VT → UT → Prop) (hw : wp_K_init θ a0 N V U K) : CMc l yK_init kK_init 1 rcK_init θ [.ref a0] N V U K 1 64 := by
  refine n_met nRK (by decide +kernel) rfl rfl (Nat.le_of_ble_eq_true rfl) (fun p e s m args below meth c ls hC hov hin hr hlk hwo hsz hl => ?_)
  have hx := hC.1
  have hb := hC.2.1
  have hS : Sx θ s s.heap [] := va_S.rf
  have hl : lv_has ls 1 [(0, .ref a0)] := hl
  unfold wp_K_init at hw
  obtain ⟨hv, hw⟩ := hw
  refine lv_aload_n hx hb dK_init_0 rfl (lv_at hl 0 rfl) ?_
  refine n_obj hC lkK_3 ka_obj hl.1 (by decide) (by decide) dK_init_1 ?_
  refine lv_aload_n hx hb dK_init_4 rfl (lv_at hl 0 rfl) ?_
  refine lv_bipush (v := 64) hx hb dK_init_5 (by decide) ?_
  obtain ⟨hL_1, hw⟩ := hw
  refine n_newI hC ka_ai hwo hsz hS hv hL_1 (by decide) (by decide) (by decide) (by decide) (by decide) dK_init_7 (fun H hwo hsz hS => ?_)
  replace hv := vz.mono hv (Nat.le_succ _)
  obtain ⟨ho_2, hw⟩ := hw
  obtain ⟨hz_3, hw⟩ := hw
  refine n_putR hC hin flK_11 (fun _ => ⟨rfl, rfl⟩) rfl hwo hsz hS hv ho_2 hz_3 dK_init_9 (fun U_4 eU_4 hv H locs hwo hsz hS => ?_)
  replace hw := hw U_4 eU_4
  exact n_ret hC hr hlk hw hwo hsz hS dK_init_12
theorem dW_init_0 : decode kW_init 0 = .ok (.aload_n 0, 1) := by decide +kernel
theorem dW_init_1 : decode kW_init 1 = .ok (.invokespecial 3, 3) := by decide +kernel
theorem dW_init_4 : decode kW_init 4 = .ok (.aload_n 0, 1) := by decide +kernel
theorem dW_init_5 : decode kW_init 5 = .ok (.sipush 1000, 3) := by decide +kernel
theorem dW_init_8 : decode kW_init 8 = .ok (.newarray .int, 2) := by decide +kernel
theorem dW_init_10 : decode kW_init 10 = .ok (.putfield 9, 3) := by decide +kernel
theorem dW_init_13 : decode kW_init 13 = .ok (.return_, 1) := by decide +kernel
abbrev rcW_init : Room := { frames := 1, cells := 1, slots := 1000, locals := 20 }
def wp_W_init (θ : TH) (a0 : Nat) (N : Nat) (V : VT) (U : UT) (K : Nat → VT → UT → Prop) : Prop := vz θ N V U ∧ tL θ N = (1, 0, 1000) ∧ isO (θn θ (N + 1)) a0 1 ∧ (tb θ + N) ≠ 0 ∧ ∀ U_4 : UT, U_4 = up2 U a0 0 (tb θ + N) → K (N + 1) V U_4
set_option maxRecDepth 100000 in
set_option maxHeartbeats 4000000 in
theorem c_W_init (l : Launch) (θ : TH) (a0 : Nat) (N : Nat) (V : VT) (U : UT) (K : Nat → VT → UT → Prop) (hw : wp_W_init θ a0 N V U K) : CMc l yW_init kW_init 1 rcW_init θ [.ref a0] N V U K 1 1000 := by
  refine n_met nRW (by decide +kernel) rfl rfl (Nat.le_of_ble_eq_true rfl) (fun p e s m args below meth c ls hC hov hin hr hlk hwo hsz hl => ?_)
  have hx := hC.1
  have hb := hC.2.1
  have hS : Sx θ s s.heap [] := va_S.rf
  have hl : lv_has ls 1 [(0, .ref a0)] := hl
  unfold wp_W_init at hw
  obtain ⟨hv, hw⟩ := hw
  refine lv_aload_n hx hb dW_init_0 rfl (lv_at hl 0 rfl) ?_
  refine n_obj hC lkW_3 ka_obj hl.1 (by decide) (by decide) dW_init_1 ?_
  refine lv_aload_n hx hb dW_init_4 rfl (lv_at hl 0 rfl) ?_
  refine lv_sipush (v := 1000) hx hb dW_init_5 (by decide) ?_
  obtain ⟨hL_1, hw⟩ := hw
  refine n_newI hC ka_ai hwo hsz hS hv hL_1 (by decide) (by decide) (by decide) (by decide) (by decide) dW_init_8 (fun H hwo hsz hS => ?_)
  replace hv := vz.mono hv (Nat.le_succ _)
  obtain ⟨ho_2, hw⟩ := hw
  obtain ⟨hz_3, hw⟩ := hw
  refine n_putR hC hin flW_9 (fun _ => ⟨rfl, rfl⟩) rfl hwo hsz hS hv ho_2 hz_3 dW_init_10 (fun U_4 eU_4 hv H locs hwo hsz hS => ?_)
  replace hw := hw U_4 eU_4
  exact n_ret hC hr hlk hw hwo hsz hS dW_init_13
theorem dE_init_0 : decode kE_init 0 = .ok (.aload_n 0, 1) := by decide +kernel
theorem dE_init_1 : decode kE_init 1 = .ok (.invokespecial 3, 3) := by decide +kernel
theorem dE_init_4 : decode kE_init 4 = .ok (.aload_n 0, 1) := by decide +kernel
theorem dE_init_5 : decode kE_init 5 = .ok (.iconst 0, 1) := by decide +kernel
theorem dE_init_6 : decode kE_init 6 = .ok (.putfield 9, 3) := by decide +kernel
theorem dE_init_9 : decode kE_init 9 = .ok (.aload_n 0, 1) := by decide +kernel
theorem dE_init_10 : decode kE_init 10 = .ok (.new 15, 3) := by decide +kernel
theorem dE_init_13 : decode kE_init 13 = .ok (.dup, 1) := by decide +kernel
theorem dE_init_14 : decode kE_init 14 = .ok (.invokespecial 17, 3) := by decide +kernel
theorem dE_init_17 : decode kE_init 17 = .ok (.putfield 18, 3) := by decide +kernel
theorem dE_init_20 : decode kE_init 20 = .ok (.return_, 1) := by decide +kernel
abbrev rcE_init : Room := { frames := 2, cells := 2, slots := 67, locals := 40 }
def wp_E_init (θ : TH) (a0 : Nat) (N : Nat) (V : VT) (U : UT) (K : Nat → VT → UT → Prop) : Prop := vz θ N V U ∧ isO (θn θ N) a0 5 ∧ ∀ V_2 : VT, V_2 = up2 V a0 0 (0 : Int32) → tL θ N = (0, 3, 3) ∧ wp_K_init θ (tb θ + N) (N + 1) V_2 U (fun N_4 V_5 U_6 => vz θ N_4 V_5 U_6 ∧ isO (θn θ N_4) a0 5 ∧ (tb θ + N) ≠ 0 ∧ ∀ U_9 : UT, U_9 = up2 U_6 a0 5 (tb θ + N) → K N_4 V_5 U_9)
set_option maxRecDepth 100000 in
set_option maxHeartbeats 4000000 in
theorem c_E_init (l : Launch) (θ : TH) (a0 : Nat) (N : Nat) (V : VT) (U : UT) (K : Nat → VT → UT → Prop) (hw : wp_E_init θ a0 N V U K) : CMc l yE_init kE_init 1 rcE_init θ [.ref a0] N V U K 2 67 := by
  refine n_met nRE (by decide +kernel) rfl rfl (Nat.le_of_ble_eq_true rfl) (fun p e s m args below meth c ls hC hov hin hr hlk hwo hsz hl => ?_)
  have hx := hC.1
  have hb := hC.2.1
  have hS : Sx θ s s.heap [] := va_S.rf
  have hl : lv_has ls 1 [(0, .ref a0)] := hl
  unfold wp_E_init at hw
  obtain ⟨hv, hw⟩ := hw
  refine lv_aload_n hx hb dE_init_0 rfl (lv_at hl 0 rfl) ?_
  refine n_obj hC lkE_3 ka_obj hl.1 (by decide) (by decide) dE_init_1 ?_
  refine lv_aload_n hx hb dE_init_4 rfl (lv_at hl 0 rfl) ?_
  refine lv_iconst (v := 0) hx hb dE_init_5 (by decide) ?_
  obtain ⟨ho_1, hw⟩ := hw
  refine n_putI hC hin flE_9 rfl hwo hsz hS hv ho_1 dE_init_6 (fun V_2 eV_2 hv H locs hwo hsz hS => ?_)
  replace hw := hw V_2 eV_2
  refine lv_aload_n hx hb dE_init_9 rfl (lv_at hl 0 rfl) ?_
  obtain ⟨hL_3, hw⟩ := hw
  refine n_new hC ci_3 nYK npK ndK clE_15 inK izK hwo hsz hS hv hL_3 (by decide) (by decide) dE_init_10 (fun H hwo hsz hS => ?_)
  replace hv := vz.mono hv (Nat.le_succ _)
  refine lv_dup hx hb dE_init_13 rfl ?_
  refine n_ctor (rest := [.ref (tb θ + N), .ref a0]) hC hov (c_K_init l θ _ _ _ _ _ hw) mi_K_init mlE_17 rfl mj_K_init hwo hsz hS ⟨rfl, rfl⟩ ⟨by decide, by decide⟩ rfl hl.1 rfl (Nat.le_of_ble_eq_true rfl) ⟨by decide, by decide⟩ dE_init_14 (fun N_4 V_5 U_6 hw H locs hwo hsz hS => ?_)
  obtain ⟨hv, hw⟩ := hw
  obtain ⟨ho_7, hw⟩ := hw
  obtain ⟨hz_8, hw⟩ := hw
  refine n_putR hC hin flE_18 (fun _ => ⟨rfl, rfl⟩) rfl hwo hsz hS hv ho_7 hz_8 dE_init_17 (fun U_9 eU_9 hv H locs hwo hsz hS => ?_)
  replace hw := hw U_9 eU_9
  exact n_ret hC hr hlk hw hwo hsz hS dE_init_20
theorem dH_init_0 : decode kH_init 0 = .ok (.aload_n 0, 1) := by decide +kernel
theorem dH_init_1 : decode kH_init 1 = .ok (.invokespecial 3, 3) := by decide +kernel
theorem dH_init_4 : decode kH_init 4 = .ok (.aload_n 0, 1) := by decide +kernel
theorem dH_init_5 : decode kH_init 5 = .ok (.sipush 1000, 3) := by decide +kernel
theorem dH_init_8 : decode kH_init 8 = .ok (.newarray .int, 2) := by decide +kernel
theorem dH_init_10 : decode kH_init 10 = .ok (.putfield 9, 3) := by decide +kernel
theorem dH_init_13 : decode kH_init 13 = .ok (.return_, 1) := by decide +kernel
abbrev rcH_init : Room := { frames := 1, cells := 1, slots := 1000, locals := 20 }
def wp_H_init (θ : TH) (a0 : Nat) (N : Nat) (V : VT) (U : UT) (K : Nat → VT → UT → Prop) : Prop := vz θ N V U ∧ tL θ N = (1, 0, 1000) ∧ isO (θn θ (N + 1)) a0 7 ∧ (tb θ + N) ≠ 0 ∧ ∀ U_4 : UT, U_4 = up2 U a0 0 (tb θ + N) → K (N + 1) V U_4
set_option maxRecDepth 100000 in
set_option maxHeartbeats 4000000 in
theorem c_H_init (l : Launch) (θ : TH) (a0 : Nat) (N : Nat) (V : VT) (U : UT) (K : Nat → VT → UT → Prop) (hw : wp_H_init θ a0 N V U K) : CMc l yH_init kH_init 1 rcH_init θ [.ref a0] N V U K 1 1000 := by
  refine n_met nRH (by decide +kernel) rfl rfl (Nat.le_of_ble_eq_true rfl) (fun p e s m args below meth c ls hC hov hin hr hlk hwo hsz hl => ?_)
  have hx := hC.1
  have hb := hC.2.1
  have hS : Sx θ s s.heap [] := va_S.rf
  have hl : lv_has ls 1 [(0, .ref a0)] := hl
  unfold wp_H_init at hw
  obtain ⟨hv, hw⟩ := hw
  refine lv_aload_n hx hb dH_init_0 rfl (lv_at hl 0 rfl) ?_
  refine n_obj hC lkH_3 ka_obj hl.1 (by decide) (by decide) dH_init_1 ?_
  refine lv_aload_n hx hb dH_init_4 rfl (lv_at hl 0 rfl) ?_
  refine lv_sipush (v := 1000) hx hb dH_init_5 (by decide) ?_
  obtain ⟨hL_1, hw⟩ := hw
  refine n_newI hC ka_ai hwo hsz hS hv hL_1 (by decide) (by decide) (by decide) (by decide) (by decide) dH_init_8 (fun H hwo hsz hS => ?_)
  replace hv := vz.mono hv (Nat.le_succ _)
  obtain ⟨ho_2, hw⟩ := hw
  obtain ⟨hz_3, hw⟩ := hw
  refine n_putR hC hin flH_9 (fun _ => ⟨rfl, rfl⟩) rfl hwo hsz hS hv ho_2 hz_3 dH_init_10 (fun U_4 eU_4 hv H locs hwo hsz hS => ?_)
  replace hw := hw U_4 eU_4
  exact n_ret hC hr hlk hw hwo hsz hS dH_init_13
theorem dI_init_0 : decode kI_init 0 = .ok (.aload_n 0, 1) := by decide +kernel
theorem dI_init_1 : decode kI_init 1 = .ok (.invokespecial 1, 3) := by decide +kernel
theorem dI_init_4 : decode kI_init 4 = .ok (.aload_n 0, 1) := by decide +kernel
theorem dI_init_5 : decode kI_init 5 = .ok (.new 7, 3) := by decide +kernel
theorem dI_init_8 : decode kI_init 8 = .ok (.dup, 1) := by decide +kernel
theorem dI_init_9 : decode kI_init 9 = .ok (.invokespecial 9, 3) := by decide +kernel
theorem dI_init_12 : decode kI_init 12 = .ok (.putfield 10, 3) := by decide +kernel
theorem dI_init_15 : decode kI_init 15 = .ok (.return_, 1) := by decide +kernel
abbrev rcI_init : Room := { frames := 2, cells := 2, slots := 67, locals := 40 }
def wp_I_init (θ : TH) (a0 : Nat) (N : Nat) (V : VT) (U : UT) (K : Nat → VT → UT → Prop) : Prop := vz θ N V U ∧ tL θ N = (0, 3, 3) ∧ wp_K_init θ (tb θ + N) (N + 1) V U (fun N_2 V_3 U_4 => vz θ N_2 V_3 U_4 ∧ isO (θn θ N_2) a0 4 ∧ (tb θ + N) ≠ 0 ∧ ∀ U_7 : UT, U_7 = up2 U_4 a0 4 (tb θ + N) → K N_2 V_3 U_7)
set_option maxRecDepth 100000 in
set_option maxHeartbeats 4000000 in
theorem c_I_init (l : Launch) (θ : TH) (a0 : Nat) (N : Nat) (V : VT) (U : UT) (K : Nat → VT → UT → Prop) (hw : wp_I_init θ a0 N V U K) : CMc l yI_init kI_init 1 rcI_init θ [.ref a0] N V U K 2 67 := by
  refine n_met nRI (by decide +kernel) rfl rfl (Nat.le_of_ble_eq_true rfl) (fun p e s m args below meth c ls hC hov hin hr hlk hwo hsz hl => ?_)
  have hx := hC.1
  have hb := hC.2.1
  have hS : Sx θ s s.heap [] := va_S.rf
  have hl : lv_has ls 1 [(0, .ref a0)] := hl
  unfold wp_I_init at hw
  obtain ⟨hv, hw⟩ := hw
  refine lv_aload_n hx hb dI_init_0 rfl (lv_at hl 0 rfl) ?_
  refine n_obj hC lkI_1 ka_obj hl.1 (by decide) (by decide) dI_init_1 ?_
  refine lv_aload_n hx hb dI_init_4 rfl (lv_at hl 0 rfl) ?_
  obtain ⟨hL_1, hw⟩ := hw
  refine n_new hC ci_3 nYK npK ndK clI_7 inK izK hwo hsz hS hv hL_1 (by decide) (by decide) dI_init_5 (fun H hwo hsz hS => ?_)
  replace hv := vz.mono hv (Nat.le_succ _)
  refine lv_dup hx hb dI_init_8 rfl ?_
  refine n_ctor (rest := [.ref (tb θ + N), .ref a0]) hC hov (c_K_init l θ _ _ _ _ _ hw) mi_K_init mlI_9 rfl mj_K_init hwo hsz hS ⟨rfl, rfl⟩ ⟨by decide, by decide⟩ rfl hl.1 rfl (Nat.le_of_ble_eq_true rfl) ⟨by decide, by decide⟩ dI_init_9 (fun N_2 V_3 U_4 hw H locs hwo hsz hS => ?_)
  obtain ⟨hv, hw⟩ := hw
  obtain ⟨ho_5, hw⟩ := hw
  obtain ⟨hz_6, hw⟩ := hw
  refine n_putR hC hin flI_10 (fun _ => ⟨rfl, rfl⟩) rfl hwo hsz hS hv ho_5 hz_6 dI_init_12 (fun U_7 eU_7 hv H locs hwo hsz hS => ?_)
  replace hw := hw U_7 eU_7
  exact n_ret hC hr hlk hw hwo hsz hS dI_init_15
theorem dO_init_0 : decode kO_init 0 = .ok (.aload_n 0, 1) := by decide +kernel
theorem dO_init_1 : decode kO_init 1 = .ok (.invokespecial 3, 3) := by decide +kernel
theorem dO_init_4 : decode kO_init 4 = .ok (.aload_n 0, 1) := by decide +kernel
theorem dO_init_5 : decode kO_init 5 = .ok (.bipush 10, 2) := by decide +kernel
theorem dO_init_7 : decode kO_init 7 = .ok (.newarray .int, 2) := by decide +kernel
theorem dO_init_9 : decode kO_init 9 = .ok (.putfield 11, 3) := by decide +kernel
theorem dO_init_12 : decode kO_init 12 = .ok (.aload_n 0, 1) := by decide +kernel
theorem dO_init_13 : decode kO_init 13 = .ok (.sipush 150, 3) := by decide +kernel
theorem dO_init_16 : decode kO_init 16 = .ok (.newarray .int, 2) := by decide +kernel
theorem dO_init_18 : decode kO_init 18 = .ok (.putfield 15, 3) := by decide +kernel
theorem dO_init_21 : decode kO_init 21 = .ok (.aload_n 0, 1) := by decide +kernel
theorem dO_init_22 : decode kO_init 22 = .ok (.bipush 10, 2) := by decide +kernel
theorem dO_init_24 : decode kO_init 24 = .ok (.newarray .int, 2) := by decide +kernel
theorem dO_init_26 : decode kO_init 26 = .ok (.putfield 18, 3) := by decide +kernel
theorem dO_init_29 : decode kO_init 29 = .ok (.aload_n 0, 1) := by decide +kernel
theorem dO_init_30 : decode kO_init 30 = .ok (.bipush 10, 2) := by decide +kernel
theorem dO_init_32 : decode kO_init 32 = .ok (.newarray .boolean, 2) := by decide +kernel
theorem dO_init_34 : decode kO_init 34 = .ok (.putfield 21, 3) := by decide +kernel
theorem dO_init_37 : decode kO_init 37 = .ok (.aload_n 0, 1) := by decide +kernel
theorem dO_init_38 : decode kO_init 38 = .ok (.iload_n 1, 1) := by decide +kernel
theorem dO_init_39 : decode kO_init 39 = .ok (.putfield 25, 3) := by decide +kernel
theorem dO_init_42 : decode kO_init 42 = .ok (.return_, 1) := by decide +kernel
abbrev rcO_init : Room := { frames := 1, cells := 4, slots := 180, locals := 20 }
def wp_O_init (θ : TH) (a0 : Nat) (x1 : Int32) (N : Nat) (V : VT) (U : UT) (K : Nat → VT → UT → Prop) : Prop := vz θ N V U ∧ tL θ N = (1, 0, 10) ∧ isO (θn θ (N + 1)) a0 2 ∧ (tb θ + N) ≠ 0 ∧ ∀ U_4 : UT, U_4 = up2 U a0 1 (tb θ + N) → tL θ (N + 1) = (1, 0, 150) ∧ isO (θn θ (N + 2)) a0 2 ∧ (tb θ + (N + 1)) ≠ 0 ∧ ∀ U_8 : UT, U_8 = up2 U_4 a0 2 (tb θ + (N + 1)) → tL θ (N + 2) = (1, 0, 10) ∧ isO (θn θ (N + 3)) a0 2 ∧ (tb θ + (N + 2)) ≠ 0 ∧ ∀ U_12 : UT, U_12 = up2 U_8 a0 3 (tb θ + (N + 2)) → tL θ (N + 3) = (1, 1, 10) ∧ isO (θn θ (N + 4)) a0 2 ∧ (tb θ + (N + 3)) ≠ 0 ∧ ∀ U_16 : UT, U_16 = up2 U_12 a0 4 (tb θ + (N + 3)) → ∀ V_17 : VT, V_17 = up2 V a0 0 x1 → K (N + 4) V_17 U_16
set_option maxRecDepth 100000 in
set_option maxHeartbeats 4000000 in
theorem c_O_init (l : Launch) (θ : TH) (a0 : Nat) (x1 : Int32) (N : Nat) (V : VT) (U : UT) (K : Nat → VT → UT → Prop) (hw : wp_O_init θ a0 x1 N V U K) : CMc l yO_init kO_init 2 rcO_init θ [.ref a0, .int x1] N V U K 4 180 := by
  refine n_met nRO (by decide +kernel) rfl rfl (Nat.le_of_ble_eq_true rfl) (fun p e s m args below meth c ls hC hov hin hr hlk hwo hsz hl => ?_)
  have hx := hC.1
  have hb := hC.2.1
  have hS : Sx θ s s.heap [] := va_S.rf
  have hl : lv_has ls 2 [(0, .ref a0), (1, .int x1)] := hl
  unfold wp_O_init at hw
  obtain ⟨hv, hw⟩ := hw
  refine lv_aload_n hx hb dO_init_0 rfl (lv_at hl 0 rfl) ?_
  refine n_obj hC lkO_3 ka_obj hl.1 (by decide) (by decide) dO_init_1 ?_
  refine lv_aload_n hx hb dO_init_4 rfl (lv_at hl 0 rfl) ?_
  refine lv_bipush (v := 10) hx hb dO_init_5 (by decide) ?_
  obtain ⟨hL_1, hw⟩ := hw
  refine n_newI hC ka_ai hwo hsz hS hv hL_1 (by decide) (by decide) (by decide) (by decide) (by decide) dO_init_7 (fun H hwo hsz hS => ?_)
  replace hv := vz.mono hv (Nat.le_succ _)
  obtain ⟨ho_2, hw⟩ := hw
  obtain ⟨hz_3, hw⟩ := hw
  refine n_putR hC hin flO_11 (fun _ => ⟨rfl, rfl⟩) rfl hwo hsz hS hv ho_2 hz_3 dO_init_9 (fun U_4 eU_4 hv H locs hwo hsz hS => ?_)
  replace hw := hw U_4 eU_4
  refine lv_aload_n hx hb dO_init_12 rfl (lv_at hl 0 rfl) ?_
  refine lv_sipush (v := 150) hx hb dO_init_13 (by decide) ?_
  obtain ⟨hL_5, hw⟩ := hw
  refine n_newI hC ka_ai hwo hsz hS hv hL_5 (by decide) (by decide) (by decide) (by decide) (by decide) dO_init_16 (fun H hwo hsz hS => ?_)
  replace hv := vz.mono hv (Nat.le_succ _)
  obtain ⟨ho_6, hw⟩ := hw
  obtain ⟨hz_7, hw⟩ := hw
  refine n_putR hC hin flO_15 (fun _ => ⟨rfl, rfl⟩) rfl hwo hsz hS hv ho_6 hz_7 dO_init_18 (fun U_8 eU_8 hv H locs hwo hsz hS => ?_)
  replace hw := hw U_8 eU_8
  refine lv_aload_n hx hb dO_init_21 rfl (lv_at hl 0 rfl) ?_
  refine lv_bipush (v := 10) hx hb dO_init_22 (by decide) ?_
  obtain ⟨hL_9, hw⟩ := hw
  refine n_newI hC ka_ai hwo hsz hS hv hL_9 (by decide) (by decide) (by decide) (by decide) (by decide) dO_init_24 (fun H hwo hsz hS => ?_)
  replace hv := vz.mono hv (Nat.le_succ _)
  obtain ⟨ho_10, hw⟩ := hw
  obtain ⟨hz_11, hw⟩ := hw
  refine n_putR hC hin flO_18 (fun _ => ⟨rfl, rfl⟩) rfl hwo hsz hS hv ho_10 hz_11 dO_init_26 (fun U_12 eU_12 hv H locs hwo hsz hS => ?_)
  replace hw := hw U_12 eU_12
  refine lv_aload_n hx hb dO_init_29 rfl (lv_at hl 0 rfl) ?_
  refine lv_bipush (v := 10) hx hb dO_init_30 (by decide) ?_
  obtain ⟨hL_13, hw⟩ := hw
  refine n_newZ hC ka_az hwo hsz hS hv hL_13 (by decide) (by decide) (by decide) (by decide) (by decide) dO_init_32 (fun H hwo hsz hS => ?_)
  replace hv := vz.mono hv (Nat.le_succ _)
  obtain ⟨ho_14, hw⟩ := hw
  obtain ⟨hz_15, hw⟩ := hw
  refine n_putR hC hin flO_21 (fun _ => ⟨rfl, rfl⟩) rfl hwo hsz hS hv ho_14 hz_15 dO_init_34 (fun U_16 eU_16 hv H locs hwo hsz hS => ?_)
  replace hw := hw U_16 eU_16
  refine lv_aload_n hx hb dO_init_37 rfl (lv_at hl 0 rfl) ?_
  refine lv_iload_n hx hb dO_init_38 rfl (lv_at hl 1 rfl) ?_
  refine n_putI hC hin flO_25 rfl hwo hsz hS hv ho_14 dO_init_39 (fun V_17 eV_17 hv H locs hwo hsz hS => ?_)
  replace hw := hw V_17 eV_17
  exact n_ret hC hr hlk hw hwo hsz hS dO_init_42
theorem dB_init_0 : decode kB_init 0 = .ok (.aload_n 0, 1) := by decide +kernel
theorem dB_init_1 : decode kB_init 1 = .ok (.invokespecial 3, 3) := by decide +kernel
theorem dB_init_4 : decode kB_init 4 = .ok (.aload_n 0, 1) := by decide +kernel
theorem dB_init_5 : decode kB_init 5 = .ok (.iconst 1, 1) := by decide +kernel
theorem dB_init_6 : decode kB_init 6 = .ok (.putfield 9, 3) := by decide +kernel
theorem dB_init_9 : decode kB_init 9 = .ok (.aload_n 0, 1) := by decide +kernel
theorem dB_init_10 : decode kB_init 10 = .ok (.bipush 8, 2) := by decide +kernel
theorem dB_init_12 : decode kB_init 12 = .ok (.newarray .int, 2) := by decide +kernel
theorem dB_init_14 : decode kB_init 14 = .ok (.putfield 15, 3) := by decide +kernel
theorem dB_init_17 : decode kB_init 17 = .ok (.aload_n 0, 1) := by decide +kernel
theorem dB_init_18 : decode kB_init 18 = .ok (.bipush 8, 2) := by decide +kernel
theorem dB_init_20 : decode kB_init 20 = .ok (.newarray .int, 2) := by decide +kernel
theorem dB_init_22 : decode kB_init 22 = .ok (.putfield 19, 3) := by decide +kernel
theorem dB_init_25 : decode kB_init 25 = .ok (.aload_n 0, 1) := by decide +kernel
theorem dB_init_26 : decode kB_init 26 = .ok (.bipush 32, 2) := by decide +kernel
theorem dB_init_28 : decode kB_init 28 = .ok (.newarray .int, 2) := by decide +kernel
theorem dB_init_30 : decode kB_init 30 = .ok (.putfield 22, 3) := by decide +kernel
theorem dB_init_33 : decode kB_init 33 = .ok (.aload_n 0, 1) := by decide +kernel
theorem dB_init_34 : decode kB_init 34 = .ok (.bipush 32, 2) := by decide +kernel
theorem dB_init_36 : decode kB_init 36 = .ok (.newarray .int, 2) := by decide +kernel
theorem dB_init_38 : decode kB_init 38 = .ok (.putfield 25, 3) := by decide +kernel
theorem dB_init_41 : decode kB_init 41 = .ok (.return_, 1) := by decide +kernel
abbrev rcB_init : Room := { frames := 1, cells := 4, slots := 80, locals := 20 }
def wp_B_init (θ : TH) (a0 : Nat) (N : Nat) (V : VT) (U : UT) (K : Nat → VT → UT → Prop) : Prop := vz θ N V U ∧ isO (θn θ N) a0 8 ∧ ∀ V_2 : VT, V_2 = up2 V a0 1 (1 : Int32) → tL θ N = (1, 0, 8) ∧ isO (θn θ (N + 1)) a0 8 ∧ (tb θ + N) ≠ 0 ∧ ∀ U_6 : UT, U_6 = up2 U a0 2 (tb θ + N) → tL θ (N + 1) = (1, 0, 8) ∧ isO (θn θ (N + 2)) a0 8 ∧ (tb θ + (N + 1)) ≠ 0 ∧ ∀ U_10 : UT, U_10 = up2 U_6 a0 3 (tb θ + (N + 1)) → tL θ (N + 2) = (1, 0, 32) ∧ isO (θn θ (N + 3)) a0 8 ∧ (tb θ + (N + 2)) ≠ 0 ∧ ∀ U_14 : UT, U_14 = up2 U_10 a0 6 (tb θ + (N + 2)) → tL θ (N + 3) = (1, 0, 32) ∧ isO (θn θ (N + 4)) a0 8 ∧ (tb θ + (N + 3)) ≠ 0 ∧ ∀ U_18 : UT, U_18 = up2 U_14 a0 7 (tb θ + (N + 3)) → K (N + 4) V_2 U_18
set_option maxRecDepth 100000 in
set_option maxHeartbeats 4000000 in
theorem c_B_init (l : Launch) (θ : TH) (a0 : Nat) (N : Nat) (V : VT) (U : UT) (K : Nat → VT → UT → Prop) (hw : wp_B_init θ a0 N V U K) : CMc l yB_init kB_init 1 rcB_init θ [.ref a0] N V U K 4 80 := by
  refine n_met nRB (by decide +kernel) rfl rfl (Nat.le_of_ble_eq_true rfl) (fun p e s m args below meth c ls hC hov hin hr hlk hwo hsz hl => ?_)
  have hx := hC.1
  have hb := hC.2.1
  have hS : Sx θ s s.heap [] := va_S.rf
  have hl : lv_has ls 1 [(0, .ref a0)] := hl
  unfold wp_B_init at hw
  obtain ⟨hv, hw⟩ := hw
  refine lv_aload_n hx hb dB_init_0 rfl (lv_at hl 0 rfl) ?_
  refine n_obj hC lkB_3 ka_obj hl.1 (by decide) (by decide) dB_init_1 ?_
  refine lv_aload_n hx hb dB_init_4 rfl (lv_at hl 0 rfl) ?_
  refine lv_iconst (v := 1) hx hb dB_init_5 (by decide) ?_
  obtain ⟨ho_1, hw⟩ := hw
  refine n_putI hC hin flB_9 rfl hwo hsz hS hv ho_1 dB_init_6 (fun V_2 eV_2 hv H locs hwo hsz hS => ?_)
  replace hw := hw V_2 eV_2
  refine lv_aload_n hx hb dB_init_9 rfl (lv_at hl 0 rfl) ?_
  refine lv_bipush (v := 8) hx hb dB_init_10 (by decide) ?_
  obtain ⟨hL_3, hw⟩ := hw
  refine n_newI hC ka_ai hwo hsz hS hv hL_3 (by decide) (by decide) (by decide) (by decide) (by decide) dB_init_12 (fun H hwo hsz hS => ?_)
  replace hv := vz.mono hv (Nat.le_succ _)
  obtain ⟨ho_4, hw⟩ := hw
  obtain ⟨hz_5, hw⟩ := hw
  refine n_putR hC hin flB_15 (fun _ => ⟨rfl, rfl⟩) rfl hwo hsz hS hv ho_4 hz_5 dB_init_14 (fun U_6 eU_6 hv H locs hwo hsz hS => ?_)
  replace hw := hw U_6 eU_6
  refine lv_aload_n hx hb dB_init_17 rfl (lv_at hl 0 rfl) ?_
  refine lv_bipush (v := 8) hx hb dB_init_18 (by decide) ?_
  obtain ⟨hL_7, hw⟩ := hw
  refine n_newI hC ka_ai hwo hsz hS hv hL_7 (by decide) (by decide) (by decide) (by decide) (by decide) dB_init_20 (fun H hwo hsz hS => ?_)
  replace hv := vz.mono hv (Nat.le_succ _)
  obtain ⟨ho_8, hw⟩ := hw
  obtain ⟨hz_9, hw⟩ := hw
  refine n_putR hC hin flB_19 (fun _ => ⟨rfl, rfl⟩) rfl hwo hsz hS hv ho_8 hz_9 dB_init_22 (fun U_10 eU_10 hv H locs hwo hsz hS => ?_)
  replace hw := hw U_10 eU_10
  refine lv_aload_n hx hb dB_init_25 rfl (lv_at hl 0 rfl) ?_
  refine lv_bipush (v := 32) hx hb dB_init_26 (by decide) ?_
  obtain ⟨hL_11, hw⟩ := hw
  refine n_newI hC ka_ai hwo hsz hS hv hL_11 (by decide) (by decide) (by decide) (by decide) (by decide) dB_init_28 (fun H hwo hsz hS => ?_)
  replace hv := vz.mono hv (Nat.le_succ _)
  obtain ⟨ho_12, hw⟩ := hw
  obtain ⟨hz_13, hw⟩ := hw
  refine n_putR hC hin flB_22 (fun _ => ⟨rfl, rfl⟩) rfl hwo hsz hS hv ho_12 hz_13 dB_init_30 (fun U_14 eU_14 hv H locs hwo hsz hS => ?_)
  replace hw := hw U_14 eU_14
  refine lv_aload_n hx hb dB_init_33 rfl (lv_at hl 0 rfl) ?_
  refine lv_bipush (v := 32) hx hb dB_init_34 (by decide) ?_
  obtain ⟨hL_15, hw⟩ := hw
  refine n_newI hC ka_ai hwo hsz hS hv hL_15 (by decide) (by decide) (by decide) (by decide) (by decide) dB_init_36 (fun H hwo hsz hS => ?_)
  replace hv := vz.mono hv (Nat.le_succ _)
  obtain ⟨ho_16, hw⟩ := hw
  obtain ⟨hz_17, hw⟩ := hw
  refine n_putR hC hin flB_25 (fun _ => ⟨rfl, rfl⟩) rfl hwo hsz hS hv ho_16 hz_17 dB_init_38 (fun U_18 eU_18 hv H locs hwo hsz hS => ?_)
  replace hw := hw U_18 eU_18
  exact n_ret hC hr hlk hw hwo hsz hS dB_init_41
theorem dR_init_0 : decode kR_init 0 = .ok (.aload_n 0, 1) := by decide +kernel
theorem dR_init_1 : decode kR_init 1 = .ok (.invokespecial 3, 3) := by decide +kernel
theorem dR_init_4 : decode kR_init 4 = .ok (.aload_n 0, 1) := by decide +kernel
theorem dR_init_5 : decode kR_init 5 = .ok (.iconst 3, 1) := by decide +kernel
theorem dR_init_6 : decode kR_init 6 = .ok (.anewarray 11, 3) := by decide +kernel
theorem dR_init_9 : decode kR_init 9 = .ok (.putfield 13, 3) := by decide +kernel
theorem dR_init_12 : decode kR_init 12 = .ok (.aload_n 0, 1) := by decide +kernel
theorem dR_init_13 : decode kR_init 13 = .ok (.bipush 8, 2) := by decide +kernel
theorem dR_init_15 : decode kR_init 15 = .ok (.anewarray 17, 3) := by decide +kernel
theorem dR_init_18 : decode kR_init 18 = .ok (.putfield 19, 3) := by decide +kernel
theorem dR_init_21 : decode kR_init 21 = .ok (.aload_n 0, 1) := by decide +kernel
theorem dR_init_22 : decode kR_init 22 = .ok (.new 17, 3) := by decide +kernel
theorem dR_init_25 : decode kR_init 25 = .ok (.dup, 1) := by decide +kernel
theorem dR_init_26 : decode kR_init 26 = .ok (.invokespecial 23, 3) := by decide +kernel
theorem dR_init_29 : decode kR_init 29 = .ok (.putfield 24, 3) := by decide +kernel
theorem dR_init_32 : decode kR_init 32 = .ok (.aload_n 0, 1) := by decide +kernel
theorem dR_init_33 : decode kR_init 33 = .ok (.aload_n 1, 1) := by decide +kernel
theorem dR_init_34 : decode kR_init 34 = .ok (.putfield 28, 3) := by decide +kernel
theorem dR_init_37 : decode kR_init 37 = .ok (.aload_n 0, 1) := by decide +kernel
theorem dR_init_38 : decode kR_init 38 = .ok (.aload_n 2, 1) := by decide +kernel
theorem dR_init_39 : decode kR_init 39 = .ok (.putfield 32, 3) := by decide +kernel
theorem dR_init_42 : decode kR_init 42 = .ok (.iconst 0, 1) := by decide +kernel
theorem dR_init_43 : decode kR_init 43 = .ok (.istore_n 3, 1) := by decide +kernel
theorem dR_init_44 : decode kR_init 44 = .ok (.iload_n 3, 1) := by decide +kernel
theorem dR_init_45 : decode kR_init 45 = .ok (.iconst 3, 1) := by decide +kernel
theorem dR_init_46 : decode kR_init 46 = .ok (.if_icmp .ge 22, 3) := by decide +kernel
theorem dR_init_49 : decode kR_init 49 = .ok (.aload_n 0, 1) := by decide +kernel
theorem dR_init_50 : decode kR_init 50 = .ok (.getfield 13, 3) := by decide +kernel
theorem dR_init_53 : decode kR_init 53 = .ok (.iload_n 3, 1) := by decide +kernel
theorem dR_init_54 : decode kR_init 54 = .ok (.new 11, 3) := by decide +kernel
theorem dR_init_57 : decode kR_init 57 = .ok (.dup, 1) := by decide +kernel
theorem dR_init_58 : decode kR_init 58 = .ok (.invokespecial 36, 3) := by decide +kernel
theorem dR_init_61 : decode kR_init 61 = .ok (.aastore, 1) := by decide +kernel
theorem dR_init_62 : decode kR_init 62 = .ok (.iinc 3 1, 3) := by decide +kernel
theorem dR_init_65 : decode kR_init 65 = .ok (.goto (-21), 3) := by decide +kernel
theorem dR_init_68 : decode kR_init 68 = .ok (.iconst 0, 1) := by decide +kernel
theorem dR_init_69 : decode kR_init 69 = .ok (.istore_n 3, 1) := by decide +kernel
theorem dR_init_70 : decode kR_init 70 = .ok (.iload_n 3, 1) := by decide +kernel
theorem dR_init_71 : decode kR_init 71 = .ok (.bipush 8, 2) := by decide +kernel
theorem dR_init_73 : decode kR_init 73 = .ok (.if_icmp .ge 22, 3) := by decide +kernel
theorem dR_init_76 : decode kR_init 76 = .ok (.aload_n 0, 1) := by decide +kernel
theorem dR_init_77 : decode kR_init 77 = .ok (.getfield 19, 3) := by decide +kernel
theorem dR_init_80 : decode kR_init 80 = .ok (.iload_n 3, 1) := by decide +kernel
theorem dR_init_81 : decode kR_init 81 = .ok (.new 17, 3) := by decide +kernel
theorem dR_init_84 : decode kR_init 84 = .ok (.dup, 1) := by decide +kernel
theorem dR_init_85 : decode kR_init 85 = .ok (.invokespecial 23, 3) := by decide +kernel
theorem dR_init_88 : decode kR_init 88 = .ok (.aastore, 1) := by decide +kernel
theorem dR_init_89 : decode kR_init 89 = .ok (.iinc 3 1, 3) := by decide +kernel
theorem dR_init_92 : decode kR_init 92 = .ok (.goto (-22), 3) := by decide +kernel
theorem dR_init_95 : decode kR_init 95 = .ok (.return_, 1) := by decide +kernel
abbrev rcR_init : Room := { frames := 3, cells := 38, slots := 884, locals := 60 }
def wp_R_init (θ : TH) (a0 : Nat) (a1 : Nat) (a2 : Nat) (N : Nat) (V : VT) (U : UT) (K : Nat → VT → UT → Prop) : Prop := vz θ N V U ∧ tL θ N = (2, 3, 3) ∧ isO (θn θ (N + 1)) a0 6 ∧ (tb θ + N) ≠ 0 ∧ ∀ U_4 : UT, U_4 = up2 U a0 2 (tb θ + N) → tL θ (N + 1) = (2, 4, 8) ∧ isO (θn θ (N + 2)) a0 6 ∧ (tb θ + (N + 1)) ≠ 0 ∧ ∀ U_8 : UT, U_8 = up2 U_4 a0 3 (tb θ + (N + 1)) → tL θ (N + 2) = (0, 5, 6) ∧ wp_E_init θ (tb θ + (N + 2)) (N + 3) V U_8 (fun N_10 V_11 U_12 => vz θ N_10 V_11 U_12 ∧ isO (θn θ N_10) a0 6 ∧ (tb θ + (N + 2)) ≠ 0 ∧ ∀ U_15 : UT, U_15 = up2 U_12 a0 6 (tb θ + (N + 2)) → a1 ≠ 0 ∧ ∀ U_17 : UT, U_17 = up2 U_15 a0 0 a1 → a2 ≠ 0 ∧ ∀ U_19 : UT, U_19 = up2 U_17 a0 1 a2 → (U_19 a0 2) ≠ 0 ∧ tL θ N_10 = (0, 4, 5) ∧ wp_I_init θ (tb θ + N_10) (N_10 + 1) V_11 U_19 (fun N_22 V_23 U_24 => vz θ N_22 V_23 U_24 ∧ ∃ n_25, isR (θn θ N_22) (U_19 a0 2) 3 n_25 ∧ isO (θn θ N_22) (tb θ + N_10) 4 ∧ (tb θ + N_10) ≠ 0 ∧ vp_in (0 : Int32) n_25 ∧ ∀ U_30 : UT, U_30 = up2 U_24 (U_19 a0 2) (0 : Int32).toNatClampNeg (tb θ + N_10) → isO (θn θ N_22) a0 6 ∧ (U_30 a0 2) ≠ 0 ∧ tL θ N_22 = (0, 4, 5) ∧ wp_I_init θ (tb θ + N_22) (N_22 + 1) V_23 U_30 (fun N_34 V_35 U_36 => vz θ N_34 V_35 U_36 ∧ ∃ n_37, isR (θn θ N_34) (U_30 a0 2) 3 n_37 ∧ isO (θn θ N_34) (tb θ + N_22) 4 ∧ (tb θ + N_22) ≠ 0 ∧ vp_in (1 : Int32) n_37 ∧ ∀ U_42 : UT, U_42 = up2 U_36 (U_30 a0 2) (1 : Int32).toNatClampNeg (tb θ + N_22) → isO (θn θ N_34) a0 6 ∧ (U_42 a0 2) ≠ 0 ∧ tL θ N_34 = (0, 4, 5) ∧ wp_I_init θ (tb θ + N_34) (N_34 + 1) V_35 U_42 (fun N_46 V_47 U_48 => vz θ N_46 V_47 U_48 ∧ ∃ n_49, isR (θn θ N_46) (U_42 a0 2) 3 n_49 ∧ isO (θn θ N_46) (tb θ + N_34) 4 ∧ (tb θ + N_34) ≠ 0 ∧ vp_in (2 : Int32) n_49 ∧ ∀ U_54 : UT, U_54 = up2 U_48 (U_42 a0 2) (2 : Int32).toNatClampNeg (tb θ + N_34) → isO (θn θ N_46) a0 6 ∧ (U_54 a0 3) ≠ 0 ∧ tL θ N_46 = (0, 5, 6) ∧ wp_E_init θ (tb θ + N_46) (N_46 + 1) V_47 U_54 (fun N_58 V_59 U_60 => vz θ N_58 V_59 U_60 ∧ ∃ n_61, isR (θn θ N_58) (U_54 a0 3) 4 n_61 ∧ isO (θn θ N_58) (tb θ + N_46) 5 ∧ (tb θ + N_46) ≠ 0 ∧ vp_in (0 : Int32) n_61 ∧ ∀ U_66 : UT, U_66 = up2 U_60 (U_54 a0 3) (0 : Int32).toNatClampNeg (tb θ + N_46) → isO (θn θ N_58) a0 6 ∧ (U_66 a0 3) ≠ 0 ∧ tL θ N_58 = (0, 5, 6) ∧ wp_E_init θ (tb θ + N_58) (N_58 + 1) V_59 U_66 (fun N_70 V_71 U_72 => vz θ N_70 V_71 U_72 ∧ ∃ n_73, isR (θn θ N_70) (U_66 a0 3) 4 n_73 ∧ isO (θn θ N_70) (tb θ + N_58) 5 ∧ (tb θ + N_58) ≠ 0 ∧ vp_in (1 : Int32) n_73 ∧ ∀ U_78 : UT, U_78 = up2 U_72 (U_66 a0 3) (1 : Int32).toNatClampNeg (tb θ + N_58) → isO (θn θ N_70) a0 6 ∧ (U_78 a0 3) ≠ 0 ∧ tL θ N_70 = (0, 5, 6) ∧ wp_E_init θ (tb θ + N_70) (N_70 + 1) V_71 U_78 (fun N_82 V_83 U_84 => vz θ N_82 V_83 U_84 ∧ ∃ n_85, isR (θn θ N_82) (U_78 a0 3) 4 n_85 ∧ isO (θn θ N_82) (tb θ + N_70) 5 ∧ (tb θ + N_70) ≠ 0 ∧ vp_in (2 : Int32) n_85 ∧ ∀ U_90 : UT, U_90 = up2 U_84 (U_78 a0 3) (2 : Int32).toNatClampNeg (tb θ + N_70) → isO (θn θ N_82) a0 6 ∧ (U_90 a0 3) ≠ 0 ∧ tL θ N_82 = (0, 5, 6) ∧ wp_E_init θ (tb θ + N_82) (N_82 + 1) V_83 U_90 (fun N_94 V_95 U_96 => vz θ N_94 V_95 U_96 ∧ ∃ n_97, isR (θn θ N_94) (U_90 a0 3) 4 n_97 ∧ isO (θn θ N_94) (tb θ + N_82) 5 ∧ (tb θ + N_82) ≠ 0 ∧ vp_in (3 : Int32) n_97 ∧ ∀ U_102 : UT, U_102 = up2 U_96 (U_90 a0 3) (3 : Int32).toNatClampNeg (tb θ + N_82) → isO (θn θ N_94) a0 6 ∧ (U_102 a0 3) ≠ 0 ∧ tL θ N_94 = (0, 5, 6) ∧ wp_E_init θ (tb θ + N_94) (N_94 + 1) V_95 U_102 (fun N_106 V_107 U_108 => vz θ N_106 V_107 U_108 ∧ ∃ n_109, isR (θn θ N_106) (U_102 a0 3) 4 n_109 ∧ isO (θn θ N_106) (tb θ + N_94) 5 ∧ (tb θ + N_94) ≠ 0 ∧ vp_in (4 : Int32) n_109 ∧ ∀ U_114 : UT, U_114 = up2 U_108 (U_102 a0 3) (4 : Int32).toNatClampNeg (tb θ + N_94) → isO (θn θ N_106) a0 6 ∧ (U_114 a0 3) ≠ 0 ∧ tL θ N_106 = (0, 5, 6) ∧ wp_E_init θ (tb θ + N_106) (N_106 + 1) V_107 U_114 (fun N_118 V_119 U_120 => vz θ N_118 V_119 U_120 ∧ ∃ n_121, isR (θn θ N_118) (U_114 a0 3) 4 n_121 ∧ isO (θn θ N_118) (tb θ + N_106) 5 ∧ (tb θ + N_106) ≠ 0 ∧ vp_in (5 : Int32) n_121 ∧ ∀ U_126 : UT, U_126 = up2 U_120 (U_114 a0 3) (5 : Int32).toNatClampNeg (tb θ + N_106) → isO (θn θ N_118) a0 6 ∧ (U_126 a0 3) ≠ 0 ∧ tL θ N_118 = (0, 5, 6) ∧ wp_E_init θ (tb θ + N_118) (N_118 + 1) V_119 U_126 (fun N_130 V_131 U_132 => vz θ N_130 V_131 U_132 ∧ ∃ n_133, isR (θn θ N_130) (U_126 a0 3) 4 n_133 ∧ isO (θn θ N_130) (tb θ + N_118) 5 ∧ (tb θ + N_118) ≠ 0 ∧ vp_in (6 : Int32) n_133 ∧ ∀ U_138 : UT, U_138 = up2 U_132 (U_126 a0 3) (6 : Int32).toNatClampNeg (tb θ + N_118) → isO (θn θ N_130) a0 6 ∧ (U_138 a0 3) ≠ 0 ∧ tL θ N_130 = (0, 5, 6) ∧ wp_E_init θ (tb θ + N_130) (N_130 + 1) V_131 U_138 (fun N_142 V_143 U_144 => vz θ N_142 V_143 U_144 ∧ ∃ n_145, isR (θn θ N_142) (U_138 a0 3) 4 n_145 ∧ isO (θn θ N_142) (tb θ + N_130) 5 ∧ (tb θ + N_130) ≠ 0 ∧ vp_in (7 : Int32) n_145 ∧ ∀ U_150 : UT, U_150 = up2 U_144 (U_138 a0 3) (7 : Int32).toNatClampNeg (tb θ + N_130) → K N_142 V_143 U_150))))))))))))
set_option maxRecDepth 100000 in
set_option maxHeartbeats 4000000 in
theorem c_R_init (l : Launch) (θ : TH) (a0 : Nat) (a1 : Nat) (a2 : Nat) (N : Nat) (V : VT) (U : UT) (K : Nat → VT → UT → Prop) (hw : wp_R_init θ a0 a1 a2 N V U K) : CMc l yR_init kR_init 4 rcR_init θ [.ref a0, .ref a1, .ref a2] N V U K 38 884 := by
  refine n_met nRR (by decide +kernel) rfl rfl (Nat.le_of_ble_eq_true rfl) (fun p e s m args below meth c ls hC hov hin hr hlk hwo hsz hl => ?_)
  have hx := hC.1
  have hb := hC.2.1
  have hS : Sx θ s s.heap [] := va_S.rf
  have hl : lv_has ls 4 [(0, .ref a0), (1, .ref a1), (2, .ref a2)] := hl
  unfold wp_R_init at hw
  obtain ⟨hv, hw⟩ := hw
  refine lv_aload_n hx hb dR_init_0 rfl (lv_at hl 0 rfl) ?_
  refine n_obj hC lkR_3 ka_obj hl.1 (by decide) (by decide) dR_init_1 ?_
  refine lv_aload_n hx hb dR_init_4 rfl (lv_at hl 0 rfl) ?_
  refine lv_iconst (v := 3) hx hb dR_init_5 (by decide) ?_
  obtain ⟨hL_1, hw⟩ := hw
  refine n_newQ (t := 3) hC (by decide) rfl clR_11 hov.2.1 hwo hsz hS hv hL_1 (by decide) (by decide) (by decide) (by decide) (by decide) dR_init_6 (fun H hwo hsz hS => ?_)
  replace hv := vz.mono hv (Nat.le_succ _)
  obtain ⟨ho_2, hw⟩ := hw
  obtain ⟨hz_3, hw⟩ := hw
  refine n_putR hC hin flR_13 (fun _ => ⟨rfl, rfl⟩) rfl hwo hsz hS hv ho_2 hz_3 dR_init_9 (fun U_4 eU_4 hv H locs hwo hsz hS => ?_)
  replace hw := hw U_4 eU_4
  refine lv_aload_n hx hb dR_init_12 rfl (lv_at hl 0 rfl) ?_
  refine lv_bipush (v := 8) hx hb dR_init_13 (by decide) ?_
  obtain ⟨hL_5, hw⟩ := hw
  refine n_newQ (t := 4) hC (by decide) rfl clR_17 hov.2.2.1 hwo hsz hS hv hL_5 (by decide) (by decide) (by decide) (by decide) (by decide) dR_init_15 (fun H hwo hsz hS => ?_)
  replace hv := vz.mono hv (Nat.le_succ _)
  obtain ⟨ho_6, hw⟩ := hw
  obtain ⟨hz_7, hw⟩ := hw
  refine n_putR hC hin flR_19 (fun _ => ⟨rfl, rfl⟩) rfl hwo hsz hS hv ho_6 hz_7 dR_init_18 (fun U_8 eU_8 hv H locs hwo hsz hS => ?_)
  replace hw := hw U_8 eU_8
  refine lv_aload_n hx hb dR_init_21 rfl (lv_at hl 0 rfl) ?_
  obtain ⟨hL_9, hw⟩ := hw
  refine n_new hC ci_5 nYE npE ndE clR_17 inE izE hwo hsz hS hv hL_9 (by decide) (by decide) dR_init_22 (fun H hwo hsz hS => ?_)
  replace hv := vz.mono hv (Nat.le_succ _)
  refine lv_dup hx hb dR_init_25 rfl ?_
  refine n_ctor (rest := [.ref (tb θ + (N + 2)), .ref a0]) hC hov (c_E_init l θ _ _ _ _ _ hw) mi_E_init mlR_23 rfl mj_E_init hwo hsz hS ⟨rfl, rfl⟩ ⟨by decide, by decide⟩ rfl hl.1 rfl (Nat.le_of_ble_eq_true rfl) ⟨by decide, by decide⟩ dR_init_26 (fun N_10 V_11 U_12 hw H locs hwo hsz hS => ?_)
  obtain ⟨hv, hw⟩ := hw
  obtain ⟨ho_13, hw⟩ := hw
  obtain ⟨hz_14, hw⟩ := hw
  refine n_putR hC hin flR_24 (fun _ => ⟨rfl, rfl⟩) rfl hwo hsz hS hv ho_13 hz_14 dR_init_29 (fun U_15 eU_15 hv H locs hwo hsz hS => ?_)
  replace hw := hw U_15 eU_15
  refine lv_aload_n hx hb dR_init_32 rfl (lv_at hl 0 rfl) ?_
  refine lv_aload_n hx hb dR_init_33 rfl (lv_at hl 1 rfl) ?_
  obtain ⟨hz_16, hw⟩ := hw
  refine n_putR hC hin flR_28 (fun _ => ⟨rfl, rfl⟩) rfl hwo hsz hS hv ho_13 hz_16 dR_init_34 (fun U_17 eU_17 hv H locs hwo hsz hS => ?_)
  replace hw := hw U_17 eU_17
  refine lv_aload_n hx hb dR_init_37 rfl (lv_at hl 0 rfl) ?_
  refine lv_aload_n hx hb dR_init_38 rfl (lv_at hl 2 rfl) ?_
  obtain ⟨hz_18, hw⟩ := hw
  refine n_putR hC hin flR_32 (fun _ => ⟨rfl, rfl⟩) rfl hwo hsz hS hv ho_13 hz_18 dR_init_39 (fun U_19 eU_19 hv H locs hwo hsz hS => ?_)
  replace hw := hw U_19 eU_19
  refine lv_iconst (v := 0) hx hb dR_init_42 (by decide) ?_
  refine lv_istore_n (i := 3) (lv' := [(3, .int (0 : Int32)), (0, .ref a0), (1, .ref a1), (2, .ref a2)]) hx hb dR_init_43 rfl hl (by decide) rfl (fun ls hl => ?_)
  refine lv_iload_n hx hb dR_init_44 rfl (lv_at hl 0 rfl) ?_
  refine lv_iconst (v := 3) hx hb dR_init_45 (by decide) ?_
  refine lv_icmp_ge (tgt := 68) hx hb dR_init_46 (by decide) (fun h => absurd h (by decide)) (fun _ => ?_)
  refine lv_aload_n hx hb dR_init_49 rfl (lv_at hl 1 rfl) ?_
  obtain ⟨hz_20, hw⟩ := hw
  refine n_getR hC fkR_13 rfl hwo ho_13 hz_20 dR_init_50 ?_
  refine lv_iload_n hx hb dR_init_53 rfl (lv_at hl 0 rfl) ?_
  obtain ⟨hL_21, hw⟩ := hw
  refine n_new hC ci_4 nYI npI ndI clR_11 inI izI hwo hsz hS hv hL_21 (by decide) (by decide) dR_init_54 (fun H hwo hsz hS => ?_)
  replace hv := vz.mono hv (Nat.le_succ _)
  refine lv_dup hx hb dR_init_57 rfl ?_
  refine n_ctor (rest := [.ref (tb θ + N_10), .int (0 : Int32), .ref (U_19 a0 2)]) hC hov (c_I_init l θ _ _ _ _ _ hw) mi_I_init mlR_36 rfl mj_I_init hwo hsz hS ⟨rfl, rfl⟩ ⟨by decide, by decide⟩ rfl hl.1 rfl (Nat.le_of_ble_eq_true rfl) ⟨by decide, by decide⟩ dR_init_58 (fun N_22 V_23 U_24 hw H locs hwo hsz hS => ?_)
  obtain ⟨hv, hw⟩ := hw
  obtain ⟨n_25, ha_26, hw⟩ := hw
  obtain ⟨ho_27, hw⟩ := hw
  obtain ⟨hz_28, hw⟩ := hw
  obtain ⟨hi_29, hw⟩ := hw
  refine n_aast (t := 3) hC (by decide) rfl ci_4 hwo hsz hS hv ha_26 ho_27 hz_28 hi_29 dR_init_61 (fun U_30 eU_30 hv H locs hwo hsz hS => ?_)
  replace hw := hw U_30 eU_30
  refine lv_iinc (k := 0) (v := 1) (lv' := [(3, .int (1 : Int32)), (0, .ref a0), (1, .ref a1), (2, .ref a2)]) hx hb dR_init_62 hl rfl (by decide) (by decide) rfl (fun ls hl => ?_)
  refine lv_goto (tgt := 44) hx hb dR_init_65 (by decide) ?_
  refine lv_iload_n hx hb dR_init_44 rfl (lv_at hl 0 rfl) ?_
  refine lv_iconst (v := 3) hx hb dR_init_45 (by decide) ?_
  refine lv_icmp_ge (tgt := 68) hx hb dR_init_46 (by decide) (fun h => absurd h (by decide)) (fun _ => ?_)
  refine lv_aload_n hx hb dR_init_49 rfl (lv_at hl 1 rfl) ?_
  obtain ⟨ho_31, hw⟩ := hw
  obtain ⟨hz_32, hw⟩ := hw
  refine n_getR hC fkR_13 rfl hwo ho_31 hz_32 dR_init_50 ?_
  refine lv_iload_n hx hb dR_init_53 rfl (lv_at hl 0 rfl) ?_
  obtain ⟨hL_33, hw⟩ := hw
  refine n_new hC ci_4 nYI npI ndI clR_11 inI izI hwo hsz hS hv hL_33 (by decide) (by decide) dR_init_54 (fun H hwo hsz hS => ?_)
  replace hv := vz.mono hv (Nat.le_succ _)
  refine lv_dup hx hb dR_init_57 rfl ?_
  refine n_ctor (rest := [.ref (tb θ + N_22), .int (1 : Int32), .ref (U_30 a0 2)]) hC hov (c_I_init l θ _ _ _ _ _ hw) mi_I_init mlR_36 rfl mj_I_init hwo hsz hS ⟨rfl, rfl⟩ ⟨by decide, by decide⟩ rfl hl.1 rfl (Nat.le_of_ble_eq_true rfl) ⟨by decide, by decide⟩ dR_init_58 (fun N_34 V_35 U_36 hw H locs hwo hsz hS => ?_)
  obtain ⟨hv, hw⟩ := hw
  obtain ⟨n_37, ha_38, hw⟩ := hw
  obtain ⟨ho_39, hw⟩ := hw
  obtain ⟨hz_40, hw⟩ := hw
  obtain ⟨hi_41, hw⟩ := hw
  refine n_aast (t := 3) hC (by decide) rfl ci_4 hwo hsz hS hv ha_38 ho_39 hz_40 hi_41 dR_init_61 (fun U_42 eU_42 hv H locs hwo hsz hS => ?_)
  replace hw := hw U_42 eU_42
  refine lv_iinc (k := 0) (v := 2) (lv' := [(3, .int (2 : Int32)), (0, .ref a0), (1, .ref a1), (2, .ref a2)]) hx hb dR_init_62 hl rfl (by decide) (by decide) rfl (fun ls hl => ?_)
  refine lv_goto (tgt := 44) hx hb dR_init_65 (by decide) ?_
  refine lv_iload_n hx hb dR_init_44 rfl (lv_at hl 0 rfl) ?_
  refine lv_iconst (v := 3) hx hb dR_init_45 (by decide) ?_
  refine lv_icmp_ge (tgt := 68) hx hb dR_init_46 (by decide) (fun h => absurd h (by decide)) (fun _ => ?_)
  refine lv_aload_n hx hb dR_init_49 rfl (lv_at hl 1 rfl) ?_
  obtain ⟨ho_43, hw⟩ := hw
  obtain ⟨hz_44, hw⟩ := hw
  refine n_getR hC fkR_13 rfl hwo ho_43 hz_44 dR_init_50 ?_
  refine lv_iload_n hx hb dR_init_53 rfl (lv_at hl 0 rfl) ?_
  obtain ⟨hL_45, hw⟩ := hw
  refine n_new hC ci_4 nYI npI ndI clR_11 inI izI hwo hsz hS hv hL_45 (by decide) (by decide) dR_init_54 (fun H hwo hsz hS => ?_)
  replace hv := vz.mono hv (Nat.le_succ _)
  refine lv_dup hx hb dR_init_57 rfl ?_
  refine n_ctor (rest := [.ref (tb θ + N_34), .int (2 : Int32), .ref (U_42 a0 2)]) hC hov (c_I_init l θ _ _ _ _ _ hw) mi_I_init mlR_36 rfl mj_I_init hwo hsz hS ⟨rfl, rfl⟩ ⟨by decide, by decide⟩ rfl hl.1 rfl (Nat.le_of_ble_eq_true rfl) ⟨by decide, by decide⟩ dR_init_58 (fun N_46 V_47 U_48 hw H locs hwo hsz hS => ?_)
  obtain ⟨hv, hw⟩ := hw
  obtain ⟨n_49, ha_50, hw⟩ := hw
  obtain ⟨ho_51, hw⟩ := hw
  obtain ⟨hz_52, hw⟩ := hw
  obtain ⟨hi_53, hw⟩ := hw
  refine n_aast (t := 3) hC (by decide) rfl ci_4 hwo hsz hS hv ha_50 ho_51 hz_52 hi_53 dR_init_61 (fun U_54 eU_54 hv H locs hwo hsz hS => ?_)
  replace hw := hw U_54 eU_54
  refine lv_iinc (k := 0) (v := 3) (lv' := [(3, .int (3 : Int32)), (0, .ref a0), (1, .ref a1), (2, .ref a2)]) hx hb dR_init_62 hl rfl (by decide) (by decide) rfl (fun ls hl => ?_)
  refine lv_goto (tgt := 44) hx hb dR_init_65 (by decide) ?_
  refine lv_iload_n hx hb dR_init_44 rfl (lv_at hl 0 rfl) ?_
  refine lv_iconst (v := 3) hx hb dR_init_45 (by decide) ?_
  refine lv_icmp_ge (tgt := 68) hx hb dR_init_46 (by decide) (fun _ => ?_) (fun h => absurd (show (3 : Int32) ≤ 3 by decide) h)
  refine lv_iconst (v := 0) hx hb dR_init_68 (by decide) ?_
  refine lv_istore_n (i := 3) (lv' := [(3, .int (0 : Int32)), (0, .ref a0), (1, .ref a1), (2, .ref a2)]) hx hb dR_init_69 rfl hl (by decide) rfl (fun ls hl => ?_)
  refine lv_iload_n hx hb dR_init_70 rfl (lv_at hl 0 rfl) ?_
  refine lv_bipush (v := 8) hx hb dR_init_71 (by decide) ?_
  refine lv_icmp_ge (tgt := 95) hx hb dR_init_73 (by decide) (fun h => absurd h (by decide)) (fun _ => ?_)
  refine lv_aload_n hx hb dR_init_76 rfl (lv_at hl 1 rfl) ?_
  obtain ⟨ho_55, hw⟩ := hw
  obtain ⟨hz_56, hw⟩ := hw
  refine n_getR hC fkR_19 rfl hwo ho_55 hz_56 dR_init_77 ?_
  refine lv_iload_n hx hb dR_init_80 rfl (lv_at hl 0 rfl) ?_
  obtain ⟨hL_57, hw⟩ := hw
  refine n_new hC ci_5 nYE npE ndE clR_17 inE izE hwo hsz hS hv hL_57 (by decide) (by decide) dR_init_81 (fun H hwo hsz hS => ?_)
  replace hv := vz.mono hv (Nat.le_succ _)
  refine lv_dup hx hb dR_init_84 rfl ?_
  refine n_ctor (rest := [.ref (tb θ + N_46), .int (0 : Int32), .ref (U_54 a0 3)]) hC hov (c_E_init l θ _ _ _ _ _ hw) mi_E_init mlR_23 rfl mj_E_init hwo hsz hS ⟨rfl, rfl⟩ ⟨by decide, by decide⟩ rfl hl.1 rfl (Nat.le_of_ble_eq_true rfl) ⟨by decide, by decide⟩ dR_init_85 (fun N_58 V_59 U_60 hw H locs hwo hsz hS => ?_)
  obtain ⟨hv, hw⟩ := hw
  obtain ⟨n_61, ha_62, hw⟩ := hw
  obtain ⟨ho_63, hw⟩ := hw
  obtain ⟨hz_64, hw⟩ := hw
  obtain ⟨hi_65, hw⟩ := hw
  refine n_aast (t := 4) hC (by decide) rfl ci_5 hwo hsz hS hv ha_62 ho_63 hz_64 hi_65 dR_init_88 (fun U_66 eU_66 hv H locs hwo hsz hS => ?_)
  replace hw := hw U_66 eU_66
  refine lv_iinc (k := 0) (v := 1) (lv' := [(3, .int (1 : Int32)), (0, .ref a0), (1, .ref a1), (2, .ref a2)]) hx hb dR_init_89 hl rfl (by decide) (by decide) rfl (fun ls hl => ?_)
  refine lv_goto (tgt := 70) hx hb dR_init_92 (by decide) ?_
  refine lv_iload_n hx hb dR_init_70 rfl (lv_at hl 0 rfl) ?_
  refine lv_bipush (v := 8) hx hb dR_init_71 (by decide) ?_
  refine lv_icmp_ge (tgt := 95) hx hb dR_init_73 (by decide) (fun h => absurd h (by decide)) (fun _ => ?_)
  refine lv_aload_n hx hb dR_init_76 rfl (lv_at hl 1 rfl) ?_
  obtain ⟨ho_67, hw⟩ := hw
  obtain ⟨hz_68, hw⟩ := hw
  refine n_getR hC fkR_19 rfl hwo ho_67 hz_68 dR_init_77 ?_
  refine lv_iload_n hx hb dR_init_80 rfl (lv_at hl 0 rfl) ?_
  obtain ⟨hL_69, hw⟩ := hw
  refine n_new hC ci_5 nYE npE ndE clR_17 inE izE hwo hsz hS hv hL_69 (by decide) (by decide) dR_init_81 (fun H hwo hsz hS => ?_)
  replace hv := vz.mono hv (Nat.le_succ _)
  refine lv_dup hx hb dR_init_84 rfl ?_
  refine n_ctor (rest := [.ref (tb θ + N_58), .int (1 : Int32), .ref (U_66 a0 3)]) hC hov (c_E_init l θ _ _ _ _ _ hw) mi_E_init mlR_23 rfl mj_E_init hwo hsz hS ⟨rfl, rfl⟩ ⟨by decide, by decide⟩ rfl hl.1 rfl (Nat.le_of_ble_eq_true rfl) ⟨by decide, by decide⟩ dR_init_85 (fun N_70 V_71 U_72 hw H locs hwo hsz hS => ?_)
  obtain ⟨hv, hw⟩ := hw
  obtain ⟨n_73, ha_74, hw⟩ := hw
  obtain ⟨ho_75, hw⟩ := hw
  obtain ⟨hz_76, hw⟩ := hw
  obtain ⟨hi_77, hw⟩ := hw
  refine n_aast (t := 4) hC (by decide) rfl ci_5 hwo hsz hS hv ha_74 ho_75 hz_76 hi_77 dR_init_88 (fun U_78 eU_78 hv H locs hwo hsz hS => ?_)
  replace hw := hw U_78 eU_78
  refine lv_iinc (k := 0) (v := 2) (lv' := [(3, .int (2 : Int32)), (0, .ref a0), (1, .ref a1), (2, .ref a2)]) hx hb dR_init_89 hl rfl (by decide) (by decide) rfl (fun ls hl => ?_)
  refine lv_goto (tgt := 70) hx hb dR_init_92 (by decide) ?_
  refine lv_iload_n hx hb dR_init_70 rfl (lv_at hl 0 rfl) ?_
  refine lv_bipush (v := 8) hx hb dR_init_71 (by decide) ?_
  refine lv_icmp_ge (tgt := 95) hx hb dR_init_73 (by decide) (fun h => absurd h (by decide)) (fun _ => ?_)
  refine lv_aload_n hx hb dR_init_76 rfl (lv_at hl 1 rfl) ?_
  obtain ⟨ho_79, hw⟩ := hw
  obtain ⟨hz_80, hw⟩ := hw
  refine n_getR hC fkR_19 rfl hwo ho_79 hz_80 dR_init_77 ?_
  refine lv_iload_n hx hb dR_init_80 rfl (lv_at hl 0 rfl) ?_
  obtain ⟨hL_81, hw⟩ := hw
  refine n_new hC ci_5 nYE npE ndE clR_17 inE izE hwo hsz hS hv hL_81 (by decide) (by decide) dR_init_81 (fun H hwo hsz hS => ?_)
  replace hv := vz.mono hv (Nat.le_succ _)
  refine lv_dup hx hb dR_init_84 rfl ?_
  refine n_ctor (rest := [.ref (tb θ + N_70), .int (2 : Int32), .ref (U_78 a0 3)]) hC hov (c_E_init l θ _ _ _ _ _ hw) mi_E_init mlR_23 rfl mj_E_init hwo hsz hS ⟨rfl, rfl⟩ ⟨by decide, by decide⟩ rfl hl.1 rfl (Nat.le_of_ble_eq_true rfl) ⟨by decide, by decide⟩ dR_init_85 (fun N_82 V_83 U_84 hw H locs hwo hsz hS => ?_)
  obtain ⟨hv, hw⟩ := hw
  obtain ⟨n_85, ha_86, hw⟩ := hw
  obtain ⟨ho_87, hw⟩ := hw
  obtain ⟨hz_88, hw⟩ := hw
  obtain ⟨hi_89, hw⟩ := hw
  refine n_aast (t := 4) hC (by decide) rfl ci_5 hwo hsz hS hv ha_86 ho_87 hz_88 hi_89 dR_init_88 (fun U_90 eU_90 hv H locs hwo hsz hS => ?_)
  replace hw := hw U_90 eU_90
  refine lv_iinc (k := 0) (v := 3) (lv' := [(3, .int (3 : Int32)), (0, .ref a0), (1, .ref a1), (2, .ref a2)]) hx hb dR_init_89 hl rfl (by decide) (by decide) rfl (fun ls hl => ?_)
  refine lv_goto (tgt := 70) hx hb dR_init_92 (by decide) ?_
  refine lv_iload_n hx hb dR_init_70 rfl (lv_at hl 0 rfl) ?_
  refine lv_bipush (v := 8) hx hb dR_init_71 (by decide) ?_
  refine lv_icmp_ge (tgt := 95) hx hb dR_init_73 (by decide) (fun h => absurd h (by decide)) (fun _ => ?_)
  refine lv_aload_n hx hb dR_init_76 rfl (lv_at hl 1 rfl) ?_
  obtain ⟨ho_91, hw⟩ := hw
  obtain ⟨hz_92, hw⟩ := hw
  refine n_getR hC fkR_19 rfl hwo ho_91 hz_92 dR_init_77 ?_
  refine lv_iload_n hx hb dR_init_80 rfl (lv_at hl 0 rfl) ?_
  obtain ⟨hL_93, hw⟩ := hw
  refine n_new hC ci_5 nYE npE ndE clR_17 inE izE hwo hsz hS hv hL_93 (by decide) (by decide) dR_init_81 (fun H hwo hsz hS => ?_)
  replace hv := vz.mono hv (Nat.le_succ _)
  refine lv_dup hx hb dR_init_84 rfl ?_
  refine n_ctor (rest := [.ref (tb θ + N_82), .int (3 : Int32), .ref (U_90 a0 3)]) hC hov (c_E_init l θ _ _ _ _ _ hw) mi_E_init mlR_23 rfl mj_E_init hwo hsz hS ⟨rfl, rfl⟩ ⟨by decide, by decide⟩ rfl hl.1 rfl (Nat.le_of_ble_eq_true rfl) ⟨by decide, by decide⟩ dR_init_85 (fun N_94 V_95 U_96 hw H locs hwo hsz hS => ?_)
  obtain ⟨hv, hw⟩ := hw
  obtain ⟨n_97, ha_98, hw⟩ := hw
  obtain ⟨ho_99, hw⟩ := hw
  obtain ⟨hz_100, hw⟩ := hw
  obtain ⟨hi_101, hw⟩ := hw
  refine n_aast (t := 4) hC (by decide) rfl ci_5 hwo hsz hS hv ha_98 ho_99 hz_100 hi_101 dR_init_88 (fun U_102 eU_102 hv H locs hwo hsz hS => ?_)
  replace hw := hw U_102 eU_102
  refine lv_iinc (k := 0) (v := 4) (lv' := [(3, .int (4 : Int32)), (0, .ref a0), (1, .ref a1), (2, .ref a2)]) hx hb dR_init_89 hl rfl (by decide) (by decide) rfl (fun ls hl => ?_)
  refine lv_goto (tgt := 70) hx hb dR_init_92 (by decide) ?_
  refine lv_iload_n hx hb dR_init_70 rfl (lv_at hl 0 rfl) ?_
  refine lv_bipush (v := 8) hx hb dR_init_71 (by decide) ?_
  refine lv_icmp_ge (tgt := 95) hx hb dR_init_73 (by decide) (fun h => absurd h (by decide)) (fun _ => ?_)
  refine lv_aload_n hx hb dR_init_76 rfl (lv_at hl 1 rfl) ?_
  obtain ⟨ho_103, hw⟩ := hw
  obtain ⟨hz_104, hw⟩ := hw
  refine n_getR hC fkR_19 rfl hwo ho_103 hz_104 dR_init_77 ?_
  refine lv_iload_n hx hb dR_init_80 rfl (lv_at hl 0 rfl) ?_
  obtain ⟨hL_105, hw⟩ := hw
  refine n_new hC ci_5 nYE npE ndE clR_17 inE izE hwo hsz hS hv hL_105 (by decide) (by decide) dR_init_81 (fun H hwo hsz hS => ?_)
  replace hv := vz.mono hv (Nat.le_succ _)
  refine lv_dup hx hb dR_init_84 rfl ?_
  refine n_ctor (rest := [.ref (tb θ + N_94), .int (4 : Int32), .ref (U_102 a0 3)]) hC hov (c_E_init l θ _ _ _ _ _ hw) mi_E_init mlR_23 rfl mj_E_init hwo hsz hS ⟨rfl, rfl⟩ ⟨by decide, by decide⟩ rfl hl.1 rfl (Nat.le_of_ble_eq_true rfl) ⟨by decide, by decide⟩ dR_init_85 (fun N_106 V_107 U_108 hw H locs hwo hsz hS => ?_)
  obtain ⟨hv, hw⟩ := hw
  obtain ⟨n_109, ha_110, hw⟩ := hw
  obtain ⟨ho_111, hw⟩ := hw
  obtain ⟨hz_112, hw⟩ := hw
  obtain ⟨hi_113, hw⟩ := hw
  refine n_aast (t := 4) hC (by decide) rfl ci_5 hwo hsz hS hv ha_110 ho_111 hz_112 hi_113 dR_init_88 (fun U_114 eU_114 hv H locs hwo hsz hS => ?_)
  replace hw := hw U_114 eU_114
  refine lv_iinc (k := 0) (v := 5) (lv' := [(3, .int (5 : Int32)), (0, .ref a0), (1, .ref a1), (2, .ref a2)]) hx hb dR_init_89 hl rfl (by decide) (by decide) rfl (fun ls hl => ?_)
  refine lv_goto (tgt := 70) hx hb dR_init_92 (by decide) ?_
  refine lv_iload_n hx hb dR_init_70 rfl (lv_at hl 0 rfl) ?_
  refine lv_bipush (v := 8) hx hb dR_init_71 (by decide) ?_
  refine lv_icmp_ge (tgt := 95) hx hb dR_init_73 (by decide) (fun h => absurd h (by decide)) (fun _ => ?_)
  refine lv_aload_n hx hb dR_init_76 rfl (lv_at hl 1 rfl) ?_
  obtain ⟨ho_115, hw⟩ := hw
  obtain ⟨hz_116, hw⟩ := hw
  refine n_getR hC fkR_19 rfl hwo ho_115 hz_116 dR_init_77 ?_
  refine lv_iload_n hx hb dR_init_80 rfl (lv_at hl 0 rfl) ?_
  obtain ⟨hL_117, hw⟩ := hw
  refine n_new hC ci_5 nYE npE ndE clR_17 inE izE hwo hsz hS hv hL_117 (by decide) (by decide) dR_init_81 (fun H hwo hsz hS => ?_)
  replace hv := vz.mono hv (Nat.le_succ _)
  refine lv_dup hx hb dR_init_84 rfl ?_
  refine n_ctor (rest := [.ref (tb θ + N_106), .int (5 : Int32), .ref (U_114 a0 3)]) hC hov (c_E_init l θ _ _ _ _ _ hw) mi_E_init mlR_23 rfl mj_E_init hwo hsz hS ⟨rfl, rfl⟩ ⟨by decide, by decide⟩ rfl hl.1 rfl (Nat.le_of_ble_eq_true rfl) ⟨by decide, by decide⟩ dR_init_85 (fun N_118 V_119 U_120 hw H locs hwo hsz hS => ?_)
  obtain ⟨hv, hw⟩ := hw
  obtain ⟨n_121, ha_122, hw⟩ := hw
  obtain ⟨ho_123, hw⟩ := hw
  obtain ⟨hz_124, hw⟩ := hw
  obtain ⟨hi_125, hw⟩ := hw
  refine n_aast (t := 4) hC (by decide) rfl ci_5 hwo hsz hS hv ha_122 ho_123 hz_124 hi_125 dR_init_88 (fun U_126 eU_126 hv H locs hwo hsz hS => ?_)
  replace hw := hw U_126 eU_126
  refine lv_iinc (k := 0) (v := 6) (lv' := [(3, .int (6 : Int32)), (0, .ref a0), (1, .ref a1), (2, .ref a2)]) hx hb dR_init_89 hl rfl (by decide) (by decide) rfl (fun ls hl => ?_)
  refine lv_goto (tgt := 70) hx hb dR_init_92 (by decide) ?_
  refine lv_iload_n hx hb dR_init_70 rfl (lv_at hl 0 rfl) ?_
  refine lv_bipush (v := 8) hx hb dR_init_71 (by decide) ?_
  refine lv_icmp_ge (tgt := 95) hx hb dR_init_73 (by decide) (fun h => absurd h (by decide)) (fun _ => ?_)
  refine lv_aload_n hx hb dR_init_76 rfl (lv_at hl 1 rfl) ?_
  obtain ⟨ho_127, hw⟩ := hw
  obtain ⟨hz_128, hw⟩ := hw
  refine n_getR hC fkR_19 rfl hwo ho_127 hz_128 dR_init_77 ?_
  refine lv_iload_n hx hb dR_init_80 rfl (lv_at hl 0 rfl) ?_
  obtain ⟨hL_129, hw⟩ := hw
  refine n_new hC ci_5 nYE npE ndE clR_17 inE izE hwo hsz hS hv hL_129 (by decide) (by decide) dR_init_81 (fun H hwo hsz hS => ?_)
  replace hv := vz.mono hv (Nat.le_succ _)
  refine lv_dup hx hb dR_init_84 rfl ?_
  refine n_ctor (rest := [.ref (tb θ + N_118), .int (6 : Int32), .ref (U_126 a0 3)]) hC hov (c_E_init l θ _ _ _ _ _ hw) mi_E_init mlR_23 rfl mj_E_init hwo hsz hS ⟨rfl, rfl⟩ ⟨by decide, by decide⟩ rfl hl.1 rfl (Nat.le_of_ble_eq_true rfl) ⟨by decide, by decide⟩ dR_init_85 (fun N_130 V_131 U_132 hw H locs hwo hsz hS => ?_)
  obtain ⟨hv, hw⟩ := hw
  obtain ⟨n_133, ha_134, hw⟩ := hw
  obtain ⟨ho_135, hw⟩ := hw
  obtain ⟨hz_136, hw⟩ := hw
  obtain ⟨hi_137, hw⟩ := hw
  refine n_aast (t := 4) hC (by decide) rfl ci_5 hwo hsz hS hv ha_134 ho_135 hz_136 hi_137 dR_init_88 (fun U_138 eU_138 hv H locs hwo hsz hS => ?_)
  replace hw := hw U_138 eU_138
  refine lv_iinc (k := 0) (v := 7) (lv' := [(3, .int (7 : Int32)), (0, .ref a0), (1, .ref a1), (2, .ref a2)]) hx hb dR_init_89 hl rfl (by decide) (by decide) rfl (fun ls hl => ?_)
  refine lv_goto (tgt := 70) hx hb dR_init_92 (by decide) ?_
  refine lv_iload_n hx hb dR_init_70 rfl (lv_at hl 0 rfl) ?_
  refine lv_bipush (v := 8) hx hb dR_init_71 (by decide) ?_
  refine lv_icmp_ge (tgt := 95) hx hb dR_init_73 (by decide) (fun h => absurd h (by decide)) (fun _ => ?_)
  refine lv_aload_n hx hb dR_init_76 rfl (lv_at hl 1 rfl) ?_
  obtain ⟨ho_139, hw⟩ := hw
  obtain ⟨hz_140, hw⟩ := hw
  refine n_getR hC fkR_19 rfl hwo ho_139 hz_140 dR_init_77 ?_
  refine lv_iload_n hx hb dR_init_80 rfl (lv_at hl 0 rfl) ?_
  obtain ⟨hL_141, hw⟩ := hw
  refine n_new hC ci_5 nYE npE ndE clR_17 inE izE hwo hsz hS hv hL_141 (by decide) (by decide) dR_init_81 (fun H hwo hsz hS => ?_)
  replace hv := vz.mono hv (Nat.le_succ _)
  refine lv_dup hx hb dR_init_84 rfl ?_
  refine n_ctor (rest := [.ref (tb θ + N_130), .int (7 : Int32), .ref (U_138 a0 3)]) hC hov (c_E_init l θ _ _ _ _ _ hw) mi_E_init mlR_23 rfl mj_E_init hwo hsz hS ⟨rfl, rfl⟩ ⟨by decide, by decide⟩ rfl hl.1 rfl (Nat.le_of_ble_eq_true rfl) ⟨by decide, by decide⟩ dR_init_85 (fun N_142 V_143 U_144 hw H locs hwo hsz hS => ?_)
  obtain ⟨hv, hw⟩ := hw
  obtain ⟨n_145, ha_146, hw⟩ := hw
  obtain ⟨ho_147, hw⟩ := hw
  obtain ⟨hz_148, hw⟩ := hw
  obtain ⟨hi_149, hw⟩ := hw
  refine n_aast (t := 4) hC (by decide) rfl ci_5 hwo hsz hS hv ha_146 ho_147 hz_148 hi_149 dR_init_88 (fun U_150 eU_150 hv H locs hwo hsz hS => ?_)
  replace hw := hw U_150 eU_150
  refine lv_iinc (k := 0) (v := 8) (lv' := [(3, .int (8 : Int32)), (0, .ref a0), (1, .ref a1), (2, .ref a2)]) hx hb dR_init_89 hl rfl (by decide) (by decide) rfl (fun ls hl => ?_)
  refine lv_goto (tgt := 70) hx hb dR_init_92 (by decide) ?_
  refine lv_iload_n hx hb dR_init_70 rfl (lv_at hl 0 rfl) ?_
  refine lv_bipush (v := 8) hx hb dR_init_71 (by decide) ?_
  refine lv_icmp_ge (tgt := 95) hx hb dR_init_73 (by decide) (fun _ => ?_) (fun h => absurd (show (8 : Int32) ≤ 8 by decide) h)
  exact n_ret hC hr hlk hw hwo hsz hS dR_init_95
theorem dC_init_0 : decode kC_init 0 = .ok (.aload_n 0, 1) := by decide +kernel
theorem dC_init_1 : decode kC_init 1 = .ok (.invokespecial 5, 3) := by decide +kernel
theorem dC_init_4 : decode kC_init 4 = .ok (.aload_n 0, 1) := by decide +kernel
theorem dC_init_5 : decode kC_init 5 = .ok (.iconst 3, 1) := by decide +kernel
theorem dC_init_6 : decode kC_init 6 = .ok (.newarray .int, 2) := by decide +kernel
theorem dC_init_8 : decode kC_init 8 = .ok (.putfield 11, 3) := by decide +kernel
theorem dC_init_11 : decode kC_init 11 = .ok (.aload_n 0, 1) := by decide +kernel
theorem dC_init_12 : decode kC_init 12 = .ok (.iconst 2, 1) := by decide +kernel
theorem dC_init_13 : decode kC_init 13 = .ok (.newarray .int, 2) := by decide +kernel
theorem dC_init_15 : decode kC_init 15 = .ok (.putfield 15, 3) := by decide +kernel
theorem dC_init_18 : decode kC_init 18 = .ok (.aload_n 0, 1) := by decide +kernel
theorem dC_init_19 : decode kC_init 19 = .ok (.iconst 2, 1) := by decide +kernel
theorem dC_init_20 : decode kC_init 20 = .ok (.newarray .boolean, 2) := by decide +kernel
theorem dC_init_22 : decode kC_init 22 = .ok (.putfield 18, 3) := by decide +kernel
theorem dC_init_25 : decode kC_init 25 = .ok (.aload_n 0, 1) := by decide +kernel
theorem dC_init_26 : decode kC_init 26 = .ok (.iconst 2, 1) := by decide +kernel
theorem dC_init_27 : decode kC_init 27 = .ok (.newarray .int, 2) := by decide +kernel
theorem dC_init_29 : decode kC_init 29 = .ok (.putfield 22, 3) := by decide +kernel
theorem dC_init_32 : decode kC_init 32 = .ok (.aload_n 0, 1) := by decide +kernel
theorem dC_init_33 : decode kC_init 33 = .ok (.iconst 4, 1) := by decide +kernel
theorem dC_init_34 : decode kC_init 34 = .ok (.newarray .int, 2) := by decide +kernel
theorem dC_init_36 : decode kC_init 36 = .ok (.putfield 25, 3) := by decide +kernel
theorem dC_init_39 : decode kC_init 39 = .ok (.aload_n 0, 1) := by decide +kernel
theorem dC_init_40 : decode kC_init 40 = .ok (.bipush 14, 2) := by decide +kernel
theorem dC_init_42 : decode kC_init 42 = .ok (.newarray .int, 2) := by decide +kernel
theorem dC_init_44 : decode kC_init 44 = .ok (.putfield 28, 3) := by decide +kernel
theorem dC_init_47 : decode kC_init 47 = .ok (.aload_n 0, 1) := by decide +kernel
theorem dC_init_48 : decode kC_init 48 = .ok (.bipush 14, 2) := by decide +kernel
theorem dC_init_50 : decode kC_init 50 = .ok (.newarray .int, 2) := by decide +kernel
theorem dC_init_52 : decode kC_init 52 = .ok (.putfield 31, 3) := by decide +kernel
theorem dC_init_55 : decode kC_init 55 = .ok (.aload_n 0, 1) := by decide +kernel
theorem dC_init_56 : decode kC_init 56 = .ok (.bipush 14, 2) := by decide +kernel
theorem dC_init_58 : decode kC_init 58 = .ok (.newarray .int, 2) := by decide +kernel
theorem dC_init_60 : decode kC_init 60 = .ok (.putfield 34, 3) := by decide +kernel
theorem dC_init_63 : decode kC_init 63 = .ok (.aload_n 0, 1) := by decide +kernel
theorem dC_init_64 : decode kC_init 64 = .ok (.bipush 14, 2) := by decide +kernel
theorem dC_init_66 : decode kC_init 66 = .ok (.newarray .boolean, 2) := by decide +kernel
theorem dC_init_68 : decode kC_init 68 = .ok (.putfield 37, 3) := by decide +kernel
theorem dC_init_71 : decode kC_init 71 = .ok (.return_, 1) := by decide +kernel
abbrev rcC_init : Room := { frames := 1, cells := 9, slots := 69, locals := 20 }
def wp_C_init (θ : TH) (a0 : Nat) (N : Nat) (V : VT) (U : UT) (K : Nat → VT → UT → Prop) : Prop := vz θ N V U ∧ tL θ N = (1, 0, 3) ∧ isO (θn θ (N + 1)) a0 9 ∧ (tb θ + N) ≠ 0 ∧ ∀ U_4 : UT, U_4 = up2 U a0 2 (tb θ + N) → tL θ (N + 1) = (1, 0, 2) ∧ isO (θn θ (N + 2)) a0 9 ∧ (tb θ + (N + 1)) ≠ 0 ∧ ∀ U_8 : UT, U_8 = up2 U_4 a0 3 (tb θ + (N + 1)) → tL θ (N + 2) = (1, 1, 2) ∧ isO (θn θ (N + 3)) a0 9 ∧ (tb θ + (N + 2)) ≠ 0 ∧ ∀ U_12 : UT, U_12 = up2 U_8 a0 4 (tb θ + (N + 2)) → tL θ (N + 3) = (1, 0, 2) ∧ isO (θn θ (N + 4)) a0 9 ∧ (tb θ + (N + 3)) ≠ 0 ∧ ∀ U_16 : UT, U_16 = up2 U_12 a0 5 (tb θ + (N + 3)) → tL θ (N + 4) = (1, 0, 4) ∧ isO (θn θ (N + 5)) a0 9 ∧ (tb θ + (N + 4)) ≠ 0 ∧ ∀ U_20 : UT, U_20 = up2 U_16 a0 6 (tb θ + (N + 4)) → tL θ (N + 5) = (1, 0, 14) ∧ isO (θn θ (N + 6)) a0 9 ∧ (tb θ + (N + 5)) ≠ 0 ∧ ∀ U_24 : UT, U_24 = up2 U_20 a0 8 (tb θ + (N + 5)) → tL θ (N + 6) = (1, 0, 14) ∧ isO (θn θ (N + 7)) a0 9 ∧ (tb θ + (N + 6)) ≠ 0 ∧ ∀ U_28 : UT, U_28 = up2 U_24 a0 9 (tb θ + (N + 6)) → tL θ (N + 7) = (1, 0, 14) ∧ isO (θn θ (N + 8)) a0 9 ∧ (tb θ + (N + 7)) ≠ 0 ∧ ∀ U_32 : UT, U_32 = up2 U_28 a0 10 (tb θ + (N + 7)) → tL θ (N + 8) = (1, 1, 14) ∧ isO (θn θ (N + 9)) a0 9 ∧ (tb θ + (N + 8)) ≠ 0 ∧ ∀ U_36 : UT, U_36 = up2 U_32 a0 11 (tb θ + (N + 8)) → K (N + 9) V U_36
set_option maxRecDepth 100000 in
set_option maxHeartbeats 4000000 in
theorem c_C_init (l : Launch) (θ : TH) (a0 : Nat) (N : Nat) (V : VT) (U : UT) (K : Nat → VT → UT → Prop) (hw : wp_C_init θ a0 N V U K) : CMc l yC_init kC_init 1 rcC_init θ [.ref a0] N V U K 9 69 := by
  refine n_met nRC (by decide +kernel) rfl rfl (Nat.le_of_ble_eq_true rfl) (fun p e s m args below meth c ls hC hov hin hr hlk hwo hsz hl => ?_)
  have hx := hC.1
  have hb := hC.2.1
  have hS : Sx θ s s.heap [] := va_S.rf
  have hl : lv_has ls 1 [(0, .ref a0)] := hl
  unfold wp_C_init at hw
  obtain ⟨hv, hw⟩ := hw
  refine lv_aload_n hx hb dC_init_0 rfl (lv_at hl 0 rfl) ?_
  refine n_obj hC lkC_5 ka_obj hl.1 (by decide) (by decide) dC_init_1 ?_
  refine lv_aload_n hx hb dC_init_4 rfl (lv_at hl 0 rfl) ?_
  refine lv_iconst (v := 3) hx hb dC_init_5 (by decide) ?_
  obtain ⟨hL_1, hw⟩ := hw
  refine n_newI hC ka_ai hwo hsz hS hv hL_1 (by decide) (by decide) (by decide) (by decide) (by decide) dC_init_6 (fun H hwo hsz hS => ?_)
  replace hv := vz.mono hv (Nat.le_succ _)
  obtain ⟨ho_2, hw⟩ := hw
  obtain ⟨hz_3, hw⟩ := hw
  refine n_putR hC hin flC_11 (fun _ => ⟨rfl, rfl⟩) rfl hwo hsz hS hv ho_2 hz_3 dC_init_8 (fun U_4 eU_4 hv H locs hwo hsz hS => ?_)
  replace hw := hw U_4 eU_4
  refine lv_aload_n hx hb dC_init_11 rfl (lv_at hl 0 rfl) ?_
  refine lv_iconst (v := 2) hx hb dC_init_12 (by decide) ?_
  obtain ⟨hL_5, hw⟩ := hw
  refine n_newI hC ka_ai hwo hsz hS hv hL_5 (by decide) (by decide) (by decide) (by decide) (by decide) dC_init_13 (fun H hwo hsz hS => ?_)
  replace hv := vz.mono hv (Nat.le_succ _)
  obtain ⟨ho_6, hw⟩ := hw
  obtain ⟨hz_7, hw⟩ := hw
  refine n_putR hC hin flC_15 (fun _ => ⟨rfl, rfl⟩) rfl hwo hsz hS hv ho_6 hz_7 dC_init_15 (fun U_8 eU_8 hv H locs hwo hsz hS => ?_)
  replace hw := hw U_8 eU_8
  refine lv_aload_n hx hb dC_init_18 rfl (lv_at hl 0 rfl) ?_
  refine lv_iconst (v := 2) hx hb dC_init_19 (by decide) ?_
  obtain ⟨hL_9, hw⟩ := hw
  refine n_newZ hC ka_az hwo hsz hS hv hL_9 (by decide) (by decide) (by decide) (by decide) (by decide) dC_init_20 (fun H hwo hsz hS => ?_)
  replace hv := vz.mono hv (Nat.le_succ _)
  obtain ⟨ho_10, hw⟩ := hw
  obtain ⟨hz_11, hw⟩ := hw
  refine n_putR hC hin flC_18 (fun _ => ⟨rfl, rfl⟩) rfl hwo hsz hS hv ho_10 hz_11 dC_init_22 (fun U_12 eU_12 hv H locs hwo hsz hS => ?_)
  replace hw := hw U_12 eU_12
  refine lv_aload_n hx hb dC_init_25 rfl (lv_at hl 0 rfl) ?_
  refine lv_iconst (v := 2) hx hb dC_init_26 (by decide) ?_
  obtain ⟨hL_13, hw⟩ := hw
  refine n_newI hC ka_ai hwo hsz hS hv hL_13 (by decide) (by decide) (by decide) (by decide) (by decide) dC_init_27 (fun H hwo hsz hS => ?_)
  replace hv := vz.mono hv (Nat.le_succ _)
  obtain ⟨ho_14, hw⟩ := hw
  obtain ⟨hz_15, hw⟩ := hw
  refine n_putR hC hin flC_22 (fun _ => ⟨rfl, rfl⟩) rfl hwo hsz hS hv ho_14 hz_15 dC_init_29 (fun U_16 eU_16 hv H locs hwo hsz hS => ?_)
  replace hw := hw U_16 eU_16
  refine lv_aload_n hx hb dC_init_32 rfl (lv_at hl 0 rfl) ?_
  refine lv_iconst (v := 4) hx hb dC_init_33 (by decide) ?_
  obtain ⟨hL_17, hw⟩ := hw
  refine n_newI hC ka_ai hwo hsz hS hv hL_17 (by decide) (by decide) (by decide) (by decide) (by decide) dC_init_34 (fun H hwo hsz hS => ?_)
  replace hv := vz.mono hv (Nat.le_succ _)
  obtain ⟨ho_18, hw⟩ := hw
  obtain ⟨hz_19, hw⟩ := hw
  refine n_putR hC hin flC_25 (fun _ => ⟨rfl, rfl⟩) rfl hwo hsz hS hv ho_18 hz_19 dC_init_36 (fun U_20 eU_20 hv H locs hwo hsz hS => ?_)
  replace hw := hw U_20 eU_20
  refine lv_aload_n hx hb dC_init_39 rfl (lv_at hl 0 rfl) ?_
  refine lv_bipush (v := 14) hx hb dC_init_40 (by decide) ?_
  obtain ⟨hL_21, hw⟩ := hw
  refine n_newI hC ka_ai hwo hsz hS hv hL_21 (by decide) (by decide) (by decide) (by decide) (by decide) dC_init_42 (fun H hwo hsz hS => ?_)
  replace hv := vz.mono hv (Nat.le_succ _)
  obtain ⟨ho_22, hw⟩ := hw
  obtain ⟨hz_23, hw⟩ := hw
  refine n_putR hC hin flC_28 (fun _ => ⟨rfl, rfl⟩) rfl hwo hsz hS hv ho_22 hz_23 dC_init_44 (fun U_24 eU_24 hv H locs hwo hsz hS => ?_)
  replace hw := hw U_24 eU_24
  refine lv_aload_n hx hb dC_init_47 rfl (lv_at hl 0 rfl) ?_
  refine lv_bipush (v := 14) hx hb dC_init_48 (by decide) ?_
  obtain ⟨hL_25, hw⟩ := hw
  refine n_newI hC ka_ai hwo hsz hS hv hL_25 (by decide) (by decide) (by decide) (by decide) (by decide) dC_init_50 (fun H hwo hsz hS => ?_)
  replace hv := vz.mono hv (Nat.le_succ _)
  obtain ⟨ho_26, hw⟩ := hw
  obtain ⟨hz_27, hw⟩ := hw
  refine n_putR hC hin flC_31 (fun _ => ⟨rfl, rfl⟩) rfl hwo hsz hS hv ho_26 hz_27 dC_init_52 (fun U_28 eU_28 hv H locs hwo hsz hS => ?_)
  replace hw := hw U_28 eU_28
  refine lv_aload_n hx hb dC_init_55 rfl (lv_at hl 0 rfl) ?_
  refine lv_bipush (v := 14) hx hb dC_init_56 (by decide) ?_
  obtain ⟨hL_29, hw⟩ := hw
  refine n_newI hC ka_ai hwo hsz hS hv hL_29 (by decide) (by decide) (by decide) (by decide) (by decide) dC_init_58 (fun H hwo hsz hS => ?_)
  replace hv := vz.mono hv (Nat.le_succ _)
  obtain ⟨ho_30, hw⟩ := hw
  obtain ⟨hz_31, hw⟩ := hw
  refine n_putR hC hin flC_34 (fun _ => ⟨rfl, rfl⟩) rfl hwo hsz hS hv ho_30 hz_31 dC_init_60 (fun U_32 eU_32 hv H locs hwo hsz hS => ?_)
  replace hw := hw U_32 eU_32
  refine lv_aload_n hx hb dC_init_63 rfl (lv_at hl 0 rfl) ?_
  refine lv_bipush (v := 14) hx hb dC_init_64 (by decide) ?_
  obtain ⟨hL_33, hw⟩ := hw
  refine n_newZ hC ka_az hwo hsz hS hv hL_33 (by decide) (by decide) (by decide) (by decide) (by decide) dC_init_66 (fun H hwo hsz hS => ?_)
  replace hv := vz.mono hv (Nat.le_succ _)
  obtain ⟨ho_34, hw⟩ := hw
  obtain ⟨hz_35, hw⟩ := hw
  refine n_putR hC hin flC_37 (fun _ => ⟨rfl, rfl⟩) rfl hwo hsz hS hv ho_34 hz_35 dC_init_68 (fun U_36 eU_36 hv H locs hwo hsz hS => ?_)
  replace hw := hw U_36 eU_36
  exact n_ret hC hr hlk hw hwo hsz hS dC_init_71
theorem dP_init_0 : decode kP_init 0 = .ok (.aload_n 0, 1) := by decide +kernel
theorem dP_init_1 : decode kP_init 1 = .ok (.invokespecial 3, 3) := by decide +kernel
theorem dP_init_4 : decode kP_init 4 = .ok (.aload_n 0, 1) := by decide +kernel
theorem dP_init_5 : decode kP_init 5 = .ok (.iconst 1, 1) := by decide +kernel
theorem dP_init_6 : decode kP_init 6 = .ok (.putfield 9, 3) := by decide +kernel
theorem dP_init_9 : decode kP_init 9 = .ok (.aload_n 0, 1) := by decide +kernel
theorem dP_init_10 : decode kP_init 10 = .ok (.iconst 1, 1) := by decide +kernel
theorem dP_init_11 : decode kP_init 11 = .ok (.putfield 15, 3) := by decide +kernel
theorem dP_init_14 : decode kP_init 14 = .ok (.aload_n 0, 1) := by decide +kernel
theorem dP_init_15 : decode kP_init 15 = .ok (.iconst 1, 1) := by decide +kernel
theorem dP_init_16 : decode kP_init 16 = .ok (.putfield 18, 3) := by decide +kernel
theorem dP_init_19 : decode kP_init 19 = .ok (.aload_n 0, 1) := by decide +kernel
theorem dP_init_20 : decode kP_init 20 = .ok (.iconst 4, 1) := by decide +kernel
theorem dP_init_21 : decode kP_init 21 = .ok (.newarray .int, 2) := by decide +kernel
theorem dP_init_23 : decode kP_init 23 = .ok (.putfield 21, 3) := by decide +kernel
theorem dP_init_26 : decode kP_init 26 = .ok (.aload_n 0, 1) := by decide +kernel
theorem dP_init_27 : decode kP_init 27 = .ok (.iconst 2, 1) := by decide +kernel
theorem dP_init_28 : decode kP_init 28 = .ok (.newarray .int, 2) := by decide +kernel
theorem dP_init_30 : decode kP_init 30 = .ok (.putfield 25, 3) := by decide +kernel
theorem dP_init_33 : decode kP_init 33 = .ok (.aload_n 0, 1) := by decide +kernel
theorem dP_init_34 : decode kP_init 34 = .ok (.iconst 2, 1) := by decide +kernel
theorem dP_init_35 : decode kP_init 35 = .ok (.bipush 64, 2) := by decide +kernel
theorem dP_init_37 : decode kP_init 37 = .ok (.multianewarray 28 2, 4) := by decide +kernel
theorem dP_init_41 : decode kP_init 41 = .ok (.putfield 30, 3) := by decide +kernel
theorem dP_init_44 : decode kP_init 44 = .ok (.return_, 1) := by decide +kernel
abbrev rcP_init : Room := { frames := 1, cells := 5, slots := 136, locals := 20 }
def wp_P_init (θ : TH) (a0 : Nat) (N : Nat) (V : VT) (U : UT) (K : Nat → VT → UT → Prop) : Prop := vz θ N V U ∧ isO (θn θ N) a0 10 ∧ ∀ V_2 : VT, V_2 = up2 V a0 0 (1 : Int32) → ∀ V_3 : VT, V_3 = up2 V_2 a0 4 (1 : Int32) → ∀ V_4 : VT, V_4 = up2 V_3 a0 5 (1 : Int32) → tL θ N = (1, 0, 4) ∧ isO (θn θ (N + 1)) a0 10 ∧ (tb θ + N) ≠ 0 ∧ ∀ U_8 : UT, U_8 = up2 U a0 7 (tb θ + N) → tL θ (N + 1) = (1, 0, 2) ∧ isO (θn θ (N + 2)) a0 10 ∧ (tb θ + (N + 1)) ≠ 0 ∧ ∀ U_12 : UT, U_12 = up2 U_8 a0 10 (tb θ + (N + 1)) → tL θ (N + 2) = (2, 6, 2) ∧ tL θ (N + 3) = (1, 0, 64) ∧ tL θ (N + 4) = (1, 0, 64) ∧ ∀ U_16 : UT, U_16 = up2 (up2 U_12 (tb θ + (N + 2)) 0 (tb θ + (N + 3))) (tb θ + (N + 2)) 1 (tb θ + (N + 4)) → isO (θn θ (N + 5)) a0 10 ∧ (tb θ + (N + 2)) ≠ 0 ∧ ∀ U_19 : UT, U_19 = up2 U_16 a0 11 (tb θ + (N + 2)) → K (N + 5) V_4 U_19
set_option maxRecDepth 100000 in
set_option maxHeartbeats 4000000 in
theorem c_P_init (l : Launch) (θ : TH) (a0 : Nat) (N : Nat) (V : VT) (U : UT) (K : Nat → VT → UT → Prop) (hw : wp_P_init θ a0 N V U K) : CMc l yP_init kP_init 1 rcP_init θ [.ref a0] N V U K 5 136 := by
  refine n_met nRP (by decide +kernel) rfl rfl (Nat.le_of_ble_eq_true rfl) (fun p e s m args below meth c ls hC hov hin hr hlk hwo hsz hl => ?_)
  have hx := hC.1
  have hb := hC.2.1
  have hS : Sx θ s s.heap [] := va_S.rf
  have hl : lv_has ls 1 [(0, .ref a0)] := hl
  unfold wp_P_init at hw
  obtain ⟨hv, hw⟩ := hw
  refine lv_aload_n hx hb dP_init_0 rfl (lv_at hl 0 rfl) ?_
  refine n_obj hC lkP_3 ka_obj hl.1 (by decide) (by decide) dP_init_1 ?_
  refine lv_aload_n hx hb dP_init_4 rfl (lv_at hl 0 rfl) ?_
  refine lv_iconst (v := 1) hx hb dP_init_5 (by decide) ?_
  obtain ⟨ho_1, hw⟩ := hw
  refine n_putI hC hin flP_9 rfl hwo hsz hS hv ho_1 dP_init_6 (fun V_2 eV_2 hv H locs hwo hsz hS => ?_)
  replace hw := hw V_2 eV_2
  refine lv_aload_n hx hb dP_init_9 rfl (lv_at hl 0 rfl) ?_
  refine lv_iconst (v := 1) hx hb dP_init_10 (by decide) ?_
  refine n_putI hC hin flP_15 rfl hwo hsz hS hv ho_1 dP_init_11 (fun V_3 eV_3 hv H locs hwo hsz hS => ?_)
  replace hw := hw V_3 eV_3
  refine lv_aload_n hx hb dP_init_14 rfl (lv_at hl 0 rfl) ?_
  refine lv_iconst (v := 1) hx hb dP_init_15 (by decide) ?_
  refine n_putI hC hin flP_18 rfl hwo hsz hS hv ho_1 dP_init_16 (fun V_4 eV_4 hv H locs hwo hsz hS => ?_)
  replace hw := hw V_4 eV_4
  refine lv_aload_n hx hb dP_init_19 rfl (lv_at hl 0 rfl) ?_
  refine lv_iconst (v := 4) hx hb dP_init_20 (by decide) ?_
  obtain ⟨hL_5, hw⟩ := hw
  refine n_newI hC ka_ai hwo hsz hS hv hL_5 (by decide) (by decide) (by decide) (by decide) (by decide) dP_init_21 (fun H hwo hsz hS => ?_)
  replace hv := vz.mono hv (Nat.le_succ _)
  obtain ⟨ho_6, hw⟩ := hw
  obtain ⟨hz_7, hw⟩ := hw
  refine n_putR hC hin flP_21 (fun _ => ⟨rfl, rfl⟩) rfl hwo hsz hS hv ho_6 hz_7 dP_init_23 (fun U_8 eU_8 hv H locs hwo hsz hS => ?_)
  replace hw := hw U_8 eU_8
  refine lv_aload_n hx hb dP_init_26 rfl (lv_at hl 0 rfl) ?_
  refine lv_iconst (v := 2) hx hb dP_init_27 (by decide) ?_
  obtain ⟨hL_9, hw⟩ := hw
  refine n_newI hC ka_ai hwo hsz hS hv hL_9 (by decide) (by decide) (by decide) (by decide) (by decide) dP_init_28 (fun H hwo hsz hS => ?_)
  replace hv := vz.mono hv (Nat.le_succ _)
  obtain ⟨ho_10, hw⟩ := hw
  obtain ⟨hz_11, hw⟩ := hw
  refine n_putR hC hin flP_25 (fun _ => ⟨rfl, rfl⟩) rfl hwo hsz hS hv ho_10 hz_11 dP_init_30 (fun U_12 eU_12 hv H locs hwo hsz hS => ?_)
  replace hw := hw U_12 eU_12
  refine lv_aload_n hx hb dP_init_33 rfl (lv_at hl 0 rfl) ?_
  refine lv_iconst (v := 2) hx hb dP_init_34 (by decide) ?_
  refine lv_bipush (v := 64) hx hb dP_init_35 (by decide) ?_
  obtain ⟨hL_13, hw⟩ := hw
  obtain ⟨hL_14, hw⟩ := hw
  obtain ⟨hL_15, hw⟩ := hw
  refine n_mna hC hov clP_28 ka_ai hwo hsz hS hv hL_13 hL_14 hL_15 (by decide) (by decide) (by decide) (by decide) (by decide) dP_init_37 (fun U_16 eU_16 hv H hwo hsz hS => ?_)
  replace hw := hw U_16 eU_16
  obtain ⟨ho_17, hw⟩ := hw
  obtain ⟨hz_18, hw⟩ := hw
  refine n_putR hC hin flP_30 (fun _ => ⟨rfl, rfl⟩) rfl hwo hsz hS hv ho_17 hz_18 dP_init_41 (fun U_19 eU_19 hv H locs hwo hsz hS => ?_)
  replace hw := hw U_19 eU_19
  exact n_ret hC hr hlk hw hwo hsz hS dP_init_44
theorem dD_init_0 : decode kD_init 0 = .ok (.aload_n 0, 1) := by decide +kernel
theorem dD_init_1 : decode kD_init 1 = .ok (.invokespecial 3, 3) := by decide +kernel
theorem dD_init_4 : decode kD_init 4 = .ok (.aload_n 0, 1) := by decide +kernel
theorem dD_init_5 : decode kD_init 5 = .ok (.iconst 4, 1) := by decide +kernel
theorem dD_init_6 : decode kD_init 6 = .ok (.anewarray 9, 3) := by decide +kernel
theorem dD_init_9 : decode kD_init 9 = .ok (.putfield 11, 3) := by decide +kernel
theorem dD_init_12 : decode kD_init 12 = .ok (.aload_n 0, 1) := by decide +kernel
theorem dD_init_13 : decode kD_init 13 = .ok (.new 17, 3) := by decide +kernel
theorem dD_init_16 : decode kD_init 16 = .ok (.dup, 1) := by decide +kernel
theorem dD_init_17 : decode kD_init 17 = .ok (.invokespecial 19, 3) := by decide +kernel
theorem dD_init_20 : decode kD_init 20 = .ok (.putfield 20, 3) := by decide +kernel
theorem dD_init_23 : decode kD_init 23 = .ok (.aload_n 0, 1) := by decide +kernel
theorem dD_init_24 : decode kD_init 24 = .ok (.new 24, 3) := by decide +kernel
theorem dD_init_27 : decode kD_init 27 = .ok (.dup, 1) := by decide +kernel
theorem dD_init_28 : decode kD_init 28 = .ok (.invokespecial 26, 3) := by decide +kernel
theorem dD_init_31 : decode kD_init 31 = .ok (.putfield 27, 3) := by decide +kernel
theorem dD_init_34 : decode kD_init 34 = .ok (.aload_n 0, 1) := by decide +kernel
theorem dD_init_35 : decode kD_init 35 = .ok (.new 17, 3) := by decide +kernel
theorem dD_init_38 : decode kD_init 38 = .ok (.dup, 1) := by decide +kernel
theorem dD_init_39 : decode kD_init 39 = .ok (.invokespecial 19, 3) := by decide +kernel
theorem dD_init_42 : decode kD_init 42 = .ok (.putfield 31, 3) := by decide +kernel
theorem dD_init_45 : decode kD_init 45 = .ok (.aload_n 0, 1) := by decide +kernel
theorem dD_init_46 : decode kD_init 46 = .ok (.new 24, 3) := by decide +kernel
theorem dD_init_49 : decode kD_init 49 = .ok (.dup, 1) := by decide +kernel
theorem dD_init_50 : decode kD_init 50 = .ok (.invokespecial 26, 3) := by decide +kernel
theorem dD_init_53 : decode kD_init 53 = .ok (.putfield 34, 3) := by decide +kernel
theorem dD_init_56 : decode kD_init 56 = .ok (.aload_n 0, 1) := by decide +kernel
theorem dD_init_57 : decode kD_init 57 = .ok (.iconst 2, 1) := by decide +kernel
theorem dD_init_58 : decode kD_init 58 = .ok (.bipush 32, 2) := by decide +kernel
theorem dD_init_60 : decode kD_init 60 = .ok (.multianewarray 37 2, 4) := by decide +kernel
theorem dD_init_64 : decode kD_init 64 = .ok (.putfield 39, 3) := by decide +kernel
theorem dD_init_67 : decode kD_init 67 = .ok (.aload_n 0, 1) := by decide +kernel
theorem dD_init_68 : decode kD_init 68 = .ok (.iconst 2, 1) := by decide +kernel
theorem dD_init_69 : decode kD_init 69 = .ok (.bipush 32, 2) := by decide +kernel
theorem dD_init_71 : decode kD_init 71 = .ok (.multianewarray 37 2, 4) := by decide +kernel
theorem dD_init_75 : decode kD_init 75 = .ok (.putfield 42, 3) := by decide +kernel
theorem dD_init_78 : decode kD_init 78 = .ok (.aload_n 0, 1) := by decide +kernel
theorem dD_init_79 : decode kD_init 79 = .ok (.aload_n 1, 1) := by decide +kernel
theorem dD_init_80 : decode kD_init 80 = .ok (.putfield 45, 3) := by decide +kernel
theorem dD_init_83 : decode kD_init 83 = .ok (.iconst 0, 1) := by decide +kernel
theorem dD_init_84 : decode kD_init 84 = .ok (.istore_n 2, 1) := by decide +kernel
theorem dD_init_85 : decode kD_init 85 = .ok (.iload_n 2, 1) := by decide +kernel
theorem dD_init_86 : decode kD_init 86 = .ok (.iconst 4, 1) := by decide +kernel
theorem dD_init_87 : decode kD_init 87 = .ok (.if_icmp .ge 22, 3) := by decide +kernel
theorem dD_init_90 : decode kD_init 90 = .ok (.aload_n 0, 1) := by decide +kernel
theorem dD_init_91 : decode kD_init 91 = .ok (.getfield 11, 3) := by decide +kernel
theorem dD_init_94 : decode kD_init 94 = .ok (.iload_n 2, 1) := by decide +kernel
theorem dD_init_95 : decode kD_init 95 = .ok (.new 9, 3) := by decide +kernel
theorem dD_init_98 : decode kD_init 98 = .ok (.dup, 1) := by decide +kernel
theorem dD_init_99 : decode kD_init 99 = .ok (.invokespecial 49, 3) := by decide +kernel
theorem dD_init_102 : decode kD_init 102 = .ok (.aastore, 1) := by decide +kernel
theorem dD_init_103 : decode kD_init 103 = .ok (.iinc 2 1, 3) := by decide +kernel
theorem dD_init_106 : decode kD_init 106 = .ok (.goto (-21), 3) := by decide +kernel
theorem dD_init_109 : decode kD_init 109 = .ok (.return_, 1) := by decide +kernel
abbrev rcD_init : Room := { frames := 2, cells := 59, slots := 946, locals := 40 }
def wp_D_init (θ : TH) (a0 : Nat) (a1 : Nat) (N : Nat) (V : VT) (U : UT) (K : Nat → VT → UT → Prop) : Prop := vz θ N V U ∧ tL θ N = (2, 5, 4) ∧ isO (θn θ (N + 1)) a0 11 ∧ (tb θ + N) ≠ 0 ∧ ∀ U_4 : UT, U_4 = up2 U a0 1 (tb θ + N) → tL θ (N + 1) = (0, 9, 12) ∧ wp_C_init θ (tb θ + (N + 1)) (N + 2) V U_4 (fun N_6 V_7 U_8 => vz θ N_6 V_7 U_8 ∧ isO (θn θ N_6) a0 11 ∧ (tb θ + (N + 1)) ≠ 0 ∧ ∀ U_11 : UT, U_11 = up2 U_8 a0 7 (tb θ + (N + 1)) → tL θ N_6 = (0, 10, 12) ∧ wp_P_init θ (tb θ + N_6) (N_6 + 1) V_7 U_11 (fun N_13 V_14 U_15 => vz θ N_13 V_14 U_15 ∧ isO (θn θ N_13) a0 11 ∧ (tb θ + N_6) ≠ 0 ∧ ∀ U_18 : UT, U_18 = up2 U_15 a0 8 (tb θ + N_6) → tL θ N_13 = (0, 9, 12) ∧ wp_C_init θ (tb θ + N_13) (N_13 + 1) V_14 U_18 (fun N_20 V_21 U_22 => vz θ N_20 V_21 U_22 ∧ isO (θn θ N_20) a0 11 ∧ (tb θ + N_13) ≠ 0 ∧ ∀ U_25 : UT, U_25 = up2 U_22 a0 9 (tb θ + N_13) → tL θ N_20 = (0, 10, 12) ∧ wp_P_init θ (tb θ + N_20) (N_20 + 1) V_21 U_25 (fun N_27 V_28 U_29 => vz θ N_27 V_28 U_29 ∧ isO (θn θ N_27) a0 11 ∧ (tb θ + N_20) ≠ 0 ∧ ∀ U_32 : UT, U_32 = up2 U_29 a0 10 (tb θ + N_20) → tL θ N_27 = (2, 6, 2) ∧ tL θ (N_27 + 1) = (1, 0, 32) ∧ tL θ (N_27 + 2) = (1, 0, 32) ∧ ∀ U_36 : UT, U_36 = up2 (up2 U_32 (tb θ + N_27) 0 (tb θ + (N_27 + 1))) (tb θ + N_27) 1 (tb θ + (N_27 + 2)) → isO (θn θ (N_27 + 3)) a0 11 ∧ (tb θ + N_27) ≠ 0 ∧ ∀ U_39 : UT, U_39 = up2 U_36 a0 13 (tb θ + N_27) → tL θ (N_27 + 3) = (2, 6, 2) ∧ tL θ (N_27 + 4) = (1, 0, 32) ∧ tL θ (N_27 + 5) = (1, 0, 32) ∧ ∀ U_43 : UT, U_43 = up2 (up2 U_39 (tb θ + (N_27 + 3)) 0 (tb θ + (N_27 + 4))) (tb θ + (N_27 + 3)) 1 (tb θ + (N_27 + 5)) → isO (θn θ (N_27 + 6)) a0 11 ∧ (tb θ + (N_27 + 3)) ≠ 0 ∧ ∀ U_46 : UT, U_46 = up2 U_43 a0 14 (tb θ + (N_27 + 3)) → a1 ≠ 0 ∧ ∀ U_48 : UT, U_48 = up2 U_46 a0 0 a1 → (U_48 a0 1) ≠ 0 ∧ tL θ (N_27 + 6) = (0, 8, 8) ∧ wp_B_init θ (tb θ + (N_27 + 6)) (N_27 + 7) V_28 U_48 (fun N_51 V_52 U_53 => vz θ N_51 V_52 U_53 ∧ ∃ n_54, isR (θn θ N_51) (U_48 a0 1) 5 n_54 ∧ isO (θn θ N_51) (tb θ + (N_27 + 6)) 8 ∧ (tb θ + (N_27 + 6)) ≠ 0 ∧ vp_in (0 : Int32) n_54 ∧ ∀ U_59 : UT, U_59 = up2 U_53 (U_48 a0 1) (0 : Int32).toNatClampNeg (tb θ + (N_27 + 6)) → isO (θn θ N_51) a0 11 ∧ (U_59 a0 1) ≠ 0 ∧ tL θ N_51 = (0, 8, 8) ∧ wp_B_init θ (tb θ + N_51) (N_51 + 1) V_52 U_59 (fun N_63 V_64 U_65 => vz θ N_63 V_64 U_65 ∧ ∃ n_66, isR (θn θ N_63) (U_59 a0 1) 5 n_66 ∧ isO (θn θ N_63) (tb θ + N_51) 8 ∧ (tb θ + N_51) ≠ 0 ∧ vp_in (1 : Int32) n_66 ∧ ∀ U_71 : UT, U_71 = up2 U_65 (U_59 a0 1) (1 : Int32).toNatClampNeg (tb θ + N_51) → isO (θn θ N_63) a0 11 ∧ (U_71 a0 1) ≠ 0 ∧ tL θ N_63 = (0, 8, 8) ∧ wp_B_init θ (tb θ + N_63) (N_63 + 1) V_64 U_71 (fun N_75 V_76 U_77 => vz θ N_75 V_76 U_77 ∧ ∃ n_78, isR (θn θ N_75) (U_71 a0 1) 5 n_78 ∧ isO (θn θ N_75) (tb θ + N_63) 8 ∧ (tb θ + N_63) ≠ 0 ∧ vp_in (2 : Int32) n_78 ∧ ∀ U_83 : UT, U_83 = up2 U_77 (U_71 a0 1) (2 : Int32).toNatClampNeg (tb θ + N_63) → isO (θn θ N_75) a0 11 ∧ (U_83 a0 1) ≠ 0 ∧ tL θ N_75 = (0, 8, 8) ∧ wp_B_init θ (tb θ + N_75) (N_75 + 1) V_76 U_83 (fun N_87 V_88 U_89 => vz θ N_87 V_88 U_89 ∧ ∃ n_90, isR (θn θ N_87) (U_83 a0 1) 5 n_90 ∧ isO (θn θ N_87) (tb θ + N_75) 8 ∧ (tb θ + N_75) ≠ 0 ∧ vp_in (3 : Int32) n_90 ∧ ∀ U_95 : UT, U_95 = up2 U_89 (U_83 a0 1) (3 : Int32).toNatClampNeg (tb θ + N_75) → K N_87 V_88 U_95))))))))
set_option maxRecDepth 100000 in
set_option maxHeartbeats 4000000 in
theorem c_D_init (l : Launch) (θ : TH) (a0 : Nat) (a1 : Nat) (N : Nat) (V : VT) (U : UT) (K : Nat → VT → UT → Prop) (hw : wp_D_init θ a0 a1 N V U K) : CMc l yD_init kD_init 3 rcD_init θ [.ref a0, .ref a1] N V U K 59 946 := by
  refine n_met nRD (by decide +kernel) rfl rfl (Nat.le_of_ble_eq_true rfl) (fun p e s m args below meth c ls hC hov hin hr hlk hwo hsz hl => ?_)
  have hx := hC.1
  have hb := hC.2.1
  have hS : Sx θ s s.heap [] := va_S.rf
  have hl : lv_has ls 3 [(0, .ref a0), (1, .ref a1)] := hl
  unfold wp_D_init at hw
  obtain ⟨hv, hw⟩ := hw
  refine lv_aload_n hx hb dD_init_0 rfl (lv_at hl 0 rfl) ?_
  refine n_obj hC lkD_3 ka_obj hl.1 (by decide) (by decide) dD_init_1 ?_
  refine lv_aload_n hx hb dD_init_4 rfl (lv_at hl 0 rfl) ?_
  refine lv_iconst (v := 4) hx hb dD_init_5 (by decide) ?_
  obtain ⟨hL_1, hw⟩ := hw
  refine n_newQ (t := 5) hC (by decide) rfl clD_9 hov.2.2.2.1 hwo hsz hS hv hL_1 (by decide) (by decide) (by decide) (by decide) (by decide) dD_init_6 (fun H hwo hsz hS => ?_)
  replace hv := vz.mono hv (Nat.le_succ _)
  obtain ⟨ho_2, hw⟩ := hw
  obtain ⟨hz_3, hw⟩ := hw
  refine n_putR hC hin flD_11 (fun _ => ⟨rfl, rfl⟩) rfl hwo hsz hS hv ho_2 hz_3 dD_init_9 (fun U_4 eU_4 hv H locs hwo hsz hS => ?_)
  replace hw := hw U_4 eU_4
  refine lv_aload_n hx hb dD_init_12 rfl (lv_at hl 0 rfl) ?_
  obtain ⟨hL_5, hw⟩ := hw
  refine n_new hC ci_9 nYC npC ndC clD_17 inC izC hwo hsz hS hv hL_5 (by decide) (by decide) dD_init_13 (fun H hwo hsz hS => ?_)
  replace hv := vz.mono hv (Nat.le_succ _)
  refine lv_dup hx hb dD_init_16 rfl ?_
  refine n_ctor (rest := [.ref (tb θ + (N + 1)), .ref a0]) hC hov (c_C_init l θ _ _ _ _ _ hw) mi_C_init mlD_19 rfl mj_C_init hwo hsz hS ⟨rfl, rfl⟩ ⟨by decide, by decide⟩ rfl hl.1 rfl (Nat.le_of_ble_eq_true rfl) ⟨by decide, by decide⟩ dD_init_17 (fun N_6 V_7 U_8 hw H locs hwo hsz hS => ?_)
  obtain ⟨hv, hw⟩ := hw
  obtain ⟨ho_9, hw⟩ := hw
  obtain ⟨hz_10, hw⟩ := hw
  refine n_putR hC hin flD_20 (fun _ => ⟨rfl, rfl⟩) rfl hwo hsz hS hv ho_9 hz_10 dD_init_20 (fun U_11 eU_11 hv H locs hwo hsz hS => ?_)
  replace hw := hw U_11 eU_11
  refine lv_aload_n hx hb dD_init_23 rfl (lv_at hl 0 rfl) ?_
  obtain ⟨hL_12, hw⟩ := hw
  refine n_new hC ci_10 nYP npP ndP clD_24 inP izP hwo hsz hS hv hL_12 (by decide) (by decide) dD_init_24 (fun H hwo hsz hS => ?_)
  replace hv := vz.mono hv (Nat.le_succ _)
  refine lv_dup hx hb dD_init_27 rfl ?_
  refine n_ctor (rest := [.ref (tb θ + N_6), .ref a0]) hC hov (c_P_init l θ _ _ _ _ _ hw) mi_P_init mlD_26 rfl mj_P_init hwo hsz hS ⟨rfl, rfl⟩ ⟨by decide, by decide⟩ rfl hl.1 rfl (Nat.le_of_ble_eq_true rfl) ⟨by decide, by decide⟩ dD_init_28 (fun N_13 V_14 U_15 hw H locs hwo hsz hS => ?_)
  obtain ⟨hv, hw⟩ := hw
  obtain ⟨ho_16, hw⟩ := hw
  obtain ⟨hz_17, hw⟩ := hw
  refine n_putR hC hin flD_27 (fun _ => ⟨rfl, rfl⟩) rfl hwo hsz hS hv ho_16 hz_17 dD_init_31 (fun U_18 eU_18 hv H locs hwo hsz hS => ?_)
  replace hw := hw U_18 eU_18
  refine lv_aload_n hx hb dD_init_34 rfl (lv_at hl 0 rfl) ?_
  obtain ⟨hL_19, hw⟩ := hw
  refine n_new hC ci_9 nYC npC ndC clD_17 inC izC hwo hsz hS hv hL_19 (by decide) (by decide) dD_init_35 (fun H hwo hsz hS => ?_)
  replace hv := vz.mono hv (Nat.le_succ _)
  refine lv_dup hx hb dD_init_38 rfl ?_
  refine n_ctor (rest := [.ref (tb θ + N_13), .ref a0]) hC hov (c_C_init l θ _ _ _ _ _ hw) mi_C_init mlD_19 rfl mj_C_init hwo hsz hS ⟨rfl, rfl⟩ ⟨by decide, by decide⟩ rfl hl.1 rfl (Nat.le_of_ble_eq_true rfl) ⟨by decide, by decide⟩ dD_init_39 (fun N_20 V_21 U_22 hw H locs hwo hsz hS => ?_)
  obtain ⟨hv, hw⟩ := hw
  obtain ⟨ho_23, hw⟩ := hw
  obtain ⟨hz_24, hw⟩ := hw
  refine n_putR hC hin flD_31 (fun _ => ⟨rfl, rfl⟩) rfl hwo hsz hS hv ho_23 hz_24 dD_init_42 (fun U_25 eU_25 hv H locs hwo hsz hS => ?_)
  replace hw := hw U_25 eU_25
  refine lv_aload_n hx hb dD_init_45 rfl (lv_at hl 0 rfl) ?_
  obtain ⟨hL_26, hw⟩ := hw
  refine n_new hC ci_10 nYP npP ndP clD_24 inP izP hwo hsz hS hv hL_26 (by decide) (by decide) dD_init_46 (fun H hwo hsz hS => ?_)
  replace hv := vz.mono hv (Nat.le_succ _)
  refine lv_dup hx hb dD_init_49 rfl ?_
  refine n_ctor (rest := [.ref (tb θ + N_20), .ref a0]) hC hov (c_P_init l θ _ _ _ _ _ hw) mi_P_init mlD_26 rfl mj_P_init hwo hsz hS ⟨rfl, rfl⟩ ⟨by decide, by decide⟩ rfl hl.1 rfl (Nat.le_of_ble_eq_true rfl) ⟨by decide, by decide⟩ dD_init_50 (fun N_27 V_28 U_29 hw H locs hwo hsz hS => ?_)
  obtain ⟨hv, hw⟩ := hw
  obtain ⟨ho_30, hw⟩ := hw
  obtain ⟨hz_31, hw⟩ := hw
  refine n_putR hC hin flD_34 (fun _ => ⟨rfl, rfl⟩) rfl hwo hsz hS hv ho_30 hz_31 dD_init_53 (fun U_32 eU_32 hv H locs hwo hsz hS => ?_)
  replace hw := hw U_32 eU_32
  refine lv_aload_n hx hb dD_init_56 rfl (lv_at hl 0 rfl) ?_
  refine lv_iconst (v := 2) hx hb dD_init_57 (by decide) ?_
  refine lv_bipush (v := 32) hx hb dD_init_58 (by decide) ?_
  obtain ⟨hL_33, hw⟩ := hw
  obtain ⟨hL_34, hw⟩ := hw
  obtain ⟨hL_35, hw⟩ := hw
  refine n_mna hC hov clD_37 ka_ai hwo hsz hS hv hL_33 hL_34 hL_35 (by decide) (by decide) (by decide) (by decide) (by decide) dD_init_60 (fun U_36 eU_36 hv H hwo hsz hS => ?_)
  replace hw := hw U_36 eU_36
  obtain ⟨ho_37, hw⟩ := hw
  obtain ⟨hz_38, hw⟩ := hw
  refine n_putR hC hin flD_39 (fun _ => ⟨rfl, rfl⟩) rfl hwo hsz hS hv ho_37 hz_38 dD_init_64 (fun U_39 eU_39 hv H locs hwo hsz hS => ?_)
  replace hw := hw U_39 eU_39
  refine lv_aload_n hx hb dD_init_67 rfl (lv_at hl 0 rfl) ?_
  refine lv_iconst (v := 2) hx hb dD_init_68 (by decide) ?_
  refine lv_bipush (v := 32) hx hb dD_init_69 (by decide) ?_
  obtain ⟨hL_40, hw⟩ := hw
  obtain ⟨hL_41, hw⟩ := hw
  obtain ⟨hL_42, hw⟩ := hw
  refine n_mna hC hov clD_37 ka_ai hwo hsz hS hv hL_40 hL_41 hL_42 (by decide) (by decide) (by decide) (by decide) (by decide) dD_init_71 (fun U_43 eU_43 hv H hwo hsz hS => ?_)
  replace hw := hw U_43 eU_43
  obtain ⟨ho_44, hw⟩ := hw
  obtain ⟨hz_45, hw⟩ := hw
  refine n_putR hC hin flD_42 (fun _ => ⟨rfl, rfl⟩) rfl hwo hsz hS hv ho_44 hz_45 dD_init_75 (fun U_46 eU_46 hv H locs hwo hsz hS => ?_)
  replace hw := hw U_46 eU_46
  refine lv_aload_n hx hb dD_init_78 rfl (lv_at hl 0 rfl) ?_
  refine lv_aload_n hx hb dD_init_79 rfl (lv_at hl 1 rfl) ?_
  obtain ⟨hz_47, hw⟩ := hw
  refine n_putR hC hin flD_45 (fun _ => ⟨rfl, rfl⟩) rfl hwo hsz hS hv ho_44 hz_47 dD_init_80 (fun U_48 eU_48 hv H locs hwo hsz hS => ?_)
  replace hw := hw U_48 eU_48
  refine lv_iconst (v := 0) hx hb dD_init_83 (by decide) ?_
  refine lv_istore_n (i := 2) (lv' := [(2, .int (0 : Int32)), (0, .ref a0), (1, .ref a1)]) hx hb dD_init_84 rfl hl (by decide) rfl (fun ls hl => ?_)
  refine lv_iload_n hx hb dD_init_85 rfl (lv_at hl 0 rfl) ?_
  refine lv_iconst (v := 4) hx hb dD_init_86 (by decide) ?_
  refine lv_icmp_ge (tgt := 109) hx hb dD_init_87 (by decide) (fun h => absurd h (by decide)) (fun _ => ?_)
  refine lv_aload_n hx hb dD_init_90 rfl (lv_at hl 1 rfl) ?_
  obtain ⟨hz_49, hw⟩ := hw
  refine n_getR hC fkD_11 rfl hwo ho_44 hz_49 dD_init_91 ?_
  refine lv_iload_n hx hb dD_init_94 rfl (lv_at hl 0 rfl) ?_
  obtain ⟨hL_50, hw⟩ := hw
  refine n_new hC ci_8 nYB npB ndB clD_9 inB izB hwo hsz hS hv hL_50 (by decide) (by decide) dD_init_95 (fun H hwo hsz hS => ?_)
  replace hv := vz.mono hv (Nat.le_succ _)
  refine lv_dup hx hb dD_init_98 rfl ?_
  refine n_ctor (rest := [.ref (tb θ + (N_27 + 6)), .int (0 : Int32), .ref (U_48 a0 1)]) hC hov (c_B_init l θ _ _ _ _ _ hw) mi_B_init mlD_49 rfl mj_B_init hwo hsz hS ⟨rfl, rfl⟩ ⟨by decide, by decide⟩ rfl hl.1 rfl (Nat.le_of_ble_eq_true rfl) ⟨by decide, by decide⟩ dD_init_99 (fun N_51 V_52 U_53 hw H locs hwo hsz hS => ?_)
  obtain ⟨hv, hw⟩ := hw
  obtain ⟨n_54, ha_55, hw⟩ := hw
  obtain ⟨ho_56, hw⟩ := hw
  obtain ⟨hz_57, hw⟩ := hw
  obtain ⟨hi_58, hw⟩ := hw
  refine n_aast (t := 5) hC (by decide) rfl ci_8 hwo hsz hS hv ha_55 ho_56 hz_57 hi_58 dD_init_102 (fun U_59 eU_59 hv H locs hwo hsz hS => ?_)
  replace hw := hw U_59 eU_59
  refine lv_iinc (k := 0) (v := 1) (lv' := [(2, .int (1 : Int32)), (0, .ref a0), (1, .ref a1)]) hx hb dD_init_103 hl rfl (by decide) (by decide) rfl (fun ls hl => ?_)
  refine lv_goto (tgt := 85) hx hb dD_init_106 (by decide) ?_
  refine lv_iload_n hx hb dD_init_85 rfl (lv_at hl 0 rfl) ?_
  refine lv_iconst (v := 4) hx hb dD_init_86 (by decide) ?_
  refine lv_icmp_ge (tgt := 109) hx hb dD_init_87 (by decide) (fun h => absurd h (by decide)) (fun _ => ?_)
  refine lv_aload_n hx hb dD_init_90 rfl (lv_at hl 1 rfl) ?_
  obtain ⟨ho_60, hw⟩ := hw
  obtain ⟨hz_61, hw⟩ := hw
  refine n_getR hC fkD_11 rfl hwo ho_60 hz_61 dD_init_91 ?_
  refine lv_iload_n hx hb dD_init_94 rfl (lv_at hl 0 rfl) ?_
  obtain ⟨hL_62, hw⟩ := hw
  refine n_new hC ci_8 nYB npB ndB clD_9 inB izB hwo hsz hS hv hL_62 (by decide) (by decide) dD_init_95 (fun H hwo hsz hS => ?_)
  replace hv := vz.mono hv (Nat.le_succ _)
  refine lv_dup hx hb dD_init_98 rfl ?_
  refine n_ctor (rest := [.ref (tb θ + N_51), .int (1 : Int32), .ref (U_59 a0 1)]) hC hov (c_B_init l θ _ _ _ _ _ hw) mi_B_init mlD_49 rfl mj_B_init hwo hsz hS ⟨rfl, rfl⟩ ⟨by decide, by decide⟩ rfl hl.1 rfl (Nat.le_of_ble_eq_true rfl) ⟨by decide, by decide⟩ dD_init_99 (fun N_63 V_64 U_65 hw H locs hwo hsz hS => ?_)
  obtain ⟨hv, hw⟩ := hw
  obtain ⟨n_66, ha_67, hw⟩ := hw
  obtain ⟨ho_68, hw⟩ := hw
  obtain ⟨hz_69, hw⟩ := hw
  obtain ⟨hi_70, hw⟩ := hw
  refine n_aast (t := 5) hC (by decide) rfl ci_8 hwo hsz hS hv ha_67 ho_68 hz_69 hi_70 dD_init_102 (fun U_71 eU_71 hv H locs hwo hsz hS => ?_)
  replace hw := hw U_71 eU_71
  refine lv_iinc (k := 0) (v := 2) (lv' := [(2, .int (2 : Int32)), (0, .ref a0), (1, .ref a1)]) hx hb dD_init_103 hl rfl (by decide) (by decide) rfl (fun ls hl => ?_)
  refine lv_goto (tgt := 85) hx hb dD_init_106 (by decide) ?_
  refine lv_iload_n hx hb dD_init_85 rfl (lv_at hl 0 rfl) ?_
  refine lv_iconst (v := 4) hx hb dD_init_86 (by decide) ?_
  refine lv_icmp_ge (tgt := 109) hx hb dD_init_87 (by decide) (fun h => absurd h (by decide)) (fun _ => ?_)
  refine lv_aload_n hx hb dD_init_90 rfl (lv_at hl 1 rfl) ?_
  obtain ⟨ho_72, hw⟩ := hw
  obtain ⟨hz_73, hw⟩ := hw
  refine n_getR hC fkD_11 rfl hwo ho_72 hz_73 dD_init_91 ?_
  refine lv_iload_n hx hb dD_init_94 rfl (lv_at hl 0 rfl) ?_
  obtain ⟨hL_74, hw⟩ := hw
  refine n_new hC ci_8 nYB npB ndB clD_9 inB izB hwo hsz hS hv hL_74 (by decide) (by decide) dD_init_95 (fun H hwo hsz hS => ?_)
  replace hv := vz.mono hv (Nat.le_succ _)
  refine lv_dup hx hb dD_init_98 rfl ?_
  refine n_ctor (rest := [.ref (tb θ + N_63), .int (2 : Int32), .ref (U_71 a0 1)]) hC hov (c_B_init l θ _ _ _ _ _ hw) mi_B_init mlD_49 rfl mj_B_init hwo hsz hS ⟨rfl, rfl⟩ ⟨by decide, by decide⟩ rfl hl.1 rfl (Nat.le_of_ble_eq_true rfl) ⟨by decide, by decide⟩ dD_init_99 (fun N_75 V_76 U_77 hw H locs hwo hsz hS => ?_)
  obtain ⟨hv, hw⟩ := hw
  obtain ⟨n_78, ha_79, hw⟩ := hw
  obtain ⟨ho_80, hw⟩ := hw
  obtain ⟨hz_81, hw⟩ := hw
  obtain ⟨hi_82, hw⟩ := hw
  refine n_aast (t := 5) hC (by decide) rfl ci_8 hwo hsz hS hv ha_79 ho_80 hz_81 hi_82 dD_init_102 (fun U_83 eU_83 hv H locs hwo hsz hS => ?_)
  replace hw := hw U_83 eU_83
  refine lv_iinc (k := 0) (v := 3) (lv' := [(2, .int (3 : Int32)), (0, .ref a0), (1, .ref a1)]) hx hb dD_init_103 hl rfl (by decide) (by decide) rfl (fun ls hl => ?_)
  refine lv_goto (tgt := 85) hx hb dD_init_106 (by decide) ?_
  refine lv_iload_n hx hb dD_init_85 rfl (lv_at hl 0 rfl) ?_
  refine lv_iconst (v := 4) hx hb dD_init_86 (by decide) ?_
  refine lv_icmp_ge (tgt := 109) hx hb dD_init_87 (by decide) (fun h => absurd h (by decide)) (fun _ => ?_)
  refine lv_aload_n hx hb dD_init_90 rfl (lv_at hl 1 rfl) ?_
  obtain ⟨ho_84, hw⟩ := hw
  obtain ⟨hz_85, hw⟩ := hw
  refine n_getR hC fkD_11 rfl hwo ho_84 hz_85 dD_init_91 ?_
  refine lv_iload_n hx hb dD_init_94 rfl (lv_at hl 0 rfl) ?_
  obtain ⟨hL_86, hw⟩ := hw
  refine n_new hC ci_8 nYB npB ndB clD_9 inB izB hwo hsz hS hv hL_86 (by decide) (by decide) dD_init_95 (fun H hwo hsz hS => ?_)
  replace hv := vz.mono hv (Nat.le_succ _)
  refine lv_dup hx hb dD_init_98 rfl ?_
  refine n_ctor (rest := [.ref (tb θ + N_75), .int (3 : Int32), .ref (U_83 a0 1)]) hC hov (c_B_init l θ _ _ _ _ _ hw) mi_B_init mlD_49 rfl mj_B_init hwo hsz hS ⟨rfl, rfl⟩ ⟨by decide, by decide⟩ rfl hl.1 rfl (Nat.le_of_ble_eq_true rfl) ⟨by decide, by decide⟩ dD_init_99 (fun N_87 V_88 U_89 hw H locs hwo hsz hS => ?_)
  obtain ⟨hv, hw⟩ := hw
  obtain ⟨n_90, ha_91, hw⟩ := hw
  obtain ⟨ho_92, hw⟩ := hw
  obtain ⟨hz_93, hw⟩ := hw
  obtain ⟨hi_94, hw⟩ := hw
  refine n_aast (t := 5) hC (by decide) rfl ci_8 hwo hsz hS hv ha_91 ho_92 hz_93 hi_94 dD_init_102 (fun U_95 eU_95 hv H locs hwo hsz hS => ?_)
  replace hw := hw U_95 eU_95
  refine lv_iinc (k := 0) (v := 4) (lv' := [(2, .int (4 : Int32)), (0, .ref a0), (1, .ref a1)]) hx hb dD_init_103 hl rfl (by decide) (by decide) rfl (fun ls hl => ?_)
  refine lv_goto (tgt := 85) hx hb dD_init_106 (by decide) ?_
  refine lv_iload_n hx hb dD_init_85 rfl (lv_at hl 0 rfl) ?_
  refine lv_iconst (v := 4) hx hb dD_init_86 (by decide) ?_
  refine lv_icmp_ge (tgt := 109) hx hb dD_init_87 (by decide) (fun _ => ?_) (fun h => absurd (show (4 : Int32) ≤ 4 by decide) h)
  exact n_ret hC hr hlk hw hwo hsz hS dD_init_109
theorem dS_init_0 : decode kS_init 0 = .ok (.aload_n 0, 1) := by decide +kernel
theorem dS_init_1 : decode kS_init 1 = .ok (.invokespecial 1, 3) := by decide +kernel
theorem dS_init_4 : decode kS_init 4 = .ok (.aload_n 0, 1) := by decide +kernel
theorem dS_init_5 : decode kS_init 5 = .ok (.new 7, 3) := by decide +kernel
theorem dS_init_8 : decode kS_init 8 = .ok (.dup, 1) := by decide +kernel
theorem dS_init_9 : decode kS_init 9 = .ok (.invokespecial 9, 3) := by decide +kernel
theorem dS_init_12 : decode kS_init 12 = .ok (.putfield 10, 3) := by decide +kernel
theorem dS_init_15 : decode kS_init 15 = .ok (.aload_n 0, 1) := by decide +kernel
theorem dS_init_16 : decode kS_init 16 = .ok (.bipush 64, 2) := by decide +kernel
theorem dS_init_18 : decode kS_init 18 = .ok (.newarray .int, 2) := by decide +kernel
theorem dS_init_20 : decode kS_init 20 = .ok (.putfield 16, 3) := by decide +kernel
theorem dS_init_23 : decode kS_init 23 = .ok (.aload_n 0, 1) := by decide +kernel
theorem dS_init_24 : decode kS_init 24 = .ok (.iconst 4, 1) := by decide +kernel
theorem dS_init_25 : decode kS_init 25 = .ok (.anewarray 20, 3) := by decide +kernel
theorem dS_init_28 : decode kS_init 28 = .ok (.putfield 22, 3) := by decide +kernel
theorem dS_init_31 : decode kS_init 31 = .ok (.iconst 0, 1) := by decide +kernel
theorem dS_init_32 : decode kS_init 32 = .ok (.istore_n 1, 1) := by decide +kernel
theorem dS_init_33 : decode kS_init 33 = .ok (.iload_n 1, 1) := by decide +kernel
theorem dS_init_34 : decode kS_init 34 = .ok (.iconst 4, 1) := by decide +kernel
theorem dS_init_35 : decode kS_init 35 = .ok (.if_icmp .ge 23, 3) := by decide +kernel
theorem dS_init_38 : decode kS_init 38 = .ok (.aload_n 0, 1) := by decide +kernel
theorem dS_init_39 : decode kS_init 39 = .ok (.getfield 22, 3) := by decide +kernel
theorem dS_init_42 : decode kS_init 42 = .ok (.iload_n 1, 1) := by decide +kernel
theorem dS_init_43 : decode kS_init 43 = .ok (.new 20, 3) := by decide +kernel
theorem dS_init_46 : decode kS_init 46 = .ok (.dup, 1) := by decide +kernel
theorem dS_init_47 : decode kS_init 47 = .ok (.iload_n 1, 1) := by decide +kernel
theorem dS_init_48 : decode kS_init 48 = .ok (.invokespecial 26, 3) := by decide +kernel
theorem dS_init_51 : decode kS_init 51 = .ok (.aastore, 1) := by decide +kernel
theorem dS_init_52 : decode kS_init 52 = .ok (.iinc 1 1, 3) := by decide +kernel
theorem dS_init_55 : decode kS_init 55 = .ok (.goto (-22), 3) := by decide +kernel
theorem dS_init_58 : decode kS_init 58 = .ok (.aload_n 0, 1) := by decide +kernel
theorem dS_init_59 : decode kS_init 59 = .ok (.new 29, 3) := by decide +kernel
theorem dS_init_62 : decode kS_init 62 = .ok (.dup, 1) := by decide +kernel
theorem dS_init_63 : decode kS_init 63 = .ok (.invokespecial 31, 3) := by decide +kernel
theorem dS_init_66 : decode kS_init 66 = .ok (.putfield 32, 3) := by decide +kernel
theorem dS_init_69 : decode kS_init 69 = .ok (.aload_n 0, 1) := by decide +kernel
theorem dS_init_70 : decode kS_init 70 = .ok (.new 36, 3) := by decide +kernel
theorem dS_init_73 : decode kS_init 73 = .ok (.dup, 1) := by decide +kernel
theorem dS_init_74 : decode kS_init 74 = .ok (.aload_n 0, 1) := by decide +kernel
theorem dS_init_75 : decode kS_init 75 = .ok (.getfield 10, 3) := by decide +kernel
theorem dS_init_78 : decode kS_init 78 = .ok (.aload_n 0, 1) := by decide +kernel
theorem dS_init_79 : decode kS_init 79 = .ok (.getfield 32, 3) := by decide +kernel
theorem dS_init_82 : decode kS_init 82 = .ok (.invokespecial 38, 3) := by decide +kernel
theorem dS_init_85 : decode kS_init 85 = .ok (.putfield 41, 3) := by decide +kernel
theorem dS_init_88 : decode kS_init 88 = .ok (.aload_n 0, 1) := by decide +kernel
theorem dS_init_89 : decode kS_init 89 = .ok (.new 45, 3) := by decide +kernel
theorem dS_init_92 : decode kS_init 92 = .ok (.dup, 1) := by decide +kernel
theorem dS_init_93 : decode kS_init 93 = .ok (.aload_n 0, 1) := by decide +kernel
theorem dS_init_94 : decode kS_init 94 = .ok (.getfield 32, 3) := by decide +kernel
theorem dS_init_97 : decode kS_init 97 = .ok (.invokespecial 47, 3) := by decide +kernel
theorem dS_init_100 : decode kS_init 100 = .ok (.putfield 50, 3) := by decide +kernel
theorem dS_init_103 : decode kS_init 103 = .ok (.return_, 1) := by decide +kernel
abbrev rcS_init : Room := { frames := 4, cells := 125, slots := 4684, locals := 83 }
def wp_S_init (θ : TH) (a0 : Nat) (N : Nat) (V : VT) (U : UT) (K : Nat → VT → UT → Prop) : Prop := vz θ N V U ∧ tL θ N = (0, 1, 3) ∧ wp_W_init θ (tb θ + N) (N + 1) V U (fun N_2 V_3 U_4 => vz θ N_2 V_3 U_4 ∧ isO (θn θ N_2) a0 0 ∧ (tb θ + N) ≠ 0 ∧ ∀ U_7 : UT, U_7 = up2 U_4 a0 0 (tb θ + N) → tL θ N_2 = (1, 0, 64) ∧ isO (θn θ (N_2 + 1)) a0 0 ∧ (tb θ + N_2) ≠ 0 ∧ ∀ U_11 : UT, U_11 = up2 U_7 a0 1 (tb θ + N_2) → tL θ (N_2 + 1) = (2, 2, 4) ∧ isO (θn θ (N_2 + 2)) a0 0 ∧ (tb θ + (N_2 + 1)) ≠ 0 ∧ ∀ U_15 : UT, U_15 = up2 U_11 a0 3 (tb θ + (N_2 + 1)) → (U_15 a0 3) ≠ 0 ∧ tL θ (N_2 + 2) = (0, 2, 8) ∧ wp_O_init θ (tb θ + (N_2 + 2)) (0 : Int32) (N_2 + 3) V_3 U_15 (fun N_18 V_19 U_20 => vz θ N_18 V_19 U_20 ∧ ∃ n_21, isR (θn θ N_18) (U_15 a0 3) 2 n_21 ∧ isO (θn θ N_18) (tb θ + (N_2 + 2)) 2 ∧ (tb θ + (N_2 + 2)) ≠ 0 ∧ vp_in (0 : Int32) n_21 ∧ ∀ U_26 : UT, U_26 = up2 U_20 (U_15 a0 3) (0 : Int32).toNatClampNeg (tb θ + (N_2 + 2)) → isO (θn θ N_18) a0 0 ∧ (U_26 a0 3) ≠ 0 ∧ tL θ N_18 = (0, 2, 8) ∧ wp_O_init θ (tb θ + N_18) (1 : Int32) (N_18 + 1) V_19 U_26 (fun N_30 V_31 U_32 => vz θ N_30 V_31 U_32 ∧ ∃ n_33, isR (θn θ N_30) (U_26 a0 3) 2 n_33 ∧ isO (θn θ N_30) (tb θ + N_18) 2 ∧ (tb θ + N_18) ≠ 0 ∧ vp_in (1 : Int32) n_33 ∧ ∀ U_38 : UT, U_38 = up2 U_32 (U_26 a0 3) (1 : Int32).toNatClampNeg (tb θ + N_18) → isO (θn θ N_30) a0 0 ∧ (U_38 a0 3) ≠ 0 ∧ tL θ N_30 = (0, 2, 8) ∧ wp_O_init θ (tb θ + N_30) (2 : Int32) (N_30 + 1) V_31 U_38 (fun N_42 V_43 U_44 => vz θ N_42 V_43 U_44 ∧ ∃ n_45, isR (θn θ N_42) (U_38 a0 3) 2 n_45 ∧ isO (θn θ N_42) (tb θ + N_30) 2 ∧ (tb θ + N_30) ≠ 0 ∧ vp_in (2 : Int32) n_45 ∧ ∀ U_50 : UT, U_50 = up2 U_44 (U_38 a0 3) (2 : Int32).toNatClampNeg (tb θ + N_30) → isO (θn θ N_42) a0 0 ∧ (U_50 a0 3) ≠ 0 ∧ tL θ N_42 = (0, 2, 8) ∧ wp_O_init θ (tb θ + N_42) (3 : Int32) (N_42 + 1) V_43 U_50 (fun N_54 V_55 U_56 => vz θ N_54 V_55 U_56 ∧ ∃ n_57, isR (θn θ N_54) (U_50 a0 3) 2 n_57 ∧ isO (θn θ N_54) (tb θ + N_42) 2 ∧ (tb θ + N_42) ≠ 0 ∧ vp_in (3 : Int32) n_57 ∧ ∀ U_62 : UT, U_62 = up2 U_56 (U_50 a0 3) (3 : Int32).toNatClampNeg (tb θ + N_42) → tL θ N_54 = (0, 7, 7) ∧ wp_H_init θ (tb θ + N_54) (N_54 + 1) V_55 U_62 (fun N_64 V_65 U_66 => vz θ N_64 V_65 U_66 ∧ isO (θn θ N_64) a0 0 ∧ (tb θ + N_54) ≠ 0 ∧ ∀ U_69 : UT, U_69 = up2 U_66 a0 4 (tb θ + N_54) → tL θ N_64 = (0, 6, 8) ∧ isO (θn θ (N_64 + 1)) a0 0 ∧ (U_69 a0 0) ≠ 0 ∧ (U_69 a0 4) ≠ 0 ∧ wp_R_init θ (tb θ + N_64) (U_69 a0 0) (U_69 a0 4) (N_64 + 1) V_65 U_69 (fun N_74 V_75 U_76 => vz θ N_74 V_75 U_76 ∧ isO (θn θ N_74) a0 0 ∧ (tb θ + N_64) ≠ 0 ∧ ∀ U_79 : UT, U_79 = up2 U_76 a0 5 (tb θ + N_64) → tL θ N_74 = (0, 11, 16) ∧ isO (θn θ (N_74 + 1)) a0 0 ∧ (U_79 a0 4) ≠ 0 ∧ wp_D_init θ (tb θ + N_74) (U_79 a0 4) (N_74 + 1) V_75 U_79 (fun N_83 V_84 U_85 => vz θ N_83 V_84 U_85 ∧ isO (θn θ N_83) a0 0 ∧ (tb θ + N_74) ≠ 0 ∧ ∀ U_88 : UT, U_88 = up2 U_85 a0 6 (tb θ + N_74) → K N_83 V_84 U_88))))))))
set_option maxRecDepth 100000 in
set_option maxHeartbeats 4000000 in
theorem c_S_init (l : Launch) (θ : TH) (a0 : Nat) (N : Nat) (V : VT) (U : UT) (K : Nat → VT → UT → Prop) (hw : wp_S_init θ a0 N V U K) : CMc l yS_init kS_init 2 rcS_init θ [.ref a0] N V U K 125 4684 := by
  refine n_met nRS (by decide +kernel) rfl rfl (Nat.le_of_ble_eq_true rfl) (fun p e s m args below meth c ls hC hov hin hr hlk hwo hsz hl => ?_)
  have hx := hC.1
  have hb := hC.2.1
  have hS : Sx θ s s.heap [] := va_S.rf
  have hl : lv_has ls 2 [(0, .ref a0)] := hl
  unfold wp_S_init at hw
  obtain ⟨hv, hw⟩ := hw
  refine lv_aload_n hx hb dS_init_0 rfl (lv_at hl 0 rfl) ?_
  refine n_obj hC lkS_1 ka_obj hl.1 (by decide) (by decide) dS_init_1 ?_
  refine lv_aload_n hx hb dS_init_4 rfl (lv_at hl 0 rfl) ?_
  obtain ⟨hL_1, hw⟩ := hw
  refine n_new hC ci_1 nYW npW ndW clS_7 inW izW hwo hsz hS hv hL_1 (by decide) (by decide) dS_init_5 (fun H hwo hsz hS => ?_)
  replace hv := vz.mono hv (Nat.le_succ _)
  refine lv_dup hx hb dS_init_8 rfl ?_
  refine n_ctor (rest := [.ref (tb θ + N), .ref a0]) hC hov (c_W_init l θ _ _ _ _ _ hw) mi_W_init mlS_9 rfl mj_W_init hwo hsz hS ⟨rfl, rfl⟩ ⟨by decide, by decide⟩ rfl hl.1 rfl (Nat.le_of_ble_eq_true rfl) ⟨by decide, by decide⟩ dS_init_9 (fun N_2 V_3 U_4 hw H locs hwo hsz hS => ?_)
  obtain ⟨hv, hw⟩ := hw
  obtain ⟨ho_5, hw⟩ := hw
  obtain ⟨hz_6, hw⟩ := hw
  refine n_putR hC hin flS_10 (fun _ => ⟨rfl, rfl⟩) rfl hwo hsz hS hv ho_5 hz_6 dS_init_12 (fun U_7 eU_7 hv H locs hwo hsz hS => ?_)
  replace hw := hw U_7 eU_7
  refine lv_aload_n hx hb dS_init_15 rfl (lv_at hl 0 rfl) ?_
  refine lv_bipush (v := 64) hx hb dS_init_16 (by decide) ?_
  obtain ⟨hL_8, hw⟩ := hw
  refine n_newI hC ka_ai hwo hsz hS hv hL_8 (by decide) (by decide) (by decide) (by decide) (by decide) dS_init_18 (fun H hwo hsz hS => ?_)
  replace hv := vz.mono hv (Nat.le_succ _)
  obtain ⟨ho_9, hw⟩ := hw
  obtain ⟨hz_10, hw⟩ := hw
  refine n_putR hC hin flS_16 (fun _ => ⟨rfl, rfl⟩) rfl hwo hsz hS hv ho_9 hz_10 dS_init_20 (fun U_11 eU_11 hv H locs hwo hsz hS => ?_)
  replace hw := hw U_11 eU_11
  refine lv_aload_n hx hb dS_init_23 rfl (lv_at hl 0 rfl) ?_
  refine lv_iconst (v := 4) hx hb dS_init_24 (by decide) ?_
  obtain ⟨hL_12, hw⟩ := hw
  refine n_newQ (t := 2) hC (by decide) rfl clS_20 hov.1 hwo hsz hS hv hL_12 (by decide) (by decide) (by decide) (by decide) (by decide) dS_init_25 (fun H hwo hsz hS => ?_)
  replace hv := vz.mono hv (Nat.le_succ _)
  obtain ⟨ho_13, hw⟩ := hw
  obtain ⟨hz_14, hw⟩ := hw
  refine n_putR hC hin flS_22 (fun _ => ⟨rfl, rfl⟩) rfl hwo hsz hS hv ho_13 hz_14 dS_init_28 (fun U_15 eU_15 hv H locs hwo hsz hS => ?_)
  replace hw := hw U_15 eU_15
  refine lv_iconst (v := 0) hx hb dS_init_31 (by decide) ?_
  refine lv_istore_n (i := 1) (lv' := [(1, .int (0 : Int32)), (0, .ref a0)]) hx hb dS_init_32 rfl hl (by decide) rfl (fun ls hl => ?_)
  refine lv_iload_n hx hb dS_init_33 rfl (lv_at hl 0 rfl) ?_
  refine lv_iconst (v := 4) hx hb dS_init_34 (by decide) ?_
  refine lv_icmp_ge (tgt := 58) hx hb dS_init_35 (by decide) (fun h => absurd h (by decide)) (fun _ => ?_)
  refine lv_aload_n hx hb dS_init_38 rfl (lv_at hl 1 rfl) ?_
  obtain ⟨hz_16, hw⟩ := hw
  refine n_getR hC fkS_22 rfl hwo ho_13 hz_16 dS_init_39 ?_
  refine lv_iload_n hx hb dS_init_42 rfl (lv_at hl 0 rfl) ?_
  obtain ⟨hL_17, hw⟩ := hw
  refine n_new hC ci_2 nYO npO ndO clS_20 inO izO hwo hsz hS hv hL_17 (by decide) (by decide) dS_init_43 (fun H hwo hsz hS => ?_)
  replace hv := vz.mono hv (Nat.le_succ _)
  refine lv_dup hx hb dS_init_46 rfl ?_
  refine lv_iload_n hx hb dS_init_47 rfl (lv_at hl 0 rfl) ?_
  refine n_ctor (rest := [.ref (tb θ + (N_2 + 2)), .int (0 : Int32), .ref (U_15 a0 3)]) hC hov (c_O_init l θ _ _ _ _ _ _ hw) mi_O_init mlS_26 rfl mj_O_init hwo hsz hS ⟨rfl, rfl⟩ ⟨by decide, by decide⟩ rfl hl.1 rfl (Nat.le_of_ble_eq_true rfl) ⟨by decide, by decide⟩ dS_init_48 (fun N_18 V_19 U_20 hw H locs hwo hsz hS => ?_)
  obtain ⟨hv, hw⟩ := hw
  obtain ⟨n_21, ha_22, hw⟩ := hw
  obtain ⟨ho_23, hw⟩ := hw
  obtain ⟨hz_24, hw⟩ := hw
  obtain ⟨hi_25, hw⟩ := hw
  refine n_aast (t := 2) hC (by decide) rfl ci_2 hwo hsz hS hv ha_22 ho_23 hz_24 hi_25 dS_init_51 (fun U_26 eU_26 hv H locs hwo hsz hS => ?_)
  replace hw := hw U_26 eU_26
  refine lv_iinc (k := 0) (v := 1) (lv' := [(1, .int (1 : Int32)), (0, .ref a0)]) hx hb dS_init_52 hl rfl (by decide) (by decide) rfl (fun ls hl => ?_)
  refine lv_goto (tgt := 33) hx hb dS_init_55 (by decide) ?_
  refine lv_iload_n hx hb dS_init_33 rfl (lv_at hl 0 rfl) ?_
  refine lv_iconst (v := 4) hx hb dS_init_34 (by decide) ?_
  refine lv_icmp_ge (tgt := 58) hx hb dS_init_35 (by decide) (fun h => absurd h (by decide)) (fun _ => ?_)
  refine lv_aload_n hx hb dS_init_38 rfl (lv_at hl 1 rfl) ?_
  obtain ⟨ho_27, hw⟩ := hw
  obtain ⟨hz_28, hw⟩ := hw
  refine n_getR hC fkS_22 rfl hwo ho_27 hz_28 dS_init_39 ?_
  refine lv_iload_n hx hb dS_init_42 rfl (lv_at hl 0 rfl) ?_
  obtain ⟨hL_29, hw⟩ := hw
  refine n_new hC ci_2 nYO npO ndO clS_20 inO izO hwo hsz hS hv hL_29 (by decide) (by decide) dS_init_43 (fun H hwo hsz hS => ?_)
  replace hv := vz.mono hv (Nat.le_succ _)
  refine lv_dup hx hb dS_init_46 rfl ?_
  refine lv_iload_n hx hb dS_init_47 rfl (lv_at hl 0 rfl) ?_
  refine n_ctor (rest := [.ref (tb θ + N_18), .int (1 : Int32), .ref (U_26 a0 3)]) hC hov (c_O_init l θ _ _ _ _ _ _ hw) mi_O_init mlS_26 rfl mj_O_init hwo hsz hS ⟨rfl, rfl⟩ ⟨by decide, by decide⟩ rfl hl.1 rfl (Nat.le_of_ble_eq_true rfl) ⟨by decide, by decide⟩ dS_init_48 (fun N_30 V_31 U_32 hw H locs hwo hsz hS => ?_)
  obtain ⟨hv, hw⟩ := hw
  obtain ⟨n_33, ha_34, hw⟩ := hw
  obtain ⟨ho_35, hw⟩ := hw
  obtain ⟨hz_36, hw⟩ := hw
  obtain ⟨hi_37, hw⟩ := hw
  refine n_aast (t := 2) hC (by decide) rfl ci_2 hwo hsz hS hv ha_34 ho_35 hz_36 hi_37 dS_init_51 (fun U_38 eU_38 hv H locs hwo hsz hS => ?_)
  replace hw := hw U_38 eU_38
  refine lv_iinc (k := 0) (v := 2) (lv' := [(1, .int (2 : Int32)), (0, .ref a0)]) hx hb dS_init_52 hl rfl (by decide) (by decide) rfl (fun ls hl => ?_)
  refine lv_goto (tgt := 33) hx hb dS_init_55 (by decide) ?_
  refine lv_iload_n hx hb dS_init_33 rfl (lv_at hl 0 rfl) ?_
  refine lv_iconst (v := 4) hx hb dS_init_34 (by decide) ?_
  refine lv_icmp_ge (tgt := 58) hx hb dS_init_35 (by decide) (fun h => absurd h (by decide)) (fun _ => ?_)
  refine lv_aload_n hx hb dS_init_38 rfl (lv_at hl 1 rfl) ?_
  obtain ⟨ho_39, hw⟩ := hw
  obtain ⟨hz_40, hw⟩ := hw
  refine n_getR hC fkS_22 rfl hwo ho_39 hz_40 dS_init_39 ?_
  refine lv_iload_n hx hb dS_init_42 rfl (lv_at hl 0 rfl) ?_
  obtain ⟨hL_41, hw⟩ := hw
  refine n_new hC ci_2 nYO npO ndO clS_20 inO izO hwo hsz hS hv hL_41 (by decide) (by decide) dS_init_43 (fun H hwo hsz hS => ?_)
  replace hv := vz.mono hv (Nat.le_succ _)
  refine lv_dup hx hb dS_init_46 rfl ?_
  refine lv_iload_n hx hb dS_init_47 rfl (lv_at hl 0 rfl) ?_
  refine n_ctor (rest := [.ref (tb θ + N_30), .int (2 : Int32), .ref (U_38 a0 3)]) hC hov (c_O_init l θ _ _ _ _ _ _ hw) mi_O_init mlS_26 rfl mj_O_init hwo hsz hS ⟨rfl, rfl⟩ ⟨by decide, by decide⟩ rfl hl.1 rfl (Nat.le_of_ble_eq_true rfl) ⟨by decide, by decide⟩ dS_init_48 (fun N_42 V_43 U_44 hw H locs hwo hsz hS => ?_)
  obtain ⟨hv, hw⟩ := hw
  obtain ⟨n_45, ha_46, hw⟩ := hw
  obtain ⟨ho_47, hw⟩ := hw
  obtain ⟨hz_48, hw⟩ := hw
  obtain ⟨hi_49, hw⟩ := hw
  refine n_aast (t := 2) hC (by decide) rfl ci_2 hwo hsz hS hv ha_46 ho_47 hz_48 hi_49 dS_init_51 (fun U_50 eU_50 hv H locs hwo hsz hS => ?_)
  replace hw := hw U_50 eU_50
  refine lv_iinc (k := 0) (v := 3) (lv' := [(1, .int (3 : Int32)), (0, .ref a0)]) hx hb dS_init_52 hl rfl (by decide) (by decide) rfl (fun ls hl => ?_)
  refine lv_goto (tgt := 33) hx hb dS_init_55 (by decide) ?_
  refine lv_iload_n hx hb dS_init_33 rfl (lv_at hl 0 rfl) ?_
  refine lv_iconst (v := 4) hx hb dS_init_34 (by decide) ?_
  refine lv_icmp_ge (tgt := 58) hx hb dS_init_35 (by decide) (fun h => absurd h (by decide)) (fun _ => ?_)
  refine lv_aload_n hx hb dS_init_38 rfl (lv_at hl 1 rfl) ?_
  obtain ⟨ho_51, hw⟩ := hw
  obtain ⟨hz_52, hw⟩ := hw
  refine n_getR hC fkS_22 rfl hwo ho_51 hz_52 dS_init_39 ?_
  refine lv_iload_n hx hb dS_init_42 rfl (lv_at hl 0 rfl) ?_
  obtain ⟨hL_53, hw⟩ := hw
  refine n_new hC ci_2 nYO npO ndO clS_20 inO izO hwo hsz hS hv hL_53 (by decide) (by decide) dS_init_43 (fun H hwo hsz hS => ?_)
  replace hv := vz.mono hv (Nat.le_succ _)
  refine lv_dup hx hb dS_init_46 rfl ?_
  refine lv_iload_n hx hb dS_init_47 rfl (lv_at hl 0 rfl) ?_
  refine n_ctor (rest := [.ref (tb θ + N_42), .int (3 : Int32), .ref (U_50 a0 3)]) hC hov (c_O_init l θ _ _ _ _ _ _ hw) mi_O_init mlS_26 rfl mj_O_init hwo hsz hS ⟨rfl, rfl⟩ ⟨by decide, by decide⟩ rfl hl.1 rfl (Nat.le_of_ble_eq_true rfl) ⟨by decide, by decide⟩ dS_init_48 (fun N_54 V_55 U_56 hw H locs hwo hsz hS => ?_)
  obtain ⟨hv, hw⟩ := hw
  obtain ⟨n_57, ha_58, hw⟩ := hw
  obtain ⟨ho_59, hw⟩ := hw
  obtain ⟨hz_60, hw⟩ := hw
  obtain ⟨hi_61, hw⟩ := hw
  refine n_aast (t := 2) hC (by decide) rfl ci_2 hwo hsz hS hv ha_58 ho_59 hz_60 hi_61 dS_init_51 (fun U_62 eU_62 hv H locs hwo hsz hS => ?_)
  replace hw := hw U_62 eU_62
  refine lv_iinc (k := 0) (v := 4) (lv' := [(1, .int (4 : Int32)), (0, .ref a0)]) hx hb dS_init_52 hl rfl (by decide) (by decide) rfl (fun ls hl => ?_)
  refine lv_goto (tgt := 33) hx hb dS_init_55 (by decide) ?_
  refine lv_iload_n hx hb dS_init_33 rfl (lv_at hl 0 rfl) ?_
  refine lv_iconst (v := 4) hx hb dS_init_34 (by decide) ?_
  refine lv_icmp_ge (tgt := 58) hx hb dS_init_35 (by decide) (fun _ => ?_) (fun h => absurd (show (4 : Int32) ≤ 4 by decide) h)
  refine lv_aload_n hx hb dS_init_58 rfl (lv_at hl 1 rfl) ?_
  obtain ⟨hL_63, hw⟩ := hw
  refine n_new hC ci_7 nYH npH ndH clS_29 inH izH hwo hsz hS hv hL_63 (by decide) (by decide) dS_init_59 (fun H hwo hsz hS => ?_)
  replace hv := vz.mono hv (Nat.le_succ _)
  refine lv_dup hx hb dS_init_62 rfl ?_
  refine n_ctor (rest := [.ref (tb θ + N_54), .ref a0]) hC hov (c_H_init l θ _ _ _ _ _ hw) mi_H_init mlS_31 rfl mj_H_init hwo hsz hS ⟨rfl, rfl⟩ ⟨by decide, by decide⟩ rfl hl.1 rfl (Nat.le_of_ble_eq_true rfl) ⟨by decide, by decide⟩ dS_init_63 (fun N_64 V_65 U_66 hw H locs hwo hsz hS => ?_)
  obtain ⟨hv, hw⟩ := hw
  obtain ⟨ho_67, hw⟩ := hw
  obtain ⟨hz_68, hw⟩ := hw
  refine n_putR hC hin flS_32 (fun _ => ⟨rfl, rfl⟩) rfl hwo hsz hS hv ho_67 hz_68 dS_init_66 (fun U_69 eU_69 hv H locs hwo hsz hS => ?_)
  replace hw := hw U_69 eU_69
  refine lv_aload_n hx hb dS_init_69 rfl (lv_at hl 1 rfl) ?_
  obtain ⟨hL_70, hw⟩ := hw
  refine n_new hC ci_6 nYR npR ndR clS_36 inR izR hwo hsz hS hv hL_70 (by decide) (by decide) dS_init_70 (fun H hwo hsz hS => ?_)
  replace hv := vz.mono hv (Nat.le_succ _)
  refine lv_dup hx hb dS_init_73 rfl ?_
  refine lv_aload_n hx hb dS_init_74 rfl (lv_at hl 1 rfl) ?_
  obtain ⟨ho_71, hw⟩ := hw
  obtain ⟨hz_72, hw⟩ := hw
  refine n_getR hC fkS_10 rfl hwo ho_71 hz_72 dS_init_75 ?_
  refine lv_aload_n hx hb dS_init_78 rfl (lv_at hl 1 rfl) ?_
  obtain ⟨hz_73, hw⟩ := hw
  refine n_getR hC fkS_32 rfl hwo ho_71 hz_73 dS_init_79 ?_
  refine n_ctor (rest := [.ref (tb θ + N_64), .ref a0]) hC hov (c_R_init l θ _ _ _ _ _ _ _ hw) mi_R_init mlS_38 rfl mj_R_init hwo hsz hS ⟨rfl, rfl⟩ ⟨by decide, by decide⟩ rfl hl.1 rfl (Nat.le_of_ble_eq_true rfl) ⟨by decide, by decide⟩ dS_init_82 (fun N_74 V_75 U_76 hw H locs hwo hsz hS => ?_)
  obtain ⟨hv, hw⟩ := hw
  obtain ⟨ho_77, hw⟩ := hw
  obtain ⟨hz_78, hw⟩ := hw
  refine n_putR hC hin flS_41 (fun _ => ⟨rfl, rfl⟩) rfl hwo hsz hS hv ho_77 hz_78 dS_init_85 (fun U_79 eU_79 hv H locs hwo hsz hS => ?_)
  replace hw := hw U_79 eU_79
  refine lv_aload_n hx hb dS_init_88 rfl (lv_at hl 1 rfl) ?_
  obtain ⟨hL_80, hw⟩ := hw
  refine n_new hC ci_11 nYD npD ndD clS_45 inD izD hwo hsz hS hv hL_80 (by decide) (by decide) dS_init_89 (fun H hwo hsz hS => ?_)
  replace hv := vz.mono hv (Nat.le_succ _)
  refine lv_dup hx hb dS_init_92 rfl ?_
  refine lv_aload_n hx hb dS_init_93 rfl (lv_at hl 1 rfl) ?_
  obtain ⟨ho_81, hw⟩ := hw
  obtain ⟨hz_82, hw⟩ := hw
  refine n_getR hC fkS_32 rfl hwo ho_81 hz_82 dS_init_94 ?_
  refine n_ctor (rest := [.ref (tb θ + N_74), .ref a0]) hC hov (c_D_init l θ _ _ _ _ _ _ hw) mi_D_init mlS_47 rfl mj_D_init hwo hsz hS ⟨rfl, rfl⟩ ⟨by decide, by decide⟩ rfl hl.1 rfl (Nat.le_of_ble_eq_true rfl) ⟨by decide, by decide⟩ dS_init_97 (fun N_83 V_84 U_85 hw H locs hwo hsz hS => ?_)
  obtain ⟨hv, hw⟩ := hw
  obtain ⟨ho_86, hw⟩ := hw
  obtain ⟨hz_87, hw⟩ := hw
  refine n_putR hC hin flS_50 (fun _ => ⟨rfl, rfl⟩) rfl hwo hsz hS hv ho_86 hz_87 dS_init_100 (fun U_88 eU_88 hv H locs hwo hsz hS => ?_)
  replace hw := hw U_88 eU_88
  exact n_ret hC hr hlk hw hwo hsz hS dS_init_103
theorem dM_init_0 : decode kM_init 0 = .ok (.aload_n 0, 1) := by decide +kernel
theorem dM_init_1 : decode kM_init 1 = .ok (.invokespecial 1, 3) := by decide +kernel
theorem dM_init_4 : decode kM_init 4 = .ok (.aload_n 0, 1) := by decide +kernel
theorem dM_init_5 : decode kM_init 5 = .ok (.sipush 1000, 3) := by decide +kernel
theorem dM_init_8 : decode kM_init 8 = .ok (.newarray .int, 2) := by decide +kernel
theorem dM_init_10 : decode kM_init 10 = .ok (.putfield 7, 3) := by decide +kernel
theorem dM_init_13 : decode kM_init 13 = .ok (.aload_n 0, 1) := by decide +kernel
theorem dM_init_14 : decode kM_init 14 = .ok (.bipush 64, 2) := by decide +kernel
theorem dM_init_16 : decode kM_init 16 = .ok (.newarray .int, 2) := by decide +kernel
theorem dM_init_18 : decode kM_init 18 = .ok (.putfield 13, 3) := by decide +kernel
theorem dM_init_21 : decode kM_init 21 = .ok (.aload_n 0, 1) := by decide +kernel
theorem dM_init_22 : decode kM_init 22 = .ok (.bipush 64, 2) := by decide +kernel
theorem dM_init_24 : decode kM_init 24 = .ok (.newarray .int, 2) := by decide +kernel
theorem dM_init_26 : decode kM_init 26 = .ok (.putfield 16, 3) := by decide +kernel
theorem dM_init_29 : decode kM_init 29 = .ok (.aload_n 0, 1) := by decide +kernel
theorem dM_init_30 : decode kM_init 30 = .ok (.bipush 64, 2) := by decide +kernel
theorem dM_init_32 : decode kM_init 32 = .ok (.newarray .int, 2) := by decide +kernel
theorem dM_init_34 : decode kM_init 34 = .ok (.putfield 19, 3) := by decide +kernel
theorem dM_init_37 : decode kM_init 37 = .ok (.aload_n 0, 1) := by decide +kernel
theorem dM_init_38 : decode kM_init 38 = .ok (.bipush 64, 2) := by decide +kernel
theorem dM_init_40 : decode kM_init 40 = .ok (.newarray .int, 2) := by decide +kernel
theorem dM_init_42 : decode kM_init 42 = .ok (.putfield 22, 3) := by decide +kernel
theorem dM_init_45 : decode kM_init 45 = .ok (.aload_n 0, 1) := by decide +kernel
theorem dM_init_46 : decode kM_init 46 = .ok (.sipush 960, 3) := by decide +kernel
theorem dM_init_49 : decode kM_init 49 = .ok (.newarray .int, 2) := by decide +kernel
theorem dM_init_51 : decode kM_init 51 = .ok (.putfield 25, 3) := by decide +kernel
theorem dM_init_54 : decode kM_init 54 = .ok (.aload_n 0, 1) := by decide +kernel
theorem dM_init_55 : decode kM_init 55 = .ok (.iconst 4, 1) := by decide +kernel
theorem dM_init_56 : decode kM_init 56 = .ok (.newarray .int, 2) := by decide +kernel
theorem dM_init_58 : decode kM_init 58 = .ok (.putfield 28, 3) := by decide +kernel
theorem dM_init_61 : decode kM_init 61 = .ok (.aload_n 0, 1) := by decide +kernel
theorem dM_init_62 : decode kM_init 62 = .ok (.iconst 4, 1) := by decide +kernel
theorem dM_init_63 : decode kM_init 63 = .ok (.newarray .int, 2) := by decide +kernel
theorem dM_init_65 : decode kM_init 65 = .ok (.putfield 31, 3) := by decide +kernel
theorem dM_init_68 : decode kM_init 68 = .ok (.aload_n 0, 1) := by decide +kernel
theorem dM_init_69 : decode kM_init 69 = .ok (.iconst 4, 1) := by decide +kernel
theorem dM_init_70 : decode kM_init 70 = .ok (.newarray .boolean, 2) := by decide +kernel
theorem dM_init_72 : decode kM_init 72 = .ok (.putfield 34, 3) := by decide +kernel
theorem dM_init_75 : decode kM_init 75 = .ok (.aload_n 0, 1) := by decide +kernel
theorem dM_init_76 : decode kM_init 76 = .ok (.bipush 72, 2) := by decide +kernel
theorem dM_init_78 : decode kM_init 78 = .ok (.newarray .int, 2) := by decide +kernel
theorem dM_init_80 : decode kM_init 80 = .ok (.putfield 38, 3) := by decide +kernel
theorem dM_init_83 : decode kM_init 83 = .ok (.aload_n 0, 1) := by decide +kernel
theorem dM_init_84 : decode kM_init 84 = .ok (.iconst 3, 1) := by decide +kernel
theorem dM_init_85 : decode kM_init 85 = .ok (.newarray .int, 2) := by decide +kernel
theorem dM_init_87 : decode kM_init 87 = .ok (.putfield 41, 3) := by decide +kernel
theorem dM_init_90 : decode kM_init 90 = .ok (.aload_n 0, 1) := by decide +kernel
theorem dM_init_91 : decode kM_init 91 = .ok (.iconst 3, 1) := by decide +kernel
theorem dM_init_92 : decode kM_init 92 = .ok (.newarray .int, 2) := by decide +kernel
theorem dM_init_94 : decode kM_init 94 = .ok (.putfield 44, 3) := by decide +kernel
theorem dM_init_97 : decode kM_init 97 = .ok (.aload_n 0, 1) := by decide +kernel
theorem dM_init_98 : decode kM_init 98 = .ok (.iconst 3, 1) := by decide +kernel
theorem dM_init_99 : decode kM_init 99 = .ok (.newarray .int, 2) := by decide +kernel
theorem dM_init_101 : decode kM_init 101 = .ok (.putfield 47, 3) := by decide +kernel
theorem dM_init_104 : decode kM_init 104 = .ok (.aload_n 0, 1) := by decide +kernel
theorem dM_init_105 : decode kM_init 105 = .ok (.iconst 3, 1) := by decide +kernel
theorem dM_init_106 : decode kM_init 106 = .ok (.newarray .boolean, 2) := by decide +kernel
theorem dM_init_108 : decode kM_init 108 = .ok (.putfield 50, 3) := by decide +kernel
theorem dM_init_111 : decode kM_init 111 = .ok (.aload_n 0, 1) := by decide +kernel
theorem dM_init_112 : decode kM_init 112 = .ok (.iconst 3, 1) := by decide +kernel
theorem dM_init_113 : decode kM_init 113 = .ok (.newarray .int, 2) := by decide +kernel
theorem dM_init_115 : decode kM_init 115 = .ok (.putfield 53, 3) := by decide +kernel
theorem dM_init_118 : decode kM_init 118 = .ok (.aload_n 0, 1) := by decide +kernel
theorem dM_init_119 : decode kM_init 119 = .ok (.sipush 3000, 3) := by decide +kernel
theorem dM_init_122 : decode kM_init 122 = .ok (.newarray .int, 2) := by decide +kernel
theorem dM_init_124 : decode kM_init 124 = .ok (.putfield 56, 3) := by decide +kernel
theorem dM_init_127 : decode kM_init 127 = .ok (.aload_n 0, 1) := by decide +kernel
theorem dM_init_128 : decode kM_init 128 = .ok (.bipush 8, 2) := by decide +kernel
theorem dM_init_130 : decode kM_init 130 = .ok (.newarray .int, 2) := by decide +kernel
theorem dM_init_132 : decode kM_init 132 = .ok (.putfield 59, 3) := by decide +kernel
theorem dM_init_135 : decode kM_init 135 = .ok (.aload_n 0, 1) := by decide +kernel
theorem dM_init_136 : decode kM_init 136 = .ok (.bipush 8, 2) := by decide +kernel
theorem dM_init_138 : decode kM_init 138 = .ok (.newarray .int, 2) := by decide +kernel
theorem dM_init_140 : decode kM_init 140 = .ok (.putfield 62, 3) := by decide +kernel
theorem dM_init_143 : decode kM_init 143 = .ok (.aload_n 0, 1) := by decide +kernel
theorem dM_init_144 : decode kM_init 144 = .ok (.bipush 8, 2) := by decide +kernel
theorem dM_init_146 : decode kM_init 146 = .ok (.newarray .int, 2) := by decide +kernel
theorem dM_init_148 : decode kM_init 148 = .ok (.putfield 65, 3) := by decide +kernel
theorem dM_init_151 : decode kM_init 151 = .ok (.aload_n 0, 1) := by decide +kernel
theorem dM_init_152 : decode kM_init 152 = .ok (.bipush 8, 2) := by decide +kernel
theorem dM_init_154 : decode kM_init 154 = .ok (.newarray .boolean, 2) := by decide +kernel
theorem dM_init_156 : decode kM_init 156 = .ok (.putfield 68, 3) := by decide +kernel
theorem dM_init_159 : decode kM_init 159 = .ok (.aload_n 0, 1) := by decide +kernel
theorem dM_init_160 : decode kM_init 160 = .ok (.bipush 8, 2) := by decide +kernel
theorem dM_init_162 : decode kM_init 162 = .ok (.newarray .int, 2) := by decide +kernel
theorem dM_init_164 : decode kM_init 164 = .ok (.putfield 71, 3) := by decide +kernel
theorem dM_init_167 : decode kM_init 167 = .ok (.aload_n 0, 1) := by decide +kernel
theorem dM_init_168 : decode kM_init 168 = .ok (.sipush 1000, 3) := by decide +kernel
theorem dM_init_171 : decode kM_init 171 = .ok (.newarray .int, 2) := by decide +kernel
theorem dM_init_173 : decode kM_init 173 = .ok (.putfield 74, 3) := by decide +kernel
theorem dM_init_176 : decode kM_init 176 = .ok (.aload_n 0, 1) := by decide +kernel
theorem dM_init_177 : decode kM_init 177 = .ok (.sipush 1000, 3) := by decide +kernel
theorem dM_init_180 : decode kM_init 180 = .ok (.newarray .int, 2) := by decide +kernel
theorem dM_init_182 : decode kM_init 182 = .ok (.putfield 77, 3) := by decide +kernel
theorem dM_init_185 : decode kM_init 185 = .ok (.aload_n 0, 1) := by decide +kernel
theorem dM_init_186 : decode kM_init 186 = .ok (.iconst 4, 1) := by decide +kernel
theorem dM_init_187 : decode kM_init 187 = .ok (.newarray .int, 2) := by decide +kernel
theorem dM_init_189 : decode kM_init 189 = .ok (.putfield 80, 3) := by decide +kernel
theorem dM_init_192 : decode kM_init 192 = .ok (.aload_n 0, 1) := by decide +kernel
theorem dM_init_193 : decode kM_init 193 = .ok (.iconst 4, 1) := by decide +kernel
theorem dM_init_194 : decode kM_init 194 = .ok (.newarray .int, 2) := by decide +kernel
theorem dM_init_196 : decode kM_init 196 = .ok (.putfield 83, 3) := by decide +kernel
theorem dM_init_199 : decode kM_init 199 = .ok (.aload_n 0, 1) := by decide +kernel
theorem dM_init_200 : decode kM_init 200 = .ok (.bipush 32, 2) := by decide +kernel
theorem dM_init_202 : decode kM_init 202 = .ok (.newarray .int, 2) := by decide +kernel
theorem dM_init_204 : decode kM_init 204 = .ok (.putfield 86, 3) := by decide +kernel
theorem dM_init_207 : decode kM_init 207 = .ok (.aload_n 0, 1) := by decide +kernel
theorem dM_init_208 : decode kM_init 208 = .ok (.bipush 32, 2) := by decide +kernel
theorem dM_init_210 : decode kM_init 210 = .ok (.newarray .int, 2) := by decide +kernel
theorem dM_init_212 : decode kM_init 212 = .ok (.putfield 89, 3) := by decide +kernel
theorem dM_init_215 : decode kM_init 215 = .ok (.aload_n 0, 1) := by decide +kernel
theorem dM_init_216 : decode kM_init 216 = .ok (.iconst 4, 1) := by decide +kernel
theorem dM_init_217 : decode kM_init 217 = .ok (.newarray .boolean, 2) := by decide +kernel
theorem dM_init_219 : decode kM_init 219 = .ok (.putfield 92, 3) := by decide +kernel
theorem dM_init_222 : decode kM_init 222 = .ok (.aload_n 0, 1) := by decide +kernel
theorem dM_init_223 : decode kM_init 223 = .ok (.sipush 128, 3) := by decide +kernel
theorem dM_init_226 : decode kM_init 226 = .ok (.newarray .int, 2) := by decide +kernel
theorem dM_init_228 : decode kM_init 228 = .ok (.putfield 95, 3) := by decide +kernel
theorem dM_init_231 : decode kM_init 231 = .ok (.aload_n 0, 1) := by decide +kernel
theorem dM_init_232 : decode kM_init 232 = .ok (.bipush 32, 2) := by decide +kernel
theorem dM_init_234 : decode kM_init 234 = .ok (.newarray .int, 2) := by decide +kernel
theorem dM_init_236 : decode kM_init 236 = .ok (.putfield 98, 3) := by decide +kernel
theorem dM_init_239 : decode kM_init 239 = .ok (.aload_n 0, 1) := by decide +kernel
theorem dM_init_240 : decode kM_init 240 = .ok (.bipush 96, 2) := by decide +kernel
theorem dM_init_242 : decode kM_init 242 = .ok (.newarray .int, 2) := by decide +kernel
theorem dM_init_244 : decode kM_init 244 = .ok (.putfield 101, 3) := by decide +kernel
theorem dM_init_247 : decode kM_init 247 = .ok (.aload_n 0, 1) := by decide +kernel
theorem dM_init_248 : decode kM_init 248 = .ok (.iconst (-1), 1) := by decide +kernel
theorem dM_init_249 : decode kM_init 249 = .ok (.putfield 104, 3) := by decide +kernel
theorem dM_init_252 : decode kM_init 252 = .ok (.aload_n 0, 1) := by decide +kernel
theorem dM_init_253 : decode kM_init 253 = .ok (.iconst 2, 1) := by decide +kernel
theorem dM_init_254 : decode kM_init 254 = .ok (.newarray .boolean, 2) := by decide +kernel
theorem dM_init_256 : decode kM_init 256 = .ok (.putfield 108, 3) := by decide +kernel
theorem dM_init_259 : decode kM_init 259 = .ok (.aload_n 0, 1) := by decide +kernel
theorem dM_init_260 : decode kM_init 260 = .ok (.bipush 64, 2) := by decide +kernel
theorem dM_init_262 : decode kM_init 262 = .ok (.newarray .int, 2) := by decide +kernel
theorem dM_init_264 : decode kM_init 264 = .ok (.putfield 111, 3) := by decide +kernel
theorem dM_init_267 : decode kM_init 267 = .ok (.aload_n 0, 1) := by decide +kernel
theorem dM_init_268 : decode kM_init 268 = .ok (.bipush 64, 2) := by decide +kernel
theorem dM_init_270 : decode kM_init 270 = .ok (.newarray .int, 2) := by decide +kernel
theorem dM_init_272 : decode kM_init 272 = .ok (.putfield 114, 3) := by decide +kernel
theorem dM_init_275 : decode kM_init 275 = .ok (.aload_n 0, 1) := by decide +kernel
theorem dM_init_276 : decode kM_init 276 = .ok (.bipush 14, 2) := by decide +kernel
theorem dM_init_278 : decode kM_init 278 = .ok (.newarray .int, 2) := by decide +kernel
theorem dM_init_280 : decode kM_init 280 = .ok (.putfield 117, 3) := by decide +kernel
theorem dM_init_283 : decode kM_init 283 = .ok (.aload_n 0, 1) := by decide +kernel
theorem dM_init_284 : decode kM_init 284 = .ok (.bipush 14, 2) := by decide +kernel
theorem dM_init_286 : decode kM_init 286 = .ok (.newarray .int, 2) := by decide +kernel
theorem dM_init_288 : decode kM_init 288 = .ok (.putfield 120, 3) := by decide +kernel
theorem dM_init_291 : decode kM_init 291 = .ok (.aload_n 0, 1) := by decide +kernel
theorem dM_init_292 : decode kM_init 292 = .ok (.bipush 14, 2) := by decide +kernel
theorem dM_init_294 : decode kM_init 294 = .ok (.newarray .boolean, 2) := by decide +kernel
theorem dM_init_296 : decode kM_init 296 = .ok (.putfield 123, 3) := by decide +kernel
theorem dM_init_299 : decode kM_init 299 = .ok (.aload_n 0, 1) := by decide +kernel
theorem dM_init_300 : decode kM_init 300 = .ok (.iconst 2, 1) := by decide +kernel
theorem dM_init_301 : decode kM_init 301 = .ok (.newarray .int, 2) := by decide +kernel
theorem dM_init_303 : decode kM_init 303 = .ok (.putfield 126, 3) := by decide +kernel
theorem dM_init_306 : decode kM_init 306 = .ok (.aload_n 0, 1) := by decide +kernel
theorem dM_init_307 : decode kM_init 307 = .ok (.sipush 128, 3) := by decide +kernel
theorem dM_init_310 : decode kM_init 310 = .ok (.newarray .int, 2) := by decide +kernel
theorem dM_init_312 : decode kM_init 312 = .ok (.putfield 129, 3) := by decide +kernel
theorem dM_init_315 : decode kM_init 315 = .ok (.return_, 1) := by decide +kernel
abbrev rcM_init : Room := { frames := 1, cells := 39, slots := 7989, locals := 20 }
def wp_M_init (θ : TH) (a0 : Nat) (N : Nat) (V : VT) (U : UT) (K : Nat → VT → UT → Prop) : Prop := vz θ N V U ∧ tL θ N = (1, 0, 1000) ∧ isO (θn θ (N + 1)) a0 12 ∧ (tb θ + N) ≠ 0 ∧ ∀ U_4 : UT, U_4 = up2 U a0 0 (tb θ + N) → tL θ (N + 1) = (1, 0, 64) ∧ isO (θn θ (N + 2)) a0 12 ∧ (tb θ + (N + 1)) ≠ 0 ∧ ∀ U_8 : UT, U_8 = up2 U_4 a0 3 (tb θ + (N + 1)) → tL θ (N + 2) = (1, 0, 64) ∧ isO (θn θ (N + 3)) a0 12 ∧ (tb θ + (N + 2)) ≠ 0 ∧ ∀ U_12 : UT, U_12 = up2 U_8 a0 5 (tb θ + (N + 2)) → tL θ (N + 3) = (1, 0, 64) ∧ isO (θn θ (N + 4)) a0 12 ∧ (tb θ + (N + 3)) ≠ 0 ∧ ∀ U_16 : UT, U_16 = up2 U_12 a0 6 (tb θ + (N + 3)) → tL θ (N + 4) = (1, 0, 64) ∧ isO (θn θ (N + 5)) a0 12 ∧ (tb θ + (N + 4)) ≠ 0 ∧ ∀ U_20 : UT, U_20 = up2 U_16 a0 7 (tb θ + (N + 4)) → tL θ (N + 5) = (1, 0, 960) ∧ isO (θn θ (N + 6)) a0 12 ∧ (tb θ + (N + 5)) ≠ 0 ∧ ∀ U_24 : UT, U_24 = up2 U_20 a0 8 (tb θ + (N + 5)) → tL θ (N + 6) = (1, 0, 4) ∧ isO (θn θ (N + 7)) a0 12 ∧ (tb θ + (N + 6)) ≠ 0 ∧ ∀ U_28 : UT, U_28 = up2 U_24 a0 9 (tb θ + (N + 6)) → tL θ (N + 7) = (1, 0, 4) ∧ isO (θn θ (N + 8)) a0 12 ∧ (tb θ + (N + 7)) ≠ 0 ∧ ∀ U_32 : UT, U_32 = up2 U_28 a0 10 (tb θ + (N + 7)) → tL θ (N + 8) = (1, 1, 4) ∧ isO (θn θ (N + 9)) a0 12 ∧ (tb θ + (N + 8)) ≠ 0 ∧ ∀ U_36 : UT, U_36 = up2 U_32 a0 11 (tb θ + (N + 8)) → tL θ (N + 9) = (1, 0, 72) ∧ isO (θn θ (N + 10)) a0 12 ∧ (tb θ + (N + 9)) ≠ 0 ∧ ∀ U_40 : UT, U_40 = up2 U_36 a0 12 (tb θ + (N + 9)) → tL θ (N + 10) = (1, 0, 3) ∧ isO (θn θ (N + 11)) a0 12 ∧ (tb θ + (N + 10)) ≠ 0 ∧ ∀ U_44 : UT, U_44 = up2 U_40 a0 15 (tb θ + (N + 10)) → tL θ (N + 11) = (1, 0, 3) ∧ isO (θn θ (N + 12)) a0 12 ∧ (tb θ + (N + 11)) ≠ 0 ∧ ∀ U_48 : UT, U_48 = up2 U_44 a0 16 (tb θ + (N + 11)) → tL θ (N + 12) = (1, 0, 3) ∧ isO (θn θ (N + 13)) a0 12 ∧ (tb θ + (N + 12)) ≠ 0 ∧ ∀ U_52 : UT, U_52 = up2 U_48 a0 17 (tb θ + (N + 12)) → tL θ (N + 13) = (1, 1, 3) ∧ isO (θn θ (N + 14)) a0 12 ∧ (tb θ + (N + 13)) ≠ 0 ∧ ∀ U_56 : UT, U_56 = up2 U_52 a0 18 (tb θ + (N + 13)) → tL θ (N + 14) = (1, 0, 3) ∧ isO (θn θ (N + 15)) a0 12 ∧ (tb θ + (N + 14)) ≠ 0 ∧ ∀ U_60 : UT, U_60 = up2 U_56 a0 19 (tb θ + (N + 14)) → tL θ (N + 15) = (1, 0, 3000) ∧ isO (θn θ (N + 16)) a0 12 ∧ (tb θ + (N + 15)) ≠ 0 ∧ ∀ U_64 : UT, U_64 = up2 U_60 a0 20 (tb θ + (N + 15)) → tL θ (N + 16) = (1, 0, 8) ∧ isO (θn θ (N + 17)) a0 12 ∧ (tb θ + (N + 16)) ≠ 0 ∧ ∀ U_68 : UT, U_68 = up2 U_64 a0 23 (tb θ + (N + 16)) → tL θ (N + 17) = (1, 0, 8) ∧ isO (θn θ (N + 18)) a0 12 ∧ (tb θ + (N + 17)) ≠ 0 ∧ ∀ U_72 : UT, U_72 = up2 U_68 a0 24 (tb θ + (N + 17)) → tL θ (N + 18) = (1, 0, 8) ∧ isO (θn θ (N + 19)) a0 12 ∧ (tb θ + (N + 18)) ≠ 0 ∧ ∀ U_76 : UT, U_76 = up2 U_72 a0 25 (tb θ + (N + 18)) → tL θ (N + 19) = (1, 1, 8) ∧ isO (θn θ (N + 20)) a0 12 ∧ (tb θ + (N + 19)) ≠ 0 ∧ ∀ U_80 : UT, U_80 = up2 U_76 a0 26 (tb θ + (N + 19)) → tL θ (N + 20) = (1, 0, 8) ∧ isO (θn θ (N + 21)) a0 12 ∧ (tb θ + (N + 20)) ≠ 0 ∧ ∀ U_84 : UT, U_84 = up2 U_80 a0 27 (tb θ + (N + 20)) → tL θ (N + 21) = (1, 0, 1000) ∧ isO (θn θ (N + 22)) a0 12 ∧ (tb θ + (N + 21)) ≠ 0 ∧ ∀ U_88 : UT, U_88 = up2 U_84 a0 28 (tb θ + (N + 21)) → tL θ (N + 22) = (1, 0, 1000) ∧ isO (θn θ (N + 23)) a0 12 ∧ (tb θ + (N + 22)) ≠ 0 ∧ ∀ U_92 : UT, U_92 = up2 U_88 a0 35 (tb θ + (N + 22)) → tL θ (N + 23) = (1, 0, 4) ∧ isO (θn θ (N + 24)) a0 12 ∧ (tb θ + (N + 23)) ≠ 0 ∧ ∀ U_96 : UT, U_96 = up2 U_92 a0 45 (tb θ + (N + 23)) → tL θ (N + 24) = (1, 0, 4) ∧ isO (θn θ (N + 25)) a0 12 ∧ (tb θ + (N + 24)) ≠ 0 ∧ ∀ U_100 : UT, U_100 = up2 U_96 a0 46 (tb θ + (N + 24)) → tL θ (N + 25) = (1, 0, 32) ∧ isO (θn θ (N + 26)) a0 12 ∧ (tb θ + (N + 25)) ≠ 0 ∧ ∀ U_104 : UT, U_104 = up2 U_100 a0 47 (tb θ + (N + 25)) → tL θ (N + 26) = (1, 0, 32) ∧ isO (θn θ (N + 27)) a0 12 ∧ (tb θ + (N + 26)) ≠ 0 ∧ ∀ U_108 : UT, U_108 = up2 U_104 a0 48 (tb θ + (N + 26)) → tL θ (N + 27) = (1, 1, 4) ∧ isO (θn θ (N + 28)) a0 12 ∧ (tb θ + (N + 27)) ≠ 0 ∧ ∀ U_112 : UT, U_112 = up2 U_108 a0 49 (tb θ + (N + 27)) → tL θ (N + 28) = (1, 0, 128) ∧ isO (θn θ (N + 29)) a0 12 ∧ (tb θ + (N + 28)) ≠ 0 ∧ ∀ U_116 : UT, U_116 = up2 U_112 a0 50 (tb θ + (N + 28)) → tL θ (N + 29) = (1, 0, 32) ∧ isO (θn θ (N + 30)) a0 12 ∧ (tb θ + (N + 29)) ≠ 0 ∧ ∀ U_120 : UT, U_120 = up2 U_116 a0 51 (tb θ + (N + 29)) → tL θ (N + 30) = (1, 0, 96) ∧ isO (θn θ (N + 31)) a0 12 ∧ (tb θ + (N + 30)) ≠ 0 ∧ ∀ U_124 : UT, U_124 = up2 U_120 a0 52 (tb θ + (N + 30)) → ∀ V_125 : VT, V_125 = up2 V a0 53 (-1 : Int32) → tL θ (N + 31) = (1, 1, 2) ∧ isO (θn θ (N + 32)) a0 12 ∧ (tb θ + (N + 31)) ≠ 0 ∧ ∀ U_129 : UT, U_129 = up2 U_124 a0 59 (tb θ + (N + 31)) → tL θ (N + 32) = (1, 0, 64) ∧ isO (θn θ (N + 33)) a0 12 ∧ (tb θ + (N + 32)) ≠ 0 ∧ ∀ U_133 : UT, U_133 = up2 U_129 a0 60 (tb θ + (N + 32)) → tL θ (N + 33) = (1, 0, 64) ∧ isO (θn θ (N + 34)) a0 12 ∧ (tb θ + (N + 33)) ≠ 0 ∧ ∀ U_137 : UT, U_137 = up2 U_133 a0 61 (tb θ + (N + 33)) → tL θ (N + 34) = (1, 0, 14) ∧ isO (θn θ (N + 35)) a0 12 ∧ (tb θ + (N + 34)) ≠ 0 ∧ ∀ U_141 : UT, U_141 = up2 U_137 a0 62 (tb θ + (N + 34)) → tL θ (N + 35) = (1, 0, 14) ∧ isO (θn θ (N + 36)) a0 12 ∧ (tb θ + (N + 35)) ≠ 0 ∧ ∀ U_145 : UT, U_145 = up2 U_141 a0 63 (tb θ + (N + 35)) → tL θ (N + 36) = (1, 1, 14) ∧ isO (θn θ (N + 37)) a0 12 ∧ (tb θ + (N + 36)) ≠ 0 ∧ ∀ U_149 : UT, U_149 = up2 U_145 a0 64 (tb θ + (N + 36)) → tL θ (N + 37) = (1, 0, 2) ∧ isO (θn θ (N + 38)) a0 12 ∧ (tb θ + (N + 37)) ≠ 0 ∧ ∀ U_153 : UT, U_153 = up2 U_149 a0 66 (tb θ + (N + 37)) → tL θ (N + 38) = (1, 0, 128) ∧ isO (θn θ (N + 39)) a0 12 ∧ (tb θ + (N + 38)) ≠ 0 ∧ ∀ U_157 : UT, U_157 = up2 U_153 a0 67 (tb θ + (N + 38)) → K (N + 39) V_125 U_157
set_option maxRecDepth 100000 in
set_option maxHeartbeats 4000000 in
theorem c_M_init (l : Launch) (θ : TH) (a0 : Nat) (N : Nat) (V : VT) (U : UT) (K : Nat → VT → UT → Prop) (hw : wp_M_init θ a0 N V U K) : CMc l yM_init kM_init 1 rcM_init θ [.ref a0] N V U K 39 7989 := by
  refine n_met nRM (by decide +kernel) rfl rfl (Nat.le_of_ble_eq_true rfl) (fun p e s m args below meth c ls hC hov hin hr hlk hwo hsz hl => ?_)
  have hx := hC.1
  have hb := hC.2.1
  have hS : Sx θ s s.heap [] := va_S.rf
  have hl : lv_has ls 1 [(0, .ref a0)] := hl
  unfold wp_M_init at hw
  obtain ⟨hv, hw⟩ := hw
  refine lv_aload_n hx hb dM_init_0 rfl (lv_at hl 0 rfl) ?_
  refine n_obj hC lkM_1 ka_obj hl.1 (by decide) (by decide) dM_init_1 ?_
  refine lv_aload_n hx hb dM_init_4 rfl (lv_at hl 0 rfl) ?_
  refine lv_sipush (v := 1000) hx hb dM_init_5 (by decide) ?_
  obtain ⟨hL_1, hw⟩ := hw
  refine n_newI hC ka_ai hwo hsz hS hv hL_1 (by decide) (by decide) (by decide) (by decide) (by decide) dM_init_8 (fun H hwo hsz hS => ?_)
  replace hv := vz.mono hv (Nat.le_succ _)
  obtain ⟨ho_2, hw⟩ := hw
  obtain ⟨hz_3, hw⟩ := hw
  refine n_putR hC hin flM_7 (fun _ => ⟨rfl, rfl⟩) rfl hwo hsz hS hv ho_2 hz_3 dM_init_10 (fun U_4 eU_4 hv H locs hwo hsz hS => ?_)
  replace hw := hw U_4 eU_4
  refine lv_aload_n hx hb dM_init_13 rfl (lv_at hl 0 rfl) ?_
  refine lv_bipush (v := 64) hx hb dM_init_14 (by decide) ?_
  obtain ⟨hL_5, hw⟩ := hw
  refine n_newI hC ka_ai hwo hsz hS hv hL_5 (by decide) (by decide) (by decide) (by decide) (by decide) dM_init_16 (fun H hwo hsz hS => ?_)
  replace hv := vz.mono hv (Nat.le_succ _)
  obtain ⟨ho_6, hw⟩ := hw
  obtain ⟨hz_7, hw⟩ := hw
  refine n_putR hC hin flM_13 (fun _ => ⟨rfl, rfl⟩) rfl hwo hsz hS hv ho_6 hz_7 dM_init_18 (fun U_8 eU_8 hv H locs hwo hsz hS => ?_)
  replace hw := hw U_8 eU_8
  refine lv_aload_n hx hb dM_init_21 rfl (lv_at hl 0 rfl) ?_
  refine lv_bipush (v := 64) hx hb dM_init_22 (by decide) ?_
  obtain ⟨hL_9, hw⟩ := hw
  refine n_newI hC ka_ai hwo hsz hS hv hL_9 (by decide) (by decide) (by decide) (by decide) (by decide) dM_init_24 (fun H hwo hsz hS => ?_)
  replace hv := vz.mono hv (Nat.le_succ _)
  obtain ⟨ho_10, hw⟩ := hw
  obtain ⟨hz_11, hw⟩ := hw
  refine n_putR hC hin flM_16 (fun _ => ⟨rfl, rfl⟩) rfl hwo hsz hS hv ho_10 hz_11 dM_init_26 (fun U_12 eU_12 hv H locs hwo hsz hS => ?_)
  replace hw := hw U_12 eU_12
  refine lv_aload_n hx hb dM_init_29 rfl (lv_at hl 0 rfl) ?_
  refine lv_bipush (v := 64) hx hb dM_init_30 (by decide) ?_
  obtain ⟨hL_13, hw⟩ := hw
  refine n_newI hC ka_ai hwo hsz hS hv hL_13 (by decide) (by decide) (by decide) (by decide) (by decide) dM_init_32 (fun H hwo hsz hS => ?_)
  replace hv := vz.mono hv (Nat.le_succ _)
  obtain ⟨ho_14, hw⟩ := hw
  obtain ⟨hz_15, hw⟩ := hw
  refine n_putR hC hin flM_19 (fun _ => ⟨rfl, rfl⟩) rfl hwo hsz hS hv ho_14 hz_15 dM_init_34 (fun U_16 eU_16 hv H locs hwo hsz hS => ?_)
  replace hw := hw U_16 eU_16
  refine lv_aload_n hx hb dM_init_37 rfl (lv_at hl 0 rfl) ?_
  refine lv_bipush (v := 64) hx hb dM_init_38 (by decide) ?_
  obtain ⟨hL_17, hw⟩ := hw
  refine n_newI hC ka_ai hwo hsz hS hv hL_17 (by decide) (by decide) (by decide) (by decide) (by decide) dM_init_40 (fun H hwo hsz hS => ?_)
  replace hv := vz.mono hv (Nat.le_succ _)
  obtain ⟨ho_18, hw⟩ := hw
  obtain ⟨hz_19, hw⟩ := hw
  refine n_putR hC hin flM_22 (fun _ => ⟨rfl, rfl⟩) rfl hwo hsz hS hv ho_18 hz_19 dM_init_42 (fun U_20 eU_20 hv H locs hwo hsz hS => ?_)
  replace hw := hw U_20 eU_20
  refine lv_aload_n hx hb dM_init_45 rfl (lv_at hl 0 rfl) ?_
  refine lv_sipush (v := 960) hx hb dM_init_46 (by decide) ?_
  obtain ⟨hL_21, hw⟩ := hw
  refine n_newI hC ka_ai hwo hsz hS hv hL_21 (by decide) (by decide) (by decide) (by decide) (by decide) dM_init_49 (fun H hwo hsz hS => ?_)
  replace hv := vz.mono hv (Nat.le_succ _)
  obtain ⟨ho_22, hw⟩ := hw
  obtain ⟨hz_23, hw⟩ := hw
  refine n_putR hC hin flM_25 (fun _ => ⟨rfl, rfl⟩) rfl hwo hsz hS hv ho_22 hz_23 dM_init_51 (fun U_24 eU_24 hv H locs hwo hsz hS => ?_)
  replace hw := hw U_24 eU_24
  refine lv_aload_n hx hb dM_init_54 rfl (lv_at hl 0 rfl) ?_
  refine lv_iconst (v := 4) hx hb dM_init_55 (by decide) ?_
  obtain ⟨hL_25, hw⟩ := hw
  refine n_newI hC ka_ai hwo hsz hS hv hL_25 (by decide) (by decide) (by decide) (by decide) (by decide) dM_init_56 (fun H hwo hsz hS => ?_)
  replace hv := vz.mono hv (Nat.le_succ _)
  obtain ⟨ho_26, hw⟩ := hw
  obtain ⟨hz_27, hw⟩ := hw
  refine n_putR hC hin flM_28 (fun _ => ⟨rfl, rfl⟩) rfl hwo hsz hS hv ho_26 hz_27 dM_init_58 (fun U_28 eU_28 hv H locs hwo hsz hS => ?_)
  replace hw := hw U_28 eU_28
  refine lv_aload_n hx hb dM_init_61 rfl (lv_at hl 0 rfl) ?_
  refine lv_iconst (v := 4) hx hb dM_init_62 (by decide) ?_
  obtain ⟨hL_29, hw⟩ := hw
  refine n_newI hC ka_ai hwo hsz hS hv hL_29 (by decide) (by decide) (by decide) (by decide) (by decide) dM_init_63 (fun H hwo hsz hS => ?_)
  replace hv := vz.mono hv (Nat.le_succ _)
  obtain ⟨ho_30, hw⟩ := hw
  obtain ⟨hz_31, hw⟩ := hw
  refine n_putR hC hin flM_31 (fun _ => ⟨rfl, rfl⟩) rfl hwo hsz hS hv ho_30 hz_31 dM_init_65 (fun U_32 eU_32 hv H locs hwo hsz hS => ?_)
  replace hw := hw U_32 eU_32
  refine lv_aload_n hx hb dM_init_68 rfl (lv_at hl 0 rfl) ?_
  refine lv_iconst (v := 4) hx hb dM_init_69 (by decide) ?_
  obtain ⟨hL_33, hw⟩ := hw
  refine n_newZ hC ka_az hwo hsz hS hv hL_33 (by decide) (by decide) (by decide) (by decide) (by decide) dM_init_70 (fun H hwo hsz hS => ?_)
  replace hv := vz.mono hv (Nat.le_succ _)
  obtain ⟨ho_34, hw⟩ := hw
  obtain ⟨hz_35, hw⟩ := hw
  refine n_putR hC hin flM_34 (fun _ => ⟨rfl, rfl⟩) rfl hwo hsz hS hv ho_34 hz_35 dM_init_72 (fun U_36 eU_36 hv H locs hwo hsz hS => ?_)
  replace hw := hw U_36 eU_36
  refine lv_aload_n hx hb dM_init_75 rfl (lv_at hl 0 rfl) ?_
  refine lv_bipush (v := 72) hx hb dM_init_76 (by decide) ?_
  obtain ⟨hL_37, hw⟩ := hw
  refine n_newI hC ka_ai hwo hsz hS hv hL_37 (by decide) (by decide) (by decide) (by decide) (by decide) dM_init_78 (fun H hwo hsz hS => ?_)
  replace hv := vz.mono hv (Nat.le_succ _)
  obtain ⟨ho_38, hw⟩ := hw
  obtain ⟨hz_39, hw⟩ := hw
  refine n_putR hC hin flM_38 (fun _ => ⟨rfl, rfl⟩) rfl hwo hsz hS hv ho_38 hz_39 dM_init_80 (fun U_40 eU_40 hv H locs hwo hsz hS => ?_)
  replace hw := hw U_40 eU_40
  refine lv_aload_n hx hb dM_init_83 rfl (lv_at hl 0 rfl) ?_
  refine lv_iconst (v := 3) hx hb dM_init_84 (by decide) ?_
  obtain ⟨hL_41, hw⟩ := hw
  refine n_newI hC ka_ai hwo hsz hS hv hL_41 (by decide) (by decide) (by decide) (by decide) (by decide) dM_init_85 (fun H hwo hsz hS => ?_)
  replace hv := vz.mono hv (Nat.le_succ _)
  obtain ⟨ho_42, hw⟩ := hw
  obtain ⟨hz_43, hw⟩ := hw
  refine n_putR hC hin flM_41 (fun _ => ⟨rfl, rfl⟩) rfl hwo hsz hS hv ho_42 hz_43 dM_init_87 (fun U_44 eU_44 hv H locs hwo hsz hS => ?_)
  replace hw := hw U_44 eU_44
  refine lv_aload_n hx hb dM_init_90 rfl (lv_at hl 0 rfl) ?_
  refine lv_iconst (v := 3) hx hb dM_init_91 (by decide) ?_
  obtain ⟨hL_45, hw⟩ := hw
  refine n_newI hC ka_ai hwo hsz hS hv hL_45 (by decide) (by decide) (by decide) (by decide) (by decide) dM_init_92 (fun H hwo hsz hS => ?_)
  replace hv := vz.mono hv (Nat.le_succ _)
  obtain ⟨ho_46, hw⟩ := hw
  obtain ⟨hz_47, hw⟩ := hw
  refine n_putR hC hin flM_44 (fun _ => ⟨rfl, rfl⟩) rfl hwo hsz hS hv ho_46 hz_47 dM_init_94 (fun U_48 eU_48 hv H locs hwo hsz hS => ?_)
  replace hw := hw U_48 eU_48
  refine lv_aload_n hx hb dM_init_97 rfl (lv_at hl 0 rfl) ?_
  refine lv_iconst (v := 3) hx hb dM_init_98 (by decide) ?_
  obtain ⟨hL_49, hw⟩ := hw
  refine n_newI hC ka_ai hwo hsz hS hv hL_49 (by decide) (by decide) (by decide) (by decide) (by decide) dM_init_99 (fun H hwo hsz hS => ?_)
  replace hv := vz.mono hv (Nat.le_succ _)
  obtain ⟨ho_50, hw⟩ := hw
  obtain ⟨hz_51, hw⟩ := hw
  refine n_putR hC hin flM_47 (fun _ => ⟨rfl, rfl⟩) rfl hwo hsz hS hv ho_50 hz_51 dM_init_101 (fun U_52 eU_52 hv H locs hwo hsz hS => ?_)
  replace hw := hw U_52 eU_52
  refine lv_aload_n hx hb dM_init_104 rfl (lv_at hl 0 rfl) ?_
  refine lv_iconst (v := 3) hx hb dM_init_105 (by decide) ?_
  obtain ⟨hL_53, hw⟩ := hw
  refine n_newZ hC ka_az hwo hsz hS hv hL_53 (by decide) (by decide) (by decide) (by decide) (by decide) dM_init_106 (fun H hwo hsz hS => ?_)
  replace hv := vz.mono hv (Nat.le_succ _)
  obtain ⟨ho_54, hw⟩ := hw
  obtain ⟨hz_55, hw⟩ := hw
  refine n_putR hC hin flM_50 (fun _ => ⟨rfl, rfl⟩) rfl hwo hsz hS hv ho_54 hz_55 dM_init_108 (fun U_56 eU_56 hv H locs hwo hsz hS => ?_)
  replace hw := hw U_56 eU_56
  refine lv_aload_n hx hb dM_init_111 rfl (lv_at hl 0 rfl) ?_
  refine lv_iconst (v := 3) hx hb dM_init_112 (by decide) ?_
  obtain ⟨hL_57, hw⟩ := hw
  refine n_newI hC ka_ai hwo hsz hS hv hL_57 (by decide) (by decide) (by decide) (by decide) (by decide) dM_init_113 (fun H hwo hsz hS => ?_)
  replace hv := vz.mono hv (Nat.le_succ _)
  obtain ⟨ho_58, hw⟩ := hw
  obtain ⟨hz_59, hw⟩ := hw
  refine n_putR hC hin flM_53 (fun _ => ⟨rfl, rfl⟩) rfl hwo hsz hS hv ho_58 hz_59 dM_init_115 (fun U_60 eU_60 hv H locs hwo hsz hS => ?_)
  replace hw := hw U_60 eU_60
  refine lv_aload_n hx hb dM_init_118 rfl (lv_at hl 0 rfl) ?_
  refine lv_sipush (v := 3000) hx hb dM_init_119 (by decide) ?_
  obtain ⟨hL_61, hw⟩ := hw
  refine n_newI hC ka_ai hwo hsz hS hv hL_61 (by decide) (by decide) (by decide) (by decide) (by decide) dM_init_122 (fun H hwo hsz hS => ?_)
  replace hv := vz.mono hv (Nat.le_succ _)
  obtain ⟨ho_62, hw⟩ := hw
  obtain ⟨hz_63, hw⟩ := hw
  refine n_putR hC hin flM_56 (fun _ => ⟨rfl, rfl⟩) rfl hwo hsz hS hv ho_62 hz_63 dM_init_124 (fun U_64 eU_64 hv H locs hwo hsz hS => ?_)
  replace hw := hw U_64 eU_64
  refine lv_aload_n hx hb dM_init_127 rfl (lv_at hl 0 rfl) ?_
  refine lv_bipush (v := 8) hx hb dM_init_128 (by decide) ?_
  obtain ⟨hL_65, hw⟩ := hw
  refine n_newI hC ka_ai hwo hsz hS hv hL_65 (by decide) (by decide) (by decide) (by decide) (by decide) dM_init_130 (fun H hwo hsz hS => ?_)
  replace hv := vz.mono hv (Nat.le_succ _)
  obtain ⟨ho_66, hw⟩ := hw
  obtain ⟨hz_67, hw⟩ := hw
  refine n_putR hC hin flM_59 (fun _ => ⟨rfl, rfl⟩) rfl hwo hsz hS hv ho_66 hz_67 dM_init_132 (fun U_68 eU_68 hv H locs hwo hsz hS => ?_)
  replace hw := hw U_68 eU_68
  refine lv_aload_n hx hb dM_init_135 rfl (lv_at hl 0 rfl) ?_
  refine lv_bipush (v := 8) hx hb dM_init_136 (by decide) ?_
  obtain ⟨hL_69, hw⟩ := hw
  refine n_newI hC ka_ai hwo hsz hS hv hL_69 (by decide) (by decide) (by decide) (by decide) (by decide) dM_init_138 (fun H hwo hsz hS => ?_)
  replace hv := vz.mono hv (Nat.le_succ _)
  obtain ⟨ho_70, hw⟩ := hw
  obtain ⟨hz_71, hw⟩ := hw
  refine n_putR hC hin flM_62 (fun _ => ⟨rfl, rfl⟩) rfl hwo hsz hS hv ho_70 hz_71 dM_init_140 (fun U_72 eU_72 hv H locs hwo hsz hS => ?_)
  replace hw := hw U_72 eU_72
  refine lv_aload_n hx hb dM_init_143 rfl (lv_at hl 0 rfl) ?_
  refine lv_bipush (v := 8) hx hb dM_init_144 (by decide) ?_
  obtain ⟨hL_73, hw⟩ := hw
  refine n_newI hC ka_ai hwo hsz hS hv hL_73 (by decide) (by decide) (by decide) (by decide) (by decide) dM_init_146 (fun H hwo hsz hS => ?_)
  replace hv := vz.mono hv (Nat.le_succ _)
  obtain ⟨ho_74, hw⟩ := hw
  obtain ⟨hz_75, hw⟩ := hw
  refine n_putR hC hin flM_65 (fun _ => ⟨rfl, rfl⟩) rfl hwo hsz hS hv ho_74 hz_75 dM_init_148 (fun U_76 eU_76 hv H locs hwo hsz hS => ?_)
  replace hw := hw U_76 eU_76
  refine lv_aload_n hx hb dM_init_151 rfl (lv_at hl 0 rfl) ?_
  refine lv_bipush (v := 8) hx hb dM_init_152 (by decide) ?_
  obtain ⟨hL_77, hw⟩ := hw
  refine n_newZ hC ka_az hwo hsz hS hv hL_77 (by decide) (by decide) (by decide) (by decide) (by decide) dM_init_154 (fun H hwo hsz hS => ?_)
  replace hv := vz.mono hv (Nat.le_succ _)
  obtain ⟨ho_78, hw⟩ := hw
  obtain ⟨hz_79, hw⟩ := hw
  refine n_putR hC hin flM_68 (fun _ => ⟨rfl, rfl⟩) rfl hwo hsz hS hv ho_78 hz_79 dM_init_156 (fun U_80 eU_80 hv H locs hwo hsz hS => ?_)
  replace hw := hw U_80 eU_80
  refine lv_aload_n hx hb dM_init_159 rfl (lv_at hl 0 rfl) ?_
  refine lv_bipush (v := 8) hx hb dM_init_160 (by decide) ?_
  obtain ⟨hL_81, hw⟩ := hw
  refine n_newI hC ka_ai hwo hsz hS hv hL_81 (by decide) (by decide) (by decide) (by decide) (by decide) dM_init_162 (fun H hwo hsz hS => ?_)
  replace hv := vz.mono hv (Nat.le_succ _)
  obtain ⟨ho_82, hw⟩ := hw
  obtain ⟨hz_83, hw⟩ := hw
  refine n_putR hC hin flM_71 (fun _ => ⟨rfl, rfl⟩) rfl hwo hsz hS hv ho_82 hz_83 dM_init_164 (fun U_84 eU_84 hv H locs hwo hsz hS => ?_)
  replace hw := hw U_84 eU_84
  refine lv_aload_n hx hb dM_init_167 rfl (lv_at hl 0 rfl) ?_
  refine lv_sipush (v := 1000) hx hb dM_init_168 (by decide) ?_
  obtain ⟨hL_85, hw⟩ := hw
  refine n_newI hC ka_ai hwo hsz hS hv hL_85 (by decide) (by decide) (by decide) (by decide) (by decide) dM_init_171 (fun H hwo hsz hS => ?_)
  replace hv := vz.mono hv (Nat.le_succ _)
  obtain ⟨ho_86, hw⟩ := hw
  obtain ⟨hz_87, hw⟩ := hw
  refine n_putR hC hin flM_74 (fun _ => ⟨rfl, rfl⟩) rfl hwo hsz hS hv ho_86 hz_87 dM_init_173 (fun U_88 eU_88 hv H locs hwo hsz hS => ?_)
  replace hw := hw U_88 eU_88
  refine lv_aload_n hx hb dM_init_176 rfl (lv_at hl 0 rfl) ?_
  refine lv_sipush (v := 1000) hx hb dM_init_177 (by decide) ?_
  obtain ⟨hL_89, hw⟩ := hw
  refine n_newI hC ka_ai hwo hsz hS hv hL_89 (by decide) (by decide) (by decide) (by decide) (by decide) dM_init_180 (fun H hwo hsz hS => ?_)
  replace hv := vz.mono hv (Nat.le_succ _)
  obtain ⟨ho_90, hw⟩ := hw
  obtain ⟨hz_91, hw⟩ := hw
  refine n_putR hC hin flM_77 (fun _ => ⟨rfl, rfl⟩) rfl hwo hsz hS hv ho_90 hz_91 dM_init_182 (fun U_92 eU_92 hv H locs hwo hsz hS => ?_)
  replace hw := hw U_92 eU_92
  refine lv_aload_n hx hb dM_init_185 rfl (lv_at hl 0 rfl) ?_
  refine lv_iconst (v := 4) hx hb dM_init_186 (by decide) ?_
  obtain ⟨hL_93, hw⟩ := hw
  refine n_newI hC ka_ai hwo hsz hS hv hL_93 (by decide) (by decide) (by decide) (by decide) (by decide) dM_init_187 (fun H hwo hsz hS => ?_)
  replace hv := vz.mono hv (Nat.le_succ _)
  obtain ⟨ho_94, hw⟩ := hw
  obtain ⟨hz_95, hw⟩ := hw
  refine n_putR hC hin flM_80 (fun _ => ⟨rfl, rfl⟩) rfl hwo hsz hS hv ho_94 hz_95 dM_init_189 (fun U_96 eU_96 hv H locs hwo hsz hS => ?_)
  replace hw := hw U_96 eU_96
  refine lv_aload_n hx hb dM_init_192 rfl (lv_at hl 0 rfl) ?_
  refine lv_iconst (v := 4) hx hb dM_init_193 (by decide) ?_
  obtain ⟨hL_97, hw⟩ := hw
  refine n_newI hC ka_ai hwo hsz hS hv hL_97 (by decide) (by decide) (by decide) (by decide) (by decide) dM_init_194 (fun H hwo hsz hS => ?_)
  replace hv := vz.mono hv (Nat.le_succ _)
  obtain ⟨ho_98, hw⟩ := hw
  obtain ⟨hz_99, hw⟩ := hw
  refine n_putR hC hin flM_83 (fun _ => ⟨rfl, rfl⟩) rfl hwo hsz hS hv ho_98 hz_99 dM_init_196 (fun U_100 eU_100 hv H locs hwo hsz hS => ?_)
  replace hw := hw U_100 eU_100
  refine lv_aload_n hx hb dM_init_199 rfl (lv_at hl 0 rfl) ?_
  refine lv_bipush (v := 32) hx hb dM_init_200 (by decide) ?_
  obtain ⟨hL_101, hw⟩ := hw
  refine n_newI hC ka_ai hwo hsz hS hv hL_101 (by decide) (by decide) (by decide) (by decide) (by decide) dM_init_202 (fun H hwo hsz hS => ?_)
  replace hv := vz.mono hv (Nat.le_succ _)
  obtain ⟨ho_102, hw⟩ := hw
  obtain ⟨hz_103, hw⟩ := hw
  refine n_putR hC hin flM_86 (fun _ => ⟨rfl, rfl⟩) rfl hwo hsz hS hv ho_102 hz_103 dM_init_204 (fun U_104 eU_104 hv H locs hwo hsz hS => ?_)
  replace hw := hw U_104 eU_104
  refine lv_aload_n hx hb dM_init_207 rfl (lv_at hl 0 rfl) ?_
  refine lv_bipush (v := 32) hx hb dM_init_208 (by decide) ?_
  obtain ⟨hL_105, hw⟩ := hw
  refine n_newI hC ka_ai hwo hsz hS hv hL_105 (by decide) (by decide) (by decide) (by decide) (by decide) dM_init_210 (fun H hwo hsz hS => ?_)
  replace hv := vz.mono hv (Nat.le_succ _)
  obtain ⟨ho_106, hw⟩ := hw
  obtain ⟨hz_107, hw⟩ := hw
  refine n_putR hC hin flM_89 (fun _ => ⟨rfl, rfl⟩) rfl hwo hsz hS hv ho_106 hz_107 dM_init_212 (fun U_108 eU_108 hv H locs hwo hsz hS => ?_)
  replace hw := hw U_108 eU_108
  refine lv_aload_n hx hb dM_init_215 rfl (lv_at hl 0 rfl) ?_
  refine lv_iconst (v := 4) hx hb dM_init_216 (by decide) ?_
  obtain ⟨hL_109, hw⟩ := hw
  refine n_newZ hC ka_az hwo hsz hS hv hL_109 (by decide) (by decide) (by decide) (by decide) (by decide) dM_init_217 (fun H hwo hsz hS => ?_)
  replace hv := vz.mono hv (Nat.le_succ _)
  obtain ⟨ho_110, hw⟩ := hw
  obtain ⟨hz_111, hw⟩ := hw
  refine n_putR hC hin flM_92 (fun _ => ⟨rfl, rfl⟩) rfl hwo hsz hS hv ho_110 hz_111 dM_init_219 (fun U_112 eU_112 hv H locs hwo hsz hS => ?_)
  replace hw := hw U_112 eU_112
  refine lv_aload_n hx hb dM_init_222 rfl (lv_at hl 0 rfl) ?_
  refine lv_sipush (v := 128) hx hb dM_init_223 (by decide) ?_
  obtain ⟨hL_113, hw⟩ := hw
  refine n_newI hC ka_ai hwo hsz hS hv hL_113 (by decide) (by decide) (by decide) (by decide) (by decide) dM_init_226 (fun H hwo hsz hS => ?_)
  replace hv := vz.mono hv (Nat.le_succ _)
  obtain ⟨ho_114, hw⟩ := hw
  obtain ⟨hz_115, hw⟩ := hw
  refine n_putR hC hin flM_95 (fun _ => ⟨rfl, rfl⟩) rfl hwo hsz hS hv ho_114 hz_115 dM_init_228 (fun U_116 eU_116 hv H locs hwo hsz hS => ?_)
  replace hw := hw U_116 eU_116
  refine lv_aload_n hx hb dM_init_231 rfl (lv_at hl 0 rfl) ?_
  refine lv_bipush (v := 32) hx hb dM_init_232 (by decide) ?_
  obtain ⟨hL_117, hw⟩ := hw
  refine n_newI hC ka_ai hwo hsz hS hv hL_117 (by decide) (by decide) (by decide) (by decide) (by decide) dM_init_234 (fun H hwo hsz hS => ?_)
  replace hv := vz.mono hv (Nat.le_succ _)
  obtain ⟨ho_118, hw⟩ := hw
  obtain ⟨hz_119, hw⟩ := hw
  refine n_putR hC hin flM_98 (fun _ => ⟨rfl, rfl⟩) rfl hwo hsz hS hv ho_118 hz_119 dM_init_236 (fun U_120 eU_120 hv H locs hwo hsz hS => ?_)
  replace hw := hw U_120 eU_120
  refine lv_aload_n hx hb dM_init_239 rfl (lv_at hl 0 rfl) ?_
  refine lv_bipush (v := 96) hx hb dM_init_240 (by decide) ?_
  obtain ⟨hL_121, hw⟩ := hw
  refine n_newI hC ka_ai hwo hsz hS hv hL_121 (by decide) (by decide) (by decide) (by decide) (by decide) dM_init_242 (fun H hwo hsz hS => ?_)
  replace hv := vz.mono hv (Nat.le_succ _)
  obtain ⟨ho_122, hw⟩ := hw
  obtain ⟨hz_123, hw⟩ := hw
  refine n_putR hC hin flM_101 (fun _ => ⟨rfl, rfl⟩) rfl hwo hsz hS hv ho_122 hz_123 dM_init_244 (fun U_124 eU_124 hv H locs hwo hsz hS => ?_)
  replace hw := hw U_124 eU_124
  refine lv_aload_n hx hb dM_init_247 rfl (lv_at hl 0 rfl) ?_
  refine lv_iconst (v := -1) hx hb dM_init_248 (by decide) ?_
  refine n_putI hC hin flM_104 rfl hwo hsz hS hv ho_122 dM_init_249 (fun V_125 eV_125 hv H locs hwo hsz hS => ?_)
  replace hw := hw V_125 eV_125
  refine lv_aload_n hx hb dM_init_252 rfl (lv_at hl 0 rfl) ?_
  refine lv_iconst (v := 2) hx hb dM_init_253 (by decide) ?_
  obtain ⟨hL_126, hw⟩ := hw
  refine n_newZ hC ka_az hwo hsz hS hv hL_126 (by decide) (by decide) (by decide) (by decide) (by decide) dM_init_254 (fun H hwo hsz hS => ?_)
  replace hv := vz.mono hv (Nat.le_succ _)
  obtain ⟨ho_127, hw⟩ := hw
  obtain ⟨hz_128, hw⟩ := hw
  refine n_putR hC hin flM_108 (fun _ => ⟨rfl, rfl⟩) rfl hwo hsz hS hv ho_127 hz_128 dM_init_256 (fun U_129 eU_129 hv H locs hwo hsz hS => ?_)
  replace hw := hw U_129 eU_129
  refine lv_aload_n hx hb dM_init_259 rfl (lv_at hl 0 rfl) ?_
  refine lv_bipush (v := 64) hx hb dM_init_260 (by decide) ?_
  obtain ⟨hL_130, hw⟩ := hw
  refine n_newI hC ka_ai hwo hsz hS hv hL_130 (by decide) (by decide) (by decide) (by decide) (by decide) dM_init_262 (fun H hwo hsz hS => ?_)
  replace hv := vz.mono hv (Nat.le_succ _)
  obtain ⟨ho_131, hw⟩ := hw
  obtain ⟨hz_132, hw⟩ := hw
  refine n_putR hC hin flM_111 (fun _ => ⟨rfl, rfl⟩) rfl hwo hsz hS hv ho_131 hz_132 dM_init_264 (fun U_133 eU_133 hv H locs hwo hsz hS => ?_)
  replace hw := hw U_133 eU_133
  refine lv_aload_n hx hb dM_init_267 rfl (lv_at hl 0 rfl) ?_
  refine lv_bipush (v := 64) hx hb dM_init_268 (by decide) ?_
  obtain ⟨hL_134, hw⟩ := hw
  refine n_newI hC ka_ai hwo hsz hS hv hL_134 (by decide) (by decide) (by decide) (by decide) (by decide) dM_init_270 (fun H hwo hsz hS => ?_)
  replace hv := vz.mono hv (Nat.le_succ _)
  obtain ⟨ho_135, hw⟩ := hw
  obtain ⟨hz_136, hw⟩ := hw
  refine n_putR hC hin flM_114 (fun _ => ⟨rfl, rfl⟩) rfl hwo hsz hS hv ho_135 hz_136 dM_init_272 (fun U_137 eU_137 hv H locs hwo hsz hS => ?_)
  replace hw := hw U_137 eU_137
  refine lv_aload_n hx hb dM_init_275 rfl (lv_at hl 0 rfl) ?_
  refine lv_bipush (v := 14) hx hb dM_init_276 (by decide) ?_
  obtain ⟨hL_138, hw⟩ := hw
  refine n_newI hC ka_ai hwo hsz hS hv hL_138 (by decide) (by decide) (by decide) (by decide) (by decide) dM_init_278 (fun H hwo hsz hS => ?_)
  replace hv := vz.mono hv (Nat.le_succ _)
  obtain ⟨ho_139, hw⟩ := hw
  obtain ⟨hz_140, hw⟩ := hw
  refine n_putR hC hin flM_117 (fun _ => ⟨rfl, rfl⟩) rfl hwo hsz hS hv ho_139 hz_140 dM_init_280 (fun U_141 eU_141 hv H locs hwo hsz hS => ?_)
  replace hw := hw U_141 eU_141
  refine lv_aload_n hx hb dM_init_283 rfl (lv_at hl 0 rfl) ?_
  refine lv_bipush (v := 14) hx hb dM_init_284 (by decide) ?_
  obtain ⟨hL_142, hw⟩ := hw
  refine n_newI hC ka_ai hwo hsz hS hv hL_142 (by decide) (by decide) (by decide) (by decide) (by decide) dM_init_286 (fun H hwo hsz hS => ?_)
  replace hv := vz.mono hv (Nat.le_succ _)
  obtain ⟨ho_143, hw⟩ := hw
  obtain ⟨hz_144, hw⟩ := hw
  refine n_putR hC hin flM_120 (fun _ => ⟨rfl, rfl⟩) rfl hwo hsz hS hv ho_143 hz_144 dM_init_288 (fun U_145 eU_145 hv H locs hwo hsz hS => ?_)
  replace hw := hw U_145 eU_145
  refine lv_aload_n hx hb dM_init_291 rfl (lv_at hl 0 rfl) ?_
  refine lv_bipush (v := 14) hx hb dM_init_292 (by decide) ?_
  obtain ⟨hL_146, hw⟩ := hw
  refine n_newZ hC ka_az hwo hsz hS hv hL_146 (by decide) (by decide) (by decide) (by decide) (by decide) dM_init_294 (fun H hwo hsz hS => ?_)
  replace hv := vz.mono hv (Nat.le_succ _)
  obtain ⟨ho_147, hw⟩ := hw
  obtain ⟨hz_148, hw⟩ := hw
  refine n_putR hC hin flM_123 (fun _ => ⟨rfl, rfl⟩) rfl hwo hsz hS hv ho_147 hz_148 dM_init_296 (fun U_149 eU_149 hv H locs hwo hsz hS => ?_)
  replace hw := hw U_149 eU_149
  refine lv_aload_n hx hb dM_init_299 rfl (lv_at hl 0 rfl) ?_
  refine lv_iconst (v := 2) hx hb dM_init_300 (by decide) ?_
  obtain ⟨hL_150, hw⟩ := hw
  refine n_newI hC ka_ai hwo hsz hS hv hL_150 (by decide) (by decide) (by decide) (by decide) (by decide) dM_init_301 (fun H hwo hsz hS => ?_)
  replace hv := vz.mono hv (Nat.le_succ _)
  obtain ⟨ho_151, hw⟩ := hw
  obtain ⟨hz_152, hw⟩ := hw
  refine n_putR hC hin flM_126 (fun _ => ⟨rfl, rfl⟩) rfl hwo hsz hS hv ho_151 hz_152 dM_init_303 (fun U_153 eU_153 hv H locs hwo hsz hS => ?_)
  replace hw := hw U_153 eU_153
  refine lv_aload_n hx hb dM_init_306 rfl (lv_at hl 0 rfl) ?_
  refine lv_sipush (v := 128) hx hb dM_init_307 (by decide) ?_
  obtain ⟨hL_154, hw⟩ := hw
  refine n_newI hC ka_ai hwo hsz hS hv hL_154 (by decide) (by decide) (by decide) (by decide) (by decide) dM_init_310 (fun H hwo hsz hS => ?_)
  replace hv := vz.mono hv (Nat.le_succ _)
  obtain ⟨ho_155, hw⟩ := hw
  obtain ⟨hz_156, hw⟩ := hw
  refine n_putR hC hin flM_129 (fun _ => ⟨rfl, rfl⟩) rfl hwo hsz hS hv ho_155 hz_156 dM_init_312 (fun U_157 eU_157 hv H locs hwo hsz hS => ?_)
  replace hw := hw U_157 eU_157
  exact n_ret hC hr hlk hw hwo hsz hS dM_init_315
