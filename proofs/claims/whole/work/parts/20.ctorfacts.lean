theorem oiI : Cond.instanceMethod objectInit ∈ tT := tM 114 (by decide +kernel) rfl
theorem oiC : Cond.code objectInit ⟨#[0xb1]⟩ 1 none ∈ tT := tM 115 (by decide +kernel) rfl
def ckE {R : Type} (x y : Int32) (k : Option R) : Option R := if x = y then k else none
theorem k_ckE {ρ : Type} {Q : ρ → State → Prop} {Γ : Gm} {Ξ : Gx} {E : Ev} {μ : Md} {σ : St} {pc : Nat} {lv : List (Nat × Value)} {st : List Value} {o : Option ρ} {x y : Int32} (k : x = y → Sim Q Γ Ξ E μ σ pc lv st o) : Sim Q Γ Ξ E μ σ pc lv st (ckE x y o) := by
  intro C r ho
  unfold ckE at ho
  by_cases h : x = y
  · rw [if_pos h] at ho; exact k h C r ho
  · rw [if_neg h] at ho; cases ho
theorem w_1179 : Cond.arrayClass .boolean ∈ tT := tM 1179 (by decide +kernel) rfl
theorem w_149 : Cond.arrayClass .int ∈ tT := tM 149 (by decide +kernel) rfl
theorem w_361 : Cond.arrayClass .long ∈ tT := tM 361 (by decide +kernel) rfl
theorem w_150 : Cond.classLink "RunnerNet" 18 "RunnerNet$Text" ∈ tT := tM 150 (by decide +kernel) rfl
theorem w_184 : Cond.classLink "RunnerNet" 25 "RunnerNet$Settings" ∈ tT := tM 184 (by decide +kernel) rfl
theorem w_186 : Cond.classLink "RunnerNet" 31 "RunnerNet$Chase" ∈ tT := tM 186 (by decide +kernel) rfl
theorem w_244 : Cond.classLink "RunnerNet" 43 "RunnerNet$Play" ∈ tT := tM 244 (by decide +kernel) rfl
theorem w_269 : Cond.classLink "RunnerNet" 50 "RunnerNet$Unseen" ∈ tT := tM 269 (by decide +kernel) rfl
theorem w_306 : Cond.classLink "RunnerNet" 59 "RunnerNet$Orders" ∈ tT := tM 306 (by decide +kernel) rfl
theorem w_116 : Cond.classLink "RunnerNet" 7 "RunnerNet$Net" ∈ tT := tM 116 (by decide +kernel) rfl
theorem w_328 : Cond.classLink "RunnerNet" 71 "RunnerNet$Covers" ∈ tT := tM 328 (by decide +kernel) rfl
theorem w_338 : Cond.classLink "RunnerNet" 80 "RunnerNet$Guards" ∈ tT := tM 338 (by decide +kernel) rfl
theorem w_1053 : Cond.constant "RunnerNetModel" 27 (36864) ∈ tT := tM 1053 (by decide +kernel) rfl
theorem w_1054 : Cond.constant "RunnerNetModel" 70 (65536) ∈ tT := tM 1054 (by decide +kernel) rfl
theorem gc_X0_15 : FLc "RunnerNet$Chase" 15 0 1 (.object "RunnerNet$Settings") := ⟨RX0, TX0, 8, tyX0, rfl, inX0, tyX0_ok, nmX0, by decide, tM 220 (by decide +kernel) rfl, rfl, rfl, by decide, rfl⟩
theorem gc_X0_19 : FLc "RunnerNet$Chase" 19 0 2 (.int) := ⟨RX0, TX0, 8, tyX0, rfl, inX0, tyX0_ok, nmX0, by decide, tM 221 (by decide +kernel) rfl, rfl, rfl, by decide, rfl⟩
theorem gc_X0_29 : FLc "RunnerNet$Chase" 29 0 3 (.array .int) := ⟨RX0, TX0, 8, tyX0, rfl, inX0, tyX0_ok, nmX0, by decide, tM 222 (by decide +kernel) rfl, rfl, rfl, by decide, rfl⟩
theorem gc_X0_33 : FLc "RunnerNet$Chase" 33 0 4 (.array .int) := ⟨RX0, TX0, 8, tyX0, rfl, inX0, tyX0_ok, nmX0, by decide, tM 223 (by decide +kernel) rfl, rfl, rfl, by decide, rfl⟩
theorem gc_X0_36 : FLc "RunnerNet$Chase" 36 0 5 (.array .int) := ⟨RX0, TX0, 8, tyX0, rfl, inX0, tyX0_ok, nmX0, by decide, tM 224 (by decide +kernel) rfl, rfl, rfl, by decide, rfl⟩
theorem gc_X0_39 : FLc "RunnerNet$Chase" 39 0 6 (.array .int) := ⟨RX0, TX0, 8, tyX0, rfl, inX0, tyX0_ok, nmX0, by decide, tM 225 (by decide +kernel) rfl, rfl, rfl, by decide, rfl⟩
theorem gc_X0_9 : FLc "RunnerNet$Chase" 9 0 0 (.object "RunnerNet$Net") := ⟨RX0, TX0, 8, tyX0, rfl, inX0, tyX0_ok, nmX0, by decide, tM 219 (by decide +kernel) rfl, rfl, rfl, by decide, rfl⟩
theorem gc_X1_9 : FLc "RunnerNet$Covers" 9 1 0 (.object "RunnerNet$Net") := ⟨RX1, TX1, 1, tyX1, rfl, inX1, tyX1_ok, nmX1, by decide, tM 334 (by decide +kernel) rfl, rfl, rfl, by decide, rfl⟩
theorem gc_X2_11 : FLc "RunnerNet$Guards" 11 2 2 (.array .long) := ⟨RX2, TX2, 5, tyX2, rfl, inX2, tyX2_ok, nmX2, by decide, tM 347 (by decide +kernel) rfl, rfl, rfl, by decide, rfl⟩
theorem gc_X2_15 : FLc "RunnerNet$Guards" 15 2 3 (.array .long) := ⟨RX2, TX2, 5, tyX2, rfl, inX2, tyX2_ok, nmX2, by decide, tM 348 (by decide +kernel) rfl, rfl, rfl, by decide, rfl⟩
theorem gc_X2_18 : FLc "RunnerNet$Guards" 18 2 0 (.object "RunnerNet$Net") := ⟨RX2, TX2, 5, tyX2, rfl, inX2, tyX2_ok, nmX2, by decide, tM 345 (by decide +kernel) rfl, rfl, rfl, by decide, rfl⟩
theorem gc_X2_22 : FLc "RunnerNet$Guards" 22 2 1 (.int) := ⟨RX2, TX2, 5, tyX2, rfl, inX2, tyX2_ok, nmX2, by decide, tM 346 (by decide +kernel) rfl, rfl, rfl, by decide, rfl⟩
theorem gc_X3_15 : FLc "RunnerNet$Net" 15 3 3 (.array .int) := ⟨RX3, TX3, 6, tyX3, rfl, inX3, tyX3_ok, nmX3, by decide, tM 133 (by decide +kernel) rfl, rfl, rfl, by decide, rfl⟩
theorem gc_X3_18 : FLc "RunnerNet$Net" 18 3 4 (.array .int) := ⟨RX3, TX3, 6, tyX3, rfl, inX3, tyX3_ok, nmX3, by decide, tM 134 (by decide +kernel) rfl, rfl, rfl, by decide, rfl⟩
theorem gc_X3_21 : FLc "RunnerNet$Net" 21 3 5 (.array .int) := ⟨RX3, TX3, 6, tyX3, rfl, inX3, tyX3_ok, nmX3, by decide, tM 135 (by decide +kernel) rfl, rfl, rfl, by decide, rfl⟩
theorem gc_X3_9 : FLc "RunnerNet$Net" 9 3 2 (.array .int) := ⟨RX3, TX3, 6, tyX3, rfl, inX3, tyX3_ok, nmX3, by decide, tM 132 (by decide +kernel) rfl, rfl, rfl, by decide, rfl⟩
theorem gc_X4_15 : FLc "RunnerNet$Orders" 15 4 3 (.array .int) := ⟨RX4, TX4, 5, tyX4, rfl, inX4, tyX4_ok, nmX4, by decide, tM 315 (by decide +kernel) rfl, rfl, rfl, by decide, rfl⟩
theorem gc_X4_18 : FLc "RunnerNet$Orders" 18 4 0 (.object "RunnerNet$Net") := ⟨RX4, TX4, 5, tyX4, rfl, inX4, tyX4_ok, nmX4, by decide, tM 312 (by decide +kernel) rfl, rfl, rfl, by decide, rfl⟩
theorem gc_X4_22 : FLc "RunnerNet$Orders" 22 4 1 (.boolean) := ⟨RX4, TX4, 5, tyX4, rfl, inX4, tyX4_ok, nmX4, by decide, tM 313 (by decide +kernel) rfl, rfl, rfl, by decide, rfl⟩
theorem gc_X4_9 : FLc "RunnerNet$Orders" 9 4 2 (.array .int) := ⟨RX4, TX4, 5, tyX4, rfl, inX4, tyX4_ok, nmX4, by decide, tM 314 (by decide +kernel) rfl, rfl, rfl, by decide, rfl⟩
theorem gc_X6_15 : FLc "RunnerNet$Settings" 15 6 1 (.int) := ⟨RX6, TX6, 4, tyX6, rfl, inX6, tyX6_ok, nmX6, by decide, tM 198 (by decide +kernel) rfl, rfl, rfl, by decide, rfl⟩
theorem gc_X6_19 : FLc "RunnerNet$Settings" 19 6 2 (.int) := ⟨RX6, TX6, 4, tyX6, rfl, inX6, tyX6_ok, nmX6, by decide, tM 199 (by decide +kernel) rfl, rfl, rfl, by decide, rfl⟩
theorem gc_X6_22 : FLc "RunnerNet$Settings" 22 6 3 (.array .int) := ⟨RX6, TX6, 4, tyX6, rfl, inX6, tyX6_ok, nmX6, by decide, tM 200 (by decide +kernel) rfl, rfl, rfl, by decide, rfl⟩
theorem gc_X6_9 : FLc "RunnerNet$Settings" 9 6 0 (.object "RunnerNet$Net") := ⟨RX6, TX6, 4, tyX6, rfl, inX6, tyX6_ok, nmX6, by decide, tM 197 (by decide +kernel) rfl, rfl, rfl, by decide, rfl⟩
theorem gc_X7_11 : FLc "RunnerNet$Text" 11 7 0 (.array .int) := ⟨RX7, TX7, 9, tyX7, rfl, inX7, tyX7_ok, nmX7, by decide, tM 156 (by decide +kernel) rfl, rfl, rfl, by decide, rfl⟩
theorem gc_X7_15 : FLc "RunnerNet$Text" 15 7 6 (.array .int) := ⟨RX7, TX7, 9, tyX7, rfl, inX7, tyX7_ok, nmX7, by decide, tM 162 (by decide +kernel) rfl, rfl, rfl, by decide, rfl⟩
theorem gc_X7_18 : FLc "RunnerNet$Text" 18 7 7 (.array .int) := ⟨RX7, TX7, 9, tyX7, rfl, inX7, tyX7_ok, nmX7, by decide, tM 163 (by decide +kernel) rfl, rfl, rfl, by decide, rfl⟩
theorem gc_X7_21 : FLc "RunnerNet$Text" 21 7 8 (.array .int) := ⟨RX7, TX7, 9, tyX7, rfl, inX7, tyX7_ok, nmX7, by decide, tM 164 (by decide +kernel) rfl, rfl, rfl, by decide, rfl⟩
theorem gc_X8_11 : FLc "RunnerNet$Unseen" 11 8 1 (.array .int) := ⟨RX8, TX8, 10, tyX8, rfl, inX8, tyX8_ok, nmX8, by decide, tM 276 (by decide +kernel) rfl, rfl, rfl, by decide, rfl⟩
theorem gc_X8_15 : FLc "RunnerNet$Unseen" 15 8 2 (.array .int) := ⟨RX8, TX8, 10, tyX8, rfl, inX8, tyX8_ok, nmX8, by decide, tM 277 (by decide +kernel) rfl, rfl, rfl, by decide, rfl⟩
theorem gc_X8_18 : FLc "RunnerNet$Unseen" 18 8 3 (.array .int) := ⟨RX8, TX8, 10, tyX8, rfl, inX8, tyX8_ok, nmX8, by decide, tM 278 (by decide +kernel) rfl, rfl, rfl, by decide, rfl⟩
theorem gc_X8_21 : FLc "RunnerNet$Unseen" 21 8 0 (.object "RunnerNet$Net") := ⟨RX8, TX8, 10, tyX8, rfl, inX8, tyX8_ok, nmX8, by decide, tM 275 (by decide +kernel) rfl, rfl, rfl, by decide, rfl⟩
theorem gc_X9_14 : FLc "RunnerNet" 14 9 0 (.object "RunnerNet$Net") := ⟨RX9, TX9, 10, tyX9, rfl, inX9, tyX9_ok, nmX9, by decide, tM 362 (by decide +kernel) rfl, rfl, rfl, by decide, rfl⟩
theorem gc_X9_21 : FLc "RunnerNet" 21 9 1 (.object "RunnerNet$Text") := ⟨RX9, TX9, 10, tyX9, rfl, inX9, tyX9_ok, nmX9, by decide, tM 363 (by decide +kernel) rfl, rfl, rfl, by decide, rfl⟩
theorem gc_X9_27 : FLc "RunnerNet" 27 9 2 (.array (.object "RunnerNet$Settings")) := ⟨RX9, TX9, 10, tyX9, rfl, inX9, tyX9_ok, nmX9, by decide, tM 364 (by decide +kernel) rfl, rfl, rfl, by decide, rfl⟩
theorem gc_X9_33 : FLc "RunnerNet" 33 9 3 (.array (.object "RunnerNet$Chase")) := ⟨RX9, TX9, 10, tyX9, rfl, inX9, tyX9_ok, nmX9, by decide, tM 365 (by decide +kernel) rfl, rfl, rfl, by decide, rfl⟩
theorem gc_X9_46 : FLc "RunnerNet" 46 9 4 (.object "RunnerNet$Play") := ⟨RX9, TX9, 10, tyX9, rfl, inX9, tyX9_ok, nmX9, by decide, tM 366 (by decide +kernel) rfl, rfl, rfl, by decide, rfl⟩
theorem gc_X9_55 : FLc "RunnerNet" 55 9 5 (.object "RunnerNet$Unseen") := ⟨RX9, TX9, 10, tyX9, rfl, inX9, tyX9_ok, nmX9, by decide, tM 367 (by decide +kernel) rfl, rfl, rfl, by decide, rfl⟩
theorem gc_X9_64 : FLc "RunnerNet" 64 9 6 (.object "RunnerNet$Orders") := ⟨RX9, TX9, 10, tyX9, rfl, inX9, tyX9_ok, nmX9, by decide, tM 368 (by decide +kernel) rfl, rfl, rfl, by decide, rfl⟩
theorem gc_X9_68 : FLc "RunnerNet" 68 9 7 (.object "RunnerNet$Orders") := ⟨RX9, TX9, 10, tyX9, rfl, inX9, tyX9_ok, nmX9, by decide, tM 369 (by decide +kernel) rfl, rfl, rfl, by decide, rfl⟩
theorem gc_X9_76 : FLc "RunnerNet" 76 9 8 (.object "RunnerNet$Covers") := ⟨RX9, TX9, 10, tyX9, rfl, inX9, tyX9_ok, nmX9, by decide, tM 370 (by decide +kernel) rfl, rfl, rfl, by decide, rfl⟩
theorem gc_X9_83 : FLc "RunnerNet" 83 9 9 (.array (.object "RunnerNet$Guards")) := ⟨RX9, TX9, 10, tyX9, rfl, inX9, tyX9_ok, nmX9, by decide, tM 371 (by decide +kernel) rfl, rfl, rfl, by decide, rfl⟩
theorem gc_X10_13 : FLc "RunnerNetModel" 13 10 1 (.array .int) := ⟨RX10, TX10, 41, tyX10, rfl, inX10, tyX10_ok, nmX10, by decide, tM 1056 (by decide +kernel) rfl, rfl, rfl, by decide, rfl⟩
theorem gc_X10_17 : FLc "RunnerNetModel" 17 10 3 (.array .int) := ⟨RX10, TX10, 41, tyX10, rfl, inX10, tyX10_ok, nmX10, by decide, tM 1058 (by decide +kernel) rfl, rfl, rfl, by decide, rfl⟩
theorem gc_X10_20 : FLc "RunnerNetModel" 20 10 12 (.array .int) := ⟨RX10, TX10, 41, tyX10, rfl, inX10, tyX10_ok, nmX10, by decide, tM 1067 (by decide +kernel) rfl, rfl, rfl, by decide, rfl⟩
theorem gc_X10_23 : FLc "RunnerNetModel" 23 10 13 (.array .boolean) := ⟨RX10, TX10, 41, tyX10, rfl, inX10, tyX10_ok, nmX10, by decide, tM 1068 (by decide +kernel) rfl, rfl, rfl, by decide, rfl⟩
theorem gc_X10_28 : FLc "RunnerNetModel" 28 10 14 (.array .int) := ⟨RX10, TX10, 41, tyX10, rfl, inX10, tyX10_ok, nmX10, by decide, tM 1069 (by decide +kernel) rfl, rfl, rfl, by decide, rfl⟩
theorem gc_X10_31 : FLc "RunnerNetModel" 31 10 15 (.array .int) := ⟨RX10, TX10, 41, tyX10, rfl, inX10, tyX10_ok, nmX10, by decide, tM 1070 (by decide +kernel) rfl, rfl, rfl, by decide, rfl⟩
theorem gc_X10_34 : FLc "RunnerNetModel" 34 10 16 (.array .int) := ⟨RX10, TX10, 41, tyX10, rfl, inX10, tyX10_ok, nmX10, by decide, tM 1071 (by decide +kernel) rfl, rfl, rfl, by decide, rfl⟩
theorem gc_X10_37 : FLc "RunnerNetModel" 37 10 17 (.array .int) := ⟨RX10, TX10, 41, tyX10, rfl, inX10, tyX10_ok, nmX10, by decide, tM 1072 (by decide +kernel) rfl, rfl, rfl, by decide, rfl⟩
theorem gc_X10_40 : FLc "RunnerNetModel" 40 10 18 (.array .int) := ⟨RX10, TX10, 41, tyX10, rfl, inX10, tyX10_ok, nmX10, by decide, tM 1073 (by decide +kernel) rfl, rfl, rfl, by decide, rfl⟩
theorem gc_X10_43 : FLc "RunnerNetModel" 43 10 25 (.array .int) := ⟨RX10, TX10, 41, tyX10, rfl, inX10, tyX10_ok, nmX10, by decide, tM 1080 (by decide +kernel) rfl, rfl, rfl, by decide, rfl⟩
theorem gc_X10_46 : FLc "RunnerNetModel" 46 10 26 (.array .int) := ⟨RX10, TX10, 41, tyX10, rfl, inX10, tyX10_ok, nmX10, by decide, tM 1081 (by decide +kernel) rfl, rfl, rfl, by decide, rfl⟩
theorem gc_X10_49 : FLc "RunnerNetModel" 49 10 28 (.array .boolean) := ⟨RX10, TX10, 41, tyX10, rfl, inX10, tyX10_ok, nmX10, by decide, tM 1083 (by decide +kernel) rfl, rfl, rfl, by decide, rfl⟩
theorem gc_X10_52 : FLc "RunnerNetModel" 52 10 29 (.array .int) := ⟨RX10, TX10, 41, tyX10, rfl, inX10, tyX10_ok, nmX10, by decide, tM 1084 (by decide +kernel) rfl, rfl, rfl, by decide, rfl⟩
theorem gc_X10_55 : FLc "RunnerNetModel" 55 10 30 (.array .int) := ⟨RX10, TX10, 41, tyX10, rfl, inX10, tyX10_ok, nmX10, by decide, tM 1085 (by decide +kernel) rfl, rfl, rfl, by decide, rfl⟩
theorem gc_X10_58 : FLc "RunnerNetModel" 58 10 31 (.array .int) := ⟨RX10, TX10, 41, tyX10, rfl, inX10, tyX10_ok, nmX10, by decide, tM 1086 (by decide +kernel) rfl, rfl, rfl, by decide, rfl⟩
theorem gc_X10_61 : FLc "RunnerNetModel" 61 10 32 (.array .int) := ⟨RX10, TX10, 41, tyX10, rfl, inX10, tyX10_ok, nmX10, by decide, tM 1087 (by decide +kernel) rfl, rfl, rfl, by decide, rfl⟩
theorem gc_X10_64 : FLc "RunnerNetModel" 64 10 33 (.array .int) := ⟨RX10, TX10, 41, tyX10, rfl, inX10, tyX10_ok, nmX10, by decide, tM 1088 (by decide +kernel) rfl, rfl, rfl, by decide, rfl⟩
theorem gc_X10_67 : FLc "RunnerNetModel" 67 10 34 (.array .int) := ⟨RX10, TX10, 41, tyX10, rfl, inX10, tyX10_ok, nmX10, by decide, tM 1089 (by decide +kernel) rfl, rfl, rfl, by decide, rfl⟩
theorem gc_X10_71 : FLc "RunnerNetModel" 71 10 37 (.array .boolean) := ⟨RX10, TX10, 41, tyX10, rfl, inX10, tyX10_ok, nmX10, by decide, tM 1092 (by decide +kernel) rfl, rfl, rfl, by decide, rfl⟩
theorem gc_X10_74 : FLc "RunnerNetModel" 74 10 38 (.array .boolean) := ⟨RX10, TX10, 41, tyX10, rfl, inX10, tyX10_ok, nmX10, by decide, tM 1093 (by decide +kernel) rfl, rfl, rfl, by decide, rfl⟩
theorem gc_X10_77 : FLc "RunnerNetModel" 77 10 39 (.array .boolean) := ⟨RX10, TX10, 41, tyX10, rfl, inX10, tyX10_ok, nmX10, by decide, tM 1094 (by decide +kernel) rfl, rfl, rfl, by decide, rfl⟩
theorem gc_X10_80 : FLc "RunnerNetModel" 80 10 40 (.array .boolean) := ⟨RX10, TX10, 41, tyX10, rfl, inX10, tyX10_ok, nmX10, by decide, tM 1095 (by decide +kernel) rfl, rfl, rfl, by decide, rfl⟩
theorem w_210 : Cond.instantiable "RunnerNet$Chase" 8 ∈ tT := tM 210 (by decide +kernel) rfl
theorem w_329 : Cond.instantiable "RunnerNet$Covers" 1 ∈ tT := tM 329 (by decide +kernel) rfl
theorem w_340 : Cond.instantiable "RunnerNet$Guards" 5 ∈ tT := tM 340 (by decide +kernel) rfl
theorem w_117 : Cond.instantiable "RunnerNet$Net" 6 ∈ tT := tM 117 (by decide +kernel) rfl
theorem w_307 : Cond.instantiable "RunnerNet$Orders" 5 ∈ tT := tM 307 (by decide +kernel) rfl
theorem w_245 : Cond.instantiable "RunnerNet$Play" 6 ∈ tT := tM 245 (by decide +kernel) rfl
theorem w_188 : Cond.instantiable "RunnerNet$Settings" 4 ∈ tT := tM 188 (by decide +kernel) rfl
theorem w_151 : Cond.instantiable "RunnerNet$Text" 9 ∈ tT := tM 151 (by decide +kernel) rfl
theorem w_270 : Cond.instantiable "RunnerNet$Unseen" 10 ∈ tT := tM 270 (by decide +kernel) rfl
theorem w_92 : Cond.initialized "RunnerNet$Chase" ∈ tT := tM 92 (by decide +kernel) rfl
theorem w_96 : Cond.initialized "RunnerNet$Covers" ∈ tT := tM 96 (by decide +kernel) rfl
theorem w_97 : Cond.initialized "RunnerNet$Guards" ∈ tT := tM 97 (by decide +kernel) rfl
theorem w_89 : Cond.initialized "RunnerNet$Net" ∈ tT := tM 89 (by decide +kernel) rfl
theorem w_95 : Cond.initialized "RunnerNet$Orders" ∈ tT := tM 95 (by decide +kernel) rfl
theorem w_93 : Cond.initialized "RunnerNet$Play" ∈ tT := tM 93 (by decide +kernel) rfl
theorem w_91 : Cond.initialized "RunnerNet$Settings" ∈ tT := tM 91 (by decide +kernel) rfl
theorem w_90 : Cond.initialized "RunnerNet$Text" ∈ tT := tM 90 (by decide +kernel) rfl
theorem w_94 : Cond.initialized "RunnerNet$Unseen" ∈ tT := tM 94 (by decide +kernel) rfl
theorem ml_X3_24 : Cond.methodLink "RunnerNet$Net" 24 yX3_reset ∈ tT := tM 122 (by decide +kernel) rfl
theorem ml_X3_28 : Cond.methodLink "RunnerNet$Net" 28 yX3_settle ∈ tT := tM 126 (by decide +kernel) rfl
theorem ml_X9_11 : Cond.methodLink "RunnerNet" 11 yX3_init ∈ tT := tM 118 (by decide +kernel) rfl
theorem ml_X9_37 : Cond.methodLink "RunnerNet" 37 yX6_init ∈ tT := tM 189 (by decide +kernel) rfl
theorem ml_X9_40 : Cond.methodLink "RunnerNet" 40 yX0_init ∈ tT := tM 211 (by decide +kernel) rfl
theorem ml_X9_52 : Cond.methodLink "RunnerNet" 52 yX8_init ∈ tT := tM 271 (by decide +kernel) rfl
theorem ml_X9_61 : Cond.methodLink "RunnerNet" 61 yX4_init ∈ tT := tM 308 (by decide +kernel) rfl
theorem ml_X9_73 : Cond.methodLink "RunnerNet" 73 yX1_init ∈ tT := tM 330 (by decide +kernel) rfl
theorem ml_X9_82 : Cond.methodLink "RunnerNet" 82 yX2_init ∈ tT := tM 341 (by decide +kernel) rfl
theorem w_214 : Cond.methodLink "RunnerNet$Chase" 3 objectInit ∈ tT := tM 214 (by decide +kernel) rfl
theorem w_333 : Cond.methodLink "RunnerNet$Covers" 3 objectInit ∈ tT := tM 333 (by decide +kernel) rfl
theorem w_344 : Cond.methodLink "RunnerNet$Guards" 3 objectInit ∈ tT := tM 344 (by decide +kernel) rfl
theorem w_121 : Cond.methodLink "RunnerNet$Net" 3 objectInit ∈ tT := tM 121 (by decide +kernel) rfl
theorem w_311 : Cond.methodLink "RunnerNet$Orders" 3 objectInit ∈ tT := tM 311 (by decide +kernel) rfl
theorem w_249 : Cond.methodLink "RunnerNet$Play" 1 objectInit ∈ tT := tM 249 (by decide +kernel) rfl
theorem w_192 : Cond.methodLink "RunnerNet$Settings" 3 objectInit ∈ tT := tM 192 (by decide +kernel) rfl
theorem w_155 : Cond.methodLink "RunnerNet$Text" 3 objectInit ∈ tT := tM 155 (by decide +kernel) rfl
theorem w_274 : Cond.methodLink "RunnerNet$Unseen" 3 objectInit ∈ tT := tM 274 (by decide +kernel) rfl
theorem w_113 : Cond.methodLink "RunnerNet" 1 objectInit ∈ tT := tM 113 (by decide +kernel) rfl
theorem w_1052 : Cond.methodLink "RunnerNetModel" 1 objectInit ∈ tT := tM 1052 (by decide +kernel) rfl
def md_X3_init : Md := (yX3_init, cX3_init, 2, none, { frames := 1, cells := 4, slots := 528, locals := 23 })
theorem if_X3_init : IF md_X3_init 1 := ⟨by decide, by decide, by decide +kernel, tM 120 (by decide +kernel) rfl, tM 89 (by decide +kernel) rfl, rfl, tM 119 (by decide +kernel) rfl, rfl⟩
def md_X7_init : Md := (yX7_init, cX7_init, 1, none, { frames := 1, cells := 4, slots := 208, locals := 20 })
theorem if_X7_init : IF md_X7_init 0 := ⟨by decide, by decide, by decide +kernel, tM 154 (by decide +kernel) rfl, tM 90 (by decide +kernel) rfl, rfl, tM 153 (by decide +kernel) rfl, rfl⟩
def md_X6_init_0 : Md := (yX6_init, cX6_init, 5, none, { frames := 1, cells := 1, slots := 8, locals := 22 })
theorem if_X6_init_0 : IF md_X6_init_0 2 := ⟨by decide, by decide, by decide +kernel, tM 191 (by decide +kernel) rfl, tM 91 (by decide +kernel) rfl, rfl, tM 190 (by decide +kernel) rfl, rfl⟩
def md_X6_init_1 : Md := (yX6_init, cX6_init, 5, none, { frames := 1, cells := 1, slots := 64, locals := 22 })
theorem if_X6_init_1 : IF md_X6_init_1 2 := ⟨by decide, by decide, by decide +kernel, tM 191 (by decide +kernel) rfl, tM 91 (by decide +kernel) rfl, rfl, tM 190 (by decide +kernel) rfl, rfl⟩
def md_X6_init_2 : Md := (yX6_init, cX6_init, 5, none, { frames := 1, cells := 1, slots := 512, locals := 22 })
theorem if_X6_init_2 : IF md_X6_init_2 2 := ⟨by decide, by decide, by decide +kernel, tM 191 (by decide +kernel) rfl, tM 91 (by decide +kernel) rfl, rfl, tM 190 (by decide +kernel) rfl, rfl⟩
def md_X0_init_0 : Md := (yX0_init, cX0_init, 4, none, { frames := 1, cells := 4, slots := 88, locals := 20 })
theorem if_X0_init_0 : IF md_X0_init_0 3 := ⟨by decide, by decide, by decide +kernel, tM 213 (by decide +kernel) rfl, tM 92 (by decide +kernel) rfl, rfl, tM 212 (by decide +kernel) rfl, rfl⟩
def md_X0_init_1 : Md := (yX0_init, cX0_init, 4, none, { frames := 1, cells := 4, slots := 88, locals := 20 })
theorem if_X0_init_1 : IF md_X0_init_1 3 := ⟨by decide, by decide, by decide +kernel, tM 213 (by decide +kernel) rfl, tM 92 (by decide +kernel) rfl, rfl, tM 212 (by decide +kernel) rfl, rfl⟩
def md_X0_init_2 : Md := (yX0_init, cX0_init, 4, none, { frames := 1, cells := 4, slots := 88, locals := 20 })
theorem if_X0_init_2 : IF md_X0_init_2 3 := ⟨by decide, by decide, by decide +kernel, tM 213 (by decide +kernel) rfl, tM 92 (by decide +kernel) rfl, rfl, tM 212 (by decide +kernel) rfl, rfl⟩
def md_X0_init_3 : Md := (yX0_init, cX0_init, 4, none, { frames := 1, cells := 4, slots := 704, locals := 20 })
theorem if_X0_init_3 : IF md_X0_init_3 3 := ⟨by decide, by decide, by decide +kernel, tM 213 (by decide +kernel) rfl, tM 92 (by decide +kernel) rfl, rfl, tM 212 (by decide +kernel) rfl, rfl⟩
def md_X0_init_4 : Md := (yX0_init, cX0_init, 4, none, { frames := 1, cells := 4, slots := 704, locals := 20 })
theorem if_X0_init_4 : IF md_X0_init_4 3 := ⟨by decide, by decide, by decide +kernel, tM 213 (by decide +kernel) rfl, tM 92 (by decide +kernel) rfl, rfl, tM 212 (by decide +kernel) rfl, rfl⟩
def md_X0_init_5 : Md := (yX0_init, cX0_init, 4, none, { frames := 1, cells := 4, slots := 704, locals := 20 })
theorem if_X0_init_5 : IF md_X0_init_5 3 := ⟨by decide, by decide, by decide +kernel, tM 213 (by decide +kernel) rfl, tM 92 (by decide +kernel) rfl, rfl, tM 212 (by decide +kernel) rfl, rfl⟩
def md_X0_init_6 : Md := (yX0_init, cX0_init, 4, none, { frames := 1, cells := 4, slots := 5632, locals := 20 })
theorem if_X0_init_6 : IF md_X0_init_6 3 := ⟨by decide, by decide, by decide +kernel, tM 213 (by decide +kernel) rfl, tM 92 (by decide +kernel) rfl, rfl, tM 212 (by decide +kernel) rfl, rfl⟩
def md_X0_init_7 : Md := (yX0_init, cX0_init, 4, none, { frames := 1, cells := 4, slots := 5632, locals := 20 })
theorem if_X0_init_7 : IF md_X0_init_7 3 := ⟨by decide, by decide, by decide +kernel, tM 213 (by decide +kernel) rfl, tM 92 (by decide +kernel) rfl, rfl, tM 212 (by decide +kernel) rfl, rfl⟩
def md_X0_init_8 : Md := (yX0_init, cX0_init, 4, none, { frames := 1, cells := 4, slots := 5632, locals := 20 })
theorem if_X0_init_8 : IF md_X0_init_8 3 := ⟨by decide, by decide, by decide +kernel, tM 213 (by decide +kernel) rfl, tM 92 (by decide +kernel) rfl, rfl, tM 212 (by decide +kernel) rfl, rfl⟩
def md_X5_init : Md := (yX5_init, cX5_init, 1, none, { frames := 1, cells := 0, slots := 0, locals := 20 })
theorem if_X5_init : IF md_X5_init 0 := ⟨by decide, by decide, by decide +kernel, tM 248 (by decide +kernel) rfl, tM 93 (by decide +kernel) rfl, rfl, tM 247 (by decide +kernel) rfl, rfl⟩
def md_X8_init : Md := (yX8_init, cX8_init, 3, none, { frames := 1, cells := 3, slots := 6144, locals := 20 })
theorem if_X8_init : IF md_X8_init 2 := ⟨by decide, by decide, by decide +kernel, tM 273 (by decide +kernel) rfl, tM 94 (by decide +kernel) rfl, rfl, tM 272 (by decide +kernel) rfl, rfl⟩
def md_X4_init_0 : Md := (yX4_init, cX4_init, 3, none, { frames := 1, cells := 2, slots := 264, locals := 20 })
theorem if_X4_init_0 : IF md_X4_init_0 2 := ⟨by decide, by decide, by decide +kernel, tM 310 (by decide +kernel) rfl, tM 95 (by decide +kernel) rfl, rfl, tM 309 (by decide +kernel) rfl, rfl⟩
def md_X4_init_1 : Md := (yX4_init, cX4_init, 3, none, { frames := 1, cells := 2, slots := 264, locals := 20 })
theorem if_X4_init_1 : IF md_X4_init_1 2 := ⟨by decide, by decide, by decide +kernel, tM 310 (by decide +kernel) rfl, tM 95 (by decide +kernel) rfl, rfl, tM 309 (by decide +kernel) rfl, rfl⟩
def md_X1_init : Md := (yX1_init, cX1_init, 2, none, { frames := 1, cells := 0, slots := 0, locals := 20 })
theorem if_X1_init : IF md_X1_init 1 := ⟨by decide, by decide, by decide +kernel, tM 332 (by decide +kernel) rfl, tM 96 (by decide +kernel) rfl, rfl, tM 331 (by decide +kernel) rfl, rfl⟩
def md_X2_init_0 : Md := (yX2_init, cX2_init, 3, none, { frames := 1, cells := 2, slots := 1028, locals := 20 })
theorem if_X2_init_0 : IF md_X2_init_0 2 := ⟨by decide, by decide, by decide +kernel, tM 343 (by decide +kernel) rfl, tM 97 (by decide +kernel) rfl, rfl, tM 342 (by decide +kernel) rfl, rfl⟩
def md_X2_init_1 : Md := (yX2_init, cX2_init, 3, none, { frames := 1, cells := 2, slots := 1028, locals := 20 })
theorem if_X2_init_1 : IF md_X2_init_1 2 := ⟨by decide, by decide, by decide +kernel, tM 343 (by decide +kernel) rfl, tM 97 (by decide +kernel) rfl, rfl, tM 342 (by decide +kernel) rfl, rfl⟩
def md_X9_init : Md := (yX9_init, cX9_init, 3, none, { frames := 2, cells := 82, slots := 29470, locals := 46 })
theorem if_X9_init : IF md_X9_init 0 := ⟨by decide, by decide, by decide +kernel, tM 112 (by decide +kernel) rfl, tM 88 (by decide +kernel) rfl, rfl, tM 111 (by decide +kernel) rfl, rfl⟩
def md_X10_init : Md := (yX10_init, cX10_init, 1, none, { frames := 1, cells := 22, slots := 143360, locals := 20 })
theorem if_X10_init : IF md_X10_init 0 := ⟨by decide, by decide, by decide +kernel, tM 1051 (by decide +kernel) rfl, tM 98 (by decide +kernel) rfl, rfl, tM 1050 (by decide +kernel) rfl, rfl⟩
theorem dfX0 {a : Nat} (hk : kd a = 0) (F : Ev) (τ : St) (h1 : F.2.2.2.2 a = (fun _ => false)) (h2 : τ.1 a = (fun _ => 0)) (h3 : τ.2 a = (fun _ => 0)) (j : Nat) (hj : j < 8) : defaultValue (tyX0 j) = vp_V (flds F τ a) j := by
  have e : flds F τ a = (FTs.getD 0 []).map (fun t => if t = 0 then Value.int 0 else if t = 1 then .long 0 else .null) := by
    unfold flds
    rw [hk]
    apply List.ext_getElem?
    intro i
    simp only [List.getElem?_mapIdx, List.getElem?_map, fv, h1, h2, h3]
    rfl
  rw [e]
  revert j
  decide
theorem dfX1 {a : Nat} (hk : kd a = 1) (F : Ev) (τ : St) (h1 : F.2.2.2.2 a = (fun _ => false)) (h2 : τ.1 a = (fun _ => 0)) (h3 : τ.2 a = (fun _ => 0)) (j : Nat) (hj : j < 1) : defaultValue (tyX1 j) = vp_V (flds F τ a) j := by
  have e : flds F τ a = (FTs.getD 1 []).map (fun t => if t = 0 then Value.int 0 else if t = 1 then .long 0 else .null) := by
    unfold flds
    rw [hk]
    apply List.ext_getElem?
    intro i
    simp only [List.getElem?_mapIdx, List.getElem?_map, fv, h1, h2, h3]
    rfl
  rw [e]
  revert j
  decide
theorem dfX2 {a : Nat} (hk : kd a = 2) (F : Ev) (τ : St) (h1 : F.2.2.2.2 a = (fun _ => false)) (h2 : τ.1 a = (fun _ => 0)) (h3 : τ.2 a = (fun _ => 0)) (j : Nat) (hj : j < 5) : defaultValue (tyX2 j) = vp_V (flds F τ a) j := by
  have e : flds F τ a = (FTs.getD 2 []).map (fun t => if t = 0 then Value.int 0 else if t = 1 then .long 0 else .null) := by
    unfold flds
    rw [hk]
    apply List.ext_getElem?
    intro i
    simp only [List.getElem?_mapIdx, List.getElem?_map, fv, h1, h2, h3]
    rfl
  rw [e]
  revert j
  decide
theorem dfX3 {a : Nat} (hk : kd a = 3) (F : Ev) (τ : St) (h1 : F.2.2.2.2 a = (fun _ => false)) (h2 : τ.1 a = (fun _ => 0)) (h3 : τ.2 a = (fun _ => 0)) (j : Nat) (hj : j < 6) : defaultValue (tyX3 j) = vp_V (flds F τ a) j := by
  have e : flds F τ a = (FTs.getD 3 []).map (fun t => if t = 0 then Value.int 0 else if t = 1 then .long 0 else .null) := by
    unfold flds
    rw [hk]
    apply List.ext_getElem?
    intro i
    simp only [List.getElem?_mapIdx, List.getElem?_map, fv, h1, h2, h3]
    rfl
  rw [e]
  revert j
  decide
theorem dfX4 {a : Nat} (hk : kd a = 4) (F : Ev) (τ : St) (h1 : F.2.2.2.2 a = (fun _ => false)) (h2 : τ.1 a = (fun _ => 0)) (h3 : τ.2 a = (fun _ => 0)) (j : Nat) (hj : j < 5) : defaultValue (tyX4 j) = vp_V (flds F τ a) j := by
  have e : flds F τ a = (FTs.getD 4 []).map (fun t => if t = 0 then Value.int 0 else if t = 1 then .long 0 else .null) := by
    unfold flds
    rw [hk]
    apply List.ext_getElem?
    intro i
    simp only [List.getElem?_mapIdx, List.getElem?_map, fv, h1, h2, h3]
    rfl
  rw [e]
  revert j
  decide
theorem dfX5 {a : Nat} (hk : kd a = 5) (F : Ev) (τ : St) (h1 : F.2.2.2.2 a = (fun _ => false)) (h2 : τ.1 a = (fun _ => 0)) (h3 : τ.2 a = (fun _ => 0)) (j : Nat) (hj : j < 6) : defaultValue (tyX5 j) = vp_V (flds F τ a) j := by
  have e : flds F τ a = (FTs.getD 5 []).map (fun t => if t = 0 then Value.int 0 else if t = 1 then .long 0 else .null) := by
    unfold flds
    rw [hk]
    apply List.ext_getElem?
    intro i
    simp only [List.getElem?_mapIdx, List.getElem?_map, fv, h1, h2, h3]
    rfl
  rw [e]
  revert j
  decide
theorem dfX6 {a : Nat} (hk : kd a = 6) (F : Ev) (τ : St) (h1 : F.2.2.2.2 a = (fun _ => false)) (h2 : τ.1 a = (fun _ => 0)) (h3 : τ.2 a = (fun _ => 0)) (j : Nat) (hj : j < 4) : defaultValue (tyX6 j) = vp_V (flds F τ a) j := by
  have e : flds F τ a = (FTs.getD 6 []).map (fun t => if t = 0 then Value.int 0 else if t = 1 then .long 0 else .null) := by
    unfold flds
    rw [hk]
    apply List.ext_getElem?
    intro i
    simp only [List.getElem?_mapIdx, List.getElem?_map, fv, h1, h2, h3]
    rfl
  rw [e]
  revert j
  decide
theorem dfX7 {a : Nat} (hk : kd a = 7) (F : Ev) (τ : St) (h1 : F.2.2.2.2 a = (fun _ => false)) (h2 : τ.1 a = (fun _ => 0)) (h3 : τ.2 a = (fun _ => 0)) (j : Nat) (hj : j < 9) : defaultValue (tyX7 j) = vp_V (flds F τ a) j := by
  have e : flds F τ a = (FTs.getD 7 []).map (fun t => if t = 0 then Value.int 0 else if t = 1 then .long 0 else .null) := by
    unfold flds
    rw [hk]
    apply List.ext_getElem?
    intro i
    simp only [List.getElem?_mapIdx, List.getElem?_map, fv, h1, h2, h3]
    rfl
  rw [e]
  revert j
  decide
theorem dfX8 {a : Nat} (hk : kd a = 8) (F : Ev) (τ : St) (h1 : F.2.2.2.2 a = (fun _ => false)) (h2 : τ.1 a = (fun _ => 0)) (h3 : τ.2 a = (fun _ => 0)) (j : Nat) (hj : j < 10) : defaultValue (tyX8 j) = vp_V (flds F τ a) j := by
  have e : flds F τ a = (FTs.getD 8 []).map (fun t => if t = 0 then Value.int 0 else if t = 1 then .long 0 else .null) := by
    unfold flds
    rw [hk]
    apply List.ext_getElem?
    intro i
    simp only [List.getElem?_mapIdx, List.getElem?_map, fv, h1, h2, h3]
    rfl
  rw [e]
  revert j
  decide
theorem dfX9 {a : Nat} (hk : kd a = 9) (F : Ev) (τ : St) (h1 : F.2.2.2.2 a = (fun _ => false)) (h2 : τ.1 a = (fun _ => 0)) (h3 : τ.2 a = (fun _ => 0)) (j : Nat) (hj : j < 10) : defaultValue (tyX9 j) = vp_V (flds F τ a) j := by
  have e : flds F τ a = (FTs.getD 9 []).map (fun t => if t = 0 then Value.int 0 else if t = 1 then .long 0 else .null) := by
    unfold flds
    rw [hk]
    apply List.ext_getElem?
    intro i
    simp only [List.getElem?_mapIdx, List.getElem?_map, fv, h1, h2, h3]
    rfl
  rw [e]
  revert j
  decide
theorem dfX10 {a : Nat} (hk : kd a = 10) (F : Ev) (τ : St) (h1 : F.2.2.2.2 a = (fun _ => false)) (h2 : τ.1 a = (fun _ => 0)) (h3 : τ.2 a = (fun _ => 0)) (j : Nat) (hj : j < 41) : defaultValue (tyX10 j) = vp_V (flds F τ a) j := by
  have e : flds F τ a = (FTs.getD 10 []).map (fun t => if t = 0 then Value.int 0 else if t = 1 then .long 0 else .null) := by
    unfold flds
    rw [hk]
    apply List.ext_getElem?
    intro i
    simp only [List.getElem?_mapIdx, List.getElem?_map, fv, h1, h2, h3]
    rfl
  rw [e]
  revert j
  decide
