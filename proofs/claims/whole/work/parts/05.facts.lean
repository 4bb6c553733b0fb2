def FU : Nat := 1000000
theorem j_ite {A R : Type} {c : Prop} [Decidable c] {a b : A} {k : A → R} {x y : R} (h1 : k a = x) (h2 : k b = y) : k (if c then a else b) = if c then x else y := by
  by_cases h : c
  · rw [if_pos h, if_pos h]; exact h1
  · rw [if_neg h, if_neg h]; exact h2
theorem ft_of {a ci k t : Nat} (h : kd a = ci) (h2 : (FTs.getD ci [])[k]? = some t) : ft a k = some t := by unfold ft; rw [h]; exact h2
def szS (k : Nat) : Nat := [8, 64, 512].getD k 0
theorem div3 {i : Nat} (h : i < 9) : i / 3 < 3 := by omega
theorem m0 {E : Ev} (hF : Full E) : 0 ∈ E.2.2.2.1 := hF.1 0 (by decide)
theorem k0 : kd 0 = 9 := rfl
theorem m1 {E : Ev} (hF : Full E) : 1 ∈ E.2.2.2.1 := hF.1 1 (by decide)
theorem k1 : kd 1 = 3 := rfl
theorem m2 {E : Ev} (hF : Full E) : 2 ∈ E.2.2.2.1 := hF.1 2 (by decide)
theorem k2 : kd 2 = 11 := rfl
theorem l2 : ln 2 = 8 := rfl
theorem m3 {E : Ev} (hF : Full E) : 3 ∈ E.2.2.2.1 := hF.1 3 (by decide)
theorem k3 : kd 3 = 11 := rfl
theorem l3 : ln 3 = 8 := rfl
theorem m4 {E : Ev} (hF : Full E) : 4 ∈ E.2.2.2.1 := hF.1 4 (by decide)
theorem k4 : kd 4 = 11 := rfl
theorem l4 : ln 4 = 256 := rfl
theorem m5 {E : Ev} (hF : Full E) : 5 ∈ E.2.2.2.1 := hF.1 5 (by decide)
theorem k5 : kd 5 = 11 := rfl
theorem l5 : ln 5 = 256 := rfl
theorem m6 {E : Ev} (hF : Full E) : 6 ∈ E.2.2.2.1 := hF.1 6 (by decide)
theorem k6 : kd 6 = 7 := rfl
theorem m7 {E : Ev} (hF : Full E) : 7 ∈ E.2.2.2.1 := hF.1 7 (by decide)
theorem k7 : kd 7 = 11 := rfl
theorem l7 : ln 7 = 160 := rfl
theorem m8 {E : Ev} (hF : Full E) : 8 ∈ E.2.2.2.1 := hF.1 8 (by decide)
theorem k8 : kd 8 = 11 := rfl
theorem l8 : ln 8 = 16 := rfl
theorem m9 {E : Ev} (hF : Full E) : 9 ∈ E.2.2.2.1 := hF.1 9 (by decide)
theorem k9 : kd 9 = 11 := rfl
theorem l9 : ln 9 = 16 := rfl
theorem m10 {E : Ev} (hF : Full E) : 10 ∈ E.2.2.2.1 := hF.1 10 (by decide)
theorem k10 : kd 10 = 11 := rfl
theorem l10 : ln 10 = 16 := rfl
theorem m11 {E : Ev} (hF : Full E) : 11 ∈ E.2.2.2.1 := hF.1 11 (by decide)
theorem k11 : kd 11 = 16 := rfl
theorem l11 : ln 11 = 3 := rfl
theorem m12 {E : Ev} (hF : Full E) : 12 ∈ E.2.2.2.1 := hF.1 12 (by decide)
theorem k12 : kd 12 = 14 := rfl
theorem l12 : ln 12 = 9 := rfl
theorem m13 {E : Ev} (hF : Full E) : 13 ∈ E.2.2.2.1 := hF.1 13 (by decide)
theorem k13 : kd 13 = 5 := rfl
theorem m14 {E : Ev} (hF : Full E) : 14 ∈ E.2.2.2.1 := hF.1 14 (by decide)
theorem k14 : kd 14 = 8 := rfl
theorem m15 {E : Ev} (hF : Full E) : 15 ∈ E.2.2.2.1 := hF.1 15 (by decide)
theorem k15 : kd 15 = 11 := rfl
theorem l15 : ln 15 = 2816 := rfl
theorem m16 {E : Ev} (hF : Full E) : 16 ∈ E.2.2.2.1 := hF.1 16 (by decide)
theorem k16 : kd 16 = 11 := rfl
theorem l16 : ln 16 = 2816 := rfl
theorem m17 {E : Ev} (hF : Full E) : 17 ∈ E.2.2.2.1 := hF.1 17 (by decide)
theorem k17 : kd 17 = 11 := rfl
theorem l17 : ln 17 = 512 := rfl
theorem m18 {E : Ev} (hF : Full E) : 18 ∈ E.2.2.2.1 := hF.1 18 (by decide)
theorem k18 : kd 18 = 4 := rfl
theorem m19 {E : Ev} (hF : Full E) : 19 ∈ E.2.2.2.1 := hF.1 19 (by decide)
theorem k19 : kd 19 = 11 := rfl
theorem l19 : ln 19 = 256 := rfl
theorem m20 {E : Ev} (hF : Full E) : 20 ∈ E.2.2.2.1 := hF.1 20 (by decide)
theorem k20 : kd 20 = 11 := rfl
theorem l20 : ln 20 = 8 := rfl
theorem m21 {E : Ev} (hF : Full E) : 21 ∈ E.2.2.2.1 := hF.1 21 (by decide)
theorem k21 : kd 21 = 4 := rfl
theorem m22 {E : Ev} (hF : Full E) : 22 ∈ E.2.2.2.1 := hF.1 22 (by decide)
theorem k22 : kd 22 = 11 := rfl
theorem l22 : ln 22 = 256 := rfl
theorem m23 {E : Ev} (hF : Full E) : 23 ∈ E.2.2.2.1 := hF.1 23 (by decide)
theorem k23 : kd 23 = 11 := rfl
theorem l23 : ln 23 = 8 := rfl
theorem m24 {E : Ev} (hF : Full E) : 24 ∈ E.2.2.2.1 := hF.1 24 (by decide)
theorem k24 : kd 24 = 1 := rfl
theorem m25 {E : Ev} (hF : Full E) : 25 ∈ E.2.2.2.1 := hF.1 25 (by decide)
theorem k25 : kd 25 = 15 := rfl
theorem l25 : ln 25 = 2 := rfl
theorem m26 {E : Ev} (hF : Full E) : 26 ∈ E.2.2.2.1 := hF.1 26 (by decide)
theorem k26 : kd 26 = 2 := rfl
theorem m27 {E : Ev} (hF : Full E) : 27 ∈ E.2.2.2.1 := hF.1 27 (by decide)
theorem k27 : kd 27 = 12 := rfl
theorem l27 : ln 27 = 1024 := rfl
theorem m28 {E : Ev} (hF : Full E) : 28 ∈ E.2.2.2.1 := hF.1 28 (by decide)
theorem k28 : kd 28 = 12 := rfl
theorem l28 : ln 28 = 4 := rfl
theorem m29 {E : Ev} (hF : Full E) : 29 ∈ E.2.2.2.1 := hF.1 29 (by decide)
theorem k29 : kd 29 = 2 := rfl
theorem m30 {E : Ev} (hF : Full E) : 30 ∈ E.2.2.2.1 := hF.1 30 (by decide)
theorem k30 : kd 30 = 12 := rfl
theorem l30 : ln 30 = 1024 := rfl
theorem m31 {E : Ev} (hF : Full E) : 31 ∈ E.2.2.2.1 := hF.1 31 (by decide)
theorem k31 : kd 31 = 12 := rfl
theorem l31 : ln 31 = 4 := rfl
theorem m100 {E : Ev} (hF : Full E) : 100 ∈ E.2.2.2.1 := hF.1 100 (by decide)
theorem k100 : kd 100 = 10 := rfl
theorem m101 {E : Ev} (hF : Full E) : 101 ∈ E.2.2.2.1 := hF.1 101 (by decide)
theorem k101 : kd 101 = 11 := rfl
theorem l101 : ln 101 = 8 := rfl
theorem m102 {E : Ev} (hF : Full E) : 102 ∈ E.2.2.2.1 := hF.1 102 (by decide)
theorem k102 : kd 102 = 11 := rfl
theorem l102 : ln 102 = 160 := rfl
theorem m103 {E : Ev} (hF : Full E) : 103 ∈ E.2.2.2.1 := hF.1 103 (by decide)
theorem k103 : kd 103 = 11 := rfl
theorem l103 : ln 103 = 48 := rfl
theorem m104 {E : Ev} (hF : Full E) : 104 ∈ E.2.2.2.1 := hF.1 104 (by decide)
theorem k104 : kd 104 = 13 := rfl
theorem l104 : ln 104 = 9 := rfl
theorem m105 {E : Ev} (hF : Full E) : 105 ∈ E.2.2.2.1 := hF.1 105 (by decide)
theorem k105 : kd 105 = 11 := rfl
theorem l105 : ln 105 = 36864 := rfl
theorem m106 {E : Ev} (hF : Full E) : 106 ∈ E.2.2.2.1 := hF.1 106 (by decide)
theorem k106 : kd 106 = 11 := rfl
theorem l106 : ln 106 = 4096 := rfl
theorem m107 {E : Ev} (hF : Full E) : 107 ∈ E.2.2.2.1 := hF.1 107 (by decide)
theorem k107 : kd 107 = 11 := rfl
theorem l107 : ln 107 = 512 := rfl
theorem m108 {E : Ev} (hF : Full E) : 108 ∈ E.2.2.2.1 := hF.1 108 (by decide)
theorem k108 : kd 108 = 11 := rfl
theorem l108 : ln 108 = 3 := rfl
theorem m109 {E : Ev} (hF : Full E) : 109 ∈ E.2.2.2.1 := hF.1 109 (by decide)
theorem k109 : kd 109 = 11 := rfl
theorem l109 : ln 109 = 3 := rfl
theorem m110 {E : Ev} (hF : Full E) : 110 ∈ E.2.2.2.1 := hF.1 110 (by decide)
theorem k110 : kd 110 = 11 := rfl
theorem l110 : ln 110 = 16384 := rfl
theorem m111 {E : Ev} (hF : Full E) : 111 ∈ E.2.2.2.1 := hF.1 111 (by decide)
theorem k111 : kd 111 = 11 := rfl
theorem l111 : ln 111 = 16384 := rfl
theorem m112 {E : Ev} (hF : Full E) : 112 ∈ E.2.2.2.1 := hF.1 112 (by decide)
theorem k112 : kd 112 = 13 := rfl
theorem l112 : ln 112 = 3 := rfl
theorem m113 {E : Ev} (hF : Full E) : 113 ∈ E.2.2.2.1 := hF.1 113 (by decide)
theorem k113 : kd 113 = 11 := rfl
theorem l113 : ln 113 = 3 := rfl
theorem m114 {E : Ev} (hF : Full E) : 114 ∈ E.2.2.2.1 := hF.1 114 (by decide)
theorem k114 : kd 114 = 11 := rfl
theorem l114 : ln 114 = 3 := rfl
theorem m115 {E : Ev} (hF : Full E) : 115 ∈ E.2.2.2.1 := hF.1 115 (by decide)
theorem k115 : kd 115 = 11 := rfl
theorem l115 : ln 115 = 8 := rfl
theorem m116 {E : Ev} (hF : Full E) : 116 ∈ E.2.2.2.1 := hF.1 116 (by decide)
theorem k116 : kd 116 = 11 := rfl
theorem l116 : ln 116 = 256 := rfl
theorem m117 {E : Ev} (hF : Full E) : 117 ∈ E.2.2.2.1 := hF.1 117 (by decide)
theorem k117 : kd 117 = 11 := rfl
theorem l117 : ln 117 = 2048 := rfl
theorem m118 {E : Ev} (hF : Full E) : 118 ∈ E.2.2.2.1 := hF.1 118 (by decide)
theorem k118 : kd 118 = 11 := rfl
theorem l118 : ln 118 = 8 := rfl
theorem m119 {E : Ev} (hF : Full E) : 119 ∈ E.2.2.2.1 := hF.1 119 (by decide)
theorem k119 : kd 119 = 13 := rfl
theorem l119 : ln 119 = 65536 := rfl
theorem m120 {E : Ev} (hF : Full E) : 120 ∈ E.2.2.2.1 := hF.1 120 (by decide)
theorem k120 : kd 120 = 13 := rfl
theorem l120 : ln 120 = 512 := rfl
theorem m121 {E : Ev} (hF : Full E) : 121 ∈ E.2.2.2.1 := hF.1 121 (by decide)
theorem k121 : kd 121 = 13 := rfl
theorem l121 : ln 121 = 256 := rfl
theorem m122 {E : Ev} (hF : Full E) : 122 ∈ E.2.2.2.1 := hF.1 122 (by decide)
theorem k122 : kd 122 = 13 := rfl
theorem l122 : ln 122 = 256 := rfl
theorem kS {i : Nat} (h : i < 3) : kd (32 + 2 * i) = 6 := by revert i; decide
theorem mS {E : Ev} (hF : Full E) {i : Nat} (h : i < 3) : 32 + 2 * i ∈ E.2.2.2.1 := hF.1 _ (by rw [kS h]; decide)
theorem kSp {i : Nat} (h : i < 3) : kd (33 + 2 * i) = 11 := by revert i; decide
theorem mSp {E : Ev} (hF : Full E) {i : Nat} (h : i < 3) : 33 + 2 * i ∈ E.2.2.2.1 := hF.1 _ (by rw [kSp h]; decide)
theorem lSp {i : Nat} (h : i < 3) : ln (33 + 2 * i) = szS i := by revert i; decide
theorem rS0 {i : Nat} (h : i < 3) : rf (32 + 2 * i) 0 = 1 := by revert i; decide
theorem rS3 {i : Nat} (h : i < 3) : rf (32 + 2 * i) 3 = 33 + 2 * i := by revert i; decide
theorem kC {i : Nat} (h : i < 9) : kd (40 + 5 * i) = 0 := by revert i; decide
theorem mC {E : Ev} (hF : Full E) {i : Nat} (h : i < 9) : 40 + 5 * i ∈ E.2.2.2.1 := hF.1 _ (by rw [kC h]; decide)
theorem kC1 {i : Nat} (h : i < 9) : kd (41 + 5 * i) = 11 := by revert i; decide
theorem mC1 {E : Ev} (hF : Full E) {i : Nat} (h : i < 9) : 41 + 5 * i ∈ E.2.2.2.1 := hF.1 _ (by rw [kC1 h]; decide)
theorem lC1 {i : Nat} (h : i < 9) : ln (41 + 5 * i) = 8 * szS (i / 3) := by revert i; decide
theorem kC2 {i : Nat} (h : i < 9) : kd (42 + 5 * i) = 11 := by revert i; decide
theorem mC2 {E : Ev} (hF : Full E) {i : Nat} (h : i < 9) : 42 + 5 * i ∈ E.2.2.2.1 := hF.1 _ (by rw [kC2 h]; decide)
theorem lC2 {i : Nat} (h : i < 9) : ln (42 + 5 * i) = szS (i / 3) := by revert i; decide
theorem kC3 {i : Nat} (h : i < 9) : kd (43 + 5 * i) = 11 := by revert i; decide
theorem mC3 {E : Ev} (hF : Full E) {i : Nat} (h : i < 9) : 43 + 5 * i ∈ E.2.2.2.1 := hF.1 _ (by rw [kC3 h]; decide)
theorem lC3 {i : Nat} (h : i < 9) : ln (43 + 5 * i) = szS (i / 3) := by revert i; decide
theorem kC4 {i : Nat} (h : i < 9) : kd (44 + 5 * i) = 11 := by revert i; decide
theorem mC4 {E : Ev} (hF : Full E) {i : Nat} (h : i < 9) : 44 + 5 * i ∈ E.2.2.2.1 := hF.1 _ (by rw [kC4 h]; decide)
theorem lC4 {i : Nat} (h : i < 9) : ln (44 + 5 * i) = szS (i / 3) := by revert i; decide
theorem rC0 {i : Nat} (h : i < 9) : rf (40 + 5 * i) 0 = 1 := by revert i; decide
theorem rC1 {i : Nat} (h : i < 9) : rf (40 + 5 * i) 1 = 32 + 2 * (i / 3) := by revert i; decide
theorem rC3 {i : Nat} (h : i < 9) : rf (40 + 5 * i) 3 = 41 + 5 * i := by revert i; decide
theorem rC4 {i : Nat} (h : i < 9) : rf (40 + 5 * i) 4 = 42 + 5 * i := by revert i; decide
theorem rC5 {i : Nat} (h : i < 9) : rf (40 + 5 * i) 5 = 43 + 5 * i := by revert i; decide
theorem rC6 {i : Nat} (h : i < 9) : rf (40 + 5 * i) 6 = 44 + 5 * i := by revert i; decide
theorem kO {i : Nat} (h : i < 2) : kd (18 + 3 * i) = 4 := by revert i; decide
theorem mO {E : Ev} (hF : Full E) {i : Nat} (h : i < 2) : 18 + 3 * i ∈ E.2.2.2.1 := hF.1 _ (by rw [kO h]; decide)
theorem kO1 {i : Nat} (h : i < 2) : kd (19 + 3 * i) = 11 := by revert i; decide
theorem mO1 {E : Ev} (hF : Full E) {i : Nat} (h : i < 2) : 19 + 3 * i ∈ E.2.2.2.1 := hF.1 _ (by rw [kO1 h]; decide)
theorem lO1 {i : Nat} (h : i < 2) : ln (19 + 3 * i) = 256 := by revert i; decide
theorem kO2 {i : Nat} (h : i < 2) : kd (20 + 3 * i) = 11 := by revert i; decide
theorem mO2 {E : Ev} (hF : Full E) {i : Nat} (h : i < 2) : 20 + 3 * i ∈ E.2.2.2.1 := hF.1 _ (by rw [kO2 h]; decide)
theorem lO2 {i : Nat} (h : i < 2) : ln (20 + 3 * i) = 8 := by revert i; decide
theorem rO0 {i : Nat} (h : i < 2) : rf (18 + 3 * i) 0 = 1 := by revert i; decide
theorem rO2 {i : Nat} (h : i < 2) : rf (18 + 3 * i) 2 = 19 + 3 * i := by revert i; decide
theorem rO3 {i : Nat} (h : i < 2) : rf (18 + 3 * i) 3 = 20 + 3 * i := by revert i; decide
theorem kG {i : Nat} (h : i < 2) : kd (26 + 3 * i) = 2 := by revert i; decide
theorem mG {E : Ev} (hF : Full E) {i : Nat} (h : i < 2) : 26 + 3 * i ∈ E.2.2.2.1 := hF.1 _ (by rw [kG h]; decide)
theorem kG1 {i : Nat} (h : i < 2) : kd (27 + 3 * i) = 12 := by revert i; decide
theorem mG1 {E : Ev} (hF : Full E) {i : Nat} (h : i < 2) : 27 + 3 * i ∈ E.2.2.2.1 := hF.1 _ (by rw [kG1 h]; decide)
theorem lG1 {i : Nat} (h : i < 2) : ln (27 + 3 * i) = 1024 := by revert i; decide
theorem kG2 {i : Nat} (h : i < 2) : kd (28 + 3 * i) = 12 := by revert i; decide
theorem mG2 {E : Ev} (hF : Full E) {i : Nat} (h : i < 2) : 28 + 3 * i ∈ E.2.2.2.1 := hF.1 _ (by rw [kG2 h]; decide)
theorem lG2 {i : Nat} (h : i < 2) : ln (28 + 3 * i) = 4 := by revert i; decide
theorem rG0 {i : Nat} (h : i < 2) : rf (26 + 3 * i) 0 = 1 := by revert i; decide
theorem rG2 {i : Nat} (h : i < 2) : rf (26 + 3 * i) 2 = 27 + 3 * i := by revert i; decide
theorem rG3 {i : Nat} (h : i < 2) : rf (26 + 3 * i) 3 = 28 + 3 * i := by revert i; decide
theorem rA14 {j : Nat} (h : j < 9) : rf 12 j = 40 + 5 * j := by revert j; decide
theorem rA15 {j : Nat} (h : j < 2) : rf 25 j = 26 + 3 * j := by revert j; decide
theorem rA16 {j : Nat} (h : j < 3) : rf 11 j = 32 + 2 * j := by revert j; decide
theorem gf_X9_14 : FL "RunnerNet" 14 9 0 true (.object "RunnerNet$Net") := ⟨RX9, TX9, 10, tyX9, rfl, inX9, tyX9_ok, nmX9, by decide, tM 362 (by decide +kernel) rfl, rfl, rfl, by decide⟩
theorem gf_X9_21 : FL "RunnerNet" 21 9 1 true (.object "RunnerNet$Text") := ⟨RX9, TX9, 10, tyX9, rfl, inX9, tyX9_ok, nmX9, by decide, tM 363 (by decide +kernel) rfl, rfl, rfl, by decide⟩
theorem gf_X9_27 : FL "RunnerNet" 27 9 2 true (.array (.object "RunnerNet$Settings")) := ⟨RX9, TX9, 10, tyX9, rfl, inX9, tyX9_ok, nmX9, by decide, tM 364 (by decide +kernel) rfl, rfl, rfl, by decide⟩
theorem gf_X9_33 : FL "RunnerNet" 33 9 3 true (.array (.object "RunnerNet$Chase")) := ⟨RX9, TX9, 10, tyX9, rfl, inX9, tyX9_ok, nmX9, by decide, tM 365 (by decide +kernel) rfl, rfl, rfl, by decide⟩
theorem gf_X9_46 : FL "RunnerNet" 46 9 4 true (.object "RunnerNet$Play") := ⟨RX9, TX9, 10, tyX9, rfl, inX9, tyX9_ok, nmX9, by decide, tM 366 (by decide +kernel) rfl, rfl, rfl, by decide⟩
theorem gf_X9_55 : FL "RunnerNet" 55 9 5 true (.object "RunnerNet$Unseen") := ⟨RX9, TX9, 10, tyX9, rfl, inX9, tyX9_ok, nmX9, by decide, tM 367 (by decide +kernel) rfl, rfl, rfl, by decide⟩
theorem gf_X9_64 : FL "RunnerNet" 64 9 6 true (.object "RunnerNet$Orders") := ⟨RX9, TX9, 10, tyX9, rfl, inX9, tyX9_ok, nmX9, by decide, tM 368 (by decide +kernel) rfl, rfl, rfl, by decide⟩
theorem gf_X9_68 : FL "RunnerNet" 68 9 7 true (.object "RunnerNet$Orders") := ⟨RX9, TX9, 10, tyX9, rfl, inX9, tyX9_ok, nmX9, by decide, tM 369 (by decide +kernel) rfl, rfl, rfl, by decide⟩
theorem gf_X9_76 : FL "RunnerNet" 76 9 8 true (.object "RunnerNet$Covers") := ⟨RX9, TX9, 10, tyX9, rfl, inX9, tyX9_ok, nmX9, by decide, tM 370 (by decide +kernel) rfl, rfl, rfl, by decide⟩
theorem gf_X9_83 : FL "RunnerNet" 83 9 9 true (.array (.object "RunnerNet$Guards")) := ⟨RX9, TX9, 10, tyX9, rfl, inX9, tyX9_ok, nmX9, by decide, tM 371 (by decide +kernel) rfl, rfl, rfl, by decide⟩
theorem gf_X0_9 : FL "RunnerNet$Chase" 9 0 0 true (.object "RunnerNet$Net") := ⟨RX0, TX0, 8, tyX0, rfl, inX0, tyX0_ok, nmX0, by decide, tM 219 (by decide +kernel) rfl, rfl, rfl, by decide⟩
theorem gf_X0_15 : FL "RunnerNet$Chase" 15 0 1 true (.object "RunnerNet$Settings") := ⟨RX0, TX0, 8, tyX0, rfl, inX0, tyX0_ok, nmX0, by decide, tM 220 (by decide +kernel) rfl, rfl, rfl, by decide⟩
theorem gf_X0_19 : FL "RunnerNet$Chase" 19 0 2 true (.int) := ⟨RX0, TX0, 8, tyX0, rfl, inX0, tyX0_ok, nmX0, by decide, tM 221 (by decide +kernel) rfl, rfl, rfl, by decide⟩
theorem gf_X0_29 : FL "RunnerNet$Chase" 29 0 3 true (.array .int) := ⟨RX0, TX0, 8, tyX0, rfl, inX0, tyX0_ok, nmX0, by decide, tM 222 (by decide +kernel) rfl, rfl, rfl, by decide⟩
theorem gf_X0_33 : FL "RunnerNet$Chase" 33 0 4 true (.array .int) := ⟨RX0, TX0, 8, tyX0, rfl, inX0, tyX0_ok, nmX0, by decide, tM 223 (by decide +kernel) rfl, rfl, rfl, by decide⟩
theorem gf_X0_36 : FL "RunnerNet$Chase" 36 0 5 true (.array .int) := ⟨RX0, TX0, 8, tyX0, rfl, inX0, tyX0_ok, nmX0, by decide, tM 224 (by decide +kernel) rfl, rfl, rfl, by decide⟩
theorem gf_X0_39 : FL "RunnerNet$Chase" 39 0 6 true (.array .int) := ⟨RX0, TX0, 8, tyX0, rfl, inX0, tyX0_ok, nmX0, by decide, tM 225 (by decide +kernel) rfl, rfl, rfl, by decide⟩
theorem gf_X0_42 : FL "RunnerNet$Chase" 42 0 7 false (.int) := ⟨RX0, TX0, 8, tyX0, rfl, inX0, tyX0_ok, nmX0, by decide, tM 226 (by decide +kernel) rfl, rfl, rfl, by decide⟩
theorem gf_X1_9 : FL "RunnerNet$Covers" 9 1 0 true (.object "RunnerNet$Net") := ⟨RX1, TX1, 1, tyX1, rfl, inX1, tyX1_ok, nmX1, by decide, tM 334 (by decide +kernel) rfl, rfl, rfl, by decide⟩
theorem gf_X2_11 : FL "RunnerNet$Guards" 11 2 2 true (.array .long) := ⟨RX2, TX2, 5, tyX2, rfl, inX2, tyX2_ok, nmX2, by decide, tM 347 (by decide +kernel) rfl, rfl, rfl, by decide⟩
theorem gf_X2_15 : FL "RunnerNet$Guards" 15 2 3 true (.array .long) := ⟨RX2, TX2, 5, tyX2, rfl, inX2, tyX2_ok, nmX2, by decide, tM 348 (by decide +kernel) rfl, rfl, rfl, by decide⟩
theorem gf_X2_18 : FL "RunnerNet$Guards" 18 2 0 true (.object "RunnerNet$Net") := ⟨RX2, TX2, 5, tyX2, rfl, inX2, tyX2_ok, nmX2, by decide, tM 345 (by decide +kernel) rfl, rfl, rfl, by decide⟩
theorem gf_X2_22 : FL "RunnerNet$Guards" 22 2 1 true (.int) := ⟨RX2, TX2, 5, tyX2, rfl, inX2, tyX2_ok, nmX2, by decide, tM 346 (by decide +kernel) rfl, rfl, rfl, by decide⟩
theorem gf_X2_26 : FL "RunnerNet$Guards" 26 2 4 false (.int) := ⟨RX2, TX2, 5, tyX2, rfl, inX2, tyX2_ok, nmX2, by decide, tM 349 (by decide +kernel) rfl, rfl, rfl, by decide⟩
theorem gf_X3_9 : FL "RunnerNet$Net" 9 3 2 true (.array .int) := ⟨RX3, TX3, 6, tyX3, rfl, inX3, tyX3_ok, nmX3, by decide, tM 132 (by decide +kernel) rfl, rfl, rfl, by decide⟩
theorem gf_X3_15 : FL "RunnerNet$Net" 15 3 3 true (.array .int) := ⟨RX3, TX3, 6, tyX3, rfl, inX3, tyX3_ok, nmX3, by decide, tM 133 (by decide +kernel) rfl, rfl, rfl, by decide⟩
theorem gf_X3_18 : FL "RunnerNet$Net" 18 3 4 true (.array .int) := ⟨RX3, TX3, 6, tyX3, rfl, inX3, tyX3_ok, nmX3, by decide, tM 134 (by decide +kernel) rfl, rfl, rfl, by decide⟩
theorem gf_X3_21 : FL "RunnerNet$Net" 21 3 5 true (.array .int) := ⟨RX3, TX3, 6, tyX3, rfl, inX3, tyX3_ok, nmX3, by decide, tM 135 (by decide +kernel) rfl, rfl, rfl, by decide⟩
theorem gf_X3_31 : FL "RunnerNet$Net" 31 3 0 false (.int) := ⟨RX3, TX3, 6, tyX3, rfl, inX3, tyX3_ok, nmX3, by decide, tM 130 (by decide +kernel) rfl, rfl, rfl, by decide⟩
theorem gf_X3_35 : FL "RunnerNet$Net" 35 3 1 false (.int) := ⟨RX3, TX3, 6, tyX3, rfl, inX3, tyX3_ok, nmX3, by decide, tM 131 (by decide +kernel) rfl, rfl, rfl, by decide⟩
theorem gf_X4_9 : FL "RunnerNet$Orders" 9 4 2 true (.array .int) := ⟨RX4, TX4, 5, tyX4, rfl, inX4, tyX4_ok, nmX4, by decide, tM 314 (by decide +kernel) rfl, rfl, rfl, by decide⟩
theorem gf_X4_15 : FL "RunnerNet$Orders" 15 4 3 true (.array .int) := ⟨RX4, TX4, 5, tyX4, rfl, inX4, tyX4_ok, nmX4, by decide, tM 315 (by decide +kernel) rfl, rfl, rfl, by decide⟩
theorem gf_X4_18 : FL "RunnerNet$Orders" 18 4 0 true (.object "RunnerNet$Net") := ⟨RX4, TX4, 5, tyX4, rfl, inX4, tyX4_ok, nmX4, by decide, tM 312 (by decide +kernel) rfl, rfl, rfl, by decide⟩
theorem gf_X4_22 : FL "RunnerNet$Orders" 22 4 1 true (.boolean) := ⟨RX4, TX4, 5, tyX4, rfl, inX4, tyX4_ok, nmX4, by decide, tM 313 (by decide +kernel) rfl, rfl, rfl, by decide⟩
theorem gf_X4_26 : FL "RunnerNet$Orders" 26 4 4 false (.int) := ⟨RX4, TX4, 5, tyX4, rfl, inX4, tyX4_ok, nmX4, by decide, tM 316 (by decide +kernel) rfl, rfl, rfl, by decide⟩
theorem gf_X5_7 : FL "RunnerNet$Play" 7 5 0 false (.boolean) := ⟨RX5, TX5, 6, tyX5, rfl, inX5, tyX5_ok, nmX5, by decide, tM 250 (by decide +kernel) rfl, rfl, rfl, by decide⟩
theorem gf_X5_13 : FL "RunnerNet$Play" 13 5 1 false (.int) := ⟨RX5, TX5, 6, tyX5, rfl, inX5, tyX5_ok, nmX5, by decide, tM 251 (by decide +kernel) rfl, rfl, rfl, by decide⟩
theorem gf_X5_17 : FL "RunnerNet$Play" 17 5 2 false (.int) := ⟨RX5, TX5, 6, tyX5, rfl, inX5, tyX5_ok, nmX5, by decide, tM 252 (by decide +kernel) rfl, rfl, rfl, by decide⟩
theorem gf_X5_20 : FL "RunnerNet$Play" 20 5 3 false (.int) := ⟨RX5, TX5, 6, tyX5, rfl, inX5, tyX5_ok, nmX5, by decide, tM 253 (by decide +kernel) rfl, rfl, rfl, by decide⟩
theorem gf_X5_23 : FL "RunnerNet$Play" 23 5 4 false (.int) := ⟨RX5, TX5, 6, tyX5, rfl, inX5, tyX5_ok, nmX5, by decide, tM 254 (by decide +kernel) rfl, rfl, rfl, by decide⟩
theorem gf_X5_26 : FL "RunnerNet$Play" 26 5 5 false (.int) := ⟨RX5, TX5, 6, tyX5, rfl, inX5, tyX5_ok, nmX5, by decide, tM 255 (by decide +kernel) rfl, rfl, rfl, by decide⟩
theorem gf_X6_9 : FL "RunnerNet$Settings" 9 6 0 true (.object "RunnerNet$Net") := ⟨RX6, TX6, 4, tyX6, rfl, inX6, tyX6_ok, nmX6, by decide, tM 197 (by decide +kernel) rfl, rfl, rfl, by decide⟩
theorem gf_X6_15 : FL "RunnerNet$Settings" 15 6 1 true (.int) := ⟨RX6, TX6, 4, tyX6, rfl, inX6, tyX6_ok, nmX6, by decide, tM 198 (by decide +kernel) rfl, rfl, rfl, by decide⟩
theorem gf_X6_19 : FL "RunnerNet$Settings" 19 6 2 true (.int) := ⟨RX6, TX6, 4, tyX6, rfl, inX6, tyX6_ok, nmX6, by decide, tM 199 (by decide +kernel) rfl, rfl, rfl, by decide⟩
theorem gf_X6_22 : FL "RunnerNet$Settings" 22 6 3 true (.array .int) := ⟨RX6, TX6, 4, tyX6, rfl, inX6, tyX6_ok, nmX6, by decide, tM 200 (by decide +kernel) rfl, rfl, rfl, by decide⟩
theorem gf_X7_11 : FL "RunnerNet$Text" 11 7 0 true (.array .int) := ⟨RX7, TX7, 9, tyX7, rfl, inX7, tyX7_ok, nmX7, by decide, tM 156 (by decide +kernel) rfl, rfl, rfl, by decide⟩
theorem gf_X7_15 : FL "RunnerNet$Text" 15 7 6 true (.array .int) := ⟨RX7, TX7, 9, tyX7, rfl, inX7, tyX7_ok, nmX7, by decide, tM 162 (by decide +kernel) rfl, rfl, rfl, by decide⟩
theorem gf_X7_18 : FL "RunnerNet$Text" 18 7 7 true (.array .int) := ⟨RX7, TX7, 9, tyX7, rfl, inX7, tyX7_ok, nmX7, by decide, tM 163 (by decide +kernel) rfl, rfl, rfl, by decide⟩
theorem gf_X7_21 : FL "RunnerNet$Text" 21 7 8 true (.array .int) := ⟨RX7, TX7, 9, tyX7, rfl, inX7, tyX7_ok, nmX7, by decide, tM 164 (by decide +kernel) rfl, rfl, rfl, by decide⟩
theorem gf_X7_24 : FL "RunnerNet$Text" 24 7 1 false (.int) := ⟨RX7, TX7, 9, tyX7, rfl, inX7, tyX7_ok, nmX7, by decide, tM 157 (by decide +kernel) rfl, rfl, rfl, by decide⟩
theorem gf_X7_30 : FL "RunnerNet$Text" 30 7 3 false (.int) := ⟨RX7, TX7, 9, tyX7, rfl, inX7, tyX7_ok, nmX7, by decide, tM 159 (by decide +kernel) rfl, rfl, rfl, by decide⟩
theorem gf_X7_33 : FL "RunnerNet$Text" 33 7 4 false (.int) := ⟨RX7, TX7, 9, tyX7, rfl, inX7, tyX7_ok, nmX7, by decide, tM 160 (by decide +kernel) rfl, rfl, rfl, by decide⟩
theorem gf_X7_36 : FL "RunnerNet$Text" 36 7 5 false (.int) := ⟨RX7, TX7, 9, tyX7, rfl, inX7, tyX7_ok, nmX7, by decide, tM 161 (by decide +kernel) rfl, rfl, rfl, by decide⟩
theorem gf_X7_43 : FL "RunnerNet$Text" 43 7 2 false (.int) := ⟨RX7, TX7, 9, tyX7, rfl, inX7, tyX7_ok, nmX7, by decide, tM 158 (by decide +kernel) rfl, rfl, rfl, by decide⟩
theorem gf_X8_11 : FL "RunnerNet$Unseen" 11 8 1 true (.array .int) := ⟨RX8, TX8, 10, tyX8, rfl, inX8, tyX8_ok, nmX8, by decide, tM 276 (by decide +kernel) rfl, rfl, rfl, by decide⟩
theorem gf_X8_15 : FL "RunnerNet$Unseen" 15 8 2 true (.array .int) := ⟨RX8, TX8, 10, tyX8, rfl, inX8, tyX8_ok, nmX8, by decide, tM 277 (by decide +kernel) rfl, rfl, rfl, by decide⟩
theorem gf_X8_18 : FL "RunnerNet$Unseen" 18 8 3 true (.array .int) := ⟨RX8, TX8, 10, tyX8, rfl, inX8, tyX8_ok, nmX8, by decide, tM 278 (by decide +kernel) rfl, rfl, rfl, by decide⟩
theorem gf_X8_21 : FL "RunnerNet$Unseen" 21 8 0 true (.object "RunnerNet$Net") := ⟨RX8, TX8, 10, tyX8, rfl, inX8, tyX8_ok, nmX8, by decide, tM 275 (by decide +kernel) rfl, rfl, rfl, by decide⟩
theorem gf_X8_25 : FL "RunnerNet$Unseen" 25 8 4 false (.object "RunnerNet$Settings") := ⟨RX8, TX8, 10, tyX8, rfl, inX8, tyX8_ok, nmX8, by decide, tM 279 (by decide +kernel) rfl, rfl, rfl, by decide⟩
theorem gf_X8_29 : FL "RunnerNet$Unseen" 29 8 6 false (.int) := ⟨RX8, TX8, 10, tyX8, rfl, inX8, tyX8_ok, nmX8, by decide, tM 281 (by decide +kernel) rfl, rfl, rfl, by decide⟩
theorem gf_X8_33 : FL "RunnerNet$Unseen" 33 8 7 false (.int) := ⟨RX8, TX8, 10, tyX8, rfl, inX8, tyX8_ok, nmX8, by decide, tM 282 (by decide +kernel) rfl, rfl, rfl, by decide⟩
theorem gf_X8_36 : FL "RunnerNet$Unseen" 36 8 8 false (.int) := ⟨RX8, TX8, 10, tyX8, rfl, inX8, tyX8_ok, nmX8, by decide, tM 283 (by decide +kernel) rfl, rfl, rfl, by decide⟩
theorem gf_X8_49 : FL "RunnerNet$Unseen" 49 8 9 false (.int) := ⟨RX8, TX8, 10, tyX8, rfl, inX8, tyX8_ok, nmX8, by decide, tM 284 (by decide +kernel) rfl, rfl, rfl, by decide⟩
theorem gf_X8_58 : FL "RunnerNet$Unseen" 58 8 5 false (.int) := ⟨RX8, TX8, 10, tyX8, rfl, inX8, tyX8_ok, nmX8, by decide, tM 280 (by decide +kernel) rfl, rfl, rfl, by decide⟩
theorem gf_X10_7 : FL "RunnerNetModel" 7 10 0 false (.int) := ⟨RX10, TX10, 41, tyX10, rfl, inX10, tyX10_ok, nmX10, by decide, tM 1055 (by decide +kernel) rfl, rfl, rfl, by decide⟩
theorem gf_X10_13 : FL "RunnerNetModel" 13 10 1 true (.array .int) := ⟨RX10, TX10, 41, tyX10, rfl, inX10, tyX10_ok, nmX10, by decide, tM 1056 (by decide +kernel) rfl, rfl, rfl, by decide⟩
theorem gf_X10_17 : FL "RunnerNetModel" 17 10 3 true (.array .int) := ⟨RX10, TX10, 41, tyX10, rfl, inX10, tyX10_ok, nmX10, by decide, tM 1058 (by decide +kernel) rfl, rfl, rfl, by decide⟩
theorem gf_X10_20 : FL "RunnerNetModel" 20 10 12 true (.array .int) := ⟨RX10, TX10, 41, tyX10, rfl, inX10, tyX10_ok, nmX10, by decide, tM 1067 (by decide +kernel) rfl, rfl, rfl, by decide⟩
theorem gf_X10_23 : FL "RunnerNetModel" 23 10 13 true (.array .boolean) := ⟨RX10, TX10, 41, tyX10, rfl, inX10, tyX10_ok, nmX10, by decide, tM 1068 (by decide +kernel) rfl, rfl, rfl, by decide⟩
theorem gf_X10_28 : FL "RunnerNetModel" 28 10 14 true (.array .int) := ⟨RX10, TX10, 41, tyX10, rfl, inX10, tyX10_ok, nmX10, by decide, tM 1069 (by decide +kernel) rfl, rfl, rfl, by decide⟩
theorem gf_X10_31 : FL "RunnerNetModel" 31 10 15 true (.array .int) := ⟨RX10, TX10, 41, tyX10, rfl, inX10, tyX10_ok, nmX10, by decide, tM 1070 (by decide +kernel) rfl, rfl, rfl, by decide⟩
theorem gf_X10_34 : FL "RunnerNetModel" 34 10 16 true (.array .int) := ⟨RX10, TX10, 41, tyX10, rfl, inX10, tyX10_ok, nmX10, by decide, tM 1071 (by decide +kernel) rfl, rfl, rfl, by decide⟩
theorem gf_X10_37 : FL "RunnerNetModel" 37 10 17 true (.array .int) := ⟨RX10, TX10, 41, tyX10, rfl, inX10, tyX10_ok, nmX10, by decide, tM 1072 (by decide +kernel) rfl, rfl, rfl, by decide⟩
theorem gf_X10_40 : FL "RunnerNetModel" 40 10 18 true (.array .int) := ⟨RX10, TX10, 41, tyX10, rfl, inX10, tyX10_ok, nmX10, by decide, tM 1073 (by decide +kernel) rfl, rfl, rfl, by decide⟩
theorem gf_X10_43 : FL "RunnerNetModel" 43 10 25 true (.array .int) := ⟨RX10, TX10, 41, tyX10, rfl, inX10, tyX10_ok, nmX10, by decide, tM 1080 (by decide +kernel) rfl, rfl, rfl, by decide⟩
theorem gf_X10_46 : FL "RunnerNetModel" 46 10 26 true (.array .int) := ⟨RX10, TX10, 41, tyX10, rfl, inX10, tyX10_ok, nmX10, by decide, tM 1081 (by decide +kernel) rfl, rfl, rfl, by decide⟩
theorem gf_X10_49 : FL "RunnerNetModel" 49 10 28 true (.array .boolean) := ⟨RX10, TX10, 41, tyX10, rfl, inX10, tyX10_ok, nmX10, by decide, tM 1083 (by decide +kernel) rfl, rfl, rfl, by decide⟩
theorem gf_X10_52 : FL "RunnerNetModel" 52 10 29 true (.array .int) := ⟨RX10, TX10, 41, tyX10, rfl, inX10, tyX10_ok, nmX10, by decide, tM 1084 (by decide +kernel) rfl, rfl, rfl, by decide⟩
theorem gf_X10_55 : FL "RunnerNetModel" 55 10 30 true (.array .int) := ⟨RX10, TX10, 41, tyX10, rfl, inX10, tyX10_ok, nmX10, by decide, tM 1085 (by decide +kernel) rfl, rfl, rfl, by decide⟩
theorem gf_X10_58 : FL "RunnerNetModel" 58 10 31 true (.array .int) := ⟨RX10, TX10, 41, tyX10, rfl, inX10, tyX10_ok, nmX10, by decide, tM 1086 (by decide +kernel) rfl, rfl, rfl, by decide⟩
theorem gf_X10_61 : FL "RunnerNetModel" 61 10 32 true (.array .int) := ⟨RX10, TX10, 41, tyX10, rfl, inX10, tyX10_ok, nmX10, by decide, tM 1087 (by decide +kernel) rfl, rfl, rfl, by decide⟩
theorem gf_X10_64 : FL "RunnerNetModel" 64 10 33 true (.array .int) := ⟨RX10, TX10, 41, tyX10, rfl, inX10, tyX10_ok, nmX10, by decide, tM 1088 (by decide +kernel) rfl, rfl, rfl, by decide⟩
theorem gf_X10_67 : FL "RunnerNetModel" 67 10 34 true (.array .int) := ⟨RX10, TX10, 41, tyX10, rfl, inX10, tyX10_ok, nmX10, by decide, tM 1089 (by decide +kernel) rfl, rfl, rfl, by decide⟩
theorem gf_X10_71 : FL "RunnerNetModel" 71 10 37 true (.array .boolean) := ⟨RX10, TX10, 41, tyX10, rfl, inX10, tyX10_ok, nmX10, by decide, tM 1092 (by decide +kernel) rfl, rfl, rfl, by decide⟩
theorem gf_X10_74 : FL "RunnerNetModel" 74 10 38 true (.array .boolean) := ⟨RX10, TX10, 41, tyX10, rfl, inX10, tyX10_ok, nmX10, by decide, tM 1093 (by decide +kernel) rfl, rfl, rfl, by decide⟩
theorem gf_X10_77 : FL "RunnerNetModel" 77 10 39 true (.array .boolean) := ⟨RX10, TX10, 41, tyX10, rfl, inX10, tyX10_ok, nmX10, by decide, tM 1094 (by decide +kernel) rfl, rfl, rfl, by decide⟩
theorem gf_X10_80 : FL "RunnerNetModel" 80 10 40 true (.array .boolean) := ⟨RX10, TX10, 41, tyX10, rfl, inX10, tyX10_ok, nmX10, by decide, tM 1095 (by decide +kernel) rfl, rfl, rfl, by decide⟩
theorem gf_X10_87 : FL "RunnerNetModel" 87 10 36 false (.boolean) := ⟨RX10, TX10, 41, tyX10, rfl, inX10, tyX10_ok, nmX10, by decide, tM 1091 (by decide +kernel) rfl, rfl, rfl, by decide⟩
theorem gf_X10_91 : FL "RunnerNetModel" 91 10 24 false (.boolean) := ⟨RX10, TX10, 41, tyX10, rfl, inX10, tyX10_ok, nmX10, by decide, tM 1079 (by decide +kernel) rfl, rfl, rfl, by decide⟩
theorem gf_X10_94 : FL "RunnerNetModel" 94 10 23 false (.int) := ⟨RX10, TX10, 41, tyX10, rfl, inX10, tyX10_ok, nmX10, by decide, tM 1078 (by decide +kernel) rfl, rfl, rfl, by decide⟩
theorem gf_X10_97 : FL "RunnerNetModel" 97 10 2 false (.int) := ⟨RX10, TX10, 41, tyX10, rfl, inX10, tyX10_ok, nmX10, by decide, tM 1057 (by decide +kernel) rfl, rfl, rfl, by decide⟩
theorem gf_X10_102 : FL "RunnerNetModel" 102 10 4 false (.int) := ⟨RX10, TX10, 41, tyX10, rfl, inX10, tyX10_ok, nmX10, by decide, tM 1059 (by decide +kernel) rfl, rfl, rfl, by decide⟩
theorem gf_X10_105 : FL "RunnerNetModel" 105 10 5 false (.int) := ⟨RX10, TX10, 41, tyX10, rfl, inX10, tyX10_ok, nmX10, by decide, tM 1060 (by decide +kernel) rfl, rfl, rfl, by decide⟩
theorem gf_X10_108 : FL "RunnerNetModel" 108 10 7 false (.int) := ⟨RX10, TX10, 41, tyX10, rfl, inX10, tyX10_ok, nmX10, by decide, tM 1062 (by decide +kernel) rfl, rfl, rfl, by decide⟩
theorem gf_X10_111 : FL "RunnerNetModel" 111 10 8 false (.int) := ⟨RX10, TX10, 41, tyX10, rfl, inX10, tyX10_ok, nmX10, by decide, tM 1063 (by decide +kernel) rfl, rfl, rfl, by decide⟩
theorem gf_X10_116 : FL "RunnerNetModel" 116 10 6 false (.long) := ⟨RX10, TX10, 41, tyX10, rfl, inX10, tyX10_ok, nmX10, by decide, tM 1061 (by decide +kernel) rfl, rfl, rfl, by decide⟩
theorem gf_X10_130 : FL "RunnerNetModel" 130 10 9 false (.int) := ⟨RX10, TX10, 41, tyX10, rfl, inX10, tyX10_ok, nmX10, by decide, tM 1064 (by decide +kernel) rfl, rfl, rfl, by decide⟩
theorem gf_X10_149 : FL "RunnerNetModel" 149 10 10 false (.int) := ⟨RX10, TX10, 41, tyX10, rfl, inX10, tyX10_ok, nmX10, by decide, tM 1065 (by decide +kernel) rfl, rfl, rfl, by decide⟩
theorem gf_X10_152 : FL "RunnerNetModel" 152 10 11 false (.int) := ⟨RX10, TX10, 41, tyX10, rfl, inX10, tyX10_ok, nmX10, by decide, tM 1066 (by decide +kernel) rfl, rfl, rfl, by decide⟩
theorem gf_X10_238 : FL "RunnerNetModel" 238 10 19 false (.int) := ⟨RX10, TX10, 41, tyX10, rfl, inX10, tyX10_ok, nmX10, by decide, tM 1074 (by decide +kernel) rfl, rfl, rfl, by decide⟩
theorem gf_X10_241 : FL "RunnerNetModel" 241 10 20 false (.int) := ⟨RX10, TX10, 41, tyX10, rfl, inX10, tyX10_ok, nmX10, by decide, tM 1075 (by decide +kernel) rfl, rfl, rfl, by decide⟩
theorem gf_X10_244 : FL "RunnerNetModel" 244 10 21 false (.int) := ⟨RX10, TX10, 41, tyX10, rfl, inX10, tyX10_ok, nmX10, by decide, tM 1076 (by decide +kernel) rfl, rfl, rfl, by decide⟩
theorem gf_X10_247 : FL "RunnerNetModel" 247 10 22 false (.int) := ⟨RX10, TX10, 41, tyX10, rfl, inX10, tyX10_ok, nmX10, by decide, tM 1077 (by decide +kernel) rfl, rfl, rfl, by decide⟩
theorem gf_X10_259 : FL "RunnerNetModel" 259 10 27 false (.int) := ⟨RX10, TX10, 41, tyX10, rfl, inX10, tyX10_ok, nmX10, by decide, tM 1082 (by decide +kernel) rfl, rfl, rfl, by decide⟩
theorem gf_X10_295 : FL "RunnerNetModel" 295 10 35 false (.int) := ⟨RX10, TX10, 41, tyX10, rfl, inX10, tyX10_ok, nmX10, by decide, tM 1090 (by decide +kernel) rfl, rfl, rfl, by decide⟩
theorem w_602 : Cond.constant "RunnerNet$Chase" 71 (1048576) ∈ tT := tM 602 (by decide +kernel) rfl
theorem w_706 : Cond.constant "java/lang/Integer" 265 (1431655765) ∈ tT := tM 706 (by decide +kernel) rfl
theorem w_707 : Cond.constant "java/lang/Integer" 266 (858993459) ∈ tT := tM 707 (by decide +kernel) rfl
theorem w_708 : Cond.constant "java/lang/Integer" 267 (252645135) ∈ tT := tM 708 (by decide +kernel) rfl
theorem w_993 : Cond.constantLong "RunnerNet$Guards" 64 (-1) ∈ tT := tM 993 (by decide +kernel) rfl
theorem w_401 : Cond.constantLong "RunnerNet$Text" 28 (255) ∈ tT := tM 401 (by decide +kernel) rfl
theorem w_1187 : Cond.constantLong "RunnerNetModel" 100 (255) ∈ tT := tM 1187 (by decide +kernel) rfl
theorem w_1208 : Cond.constantLong "RunnerNetModel" 114 (-2) ∈ tT := tM 1208 (by decide +kernel) rfl
theorem w_1209 : Cond.constantLong "RunnerNetModel" 120 (27) ∈ tT := tM 1209 (by decide +kernel) rfl
theorem w_1210 : Cond.constantLong "RunnerNetModel" 122 (96) ∈ tT := tM 1210 (by decide +kernel) rfl
theorem w_1211 : Cond.constantLong "RunnerNetModel" 124 (-4) ∈ tT := tM 1211 (by decide +kernel) rfl
theorem w_1212 : Cond.constantLong "RunnerNetModel" 126 (-1) ∈ tT := tM 1212 (by decide +kernel) rfl
theorem w_1213 : Cond.constantLong "RunnerNetModel" 128 (-3) ∈ tT := tM 1213 (by decide +kernel) rfl
theorem w_1214 : Cond.constantLong "RunnerNetModel" 140 (365260) ∈ tT := tM 1214 (by decide +kernel) rfl
theorem w_1215 : Cond.constantLong "RunnerNetModel" 142 (16819) ∈ tT := tM 1215 (by decide +kernel) rfl
theorem w_1216 : Cond.constantLong "RunnerNetModel" 144 (10361) ∈ tT := tM 1216 (by decide +kernel) rfl
theorem w_1035 : Cond.constantLong "java/lang/Long" 314 (6148914691236517205) ∈ tT := tM 1035 (by decide +kernel) rfl
theorem w_1036 : Cond.constantLong "java/lang/Long" 316 (3689348814741910323) ∈ tT := tM 1036 (by decide +kernel) rfl
theorem w_1037 : Cond.constantLong "java/lang/Long" 318 (1085102592571150095) ∈ tT := tM 1037 (by decide +kernel) rfl
theorem w_1494 : Cond.fieldLink "java/lang/String" 9 "java/lang/String" "value" "[B" ∈ tT := tM 1494 (by decide +kernel) rfl
theorem w_1495 : Cond.fieldLink "java/lang/String" 15 "java/lang/String" "coder" "B" ∈ tT := tM 1495 (by decide +kernel) rfl
theorem w_462 : Cond.fieldLink "java/lang/String" 38 "java/lang/String" "COMPACT_STRINGS" "Z" ∈ tT := tM 462 (by decide +kernel) rfl
theorem w_478 : Cond.fieldLink "java/lang/String" 1053 "jdk/internal/util/Preconditions" "SIOOBE_FORMATTER" "Ljava/util/function/BiFunction;" ∈ tT := tM 478 (by decide +kernel) rfl
theorem w_991 : Cond.fieldLink "RunnerNet$Guards" 61 "RunnerNet$Guards" "LACKS" "[J" ∈ tT := tM 991 (by decide +kernel) rfl
theorem ml_X9_87 : Cond.methodLink "RunnerNet" 87 yX7_append ∈ tT := tM 397 (by decide +kernel) rfl
theorem ml_X9_91 : Cond.methodLink "RunnerNet" 91 yX7_length ∈ tT := tM 402 (by decide +kernel) rfl
theorem ml_X9_95 : Cond.methodLink "RunnerNet" 95 yX7_drop ∈ tT := tM 410 (by decide +kernel) rfl
theorem ml_X9_98 : Cond.methodLink "RunnerNet" 98 yX3_places ∈ tT := tM 418 (by decide +kernel) rfl
theorem ml_X9_101 : Cond.methodLink "RunnerNet" 101 yX7_read ∈ tT := tM 422 (by decide +kernel) rfl
theorem ml_X9_105 : Cond.methodLink "RunnerNet" 105 yX7_layOn ∈ tT := tM 513 (by decide +kernel) rfl
theorem ml_X9_108 : Cond.methodLink "RunnerNet" 108 yX5_end ∈ tT := tM 527 (by decide +kernel) rfl
theorem ml_X9_111 : Cond.methodLink "RunnerNet" 111 yX3_known ∈ tT := tM 535 (by decide +kernel) rfl
theorem ml_X9_115 : Cond.methodLink "RunnerNet" 115 yX3_set ∈ tT := tM 536 (by decide +kernel) rfl
theorem ml_X9_119 : Cond.methodLink "RunnerNet" 119 yX3_settle ∈ tT := tM 537 (by decide +kernel) rfl
theorem ml_X9_122 : Cond.methodLink "RunnerNet" 122 yX3_outOf ∈ tT := tM 538 (by decide +kernel) rfl
theorem ml_X9_125 : Cond.methodLink "RunnerNet" 125 yX9_has ∈ tT := tM 542 (by decide +kernel) rfl
theorem ml_X9_129 : Cond.methodLink "RunnerNet" 129 yX3_distance ∈ tT := tM 553 (by decide +kernel) rfl
theorem ml_X9_133 : Cond.methodLink "RunnerNet" 133 yX9_refuseStand ∈ tT := tM 566 (by decide +kernel) rfl
theorem ml_X9_137 : Cond.methodLink "RunnerNet" 137 yX9_chase ∈ tT := tM 586 (by decide +kernel) rfl
theorem ml_X9_141 : Cond.methodLink "RunnerNet" 141 yX9_settings ∈ tT := tM 573 (by decide +kernel) rfl
theorem ml_X9_144 : Cond.methodLink "RunnerNet" 144 yX6_told ∈ tT := tM 581 (by decide +kernel) rfl
theorem ml_X9_147 : Cond.methodLink "RunnerNet" 147 yX0_roundsFrom ∈ tT := tM 651 (by decide +kernel) rfl
theorem ml_X9_150 : Cond.methodLink "RunnerNet" 150 yX9_isChase ∈ tT := tM 570 (by decide +kernel) rfl
theorem ml_X9_153 : Cond.methodLink "RunnerNet" 153 yX0_mostFrom ∈ tT := tM 663 (by decide +kernel) rfl
theorem ml_X9_156 : Cond.methodLink "RunnerNet" 156 yX0_bestSetting ∈ tT := tM 676 (by decide +kernel) rfl
theorem ml_X9_159 : Cond.methodLink "RunnerNet" 159 yX0_countEndless ∈ tT := tM 699 (by decide +kernel) rfl
theorem ml_X9_162 : Cond.methodLink "RunnerNet" 162 yX6_holds ∈ tT := tM 713 (by decide +kernel) rfl
theorem ml_X9_165 : Cond.methodLink "RunnerNet" 165 yX0_bestMove ∈ tT := tM 719 (by decide +kernel) rfl
theorem ml_X9_168 : Cond.methodLink "RunnerNet" 168 yX0_bestFlight ∈ tT := tM 739 (by decide +kernel) rfl
theorem ml_X9_171 : Cond.methodLink "RunnerNet" 171 yX6_rising ∈ tT := tM 747 (by decide +kernel) rfl
theorem ml_X9_174 : Cond.methodLink "RunnerNet" 174 yX5_begin ∈ tT := tM 748 (by decide +kernel) rfl
theorem ml_X9_178 : Cond.methodLink "RunnerNet" 178 yX5_isOn ∈ tT := tM 756 (by decide +kernel) rfl
theorem ml_X9_182 : Cond.methodLink "RunnerNet" 182 yX9_isCaught ∈ tT := tM 760 (by decide +kernel) rfl
theorem ml_X9_185 : Cond.methodLink "RunnerNet" 185 yX5_hunters ∈ tT := tM 764 (by decide +kernel) rfl
theorem ml_X9_188 : Cond.methodLink "RunnerNet" 188 yX9_settingBehind ∈ tT := tM 776 (by decide +kernel) rfl
theorem ml_X9_191 : Cond.methodLink "RunnerNet" 191 yX5_place ∈ tT := tM 772 (by decide +kernel) rfl
theorem ml_X9_194 : Cond.methodLink "RunnerNet" 194 yX9_placeBehind ∈ tT := tM 785 (by decide +kernel) rfl
theorem ml_X9_197 : Cond.methodLink "RunnerNet" 197 yX5_go ∈ tT := tM 790 (by decide +kernel) rfl
theorem ml_X9_201 : Cond.methodLink "RunnerNet" 201 yX5_setting ∈ tT := tM 768 (by decide +kernel) rfl
theorem ml_X9_204 : Cond.methodLink "RunnerNet" 204 yX5_gone ∈ tT := tM 798 (by decide +kernel) rfl
theorem ml_X9_207 : Cond.methodLink "RunnerNet" 207 yX3_holdsAll ∈ tT := tM 806 (by decide +kernel) rfl
theorem ml_X9_210 : Cond.methodLink "RunnerNet" 210 yX6_placesOf ∈ tT := tM 811 (by decide +kernel) rfl
theorem ml_X9_213 : Cond.methodLink "RunnerNet" 213 yX3_leftBehind ∈ tT := tM 812 (by decide +kernel) rfl
theorem ml_X9_216 : Cond.methodLink "RunnerNet" 216 yX8_search ∈ tT := tM 820 (by decide +kernel) rfl
theorem ml_X9_220 : Cond.methodLink "RunnerNet" 220 yX8_length ∈ tT := tM 855 (by decide +kernel) rfl
theorem ml_X9_221 : Cond.methodLink "RunnerNet" 221 yX8_settingAt ∈ tT := tM 859 (by decide +kernel) rfl
theorem ml_X9_224 : Cond.methodLink "RunnerNet" 224 yX4_hunters ∈ tT := tM 871 (by decide +kernel) rfl
theorem ml_X9_225 : Cond.methodLink "RunnerNet" 225 yX4_placeAt ∈ tT := tM 906 (by decide +kernel) rfl
theorem ml_X9_228 : Cond.methodLink "RunnerNet" 228 yX1_takenAway ∈ tT := tM 915 (by decide +kernel) rfl
theorem ml_X9_231 : Cond.methodLink "RunnerNet" 231 yX1_leastSet ∈ tT := tM 939 (by decide +kernel) rfl
theorem ml_X9_235 : Cond.methodLink "RunnerNet" 235 yX9_isWatch ∈ tT := tM 953 (by decide +kernel) rfl
theorem ml_X9_238 : Cond.methodLink "RunnerNet" 238 yX2_holdsOut ∈ tT := tM 957 (by decide +kernel) rfl
theorem ml_X9_241 : Cond.methodLink "RunnerNet" 241 yX2_leastSet ∈ tT := tM 1014 (by decide +kernel) rfl
theorem ml_X9_243 : Cond.methodLink "RunnerNet" 243 yJ6_bitCount_0f7a4 ∈ tT := tM 1019 (by decide +kernel) rfl
theorem ml_X9_248 : Cond.methodLink "RunnerNet" 248 yX2_countSets ∈ tT := tM 1020 (by decide +kernel) rfl
theorem ml_X9_251 : Cond.methodLink "RunnerNet" 251 yX2_leastAnswer ∈ tT := tM 1028 (by decide +kernel) rfl
theorem ml_X9_254 : Cond.methodLink "RunnerNet" 254 yX3_pairs ∈ tT := tM 1042 (by decide +kernel) rfl
theorem ml_X9_257 : Cond.methodLink "RunnerNet" 257 Lib.Math.min.name ∈ tT := tM 577 (by decide +kernel) rfl
theorem ml_X9_262 : Cond.methodLink "RunnerNet" 262 Lib.Math.max.name ∈ tT := tM 578 (by decide +kernel) rfl
theorem ml_X9_265 : Cond.methodLink "RunnerNet" 265 yX0_solve ∈ tT := tM 590 (by decide +kernel) rfl
theorem ml_X9_268 : Cond.methodLink "RunnerNet" 268 yX5_speed ∈ tT := tM 780 (by decide +kernel) rfl
theorem ml_X9_271 : Cond.methodLink "RunnerNet" 271 yX6_canStep ∈ tT := tM 784 (by decide +kernel) rfl
theorem ml_X9_274 : Cond.methodLink "RunnerNet" 274 yX0_flights ∈ tT := tM 789 (by decide +kernel) rfl
theorem ml_X0_23 : Cond.methodLink "RunnerNet$Chase" 23 yX6_size ∈ tT := tM 215 (by decide +kernel) rfl
theorem ml_X0_45 : Cond.methodLink "RunnerNet$Chase" 45 yX3_changes ∈ tT := tM 594 (by decide +kernel) rfl
theorem ml_X0_50 : Cond.methodLink "RunnerNet$Chase" 50 yX0_begin ∈ tT := tM 598 (by decide +kernel) rfl
theorem ml_X0_53 : Cond.methodLink "RunnerNet$Chase" 53 yX0_trap ∈ tT := tM 615 (by decide +kernel) rfl
theorem ml_X0_56 : Cond.methodLink "RunnerNet$Chase" 56 yX6_hunters ∈ tT := tM 610 (by decide +kernel) rfl
theorem ml_X0_59 : Cond.methodLink "RunnerNet$Chase" 59 yX0_widen ∈ tT := tM 632 (by decide +kernel) rfl
theorem ml_X0_63 : Cond.methodLink "RunnerNet$Chase" 63 yX0_note ∈ tT := tM 647 (by decide +kernel) rfl
theorem ml_X0_67 : Cond.methodLink "RunnerNet$Chase" 67 yX0_leftAt ∈ tT := tM 655 (by decide +kernel) rfl
theorem ml_X0_72 : Cond.methodLink "RunnerNet$Chase" 72 yX3_all ∈ tT := tM 627 (by decide +kernel) rfl
theorem ml_X0_75 : Cond.methodLink "RunnerNet$Chase" 75 yX0_mostAmong ∈ tT := tM 667 (by decide +kernel) rfl
theorem ml_X0_78 : Cond.methodLink "RunnerNet$Chase" 78 yX6_isSetting ∈ tT := tM 680 (by decide +kernel) rfl
theorem ml_X0_81 : Cond.methodLink "RunnerNet$Chase" 81 yJ6_bitCount_0f7a4 ∈ tT := tM 703 (by decide +kernel) rfl
theorem ml_X0_87 : Cond.methodLink "RunnerNet$Chase" 87 yX6_rising ∈ tT := tM 723 (by decide +kernel) rfl
theorem ml_X0_90 : Cond.methodLink "RunnerNet$Chase" 90 yX6_canStep ∈ tT := tM 724 (by decide +kernel) rfl
theorem ml_X0_94 : Cond.methodLink "RunnerNet$Chase" 94 yX6_holds ∈ tT := tM 729 (by decide +kernel) rfl
theorem ml_X0_97 : Cond.methodLink "RunnerNet$Chase" 97 yX0_flights ∈ tT := tM 730 (by decide +kernel) rfl
theorem ml_X0_100 : Cond.methodLink "RunnerNet$Chase" 100 yX3_places ∈ tT := tM 636 (by decide +kernel) rfl
theorem ml_X0_106 : Cond.methodLink "RunnerNet$Chase" 106 yX3_aheadOf ∈ tT := tM 734 (by decide +kernel) rfl
theorem ml_X0_109 : Cond.methodLink "RunnerNet$Chase" 109 yX6_placesOf ∈ tT := tM 606 (by decide +kernel) rfl
theorem ml_X0_112 : Cond.methodLink "RunnerNet$Chase" 112 Lib.Math.max.name ∈ tT := tM 671 (by decide +kernel) rfl
theorem ml_X0_117 : Cond.methodLink "RunnerNet$Chase" 117 yJ7_fill_53178 ∈ tT := tM 603 (by decide +kernel) rfl
theorem ml_X0_123 : Cond.methodLink "RunnerNet$Chase" 123 yX6_figure ∈ tT := tM 614 (by decide +kernel) rfl
theorem ml_X0_126 : Cond.methodLink "RunnerNet$Chase" 126 yX6_isRow ∈ tT := tM 619 (by decide +kernel) rfl
theorem ml_X0_129 : Cond.methodLink "RunnerNet$Chase" 129 yX3_behindOf ∈ tT := tM 628 (by decide +kernel) rfl
theorem ml_X0_132 : Cond.methodLink "RunnerNet$Chase" 132 yX3_outOf ∈ tT := tM 637 (by decide +kernel) rfl
theorem ml_X0_135 : Cond.methodLink "RunnerNet$Chase" 135 yX0_joinRows ∈ tT := tM 639 (by decide +kernel) rfl
theorem ml_X0_139 : Cond.methodLink "RunnerNet$Chase" 139 Lib.Math.min.name ∈ tT := tM 643 (by decide +kernel) rfl
theorem ml_X0_142 : Cond.methodLink "RunnerNet$Chase" 142 arraycopyName ∈ tT := tM 644 (by decide +kernel) rfl
theorem ml_X1_15 : Cond.methodLink "RunnerNet$Covers" 15 yX3_all ∈ tT := tM 919 (by decide +kernel) rfl
theorem ml_X1_21 : Cond.methodLink "RunnerNet$Covers" 21 yX1_leastCovered ∈ tT := tM 920 (by decide +kernel) rfl
theorem ml_X1_25 : Cond.methodLink "RunnerNet$Covers" 25 yJ6_bitCount_0f7a4 ∈ tT := tM 934 (by decide +kernel) rfl
theorem ml_X1_30 : Cond.methodLink "RunnerNet$Covers" 30 yX3_places ∈ tT := tM 924 (by decide +kernel) rfl
theorem ml_X1_37 : Cond.methodLink "RunnerNet$Covers" 37 yX1_isCovered ∈ tT := tM 926 (by decide +kernel) rfl
theorem ml_X1_40 : Cond.methodLink "RunnerNet$Covers" 40 yX3_bothWays ∈ tT := tM 930 (by decide +kernel) rfl
theorem ml_X1_43 : Cond.methodLink "RunnerNet$Covers" 43 yX3_aheadOf ∈ tT := tM 943 (by decide +kernel) rfl
theorem ml_X1_46 : Cond.methodLink "RunnerNet$Covers" 46 yX1_touchesAll ∈ tT := tM 944 (by decide +kernel) rfl
theorem ml_X1_50 : Cond.methodLink "RunnerNet$Covers" 50 yX3_outOf ∈ tT := tM 948 (by decide +kernel) rfl
theorem ml_X2_29 : Cond.methodLink "RunnerNet$Guards" 29 yX2_solve ∈ tT := tM 961 (by decide +kernel) rfl
theorem ml_X2_32 : Cond.methodLink "RunnerNet$Guards" 32 yX2_isSafe ∈ tT := tM 998 (by decide +kernel) rfl
theorem ml_X2_36 : Cond.methodLink "RunnerNet$Guards" 36 yX3_all ∈ tT := tM 973 (by decide +kernel) rfl
theorem ml_X2_42 : Cond.methodLink "RunnerNet$Guards" 42 yJ6_bitCount_0f7a4 ∈ tT := tM 1018 (by decide +kernel) rfl
theorem ml_X2_48 : Cond.methodLink "RunnerNet$Guards" 48 yX2_answersIn ∈ tT := tM 1006 (by decide +kernel) rfl
theorem ml_X2_52 : Cond.methodLink "RunnerNet$Guards" 52 yJ13_bitCount_95d88 ∈ tT := tM 1032 (by decide +kernel) rfl
theorem ml_X2_57 : Cond.methodLink "RunnerNet$Guards" 57 yX2_having ∈ tT := tM 988 (by decide +kernel) rfl
theorem ml_X2_66 : Cond.methodLink "RunnerNet$Guards" 66 yX3_changes ∈ tT := tM 965 (by decide +kernel) rfl
theorem ml_X2_69 : Cond.methodLink "RunnerNet$Guards" 69 yJ7_fill_d0a16 ∈ tT := tM 966 (by decide +kernel) rfl
theorem ml_X2_75 : Cond.methodLink "RunnerNet$Guards" 75 yX2_moveAlone ∈ tT := tM 969 (by decide +kernel) rfl
theorem ml_X2_78 : Cond.methodLink "RunnerNet$Guards" 78 yX2_moveTogether ∈ tT := tM 980 (by decide +kernel) rfl
theorem ml_X2_81 : Cond.methodLink "RunnerNet$Guards" 81 yX2_put ∈ tT := tM 977 (by decide +kernel) rfl
theorem ml_X2_85 : Cond.methodLink "RunnerNet$Guards" 85 yX2_dropUnsafe ∈ tT := tM 994 (by decide +kernel) rfl
theorem ml_X2_89 : Cond.methodLink "RunnerNet$Guards" 89 yX2_answersAll ∈ tT := tM 1002 (by decide +kernel) rfl
theorem ml_X2_92 : Cond.methodLink "RunnerNet$Guards" 92 yX3_places ∈ tT := tM 974 (by decide +kernel) rfl
theorem ml_X2_99 : Cond.methodLink "RunnerNet$Guards" 99 yX3_outOf ∈ tT := tM 976 (by decide +kernel) rfl
theorem ml_X2_102 : Cond.methodLink "RunnerNet$Guards" 102 yX2_addPlace ∈ tT := tM 984 (by decide +kernel) rfl
theorem ml_X3_38 : Cond.methodLink "RunnerNet$Net" 38 yX3_all ∈ tT := tM 810 (by decide +kernel) rfl
theorem ml_X3_42 : Cond.methodLink "RunnerNet$Net" 42 yX3_known ∈ tT := tM 522 (by decide +kernel) rfl
theorem ml_X3_46 : Cond.methodLink "RunnerNet$Net" 46 yX3_aheadOf ∈ tT := tM 558 (by decide +kernel) rfl
theorem ml_X3_54 : Cond.methodLink "RunnerNet$Net" 54 yJ6_bitCount_0f7a4 ∈ tT := tM 1046 (by decide +kernel) rfl
theorem ml_X4_30 : Cond.methodLink "RunnerNet$Orders" 30 yX4_solve ∈ tT := tM 875 (by decide +kernel) rfl
theorem ml_X4_33 : Cond.methodLink "RunnerNet$Orders" 33 yX3_known ∈ tT := tM 910 (by decide +kernel) rfl
theorem ml_X4_39 : Cond.methodLink "RunnerNet$Orders" 39 yX3_changes ∈ tT := tM 879 (by decide +kernel) rfl
theorem ml_X4_43 : Cond.methodLink "RunnerNet$Orders" 43 yX3_all ∈ tT := tM 880 (by decide +kernel) rfl
theorem ml_X4_46 : Cond.methodLink "RunnerNet$Orders" 46 Lib.Math.min.name ∈ tT := tM 881 (by decide +kernel) rfl
theorem ml_X4_52 : Cond.methodLink "RunnerNet$Orders" 52 yX3_places ∈ tT := tM 882 (by decide +kernel) rfl
theorem ml_X4_59 : Cond.methodLink "RunnerNet$Orders" 59 yX4_most ∈ tT := tM 884 (by decide +kernel) rfl
theorem ml_X4_62 : Cond.methodLink "RunnerNet$Orders" 62 yX4_choose ∈ tT := tM 902 (by decide +kernel) rfl
theorem ml_X4_65 : Cond.methodLink "RunnerNet$Orders" 65 yX4_neighbours ∈ tT := tM 888 (by decide +kernel) rfl
theorem ml_X4_68 : Cond.methodLink "RunnerNet$Orders" 68 yX4_border ∈ tT := tM 897 (by decide +kernel) rfl
theorem ml_X4_72 : Cond.methodLink "RunnerNet$Orders" 72 Lib.Math.max.name ∈ tT := tM 901 (by decide +kernel) rfl
theorem ml_X4_75 : Cond.methodLink "RunnerNet$Orders" 75 yX3_around ∈ tT := tM 892 (by decide +kernel) rfl
theorem ml_X4_78 : Cond.methodLink "RunnerNet$Orders" 78 yJ6_bitCount_0f7a4 ∈ tT := tM 896 (by decide +kernel) rfl
theorem ml_X6_26 : Cond.methodLink "RunnerNet$Settings" 26 yX6_figure ∈ tT := tM 193 (by decide +kernel) rfl
theorem ml_X6_30 : Cond.methodLink "RunnerNet$Settings" 30 yX6_placesOf ∈ tT := tM 717 (by decide +kernel) rfl
theorem ml_X6_37 : Cond.methodLink "RunnerNet$Settings" 37 yX3_all ∈ tT := tM 623 (by decide +kernel) rfl
theorem ml_X6_43 : Cond.methodLink "RunnerNet$Settings" 43 yX6_isRow ∈ tT := tM 684 (by decide +kernel) rfl
theorem ml_X6_47 : Cond.methodLink "RunnerNet$Settings" 47 yX6_rising ∈ tT := tM 685 (by decide +kernel) rfl
theorem ml_X6_50 : Cond.methodLink "RunnerNet$Settings" 50 yX3_known ∈ tT := tM 585 (by decide +kernel) rfl
theorem ml_X6_53 : Cond.methodLink "RunnerNet$Settings" 53 Lib.Math.min.name ∈ tT := tM 689 (by decide +kernel) rfl
theorem ml_X6_58 : Cond.methodLink "RunnerNet$Settings" 58 Lib.Math.max.name ∈ tT := tM 690 (by decide +kernel) rfl
theorem ml_X6_61 : Cond.methodLink "RunnerNet$Settings" 61 yX3_outOf ∈ tT := tM 728 (by decide +kernel) rfl
theorem ml_X7_39 : Cond.methodLink "RunnerNet$Text" 39 yX7_readLine ∈ tT := tM 426 (by decide +kernel) rfl
theorem ml_X7_46 : Cond.methodLink "RunnerNet$Text" 46 yX7_nextToken ∈ tT := tM 430 (by decide +kernel) rfl
theorem ml_X7_49 : Cond.methodLink "RunnerNet$Text" 49 yX7_byteAt ∈ tT := tM 434 (by decide +kernel) rfl
theorem ml_X7_53 : Cond.methodLink "RunnerNet$Text" 53 yX3_reset ∈ tT := tM 517 (by decide +kernel) rfl
theorem ml_X7_59 : Cond.methodLink "RunnerNet$Text" 59 yX3_set ∈ tT := tM 518 (by decide +kernel) rfl
theorem ml_X7_63 : Cond.methodLink "RunnerNet$Text" 63 yX3_settle ∈ tT := tM 526 (by decide +kernel) rfl
theorem ml_X7_66 : Cond.methodLink "RunnerNet$Text" 66 yX7_lineKind ∈ tT := tM 445 (by decide +kernel) rfl
theorem ml_X7_70 : Cond.methodLink "RunnerNet$Text" 70 yX7_number ∈ tT := tM 504 (by decide +kernel) rfl
theorem ml_X7_73 : Cond.methodLink "RunnerNet$Text" 73 Lib.Math.min.name ∈ tT := tM 438 (by decide +kernel) rfl
theorem ml_X7_79 : Cond.methodLink "RunnerNet$Text" 79 yX7_kindAt ∈ tT := tM 441 (by decide +kernel) rfl
theorem ml_X7_84 : Cond.methodLink "RunnerNet$Text" 84 yX7_isWord ∈ tT := tM 450 (by decide +kernel) rfl
theorem ml_X7_92 : Cond.methodLink "RunnerNet$Text" 92 yJ0_length_8abf5 ∈ tT := tM 454 (by decide +kernel) rfl
theorem ml_X7_96 : Cond.methodLink "RunnerNet$Text" 96 yJ0_charAt_5068e ∈ tT := tM 464 (by decide +kernel) rfl
theorem ml_X8_39 : Cond.methodLink "RunnerNet$Unseen" 39 yX8_parentOf ∈ tT := tM 851 (by decide +kernel) rfl
theorem ml_X8_43 : Cond.methodLink "RunnerNet$Unseen" 43 yX3_changes ∈ tT := tM 824 (by decide +kernel) rfl
theorem ml_X8_52 : Cond.methodLink "RunnerNet$Unseen" 52 yJ7_fill_53178 ∈ tT := tM 825 (by decide +kernel) rfl
theorem ml_X8_61 : Cond.methodLink "RunnerNet$Unseen" 61 yX6_size ∈ tT := tM 826 (by decide +kernel) rfl
theorem ml_X8_66 : Cond.methodLink "RunnerNet$Unseen" 66 yX6_isSetting ∈ tT := tM 827 (by decide +kernel) rfl
theorem ml_X8_70 : Cond.methodLink "RunnerNet$Unseen" 70 yX3_all ∈ tT := tM 828 (by decide +kernel) rfl
theorem ml_X8_73 : Cond.methodLink "RunnerNet$Unseen" 73 yX6_placesOf ∈ tT := tM 829 (by decide +kernel) rfl
theorem ml_X8_76 : Cond.methodLink "RunnerNet$Unseen" 76 yX8_meet ∈ tT := tM 830 (by decide +kernel) rfl
theorem ml_X8_80 : Cond.methodLink "RunnerNet$Unseen" 80 yX8_expand ∈ tT := tM 835 (by decide +kernel) rfl
theorem ml_X8_84 : Cond.methodLink "RunnerNet$Unseen" 84 yX8_depthOf ∈ tT := tM 847 (by decide +kernel) rfl
theorem ml_X8_87 : Cond.methodLink "RunnerNet$Unseen" 87 yX6_figure ∈ tT := tM 839 (by decide +kernel) rfl
theorem ml_X8_91 : Cond.methodLink "RunnerNet$Unseen" 91 yX3_outOf ∈ tT := tM 840 (by decide +kernel) rfl
theorem ml_X8_94 : Cond.methodLink "RunnerNet$Unseen" 94 yX6_hunters ∈ tT := tM 841 (by decide +kernel) rfl
theorem ml_X8_101 : Cond.methodLink "RunnerNet$Unseen" 101 yX8_step ∈ tT := tM 842 (by decide +kernel) rfl
theorem ml_X8_105 : Cond.methodLink "RunnerNet$Unseen" 105 yX3_leftBehind ∈ tT := tM 846 (by decide +kernel) rfl
theorem ml_X10_83 : Cond.methodLink "RunnerNetModel" 83 yX10_in ∈ tT := tM 1184 (by decide +kernel) rfl
theorem ml_X10_133 : Cond.methodLink "RunnerNetModel" 133 yX10_nextToken ∈ tT := tM 1204 (by decide +kernel) rfl
theorem ml_X10_136 : Cond.methodLink "RunnerNetModel" 136 yX10_fails ∈ tT := tM 1217 (by decide +kernel) rfl
theorem ml_X10_146 : Cond.methodLink "RunnerNetModel" 146 yX10_isNumber ∈ tT := tM 1221 (by decide +kernel) rfl
theorem ml_X10_155 : Cond.methodLink "RunnerNetModel" 155 yX10_isLine ∈ tT := tM 1200 (by decide +kernel) rfl
theorem ml_X10_159 : Cond.methodLink "RunnerNetModel" 159 yX10_isRead ∈ tT := tM 1196 (by decide +kernel) rfl
theorem ml_X10_162 : Cond.methodLink "RunnerNetModel" 162 yX10_forget ∈ tT := tM 1229 (by decide +kernel) rfl
theorem ml_X10_165 : Cond.methodLink "RunnerNetModel" 165 yX10_isPlace ∈ tT := tM 1237 (by decide +kernel) rfl
theorem ml_X10_168 : Cond.methodLink "RunnerNetModel" 168 yX10_stepsOf ∈ tT := tM 1245 (by decide +kernel) rfl
theorem ml_X10_172 : Cond.methodLink "RunnerNetModel" 172 yX10_stepped ∈ tT := tM 1253 (by decide +kernel) rfl
theorem ml_X10_175 : Cond.methodLink "RunnerNetModel" 175 yX10_spell ∈ tT := tM 1287 (by decide +kernel) rfl
theorem ml_X10_179 : Cond.methodLink "RunnerNetModel" 179 yX10_settled ∈ tT := tM 1268 (by decide +kernel) rfl
theorem ml_X10_182 : Cond.methodLink "RunnerNetModel" 182 yX10_at ∈ tT := tM 1299 (by decide +kernel) rfl
theorem ml_X10_186 : Cond.methodLink "RunnerNetModel" 186 yX10_powerOf ∈ tT := tM 1280 (by decide +kernel) rfl
theorem ml_X10_189 : Cond.methodLink "RunnerNetModel" 189 yX10_isSetting ∈ tT := tM 1283 (by decide +kernel) rfl
theorem ml_X10_193 : Cond.methodLink "RunnerNetModel" 193 yX10_placesOf ∈ tT := tM 1291 (by decide +kernel) rfl
theorem ml_X10_197 : Cond.methodLink "RunnerNetModel" 197 yX10_flight ∈ tT := tM 1295 (by decide +kernel) rfl
theorem ml_X10_201 : Cond.methodLink "RunnerNetModel" 201 yX10_moved ∈ tT := tM 1314 (by decide +kernel) rfl
theorem ml_X10_204 : Cond.methodLink "RunnerNetModel" 204 yX10_behind ∈ tT := tM 1306 (by decide +kernel) rfl
theorem ml_X10_207 : Cond.methodLink "RunnerNetModel" 207 yX10_findFlights ∈ tT := tM 1276 (by decide +kernel) rfl
theorem ml_X10_210 : Cond.methodLink "RunnerNetModel" 210 yX10_findGood ∈ tT := tM 1302 (by decide +kernel) rfl
theorem ml_X10_214 : Cond.methodLink "RunnerNetModel" 214 yX10_leavable ∈ tT := tM 1310 (by decide +kernel) rfl
theorem ml_X10_217 : Cond.methodLink "RunnerNetModel" 217 yX10_isChase ∈ tT := tM 1261 (by decide +kernel) rfl
theorem ml_X10_220 : Cond.methodLink "RunnerNetModel" 220 yX10_told ∈ tT := tM 1264 (by decide +kernel) rfl
theorem ml_X10_223 : Cond.methodLink "RunnerNetModel" 223 yX10_reckon ∈ tT := tM 1272 (by decide +kernel) rfl
theorem ml_X10_226 : Cond.methodLink "RunnerNetModel" 226 yX10_worthOf ∈ tT := tM 1322 (by decide +kernel) rfl
theorem ml_X10_229 : Cond.methodLink "RunnerNetModel" 229 yX10_bestOf ∈ tT := tM 1330 (by decide +kernel) rfl
theorem ml_X10_232 : Cond.methodLink "RunnerNetModel" 232 yX10_huntOf ∈ tT := tM 1346 (by decide +kernel) rfl
theorem ml_X10_235 : Cond.methodLink "RunnerNetModel" 235 yX10_fleeOf ∈ tT := tM 1354 (by decide +kernel) rfl
theorem ml_X10_250 : Cond.methodLink "RunnerNetModel" 250 yX10_isCaught ∈ tT := tM 1366 (by decide +kernel) rfl
theorem ml_X10_253 : Cond.methodLink "RunnerNetModel" 253 yX10_isSet ∈ tT := tM 1378 (by decide +kernel) rfl
theorem ml_X10_256 : Cond.methodLink "RunnerNetModel" 256 yX10_spreadOf ∈ tT := tM 1382 (by decide +kernel) rfl
theorem ml_X10_262 : Cond.methodLink "RunnerNetModel" 262 yX10_canStep ∈ tT := tM 1394 (by decide +kernel) rfl
theorem ml_X10_265 : Cond.methodLink "RunnerNetModel" 265 yX10_findClear ∈ tT := tM 1390 (by decide +kernel) rfl
theorem ml_X10_268 : Cond.methodLink "RunnerNetModel" 268 yX10_lengthFound ∈ tT := tM 1398 (by decide +kernel) rfl
theorem ml_X10_272 : Cond.methodLink "RunnerNetModel" 272 yX10_bits ∈ tT := tM 1422 (by decide +kernel) rfl
theorem ml_X10_275 : Cond.methodLink "RunnerNetModel" 275 yX10_joinBoth ∈ tT := tM 1414 (by decide +kernel) rfl
theorem ml_X10_278 : Cond.methodLink "RunnerNetModel" 278 yX10_costOf ∈ tT := tM 1418 (by decide +kernel) rfl
theorem ml_X10_282 : Cond.methodLink "RunnerNetModel" 282 yX10_greater ∈ tT := tM 1425 (by decide +kernel) rfl
theorem ml_X10_285 : Cond.methodLink "RunnerNetModel" 285 yX10_lesser ∈ tT := tM 1429 (by decide +kernel) rfl
theorem ml_X10_288 : Cond.methodLink "RunnerNetModel" 288 yX10_findRest ∈ tT := tM 1410 (by decide +kernel) rfl
theorem ml_X10_292 : Cond.methodLink "RunnerNetModel" 292 yX10_stepsBoth ∈ tT := tM 1441 (by decide +kernel) rfl
theorem ml_X10_298 : Cond.methodLink "RunnerNetModel" 298 yX10_coveredIn ∈ tT := tM 1437 (by decide +kernel) rfl
theorem ml_X10_301 : Cond.methodLink "RunnerNetModel" 301 yX10_doesTouch ∈ tT := tM 1449 (by decide +kernel) rfl
theorem ml_X10_304 : Cond.methodLink "RunnerNetModel" 304 yX10_goOneMore ∈ tT := tM 1465 (by decide +kernel) rfl
theorem ml_X10_308 : Cond.methodLink "RunnerNetModel" 308 yX10_stepsFrom ∈ tT := tM 1477 (by decide +kernel) rfl
theorem ml_X10_311 : Cond.methodLink "RunnerNetModel" 311 yX10_answerOf ∈ tT := tM 1473 (by decide +kernel) rfl
theorem ml_X10_314 : Cond.methodLink "RunnerNetModel" 314 yX10_findGoes ∈ tT := tM 1461 (by decide +kernel) rfl
theorem ml_X10_317 : Cond.methodLink "RunnerNetModel" 317 yX10_canAnswer ∈ tT := tM 1469 (by decide +kernel) rfl
theorem ml_X10_320 : Cond.methodLink "RunnerNetModel" 320 yX10_guard ∈ tT := tM 1457 (by decide +kernel) rfl
theorem ml_J0_335 : Cond.methodLink "java/lang/String" 335 yJ0_coder_7d493 ∈ tT := tM 458 (by decide +kernel) rfl
theorem ml_J0_492 : Cond.methodLink "java/lang/String" 492 yJ0_isLatin1_aae02 ∈ tT := tM 468 (by decide +kernel) rfl
theorem ml_J0_495 : Cond.methodLink "java/lang/String" 495 yJ1_charAt_3b067 ∈ tT := tM 472 (by decide +kernel) rfl
theorem ml_J0_1059 : Cond.methodLink "java/lang/String" 1059 yJ3_checkIndex_8e157 ∈ tT := tM 480 (by decide +kernel) rfl
theorem ml_J1_9 : Cond.methodLink "java/lang/StringLatin1" 9 yJ0_checkIndex_df160 ∈ tT := tM 475 (by decide +kernel) rfl
def md_X0_solve : Md := (yX0_solve, cX0_solve, 4, none, { frames := 3, cells := 0, slots := 0, locals := 85 })
def md_X0_roundsFrom : Md := (yX0_roundsFrom, cX0_roundsFrom, 4, (some .int), { frames := 1, cells := 0, slots := 0, locals := 23 })
def md_X0_mostFrom : Md := (yX0_mostFrom, cX0_mostFrom, 3, (some .int), { frames := 2, cells := 0, slots := 0, locals := 47 })
def md_X0_bestSetting : Md := (yX0_bestSetting, cX0_bestSetting, 5, (some .int), { frames := 3, cells := 0, slots := 0, locals := 69 })
def md_X0_countEndless : Md := (yX0_countEndless, cX0_countEndless, 3, (some .int), { frames := 3, cells := 0, slots := 0, locals := 69 })
def md_X0_bestMove : Md := (yX0_bestMove, cX0_bestMove, 8, (some .int), { frames := 3, cells := 0, slots := 0, locals := 65 })
def md_X0_bestFlight : Md := (yX0_bestFlight, cX0_bestFlight, 8, (some .int), { frames := 2, cells := 0, slots := 0, locals := 45 })
def md_X0_flights : Md := (yX0_flights, cX0_flights, 5, (some .int), { frames := 1, cells := 0, slots := 0, locals := 21 })
def md_X0_leftAt : Md := (yX0_leftAt, cX0_leftAt, 4, (some .int), { frames := 0, cells := 0, slots := 0, locals := 0 })
def md_X0_mostAmong : Md := (yX0_mostAmong, cX0_mostAmong, 5, (some .int), { frames := 1, cells := 0, slots := 0, locals := 23 })
def md_X0_begin : Md := (yX0_begin, cX0_begin, 3, none, { frames := 1, cells := 0, slots := 0, locals := 23 })
def md_X0_trap : Md := (yX0_trap, cX0_trap, 4, none, { frames := 2, cells := 0, slots := 0, locals := 41 })
def md_X0_widen : Md := (yX0_widen, cX0_widen, 6, none, { frames := 2, cells := 0, slots := 0, locals := 60 })
def md_X0_joinRows : Md := (yX0_joinRows, cX0_joinRows, 7, none, { frames := 1, cells := 0, slots := 0, locals := 21 })
def md_X0_note : Md := (yX0_note, cX0_note, 6, (some .boolean), { frames := 2, cells := 0, slots := 0, locals := 41 })
def md_X1_takenAway : Md := (yX1_takenAway, cX1_takenAway, 5, (some .int), { frames := 4, cells := 0, slots := 0, locals := 88 })
def md_X1_leastCovered : Md := (yX1_leastCovered, cX1_leastCovered, 3, (some .int), { frames := 3, cells := 0, slots := 0, locals := 66 })
def md_X1_isCovered : Md := (yX1_isCovered, cX1_isCovered, 5, (some .boolean), { frames := 2, cells := 0, slots := 0, locals := 42 })
def md_X1_leastSet : Md := (yX1_leastSet, cX1_leastSet, 5, (some .int), { frames := 3, cells := 0, slots := 0, locals := 65 })
def md_X1_touchesAll : Md := (yX1_touchesAll, cX1_touchesAll, 4, (some .boolean), { frames := 2, cells := 0, slots := 0, locals := 42 })
def md_X2_holdsOut : Md := (yX2_holdsOut, cX2_holdsOut, 2, (some .boolean), { frames := 5, cells := 0, slots := 0, locals := 112 })
def md_X2_leastSet : Md := (yX2_leastSet, cX2_leastSet, 3, (some .int), { frames := 5, cells := 0, slots := 0, locals := 112 })
def md_X2_countSets : Md := (yX2_countSets, cX2_countSets, 4, (some .int), { frames := 5, cells := 0, slots := 0, locals := 112 })
def md_X2_leastAnswer : Md := (yX2_leastAnswer, cX2_leastAnswer, 6, (some .int), { frames := 5, cells := 0, slots := 0, locals := 112 })
def md_X2_isSafe : Md := (yX2_isSafe, cX2_isSafe, 2, (some .boolean), { frames := 0, cells := 0, slots := 0, locals := 0 })
def md_X2_answersIn : Md := (yX2_answersIn, cX2_answersIn, 4, (some .long), { frames := 1, cells := 0, slots := 0, locals := 21 })
def md_X2_having : Md := (yX2_having, cX2_having, 2, (some .long), { frames := 0, cells := 0, slots := 0, locals := 0 })
def md_X2_solve : Md := (yX2_solve, cX2_solve, 3, none, { frames := 4, cells := 0, slots := 0, locals := 90 })
def md_X2_dropUnsafe : Md := (yX2_dropUnsafe, cX2_dropUnsafe, 3, (some .boolean), { frames := 3, cells := 0, slots := 0, locals := 68 })
def md_X2_answersAll : Md := (yX2_answersAll, cX2_answersAll, 5, (some .boolean), { frames := 2, cells := 0, slots := 0, locals := 44 })
def md_X2_put : Md := (yX2_put, cX2_put, 4, none, { frames := 0, cells := 0, slots := 0, locals := 0 })
def md_X2_moveAlone : Md := (yX2_moveAlone, cX2_moveAlone, 5, none, { frames := 2, cells := 0, slots := 0, locals := 42 })
def md_X2_moveTogether : Md := (yX2_moveTogether, cX2_moveTogether, 5, none, { frames := 2, cells := 0, slots := 0, locals := 48 })
def md_X2_addPlace : Md := (yX2_addPlace, cX2_addPlace, 8, none, { frames := 1, cells := 0, slots := 0, locals := 21 })
def md_X3_places : Md := (yX3_places, cX3_places, 1, (some .int), { frames := 0, cells := 0, slots := 0, locals := 0 })
def md_X3_changes : Md := (yX3_changes, cX3_changes, 1, (some .int), { frames := 0, cells := 0, slots := 0, locals := 0 })
def md_X3_all : Md := (yX3_all, cX3_all, 1, (some .int), { frames := 0, cells := 0, slots := 0, locals := 0 })
def md_X3_known : Md := (yX3_known, cX3_known, 2, (some .boolean), { frames := 0, cells := 0, slots := 0, locals := 0 })
def md_X3_holdsAll : Md := (yX3_holdsAll, cX3_holdsAll, 2, (some .boolean), { frames := 1, cells := 0, slots := 0, locals := 20 })
def md_X3_reset : Md := (yX3_reset, cX3_reset, 3, none, { frames := 0, cells := 0, slots := 0, locals := 0 })
def md_X3_set : Md := (yX3_set, cX3_set, 4, none, { frames := 1, cells := 0, slots := 0, locals := 21 })
def md_X3_settle : Md := (yX3_settle, cX3_settle, 4, none, { frames := 0, cells := 0, slots := 0, locals := 0 })
def md_X3_outOf : Md := (yX3_outOf, cX3_outOf, 2, (some .int), { frames := 1, cells := 0, slots := 0, locals := 21 })
def md_X3_bothWays : Md := (yX3_bothWays, cX3_bothWays, 2, (some .int), { frames := 1, cells := 0, slots := 0, locals := 21 })
def md_X3_aheadOf : Md := (yX3_aheadOf, cX3_aheadOf, 2, (some .int), { frames := 0, cells := 0, slots := 0, locals := 0 })
def md_X3_behindOf : Md := (yX3_behindOf, cX3_behindOf, 2, (some .int), { frames := 0, cells := 0, slots := 0, locals := 0 })
def md_X3_around : Md := (yX3_around, cX3_around, 2, (some .int), { frames := 0, cells := 0, slots := 0, locals := 0 })
def md_X3_leftBehind : Md := (yX3_leftBehind, cX3_leftBehind, 3, (some .int), { frames := 1, cells := 0, slots := 0, locals := 21 })
def md_X3_distance : Md := (yX3_distance, cX3_distance, 5, (some .int), { frames := 1, cells := 0, slots := 0, locals := 21 })
def md_X3_pairs : Md := (yX3_pairs, cX3_pairs, 3, (some .int), { frames := 1, cells := 0, slots := 0, locals := 20 })
def md_X4_hunters : Md := (yX4_hunters, cX4_hunters, 1, (some .int), { frames := 5, cells := 0, slots := 0, locals := 116 })
def md_X4_placeAt : Md := (yX4_placeAt, cX4_placeAt, 2, (some .int), { frames := 5, cells := 0, slots := 0, locals := 116 })
def md_X4_solve : Md := (yX4_solve, cX4_solve, 5, none, { frames := 4, cells := 0, slots := 0, locals := 92 })
def md_X4_choose : Md := (yX4_choose, cX4_choose, 5, none, { frames := 3, cells := 0, slots := 0, locals := 68 })
def md_X4_most : Md := (yX4_most, cX4_most, 4, (some .int), { frames := 2, cells := 0, slots := 0, locals := 45 })
def md_X4_border : Md := (yX4_border, cX4_border, 2, (some .int), { frames := 1, cells := 0, slots := 0, locals := 21 })
def md_X4_neighbours : Md := (yX4_neighbours, cX4_neighbours, 5, (some .int), { frames := 1, cells := 0, slots := 0, locals := 21 })
def md_X5_isOn : Md := (yX5_isOn, cX5_isOn, 1, (some .boolean), { frames := 0, cells := 0, slots := 0, locals := 0 })
def md_X5_hunters : Md := (yX5_hunters, cX5_hunters, 1, (some .int), { frames := 0, cells := 0, slots := 0, locals := 0 })
def md_X5_speed : Md := (yX5_speed, cX5_speed, 1, (some .int), { frames := 0, cells := 0, slots := 0, locals := 0 })
def md_X5_setting : Md := (yX5_setting, cX5_setting, 1, (some .int), { frames := 0, cells := 0, slots := 0, locals := 0 })
def md_X5_place : Md := (yX5_place, cX5_place, 1, (some .int), { frames := 0, cells := 0, slots := 0, locals := 0 })
def md_X5_gone : Md := (yX5_gone, cX5_gone, 1, (some .int), { frames := 0, cells := 0, slots := 0, locals := 0 })
def md_X5_begin : Md := (yX5_begin, cX5_begin, 5, none, { frames := 0, cells := 0, slots := 0, locals := 0 })
def md_X5_go : Md := (yX5_go, cX5_go, 3, none, { frames := 0, cells := 0, slots := 0, locals := 0 })
def md_X5_end : Md := (yX5_end, cX5_end, 1, none, { frames := 0, cells := 0, slots := 0, locals := 0 })
def md_X6_hunters : Md := (yX6_hunters, cX6_hunters, 1, (some .int), { frames := 0, cells := 0, slots := 0, locals := 0 })
def md_X6_size : Md := (yX6_size, cX6_size, 1, (some .int), { frames := 0, cells := 0, slots := 0, locals := 0 })
def md_X6_figure : Md := (yX6_figure, cX6_figure, 3, (some .int), { frames := 0, cells := 0, slots := 0, locals := 0 })
def md_X6_placesOf : Md := (yX6_placesOf, cX6_placesOf, 2, (some .int), { frames := 0, cells := 0, slots := 0, locals := 0 })
def md_X6_holds : Md := (yX6_holds, cX6_holds, 3, (some .boolean), { frames := 1, cells := 0, slots := 0, locals := 21 })
def md_X6_isRow : Md := (yX6_isRow, cX6_isRow, 2, (some .boolean), { frames := 1, cells := 0, slots := 0, locals := 20 })
def md_X6_isSetting : Md := (yX6_isSetting, cX6_isSetting, 2, (some .boolean), { frames := 2, cells := 0, slots := 0, locals := 48 })
def md_X6_told : Md := (yX6_told, cX6_told, 5, (some .int), { frames := 1, cells := 0, slots := 0, locals := 21 })
def md_X6_rising : Md := (yX6_rising, cX6_rising, 7, (some .int), { frames := 1, cells := 0, slots := 0, locals := 22 })
def md_X6_canStep : Md := (yX6_canStep, cX6_canStep, 4, (some .boolean), { frames := 2, cells := 0, slots := 0, locals := 42 })
def md_X7_length : Md := (yX7_length, cX7_length, 1, (some .int), { frames := 0, cells := 0, slots := 0, locals := 0 })
def md_X7_drop : Md := (yX7_drop, cX7_drop, 1, none, { frames := 0, cells := 0, slots := 0, locals := 0 })
def md_X7_append : Md := (yX7_append, cX7_append, 5, (some .boolean), { frames := 0, cells := 0, slots := 0, locals := 0 })
def md_X7_read : Md := (yX7_read, cX7_read, 3, (some .int), { frames := 8, cells := 0, slots := 0, locals := 172 })
def md_X7_layOn : Md := (yX7_layOn, cX7_layOn, 3, none, { frames := 2, cells := 0, slots := 0, locals := 44 })
def md_X7_readLine : Md := (yX7_readLine, cX7_readLine, 5, (some .boolean), { frames := 7, cells := 0, slots := 0, locals := 148 })
def md_X7_byteAt : Md := (yX7_byteAt, cX7_byteAt, 2, (some .int), { frames := 0, cells := 0, slots := 0, locals := 0 })
def md_X7_kindAt : Md := (yX7_kindAt, cX7_kindAt, 3, (some .int), { frames := 1, cells := 0, slots := 0, locals := 21 })
def md_X7_nextToken : Md := (yX7_nextToken, cX7_nextToken, 2, none, { frames := 2, cells := 0, slots := 0, locals := 43 })
def md_X7_lineKind : Md := (yX7_lineKind, cX7_lineKind, 1, (some .int), { frames := 6, cells := 0, slots := 0, locals := 128 })
def md_X7_isWord : Md := (yX7_isWord, cX7_isWord, 3, (some .boolean), { frames := 5, cells := 0, slots := 0, locals := 106 })
def md_X7_number : Md := (yX7_number, cX7_number, 2, (some .int), { frames := 2, cells := 0, slots := 0, locals := 43 })
def md_X8_length : Md := (yX8_length, cX8_length, 1, (some .int), { frames := 0, cells := 0, slots := 0, locals := 0 })
def md_X8_settingAt : Md := (yX8_settingAt, cX8_settingAt, 4, (some .int), { frames := 1, cells := 0, slots := 0, locals := 21 })
def md_X8_search : Md := (yX8_search, cX8_search, 4, none, { frames := 4, cells := 0, slots := 0, locals := 95 })
def md_X8_parentOf : Md := (yX8_parentOf, cX8_parentOf, 2, (some .int), { frames := 0, cells := 0, slots := 0, locals := 0 })
def md_X8_depthOf : Md := (yX8_depthOf, cX8_depthOf, 4, (some .int), { frames := 1, cells := 0, slots := 0, locals := 21 })
def md_X8_expand : Md := (yX8_expand, cX8_expand, 8, none, { frames := 3, cells := 0, slots := 0, locals := 68 })
def md_X8_step : Md := (yX8_step, cX8_step, 3, none, { frames := 2, cells := 0, slots := 0, locals := 46 })
def md_X8_meet : Md := (yX8_meet, cX8_meet, 6, none, { frames := 1, cells := 0, slots := 0, locals := 21 })
def md_X9_write : Md := (yX9_write, cX9_write, 4, (some .int), { frames := 1, cells := 0, slots := 0, locals := 24 })
def md_X9_erase : Md := (yX9_erase, cX9_erase, 2, (some .int), { frames := 1, cells := 0, slots := 0, locals := 20 })
def md_X9_fault : Md := (yX9_fault, cX9_fault, 1, (some .int), { frames := 9, cells := 0, slots := 0, locals := 194 })
def md_X9_laid : Md := (yX9_laid, cX9_laid, 1, (some .int), { frames := 9, cells := 0, slots := 0, locals := 194 })
def md_X9_road : Md := (yX9_road, cX9_road, 5, (some .int), { frames := 2, cells := 0, slots := 0, locals := 44 })
def md_X9_steps : Md := (yX9_steps, cX9_steps, 2, (some .int), { frames := 2, cells := 0, slots := 0, locals := 42 })
def md_X9_far : Md := (yX9_far, cX9_far, 3, (some .int), { frames := 2, cells := 0, slots := 0, locals := 45 })
def md_X9_rounds : Md := (yX9_rounds, cX9_rounds, 6, (some .int), { frames := 5, cells := 0, slots := 0, locals := 132 })
def md_X9_worth : Md := (yX9_worth, cX9_worth, 5, (some .int), { frames := 5, cells := 0, slots := 0, locals := 132 })
def md_X9_best : Md := (yX9_best, cX9_best, 6, (some .int), { frames := 5, cells := 0, slots := 0, locals := 132 })
def md_X9_fewest : Md := (yX9_fewest, cX9_fewest, 3, (some .int), { frames := 5, cells := 0, slots := 0, locals := 132 })
def md_X9_escapes : Md := (yX9_escapes, cX9_escapes, 3, (some .int), { frames := 5, cells := 0, slots := 0, locals := 132 })
def md_X9_hunt : Md := (yX9_hunt, cX9_hunt, 7, (some .int), { frames := 5, cells := 0, slots := 0, locals := 132 })
def md_X9_flee : Md := (yX9_flee, cX9_flee, 7, (some .int), { frames := 5, cells := 0, slots := 0, locals := 132 })
def md_X9_play : Md := (yX9_play, cX9_play, 6, (some .int), { frames := 3, cells := 0, slots := 0, locals := 69 })
def md_X9_turn : Md := (yX9_turn, cX9_turn, 6, (some .int), { frames := 6, cells := 0, slots := 0, locals := 155 })
def md_X9_now : Md := (yX9_now, cX9_now, 2, (some .int), { frames := 3, cells := 0, slots := 0, locals := 63 })
def md_X9_spread : Md := (yX9_spread, cX9_spread, 5, (some .int), { frames := 2, cells := 0, slots := 0, locals := 45 })
def md_X9_clear : Md := (yX9_clear, cX9_clear, 5, (some .int), { frames := 5, cells := 0, slots := 0, locals := 118 })
def md_X9_free : Md := (yX9_free, cX9_free, 3, (some .int), { frames := 5, cells := 0, slots := 0, locals := 118 })
def md_X9_flying : Md := (yX9_flying, cX9_flying, 4, (some .int), { frames := 6, cells := 0, slots := 0, locals := 137 })
def md_X9_away : Md := (yX9_away, cX9_away, 2, (some .int), { frames := 5, cells := 0, slots := 0, locals := 112 })
def md_X9_least : Md := (yX9_least, cX9_least, 2, (some .int), { frames := 4, cells := 0, slots := 0, locals := 89 })
def md_X9_safe : Md := (yX9_safe, cX9_safe, 3, (some .int), { frames := 6, cells := 0, slots := 0, locals := 133 })
def md_X9_guards : Md := (yX9_guards, cX9_guards, 5, (some .int), { frames := 6, cells := 0, slots := 0, locals := 135 })
def md_X9_answer : Md := (yX9_answer, cX9_answer, 4, (some .int), { frames := 6, cells := 0, slots := 0, locals := 137 })
def md_X9_count : Md := (yX9_count, cX9_count, 2, (some .int), { frames := 2, cells := 0, slots := 0, locals := 42 })
def md_X9_has : Md := (yX9_has, cX9_has, 2, (some .boolean), { frames := 0, cells := 0, slots := 0, locals := 0 })
def md_X9_isChase : Md := (yX9_isChase, cX9_isChase, 2, (some .boolean), { frames := 0, cells := 0, slots := 0, locals := 0 })
def md_X9_isWatch : Md := (yX9_isWatch, cX9_isWatch, 3, (some .boolean), { frames := 2, cells := 0, slots := 0, locals := 41 })
def md_X9_settings : Md := (yX9_settings, cX9_settings, 2, (some (.object "RunnerNet$Settings")), { frames := 1, cells := 0, slots := 0, locals := 21 })
def md_X9_chase : Md := (yX9_chase, cX9_chase, 5, (some (.object "RunnerNet$Chase")), { frames := 4, cells := 0, slots := 0, locals := 108 })
def md_X9_refuseStand : Md := (yX9_refuseStand, cX9_refuseStand, 5, (some .int), { frames := 2, cells := 0, slots := 0, locals := 45 })
def md_X9_isCaught : Md := (yX9_isCaught, cX9_isCaught, 1, (some .boolean), { frames := 2, cells := 0, slots := 0, locals := 43 })
def md_X9_settingBehind : Md := (yX9_settingBehind, cX9_settingBehind, 4, (some .int), { frames := 5, cells := 0, slots := 0, locals := 132 })
def md_X9_placeBehind : Md := (yX9_placeBehind, cX9_placeBehind, 4, (some .int), { frames := 5, cells := 0, slots := 0, locals := 132 })
def md_X10_in : Md := (yX10_in, cX10_in, 3, (some .boolean), { frames := 0, cells := 0, slots := 0, locals := 0 })
def md_X10_isPlace : Md := (yX10_isPlace, cX10_isPlace, 2, (some .boolean), { frames := 1, cells := 0, slots := 0, locals := 22 })
def md_X10_bits : Md := (yX10_bits, cX10_bits, 3, (some .int), { frames := 0, cells := 0, slots := 0, locals := 0 })
def md_X10_stepsOf : Md := (yX10_stepsOf, cX10_stepsOf, 2, (some .int), { frames := 0, cells := 0, slots := 0, locals := 0 })
def md_X10_forget : Md := (yX10_forget, cX10_forget, 2, none, { frames := 0, cells := 0, slots := 0, locals := 0 })
def md_X10_write : Md := (yX10_write, cX10_write, 5, (some .int), { frames := 1, cells := 0, slots := 0, locals := 22 })
def md_X10_erase : Md := (yX10_erase, cX10_erase, 2, (some .int), { frames := 0, cells := 0, slots := 0, locals := 0 })
def md_X10_nextToken : Md := (yX10_nextToken, cX10_nextToken, 1, none, { frames := 1, cells := 0, slots := 0, locals := 22 })
def md_X10_fails : Md := (yX10_fails, cX10_fails, 1, (some .boolean), { frames := 0, cells := 0, slots := 0, locals := 0 })
def md_X10_isNumber : Md := (yX10_isNumber, cX10_isNumber, 4, (some .boolean), { frames := 2, cells := 0, slots := 0, locals := 42 })
def md_X10_isLine : Md := (yX10_isLine, cX10_isLine, 2, (some .boolean), { frames := 3, cells := 0, slots := 0, locals := 65 })
def md_X10_isRead : Md := (yX10_isRead, cX10_isRead, 2, (some .boolean), { frames := 4, cells := 0, slots := 0, locals := 86 })
def md_X10_fault : Md := (yX10_fault, cX10_fault, 1, (some .int), { frames := 5, cells := 0, slots := 0, locals := 107 })
def md_X10_laid : Md := (yX10_laid, cX10_laid, 5, (some .int), { frames := 5, cells := 0, slots := 0, locals := 107 })
def md_X10_road : Md := (yX10_road, cX10_road, 5, (some .int), { frames := 2, cells := 0, slots := 0, locals := 43 })
def md_X10_steps : Md := (yX10_steps, cX10_steps, 2, (some .int), { frames := 2, cells := 0, slots := 0, locals := 43 })
def md_X10_stepped : Md := (yX10_stepped, cX10_stepped, 4, (some .int), { frames := 1, cells := 0, slots := 0, locals := 21 })
def md_X10_far : Md := (yX10_far, cX10_far, 5, (some .int), { frames := 2, cells := 0, slots := 0, locals := 44 })
def md_X10_spell : Md := (yX10_spell, cX10_spell, 5, none, { frames := 0, cells := 0, slots := 0, locals := 0 })
def md_X10_settled : Md := (yX10_settled, cX10_settled, 5, (some .int), { frames := 0, cells := 0, slots := 0, locals := 0 })
def md_X10_powerOf : Md := (yX10_powerOf, cX10_powerOf, 1, (some .int), { frames := 0, cells := 0, slots := 0, locals := 0 })
def md_X10_isSetting : Md := (yX10_isSetting, cX10_isSetting, 5, (some .boolean), { frames := 1, cells := 0, slots := 0, locals := 24 })
def md_X10_placesOf : Md := (yX10_placesOf, cX10_placesOf, 5, (some .int), { frames := 1, cells := 0, slots := 0, locals := 24 })
def md_X10_moved : Md := (yX10_moved, cX10_moved, 7, (some .int), { frames := 1, cells := 0, slots := 0, locals := 24 })
def md_X10_at : Md := (yX10_at, cX10_at, 4, (some .int), { frames := 0, cells := 0, slots := 0, locals := 0 })
def md_X10_flight : Md := (yX10_flight, cX10_flight, 6, (some .int), { frames := 2, cells := 0, slots := 0, locals := 44 })
def md_X10_behind : Md := (yX10_behind, cX10_behind, 9, (some .int), { frames := 1, cells := 0, slots := 0, locals := 23 })
def md_X10_findFlights : Md := (yX10_findFlights, cX10_findFlights, 6, none, { frames := 3, cells := 0, slots := 0, locals := 69 })
def md_X10_leavable : Md := (yX10_leavable, cX10_leavable, 6, (some .int), { frames := 2, cells := 0, slots := 0, locals := 50 })
def md_X10_findGood : Md := (yX10_findGood, cX10_findGood, 7, none, { frames := 2, cells := 0, slots := 0, locals := 51 })
def md_X10_reckon : Md := (yX10_reckon, cX10_reckon, 8, none, { frames := 4, cells := 0, slots := 0, locals := 94 })
def md_X10_isChase : Md := (yX10_isChase, cX10_isChase, 2, (some .boolean), { frames := 1, cells := 0, slots := 0, locals := 22 })
def md_X10_told : Md := (yX10_told, cX10_told, 5, (some .int), { frames := 1, cells := 0, slots := 0, locals := 24 })
def md_X10_rounds : Md := (yX10_rounds, cX10_rounds, 6, (some .int), { frames := 5, cells := 0, slots := 0, locals := 121 })
def md_X10_worthOf : Md := (yX10_worthOf, cX10_worthOf, 7, (some .int), { frames := 1, cells := 0, slots := 0, locals := 23 })
def md_X10_worth : Md := (yX10_worth, cX10_worth, 5, (some .int), { frames := 5, cells := 0, slots := 0, locals := 121 })
def md_X10_bestOf : Md := (yX10_bestOf, cX10_bestOf, 5, (some .int), { frames := 5, cells := 0, slots := 0, locals := 121 })
def md_X10_best : Md := (yX10_best, cX10_best, 5, (some .int), { frames := 6, cells := 0, slots := 0, locals := 145 })
def md_X10_fewest : Md := (yX10_fewest, cX10_fewest, 3, (some .int), { frames := 6, cells := 0, slots := 0, locals := 145 })
def md_X10_escapes : Md := (yX10_escapes, cX10_escapes, 6, (some .int), { frames := 5, cells := 0, slots := 0, locals := 121 })
def md_X10_huntOf : Md := (yX10_huntOf, cX10_huntOf, 10, (some .int), { frames := 5, cells := 0, slots := 0, locals := 121 })
def md_X10_fleeOf : Md := (yX10_fleeOf, cX10_fleeOf, 10, (some .int), { frames := 5, cells := 0, slots := 0, locals := 121 })
def md_X10_hunt : Md := (yX10_hunt, cX10_hunt, 6, (some .int), { frames := 6, cells := 0, slots := 0, locals := 150 })
def md_X10_flee : Md := (yX10_flee, cX10_flee, 6, (some .int), { frames := 6, cells := 0, slots := 0, locals := 150 })
def md_X10_play : Md := (yX10_play, cX10_play, 6, (some .int), { frames := 2, cells := 0, slots := 0, locals := 48 })
def md_X10_isCaught : Md := (yX10_isCaught, cX10_isCaught, 1, (some .boolean), { frames := 2, cells := 0, slots := 0, locals := 48 })
def md_X10_turn : Md := (yX10_turn, cX10_turn, 6, (some .int), { frames := 6, cells := 0, slots := 0, locals := 150 })
def md_X10_now : Md := (yX10_now, cX10_now, 2, (some .int), { frames := 3, cells := 0, slots := 0, locals := 68 })
def md_X10_spreadOf : Md := (yX10_spreadOf, cX10_spreadOf, 3, (some .int), { frames := 2, cells := 0, slots := 0, locals := 44 })
def md_X10_isSet : Md := (yX10_isSet, cX10_isSet, 2, (some .boolean), { frames := 1, cells := 0, slots := 0, locals := 22 })
def md_X10_spread : Md := (yX10_spread, cX10_spread, 5, (some .int), { frames := 3, cells := 0, slots := 0, locals := 66 })
def md_X10_findClear : Md := (yX10_findClear, cX10_findClear, 10, none, { frames := 3, cells := 0, slots := 0, locals := 66 })
def md_X10_canStep : Md := (yX10_canStep, cX10_canStep, 8, (some .boolean), { frames := 1, cells := 0, slots := 0, locals := 21 })
def md_X10_lengthFound : Md := (yX10_lengthFound, cX10_lengthFound, 3, (some .int), { frames := 0, cells := 0, slots := 0, locals := 0 })
def md_X10_clear : Md := (yX10_clear, cX10_clear, 8, (some .int), { frames := 4, cells := 0, slots := 0, locals := 95 })
def md_X10_free : Md := (yX10_free, cX10_free, 5, (some .int), { frames := 4, cells := 0, slots := 0, locals := 95 })
def md_X10_joinBoth : Md := (yX10_joinBoth, cX10_joinBoth, 4, none, { frames := 0, cells := 0, slots := 0, locals := 0 })
def md_X10_costOf : Md := (yX10_costOf, cX10_costOf, 7, (some .int), { frames := 1, cells := 0, slots := 0, locals := 22 })
def md_X10_lesser : Md := (yX10_lesser, cX10_lesser, 3, (some .int), { frames := 0, cells := 0, slots := 0, locals := 0 })
def md_X10_greater : Md := (yX10_greater, cX10_greater, 3, (some .int), { frames := 0, cells := 0, slots := 0, locals := 0 })
def md_X10_findRest : Md := (yX10_findRest, cX10_findRest, 5, none, { frames := 2, cells := 0, slots := 0, locals := 48 })
def md_X10_flying : Md := (yX10_flying, cX10_flying, 8, (some .int), { frames := 3, cells := 0, slots := 0, locals := 72 })
def md_X10_stepsBoth : Md := (yX10_stepsBoth, cX10_stepsBoth, 4, (some .int), { frames := 0, cells := 0, slots := 0, locals := 0 })
def md_X10_coveredIn : Md := (yX10_coveredIn, cX10_coveredIn, 6, (some .int), { frames := 1, cells := 0, slots := 0, locals := 23 })
def md_X10_away : Md := (yX10_away, cX10_away, 4, (some .int), { frames := 2, cells := 0, slots := 0, locals := 48 })
def md_X10_doesTouch : Md := (yX10_doesTouch, cX10_doesTouch, 4, (some .boolean), { frames := 0, cells := 0, slots := 0, locals := 0 })
def md_X10_least : Md := (yX10_least, cX10_least, 6, (some .int), { frames := 2, cells := 0, slots := 0, locals := 44 })
def md_X10_findGoes : Md := (yX10_findGoes, cX10_findGoes, 3, none, { frames := 1, cells := 0, slots := 0, locals := 23 })
def md_X10_goOneMore : Md := (yX10_goOneMore, cX10_goOneMore, 4, none, { frames := 0, cells := 0, slots := 0, locals := 0 })
def md_X10_answerOf : Md := (yX10_answerOf, cX10_answerOf, 8, (some .int), { frames := 1, cells := 0, slots := 0, locals := 23 })
def md_X10_stepsFrom : Md := (yX10_stepsFrom, cX10_stepsFrom, 4, (some .int), { frames := 0, cells := 0, slots := 0, locals := 0 })
def md_X10_canAnswer : Md := (yX10_canAnswer, cX10_canAnswer, 5, (some .boolean), { frames := 2, cells := 0, slots := 0, locals := 50 })
def md_X10_guard : Md := (yX10_guard, cX10_guard, 4, none, { frames := 3, cells := 0, slots := 0, locals := 74 })
def md_X10_safe : Md := (yX10_safe, cX10_safe, 3, (some .int), { frames := 4, cells := 0, slots := 0, locals := 97 })
def md_X10_guards : Md := (yX10_guards, cX10_guards, 6, (some .int), { frames := 4, cells := 0, slots := 0, locals := 97 })
def md_X10_answer : Md := (yX10_answer, cX10_answer, 4, (some .int), { frames := 4, cells := 0, slots := 0, locals := 97 })
def md_X10_count : Md := (yX10_count, cX10_count, 4, (some .int), { frames := 1, cells := 0, slots := 0, locals := 22 })
def md_J6_bitCount_0f7a4 : Md := (yJ6_bitCount_0f7a4, cJ6_bitCount_0f7a4, 1, (some .int), { frames := 0, cells := 0, slots := 0, locals := 0 })
def md_J13_bitCount_95d88 : Md := (yJ13_bitCount_95d88, cJ13_bitCount_95d88, 2, (some .int), { frames := 0, cells := 0, slots := 0, locals := 0 })
def md_J0_length_8abf5 : Md := (yJ0_length_8abf5, cJ0_length_8abf5, 1, (some .int), { frames := 1, cells := 0, slots := 0, locals := 20 })
def md_J0_charAt_5068e : Md := (yJ0_charAt_5068e, cJ0_charAt_5068e, 2, (some .char), { frames := 4, cells := 0, slots := 0, locals := 85 })
def md_J0_coder_7d493 : Md := (yJ0_coder_7d493, cJ0_coder_7d493, 1, (some .byte), { frames := 0, cells := 0, slots := 0, locals := 0 })
def md_J0_isLatin1_aae02 : Md := (yJ0_isLatin1_aae02, cJ0_isLatin1_aae02, 1, (some .boolean), { frames := 0, cells := 0, slots := 0, locals := 0 })
def md_J0_checkIndex_df160 : Md := (yJ0_checkIndex_df160, cJ0_checkIndex_df160, 2, none, { frames := 1, cells := 0, slots := 0, locals := 22 })
def md_J1_charAt_3b067 : Md := (yJ1_charAt_3b067, cJ1_charAt_3b067, 2, (some .char), { frames := 2, cells := 0, slots := 0, locals := 43 })
def md_J7_fill_d0a16 : Md := (yJ7_fill_d0a16, cJ7_fill_d0a16, 5, none, { frames := 0, cells := 0, slots := 0, locals := 0 })
def md_J7_fill_53178 : Md := (yJ7_fill_53178, cJ7_fill_53178, 4, none, { frames := 0, cells := 0, slots := 0, locals := 0 })
def md_J3_checkIndex_8e157 : Md := (yJ3_checkIndex_8e157, cJ3_checkIndex_8e157, 3, (some .int), { frames := 0, cells := 0, slots := 0, locals := 0 })
theorem mf_J0_charAt_5068e : MF md_J0_charAt_5068e 1 := ⟨by decide, by decide, by decide +kernel, tM 467 (by decide +kernel) rfl, tM 100 (by decide +kernel) rfl, rfl, rfl⟩
theorem vf_J0_charAt_5068e : VF md_J0_charAt_5068e := ⟨tM 465 (by decide +kernel) rfl, tM 466 (by decide +kernel) rfl⟩
theorem mf_J0_checkIndex_df160 : MF md_J0_checkIndex_df160 2 := ⟨by decide, by decide, by decide +kernel, tM 477 (by decide +kernel) rfl, tM 100 (by decide +kernel) rfl, rfl, rfl⟩
theorem vf_J0_checkIndex_df160 : Cond.static md_J0_checkIndex_df160.1 ∈ tT := tM 476 (by decide +kernel) rfl
theorem mf_J0_coder_7d493 : MF md_J0_coder_7d493 0 := ⟨by decide, by decide, by decide +kernel, tM 461 (by decide +kernel) rfl, tM 100 (by decide +kernel) rfl, rfl, rfl⟩
theorem vf_J0_coder_7d493 : VF md_J0_coder_7d493 := ⟨tM 459 (by decide +kernel) rfl, tM 460 (by decide +kernel) rfl⟩
theorem mf_J0_isLatin1_aae02 : MF md_J0_isLatin1_aae02 0 := ⟨by decide, by decide, by decide +kernel, tM 471 (by decide +kernel) rfl, tM 100 (by decide +kernel) rfl, rfl, rfl⟩
theorem vf_J0_isLatin1_aae02 : VF md_J0_isLatin1_aae02 := ⟨tM 469 (by decide +kernel) rfl, tM 470 (by decide +kernel) rfl⟩
theorem mf_J0_length_8abf5 : MF md_J0_length_8abf5 0 := ⟨by decide, by decide, by decide +kernel, tM 457 (by decide +kernel) rfl, tM 100 (by decide +kernel) rfl, rfl, rfl⟩
theorem vf_J0_length_8abf5 : VF md_J0_length_8abf5 := ⟨tM 455 (by decide +kernel) rfl, tM 456 (by decide +kernel) rfl⟩
theorem mf_J13_bitCount_95d88 : MF md_J13_bitCount_95d88 1 := ⟨by decide, by decide, by decide +kernel, tM 1034 (by decide +kernel) rfl, tM 107 (by decide +kernel) rfl, rfl, rfl⟩
theorem vf_J13_bitCount_95d88 : Cond.static md_J13_bitCount_95d88.1 ∈ tT := tM 1033 (by decide +kernel) rfl
theorem mf_J1_charAt_3b067 : MF md_J1_charAt_3b067 2 := ⟨by decide, by decide, by decide +kernel, tM 474 (by decide +kernel) rfl, tM 101 (by decide +kernel) rfl, rfl, rfl⟩
theorem vf_J1_charAt_3b067 : Cond.static md_J1_charAt_3b067.1 ∈ tT := tM 473 (by decide +kernel) rfl
theorem mf_J3_checkIndex_8e157 : MF md_J3_checkIndex_8e157 3 := ⟨by decide, by decide, by decide +kernel, tM 482 (by decide +kernel) rfl, tM 102 (by decide +kernel) rfl, rfl, rfl⟩
theorem vf_J3_checkIndex_8e157 : Cond.static md_J3_checkIndex_8e157.1 ∈ tT := tM 481 (by decide +kernel) rfl
theorem mf_J6_bitCount_0f7a4 : MF md_J6_bitCount_0f7a4 1 := ⟨by decide, by decide, by decide +kernel, tM 705 (by decide +kernel) rfl, tM 106 (by decide +kernel) rfl, rfl, rfl⟩
theorem vf_J6_bitCount_0f7a4 : Cond.static md_J6_bitCount_0f7a4.1 ∈ tT := tM 704 (by decide +kernel) rfl
theorem mf_J7_fill_53178 : MF md_J7_fill_53178 2 := ⟨by decide, by decide, by decide +kernel, tM 605 (by decide +kernel) rfl, tM 104 (by decide +kernel) rfl, rfl, rfl⟩
theorem vf_J7_fill_53178 : Cond.static md_J7_fill_53178.1 ∈ tT := tM 604 (by decide +kernel) rfl
theorem mf_J7_fill_d0a16 : MF md_J7_fill_d0a16 2 := ⟨by decide, by decide, by decide +kernel, tM 968 (by decide +kernel) rfl, tM 104 (by decide +kernel) rfl, rfl, rfl⟩
theorem vf_J7_fill_d0a16 : Cond.static md_J7_fill_d0a16.1 ∈ tT := tM 967 (by decide +kernel) rfl
theorem mf_X0_begin : MF md_X0_begin 0 := ⟨by decide, by decide, by decide +kernel, tM 601 (by decide +kernel) rfl, tM 92 (by decide +kernel) rfl, rfl, rfl⟩
theorem vf_X0_begin : VF md_X0_begin := ⟨tM 600 (by decide +kernel) rfl, tM 10 (by decide +kernel) rfl⟩
theorem mf_X0_bestFlight : MF md_X0_bestFlight 2 := ⟨by decide, by decide, by decide +kernel, tM 742 (by decide +kernel) rfl, tM 92 (by decide +kernel) rfl, rfl, rfl⟩
theorem vf_X0_bestFlight : VF md_X0_bestFlight := ⟨tM 740 (by decide +kernel) rfl, tM 741 (by decide +kernel) rfl⟩
theorem mf_X0_bestMove : MF md_X0_bestMove 2 := ⟨by decide, by decide, by decide +kernel, tM 722 (by decide +kernel) rfl, tM 92 (by decide +kernel) rfl, rfl, rfl⟩
theorem vf_X0_bestMove : VF md_X0_bestMove := ⟨tM 720 (by decide +kernel) rfl, tM 721 (by decide +kernel) rfl⟩
theorem mf_X0_bestSetting : MF md_X0_bestSetting 0 := ⟨by decide, by decide, by decide +kernel, tM 679 (by decide +kernel) rfl, tM 92 (by decide +kernel) rfl, rfl, rfl⟩
theorem vf_X0_bestSetting : VF md_X0_bestSetting := ⟨tM 677 (by decide +kernel) rfl, tM 678 (by decide +kernel) rfl⟩
theorem mf_X0_countEndless : MF md_X0_countEndless 0 := ⟨by decide, by decide, by decide +kernel, tM 702 (by decide +kernel) rfl, tM 92 (by decide +kernel) rfl, rfl, rfl⟩
theorem vf_X0_countEndless : VF md_X0_countEndless := ⟨tM 700 (by decide +kernel) rfl, tM 701 (by decide +kernel) rfl⟩
theorem mf_X0_flights : MF md_X0_flights 2 := ⟨by decide, by decide, by decide +kernel, tM 733 (by decide +kernel) rfl, tM 92 (by decide +kernel) rfl, rfl, rfl⟩
theorem vf_X0_flights : VF md_X0_flights := ⟨tM 731 (by decide +kernel) rfl, tM 732 (by decide +kernel) rfl⟩
theorem mf_X0_joinRows : MF md_X0_joinRows 3 := ⟨by decide, by decide, by decide +kernel, tM 642 (by decide +kernel) rfl, tM 92 (by decide +kernel) rfl, rfl, rfl⟩
theorem vf_X0_joinRows : VF md_X0_joinRows := ⟨tM 641 (by decide +kernel) rfl, tM 13 (by decide +kernel) rfl⟩
theorem mf_X0_leftAt : MF md_X0_leftAt 2 := ⟨by decide, by decide, by decide +kernel, tM 658 (by decide +kernel) rfl, tM 92 (by decide +kernel) rfl, rfl, rfl⟩
theorem vf_X0_leftAt : VF md_X0_leftAt := ⟨tM 657 (by decide +kernel) rfl, tM 15 (by decide +kernel) rfl⟩
theorem mf_X0_mostAmong : MF md_X0_mostAmong 2 := ⟨by decide, by decide, by decide +kernel, tM 670 (by decide +kernel) rfl, tM 92 (by decide +kernel) rfl, rfl, rfl⟩
theorem vf_X0_mostAmong : VF md_X0_mostAmong := ⟨tM 669 (by decide +kernel) rfl, tM 16 (by decide +kernel) rfl⟩
theorem mf_X0_mostFrom : MF md_X0_mostFrom 1 := ⟨by decide, by decide, by decide +kernel, tM 666 (by decide +kernel) rfl, tM 92 (by decide +kernel) rfl, rfl, rfl⟩
theorem vf_X0_mostFrom : VF md_X0_mostFrom := ⟨tM 664 (by decide +kernel) rfl, tM 665 (by decide +kernel) rfl⟩
theorem mf_X0_note : MF md_X0_note 1 := ⟨by decide, by decide, by decide +kernel, tM 650 (by decide +kernel) rfl, tM 92 (by decide +kernel) rfl, rfl, rfl⟩
theorem vf_X0_note : VF md_X0_note := ⟨tM 649 (by decide +kernel) rfl, tM 14 (by decide +kernel) rfl⟩
theorem mf_X0_roundsFrom : MF md_X0_roundsFrom 2 := ⟨by decide, by decide, by decide +kernel, tM 654 (by decide +kernel) rfl, tM 92 (by decide +kernel) rfl, rfl, rfl⟩
theorem vf_X0_roundsFrom : VF md_X0_roundsFrom := ⟨tM 652 (by decide +kernel) rfl, tM 653 (by decide +kernel) rfl⟩
theorem mf_X0_solve : MF md_X0_solve 0 := ⟨by decide, by decide, by decide +kernel, tM 593 (by decide +kernel) rfl, tM 92 (by decide +kernel) rfl, rfl, rfl⟩
theorem vf_X0_solve : VF md_X0_solve := ⟨tM 591 (by decide +kernel) rfl, tM 592 (by decide +kernel) rfl⟩
theorem mf_X0_trap : MF md_X0_trap 0 := ⟨by decide, by decide, by decide +kernel, tM 618 (by decide +kernel) rfl, tM 92 (by decide +kernel) rfl, rfl, rfl⟩
theorem vf_X0_trap : VF md_X0_trap := ⟨tM 617 (by decide +kernel) rfl, tM 11 (by decide +kernel) rfl⟩
theorem mf_X0_widen : MF md_X0_widen 1 := ⟨by decide, by decide, by decide +kernel, tM 635 (by decide +kernel) rfl, tM 92 (by decide +kernel) rfl, rfl, rfl⟩
theorem vf_X0_widen : VF md_X0_widen := ⟨tM 634 (by decide +kernel) rfl, tM 12 (by decide +kernel) rfl⟩
theorem mf_X10_answerOf : MF md_X10_answerOf 3 := ⟨by decide, by decide, by decide +kernel, tM 1476 (by decide +kernel) rfl, tM 98 (by decide +kernel) rfl, rfl, rfl⟩
theorem vf_X10_answerOf : VF md_X10_answerOf := ⟨tM 1475 (by decide +kernel) rfl, tM 85 (by decide +kernel) rfl⟩
theorem mf_X10_at : MF md_X10_at 4 := ⟨by decide, by decide, by decide +kernel, tM 1301 (by decide +kernel) rfl, tM 98 (by decide +kernel) rfl, rfl, rfl⟩
theorem vf_X10_at : Cond.static md_X10_at.1 ∈ tT := tM 1300 (by decide +kernel) rfl
theorem mf_X10_behind : MF md_X10_behind 4 := ⟨by decide, by decide, by decide +kernel, tM 1309 (by decide +kernel) rfl, tM 98 (by decide +kernel) rfl, rfl, rfl⟩
theorem vf_X10_behind : VF md_X10_behind := ⟨tM 1308 (by decide +kernel) rfl, tM 60 (by decide +kernel) rfl⟩
theorem mf_X10_bestOf : MF md_X10_bestOf 2 := ⟨by decide, by decide, by decide +kernel, tM 1333 (by decide +kernel) rfl, tM 98 (by decide +kernel) rfl, rfl, rfl⟩
theorem vf_X10_bestOf : VF md_X10_bestOf := ⟨tM 1332 (by decide +kernel) rfl, tM 64 (by decide +kernel) rfl⟩
theorem mf_X10_bits : MF md_X10_bits 1 := ⟨by decide, by decide, by decide +kernel, tM 1424 (by decide +kernel) rfl, tM 98 (by decide +kernel) rfl, rfl, rfl⟩
theorem vf_X10_bits : Cond.static md_X10_bits.1 ∈ tT := tM 1423 (by decide +kernel) rfl
theorem mf_X10_canAnswer : MF md_X10_canAnswer 2 := ⟨by decide, by decide, by decide +kernel, tM 1472 (by decide +kernel) rfl, tM 98 (by decide +kernel) rfl, rfl, rfl⟩
theorem vf_X10_canAnswer : VF md_X10_canAnswer := ⟨tM 1471 (by decide +kernel) rfl, tM 84 (by decide +kernel) rfl⟩
theorem mf_X10_canStep : MF md_X10_canStep 3 := ⟨by decide, by decide, by decide +kernel, tM 1397 (by decide +kernel) rfl, tM 98 (by decide +kernel) rfl, rfl, rfl⟩
theorem vf_X10_canStep : VF md_X10_canStep := ⟨tM 1396 (by decide +kernel) rfl, tM 71 (by decide +kernel) rfl⟩
theorem mf_X10_costOf : MF md_X10_costOf 3 := ⟨by decide, by decide, by decide +kernel, tM 1421 (by decide +kernel) rfl, tM 98 (by decide +kernel) rfl, rfl, rfl⟩
theorem vf_X10_costOf : VF md_X10_costOf := ⟨tM 1420 (by decide +kernel) rfl, tM 75 (by decide +kernel) rfl⟩
theorem mf_X10_coveredIn : MF md_X10_coveredIn 1 := ⟨by decide, by decide, by decide +kernel, tM 1440 (by decide +kernel) rfl, tM 98 (by decide +kernel) rfl, rfl, rfl⟩
theorem vf_X10_coveredIn : VF md_X10_coveredIn := ⟨tM 1439 (by decide +kernel) rfl, tM 78 (by decide +kernel) rfl⟩
theorem mf_X10_doesTouch : MF md_X10_doesTouch 1 := ⟨by decide, by decide, by decide +kernel, tM 1452 (by decide +kernel) rfl, tM 98 (by decide +kernel) rfl, rfl, rfl⟩
theorem vf_X10_doesTouch : VF md_X10_doesTouch := ⟨tM 1451 (by decide +kernel) rfl, tM 80 (by decide +kernel) rfl⟩
theorem mf_X10_fails : MF md_X10_fails 0 := ⟨by decide, by decide, by decide +kernel, tM 1220 (by decide +kernel) rfl, tM 98 (by decide +kernel) rfl, rfl, rfl⟩
theorem vf_X10_fails : VF md_X10_fails := ⟨tM 1219 (by decide +kernel) rfl, tM 45 (by decide +kernel) rfl⟩
theorem mf_X10_findClear : MF md_X10_findClear 2 := ⟨by decide, by decide, by decide +kernel, tM 1393 (by decide +kernel) rfl, tM 98 (by decide +kernel) rfl, rfl, rfl⟩
theorem vf_X10_findClear : VF md_X10_findClear := ⟨tM 1392 (by decide +kernel) rfl, tM 70 (by decide +kernel) rfl⟩
theorem mf_X10_findFlights : MF md_X10_findFlights 2 := ⟨by decide, by decide, by decide +kernel, tM 1279 (by decide +kernel) rfl, tM 98 (by decide +kernel) rfl, rfl, rfl⟩
theorem vf_X10_findFlights : VF md_X10_findFlights := ⟨tM 1278 (by decide +kernel) rfl, tM 54 (by decide +kernel) rfl⟩
theorem mf_X10_findGoes : MF md_X10_findGoes 0 := ⟨by decide, by decide, by decide +kernel, tM 1464 (by decide +kernel) rfl, tM 98 (by decide +kernel) rfl, rfl, rfl⟩
theorem vf_X10_findGoes : VF md_X10_findGoes := ⟨tM 1463 (by decide +kernel) rfl, tM 82 (by decide +kernel) rfl⟩
theorem mf_X10_findGood : MF md_X10_findGood 3 := ⟨by decide, by decide, by decide +kernel, tM 1305 (by decide +kernel) rfl, tM 98 (by decide +kernel) rfl, rfl, rfl⟩
theorem vf_X10_findGood : VF md_X10_findGood := ⟨tM 1304 (by decide +kernel) rfl, tM 59 (by decide +kernel) rfl⟩
theorem mf_X10_findRest : MF md_X10_findRest 1 := ⟨by decide, by decide, by decide +kernel, tM 1413 (by decide +kernel) rfl, tM 98 (by decide +kernel) rfl, rfl, rfl⟩
theorem vf_X10_findRest : VF md_X10_findRest := ⟨tM 1412 (by decide +kernel) rfl, tM 73 (by decide +kernel) rfl⟩
theorem mf_X10_fleeOf : MF md_X10_fleeOf 4 := ⟨by decide, by decide, by decide +kernel, tM 1357 (by decide +kernel) rfl, tM 98 (by decide +kernel) rfl, rfl, rfl⟩
theorem vf_X10_fleeOf : VF md_X10_fleeOf := ⟨tM 1356 (by decide +kernel) rfl, tM 66 (by decide +kernel) rfl⟩
theorem mf_X10_flight : MF md_X10_flight 3 := ⟨by decide, by decide, by decide +kernel, tM 1298 (by decide +kernel) rfl, tM 98 (by decide +kernel) rfl, rfl, rfl⟩
theorem vf_X10_flight : VF md_X10_flight := ⟨tM 1297 (by decide +kernel) rfl, tM 58 (by decide +kernel) rfl⟩
theorem mf_X10_forget : MF md_X10_forget 0 := ⟨by decide, by decide, by decide +kernel, tM 1232 (by decide +kernel) rfl, tM 98 (by decide +kernel) rfl, rfl, rfl⟩
theorem vf_X10_forget : VF md_X10_forget := ⟨tM 1231 (by decide +kernel) rfl, tM 47 (by decide +kernel) rfl⟩
theorem mf_X10_goOneMore : MF md_X10_goOneMore 1 := ⟨by decide, by decide, by decide +kernel, tM 1468 (by decide +kernel) rfl, tM 98 (by decide +kernel) rfl, rfl, rfl⟩
theorem vf_X10_goOneMore : VF md_X10_goOneMore := ⟨tM 1467 (by decide +kernel) rfl, tM 83 (by decide +kernel) rfl⟩
theorem mf_X10_greater : MF md_X10_greater 2 := ⟨by decide, by decide, by decide +kernel, tM 1428 (by decide +kernel) rfl, tM 98 (by decide +kernel) rfl, rfl, rfl⟩
theorem vf_X10_greater : VF md_X10_greater := ⟨tM 1427 (by decide +kernel) rfl, tM 76 (by decide +kernel) rfl⟩
theorem mf_X10_guard : MF md_X10_guard 0 := ⟨by decide, by decide, by decide +kernel, tM 1460 (by decide +kernel) rfl, tM 98 (by decide +kernel) rfl, rfl, rfl⟩
theorem vf_X10_guard : VF md_X10_guard := ⟨tM 1459 (by decide +kernel) rfl, tM 81 (by decide +kernel) rfl⟩
theorem mf_X10_huntOf : MF md_X10_huntOf 4 := ⟨by decide, by decide, by decide +kernel, tM 1349 (by decide +kernel) rfl, tM 98 (by decide +kernel) rfl, rfl, rfl⟩
theorem vf_X10_huntOf : VF md_X10_huntOf := ⟨tM 1348 (by decide +kernel) rfl, tM 65 (by decide +kernel) rfl⟩
theorem mf_X10_in : MF md_X10_in 3 := ⟨by decide, by decide, by decide +kernel, tM 1186 (by decide +kernel) rfl, tM 98 (by decide +kernel) rfl, rfl, rfl⟩
theorem vf_X10_in : Cond.static md_X10_in.1 ∈ tT := tM 1185 (by decide +kernel) rfl
theorem mf_X10_isCaught : MF md_X10_isCaught 0 := ⟨by decide, by decide, by decide +kernel, tM 1369 (by decide +kernel) rfl, tM 98 (by decide +kernel) rfl, rfl, rfl⟩
theorem vf_X10_isCaught : VF md_X10_isCaught := ⟨tM 1368 (by decide +kernel) rfl, tM 67 (by decide +kernel) rfl⟩
theorem mf_X10_isChase : MF md_X10_isChase 2 := ⟨by decide, by decide, by decide +kernel, tM 1263 (by decide +kernel) rfl, tM 98 (by decide +kernel) rfl, rfl, rfl⟩
theorem vf_X10_isChase : Cond.static md_X10_isChase.1 ∈ tT := tM 1262 (by decide +kernel) rfl
theorem mf_X10_isLine : MF md_X10_isLine 1 := ⟨by decide, by decide, by decide +kernel, tM 1203 (by decide +kernel) rfl, tM 98 (by decide +kernel) rfl, rfl, rfl⟩
theorem vf_X10_isLine : VF md_X10_isLine := ⟨tM 1202 (by decide +kernel) rfl, tM 43 (by decide +kernel) rfl⟩
theorem mf_X10_isNumber : MF md_X10_isNumber 3 := ⟨by decide, by decide, by decide +kernel, tM 1224 (by decide +kernel) rfl, tM 98 (by decide +kernel) rfl, rfl, rfl⟩
theorem vf_X10_isNumber : VF md_X10_isNumber := ⟨tM 1223 (by decide +kernel) rfl, tM 46 (by decide +kernel) rfl⟩
theorem mf_X10_isPlace : MF md_X10_isPlace 1 := ⟨by decide, by decide, by decide +kernel, tM 1240 (by decide +kernel) rfl, tM 98 (by decide +kernel) rfl, rfl, rfl⟩
theorem vf_X10_isPlace : VF md_X10_isPlace := ⟨tM 1239 (by decide +kernel) rfl, tM 48 (by decide +kernel) rfl⟩
theorem mf_X10_isRead : MF md_X10_isRead 0 := ⟨by decide, by decide, by decide +kernel, tM 1199 (by decide +kernel) rfl, tM 98 (by decide +kernel) rfl, rfl, rfl⟩
theorem vf_X10_isRead : VF md_X10_isRead := ⟨tM 1198 (by decide +kernel) rfl, tM 42 (by decide +kernel) rfl⟩
theorem mf_X10_isSet : MF md_X10_isSet 1 := ⟨by decide, by decide, by decide +kernel, tM 1381 (by decide +kernel) rfl, tM 98 (by decide +kernel) rfl, rfl, rfl⟩
theorem vf_X10_isSet : VF md_X10_isSet := ⟨tM 1380 (by decide +kernel) rfl, tM 68 (by decide +kernel) rfl⟩
theorem mf_X10_isSetting : MF md_X10_isSetting 2 := ⟨by decide, by decide, by decide +kernel, tM 1286 (by decide +kernel) rfl, tM 98 (by decide +kernel) rfl, rfl, rfl⟩
theorem vf_X10_isSetting : VF md_X10_isSetting := ⟨tM 1285 (by decide +kernel) rfl, tM 55 (by decide +kernel) rfl⟩
theorem mf_X10_joinBoth : MF md_X10_joinBoth 0 := ⟨by decide, by decide, by decide +kernel, tM 1417 (by decide +kernel) rfl, tM 98 (by decide +kernel) rfl, rfl, rfl⟩
theorem vf_X10_joinBoth : VF md_X10_joinBoth := ⟨tM 1416 (by decide +kernel) rfl, tM 74 (by decide +kernel) rfl⟩
theorem mf_X10_leavable : MF md_X10_leavable 2 := ⟨by decide, by decide, by decide +kernel, tM 1313 (by decide +kernel) rfl, tM 98 (by decide +kernel) rfl, rfl, rfl⟩
theorem vf_X10_leavable : VF md_X10_leavable := ⟨tM 1312 (by decide +kernel) rfl, tM 61 (by decide +kernel) rfl⟩
theorem mf_X10_lengthFound : MF md_X10_lengthFound 0 := ⟨by decide, by decide, by decide +kernel, tM 1401 (by decide +kernel) rfl, tM 98 (by decide +kernel) rfl, rfl, rfl⟩
theorem vf_X10_lengthFound : VF md_X10_lengthFound := ⟨tM 1400 (by decide +kernel) rfl, tM 72 (by decide +kernel) rfl⟩
theorem mf_X10_lesser : MF md_X10_lesser 2 := ⟨by decide, by decide, by decide +kernel, tM 1432 (by decide +kernel) rfl, tM 98 (by decide +kernel) rfl, rfl, rfl⟩
theorem vf_X10_lesser : VF md_X10_lesser := ⟨tM 1431 (by decide +kernel) rfl, tM 77 (by decide +kernel) rfl⟩
theorem mf_X10_moved : MF md_X10_moved 3 := ⟨by decide, by decide, by decide +kernel, tM 1317 (by decide +kernel) rfl, tM 98 (by decide +kernel) rfl, rfl, rfl⟩
theorem vf_X10_moved : VF md_X10_moved := ⟨tM 1316 (by decide +kernel) rfl, tM 62 (by decide +kernel) rfl⟩
theorem mf_X10_nextToken : MF md_X10_nextToken 0 := ⟨by decide, by decide, by decide +kernel, tM 1207 (by decide +kernel) rfl, tM 98 (by decide +kernel) rfl, rfl, rfl⟩
theorem vf_X10_nextToken : VF md_X10_nextToken := ⟨tM 1206 (by decide +kernel) rfl, tM 44 (by decide +kernel) rfl⟩
theorem mf_X10_placesOf : MF md_X10_placesOf 2 := ⟨by decide, by decide, by decide +kernel, tM 1294 (by decide +kernel) rfl, tM 98 (by decide +kernel) rfl, rfl, rfl⟩
theorem vf_X10_placesOf : VF md_X10_placesOf := ⟨tM 1293 (by decide +kernel) rfl, tM 57 (by decide +kernel) rfl⟩
theorem mf_X10_powerOf : MF md_X10_powerOf 1 := ⟨by decide, by decide, by decide +kernel, tM 1282 (by decide +kernel) rfl, tM 98 (by decide +kernel) rfl, rfl, rfl⟩
theorem vf_X10_powerOf : Cond.static md_X10_powerOf.1 ∈ tT := tM 1281 (by decide +kernel) rfl
theorem mf_X10_reckon : MF md_X10_reckon 2 := ⟨by decide, by decide, by decide +kernel, tM 1275 (by decide +kernel) rfl, tM 98 (by decide +kernel) rfl, rfl, rfl⟩
theorem vf_X10_reckon : VF md_X10_reckon := ⟨tM 1274 (by decide +kernel) rfl, tM 53 (by decide +kernel) rfl⟩
theorem mf_X10_settled : MF md_X10_settled 1 := ⟨by decide, by decide, by decide +kernel, tM 1271 (by decide +kernel) rfl, tM 98 (by decide +kernel) rfl, rfl, rfl⟩
theorem vf_X10_settled : VF md_X10_settled := ⟨tM 1270 (by decide +kernel) rfl, tM 52 (by decide +kernel) rfl⟩
theorem mf_X10_spell : MF md_X10_spell 2 := ⟨by decide, by decide, by decide +kernel, tM 1290 (by decide +kernel) rfl, tM 98 (by decide +kernel) rfl, rfl, rfl⟩
theorem vf_X10_spell : VF md_X10_spell := ⟨tM 1289 (by decide +kernel) rfl, tM 56 (by decide +kernel) rfl⟩
theorem mf_X10_spreadOf : MF md_X10_spreadOf 2 := ⟨by decide, by decide, by decide +kernel, tM 1385 (by decide +kernel) rfl, tM 98 (by decide +kernel) rfl, rfl, rfl⟩
theorem vf_X10_spreadOf : VF md_X10_spreadOf := ⟨tM 1384 (by decide +kernel) rfl, tM 69 (by decide +kernel) rfl⟩
theorem mf_X10_stepped : MF md_X10_stepped 1 := ⟨by decide, by decide, by decide +kernel, tM 1256 (by decide +kernel) rfl, tM 98 (by decide +kernel) rfl, rfl, rfl⟩
theorem vf_X10_stepped : VF md_X10_stepped := ⟨tM 1255 (by decide +kernel) rfl, tM 50 (by decide +kernel) rfl⟩
theorem mf_X10_stepsBoth : MF md_X10_stepsBoth 1 := ⟨by decide, by decide, by decide +kernel, tM 1444 (by decide +kernel) rfl, tM 98 (by decide +kernel) rfl, rfl, rfl⟩
theorem vf_X10_stepsBoth : VF md_X10_stepsBoth := ⟨tM 1443 (by decide +kernel) rfl, tM 79 (by decide +kernel) rfl⟩
theorem mf_X10_stepsFrom : MF md_X10_stepsFrom 1 := ⟨by decide, by decide, by decide +kernel, tM 1480 (by decide +kernel) rfl, tM 98 (by decide +kernel) rfl, rfl, rfl⟩
theorem vf_X10_stepsFrom : VF md_X10_stepsFrom := ⟨tM 1479 (by decide +kernel) rfl, tM 86 (by decide +kernel) rfl⟩
theorem mf_X10_stepsOf : MF md_X10_stepsOf 1 := ⟨by decide, by decide, by decide +kernel, tM 1248 (by decide +kernel) rfl, tM 98 (by decide +kernel) rfl, rfl, rfl⟩
theorem vf_X10_stepsOf : VF md_X10_stepsOf := ⟨tM 1247 (by decide +kernel) rfl, tM 49 (by decide +kernel) rfl⟩
theorem mf_X10_told : MF md_X10_told 2 := ⟨by decide, by decide, by decide +kernel, tM 1267 (by decide +kernel) rfl, tM 98 (by decide +kernel) rfl, rfl, rfl⟩
theorem vf_X10_told : VF md_X10_told := ⟨tM 1266 (by decide +kernel) rfl, tM 51 (by decide +kernel) rfl⟩
theorem mf_X10_worthOf : MF md_X10_worthOf 3 := ⟨by decide, by decide, by decide +kernel, tM 1325 (by decide +kernel) rfl, tM 98 (by decide +kernel) rfl, rfl, rfl⟩
theorem vf_X10_worthOf : VF md_X10_worthOf := ⟨tM 1324 (by decide +kernel) rfl, tM 63 (by decide +kernel) rfl⟩
theorem mf_X1_isCovered : MF md_X1_isCovered 2 := ⟨by decide, by decide, by decide +kernel, tM 929 (by decide +kernel) rfl, tM 96 (by decide +kernel) rfl, rfl, rfl⟩
theorem vf_X1_isCovered : VF md_X1_isCovered := ⟨tM 928 (by decide +kernel) rfl, tM 31 (by decide +kernel) rfl⟩
theorem mf_X1_leastCovered : MF md_X1_leastCovered 1 := ⟨by decide, by decide, by decide +kernel, tM 923 (by decide +kernel) rfl, tM 96 (by decide +kernel) rfl, rfl, rfl⟩
theorem vf_X1_leastCovered : VF md_X1_leastCovered := ⟨tM 922 (by decide +kernel) rfl, tM 30 (by decide +kernel) rfl⟩
theorem mf_X1_leastSet : MF md_X1_leastSet 1 := ⟨by decide, by decide, by decide +kernel, tM 942 (by decide +kernel) rfl, tM 96 (by decide +kernel) rfl, rfl, rfl⟩
theorem vf_X1_leastSet : VF md_X1_leastSet := ⟨tM 940 (by decide +kernel) rfl, tM 941 (by decide +kernel) rfl⟩
theorem mf_X1_takenAway : MF md_X1_takenAway 1 := ⟨by decide, by decide, by decide +kernel, tM 918 (by decide +kernel) rfl, tM 96 (by decide +kernel) rfl, rfl, rfl⟩
theorem vf_X1_takenAway : VF md_X1_takenAway := ⟨tM 916 (by decide +kernel) rfl, tM 917 (by decide +kernel) rfl⟩
theorem mf_X1_touchesAll : MF md_X1_touchesAll 1 := ⟨by decide, by decide, by decide +kernel, tM 947 (by decide +kernel) rfl, tM 96 (by decide +kernel) rfl, rfl, rfl⟩
theorem vf_X1_touchesAll : VF md_X1_touchesAll := ⟨tM 946 (by decide +kernel) rfl, tM 32 (by decide +kernel) rfl⟩
theorem mf_X2_addPlace : MF md_X2_addPlace 3 := ⟨by decide, by decide, by decide +kernel, tM 987 (by decide +kernel) rfl, tM 97 (by decide +kernel) rfl, rfl, rfl⟩
theorem vf_X2_addPlace : VF md_X2_addPlace := ⟨tM 986 (by decide +kernel) rfl, tM 37 (by decide +kernel) rfl⟩
theorem mf_X2_answersAll : MF md_X2_answersAll 1 := ⟨by decide, by decide, by decide +kernel, tM 1005 (by decide +kernel) rfl, tM 97 (by decide +kernel) rfl, rfl, rfl⟩
theorem vf_X2_answersAll : VF md_X2_answersAll := ⟨tM 1004 (by decide +kernel) rfl, tM 40 (by decide +kernel) rfl⟩
theorem mf_X2_answersIn : MF md_X2_answersIn 3 := ⟨by decide, by decide, by decide +kernel, tM 1009 (by decide +kernel) rfl, tM 97 (by decide +kernel) rfl, rfl, rfl⟩
theorem vf_X2_answersIn : VF md_X2_answersIn := ⟨tM 1008 (by decide +kernel) rfl, tM 41 (by decide +kernel) rfl⟩
theorem mf_X2_countSets : MF md_X2_countSets 1 := ⟨by decide, by decide, by decide +kernel, tM 1023 (by decide +kernel) rfl, tM 97 (by decide +kernel) rfl, rfl, rfl⟩
theorem vf_X2_countSets : VF md_X2_countSets := ⟨tM 1021 (by decide +kernel) rfl, tM 1022 (by decide +kernel) rfl⟩
theorem mf_X2_dropUnsafe : MF md_X2_dropUnsafe 0 := ⟨by decide, by decide, by decide +kernel, tM 997 (by decide +kernel) rfl, tM 97 (by decide +kernel) rfl, rfl, rfl⟩
theorem vf_X2_dropUnsafe : VF md_X2_dropUnsafe := ⟨tM 996 (by decide +kernel) rfl, tM 38 (by decide +kernel) rfl⟩
theorem mf_X2_having : MF md_X2_having 2 := ⟨by decide, by decide, by decide +kernel, tM 990 (by decide +kernel) rfl, tM 97 (by decide +kernel) rfl, rfl, rfl⟩
theorem vf_X2_having : Cond.static md_X2_having.1 ∈ tT := tM 989 (by decide +kernel) rfl
theorem mf_X2_holdsOut : MF md_X2_holdsOut 1 := ⟨by decide, by decide, by decide +kernel, tM 960 (by decide +kernel) rfl, tM 97 (by decide +kernel) rfl, rfl, rfl⟩
theorem vf_X2_holdsOut : VF md_X2_holdsOut := ⟨tM 958 (by decide +kernel) rfl, tM 959 (by decide +kernel) rfl⟩
theorem mf_X2_isSafe : MF md_X2_isSafe 1 := ⟨by decide, by decide, by decide +kernel, tM 1001 (by decide +kernel) rfl, tM 97 (by decide +kernel) rfl, rfl, rfl⟩
theorem vf_X2_isSafe : VF md_X2_isSafe := ⟨tM 1000 (by decide +kernel) rfl, tM 39 (by decide +kernel) rfl⟩
theorem mf_X2_leastAnswer : MF md_X2_leastAnswer 2 := ⟨by decide, by decide, by decide +kernel, tM 1031 (by decide +kernel) rfl, tM 97 (by decide +kernel) rfl, rfl, rfl⟩
theorem vf_X2_leastAnswer : VF md_X2_leastAnswer := ⟨tM 1029 (by decide +kernel) rfl, tM 1030 (by decide +kernel) rfl⟩
theorem mf_X2_leastSet : MF md_X2_leastSet 0 := ⟨by decide, by decide, by decide +kernel, tM 1017 (by decide +kernel) rfl, tM 97 (by decide +kernel) rfl, rfl, rfl⟩
theorem vf_X2_leastSet : VF md_X2_leastSet := ⟨tM 1015 (by decide +kernel) rfl, tM 1016 (by decide +kernel) rfl⟩
theorem mf_X2_moveAlone : MF md_X2_moveAlone 0 := ⟨by decide, by decide, by decide +kernel, tM 972 (by decide +kernel) rfl, tM 97 (by decide +kernel) rfl, rfl, rfl⟩
theorem vf_X2_moveAlone : VF md_X2_moveAlone := ⟨tM 971 (by decide +kernel) rfl, tM 35 (by decide +kernel) rfl⟩
theorem mf_X2_moveTogether : MF md_X2_moveTogether 0 := ⟨by decide, by decide, by decide +kernel, tM 983 (by decide +kernel) rfl, tM 97 (by decide +kernel) rfl, rfl, rfl⟩
theorem vf_X2_moveTogether : VF md_X2_moveTogether := ⟨tM 982 (by decide +kernel) rfl, tM 36 (by decide +kernel) rfl⟩
theorem mf_X2_put : MF md_X2_put 3 := ⟨by decide, by decide, by decide +kernel, tM 979 (by decide +kernel) rfl, tM 97 (by decide +kernel) rfl, rfl, rfl⟩
theorem vf_X2_put : Cond.static md_X2_put.1 ∈ tT := tM 978 (by decide +kernel) rfl
theorem mf_X2_solve : MF md_X2_solve 0 := ⟨by decide, by decide, by decide +kernel, tM 964 (by decide +kernel) rfl, tM 97 (by decide +kernel) rfl, rfl, rfl⟩
theorem vf_X2_solve : VF md_X2_solve := ⟨tM 963 (by decide +kernel) rfl, tM 34 (by decide +kernel) rfl⟩
theorem mf_X3_aheadOf : MF md_X3_aheadOf 1 := ⟨by decide, by decide, by decide +kernel, tM 561 (by decide +kernel) rfl, tM 89 (by decide +kernel) rfl, rfl, rfl⟩
theorem vf_X3_aheadOf : VF md_X3_aheadOf := ⟨tM 559 (by decide +kernel) rfl, tM 560 (by decide +kernel) rfl⟩
theorem mf_X3_all : MF md_X3_all 0 := ⟨by decide, by decide, by decide +kernel, tM 626 (by decide +kernel) rfl, tM 89 (by decide +kernel) rfl, rfl, rfl⟩
theorem vf_X3_all : VF md_X3_all := ⟨tM 624 (by decide +kernel) rfl, tM 625 (by decide +kernel) rfl⟩
theorem mf_X3_around : MF md_X3_around 1 := ⟨by decide, by decide, by decide +kernel, tM 895 (by decide +kernel) rfl, tM 89 (by decide +kernel) rfl, rfl, rfl⟩
theorem vf_X3_around : VF md_X3_around := ⟨tM 893 (by decide +kernel) rfl, tM 894 (by decide +kernel) rfl⟩
theorem mf_X3_behindOf : MF md_X3_behindOf 1 := ⟨by decide, by decide, by decide +kernel, tM 631 (by decide +kernel) rfl, tM 89 (by decide +kernel) rfl, rfl, rfl⟩
theorem vf_X3_behindOf : VF md_X3_behindOf := ⟨tM 629 (by decide +kernel) rfl, tM 630 (by decide +kernel) rfl⟩
theorem mf_X3_bothWays : MF md_X3_bothWays 1 := ⟨by decide, by decide, by decide +kernel, tM 933 (by decide +kernel) rfl, tM 89 (by decide +kernel) rfl, rfl, rfl⟩
theorem vf_X3_bothWays : VF md_X3_bothWays := ⟨tM 931 (by decide +kernel) rfl, tM 932 (by decide +kernel) rfl⟩
theorem mf_X3_changes : MF md_X3_changes 0 := ⟨by decide, by decide, by decide +kernel, tM 597 (by decide +kernel) rfl, tM 89 (by decide +kernel) rfl, rfl, rfl⟩
theorem vf_X3_changes : VF md_X3_changes := ⟨tM 595 (by decide +kernel) rfl, tM 596 (by decide +kernel) rfl⟩
theorem mf_X3_distance : MF md_X3_distance 2 := ⟨by decide, by decide, by decide +kernel, tM 556 (by decide +kernel) rfl, tM 89 (by decide +kernel) rfl, rfl, rfl⟩
theorem vf_X3_distance : VF md_X3_distance := ⟨tM 554 (by decide +kernel) rfl, tM 555 (by decide +kernel) rfl⟩
theorem mf_X3_holdsAll : MF md_X3_holdsAll 1 := ⟨by decide, by decide, by decide +kernel, tM 809 (by decide +kernel) rfl, tM 89 (by decide +kernel) rfl, rfl, rfl⟩
theorem vf_X3_holdsAll : VF md_X3_holdsAll := ⟨tM 807 (by decide +kernel) rfl, tM 808 (by decide +kernel) rfl⟩
theorem mf_X3_known : MF md_X3_known 1 := ⟨by decide, by decide, by decide +kernel, tM 525 (by decide +kernel) rfl, tM 89 (by decide +kernel) rfl, rfl, rfl⟩
theorem vf_X3_known : VF md_X3_known := ⟨tM 523 (by decide +kernel) rfl, tM 524 (by decide +kernel) rfl⟩
theorem mf_X3_leftBehind : MF md_X3_leftBehind 2 := ⟨by decide, by decide, by decide +kernel, tM 815 (by decide +kernel) rfl, tM 89 (by decide +kernel) rfl, rfl, rfl⟩
theorem vf_X3_leftBehind : VF md_X3_leftBehind := ⟨tM 813 (by decide +kernel) rfl, tM 814 (by decide +kernel) rfl⟩
theorem mf_X3_outOf : MF md_X3_outOf 1 := ⟨by decide, by decide, by decide +kernel, tM 541 (by decide +kernel) rfl, tM 89 (by decide +kernel) rfl, rfl, rfl⟩
theorem vf_X3_outOf : VF md_X3_outOf := ⟨tM 539 (by decide +kernel) rfl, tM 540 (by decide +kernel) rfl⟩
theorem mf_X3_pairs : MF md_X3_pairs 0 := ⟨by decide, by decide, by decide +kernel, tM 1045 (by decide +kernel) rfl, tM 89 (by decide +kernel) rfl, rfl, rfl⟩
theorem vf_X3_pairs : VF md_X3_pairs := ⟨tM 1043 (by decide +kernel) rfl, tM 1044 (by decide +kernel) rfl⟩
theorem mf_X3_places : MF md_X3_places 0 := ⟨by decide, by decide, by decide +kernel, tM 421 (by decide +kernel) rfl, tM 89 (by decide +kernel) rfl, rfl, rfl⟩
theorem vf_X3_places : VF md_X3_places := ⟨tM 419 (by decide +kernel) rfl, tM 420 (by decide +kernel) rfl⟩
theorem mf_X3_reset : MF md_X3_reset 1 := ⟨by decide, by decide, by decide +kernel, tM 125 (by decide +kernel) rfl, tM 89 (by decide +kernel) rfl, rfl, rfl⟩
theorem vf_X3_reset : VF md_X3_reset := ⟨tM 123 (by decide +kernel) rfl, tM 124 (by decide +kernel) rfl⟩
theorem mf_X3_set : MF md_X3_set 3 := ⟨by decide, by decide, by decide +kernel, tM 521 (by decide +kernel) rfl, tM 89 (by decide +kernel) rfl, rfl, rfl⟩
theorem vf_X3_set : VF md_X3_set := ⟨tM 519 (by decide +kernel) rfl, tM 520 (by decide +kernel) rfl⟩
theorem mf_X3_settle : MF md_X3_settle 0 := ⟨by decide, by decide, by decide +kernel, tM 129 (by decide +kernel) rfl, tM 89 (by decide +kernel) rfl, rfl, rfl⟩
theorem vf_X3_settle : VF md_X3_settle := ⟨tM 127 (by decide +kernel) rfl, tM 128 (by decide +kernel) rfl⟩
theorem mf_X4_border : MF md_X4_border 1 := ⟨by decide, by decide, by decide +kernel, tM 900 (by decide +kernel) rfl, tM 95 (by decide +kernel) rfl, rfl, rfl⟩
theorem vf_X4_border : VF md_X4_border := ⟨tM 899 (by decide +kernel) rfl, tM 28 (by decide +kernel) rfl⟩
theorem mf_X4_choose : MF md_X4_choose 0 := ⟨by decide, by decide, by decide +kernel, tM 905 (by decide +kernel) rfl, tM 95 (by decide +kernel) rfl, rfl, rfl⟩
theorem vf_X4_choose : VF md_X4_choose := ⟨tM 904 (by decide +kernel) rfl, tM 29 (by decide +kernel) rfl⟩
theorem mf_X4_hunters : MF md_X4_hunters 0 := ⟨by decide, by decide, by decide +kernel, tM 874 (by decide +kernel) rfl, tM 95 (by decide +kernel) rfl, rfl, rfl⟩
theorem vf_X4_hunters : VF md_X4_hunters := ⟨tM 872 (by decide +kernel) rfl, tM 873 (by decide +kernel) rfl⟩
theorem mf_X4_most : MF md_X4_most 2 := ⟨by decide, by decide, by decide +kernel, tM 887 (by decide +kernel) rfl, tM 95 (by decide +kernel) rfl, rfl, rfl⟩
theorem vf_X4_most : VF md_X4_most := ⟨tM 886 (by decide +kernel) rfl, tM 26 (by decide +kernel) rfl⟩
theorem mf_X4_neighbours : MF md_X4_neighbours 2 := ⟨by decide, by decide, by decide +kernel, tM 891 (by decide +kernel) rfl, tM 95 (by decide +kernel) rfl, rfl, rfl⟩
theorem vf_X4_neighbours : VF md_X4_neighbours := ⟨tM 890 (by decide +kernel) rfl, tM 27 (by decide +kernel) rfl⟩
theorem mf_X4_placeAt : MF md_X4_placeAt 1 := ⟨by decide, by decide, by decide +kernel, tM 909 (by decide +kernel) rfl, tM 95 (by decide +kernel) rfl, rfl, rfl⟩
theorem vf_X4_placeAt : VF md_X4_placeAt := ⟨tM 907 (by decide +kernel) rfl, tM 908 (by decide +kernel) rfl⟩
theorem mf_X4_solve : MF md_X4_solve 0 := ⟨by decide, by decide, by decide +kernel, tM 878 (by decide +kernel) rfl, tM 95 (by decide +kernel) rfl, rfl, rfl⟩
theorem vf_X4_solve : VF md_X4_solve := ⟨tM 877 (by decide +kernel) rfl, tM 25 (by decide +kernel) rfl⟩
theorem mf_X5_begin : MF md_X5_begin 4 := ⟨by decide, by decide, by decide +kernel, tM 751 (by decide +kernel) rfl, tM 93 (by decide +kernel) rfl, rfl, rfl⟩
theorem vf_X5_begin : VF md_X5_begin := ⟨tM 749 (by decide +kernel) rfl, tM 750 (by decide +kernel) rfl⟩
theorem mf_X5_end : MF md_X5_end 0 := ⟨by decide, by decide, by decide +kernel, tM 530 (by decide +kernel) rfl, tM 93 (by decide +kernel) rfl, rfl, rfl⟩
theorem vf_X5_end : VF md_X5_end := ⟨tM 528 (by decide +kernel) rfl, tM 529 (by decide +kernel) rfl⟩
theorem mf_X5_go : MF md_X5_go 2 := ⟨by decide, by decide, by decide +kernel, tM 793 (by decide +kernel) rfl, tM 93 (by decide +kernel) rfl, rfl, rfl⟩
theorem vf_X5_go : VF md_X5_go := ⟨tM 791 (by decide +kernel) rfl, tM 792 (by decide +kernel) rfl⟩
theorem mf_X5_gone : MF md_X5_gone 0 := ⟨by decide, by decide, by decide +kernel, tM 801 (by decide +kernel) rfl, tM 93 (by decide +kernel) rfl, rfl, rfl⟩
theorem vf_X5_gone : VF md_X5_gone := ⟨tM 799 (by decide +kernel) rfl, tM 800 (by decide +kernel) rfl⟩
theorem mf_X5_hunters : MF md_X5_hunters 0 := ⟨by decide, by decide, by decide +kernel, tM 767 (by decide +kernel) rfl, tM 93 (by decide +kernel) rfl, rfl, rfl⟩
theorem vf_X5_hunters : VF md_X5_hunters := ⟨tM 765 (by decide +kernel) rfl, tM 766 (by decide +kernel) rfl⟩
theorem mf_X5_isOn : MF md_X5_isOn 0 := ⟨by decide, by decide, by decide +kernel, tM 759 (by decide +kernel) rfl, tM 93 (by decide +kernel) rfl, rfl, rfl⟩
theorem vf_X5_isOn : VF md_X5_isOn := ⟨tM 757 (by decide +kernel) rfl, tM 758 (by decide +kernel) rfl⟩
theorem mf_X5_place : MF md_X5_place 0 := ⟨by decide, by decide, by decide +kernel, tM 775 (by decide +kernel) rfl, tM 93 (by decide +kernel) rfl, rfl, rfl⟩
theorem vf_X5_place : VF md_X5_place := ⟨tM 773 (by decide +kernel) rfl, tM 774 (by decide +kernel) rfl⟩
theorem mf_X5_setting : MF md_X5_setting 0 := ⟨by decide, by decide, by decide +kernel, tM 771 (by decide +kernel) rfl, tM 93 (by decide +kernel) rfl, rfl, rfl⟩
theorem vf_X5_setting : VF md_X5_setting := ⟨tM 769 (by decide +kernel) rfl, tM 770 (by decide +kernel) rfl⟩
theorem mf_X5_speed : MF md_X5_speed 0 := ⟨by decide, by decide, by decide +kernel, tM 783 (by decide +kernel) rfl, tM 93 (by decide +kernel) rfl, rfl, rfl⟩
theorem vf_X5_speed : VF md_X5_speed := ⟨tM 781 (by decide +kernel) rfl, tM 782 (by decide +kernel) rfl⟩
theorem mf_X6_canStep : MF md_X6_canStep 2 := ⟨by decide, by decide, by decide +kernel, tM 727 (by decide +kernel) rfl, tM 91 (by decide +kernel) rfl, rfl, rfl⟩
theorem vf_X6_canStep : VF md_X6_canStep := ⟨tM 725 (by decide +kernel) rfl, tM 726 (by decide +kernel) rfl⟩
theorem mf_X6_figure : MF md_X6_figure 2 := ⟨by decide, by decide, by decide +kernel, tM 196 (by decide +kernel) rfl, tM 91 (by decide +kernel) rfl, rfl, rfl⟩
theorem vf_X6_figure : VF md_X6_figure := ⟨tM 194 (by decide +kernel) rfl, tM 195 (by decide +kernel) rfl⟩
theorem mf_X6_holds : MF md_X6_holds 2 := ⟨by decide, by decide, by decide +kernel, tM 716 (by decide +kernel) rfl, tM 91 (by decide +kernel) rfl, rfl, rfl⟩
theorem vf_X6_holds : VF md_X6_holds := ⟨tM 714 (by decide +kernel) rfl, tM 715 (by decide +kernel) rfl⟩
theorem mf_X6_hunters : MF md_X6_hunters 0 := ⟨by decide, by decide, by decide +kernel, tM 613 (by decide +kernel) rfl, tM 91 (by decide +kernel) rfl, rfl, rfl⟩
theorem vf_X6_hunters : VF md_X6_hunters := ⟨tM 611 (by decide +kernel) rfl, tM 612 (by decide +kernel) rfl⟩
theorem mf_X6_isRow : MF md_X6_isRow 1 := ⟨by decide, by decide, by decide +kernel, tM 622 (by decide +kernel) rfl, tM 91 (by decide +kernel) rfl, rfl, rfl⟩
theorem vf_X6_isRow : VF md_X6_isRow := ⟨tM 620 (by decide +kernel) rfl, tM 621 (by decide +kernel) rfl⟩
theorem mf_X6_isSetting : MF md_X6_isSetting 1 := ⟨by decide, by decide, by decide +kernel, tM 683 (by decide +kernel) rfl, tM 91 (by decide +kernel) rfl, rfl, rfl⟩
theorem vf_X6_isSetting : VF md_X6_isSetting := ⟨tM 681 (by decide +kernel) rfl, tM 682 (by decide +kernel) rfl⟩
theorem mf_X6_placesOf : MF md_X6_placesOf 1 := ⟨by decide, by decide, by decide +kernel, tM 609 (by decide +kernel) rfl, tM 91 (by decide +kernel) rfl, rfl, rfl⟩
theorem vf_X6_placesOf : VF md_X6_placesOf := ⟨tM 607 (by decide +kernel) rfl, tM 608 (by decide +kernel) rfl⟩
theorem mf_X6_rising : MF md_X6_rising 1 := ⟨by decide, by decide, by decide +kernel, tM 688 (by decide +kernel) rfl, tM 91 (by decide +kernel) rfl, rfl, rfl⟩
theorem vf_X6_rising : VF md_X6_rising := ⟨tM 686 (by decide +kernel) rfl, tM 687 (by decide +kernel) rfl⟩
theorem mf_X6_size : MF md_X6_size 0 := ⟨by decide, by decide, by decide +kernel, tM 218 (by decide +kernel) rfl, tM 91 (by decide +kernel) rfl, rfl, rfl⟩
theorem vf_X6_size : VF md_X6_size := ⟨tM 216 (by decide +kernel) rfl, tM 217 (by decide +kernel) rfl⟩
theorem mf_X6_told : MF md_X6_told 1 := ⟨by decide, by decide, by decide +kernel, tM 584 (by decide +kernel) rfl, tM 91 (by decide +kernel) rfl, rfl, rfl⟩
theorem vf_X6_told : VF md_X6_told := ⟨tM 582 (by decide +kernel) rfl, tM 583 (by decide +kernel) rfl⟩
theorem mf_X7_append : MF md_X7_append 2 := ⟨by decide, by decide, by decide +kernel, tM 400 (by decide +kernel) rfl, tM 90 (by decide +kernel) rfl, rfl, rfl⟩
theorem vf_X7_append : VF md_X7_append := ⟨tM 398 (by decide +kernel) rfl, tM 399 (by decide +kernel) rfl⟩
theorem mf_X7_byteAt : MF md_X7_byteAt 1 := ⟨by decide, by decide, by decide +kernel, tM 437 (by decide +kernel) rfl, tM 90 (by decide +kernel) rfl, rfl, rfl⟩
theorem vf_X7_byteAt : VF md_X7_byteAt := ⟨tM 436 (by decide +kernel) rfl, tM 2 (by decide +kernel) rfl⟩
theorem mf_X7_drop : MF md_X7_drop 0 := ⟨by decide, by decide, by decide +kernel, tM 413 (by decide +kernel) rfl, tM 90 (by decide +kernel) rfl, rfl, rfl⟩
theorem vf_X7_drop : VF md_X7_drop := ⟨tM 411 (by decide +kernel) rfl, tM 412 (by decide +kernel) rfl⟩
theorem mf_X7_isWord : MF md_X7_isWord 1 := ⟨by decide, by decide, by decide +kernel, tM 453 (by decide +kernel) rfl, tM 90 (by decide +kernel) rfl, rfl, rfl⟩
theorem vf_X7_isWord : VF md_X7_isWord := ⟨tM 452 (by decide +kernel) rfl, tM 5 (by decide +kernel) rfl⟩
theorem mf_X7_kindAt : MF md_X7_kindAt 1 := ⟨by decide, by decide, by decide +kernel, tM 444 (by decide +kernel) rfl, tM 90 (by decide +kernel) rfl, rfl, rfl⟩
theorem vf_X7_kindAt : VF md_X7_kindAt := ⟨tM 443 (by decide +kernel) rfl, tM 3 (by decide +kernel) rfl⟩
theorem mf_X7_layOn : MF md_X7_layOn 1 := ⟨by decide, by decide, by decide +kernel, tM 516 (by decide +kernel) rfl, tM 90 (by decide +kernel) rfl, rfl, rfl⟩
theorem vf_X7_layOn : VF md_X7_layOn := ⟨tM 514 (by decide +kernel) rfl, tM 515 (by decide +kernel) rfl⟩
theorem mf_X7_length : MF md_X7_length 0 := ⟨by decide, by decide, by decide +kernel, tM 405 (by decide +kernel) rfl, tM 90 (by decide +kernel) rfl, rfl, rfl⟩
theorem vf_X7_length : VF md_X7_length := ⟨tM 403 (by decide +kernel) rfl, tM 404 (by decide +kernel) rfl⟩
theorem mf_X7_lineKind : MF md_X7_lineKind 0 := ⟨by decide, by decide, by decide +kernel, tM 448 (by decide +kernel) rfl, tM 90 (by decide +kernel) rfl, rfl, rfl⟩
theorem vf_X7_lineKind : VF md_X7_lineKind := ⟨tM 447 (by decide +kernel) rfl, tM 4 (by decide +kernel) rfl⟩
theorem mf_X7_nextToken : MF md_X7_nextToken 0 := ⟨by decide, by decide, by decide +kernel, tM 433 (by decide +kernel) rfl, tM 90 (by decide +kernel) rfl, rfl, rfl⟩
theorem vf_X7_nextToken : VF md_X7_nextToken := ⟨tM 432 (by decide +kernel) rfl, tM 1 (by decide +kernel) rfl⟩
theorem mf_X7_number : MF md_X7_number 0 := ⟨by decide, by decide, by decide +kernel, tM 507 (by decide +kernel) rfl, tM 90 (by decide +kernel) rfl, rfl, rfl⟩
theorem vf_X7_number : VF md_X7_number := ⟨tM 506 (by decide +kernel) rfl, tM 6 (by decide +kernel) rfl⟩
theorem mf_X7_read : MF md_X7_read 1 := ⟨by decide, by decide, by decide +kernel, tM 425 (by decide +kernel) rfl, tM 90 (by decide +kernel) rfl, rfl, rfl⟩
theorem vf_X7_read : VF md_X7_read := ⟨tM 423 (by decide +kernel) rfl, tM 424 (by decide +kernel) rfl⟩
theorem mf_X7_readLine : MF md_X7_readLine 1 := ⟨by decide, by decide, by decide +kernel, tM 429 (by decide +kernel) rfl, tM 90 (by decide +kernel) rfl, rfl, rfl⟩
theorem vf_X7_readLine : VF md_X7_readLine := ⟨tM 428 (by decide +kernel) rfl, tM 0 (by decide +kernel) rfl⟩
theorem mf_X8_depthOf : MF md_X8_depthOf 1 := ⟨by decide, by decide, by decide +kernel, tM 850 (by decide +kernel) rfl, tM 94 (by decide +kernel) rfl, rfl, rfl⟩
theorem vf_X8_depthOf : VF md_X8_depthOf := ⟨tM 849 (by decide +kernel) rfl, tM 23 (by decide +kernel) rfl⟩
theorem mf_X8_expand : MF md_X8_expand 1 := ⟨by decide, by decide, by decide +kernel, tM 838 (by decide +kernel) rfl, tM 94 (by decide +kernel) rfl, rfl, rfl⟩
theorem vf_X8_expand : VF md_X8_expand := ⟨tM 837 (by decide +kernel) rfl, tM 21 (by decide +kernel) rfl⟩
theorem mf_X8_length : MF md_X8_length 0 := ⟨by decide, by decide, by decide +kernel, tM 858 (by decide +kernel) rfl, tM 94 (by decide +kernel) rfl, rfl, rfl⟩
theorem vf_X8_length : VF md_X8_length := ⟨tM 856 (by decide +kernel) rfl, tM 857 (by decide +kernel) rfl⟩
theorem mf_X8_meet : MF md_X8_meet 3 := ⟨by decide, by decide, by decide +kernel, tM 833 (by decide +kernel) rfl, tM 94 (by decide +kernel) rfl, rfl, rfl⟩
theorem vf_X8_meet : VF md_X8_meet := ⟨tM 832 (by decide +kernel) rfl, tM 20 (by decide +kernel) rfl⟩
theorem mf_X8_parentOf : MF md_X8_parentOf 1 := ⟨by decide, by decide, by decide +kernel, tM 854 (by decide +kernel) rfl, tM 94 (by decide +kernel) rfl, rfl, rfl⟩
theorem vf_X8_parentOf : VF md_X8_parentOf := ⟨tM 853 (by decide +kernel) rfl, tM 24 (by decide +kernel) rfl⟩
theorem mf_X8_search : MF md_X8_search 2 := ⟨by decide, by decide, by decide +kernel, tM 823 (by decide +kernel) rfl, tM 94 (by decide +kernel) rfl, rfl, rfl⟩
theorem vf_X8_search : VF md_X8_search := ⟨tM 821 (by decide +kernel) rfl, tM 822 (by decide +kernel) rfl⟩
theorem mf_X8_settingAt : MF md_X8_settingAt 1 := ⟨by decide, by decide, by decide +kernel, tM 862 (by decide +kernel) rfl, tM 94 (by decide +kernel) rfl, rfl, rfl⟩
theorem vf_X8_settingAt : VF md_X8_settingAt := ⟨tM 860 (by decide +kernel) rfl, tM 861 (by decide +kernel) rfl⟩
theorem mf_X8_step : MF md_X8_step 2 := ⟨by decide, by decide, by decide +kernel, tM 845 (by decide +kernel) rfl, tM 94 (by decide +kernel) rfl, rfl, rfl⟩
theorem vf_X8_step : VF md_X8_step := ⟨tM 844 (by decide +kernel) rfl, tM 22 (by decide +kernel) rfl⟩
theorem mf_X9_chase : MF md_X9_chase 2 := ⟨by decide, by decide, by decide +kernel, tM 589 (by decide +kernel) rfl, tM 88 (by decide +kernel) rfl, rfl, rfl⟩
theorem vf_X9_chase : VF md_X9_chase := ⟨tM 588 (by decide +kernel) rfl, tM 9 (by decide +kernel) rfl⟩
theorem mf_X9_has : MF md_X9_has 2 := ⟨by decide, by decide, by decide +kernel, tM 544 (by decide +kernel) rfl, tM 88 (by decide +kernel) rfl, rfl, rfl⟩
theorem vf_X9_has : Cond.static md_X9_has.1 ∈ tT := tM 543 (by decide +kernel) rfl
theorem mf_X9_isCaught : MF md_X9_isCaught 0 := ⟨by decide, by decide, by decide +kernel, tM 763 (by decide +kernel) rfl, tM 88 (by decide +kernel) rfl, rfl, rfl⟩
theorem vf_X9_isCaught : VF md_X9_isCaught := ⟨tM 762 (by decide +kernel) rfl, tM 17 (by decide +kernel) rfl⟩
theorem mf_X9_isChase : MF md_X9_isChase 2 := ⟨by decide, by decide, by decide +kernel, tM 572 (by decide +kernel) rfl, tM 88 (by decide +kernel) rfl, rfl, rfl⟩
theorem vf_X9_isChase : Cond.static md_X9_isChase.1 ∈ tT := tM 571 (by decide +kernel) rfl
theorem mf_X9_isWatch : MF md_X9_isWatch 2 := ⟨by decide, by decide, by decide +kernel, tM 956 (by decide +kernel) rfl, tM 88 (by decide +kernel) rfl, rfl, rfl⟩
theorem vf_X9_isWatch : VF md_X9_isWatch := ⟨tM 955 (by decide +kernel) rfl, tM 33 (by decide +kernel) rfl⟩
theorem mf_X9_placeBehind : MF md_X9_placeBehind 2 := ⟨by decide, by decide, by decide +kernel, tM 788 (by decide +kernel) rfl, tM 88 (by decide +kernel) rfl, rfl, rfl⟩
theorem vf_X9_placeBehind : VF md_X9_placeBehind := ⟨tM 787 (by decide +kernel) rfl, tM 19 (by decide +kernel) rfl⟩
theorem mf_X9_refuseStand : MF md_X9_refuseStand 4 := ⟨by decide, by decide, by decide +kernel, tM 569 (by decide +kernel) rfl, tM 88 (by decide +kernel) rfl, rfl, rfl⟩
theorem vf_X9_refuseStand : VF md_X9_refuseStand := ⟨tM 568 (by decide +kernel) rfl, tM 7 (by decide +kernel) rfl⟩
theorem mf_X9_settingBehind : MF md_X9_settingBehind 1 := ⟨by decide, by decide, by decide +kernel, tM 779 (by decide +kernel) rfl, tM 88 (by decide +kernel) rfl, rfl, rfl⟩
theorem vf_X9_settingBehind : VF md_X9_settingBehind := ⟨tM 778 (by decide +kernel) rfl, tM 18 (by decide +kernel) rfl⟩
theorem mf_X9_settings : MF md_X9_settings 1 := ⟨by decide, by decide, by decide +kernel, tM 576 (by decide +kernel) rfl, tM 88 (by decide +kernel) rfl, rfl, rfl⟩
theorem vf_X9_settings : VF md_X9_settings := ⟨tM 575 (by decide +kernel) rfl, tM 8 (by decide +kernel) rfl⟩
section ROWS2
variable {ρ : Type} {Q : ρ → State → Prop} {Γ : Gm} {Ξ : Gx} {E : Ev} {μ : Md} {σ : St} {pc : Nat} {lv : List (Nat × Value)} {st : List Value} {o oT oF : Option ρ}
theorem s_acmp_ne {off : Int} {i j : Nat} (tgt : Nat) (hF : Full E) (hi : i < 3) (hj : j < 3) (hd : decode μ.2.1 pc = .ok (.if_acmp .ne off, 3)) (ht : (pc : Int) + off = (tgt : Int)) (kT : Sim Q Γ Ξ E μ σ (pc + 3) lv st oT) (kF : Sim Q Γ Ξ E μ σ tgt lv st oF) : Sim Q Γ Ξ E μ σ pc lv (rV E (32 + 2 * j) :: rV E (32 + 2 * i) :: st) (if i = j then oT else oF) := by
  intro Cc r ho ls H locs hl hP hS
  obtain ⟨hx, hb, hml, hr, hown', hts, hlocks, hK, ⟨hE, hA, hcc, hcs⟩, hKs⟩ := id Cc
  refine lv_acmp_ne (rx := some (E.2.2.1 (32 + 2 * i))) (ry := some (E.2.2.1 (32 + 2 * j))) hx hb hd ht (fun c => kF Cc r ?_ ls H locs hl hP hS) (fun c => kT Cc r ?_ ls H locs hl hP hS)
  · rw [if_neg (fun e => c (by rw [e]))] at ho; exact ho
  · have e : i = j := by
      have := hE.2 _ _ (mS hF hi) (mS hF hj) (Option.some.inj c)
      omega
    rw [if_pos e] at ho; exact ho
def cpy {R : Type} (σ : St) (a n0 b n1 : Nat) (sp dp n : Int32) (K : St → Option R) : Option R := if ¬ sp < 0 ∧ ¬ dp < 0 ∧ ¬ n < 0 ∧ sp.toNatClampNeg + n.toNatClampNeg ≤ n0 ∧ dp.toNatClampNeg + n.toNatClampNeg ≤ n1 then K (setR σ b (va_cpy (σ.1 a) (σ.1 b) sp.toNatClampNeg dp.toNatClampNeg n.toNatClampNeg)) else none
theorem cpyN : Cond.native arraycopyName ∈ tT := tM 646 (by decide +kernel) rfl
theorem cpyS : Cond.static arraycopyName ∈ tT := tM 645 (by decide +kernel) rfl
theorem cpyI : Cond.initialized "java/lang/System" ∈ tT := tM 105 (by decide +kernel) rfl
theorem s_copy {a b n0 n1 idx : Nat} {sp dp n : Int32} {K : St → Option ρ} (hL : Cond.methodLink μ.1.cls idx arraycopyName ∈ tT) (hma : a ∈ E.2.2.2.1) (hka : kd a = 11) (hla : ln a = n0) (hmb : b ∈ E.2.2.2.1) (hkb : kd b = 11) (hlb : ln b = n1) (hR : ((1).ble μ.2.2.2.2.frames && ((st.map fun v => v.category).sum + (nativeFrameWords "java/lang/System" "arraycopy" 5 + 11)).ble μ.2.2.2.2.locals) = true) (hd : decode μ.2.1 pc = .ok (.invokestatic idx, 3)) (kk : ∀ σ1, Sim Q Γ Ξ E μ σ1 (pc + 3) lv st (K σ1)) : Sim Q Γ Ξ E μ σ pc lv (.int n :: .int dp :: rV E b :: .int sp :: rV E a :: st) (cpy σ a n0 b n1 sp dp n K) := by
  subst hla
  subst hlb
  intro Cc r ho ls H locs hl hP hS
  obtain ⟨hx, hb, hml, hr, hown', hts, hlocks, hK, ⟨hE, hA, hcc, hcs⟩, hKs⟩ := id Cc
  unfold cpy at ho
  by_cases hc : ¬ sp < 0 ∧ ¬ dp < 0 ∧ ¬ n < 0 ∧ sp.toNatClampNeg + n.toNatClampNeg ≤ ln a ∧ dp.toNatClampNeg + n.toNatClampNeg ≤ ln b
  · rw [if_pos hc] at ho
    obtain ⟨h1, h2, h3, h4, h5⟩ := hc
    rw [Bool.and_eq_true] at hR
    obtain ⟨q0, hq0, hqa⟩ := ws_get σ hma
    rw [cont_i E σ hka] at hqa
    obtain ⟨q1, hq1, hqb⟩ := ws_get σ hmb
    rw [cont_i E σ hkb] at hqb
    refine va_copyi hx hb (hml.trans hl.1.symm) hown' (hts _ hL) (hts _ cpyN) (hts _ cpyS) (hts _ cpyI) hK hP (ws_D hE hA σ) hS q0 q1 0 0 hqa hqb rfl rfl rfl h1 h2 h3 h4 h5 (fun _ _ => rfl) (Nat.le_of_ble_eq_true hR.1) (Nat.le_of_ble_eq_true hR.2) hd (fun H1 locs1 hP1 _ hS1 => ?_)
    refine kk _ Cc r ho ls H1 locs1 hl ?_ hS1
    rw [← setR_s σ b (va_cpy (σ.1 a) (σ.1 b) sp.toNatClampNeg dp.toNatClampNeg n.toNatClampNeg), ← cont_i E (setR σ b _) hkb, ws_set hE hq1 (fun c hc => cont_cg E (setR_n σ _ hc) rfl)] at hP1
    exact hP1
  · rw [if_neg hc] at ho; cases ho
theorem s_tsw3 {x : Int32} {dflt o0 o1 o2 : Int} {len tD t0 t1 t2 : Nat} {oD O0 O1 O2 : Option ρ} (hd : decode μ.2.1 pc = .ok (.tableswitch dflt 0 2 #[o0, o1, o2], len)) (hD : (pc : Int) + dflt = (tD : Int)) (h0 : (pc : Int) + o0 = (t0 : Int)) (h1 : (pc : Int) + o1 = (t1 : Int)) (h2 : (pc : Int) + o2 = (t2 : Int)) (kD : Sim Q Γ Ξ E μ σ tD lv st oD) (k0 : Sim Q Γ Ξ E μ σ t0 lv st O0) (k1 : Sim Q Γ Ξ E μ σ t1 lv st O1) (k2 : Sim Q Γ Ξ E μ σ t2 lv st O2) : Sim Q Γ Ξ E μ σ pc lv (.int x :: st) (if x = 0 then O0 else (if x = 1 then O1 else (if x = 2 then O2 else oD))) := by
  intro Cc r ho ls H locs hl hP hS
  obtain ⟨hx, hb, hml, hr, hown', hts, hlocks, hK, ⟨hE, hA, hcc, hcs⟩, hKs⟩ := id Cc
  by_cases c0 : x = 0
  · rw [if_pos c0] at ho
    subst c0
    exact lv_tableIn hx hb hd (by decide) (by decide) (off := o0) rfl h0 (k0 Cc r ho ls H locs hl hP hS)
  by_cases c1 : x = 1
  · rw [if_neg c0, if_pos c1] at ho
    subst c1
    exact lv_tableIn hx hb hd (by decide) (by decide) (off := o1) rfl h1 (k1 Cc r ho ls H locs hl hP hS)
  by_cases c2 : x = 2
  · rw [if_neg c0, if_neg c1, if_pos c2] at ho
    subst c2
    exact lv_tableIn hx hb hd (by decide) (by decide) (off := o2) rfl h2 (k2 Cc r ho ls H locs hl hP hS)
  rw [if_neg c0, if_neg c1, if_neg c2] at ho
  refine lv_tableOut hx hb hd ?_ hD (kD Cc r ho ls H locs hl hP hS)
  have e0 := lv_neT (a := 0) c0 (by decide)
  have e1 := lv_neT (a := 1) c1 (by decide)
  have e2 := lv_neT (a := 2) c2 (by decide)
  omega
theorem s_tsw4 {x : Int32} {dflt o0 o1 o2 o3 : Int} {len tD t0 t1 t2 t3 : Nat} {oD O0 O1 O2 O3 : Option ρ} (hd : decode μ.2.1 pc = .ok (.tableswitch dflt 0 3 #[o0, o1, o2, o3], len)) (hD : (pc : Int) + dflt = (tD : Int)) (h0 : (pc : Int) + o0 = (t0 : Int)) (h1 : (pc : Int) + o1 = (t1 : Int)) (h2 : (pc : Int) + o2 = (t2 : Int)) (h3 : (pc : Int) + o3 = (t3 : Int)) (kD : Sim Q Γ Ξ E μ σ tD lv st oD) (k0 : Sim Q Γ Ξ E μ σ t0 lv st O0) (k1 : Sim Q Γ Ξ E μ σ t1 lv st O1) (k2 : Sim Q Γ Ξ E μ σ t2 lv st O2) (k3 : Sim Q Γ Ξ E μ σ t3 lv st O3) : Sim Q Γ Ξ E μ σ pc lv (.int x :: st) (if x = 0 then O0 else (if x = 1 then O1 else (if x = 2 then O2 else (if x = 3 then O3 else oD)))) := by
  intro Cc r ho ls H locs hl hP hS
  obtain ⟨hx, hb, hml, hr, hown', hts, hlocks, hK, ⟨hE, hA, hcc, hcs⟩, hKs⟩ := id Cc
  by_cases c0 : x = 0
  · rw [if_pos c0] at ho
    subst c0
    exact lv_tableIn hx hb hd (by decide) (by decide) (off := o0) rfl h0 (k0 Cc r ho ls H locs hl hP hS)
  by_cases c1 : x = 1
  · rw [if_neg c0, if_pos c1] at ho
    subst c1
    exact lv_tableIn hx hb hd (by decide) (by decide) (off := o1) rfl h1 (k1 Cc r ho ls H locs hl hP hS)
  by_cases c2 : x = 2
  · rw [if_neg c0, if_neg c1, if_pos c2] at ho
    subst c2
    exact lv_tableIn hx hb hd (by decide) (by decide) (off := o2) rfl h2 (k2 Cc r ho ls H locs hl hP hS)
  by_cases c3 : x = 3
  · rw [if_neg c0, if_neg c1, if_neg c2, if_pos c3] at ho
    subst c3
    exact lv_tableIn hx hb hd (by decide) (by decide) (off := o3) rfl h3 (k3 Cc r ho ls H locs hl hP hS)
  rw [if_neg c0, if_neg c1, if_neg c2, if_neg c3] at ho
  refine lv_tableOut hx hb hd ?_ hD (kD Cc r ho ls H locs hl hP hS)
  have e0 := lv_neT (a := 0) c0 (by decide)
  have e1 := lv_neT (a := 1) c1 (by decide)
  have e2 := lv_neT (a := 2) c2 (by decide)
  have e3 := lv_neT (a := 3) c3 (by decide)
  omega
theorem s_lsw2 {x : Int32} {dflt o0 o1 : Int} {len tD t0 t1 : Nat} {oD O0 O1 : Option ρ} (hd : decode μ.2.1 pc = .ok (.lookupswitch dflt #[(0, o0), (1, o1)], len)) (hD : (pc : Int) + dflt = (tD : Int)) (h0 : (pc : Int) + o0 = (t0 : Int)) (h1 : (pc : Int) + o1 = (t1 : Int)) (kD : Sim Q Γ Ξ E μ σ tD lv st oD) (k0 : Sim Q Γ Ξ E μ σ t0 lv st O0) (k1 : Sim Q Γ Ξ E μ σ t1 lv st O1) : Sim Q Γ Ξ E μ σ pc lv (.int x :: st) (if x = 0 then O0 else (if x = 1 then O1 else oD)) := by
  intro Cc r ho ls H locs hl hP hS
  obtain ⟨hx, hb, hml, hr, hown', hts, hlocks, hK, ⟨hE, hA, hcc, hcs⟩, hKs⟩ := id Cc
  by_cases c0 : x = 0
  · rw [if_pos c0] at ho
    subst c0
    exact lv_lookup hx hb hd rfl (off := o0) rfl h0 (k0 Cc r ho ls H locs hl hP hS)
  by_cases c1 : x = 1
  · rw [if_neg c0, if_pos c1] at ho
    subst c1
    exact lv_lookup hx hb hd rfl (off := o1) rfl h1 (k1 Cc r ho ls H locs hl hP hS)
  rw [if_neg c0, if_neg c1] at ho
  refine lv_lookup hx hb hd rfl (off := dflt) ?_ hD (kD Cc r ho ls H locs hl hP hS)
  rw [show (#[((0 : Int), o0), ((1 : Int), o1)] : Array (Int × Int)).toList = [(0, o0), (1, o1)] from rfl, lv_osw c0 (by decide), lv_osw c1 (by decide)]
  rfl
theorem s_ldcT0 (hown : μ.1.cls = "RunnerNet$Text") (hd : decode μ.2.1 pc = .ok (.ldc 82, 2)) (k : Sim Q Γ Ξ E μ σ (pc + 2) lv (rV E (130 + 0) :: st) o) : Sim Q Γ Ξ E μ σ pc lv st o := by
  intro Cc r ho ls H locs hl hP hS
  obtain ⟨hx, hb, hml, hr, hown', hts, hlocks, hK, ⟨hE, hA, hcc, hcs⟩, hKs⟩ := id Cc
  rw [hown] at hown'
  obtain ⟨h4, h5, h6, h7⟩ := hKs.2.2.1
  exact va_ldcS hx hb hown' h5 hd (k Cc r ho ls H locs hl hP hS)
theorem s_ldcT1 (hown : μ.1.cls = "RunnerNet$Text") (hd : decode μ.2.1 pc = .ok (.ldc 88, 2)) (k : Sim Q Γ Ξ E μ σ (pc + 2) lv (rV E (130 + 1) :: st) o) : Sim Q Γ Ξ E μ σ pc lv st o := by
  intro Cc r ho ls H locs hl hP hS
  obtain ⟨hx, hb, hml, hr, hown', hts, hlocks, hK, ⟨hE, hA, hcc, hcs⟩, hKs⟩ := id Cc
  rw [hown] at hown'
  obtain ⟨h4, h5, h6, h7⟩ := hKs.2.2.1
  exact va_ldcS hx hb hown' h6 hd (k Cc r ho ls H locs hl hP hS)
theorem s_ldcT2 (hown : μ.1.cls = "RunnerNet$Text") (hd : decode μ.2.1 pc = .ok (.ldc 90, 2)) (k : Sim Q Γ Ξ E μ σ (pc + 2) lv (rV E (130 + 2) :: st) o) : Sim Q Γ Ξ E μ σ pc lv st o := by
  intro Cc r ho ls H locs hl hP hS
  obtain ⟨hx, hb, hml, hr, hown', hts, hlocks, hK, ⟨hE, hA, hcc, hcs⟩, hKs⟩ := id Cc
  rw [hown] at hown'
  obtain ⟨h4, h5, h6, h7⟩ := hKs.2.2.1
  exact va_ldcS hx hb hown' h7 hd (k Cc r ho ls H locs hl hP hS)
/-- texts: rows on 130 + w, 140 + w -/
def ckC {R : Type} (x : Int32) (k : Option R) : Option R := if x &&& 255 = x then k else none
theorem s_ckC {x : Int32} (k : x &&& 255 = x → Sim Q Γ Ξ E μ σ pc lv st o) : Sim Q Γ Ξ E μ σ pc lv st (ckC x o) := by
  intro C r ho
  unfold ckC at ho
  by_cases h : x &&& 255 = x
  · rw [if_pos h] at ho; exact k h C r ho
  · rw [if_neg h] at ho; cases ho
theorem s_none : Sim Q Γ Ξ E μ σ pc lv st none := fun _ _ h => by cases h
theorem s_i2c {x v : Int32} (hd : decode μ.2.1 pc = .ok (.i2c, 1)) (hv : (x.toUInt32 % 65536).toInt32 = v) (k : Sim Q Γ Ξ E μ σ (pc + 1) lv (.int v :: st) o) : Sim Q Γ Ξ E μ σ pc lv (.int x :: st) o := by
  intro C r ho ls H locs hl hP hS
  exact lv_i2c C.1 C.2.1 hd hv (k C r ho ls H locs hl hP hS)
theorem s_nreturn {en : ρ → Option Value} {fs : ρ → St} {x : Int32} {y : ρ} {ty : FieldType} (hr : μ.2.2.2.1 = some ty) (hn : narrow ty (.int x) = .int x) (he : en y = some (.int x)) (hf : fs y = σ) (hd : decode μ.2.1 pc = .ok (.ireturn, 1)) : Sim (qM en fs Γ E) Γ (x0 E) E μ σ pc lv [.int x] (some y) := by
  intro Cc r ho ls H locs hl hP hS
  cases ho
  obtain ⟨hx, hb, hml, hr', hown', hts, hlocks, hK, ⟨hE, hA, hcc, hcs⟩, hKs⟩ := id Cc
  exact W.zret hx hb (hr'.trans hr) hn (fun t ht hW => ⟨⟨by rw [he], by rw [ht, hf]; exact hP⟩, hS.F ht⟩) hS.2.2 hd hlocks
theorem s_getTV {own : String} {idx w : Nat} (hown : μ.1.cls = own) (hw : w < 3) (hL : Cond.fieldLink own idx "java/lang/String" "value" "[B" ∈ tT) (hd : decode μ.2.1 pc = .ok (.getfield idx, 3)) (kk : Sim Q Γ Ξ E μ σ (pc + 3) lv (rV E (140 + w) :: st) o) : Sim Q Γ Ξ E μ σ pc lv (rV E (130 + w) :: st) o := by
  intro Cc r ho ls H locs hl hP hS
  obtain ⟨hx, hb, hml, hr, hown', hts, hlocks, hK, ⟨hE, hA, hcc, hcs⟩, hKs⟩ := id Cc
  rw [hown] at hown'
  exact vk_getf hx hb (hKs.2.2.1.1.1 w hw).2.2.1 hS hown' (hts _ hL) (fun _ h => h) hd (kk Cc r ho ls H locs hl hP hS)
theorem s_getTC {own : String} {idx w : Nat} (hown : μ.1.cls = own) (hw : w < 3) (hL : Cond.fieldLink own idx "java/lang/String" "coder" "B" ∈ tT) (hd : decode μ.2.1 pc = .ok (.getfield idx, 3)) (kk : Sim Q Γ Ξ E μ σ (pc + 3) lv (.int 0 :: st) o) : Sim Q Γ Ξ E μ σ pc lv (rV E (130 + w) :: st) o := by
  intro Cc r ho ls H locs hl hP hS
  obtain ⟨hx, hb, hml, hr, hown', hts, hlocks, hK, ⟨hE, hA, hcc, hcs⟩, hKs⟩ := id Cc
  rw [hown] at hown'
  exact vk_getf hx hb (hKs.2.2.1.1.1 w hw).2.1 hS hown' (hts _ hL) (fun _ h => h) hd (kk Cc r ho ls H locs hl hP hS)
theorem s_lenT {w : Nat} (hw : w < 3) (hd : decode μ.2.1 pc = .ok (.arraylength, 1)) (kk : Sim Q Γ Ξ E μ σ (pc + 1) lv (.int (nI (jsLen.getD w 0)) :: st) o) : Sim Q Γ Ξ E μ σ pc lv (rV E (140 + w) :: st) o := by
  intro Cc r ho ls H locs hl hP hS
  obtain ⟨hx, hb, hml, hr', hown', hts, hlocks, hK, ⟨hE, hA, hcc, hcs⟩, hKs⟩ := id Cc
  exact va_tlen hx hb (hKs.2.2.1.1.1 w hw).2.2.2 hS rfl hd (kk Cc r ho ls H locs hl hP hS)
theorem s_ldT {w : Nat} {i : Int32} (hw : w < 3) (hd : decode μ.2.1 pc = .ok (.baload, 1)) (kk : Sim Q Γ Ξ E μ σ (pc + 1) lv (.int ((jsByt.getD w []).getD i.toNatClampNeg 0) :: st) o) : Sim Q Γ Ξ E μ σ pc lv (.int i :: rV E (140 + w) :: st) (ck i (jsLen.getD w 0) o) := by
  intro Cc r ho ls H locs hl hP hS
  obtain ⟨hi, ho2⟩ := ck_in ho
  obtain ⟨hx, hb, hml, hr', hown', hts, hlocks, hK, ⟨hE, hA, hcc, hcs⟩, hKs⟩ := id Cc
  exact va_tb hx hb (hKs.2.2.1.1.1 w hw).2.2.2 hS hi rfl hd (kk Cc r ho2 ls H locs hl hP hS)
theorem s_getCS {own : String} {idx : Nat} (hown : μ.1.cls = own) (hL : Cond.fieldLink own idx "java/lang/String" "COMPACT_STRINGS" "Z" ∈ tT) (hd : decode μ.2.1 pc = .ok (.getstatic idx, 3)) (kk : Sim Q Γ Ξ E μ σ (pc + 3) lv (.int 1 :: st) o) : Sim Q Γ Ξ E μ σ pc lv st o := by
  intro Cc r ho ls H locs hl hP hS
  obtain ⟨hx, hb, hml, hr', hown', hts, hlocks, hK, ⟨hE, hA, hcc, hcs⟩, hKs⟩ := id Cc
  rw [hown] at hown'
  exact va_gets hx hb hKs.2.2.2.1 hS hown' (hts _ hL) (fun _ h => h) hd (kk Cc r ho ls H locs hl hP hS)
theorem s_getFM {own : String} {idx : Nat} (hown : μ.1.cls = own) (hL : Cond.fieldLink own idx "jdk/internal/util/Preconditions" "SIOOBE_FORMATTER" "Ljava/util/function/BiFunction;" ∈ tT) (hd : decode μ.2.1 pc = .ok (.getstatic idx, 3)) (kk : ∀ q : Option Nat, Sim Q Γ Ξ E μ σ (pc + 3) lv (va_rf q :: st) o) : Sim Q Γ Ξ E μ σ pc lv st o := by
  intro Cc r ho ls H locs hl hP hS
  obtain ⟨hx, hb, hml, hr', hown', hts, hlocks, hK, ⟨hE, hA, hcc, hcs⟩, hKs⟩ := id Cc
  rw [hown] at hown'
  rcases hKs.2.2.2.2.1 with h | ⟨t, h⟩
  · exact va_gets hx hb h hS hown' (hts _ hL) (fun _ h => h) hd (kk none Cc r ho ls H locs hl hP hS)
  · exact va_gets hx hb h hS hown' (hts _ hL) (fun _ h => h) hd (kk (some t) Cc r ho ls H locs hl hP hS)
theorem s_callTpI {μ' : Md} {np idx w : Nat} {As rest : List Value} {f : Option Int32} {K : Int32 → Option ρ} (hM : MF μ' np) (hV : VF μ') (hL : Cond.methodLink μ.1.cls idx μ'.1 ∈ tT) (hcl : μ'.1.cls = "java/lang/String") (hw : w < 3) (hC : Ctr Γ.2.1 enI (fun _ => σ) E μ' (rV E (130 + w) :: As) σ f) (hn : As.length = np) (hst : st = As.reverse ++ rV E (130 + w) :: rest) (hW : (rest.map fun v => v.category).sum ≤ 8) (hR : rOk μ.2.2.2.2 μ'.2.2.2.2 μ'.2.2.1 = true) (hd : decode μ.2.1 pc = .ok (.invokevirtual idx, 3))
    (kk : ∀ r, Sim Q Γ Ξ E μ σ (pc + 3) lv (.int r :: rest) (K r)) : Sim Q Γ Ξ E μ σ pc lv st (calP f K) := by
  intro Cc r ho ls H locs hl hP hS
  obtain ⟨r1, hf, ho2⟩ := calP_in ho
  obtain ⟨hx, hb, hml, hr', hown', hts, hlocks, hK, ⟨hE, hA, hcc, hcs⟩, hKs⟩ := id Cc
  have hcw : CallW μ.2.2.2.2 Γ.2.2.2.1 Γ.2.2.2.2.2.1 μ.1.cls μ'.1.cls idx μ'.1 μ'.2.1 μ'.2.2.1 μ'.2.2.2.1 (.code μ'.1 μ'.2.1 μ'.2.2.1 μ'.2.2.2.1 :: tT) μ'.2.2.2.2 0 0 np :=
    ⟨callB_of np hts (ctr_words hM) rfl hM.2.2.2.2.2.1 hM.2.2.2.2.2.2 (hts _ hM.2.2.2.2.1) (hts _ hL) ⟨hM.1, hM.2.1, hM.2.2.1⟩ (rOk_1 hR), hts _ hV.1, hts _ hV.2⟩
  have hrec := vk_recv hKs.2.2.1.1 hw hS
  rw [← hcl] at hrec
  exact sv_call (va_runV (As := As) (rest := rest) (b := E.2.2.1 (130 + w)) ⟨hx, hb, hml, hown', hts⟩ (hC hE r1 hf) hcw ⟨PcE_blind E _ σ, hrec, fun U hU hW => ⟨rfl, by rw [hU]; exact hP, va_K.moved hW.alike hK, by rw [hU]; exact ((Kt.kept hS.2.1 hKs).warm hW).narrow hA⟩⟩ rfl hn hl.1 hst (lv_room hW) hd ⟨hcc, hcs⟩) hS hA (fun H1 locs1 hP1 _ _ hS1 => kk r1 Cc r ho2 ls H1 locs1 hl hP1 hS1)
end ROWS2
theorem nl_of {w : Cond} (i : Nat) (h : nestW[i]? = some w) : w ∈ nestW := List.mem_of_getElem? h
