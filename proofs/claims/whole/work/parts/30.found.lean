/-! ===== whole numbers in ints ===== -/
theorem sm_toInt {n : Nat} (h : n < 2147483648) : (nI n).toInt = (n : Int) := nI_toInt h
theorem sm_add (a b : Nat) : nI a + nI b = nI (a + b) := (Int32.ofNat_add a b).symm
theorem sm_mul (a b : Nat) : nI a * nI b = nI (a * b) := (Int32.ofNat_mul a b).symm
def iz (z : Int) : Int32 := Int32.ofInt z
theorem sm_iz (n : Nat) : nI n = iz (n : Int) := Int32.ofInt_eq_ofNat.symm
theorem iz_toInt {z : Int} (h1 : -2147483648 ≤ z) (h2 : z < 2147483648) : (iz z).toInt = z := Int32.toInt_ofInt_of_le (by omega) (by omega)
theorem iz_add (a b : Int) : iz a + iz b = iz (a + b) := (Int32.ofInt_add a b).symm
theorem iz_sub (a b : Int) : iz a - iz b = iz (a - b) := (Int32.ofInt_sub a b).symm
theorem iz_mul (a b : Int) : iz a * iz b = iz (a * b) := (Int32.ofInt_mul a b).symm
theorem iz_neg (a : Int) : -iz a = iz (-a) := Int32.neg_ofInt
theorem iz_self (x : Int32) : x = iz x.toInt := (Int32.ofInt_toInt x).symm
theorem iz_lt {a b : Int} (h1 : -2147483648 ≤ a) (h2 : a < 2147483648) (h3 : -2147483648 ≤ b) (h4 : b < 2147483648) : (iz a < iz b) = (a < b) := propext (by rw [Int32.lt_iff_toInt_lt, iz_toInt h1 h2, iz_toInt h3 h4])
theorem iz_le {a b : Int} (h1 : -2147483648 ≤ a) (h2 : a < 2147483648) (h3 : -2147483648 ≤ b) (h4 : b < 2147483648) : (iz a ≤ iz b) = (a ≤ b) := propext (by rw [Int32.le_iff_toInt_le, iz_toInt h1 h2, iz_toInt h3 h4])
theorem iz_eq {a b : Int} (h1 : -2147483648 ≤ a) (h2 : a < 2147483648) (h3 : -2147483648 ≤ b) (h4 : b < 2147483648) : (iz a = iz b) = (a = b) := propext ⟨fun h => by rw [← iz_toInt h1 h2, ← iz_toInt h3 h4, h], fun h => by rw [h]⟩
theorem iz_div {a b : Int} (h1 : 0 ≤ a) (h2 : a < 2147483648) (h3 : 0 < b) (h4 : b < 2147483648) : iz a / iz b = iz (a / b) := by
  have hm1 : Int32.minValue.toInt = -2147483648 := rfl
  have hm2 : Int32.maxValue.toInt = 2147483647 := rfl
  have h := Int32.ofInt_tdiv (a := a) (b := b) (by omega) (by omega) (by omega) (by omega)
  rw [Int.tdiv_eq_ediv_of_nonneg h1] at h
  exact h.symm
theorem sm_lt {a b : Nat} (h1 : a < 2147483648) (h2 : b < 2147483648) : (nI a < nI b) = (a < b) := by
  rw [sm_iz, sm_iz, iz_lt (by omega) (by omega) (by omega) (by omega)]
  exact propext (by omega)
theorem sm_le {a b : Nat} (h1 : a < 2147483648) (h2 : b < 2147483648) : (nI a ≤ nI b) = (a ≤ b) := by
  rw [sm_iz, sm_iz, iz_le (by omega) (by omega) (by omega) (by omega)]
  exact propext (by omega)
theorem sm_eq {a b : Nat} (h1 : a < 2147483648) (h2 : b < 2147483648) : (nI a = nI b) = (a = b) := by
  rw [sm_iz, sm_iz, iz_eq (by omega) (by omega) (by omega) (by omega)]
  exact propext (by omega)
theorem sm_sub {a b : Nat} (h : b ≤ a) : nI a - nI b = nI (a - b) := by
  rw [sm_iz, sm_iz, sm_iz, iz_sub]
  congr 1
  omega
theorem sm_div {a b : Nat} (h1 : a < 2147483648) (h2 : 0 < b) (h3 : b < 2147483648) : nI a / nI b = nI (a / b) := by
  rw [sm_iz, sm_iz, sm_iz, iz_div (by omega) (by omega) (by omega) (by omega)]
  congr 1
theorem sm_mod {a b : Nat} (h1 : a < 2147483648) (h2 : 0 < b) (h3 : b < 2147483648) : nI a - nI a / nI b * nI b = nI (a % b) := by
  have h4 : a / b * b ≤ a := Nat.div_mul_le_self a b
  rw [sm_div h1 h2 h3, sm_mul, sm_sub h4]
  congr 1
  rw [Nat.mod_eq_sub_div_mul]
theorem sm_clamp {n : Nat} (h : n < 2147483648) : (nI n).toNatClampNeg = n := nI_clamp h
theorem sm_inj {a b : Nat} (h1 : a < 2147483648) (h2 : b < 2147483648) (h : nI a = nI b) : a = b := by rwa [sm_eq h1 h2] at h
theorem sm_inb {j n : Nat} (h : j < n) (h2 : j < 2147483648) : inb (nI j) n = true := by
  unfold inb
  rw [sm_clamp h2]
  have h0 : ¬ nI j < 0 := by
    show ¬ nI j < nI 0
    rw [sm_lt h2 (by omega)]; omega
  simp only [h0, false_or, decide_eq_true_eq]
  omega
theorem lits : ((0 : Int32) = nI 0) ∧ ((1 : Int32) = nI 1) ∧ ((2 : Int32) = nI 2) ∧ ((3 : Int32) = nI 3) ∧ ((4 : Int32) = nI 4) ∧ ((5 : Int32) = nI 5) ∧ ((6 : Int32) = nI 6) ∧ ((7 : Int32) = nI 7) ∧ ((8 : Int32) = nI 8) ∧ ((9 : Int32) = nI 9) ∧ ((10 : Int32) = nI 10) ∧ ((11 : Int32) = nI 11) ∧ ((12 : Int32) = nI 12) ∧ ((13 : Int32) = nI 13) ∧ ((14 : Int32) = nI 14) ∧ ((15 : Int32) = nI 15) ∧ ((16 : Int32) = nI 16) ∧ ((17 : Int32) = nI 17) ∧ ((18 : Int32) = nI 18) ∧ ((19 : Int32) = nI 19) ∧ ((20 : Int32) = nI 20) ∧ ((21 : Int32) = nI 21) ∧ ((22 : Int32) = nI 22) ∧ ((23 : Int32) = nI 23) ∧ ((24 : Int32) = nI 24) ∧ ((25 : Int32) = nI 25) ∧ ((26 : Int32) = nI 26) ∧ ((27 : Int32) = nI 27) ∧ ((28 : Int32) = nI 28) ∧ ((29 : Int32) = nI 29) ∧ ((30 : Int32) = nI 30) ∧ ((31 : Int32) = nI 31) ∧ ((32 : Int32) = nI 32) ∧ ((33 : Int32) = nI 33) ∧ ((34 : Int32) = nI 34) ∧ ((35 : Int32) = nI 35) ∧ ((36 : Int32) = nI 36) ∧ ((37 : Int32) = nI 37) ∧ ((38 : Int32) = nI 38) ∧ ((39 : Int32) = nI 39) ∧ ((40 : Int32) = nI 40) ∧ ((41 : Int32) = nI 41) ∧ ((42 : Int32) = nI 42) ∧ ((43 : Int32) = nI 43) ∧ ((44 : Int32) = nI 44) ∧ ((45 : Int32) = nI 45) ∧ ((46 : Int32) = nI 46) ∧ ((47 : Int32) = nI 47) ∧ ((48 : Int32) = nI 48) ∧ ((49 : Int32) = nI 49) ∧ ((50 : Int32) = nI 50) ∧ ((51 : Int32) = nI 51) ∧ ((52 : Int32) = nI 52) ∧ ((53 : Int32) = nI 53) ∧ ((54 : Int32) = nI 54) ∧ ((55 : Int32) = nI 55) ∧ ((56 : Int32) = nI 56) ∧ ((57 : Int32) = nI 57) ∧ ((58 : Int32) = nI 58) ∧ ((59 : Int32) = nI 59) ∧ ((60 : Int32) = nI 60) ∧ ((61 : Int32) = nI 61) ∧ ((62 : Int32) = nI 62) ∧ ((63 : Int32) = nI 63) ∧ ((64 : Int32) = nI 64) ∧ ((65 : Int32) = nI 65) ∧ ((66 : Int32) = nI 66) ∧ ((67 : Int32) = nI 67) ∧ ((68 : Int32) = nI 68) ∧ ((69 : Int32) = nI 69) ∧ ((70 : Int32) = nI 70) ∧ ((71 : Int32) = nI 71) ∧ ((72 : Int32) = nI 72) ∧ ((73 : Int32) = nI 73) ∧ ((74 : Int32) = nI 74) ∧ ((75 : Int32) = nI 75) ∧ ((76 : Int32) = nI 76) ∧ ((77 : Int32) = nI 77) ∧ ((78 : Int32) = nI 78) ∧ ((79 : Int32) = nI 79) ∧ ((80 : Int32) = nI 80) ∧ ((81 : Int32) = nI 81) ∧ ((82 : Int32) = nI 82) ∧ ((83 : Int32) = nI 83) ∧ ((84 : Int32) = nI 84) ∧ ((85 : Int32) = nI 85) ∧ ((86 : Int32) = nI 86) ∧ ((87 : Int32) = nI 87) ∧ ((88 : Int32) = nI 88) ∧ ((89 : Int32) = nI 89) ∧ ((90 : Int32) = nI 90) ∧ ((91 : Int32) = nI 91) ∧ ((92 : Int32) = nI 92) ∧ ((93 : Int32) = nI 93) ∧ ((94 : Int32) = nI 94) ∧ ((95 : Int32) = nI 95) ∧ ((96 : Int32) = nI 96) ∧ ((97 : Int32) = nI 97) ∧ ((98 : Int32) = nI 98) ∧ ((99 : Int32) = nI 99) ∧ ((100 : Int32) = nI 100) ∧ ((101 : Int32) = nI 101) ∧ ((102 : Int32) = nI 102) ∧ ((103 : Int32) = nI 103) ∧ ((104 : Int32) = nI 104) ∧ ((105 : Int32) = nI 105) ∧ ((106 : Int32) = nI 106) ∧ ((107 : Int32) = nI 107) ∧ ((108 : Int32) = nI 108) ∧ ((109 : Int32) = nI 109) ∧ ((110 : Int32) = nI 110) ∧ ((111 : Int32) = nI 111) ∧ ((112 : Int32) = nI 112) ∧ ((113 : Int32) = nI 113) ∧ ((114 : Int32) = nI 114) ∧ ((115 : Int32) = nI 115) ∧ ((116 : Int32) = nI 116) ∧ ((117 : Int32) = nI 117) ∧ ((118 : Int32) = nI 118) ∧ ((119 : Int32) = nI 119) ∧ ((120 : Int32) = nI 120) ∧ ((121 : Int32) = nI 121) ∧ ((122 : Int32) = nI 122) ∧ ((123 : Int32) = nI 123) ∧ ((124 : Int32) = nI 124) ∧ ((125 : Int32) = nI 125) ∧ ((126 : Int32) = nI 126) ∧ ((127 : Int32) = nI 127) ∧ ((128 : Int32) = nI 128) ∧ ((129 : Int32) = nI 129) ∧ ((130 : Int32) = nI 130) ∧ ((131 : Int32) = nI 131) ∧ ((132 : Int32) = nI 132) ∧ ((133 : Int32) = nI 133) ∧ ((134 : Int32) = nI 134) ∧ ((135 : Int32) = nI 135) ∧ ((136 : Int32) = nI 136) ∧ ((137 : Int32) = nI 137) ∧ ((138 : Int32) = nI 138) ∧ ((139 : Int32) = nI 139) ∧ ((140 : Int32) = nI 140) ∧ ((141 : Int32) = nI 141) ∧ ((142 : Int32) = nI 142) ∧ ((143 : Int32) = nI 143) ∧ ((144 : Int32) = nI 144) ∧ ((145 : Int32) = nI 145) ∧ ((146 : Int32) = nI 146) ∧ ((147 : Int32) = nI 147) ∧ ((148 : Int32) = nI 148) ∧ ((149 : Int32) = nI 149) ∧ ((150 : Int32) = nI 150) ∧ ((151 : Int32) = nI 151) ∧ ((152 : Int32) = nI 152) ∧ ((153 : Int32) = nI 153) ∧ ((154 : Int32) = nI 154) ∧ ((155 : Int32) = nI 155) ∧ ((156 : Int32) = nI 156) ∧ ((157 : Int32) = nI 157) ∧ ((158 : Int32) = nI 158) ∧ ((159 : Int32) = nI 159) ∧ ((160 : Int32) = nI 160) ∧ ((161 : Int32) = nI 161) ∧ ((162 : Int32) = nI 162) ∧ ((163 : Int32) = nI 163) ∧ ((164 : Int32) = nI 164) ∧ ((165 : Int32) = nI 165) ∧ ((166 : Int32) = nI 166) ∧ ((167 : Int32) = nI 167) ∧ ((168 : Int32) = nI 168) ∧ ((169 : Int32) = nI 169) ∧ ((170 : Int32) = nI 170) ∧ ((171 : Int32) = nI 171) ∧ ((172 : Int32) = nI 172) ∧ ((173 : Int32) = nI 173) ∧ ((174 : Int32) = nI 174) ∧ ((175 : Int32) = nI 175) ∧ ((176 : Int32) = nI 176) ∧ ((177 : Int32) = nI 177) ∧ ((178 : Int32) = nI 178) ∧ ((179 : Int32) = nI 179) ∧ ((180 : Int32) = nI 180) ∧ ((181 : Int32) = nI 181) ∧ ((182 : Int32) = nI 182) ∧ ((183 : Int32) = nI 183) ∧ ((184 : Int32) = nI 184) ∧ ((185 : Int32) = nI 185) ∧ ((186 : Int32) = nI 186) ∧ ((187 : Int32) = nI 187) ∧ ((188 : Int32) = nI 188) ∧ ((189 : Int32) = nI 189) ∧ ((190 : Int32) = nI 190) ∧ ((191 : Int32) = nI 191) ∧ ((192 : Int32) = nI 192) ∧ ((193 : Int32) = nI 193) ∧ ((194 : Int32) = nI 194) ∧ ((195 : Int32) = nI 195) ∧ ((196 : Int32) = nI 196) ∧ ((197 : Int32) = nI 197) ∧ ((198 : Int32) = nI 198) ∧ ((199 : Int32) = nI 199) ∧ ((200 : Int32) = nI 200) ∧ ((201 : Int32) = nI 201) ∧ ((210 : Int32) = nI 210) ∧ ((252 : Int32) = nI 252) ∧ ((255 : Int32) = nI 255) ∧ ((300 : Int32) = nI 300) ∧ ((353 : Int32) = nI 353) ∧ ((400 : Int32) = nI 400) ∧ ((600 : Int32) = nI 600) ∧ ((802 : Int32) = nI 802) ∧ ((1000 : Int32) = nI 1000) ∧ ((1200 : Int32) = nI 1200) ∧ ((2000 : Int32) = nI 2000) ∧ ((3065 : Int32) = nI 3065) ∧ ((5040 : Int32) = nI 5040) ∧ ((5188 : Int32) = nI 5188) ∧ ((8842 : Int32) = nI 8842) ∧ ((9000 : Int32) = nI 9000) ∧ ((9001 : Int32) = nI 9001) ∧ ((9002 : Int32) = nI 9002) ∧ ((9528 : Int32) = nI 9528) ∧ ((9616 : Int32) = nI 9616) ∧ ((9734 : Int32) = nI 9734) ∧ ((10000 : Int32) = nI 10000) ∧ ((10786 : Int32) = nI 10786) ∧ ((11000 : Int32) = nI 11000) ∧ ((12000 : Int32) = nI 12000) ∧ ((12600 : Int32) = nI 12600) ∧ ((15000 : Int32) = nI 15000) ∧ ((62949 : Int32) = nI 62949) ∧ ((65536 : Int32) = nI 65536) ∧ ((201600 : Int32) = nI 201600) ∧ ((279252 : Int32) = nI 279252) ∧ ((1000000 : Int32) = nI 1000000) ∧ ((3436200 : Int32) = nI 3436200) ∧ ((14348907 : Int32) = nI 14348907) ∧ ((252645135 : Int32) = nI 252645135) ∧ ((858993459 : Int32) = nI 858993459) ∧ ((999999999 : Int32) = nI 999999999) ∧ ((1000000000 : Int32) = nI 1000000000) ∧ ((1092616192 : Int32) = nI 1092616192) ∧ ((1431655765 : Int32) = nI 1431655765) ∧ ((2147483639 : Int32) = nI 2147483639) ∧ ((2147483647 : Int32) = nI 2147483647) := by
  refine ⟨?_, ?_, ?_, ?_, ?_, ?_, ?_, ?_, ?_, ?_, ?_, ?_, ?_, ?_, ?_, ?_, ?_, ?_, ?_, ?_, ?_, ?_, ?_, ?_, ?_, ?_, ?_, ?_, ?_, ?_, ?_, ?_, ?_, ?_, ?_, ?_, ?_, ?_, ?_, ?_, ?_, ?_, ?_, ?_, ?_, ?_, ?_, ?_, ?_, ?_, ?_, ?_, ?_, ?_, ?_, ?_, ?_, ?_, ?_, ?_, ?_, ?_, ?_, ?_, ?_, ?_, ?_, ?_, ?_, ?_, ?_, ?_, ?_, ?_, ?_, ?_, ?_, ?_, ?_, ?_, ?_, ?_, ?_, ?_, ?_, ?_, ?_, ?_, ?_, ?_, ?_, ?_, ?_, ?_, ?_, ?_, ?_, ?_, ?_, ?_, ?_, ?_, ?_, ?_, ?_, ?_, ?_, ?_, ?_, ?_, ?_, ?_, ?_, ?_, ?_, ?_, ?_, ?_, ?_, ?_, ?_, ?_, ?_, ?_, ?_, ?_, ?_, ?_, ?_, ?_, ?_, ?_, ?_, ?_, ?_, ?_, ?_, ?_, ?_, ?_, ?_, ?_, ?_, ?_, ?_, ?_, ?_, ?_, ?_, ?_, ?_, ?_, ?_, ?_, ?_, ?_, ?_, ?_, ?_, ?_, ?_, ?_, ?_, ?_, ?_, ?_, ?_, ?_, ?_, ?_, ?_, ?_, ?_, ?_, ?_, ?_, ?_, ?_, ?_, ?_, ?_, ?_, ?_, ?_, ?_, ?_, ?_, ?_, ?_, ?_, ?_, ?_, ?_, ?_, ?_, ?_, ?_, ?_, ?_, ?_, ?_, ?_, ?_, ?_, ?_, ?_, ?_, ?_, ?_, ?_, ?_, ?_, ?_, ?_, ?_, ?_, ?_, ?_, ?_, ?_, ?_, ?_, ?_, ?_, ?_, ?_, ?_, ?_, ?_, ?_, ?_, ?_, ?_, ?_, ?_, ?_, ?_, ?_, ?_, ?_, ?_, ?_, ?_, ?_⟩ <;> rfl
/-! ===== St: reads of writes ===== -/
theorem sm_bind {α β : Type} (a : α) (k : α → Option β) : Option.bind (some a) k = k a := rfl
theorem sm_cb {α β : Type} (σ : St) (a : α) (k : St → α → Option β) : cb (some (σ, a)) k = k σ a := rfl
theorem sm_nm {α β : Type} (e : α) (k : α → β) : nm e k = k e := rfl
theorem sK_wI_ (σ : St) (f a : Nat) (v : Int32) : sK (wI σ f a v) = sK σ := rfl
theorem sF_wI_ (σ : St) (f a : Nat) (v : Int32) : sF (wI σ f a v) = sF σ := rfl
theorem sN_wI_ (σ : St) (f a : Nat) (v : Int32) : sN (wI σ f a v) = sN σ := rfl
theorem sA_wI_ (σ : St) (f a : Nat) (v : Int32) : sA (wI σ f a v) = sA σ := rfl
theorem sJ_wI_ (σ : St) (f a : Nat) (v : Int32) : sJ (wI σ f a v) = sJ σ := rfl
theorem sQ_wI_ (σ : St) (f a : Nat) (v : Int32) : sQ (wI σ f a v) = sQ σ := rfl
theorem sz_wI_ (σ : St) (f a : Nat) (v : Int32) : sz (wI σ f a v) = sz σ := rfl
theorem sc_wI_ (σ : St) (f a : Nat) (v : Int32) : sc (wI σ f a v) = sc σ := rfl
theorem sw_wI_ (σ : St) (f a : Nat) (v : Int32) : sw (wI σ f a v) = sw σ := rfl
theorem sK_wF_ (σ : St) (f a : Nat) (v : Nat) : sK (wF σ f a v) = sK σ := rfl
theorem sI_wF_ (σ : St) (f a : Nat) (v : Nat) : sI (wF σ f a v) = sI σ := rfl
theorem sN_wF_ (σ : St) (f a : Nat) (v : Nat) : sN (wF σ f a v) = sN σ := rfl
theorem sA_wF_ (σ : St) (f a : Nat) (v : Nat) : sA (wF σ f a v) = sA σ := rfl
theorem sJ_wF_ (σ : St) (f a : Nat) (v : Nat) : sJ (wF σ f a v) = sJ σ := rfl
theorem sQ_wF_ (σ : St) (f a : Nat) (v : Nat) : sQ (wF σ f a v) = sQ σ := rfl
theorem sz_wF_ (σ : St) (f a : Nat) (v : Nat) : sz (wF σ f a v) = sz σ := rfl
theorem sc_wF_ (σ : St) (f a : Nat) (v : Nat) : sc (wF σ f a v) = sc σ := rfl
theorem sw_wF_ (σ : St) (f a : Nat) (v : Nat) : sw (wF σ f a v) = sw σ := rfl
theorem sK_wA_ (σ : St) (a j : Nat) (v : Int32) : sK (wA σ a j v) = sK σ := rfl
theorem sI_wA_ (σ : St) (a j : Nat) (v : Int32) : sI (wA σ a j v) = sI σ := rfl
theorem sF_wA_ (σ : St) (a j : Nat) (v : Int32) : sF (wA σ a j v) = sF σ := rfl
theorem sN_wA_ (σ : St) (a j : Nat) (v : Int32) : sN (wA σ a j v) = sN σ := rfl
theorem sJ_wA_ (σ : St) (a j : Nat) (v : Int32) : sJ (wA σ a j v) = sJ σ := rfl
theorem sQ_wA_ (σ : St) (a j : Nat) (v : Int32) : sQ (wA σ a j v) = sQ σ := rfl
theorem sz_wA_ (σ : St) (a j : Nat) (v : Int32) : sz (wA σ a j v) = sz σ := rfl
theorem sc_wA_ (σ : St) (a j : Nat) (v : Int32) : sc (wA σ a j v) = sc σ := rfl
theorem sw_wA_ (σ : St) (a j : Nat) (v : Int32) : sw (wA σ a j v) = sw σ := rfl
theorem sK_wJ_ (σ : St) (a j : Nat) (v : Int64) : sK (wJ σ a j v) = sK σ := rfl
theorem sI_wJ_ (σ : St) (a j : Nat) (v : Int64) : sI (wJ σ a j v) = sI σ := rfl
theorem sF_wJ_ (σ : St) (a j : Nat) (v : Int64) : sF (wJ σ a j v) = sF σ := rfl
theorem sN_wJ_ (σ : St) (a j : Nat) (v : Int64) : sN (wJ σ a j v) = sN σ := rfl
theorem sA_wJ_ (σ : St) (a j : Nat) (v : Int64) : sA (wJ σ a j v) = sA σ := rfl
theorem sQ_wJ_ (σ : St) (a j : Nat) (v : Int64) : sQ (wJ σ a j v) = sQ σ := rfl
theorem sz_wJ_ (σ : St) (a j : Nat) (v : Int64) : sz (wJ σ a j v) = sz σ := rfl
theorem sc_wJ_ (σ : St) (a j : Nat) (v : Int64) : sc (wJ σ a j v) = sc σ := rfl
theorem sw_wJ_ (σ : St) (a j : Nat) (v : Int64) : sw (wJ σ a j v) = sw σ := rfl
theorem sK_wQ_ (σ : St) (a j v : Nat) : sK (wQ σ a j v) = sK σ := rfl
theorem sI_wQ_ (σ : St) (a j v : Nat) : sI (wQ σ a j v) = sI σ := rfl
theorem sF_wQ_ (σ : St) (a j v : Nat) : sF (wQ σ a j v) = sF σ := rfl
theorem sN_wQ_ (σ : St) (a j v : Nat) : sN (wQ σ a j v) = sN σ := rfl
theorem sA_wQ_ (σ : St) (a j v : Nat) : sA (wQ σ a j v) = sA σ := rfl
theorem sJ_wQ_ (σ : St) (a j v : Nat) : sJ (wQ σ a j v) = sJ σ := rfl
theorem sz_wQ_ (σ : St) (a j v : Nat) : sz (wQ σ a j v) = sz σ := rfl
theorem sc_wQ_ (σ : St) (a j v : Nat) : sc (wQ σ a j v) = sc σ := rfl
theorem sw_wQ_ (σ : St) (a j v : Nat) : sw (wQ σ a j v) = sw σ := rfl
theorem sI_wI_ne {σ : St} {f a g b : Nat} {v : Int32} (h : ¬ (g = f ∧ b = a)) : sI (wI σ f a v) g b = sI σ g b := if_neg h
theorem sI_wI_eq {σ : St} {f a : Nat} {v : Int32} : sI (wI σ f a v) f a = v := if_pos ⟨rfl, rfl⟩
theorem sI_wI_f {σ : St} {f a g b : Nat} {v : Int32} (h : g ≠ f) : sI (wI σ f a v) g b = sI σ g b := if_neg fun q => h q.1
theorem sI_wI_a {σ : St} {f a g b : Nat} {v : Int32} (h : b ≠ a) : sI (wI σ f a v) g b = sI σ g b := if_neg fun q => h q.2
theorem sF_wF_ne {σ : St} {f a g b v : Nat} (h : ¬ (g = f ∧ b = a)) : sF (wF σ f a v) g b = sF σ g b := if_neg h
theorem sF_wF_eq {σ : St} {f a v : Nat} : sF (wF σ f a v) f a = v := if_pos ⟨rfl, rfl⟩
theorem sF_wF_f {σ : St} {f a g b v : Nat} (h : g ≠ f) : sF (wF σ f a v) g b = sF σ g b := if_neg fun q => h q.1
theorem sF_wF_a {σ : St} {f a g b v : Nat} (h : b ≠ a) : sF (wF σ f a v) g b = sF σ g b := if_neg fun q => h q.2
theorem sA_wA_b {σ : St} {a j b : Nat} {v : Int32} (h : b ≠ a) : sA (wA σ a j v) b = sA σ b := funext fun i => if_neg fun q => h q.1
theorem sA_wA_j {σ : St} {a j b i : Nat} {v : Int32} (h : i ≠ j) : sA (wA σ a j v) b i = sA σ b i := if_neg fun q => h q.2
theorem sA_wA_eq {σ : St} {a j : Nat} {v : Int32} : sA (wA σ a j v) a j = v := if_pos ⟨rfl, rfl⟩
theorem sA_wA_if {σ : St} {a j i : Nat} {v : Int32} : sA (wA σ a j v) a i = if i = j then v else sA σ a i := by
  by_cases h : i = j
  · rw [if_pos h, h]; exact sA_wA_eq
  · rw [if_neg h]; exact sA_wA_j h
theorem sQ_wQ_b {σ : St} {a j b v : Nat} (h : b ≠ a) : sQ (wQ σ a j v) b = sQ σ b := funext fun i => if_neg fun q => h q.1
theorem sQ_wQ_j {σ : St} {a j b i v : Nat} (h : i ≠ j) : sQ (wQ σ a j v) b i = sQ σ b i := if_neg fun q => h q.2
theorem sQ_wQ_eq {σ : St} {a j v : Nat} : sQ (wQ σ a j v) a j = v := if_pos ⟨rfl, rfl⟩
theorem sJ_wJ_b {σ : St} {a j b : Nat} {v : Int64} (h : b ≠ a) : sJ (wJ σ a j v) b = sJ σ b := funext fun i => if_neg fun q => h q.1
theorem sJ_wJ_eq {σ : St} {a j : Nat} {v : Int64} : sJ (wJ σ a j v) a j = v := if_pos ⟨rfl, rfl⟩
theorem sm_gI {σ : St} {ci k a : Nat} (h : sK σ a = ci + 1) : gI σ ci k a = some (sI σ (fid ci k) a) := if_pos h
theorem sm_gF {σ : St} {ci k a : Nat} (h : sK σ a = ci + 1) : gF σ ci k a = some (sF σ (fid ci k) a) := if_pos h
theorem sm_pI {σ : St} {ci k a : Nat} {v : Int32} (h : sK σ a = ci + 1) : pI σ ci k a v = some (wI σ (fid ci k) a v) := if_pos h
theorem sm_pF {σ : St} {ci k a v : Nat} (h : sK σ a = ci + 1) : pF σ ci k a v = some (wF σ (fid ci k) a v) := if_pos h
theorem sm_ckK {σ : St} {κ a : Nat} (h : sK σ a = κ) : ckK σ κ a = some () := if_pos h
theorem sm_ld {σ : St} {a j : Nat} (hk : sK σ a = 100) (hj : j < sN σ a) (h2 : j < 2147483648) : ldI σ a (nI j) = some (sA σ a j) := by
  unfold ldI
  rw [if_pos ⟨Or.inl hk, sm_inb hj h2⟩, sm_clamp h2]
theorem sm_st {σ : St} {a j : Nat} {v : Int32} (hk : sK σ a = 100) (hj : j < sN σ a) (h2 : j < 2147483648) : stI σ a (nI j) v = some (wA σ a j v) := by
  unfold stI
  rw [if_pos ⟨hk, sm_inb hj h2⟩, sm_clamp h2]
theorem sm_aln {σ : St} {a κ : Nat} (hk : sK σ a = κ) (h : 100 ≤ κ ∧ κ < 109) : aln σ a = some (nI (sN σ a)) := by
  unfold aln
  rw [if_pos (Or.inl (by omega))]
/-! ===== the reference's object: its arrays lie behind it, in order ===== -/
def rfS (K : Nat → Nat) (F : Nat → Nat → Nat) (N : Nat → Nat) (m : Nat) : Prop := K m = 17 ∧ (F (fid 16 1) m = m + 1 ∧ K (m + 1) = 100 ∧ N (m + 1) = 15000) ∧ (F (fid 16 2) m = m + 2 ∧ K (m + 2) = 100 ∧ N (m + 2) = 15) ∧ (F (fid 16 3) m = m + 3 ∧ K (m + 3) = 100 ∧ N (m + 3) = 12600) ∧ (F (fid 16 4) m = m + 4 ∧ K (m + 4) = 100 ∧ N (m + 4) = 201600) ∧ (F (fid 16 7) m = m + 5 ∧ K (m + 5) = 100 ∧ N (m + 5) = 200) ∧ (F (fid 16 17) m = m + 6 ∧ K (m + 6) = 100 ∧ N (m + 6) = 12000) ∧ (F (fid 16 18) m = m + 7 ∧ K (m + 7) = 100 ∧ N (m + 7) = 12000) ∧ (F (fid 16 19) m = m + 8 ∧ K (m + 8) = 100 ∧ N (m + 8) = 12000) ∧ (F (fid 16 20) m = m + 9 ∧ K (m + 9) = 100 ∧ N (m + 9) = 12000) ∧ (F (fid 16 22) m = m + 10 ∧ K (m + 10) = 100 ∧ N (m + 10) = 600) ∧ (F (fid 16 23) m = m + 11 ∧ K (m + 11) = 100 ∧ N (m + 11) = 600) ∧ (F (fid 16 24) m = m + 12 ∧ K (m + 12) = 100 ∧ N (m + 12) = 600) ∧ (F (fid 16 26) m = m + 13 ∧ K (m + 13) = 100 ∧ N (m + 13) = 210) ∧ (F (fid 16 27) m = m + 14 ∧ K (m + 14) = 100 ∧ N (m + 14) = 210) ∧ (F (fid 16 28) m = m + 15 ∧ K (m + 15) = 100 ∧ N (m + 15) = 210) ∧ (F (fid 16 29) m = m + 16 ∧ K (m + 16) = 100 ∧ N (m + 16) = 210) ∧ (F (fid 16 36) m = m + 17 ∧ K (m + 17) = 100 ∧ N (m + 17) = 4) ∧ (F (fid 16 37) m = m + 18 ∧ K (m + 18) = 100 ∧ N (m + 18) = 30) ∧ (F (fid 16 38) m = m + 19 ∧ K (m + 19) = 100 ∧ N (m + 19) = 30) ∧ (F (fid 16 39) m = m + 20 ∧ K (m + 20) = 100 ∧ N (m + 20) = 30) ∧ (F (fid 16 42) m = m + 21 ∧ K (m + 21) = 102 ∧ N (m + 21) = 30) ∧ (F (fid 16 47) m = m + 22 ∧ K (m + 22) = 100 ∧ N (m + 22) = 2000) ∧ (F (fid 16 48) m = m + 23 ∧ K (m + 23) = 100 ∧ N (m + 23) = 200) ∧ (F (fid 16 49) m = m + 24 ∧ K (m + 24) = 100 ∧ N (m + 24) = 200) ∧ (F (fid 16 50) m = m + 25 ∧ K (m + 25) = 100 ∧ N (m + 25) = 200) ∧ (F (fid 16 51) m = m + 26 ∧ K (m + 26) = 100 ∧ N (m + 26) = 40) ∧ (F (fid 16 52) m = m + 27 ∧ K (m + 27) = 100 ∧ N (m + 27) = 40) ∧ (F (fid 16 53) m = m + 28 ∧ K (m + 28) = 100 ∧ N (m + 28) = 40) ∧ (F (fid 16 54) m = m + 29 ∧ K (m + 29) = 100 ∧ N (m + 29) = 40) ∧ (F (fid 16 58) m = m + 30 ∧ K (m + 30) = 100 ∧ N (m + 30) = 30) ∧ (F (fid 16 59) m = m + 31 ∧ K (m + 31) = 100 ∧ N (m + 31) = 30) ∧ (F (fid 16 60) m = m + 32 ∧ K (m + 32) = 100 ∧ N (m + 32) = 30) ∧ (F (fid 16 63) m = m + 33 ∧ K (m + 33) = 102 ∧ N (m + 33) = 20) ∧ (F (fid 16 64) m = m + 34 ∧ K (m + 34) = 100 ∧ N (m + 34) = 200) ∧ (F (fid 16 66) m = m + 35 ∧ K (m + 35) = 100 ∧ N (m + 35) = 30) ∧ (F (fid 16 67) m = m + 36 ∧ K (m + 36) = 100 ∧ N (m + 36) = 150) ∧ (F (fid 16 68) m = m + 37 ∧ K (m + 37) = 100 ∧ N (m + 37) = 3) ∧ (F (fid 16 69) m = m + 38 ∧ K (m + 38) = 100 ∧ N (m + 38) = 252) ∧ (F (fid 16 70) m = m + 39 ∧ K (m + 39) = 100 ∧ N (m + 39) = 5040) ∧ (F (fid 16 71) m = m + 40 ∧ K (m + 40) = 100 ∧ N (m + 40) = 5040) ∧ (F (fid 16 74) m = m + 41 ∧ K (m + 41) = 100 ∧ N (m + 41) = 10) ∧ (F (fid 16 75) m = m + 42 ∧ K (m + 42) = 100 ∧ N (m + 42) = 1200) ∧ (F (fid 16 76) m = m + 43 ∧ K (m + 43) = 100 ∧ N (m + 43) = 300) ∧ (F (fid 16 82) m = m + 44 ∧ K (m + 44) = 100 ∧ N (m + 44) = 8)
def MS (σ : St) (m : Nat) : Prop := rfS (sK σ) (sF σ) (sN σ) m
theorem MS.k {σ : St} {m : Nat} (h : MS σ m) : sK σ m = 17 := h.1
theorem rf_big {σ : St} {m : Nat} (h : MS σ m) : gF σ 16 1 m = some (m + 1) := (sm_gF h.1).trans (congrArg some h.2.1.1)
theorem ld_big {σ : St} {m j : Nat} (h : MS σ m) (hj : j < 15000) : ldI σ (m + 1) (nI j) = some (sA σ (m + 1) j) := sm_ld h.2.1.2.1 (by rw [h.2.1.2.2]; exact hj) (by omega)
theorem st_big {σ : St} {m j : Nat} {v : Int32} (h : MS σ m) (hj : j < 15000) : stI σ (m + 1) (nI j) v = some (wA σ (m + 1) j v) := sm_st h.2.1.2.1 (by rw [h.2.1.2.2]; exact hj) (by omega)
theorem rf_wide {σ : St} {m : Nat} (h : MS σ m) : gF σ 16 2 m = some (m + 2) := (sm_gF h.1).trans (congrArg some h.2.2.1.1)
theorem ld_wide {σ : St} {m j : Nat} (h : MS σ m) (hj : j < 15) : ldI σ (m + 2) (nI j) = some (sA σ (m + 2) j) := sm_ld h.2.2.1.2.1 (by rw [h.2.2.1.2.2]; exact hj) (by omega)
theorem st_wide {σ : St} {m j : Nat} {v : Int32} (h : MS σ m) (hj : j < 15) : stI σ (m + 2) (nI j) v = some (wA σ (m + 2) j v) := sm_st h.2.2.1.2.1 (by rw [h.2.2.1.2.2]; exact hj) (by omega)
theorem rf_sign {σ : St} {m : Nat} (h : MS σ m) : gF σ 16 3 m = some (m + 3) := (sm_gF h.1).trans (congrArg some h.2.2.2.1.1)
theorem ld_sign {σ : St} {m j : Nat} (h : MS σ m) (hj : j < 12600) : ldI σ (m + 3) (nI j) = some (sA σ (m + 3) j) := sm_ld h.2.2.2.1.2.1 (by rw [h.2.2.2.1.2.2]; exact hj) (by omega)
theorem st_sign {σ : St} {m j : Nat} {v : Int32} (h : MS σ m) (hj : j < 12600) : stI σ (m + 3) (nI j) v = some (wA σ (m + 3) j v) := sm_st h.2.2.2.1.2.1 (by rw [h.2.2.2.1.2.2]; exact hj) (by omega)
theorem rf_part {σ : St} {m : Nat} (h : MS σ m) : gF σ 16 4 m = some (m + 4) := (sm_gF h.1).trans (congrArg some h.2.2.2.2.1.1)
theorem ld_part {σ : St} {m j : Nat} (h : MS σ m) (hj : j < 201600) : ldI σ (m + 4) (nI j) = some (sA σ (m + 4) j) := sm_ld h.2.2.2.2.1.2.1 (by rw [h.2.2.2.2.1.2.2]; exact hj) (by omega)
theorem st_part {σ : St} {m j : Nat} {v : Int32} (h : MS σ m) (hj : j < 201600) : stI σ (m + 4) (nI j) v = some (wA σ (m + 4) j v) := sm_st h.2.2.2.2.1.2.1 (by rw [h.2.2.2.2.1.2.2]; exact hj) (by omega)
theorem rf_tape {σ : St} {m : Nat} (h : MS σ m) : gF σ 16 7 m = some (m + 5) := (sm_gF h.1).trans (congrArg some h.2.2.2.2.2.1.1)
theorem ld_tape {σ : St} {m j : Nat} (h : MS σ m) (hj : j < 200) : ldI σ (m + 5) (nI j) = some (sA σ (m + 5) j) := sm_ld h.2.2.2.2.2.1.2.1 (by rw [h.2.2.2.2.2.1.2.2]; exact hj) (by omega)
theorem st_tape {σ : St} {m j : Nat} {v : Int32} (h : MS σ m) (hj : j < 200) : stI σ (m + 5) (nI j) v = some (wA σ (m + 5) j v) := sm_st h.2.2.2.2.2.1.2.1 (by rw [h.2.2.2.2.2.1.2.2]; exact hj) (by omega)
theorem rf_item {σ : St} {m : Nat} (h : MS σ m) : gF σ 16 17 m = some (m + 6) := (sm_gF h.1).trans (congrArg some h.2.2.2.2.2.2.1.1)
theorem ld_item {σ : St} {m j : Nat} (h : MS σ m) (hj : j < 12000) : ldI σ (m + 6) (nI j) = some (sA σ (m + 6) j) := sm_ld h.2.2.2.2.2.2.1.2.1 (by rw [h.2.2.2.2.2.2.1.2.2]; exact hj) (by omega)
theorem st_item {σ : St} {m j : Nat} {v : Int32} (h : MS σ m) (hj : j < 12000) : stI σ (m + 6) (nI j) v = some (wA σ (m + 6) j v) := sm_st h.2.2.2.2.2.2.1.2.1 (by rw [h.2.2.2.2.2.2.1.2.2]; exact hj) (by omega)
theorem rf_which {σ : St} {m : Nat} (h : MS σ m) : gF σ 16 18 m = some (m + 7) := (sm_gF h.1).trans (congrArg some h.2.2.2.2.2.2.2.1.1)
theorem ld_which {σ : St} {m j : Nat} (h : MS σ m) (hj : j < 12000) : ldI σ (m + 7) (nI j) = some (sA σ (m + 7) j) := sm_ld h.2.2.2.2.2.2.2.1.2.1 (by rw [h.2.2.2.2.2.2.2.1.2.2]; exact hj) (by omega)
theorem st_which {σ : St} {m j : Nat} {v : Int32} (h : MS σ m) (hj : j < 12000) : stI σ (m + 7) (nI j) v = some (wA σ (m + 7) j v) := sm_st h.2.2.2.2.2.2.2.1.2.1 (by rw [h.2.2.2.2.2.2.2.1.2.2]; exact hj) (by omega)
theorem rf_with {σ : St} {m : Nat} (h : MS σ m) : gF σ 16 19 m = some (m + 8) := (sm_gF h.1).trans (congrArg some h.2.2.2.2.2.2.2.2.1.1)
theorem ld_with {σ : St} {m j : Nat} (h : MS σ m) (hj : j < 12000) : ldI σ (m + 8) (nI j) = some (sA σ (m + 8) j) := sm_ld h.2.2.2.2.2.2.2.2.1.2.1 (by rw [h.2.2.2.2.2.2.2.2.1.2.2]; exact hj) (by omega)
theorem st_with {σ : St} {m j : Nat} {v : Int32} (h : MS σ m) (hj : j < 12000) : stI σ (m + 8) (nI j) v = some (wA σ (m + 8) j v) := sm_st h.2.2.2.2.2.2.2.2.1.2.1 (by rw [h.2.2.2.2.2.2.2.2.1.2.2]; exact hj) (by omega)
theorem rf_where {σ : St} {m : Nat} (h : MS σ m) : gF σ 16 20 m = some (m + 9) := (sm_gF h.1).trans (congrArg some h.2.2.2.2.2.2.2.2.2.1.1)
theorem ld_where {σ : St} {m j : Nat} (h : MS σ m) (hj : j < 12000) : ldI σ (m + 9) (nI j) = some (sA σ (m + 9) j) := sm_ld h.2.2.2.2.2.2.2.2.2.1.2.1 (by rw [h.2.2.2.2.2.2.2.2.2.1.2.2]; exact hj) (by omega)
theorem st_where {σ : St} {m j : Nat} {v : Int32} (h : MS σ m) (hj : j < 12000) : stI σ (m + 9) (nI j) v = some (wA σ (m + 9) j v) := sm_st h.2.2.2.2.2.2.2.2.2.1.2.1 (by rw [h.2.2.2.2.2.2.2.2.2.1.2.2]; exact hj) (by omega)
theorem rf_defStart {σ : St} {m : Nat} (h : MS σ m) : gF σ 16 22 m = some (m + 10) := (sm_gF h.1).trans (congrArg some h.2.2.2.2.2.2.2.2.2.2.1.1)
theorem ld_defStart {σ : St} {m j : Nat} (h : MS σ m) (hj : j < 600) : ldI σ (m + 10) (nI j) = some (sA σ (m + 10) j) := sm_ld h.2.2.2.2.2.2.2.2.2.2.1.2.1 (by rw [h.2.2.2.2.2.2.2.2.2.2.1.2.2]; exact hj) (by omega)
theorem st_defStart {σ : St} {m j : Nat} {v : Int32} (h : MS σ m) (hj : j < 600) : stI σ (m + 10) (nI j) v = some (wA σ (m + 10) j v) := sm_st h.2.2.2.2.2.2.2.2.2.2.1.2.1 (by rw [h.2.2.2.2.2.2.2.2.2.2.1.2.2]; exact hj) (by omega)
theorem rf_defEnd {σ : St} {m : Nat} (h : MS σ m) : gF σ 16 23 m = some (m + 11) := (sm_gF h.1).trans (congrArg some h.2.2.2.2.2.2.2.2.2.2.2.1.1)
theorem ld_defEnd {σ : St} {m j : Nat} (h : MS σ m) (hj : j < 600) : ldI σ (m + 11) (nI j) = some (sA σ (m + 11) j) := sm_ld h.2.2.2.2.2.2.2.2.2.2.2.1.2.1 (by rw [h.2.2.2.2.2.2.2.2.2.2.2.1.2.2]; exact hj) (by omega)
theorem st_defEnd {σ : St} {m j : Nat} {v : Int32} (h : MS σ m) (hj : j < 600) : stI σ (m + 11) (nI j) v = some (wA σ (m + 11) j v) := sm_st h.2.2.2.2.2.2.2.2.2.2.2.1.2.1 (by rw [h.2.2.2.2.2.2.2.2.2.2.2.1.2.2]; exact hj) (by omega)
theorem rf_defPar {σ : St} {m : Nat} (h : MS σ m) : gF σ 16 24 m = some (m + 12) := (sm_gF h.1).trans (congrArg some h.2.2.2.2.2.2.2.2.2.2.2.2.1.1)
theorem ld_defPar {σ : St} {m j : Nat} (h : MS σ m) (hj : j < 600) : ldI σ (m + 12) (nI j) = some (sA σ (m + 12) j) := sm_ld h.2.2.2.2.2.2.2.2.2.2.2.2.1.2.1 (by rw [h.2.2.2.2.2.2.2.2.2.2.2.2.1.2.2]; exact hj) (by omega)
theorem st_defPar {σ : St} {m j : Nat} {v : Int32} (h : MS σ m) (hj : j < 600) : stI σ (m + 12) (nI j) v = some (wA σ (m + 12) j v) := sm_st h.2.2.2.2.2.2.2.2.2.2.2.2.1.2.1 (by rw [h.2.2.2.2.2.2.2.2.2.2.2.2.1.2.2]; exact hj) (by omega)
theorem rf_waits {σ : St} {m : Nat} (h : MS σ m) : gF σ 16 26 m = some (m + 13) := (sm_gF h.1).trans (congrArg some h.2.2.2.2.2.2.2.2.2.2.2.2.2.1.1)
theorem ld_waits {σ : St} {m j : Nat} (h : MS σ m) (hj : j < 210) : ldI σ (m + 13) (nI j) = some (sA σ (m + 13) j) := sm_ld h.2.2.2.2.2.2.2.2.2.2.2.2.2.1.2.1 (by rw [h.2.2.2.2.2.2.2.2.2.2.2.2.2.1.2.2]; exact hj) (by omega)
theorem st_waits {σ : St} {m j : Nat} {v : Int32} (h : MS σ m) (hj : j < 210) : stI σ (m + 13) (nI j) v = some (wA σ (m + 13) j v) := sm_st h.2.2.2.2.2.2.2.2.2.2.2.2.2.1.2.1 (by rw [h.2.2.2.2.2.2.2.2.2.2.2.2.2.1.2.2]; exact hj) (by omega)
theorem rf_waitsAt {σ : St} {m : Nat} (h : MS σ m) : gF σ 16 27 m = some (m + 14) := (sm_gF h.1).trans (congrArg some h.2.2.2.2.2.2.2.2.2.2.2.2.2.2.1.1)
theorem ld_waitsAt {σ : St} {m j : Nat} (h : MS σ m) (hj : j < 210) : ldI σ (m + 14) (nI j) = some (sA σ (m + 14) j) := sm_ld h.2.2.2.2.2.2.2.2.2.2.2.2.2.2.1.2.1 (by rw [h.2.2.2.2.2.2.2.2.2.2.2.2.2.2.1.2.2]; exact hj) (by omega)
theorem st_waitsAt {σ : St} {m j : Nat} {v : Int32} (h : MS σ m) (hj : j < 210) : stI σ (m + 14) (nI j) v = some (wA σ (m + 14) j v) := sm_st h.2.2.2.2.2.2.2.2.2.2.2.2.2.2.1.2.1 (by rw [h.2.2.2.2.2.2.2.2.2.2.2.2.2.2.1.2.2]; exact hj) (by omega)
theorem rf_waitsWord {σ : St} {m : Nat} (h : MS σ m) : gF σ 16 28 m = some (m + 15) := (sm_gF h.1).trans (congrArg some h.2.2.2.2.2.2.2.2.2.2.2.2.2.2.2.1.1)
theorem ld_waitsWord {σ : St} {m j : Nat} (h : MS σ m) (hj : j < 210) : ldI σ (m + 15) (nI j) = some (sA σ (m + 15) j) := sm_ld h.2.2.2.2.2.2.2.2.2.2.2.2.2.2.2.1.2.1 (by rw [h.2.2.2.2.2.2.2.2.2.2.2.2.2.2.2.1.2.2]; exact hj) (by omega)
theorem st_waitsWord {σ : St} {m j : Nat} {v : Int32} (h : MS σ m) (hj : j < 210) : stI σ (m + 15) (nI j) v = some (wA σ (m + 15) j v) := sm_st h.2.2.2.2.2.2.2.2.2.2.2.2.2.2.2.1.2.1 (by rw [h.2.2.2.2.2.2.2.2.2.2.2.2.2.2.2.1.2.2]; exact hj) (by omega)
theorem rf_waitsMany {σ : St} {m : Nat} (h : MS σ m) : gF σ 16 29 m = some (m + 16) := (sm_gF h.1).trans (congrArg some h.2.2.2.2.2.2.2.2.2.2.2.2.2.2.2.2.1.1)
theorem ld_waitsMany {σ : St} {m j : Nat} (h : MS σ m) (hj : j < 210) : ldI σ (m + 16) (nI j) = some (sA σ (m + 16) j) := sm_ld h.2.2.2.2.2.2.2.2.2.2.2.2.2.2.2.2.1.2.1 (by rw [h.2.2.2.2.2.2.2.2.2.2.2.2.2.2.2.2.1.2.2]; exact hj) (by omega)
theorem st_waitsMany {σ : St} {m j : Nat} {v : Int32} (h : MS σ m) (hj : j < 210) : stI σ (m + 16) (nI j) v = some (wA σ (m + 16) j v) := sm_st h.2.2.2.2.2.2.2.2.2.2.2.2.2.2.2.2.1.2.1 (by rw [h.2.2.2.2.2.2.2.2.2.2.2.2.2.2.2.2.1.2.2]; exact hj) (by omega)
theorem rf_parameter {σ : St} {m : Nat} (h : MS σ m) : gF σ 16 36 m = some (m + 17) := (sm_gF h.1).trans (congrArg some h.2.2.2.2.2.2.2.2.2.2.2.2.2.2.2.2.2.1.1)
theorem ld_parameter {σ : St} {m j : Nat} (h : MS σ m) (hj : j < 4) : ldI σ (m + 17) (nI j) = some (sA σ (m + 17) j) := sm_ld h.2.2.2.2.2.2.2.2.2.2.2.2.2.2.2.2.2.1.2.1 (by rw [h.2.2.2.2.2.2.2.2.2.2.2.2.2.2.2.2.2.1.2.2]; exact hj) (by omega)
theorem st_parameter {σ : St} {m j : Nat} {v : Int32} (h : MS σ m) (hj : j < 4) : stI σ (m + 17) (nI j) v = some (wA σ (m + 17) j v) := sm_st h.2.2.2.2.2.2.2.2.2.2.2.2.2.2.2.2.2.1.2.1 (by rw [h.2.2.2.2.2.2.2.2.2.2.2.2.2.2.2.2.2.1.2.2]; exact hj) (by omega)
theorem rf_word {σ : St} {m : Nat} (h : MS σ m) : gF σ 16 37 m = some (m + 18) := (sm_gF h.1).trans (congrArg some h.2.2.2.2.2.2.2.2.2.2.2.2.2.2.2.2.2.2.1.1)
theorem ld_word {σ : St} {m j : Nat} (h : MS σ m) (hj : j < 30) : ldI σ (m + 18) (nI j) = some (sA σ (m + 18) j) := sm_ld h.2.2.2.2.2.2.2.2.2.2.2.2.2.2.2.2.2.2.1.2.1 (by rw [h.2.2.2.2.2.2.2.2.2.2.2.2.2.2.2.2.2.2.1.2.2]; exact hj) (by omega)
theorem st_word {σ : St} {m j : Nat} {v : Int32} (h : MS σ m) (hj : j < 30) : stI σ (m + 18) (nI j) v = some (wA σ (m + 18) j v) := sm_st h.2.2.2.2.2.2.2.2.2.2.2.2.2.2.2.2.2.2.1.2.1 (by rw [h.2.2.2.2.2.2.2.2.2.2.2.2.2.2.2.2.2.2.1.2.2]; exact hj) (by omega)
theorem rf_def {σ : St} {m : Nat} (h : MS σ m) : gF σ 16 38 m = some (m + 19) := (sm_gF h.1).trans (congrArg some h.2.2.2.2.2.2.2.2.2.2.2.2.2.2.2.2.2.2.2.1.1)
theorem ld_def {σ : St} {m j : Nat} (h : MS σ m) (hj : j < 30) : ldI σ (m + 19) (nI j) = some (sA σ (m + 19) j) := sm_ld h.2.2.2.2.2.2.2.2.2.2.2.2.2.2.2.2.2.2.2.1.2.1 (by rw [h.2.2.2.2.2.2.2.2.2.2.2.2.2.2.2.2.2.2.2.1.2.2]; exact hj) (by omega)
theorem st_def {σ : St} {m j : Nat} {v : Int32} (h : MS σ m) (hj : j < 30) : stI σ (m + 19) (nI j) v = some (wA σ (m + 19) j v) := sm_st h.2.2.2.2.2.2.2.2.2.2.2.2.2.2.2.2.2.2.2.1.2.1 (by rw [h.2.2.2.2.2.2.2.2.2.2.2.2.2.2.2.2.2.2.2.1.2.2]; exact hj) (by omega)
theorem rf_valueOf {σ : St} {m : Nat} (h : MS σ m) : gF σ 16 39 m = some (m + 20) := (sm_gF h.1).trans (congrArg some h.2.2.2.2.2.2.2.2.2.2.2.2.2.2.2.2.2.2.2.2.1.1)
theorem ld_valueOf {σ : St} {m j : Nat} (h : MS σ m) (hj : j < 30) : ldI σ (m + 20) (nI j) = some (sA σ (m + 20) j) := sm_ld h.2.2.2.2.2.2.2.2.2.2.2.2.2.2.2.2.2.2.2.2.1.2.1 (by rw [h.2.2.2.2.2.2.2.2.2.2.2.2.2.2.2.2.2.2.2.2.1.2.2]; exact hj) (by omega)
theorem st_valueOf {σ : St} {m j : Nat} {v : Int32} (h : MS σ m) (hj : j < 30) : stI σ (m + 20) (nI j) v = some (wA σ (m + 20) j v) := sm_st h.2.2.2.2.2.2.2.2.2.2.2.2.2.2.2.2.2.2.2.2.1.2.1 (by rw [h.2.2.2.2.2.2.2.2.2.2.2.2.2.2.2.2.2.2.2.2.1.2.2]; exact hj) (by omega)
theorem rf_isUsed {σ : St} {m : Nat} (h : MS σ m) : gF σ 16 42 m = some (m + 21) := (sm_gF h.1).trans (congrArg some h.2.2.2.2.2.2.2.2.2.2.2.2.2.2.2.2.2.2.2.2.2.1.1)
theorem ldb_isUsed {σ : St} {m j : Nat} (h : MS σ m) (hj : j < 30) : ldB σ 2 (m + 21) (nI j) = some (sA σ (m + 21) j) := by
  unfold ldB
  rw [if_pos ⟨h.2.2.2.2.2.2.2.2.2.2.2.2.2.2.2.2.2.2.2.2.2.1.2.1, sm_inb (by rw [h.2.2.2.2.2.2.2.2.2.2.2.2.2.2.2.2.2.2.2.2.2.1.2.2]; exact hj) (by omega)⟩, sm_clamp (by omega)]
theorem stb_isUsed {σ : St} {m j : Nat} {v : Int32} (h : MS σ m) (hj : j < 30) (hv : v = nI 0 ∨ v = nI 1) : stZ σ (m + 21) (nI j) v = some (wA σ (m + 21) j v) := by
  unfold stZ
  rw [if_pos ⟨h.2.2.2.2.2.2.2.2.2.2.2.2.2.2.2.2.2.2.2.2.2.1.2.1, sm_inb (by rw [h.2.2.2.2.2.2.2.2.2.2.2.2.2.2.2.2.2.2.2.2.2.1.2.2]; exact hj) (by omega), hv⟩, sm_clamp (by omega)]
theorem rf_stack {σ : St} {m : Nat} (h : MS σ m) : gF σ 16 47 m = some (m + 22) := (sm_gF h.1).trans (congrArg some h.2.2.2.2.2.2.2.2.2.2.2.2.2.2.2.2.2.2.2.2.2.2.1.1)
theorem ld_stack {σ : St} {m j : Nat} (h : MS σ m) (hj : j < 2000) : ldI σ (m + 22) (nI j) = some (sA σ (m + 22) j) := sm_ld h.2.2.2.2.2.2.2.2.2.2.2.2.2.2.2.2.2.2.2.2.2.2.1.2.1 (by rw [h.2.2.2.2.2.2.2.2.2.2.2.2.2.2.2.2.2.2.2.2.2.2.1.2.2]; exact hj) (by omega)
theorem st_stack {σ : St} {m j : Nat} {v : Int32} (h : MS σ m) (hj : j < 2000) : stI σ (m + 22) (nI j) v = some (wA σ (m + 22) j v) := sm_st h.2.2.2.2.2.2.2.2.2.2.2.2.2.2.2.2.2.2.2.2.2.2.1.2.1 (by rw [h.2.2.2.2.2.2.2.2.2.2.2.2.2.2.2.2.2.2.2.2.2.2.1.2.2]; exact hj) (by omega)
theorem rf_stepKind {σ : St} {m : Nat} (h : MS σ m) : gF σ 16 48 m = some (m + 23) := (sm_gF h.1).trans (congrArg some h.2.2.2.2.2.2.2.2.2.2.2.2.2.2.2.2.2.2.2.2.2.2.2.1.1)
theorem ld_stepKind {σ : St} {m j : Nat} (h : MS σ m) (hj : j < 200) : ldI σ (m + 23) (nI j) = some (sA σ (m + 23) j) := sm_ld h.2.2.2.2.2.2.2.2.2.2.2.2.2.2.2.2.2.2.2.2.2.2.2.1.2.1 (by rw [h.2.2.2.2.2.2.2.2.2.2.2.2.2.2.2.2.2.2.2.2.2.2.2.1.2.2]; exact hj) (by omega)
theorem st_stepKind {σ : St} {m j : Nat} {v : Int32} (h : MS σ m) (hj : j < 200) : stI σ (m + 23) (nI j) v = some (wA σ (m + 23) j v) := sm_st h.2.2.2.2.2.2.2.2.2.2.2.2.2.2.2.2.2.2.2.2.2.2.2.1.2.1 (by rw [h.2.2.2.2.2.2.2.2.2.2.2.2.2.2.2.2.2.2.2.2.2.2.2.1.2.2]; exact hj) (by omega)
theorem rf_stepValue {σ : St} {m : Nat} (h : MS σ m) : gF σ 16 49 m = some (m + 24) := (sm_gF h.1).trans (congrArg some h.2.2.2.2.2.2.2.2.2.2.2.2.2.2.2.2.2.2.2.2.2.2.2.2.1.1)
theorem ld_stepValue {σ : St} {m j : Nat} (h : MS σ m) (hj : j < 200) : ldI σ (m + 24) (nI j) = some (sA σ (m + 24) j) := sm_ld h.2.2.2.2.2.2.2.2.2.2.2.2.2.2.2.2.2.2.2.2.2.2.2.2.1.2.1 (by rw [h.2.2.2.2.2.2.2.2.2.2.2.2.2.2.2.2.2.2.2.2.2.2.2.2.1.2.2]; exact hj) (by omega)
theorem st_stepValue {σ : St} {m j : Nat} {v : Int32} (h : MS σ m) (hj : j < 200) : stI σ (m + 24) (nI j) v = some (wA σ (m + 24) j v) := sm_st h.2.2.2.2.2.2.2.2.2.2.2.2.2.2.2.2.2.2.2.2.2.2.2.2.1.2.1 (by rw [h.2.2.2.2.2.2.2.2.2.2.2.2.2.2.2.2.2.2.2.2.2.2.2.2.1.2.2]; exact hj) (by omega)
theorem rf_shownKind {σ : St} {m : Nat} (h : MS σ m) : gF σ 16 50 m = some (m + 25) := (sm_gF h.1).trans (congrArg some h.2.2.2.2.2.2.2.2.2.2.2.2.2.2.2.2.2.2.2.2.2.2.2.2.2.1.1)
theorem ld_shownKind {σ : St} {m j : Nat} (h : MS σ m) (hj : j < 200) : ldI σ (m + 25) (nI j) = some (sA σ (m + 25) j) := sm_ld h.2.2.2.2.2.2.2.2.2.2.2.2.2.2.2.2.2.2.2.2.2.2.2.2.2.1.2.1 (by rw [h.2.2.2.2.2.2.2.2.2.2.2.2.2.2.2.2.2.2.2.2.2.2.2.2.2.1.2.2]; exact hj) (by omega)
theorem st_shownKind {σ : St} {m j : Nat} {v : Int32} (h : MS σ m) (hj : j < 200) : stI σ (m + 25) (nI j) v = some (wA σ (m + 25) j v) := sm_st h.2.2.2.2.2.2.2.2.2.2.2.2.2.2.2.2.2.2.2.2.2.2.2.2.2.1.2.1 (by rw [h.2.2.2.2.2.2.2.2.2.2.2.2.2.2.2.2.2.2.2.2.2.2.2.2.2.1.2.2]; exact hj) (by omega)
theorem rf_backAt {σ : St} {m : Nat} (h : MS σ m) : gF σ 16 51 m = some (m + 26) := (sm_gF h.1).trans (congrArg some h.2.2.2.2.2.2.2.2.2.2.2.2.2.2.2.2.2.2.2.2.2.2.2.2.2.2.1.1)
theorem ld_backAt {σ : St} {m j : Nat} (h : MS σ m) (hj : j < 40) : ldI σ (m + 26) (nI j) = some (sA σ (m + 26) j) := sm_ld h.2.2.2.2.2.2.2.2.2.2.2.2.2.2.2.2.2.2.2.2.2.2.2.2.2.2.1.2.1 (by rw [h.2.2.2.2.2.2.2.2.2.2.2.2.2.2.2.2.2.2.2.2.2.2.2.2.2.2.1.2.2]; exact hj) (by omega)
theorem st_backAt {σ : St} {m j : Nat} {v : Int32} (h : MS σ m) (hj : j < 40) : stI σ (m + 26) (nI j) v = some (wA σ (m + 26) j v) := sm_st h.2.2.2.2.2.2.2.2.2.2.2.2.2.2.2.2.2.2.2.2.2.2.2.2.2.2.1.2.1 (by rw [h.2.2.2.2.2.2.2.2.2.2.2.2.2.2.2.2.2.2.2.2.2.2.2.2.2.2.1.2.2]; exact hj) (by omega)
theorem rf_backEnd {σ : St} {m : Nat} (h : MS σ m) : gF σ 16 52 m = some (m + 27) := (sm_gF h.1).trans (congrArg some h.2.2.2.2.2.2.2.2.2.2.2.2.2.2.2.2.2.2.2.2.2.2.2.2.2.2.2.1.1)
theorem ld_backEnd {σ : St} {m j : Nat} (h : MS σ m) (hj : j < 40) : ldI σ (m + 27) (nI j) = some (sA σ (m + 27) j) := sm_ld h.2.2.2.2.2.2.2.2.2.2.2.2.2.2.2.2.2.2.2.2.2.2.2.2.2.2.2.1.2.1 (by rw [h.2.2.2.2.2.2.2.2.2.2.2.2.2.2.2.2.2.2.2.2.2.2.2.2.2.2.2.1.2.2]; exact hj) (by omega)
theorem st_backEnd {σ : St} {m j : Nat} {v : Int32} (h : MS σ m) (hj : j < 40) : stI σ (m + 27) (nI j) v = some (wA σ (m + 27) j v) := sm_st h.2.2.2.2.2.2.2.2.2.2.2.2.2.2.2.2.2.2.2.2.2.2.2.2.2.2.2.1.2.1 (by rw [h.2.2.2.2.2.2.2.2.2.2.2.2.2.2.2.2.2.2.2.2.2.2.2.2.2.2.2.1.2.2]; exact hj) (by omega)
theorem rf_bottom {σ : St} {m : Nat} (h : MS σ m) : gF σ 16 53 m = some (m + 28) := (sm_gF h.1).trans (congrArg some h.2.2.2.2.2.2.2.2.2.2.2.2.2.2.2.2.2.2.2.2.2.2.2.2.2.2.2.2.1.1)
theorem ld_bottom {σ : St} {m j : Nat} (h : MS σ m) (hj : j < 40) : ldI σ (m + 28) (nI j) = some (sA σ (m + 28) j) := sm_ld h.2.2.2.2.2.2.2.2.2.2.2.2.2.2.2.2.2.2.2.2.2.2.2.2.2.2.2.2.1.2.1 (by rw [h.2.2.2.2.2.2.2.2.2.2.2.2.2.2.2.2.2.2.2.2.2.2.2.2.2.2.2.2.1.2.2]; exact hj) (by omega)
theorem st_bottom {σ : St} {m j : Nat} {v : Int32} (h : MS σ m) (hj : j < 40) : stI σ (m + 28) (nI j) v = some (wA σ (m + 28) j v) := sm_st h.2.2.2.2.2.2.2.2.2.2.2.2.2.2.2.2.2.2.2.2.2.2.2.2.2.2.2.2.1.2.1 (by rw [h.2.2.2.2.2.2.2.2.2.2.2.2.2.2.2.2.2.2.2.2.2.2.2.2.2.2.2.2.1.2.2]; exact hj) (by omega)
theorem rf_outer {σ : St} {m : Nat} (h : MS σ m) : gF σ 16 54 m = some (m + 29) := (sm_gF h.1).trans (congrArg some h.2.2.2.2.2.2.2.2.2.2.2.2.2.2.2.2.2.2.2.2.2.2.2.2.2.2.2.2.2.1.1)
theorem ld_outer {σ : St} {m j : Nat} (h : MS σ m) (hj : j < 40) : ldI σ (m + 29) (nI j) = some (sA σ (m + 29) j) := sm_ld h.2.2.2.2.2.2.2.2.2.2.2.2.2.2.2.2.2.2.2.2.2.2.2.2.2.2.2.2.2.1.2.1 (by rw [h.2.2.2.2.2.2.2.2.2.2.2.2.2.2.2.2.2.2.2.2.2.2.2.2.2.2.2.2.2.1.2.2]; exact hj) (by omega)
theorem st_outer {σ : St} {m j : Nat} {v : Int32} (h : MS σ m) (hj : j < 40) : stI σ (m + 29) (nI j) v = some (wA σ (m + 29) j v) := sm_st h.2.2.2.2.2.2.2.2.2.2.2.2.2.2.2.2.2.2.2.2.2.2.2.2.2.2.2.2.2.1.2.1 (by rw [h.2.2.2.2.2.2.2.2.2.2.2.2.2.2.2.2.2.2.2.2.2.2.2.2.2.2.2.2.2.1.2.2]; exact hj) (by omega)
theorem rf_wasWord {σ : St} {m : Nat} (h : MS σ m) : gF σ 16 58 m = some (m + 30) := (sm_gF h.1).trans (congrArg some h.2.2.2.2.2.2.2.2.2.2.2.2.2.2.2.2.2.2.2.2.2.2.2.2.2.2.2.2.2.2.1.1)
theorem ld_wasWord {σ : St} {m j : Nat} (h : MS σ m) (hj : j < 30) : ldI σ (m + 30) (nI j) = some (sA σ (m + 30) j) := sm_ld h.2.2.2.2.2.2.2.2.2.2.2.2.2.2.2.2.2.2.2.2.2.2.2.2.2.2.2.2.2.2.1.2.1 (by rw [h.2.2.2.2.2.2.2.2.2.2.2.2.2.2.2.2.2.2.2.2.2.2.2.2.2.2.2.2.2.2.1.2.2]; exact hj) (by omega)
theorem st_wasWord {σ : St} {m j : Nat} {v : Int32} (h : MS σ m) (hj : j < 30) : stI σ (m + 30) (nI j) v = some (wA σ (m + 30) j v) := sm_st h.2.2.2.2.2.2.2.2.2.2.2.2.2.2.2.2.2.2.2.2.2.2.2.2.2.2.2.2.2.2.1.2.1 (by rw [h.2.2.2.2.2.2.2.2.2.2.2.2.2.2.2.2.2.2.2.2.2.2.2.2.2.2.2.2.2.2.1.2.2]; exact hj) (by omega)
theorem rf_wasDef {σ : St} {m : Nat} (h : MS σ m) : gF σ 16 59 m = some (m + 31) := (sm_gF h.1).trans (congrArg some h.2.2.2.2.2.2.2.2.2.2.2.2.2.2.2.2.2.2.2.2.2.2.2.2.2.2.2.2.2.2.2.1.1)
theorem ld_wasDef {σ : St} {m j : Nat} (h : MS σ m) (hj : j < 30) : ldI σ (m + 31) (nI j) = some (sA σ (m + 31) j) := sm_ld h.2.2.2.2.2.2.2.2.2.2.2.2.2.2.2.2.2.2.2.2.2.2.2.2.2.2.2.2.2.2.2.1.2.1 (by rw [h.2.2.2.2.2.2.2.2.2.2.2.2.2.2.2.2.2.2.2.2.2.2.2.2.2.2.2.2.2.2.2.1.2.2]; exact hj) (by omega)
theorem st_wasDef {σ : St} {m j : Nat} {v : Int32} (h : MS σ m) (hj : j < 30) : stI σ (m + 31) (nI j) v = some (wA σ (m + 31) j v) := sm_st h.2.2.2.2.2.2.2.2.2.2.2.2.2.2.2.2.2.2.2.2.2.2.2.2.2.2.2.2.2.2.2.1.2.1 (by rw [h.2.2.2.2.2.2.2.2.2.2.2.2.2.2.2.2.2.2.2.2.2.2.2.2.2.2.2.2.2.2.2.1.2.2]; exact hj) (by omega)
theorem rf_wasValue {σ : St} {m : Nat} (h : MS σ m) : gF σ 16 60 m = some (m + 32) := (sm_gF h.1).trans (congrArg some h.2.2.2.2.2.2.2.2.2.2.2.2.2.2.2.2.2.2.2.2.2.2.2.2.2.2.2.2.2.2.2.2.1.1)
theorem ld_wasValue {σ : St} {m j : Nat} (h : MS σ m) (hj : j < 30) : ldI σ (m + 32) (nI j) = some (sA σ (m + 32) j) := sm_ld h.2.2.2.2.2.2.2.2.2.2.2.2.2.2.2.2.2.2.2.2.2.2.2.2.2.2.2.2.2.2.2.2.1.2.1 (by rw [h.2.2.2.2.2.2.2.2.2.2.2.2.2.2.2.2.2.2.2.2.2.2.2.2.2.2.2.2.2.2.2.2.1.2.2]; exact hj) (by omega)
theorem st_wasValue {σ : St} {m j : Nat} {v : Int32} (h : MS σ m) (hj : j < 30) : stI σ (m + 32) (nI j) v = some (wA σ (m + 32) j v) := sm_st h.2.2.2.2.2.2.2.2.2.2.2.2.2.2.2.2.2.2.2.2.2.2.2.2.2.2.2.2.2.2.2.2.1.2.1 (by rw [h.2.2.2.2.2.2.2.2.2.2.2.2.2.2.2.2.2.2.2.2.2.2.2.2.2.2.2.2.2.2.2.2.1.2.2]; exact hj) (by omega)
theorem rf_isLeft {σ : St} {m : Nat} (h : MS σ m) : gF σ 16 63 m = some (m + 33) := (sm_gF h.1).trans (congrArg some h.2.2.2.2.2.2.2.2.2.2.2.2.2.2.2.2.2.2.2.2.2.2.2.2.2.2.2.2.2.2.2.2.2.1.1)
theorem ldb_isLeft {σ : St} {m j : Nat} (h : MS σ m) (hj : j < 20) : ldB σ 2 (m + 33) (nI j) = some (sA σ (m + 33) j) := by
  unfold ldB
  rw [if_pos ⟨h.2.2.2.2.2.2.2.2.2.2.2.2.2.2.2.2.2.2.2.2.2.2.2.2.2.2.2.2.2.2.2.2.2.1.2.1, sm_inb (by rw [h.2.2.2.2.2.2.2.2.2.2.2.2.2.2.2.2.2.2.2.2.2.2.2.2.2.2.2.2.2.2.2.2.2.1.2.2]; exact hj) (by omega)⟩, sm_clamp (by omega)]
theorem stb_isLeft {σ : St} {m j : Nat} {v : Int32} (h : MS σ m) (hj : j < 20) (hv : v = nI 0 ∨ v = nI 1) : stZ σ (m + 33) (nI j) v = some (wA σ (m + 33) j v) := by
  unfold stZ
  rw [if_pos ⟨h.2.2.2.2.2.2.2.2.2.2.2.2.2.2.2.2.2.2.2.2.2.2.2.2.2.2.2.2.2.2.2.2.2.1.2.1, sm_inb (by rw [h.2.2.2.2.2.2.2.2.2.2.2.2.2.2.2.2.2.2.2.2.2.2.2.2.2.2.2.2.2.2.2.2.2.1.2.2]; exact hj) (by omega), hv⟩, sm_clamp (by omega)]
theorem rf_aheadKind {σ : St} {m : Nat} (h : MS σ m) : gF σ 16 64 m = some (m + 34) := (sm_gF h.1).trans (congrArg some h.2.2.2.2.2.2.2.2.2.2.2.2.2.2.2.2.2.2.2.2.2.2.2.2.2.2.2.2.2.2.2.2.2.2.1.1)
theorem ld_aheadKind {σ : St} {m j : Nat} (h : MS σ m) (hj : j < 200) : ldI σ (m + 34) (nI j) = some (sA σ (m + 34) j) := sm_ld h.2.2.2.2.2.2.2.2.2.2.2.2.2.2.2.2.2.2.2.2.2.2.2.2.2.2.2.2.2.2.2.2.2.2.1.2.1 (by rw [h.2.2.2.2.2.2.2.2.2.2.2.2.2.2.2.2.2.2.2.2.2.2.2.2.2.2.2.2.2.2.2.2.2.2.1.2.2]; exact hj) (by omega)
theorem st_aheadKind {σ : St} {m j : Nat} {v : Int32} (h : MS σ m) (hj : j < 200) : stI σ (m + 34) (nI j) v = some (wA σ (m + 34) j v) := sm_st h.2.2.2.2.2.2.2.2.2.2.2.2.2.2.2.2.2.2.2.2.2.2.2.2.2.2.2.2.2.2.2.2.2.2.1.2.1 (by rw [h.2.2.2.2.2.2.2.2.2.2.2.2.2.2.2.2.2.2.2.2.2.2.2.2.2.2.2.2.2.2.2.2.2.2.1.2.2]; exact hj) (by omega)
theorem rf_ringWord {σ : St} {m : Nat} (h : MS σ m) : gF σ 16 66 m = some (m + 35) := (sm_gF h.1).trans (congrArg some h.2.2.2.2.2.2.2.2.2.2.2.2.2.2.2.2.2.2.2.2.2.2.2.2.2.2.2.2.2.2.2.2.2.2.2.1.1)
theorem ld_ringWord {σ : St} {m j : Nat} (h : MS σ m) (hj : j < 30) : ldI σ (m + 35) (nI j) = some (sA σ (m + 35) j) := sm_ld h.2.2.2.2.2.2.2.2.2.2.2.2.2.2.2.2.2.2.2.2.2.2.2.2.2.2.2.2.2.2.2.2.2.2.2.1.2.1 (by rw [h.2.2.2.2.2.2.2.2.2.2.2.2.2.2.2.2.2.2.2.2.2.2.2.2.2.2.2.2.2.2.2.2.2.2.2.1.2.2]; exact hj) (by omega)
theorem st_ringWord {σ : St} {m j : Nat} {v : Int32} (h : MS σ m) (hj : j < 30) : stI σ (m + 35) (nI j) v = some (wA σ (m + 35) j v) := sm_st h.2.2.2.2.2.2.2.2.2.2.2.2.2.2.2.2.2.2.2.2.2.2.2.2.2.2.2.2.2.2.2.2.2.2.2.1.2.1 (by rw [h.2.2.2.2.2.2.2.2.2.2.2.2.2.2.2.2.2.2.2.2.2.2.2.2.2.2.2.2.2.2.2.2.2.2.2.1.2.2]; exact hj) (by omega)
theorem rf_row {σ : St} {m : Nat} (h : MS σ m) : gF σ 16 67 m = some (m + 36) := (sm_gF h.1).trans (congrArg some h.2.2.2.2.2.2.2.2.2.2.2.2.2.2.2.2.2.2.2.2.2.2.2.2.2.2.2.2.2.2.2.2.2.2.2.2.1.1)
theorem ld_row {σ : St} {m j : Nat} (h : MS σ m) (hj : j < 150) : ldI σ (m + 36) (nI j) = some (sA σ (m + 36) j) := sm_ld h.2.2.2.2.2.2.2.2.2.2.2.2.2.2.2.2.2.2.2.2.2.2.2.2.2.2.2.2.2.2.2.2.2.2.2.2.1.2.1 (by rw [h.2.2.2.2.2.2.2.2.2.2.2.2.2.2.2.2.2.2.2.2.2.2.2.2.2.2.2.2.2.2.2.2.2.2.2.2.1.2.2]; exact hj) (by omega)
theorem st_row {σ : St} {m j : Nat} {v : Int32} (h : MS σ m) (hj : j < 150) : stI σ (m + 36) (nI j) v = some (wA σ (m + 36) j v) := sm_st h.2.2.2.2.2.2.2.2.2.2.2.2.2.2.2.2.2.2.2.2.2.2.2.2.2.2.2.2.2.2.2.2.2.2.2.2.1.2.1 (by rw [h.2.2.2.2.2.2.2.2.2.2.2.2.2.2.2.2.2.2.2.2.2.2.2.2.2.2.2.2.2.2.2.2.2.2.2.2.1.2.2]; exact hj) (by omega)
theorem rf_rowMany {σ : St} {m : Nat} (h : MS σ m) : gF σ 16 68 m = some (m + 37) := (sm_gF h.1).trans (congrArg some h.2.2.2.2.2.2.2.2.2.2.2.2.2.2.2.2.2.2.2.2.2.2.2.2.2.2.2.2.2.2.2.2.2.2.2.2.2.1.1)
theorem ld_rowMany {σ : St} {m j : Nat} (h : MS σ m) (hj : j < 3) : ldI σ (m + 37) (nI j) = some (sA σ (m + 37) j) := sm_ld h.2.2.2.2.2.2.2.2.2.2.2.2.2.2.2.2.2.2.2.2.2.2.2.2.2.2.2.2.2.2.2.2.2.2.2.2.2.1.2.1 (by rw [h.2.2.2.2.2.2.2.2.2.2.2.2.2.2.2.2.2.2.2.2.2.2.2.2.2.2.2.2.2.2.2.2.2.2.2.2.2.1.2.2]; exact hj) (by omega)
theorem st_rowMany {σ : St} {m j : Nat} {v : Int32} (h : MS σ m) (hj : j < 3) : stI σ (m + 37) (nI j) v = some (wA σ (m + 37) j v) := sm_st h.2.2.2.2.2.2.2.2.2.2.2.2.2.2.2.2.2.2.2.2.2.2.2.2.2.2.2.2.2.2.2.2.2.2.2.2.2.1.2.1 (by rw [h.2.2.2.2.2.2.2.2.2.2.2.2.2.2.2.2.2.2.2.2.2.2.2.2.2.2.2.2.2.2.2.2.2.2.2.2.2.1.2.2]; exact hj) (by omega)
theorem rf_saved {σ : St} {m : Nat} (h : MS σ m) : gF σ 16 69 m = some (m + 38) := (sm_gF h.1).trans (congrArg some h.2.2.2.2.2.2.2.2.2.2.2.2.2.2.2.2.2.2.2.2.2.2.2.2.2.2.2.2.2.2.2.2.2.2.2.2.2.2.1.1)
theorem ld_saved {σ : St} {m j : Nat} (h : MS σ m) (hj : j < 252) : ldI σ (m + 38) (nI j) = some (sA σ (m + 38) j) := sm_ld h.2.2.2.2.2.2.2.2.2.2.2.2.2.2.2.2.2.2.2.2.2.2.2.2.2.2.2.2.2.2.2.2.2.2.2.2.2.2.1.2.1 (by rw [h.2.2.2.2.2.2.2.2.2.2.2.2.2.2.2.2.2.2.2.2.2.2.2.2.2.2.2.2.2.2.2.2.2.2.2.2.2.2.1.2.2]; exact hj) (by omega)
theorem st_saved {σ : St} {m j : Nat} {v : Int32} (h : MS σ m) (hj : j < 252) : stI σ (m + 38) (nI j) v = some (wA σ (m + 38) j v) := sm_st h.2.2.2.2.2.2.2.2.2.2.2.2.2.2.2.2.2.2.2.2.2.2.2.2.2.2.2.2.2.2.2.2.2.2.2.2.2.2.1.2.1 (by rw [h.2.2.2.2.2.2.2.2.2.2.2.2.2.2.2.2.2.2.2.2.2.2.2.2.2.2.2.2.2.2.2.2.2.2.2.2.2.2.1.2.2]; exact hj) (by omega)
theorem rf_undos {σ : St} {m : Nat} (h : MS σ m) : gF σ 16 70 m = some (m + 39) := (sm_gF h.1).trans (congrArg some h.2.2.2.2.2.2.2.2.2.2.2.2.2.2.2.2.2.2.2.2.2.2.2.2.2.2.2.2.2.2.2.2.2.2.2.2.2.2.2.1.1)
theorem ld_undos {σ : St} {m j : Nat} (h : MS σ m) (hj : j < 5040) : ldI σ (m + 39) (nI j) = some (sA σ (m + 39) j) := sm_ld h.2.2.2.2.2.2.2.2.2.2.2.2.2.2.2.2.2.2.2.2.2.2.2.2.2.2.2.2.2.2.2.2.2.2.2.2.2.2.2.1.2.1 (by rw [h.2.2.2.2.2.2.2.2.2.2.2.2.2.2.2.2.2.2.2.2.2.2.2.2.2.2.2.2.2.2.2.2.2.2.2.2.2.2.2.1.2.2]; exact hj) (by omega)
theorem st_undos {σ : St} {m j : Nat} {v : Int32} (h : MS σ m) (hj : j < 5040) : stI σ (m + 39) (nI j) v = some (wA σ (m + 39) j v) := sm_st h.2.2.2.2.2.2.2.2.2.2.2.2.2.2.2.2.2.2.2.2.2.2.2.2.2.2.2.2.2.2.2.2.2.2.2.2.2.2.2.1.2.1 (by rw [h.2.2.2.2.2.2.2.2.2.2.2.2.2.2.2.2.2.2.2.2.2.2.2.2.2.2.2.2.2.2.2.2.2.2.2.2.2.2.2.1.2.2]; exact hj) (by omega)
theorem rf_redos {σ : St} {m : Nat} (h : MS σ m) : gF σ 16 71 m = some (m + 40) := (sm_gF h.1).trans (congrArg some h.2.2.2.2.2.2.2.2.2.2.2.2.2.2.2.2.2.2.2.2.2.2.2.2.2.2.2.2.2.2.2.2.2.2.2.2.2.2.2.2.1.1)
theorem ld_redos {σ : St} {m j : Nat} (h : MS σ m) (hj : j < 5040) : ldI σ (m + 40) (nI j) = some (sA σ (m + 40) j) := sm_ld h.2.2.2.2.2.2.2.2.2.2.2.2.2.2.2.2.2.2.2.2.2.2.2.2.2.2.2.2.2.2.2.2.2.2.2.2.2.2.2.2.1.2.1 (by rw [h.2.2.2.2.2.2.2.2.2.2.2.2.2.2.2.2.2.2.2.2.2.2.2.2.2.2.2.2.2.2.2.2.2.2.2.2.2.2.2.2.1.2.2]; exact hj) (by omega)
theorem st_redos {σ : St} {m j : Nat} {v : Int32} (h : MS σ m) (hj : j < 5040) : stI σ (m + 40) (nI j) v = some (wA σ (m + 40) j v) := sm_st h.2.2.2.2.2.2.2.2.2.2.2.2.2.2.2.2.2.2.2.2.2.2.2.2.2.2.2.2.2.2.2.2.2.2.2.2.2.2.2.2.1.2.1 (by rw [h.2.2.2.2.2.2.2.2.2.2.2.2.2.2.2.2.2.2.2.2.2.2.2.2.2.2.2.2.2.2.2.2.2.2.2.2.2.2.2.2.1.2.2]; exact hj) (by omega)
theorem rf_slot {σ : St} {m : Nat} (h : MS σ m) : gF σ 16 74 m = some (m + 41) := (sm_gF h.1).trans (congrArg some h.2.2.2.2.2.2.2.2.2.2.2.2.2.2.2.2.2.2.2.2.2.2.2.2.2.2.2.2.2.2.2.2.2.2.2.2.2.2.2.2.2.1.1)
theorem ld_slot {σ : St} {m j : Nat} (h : MS σ m) (hj : j < 10) : ldI σ (m + 41) (nI j) = some (sA σ (m + 41) j) := sm_ld h.2.2.2.2.2.2.2.2.2.2.2.2.2.2.2.2.2.2.2.2.2.2.2.2.2.2.2.2.2.2.2.2.2.2.2.2.2.2.2.2.2.1.2.1 (by rw [h.2.2.2.2.2.2.2.2.2.2.2.2.2.2.2.2.2.2.2.2.2.2.2.2.2.2.2.2.2.2.2.2.2.2.2.2.2.2.2.2.2.1.2.2]; exact hj) (by omega)
theorem st_slot {σ : St} {m j : Nat} {v : Int32} (h : MS σ m) (hj : j < 10) : stI σ (m + 41) (nI j) v = some (wA σ (m + 41) j v) := sm_st h.2.2.2.2.2.2.2.2.2.2.2.2.2.2.2.2.2.2.2.2.2.2.2.2.2.2.2.2.2.2.2.2.2.2.2.2.2.2.2.2.2.1.2.1 (by rw [h.2.2.2.2.2.2.2.2.2.2.2.2.2.2.2.2.2.2.2.2.2.2.2.2.2.2.2.2.2.2.2.2.2.2.2.2.2.2.2.2.2.1.2.2]; exact hj) (by omega)
theorem rf_draft {σ : St} {m : Nat} (h : MS σ m) : gF σ 16 75 m = some (m + 42) := (sm_gF h.1).trans (congrArg some h.2.2.2.2.2.2.2.2.2.2.2.2.2.2.2.2.2.2.2.2.2.2.2.2.2.2.2.2.2.2.2.2.2.2.2.2.2.2.2.2.2.2.1.1)
theorem ld_draft {σ : St} {m j : Nat} (h : MS σ m) (hj : j < 1200) : ldI σ (m + 42) (nI j) = some (sA σ (m + 42) j) := sm_ld h.2.2.2.2.2.2.2.2.2.2.2.2.2.2.2.2.2.2.2.2.2.2.2.2.2.2.2.2.2.2.2.2.2.2.2.2.2.2.2.2.2.2.1.2.1 (by rw [h.2.2.2.2.2.2.2.2.2.2.2.2.2.2.2.2.2.2.2.2.2.2.2.2.2.2.2.2.2.2.2.2.2.2.2.2.2.2.2.2.2.2.1.2.2]; exact hj) (by omega)
theorem st_draft {σ : St} {m j : Nat} {v : Int32} (h : MS σ m) (hj : j < 1200) : stI σ (m + 42) (nI j) v = some (wA σ (m + 42) j v) := sm_st h.2.2.2.2.2.2.2.2.2.2.2.2.2.2.2.2.2.2.2.2.2.2.2.2.2.2.2.2.2.2.2.2.2.2.2.2.2.2.2.2.2.2.1.2.1 (by rw [h.2.2.2.2.2.2.2.2.2.2.2.2.2.2.2.2.2.2.2.2.2.2.2.2.2.2.2.2.2.2.2.2.2.2.2.2.2.2.2.2.2.2.1.2.2]; exact hj) (by omega)
theorem rf_text {σ : St} {m : Nat} (h : MS σ m) : gF σ 16 76 m = some (m + 43) := (sm_gF h.1).trans (congrArg some h.2.2.2.2.2.2.2.2.2.2.2.2.2.2.2.2.2.2.2.2.2.2.2.2.2.2.2.2.2.2.2.2.2.2.2.2.2.2.2.2.2.2.2.1.1)
theorem ld_text {σ : St} {m j : Nat} (h : MS σ m) (hj : j < 300) : ldI σ (m + 43) (nI j) = some (sA σ (m + 43) j) := sm_ld h.2.2.2.2.2.2.2.2.2.2.2.2.2.2.2.2.2.2.2.2.2.2.2.2.2.2.2.2.2.2.2.2.2.2.2.2.2.2.2.2.2.2.2.1.2.1 (by rw [h.2.2.2.2.2.2.2.2.2.2.2.2.2.2.2.2.2.2.2.2.2.2.2.2.2.2.2.2.2.2.2.2.2.2.2.2.2.2.2.2.2.2.2.1.2.2]; exact hj) (by omega)
theorem st_text {σ : St} {m j : Nat} {v : Int32} (h : MS σ m) (hj : j < 300) : stI σ (m + 43) (nI j) v = some (wA σ (m + 43) j v) := sm_st h.2.2.2.2.2.2.2.2.2.2.2.2.2.2.2.2.2.2.2.2.2.2.2.2.2.2.2.2.2.2.2.2.2.2.2.2.2.2.2.2.2.2.2.1.2.1 (by rw [h.2.2.2.2.2.2.2.2.2.2.2.2.2.2.2.2.2.2.2.2.2.2.2.2.2.2.2.2.2.2.2.2.2.2.2.2.2.2.2.2.2.2.2.1.2.2]; exact hj) (by omega)
theorem rf_unit {σ : St} {m : Nat} (h : MS σ m) : gF σ 16 82 m = some (m + 44) := (sm_gF h.1).trans (congrArg some h.2.2.2.2.2.2.2.2.2.2.2.2.2.2.2.2.2.2.2.2.2.2.2.2.2.2.2.2.2.2.2.2.2.2.2.2.2.2.2.2.2.2.2.2.1)
theorem ld_unit {σ : St} {m j : Nat} (h : MS σ m) (hj : j < 8) : ldI σ (m + 44) (nI j) = some (sA σ (m + 44) j) := sm_ld h.2.2.2.2.2.2.2.2.2.2.2.2.2.2.2.2.2.2.2.2.2.2.2.2.2.2.2.2.2.2.2.2.2.2.2.2.2.2.2.2.2.2.2.2.2.1 (by rw [h.2.2.2.2.2.2.2.2.2.2.2.2.2.2.2.2.2.2.2.2.2.2.2.2.2.2.2.2.2.2.2.2.2.2.2.2.2.2.2.2.2.2.2.2.2.2]; exact hj) (by omega)
theorem st_unit {σ : St} {m j : Nat} {v : Int32} (h : MS σ m) (hj : j < 8) : stI σ (m + 44) (nI j) v = some (wA σ (m + 44) j v) := sm_st h.2.2.2.2.2.2.2.2.2.2.2.2.2.2.2.2.2.2.2.2.2.2.2.2.2.2.2.2.2.2.2.2.2.2.2.2.2.2.2.2.2.2.2.2.2.1 (by rw [h.2.2.2.2.2.2.2.2.2.2.2.2.2.2.2.2.2.2.2.2.2.2.2.2.2.2.2.2.2.2.2.2.2.2.2.2.2.2.2.2.2.2.2.2.2.2]; exact hj) (by omega)
theorem rf_gI {σ : St} {m k : Nat} (h : MS σ m) : gI σ 16 k m = some (sI σ (fid 16 k) m) := sm_gI h.1
theorem rf_pI {σ : St} {m k : Nat} {v : Int32} (h : MS σ m) : pI σ 16 k m v = some (wI σ (fid 16 k) m v) := sm_pI h.1
theorem rf_ck {σ : St} {m : Nat} (h : MS σ m) : ckK σ 17 m = some () := sm_ckK h.1
/-- a reference's own step: only ints of its fields and places of its arrays of ints change -/
def rfE (m : Nat) (σ σ' : St) : Prop := (sK σ' = sK σ ∧ sF σ' = sF σ ∧ sN σ' = sN σ ∧ sJ σ' = sJ σ ∧ sQ σ' = sQ σ) ∧ (sz σ' = sz σ ∧ sc σ' = sc σ ∧ sw σ' = sw σ) ∧ (∀ f b, b ≠ m → sI σ' f b = sI σ f b) ∧ ∀ b, (b ≤ m ∨ m + 44 < b) → sA σ' b = sA σ b
theorem rfE.rf {m : Nat} {σ : St} : rfE m σ σ := ⟨⟨rfl, rfl, rfl, rfl, rfl⟩, ⟨rfl, rfl, rfl⟩, fun _ _ _ => rfl, fun _ _ => rfl⟩
theorem rfE.tr {m : Nat} {σ σ1 σ2 : St} (h1 : rfE m σ σ1) (h2 : rfE m σ1 σ2) : rfE m σ σ2 := by
  obtain ⟨⟨a1, a2, a3, a4, a5⟩, ⟨a6, a7, a8⟩, a9, a10⟩ := h1
  obtain ⟨⟨b1, b2, b3, b4, b5⟩, ⟨b6, b7, b8⟩, b9, b10⟩ := h2
  exact ⟨⟨b1.trans a1, b2.trans a2, b3.trans a3, b4.trans a4, b5.trans a5⟩, ⟨b6.trans a6, b7.trans a7, b8.trans a8⟩, fun f b hb => (b9 f b hb).trans (a9 f b hb), fun b hb => (b10 b hb).trans (a10 b hb)⟩
theorem rfE.wA {m j i : Nat} {σ : St} {v : Int32} (h1 : 1 ≤ j ∧ j ≤ 44) : rfE m σ (wA σ (m + j) i v) := ⟨⟨rfl, rfl, rfl, rfl, rfl⟩, ⟨rfl, rfl, rfl⟩, fun _ _ _ => rfl, fun b hb => sA_wA_b (by omega)⟩
theorem rfE.wI {m f : Nat} {σ : St} {v : Int32} : rfE m σ (wI σ f m v) := ⟨⟨rfl, rfl, rfl, rfl, rfl⟩, ⟨rfl, rfl, rfl⟩, fun _ b hb => sI_wI_a hb, fun _ _ => rfl⟩
theorem rfE.keep {m : Nat} {σ σ' : St} (h : rfE m σ σ') (hm : MS σ m) : MS σ' m := by
  unfold MS at hm ⊢
  rw [h.1.1, h.1.2.1, h.1.2.2.1]
  exact hm
