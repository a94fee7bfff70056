set_option maxRecDepth 100000 in
theorem sm_k84 : sm_ok sm_m84 := ⟨sm_okd_of (by decide +kernel), sm_in_ch [(4, 109), (1, 9), (4, 108)] rfl, by decide +kernel, by decide +kernel, by decide +kernel⟩
set_option maxRecDepth 100000 in
theorem sm_k85 : sm_ok sm_m85 := ⟨sm_okd_of (by decide +kernel), sm_in_ch [(5, 34), (1, 9), (5, 32), (5, 33)] rfl, by decide +kernel, by decide +kernel, by decide +kernel⟩
theorem sm_q86_0 : ∀ r ∈ (sm_i86).take 40, decode prog_3_method_4_code r.1 = .ok (r.2.1, r.2.2) := sm_dc (by decide +kernel)
theorem sm_q86_1 : ∀ r ∈ (sm_i86).drop 40, decode prog_3_method_4_code r.1 = .ok (r.2.1, r.2.2) := sm_dc (by decide +kernel)
set_option maxRecDepth 100000 in
theorem sm_k86 : sm_ok sm_m86 := ⟨(sm_td 40 sm_q86_0 (sm_q86_1)), sm_in_ch [(5, 39), (1, 9), (5, 38), (0, 30)] rfl, by decide +kernel, by decide +kernel, by decide +kernel⟩
theorem sm_q87_0 : ∀ r ∈ (sm_i87).take 40, decode prog_3_method_7_code r.1 = .ok (r.2.1, r.2.2) := sm_dc (by decide +kernel)
theorem sm_q87_1 : ∀ r ∈ (sm_i87).drop 40, decode prog_3_method_7_code r.1 = .ok (r.2.1, r.2.2) := sm_dc (by decide +kernel)
set_option maxRecDepth 100000 in
theorem sm_k87 : sm_ok sm_m87 := ⟨(sm_td 40 sm_q87_0 (sm_q87_1)), sm_in_ch [(5, 47), (1, 9), (5, 46), (0, 31)] rfl, by decide +kernel, by decide +kernel, by decide +kernel⟩
set_option maxRecDepth 100000 in
theorem sm_k88 : sm_ok sm_m88 := ⟨sm_okd_of (by decide +kernel), sm_in_ch [(5, 51), (1, 9), (5, 50), (0, 32)] rfl, by decide +kernel, by decide +kernel, by decide +kernel⟩
set_option maxRecDepth 100000 in
theorem sm_k89 : sm_ok sm_m89 := ⟨sm_okd_of (by decide +kernel), sm_in_ch [(5, 57), (1, 9), (5, 56), (0, 33)] rfl, by decide +kernel, by decide +kernel, by decide +kernel⟩
set_option maxRecDepth 100000 in
theorem sm_k90 : sm_ok sm_m90 := ⟨sm_okd_of (by decide +kernel), sm_in_ch [(1, 162), (1, 10), (1, 161)] rfl, by decide +kernel, by decide +kernel, by decide +kernel⟩
theorem sm_q91_0 : ∀ r ∈ (sm_i91).take 40, decode prog_8_method_2_code r.1 = .ok (r.2.1, r.2.2) := sm_dc (by decide +kernel)
theorem sm_q91_1 : ∀ r ∈ (sm_i91).drop 40, decode prog_8_method_2_code r.1 = .ok (r.2.1, r.2.2) := sm_dc (by decide +kernel)
set_option maxRecDepth 100000 in
theorem sm_k91 : sm_ok sm_m91 := ⟨(sm_td 40 sm_q91_0 (sm_q91_1)), sm_in_ch [(4, 56), (1, 10), (4, 54), (4, 55)] rfl, by decide +kernel, by decide +kernel, by decide +kernel⟩
theorem sm_q92_0 : ∀ r ∈ (sm_i92).take 40, decode prog_8_method_4_code r.1 = .ok (r.2.1, r.2.2) := sm_dc (by decide +kernel)
theorem sm_q92_1 : ∀ r ∈ ((sm_i92).drop 40).take 40, decode prog_8_method_4_code r.1 = .ok (r.2.1, r.2.2) := sm_dc (by decide +kernel)
theorem sm_q92_2 : ∀ r ∈ ((sm_i92).drop 40).drop 40, decode prog_8_method_4_code r.1 = .ok (r.2.1, r.2.2) := sm_dc (by decide +kernel)
set_option maxRecDepth 100000 in
theorem sm_k92 : sm_ok sm_m92 := ⟨(sm_td 40 sm_q92_0 (sm_td 40 sm_q92_1 (sm_q92_2))), sm_in_ch [(4, 75), (1, 10), (4, 74), (0, 11)] rfl, by decide +kernel, by decide +kernel, by decide +kernel⟩
set_option maxRecDepth 100000 in
theorem sm_k93 : sm_ok sm_m93 := ⟨sm_okd_of (by decide +kernel), sm_in_ch [(4, 79), (1, 10), (4, 78)] rfl, by decide +kernel, by decide +kernel, by decide +kernel⟩
set_option maxRecDepth 100000 in
theorem sm_k94 : sm_ok sm_m94 := ⟨sm_okd_of (by decide +kernel), sm_in_ch [(4, 82), (1, 10), (4, 81)] rfl, by decide +kernel, by decide +kernel, by decide +kernel⟩
set_option maxRecDepth 100000 in
theorem sm_k95 : sm_ok sm_m95 := ⟨sm_okd_of (by decide +kernel), sm_in_ch [(4, 91), (1, 10), (4, 90), (0, 12)] rfl, by decide +kernel, by decide +kernel, by decide +kernel⟩
theorem sm_q96_0 : ∀ r ∈ (sm_i96).take 40, decode prog_8_method_8_code r.1 = .ok (r.2.1, r.2.2) := sm_dc (by decide +kernel)
theorem sm_q96_1 : ∀ r ∈ (sm_i96).drop 40, decode prog_8_method_8_code r.1 = .ok (r.2.1, r.2.2) := sm_dc (by decide +kernel)
set_option maxRecDepth 100000 in
theorem sm_k96 : sm_ok sm_m96 := ⟨(sm_td 40 sm_q96_0 (sm_q96_1)), sm_in_ch [(4, 106), (1, 10), (4, 105), (0, 13)] rfl, by decide +kernel, by decide +kernel, by decide +kernel⟩
set_option maxRecDepth 100000 in
theorem sm_k97 : sm_ok sm_m97 := ⟨sm_okd_of (by decide +kernel), sm_in_ch [(4, 115), (1, 10), (4, 114)] rfl, by decide +kernel, by decide +kernel, by decide +kernel⟩
theorem sm_q98_0 : ∀ r ∈ (sm_i98).take 40, decode prog_8_method_9_code r.1 = .ok (r.2.1, r.2.2) := sm_dc (by decide +kernel)
theorem sm_q98_1 : ∀ r ∈ (sm_i98).drop 40, decode prog_8_method_9_code r.1 = .ok (r.2.1, r.2.2) := sm_dc (by decide +kernel)
set_option maxRecDepth 100000 in
theorem sm_k98 : sm_ok sm_m98 := ⟨(sm_td 40 sm_q98_0 (sm_q98_1)), sm_in_ch [(4, 119), (1, 10), (4, 118), (0, 14)] rfl, by decide +kernel, by decide +kernel, by decide +kernel⟩
theorem sm_q99_0 : ∀ r ∈ (sm_i99).take 40, decode prog_8_method_10_code r.1 = .ok (r.2.1, r.2.2) := sm_dc (by decide +kernel)
theorem sm_q99_1 : ∀ r ∈ ((sm_i99).drop 40).take 40, decode prog_8_method_10_code r.1 = .ok (r.2.1, r.2.2) := sm_dc (by decide +kernel)
theorem sm_q99_2 : ∀ r ∈ ((sm_i99).drop 40).drop 40, decode prog_8_method_10_code r.1 = .ok (r.2.1, r.2.2) := sm_dc (by decide +kernel)
set_option maxRecDepth 100000 in
theorem sm_k99 : sm_ok sm_m99 := ⟨(sm_td 40 sm_q99_0 (sm_td 40 sm_q99_1 (sm_q99_2))), sm_in_ch [(4, 123), (1, 10), (4, 122), (0, 15)] rfl, by decide +kernel, by decide +kernel, by decide +kernel⟩
set_option maxRecDepth 100000 in
theorem sm_k100 : sm_ok sm_m100 := ⟨sm_okd_of (by decide +kernel), sm_in_ch [(4, 127), (1, 10), (4, 126), (0, 16)] rfl, by decide +kernel, by decide +kernel, by decide +kernel⟩
set_option maxRecDepth 100000 in
theorem sm_k101 : sm_ok sm_m101 := ⟨sm_okd_of (by decide +kernel), sm_in_ch [(1, 177), (1, 11), (1, 176)] rfl, by decide +kernel, by decide +kernel, by decide +kernel⟩
set_option maxRecDepth 100000 in
theorem sm_k102 : sm_ok sm_m102 := ⟨sm_okd_of (by decide +kernel), sm_in_ch [(2, 217), (1, 11), (2, 215), (2, 216)] rfl, by decide +kernel, by decide +kernel, by decide +kernel⟩
set_option maxRecDepth 100000 in
theorem sm_k103 : sm_ok sm_m103 := ⟨sm_okd_of (by decide +kernel), sm_in_ch [(5, 7), (1, 11), (5, 5), (5, 6)] rfl, by decide +kernel, by decide +kernel, by decide +kernel⟩
theorem sm_q104_0 : ∀ r ∈ (sm_i104).take 40, decode prog_5_method_5_code r.1 = .ok (r.2.1, r.2.2) := sm_dc (by decide +kernel)
theorem sm_q104_1 : ∀ r ∈ ((sm_i104).drop 40).take 40, decode prog_5_method_5_code r.1 = .ok (r.2.1, r.2.2) := sm_dc (by decide +kernel)
theorem sm_q104_2 : ∀ r ∈ ((sm_i104).drop 40).drop 40, decode prog_5_method_5_code r.1 = .ok (r.2.1, r.2.2) := sm_dc (by decide +kernel)
set_option maxRecDepth 100000 in
theorem sm_k104 : sm_ok sm_m104 := ⟨(sm_td 40 sm_q104_0 (sm_td 40 sm_q104_1 (sm_q104_2))), sm_in_ch [(5, 11), (1, 11), (5, 10), (0, 26)] rfl, by decide +kernel, by decide +kernel, by decide +kernel⟩
set_option maxRecDepth 100000 in
theorem sm_k105 : sm_ok sm_m105 := ⟨sm_okd_of (by decide +kernel), sm_in_ch [(5, 17), (1, 11), (5, 16), (0, 27)] rfl, by decide +kernel, by decide +kernel, by decide +kernel⟩
set_option maxRecDepth 100000 in
theorem sm_k106 : sm_ok sm_m106 := ⟨sm_okd_of (by decide +kernel), sm_in_ch [(5, 22), (1, 11), (5, 21), (0, 28)] rfl, by decide +kernel, by decide +kernel, by decide +kernel⟩
set_option maxRecDepth 100000 in
theorem sm_k107 : sm_ok sm_m107 := ⟨sm_okd_of (by decide +kernel), sm_in_ch [(5, 27), (1, 11), (5, 26), (0, 29)] rfl, by decide +kernel, by decide +kernel, by decide +kernel⟩
theorem sm_q108_0 : ∀ r ∈ (sm_i108).take 40, decode prog_5_method_4_code r.1 = .ok (r.2.1, r.2.2) := sm_dc (by decide +kernel)
theorem sm_q108_1 : ∀ r ∈ (sm_i108).drop 40, decode prog_5_method_4_code r.1 = .ok (r.2.1, r.2.2) := sm_dc (by decide +kernel)
set_option maxRecDepth 100000 in
theorem sm_k108 : sm_ok sm_m108 := ⟨(sm_td 40 sm_q108_0 (sm_q108_1)), sm_in_ch [(5, 65), (1, 11), (5, 63), (5, 64)] rfl, by decide +kernel, by decide +kernel, by decide +kernel⟩
set_option maxRecDepth 100000 in
theorem sm_k109 : sm_ok sm_m109 := ⟨sm_okd_of (by decide +kernel), sm_in_ch [(2, 7), (1, 12), (2, 6)] rfl, by decide +kernel, by decide +kernel, by decide +kernel⟩
theorem sm_q110_0 : ∀ r ∈ (sm_i110).take 40, decode prog_12_method_2_code r.1 = .ok (r.2.1, r.2.2) := sm_dc (by decide +kernel)
theorem sm_q110_1 : ∀ r ∈ (sm_i110).drop 40, decode prog_12_method_2_code r.1 = .ok (r.2.1, r.2.2) := sm_dc (by decide +kernel)
set_option maxRecDepth 100000 in
theorem sm_k110 : sm_ok sm_m110 := ⟨(sm_td 40 sm_q110_0 (sm_q110_1)), sm_in_ch [(6, 16), (1, 12), (6, 14), (6, 15)] rfl, by decide +kernel, by decide +kernel, by decide +kernel⟩
set_option maxRecDepth 100000 in
theorem sm_k111 : sm_ok sm_m111 := ⟨sm_okd_of (by decide +kernel), sm_in_ch [(6, 20), (1, 12), (6, 19), (0, 39)] rfl, by decide +kernel, by decide +kernel, by decide +kernel⟩
set_option maxRecDepth 100000 in
theorem sm_k112 : sm_ok sm_m112 := ⟨sm_okd_of (by decide +kernel), sm_in_ch [(6, 25), (1, 12), (6, 24), (0, 40)] rfl, by decide +kernel, by decide +kernel, by decide +kernel⟩
set_option maxRecDepth 100000 in
theorem sm_k113 : sm_ok sm_m113 := ⟨sm_okd_of (by decide +kernel), sm_in_ch [(6, 32), (1, 12), (6, 31), (0, 41)] rfl, by decide +kernel, by decide +kernel, by decide +kernel⟩
set_option maxRecDepth 100000 in
theorem sm_k114 : sm_ok sm_m114 := ⟨sm_okd_of (by decide +kernel), sm_in_ch [(6, 37), (1, 12), (6, 36), (0, 42)] rfl, by decide +kernel, by decide +kernel, by decide +kernel⟩
theorem sm_q115_0 : ∀ r ∈ (sm_i115).take 40, decode prog_12_method_6_code r.1 = .ok (r.2.1, r.2.2) := sm_dc (by decide +kernel)
theorem sm_q115_1 : ∀ r ∈ (sm_i115).drop 40, decode prog_12_method_6_code r.1 = .ok (r.2.1, r.2.2) := sm_dc (by decide +kernel)
set_option maxRecDepth 100000 in
theorem sm_k115 : sm_ok sm_m115 := ⟨(sm_td 40 sm_q115_0 (sm_q115_1)), sm_in_ch [(6, 41), (1, 12), (6, 40), (0, 43)] rfl, by decide +kernel, by decide +kernel, by decide +kernel⟩
