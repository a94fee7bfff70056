theorem sm_q55_0 : ∀ r ∈ (sm_i55).take 40, decode prog_6_method_9_code r.1 = .ok (r.2.1, r.2.2) := sm_dc (by decide +kernel)
theorem sm_q55_1 : ∀ r ∈ (sm_i55).drop 40, decode prog_6_method_9_code r.1 = .ok (r.2.1, r.2.2) := sm_dc (by decide +kernel)
set_option maxRecDepth 100000 in
theorem sm_k55 : sm_ok sm_m55 := ⟨(sm_td 40 sm_q55_0 (sm_q55_1)), sm_in_ch [(3, 93), (1, 5), (3, 92), (0, 6)] rfl, by decide +kernel, by decide +kernel, by decide +kernel⟩
theorem sm_q56_0 : ∀ r ∈ (sm_i56).take 40, decode prog_6_method_10_code r.1 = .ok (r.2.1, r.2.2) := sm_dc (by decide +kernel)
theorem sm_q56_1 : ∀ r ∈ (sm_i56).drop 40, decode prog_6_method_10_code r.1 = .ok (r.2.1, r.2.2) := sm_dc (by decide +kernel)
set_option maxRecDepth 100000 in
theorem sm_k56 : sm_ok sm_m56 := ⟨(sm_td 40 sm_q56_0 (sm_q56_1)), sm_in_ch [(3, 100), (1, 5), (3, 99), (0, 7)] rfl, by decide +kernel, by decide +kernel, by decide +kernel⟩
set_option maxRecDepth 100000 in
theorem sm_k57 : sm_ok sm_m57 := ⟨sm_okd_of (by decide +kernel), sm_in_ch [(1, 109), (1, 6), (1, 108)] rfl, by decide +kernel, by decide +kernel, by decide +kernel⟩
set_option maxRecDepth 100000 in
theorem sm_k58 : sm_ok sm_m58 := ⟨sm_okd_of (by decide +kernel), sm_in_ch [(3, 104), (1, 6), (3, 102), (3, 103)] rfl, by decide +kernel, by decide +kernel, by decide +kernel⟩
theorem sm_q59_0 : ∀ r ∈ (sm_i59).take 40, decode prog_11_method_3_code r.1 = .ok (r.2.1, r.2.2) := sm_dc (by decide +kernel)
theorem sm_q59_1 : ∀ r ∈ ((sm_i59).drop 40).take 40, decode prog_11_method_3_code r.1 = .ok (r.2.1, r.2.2) := sm_dc (by decide +kernel)
theorem sm_q59_2 : ∀ r ∈ ((sm_i59).drop 40).drop 40, decode prog_11_method_3_code r.1 = .ok (r.2.1, r.2.2) := sm_dc (by decide +kernel)
set_option maxRecDepth 100000 in
theorem sm_k59 : sm_ok sm_m59 := ⟨(sm_td 40 sm_q59_0 (sm_td 40 sm_q59_1 (sm_q59_2))), sm_in_ch [(3, 135), (1, 6), (3, 133), (3, 134)] rfl, by decide +kernel, by decide +kernel, by decide +kernel⟩
set_option maxRecDepth 100000 in
theorem sm_k60 : sm_ok sm_m60 := ⟨sm_okd_of (by decide +kernel), sm_in_ch [(3, 149), (1, 6), (3, 148), (0, 9)] rfl, by decide +kernel, by decide +kernel, by decide +kernel⟩
theorem sm_q61_0 : ∀ r ∈ (sm_i61).take 40, decode prog_11_method_5_code r.1 = .ok (r.2.1, r.2.2) := sm_dc (by decide +kernel)
theorem sm_q61_1 : ∀ r ∈ (sm_i61).drop 40, decode prog_11_method_5_code r.1 = .ok (r.2.1, r.2.2) := sm_dc (by decide +kernel)
set_option maxRecDepth 100000 in
theorem sm_k61 : sm_ok sm_m61 := ⟨(sm_td 40 sm_q61_0 (sm_q61_1)), sm_in_ch [(3, 228), (1, 6), (3, 227), (0, 10)] rfl, by decide +kernel, by decide +kernel, by decide +kernel⟩
set_option maxRecDepth 100000 in
theorem sm_k62 : sm_ok sm_m62 := ⟨sm_okd_of (by decide +kernel), sm_in_ch [(4, 35), (1, 6), (4, 34)] rfl, by decide +kernel, by decide +kernel, by decide +kernel⟩
theorem sm_q63_0 : ∀ r ∈ (sm_i63).take 40, decode prog_11_method_7_code r.1 = .ok (r.2.1, r.2.2) := sm_dc (by decide +kernel)
theorem sm_q63_1 : ∀ r ∈ (sm_i63).drop 40, decode prog_11_method_7_code r.1 = .ok (r.2.1, r.2.2) := sm_dc (by decide +kernel)
set_option maxRecDepth 100000 in
theorem sm_k63 : sm_ok sm_m63 := ⟨(sm_td 40 sm_q63_0 (sm_q63_1)), sm_in_ch [(4, 43), (1, 6), (4, 41), (4, 42)] rfl, by decide +kernel, by decide +kernel, by decide +kernel⟩
set_option maxRecDepth 100000 in
theorem sm_k64 : sm_ok sm_m64 := ⟨sm_okd_of (by decide +kernel), sm_in_ch [(4, 46), (1, 6), (4, 45)] rfl, by decide +kernel, by decide +kernel, by decide +kernel⟩
set_option maxRecDepth 100000 in
theorem sm_k65 : sm_ok sm_m65 := ⟨sm_okd_of (by decide +kernel), sm_in_ch [(5, 3), (1, 6), (5, 1), (5, 2)] rfl, by decide +kernel, by decide +kernel, by decide +kernel⟩
set_option maxRecDepth 100000 in
theorem sm_k66 : sm_ok sm_m66 := ⟨sm_okd_of (by decide +kernel), sm_in_ch [(1, 122), (1, 7), (1, 121)] rfl, by decide +kernel, by decide +kernel, by decide +kernel⟩
theorem sm_q67_0 : ∀ r ∈ (sm_i67).take 40, decode prog_4_method_2_code r.1 = .ok (r.2.1, r.2.2) := sm_dc (by decide +kernel)
theorem sm_q67_1 : ∀ r ∈ (sm_i67).drop 40, decode prog_4_method_2_code r.1 = .ok (r.2.1, r.2.2) := sm_dc (by decide +kernel)
set_option maxRecDepth 100000 in
theorem sm_k67 : sm_ok sm_m67 := ⟨(sm_td 40 sm_q67_0 (sm_q67_1)), sm_in_ch [(4, 138), (1, 7), (4, 136), (4, 137)] rfl, by decide +kernel, by decide +kernel, by decide +kernel⟩
set_option maxRecDepth 100000 in
theorem sm_k68 : sm_ok sm_m68 := ⟨sm_okd_of (by decide +kernel), sm_in_ch [(4, 143), (1, 7), (4, 142), (0, 17)] rfl, by decide +kernel, by decide +kernel, by decide +kernel⟩
theorem sm_q69_0 : ∀ r ∈ (sm_i69).take 40, decode prog_4_method_7_code r.1 = .ok (r.2.1, r.2.2) := sm_dc (by decide +kernel)
theorem sm_q69_1 : ∀ r ∈ (sm_i69).drop 40, decode prog_4_method_7_code r.1 = .ok (r.2.1, r.2.2) := sm_dc (by decide +kernel)
set_option maxRecDepth 100000 in
theorem sm_k69 : sm_ok sm_m69 := ⟨(sm_td 40 sm_q69_0 (sm_q69_1)), sm_in_ch [(4, 151), (1, 7), (4, 150), (0, 18)] rfl, by decide +kernel, by decide +kernel, by decide +kernel⟩
theorem sm_q70_0 : ∀ r ∈ (sm_i70).take 40, decode prog_4_method_4_code r.1 = .ok (r.2.1, r.2.2) := sm_dc (by decide +kernel)
theorem sm_q70_1 : ∀ r ∈ (sm_i70).drop 40, decode prog_4_method_4_code r.1 = .ok (r.2.1, r.2.2) := sm_dc (by decide +kernel)
set_option maxRecDepth 100000 in
theorem sm_k70 : sm_ok sm_m70 := ⟨(sm_td 40 sm_q70_0 (sm_q70_1)), sm_in_ch [(4, 162), (1, 7), (4, 161), (0, 19)] rfl, by decide +kernel, by decide +kernel, by decide +kernel⟩
set_option maxRecDepth 100000 in
theorem sm_k71 : sm_ok sm_m71 := ⟨sm_okd_of (by decide +kernel), sm_in_ch [(4, 174), (1, 7), (4, 173)] rfl, by decide +kernel, by decide +kernel, by decide +kernel⟩
set_option maxRecDepth 100000 in
theorem sm_k72 : sm_ok sm_m72 := ⟨sm_okd_of (by decide +kernel), sm_in_ch [(4, 179), (1, 7), (4, 178)] rfl, by decide +kernel, by decide +kernel, by decide +kernel⟩
set_option maxRecDepth 100000 in
theorem sm_k73 : sm_ok sm_m73 := ⟨sm_okd_of (by decide +kernel), sm_in_ch [(4, 185), (1, 7), (4, 184), (0, 20)] rfl, by decide +kernel, by decide +kernel, by decide +kernel⟩
set_option maxRecDepth 100000 in
theorem sm_k74 : sm_ok sm_m74 := ⟨sm_okd_of (by decide +kernel), sm_in_ch [(4, 189), (1, 7), (4, 188), (0, 21)] rfl, by decide +kernel, by decide +kernel, by decide +kernel⟩
set_option maxRecDepth 100000 in
theorem sm_k75 : sm_ok sm_m75 := ⟨sm_okd_of (by decide +kernel), sm_in_ch [(4, 193), (1, 7), (4, 192), (0, 22)] rfl, by decide +kernel, by decide +kernel, by decide +kernel⟩
set_option maxRecDepth 100000 in
theorem sm_k76 : sm_ok sm_m76 := ⟨sm_okd_of (by decide +kernel), sm_in_ch [(1, 132), (1, 8), (1, 131)] rfl, by decide +kernel, by decide +kernel, by decide +kernel⟩
theorem sm_q77_0 : ∀ r ∈ (sm_i77).take 40, decode prog_2_method_2_code r.1 = .ok (r.2.1, r.2.2) := sm_dc (by decide +kernel)
theorem sm_q77_1 : ∀ r ∈ (sm_i77).drop 40, decode prog_2_method_2_code r.1 = .ok (r.2.1, r.2.2) := sm_dc (by decide +kernel)
set_option maxRecDepth 100000 in
theorem sm_k77 : sm_ok sm_m77 := ⟨(sm_td 40 sm_q77_0 (sm_q77_1)), sm_in_ch [(4, 204), (1, 8), (4, 202), (4, 203)] rfl, by decide +kernel, by decide +kernel, by decide +kernel⟩
theorem sm_q78_0 : ∀ r ∈ (sm_i78).take 40, decode prog_2_method_3_code r.1 = .ok (r.2.1, r.2.2) := sm_dc (by decide +kernel)
theorem sm_q78_1 : ∀ r ∈ ((sm_i78).drop 40).take 40, decode prog_2_method_3_code r.1 = .ok (r.2.1, r.2.2) := sm_dc (by decide +kernel)
theorem sm_q78_2 : ∀ r ∈ ((sm_i78).drop 40).drop 40, decode prog_2_method_3_code r.1 = .ok (r.2.1, r.2.2) := sm_dc (by decide +kernel)
set_option maxRecDepth 100000 in
theorem sm_k78 : sm_ok sm_m78 := ⟨(sm_td 40 sm_q78_0 (sm_td 40 sm_q78_1 (sm_q78_2))), sm_in_ch [(4, 210), (1, 8), (4, 209), (0, 23)] rfl, by decide +kernel, by decide +kernel, by decide +kernel⟩
set_option maxRecDepth 100000 in
theorem sm_k79 : sm_ok sm_m79 := ⟨sm_okd_of (by decide +kernel), sm_in_ch [(4, 229), (1, 8), (4, 228), (0, 24)] rfl, by decide +kernel, by decide +kernel, by decide +kernel⟩
set_option maxRecDepth 100000 in
theorem sm_k80 : sm_ok sm_m80 := ⟨sm_okd_of (by decide +kernel), sm_in_ch [(4, 234), (1, 8), (4, 233), (0, 25)] rfl, by decide +kernel, by decide +kernel, by decide +kernel⟩
set_option maxRecDepth 100000 in
theorem sm_k81 : sm_ok sm_m81 := ⟨sm_okd_of (by decide +kernel), sm_in_ch [(1, 142), (1, 9), (1, 141)] rfl, by decide +kernel, by decide +kernel, by decide +kernel⟩
set_option maxRecDepth 100000 in
theorem sm_k82 : sm_ok sm_m82 := ⟨sm_okd_of (by decide +kernel), sm_in_ch [(4, 95), (1, 9), (4, 93), (4, 94)] rfl, by decide +kernel, by decide +kernel, by decide +kernel⟩
theorem sm_q83_0 : ∀ r ∈ (sm_i83).take 40, decode prog_3_method_6_code r.1 = .ok (r.2.1, r.2.2) := sm_dc (by decide +kernel)
theorem sm_q83_1 : ∀ r ∈ ((sm_i83).drop 40).take 40, decode prog_3_method_6_code r.1 = .ok (r.2.1, r.2.2) := sm_dc (by decide +kernel)
theorem sm_q83_2 : ∀ r ∈ ((sm_i83).drop 40).drop 40, decode prog_3_method_6_code r.1 = .ok (r.2.1, r.2.2) := sm_dc (by decide +kernel)
set_option maxRecDepth 100000 in
theorem sm_k83 : sm_ok sm_m83 := ⟨(sm_td 40 sm_q83_0 (sm_td 40 sm_q83_1 (sm_q83_2))), sm_in_ch [(4, 99), (1, 9), (4, 97), (4, 98)] rfl, by decide +kernel, by decide +kernel, by decide +kernel⟩
