set_option maxRecDepth 100000 in
theorem sm_k116 : sm_ok sm_m116 := ⟨sm_okd_of (by decide +kernel), sm_in_ch [(6, 47), (1, 12), (6, 46), (0, 44)] rfl, by decide +kernel, by decide +kernel, by decide +kernel⟩
theorem sm_q117_0 : ∀ r ∈ (sm_i117).take 40, decode prog_12_method_7_code r.1 = .ok (r.2.1, r.2.2) := sm_dc (by decide +kernel)
theorem sm_q117_1 : ∀ r ∈ (sm_i117).drop 40, decode prog_12_method_7_code r.1 = .ok (r.2.1, r.2.2) := sm_dc (by decide +kernel)
set_option maxRecDepth 100000 in
theorem sm_k117 : sm_ok sm_m117 := ⟨(sm_td 40 sm_q117_0 (sm_q117_1)), sm_in_ch [(6, 54), (1, 12), (6, 53), (0, 45)] rfl, by decide +kernel, by decide +kernel, by decide +kernel⟩
theorem sm_q118_0 : ∀ r ∈ (sm_i118).take 40, decode prog_12_method_8_code r.1 = .ok (r.2.1, r.2.2) := sm_dc (by decide +kernel)
theorem sm_q118_1 : ∀ r ∈ (sm_i118).drop 40, decode prog_12_method_8_code r.1 = .ok (r.2.1, r.2.2) := sm_dc (by decide +kernel)
set_option maxRecDepth 100000 in
theorem sm_k118 : sm_ok sm_m118 := ⟨(sm_td 40 sm_q118_0 (sm_q118_1)), sm_in_ch [(6, 63), (1, 12), (6, 62), (0, 46)] rfl, by decide +kernel, by decide +kernel, by decide +kernel⟩
set_option maxRecDepth 100000 in
theorem sm_k119 : sm_ok sm_m119 := ⟨sm_okd_of (by decide +kernel), sm_in_ch [(6, 74), (1, 12), (6, 73), (0, 47)] rfl, by decide +kernel, by decide +kernel, by decide +kernel⟩
set_option maxRecDepth 100000 in
theorem sm_k120 : sm_ok sm_m120 := ⟨sm_okd_of (by decide +kernel), sm_in_ch [(6, 81), (1, 12), (6, 80), (0, 48)] rfl, by decide +kernel, by decide +kernel, by decide +kernel⟩
theorem sm_q121_0 : ∀ r ∈ (sm_i121).take 40, decode prog_12_method_11_code r.1 = .ok (r.2.1, r.2.2) := sm_dc (by decide +kernel)
theorem sm_q121_1 : ∀ r ∈ (sm_i121).drop 40, decode prog_12_method_11_code r.1 = .ok (r.2.1, r.2.2) := sm_dc (by decide +kernel)
set_option maxRecDepth 100000 in
theorem sm_k121 : sm_ok sm_m121 := ⟨(sm_td 40 sm_q121_0 (sm_q121_1)), sm_in_ch [(6, 85), (1, 12), (6, 84), (0, 49)] rfl, by decide +kernel, by decide +kernel, by decide +kernel⟩
set_option maxRecDepth 100000 in
theorem sm_k122 : sm_ok sm_m122 := ⟨sm_okd_of (by decide +kernel), sm_in_ch [(6, 89), (1, 12), (6, 88), (0, 50)] rfl, by decide +kernel, by decide +kernel, by decide +kernel⟩
set_option maxRecDepth 100000 in
theorem sm_k123 : sm_ok sm_m123 := ⟨sm_okd_of (by decide +kernel), sm_in_ch [(6, 94), (1, 12), (6, 93), (0, 51)] rfl, by decide +kernel, by decide +kernel, by decide +kernel⟩
set_option maxRecDepth 100000 in
theorem sm_k124 : sm_ok sm_m124 := ⟨sm_okd_of (by decide +kernel), sm_in_ch [(2, 20), (1, 13), (2, 19)] rfl, by decide +kernel, by decide +kernel, by decide +kernel⟩
set_option maxRecDepth 100000 in
theorem sm_k125 : sm_ok sm_m125 := ⟨sm_okd_of (by decide +kernel), sm_in_ch [(2, 210), (1, 13), (2, 208), (2, 209)] rfl, by decide +kernel, by decide +kernel, by decide +kernel⟩
set_option maxRecDepth 100000 in
theorem sm_k126 : sm_ok sm_m126 := ⟨sm_okd_of (by decide +kernel), sm_in_ch [(2, 221), (1, 13), (2, 219), (2, 220)] rfl, by decide +kernel, by decide +kernel, by decide +kernel⟩
set_option maxRecDepth 100000 in
theorem sm_k127 : sm_ok sm_m127 := ⟨sm_okd_of (by decide +kernel), sm_in_ch [(3, 66), (1, 13), (3, 64), (3, 65)] rfl, by decide +kernel, by decide +kernel, by decide +kernel⟩
set_option maxRecDepth 100000 in
theorem sm_k128 : sm_ok sm_m128 := ⟨sm_okd_of (by decide +kernel), sm_in_ch [(3, 70), (1, 13), (3, 68), (3, 69)] rfl, by decide +kernel, by decide +kernel, by decide +kernel⟩
set_option maxRecDepth 100000 in
theorem sm_k129 : sm_ok sm_m129 := ⟨sm_okd_of (by decide +kernel), sm_in_ch [(3, 74), (1, 13), (3, 72), (3, 73)] rfl, by decide +kernel, by decide +kernel, by decide +kernel⟩
set_option maxRecDepth 100000 in
theorem sm_k130 : sm_ok sm_m130 := ⟨sm_okd_of (by decide +kernel), sm_in_ch [(3, 81), (1, 13), (3, 80)] rfl, by decide +kernel, by decide +kernel, by decide +kernel⟩
set_option maxRecDepth 100000 in
theorem sm_k131 : sm_ok sm_m131 := ⟨sm_okd_of (by decide +kernel), sm_in_ch [(3, 85), (1, 13), (3, 83), (3, 84)] rfl, by decide +kernel, by decide +kernel, by decide +kernel⟩
set_option maxRecDepth 100000 in
theorem sm_k132 : sm_ok sm_m132 := ⟨sm_okd_of (by decide +kernel), sm_in_ch [(3, 89), (1, 13), (3, 87), (3, 88)] rfl, by decide +kernel, by decide +kernel, by decide +kernel⟩
set_option maxRecDepth 100000 in
theorem sm_k133 : sm_ok sm_m133 := ⟨sm_okd_of (by decide +kernel), sm_in_ch [(3, 108), (1, 13), (3, 107)] rfl, by decide +kernel, by decide +kernel, by decide +kernel⟩
set_option maxRecDepth 100000 in
theorem sm_k134 : sm_ok sm_m134 := ⟨sm_okd_of (by decide +kernel), sm_in_ch [(3, 113), (1, 13), (3, 111), (3, 112)] rfl, by decide +kernel, by decide +kernel, by decide +kernel⟩
set_option maxRecDepth 100000 in
theorem sm_k135 : sm_ok sm_m135 := ⟨sm_okd_of (by decide +kernel), sm_in_ch [(3, 217), (1, 13), (3, 215), (3, 216)] rfl, by decide +kernel, by decide +kernel, by decide +kernel⟩
set_option maxRecDepth 100000 in
theorem sm_k136 : sm_ok sm_m136 := ⟨sm_okd_of (by decide +kernel), sm_in_ch [(3, 231), (1, 13), (3, 230)] rfl, by decide +kernel, by decide +kernel, by decide +kernel⟩
set_option maxRecDepth 100000 in
theorem sm_k137 : sm_ok sm_m137 := ⟨sm_okd_of (by decide +kernel), sm_in_ch [(3, 235), (1, 13), (3, 233), (3, 234)] rfl, by decide +kernel, by decide +kernel, by decide +kernel⟩
set_option maxRecDepth 100000 in
theorem sm_k138 : sm_ok sm_m138 := ⟨sm_okd_of (by decide +kernel), sm_in_ch [(3, 239), (1, 13), (3, 237), (3, 238)] rfl, by decide +kernel, by decide +kernel, by decide +kernel⟩
set_option maxRecDepth 100000 in
theorem sm_k139 : sm_ok sm_m139 := ⟨sm_okd_of (by decide +kernel), sm_in_ch [(4, 3), (1, 13), (4, 1), (4, 2)] rfl, by decide +kernel, by decide +kernel, by decide +kernel⟩
set_option maxRecDepth 100000 in
theorem sm_k140 : sm_ok sm_m140 := ⟨sm_okd_of (by decide +kernel), sm_in_ch [(4, 7), (1, 13), (4, 5), (4, 6)] rfl, by decide +kernel, by decide +kernel, by decide +kernel⟩
set_option maxRecDepth 100000 in
theorem sm_k141 : sm_ok sm_m141 := ⟨sm_okd_of (by decide +kernel), sm_in_ch [(4, 24), (1, 13), (4, 22), (4, 23)] rfl, by decide +kernel, by decide +kernel, by decide +kernel⟩
set_option maxRecDepth 100000 in
theorem sm_k142 : sm_ok sm_m142 := ⟨sm_okd_of (by decide +kernel), sm_in_ch [(4, 29), (1, 13), (4, 27), (4, 28)] rfl, by decide +kernel, by decide +kernel, by decide +kernel⟩
set_option maxRecDepth 100000 in
theorem sm_k143 : sm_ok sm_m143 := ⟨sm_okd_of (by decide +kernel), sm_in_ch [(4, 60), (1, 13), (4, 58), (4, 59)] rfl, by decide +kernel, by decide +kernel, by decide +kernel⟩
set_option maxRecDepth 100000 in
theorem sm_k144 : sm_ok sm_m144 := ⟨sm_okd_of (by decide +kernel), sm_in_ch [(4, 69), (1, 13), (4, 67), (4, 68)] rfl, by decide +kernel, by decide +kernel, by decide +kernel⟩
set_option maxRecDepth 100000 in
theorem sm_k145 : sm_ok sm_m145 := ⟨sm_okd_of (by decide +kernel), sm_in_ch [(4, 220), (1, 13), (4, 219)] rfl, by decide +kernel, by decide +kernel, by decide +kernel⟩
set_option maxRecDepth 100000 in
theorem sm_k146 : sm_ok sm_m146 := ⟨sm_okd_of (by decide +kernel), sm_in_ch [(4, 239), (1, 13), (4, 237), (4, 238)] rfl, by decide +kernel, by decide +kernel, by decide +kernel⟩
set_option maxRecDepth 100000 in
theorem sm_k147 : sm_ok sm_m147 := ⟨sm_okd_of (by decide +kernel), sm_in_ch [(5, 60), (1, 13), (5, 59)] rfl, by decide +kernel, by decide +kernel, by decide +kernel⟩
set_option maxRecDepth 100000 in
theorem sm_k148 : sm_ok sm_m148 := ⟨sm_okd_of (by decide +kernel), sm_in_ch [(5, 140), (1, 13), (5, 138), (5, 139)] rfl, by decide +kernel, by decide +kernel, by decide +kernel⟩
set_option maxRecDepth 100000 in
theorem sm_k149 : sm_ok sm_m149 := ⟨sm_okd_of (by decide +kernel), sm_in_ch [(5, 144), (1, 13), (5, 142), (5, 143)] rfl, by decide +kernel, by decide +kernel, by decide +kernel⟩
set_option maxRecDepth 100000 in
theorem sm_k150 : sm_ok sm_m150 := ⟨sm_okd_of (by decide +kernel), sm_in_ch [(5, 158), (1, 13), (5, 156), (5, 157)] rfl, by decide +kernel, by decide +kernel, by decide +kernel⟩
set_option maxRecDepth 100000 in
theorem sm_k151 : sm_ok sm_m151 := ⟨sm_okd_of (by decide +kernel), sm_in_ch [(5, 236), (1, 13), (5, 234), (5, 235)] rfl, by decide +kernel, by decide +kernel, by decide +kernel⟩
theorem sm_q152_0 : ∀ r ∈ (sm_i152).take 40, decode prog_14_method_1_code r.1 = .ok (r.2.1, r.2.2) := sm_dc (by decide +kernel)
theorem sm_q152_1 : ∀ r ∈ ((sm_i152).drop 40).take 40, decode prog_14_method_1_code r.1 = .ok (r.2.1, r.2.2) := sm_dc (by decide +kernel)
theorem sm_q152_2 : ∀ r ∈ (((sm_i152).drop 40).drop 40).take 40, decode prog_14_method_1_code r.1 = .ok (r.2.1, r.2.2) := sm_dc (by decide +kernel)
theorem sm_q152_3 : ∀ r ∈ (((sm_i152).drop 40).drop 40).drop 40, decode prog_14_method_1_code r.1 = .ok (r.2.1, r.2.2) := sm_dc (by decide +kernel)
set_option maxRecDepth 100000 in
theorem sm_k152 : sm_ok sm_m152 := ⟨(sm_td 40 sm_q152_0 (sm_td 40 sm_q152_1 (sm_td 40 sm_q152_2 (sm_q152_3)))), sm_in_ch [(6, 124), (1, 14), (6, 123)] rfl, by decide +kernel, by decide +kernel, by decide +kernel⟩
set_option maxRecDepth 100000 in
theorem sm_k153 : sm_ok sm_m153 := ⟨sm_okd_of (by decide +kernel), sm_in_ch [(7, 98), (1, 14), (7, 96), (7, 97)] rfl, by decide +kernel, by decide +kernel, by decide +kernel⟩
theorem sm_q154_0 : ∀ r ∈ (sm_i154).take 40, decode prog_14_method_11_code r.1 = .ok (r.2.1, r.2.2) := sm_dc (by decide +kernel)
theorem sm_q154_1 : ∀ r ∈ (sm_i154).drop 40, decode prog_14_method_11_code r.1 = .ok (r.2.1, r.2.2) := sm_dc (by decide +kernel)
set_option maxRecDepth 100000 in
theorem sm_k154 : sm_ok sm_m154 := ⟨(sm_td 40 sm_q154_0 (sm_q154_1)), sm_in_ch [(7, 102), (1, 14), (7, 100), (7, 101)] rfl, by decide +kernel, by decide +kernel, by decide +kernel⟩
set_option maxRecDepth 100000 in
theorem sm_k155 : sm_ok sm_m155 := ⟨sm_okd_of (by decide +kernel), sm_in_ch [(7, 106), (1, 14), (7, 105), (0, 52)] rfl, by decide +kernel, by decide +kernel, by decide +kernel⟩
set_option maxRecDepth 100000 in
theorem sm_k156 : sm_ok sm_m156 := ⟨sm_okd_of (by decide +kernel), sm_in_ch [(7, 110), (1, 14), (7, 108), (7, 109)] rfl, by decide +kernel, by decide +kernel, by decide +kernel⟩
set_option maxRecDepth 100000 in
theorem sm_k157 : sm_ok sm_m157 := ⟨sm_okd_of (by decide +kernel), sm_in_ch [(7, 113), (1, 14), (7, 112)] rfl, by decide +kernel, by decide +kernel, by decide +kernel⟩
theorem sm_q158_0 : ∀ r ∈ (sm_i158).take 40, decode prog_14_method_79_code r.1 = .ok (r.2.1, r.2.2) := sm_dc (by decide +kernel)
theorem sm_q158_1 : ∀ r ∈ ((sm_i158).drop 40).take 40, decode prog_14_method_79_code r.1 = .ok (r.2.1, r.2.2) := sm_dc (by decide +kernel)
theorem sm_q158_2 : ∀ r ∈ ((sm_i158).drop 40).drop 40, decode prog_14_method_79_code r.1 = .ok (r.2.1, r.2.2) := sm_dc (by decide +kernel)
set_option maxRecDepth 100000 in
theorem sm_k158 : sm_ok sm_m158 := ⟨(sm_td 40 sm_q158_0 (sm_td 40 sm_q158_1 (sm_q158_2))), sm_in_ch [(7, 117), (1, 14), (7, 115), (7, 116)] rfl, by decide +kernel, by decide +kernel, by decide +kernel⟩
theorem sm_q159_0 : ∀ r ∈ (sm_i159).take 40, decode prog_14_method_73_code r.1 = .ok (r.2.1, r.2.2) := sm_dc (by decide +kernel)
theorem sm_q159_1 : ∀ r ∈ ((sm_i159).drop 40).take 40, decode prog_14_method_73_code r.1 = .ok (r.2.1, r.2.2) := sm_dc (by decide +kernel)
theorem sm_q159_2 : ∀ r ∈ (((sm_i159).drop 40).drop 40).take 40, decode prog_14_method_73_code r.1 = .ok (r.2.1, r.2.2) := sm_dc (by decide +kernel)
theorem sm_q159_3 : ∀ r ∈ ((((sm_i159).drop 40).drop 40).drop 40).take 40, decode prog_14_method_73_code r.1 = .ok (r.2.1, r.2.2) := sm_dc (by decide +kernel)
theorem sm_q159_4 : ∀ r ∈ ((((sm_i159).drop 40).drop 40).drop 40).drop 40, decode prog_14_method_73_code r.1 = .ok (r.2.1, r.2.2) := sm_dc (by decide +kernel)
set_option maxRecDepth 100000 in
theorem sm_k159 : sm_ok sm_m159 := ⟨(sm_td 40 sm_q159_0 (sm_td 40 sm_q159_1 (sm_td 40 sm_q159_2 (sm_td 40 sm_q159_3 (sm_q159_4))))), sm_in_ch [(7, 121), (1, 14), (7, 120), (0, 53)] rfl, by decide +kernel, by decide +kernel, by decide +kernel⟩
