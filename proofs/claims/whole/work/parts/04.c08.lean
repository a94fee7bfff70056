set_option maxRecDepth 100000 in
theorem sm_k230 : sm_ok sm_m230 := ⟨sm_okd_of (by decide +kernel), sm_in_ch [(8, 187), (1, 14), (8, 186), (0, 112)] rfl, by decide +kernel, by decide +kernel, by decide +kernel⟩
theorem sm_q231_0 : ∀ r ∈ (sm_i231).take 40, decode prog_14_method_82_code r.1 = .ok (r.2.1, r.2.2) := sm_dc (by decide +kernel)
theorem sm_q231_1 : ∀ r ∈ (sm_i231).drop 40, decode prog_14_method_82_code r.1 = .ok (r.2.1, r.2.2) := sm_dc (by decide +kernel)
set_option maxRecDepth 100000 in
theorem sm_k231 : sm_ok sm_m231 := ⟨(sm_td 40 sm_q231_0 (sm_q231_1)), sm_in_ch [(8, 191), (1, 14), (8, 189), (8, 190)] rfl, by decide +kernel, by decide +kernel, by decide +kernel⟩
set_option maxRecDepth 100000 in
theorem sm_k232 : sm_ok sm_m232 := ⟨sm_okd_of (by decide +kernel), sm_in_ch [(8, 195), (1, 14), (8, 194), (0, 113)] rfl, by decide +kernel, by decide +kernel, by decide +kernel⟩
set_option maxRecDepth 100000 in
theorem sm_k233 : sm_ok sm_m233 := ⟨sm_okd_of (by decide +kernel), sm_in_ch [(8, 199), (1, 14), (8, 198), (0, 114)] rfl, by decide +kernel, by decide +kernel, by decide +kernel⟩
set_option maxRecDepth 100000 in
theorem sm_k234 : sm_ok sm_m234 := ⟨sm_okd_of (by decide +kernel), sm_in_ch [(8, 203), (1, 14), (8, 201), (8, 202)] rfl, by decide +kernel, by decide +kernel, by decide +kernel⟩
set_option maxRecDepth 100000 in
theorem sm_k235 : sm_ok sm_m235 := ⟨sm_okd_of (by decide +kernel), sm_in_ch [(8, 207), (1, 14), (8, 205), (8, 206)] rfl, by decide +kernel, by decide +kernel, by decide +kernel⟩
set_option maxRecDepth 100000 in
theorem sm_k236 : sm_ok sm_m236 := ⟨sm_okd_of (by decide +kernel), sm_in_ch [(8, 211), (1, 14), (8, 209), (8, 210)] rfl, by decide +kernel, by decide +kernel, by decide +kernel⟩
set_option maxRecDepth 100000 in
theorem sm_k237 : sm_ok sm_m237 := ⟨sm_okd_of (by decide +kernel), sm_in_ch [(8, 215), (1, 14), (8, 214), (0, 115)] rfl, by decide +kernel, by decide +kernel, by decide +kernel⟩
theorem sm_q238_0 : ∀ r ∈ (sm_i238).take 40, decode prog_14_method_87_code r.1 = .ok (r.2.1, r.2.2) := sm_dc (by decide +kernel)
theorem sm_q238_1 : ∀ r ∈ (sm_i238).drop 40, decode prog_14_method_87_code r.1 = .ok (r.2.1, r.2.2) := sm_dc (by decide +kernel)
set_option maxRecDepth 100000 in
theorem sm_k238 : sm_ok sm_m238 := ⟨(sm_td 40 sm_q238_0 (sm_q238_1)), sm_in_ch [(8, 219), (1, 14), (8, 217), (8, 218)] rfl, by decide +kernel, by decide +kernel, by decide +kernel⟩
set_option maxRecDepth 100000 in
theorem sm_k239 : sm_ok sm_m239 := ⟨sm_okd_of (by decide +kernel), sm_in_ch [(8, 223), (1, 14), (8, 222), (0, 116)] rfl, by decide +kernel, by decide +kernel, by decide +kernel⟩
set_option maxRecDepth 100000 in
theorem sm_k240 : sm_ok sm_m240 := ⟨sm_okd_of (by decide +kernel), sm_in_ch [(8, 227), (1, 14), (8, 225), (8, 226)] rfl, by decide +kernel, by decide +kernel, by decide +kernel⟩
theorem sm_q241_0 : ∀ r ∈ (sm_i241).take 40, decode prog_14_method_90_code r.1 = .ok (r.2.1, r.2.2) := sm_dc (by decide +kernel)
theorem sm_q241_1 : ∀ r ∈ (sm_i241).drop 40, decode prog_14_method_90_code r.1 = .ok (r.2.1, r.2.2) := sm_dc (by decide +kernel)
set_option maxRecDepth 100000 in
theorem sm_k241 : sm_ok sm_m241 := ⟨(sm_td 40 sm_q241_0 (sm_q241_1)), sm_in_ch [(8, 231), (1, 14), (8, 229), (8, 230)] rfl, by decide +kernel, by decide +kernel, by decide +kernel⟩
set_option maxRecDepth 100000 in
theorem sm_k242 : sm_ok sm_m242 := ⟨sm_okd_of (by decide +kernel), sm_in_ch [(8, 235), (1, 14), (8, 233), (8, 234)] rfl, by decide +kernel, by decide +kernel, by decide +kernel⟩
set_option maxRecDepth 100000 in
theorem sm_k243 : sm_ok sm_m243 := ⟨sm_okd_of (by decide +kernel), sm_in_ch [(8, 239), (1, 14), (8, 237), (8, 238)] rfl, by decide +kernel, by decide +kernel, by decide +kernel⟩
set_option maxRecDepth 100000 in
theorem sm_k244 : sm_ok sm_m244 := ⟨sm_okd_of (by decide +kernel), sm_in_ch [(9, 3), (1, 14), (9, 1), (9, 2)] rfl, by decide +kernel, by decide +kernel, by decide +kernel⟩
theorem sm_q245_0 : ∀ r ∈ (sm_i245).take 40, decode prog_14_method_94_code r.1 = .ok (r.2.1, r.2.2) := sm_dc (by decide +kernel)
theorem sm_q245_1 : ∀ r ∈ (sm_i245).drop 40, decode prog_14_method_94_code r.1 = .ok (r.2.1, r.2.2) := sm_dc (by decide +kernel)
set_option maxRecDepth 100000 in
theorem sm_k245 : sm_ok sm_m245 := ⟨(sm_td 40 sm_q245_0 (sm_q245_1)), sm_in_ch [(9, 7), (1, 14), (9, 5), (9, 6)] rfl, by decide +kernel, by decide +kernel, by decide +kernel⟩
theorem sm_q246_0 : ∀ r ∈ (sm_i246).take 40, decode prog_14_method_105_code r.1 = .ok (r.2.1, r.2.2) := sm_dc (by decide +kernel)
theorem sm_q246_1 : ∀ r ∈ (sm_i246).drop 40, decode prog_14_method_105_code r.1 = .ok (r.2.1, r.2.2) := sm_dc (by decide +kernel)
set_option maxRecDepth 100000 in
theorem sm_k246 : sm_ok sm_m246 := ⟨(sm_td 40 sm_q246_0 (sm_q246_1)), sm_in_ch [(9, 11), (1, 14), (9, 9), (9, 10)] rfl, by decide +kernel, by decide +kernel, by decide +kernel⟩
set_option maxRecDepth 100000 in
theorem sm_k247 : sm_ok sm_m247 := ⟨sm_okd_of (by decide +kernel), sm_in_ch [(9, 15), (1, 14), (9, 14), (0, 117)] rfl, by decide +kernel, by decide +kernel, by decide +kernel⟩
set_option maxRecDepth 100000 in
theorem sm_k248 : sm_ok sm_m248 := ⟨sm_okd_of (by decide +kernel), sm_in_ch [(9, 19), (1, 14), (9, 18), (0, 118)] rfl, by decide +kernel, by decide +kernel, by decide +kernel⟩
set_option maxRecDepth 100000 in
theorem sm_k249 : sm_ok sm_m249 := ⟨sm_okd_of (by decide +kernel), sm_in_ch [(9, 24), (1, 14), (9, 23), (0, 119)] rfl, by decide +kernel, by decide +kernel, by decide +kernel⟩
set_option maxRecDepth 100000 in
theorem sm_k250 : sm_ok sm_m250 := ⟨sm_okd_of (by decide +kernel), sm_in_ch [(9, 28), (1, 14), (9, 27), (0, 120)] rfl, by decide +kernel, by decide +kernel, by decide +kernel⟩
set_option maxRecDepth 100000 in
theorem sm_k251 : sm_ok sm_m251 := ⟨sm_okd_of (by decide +kernel), sm_in_ch [(9, 32), (1, 14), (9, 31), (0, 121)] rfl, by decide +kernel, by decide +kernel, by decide +kernel⟩
set_option maxRecDepth 100000 in
theorem sm_k252 : sm_ok sm_m252 := ⟨sm_okd_of (by decide +kernel), sm_in_ch [(9, 37), (1, 14), (9, 36), (0, 122)] rfl, by decide +kernel, by decide +kernel, by decide +kernel⟩
theorem sm_q253_0 : ∀ r ∈ (sm_i253).take 40, decode prog_14_method_101_code r.1 = .ok (r.2.1, r.2.2) := sm_dc (by decide +kernel)
theorem sm_q253_1 : ∀ r ∈ ((sm_i253).drop 40).take 40, decode prog_14_method_101_code r.1 = .ok (r.2.1, r.2.2) := sm_dc (by decide +kernel)
theorem sm_q253_2 : ∀ r ∈ (((sm_i253).drop 40).drop 40).take 40, decode prog_14_method_101_code r.1 = .ok (r.2.1, r.2.2) := sm_dc (by decide +kernel)
theorem sm_q253_3 : ∀ r ∈ ((((sm_i253).drop 40).drop 40).drop 40).take 40, decode prog_14_method_101_code r.1 = .ok (r.2.1, r.2.2) := sm_dc (by decide +kernel)
theorem sm_q253_4 : ∀ r ∈ ((((sm_i253).drop 40).drop 40).drop 40).drop 40, decode prog_14_method_101_code r.1 = .ok (r.2.1, r.2.2) := sm_dc (by decide +kernel)
set_option maxRecDepth 100000 in
theorem sm_k253 : sm_ok sm_m253 := ⟨(sm_td 40 sm_q253_0 (sm_td 40 sm_q253_1 (sm_td 40 sm_q253_2 (sm_td 40 sm_q253_3 (sm_q253_4))))), sm_in_ch [(9, 41), (1, 14), (9, 40), (0, 123)] rfl, by decide +kernel, by decide +kernel, by decide +kernel⟩
theorem sm_q254_0 : ∀ r ∈ (sm_i254).take 40, decode prog_14_method_98_code r.1 = .ok (r.2.1, r.2.2) := sm_dc (by decide +kernel)
theorem sm_q254_1 : ∀ r ∈ ((sm_i254).drop 40).take 40, decode prog_14_method_98_code r.1 = .ok (r.2.1, r.2.2) := sm_dc (by decide +kernel)
theorem sm_q254_2 : ∀ r ∈ ((sm_i254).drop 40).drop 40, decode prog_14_method_98_code r.1 = .ok (r.2.1, r.2.2) := sm_dc (by decide +kernel)
set_option maxRecDepth 100000 in
theorem sm_k254 : sm_ok sm_m254 := ⟨(sm_td 40 sm_q254_0 (sm_td 40 sm_q254_1 (sm_q254_2))), sm_in_ch [(9, 45), (1, 14), (9, 44), (0, 124)] rfl, by decide +kernel, by decide +kernel, by decide +kernel⟩
set_option maxRecDepth 100000 in
theorem sm_k255 : sm_ok sm_m255 := ⟨sm_okd_of (by decide +kernel), sm_in_ch [(9, 51), (1, 14), (9, 50), (0, 125)] rfl, by decide +kernel, by decide +kernel, by decide +kernel⟩
theorem sm_q256_0 : ∀ r ∈ (sm_i256).take 40, decode prog_14_method_103_code r.1 = .ok (r.2.1, r.2.2) := sm_dc (by decide +kernel)
theorem sm_q256_1 : ∀ r ∈ ((sm_i256).drop 40).take 40, decode prog_14_method_103_code r.1 = .ok (r.2.1, r.2.2) := sm_dc (by decide +kernel)
theorem sm_q256_2 : ∀ r ∈ (((sm_i256).drop 40).drop 40).take 40, decode prog_14_method_103_code r.1 = .ok (r.2.1, r.2.2) := sm_dc (by decide +kernel)
theorem sm_q256_3 : ∀ r ∈ (((sm_i256).drop 40).drop 40).drop 40, decode prog_14_method_103_code r.1 = .ok (r.2.1, r.2.2) := sm_dc (by decide +kernel)
set_option maxRecDepth 100000 in
theorem sm_k256 : sm_ok sm_m256 := ⟨(sm_td 40 sm_q256_0 (sm_td 40 sm_q256_1 (sm_td 40 sm_q256_2 (sm_q256_3)))), sm_in_ch [(9, 58), (1, 14), (9, 57), (0, 126)] rfl, by decide +kernel, by decide +kernel, by decide +kernel⟩
set_option maxRecDepth 100000 in
theorem sm_k257 : sm_ok sm_m257 := ⟨sm_okd_of (by decide +kernel), sm_in_ch [(9, 61), (1, 14), (9, 60)] rfl, by decide +kernel, by decide +kernel, by decide +kernel⟩
set_option maxRecDepth 100000 in
theorem sm_k258 : sm_ok sm_m258 := ⟨sm_okd_of (by decide +kernel), sm_in_ch [(9, 65), (1, 14), (9, 63), (9, 64)] rfl, by decide +kernel, by decide +kernel, by decide +kernel⟩
set_option maxRecDepth 100000 in
theorem sm_k259 : sm_ok sm_m259 := ⟨sm_okd_of (by decide +kernel), sm_in_ch [(9, 69), (1, 14), (9, 67), (9, 68)] rfl, by decide +kernel, by decide +kernel, by decide +kernel⟩
set_option maxRecDepth 100000 in
theorem sm_k260 : sm_ok sm_m260 := ⟨sm_okd_of (by decide +kernel), sm_in_ch [(3, 9), (1, 21), (3, 7), (3, 8)] rfl, by decide +kernel, by decide +kernel, by decide +kernel⟩
set_option maxRecDepth 100000 in
theorem sm_k261 : sm_ok sm_m261 := ⟨sm_okd_of (by decide +kernel), sm_in_ch [(3, 13), (1, 21), (3, 11), (3, 12)] rfl, by decide +kernel, by decide +kernel, by decide +kernel⟩
set_option maxRecDepth 100000 in
theorem sm_k262 : sm_ok sm_m262 := ⟨sm_okd_of (by decide +kernel), sm_in_ch [(3, 23), (1, 21), (3, 21), (3, 22)] rfl, by decide +kernel, by decide +kernel, by decide +kernel⟩
set_option maxRecDepth 100000 in
theorem sm_k263 : sm_ok sm_m263 := ⟨sm_okd_of (by decide +kernel), sm_in_ch [(3, 27), (1, 21), (3, 25), (3, 26)] rfl, by decide +kernel, by decide +kernel, by decide +kernel⟩
set_option maxRecDepth 100000 in
theorem sm_k264 : sm_ok sm_m264 := ⟨sm_okd_of (by decide +kernel), sm_in_ch [(3, 33), (1, 21), (3, 32)] rfl, by decide +kernel, by decide +kernel, by decide +kernel⟩
set_option maxRecDepth 100000 in
theorem sm_k265 : sm_ok sm_m265 := ⟨sm_okd_of (by decide +kernel), sm_in_ch [(3, 161), (1, 21), (3, 159), (3, 160)] rfl, by decide +kernel, by decide +kernel, by decide +kernel⟩
set_option maxRecDepth 100000 in
theorem sm_k266 : sm_ok sm_m266 := ⟨sm_okd_of (by decide +kernel), sm_in_ch [(3, 165), (1, 21), (3, 163), (3, 164)] rfl, by decide +kernel, by decide +kernel, by decide +kernel⟩
set_option maxRecDepth 100000 in
theorem sm_k267 : sm_ok sm_m267 := ⟨sm_okd_of (by decide +kernel), sm_in_ch [(5, 69), (1, 0), (5, 68)] rfl, by decide +kernel, by decide +kernel, by decide +kernel⟩
set_option maxRecDepth 100000 in
theorem sm_k268 : sm_ok sm_m268 := ⟨sm_okd_of (by decide +kernel), sm_in_ch [(5, 83), (1, 0), (5, 82)] rfl, by decide +kernel, by decide +kernel, by decide +kernel⟩
