set_option maxRecDepth 100000 in
theorem sm_k269 : sm_ok sm_m269 := ⟨sm_okd_of (by decide +kernel), sm_in_ch [(5, 107), (1, 0), (5, 106)] rfl, by decide +kernel, by decide +kernel, by decide +kernel⟩
set_option maxRecDepth 100000 in
theorem sm_k270 : sm_ok sm_m270 := ⟨sm_okd_of (by decide +kernel), sm_in_ch [(5, 150), (1, 0), (5, 149)] rfl, by decide +kernel, by decide +kernel, by decide +kernel⟩
set_option maxRecDepth 100000 in
theorem sm_k271 : sm_ok sm_m271 := ⟨sm_okd_of (by decide +kernel), sm_in_ch [(5, 161), (1, 0), (5, 160)] rfl, by decide +kernel, by decide +kernel, by decide +kernel⟩
set_option maxRecDepth 100000 in
theorem sm_k272 : sm_ok sm_m272 := ⟨sm_okd_of (by decide +kernel), sm_in_ch [(5, 169), (1, 0), (5, 168)] rfl, by decide +kernel, by decide +kernel, by decide +kernel⟩
set_option maxRecDepth 100000 in
theorem sm_k273 : sm_ok sm_m273 := ⟨sm_okd_of (by decide +kernel), sm_in_ch [(5, 181), (1, 0), (5, 180)] rfl, by decide +kernel, by decide +kernel, by decide +kernel⟩
set_option maxRecDepth 100000 in
theorem sm_k274 : sm_ok sm_m274 := ⟨sm_okd_of (by decide +kernel), sm_in_ch [(5, 193), (1, 0), (5, 192)] rfl, by decide +kernel, by decide +kernel, by decide +kernel⟩
set_option maxRecDepth 100000 in
theorem sm_k275 : sm_ok sm_m275 := ⟨sm_okd_of (by decide +kernel), sm_in_ch [(5, 201), (1, 0), (5, 200)] rfl, by decide +kernel, by decide +kernel, by decide +kernel⟩
set_option maxRecDepth 100000 in
theorem sm_k276 : sm_ok sm_m276 := ⟨sm_okd_of (by decide +kernel), sm_in_ch [(5, 209), (1, 0), (5, 208)] rfl, by decide +kernel, by decide +kernel, by decide +kernel⟩
set_option maxRecDepth 100000 in
theorem sm_k277 : sm_ok sm_m277 := ⟨sm_okd_of (by decide +kernel), sm_in_ch [(5, 216), (1, 0), (5, 215)] rfl, by decide +kernel, by decide +kernel, by decide +kernel⟩
set_option maxRecDepth 100000 in
theorem sm_k278 : sm_ok sm_m278 := ⟨sm_okd_of (by decide +kernel), sm_in_ch [(5, 223), (1, 0), (5, 222)] rfl, by decide +kernel, by decide +kernel, by decide +kernel⟩
set_option maxRecDepth 100000 in
theorem sm_k279 : sm_ok sm_m279 := ⟨sm_okd_of (by decide +kernel), sm_in_ch [(5, 239), (1, 0), (5, 238)] rfl, by decide +kernel, by decide +kernel, by decide +kernel⟩
set_option maxRecDepth 100000 in
theorem sm_k280 : sm_ok sm_m280 := ⟨sm_okd_of (by decide +kernel), sm_in_ch [(6, 7), (1, 0), (6, 6)] rfl, by decide +kernel, by decide +kernel, by decide +kernel⟩
set_option maxRecDepth 100000 in
theorem sm_k281 : sm_ok sm_m281 := ⟨sm_okd_of (by decide +kernel), sm_in_ch [(6, 98), (1, 0), (6, 97)] rfl, by decide +kernel, by decide +kernel, by decide +kernel⟩
set_option maxRecDepth 100000 in
theorem sm_k282 : sm_ok sm_m282 := ⟨sm_okd_of (by decide +kernel), sm_in_ch [(6, 106), (1, 0), (6, 105)] rfl, by decide +kernel, by decide +kernel, by decide +kernel⟩
set_option maxRecDepth 100000 in
theorem sm_k283 : sm_ok sm_m283 := ⟨sm_okd_of (by decide +kernel), sm_in_ch [(1, 50), (1, 4), (1, 49)] rfl, by decide +kernel, by decide +kernel, by decide +kernel⟩
set_option maxRecDepth 100000 in
theorem sm_k284 : sm_ok sm_m284 := ⟨sm_okd_of (by decide +kernel), sm_in_ch [(3, 127), (1, 4), (3, 126)] rfl, by decide +kernel, by decide +kernel, by decide +kernel⟩
set_option maxRecDepth 100000 in
theorem sm_k285 : sm_ok sm_m285 := ⟨sm_okd_of (by decide +kernel), sm_in_ch [(4, 199), (1, 4), (4, 198)] rfl, by decide +kernel, by decide +kernel, by decide +kernel⟩
set_option maxRecDepth 100000 in
theorem sm_k286 : sm_ok sm_m286 := ⟨sm_okd_of (by decide +kernel), sm_in_ch [(3, 30), (1, 22), (3, 29)] rfl, by decide +kernel, by decide +kernel, by decide +kernel⟩
set_option maxRecDepth 100000 in
theorem sm_k287 : sm_ok sm_m287 := ⟨sm_okd_of (by decide +kernel), sm_in_ch [(3, 169), (1, 22), (3, 168)] rfl, by decide +kernel, by decide +kernel, by decide +kernel⟩
set_option maxRecDepth 100000 in
theorem sm_k288 : sm_ok sm_m288 := ⟨sm_okd_of (by decide +kernel), sm_in_ch [(3, 172), (1, 22), (3, 171)] rfl, by decide +kernel, by decide +kernel, by decide +kernel⟩
set_option maxRecDepth 100000 in
theorem sm_k289 : sm_ok sm_m289 := ⟨sm_okd_of (by decide +kernel), sm_in_ch [(3, 177), (1, 22), (3, 176)] rfl, by decide +kernel, by decide +kernel, by decide +kernel⟩
set_option maxRecDepth 100000 in
theorem sm_k290 : sm_ok sm_m290 := ⟨sm_okd_of (by decide +kernel), sm_in_ch [(3, 38), (1, 23), (3, 37)] rfl, by decide +kernel, by decide +kernel, by decide +kernel⟩
set_option maxRecDepth 100000 in
theorem sm_k291 : sm_ok sm_m291 := ⟨sm_okd_of (by decide +kernel), sm_in_ch [(2, 213), (1, 20), (2, 212)] rfl, by decide +kernel, by decide +kernel, by decide +kernel⟩
