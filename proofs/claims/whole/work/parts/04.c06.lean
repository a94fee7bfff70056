set_option maxRecDepth 100000 in
theorem sm_k189 : sm_ok sm_m189 := ⟨sm_okd_of (by decide +kernel), sm_in_ch [(8, 5), (1, 14), (8, 4), (0, 77)] rfl, by decide +kernel, by decide +kernel, by decide +kernel⟩
theorem sm_q190_0 : ∀ r ∈ (sm_i190).take 40, decode prog_14_method_29_code r.1 = .ok (r.2.1, r.2.2) := sm_dc (by decide +kernel)
theorem sm_q190_1 : ∀ r ∈ (sm_i190).drop 40, decode prog_14_method_29_code r.1 = .ok (r.2.1, r.2.2) := sm_dc (by decide +kernel)
set_option maxRecDepth 100000 in
theorem sm_k190 : sm_ok sm_m190 := ⟨(sm_td 40 sm_q190_0 (sm_q190_1)), sm_in_ch [(8, 9), (1, 14), (8, 8), (0, 78)] rfl, by decide +kernel, by decide +kernel, by decide +kernel⟩
set_option maxRecDepth 100000 in
theorem sm_k191 : sm_ok sm_m191 := ⟨sm_okd_of (by decide +kernel), sm_in_ch [(8, 13), (1, 14), (8, 12), (0, 79)] rfl, by decide +kernel, by decide +kernel, by decide +kernel⟩
set_option maxRecDepth 100000 in
theorem sm_k192 : sm_ok sm_m192 := ⟨sm_okd_of (by decide +kernel), sm_in_ch [(8, 18), (1, 14), (8, 17), (0, 80)] rfl, by decide +kernel, by decide +kernel, by decide +kernel⟩
theorem sm_q193_0 : ∀ r ∈ (sm_i193).take 40, decode prog_14_method_39_code r.1 = .ok (r.2.1, r.2.2) := sm_dc (by decide +kernel)
theorem sm_q193_1 : ∀ r ∈ (sm_i193).drop 40, decode prog_14_method_39_code r.1 = .ok (r.2.1, r.2.2) := sm_dc (by decide +kernel)
set_option maxRecDepth 100000 in
theorem sm_k193 : sm_ok sm_m193 := ⟨(sm_td 40 sm_q193_0 (sm_q193_1)), sm_in_ch [(8, 22), (1, 14), (8, 21), (0, 81)] rfl, by decide +kernel, by decide +kernel, by decide +kernel⟩
set_option maxRecDepth 100000 in
theorem sm_k194 : sm_ok sm_m194 := ⟨sm_okd_of (by decide +kernel), sm_in_ch [(8, 26), (1, 14), (8, 25)] rfl, by decide +kernel, by decide +kernel, by decide +kernel⟩
theorem sm_q195_0 : ∀ r ∈ (sm_i195).take 40, decode prog_14_method_40_code r.1 = .ok (r.2.1, r.2.2) := sm_dc (by decide +kernel)
theorem sm_q195_1 : ∀ r ∈ ((sm_i195).drop 40).take 40, decode prog_14_method_40_code r.1 = .ok (r.2.1, r.2.2) := sm_dc (by decide +kernel)
theorem sm_q195_2 : ∀ r ∈ ((sm_i195).drop 40).drop 40, decode prog_14_method_40_code r.1 = .ok (r.2.1, r.2.2) := sm_dc (by decide +kernel)
set_option maxRecDepth 100000 in
theorem sm_k195 : sm_ok sm_m195 := ⟨(sm_td 40 sm_q195_0 (sm_td 40 sm_q195_1 (sm_q195_2))), sm_in_ch [(8, 30), (1, 14), (8, 29), (0, 82)] rfl, by decide +kernel, by decide +kernel, by decide +kernel⟩
theorem sm_q196_0 : ∀ r ∈ (sm_i196).take 40, decode prog_14_method_49_code r.1 = .ok (r.2.1, r.2.2) := sm_dc (by decide +kernel)
theorem sm_q196_1 : ∀ r ∈ ((sm_i196).drop 40).take 40, decode prog_14_method_49_code r.1 = .ok (r.2.1, r.2.2) := sm_dc (by decide +kernel)
theorem sm_q196_2 : ∀ r ∈ (((sm_i196).drop 40).drop 40).take 40, decode prog_14_method_49_code r.1 = .ok (r.2.1, r.2.2) := sm_dc (by decide +kernel)
theorem sm_q196_3 : ∀ r ∈ ((((sm_i196).drop 40).drop 40).drop 40).take 40, decode prog_14_method_49_code r.1 = .ok (r.2.1, r.2.2) := sm_dc (by decide +kernel)
theorem sm_q196_4 : ∀ r ∈ (((((sm_i196).drop 40).drop 40).drop 40).drop 40).take 40, decode prog_14_method_49_code r.1 = .ok (r.2.1, r.2.2) := sm_dc (by decide +kernel)
theorem sm_q196_5 : ∀ r ∈ ((((((sm_i196).drop 40).drop 40).drop 40).drop 40).drop 40).take 40, decode prog_14_method_49_code r.1 = .ok (r.2.1, r.2.2) := sm_dc (by decide +kernel)
theorem sm_q196_6 : ∀ r ∈ (((((((sm_i196).drop 40).drop 40).drop 40).drop 40).drop 40).drop 40).take 40, decode prog_14_method_49_code r.1 = .ok (r.2.1, r.2.2) := sm_dc (by decide +kernel)
theorem sm_q196_7 : ∀ r ∈ (((((((sm_i196).drop 40).drop 40).drop 40).drop 40).drop 40).drop 40).drop 40, decode prog_14_method_49_code r.1 = .ok (r.2.1, r.2.2) := sm_dc (by decide +kernel)
set_option maxRecDepth 100000 in
theorem sm_k196 : sm_ok sm_m196 := ⟨(sm_td 40 sm_q196_0 (sm_td 40 sm_q196_1 (sm_td 40 sm_q196_2 (sm_td 40 sm_q196_3 (sm_td 40 sm_q196_4 (sm_td 40 sm_q196_5 (sm_td 40 sm_q196_6 (sm_q196_7)))))))), sm_in_ch [(8, 39), (1, 14), (8, 38), (0, 83)] rfl, by decide +kernel, by decide +kernel, by decide +kernel⟩
set_option maxRecDepth 100000 in
theorem sm_k197 : sm_ok sm_m197 := ⟨sm_okd_of (by decide +kernel), sm_in_ch [(8, 43), (1, 14), (8, 42), (0, 84)] rfl, by decide +kernel, by decide +kernel, by decide +kernel⟩
theorem sm_q198_0 : ∀ r ∈ (sm_i198).take 40, decode prog_14_method_42_code r.1 = .ok (r.2.1, r.2.2) := sm_dc (by decide +kernel)
theorem sm_q198_1 : ∀ r ∈ (sm_i198).drop 40, decode prog_14_method_42_code r.1 = .ok (r.2.1, r.2.2) := sm_dc (by decide +kernel)
set_option maxRecDepth 100000 in
theorem sm_k198 : sm_ok sm_m198 := ⟨(sm_td 40 sm_q198_0 (sm_q198_1)), sm_in_ch [(8, 48), (1, 14), (8, 47), (0, 85)] rfl, by decide +kernel, by decide +kernel, by decide +kernel⟩
set_option maxRecDepth 100000 in
theorem sm_k199 : sm_ok sm_m199 := ⟨sm_okd_of (by decide +kernel), sm_in_ch [(8, 52), (1, 14), (8, 51), (0, 86)] rfl, by decide +kernel, by decide +kernel, by decide +kernel⟩
set_option maxRecDepth 100000 in
theorem sm_k200 : sm_ok sm_m200 := ⟨sm_okd_of (by decide +kernel), sm_in_ch [(8, 56), (1, 14), (8, 55), (0, 87)] rfl, by decide +kernel, by decide +kernel, by decide +kernel⟩
set_option maxRecDepth 100000 in
theorem sm_k201 : sm_ok sm_m201 := ⟨sm_okd_of (by decide +kernel), sm_in_ch [(8, 61), (1, 14), (8, 60), (0, 88)] rfl, by decide +kernel, by decide +kernel, by decide +kernel⟩
set_option maxRecDepth 100000 in
theorem sm_k202 : sm_ok sm_m202 := ⟨sm_okd_of (by decide +kernel), sm_in_ch [(8, 64), (1, 14), (8, 63)] rfl, by decide +kernel, by decide +kernel, by decide +kernel⟩
set_option maxRecDepth 100000 in
theorem sm_k203 : sm_ok sm_m203 := ⟨sm_okd_of (by decide +kernel), sm_in_ch [(8, 67), (1, 14), (8, 66)] rfl, by decide +kernel, by decide +kernel, by decide +kernel⟩
theorem sm_q204_0 : ∀ r ∈ (sm_i204).take 40, decode prog_14_method_47_code r.1 = .ok (r.2.1, r.2.2) := sm_dc (by decide +kernel)
theorem sm_q204_1 : ∀ r ∈ (sm_i204).drop 40, decode prog_14_method_47_code r.1 = .ok (r.2.1, r.2.2) := sm_dc (by decide +kernel)
set_option maxRecDepth 100000 in
theorem sm_k204 : sm_ok sm_m204 := ⟨(sm_td 40 sm_q204_0 (sm_q204_1)), sm_in_ch [(8, 70), (1, 14), (8, 69)] rfl, by decide +kernel, by decide +kernel, by decide +kernel⟩
theorem sm_q205_0 : ∀ r ∈ (sm_i205).take 40, decode prog_14_method_50_code r.1 = .ok (r.2.1, r.2.2) := sm_dc (by decide +kernel)
theorem sm_q205_1 : ∀ r ∈ (sm_i205).drop 40, decode prog_14_method_50_code r.1 = .ok (r.2.1, r.2.2) := sm_dc (by decide +kernel)
set_option maxRecDepth 100000 in
theorem sm_k205 : sm_ok sm_m205 := ⟨(sm_td 40 sm_q205_0 (sm_q205_1)), sm_in_ch [(8, 81), (1, 14), (8, 80), (0, 89)] rfl, by decide +kernel, by decide +kernel, by decide +kernel⟩
theorem sm_q206_0 : ∀ r ∈ (sm_i206).take 40, decode prog_14_method_52_code r.1 = .ok (r.2.1, r.2.2) := sm_dc (by decide +kernel)
theorem sm_q206_1 : ∀ r ∈ ((sm_i206).drop 40).take 40, decode prog_14_method_52_code r.1 = .ok (r.2.1, r.2.2) := sm_dc (by decide +kernel)
theorem sm_q206_2 : ∀ r ∈ (((sm_i206).drop 40).drop 40).take 40, decode prog_14_method_52_code r.1 = .ok (r.2.1, r.2.2) := sm_dc (by decide +kernel)
theorem sm_q206_3 : ∀ r ∈ (((sm_i206).drop 40).drop 40).drop 40, decode prog_14_method_52_code r.1 = .ok (r.2.1, r.2.2) := sm_dc (by decide +kernel)
set_option maxRecDepth 100000 in
theorem sm_k206 : sm_ok sm_m206 := ⟨(sm_td 40 sm_q206_0 (sm_td 40 sm_q206_1 (sm_td 40 sm_q206_2 (sm_q206_3)))), sm_in_ch [(8, 85), (1, 14), (8, 84), (0, 90)] rfl, by decide +kernel, by decide +kernel, by decide +kernel⟩
set_option maxRecDepth 100000 in
theorem sm_k207 : sm_ok sm_m207 := ⟨sm_okd_of (by decide +kernel), sm_in_ch [(8, 89), (1, 14), (8, 88), (0, 91)] rfl, by decide +kernel, by decide +kernel, by decide +kernel⟩
set_option maxRecDepth 100000 in
theorem sm_k208 : sm_ok sm_m208 := ⟨sm_okd_of (by decide +kernel), sm_in_ch [(8, 93), (1, 14), (8, 92), (0, 92)] rfl, by decide +kernel, by decide +kernel, by decide +kernel⟩
set_option maxRecDepth 100000 in
theorem sm_k209 : sm_ok sm_m209 := ⟨sm_okd_of (by decide +kernel), sm_in_ch [(8, 97), (1, 14), (8, 96), (0, 93)] rfl, by decide +kernel, by decide +kernel, by decide +kernel⟩
set_option maxRecDepth 100000 in
theorem sm_k210 : sm_ok sm_m210 := ⟨sm_okd_of (by decide +kernel), sm_in_ch [(8, 101), (1, 14), (8, 100), (0, 94)] rfl, by decide +kernel, by decide +kernel, by decide +kernel⟩
theorem sm_q211_0 : ∀ r ∈ (sm_i211).take 40, decode prog_14_method_69_code r.1 = .ok (r.2.1, r.2.2) := sm_dc (by decide +kernel)
theorem sm_q211_1 : ∀ r ∈ ((sm_i211).drop 40).take 40, decode prog_14_method_69_code r.1 = .ok (r.2.1, r.2.2) := sm_dc (by decide +kernel)
theorem sm_q211_2 : ∀ r ∈ ((sm_i211).drop 40).drop 40, decode prog_14_method_69_code r.1 = .ok (r.2.1, r.2.2) := sm_dc (by decide +kernel)
set_option maxRecDepth 100000 in
theorem sm_k211 : sm_ok sm_m211 := ⟨(sm_td 40 sm_q211_0 (sm_td 40 sm_q211_1 (sm_q211_2))), sm_in_ch [(8, 105), (1, 14), (8, 104), (0, 95)] rfl, by decide +kernel, by decide +kernel, by decide +kernel⟩
