set_option maxRecDepth 100000 in
theorem sm_k0 : sm_ok sm_m0 := ⟨sm_okd_of (by decide +kernel), sm_in_ch [(1, 32), (1, 1), (1, 31)] rfl, by decide +kernel, by decide +kernel, by decide +kernel⟩
set_option maxRecDepth 100000 in
theorem sm_k1 : sm_ok sm_m1 := ⟨sm_okd_of (by decide +kernel), sm_in_ch [(2, 121), (1, 1), (2, 119), (2, 120)] rfl, by decide +kernel, by decide +kernel, by decide +kernel⟩
set_option maxRecDepth 100000 in
theorem sm_k2 : sm_ok sm_m2 := ⟨sm_okd_of (by decide +kernel), sm_in_ch [(3, 19), (1, 1), (3, 18)] rfl, by decide +kernel, by decide +kernel, by decide +kernel⟩
set_option maxRecDepth 100000 in
theorem sm_k3 : sm_ok sm_m3 := ⟨sm_okd_of (by decide +kernel), sm_in_ch [(3, 96), (1, 1), (3, 95)] rfl, by decide +kernel, by decide +kernel, by decide +kernel⟩
set_option maxRecDepth 100000 in
theorem sm_k4 : sm_ok sm_m4 := ⟨sm_okd_of (by decide +kernel), sm_in_ch [(3, 157), (1, 1), (3, 156)] rfl, by decide +kernel, by decide +kernel, by decide +kernel⟩
set_option maxRecDepth 100000 in
theorem sm_k5 : sm_ok sm_m5 := ⟨sm_okd_of (by decide +kernel), sm_in_ch [(4, 146), (1, 1), (4, 145)] rfl, by decide +kernel, by decide +kernel, by decide +kernel⟩
set_option maxRecDepth 100000 in
theorem sm_k6 : sm_ok sm_m6 := ⟨sm_okd_of (by decide +kernel), sm_in_ch [(4, 169), (1, 1), (4, 168)] rfl, by decide +kernel, by decide +kernel, by decide +kernel⟩
set_option maxRecDepth 100000 in
theorem sm_k7 : sm_ok sm_m7 := ⟨sm_okd_of (by decide +kernel), sm_in_ch [(5, 74), (1, 1), (5, 72), (5, 73)] rfl, by decide +kernel, by decide +kernel, by decide +kernel⟩
set_option maxRecDepth 100000 in
theorem sm_k8 : sm_ok sm_m8 := ⟨sm_okd_of (by decide +kernel), sm_in_ch [(5, 88), (1, 1), (5, 86), (5, 87)] rfl, by decide +kernel, by decide +kernel, by decide +kernel⟩
theorem sm_q9_0 : ∀ r ∈ (sm_i9).take 40, decode prog_1_method_5_code r.1 = .ok (r.2.1, r.2.2) := sm_dc (by decide +kernel)
theorem sm_q9_1 : ∀ r ∈ (sm_i9).drop 40, decode prog_1_method_5_code r.1 = .ok (r.2.1, r.2.2) := sm_dc (by decide +kernel)
set_option maxRecDepth 100000 in
theorem sm_k9 : sm_ok sm_m9 := ⟨(sm_td 40 sm_q9_0 (sm_q9_1)), sm_in_ch [(5, 112), (1, 1), (5, 110), (5, 111)] rfl, by decide +kernel, by decide +kernel, by decide +kernel⟩
set_option maxRecDepth 100000 in
theorem sm_k10 : sm_ok sm_m10 := ⟨sm_okd_of (by decide +kernel), sm_in_ch [(5, 116), (1, 1), (5, 115), (0, 34)] rfl, by decide +kernel, by decide +kernel, by decide +kernel⟩
set_option maxRecDepth 100000 in
theorem sm_k11 : sm_ok sm_m11 := ⟨sm_okd_of (by decide +kernel), sm_in_ch [(5, 120), (1, 1), (5, 119), (0, 35)] rfl, by decide +kernel, by decide +kernel, by decide +kernel⟩
set_option maxRecDepth 100000 in
theorem sm_k12 : sm_ok sm_m12 := ⟨sm_okd_of (by decide +kernel), sm_in_ch [(5, 154), (1, 1), (5, 152), (5, 153)] rfl, by decide +kernel, by decide +kernel, by decide +kernel⟩
set_option maxRecDepth 100000 in
theorem sm_k13 : sm_ok sm_m13 := ⟨sm_okd_of (by decide +kernel), sm_in_ch [(5, 165), (1, 1), (5, 163), (5, 164)] rfl, by decide +kernel, by decide +kernel, by decide +kernel⟩
set_option maxRecDepth 100000 in
theorem sm_k14 : sm_ok sm_m14 := ⟨sm_okd_of (by decide +kernel), sm_in_ch [(5, 173), (1, 1), (5, 171), (5, 172)] rfl, by decide +kernel, by decide +kernel, by decide +kernel⟩
set_option maxRecDepth 100000 in
theorem sm_k15 : sm_ok sm_m15 := ⟨sm_okd_of (by decide +kernel), sm_in_ch [(5, 177), (1, 1), (5, 176), (0, 36)] rfl, by decide +kernel, by decide +kernel, by decide +kernel⟩
set_option maxRecDepth 100000 in
theorem sm_k16 : sm_ok sm_m16 := ⟨sm_okd_of (by decide +kernel), sm_in_ch [(5, 185), (1, 1), (5, 183), (5, 184)] rfl, by decide +kernel, by decide +kernel, by decide +kernel⟩
set_option maxRecDepth 100000 in
theorem sm_k17 : sm_ok sm_m17 := ⟨sm_okd_of (by decide +kernel), sm_in_ch [(5, 190), (1, 1), (5, 189), (0, 37)] rfl, by decide +kernel, by decide +kernel, by decide +kernel⟩
set_option maxRecDepth 100000 in
theorem sm_k18 : sm_ok sm_m18 := ⟨sm_okd_of (by decide +kernel), sm_in_ch [(5, 197), (1, 1), (5, 195), (5, 196)] rfl, by decide +kernel, by decide +kernel, by decide +kernel⟩
set_option maxRecDepth 100000 in
theorem sm_k19 : sm_ok sm_m19 := ⟨sm_okd_of (by decide +kernel), sm_in_ch [(5, 205), (1, 1), (5, 203), (5, 204)] rfl, by decide +kernel, by decide +kernel, by decide +kernel⟩
set_option maxRecDepth 100000 in
theorem sm_k20 : sm_ok sm_m20 := ⟨sm_okd_of (by decide +kernel), sm_in_ch [(5, 213), (1, 1), (5, 211), (5, 212)] rfl, by decide +kernel, by decide +kernel, by decide +kernel⟩
set_option maxRecDepth 100000 in
theorem sm_k21 : sm_ok sm_m21 := ⟨sm_okd_of (by decide +kernel), sm_in_ch [(5, 220), (1, 1), (5, 218), (5, 219)] rfl, by decide +kernel, by decide +kernel, by decide +kernel⟩
set_option maxRecDepth 100000 in
theorem sm_k22 : sm_ok sm_m22 := ⟨sm_okd_of (by decide +kernel), sm_in_ch [(5, 227), (1, 1), (5, 225), (5, 226)] rfl, by decide +kernel, by decide +kernel, by decide +kernel⟩
set_option maxRecDepth 100000 in
theorem sm_k23 : sm_ok sm_m23 := ⟨sm_okd_of (by decide +kernel), sm_in_ch [(5, 231), (1, 1), (5, 230), (0, 38)] rfl, by decide +kernel, by decide +kernel, by decide +kernel⟩
set_option maxRecDepth 100000 in
theorem sm_k24 : sm_ok sm_m24 := ⟨sm_okd_of (by decide +kernel), sm_in_ch [(6, 3), (1, 1), (6, 1), (6, 2)] rfl, by decide +kernel, by decide +kernel, by decide +kernel⟩
set_option maxRecDepth 100000 in
theorem sm_k25 : sm_ok sm_m25 := ⟨sm_okd_of (by decide +kernel), sm_in_ch [(6, 11), (1, 1), (6, 9), (6, 10)] rfl, by decide +kernel, by decide +kernel, by decide +kernel⟩
set_option maxRecDepth 100000 in
theorem sm_k26 : sm_ok sm_m26 := ⟨sm_okd_of (by decide +kernel), sm_in_ch [(6, 102), (1, 1), (6, 100), (6, 101)] rfl, by decide +kernel, by decide +kernel, by decide +kernel⟩
set_option maxRecDepth 100000 in
theorem sm_k27 : sm_ok sm_m27 := ⟨sm_okd_of (by decide +kernel), sm_in_ch [(6, 110), (1, 1), (6, 108), (6, 109)] rfl, by decide +kernel, by decide +kernel, by decide +kernel⟩
set_option maxRecDepth 100000 in
theorem sm_k28 : sm_ok sm_m28 := ⟨sm_okd_of (by decide +kernel), sm_in_ch [(1, 40), (1, 2), (1, 39)] rfl, by decide +kernel, by decide +kernel, by decide +kernel⟩
set_option maxRecDepth 100000 in
theorem sm_k29 : sm_ok sm_m29 := ⟨sm_okd_of (by decide +kernel), sm_in_ch [(2, 138), (1, 2), (2, 136), (2, 137)] rfl, by decide +kernel, by decide +kernel, by decide +kernel⟩
set_option maxRecDepth 100000 in
theorem sm_k30 : sm_ok sm_m30 := ⟨sm_okd_of (by decide +kernel), sm_in_ch [(3, 123), (1, 2), (3, 121), (3, 122)] rfl, by decide +kernel, by decide +kernel, by decide +kernel⟩
set_option maxRecDepth 100000 in
theorem sm_k31 : sm_ok sm_m31 := ⟨sm_okd_of (by decide +kernel), sm_in_ch [(3, 131), (1, 2), (3, 129), (3, 130)] rfl, by decide +kernel, by decide +kernel, by decide +kernel⟩
theorem sm_q32_0 : ∀ r ∈ (sm_i32).take 40, decode prog_9_method_8_code r.1 = .ok (r.2.1, r.2.2) := sm_dc (by decide +kernel)
theorem sm_q32_1 : ∀ r ∈ (sm_i32).drop 40, decode prog_9_method_8_code r.1 = .ok (r.2.1, r.2.2) := sm_dc (by decide +kernel)
set_option maxRecDepth 100000 in
theorem sm_k32 : sm_ok sm_m32 := ⟨(sm_td 40 sm_q32_0 (sm_q32_1)), sm_in_ch [(3, 139), (1, 2), (3, 137), (3, 138)] rfl, by decide +kernel, by decide +kernel, by decide +kernel⟩
set_option maxRecDepth 100000 in
theorem sm_k33 : sm_ok sm_m33 := ⟨sm_okd_of (by decide +kernel), sm_in_ch [(3, 145), (1, 2), (3, 144), (0, 8)] rfl, by decide +kernel, by decide +kernel, by decide +kernel⟩
set_option maxRecDepth 100000 in
theorem sm_k34 : sm_ok sm_m34 := ⟨sm_okd_of (by decide +kernel), sm_in_ch [(3, 154), (1, 2), (3, 152), (3, 153)] rfl, by decide +kernel, by decide +kernel, by decide +kernel⟩
set_option maxRecDepth 100000 in
theorem sm_k35 : sm_ok sm_m35 := ⟨sm_okd_of (by decide +kernel), sm_in_ch [(3, 223), (1, 2), (3, 221), (3, 222)] rfl, by decide +kernel, by decide +kernel, by decide +kernel⟩
set_option maxRecDepth 100000 in
theorem sm_k36 : sm_ok sm_m36 := ⟨sm_okd_of (by decide +kernel), sm_in_ch [(4, 13), (1, 2), (4, 11), (4, 12)] rfl, by decide +kernel, by decide +kernel, by decide +kernel⟩
set_option maxRecDepth 100000 in
theorem sm_k37 : sm_ok sm_m37 := ⟨sm_okd_of (by decide +kernel), sm_in_ch [(4, 18), (1, 2), (4, 16), (4, 17)] rfl, by decide +kernel, by decide +kernel, by decide +kernel⟩
set_option maxRecDepth 100000 in
theorem sm_k38 : sm_ok sm_m38 := ⟨sm_okd_of (by decide +kernel), sm_in_ch [(4, 166), (1, 2), (4, 164), (4, 165)] rfl, by decide +kernel, by decide +kernel, by decide +kernel⟩
set_option maxRecDepth 100000 in
theorem sm_k39 : sm_ok sm_m39 := ⟨sm_okd_of (by decide +kernel), sm_in_ch [(4, 215), (1, 2), (4, 213), (4, 214)] rfl, by decide +kernel, by decide +kernel, by decide +kernel⟩
set_option maxRecDepth 100000 in
theorem sm_k40 : sm_ok sm_m40 := ⟨sm_okd_of (by decide +kernel), sm_in_ch [(5, 80), (1, 2), (5, 78), (5, 79)] rfl, by decide +kernel, by decide +kernel, by decide +kernel⟩
set_option maxRecDepth 100000 in
theorem sm_k41 : sm_ok sm_m41 := ⟨sm_okd_of (by decide +kernel), sm_in_ch [(1, 46), (1, 3), (1, 45)] rfl, by decide +kernel, by decide +kernel, by decide +kernel⟩
set_option maxRecDepth 100000 in
theorem sm_k42 : sm_ok sm_m42 := ⟨sm_okd_of (by decide +kernel), sm_in_ch [(2, 134), (1, 3), (2, 132), (2, 133)] rfl, by decide +kernel, by decide +kernel, by decide +kernel⟩
set_option maxRecDepth 100000 in
theorem sm_k43 : sm_ok sm_m43 := ⟨sm_okd_of (by decide +kernel), sm_in_ch [(3, 5), (1, 3), (3, 3), (3, 4)] rfl, by decide +kernel, by decide +kernel, by decide +kernel⟩
set_option maxRecDepth 100000 in
theorem sm_k44 : sm_ok sm_m44 := ⟨sm_okd_of (by decide +kernel), sm_in_ch [(3, 78), (1, 3), (3, 76), (3, 77)] rfl, by decide +kernel, by decide +kernel, by decide +kernel⟩
set_option maxRecDepth 100000 in
theorem sm_k45 : sm_ok sm_m45 := ⟨sm_okd_of (by decide +kernel), sm_in_ch [(4, 64), (1, 3), (4, 62), (4, 63)] rfl, by decide +kernel, by decide +kernel, by decide +kernel⟩
set_option maxRecDepth 100000 in
theorem sm_k46 : sm_ok sm_m46 := ⟨sm_okd_of (by decide +kernel), sm_in_ch [(6, 115), (1, 3), (6, 113), (6, 114)] rfl, by decide +kernel, by decide +kernel, by decide +kernel⟩
theorem sm_q47_0 : ∀ r ∈ (sm_i47).take 40, decode prog_6_method_1_code r.1 = .ok (r.2.1, r.2.2) := sm_dc (by decide +kernel)
theorem sm_q47_1 : ∀ r ∈ (sm_i47).drop 40, decode prog_6_method_1_code r.1 = .ok (r.2.1, r.2.2) := sm_dc (by decide +kernel)
set_option maxRecDepth 100000 in
theorem sm_k47 : sm_ok sm_m47 := ⟨(sm_td 40 sm_q47_0 (sm_q47_1)), sm_in_ch [(1, 103), (1, 5), (1, 102)] rfl, by decide +kernel, by decide +kernel, by decide +kernel⟩
theorem sm_q48_0 : ∀ r ∈ (sm_i48).take 40, decode prog_6_method_2_code r.1 = .ok (r.2.1, r.2.2) := sm_dc (by decide +kernel)
theorem sm_q48_1 : ∀ r ∈ (sm_i48).drop 40, decode prog_6_method_2_code r.1 = .ok (r.2.1, r.2.2) := sm_dc (by decide +kernel)
set_option maxRecDepth 100000 in
theorem sm_k48 : sm_ok sm_m48 := ⟨(sm_td 40 sm_q48_0 (sm_q48_1)), sm_in_ch [(2, 126), (1, 5), (2, 124), (2, 125)] rfl, by decide +kernel, by decide +kernel, by decide +kernel⟩
theorem sm_q49_0 : ∀ r ∈ (sm_i49).take 40, decode prog_6_method_3_code r.1 = .ok (r.2.1, r.2.2) := sm_dc (by decide +kernel)
theorem sm_q49_1 : ∀ r ∈ (sm_i49).drop 40, decode prog_6_method_3_code r.1 = .ok (r.2.1, r.2.2) := sm_dc (by decide +kernel)
set_option maxRecDepth 100000 in
theorem sm_k49 : sm_ok sm_m49 := ⟨(sm_td 40 sm_q49_0 (sm_q49_1)), sm_in_ch [(2, 130), (1, 5), (2, 129), (0, 0)] rfl, by decide +kernel, by decide +kernel, by decide +kernel⟩
theorem sm_q50_0 : ∀ r ∈ (sm_i50).take 40, decode prog_6_method_4_code r.1 = .ok (r.2.1, r.2.2) := sm_dc (by decide +kernel)
theorem sm_q50_1 : ∀ r ∈ (sm_i50).drop 40, decode prog_6_method_4_code r.1 = .ok (r.2.1, r.2.2) := sm_dc (by decide +kernel)
set_option maxRecDepth 100000 in
theorem sm_k50 : sm_ok sm_m50 := ⟨(sm_td 40 sm_q50_0 (sm_q50_1)), sm_in_ch [(2, 225), (1, 5), (2, 224), (0, 2)] rfl, by decide +kernel, by decide +kernel, by decide +kernel⟩
set_option maxRecDepth 100000 in
theorem sm_k51 : sm_ok sm_m51 := ⟨sm_okd_of (by decide +kernel), sm_in_ch [(2, 229), (1, 5), (2, 228), (0, 3)] rfl, by decide +kernel, by decide +kernel, by decide +kernel⟩
set_option maxRecDepth 100000 in
theorem sm_k52 : sm_ok sm_m52 := ⟨sm_okd_of (by decide +kernel), sm_in_ch [(2, 232), (1, 5), (2, 231)] rfl, by decide +kernel, by decide +kernel, by decide +kernel⟩
theorem sm_q53_0 : ∀ r ∈ (sm_i53).take 40, decode prog_6_method_7_code r.1 = .ok (r.2.1, r.2.2) := sm_dc (by decide +kernel)
theorem sm_q53_1 : ∀ r ∈ (sm_i53).drop 40, decode prog_6_method_7_code r.1 = .ok (r.2.1, r.2.2) := sm_dc (by decide +kernel)
set_option maxRecDepth 100000 in
theorem sm_k53 : sm_ok sm_m53 := ⟨(sm_td 40 sm_q53_0 (sm_q53_1)), sm_in_ch [(2, 236), (1, 5), (2, 235), (0, 4)] rfl, by decide +kernel, by decide +kernel, by decide +kernel⟩
theorem sm_q54_0 : ∀ r ∈ (sm_i54).take 40, decode prog_6_method_8_code r.1 = .ok (r.2.1, r.2.2) := sm_dc (by decide +kernel)
theorem sm_q54_1 : ∀ r ∈ (sm_i54).drop 40, decode prog_6_method_8_code r.1 = .ok (r.2.1, r.2.2) := sm_dc (by decide +kernel)
set_option maxRecDepth 100000 in
theorem sm_k54 : sm_ok sm_m54 := ⟨(sm_td 40 sm_q54_0 (sm_q54_1)), sm_in_ch [(3, 0), (1, 5), (2, 239), (0, 5)] rfl, by decide +kernel, by decide +kernel, by decide +kernel⟩
