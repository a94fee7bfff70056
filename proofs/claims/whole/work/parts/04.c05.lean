theorem sm_q160_0 : ∀ r ∈ (sm_i160).take 40, decode prog_14_method_13_code r.1 = .ok (r.2.1, r.2.2) := sm_dc (by decide +kernel)
theorem sm_q160_1 : ∀ r ∈ (sm_i160).drop 40, decode prog_14_method_13_code r.1 = .ok (r.2.1, r.2.2) := sm_dc (by decide +kernel)
set_option maxRecDepth 100000 in
theorem sm_k160 : sm_ok sm_m160 := ⟨(sm_td 40 sm_q160_0 (sm_q160_1)), sm_in_ch [(7, 125), (1, 14), (7, 124), (0, 54)] rfl, by decide +kernel, by decide +kernel, by decide +kernel⟩
set_option maxRecDepth 100000 in
theorem sm_k161 : sm_ok sm_m161 := ⟨sm_okd_of (by decide +kernel), sm_in_ch [(7, 129), (1, 14), (7, 128), (0, 55)] rfl, by decide +kernel, by decide +kernel, by decide +kernel⟩
set_option maxRecDepth 100000 in
theorem sm_k162 : sm_ok sm_m162 := ⟨sm_okd_of (by decide +kernel), sm_in_ch [(7, 133), (1, 14), (7, 132), (0, 56)] rfl, by decide +kernel, by decide +kernel, by decide +kernel⟩
theorem sm_q163_0 : ∀ r ∈ (sm_i163).take 40, decode prog_14_method_71_code r.1 = .ok (r.2.1, r.2.2) := sm_dc (by decide +kernel)
theorem sm_q163_1 : ∀ r ∈ ((sm_i163).drop 40).take 40, decode prog_14_method_71_code r.1 = .ok (r.2.1, r.2.2) := sm_dc (by decide +kernel)
theorem sm_q163_2 : ∀ r ∈ ((sm_i163).drop 40).drop 40, decode prog_14_method_71_code r.1 = .ok (r.2.1, r.2.2) := sm_dc (by decide +kernel)
set_option maxRecDepth 100000 in
theorem sm_k163 : sm_ok sm_m163 := ⟨(sm_td 40 sm_q163_0 (sm_td 40 sm_q163_1 (sm_q163_2))), sm_in_ch [(7, 137), (1, 14), (7, 136), (0, 57)] rfl, by decide +kernel, by decide +kernel, by decide +kernel⟩
theorem sm_q164_0 : ∀ r ∈ (sm_i164).take 40, decode prog_14_method_17_code r.1 = .ok (r.2.1, r.2.2) := sm_dc (by decide +kernel)
theorem sm_q164_1 : ∀ r ∈ (sm_i164).drop 40, decode prog_14_method_17_code r.1 = .ok (r.2.1, r.2.2) := sm_dc (by decide +kernel)
set_option maxRecDepth 100000 in
theorem sm_k164 : sm_ok sm_m164 := ⟨(sm_td 40 sm_q164_0 (sm_q164_1)), sm_in_ch [(7, 141), (1, 14), (7, 140), (0, 58)] rfl, by decide +kernel, by decide +kernel, by decide +kernel⟩
theorem sm_q165_0 : ∀ r ∈ (sm_i165).take 40, decode prog_14_method_18_code r.1 = .ok (r.2.1, r.2.2) := sm_dc (by decide +kernel)
theorem sm_q165_1 : ∀ r ∈ ((sm_i165).drop 40).take 40, decode prog_14_method_18_code r.1 = .ok (r.2.1, r.2.2) := sm_dc (by decide +kernel)
theorem sm_q165_2 : ∀ r ∈ (((sm_i165).drop 40).drop 40).take 40, decode prog_14_method_18_code r.1 = .ok (r.2.1, r.2.2) := sm_dc (by decide +kernel)
theorem sm_q165_3 : ∀ r ∈ ((((sm_i165).drop 40).drop 40).drop 40).take 40, decode prog_14_method_18_code r.1 = .ok (r.2.1, r.2.2) := sm_dc (by decide +kernel)
theorem sm_q165_4 : ∀ r ∈ ((((sm_i165).drop 40).drop 40).drop 40).drop 40, decode prog_14_method_18_code r.1 = .ok (r.2.1, r.2.2) := sm_dc (by decide +kernel)
set_option maxRecDepth 100000 in
theorem sm_k165 : sm_ok sm_m165 := ⟨(sm_td 40 sm_q165_0 (sm_td 40 sm_q165_1 (sm_td 40 sm_q165_2 (sm_td 40 sm_q165_3 (sm_q165_4))))), sm_in_ch [(7, 145), (1, 14), (7, 144), (0, 59)] rfl, by decide +kernel, by decide +kernel, by decide +kernel⟩
theorem sm_q166_0 : ∀ r ∈ (sm_i166).take 40, decode prog_14_method_15_code r.1 = .ok (r.2.1, r.2.2) := sm_dc (by decide +kernel)
theorem sm_q166_1 : ∀ r ∈ (sm_i166).drop 40, decode prog_14_method_15_code r.1 = .ok (r.2.1, r.2.2) := sm_dc (by decide +kernel)
set_option maxRecDepth 100000 in
theorem sm_k166 : sm_ok sm_m166 := ⟨(sm_td 40 sm_q166_0 (sm_q166_1)), sm_in_ch [(7, 149), (1, 14), (7, 148), (0, 60)] rfl, by decide +kernel, by decide +kernel, by decide +kernel⟩
set_option maxRecDepth 100000 in
theorem sm_k167 : sm_ok sm_m167 := ⟨sm_okd_of (by decide +kernel), sm_in_ch [(7, 154), (1, 14), (7, 153), (0, 61)] rfl, by decide +kernel, by decide +kernel, by decide +kernel⟩
set_option maxRecDepth 100000 in
theorem sm_k168 : sm_ok sm_m168 := ⟨sm_okd_of (by decide +kernel), sm_in_ch [(7, 158), (1, 14), (7, 157)] rfl, by decide +kernel, by decide +kernel, by decide +kernel⟩
set_option maxRecDepth 100000 in
theorem sm_k169 : sm_ok sm_m169 := ⟨sm_okd_of (by decide +kernel), sm_in_ch [(7, 168), (1, 14), (7, 167), (0, 62)] rfl, by decide +kernel, by decide +kernel, by decide +kernel⟩
set_option maxRecDepth 100000 in
theorem sm_k170 : sm_ok sm_m170 := ⟨sm_okd_of (by decide +kernel), sm_in_ch [(7, 171), (1, 14), (7, 170)] rfl, by decide +kernel, by decide +kernel, by decide +kernel⟩
set_option maxRecDepth 100000 in
theorem sm_k171 : sm_ok sm_m171 := ⟨sm_okd_of (by decide +kernel), sm_in_ch [(7, 175), (1, 14), (7, 174), (0, 63)] rfl, by decide +kernel, by decide +kernel, by decide +kernel⟩
set_option maxRecDepth 100000 in
theorem sm_k172 : sm_ok sm_m172 := ⟨sm_okd_of (by decide +kernel), sm_in_ch [(7, 180), (1, 14), (7, 179), (0, 64)] rfl, by decide +kernel, by decide +kernel, by decide +kernel⟩
set_option maxRecDepth 100000 in
theorem sm_k173 : sm_ok sm_m173 := ⟨sm_okd_of (by decide +kernel), sm_in_ch [(7, 184), (1, 14), (7, 183), (0, 65)] rfl, by decide +kernel, by decide +kernel, by decide +kernel⟩
theorem sm_q174_0 : ∀ r ∈ (sm_i174).take 40, decode prog_14_method_70_code r.1 = .ok (r.2.1, r.2.2) := sm_dc (by decide +kernel)
theorem sm_q174_1 : ∀ r ∈ (sm_i174).drop 40, decode prog_14_method_70_code r.1 = .ok (r.2.1, r.2.2) := sm_dc (by decide +kernel)
set_option maxRecDepth 100000 in
theorem sm_k174 : sm_ok sm_m174 := ⟨(sm_td 40 sm_q174_0 (sm_q174_1)), sm_in_ch [(7, 189), (1, 14), (7, 188), (0, 66)] rfl, by decide +kernel, by decide +kernel, by decide +kernel⟩
theorem sm_q175_0 : ∀ r ∈ (sm_i175).take 40, decode prog_14_method_36_code r.1 = .ok (r.2.1, r.2.2) := sm_dc (by decide +kernel)
theorem sm_q175_1 : ∀ r ∈ ((sm_i175).drop 40).take 40, decode prog_14_method_36_code r.1 = .ok (r.2.1, r.2.2) := sm_dc (by decide +kernel)
theorem sm_q175_2 : ∀ r ∈ (((sm_i175).drop 40).drop 40).take 40, decode prog_14_method_36_code r.1 = .ok (r.2.1, r.2.2) := sm_dc (by decide +kernel)
theorem sm_q175_3 : ∀ r ∈ (((sm_i175).drop 40).drop 40).drop 40, decode prog_14_method_36_code r.1 = .ok (r.2.1, r.2.2) := sm_dc (by decide +kernel)
set_option maxRecDepth 100000 in
theorem sm_k175 : sm_ok sm_m175 := ⟨(sm_td 40 sm_q175_0 (sm_td 40 sm_q175_1 (sm_td 40 sm_q175_2 (sm_q175_3)))), sm_in_ch [(7, 193), (1, 14), (7, 192), (0, 67)] rfl, by decide +kernel, by decide +kernel, by decide +kernel⟩
set_option maxRecDepth 100000 in
theorem sm_k176 : sm_ok sm_m176 := ⟨sm_okd_of (by decide +kernel), sm_in_ch [(7, 197), (1, 14), (7, 196), (0, 68)] rfl, by decide +kernel, by decide +kernel, by decide +kernel⟩
set_option maxRecDepth 100000 in
theorem sm_k177 : sm_ok sm_m177 := ⟨sm_okd_of (by decide +kernel), sm_in_ch [(7, 201), (1, 14), (7, 200), (0, 69)] rfl, by decide +kernel, by decide +kernel, by decide +kernel⟩
theorem sm_q178_0 : ∀ r ∈ (sm_i178).take 40, decode prog_14_method_24_code r.1 = .ok (r.2.1, r.2.2) := sm_dc (by decide +kernel)
theorem sm_q178_1 : ∀ r ∈ (sm_i178).drop 40, decode prog_14_method_24_code r.1 = .ok (r.2.1, r.2.2) := sm_dc (by decide +kernel)
set_option maxRecDepth 100000 in
theorem sm_k178 : sm_ok sm_m178 := ⟨(sm_td 40 sm_q178_0 (sm_q178_1)), sm_in_ch [(7, 205), (1, 14), (7, 204), (0, 70)] rfl, by decide +kernel, by decide +kernel, by decide +kernel⟩
set_option maxRecDepth 100000 in
theorem sm_k179 : sm_ok sm_m179 := ⟨sm_okd_of (by decide +kernel), sm_in_ch [(7, 209), (1, 14), (7, 208), (0, 71)] rfl, by decide +kernel, by decide +kernel, by decide +kernel⟩
set_option maxRecDepth 100000 in
theorem sm_k180 : sm_ok sm_m180 := ⟨sm_okd_of (by decide +kernel), sm_in_ch [(7, 213), (1, 14), (7, 212), (0, 72)] rfl, by decide +kernel, by decide +kernel, by decide +kernel⟩
set_option maxRecDepth 100000 in
theorem sm_k181 : sm_ok sm_m181 := ⟨sm_okd_of (by decide +kernel), sm_in_ch [(7, 217), (1, 14), (7, 216), (0, 73)] rfl, by decide +kernel, by decide +kernel, by decide +kernel⟩
theorem sm_q182_0 : ∀ r ∈ (sm_i182).take 40, decode prog_14_method_28_code r.1 = .ok (r.2.1, r.2.2) := sm_dc (by decide +kernel)
theorem sm_q182_1 : ∀ r ∈ (sm_i182).drop 40, decode prog_14_method_28_code r.1 = .ok (r.2.1, r.2.2) := sm_dc (by decide +kernel)
set_option maxRecDepth 100000 in
theorem sm_k182 : sm_ok sm_m182 := ⟨(sm_td 40 sm_q182_0 (sm_q182_1)), sm_in_ch [(7, 221), (1, 14), (7, 220), (0, 74)] rfl, by decide +kernel, by decide +kernel, by decide +kernel⟩
theorem sm_q183_0 : ∀ r ∈ (sm_i183).take 40, decode prog_14_method_25_code r.1 = .ok (r.2.1, r.2.2) := sm_dc (by decide +kernel)
theorem sm_q183_1 : ∀ r ∈ (sm_i183).drop 40, decode prog_14_method_25_code r.1 = .ok (r.2.1, r.2.2) := sm_dc (by decide +kernel)
set_option maxRecDepth 100000 in
theorem sm_k183 : sm_ok sm_m183 := ⟨(sm_td 40 sm_q183_0 (sm_q183_1)), sm_in_ch [(7, 224), (1, 14), (7, 223)] rfl, by decide +kernel, by decide +kernel, by decide +kernel⟩
set_option maxRecDepth 100000 in
theorem sm_k184 : sm_ok sm_m184 := ⟨sm_okd_of (by decide +kernel), sm_in_ch [(7, 227), (1, 14), (7, 226)] rfl, by decide +kernel, by decide +kernel, by decide +kernel⟩
set_option maxRecDepth 100000 in
theorem sm_k185 : sm_ok sm_m185 := ⟨sm_okd_of (by decide +kernel), sm_in_ch [(7, 230), (1, 14), (7, 229)] rfl, by decide +kernel, by decide +kernel, by decide +kernel⟩
set_option maxRecDepth 100000 in
theorem sm_k186 : sm_ok sm_m186 := ⟨sm_okd_of (by decide +kernel), sm_in_ch [(7, 233), (1, 14), (7, 232)] rfl, by decide +kernel, by decide +kernel, by decide +kernel⟩
set_option maxRecDepth 100000 in
theorem sm_k187 : sm_ok sm_m187 := ⟨sm_okd_of (by decide +kernel), sm_in_ch [(7, 237), (1, 14), (7, 236), (0, 75)] rfl, by decide +kernel, by decide +kernel, by decide +kernel⟩
theorem sm_q188_0 : ∀ r ∈ (sm_i188).take 40, decode prog_14_method_37_code r.1 = .ok (r.2.1, r.2.2) := sm_dc (by decide +kernel)
theorem sm_q188_1 : ∀ r ∈ ((sm_i188).drop 40).take 40, decode prog_14_method_37_code r.1 = .ok (r.2.1, r.2.2) := sm_dc (by decide +kernel)
theorem sm_q188_2 : ∀ r ∈ ((sm_i188).drop 40).drop 40, decode prog_14_method_37_code r.1 = .ok (r.2.1, r.2.2) := sm_dc (by decide +kernel)
set_option maxRecDepth 100000 in
theorem sm_k188 : sm_ok sm_m188 := ⟨(sm_td 40 sm_q188_0 (sm_td 40 sm_q188_1 (sm_q188_2))), sm_in_ch [(8, 1), (1, 14), (8, 0), (0, 76)] rfl, by decide +kernel, by decide +kernel, by decide +kernel⟩
