theorem sm_q212_0 : ∀ r ∈ (sm_i212).take 40, decode prog_14_method_56_code r.1 = .ok (r.2.1, r.2.2) := sm_dc (by decide +kernel)
theorem sm_q212_1 : ∀ r ∈ (sm_i212).drop 40, decode prog_14_method_56_code r.1 = .ok (r.2.1, r.2.2) := sm_dc (by decide +kernel)
set_option maxRecDepth 100000 in
theorem sm_k212 : sm_ok sm_m212 := ⟨(sm_td 40 sm_q212_0 (sm_q212_1)), sm_in_ch [(8, 109), (1, 14), (8, 108), (0, 96)] rfl, by decide +kernel, by decide +kernel, by decide +kernel⟩
theorem sm_q213_0 : ∀ r ∈ (sm_i213).take 40, decode prog_14_method_61_code r.1 = .ok (r.2.1, r.2.2) := sm_dc (by decide +kernel)
theorem sm_q213_1 : ∀ r ∈ ((sm_i213).drop 40).take 40, decode prog_14_method_61_code r.1 = .ok (r.2.1, r.2.2) := sm_dc (by decide +kernel)
theorem sm_q213_2 : ∀ r ∈ (((sm_i213).drop 40).drop 40).take 40, decode prog_14_method_61_code r.1 = .ok (r.2.1, r.2.2) := sm_dc (by decide +kernel)
theorem sm_q213_3 : ∀ r ∈ (((sm_i213).drop 40).drop 40).drop 40, decode prog_14_method_61_code r.1 = .ok (r.2.1, r.2.2) := sm_dc (by decide +kernel)
set_option maxRecDepth 100000 in
theorem sm_k213 : sm_ok sm_m213 := ⟨(sm_td 40 sm_q213_0 (sm_td 40 sm_q213_1 (sm_td 40 sm_q213_2 (sm_q213_3)))), sm_in_ch [(8, 113), (1, 14), (8, 112), (0, 97)] rfl, by decide +kernel, by decide +kernel, by decide +kernel⟩
set_option maxRecDepth 100000 in
theorem sm_k214 : sm_ok sm_m214 := ⟨sm_okd_of (by decide +kernel), sm_in_ch [(8, 117), (1, 14), (8, 116), (0, 98)] rfl, by decide +kernel, by decide +kernel, by decide +kernel⟩
set_option maxRecDepth 100000 in
theorem sm_k215 : sm_ok sm_m215 := ⟨sm_okd_of (by decide +kernel), sm_in_ch [(8, 122), (1, 14), (8, 121), (0, 99)] rfl, by decide +kernel, by decide +kernel, by decide +kernel⟩
theorem sm_q216_0 : ∀ r ∈ (sm_i216).take 40, decode prog_14_method_63_code r.1 = .ok (r.2.1, r.2.2) := sm_dc (by decide +kernel)
theorem sm_q216_1 : ∀ r ∈ ((sm_i216).drop 40).take 40, decode prog_14_method_63_code r.1 = .ok (r.2.1, r.2.2) := sm_dc (by decide +kernel)
theorem sm_q216_2 : ∀ r ∈ (((sm_i216).drop 40).drop 40).take 40, decode prog_14_method_63_code r.1 = .ok (r.2.1, r.2.2) := sm_dc (by decide +kernel)
theorem sm_q216_3 : ∀ r ∈ (((sm_i216).drop 40).drop 40).drop 40, decode prog_14_method_63_code r.1 = .ok (r.2.1, r.2.2) := sm_dc (by decide +kernel)
set_option maxRecDepth 100000 in
theorem sm_k216 : sm_ok sm_m216 := ⟨(sm_td 40 sm_q216_0 (sm_td 40 sm_q216_1 (sm_td 40 sm_q216_2 (sm_q216_3)))), sm_in_ch [(8, 128), (1, 14), (8, 127), (0, 100)] rfl, by decide +kernel, by decide +kernel, by decide +kernel⟩
set_option maxRecDepth 100000 in
theorem sm_k217 : sm_ok sm_m217 := ⟨sm_okd_of (by decide +kernel), sm_in_ch [(8, 131), (1, 14), (8, 130)] rfl, by decide +kernel, by decide +kernel, by decide +kernel⟩
set_option maxRecDepth 100000 in
theorem sm_k218 : sm_ok sm_m218 := ⟨sm_okd_of (by decide +kernel), sm_in_ch [(8, 135), (1, 14), (8, 134), (0, 101)] rfl, by decide +kernel, by decide +kernel, by decide +kernel⟩
theorem sm_q219_0 : ∀ r ∈ (sm_i219).take 40, decode prog_14_method_64_code r.1 = .ok (r.2.1, r.2.2) := sm_dc (by decide +kernel)
theorem sm_q219_1 : ∀ r ∈ (sm_i219).drop 40, decode prog_14_method_64_code r.1 = .ok (r.2.1, r.2.2) := sm_dc (by decide +kernel)
set_option maxRecDepth 100000 in
theorem sm_k219 : sm_ok sm_m219 := ⟨(sm_td 40 sm_q219_0 (sm_q219_1)), sm_in_ch [(8, 139), (1, 14), (8, 138), (0, 102)] rfl, by decide +kernel, by decide +kernel, by decide +kernel⟩
set_option maxRecDepth 100000 in
theorem sm_k220 : sm_ok sm_m220 := ⟨sm_okd_of (by decide +kernel), sm_in_ch [(8, 142), (1, 14), (8, 141)] rfl, by decide +kernel, by decide +kernel, by decide +kernel⟩
set_option maxRecDepth 100000 in
theorem sm_k221 : sm_ok sm_m221 := ⟨sm_okd_of (by decide +kernel), sm_in_ch [(8, 146), (1, 14), (8, 145), (0, 103)] rfl, by decide +kernel, by decide +kernel, by decide +kernel⟩
theorem sm_q222_0 : ∀ r ∈ (sm_i222).take 40, decode prog_14_method_68_code r.1 = .ok (r.2.1, r.2.2) := sm_dc (by decide +kernel)
theorem sm_q222_1 : ∀ r ∈ ((sm_i222).drop 40).take 40, decode prog_14_method_68_code r.1 = .ok (r.2.1, r.2.2) := sm_dc (by decide +kernel)
theorem sm_q222_2 : ∀ r ∈ (((sm_i222).drop 40).drop 40).take 40, decode prog_14_method_68_code r.1 = .ok (r.2.1, r.2.2) := sm_dc (by decide +kernel)
theorem sm_q222_3 : ∀ r ∈ ((((sm_i222).drop 40).drop 40).drop 40).take 40, decode prog_14_method_68_code r.1 = .ok (r.2.1, r.2.2) := sm_dc (by decide +kernel)
theorem sm_q222_4 : ∀ r ∈ ((((sm_i222).drop 40).drop 40).drop 40).drop 40, decode prog_14_method_68_code r.1 = .ok (r.2.1, r.2.2) := sm_dc (by decide +kernel)
set_option maxRecDepth 100000 in
theorem sm_k222 : sm_ok sm_m222 := ⟨(sm_td 40 sm_q222_0 (sm_td 40 sm_q222_1 (sm_td 40 sm_q222_2 (sm_td 40 sm_q222_3 (sm_q222_4))))), sm_in_ch [(8, 150), (1, 14), (8, 149), (0, 104)] rfl, by decide +kernel, by decide +kernel, by decide +kernel⟩
set_option maxRecDepth 100000 in
theorem sm_k223 : sm_ok sm_m223 := ⟨sm_okd_of (by decide +kernel), sm_in_ch [(8, 155), (1, 14), (8, 154), (0, 105)] rfl, by decide +kernel, by decide +kernel, by decide +kernel⟩
set_option maxRecDepth 100000 in
theorem sm_k224 : sm_ok sm_m224 := ⟨sm_okd_of (by decide +kernel), sm_in_ch [(8, 159), (1, 14), (8, 158), (0, 106)] rfl, by decide +kernel, by decide +kernel, by decide +kernel⟩
theorem sm_q225_0 : ∀ r ∈ (sm_i225).take 40, decode prog_14_method_76_code r.1 = .ok (r.2.1, r.2.2) := sm_dc (by decide +kernel)
theorem sm_q225_1 : ∀ r ∈ (sm_i225).drop 40, decode prog_14_method_76_code r.1 = .ok (r.2.1, r.2.2) := sm_dc (by decide +kernel)
set_option maxRecDepth 100000 in
theorem sm_k225 : sm_ok sm_m225 := ⟨(sm_td 40 sm_q225_0 (sm_q225_1)), sm_in_ch [(8, 167), (1, 14), (8, 166), (0, 107)] rfl, by decide +kernel, by decide +kernel, by decide +kernel⟩
set_option maxRecDepth 100000 in
theorem sm_k226 : sm_ok sm_m226 := ⟨sm_okd_of (by decide +kernel), sm_in_ch [(8, 171), (1, 14), (8, 170), (0, 108)] rfl, by decide +kernel, by decide +kernel, by decide +kernel⟩
theorem sm_q227_0 : ∀ r ∈ (sm_i227).take 40, decode prog_14_method_77_code r.1 = .ok (r.2.1, r.2.2) := sm_dc (by decide +kernel)
theorem sm_q227_1 : ∀ r ∈ ((sm_i227).drop 40).take 40, decode prog_14_method_77_code r.1 = .ok (r.2.1, r.2.2) := sm_dc (by decide +kernel)
theorem sm_q227_2 : ∀ r ∈ (((sm_i227).drop 40).drop 40).take 40, decode prog_14_method_77_code r.1 = .ok (r.2.1, r.2.2) := sm_dc (by decide +kernel)
theorem sm_q227_3 : ∀ r ∈ (((sm_i227).drop 40).drop 40).drop 40, decode prog_14_method_77_code r.1 = .ok (r.2.1, r.2.2) := sm_dc (by decide +kernel)
set_option maxRecDepth 100000 in
theorem sm_k227 : sm_ok sm_m227 := ⟨(sm_td 40 sm_q227_0 (sm_td 40 sm_q227_1 (sm_td 40 sm_q227_2 (sm_q227_3)))), sm_in_ch [(8, 175), (1, 14), (8, 174), (0, 109)] rfl, by decide +kernel, by decide +kernel, by decide +kernel⟩
theorem sm_q228_0 : ∀ r ∈ (sm_i228).take 40, decode prog_14_method_78_code r.1 = .ok (r.2.1, r.2.2) := sm_dc (by decide +kernel)
theorem sm_q228_1 : ∀ r ∈ ((sm_i228).drop 40).take 40, decode prog_14_method_78_code r.1 = .ok (r.2.1, r.2.2) := sm_dc (by decide +kernel)
theorem sm_q228_2 : ∀ r ∈ (((sm_i228).drop 40).drop 40).take 40, decode prog_14_method_78_code r.1 = .ok (r.2.1, r.2.2) := sm_dc (by decide +kernel)
theorem sm_q228_3 : ∀ r ∈ (((sm_i228).drop 40).drop 40).drop 40, decode prog_14_method_78_code r.1 = .ok (r.2.1, r.2.2) := sm_dc (by decide +kernel)
set_option maxRecDepth 100000 in
theorem sm_k228 : sm_ok sm_m228 := ⟨(sm_td 40 sm_q228_0 (sm_td 40 sm_q228_1 (sm_td 40 sm_q228_2 (sm_q228_3)))), sm_in_ch [(8, 179), (1, 14), (8, 178), (0, 110)] rfl, by decide +kernel, by decide +kernel, by decide +kernel⟩
theorem sm_q229_0 : ∀ r ∈ (sm_i229).take 40, decode prog_14_method_72_code r.1 = .ok (r.2.1, r.2.2) := sm_dc (by decide +kernel)
theorem sm_q229_1 : ∀ r ∈ ((sm_i229).drop 40).take 40, decode prog_14_method_72_code r.1 = .ok (r.2.1, r.2.2) := sm_dc (by decide +kernel)
theorem sm_q229_2 : ∀ r ∈ (((sm_i229).drop 40).drop 40).take 40, decode prog_14_method_72_code r.1 = .ok (r.2.1, r.2.2) := sm_dc (by decide +kernel)
theorem sm_q229_3 : ∀ r ∈ (((sm_i229).drop 40).drop 40).drop 40, decode prog_14_method_72_code r.1 = .ok (r.2.1, r.2.2) := sm_dc (by decide +kernel)
set_option maxRecDepth 100000 in
theorem sm_k229 : sm_ok sm_m229 := ⟨(sm_td 40 sm_q229_0 (sm_td 40 sm_q229_1 (sm_td 40 sm_q229_2 (sm_q229_3)))), sm_in_ch [(8, 183), (1, 14), (8, 182), (0, 111)] rfl, by decide +kernel, by decide +kernel, by decide +kernel⟩
