set_option maxRecDepth 100000 in
theorem sm_N_c : sm_in (sm_N.flatMap sm_N_w) := sm_in_ch [(1, 36), (1, 37), (1, 2), (1, 99), (1, 100), (1, 5), (2, 3), (2, 4), (1, 12), (2, 16), (2, 17), (1, 13), (1, 105), (1, 106), (1, 6), (1, 118), (1, 119), (1, 7), (1, 128), (1, 129), (1, 8), (1, 138), (1, 139), (1, 9), (1, 158), (1, 159), (1, 10), (1, 173), (1, 174), (1, 11), (1, 164), (1, 43), (1, 3), (1, 42), (1, 43), (1, 3), (2, 22), (1, 43), (1, 3), (2, 9), (1, 43), (1, 3), (1, 28), (1, 29), (1, 1), (6, 120), (6, 121), (1, 14)] rfl
theorem sm_N_ok : ∀ q ∈ sm_N, sm_in (sm_N_w q) := fun q hq w hw => sm_N_c w (List.mem_flatMap.mpr ⟨q, hq, hw⟩)
set_option maxRecDepth 100000 in
theorem sm_NX_c : sm_in (sm_NX.flatMap sm_NX_w) := sm_in_ch [(2, 122), (2, 140), (1, 18), (5, 89), (5, 90), (1, 19), (5, 121), (5, 122), (1, 26), (2, 139), (2, 140), (1, 18), (5, 70), (2, 140), (1, 18), (5, 84), (5, 90), (1, 19), (5, 108), (5, 122), (1, 26)] rfl
theorem sm_NX_ok : ∀ q ∈ sm_NX, sm_in (sm_NX_w q) := fun q hq w hw => sm_NX_c w (List.mem_flatMap.mpr ⟨q, hq, hw⟩)
set_option maxRecDepth 100000 in
theorem sm_uw0 : sm_in (u_ws (sm_cn 0) (sm_T 0) (sm_nf 0)) := sm_in_ch [(2, 107), (2, 109), (2, 111), (2, 113), (2, 115)] rfl
set_option maxRecDepth 100000 in
theorem sm_uw1 : sm_in (u_ws (sm_cn 1) (sm_T 1) (sm_nf 1)) := sm_in_ch [(1, 88), (1, 90), (1, 92), (1, 94), (1, 96)] rfl
set_option maxRecDepth 100000 in
theorem sm_uw2 : sm_in (u_ws (sm_cn 2) (sm_T 2) (sm_nf 2)) := sm_in_ch [(1, 65), (1, 67)] rfl
set_option maxRecDepth 100000 in
theorem sm_uw3 : sm_in (u_ws (sm_cn 3) (sm_T 3) (sm_nf 3)) := sm_in_ch [(1, 224), (1, 226), (1, 228), (1, 230), (1, 232), (1, 234), (1, 236), (1, 238), (2, 0)] rfl
set_option maxRecDepth 100000 in
theorem sm_uw4 : sm_in (u_ws (sm_cn 4) (sm_T 4) (sm_nf 4)) := sm_in_ch [(1, 113), (1, 115)] rfl
set_option maxRecDepth 100000 in
theorem sm_uw5 : sm_in (u_ws (sm_cn 5) (sm_T 5) (sm_nf 5)) := sm_in_ch [(1, 125)] rfl
set_option maxRecDepth 100000 in
theorem sm_uw6 : sm_in (u_ws (sm_cn 6) (sm_T 6) (sm_nf 6)) := sm_in_ch [(1, 135)] rfl
set_option maxRecDepth 100000 in
theorem sm_uw7 : sm_in (u_ws (sm_cn 7) (sm_T 7) (sm_nf 7)) := sm_in_ch [(1, 149), (1, 151), (1, 153), (1, 155)] rfl
set_option maxRecDepth 100000 in
theorem sm_uw8 : sm_in (u_ws (sm_cn 8) (sm_T 8) (sm_nf 8)) := sm_in_ch [(1, 168), (1, 170)] rfl
set_option maxRecDepth 100000 in
theorem sm_uw9 : sm_in (u_ws (sm_cn 9) (sm_T 9) (sm_nf 9)) := sm_in_ch [(1, 193), (1, 195), (1, 197), (1, 199), (1, 201), (1, 203), (1, 205), (1, 207), (1, 209), (1, 211)] rfl
set_option maxRecDepth 100000 in
theorem sm_uw10 : sm_in (u_ws (sm_cn 10) (sm_T 10) (sm_nf 10)) := sm_in_ch [(2, 13)] rfl
set_option maxRecDepth 100000 in
theorem sm_uw11 : sm_in (u_ws (sm_cn 11) (sm_T 11) (sm_nf 11)) := sm_in_ch [(2, 71), (2, 73), (2, 75), (2, 77), (2, 79), (2, 81), (2, 83), (2, 85), (2, 87), (2, 89), (2, 91), (2, 93), (2, 95), (2, 97), (2, 99)] rfl
set_option maxRecDepth 100000 in
theorem sm_uw12 : sm_in (u_ws (sm_cn 12) (sm_T 12) (sm_nf 12)) := sm_in_ch [(6, 196), (6, 198), (6, 200), (6, 202), (6, 204), (6, 206), (6, 208), (6, 210), (6, 212), (6, 214), (6, 216), (6, 218), (6, 220), (6, 222), (6, 224), (6, 226), (6, 228), (6, 230), (6, 232), (6, 234), (6, 236), (6, 238), (7, 0), (7, 2), (7, 4), (7, 6), (7, 8), (7, 10), (7, 12), (7, 14), (7, 16), (7, 18), (7, 20), (7, 22), (7, 24), (7, 26), (7, 28), (7, 30), (7, 32), (7, 34), (7, 36), (7, 38), (7, 40), (7, 42), (7, 44), (7, 46), (7, 48), (7, 50), (7, 52), (7, 54), (7, 56), (7, 58), (7, 60), (7, 62), (7, 64), (7, 66), (7, 68), (7, 70), (7, 72), (7, 74), (7, 76), (7, 78), (7, 80), (7, 82), (7, 84), (7, 86), (7, 88), (7, 90), (7, 92)] rfl
theorem sm_uw (c : Nat) (hc : c < 13) : sm_in (u_ws (sm_cn c) (sm_T c) (sm_nf c)) := by
  match c, hc with
  | 0, _ => exact sm_uw0
  | 1, _ => exact sm_uw1
  | 2, _ => exact sm_uw2
  | 3, _ => exact sm_uw3
  | 4, _ => exact sm_uw4
  | 5, _ => exact sm_uw5
  | 6, _ => exact sm_uw6
  | 7, _ => exact sm_uw7
  | 8, _ => exact sm_uw8
  | 9, _ => exact sm_uw9
  | 10, _ => exact sm_uw10
  | 11, _ => exact sm_uw11
  | 12, _ => exact sm_uw12
theorem sm_tyok (c : Nat) (hc : c < 14) : ∀ k, k < sm_nf c → parseFieldDescriptor (sm_T c k).2.2.1 = some (sm_ty c k) := by
  match c, hc with
  | 0, _ => decide +kernel
  | 1, _ => decide +kernel
  | 2, _ => decide +kernel
  | 3, _ => decide +kernel
  | 4, _ => decide +kernel
  | 5, _ => decide +kernel
  | 6, _ => decide +kernel
  | 7, _ => decide +kernel
  | 8, _ => decide +kernel
  | 9, _ => decide +kernel
  | 10, _ => decide +kernel
  | 11, _ => decide +kernel
  | 12, _ => decide +kernel
  | 13, _ => decide +kernel
theorem sm_nmok (c : Nat) (hc : c < 13) : ∀ a, a < sm_nf c → ∀ b, b < sm_nf c → a ≠ b → (sm_T c a).2.1 ≠ (sm_T c b).2.1 := by
  match c, hc with
  | 0, _ => decide +kernel
  | 1, _ => decide +kernel
  | 2, _ => decide +kernel
  | 3, _ => decide +kernel
  | 4, _ => decide +kernel
  | 5, _ => decide +kernel
  | 6, _ => decide +kernel
  | 7, _ => decide +kernel
  | 8, _ => decide +kernel
  | 9, _ => decide +kernel
  | 10, _ => decide +kernel
  | 11, _ => decide +kernel
  | 12, _ => decide +kernel
