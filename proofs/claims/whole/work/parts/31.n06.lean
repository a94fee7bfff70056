/-! ===== what methods do from place to place, written by a program (wip/tools/gen_nodes.py) ===== -/
/-! MessageTree$Tree.sameSlots -/
theorem q137 : sm_q 137 11 sm_i137 2 := ⟨rfl, rfl, rfl⟩
set_option maxRecDepth 8000 in
theorem n137_20 {C : sm_K} {t : Nat} {v1 : Int32} {v2 : Int32} {v3 : Int32} {v4 : Int32} (ht : sm_tree C t) {D : sm_D} : sm_ge (sm_fx C 137 20 [.ref t, .int v1, .int v2, .int v3, .int v4] [] D) (
  if v3 ≤ v4 then
    some (.inl (some (.int (sm_nar .boolean (ni 1)))), D)
  else
    sm_bi (sm_fe C 139 [.ref t, .int v1, .int v4] D) (fun x0 D1 =>
      sm_bi (sm_fe C 139 [.ref t, .int v2, .int v4] D1) (fun x1 D2 =>
        if x0 = x1 then
          sm_fx C 137 20 [.ref t, .int v1, .int v2, .int v3, .int (v4 + ni 1)] [] D2
        else
          some (.inl (some (.int (sm_nar .boolean (ni 0)))), D2)))) := 
  (sx_p (pc' := 23) (lv' := [.ref t, .int v1, .int v2, .int v3, .int v4]) (st' := [.int v3, .int v4]) q137 13 2 rfl (sx_icmp_ge q137 15 rfl rfl (sx_p (pc' := 52) (lv' := [.ref t, .int v1, .int v2, .int v3, .int v4]) (st' := [.int (ni 1)]) q137 29 1 rfl (sx_ri (ty := .boolean) q137 30 rfl rfl)) (sx_p (pc' := 30) (lv' := [.ref t, .int v1, .int v2, .int v3, .int v4]) (st' := [.int v4, .int v1, .ref t]) q137 16 3 rfl (sx_ki (sx_V q137 19 rfl lk_11_125 vk_139 na_139 rfl rfl rfl rfl (ht.s 0 rfl)) (by decide) rfl (fun x0 D1 => (sx_p (pc' := 37) (lv' := [.ref t, .int v1, .int v2, .int v3, .int v4]) (st' := [.int v4, .int v2, .ref t, .int x0]) q137 20 3 rfl (sx_ki (sx_V q137 23 rfl lk_11_125 vk_139 na_139 rfl rfl rfl rfl (ht.s 0 rfl)) (by decide) rfl (fun x1 D2 => (sx_icmp_eq q137 24 rfl rfl (sx_p (pc' := 20) (lv' := [.ref t, .int v1, .int v2, .int v3, .int (v4 + ni 1)]) (st' := []) q137 27 2 rfl (sm_ge.refl _)) (sx_p (pc' := 44) (lv' := [.ref t, .int v1, .int v2, .int v3, .int v4]) (st' := [.int (ni 0)]) q137 25 1 rfl (sx_ri (ty := .boolean) q137 26 rfl rfl)))))))))))
set_option maxRecDepth 8000 in
theorem f137 {C : sm_K} {t : Nat} {v1 : Int32} {v2 : Int32} (ht : sm_tree C t) {D : sm_D} : sm_ge (sm_fe C 137 [.ref t, .int v1, .int v2] D) (
  sm_bi (sm_fe C 138 [.ref t, .int v1] D) (fun x0 D1 =>
    sm_bi (sm_fe C 138 [.ref t, .int v2] D1) (fun x1 D2 =>
      if x0 = x1 then
        sm_fx C 137 20 [.ref t, .int v1, .int v2, .int x0, .int (ni 0)] [] D2
      else
        some (.inl (some (.int (sm_nar .boolean (ni 0)))), D2)))) := by
  rw [sx_fe (m := 5) rfl rfl]
  exact (show sm_ge (sm_fx C 137 0 [.ref t, .int v1, .int v2, sm_junk, sm_junk] [] D) _ from (sx_p (pc' := 2) (lv' := [.ref t, .int v1, .int v2, sm_junk, sm_junk]) (st' := [.int v1, .ref t]) q137 0 2 rfl (sx_ki (sx_V q137 2 rfl lk_11_118 vk_138 na_138 rfl rfl rfl rfl (ht.s 0 rfl)) (by decide) rfl (fun x0 D1 => (sx_p (pc' := 9) (lv' := [.ref t, .int v1, .int v2, .int x0, sm_junk]) (st' := [.int v2, .ref t, .int x0]) q137 3 4 rfl (sx_ki (sx_V q137 7 rfl lk_11_118 vk_138 na_138 rfl rfl rfl rfl (ht.s 0 rfl)) (by decide) rfl (fun x1 D2 => (sx_icmp_eq q137 8 rfl rfl (sx_p (pc' := 20) (lv' := [.ref t, .int v1, .int v2, .int x0, .int (ni 0)]) (st' := []) q137 11 2 rfl (sm_ge.refl _)) (sx_p (pc' := 16) (lv' := [.ref t, .int v1, .int v2, .int x0, sm_junk]) (st' := [.int (ni 0)]) q137 9 1 rfl (sx_ri (ty := .boolean) q137 10 rfl rfl))))))))))
/-! MessageTree$Tree.sizeOf -/
theorem q138 : sm_q 138 11 sm_i138 0 := ⟨rfl, rfl, rfl⟩
set_option maxRecDepth 8000 in
theorem f138 {C : sm_K} {t : Nat} {v1 : Int32} (ht : sm_tree C t) {D : sm_D} : sm_ge (sm_fe C 138 [.ref t, .int v1] D) (
  if v1 < ni 0 then
    some (.inl (some (.int (ni 0))), D)
  else
    if (ni 1061) ≤ v1 then
      some (.inl (some (.int (ni 0))), D)
    else
      sm_gu (sm_in_b v1 1061) (
      some (.inl (some (.int (D.1 (t + 4) v1.toNatClampNeg))), D))) := by
  rw [sx_fe (m := 2) rfl rfl]
  exact (show sm_ge (sm_fx C 138 0 [.ref t, .int v1] [] D) _ from (sx_p (pc' := 1) (lv' := [.ref t, .int v1]) (st' := [.int v1]) q138 0 1 rfl (sx_if_lt q138 1 rfl rfl (sx_p (pc' := 21) (lv' := [.ref t, .int v1]) (st' := [.int (ni 0)]) q138 10 1 rfl (sx_ri (ty := .int) q138 11 rfl rfl)) (sx_p (pc' := 8) (lv' := [.ref t, .int v1]) (st' := [.int (ni 1061), .int v1]) q138 2 2 rfl (sx_icmp_ge q138 4 rfl rfl (sx_p (pc' := 21) (lv' := [.ref t, .int v1]) (st' := [.int (ni 0)]) q138 10 1 rfl (sx_ri (ty := .int) q138 11 rfl rfl)) (sx_p (pc' := 12) (lv' := [.ref t, .int v1]) (st' := [.ref t]) q138 5 1 rfl (sx_gR q138 6 rfl fk_11_24 (fun _ _ => rfl) (ht.s 0 rfl) (ht.r 0 2 rfl) (sx_p (pc' := 16) (lv' := [.ref t, .int v1]) (st' := [.int v1, .ref (t + 4)]) q138 7 1 rfl (sx_ia q138 8 rfl (ht.s 4 rfl) (ht.b 4) (sx_p (pc' := 21) (lv' := [.ref t, .int v1]) (st' := [.int (D.1 (t + 4) v1.toNatClampNeg)]) q138 9 1 rfl (sx_ri (ty := .int) q138 11 rfl rfl)))))))))))
/-! MessageTree$Tree.itemOf -/
theorem q139 : sm_q 139 11 sm_i139 1 := ⟨rfl, rfl, rfl⟩
set_option maxRecDepth 8000 in
theorem f139 {C : sm_K} {t : Nat} {v1 : Int32} {v2 : Int32} (ht : sm_tree C t) {D : sm_D} : sm_ge (sm_fe C 139 [.ref t, .int v1, .int v2] D) (
  sm_bi (sm_fe C 140 [.ref t, .int v1] D) (fun x0 D1 =>
    sm_bi (sm_fe C 42 [.ref (t + 1), .int (x0 + v2)] D1) (fun x1 D2 =>
      some (.inl (some (.int x1)), D2)))) := by
  rw [sx_fe (m := 3) rfl rfl]
  exact (show sm_ge (sm_fx C 139 0 [.ref t, .int v1, .int v2] [] D) _ from (sx_p (pc' := 1) (lv' := [.ref t, .int v1, .int v2]) (st' := [.ref t]) q139 0 1 rfl (sx_gR q139 1 rfl fk_11_16 (fun _ _ => rfl) (ht.s 0 rfl) (ht.r 0 0 rfl) (sx_p (pc' := 6) (lv' := [.ref t, .int v1, .int v2]) (st' := [.int v1, .ref t, .ref (t + 1)]) q139 2 2 rfl (sx_ki (sx_V q139 4 rfl lk_11_112 vk_140 na_140 rfl rfl rfl rfl (ht.s 0 rfl)) (by decide) rfl (fun x0 D1 => (sx_p (pc' := 11) (lv' := [.ref t, .int v1, .int v2]) (st' := [.int (x0 + v2), .ref (t + 1)]) q139 5 2 rfl (sx_ki (sx_V q139 7 rfl lk_11_115 vk_42 na_42 rfl rfl rfl rfl (ht.s 1 rfl)) (by decide) rfl (fun x1 D2 => (sx_ri (ty := .int) q139 8 rfl rfl))))))))))
/-! MessageTree$Tree.startOf -/
theorem q140 : sm_q 140 11 sm_i140 0 := ⟨rfl, rfl, rfl⟩
set_option maxRecDepth 8000 in
theorem f140 {C : sm_K} {t : Nat} {v1 : Int32} (ht : sm_tree C t) {D : sm_D} : sm_ge (sm_fe C 140 [.ref t, .int v1] D) (
  if v1 < ni 0 then
    some (.inl (some (.int (ni 0))), D)
  else
    if (ni 1061) ≤ v1 then
      some (.inl (some (.int (ni 0))), D)
    else
      sm_gu (sm_in_b v1 1061) (
      some (.inl (some (.int (D.1 (t + 3) v1.toNatClampNeg))), D))) := by
  rw [sx_fe (m := 2) rfl rfl]
  exact (show sm_ge (sm_fx C 140 0 [.ref t, .int v1] [] D) _ from (sx_p (pc' := 1) (lv' := [.ref t, .int v1]) (st' := [.int v1]) q140 0 1 rfl (sx_if_lt q140 1 rfl rfl (sx_p (pc' := 21) (lv' := [.ref t, .int v1]) (st' := [.int (ni 0)]) q140 10 1 rfl (sx_ri (ty := .int) q140 11 rfl rfl)) (sx_p (pc' := 8) (lv' := [.ref t, .int v1]) (st' := [.int (ni 1061), .int v1]) q140 2 2 rfl (sx_icmp_ge q140 4 rfl rfl (sx_p (pc' := 21) (lv' := [.ref t, .int v1]) (st' := [.int (ni 0)]) q140 10 1 rfl (sx_ri (ty := .int) q140 11 rfl rfl)) (sx_p (pc' := 12) (lv' := [.ref t, .int v1]) (st' := [.ref t]) q140 5 1 rfl (sx_gR q140 6 rfl fk_11_20 (fun _ _ => rfl) (ht.s 0 rfl) (ht.r 0 1 rfl) (sx_p (pc' := 16) (lv' := [.ref t, .int v1]) (st' := [.int v1, .ref (t + 3)]) q140 7 1 rfl (sx_ia q140 8 rfl (ht.s 3 rfl) (ht.b 3) (sx_p (pc' := 21) (lv' := [.ref t, .int v1]) (st' := [.int (D.1 (t + 3) v1.toNatClampNeg)]) q140 9 1 rfl (sx_ri (ty := .int) q140 11 rfl rfl)))))))))))
/-! MessageTree$Tree.slotSpells -/
theorem q141 : sm_q 141 11 sm_i141 5 := ⟨rfl, rfl, rfl⟩
set_option maxRecDepth 8000 in
theorem f141 {C : sm_K} {t : Nat} {v1 : Int32} {s : Nat} {w : Nat} {nw : Nat} (ht : sm_tree C t) (hs : sm_sr C s w nw) {D : sm_D} : sm_ge (sm_fe C 141 [.ref t, .int v1, .ref s] D) (
  sm_bi (sm_fe C 140 [.ref t, .int v1] D) (fun x0 D1 =>
    sm_bi (sm_fe C 138 [.ref t, .int v1] D1) (fun x1 D2 =>
      sm_bi (sm_fe C 43 [.ref (t + 1), .int x0, .int x1, .ref s] D2) (fun x2 D3 =>
        some (.inl (some (.int (sm_nar .boolean x2))), D3))))) := by
  rw [sx_fe (m := 3) rfl rfl]
  exact (show sm_ge (sm_fx C 141 0 [.ref t, .int v1, .ref s] [] D) _ from (sx_p (pc' := 1) (lv' := [.ref t, .int v1, .ref s]) (st' := [.ref t]) q141 0 1 rfl (sx_gR q141 1 rfl fk_11_16 (fun _ _ => rfl) (ht.s 0 rfl) (ht.r 0 0 rfl) (sx_p (pc' := 6) (lv' := [.ref t, .int v1, .ref s]) (st' := [.int v1, .ref t, .ref (t + 1)]) q141 2 2 rfl (sx_ki (sx_V q141 4 rfl lk_11_112 vk_140 na_140 rfl rfl rfl rfl (ht.s 0 rfl)) (by decide) rfl (fun x0 D1 => (sx_p (pc' := 11) (lv' := [.ref t, .int v1, .ref s]) (st' := [.int v1, .ref t, .int x0, .ref (t + 1)]) q141 5 2 rfl (sx_ki (sx_V q141 7 rfl lk_11_118 vk_138 na_138 rfl rfl rfl rfl (ht.s 0 rfl)) (by decide) rfl (fun x1 D2 => (sx_p (pc' := 15) (lv' := [.ref t, .int v1, .ref s]) (st' := [.ref s, .int x1, .int x0, .ref (t + 1)]) q141 8 1 rfl (sx_ki (sx_V q141 9 rfl lk_11_121 vk_43 na_43 rfl rfl rfl rfl (ht.s 1 rfl)) (by decide) rfl (fun x2 D3 => (sx_ri (ty := .boolean) q141 10 rfl rfl)))))))))))))
/-! MessageTree$Tree.boundarySlot -/
theorem q142 : sm_q 142 11 sm_i142 6 := ⟨rfl, rfl, rfl⟩
set_option maxRecDepth 8000 in
theorem n142_18 {C : sm_K} {t : Nat} {v1 : Int32} {s0 : Int32} (ht : sm_tree C t) {D : sm_D} : sm_ge (sm_fx C 142 18 [.ref t, .int v1, sm_junk, sm_junk] [.int s0] D) (
  sm_fx C 142 21 [.ref t, .int v1, .int s0, .int (ni 0)] [] D) := 
  (sx_p (pc' := 21) (lv' := [.ref t, .int v1, .int s0, .int (ni 0)]) (st' := []) q142 10 3 rfl (sm_ge.refl _))
set_option maxRecDepth 8000 in
theorem n142_21 {C : sm_K} {t : Nat} {v1 : Int32} {v2 : Int32} {v3 : Int32} (ht : sm_tree C t) {D : sm_D} : sm_ge (sm_fx C 142 21 [.ref t, .int v1, .int v2, .int v3] [] D) (
  if v2 ≤ v3 then
    some (.inl (some (.int (sm_k (-1)))), D)
  else
    sm_bi (sm_fe C 136 [.int v1, .int v3, .int (ni 0)] D) (fun x0 D1 =>
      sm_bi (sm_fe C 141 [.ref t, .int x0, .ref (C.1.1 23)] D1) (fun x1 D2 =>
        if x1 = ni 0 then
          sm_fx C 142 21 [.ref t, .int v1, .int v2, .int (v3 + ni 1)] [] D2
        else
          sm_bi (sm_fe C 136 [.int v1, .int v3, .int (ni 1)] D2) (fun x2 D3 =>
            some (.inl (some (.int x2)), D3))))) := 
  (sx_p (pc' := 23) (lv' := [.ref t, .int v1, .int v2, .int v3]) (st' := [.int v2, .int v3]) q142 13 2 rfl (sx_icmp_ge q142 15 rfl rfl (sx_p (pc' := 55) (lv' := [.ref t, .int v1, .int v2, .int v3]) (st' := [.int (sm_k (-1))]) q142 31 1 rfl (sx_ri (ty := .int) q142 32 rfl rfl)) (sx_p (pc' := 30) (lv' := [.ref t, .int v1, .int v2, .int v3]) (st' := [.int (ni 0), .int v3, .int v1, .ref t]) q142 16 4 rfl (sx_ki (sx_S q142 20 rfl lk_11_138 rfl na_136 rfl rfl rfl rfl) (by decide) rfl (fun x0 D1 => (sx_cs q142 21 rfl (Or.inl ⟨rfl, rfl⟩) cs_11_142 (sx_ki (sx_V q142 22 rfl lk_11_144 vk_141 na_141 rfl rfl rfl rfl (ht.s 0 rfl)) (by decide) rfl (fun x1 D2 => (sx_if_eq q142 23 rfl rfl (sx_p (pc' := 21) (lv' := [.ref t, .int v1, .int v2, .int (v3 + ni 1)]) (st' := []) q142 29 2 rfl (sm_ge.refl _)) (sx_p (pc' := 44) (lv' := [.ref t, .int v1, .int v2, .int v3]) (st' := [.int (ni 1), .int v3, .int v1]) q142 24 3 rfl (sx_ki (sx_S q142 27 rfl lk_11_138 rfl na_136 rfl rfl rfl rfl) (by decide) rfl (fun x2 D3 => (sx_ri (ty := .int) q142 28 rfl rfl)))))))))))))
set_option maxRecDepth 8000 in
theorem f142 {C : sm_K} {t : Nat} {v1 : Int32} (ht : sm_tree C t) {D : sm_D} : sm_ge (sm_fe C 142 [.ref t, .int v1] D) (
  sm_bi (sm_fe C 128 [.ref t, .int v1] D) (fun x0 D1 =>
    if x0 = ni 0 then
      sm_fx C 142 18 [.ref t, .int v1, sm_junk, sm_junk] [.int (ni 0)] D1
    else
      sm_gu (sm_in_b v1 40) (
      sm_fx C 142 18 [.ref t, .int v1, sm_junk, sm_junk] [.int (D1.1 (t + 8) v1.toNatClampNeg)] D1))) := by
  rw [sx_fe (m := 4) rfl rfl]
  exact (show sm_ge (sm_fx C 142 0 [.ref t, .int v1, sm_junk, sm_junk] [] D) _ from (sx_p (pc' := 2) (lv' := [.ref t, .int v1, sm_junk, sm_junk]) (st' := [.int v1, .ref t]) q142 0 2 rfl (sx_ki (sx_V q142 2 rfl lk_11_75 vk_128 na_128 rfl rfl rfl rfl (ht.s 0 rfl)) (by decide) rfl (fun x0 D1 => (sx_if_eq q142 3 rfl rfl (sx_p (pc' := 18) (lv' := [.ref t, .int v1, sm_junk, sm_junk]) (st' := [.int (ni 0)]) q142 9 1 rfl (sm_ge.refl _)) (sx_p (pc' := 9) (lv' := [.ref t, .int v1, sm_junk, sm_junk]) (st' := [.ref t]) q142 4 1 rfl (sx_gR q142 5 rfl fk_11_36 (fun _ _ => rfl) (ht.s 0 rfl) (ht.r 0 6 rfl) (sx_p (pc' := 13) (lv' := [.ref t, .int v1, sm_junk, sm_junk]) (st' := [.int v1, .ref (t + 8)]) q142 6 1 rfl (sx_ia q142 7 rfl (ht.s 8 rfl) (ht.b 8) (sx_p (pc' := 18) (lv' := [.ref t, .int v1, sm_junk, sm_junk]) (st' := [.int (D1.1 (t + 8) v1.toNatClampNeg)]) q142 8 1 rfl (sm_ge.refl _)))))))))))
/-! MessageTree$Tree.trimmedStart -/
theorem q143 : sm_q 143 11 sm_i143 2 := ⟨rfl, rfl, rfl⟩
set_option maxRecDepth 8000 in
theorem f143 {C : sm_K} {t : Nat} {v1 : Int32} (ht : sm_tree C t) {D : sm_D} : sm_ge (sm_fe C 143 [.ref t, .int v1] D) (
  sm_bi (sm_fe C 140 [.ref t, .int v1] D) (fun x0 D1 =>
    sm_bi (sm_fe C 138 [.ref t, .int v1] D1) (fun x1 D2 =>
      sm_bi (sm_fe C 45 [.ref (t + 1), .int x0, .int (x0 + x1), .int (ni 1)] D2) (fun x2 D3 =>
        some (.inl (some (.int x2)), D3))))) := by
  rw [sx_fe (m := 3) rfl rfl]
  exact (show sm_ge (sm_fx C 143 0 [.ref t, .int v1, sm_junk] [] D) _ from (sx_p (pc' := 2) (lv' := [.ref t, .int v1, sm_junk]) (st' := [.int v1, .ref t]) q143 0 2 rfl (sx_ki (sx_V q143 2 rfl lk_11_112 vk_140 na_140 rfl rfl rfl rfl (ht.s 0 rfl)) (by decide) rfl (fun x0 D1 => (sx_p (pc' := 7) (lv' := [.ref t, .int v1, .int x0]) (st' := [.ref t]) q143 3 2 rfl (sx_gR q143 5 rfl fk_11_16 (fun _ _ => rfl) (ht.s 0 rfl) (ht.r 0 0 rfl) (sx_p (pc' := 14) (lv' := [.ref t, .int v1, .int x0]) (st' := [.int v1, .ref t, .int x0, .int x0, .ref (t + 1)]) q143 6 4 rfl (sx_ki (sx_V q143 10 rfl lk_11_118 vk_138 na_138 rfl rfl rfl rfl (ht.s 0 rfl)) (by decide) rfl (fun x1 D2 => (sx_p (pc' := 19) (lv' := [.ref t, .int v1, .int x0]) (st' := [.int (ni 1), .int (x0 + x1), .int x0, .ref (t + 1)]) q143 11 2 rfl (sx_ki (sx_V q143 13 rfl lk_11_128 vk_45 na_45 rfl rfl rfl rfl (ht.s 1 rfl)) (by decide) rfl (fun x2 D3 => (sx_ri (ty := .int) q143 14 rfl rfl)))))))))))))
/-! MessageTree$Tree.trimmedEnd -/
theorem q144 : sm_q 144 11 sm_i144 1 := ⟨rfl, rfl, rfl⟩
set_option maxRecDepth 8000 in
theorem n144_14 {C : sm_K} {t : Nat} {v2 : Int32} {v3 : Int32} (ht : sm_tree C t) {D : sm_D} : sm_ge (sm_fx C 144 14 [.ref t, sm_junk, .int v2, .int v3] [] D) (
  if v3 ≤ v2 then
    some (.inl (some (.int v3)), D)
  else
    sm_bi (sm_fe C 42 [.ref (t + 1), .int (v3 - (ni 1))] D) (fun x0 D1 =>
      sm_bi (sm_fe C 3 [.int x0] D1) (fun x1 D2 =>
        if x1 = ni 0 then
          some (.inl (some (.int v3)), D2)
        else
          sm_fx C 144 14 [.ref t, sm_junk, .int v2, .int (v3 - ni 1)] [] D2))) := 
  (sx_p (pc' := 16) (lv' := [.ref t, sm_junk, .int v2, .int v3]) (st' := [.int v2, .int v3]) q144 10 2 rfl (sx_icmp_le q144 12 rfl rfl (sx_p (pc' := 42) (lv' := [.ref t, sm_junk, .int v2, .int v3]) (st' := [.int v3]) q144 23 1 rfl (sx_ri (ty := .int) q144 24 rfl rfl)) (sx_p (pc' := 20) (lv' := [.ref t, sm_junk, .int v2, .int v3]) (st' := [.ref t]) q144 13 1 rfl (sx_gR q144 14 rfl fk_11_16 (fun _ _ => rfl) (ht.s 0 rfl) (ht.r 0 0 rfl) (sx_p (pc' := 26) (lv' := [.ref t, sm_junk, .int v2, .int v3]) (st' := [.int (v3 - (ni 1)), .ref (t + 1)]) q144 15 3 rfl (sx_ki (sx_V q144 18 rfl lk_11_115 vk_42 na_42 rfl rfl rfl rfl (ht.s 1 rfl)) (by decide) rfl (fun x0 D1 => (sx_ki (sx_S q144 19 rfl lk_11_132 rfl na_3 rfl rfl rfl rfl) (by decide) rfl (fun x1 D2 => (sx_if_eq q144 20 rfl rfl (sx_p (pc' := 42) (lv' := [.ref t, sm_junk, .int v2, .int v3]) (st' := [.int v3]) q144 23 1 rfl (sx_ri (ty := .int) q144 24 rfl rfl)) (sx_p (pc' := 14) (lv' := [.ref t, sm_junk, .int v2, .int (v3 - ni 1)]) (st' := []) q144 21 2 rfl (sm_ge.refl _))))))))))))
set_option maxRecDepth 8000 in
theorem f144 {C : sm_K} {t : Nat} {v1 : Int32} (ht : sm_tree C t) {D : sm_D} : sm_ge (sm_fe C 144 [.ref t, .int v1] D) (
  sm_bi (sm_fe C 140 [.ref t, .int v1] D) (fun x0 D1 =>
    sm_bi (sm_fe C 138 [.ref t, .int v1] D1) (fun x1 D2 =>
      sm_fx C 144 14 [.ref t, sm_junk, .int x0, .int (x0 + x1)] [] D2))) := by
  rw [sx_fe (m := 4) rfl rfl]
  exact (show sm_ge (sm_fx C 144 0 [.ref t, .int v1, sm_junk, sm_junk] [] D) _ from (sx_p (pc' := 2) (lv' := [.ref t, .int v1, sm_junk, sm_junk]) (st' := [.int v1, .ref t]) q144 0 2 rfl (sx_ki (sx_V q144 2 rfl lk_11_112 vk_140 na_140 rfl rfl rfl rfl (ht.s 0 rfl)) (by decide) rfl (fun x0 D1 => (sx_p (pc' := 9) (lv' := [.ref t, .int v1, .int x0, sm_junk]) (st' := [.int v1, .ref t, .int x0]) q144 3 4 rfl (sx_ki (sx_V q144 7 rfl lk_11_118 vk_138 na_138 rfl rfl rfl rfl (ht.s 0 rfl)) (by decide) rfl (fun x1 D2 => (sx_p (pc' := 14) (lv' := [.ref t, .int v1, .int x0, .int (x0 + x1)]) (st' := []) q144 8 2 rfl (sx_w (lv := [.ref t, .int v1, .int x0, .int (x0 + x1)]) (lv' := [.ref t, sm_junk, .int x0, .int (x0 + x1)]) (sm_ordl.ord ⟨Or.inr rfl, Or.inl rfl, Or.inr rfl, Or.inr rfl, trivial⟩))))))))))
/-! MessageTree$Tree.addressSlot -/
theorem q145 : sm_q 145 11 sm_i145 0 := ⟨rfl, rfl, rfl⟩
set_option maxRecDepth 8000 in
theorem f145 {C : sm_K} {v0 : Int32} {v1 : Int32} {v2 : Int32} {D : sm_D} : sm_ge (sm_fe C 145 [.int v0, .int v1, .int v2] D) (
  some (.inl (some (.int (((ni 960) + ((ni 3) * (((ni 10) * (v0 - (ni 5))) + v1))) + v2))), D)) := by
  rw [sx_fe (m := 3) rfl rfl]
  exact (show sm_ge (sm_fx C 145 0 [.int v0, .int v1, .int v2] [] D) _ from (sx_p (pc' := 16) (lv' := [.int v0, .int v1, .int v2]) (st' := [.int (((ni 960) + ((ni 3) * (((ni 10) * (v0 - (ni 5))) + v1))) + v2)]) q145 0 13 rfl (sx_ri (ty := .int) q145 13 rfl rfl)))
/-! MessageTree$Tree.setAddressCount -/
theorem q146 : sm_q 146 11 sm_i146 0 := ⟨rfl, rfl, rfl⟩
set_option maxRecDepth 8000 in
theorem f146 {C : sm_K} {t : Nat} {v1 : Int32} {v2 : Int32} (ht : sm_tree C t) {D : sm_D} : sm_ge (sm_fe C 146 [.ref t, .int v1, .int v2] D) (
  if v1 = (ni 5) then
    sm_gu (sm_in_b (ni 0) 2) (
    let D2 := sm_dI D (t + 12) ((ni 0).toNatClampNeg) v2
    some (.inl none, D2))
  else
    if v1 = (ni 6) then
      sm_gu (sm_in_b (ni 1) 2) (
      let D1 := sm_dI D (t + 12) ((ni 1).toNatClampNeg) v2
      some (.inl none, D1))
    else
      some (.inl none, D)) := by
  rw [sx_fe (m := 3) rfl rfl]
  exact (show sm_ge (sm_fx C 146 0 [.ref t, .int v1, .int v2] [] D) _ from (sx_p (pc' := 2) (lv' := [.ref t, .int v1, .int v2]) (st' := [.int (ni 5), .int v1]) q146 0 2 rfl (sx_icmp_ne q146 2 rfl rfl (sx_p (pc' := 18) (lv' := [.ref t, .int v1, .int v2]) (st' := [.int (ni 6), .int v1]) q146 9 2 rfl (sx_icmp_ne q146 11 rfl rfl (sx_rv q146 17 rfl rfl) (sx_p (pc' := 22) (lv' := [.ref t, .int v1, .int v2]) (st' := [.ref t]) q146 12 1 rfl (sx_gR q146 13 rfl fk_11_49 (fun _ _ => rfl) (ht.s 0 rfl) (ht.r 0 10 rfl) (sx_p (pc' := 27) (lv' := [.ref t, .int v1, .int v2]) (st' := [.int v2, .int (ni 1), .ref (t + 12)]) q146 14 2 rfl (sx_is q146 16 rfl (ht.s 12 rfl) (ht.b 12) (sx_rv q146 17 rfl rfl))))))) (sx_p (pc' := 6) (lv' := [.ref t, .int v1, .int v2]) (st' := [.ref t]) q146 3 1 rfl (sx_gR q146 4 rfl fk_11_49 (fun _ _ => rfl) (ht.s 0 rfl) (ht.r 0 10 rfl) (sx_p (pc' := 11) (lv' := [.ref t, .int v1, .int v2]) (st' := [.int v2, .int (ni 0), .ref (t + 12)]) q146 5 2 rfl (sx_is q146 7 rfl (ht.s 12 rfl) (ht.b 12) (sx_p (pc' := 28) (lv' := [.ref t, .int v1, .int v2]) (st' := []) q146 8 1 rfl (sx_rv q146 17 rfl rfl)))))))))
/-! MessageTree$Tree.octetSlot -/
theorem q147 : sm_q 147 11 sm_i147 0 := ⟨rfl, rfl, rfl⟩
set_option maxRecDepth 8000 in
theorem f147 {C : sm_K} {v0 : Int32} {D : sm_D} : sm_ge (sm_fe C 147 [.int v0] D) (
  some (.inl (some (.int ((ni 1020) + v0))), D)) := by
  rw [sx_fe (m := 1) rfl rfl]
  exact (show sm_ge (sm_fx C 147 0 [.int v0] [] D) _ from (sx_p (pc' := 5) (lv' := [.int v0]) (st' := [.int ((ni 1020) + v0)]) q147 0 3 rfl (sx_ri (ty := .int) q147 3 rfl rfl)))
/-! MessageTree$Tree.partCount -/
theorem q148 : sm_q 148 11 sm_i148 2 := ⟨rfl, rfl, rfl⟩
set_option maxRecDepth 8000 in
theorem n148_4 {C : sm_K} {t : Nat} {v1 : Int32} {v2 : Int32} {v3 : Int32} (ht : sm_tree C t) {D : sm_D} : sm_ge (sm_fx C 148 4 [.ref t, .int v1, .int v2, .int v3] [] D) (
  if (D.1 t 11) ≤ v3 then
    some (.inl (some (.int v2)), D)
  else
    sm_bi (sm_fe C 149 [.ref t, .int v3] D) (fun x0 D1 =>
      if x0 = v1 then
        sm_fx C 148 4 [.ref t, .int v1, .int (v2 + ni 1), .int (v3 + ni 1)] [] D1
      else
        sm_fx C 148 4 [.ref t, .int v1, .int v2, .int (v3 + ni 1)] [] D1)) := 
  (sx_p (pc' := 6) (lv' := [.ref t, .int v1, .int v2, .int v3]) (st' := [.ref t, .int v3]) q148 4 2 rfl (sx_gI q148 6 rfl fk_11_62 rfl (ht.s 0 rfl) (ht.b 0) (sx_icmp_ge q148 7 rfl rfl (sx_p (pc' := 31) (lv' := [.ref t, .int v1, .int v2, .int v3]) (st' := [.int v2]) q148 16 1 rfl (sx_ri (ty := .int) q148 17 rfl rfl)) (sx_p (pc' := 14) (lv' := [.ref t, .int v1, .int v2, .int v3]) (st' := [.int v3, .ref t]) q148 8 2 rfl (sx_ki (sx_V q148 10 rfl lk_11_135 vk_149 na_149 rfl rfl rfl rfl (ht.s 0 rfl)) (by decide) rfl (fun x0 D1 => (sx_p (pc' := 18) (lv' := [.ref t, .int v1, .int v2, .int v3]) (st' := [.int v1, .int x0]) q148 11 1 rfl (sx_icmp_ne q148 12 rfl rfl (sx_p (pc' := 4) (lv' := [.ref t, .int v1, .int v2, .int (v3 + ni 1)]) (st' := []) q148 14 2 rfl (sm_ge.refl _)) (sx_p (pc' := 4) (lv' := [.ref t, .int v1, .int (v2 + ni 1), .int (v3 + ni 1)]) (st' := []) q148 13 3 rfl (sm_ge.refl _))))))))))
set_option maxRecDepth 8000 in
theorem f148 {C : sm_K} {t : Nat} {v1 : Int32} (ht : sm_tree C t) {D : sm_D} : sm_ge (sm_fe C 148 [.ref t, .int v1] D) (
  sm_fx C 148 4 [.ref t, .int v1, .int (ni 0), .int (ni 0)] [] D) := by
  rw [sx_fe (m := 4) rfl rfl]
  exact (show sm_ge (sm_fx C 148 0 [.ref t, .int v1, sm_junk, sm_junk] [] D) _ from (sx_p (pc' := 4) (lv' := [.ref t, .int v1, .int (ni 0), .int (ni 0)]) (st' := []) q148 0 4 rfl (sm_ge.refl _)))
/-! MessageTree$Tree.parentOf -/
theorem q149 : sm_q 149 11 sm_i149 1 := ⟨rfl, rfl, rfl⟩
set_option maxRecDepth 8000 in
theorem f149 {C : sm_K} {t : Nat} {v1 : Int32} (ht : sm_tree C t) {D : sm_D} : sm_ge (sm_fe C 149 [.ref t, .int v1] D) (
  sm_bi (sm_fe C 128 [.ref t, .int v1] D) (fun x0 D1 =>
    if x0 = ni 0 then
      some (.inl (some (.int (sm_k (-1)))), D1)
    else
      sm_gu (sm_in_b v1 40) (
      some (.inl (some (.int (D1.1 (t + 5) v1.toNatClampNeg))), D1)))) := by
  rw [sx_fe (m := 2) rfl rfl]
  exact (show sm_ge (sm_fx C 149 0 [.ref t, .int v1] [] D) _ from (sx_p (pc' := 2) (lv' := [.ref t, .int v1]) (st' := [.int v1, .ref t]) q149 0 2 rfl (sx_ki (sx_V q149 2 rfl lk_11_75 vk_128 na_128 rfl rfl rfl rfl (ht.s 0 rfl)) (by decide) rfl (fun x0 D1 => (sx_if_eq q149 3 rfl rfl (sx_p (pc' := 18) (lv' := [.ref t, .int v1]) (st' := [.int (sm_k (-1))]) q149 9 1 rfl (sx_ri (ty := .int) q149 10 rfl rfl)) (sx_p (pc' := 9) (lv' := [.ref t, .int v1]) (st' := [.ref t]) q149 4 1 rfl (sx_gR q149 5 rfl fk_11_27 (fun _ _ => rfl) (ht.s 0 rfl) (ht.r 0 3 rfl) (sx_p (pc' := 13) (lv' := [.ref t, .int v1]) (st' := [.int v1, .ref (t + 5)]) q149 6 1 rfl (sx_ia q149 7 rfl (ht.s 5 rfl) (ht.b 5) (sx_p (pc' := 18) (lv' := [.ref t, .int v1]) (st' := [.int (D1.1 (t + 5) v1.toNatClampNeg)]) q149 8 1 rfl (sx_ri (ty := .int) q149 10 rfl rfl)))))))))))
/-! MessageTree$Tree.partNumber -/
theorem q150 : sm_q 150 11 sm_i150 2 := ⟨rfl, rfl, rfl⟩
set_option maxRecDepth 8000 in
theorem n150_5 {C : sm_K} {t : Nat} {v1 : Int32} {v2 : Int32} {v3 : Int32} {v4 : Int32} (ht : sm_tree C t) {D : sm_D} : sm_ge (sm_fx C 150 5 [.ref t, .int v1, .int v2, .int v3, .int v4] [] D) (
  if (D.1 t 11) ≤ v4 then
    some (.inl (some (.int (sm_k (-1)))), D)
  else
    sm_bi (sm_fe C 149 [.ref t, .int v4] D) (fun x0 D1 =>
      if x0 = v1 then
        if v3 = v2 then
          some (.inl (some (.int v4)), D1)
        else
          sm_fx C 150 5 [.ref t, .int v1, .int v2, .int (v3 + ni 1), .int (v4 + ni 1)] [] D1
      else
        sm_fx C 150 5 [.ref t, .int v1, .int v2, .int v3, .int (v4 + ni 1)] [] D1)) := 
  (sx_p (pc' := 8) (lv' := [.ref t, .int v1, .int v2, .int v3, .int v4]) (st' := [.ref t, .int v4]) q150 4 2 rfl (sx_gI q150 6 rfl fk_11_62 rfl (ht.s 0 rfl) (ht.b 0) (sx_icmp_ge q150 7 rfl rfl (sx_p (pc' := 42) (lv' := [.ref t, .int v1, .int v2, .int v3, .int v4]) (st' := [.int (sm_k (-1))]) q150 21 1 rfl (sx_ri (ty := .int) q150 22 rfl rfl)) (sx_p (pc' := 17) (lv' := [.ref t, .int v1, .int v2, .int v3, .int v4]) (st' := [.int v4, .ref t]) q150 8 2 rfl (sx_ki (sx_V q150 10 rfl lk_11_135 vk_149 na_149 rfl rfl rfl rfl (ht.s 0 rfl)) (by decide) rfl (fun x0 D1 => (sx_p (pc' := 21) (lv' := [.ref t, .int v1, .int v2, .int v3, .int v4]) (st' := [.int v1, .int x0]) q150 11 1 rfl (sx_icmp_ne q150 12 rfl rfl (sx_p (pc' := 5) (lv' := [.ref t, .int v1, .int v2, .int v3, .int (v4 + ni 1)]) (st' := []) q150 19 2 rfl (sm_ge.refl _)) (sx_p (pc' := 26) (lv' := [.ref t, .int v1, .int v2, .int v3, .int v4]) (st' := [.int v2, .int v3]) q150 13 2 rfl (sx_icmp_ne q150 15 rfl rfl (sx_p (pc' := 5) (lv' := [.ref t, .int v1, .int v2, .int (v3 + ni 1), .int (v4 + ni 1)]) (st' := []) q150 18 3 rfl (sm_ge.refl _)) (sx_p (pc' := 31) (lv' := [.ref t, .int v1, .int v2, .int v3, .int v4]) (st' := [.int v4]) q150 16 1 rfl (sx_ri (ty := .int) q150 17 rfl rfl))))))))))))
set_option maxRecDepth 8000 in
theorem f150 {C : sm_K} {t : Nat} {v1 : Int32} {v2 : Int32} (ht : sm_tree C t) {D : sm_D} : sm_ge (sm_fe C 150 [.ref t, .int v1, .int v2] D) (
  sm_fx C 150 5 [.ref t, .int v1, .int v2, .int (ni 0), .int (ni 0)] [] D) := by
  rw [sx_fe (m := 5) rfl rfl]
  exact (show sm_ge (sm_fx C 150 0 [.ref t, .int v1, .int v2, sm_junk, sm_junk] [] D) _ from (sx_p (pc' := 5) (lv' := [.ref t, .int v1, .int v2, .int (ni 0), .int (ni 0)]) (st' := []) q150 0 4 rfl (sm_ge.refl _)))
/-! MessageTree$Tree.addressCount -/
theorem q151 : sm_q 151 11 sm_i151 0 := ⟨rfl, rfl, rfl⟩
set_option maxRecDepth 8000 in
theorem f151 {C : sm_K} {t : Nat} {v1 : Int32} (ht : sm_tree C t) {D : sm_D} : sm_ge (sm_fe C 151 [.ref t, .int v1] D) (
  if v1 = (ni 5) then
    sm_gu (sm_in_b (ni 0) 2) (
    some (.inl (some (.int (D.1 (t + 12) (ni 0).toNatClampNeg))), D))
  else
    if v1 = (ni 6) then
      sm_gu (sm_in_b (ni 1) 2) (
      some (.inl (some (.int (D.1 (t + 12) (ni 1).toNatClampNeg))), D))
    else
      some (.inl (some (.int (ni 0))), D)) := by
  rw [sx_fe (m := 2) rfl rfl]
  exact (show sm_ge (sm_fx C 151 0 [.ref t, .int v1] [] D) _ from (sx_p (pc' := 2) (lv' := [.ref t, .int v1]) (st' := [.int (ni 5), .int v1]) q151 0 2 rfl (sx_icmp_ne q151 2 rfl rfl (sx_p (pc' := 17) (lv' := [.ref t, .int v1]) (st' := [.int (ni 6), .int v1]) q151 8 2 rfl (sx_icmp_ne q151 10 rfl rfl (sx_p (pc' := 30) (lv' := [.ref t, .int v1]) (st' := [.int (ni 0)]) q151 16 1 rfl (sx_ri (ty := .int) q151 17 rfl rfl)) (sx_p (pc' := 21) (lv' := [.ref t, .int v1]) (st' := [.ref t]) q151 11 1 rfl (sx_gR q151 12 rfl fk_11_49 (fun _ _ => rfl) (ht.s 0 rfl) (ht.r 0 10 rfl) (sx_p (pc' := 25) (lv' := [.ref t, .int v1]) (st' := [.int (ni 1), .ref (t + 12)]) q151 13 1 rfl (sx_ia q151 14 rfl (ht.s 12 rfl) (ht.b 12) (sx_p (pc' := 30) (lv' := [.ref t, .int v1]) (st' := [.int (D.1 (t + 12) (ni 1).toNatClampNeg)]) q151 15 1 rfl (sx_ri (ty := .int) q151 17 rfl rfl)))))))) (sx_p (pc' := 6) (lv' := [.ref t, .int v1]) (st' := [.ref t]) q151 3 1 rfl (sx_gR q151 4 rfl fk_11_49 (fun _ _ => rfl) (ht.s 0 rfl) (ht.r 0 10 rfl) (sx_p (pc' := 10) (lv' := [.ref t, .int v1]) (st' := [.int (ni 0), .ref (t + 12)]) q151 5 1 rfl (sx_ia q151 6 rfl (ht.s 12 rfl) (ht.b 12) (sx_p (pc' := 30) (lv' := [.ref t, .int v1]) (st' := [.int (D.1 (t + 12) (ni 0).toNatClampNeg)]) q151 7 1 rfl (sx_ri (ty := .int) q151 17 rfl rfl)))))))))
/-! MessageTreeModel.thrown -/
theorem q153 : sm_q 153 12 sm_i153 0 := ⟨rfl, rfl, rfl⟩
set_option maxRecDepth 8000 in
theorem f153 {C : sm_K} {X : Nat} (hX : sm_Lay C X) {D : sm_D} : sm_ge (sm_fe C 153 [.ref (X + 49)] D) (
  some (.inl (some (.int (D.1 (X + 49) 0))), D)) := by
  rw [sx_fe (m := 1) rfl rfl]
  exact (show sm_ge (sm_fx C 153 0 [.ref (X + 49)] [] D) _ from (sx_p (pc' := 1) (lv' := [.ref (X + 49)]) (st' := [.ref (X + 49)]) q153 0 1 rfl (sx_gI q153 1 rfl fk_12_130 rfl (hX.s 49 rfl) (hX.b 49) (sx_ri (ty := .int) q153 2 rfl rfl))))
/-! MessageTreeModel.feed -/
theorem q154 : sm_q 154 12 sm_i154 1 := ⟨rfl, rfl, rfl⟩
set_option maxRecDepth 8000 in
theorem n154_19 {C : sm_K} {X : Nat} {v1 : Int32} {v2 : Int32} {v3 : Int32} {v4 : Int32} {v5 : Int32} {s1 : Int32} (hX : sm_Lay C X) {D : sm_D} : sm_ge (sm_fx C 154 19 [.ref (X + 49), .int v1, .int v2, .int v3, .int v4, .int v5, sm_junk, sm_junk] [.int s1, .ref (X + 49)] D) (
  sm_bi (sm_fe C 155 [.ref (X + 49), .int s1] D) (fun x0 D1 =>
    if x0 = ni 0 then
      some (.inl (some (.int (ni 0))), D1)
    else
      sm_fx C 154 30 [.ref (X + 49), .int v1, .int v2, .int v3, .int v4, .int v5, .int (ni 0), sm_junk] [] D1)) := 
  (sx_ki (sx_V q154 10 rfl lk_12_144 vk_155 na_155 rfl rfl rfl rfl (hX.s 49 rfl)) (by decide) rfl (fun x0 D1 => (sx_if_ne q154 11 rfl rfl (sx_p (pc' := 30) (lv' := [.ref (X + 49), .int v1, .int v2, .int v3, .int v4, .int v5, .int (ni 0), sm_junk]) (st' := []) q154 14 2 rfl (sm_ge.refl _)) (sx_p (pc' := 26) (lv' := [.ref (X + 49), .int v1, .int v2, .int v3, .int v4, .int v5, sm_junk, sm_junk]) (st' := [.int (ni 0)]) q154 12 1 rfl (sx_ri (ty := .int) q154 13 rfl rfl)))))
set_option maxRecDepth 8000 in
theorem n154_30 {C : sm_K} {X : Nat} {v1 : Int32} {v2 : Int32} {v3 : Int32} {v4 : Int32} {v5 : Int32} {v6 : Int32} (hX : sm_Lay C X) {D : sm_D} : sm_ge (sm_fx C 154 30 [.ref (X + 49), .int v1, .int v2, .int v3, .int v4, .int v5, .int v6, sm_junk] [] D) (
  if (ni 20) ≤ v6 then
    some (.inl (some (.int (D.1 (X + 49) 2))), D)
  else
    if (ni 4) ≤ v6 then
      if (ni 8) ≤ v6 then
        if (ni 12) ≤ v6 then
          if (ni 16) ≤ v6 then
            sm_fx C 154 83 [.ref (X + 49), .int v1, .int v2, .int v3, .int v4, .int v5, .int v6, sm_junk] [.int v5] D
          else
            sm_fx C 154 83 [.ref (X + 49), .int v1, .int v2, .int v3, .int v4, .int v5, .int v6, sm_junk] [.int v4] D
        else
          sm_fx C 154 83 [.ref (X + 49), .int v1, .int v2, .int v3, .int v4, .int v5, .int v6, sm_junk] [.int v3] D
      else
        sm_fx C 154 83 [.ref (X + 49), .int v1, .int v2, .int v3, .int v4, .int v5, .int v6, sm_junk] [.int v2] D
    else
      sm_fx C 154 83 [.ref (X + 49), .int v1, .int v2, .int v3, .int v4, .int v5, .int v6, sm_junk] [.int v1] D) := 
  (sx_p (pc' := 34) (lv' := [.ref (X + 49), .int v1, .int v2, .int v3, .int v4, .int v5, .int v6, sm_junk]) (st' := [.int (ni 20), .int v6]) q154 16 2 rfl (sx_icmp_ge q154 18 rfl rfl (sx_p (pc' := 125) (lv' := [.ref (X + 49), .int v1, .int v2, .int v3, .int v4, .int v5, .int v6, sm_junk]) (st' := [.ref (X + 49)]) q154 64 1 rfl (sx_gI q154 65 rfl fk_12_141 rfl (hX.s 49 rfl) (hX.b 49) (sx_ri (ty := .int) q154 66 rfl rfl))) (sx_p (pc' := 40) (lv' := [.ref (X + 49), .int v1, .int v2, .int v3, .int v4, .int v5, .int v6, sm_junk]) (st' := [.int (ni 4), .int v6]) q154 19 2 rfl (sx_icmp_ge q154 21 rfl rfl (sx_p (pc' := 51) (lv' := [.ref (X + 49), .int v1, .int v2, .int v3, .int v4, .int v5, .int v6, sm_junk]) (st' := [.int (ni 8), .int v6]) q154 24 2 rfl (sx_icmp_ge q154 26 rfl rfl (sx_p (pc' := 62) (lv' := [.ref (X + 49), .int v1, .int v2, .int v3, .int v4, .int v5, .int v6, sm_junk]) (st' := [.int (ni 12), .int v6]) q154 29 2 rfl (sx_icmp_ge q154 31 rfl rfl (sx_p (pc' := 73) (lv' := [.ref (X + 49), .int v1, .int v2, .int v3, .int v4, .int v5, .int v6, sm_junk]) (st' := [.int (ni 16), .int v6]) q154 34 2 rfl (sx_icmp_ge q154 36 rfl rfl (sx_p (pc' := 83) (lv' := [.ref (X + 49), .int v1, .int v2, .int v3, .int v4, .int v5, .int v6, sm_junk]) (st' := [.int v5]) q154 39 1 rfl (sm_ge.refl _)) (sx_p (pc' := 83) (lv' := [.ref (X + 49), .int v1, .int v2, .int v3, .int v4, .int v5, .int v6, sm_junk]) (st' := [.int v4]) q154 37 2 rfl (sm_ge.refl _)))) (sx_p (pc' := 83) (lv' := [.ref (X + 49), .int v1, .int v2, .int v3, .int v4, .int v5, .int v6, sm_junk]) (st' := [.int v3]) q154 32 2 rfl (sm_ge.refl _)))) (sx_p (pc' := 83) (lv' := [.ref (X + 49), .int v1, .int v2, .int v3, .int v4, .int v5, .int v6, sm_junk]) (st' := [.int v2]) q154 27 2 rfl (sm_ge.refl _)))) (sx_p (pc' := 83) (lv' := [.ref (X + 49), .int v1, .int v2, .int v3, .int v4, .int v5, .int v6, sm_junk]) (st' := [.int v1]) q154 22 2 rfl (sm_ge.refl _))))))
set_option maxRecDepth 8000 in
theorem n154_83 {C : sm_K} {X : Nat} {v1 : Int32} {v2 : Int32} {v3 : Int32} {v4 : Int32} {v5 : Int32} {v6 : Int32} {s0 : Int32} (hX : sm_Lay C X) {D : sm_D} : sm_ge (sm_fx C 154 83 [.ref (X + 49), .int v1, .int v2, .int v3, .int v4, .int v5, .int v6, sm_junk] [.int s0] D) (
  sm_gu (sm_in_b (D.1 (X + 49) 2) 8000) (
  let D1 := sm_dI D (X + 50) ((D.1 (X + 49) 2).toNatClampNeg) (sm_nar .byte ((s0 >>> (((ni 24) - ((ni 8) * (v6 - v6 / (ni 4) * (ni 4)))) &&& 31)).toInt8.toInt32))
  let D2 := sm_dI D1 (X + 49) 2 ((D1.1 (X + 49) 2) + (ni 1))
  sm_fx C 154 30 [.ref (X + 49), .int v1, .int v2, .int v3, .int v4, .int v5, .int (v6 + ni 1), sm_junk] [] D2)) := 
  (sx_p (pc' := 86) (lv' := [.ref (X + 49), .int v1, .int v2, .int v3, .int v4, .int v5, .int v6, .int s0]) (st' := [.ref (X + 49)]) q154 40 2 rfl (sx_gR q154 42 rfl fk_12_7 (fun _ _ => rfl) (hX.s 49 rfl) (hX.r 49 1 rfl) (sx_p (pc' := 90) (lv' := [.ref (X + 49), .int v1, .int v2, .int v3, .int v4, .int v5, .int v6, .int s0]) (st' := [.ref (X + 49), .ref (X + 50)]) q154 43 1 rfl (sx_gI q154 44 rfl fk_12_141 rfl (hX.s 49 rfl) (hX.b 49) (sx_p (pc' := 107) (lv' := [.ref (X + 49), .int v1, .int v2, .int v3, .int v4, .int v5, .int v6, .int s0]) (st' := [.int ((s0 >>> (((ni 24) - ((ni 8) * (v6 - v6 / (ni 4) * (ni 4)))) &&& 31)).toInt8.toInt32), .int (D.1 (X + 49) 2), .ref (X + 50)]) q154 45 10 rfl (sx_bs q154 55 rfl (hX.s 50 rfl) (by simp) (hX.b 50) (sx_p (pc' := 110) (lv' := [.ref (X + 49), .int v1, .int v2, .int v3, .int v4, .int v5, .int v6, .int s0]) (st' := [.ref (X + 49), .ref (X + 49)]) q154 56 2 rfl (sx_gI q154 58 rfl fk_12_141 rfl (hX.s 49 rfl) (hX.b 49) (sx_p (pc' := 115) (lv' := [.ref (X + 49), .int v1, .int v2, .int v3, .int v4, .int v5, .int v6, .int s0]) (st' := [.int (((sm_dI D (X + 50) ((D.1 (X + 49) 2).toNatClampNeg) (sm_nar .byte ((s0 >>> (((ni 24) - ((ni 8) * (v6 - v6 / (ni 4) * (ni 4)))) &&& 31)).toInt8.toInt32))).1 (X + 49) 2) + (ni 1)), .ref (X + 49)]) q154 59 2 rfl (sx_pI q154 61 rfl pk_12_141 rfl (hX.s 49 rfl) (hX.b 49) (sx_p (pc' := 30) (lv' := [.ref (X + 49), .int v1, .int v2, .int v3, .int v4, .int v5, .int (v6 + ni 1), .int s0]) (st' := []) q154 62 2 rfl (sx_w (lv := [.ref (X + 49), .int v1, .int v2, .int v3, .int v4, .int v5, .int (v6 + ni 1), .int s0]) (lv' := [.ref (X + 49), .int v1, .int v2, .int v3, .int v4, .int v5, .int (v6 + ni 1), sm_junk]) (sm_ordl.ord ⟨Or.inr rfl, Or.inr rfl, Or.inr rfl, Or.inr rfl, Or.inr rfl, Or.inr rfl, Or.inr rfl, Or.inl rfl, trivial⟩)))))))))))))
set_option maxRecDepth 8000 in
theorem f154 {C : sm_K} {X : Nat} {v1 : Int32} {v2 : Int32} {v3 : Int32} {v4 : Int32} {v5 : Int32} (hX : sm_Lay C X) {D : sm_D} : sm_ge (sm_fe C 154 [.ref (X + 49), .int v1, .int v2, .int v3, .int v4, .int v5] D) (
  if (ni 8000) < ((D.1 (X + 49) 2) + (ni 20)) then
    sm_fx C 154 19 [.ref (X + 49), .int v1, .int v2, .int v3, .int v4, .int v5, sm_junk, sm_junk] [.int (ni 0), .ref (X + 49)] D
  else
    sm_fx C 154 19 [.ref (X + 49), .int v1, .int v2, .int v3, .int v4, .int v5, sm_junk, sm_junk] [.int (ni 1), .ref (X + 49)] D) := by
  rw [sx_fe (m := 8) rfl rfl]
  exact (show sm_ge (sm_fx C 154 0 [.ref (X + 49), .int v1, .int v2, .int v3, .int v4, .int v5, sm_junk, sm_junk] [] D) _ from (sx_p (pc' := 2) (lv' := [.ref (X + 49), .int v1, .int v2, .int v3, .int v4, .int v5, sm_junk, sm_junk]) (st' := [.ref (X + 49), .ref (X + 49)]) q154 0 2 rfl (sx_gI q154 2 rfl fk_12_141 rfl (hX.s 49 rfl) (hX.b 49) (sx_p (pc' := 11) (lv' := [.ref (X + 49), .int v1, .int v2, .int v3, .int v4, .int v5, sm_junk, sm_junk]) (st' := [.int (ni 8000), .int ((D.1 (X + 49) 2) + (ni 20)), .ref (X + 49)]) q154 3 3 rfl (sx_icmp_gt q154 6 rfl rfl (sx_p (pc' := 19) (lv' := [.ref (X + 49), .int v1, .int v2, .int v3, .int v4, .int v5, sm_junk, sm_junk]) (st' := [.int (ni 0), .ref (X + 49)]) q154 9 1 rfl (sm_ge.refl _)) (sx_p (pc' := 19) (lv' := [.ref (X + 49), .int v1, .int v2, .int v3, .int v4, .int v5, sm_junk, sm_junk]) (st' := [.int (ni 1), .ref (X + 49)]) q154 7 2 rfl (sm_ge.refl _)))))))
/-! MessageTreeModel.goes -/
theorem q155 : sm_q 155 12 sm_i155 0 := ⟨rfl, rfl, rfl⟩
set_option maxRecDepth 8000 in
theorem f155 {C : sm_K} {X : Nat} {v1 : Int32} (hX : sm_Lay C X) {D : sm_D} : sm_ge (sm_fe C 155 [.ref (X + 49), .int v1] D) (
  if v1 = ni 0 then
    let D1 := sm_dI D (X + 49) 0 (ni 1)
    some (.inl (some (.int (sm_nar .boolean v1))), D1)
  else
    let D2 := sm_dI D (X + 49) 0 (ni 0)
    some (.inl (some (.int (sm_nar .boolean v1))), D2)) := by
  rw [sx_fe (m := 2) rfl rfl]
  exact (show sm_ge (sm_fx C 155 0 [.ref (X + 49), .int v1] [] D) _ from (sx_p (pc' := 2) (lv' := [.ref (X + 49), .int v1]) (st' := [.int v1, .ref (X + 49)]) q155 0 2 rfl (sx_if_eq q155 2 rfl rfl (sx_p (pc' := 10) (lv' := [.ref (X + 49), .int v1]) (st' := [.int (ni 1), .ref (X + 49)]) q155 5 1 rfl (sx_pI q155 6 rfl pk_12_130 rfl (hX.s 49 rfl) (hX.b 49) (sx_p (pc' := 14) (lv' := [.ref (X + 49), .int v1]) (st' := [.int v1]) q155 7 1 rfl (sx_ri (ty := .boolean) q155 8 rfl rfl)))) (sx_p (pc' := 10) (lv' := [.ref (X + 49), .int v1]) (st' := [.int (ni 0), .ref (X + 49)]) q155 3 2 rfl (sx_pI q155 6 rfl pk_12_130 rfl (hX.s 49 rfl) (hX.b 49) (sx_p (pc' := 14) (lv' := [.ref (X + 49), .int v1]) (st' := [.int v1]) q155 7 1 rfl (sx_ri (ty := .boolean) q155 8 rfl rfl)))))))
/-! MessageTreeModel.end -/
theorem q156 : sm_q 156 12 sm_i156 1 := ⟨rfl, rfl, rfl⟩
set_option maxRecDepth 8000 in
theorem f156 {C : sm_K} {X : Nat} {v1 : Int32} (hX : sm_Lay C X) {D : sm_D} : sm_ge (sm_fe C 156 [.ref (X + 49), .int v1] D) (
  sm_bi (sm_fe C 157 [.int v1, .int (ni 0), .int (D.1 (X + 49) 2)] D) (fun x0 D1 =>
    sm_bi (sm_fe C 155 [.ref (X + 49), .int x0] D1) (fun x1 D2 =>
      if x1 = ni 0 then
        let D3 := sm_dI D2 (X + 49) 2 (D2.1 (X + 49) 2)
        some (.inl none, D3)
      else
        let D4 := sm_dI D2 (X + 49) 2 v1
        some (.inl none, D4)))) := by
  rw [sx_fe (m := 2) rfl rfl]
  exact (show sm_ge (sm_fx C 156 0 [.ref (X + 49), .int v1] [] D) _ from (sx_p (pc' := 5) (lv' := [.ref (X + 49), .int v1]) (st' := [.ref (X + 49), .int (ni 0), .int v1, .ref (X + 49), .ref (X + 49)]) q156 0 5 rfl (sx_gI q156 5 rfl fk_12_141 rfl (hX.s 49 rfl) (hX.b 49) (sx_ki (sx_S q156 6 rfl lk_12_137 rfl na_157 rfl rfl rfl rfl) (by decide) rfl (fun x0 D1 => (sx_ki (sx_V q156 7 rfl lk_12_144 vk_155 na_155 rfl rfl rfl rfl (hX.s 49 rfl)) (by decide) rfl (fun x1 D2 => (sx_if_eq q156 8 rfl rfl (sx_p (pc' := 22) (lv' := [.ref (X + 49), .int v1]) (st' := [.ref (X + 49), .ref (X + 49)]) q156 11 1 rfl (sx_gI q156 12 rfl fk_12_141 rfl (hX.s 49 rfl) (hX.b 49) (sx_pI q156 13 rfl pk_12_141 rfl (hX.s 49 rfl) (hX.b 49) (sx_rv q156 14 rfl rfl)))) (sx_p (pc' := 25) (lv' := [.ref (X + 49), .int v1]) (st' := [.int v1, .ref (X + 49)]) q156 9 2 rfl (sx_pI q156 13 rfl pk_12_141 rfl (hX.s 49 rfl) (hX.b 49) (sx_rv q156 14 rfl rfl)))))))))))
/-! MessageTreeModel.in -/
theorem q157 : sm_q 157 12 sm_i157 0 := ⟨rfl, rfl, rfl⟩
set_option maxRecDepth 8000 in
theorem f157 {C : sm_K} {v0 : Int32} {v1 : Int32} {v2 : Int32} {D : sm_D} : sm_ge (sm_fe C 157 [.int v0, .int v1, .int v2] D) (
  if v0 < v1 then
    some (.inl (some (.int (sm_nar .boolean (ni 0)))), D)
  else
    if v2 < v0 then
      some (.inl (some (.int (sm_nar .boolean (ni 0)))), D)
    else
      some (.inl (some (.int (sm_nar .boolean (ni 1)))), D)) := by
  rw [sx_fe (m := 3) rfl rfl]
  exact (show sm_ge (sm_fx C 157 0 [.int v0, .int v1, .int v2] [] D) _ from (sx_p (pc' := 2) (lv' := [.int v0, .int v1, .int v2]) (st' := [.int v1, .int v0]) q157 0 2 rfl (sx_icmp_lt q157 2 rfl rfl (sx_p (pc' := 15) (lv' := [.int v0, .int v1, .int v2]) (st' := [.int (ni 0)]) q157 8 1 rfl (sx_ri (ty := .boolean) q157 9 rfl rfl)) (sx_p (pc' := 7) (lv' := [.int v0, .int v1, .int v2]) (st' := [.int v2, .int v0]) q157 3 2 rfl (sx_icmp_gt q157 5 rfl rfl (sx_p (pc' := 15) (lv' := [.int v0, .int v1, .int v2]) (st' := [.int (ni 0)]) q157 8 1 rfl (sx_ri (ty := .boolean) q157 9 rfl rfl)) (sx_p (pc' := 15) (lv' := [.int v0, .int v1, .int v2]) (st' := [.int (ni 1)]) q157 6 2 rfl (sx_ri (ty := .boolean) q157 9 rfl rfl)))))))
/-! MessageTreeModel.read -/
theorem q158 : sm_q 158 12 sm_i158 12 := ⟨rfl, rfl, rfl⟩
set_option maxRecDepth 8000 in
theorem n158_15 {C : sm_K} {X : Nat} {v1 : Int32} (hX : sm_Lay C X) {D : sm_D} : sm_ge (sm_fx C 158 15 [.ref (X + 49), .int v1, sm_junk] [] D) (
  if (D.1 (X + 49) 2) ≤ v1 then
    let D1 := sm_dI D (X + 49) 2 (ni 0)
    sm_bv (sm_fe C 159 [.ref (X + 49)] D1) (fun D2 =>
      if (D2.1 (X + 49) 8) = (sm_k (-1)) then
        sm_gu (decide ((ni 1) = 0 ∨ (ni 1) = 1)) (
        let D3 := sm_dI D2 (X + 49) 7 (ni 1)
        let D4 := sm_dI D3 (X + 49) 6 (D3.1 (X + 49) 4)
        sm_fx C 158 166 [.ref (X + 49), .int (ni 0), sm_junk] [] D4)
      else
        let D5 := sm_dI D2 (X + 49) 4 (D2.1 (X + 49) 6)
        sm_fx C 158 75 [.ref (X + 49), .int ((sm_k (-1)) - (D2.1 (X + 49) 8)), .int (ni 0)] [] D5)
  else
    sm_gu (sm_in_b v1 8000) (
    sm_gu (sm_in_b v1 8000) (
    let D6 := sm_dI D (X + 51) (v1.toNatClampNeg) (sm_nar .byte (D.1 (X + 50) v1.toNatClampNeg))
    sm_fx C 158 15 [.ref (X + 49), .int (v1 + ni 1), sm_junk] [] D6))) := 
  (sx_p (pc' := 17) (lv' := [.ref (X + 49), .int v1, sm_junk]) (st' := [.ref (X + 49), .int v1]) q158 9 2 rfl (sx_gI q158 11 rfl fk_12_141 rfl (hX.s 49 rfl) (hX.b 49) (sx_icmp_ge q158 12 rfl rfl (sx_p (pc' := 43) (lv' := [.ref (X + 49), .int v1, sm_junk]) (st' := [.int (ni 0), .ref (X + 49)]) q158 23 2 rfl (sx_pI q158 25 rfl pk_12_141 rfl (hX.s 49 rfl) (hX.b 49) (sx_p (pc' := 47) (lv' := [.ref (X + 49), .int v1, sm_junk]) (st' := [.ref (X + 49)]) q158 26 1 rfl (sx_kv (sx_V q158 27 rfl lk_12_513 vk_159 na_159 rfl rfl rfl rfl (hX.s 49 rfl)) (by decide) rfl (fun D2 => (sx_p (pc' := 51) (lv' := [.ref (X + 49), .int v1, sm_junk]) (st' := [.ref (X + 49)]) q158 28 1 rfl (sx_gI q158 29 rfl fk_12_134 rfl (hX.s 49 rfl) (hX.b 49) (sx_p (pc' := 55) (lv' := [.ref (X + 49), .int v1, sm_junk]) (st' := [.int (sm_k (-1)), .int (D2.1 (X + 49) 8)]) q158 30 1 rfl (sx_icmp_eq q158 31 rfl rfl (sx_p (pc' := 153) (lv' := [.ref (X + 49), .int v1, sm_junk]) (st' := [.int (ni 1), .ref (X + 49)]) q158 87 2 rfl (sx_pZ q158 89 rfl pk_12_519 rfl (hX.s 49 rfl) (hX.b 49) (sx_p (pc' := 158) (lv' := [.ref (X + 49), .int v1, sm_junk]) (st' := [.ref (X + 49), .ref (X + 49)]) q158 90 2 rfl (sx_gI q158 92 rfl fk_12_148 rfl (hX.s 49 rfl) (hX.b 49) (sx_pI q158 93 rfl pk_12_516 rfl (hX.s 49 rfl) (hX.b 49) (sx_p (pc' := 166) (lv' := [.ref (X + 49), .int (ni 0), sm_junk]) (st' := []) q158 94 2 rfl (sm_ge.refl _))))))) (sx_p (pc' := 60) (lv' := [.ref (X + 49), .int v1, sm_junk]) (st' := [.ref (X + 49), .int (sm_k (-1))]) q158 32 2 rfl (sx_gI q158 34 rfl fk_12_134 rfl (hX.s 49 rfl) (hX.b 49) (sx_p (pc' := 67) (lv' := [.ref (X + 49), .int ((sm_k (-1)) - (D2.1 (X + 49) 8)), sm_junk]) (st' := [.ref (X + 49), .ref (X + 49)]) q158 35 4 rfl (sx_gI q158 39 rfl fk_12_516 rfl (hX.s 49 rfl) (hX.b 49) (sx_pI q158 40 rfl pk_12_148 rfl (hX.s 49 rfl) (hX.b 49) (sx_p (pc' := 75) (lv' := [.ref (X + 49), .int ((sm_k (-1)) - (D2.1 (X + 49) 8)), .int (ni 0)]) (st' := []) q158 41 2 rfl (sm_ge.refl _)))))))))))))))) (sx_p (pc' := 24) (lv' := [.ref (X + 49), .int v1, sm_junk]) (st' := [.ref (X + 49)]) q158 13 1 rfl (sx_gR q158 14 rfl fk_12_13 (fun _ _ => rfl) (hX.s 49 rfl) (hX.r 49 3 rfl) (sx_p (pc' := 29) (lv' := [.ref (X + 49), .int v1, sm_junk]) (st' := [.ref (X + 49), .int v1, .ref (X + 51)]) q158 15 2 rfl (sx_gR q158 17 rfl fk_12_7 (fun _ _ => rfl) (hX.s 49 rfl) (hX.r 49 1 rfl) (sx_p (pc' := 33) (lv' := [.ref (X + 49), .int v1, sm_junk]) (st' := [.int v1, .ref (X + 50), .int v1, .ref (X + 51)]) q158 18 1 rfl (sx_ba q158 19 rfl (hX.s 50 rfl) (by simp) (hX.b 50) (sx_bs q158 20 rfl (hX.s 51 rfl) (by simp) (hX.b 51) (sx_p (pc' := 15) (lv' := [.ref (X + 49), .int (v1 + ni 1), sm_junk]) (st' := []) q158 21 2 rfl (sm_ge.refl _))))))))))))
set_option maxRecDepth 8000 in
theorem n158_75 {C : sm_K} {X : Nat} {v1 : Int32} {v2 : Int32} (hX : sm_Lay C X) {D : sm_D} : sm_ge (sm_fx C 158 75 [.ref (X + 49), .int v1, .int v2] [] D) (
  if (D.1 (X + 49) 6) ≤ v2 then
    if (D.1 (X + 49) 7) = ni 0 then
      let D1 := sm_dI D (X + 49) 9 (ni 0)
      let D2 := sm_dI D1 (X + 49) 36 (ni 0)
      let D3 := sm_dJ D2 (X + 49) 38 (Int64.ofNat 0)
      let D4 := sm_dI D3 (X + 49) 39 (ni 0)
      sm_gu (sm_in_b (ni 0) 2) (
      let D5 := sm_dI D4 (X + 77) ((ni 0).toNatClampNeg) (ni 0)
      sm_gu (sm_in_b (ni 1) 2) (
      let D6 := sm_dI D5 (X + 77) ((ni 1).toNatClampNeg) (ni 0)
      some (.inl (some (.int v1)), D6)))
    else
      sm_bv (sm_fe C 159 [.ref (X + 49)] D) (fun D7 =>
        some (.inl (some (.int v1)), D7))
  else
    sm_gu (sm_in_b v2 8000) (
    sm_gu (sm_in_b v2 8000) (
    let D8 := sm_dI D (X + 51) (v2.toNatClampNeg) (sm_nar .byte (D.1 (X + 52) v2.toNatClampNeg))
    sm_fx C 158 75 [.ref (X + 49), .int v1, .int (v2 + ni 1)] [] D8))) := 
  (sx_p (pc' := 77) (lv' := [.ref (X + 49), .int v1, .int v2]) (st' := [.ref (X + 49), .int v2]) q158 43 2 rfl (sx_gI q158 45 rfl fk_12_516 rfl (hX.s 49 rfl) (hX.b 49) (sx_icmp_ge q158 46 rfl rfl (sx_p (pc' := 102) (lv' := [.ref (X + 49), .int v1, .int v2]) (st' := [.ref (X + 49)]) q158 57 1 rfl (sx_gI q158 58 rfl fk_12_519 rfl (hX.s 49 rfl) (hX.b 49) (sx_if_eq q158 59 rfl rfl (sx_p (pc' := 117) (lv' := [.ref (X + 49), .int v1, .int v2]) (st' := [.int (ni 0), .ref (X + 49)]) q158 63 2 rfl (sx_pI q158 65 rfl pk_12_462 rfl (hX.s 49 rfl) (hX.b 49) (sx_p (pc' := 122) (lv' := [.ref (X + 49), .int v1, .int v2]) (st' := [.int (ni 0), .ref (X + 49)]) q158 66 2 rfl (sx_pI q158 68 rfl pk_12_420 rfl (hX.s 49 rfl) (hX.b 49) (sx_p (pc' := 127) (lv' := [.ref (X + 49), .int v1, .int v2]) (st' := [.long (Int64.ofNat 0), .ref (X + 49)]) q158 69 2 rfl (sx_pJ q158 71 rfl pk_12_357 rfl (hX.s 49 rfl) (hX.b 49) (sx_p (pc' := 132) (lv' := [.ref (X + 49), .int v1, .int v2]) (st' := [.int (ni 0), .ref (X + 49)]) q158 72 2 rfl (sx_pI q158 74 rfl pk_12_348 rfl (hX.s 49 rfl) (hX.b 49) (sx_p (pc' := 136) (lv' := [.ref (X + 49), .int v1, .int v2]) (st' := [.ref (X + 49)]) q158 75 1 rfl (sx_gR q158 76 rfl fk_12_93 (fun _ _ => rfl) (hX.s 49 rfl) (hX.r 49 40 rfl) (sx_p (pc' := 141) (lv' := [.ref (X + 49), .int v1, .int v2]) (st' := [.int (ni 0), .int (ni 0), .ref (X + 77)]) q158 77 2 rfl (sx_is q158 79 rfl (hX.s 77 rfl) (hX.b 77) (sx_p (pc' := 143) (lv' := [.ref (X + 49), .int v1, .int v2]) (st' := [.ref (X + 49)]) q158 80 1 rfl (sx_gR q158 81 rfl fk_12_93 (fun _ _ => rfl) (hX.s 49 rfl) (hX.r 49 40 rfl) (sx_p (pc' := 148) (lv' := [.ref (X + 49), .int v1, .int v2]) (st' := [.int (ni 0), .int (ni 1), .ref (X + 77)]) q158 82 2 rfl (sx_is q158 84 rfl (hX.s 77 rfl) (hX.b 77) (sx_p (pc' := 150) (lv' := [.ref (X + 49), .int v1, .int v2]) (st' := [.int v1]) q158 85 1 rfl (sx_ri (ty := .int) q158 86 rfl rfl)))))))))))))))))) (sx_p (pc' := 109) (lv' := [.ref (X + 49), .int v1, .int v2]) (st' := [.ref (X + 49)]) q158 60 1 rfl (sx_kv (sx_V q158 61 rfl lk_12_513 vk_159 na_159 rfl rfl rfl rfl (hX.s 49 rfl)) (by decide) rfl (fun D7 => (sx_p (pc' := 149) (lv' := [.ref (X + 49), .int v1, .int v2]) (st' := []) q158 62 1 rfl (sx_p (pc' := 150) (lv' := [.ref (X + 49), .int v1, .int v2]) (st' := [.int v1]) q158 85 1 rfl (sx_ri (ty := .int) q158 86 rfl rfl))))))))) (sx_p (pc' := 84) (lv' := [.ref (X + 49), .int v1, .int v2]) (st' := [.ref (X + 49)]) q158 47 1 rfl (sx_gR q158 48 rfl fk_12_13 (fun _ _ => rfl) (hX.s 49 rfl) (hX.r 49 3 rfl) (sx_p (pc' := 89) (lv' := [.ref (X + 49), .int v1, .int v2]) (st' := [.ref (X + 49), .int v2, .ref (X + 51)]) q158 49 2 rfl (sx_gR q158 51 rfl fk_12_16 (fun _ _ => rfl) (hX.s 49 rfl) (hX.r 49 5 rfl) (sx_p (pc' := 93) (lv' := [.ref (X + 49), .int v1, .int v2]) (st' := [.int v2, .ref (X + 52), .int v2, .ref (X + 51)]) q158 52 1 rfl (sx_ba q158 53 rfl (hX.s 52 rfl) (by simp) (hX.b 52) (sx_bs q158 54 rfl (hX.s 51 rfl) (by simp) (hX.b 51) (sx_p (pc' := 75) (lv' := [.ref (X + 49), .int v1, .int (v2 + ni 1)]) (st' := []) q158 55 2 rfl (sm_ge.refl _))))))))))))
set_option maxRecDepth 8000 in
theorem n158_166 {C : sm_K} {X : Nat} {v1 : Int32} (hX : sm_Lay C X) {D : sm_D} : sm_ge (sm_fx C 158 166 [.ref (X + 49), .int v1, sm_junk] [] D) (
  if (D.1 (X + 49) 4) ≤ v1 then
    some (.inl (some (.int (D.1 (X + 49) 9))), D)
  else
    sm_gu (sm_in_b v1 8000) (
    sm_gu (sm_in_b v1 8000) (
    let D1 := sm_dI D (X + 52) (v1.toNatClampNeg) (sm_nar .byte (D.1 (X + 51) v1.toNatClampNeg))
    sm_fx C 158 166 [.ref (X + 49), .int (v1 + ni 1), sm_junk] [] D1))) := 
  (sx_p (pc' := 168) (lv' := [.ref (X + 49), .int v1, sm_junk]) (st' := [.ref (X + 49), .int v1]) q158 96 2 rfl (sx_gI q158 98 rfl fk_12_148 rfl (hX.s 49 rfl) (hX.b 49) (sx_icmp_ge q158 99 rfl rfl (sx_p (pc' := 193) (lv' := [.ref (X + 49), .int v1, sm_junk]) (st' := [.ref (X + 49)]) q158 110 1 rfl (sx_gI q158 111 rfl fk_12_462 rfl (hX.s 49 rfl) (hX.b 49) (sx_ri (ty := .int) q158 112 rfl rfl))) (sx_p (pc' := 175) (lv' := [.ref (X + 49), .int v1, sm_junk]) (st' := [.ref (X + 49)]) q158 100 1 rfl (sx_gR q158 101 rfl fk_12_16 (fun _ _ => rfl) (hX.s 49 rfl) (hX.r 49 5 rfl) (sx_p (pc' := 180) (lv' := [.ref (X + 49), .int v1, sm_junk]) (st' := [.ref (X + 49), .int v1, .ref (X + 52)]) q158 102 2 rfl (sx_gR q158 104 rfl fk_12_13 (fun _ _ => rfl) (hX.s 49 rfl) (hX.r 49 3 rfl) (sx_p (pc' := 184) (lv' := [.ref (X + 49), .int v1, sm_junk]) (st' := [.int v1, .ref (X + 51), .int v1, .ref (X + 52)]) q158 105 1 rfl (sx_ba q158 106 rfl (hX.s 51 rfl) (by simp) (hX.b 51) (sx_bs q158 107 rfl (hX.s 52 rfl) (by simp) (hX.b 52) (sx_p (pc' := 166) (lv' := [.ref (X + 49), .int (v1 + ni 1), sm_junk]) (st' := []) q158 108 2 rfl (sm_ge.refl _))))))))))))
set_option maxRecDepth 8000 in
theorem f158 {C : sm_K} {X : Nat} (hX : sm_Lay C X) {D : sm_D} : sm_ge (sm_fe C 158 [.ref (X + 49)] D) (
  let D1 := sm_dI D (X + 49) 0 (ni 0)
  let D2 := sm_dI D1 (X + 49) 4 (D1.1 (X + 49) 2)
  sm_fx C 158 15 [.ref (X + 49), .int (ni 0), sm_junk] [] D2) := by
  rw [sx_fe (m := 3) rfl rfl]
  exact (show sm_ge (sm_fx C 158 0 [.ref (X + 49), sm_junk, sm_junk] [] D) _ from (sx_p (pc' := 2) (lv' := [.ref (X + 49), sm_junk, sm_junk]) (st' := [.int (ni 0), .ref (X + 49)]) q158 0 2 rfl (sx_pI q158 2 rfl pk_12_130 rfl (hX.s 49 rfl) (hX.b 49) (sx_p (pc' := 7) (lv' := [.ref (X + 49), sm_junk, sm_junk]) (st' := [.ref (X + 49), .ref (X + 49)]) q158 3 2 rfl (sx_gI q158 5 rfl fk_12_141 rfl (hX.s 49 rfl) (hX.b 49) (sx_pI q158 6 rfl pk_12_148 rfl (hX.s 49 rfl) (hX.b 49) (sx_p (pc' := 15) (lv' := [.ref (X + 49), .int (ni 0), sm_junk]) (st' := []) q158 7 2 rfl (sm_ge.refl _))))))))
/-! MessageTreeModel.readMessage -/
theorem q159 : sm_q 159 12 sm_i159 11 := ⟨rfl, rfl, rfl⟩
set_option maxRecDepth 8000 in
theorem n159_81 {C : sm_K} {X : Nat} (hX : sm_Lay C X) {D : sm_D} : sm_ge (sm_fx C 159 81 [.ref (X + 49), sm_junk, sm_junk, sm_junk, sm_junk, sm_junk] [] D) (
  if (D.1 (X + 49) 8) = (sm_k (-1)) then
    if (D.1 (X + 49) 60) ≤ ni 0 then
      some (.inl none, D)
    else
      sm_gu (sm_in_b ((D.1 (X + 49) 60) - (ni 1)) 8) (
      sm_gu (sm_in_b ((D.1 (X + 49) 60) - (ni 1)) 8) (
      sm_gu (sm_in_b ((D.1 (X + 49) 60) - (ni 1)) 8) (
      if (D.1 (X + 87) ((D.1 (X + 49) 60) - (ni 1)).toNatClampNeg) = (sm_k (-1)) then
        sm_fx C 159 149 [.ref (X + 49), .int ((D.1 (X + 49) 60) - (ni 1)), .int (D.1 (X + 84) ((D.1 (X + 49) 60) - (ni 1)).toNatClampNeg), .int (D.1 (X + 85) ((D.1 (X + 49) 60) - (ni 1)).toNatClampNeg), sm_junk, sm_junk] [] D
      else
        if (D.1 (X + 49) 9) = (ni 40) then
          sm_gu (sm_in_b ((D.1 (X + 49) 60) - (ni 1)) 8) (
          sm_bv (sm_fe C 162 [.ref (X + 49), .int (D.1 (X + 88) ((D.1 (X + 49) 60) - (ni 1)).toNatClampNeg)] D) (fun D1 =>
            sm_fx C 159 81 [.ref (X + 49), sm_junk, sm_junk, sm_junk, sm_junk, sm_junk] [] D1))
        else
          sm_fx C 159 149 [.ref (X + 49), .int ((D.1 (X + 49) 60) - (ni 1)), .int (D.1 (X + 84) ((D.1 (X + 49) 60) - (ni 1)).toNatClampNeg), .int (D.1 (X + 85) ((D.1 (X + 49) 60) - (ni 1)).toNatClampNeg), sm_junk, sm_junk] [] D)))
  else
    some (.inl none, D)) := 
  (sx_p (pc' := 82) (lv' := [.ref (X + 49), sm_junk, sm_junk, sm_junk, sm_junk, sm_junk]) (st' := [.ref (X + 49)]) q159 49 1 rfl (sx_gI q159 50 rfl fk_12_134 rfl (hX.s 49 rfl) (hX.b 49) (sx_p (pc' := 86) (lv' := [.ref (X + 49), sm_junk, sm_junk, sm_junk, sm_junk, sm_junk]) (st' := [.int (sm_k (-1)), .int (D.1 (X + 49) 8)]) q159 51 1 rfl (sx_icmp_ne q159 52 rfl rfl (sx_rv q159 182 rfl rfl) (sx_p (pc' := 90) (lv' := [.ref (X + 49), sm_junk, sm_junk, sm_junk, sm_junk, sm_junk]) (st' := [.ref (X + 49)]) q159 53 1 rfl (sx_gI q159 54 rfl fk_12_477 rfl (hX.s 49 rfl) (hX.b 49) (sx_if_le q159 55 rfl rfl (sx_rv q159 182 rfl rfl) (sx_p (pc' := 97) (lv' := [.ref (X + 49), sm_junk, sm_junk, sm_junk, sm_junk, sm_junk]) (st' := [.ref (X + 49)]) q159 56 1 rfl (sx_gI q159 57 rfl fk_12_477 rfl (hX.s 49 rfl) (hX.b 49) (sx_p (pc' := 104) (lv' := [.ref (X + 49), .int ((D.1 (X + 49) 60) - (ni 1)), sm_junk, sm_junk, sm_junk, sm_junk]) (st' := [.ref (X + 49)]) q159 58 4 rfl (sx_gR q159 62 rfl fk_12_115 (fun _ _ => rfl) (hX.s 49 rfl) (hX.r 49 61 rfl) (sx_p (pc' := 108) (lv' := [.ref (X + 49), .int ((D.1 (X + 49) 60) - (ni 1)), sm_junk, sm_junk, sm_junk, sm_junk]) (st' := [.int ((D.1 (X + 49) 60) - (ni 1)), .ref (X + 84)]) q159 63 1 rfl (sx_ia q159 64 rfl (hX.s 84 rfl) (hX.b 84) (sx_p (pc' := 111) (lv' := [.ref (X + 49), .int ((D.1 (X + 49) 60) - (ni 1)), .int (D.1 (X + 84) ((D.1 (X + 49) 60) - (ni 1)).toNatClampNeg), sm_junk, sm_junk, sm_junk]) (st' := [.ref (X + 49)]) q159 65 2 rfl (sx_gR q159 67 rfl fk_12_118 (fun _ _ => rfl) (hX.s 49 rfl) (hX.r 49 62 rfl) (sx_p (pc' := 115) (lv' := [.ref (X + 49), .int ((D.1 (X + 49) 60) - (ni 1)), .int (D.1 (X + 84) ((D.1 (X + 49) 60) - (ni 1)).toNatClampNeg), sm_junk, sm_junk, sm_junk]) (st' := [.int ((D.1 (X + 49) 60) - (ni 1)), .ref (X + 85)]) q159 68 1 rfl (sx_ia q159 69 rfl (hX.s 85 rfl) (hX.b 85) (sx_p (pc' := 118) (lv' := [.ref (X + 49), .int ((D.1 (X + 49) 60) - (ni 1)), .int (D.1 (X + 84) ((D.1 (X + 49) 60) - (ni 1)).toNatClampNeg), .int (D.1 (X + 85) ((D.1 (X + 49) 60) - (ni 1)).toNatClampNeg), sm_junk, sm_junk]) (st' := [.ref (X + 49)]) q159 70 2 rfl (sx_gR q159 72 rfl fk_12_124 (fun _ _ => rfl) (hX.s 49 rfl) (hX.r 49 64 rfl) (sx_p (pc' := 122) (lv' := [.ref (X + 49), .int ((D.1 (X + 49) 60) - (ni 1)), .int (D.1 (X + 84) ((D.1 (X + 49) 60) - (ni 1)).toNatClampNeg), .int (D.1 (X + 85) ((D.1 (X + 49) 60) - (ni 1)).toNatClampNeg), sm_junk, sm_junk]) (st' := [.int ((D.1 (X + 49) 60) - (ni 1)), .ref (X + 87)]) q159 73 1 rfl (sx_ia q159 74 rfl (hX.s 87 rfl) (hX.b 87) (sx_p (pc' := 124) (lv' := [.ref (X + 49), .int ((D.1 (X + 49) 60) - (ni 1)), .int (D.1 (X + 84) ((D.1 (X + 49) 60) - (ni 1)).toNatClampNeg), .int (D.1 (X + 85) ((D.1 (X + 49) 60) - (ni 1)).toNatClampNeg), sm_junk, sm_junk]) (st' := [.int (sm_k (-1)), .int (D.1 (X + 87) ((D.1 (X + 49) 60) - (ni 1)).toNatClampNeg)]) q159 75 1 rfl (sx_icmp_eq q159 76 rfl rfl (sm_ge.refl _) (sx_p (pc' := 128) (lv' := [.ref (X + 49), .int ((D.1 (X + 49) 60) - (ni 1)), .int (D.1 (X + 84) ((D.1 (X + 49) 60) - (ni 1)).toNatClampNeg), .int (D.1 (X + 85) ((D.1 (X + 49) 60) - (ni 1)).toNatClampNeg), sm_junk, sm_junk]) (st' := [.ref (X + 49)]) q159 77 1 rfl (sx_gI q159 78 rfl fk_12_462 rfl (hX.s 49 rfl) (hX.b 49) (sx_p (pc' := 133) (lv' := [.ref (X + 49), .int ((D.1 (X + 49) 60) - (ni 1)), .int (D.1 (X + 84) ((D.1 (X + 49) 60) - (ni 1)).toNatClampNeg), .int (D.1 (X + 85) ((D.1 (X + 49) 60) - (ni 1)).toNatClampNeg), sm_junk, sm_junk]) (st' := [.int (ni 40), .int (D.1 (X + 49) 9)]) q159 79 1 rfl (sx_icmp_ne q159 80 rfl rfl (sm_ge.refl _) (sx_p (pc' := 138) (lv' := [.ref (X + 49), .int ((D.1 (X + 49) 60) - (ni 1)), .int (D.1 (X + 84) ((D.1 (X + 49) 60) - (ni 1)).toNatClampNeg), .int (D.1 (X + 85) ((D.1 (X + 49) 60) - (ni 1)).toNatClampNeg), sm_junk, sm_junk]) (st' := [.ref (X + 49), .ref (X + 49)]) q159 81 2 rfl (sx_gR q159 83 rfl fk_12_127 (fun _ _ => rfl) (hX.s 49 rfl) (hX.r 49 68 rfl) (sx_p (pc' := 142) (lv' := [.ref (X + 49), .int ((D.1 (X + 49) 60) - (ni 1)), .int (D.1 (X + 84) ((D.1 (X + 49) 60) - (ni 1)).toNatClampNeg), .int (D.1 (X + 85) ((D.1 (X + 49) 60) - (ni 1)).toNatClampNeg), sm_junk, sm_junk]) (st' := [.int ((D.1 (X + 49) 60) - (ni 1)), .ref (X + 88), .ref (X + 49)]) q159 84 1 rfl (sx_ia q159 85 rfl (hX.s 88 rfl) (hX.b 88) (sx_kv (sx_V q159 86 rfl lk_12_155 vk_162 na_162 rfl rfl rfl rfl (hX.s 49 rfl)) (by decide) rfl (fun D1 => (sx_p (pc' := 316) (lv' := [.ref (X + 49), .int ((D.1 (X + 49) 60) - (ni 1)), .int (D.1 (X + 84) ((D.1 (X + 49) 60) - (ni 1)).toNatClampNeg), .int (D.1 (X + 85) ((D.1 (X + 49) 60) - (ni 1)).toNatClampNeg), sm_junk, sm_junk]) (st' := []) q159 87 1 rfl (sx_p (pc' := 81) (lv' := [.ref (X + 49), .int ((D.1 (X + 49) 60) - (ni 1)), .int (D.1 (X + 84) ((D.1 (X + 49) 60) - (ni 1)).toNatClampNeg), .int (D.1 (X + 85) ((D.1 (X + 49) 60) - (ni 1)).toNatClampNeg), sm_junk, sm_junk]) (st' := []) q159 181 1 rfl (sx_w (lv := [.ref (X + 49), .int ((D.1 (X + 49) 60) - (ni 1)), .int (D.1 (X + 84) ((D.1 (X + 49) 60) - (ni 1)).toNatClampNeg), .int (D.1 (X + 85) ((D.1 (X + 49) 60) - (ni 1)).toNatClampNeg), sm_junk, sm_junk]) (lv' := [.ref (X + 49), sm_junk, sm_junk, sm_junk, sm_junk, sm_junk]) (sm_ordl.ord ⟨Or.inr rfl, Or.inl rfl, Or.inl rfl, Or.inl rfl, Or.inl rfl, Or.inl rfl, trivial⟩)))))))))))))))))))))))))))))))))))))
set_option maxRecDepth 8000 in
theorem n159_149 {C : sm_K} {X : Nat} {v1 : Int32} {v2 : Int32} {v3 : Int32} (hX : sm_Lay C X) {D : sm_D} : sm_ge (sm_fx C 159 149 [.ref (X + 49), .int v1, .int v2, .int v3, sm_junk, sm_junk] [] D) (
  sm_gu (sm_in_b v1 8) (
  sm_bi (sm_fe C 229 [.ref (X + 49), .int v2, .int (D.1 (X + 86) v1.toNatClampNeg), .int v3] D) (fun x0 D1 =>
    if x0 = ni 0 then
      sm_bv (sm_fe C 162 [.ref (X + 49), .int v3] D1) (fun D3 =>
        sm_fx C 159 81 [.ref (X + 49), sm_junk, sm_junk, sm_junk, sm_junk, sm_junk] [] D3)
    else
      sm_gu (sm_in_b v1 8) (
      if (D1.1 (X + 87) v1.toNatClampNeg) = (sm_k (-1)) then
        if (D1.1 (X + 49) 67) = ni 0 then
          sm_fx C 159 197 [.ref (X + 49), .int v1, sm_junk, sm_junk, sm_junk, sm_junk] [] D1
        else
          sm_bv (sm_fe C 162 [.ref (X + 49), .int (D1.1 (X + 49) 65)] D1) (fun D2 =>
            sm_fx C 159 197 [.ref (X + 49), .int v1, sm_junk, sm_junk, sm_junk, sm_junk] [] D2)
      else
        sm_gu (sm_in_b v1 8) (
        if (D1.1 (X + 49) 65) ≤ (D1.1 (X + 87) v1.toNatClampNeg) then
          sm_fx C 159 258 [.ref (X + 49), .int v1, .int v2, sm_junk, .int (D1.1 (X + 87) v1.toNatClampNeg), sm_junk] [.int (D1.1 (X + 87) v1.toNatClampNeg)] D1
        else
          sm_fx C 159 258 [.ref (X + 49), .int v1, .int v2, sm_junk, .int (D1.1 (X + 87) v1.toNatClampNeg), sm_junk] [.int ((D1.1 (X + 49) 65) - (ni 2))] D1))))) := 
  (sx_p (pc' := 152) (lv' := [.ref (X + 49), .int v1, .int v2, .int v3, sm_junk, sm_junk]) (st' := [.ref (X + 49), .int v2, .ref (X + 49)]) q159 88 3 rfl (sx_gR q159 91 rfl fk_12_121 (fun _ _ => rfl) (hX.s 49 rfl) (hX.r 49 63 rfl) (sx_p (pc' := 156) (lv' := [.ref (X + 49), .int v1, .int v2, .int v3, sm_junk, sm_junk]) (st' := [.int v1, .ref (X + 86), .int v2, .ref (X + 49)]) q159 92 1 rfl (sx_ia q159 93 rfl (hX.s 86 rfl) (hX.b 86) (sx_p (pc' := 158) (lv' := [.ref (X + 49), .int v1, .int v2, .int v3, sm_junk, sm_junk]) (st' := [.int v3, .int (D.1 (X + 86) v1.toNatClampNeg), .int v2, .ref (X + 49)]) q159 94 1 rfl (sx_ki (sx_V q159 95 rfl lk_12_498 vk_229 na_229 rfl rfl rfl rfl (hX.s 49 rfl)) (by decide) rfl (fun x0 D1 => (sx_if_ne q159 96 rfl rfl (sx_p (pc' := 173) (lv' := [.ref (X + 49), .int v1, .int v2, .int v3, sm_junk, sm_junk]) (st' := [.ref (X + 49)]) q159 101 1 rfl (sx_gR q159 102 rfl fk_12_124 (fun _ _ => rfl) (hX.s 49 rfl) (hX.r 49 64 rfl) (sx_p (pc' := 177) (lv' := [.ref (X + 49), .int v1, .int v2, .int v3, sm_junk, sm_junk]) (st' := [.int v1, .ref (X + 87)]) q159 103 1 rfl (sx_ia q159 104 rfl (hX.s 87 rfl) (hX.b 87) (sx_p (pc' := 179) (lv' := [.ref (X + 49), .int v1, .int v2, .int v3, sm_junk, sm_junk]) (st' := [.int (sm_k (-1)), .int (D1.1 (X + 87) v1.toNatClampNeg)]) q159 105 1 rfl (sx_icmp_ne q159 106 rfl rfl (sx_p (pc' := 231) (lv' := [.ref (X + 49), .int v1, .int v2, .int v3, sm_junk, sm_junk]) (st' := [.ref (X + 49)]) q159 133 1 rfl (sx_gR q159 134 rfl fk_12_124 (fun _ _ => rfl) (hX.s 49 rfl) (hX.r 49 64 rfl) (sx_p (pc' := 235) (lv' := [.ref (X + 49), .int v1, .int v2, .int v3, sm_junk, sm_junk]) (st' := [.int v1, .ref (X + 87)]) q159 135 1 rfl (sx_ia q159 136 rfl (hX.s 87 rfl) (hX.b 87) (sx_p (pc' := 239) (lv' := [.ref (X + 49), .int v1, .int v2, .int v3, .int (D1.1 (X + 87) v1.toNatClampNeg), sm_junk]) (st' := [.ref (X + 49)]) q159 137 2 rfl (sx_gI q159 139 rfl fk_12_486 rfl (hX.s 49 rfl) (hX.b 49) (sx_p (pc' := 244) (lv' := [.ref (X + 49), .int v1, .int v2, .int v3, .int (D1.1 (X + 87) v1.toNatClampNeg), sm_junk]) (st' := [.int (D1.1 (X + 87) v1.toNatClampNeg), .int (D1.1 (X + 49) 65)]) q159 140 1 rfl (sx_icmp_le q159 141 rfl rfl (sx_p (pc' := 258) (lv' := [.ref (X + 49), .int v1, .int v2, .int v3, .int (D1.1 (X + 87) v1.toNatClampNeg), sm_junk]) (st' := [.int (D1.1 (X + 87) v1.toNatClampNeg)]) q159 147 1 rfl (sx_w (lv := [.ref (X + 49), .int v1, .int v2, .int v3, .int (D1.1 (X + 87) v1.toNatClampNeg), sm_junk]) (lv' := [.ref (X + 49), .int v1, .int v2, sm_junk, .int (D1.1 (X + 87) v1.toNatClampNeg), sm_junk]) (sm_ordl.ord ⟨Or.inr rfl, Or.inr rfl, Or.inr rfl, Or.inl rfl, Or.inr rfl, Or.inl rfl, trivial⟩))) (sx_p (pc' := 248) (lv' := [.ref (X + 49), .int v1, .int v2, .int v3, .int (D1.1 (X + 87) v1.toNatClampNeg), sm_junk]) (st' := [.ref (X + 49)]) q159 142 1 rfl (sx_gI q159 143 rfl fk_12_486 rfl (hX.s 49 rfl) (hX.b 49) (sx_p (pc' := 258) (lv' := [.ref (X + 49), .int v1, .int v2, .int v3, .int (D1.1 (X + 87) v1.toNatClampNeg), sm_junk]) (st' := [.int ((D1.1 (X + 49) 65) - (ni 2))]) q159 144 3 rfl (sx_w (lv := [.ref (X + 49), .int v1, .int v2, .int v3, .int (D1.1 (X + 87) v1.toNatClampNeg), sm_junk]) (lv' := [.ref (X + 49), .int v1, .int v2, sm_junk, .int (D1.1 (X + 87) v1.toNatClampNeg), sm_junk]) (sm_ordl.ord ⟨Or.inr rfl, Or.inr rfl, Or.inr rfl, Or.inl rfl, Or.inr rfl, Or.inl rfl, trivial⟩))))))))))))) (sx_p (pc' := 183) (lv' := [.ref (X + 49), .int v1, .int v2, .int v3, sm_junk, sm_junk]) (st' := [.ref (X + 49)]) q159 107 1 rfl (sx_gI q159 108 rfl fk_12_483 rfl (hX.s 49 rfl) (hX.b 49) (sx_if_eq q159 109 rfl rfl (sx_w (lv := [.ref (X + 49), .int v1, .int v2, .int v3, sm_junk, sm_junk]) (lv' := [.ref (X + 49), .int v1, sm_junk, sm_junk, sm_junk, sm_junk]) (sm_ordl.ord ⟨Or.inr rfl, Or.inr rfl, Or.inl rfl, Or.inl rfl, Or.inl rfl, Or.inl rfl, trivial⟩)) (sx_p (pc' := 191) (lv' := [.ref (X + 49), .int v1, .int v2, .int v3, sm_junk, sm_junk]) (st' := [.ref (X + 49), .ref (X + 49)]) q159 110 2 rfl (sx_gI q159 112 rfl fk_12_486 rfl (hX.s 49 rfl) (hX.b 49) (sx_kv (sx_V q159 113 rfl lk_12_155 vk_162 na_162 rfl rfl rfl rfl (hX.s 49 rfl)) (by decide) rfl (fun D2 => (sx_w (lv := [.ref (X + 49), .int v1, .int v2, .int v3, sm_junk, sm_junk]) (lv' := [.ref (X + 49), .int v1, sm_junk, sm_junk, sm_junk, sm_junk]) (sm_ordl.ord ⟨Or.inr rfl, Or.inr rfl, Or.inl rfl, Or.inl rfl, Or.inl rfl, Or.inl rfl, trivial⟩))))))))))))))) (sx_p (pc' := 166) (lv' := [.ref (X + 49), .int v1, .int v2, .int v3, sm_junk, sm_junk]) (st' := [.int v3, .ref (X + 49)]) q159 97 2 rfl (sx_kv (sx_V q159 99 rfl lk_12_155 vk_162 na_162 rfl rfl rfl rfl (hX.s 49 rfl)) (by decide) rfl (fun D3 => (sx_p (pc' := 316) (lv' := [.ref (X + 49), .int v1, .int v2, .int v3, sm_junk, sm_junk]) (st' := []) q159 100 1 rfl (sx_p (pc' := 81) (lv' := [.ref (X + 49), .int v1, .int v2, .int v3, sm_junk, sm_junk]) (st' := []) q159 181 1 rfl (sx_w (lv := [.ref (X + 49), .int v1, .int v2, .int v3, sm_junk, sm_junk]) (lv' := [.ref (X + 49), sm_junk, sm_junk, sm_junk, sm_junk, sm_junk]) (sm_ordl.ord ⟨Or.inr rfl, Or.inl rfl, Or.inl rfl, Or.inl rfl, Or.inl rfl, Or.inl rfl, trivial⟩)))))))))))))))
set_option maxRecDepth 8000 in
theorem n159_197 {C : sm_K} {X : Nat} {v1 : Int32} (hX : sm_Lay C X) {D : sm_D} : sm_ge (sm_fx C 159 197 [.ref (X + 49), .int v1, sm_junk, sm_junk, sm_junk, sm_junk] [] D) (
  sm_gu (sm_in_b v1 8) (
  let D1 := sm_dI D (X + 87) (v1.toNatClampNeg) (D.1 (X + 49) 66)
  sm_gu (sm_in_b v1 8) (
  let D2 := sm_dI D1 (X + 88) (v1.toNatClampNeg) (D1.1 (X + 49) 65)
  sm_gu (sm_in_b v1 8) (
  let D3 := sm_dI D2 (X + 86) (v1.toNatClampNeg) (D2.1 (X + 49) 66)
  sm_fx C 159 81 [.ref (X + 49), sm_junk, sm_junk, sm_junk, sm_junk, sm_junk] [] D3)))) := 
  (sx_p (pc' := 198) (lv' := [.ref (X + 49), .int v1, sm_junk, sm_junk, sm_junk, sm_junk]) (st' := [.ref (X + 49)]) q159 114 1 rfl (sx_gR q159 115 rfl fk_12_124 (fun _ _ => rfl) (hX.s 49 rfl) (hX.r 49 64 rfl) (sx_p (pc' := 203) (lv' := [.ref (X + 49), .int v1, sm_junk, sm_junk, sm_junk, sm_junk]) (st' := [.ref (X + 49), .int v1, .ref (X + 87)]) q159 116 2 rfl (sx_gI q159 118 rfl fk_12_489 rfl (hX.s 49 rfl) (hX.b 49) (sx_is q159 119 rfl (hX.s 87 rfl) (hX.b 87) (sx_p (pc' := 208) (lv' := [.ref (X + 49), .int v1, sm_junk, sm_junk, sm_junk, sm_junk]) (st' := [.ref (X + 49)]) q159 120 1 rfl (sx_gR q159 121 rfl fk_12_127 (fun _ _ => rfl) (hX.s 49 rfl) (hX.r 49 68 rfl) (sx_p (pc' := 213) (lv' := [.ref (X + 49), .int v1, sm_junk, sm_junk, sm_junk, sm_junk]) (st' := [.ref (X + 49), .int v1, .ref (X + 88)]) q159 122 2 rfl (sx_gI q159 124 rfl fk_12_486 rfl (hX.s 49 rfl) (hX.b 49) (sx_is q159 125 rfl (hX.s 88 rfl) (hX.b 88) (sx_p (pc' := 218) (lv' := [.ref (X + 49), .int v1, sm_junk, sm_junk, sm_junk, sm_junk]) (st' := [.ref (X + 49)]) q159 126 1 rfl (sx_gR q159 127 rfl fk_12_121 (fun _ _ => rfl) (hX.s 49 rfl) (hX.r 49 63 rfl) (sx_p (pc' := 223) (lv' := [.ref (X + 49), .int v1, sm_junk, sm_junk, sm_junk, sm_junk]) (st' := [.ref (X + 49), .int v1, .ref (X + 86)]) q159 128 2 rfl (sx_gI q159 130 rfl fk_12_489 rfl (hX.s 49 rfl) (hX.b 49) (sx_is q159 131 rfl (hX.s 86 rfl) (hX.b 86) (sx_p (pc' := 316) (lv' := [.ref (X + 49), .int v1, sm_junk, sm_junk, sm_junk, sm_junk]) (st' := []) q159 132 1 rfl (sx_p (pc' := 81) (lv' := [.ref (X + 49), .int v1, sm_junk, sm_junk, sm_junk, sm_junk]) (st' := []) q159 181 1 rfl (sx_w (lv := [.ref (X + 49), .int v1, sm_junk, sm_junk, sm_junk, sm_junk]) (lv' := [.ref (X + 49), sm_junk, sm_junk, sm_junk, sm_junk, sm_junk]) (sm_ordl.ord ⟨Or.inr rfl, Or.inl rfl, Or.inl rfl, Or.inl rfl, Or.inl rfl, Or.inl rfl, trivial⟩)))))))))))))))))))
set_option maxRecDepth 8000 in
theorem n159_258 {C : sm_K} {X : Nat} {v1 : Int32} {v2 : Int32} {v4 : Int32} {s0 : Int32} (hX : sm_Lay C X) {D : sm_D} : sm_ge (sm_fx C 159 258 [.ref (X + 49), .int v1, .int v2, sm_junk, .int v4, sm_junk] [.int s0] D) (
  sm_gu (sm_in_b v1 8) (
  let D1 := sm_dI D (X + 87) (v1.toNatClampNeg) (D.1 (X + 49) 66)
  sm_gu (sm_in_b v1 8) (
  let D2 := sm_dI D1 (X + 88) (v1.toNatClampNeg) (D1.1 (X + 49) 65)
  sm_gu (sm_in_b v1 8) (
  let D3 := sm_dI D2 (X + 86) (v1.toNatClampNeg) (D2.1 (X + 49) 66)
  if (D3.1 (X + 49) 67) = ni 0 then
    sm_fx C 159 307 [.ref (X + 49), sm_junk, .int v2, sm_junk, .int v4, .int s0] [] D3
  else
    let D4 := sm_dI D3 (X + 49) 60 ((D3.1 (X + 49) 60) - (ni 1))
    sm_fx C 159 307 [.ref (X + 49), sm_junk, .int v2, sm_junk, .int v4, .int s0] [] D4)))) := 
  (sx_p (pc' := 261) (lv' := [.ref (X + 49), .int v1, .int v2, sm_junk, .int v4, .int s0]) (st' := [.ref (X + 49)]) q159 148 2 rfl (sx_gR q159 150 rfl fk_12_124 (fun _ _ => rfl) (hX.s 49 rfl) (hX.r 49 64 rfl) (sx_p (pc' := 266) (lv' := [.ref (X + 49), .int v1, .int v2, sm_junk, .int v4, .int s0]) (st' := [.ref (X + 49), .int v1, .ref (X + 87)]) q159 151 2 rfl (sx_gI q159 153 rfl fk_12_489 rfl (hX.s 49 rfl) (hX.b 49) (sx_is q159 154 rfl (hX.s 87 rfl) (hX.b 87) (sx_p (pc' := 271) (lv' := [.ref (X + 49), .int v1, .int v2, sm_junk, .int v4, .int s0]) (st' := [.ref (X + 49)]) q159 155 1 rfl (sx_gR q159 156 rfl fk_12_127 (fun _ _ => rfl) (hX.s 49 rfl) (hX.r 49 68 rfl) (sx_p (pc' := 276) (lv' := [.ref (X + 49), .int v1, .int v2, sm_junk, .int v4, .int s0]) (st' := [.ref (X + 49), .int v1, .ref (X + 88)]) q159 157 2 rfl (sx_gI q159 159 rfl fk_12_486 rfl (hX.s 49 rfl) (hX.b 49) (sx_is q159 160 rfl (hX.s 88 rfl) (hX.b 88) (sx_p (pc' := 281) (lv' := [.ref (X + 49), .int v1, .int v2, sm_junk, .int v4, .int s0]) (st' := [.ref (X + 49)]) q159 161 1 rfl (sx_gR q159 162 rfl fk_12_121 (fun _ _ => rfl) (hX.s 49 rfl) (hX.r 49 63 rfl) (sx_p (pc' := 286) (lv' := [.ref (X + 49), .int v1, .int v2, sm_junk, .int v4, .int s0]) (st' := [.ref (X + 49), .int v1, .ref (X + 86)]) q159 163 2 rfl (sx_gI q159 165 rfl fk_12_489 rfl (hX.s 49 rfl) (hX.b 49) (sx_is q159 166 rfl (hX.s 86 rfl) (hX.b 86) (sx_p (pc' := 291) (lv' := [.ref (X + 49), .int v1, .int v2, sm_junk, .int v4, .int s0]) (st' := [.ref (X + 49)]) q159 167 1 rfl (sx_gI q159 168 rfl fk_12_483 rfl (hX.s 49 rfl) (hX.b 49) (sx_if_eq q159 169 rfl rfl (sx_w (lv := [.ref (X + 49), .int v1, .int v2, sm_junk, .int v4, .int s0]) (lv' := [.ref (X + 49), sm_junk, .int v2, sm_junk, .int v4, .int s0]) (sm_ordl.ord ⟨Or.inr rfl, Or.inl rfl, Or.inr rfl, Or.inl rfl, Or.inr rfl, Or.inr rfl, trivial⟩)) (sx_p (pc' := 299) (lv' := [.ref (X + 49), .int v1, .int v2, sm_junk, .int v4, .int s0]) (st' := [.ref (X + 49), .ref (X + 49)]) q159 170 2 rfl (sx_gI q159 172 rfl fk_12_477 rfl (hX.s 49 rfl) (hX.b 49) (sx_p (pc' := 304) (lv' := [.ref (X + 49), .int v1, .int v2, sm_junk, .int v4, .int s0]) (st' := [.int (((sm_dI (sm_dI (sm_dI D (X + 87) (v1.toNatClampNeg) (D.1 (X + 49) 66)) (X + 88) (v1.toNatClampNeg) ((sm_dI D (X + 87) (v1.toNatClampNeg) (D.1 (X + 49) 66)).1 (X + 49) 65)) (X + 86) (v1.toNatClampNeg) ((sm_dI (sm_dI D (X + 87) (v1.toNatClampNeg) (D.1 (X + 49) 66)) (X + 88) (v1.toNatClampNeg) ((sm_dI D (X + 87) (v1.toNatClampNeg) (D.1 (X + 49) 66)).1 (X + 49) 65)).1 (X + 49) 66)).1 (X + 49) 60) - (ni 1)), .ref (X + 49)]) q159 173 2 rfl (sx_pI q159 175 rfl pk_12_477 rfl (hX.s 49 rfl) (hX.b 49) (sx_w (lv := [.ref (X + 49), .int v1, .int v2, sm_junk, .int v4, .int s0]) (lv' := [.ref (X + 49), sm_junk, .int v2, sm_junk, .int v4, .int s0]) (sm_ordl.ord ⟨Or.inr rfl, Or.inl rfl, Or.inr rfl, Or.inl rfl, Or.inr rfl, Or.inr rfl, trivial⟩))))))))))))))))))))))))
set_option maxRecDepth 8000 in
theorem n159_307 {C : sm_K} {X : Nat} {v2 : Int32} {v4 : Int32} {v5 : Int32} (hX : sm_Lay C X) {D : sm_D} : sm_ge (sm_fx C 159 307 [.ref (X + 49), sm_junk, .int v2, sm_junk, .int v4, .int v5] [] D) (
  sm_bv (sm_fe C 230 [.ref (X + 49), .int v2, .int v4, .int v5] D) (fun D1 =>
    sm_fx C 159 81 [.ref (X + 49), sm_junk, sm_junk, sm_junk, sm_junk, sm_junk] [] D1)) := 
  (sx_p (pc' := 313) (lv' := [.ref (X + 49), sm_junk, .int v2, sm_junk, .int v4, .int v5]) (st' := [.int v5, .int v4, .int v2, .ref (X + 49)]) q159 176 4 rfl (sx_kv (sx_V q159 180 rfl lk_12_501 vk_230 na_230 rfl rfl rfl rfl (hX.s 49 rfl)) (by decide) rfl (fun D1 => (sx_p (pc' := 81) (lv' := [.ref (X + 49), sm_junk, .int v2, sm_junk, .int v4, .int v5]) (st' := []) q159 181 1 rfl (sx_w (lv := [.ref (X + 49), sm_junk, .int v2, sm_junk, .int v4, .int v5]) (lv' := [.ref (X + 49), sm_junk, sm_junk, sm_junk, sm_junk, sm_junk]) (sm_ordl.ord ⟨Or.inr rfl, Or.inl rfl, Or.inl rfl, Or.inl rfl, Or.inl rfl, Or.inl rfl, trivial⟩))))))
set_option maxRecDepth 8000 in
theorem f159 {C : sm_K} {X : Nat} (hX : sm_Lay C X) {D : sm_D} : sm_ge (sm_fe C 159 [.ref (X + 49)] D) (
  let D1 := sm_dI D (X + 49) 9 (ni 0)
  let D2 := sm_dI D1 (X + 49) 28 (ni 0)
  let D3 := sm_dI D2 (X + 49) 20 (ni 0)
  let D4 := sm_dI D3 (X + 49) 34 (ni 0)
  let D5 := sm_dI D4 (X + 49) 36 (ni 0)
  let D6 := sm_dJ D5 (X + 49) 38 (Int64.ofNat 0)
  let D7 := sm_dI D6 (X + 49) 39 (ni 0)
  sm_gu (sm_in_b (ni 0) 2) (
  let D8 := sm_dI D7 (X + 77) ((ni 0).toNatClampNeg) (ni 0)
  sm_gu (sm_in_b (ni 1) 2) (
  let D9 := sm_dI D8 (X + 77) ((ni 1).toNatClampNeg) (ni 0)
  let D10 := sm_dI D9 (X + 49) 60 (ni 0)
  let D11 := sm_dI D10 (X + 49) 8 (sm_k (-1))
  sm_bv (sm_fe C 160 [.ref (X + 49)] D11) (fun D12 =>
    if (D12.1 (X + 49) 8) = (sm_k (-1)) then
      sm_bv (sm_fe C 163 [.ref (X + 49), .int (sm_k (-1)), .int (ni 0), .int (D12.1 (X + 49) 4)] D12) (fun D13 =>
        sm_fx C 159 81 [.ref (X + 49), sm_junk, sm_junk, sm_junk, sm_junk, sm_junk] [] D13)
    else
      sm_fx C 159 81 [.ref (X + 49), sm_junk, sm_junk, sm_junk, sm_junk, sm_junk] [] D12)))) := by
  rw [sx_fe (m := 6) rfl rfl]
  exact (show sm_ge (sm_fx C 159 0 [.ref (X + 49), sm_junk, sm_junk, sm_junk, sm_junk, sm_junk] [] D) _ from (sx_p (pc' := 2) (lv' := [.ref (X + 49), sm_junk, sm_junk, sm_junk, sm_junk, sm_junk]) (st' := [.int (ni 0), .ref (X + 49)]) q159 0 2 rfl (sx_pI q159 2 rfl pk_12_462 rfl (hX.s 49 rfl) (hX.b 49) (sx_p (pc' := 7) (lv' := [.ref (X + 49), sm_junk, sm_junk, sm_junk, sm_junk, sm_junk]) (st' := [.int (ni 0), .ref (X + 49)]) q159 3 2 rfl (sx_pI q159 5 rfl pk_12_187 rfl (hX.s 49 rfl) (hX.b 49) (sx_p (pc' := 12) (lv' := [.ref (X + 49), sm_junk, sm_junk, sm_junk, sm_junk, sm_junk]) (st' := [.int (ni 0), .ref (X + 49)]) q159 6 2 rfl (sx_pI q159 8 rfl pk_12_232 rfl (hX.s 49 rfl) (hX.b 49) (sx_p (pc' := 17) (lv' := [.ref (X + 49), sm_junk, sm_junk, sm_junk, sm_junk, sm_junk]) (st' := [.int (ni 0), .ref (X + 49)]) q159 9 2 rfl (sx_pI q159 11 rfl pk_12_465 rfl (hX.s 49 rfl) (hX.b 49) (sx_p (pc' := 22) (lv' := [.ref (X + 49), sm_junk, sm_junk, sm_junk, sm_junk, sm_junk]) (st' := [.int (ni 0), .ref (X + 49)]) q159 12 2 rfl (sx_pI q159 14 rfl pk_12_420 rfl (hX.s 49 rfl) (hX.b 49) (sx_p (pc' := 27) (lv' := [.ref (X + 49), sm_junk, sm_junk, sm_junk, sm_junk, sm_junk]) (st' := [.long (Int64.ofNat 0), .ref (X + 49)]) q159 15 2 rfl (sx_pJ q159 17 rfl pk_12_357 rfl (hX.s 49 rfl) (hX.b 49) (sx_p (pc' := 32) (lv' := [.ref (X + 49), sm_junk, sm_junk, sm_junk, sm_junk, sm_junk]) (st' := [.int (ni 0), .ref (X + 49)]) q159 18 2 rfl (sx_pI q159 20 rfl pk_12_348 rfl (hX.s 49 rfl) (hX.b 49) (sx_p (pc' := 36) (lv' := [.ref (X + 49), sm_junk, sm_junk, sm_junk, sm_junk, sm_junk]) (st' := [.ref (X + 49)]) q159 21 1 rfl (sx_gR q159 22 rfl fk_12_93 (fun _ _ => rfl) (hX.s 49 rfl) (hX.r 49 40 rfl) (sx_p (pc' := 41) (lv' := [.ref (X + 49), sm_junk, sm_junk, sm_junk, sm_junk, sm_junk]) (st' := [.int (ni 0), .int (ni 0), .ref (X + 77)]) q159 23 2 rfl (sx_is q159 25 rfl (hX.s 77 rfl) (hX.b 77) (sx_p (pc' := 43) (lv' := [.ref (X + 49), sm_junk, sm_junk, sm_junk, sm_junk, sm_junk]) (st' := [.ref (X + 49)]) q159 26 1 rfl (sx_gR q159 27 rfl fk_12_93 (fun _ _ => rfl) (hX.s 49 rfl) (hX.r 49 40 rfl) (sx_p (pc' := 48) (lv' := [.ref (X + 49), sm_junk, sm_junk, sm_junk, sm_junk, sm_junk]) (st' := [.int (ni 0), .int (ni 1), .ref (X + 77)]) q159 28 2 rfl (sx_is q159 30 rfl (hX.s 77 rfl) (hX.b 77) (sx_p (pc' := 51) (lv' := [.ref (X + 49), sm_junk, sm_junk, sm_junk, sm_junk, sm_junk]) (st' := [.int (ni 0), .ref (X + 49)]) q159 31 2 rfl (sx_pI q159 33 rfl pk_12_477 rfl (hX.s 49 rfl) (hX.b 49) (sx_p (pc' := 56) (lv' := [.ref (X + 49), sm_junk, sm_junk, sm_junk, sm_junk, sm_junk]) (st' := [.int (sm_k (-1)), .ref (X + 49)]) q159 34 2 rfl (sx_pI q159 36 rfl pk_12_134 rfl (hX.s 49 rfl) (hX.b 49) (sx_p (pc' := 60) (lv' := [.ref (X + 49), sm_junk, sm_junk, sm_junk, sm_junk, sm_junk]) (st' := [.ref (X + 49)]) q159 37 1 rfl (sx_kv (sx_V q159 38 rfl lk_12_492 vk_160 na_160 rfl rfl rfl rfl (hX.s 49 rfl)) (by decide) rfl (fun D12 => (sx_p (pc' := 64) (lv' := [.ref (X + 49), sm_junk, sm_junk, sm_junk, sm_junk, sm_junk]) (st' := [.ref (X + 49)]) q159 39 1 rfl (sx_gI q159 40 rfl fk_12_134 rfl (hX.s 49 rfl) (hX.b 49) (sx_p (pc' := 68) (lv' := [.ref (X + 49), sm_junk, sm_junk, sm_junk, sm_junk, sm_junk]) (st' := [.int (sm_k (-1)), .int (D12.1 (X + 49) 8)]) q159 41 1 rfl (sx_icmp_ne q159 42 rfl rfl (sm_ge.refl _) (sx_p (pc' := 75) (lv' := [.ref (X + 49), sm_junk, sm_junk, sm_junk, sm_junk, sm_junk]) (st' := [.ref (X + 49), .int (ni 0), .int (sm_k (-1)), .ref (X + 49)]) q159 43 4 rfl (sx_gI q159 47 rfl fk_12_148 rfl (hX.s 49 rfl) (hX.b 49) (sx_kv (sx_V q159 48 rfl lk_12_495 vk_163 na_163 rfl rfl rfl rfl (hX.s 49 rfl)) (by decide) rfl (fun D13 => (sm_ge.refl _)))))))))))))))))))))))))))))))))))))))
/-! MessageTreeModel.lineEnds -/
theorem q160 : sm_q 160 12 sm_i160 1 := ⟨rfl, rfl, rfl⟩
set_option maxRecDepth 8000 in
theorem n160_4 {C : sm_K} {X : Nat} {v1 : Int32} {v2 : Int32} (hX : sm_Lay C X) {D : sm_D} : sm_ge (sm_fx C 160 4 [.ref (X + 49), .int v1, .int v2, sm_junk, sm_junk, sm_junk] [] D) (
  if (D.1 (X + 49) 4) ≤ v2 then
    some (.inl none, D)
  else
    if (D.1 (X + 49) 8) = (sm_k (-1)) then
      sm_bi (sm_fe C 161 [.ref (X + 49), .int v2] D) (fun x0 D1 =>
        if x0 = (ni 13) then
          if (D1.1 (X + 49) 4) ≤ (v2 + (ni 1)) then
            sm_fx C 160 58 [.ref (X + 49), .int v1, .int v2, .int x0, sm_junk, sm_junk] [] D1
          else
            sm_bi (sm_fe C 161 [.ref (X + 49), .int (v2 + (ni 1))] D1) (fun x1 D2 =>
              if x1 = (ni 10) then
                sm_fx C 160 59 [.ref (X + 49), .int v1, .int v2, .int x0, sm_junk, sm_junk] [.int (ni 1)] D2
              else
                sm_fx C 160 58 [.ref (X + 49), .int v1, .int v2, .int x0, sm_junk, sm_junk] [] D2)
        else
          sm_fx C 160 58 [.ref (X + 49), .int v1, .int v2, .int x0, sm_junk, sm_junk] [] D1)
    else
      some (.inl none, D)) := 
  (sx_p (pc' := 6) (lv' := [.ref (X + 49), .int v1, .int v2, sm_junk, sm_junk, sm_junk]) (st' := [.ref (X + 49), .int v2]) q160 4 2 rfl (sx_gI q160 6 rfl fk_12_148 rfl (hX.s 49 rfl) (hX.b 49) (sx_icmp_ge q160 7 rfl rfl (sx_rv q160 82 rfl rfl) (sx_p (pc' := 13) (lv' := [.ref (X + 49), .int v1, .int v2, sm_junk, sm_junk, sm_junk]) (st' := [.ref (X + 49)]) q160 8 1 rfl (sx_gI q160 9 rfl fk_12_134 rfl (hX.s 49 rfl) (hX.b 49) (sx_p (pc' := 17) (lv' := [.ref (X + 49), .int v1, .int v2, sm_junk, sm_junk, sm_junk]) (st' := [.int (sm_k (-1)), .int (D.1 (X + 49) 8)]) q160 10 1 rfl (sx_icmp_ne q160 11 rfl rfl (sx_rv q160 82 rfl rfl) (sx_p (pc' := 22) (lv' := [.ref (X + 49), .int v1, .int v2, sm_junk, sm_junk, sm_junk]) (st' := [.int v2, .ref (X + 49)]) q160 12 2 rfl (sx_ki (sx_V q160 14 rfl lk_12_151 vk_161 na_161 rfl rfl rfl rfl (hX.s 49 rfl)) (by decide) rfl (fun x0 D1 => (sx_p (pc' := 29) (lv' := [.ref (X + 49), .int v1, .int v2, .int x0, sm_junk, sm_junk]) (st' := [.int (ni 13), .int x0]) q160 15 3 rfl (sx_icmp_ne q160 18 rfl rfl (sm_ge.refl _) (sx_p (pc' := 36) (lv' := [.ref (X + 49), .int v1, .int v2, .int x0, sm_junk, sm_junk]) (st' := [.ref (X + 49), .int (v2 + (ni 1))]) q160 19 4 rfl (sx_gI q160 23 rfl fk_12_148 rfl (hX.s 49 rfl) (hX.b 49) (sx_icmp_ge q160 24 rfl rfl (sm_ge.refl _) (sx_p (pc' := 46) (lv' := [.ref (X + 49), .int v1, .int v2, .int x0, sm_junk, sm_junk]) (st' := [.int (v2 + (ni 1)), .ref (X + 49)]) q160 25 4 rfl (sx_ki (sx_V q160 29 rfl lk_12_151 vk_161 na_161 rfl rfl rfl rfl (hX.s 49 rfl)) (by decide) rfl (fun x1 D2 => (sx_p (pc' := 51) (lv' := [.ref (X + 49), .int v1, .int v2, .int x0, sm_junk, sm_junk]) (st' := [.int (ni 10), .int x1]) q160 30 1 rfl (sx_icmp_ne q160 31 rfl rfl (sm_ge.refl _) (sx_p (pc' := 59) (lv' := [.ref (X + 49), .int v1, .int v2, .int x0, sm_junk, sm_junk]) (st' := [.int (ni 1)]) q160 32 2 rfl (sm_ge.refl _))))))))))))))))))))))
set_option maxRecDepth 8000 in
theorem n160_58 {C : sm_K} {X : Nat} {v1 : Int32} {v2 : Int32} {v3 : Int32} (hX : sm_Lay C X) {D : sm_D} : sm_ge (sm_fx C 160 58 [.ref (X + 49), .int v1, .int v2, .int v3, sm_junk, sm_junk] [] D) (
  sm_fx C 160 59 [.ref (X + 49), .int v1, .int v2, .int v3, sm_junk, sm_junk] [.int (ni 0)] D) := 
  (sx_p (pc' := 59) (lv' := [.ref (X + 49), .int v1, .int v2, .int v3, sm_junk, sm_junk]) (st' := [.int (ni 0)]) q160 34 1 rfl (sm_ge.refl _))
set_option maxRecDepth 8000 in
theorem n160_59 {C : sm_K} {X : Nat} {v1 : Int32} {v2 : Int32} {v3 : Int32} {s0 : Int32} (hX : sm_Lay C X) {D : sm_D} : sm_ge (sm_fx C 160 59 [.ref (X + 49), .int v1, .int v2, .int v3, sm_junk, sm_junk] [.int s0] D) (
  if v3 = (ni 10) then
    if v2 ≤ ni 0 then
      sm_fx C 160 87 [.ref (X + 49), .int v1, .int v2, .int v3, .int s0, sm_junk] [] D
    else
      sm_bi (sm_fe C 161 [.ref (X + 49), .int (v2 - (ni 1))] D) (fun x0 D1 =>
        if x0 = (ni 13) then
          sm_fx C 160 88 [.ref (X + 49), .int v1, .int v2, .int v3, .int s0, sm_junk] [.int (ni 1)] D1
        else
          sm_fx C 160 87 [.ref (X + 49), .int v1, .int v2, .int v3, .int s0, sm_junk] [] D1)
  else
    sm_fx C 160 87 [.ref (X + 49), .int v1, .int v2, .int v3, .int s0, sm_junk] [] D) := 
  (sx_p (pc' := 64) (lv' := [.ref (X + 49), .int v1, .int v2, .int v3, .int s0, sm_junk]) (st' := [.int (ni 10), .int v3]) q160 35 3 rfl (sx_icmp_ne q160 38 rfl rfl (sm_ge.refl _) (sx_p (pc' := 68) (lv' := [.ref (X + 49), .int v1, .int v2, .int v3, .int s0, sm_junk]) (st' := [.int v2]) q160 39 1 rfl (sx_if_le q160 40 rfl rfl (sm_ge.refl _) (sx_p (pc' := 75) (lv' := [.ref (X + 49), .int v1, .int v2, .int v3, .int s0, sm_junk]) (st' := [.int (v2 - (ni 1)), .ref (X + 49)]) q160 41 4 rfl (sx_ki (sx_V q160 45 rfl lk_12_151 vk_161 na_161 rfl rfl rfl rfl (hX.s 49 rfl)) (by decide) rfl (fun x0 D1 => (sx_p (pc' := 80) (lv' := [.ref (X + 49), .int v1, .int v2, .int v3, .int s0, sm_junk]) (st' := [.int (ni 13), .int x0]) q160 46 1 rfl (sx_icmp_ne q160 47 rfl rfl (sm_ge.refl _) (sx_p (pc' := 88) (lv' := [.ref (X + 49), .int v1, .int v2, .int v3, .int s0, sm_junk]) (st' := [.int (ni 1)]) q160 48 2 rfl (sm_ge.refl _)))))))))))
set_option maxRecDepth 8000 in
theorem n160_87 {C : sm_K} {X : Nat} {v1 : Int32} {v2 : Int32} {v3 : Int32} {v4 : Int32} (hX : sm_Lay C X) {D : sm_D} : sm_ge (sm_fx C 160 87 [.ref (X + 49), .int v1, .int v2, .int v3, .int v4, sm_junk] [] D) (
  sm_fx C 160 88 [.ref (X + 49), .int v1, .int v2, .int v3, .int v4, sm_junk] [.int (ni 0)] D) := 
  (sx_p (pc' := 88) (lv' := [.ref (X + 49), .int v1, .int v2, .int v3, .int v4, sm_junk]) (st' := [.int (ni 0)]) q160 50 1 rfl (sm_ge.refl _))
set_option maxRecDepth 8000 in
theorem n160_88 {C : sm_K} {X : Nat} {v1 : Int32} {v2 : Int32} {v3 : Int32} {v4 : Int32} {s0 : Int32} (hX : sm_Lay C X) {D : sm_D} : sm_ge (sm_fx C 160 88 [.ref (X + 49), .int v1, .int v2, .int v3, .int v4, sm_junk] [.int s0] D) (
  if v3 = (ni 13) then
    if v4 = ni 0 then
      sm_fx C 160 112 [.ref (X + 49), .int v1, .int v2, sm_junk, sm_junk, sm_junk] [] D
    else
      sm_fx C 160 101 [.ref (X + 49), .int v1, .int v2, .int v3, .int v4, .int s0] [] D
  else
    sm_fx C 160 101 [.ref (X + 49), .int v1, .int v2, .int v3, .int v4, .int s0] [] D) := 
  (sx_p (pc' := 93) (lv' := [.ref (X + 49), .int v1, .int v2, .int v3, .int v4, .int s0]) (st' := [.int (ni 13), .int v3]) q160 51 3 rfl (sx_icmp_ne q160 54 rfl rfl (sm_ge.refl _) (sx_p (pc' := 98) (lv' := [.ref (X + 49), .int v1, .int v2, .int v3, .int v4, .int s0]) (st' := [.int v4]) q160 55 1 rfl (sx_if_eq q160 56 rfl rfl (sx_w (lv := [.ref (X + 49), .int v1, .int v2, .int v3, .int v4, .int s0]) (lv' := [.ref (X + 49), .int v1, .int v2, sm_junk, sm_junk, sm_junk]) (sm_ordl.ord ⟨Or.inr rfl, Or.inr rfl, Or.inr rfl, Or.inl rfl, Or.inl rfl, Or.inl rfl, trivial⟩)) (sm_ge.refl _)))))
set_option maxRecDepth 8000 in
theorem n160_101 {C : sm_K} {X : Nat} {v1 : Int32} {v2 : Int32} {v3 : Int32} {v4 : Int32} {v5 : Int32} (hX : sm_Lay C X) {D : sm_D} : sm_ge (sm_fx C 160 101 [.ref (X + 49), .int v1, .int v2, .int v3, .int v4, .int v5] [] D) (
  if v3 = (ni 10) then
    if v5 = ni 0 then
      sm_fx C 160 112 [.ref (X + 49), .int v1, .int v2, sm_junk, sm_junk, sm_junk] [] D
    else
      sm_fx C 160 120 [.ref (X + 49), .int v1, .int v2, sm_junk, .int v4, .int v5] [] D
  else
    sm_fx C 160 120 [.ref (X + 49), .int v1, .int v2, sm_junk, .int v4, .int v5] [] D) := 
  (sx_p (pc' := 104) (lv' := [.ref (X + 49), .int v1, .int v2, .int v3, .int v4, .int v5]) (st' := [.int (ni 10), .int v3]) q160 57 2 rfl (sx_icmp_ne q160 59 rfl rfl (sx_w (lv := [.ref (X + 49), .int v1, .int v2, .int v3, .int v4, .int v5]) (lv' := [.ref (X + 49), .int v1, .int v2, sm_junk, .int v4, .int v5]) (sm_ordl.ord ⟨Or.inr rfl, Or.inr rfl, Or.inr rfl, Or.inl rfl, Or.inr rfl, Or.inr rfl, trivial⟩)) (sx_p (pc' := 109) (lv' := [.ref (X + 49), .int v1, .int v2, .int v3, .int v4, .int v5]) (st' := [.int v5]) q160 60 1 rfl (sx_if_ne q160 61 rfl rfl (sx_w (lv := [.ref (X + 49), .int v1, .int v2, .int v3, .int v4, .int v5]) (lv' := [.ref (X + 49), .int v1, .int v2, sm_junk, .int v4, .int v5]) (sm_ordl.ord ⟨Or.inr rfl, Or.inr rfl, Or.inr rfl, Or.inl rfl, Or.inr rfl, Or.inr rfl, trivial⟩)) (sx_w (lv := [.ref (X + 49), .int v1, .int v2, .int v3, .int v4, .int v5]) (lv' := [.ref (X + 49), .int v1, .int v2, sm_junk, sm_junk, sm_junk]) (sm_ordl.ord ⟨Or.inr rfl, Or.inr rfl, Or.inr rfl, Or.inl rfl, Or.inl rfl, Or.inl rfl, trivial⟩))))))
set_option maxRecDepth 8000 in
theorem n160_112 {C : sm_K} {X : Nat} {v1 : Int32} {v2 : Int32} (hX : sm_Lay C X) {D : sm_D} : sm_ge (sm_fx C 160 112 [.ref (X + 49), .int v1, .int v2, sm_junk, sm_junk, sm_junk] [] D) (
  sm_bv (sm_fe C 162 [.ref (X + 49), .int v2] D) (fun D1 =>
    sm_fx C 160 4 [.ref (X + 49), .int v1, .int (v2 + ni 1), sm_junk, sm_junk, sm_junk] [] D1)) := 
  (sx_p (pc' := 114) (lv' := [.ref (X + 49), .int v1, .int v2, sm_junk, sm_junk, sm_junk]) (st' := [.int v2, .ref (X + 49)]) q160 62 2 rfl (sx_kv (sx_V q160 64 rfl lk_12_155 vk_162 na_162 rfl rfl rfl rfl (hX.s 49 rfl)) (by decide) rfl (fun D1 => (sx_p (pc' := 150) (lv' := [.ref (X + 49), .int v1, .int v2, sm_junk, sm_junk, sm_junk]) (st' := []) q160 65 1 rfl (sx_p (pc' := 4) (lv' := [.ref (X + 49), .int v1, .int (v2 + ni 1), sm_junk, sm_junk, sm_junk]) (st' := []) q160 80 2 rfl (sm_ge.refl _))))))
set_option maxRecDepth 8000 in
theorem n160_120 {C : sm_K} {X : Nat} {v1 : Int32} {v2 : Int32} {v4 : Int32} {v5 : Int32} (hX : sm_Lay C X) {D : sm_D} : sm_ge (sm_fx C 160 120 [.ref (X + 49), .int v1, .int v2, sm_junk, .int v4, .int v5] [] D) (
  if v5 = ni 0 then
    if v4 = ni 0 then
      if (v1 + ni 1) = (ni 999) then
        sm_bv (sm_fe C 162 [.ref (X + 49), .int v2] D) (fun D1 =>
          sm_fx C 160 4 [.ref (X + 49), .int (v1 + ni 1), .int (v2 + ni 1), sm_junk, sm_junk, sm_junk] [] D1)
      else
        sm_fx C 160 4 [.ref (X + 49), .int (v1 + ni 1), .int (v2 + ni 1), sm_junk, sm_junk, sm_junk] [] D
    else
      sm_fx C 160 4 [.ref (X + 49), .int v1, .int (v2 + ni 1), sm_junk, sm_junk, sm_junk] [] D
  else
    sm_fx C 160 4 [.ref (X + 49), .int (ni 0), .int (v2 + ni 1), sm_junk, sm_junk, sm_junk] [] D) := 
  (sx_p (pc' := 122) (lv' := [.ref (X + 49), .int v1, .int v2, sm_junk, .int v4, .int v5]) (st' := [.int v5]) q160 66 1 rfl (sx_if_eq q160 67 rfl rfl (sx_p (pc' := 132) (lv' := [.ref (X + 49), .int v1, .int v2, sm_junk, .int v4, .int v5]) (st' := [.int v4]) q160 71 1 rfl (sx_if_ne q160 72 rfl rfl (sx_p (pc' := 4) (lv' := [.ref (X + 49), .int v1, .int (v2 + ni 1), sm_junk, .int v4, .int v5]) (st' := []) q160 80 2 rfl (sx_w (lv := [.ref (X + 49), .int v1, .int (v2 + ni 1), sm_junk, .int v4, .int v5]) (lv' := [.ref (X + 49), .int v1, .int (v2 + ni 1), sm_junk, sm_junk, sm_junk]) (sm_ordl.ord ⟨Or.inr rfl, Or.inr rfl, Or.inr rfl, Or.inl rfl, Or.inl rfl, Or.inl rfl, trivial⟩))) (sx_p (pc' := 142) (lv' := [.ref (X + 49), .int (v1 + ni 1), .int v2, sm_junk, .int v4, .int v5]) (st' := [.int (ni 999), .int (v1 + ni 1)]) q160 73 3 rfl (sx_icmp_ne q160 76 rfl rfl (sx_p (pc' := 4) (lv' := [.ref (X + 49), .int (v1 + ni 1), .int (v2 + ni 1), sm_junk, .int v4, .int v5]) (st' := []) q160 80 2 rfl (sx_w (lv := [.ref (X + 49), .int (v1 + ni 1), .int (v2 + ni 1), sm_junk, .int v4, .int v5]) (lv' := [.ref (X + 49), .int (v1 + ni 1), .int (v2 + ni 1), sm_junk, sm_junk, sm_junk]) (sm_ordl.ord ⟨Or.inr rfl, Or.inr rfl, Or.inr rfl, Or.inl rfl, Or.inl rfl, Or.inl rfl, trivial⟩))) (sx_p (pc' := 147) (lv' := [.ref (X + 49), .int (v1 + ni 1), .int v2, sm_junk, .int v4, .int v5]) (st' := [.int v2, .ref (X + 49)]) q160 77 2 rfl (sx_kv (sx_V q160 79 rfl lk_12_155 vk_162 na_162 rfl rfl rfl rfl (hX.s 49 rfl)) (by decide) rfl (fun D1 => (sx_p (pc' := 4) (lv' := [.ref (X + 49), .int (v1 + ni 1), .int (v2 + ni 1), sm_junk, .int v4, .int v5]) (st' := []) q160 80 2 rfl (sx_w (lv := [.ref (X + 49), .int (v1 + ni 1), .int (v2 + ni 1), sm_junk, .int v4, .int v5]) (lv' := [.ref (X + 49), .int (v1 + ni 1), .int (v2 + ni 1), sm_junk, sm_junk, sm_junk]) (sm_ordl.ord ⟨Or.inr rfl, Or.inr rfl, Or.inr rfl, Or.inl rfl, Or.inl rfl, Or.inl rfl, trivial⟩)))))))))) (sx_p (pc' := 150) (lv' := [.ref (X + 49), .int (ni 0), .int v2, sm_junk, .int v4, .int v5]) (st' := []) q160 68 3 rfl (sx_p (pc' := 4) (lv' := [.ref (X + 49), .int (ni 0), .int (v2 + ni 1), sm_junk, .int v4, .int v5]) (st' := []) q160 80 2 rfl (sx_w (lv := [.ref (X + 49), .int (ni 0), .int (v2 + ni 1), sm_junk, .int v4, .int v5]) (lv' := [.ref (X + 49), .int (ni 0), .int (v2 + ni 1), sm_junk, sm_junk, sm_junk]) (sm_ordl.ord ⟨Or.inr rfl, Or.inr rfl, Or.inr rfl, Or.inl rfl, Or.inl rfl, Or.inl rfl, trivial⟩))))))
set_option maxRecDepth 8000 in
theorem f160 {C : sm_K} {X : Nat} (hX : sm_Lay C X) {D : sm_D} : sm_ge (sm_fe C 160 [.ref (X + 49)] D) (
  sm_fx C 160 4 [.ref (X + 49), .int (ni 0), .int (ni 0), sm_junk, sm_junk, sm_junk] [] D) := by
  rw [sx_fe (m := 6) rfl rfl]
  exact (show sm_ge (sm_fx C 160 0 [.ref (X + 49), sm_junk, sm_junk, sm_junk, sm_junk, sm_junk] [] D) _ from (sx_p (pc' := 4) (lv' := [.ref (X + 49), .int (ni 0), .int (ni 0), sm_junk, sm_junk, sm_junk]) (st' := []) q160 0 4 rfl (sm_ge.refl _)))
