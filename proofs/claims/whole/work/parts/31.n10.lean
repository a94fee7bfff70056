/-! ===== what methods do from place to place, written by a program (wip/tools/gen_nodes.py) ===== -/
/-! MessageTreeModel.pieceIs -/
theorem q207 : sm_q 207 12 sm_i207 0 := ⟨rfl, rfl, rfl⟩
set_option maxRecDepth 8000 in
theorem f207 {C : sm_K} {X : Nat} {v1 : Int32} {v2 : Int32} {v3 : Int32} (hX : sm_Lay C X) {D : sm_D} : sm_ge (sm_fe C 207 [.ref (X + 49), .int v1, .int v2, .int v3] D) (
  sm_gu (sm_in_b ((D.1 (X + 49) 53) + v1) 60) (
  let D1 := sm_dI D (X + 78) (((D.1 (X + 49) 53) + v1).toNatClampNeg) v2
  sm_gu (sm_in_b ((D1.1 (X + 49) 53) + v1) 60) (
  let D2 := sm_dI D1 (X + 79) (((D1.1 (X + 49) 53) + v1).toNatClampNeg) v3
  some (.inl none, D2)))) := by
  rw [sx_fe (m := 4) rfl rfl]
  exact (show sm_ge (sm_fx C 207 0 [.ref (X + 49), .int v1, .int v2, .int v3] [] D) _ from (sx_p (pc' := 1) (lv' := [.ref (X + 49), .int v1, .int v2, .int v3]) (st' := [.ref (X + 49)]) q207 0 1 rfl (sx_gR q207 1 rfl fk_12_96 (fun _ _ => rfl) (hX.s 49 rfl) (hX.r 49 41 rfl) (sx_p (pc' := 5) (lv' := [.ref (X + 49), .int v1, .int v2, .int v3]) (st' := [.ref (X + 49), .ref (X + 78)]) q207 2 1 rfl (sx_gI q207 3 rfl fk_12_364 rfl (hX.s 49 rfl) (hX.b 49) (sx_p (pc' := 11) (lv' := [.ref (X + 49), .int v1, .int v2, .int v3]) (st' := [.int v2, .int ((D.1 (X + 49) 53) + v1), .ref (X + 78)]) q207 4 3 rfl (sx_is q207 7 rfl (hX.s 78 rfl) (hX.b 78) (sx_p (pc' := 13) (lv' := [.ref (X + 49), .int v1, .int v2, .int v3]) (st' := [.ref (X + 49)]) q207 8 1 rfl (sx_gR q207 9 rfl fk_12_99 (fun _ _ => rfl) (hX.s 49 rfl) (hX.r 49 42 rfl) (sx_p (pc' := 17) (lv' := [.ref (X + 49), .int v1, .int v2, .int v3]) (st' := [.ref (X + 49), .ref (X + 79)]) q207 10 1 rfl (sx_gI q207 11 rfl fk_12_364 rfl (hX.s 49 rfl) (hX.b 49) (sx_p (pc' := 23) (lv' := [.ref (X + 49), .int v1, .int v2, .int v3]) (st' := [.int v3, .int (((sm_dI D (X + 78) (((D.1 (X + 49) 53) + v1).toNatClampNeg) v2).1 (X + 49) 53) + v1), .ref (X + 79)]) q207 12 3 rfl (sx_is q207 15 rfl (hX.s 79 rfl) (hX.b 79) (sx_rv q207 16 rfl rfl))))))))))))))
/-! MessageTreeModel.local -/
theorem q208 : sm_q 208 12 sm_i208 5 := ⟨rfl, rfl, rfl⟩
set_option maxRecDepth 8000 in
theorem f208 {C : sm_K} {X : Nat} (hX : sm_Lay C X) {D : sm_D} : sm_ge (sm_fe C 208 [.ref (X + 49)] D) (
  sm_bi (sm_fe C 179 [.ref (X + 49)] D) (fun x0 D1 =>
    if x0 = (ni 34) then
      sm_bv (sm_fe C 190 [.ref (X + 49), .int (ni 8000)] D1) (fun D5 =>
        sm_bv (sm_fe C 207 [.ref (X + 49), .int (ni 1), .int (D5.1 (X + 49) 48), .int (D5.1 (X + 49) 49)] D5) (fun D6 =>
          some (.inl none, D6)))
    else
      sm_bv (sm_fe C 182 [.ref (X + 49), .int (ni 0), .int (ni 0)] D1) (fun D2 =>
        sm_bi (sm_fe C 209 [.ref (X + 49)] D2) (fun x1 D3 =>
          sm_bv (sm_fe C 207 [.ref (X + 49), .int (ni 1), .int (D2.1 (X + 49) 48), .int ((D2.1 (X + 49) 49) + x1)] D3) (fun D4 =>
            some (.inl none, D4)))))) := by
  rw [sx_fe (m := 3) rfl rfl]
  exact (show sm_ge (sm_fx C 208 0 [.ref (X + 49), sm_junk, sm_junk] [] D) _ from (sx_p (pc' := 1) (lv' := [.ref (X + 49), sm_junk, sm_junk]) (st' := [.ref (X + 49)]) q208 0 1 rfl (sx_ki (sx_V q208 1 rfl lk_12_217 vk_179 na_179 rfl rfl rfl rfl (hX.s 49 rfl)) (by decide) rfl (fun x0 D1 => (sx_p (pc' := 6) (lv' := [.ref (X + 49), sm_junk, sm_junk]) (st' := [.int (ni 34), .int x0]) q208 2 1 rfl (sx_icmp_ne q208 3 rfl rfl (sx_p (pc' := 33) (lv' := [.ref (X + 49), sm_junk, sm_junk]) (st' := [.int (ni 0), .int (ni 0), .ref (X + 49)]) q208 15 3 rfl (sx_kv (sx_V q208 18 rfl lk_12_266 vk_182 na_182 rfl rfl rfl rfl (hX.s 49 rfl)) (by decide) rfl (fun D2 => (sx_p (pc' := 37) (lv' := [.ref (X + 49), sm_junk, sm_junk]) (st' := [.ref (X + 49)]) q208 19 1 rfl (sx_gI q208 20 rfl fk_12_238 rfl (hX.s 49 rfl) (hX.b 49) (sx_p (pc' := 42) (lv' := [.ref (X + 49), .int (D2.1 (X + 49) 48), sm_junk]) (st' := [.ref (X + 49)]) q208 21 2 rfl (sx_gI q208 23 rfl fk_12_250 rfl (hX.s 49 rfl) (hX.b 49) (sx_p (pc' := 48) (lv' := [.ref (X + 49), .int (D2.1 (X + 49) 48), .int (D2.1 (X + 49) 49)]) (st' := [.ref (X + 49), .int (D2.1 (X + 49) 49)]) q208 24 3 rfl (sx_ki (sx_V q208 27 rfl lk_12_377 vk_209 na_209 rfl rfl rfl rfl (hX.s 49 rfl)) (by decide) rfl (fun x1 D3 => (sx_p (pc' := 57) (lv' := [.ref (X + 49), .int (D2.1 (X + 49) 48), .int ((D2.1 (X + 49) 49) + x1)]) (st' := [.int ((D2.1 (X + 49) 49) + x1), .int (D2.1 (X + 49) 48), .int (ni 1), .ref (X + 49)]) q208 28 6 rfl (sx_kv (sx_V q208 34 rfl lk_12_367 vk_207 na_207 rfl rfl rfl rfl (hX.s 49 rfl)) (by decide) rfl (fun D4 => (sx_rv q208 35 rfl rfl)))))))))))))) (sx_p (pc' := 13) (lv' := [.ref (X + 49), sm_junk, sm_junk]) (st' := [.int (ni 8000), .ref (X + 49)]) q208 4 2 rfl (sx_kv (sx_V q208 6 rfl lk_12_290 vk_190 na_190 rfl rfl rfl rfl (hX.s 49 rfl)) (by decide) rfl (fun D5 => (sx_p (pc' := 19) (lv' := [.ref (X + 49), sm_junk, sm_junk]) (st' := [.ref (X + 49), .int (ni 1), .ref (X + 49)]) q208 7 3 rfl (sx_gI q208 10 rfl fk_12_238 rfl (hX.s 49 rfl) (hX.b 49) (sx_p (pc' := 23) (lv' := [.ref (X + 49), sm_junk, sm_junk]) (st' := [.ref (X + 49), .int (D5.1 (X + 49) 48), .int (ni 1), .ref (X + 49)]) q208 11 1 rfl (sx_gI q208 12 rfl fk_12_250 rfl (hX.s 49 rfl) (hX.b 49) (sx_kv (sx_V q208 13 rfl lk_12_367 vk_207 na_207 rfl rfl rfl rfl (hX.s 49 rfl)) (by decide) rfl (fun D6 => (sx_rv q208 14 rfl rfl))))))))))))))))
/-! MessageTreeModel.dots -/
theorem q209 : sm_q 209 12 sm_i209 4 := ⟨rfl, rfl, rfl⟩
set_option maxRecDepth 8000 in
theorem n209_2 {C : sm_K} {X : Nat} {v1 : Int32} (hX : sm_Lay C X) {D : sm_D} : sm_ge (sm_fx C 209 2 [.ref (X + 49), .int v1] [] D) (
  if (D.1 (X + 49) 8) = (sm_k (-1)) then
    sm_bi (sm_fe C 179 [.ref (X + 49)] D) (fun x0 D1 =>
      if x0 = (ni 46) then
        sm_bv (sm_fe C 173 [.ref (X + 49), .int (ni 46)] D1) (fun D2 =>
          sm_bv (sm_fe C 181 [.ref (X + 49)] D2) (fun D3 =>
            sm_bv (sm_fe C 182 [.ref (X + 49), .int (ni 0), .int (D3.1 (X + 49) 54)] D3) (fun D4 =>
              sm_fx C 209 2 [.ref (X + 49), .int ((v1 + (ni 1)) + (D4.1 (X + 49) 49))] [] D4)))
      else
        some (.inl (some (.int v1)), D1))
  else
    some (.inl (some (.int v1)), D)) := 
  (sx_p (pc' := 3) (lv' := [.ref (X + 49), .int v1]) (st' := [.ref (X + 49)]) q209 2 1 rfl (sx_gI q209 3 rfl fk_12_134 rfl (hX.s 49 rfl) (hX.b 49) (sx_p (pc' := 7) (lv' := [.ref (X + 49), .int v1]) (st' := [.int (sm_k (-1)), .int (D.1 (X + 49) 8)]) q209 4 1 rfl (sx_icmp_ne q209 5 rfl rfl (sx_p (pc' := 51) (lv' := [.ref (X + 49), .int v1]) (st' := [.int v1]) q209 28 1 rfl (sx_ri (ty := .int) q209 29 rfl rfl)) (sx_p (pc' := 11) (lv' := [.ref (X + 49), .int v1]) (st' := [.ref (X + 49)]) q209 6 1 rfl (sx_ki (sx_V q209 7 rfl lk_12_217 vk_179 na_179 rfl rfl rfl rfl (hX.s 49 rfl)) (by decide) rfl (fun x0 D1 => (sx_p (pc' := 16) (lv' := [.ref (X + 49), .int v1]) (st' := [.int (ni 46), .int x0]) q209 8 1 rfl (sx_icmp_ne q209 9 rfl rfl (sx_p (pc' := 51) (lv' := [.ref (X + 49), .int v1]) (st' := [.int v1]) q209 28 1 rfl (sx_ri (ty := .int) q209 29 rfl rfl)) (sx_p (pc' := 22) (lv' := [.ref (X + 49), .int v1]) (st' := [.int (ni 46), .ref (X + 49)]) q209 10 2 rfl (sx_kv (sx_V q209 12 rfl lk_12_247 vk_173 na_173 rfl rfl rfl rfl (hX.s 49 rfl)) (by decide) rfl (fun D2 => (sx_p (pc' := 26) (lv' := [.ref (X + 49), .int v1]) (st' := [.ref (X + 49)]) q209 13 1 rfl (sx_kv (sx_V q209 14 rfl lk_12_223 vk_181 na_181 rfl rfl rfl rfl (hX.s 49 rfl)) (by decide) rfl (fun D3 => (sx_p (pc' := 32) (lv' := [.ref (X + 49), .int v1]) (st' := [.ref (X + 49), .int (ni 0), .ref (X + 49)]) q209 15 3 rfl (sx_gI q209 18 rfl fk_12_380 rfl (hX.s 49 rfl) (hX.b 49) (sx_kv (sx_V q209 19 rfl lk_12_266 vk_182 na_182 rfl rfl rfl rfl (hX.s 49 rfl)) (by decide) rfl (fun D4 => (sx_p (pc' := 42) (lv' := [.ref (X + 49), .int v1]) (st' := [.ref (X + 49), .int (v1 + (ni 1))]) q209 20 4 rfl (sx_gI q209 24 rfl fk_12_250 rfl (hX.s 49 rfl) (hX.b 49) (sx_p (pc' := 2) (lv' := [.ref (X + 49), .int ((v1 + (ni 1)) + (D4.1 (X + 49) 49))]) (st' := []) q209 25 3 rfl (sm_ge.refl _)))))))))))))))))))))))
set_option maxRecDepth 8000 in
theorem f209 {C : sm_K} {X : Nat} (hX : sm_Lay C X) {D : sm_D} : sm_ge (sm_fe C 209 [.ref (X + 49)] D) (
  sm_fx C 209 2 [.ref (X + 49), .int (ni 0)] [] D) := by
  rw [sx_fe (m := 2) rfl rfl]
  exact (show sm_ge (sm_fx C 209 0 [.ref (X + 49), sm_junk] [] D) _ from (sx_p (pc' := 2) (lv' := [.ref (X + 49), .int (ni 0)]) (st' := []) q209 0 2 rfl (sm_ge.refl _)))
/-! MessageTreeModel.domain -/
theorem q210 : sm_q 210 12 sm_i210 5 := ⟨rfl, rfl, rfl⟩
set_option maxRecDepth 8000 in
theorem f210 {C : sm_K} {X : Nat} (hX : sm_Lay C X) {D : sm_D} : sm_ge (sm_fe C 210 [.ref (X + 49)] D) (
  sm_bv (sm_fe C 187 [.ref (X + 49), .int (ni 64)] D) (fun D1 =>
    sm_bv (sm_fe C 199 [.ref (X + 49)] D1) (fun D2 =>
      if (D2.1 (X + 49) 8) = (sm_k (-1)) then
        sm_bv (sm_fe C 182 [.ref (X + 49), .int (ni 0), .int (ni 1)] D2) (fun D3 =>
          sm_gu (decide ((ni 1) = 0 ∨ (ni 1) = 1)) (
          let D4 := sm_dI D3 (X + 49) 54 (ni 1)
          sm_bi (sm_fe C 209 [.ref (X + 49)] D4) (fun x0 D5 =>
            sm_gu (decide ((ni 0) = 0 ∨ (ni 0) = 1)) (
            let D6 := sm_dI D5 (X + 49) 54 (ni 0)
            sm_bv (sm_fe C 207 [.ref (X + 49), .int (ni 2), .int (D3.1 (X + 49) 48), .int ((D3.1 (X + 49) 49) + x0)] D6) (fun D7 =>
              some (.inl none, D7))))))
      else
        some (.inl none, D2)))) := by
  rw [sx_fe (m := 3) rfl rfl]
  exact (show sm_ge (sm_fx C 210 0 [.ref (X + 49), sm_junk, sm_junk] [] D) _ from (sx_p (pc' := 3) (lv' := [.ref (X + 49), sm_junk, sm_junk]) (st' := [.int (ni 64), .ref (X + 49)]) q210 0 2 rfl (sx_kv (sx_V q210 2 rfl lk_12_270 vk_187 na_187 rfl rfl rfl rfl (hX.s 49 rfl)) (by decide) rfl (fun D1 => (sx_p (pc' := 7) (lv' := [.ref (X + 49), sm_junk, sm_junk]) (st' := [.ref (X + 49)]) q210 3 1 rfl (sx_kv (sx_V q210 4 rfl lk_12_329 vk_199 na_199 rfl rfl rfl rfl (hX.s 49 rfl)) (by decide) rfl (fun D2 => (sx_p (pc' := 11) (lv' := [.ref (X + 49), sm_junk, sm_junk]) (st' := [.ref (X + 49)]) q210 5 1 rfl (sx_gI q210 6 rfl fk_12_134 rfl (hX.s 49 rfl) (hX.b 49) (sx_p (pc' := 15) (lv' := [.ref (X + 49), sm_junk, sm_junk]) (st' := [.int (sm_k (-1)), .int (D2.1 (X + 49) 8)]) q210 7 1 rfl (sx_icmp_ne q210 8 rfl rfl (sx_rv q210 35 rfl rfl) (sx_p (pc' := 21) (lv' := [.ref (X + 49), sm_junk, sm_junk]) (st' := [.int (ni 1), .int (ni 0), .ref (X + 49)]) q210 9 3 rfl (sx_kv (sx_V q210 12 rfl lk_12_266 vk_182 na_182 rfl rfl rfl rfl (hX.s 49 rfl)) (by decide) rfl (fun D3 => (sx_p (pc' := 25) (lv' := [.ref (X + 49), sm_junk, sm_junk]) (st' := [.ref (X + 49)]) q210 13 1 rfl (sx_gI q210 14 rfl fk_12_238 rfl (hX.s 49 rfl) (hX.b 49) (sx_p (pc' := 30) (lv' := [.ref (X + 49), .int (D3.1 (X + 49) 48), sm_junk]) (st' := [.ref (X + 49)]) q210 15 2 rfl (sx_gI q210 17 rfl fk_12_250 rfl (hX.s 49 rfl) (hX.b 49) (sx_p (pc' := 36) (lv' := [.ref (X + 49), .int (D3.1 (X + 49) 48), .int (D3.1 (X + 49) 49)]) (st' := [.int (ni 1), .ref (X + 49)]) q210 18 3 rfl (sx_pZ q210 21 rfl pk_12_380 rfl (hX.s 49 rfl) (hX.b 49) (sx_p (pc' := 41) (lv' := [.ref (X + 49), .int (D3.1 (X + 49) 48), .int (D3.1 (X + 49) 49)]) (st' := [.ref (X + 49), .int (D3.1 (X + 49) 49)]) q210 22 2 rfl (sx_ki (sx_V q210 24 rfl lk_12_377 vk_209 na_209 rfl rfl rfl rfl (hX.s 49 rfl)) (by decide) rfl (fun x0 D5 => (sx_p (pc' := 48) (lv' := [.ref (X + 49), .int (D3.1 (X + 49) 48), .int ((D3.1 (X + 49) 49) + x0)]) (st' := [.int (ni 0), .ref (X + 49)]) q210 25 4 rfl (sx_pZ q210 29 rfl pk_12_380 rfl (hX.s 49 rfl) (hX.b 49) (sx_p (pc' := 55) (lv' := [.ref (X + 49), .int (D3.1 (X + 49) 48), .int ((D3.1 (X + 49) 49) + x0)]) (st' := [.int ((D3.1 (X + 49) 49) + x0), .int (D3.1 (X + 49) 48), .int (ni 2), .ref (X + 49)]) q210 30 4 rfl (sx_kv (sx_V q210 34 rfl lk_12_367 vk_207 na_207 rfl rfl rfl rfl (hX.s 49 rfl)) (by decide) rfl (fun D7 => (sx_rv q210 35 rfl rfl)))))))))))))))))))))))))))))
/-! MessageTreeModel.readSubject -/
theorem q211 : sm_q 211 12 sm_i211 6 := ⟨rfl, rfl, rfl⟩
set_option maxRecDepth 8000 in
theorem n211_9 {C : sm_K} {X : Nat} {v2 : Int32} {v3 : Int32} (hX : sm_Lay C X) {D : sm_D} : sm_ge (sm_fx C 211 9 [.ref (X + 49), sm_junk, .int v2, .int v3, sm_junk, sm_junk, sm_junk, sm_junk] [] D) (
  if (D.1 (X + 49) 55) ≤ v2 then
    some (.inl none, D)
  else
    sm_fx C 211 20 [.ref (X + 49), sm_junk, .int v2, .int v3, .int v2, sm_junk, sm_junk, sm_junk] [] D) := 
  (sx_p (pc' := 11) (lv' := [.ref (X + 49), sm_junk, .int v2, .int v3, sm_junk, sm_junk, sm_junk, sm_junk]) (st' := [.ref (X + 49), .int v2]) q211 7 2 rfl (sx_gI q211 9 rfl fk_12_384 rfl (hX.s 49 rfl) (hX.b 49) (sx_icmp_ge q211 10 rfl rfl (sx_rv q211 91 rfl rfl) (sx_p (pc' := 20) (lv' := [.ref (X + 49), sm_junk, .int v2, .int v3, .int v2, sm_junk, sm_junk, sm_junk]) (st' := []) q211 11 2 rfl (sm_ge.refl _)))))
set_option maxRecDepth 8000 in
theorem n211_20 {C : sm_K} {X : Nat} {v2 : Int32} {v3 : Int32} {v4 : Int32} (hX : sm_Lay C X) {D : sm_D} : sm_ge (sm_fx C 211 20 [.ref (X + 49), sm_junk, .int v2, .int v3, .int v4, sm_junk, sm_junk, sm_junk] [] D) (
  if (D.1 (X + 49) 55) ≤ v4 then
    sm_fx C 211 48 [.ref (X + 49), sm_junk, .int v2, .int v3, .int v4, sm_junk, sm_junk, sm_junk] [] D
  else
    sm_gu (sm_in_b v4 8000) (
    sm_bi (sm_fe C 170 [.int (D.1 (X + 82) v4.toNatClampNeg)] D) (fun x0 D1 =>
      if x0 = ni 0 then
        sm_fx C 211 48 [.ref (X + 49), sm_junk, .int v2, .int v3, .int v4, sm_junk, sm_junk, sm_junk] [] D1
      else
        sm_fx C 211 20 [.ref (X + 49), sm_junk, .int v2, .int v3, .int (v4 + ni 1), sm_junk, sm_junk, sm_junk] [] D1))) := 
  (sx_p (pc' := 23) (lv' := [.ref (X + 49), sm_junk, .int v2, .int v3, .int v4, sm_junk, sm_junk, sm_junk]) (st' := [.ref (X + 49), .int v4]) q211 13 2 rfl (sx_gI q211 15 rfl fk_12_384 rfl (hX.s 49 rfl) (hX.b 49) (sx_icmp_ge q211 16 rfl rfl (sm_ge.refl _) (sx_p (pc' := 30) (lv' := [.ref (X + 49), sm_junk, .int v2, .int v3, .int v4, sm_junk, sm_junk, sm_junk]) (st' := [.ref (X + 49)]) q211 17 1 rfl (sx_gR q211 18 rfl fk_12_109 (fun _ _ => rfl) (hX.s 49 rfl) (hX.r 49 56 rfl) (sx_p (pc' := 35) (lv' := [.ref (X + 49), sm_junk, .int v2, .int v3, .int v4, sm_junk, sm_junk, sm_junk]) (st' := [.int v4, .ref (X + 82)]) q211 19 1 rfl (sx_ia q211 20 rfl (hX.s 82 rfl) (hX.b 82) (sx_ki (sx_S q211 21 rfl lk_12_204 rfl na_170 rfl rfl rfl rfl) (by decide) rfl (fun x0 D1 => (sx_if_eq q211 22 rfl rfl (sm_ge.refl _) (sx_p (pc' := 20) (lv' := [.ref (X + 49), sm_junk, .int v2, .int v3, .int (v4 + ni 1), sm_junk, sm_junk, sm_junk]) (st' := []) q211 23 2 rfl (sm_ge.refl _))))))))))))
set_option maxRecDepth 8000 in
theorem n211_48 {C : sm_K} {X : Nat} {v2 : Int32} {v3 : Int32} {v4 : Int32} (hX : sm_Lay C X) {D : sm_D} : sm_ge (sm_fx C 211 48 [.ref (X + 49), sm_junk, .int v2, .int v3, .int v4, sm_junk, sm_junk, sm_junk] [] D) (
  sm_fx C 211 52 [.ref (X + 49), sm_junk, .int v2, .int v3, .int v4, .int v4, sm_junk, sm_junk] [] D) := 
  (sx_p (pc' := 52) (lv' := [.ref (X + 49), sm_junk, .int v2, .int v3, .int v4, .int v4, sm_junk, sm_junk]) (st' := []) q211 25 2 rfl (sm_ge.refl _))
set_option maxRecDepth 8000 in
theorem n211_52 {C : sm_K} {X : Nat} {v2 : Int32} {v3 : Int32} {v4 : Int32} {v5 : Int32} (hX : sm_Lay C X) {D : sm_D} : sm_ge (sm_fx C 211 52 [.ref (X + 49), sm_junk, .int v2, .int v3, .int v4, .int v5, sm_junk, sm_junk] [] D) (
  if (D.1 (X + 49) 55) ≤ v5 then
    sm_fx C 211 80 [.ref (X + 49), sm_junk, .int v2, .int v3, .int v4, .int v5, sm_junk, sm_junk] [] D
  else
    sm_gu (sm_in_b v5 8000) (
    sm_bi (sm_fe C 170 [.int (D.1 (X + 82) v5.toNatClampNeg)] D) (fun x0 D1 =>
      if x0 = ni 0 then
        sm_fx C 211 52 [.ref (X + 49), sm_junk, .int v2, .int v3, .int v4, .int (v5 + ni 1), sm_junk, sm_junk] [] D1
      else
        sm_fx C 211 80 [.ref (X + 49), sm_junk, .int v2, .int v3, .int v4, .int v5, sm_junk, sm_junk] [] D1))) := 
  (sx_p (pc' := 55) (lv' := [.ref (X + 49), sm_junk, .int v2, .int v3, .int v4, .int v5, sm_junk, sm_junk]) (st' := [.ref (X + 49), .int v5]) q211 27 2 rfl (sx_gI q211 29 rfl fk_12_384 rfl (hX.s 49 rfl) (hX.b 49) (sx_icmp_ge q211 30 rfl rfl (sm_ge.refl _) (sx_p (pc' := 62) (lv' := [.ref (X + 49), sm_junk, .int v2, .int v3, .int v4, .int v5, sm_junk, sm_junk]) (st' := [.ref (X + 49)]) q211 31 1 rfl (sx_gR q211 32 rfl fk_12_109 (fun _ _ => rfl) (hX.s 49 rfl) (hX.r 49 56 rfl) (sx_p (pc' := 67) (lv' := [.ref (X + 49), sm_junk, .int v2, .int v3, .int v4, .int v5, sm_junk, sm_junk]) (st' := [.int v5, .ref (X + 82)]) q211 33 1 rfl (sx_ia q211 34 rfl (hX.s 82 rfl) (hX.b 82) (sx_ki (sx_S q211 35 rfl lk_12_204 rfl na_170 rfl rfl rfl rfl) (by decide) rfl (fun x0 D1 => (sx_if_ne q211 36 rfl rfl (sm_ge.refl _) (sx_p (pc' := 52) (lv' := [.ref (X + 49), sm_junk, .int v2, .int v3, .int v4, .int (v5 + ni 1), sm_junk, sm_junk]) (st' := []) q211 37 2 rfl (sm_ge.refl _))))))))))))
set_option maxRecDepth 8000 in
theorem n211_80 {C : sm_K} {X : Nat} {v2 : Int32} {v3 : Int32} {v4 : Int32} {v5 : Int32} (hX : sm_Lay C X) {D : sm_D} : sm_ge (sm_fx C 211 80 [.ref (X + 49), sm_junk, .int v2, .int v3, .int v4, .int v5, sm_junk, sm_junk] [] D) (
  if v5 ≤ v4 then
    sm_fx C 211 102 [.ref (X + 49), sm_junk, .int v2, .int v3, .int v4, .int v5, sm_junk, sm_junk] [] D
  else
    sm_bi (sm_fe C 213 [.ref (X + 49), .int v4, .int v5] D) (fun x0 D1 =>
      if x0 = ni 0 then
        sm_fx C 211 102 [.ref (X + 49), sm_junk, .int v2, .int v3, .int v4, .int v5, sm_junk, sm_junk] [] D1
      else
        sm_fx C 211 103 [.ref (X + 49), sm_junk, .int v2, .int v3, .int v4, .int v5, sm_junk, sm_junk] [.int (ni 1)] D1)) := 
  (sx_p (pc' := 84) (lv' := [.ref (X + 49), sm_junk, .int v2, .int v3, .int v4, .int v5, sm_junk, sm_junk]) (st' := [.int v4, .int v5]) q211 39 2 rfl (sx_icmp_le q211 41 rfl rfl (sm_ge.refl _) (sx_p (pc' := 92) (lv' := [.ref (X + 49), sm_junk, .int v2, .int v3, .int v4, .int v5, sm_junk, sm_junk]) (st' := [.int v5, .int v4, .ref (X + 49)]) q211 42 3 rfl (sx_ki (sx_V q211 45 rfl lk_12_440 vk_213 na_213 rfl rfl rfl rfl (hX.s 49 rfl)) (by decide) rfl (fun x0 D1 => (sx_if_eq q211 46 rfl rfl (sm_ge.refl _) (sx_p (pc' := 103) (lv' := [.ref (X + 49), sm_junk, .int v2, .int v3, .int v4, .int v5, sm_junk, sm_junk]) (st' := [.int (ni 1)]) q211 47 2 rfl (sm_ge.refl _))))))))
set_option maxRecDepth 8000 in
theorem n211_102 {C : sm_K} {X : Nat} {v2 : Int32} {v3 : Int32} {v4 : Int32} {v5 : Int32} (hX : sm_Lay C X) {D : sm_D} : sm_ge (sm_fx C 211 102 [.ref (X + 49), sm_junk, .int v2, .int v3, .int v4, .int v5, sm_junk, sm_junk] [] D) (
  sm_fx C 211 103 [.ref (X + 49), sm_junk, .int v2, .int v3, .int v4, .int v5, sm_junk, sm_junk] [.int (ni 0)] D) := 
  (sx_p (pc' := 103) (lv' := [.ref (X + 49), sm_junk, .int v2, .int v3, .int v4, .int v5, sm_junk, sm_junk]) (st' := [.int (ni 0)]) q211 49 1 rfl (sm_ge.refl _))
set_option maxRecDepth 8000 in
theorem n211_103 {C : sm_K} {X : Nat} {v2 : Int32} {v3 : Int32} {v4 : Int32} {v5 : Int32} {s0 : Int32} (hX : sm_Lay C X) {D : sm_D} : sm_ge (sm_fx C 211 103 [.ref (X + 49), sm_junk, .int v2, .int v3, .int v4, .int v5, sm_junk, sm_junk] [.int s0] D) (
  sm_fx C 211 108 [.ref (X + 49), sm_junk, sm_junk, .int v3, .int v4, .int v5, .int s0, .int v2] [] D) := 
  (sx_p (pc' := 108) (lv' := [.ref (X + 49), sm_junk, .int v2, .int v3, .int v4, .int v5, .int s0, .int v2]) (st' := []) q211 50 3 rfl (sx_w (lv := [.ref (X + 49), sm_junk, .int v2, .int v3, .int v4, .int v5, .int s0, .int v2]) (lv' := [.ref (X + 49), sm_junk, sm_junk, .int v3, .int v4, .int v5, .int s0, .int v2]) (sm_ordl.ord ⟨Or.inr rfl, Or.inl rfl, Or.inl rfl, Or.inr rfl, Or.inr rfl, Or.inr rfl, Or.inr rfl, Or.inr rfl, trivial⟩)))
set_option maxRecDepth 8000 in
theorem n211_108 {C : sm_K} {X : Nat} {v3 : Int32} {v4 : Int32} {v5 : Int32} {v6 : Int32} {v7 : Int32} (hX : sm_Lay C X) {D : sm_D} : sm_ge (sm_fx C 211 108 [.ref (X + 49), sm_junk, sm_junk, .int v3, .int v4, .int v5, .int v6, .int v7] [] D) (
  if v4 ≤ v7 then
    sm_fx C 211 141 [.ref (X + 49), sm_junk, sm_junk, sm_junk, .int v4, .int v5, .int v6, sm_junk] [] D
  else
    if v6 = ni 0 then
      sm_fx C 211 124 [.ref (X + 49), sm_junk, sm_junk, .int v3, .int v4, .int v5, .int v6, .int v7] [] D
    else
      if v3 = ni 0 then
        sm_fx C 211 124 [.ref (X + 49), sm_junk, sm_junk, .int v3, .int v4, .int v5, .int v6, .int v7] [] D
      else
        sm_fx C 211 141 [.ref (X + 49), sm_junk, sm_junk, sm_junk, .int v4, .int v5, .int v6, sm_junk] [] D) := 
  (sx_p (pc' := 112) (lv' := [.ref (X + 49), sm_junk, sm_junk, .int v3, .int v4, .int v5, .int v6, .int v7]) (st' := [.int v4, .int v7]) q211 53 2 rfl (sx_icmp_ge q211 55 rfl rfl (sx_w (lv := [.ref (X + 49), sm_junk, sm_junk, .int v3, .int v4, .int v5, .int v6, .int v7]) (lv' := [.ref (X + 49), sm_junk, sm_junk, sm_junk, .int v4, .int v5, .int v6, sm_junk]) (sm_ordl.ord ⟨Or.inr rfl, Or.inl rfl, Or.inl rfl, Or.inl rfl, Or.inr rfl, Or.inr rfl, Or.inr rfl, Or.inl rfl, trivial⟩)) (sx_p (pc' := 117) (lv' := [.ref (X + 49), sm_junk, sm_junk, .int v3, .int v4, .int v5, .int v6, .int v7]) (st' := [.int v6]) q211 56 1 rfl (sx_if_eq q211 57 rfl rfl (sm_ge.refl _) (sx_p (pc' := 121) (lv' := [.ref (X + 49), sm_junk, sm_junk, .int v3, .int v4, .int v5, .int v6, .int v7]) (st' := [.int v3]) q211 58 1 rfl (sx_if_ne q211 59 rfl rfl (sx_w (lv := [.ref (X + 49), sm_junk, sm_junk, .int v3, .int v4, .int v5, .int v6, .int v7]) (lv' := [.ref (X + 49), sm_junk, sm_junk, sm_junk, .int v4, .int v5, .int v6, sm_junk]) (sm_ordl.ord ⟨Or.inr rfl, Or.inl rfl, Or.inl rfl, Or.inl rfl, Or.inr rfl, Or.inr rfl, Or.inr rfl, Or.inl rfl, trivial⟩)) (sm_ge.refl _)))))))
set_option maxRecDepth 8000 in
theorem n211_124 {C : sm_K} {X : Nat} {v3 : Int32} {v4 : Int32} {v5 : Int32} {v6 : Int32} {v7 : Int32} (hX : sm_Lay C X) {D : sm_D} : sm_ge (sm_fx C 211 124 [.ref (X + 49), sm_junk, sm_junk, .int v3, .int v4, .int v5, .int v6, .int v7] [] D) (
  sm_gu (sm_in_b v7 8000) (
  sm_bv (sm_fe C 221 [.ref (X + 49), .int (D.1 (X + 82) v7.toNatClampNeg)] D) (fun D1 =>
    sm_fx C 211 108 [.ref (X + 49), sm_junk, sm_junk, .int v3, .int v4, .int v5, .int v6, .int (v7 + ni 1)] [] D1))) := 
  (sx_p (pc' := 126) (lv' := [.ref (X + 49), sm_junk, sm_junk, .int v3, .int v4, .int v5, .int v6, .int v7]) (st' := [.ref (X + 49), .ref (X + 49)]) q211 60 2 rfl (sx_gR q211 62 rfl fk_12_109 (fun _ _ => rfl) (hX.s 49 rfl) (hX.r 49 56 rfl) (sx_p (pc' := 131) (lv' := [.ref (X + 49), sm_junk, sm_junk, .int v3, .int v4, .int v5, .int v6, .int v7]) (st' := [.int v7, .ref (X + 82), .ref (X + 49)]) q211 63 1 rfl (sx_ia q211 64 rfl (hX.s 82 rfl) (hX.b 82) (sx_kv (sx_V q211 65 rfl lk_12_424 vk_221 na_221 rfl rfl rfl rfl (hX.s 49 rfl)) (by decide) rfl (fun D1 => (sx_p (pc' := 108) (lv' := [.ref (X + 49), sm_junk, sm_junk, .int v3, .int v4, .int v5, .int v6, .int (v7 + ni 1)]) (st' := []) q211 66 2 rfl (sm_ge.refl _))))))))
set_option maxRecDepth 8000 in
theorem n211_141 {C : sm_K} {X : Nat} {v4 : Int32} {v5 : Int32} {v6 : Int32} (hX : sm_Lay C X) {D : sm_D} : sm_ge (sm_fx C 211 141 [.ref (X + 49), sm_junk, sm_junk, sm_junk, .int v4, .int v5, .int v6, sm_junk] [] D) (
  if v6 = ni 0 then
    sm_fx C 211 157 [.ref (X + 49), sm_junk, sm_junk, sm_junk, sm_junk, .int v5, .int v6, .int v4] [] D
  else
    sm_bv (sm_fe C 222 [.ref (X + 49)] D) (fun D1 =>
      sm_fx C 211 181 [.ref (X + 49), sm_junk, sm_junk, sm_junk, sm_junk, .int v5, .int v6, sm_junk] [] D1)) := 
  (sx_p (pc' := 143) (lv' := [.ref (X + 49), sm_junk, sm_junk, sm_junk, .int v4, .int v5, .int v6, sm_junk]) (st' := [.int v6]) q211 68 1 rfl (sx_if_eq q211 69 rfl rfl (sx_p (pc' := 157) (lv' := [.ref (X + 49), sm_junk, sm_junk, sm_junk, .int v4, .int v5, .int v6, .int v4]) (st' := []) q211 73 2 rfl (sx_w (lv := [.ref (X + 49), sm_junk, sm_junk, sm_junk, .int v4, .int v5, .int v6, .int v4]) (lv' := [.ref (X + 49), sm_junk, sm_junk, sm_junk, sm_junk, .int v5, .int v6, .int v4]) (sm_ordl.ord ⟨Or.inr rfl, Or.inl rfl, Or.inl rfl, Or.inl rfl, Or.inl rfl, Or.inr rfl, Or.inr rfl, Or.inr rfl, trivial⟩))) (sx_p (pc' := 147) (lv' := [.ref (X + 49), sm_junk, sm_junk, sm_junk, .int v4, .int v5, .int v6, sm_junk]) (st' := [.ref (X + 49)]) q211 70 1 rfl (sx_kv (sx_V q211 71 rfl lk_12_443 vk_222 na_222 rfl rfl rfl rfl (hX.s 49 rfl)) (by decide) rfl (fun D1 => (sx_p (pc' := 181) (lv' := [.ref (X + 49), sm_junk, sm_junk, sm_junk, .int v4, .int v5, .int v6, sm_junk]) (st' := []) q211 72 1 rfl (sx_w (lv := [.ref (X + 49), sm_junk, sm_junk, sm_junk, .int v4, .int v5, .int v6, sm_junk]) (lv' := [.ref (X + 49), sm_junk, sm_junk, sm_junk, sm_junk, .int v5, .int v6, sm_junk]) (sm_ordl.ord ⟨Or.inr rfl, Or.inl rfl, Or.inl rfl, Or.inl rfl, Or.inl rfl, Or.inr rfl, Or.inr rfl, Or.inl rfl, trivial⟩))))))))
set_option maxRecDepth 8000 in
theorem n211_157 {C : sm_K} {X : Nat} {v5 : Int32} {v6 : Int32} {v7 : Int32} (hX : sm_Lay C X) {D : sm_D} : sm_ge (sm_fx C 211 157 [.ref (X + 49), sm_junk, sm_junk, sm_junk, sm_junk, .int v5, .int v6, .int v7] [] D) (
  if v5 ≤ v7 then
    sm_fx C 211 181 [.ref (X + 49), sm_junk, sm_junk, sm_junk, sm_junk, .int v5, .int v6, sm_junk] [] D
  else
    sm_gu (sm_in_b v7 8000) (
    sm_bv (sm_fe C 221 [.ref (X + 49), .int (D.1 (X + 82) v7.toNatClampNeg)] D) (fun D1 =>
      sm_fx C 211 157 [.ref (X + 49), sm_junk, sm_junk, sm_junk, sm_junk, .int v5, .int v6, .int (v7 + ni 1)] [] D1))) := 
  (sx_p (pc' := 161) (lv' := [.ref (X + 49), sm_junk, sm_junk, sm_junk, sm_junk, .int v5, .int v6, .int v7]) (st' := [.int v5, .int v7]) q211 75 2 rfl (sx_icmp_ge q211 77 rfl rfl (sx_w (lv := [.ref (X + 49), sm_junk, sm_junk, sm_junk, sm_junk, .int v5, .int v6, .int v7]) (lv' := [.ref (X + 49), sm_junk, sm_junk, sm_junk, sm_junk, .int v5, .int v6, sm_junk]) (sm_ordl.ord ⟨Or.inr rfl, Or.inl rfl, Or.inl rfl, Or.inl rfl, Or.inl rfl, Or.inr rfl, Or.inr rfl, Or.inl rfl, trivial⟩)) (sx_p (pc' := 166) (lv' := [.ref (X + 49), sm_junk, sm_junk, sm_junk, sm_junk, .int v5, .int v6, .int v7]) (st' := [.ref (X + 49), .ref (X + 49)]) q211 78 2 rfl (sx_gR q211 80 rfl fk_12_109 (fun _ _ => rfl) (hX.s 49 rfl) (hX.r 49 56 rfl) (sx_p (pc' := 171) (lv' := [.ref (X + 49), sm_junk, sm_junk, sm_junk, sm_junk, .int v5, .int v6, .int v7]) (st' := [.int v7, .ref (X + 82), .ref (X + 49)]) q211 81 1 rfl (sx_ia q211 82 rfl (hX.s 82 rfl) (hX.b 82) (sx_kv (sx_V q211 83 rfl lk_12_424 vk_221 na_221 rfl rfl rfl rfl (hX.s 49 rfl)) (by decide) rfl (fun D1 => (sx_p (pc' := 157) (lv' := [.ref (X + 49), sm_junk, sm_junk, sm_junk, sm_junk, .int v5, .int v6, .int (v7 + ni 1)]) (st' := []) q211 84 2 rfl (sm_ge.refl _))))))))))
set_option maxRecDepth 8000 in
theorem n211_181 {C : sm_K} {X : Nat} {v5 : Int32} {v6 : Int32} (hX : sm_Lay C X) {D : sm_D} : sm_ge (sm_fx C 211 181 [.ref (X + 49), sm_junk, sm_junk, sm_junk, sm_junk, .int v5, .int v6, sm_junk] [] D) (
  sm_fx C 211 9 [.ref (X + 49), sm_junk, .int v5, .int v6, sm_junk, sm_junk, sm_junk, sm_junk] [] D) := 
  (sx_p (pc' := 9) (lv' := [.ref (X + 49), sm_junk, .int v5, .int v6, sm_junk, .int v5, .int v6, sm_junk]) (st' := []) q211 86 5 rfl (sx_w (lv := [.ref (X + 49), sm_junk, .int v5, .int v6, sm_junk, .int v5, .int v6, sm_junk]) (lv' := [.ref (X + 49), sm_junk, .int v5, .int v6, sm_junk, sm_junk, sm_junk, sm_junk]) (sm_ordl.ord ⟨Or.inr rfl, Or.inl rfl, Or.inr rfl, Or.inr rfl, Or.inl rfl, Or.inl rfl, Or.inl rfl, Or.inl rfl, trivial⟩)))
set_option maxRecDepth 8000 in
theorem f211 {C : sm_K} {X : Nat} {v1 : Int32} (hX : sm_Lay C X) {D : sm_D} : sm_ge (sm_fe C 211 [.ref (X + 49), .int v1] D) (
  sm_bv (sm_fe C 212 [.ref (X + 49), .int v1] D) (fun D1 =>
    sm_fx C 211 9 [.ref (X + 49), sm_junk, .int (ni 0), .int (ni 0), sm_junk, sm_junk, sm_junk, sm_junk] [] D1)) := by
  rw [sx_fe (m := 8) rfl rfl]
  exact (show sm_ge (sm_fx C 211 0 [.ref (X + 49), .int v1, sm_junk, sm_junk, sm_junk, sm_junk, sm_junk, sm_junk] [] D) _ from (sx_p (pc' := 2) (lv' := [.ref (X + 49), .int v1, sm_junk, sm_junk, sm_junk, sm_junk, sm_junk, sm_junk]) (st' := [.int v1, .ref (X + 49)]) q211 0 2 rfl (sx_kv (sx_V q211 2 rfl lk_12_437 vk_212 na_212 rfl rfl rfl rfl (hX.s 49 rfl)) (by decide) rfl (fun D1 => (sx_p (pc' := 9) (lv' := [.ref (X + 49), .int v1, .int (ni 0), .int (ni 0), sm_junk, sm_junk, sm_junk, sm_junk]) (st' := []) q211 3 4 rfl (sx_w (lv := [.ref (X + 49), .int v1, .int (ni 0), .int (ni 0), sm_junk, sm_junk, sm_junk, sm_junk]) (lv' := [.ref (X + 49), sm_junk, .int (ni 0), .int (ni 0), sm_junk, sm_junk, sm_junk, sm_junk]) (sm_ordl.ord ⟨Or.inr rfl, Or.inl rfl, Or.inr rfl, Or.inr rfl, Or.inl rfl, Or.inl rfl, Or.inl rfl, Or.inl rfl, trivial⟩)))))))
/-! MessageTreeModel.plainText -/
theorem q212 : sm_q 212 12 sm_i212 3 := ⟨rfl, rfl, rfl⟩
set_option maxRecDepth 8000 in
theorem n212_10 {C : sm_K} {X : Nat} (hX : sm_Lay C X) {D : sm_D} : sm_ge (sm_fx C 212 10 [.ref (X + 49), sm_junk, sm_junk, sm_junk] [] D) (
  sm_bi (sm_fe C 179 [.ref (X + 49)] D) (fun x0 D1 =>
    if x0 = (sm_k (-1)) then
      sm_fx C 212 48 [.ref (X + 49), sm_junk, sm_junk, sm_junk] [] D1
    else
      sm_bi (sm_fe C 179 [.ref (X + 49)] D1) (fun x1 D2 =>
        sm_gu (sm_in_b (D1.1 (X + 49) 55) 8000) (
        let D3 := sm_dI D2 (X + 82) ((D1.1 (X + 49) 55).toNatClampNeg) x1
        let D4 := sm_dI D3 (X + 49) 55 ((D3.1 (X + 49) 55) + (ni 1))
        sm_bv (sm_fe C 181 [.ref (X + 49)] D4) (fun D5 =>
          sm_fx C 212 10 [.ref (X + 49), sm_junk, sm_junk, sm_junk] [] D5))))) := 
  (sx_p (pc' := 11) (lv' := [.ref (X + 49), sm_junk, sm_junk, sm_junk]) (st' := [.ref (X + 49)]) q212 6 1 rfl (sx_ki (sx_V q212 7 rfl lk_12_217 vk_179 na_179 rfl rfl rfl rfl (hX.s 49 rfl)) (by decide) rfl (fun x0 D1 => (sx_p (pc' := 15) (lv' := [.ref (X + 49), sm_junk, sm_junk, sm_junk]) (st' := [.int (sm_k (-1)), .int x0]) q212 8 1 rfl (sx_icmp_eq q212 9 rfl rfl (sm_ge.refl _) (sx_p (pc' := 19) (lv' := [.ref (X + 49), sm_junk, sm_junk, sm_junk]) (st' := [.ref (X + 49)]) q212 10 1 rfl (sx_gR q212 11 rfl fk_12_109 (fun _ _ => rfl) (hX.s 49 rfl) (hX.r 49 56 rfl) (sx_p (pc' := 23) (lv' := [.ref (X + 49), sm_junk, sm_junk, sm_junk]) (st' := [.ref (X + 49), .ref (X + 82)]) q212 12 1 rfl (sx_gI q212 13 rfl fk_12_384 rfl (hX.s 49 rfl) (hX.b 49) (sx_p (pc' := 27) (lv' := [.ref (X + 49), sm_junk, sm_junk, sm_junk]) (st' := [.ref (X + 49), .int (D1.1 (X + 49) 55), .ref (X + 82)]) q212 14 1 rfl (sx_ki (sx_V q212 15 rfl lk_12_217 vk_179 na_179 rfl rfl rfl rfl (hX.s 49 rfl)) (by decide) rfl (fun x1 D2 => (sx_is q212 16 rfl (hX.s 82 rfl) (hX.b 82) (sx_p (pc' := 33) (lv' := [.ref (X + 49), sm_junk, sm_junk, sm_junk]) (st' := [.ref (X + 49), .ref (X + 49)]) q212 17 2 rfl (sx_gI q212 19 rfl fk_12_384 rfl (hX.s 49 rfl) (hX.b 49) (sx_p (pc' := 38) (lv' := [.ref (X + 49), sm_junk, sm_junk, sm_junk]) (st' := [.int (((sm_dI D2 (X + 82) ((D1.1 (X + 49) 55).toNatClampNeg) x1).1 (X + 49) 55) + (ni 1)), .ref (X + 49)]) q212 20 2 rfl (sx_pI q212 22 rfl pk_12_384 rfl (hX.s 49 rfl) (hX.b 49) (sx_p (pc' := 42) (lv' := [.ref (X + 49), sm_junk, sm_junk, sm_junk]) (st' := [.ref (X + 49)]) q212 23 1 rfl (sx_kv (sx_V q212 24 rfl lk_12_223 vk_181 na_181 rfl rfl rfl rfl (hX.s 49 rfl)) (by decide) rfl (fun D5 => (sx_p (pc' := 10) (lv' := [.ref (X + 49), sm_junk, sm_junk, sm_junk]) (st' := []) q212 25 1 rfl (sm_ge.refl _))))))))))))))))))))))
set_option maxRecDepth 8000 in
theorem n212_48 {C : sm_K} {X : Nat} (hX : sm_Lay C X) {D : sm_D} : sm_ge (sm_fx C 212 48 [.ref (X + 49), sm_junk, sm_junk, sm_junk] [] D) (
  if (D.1 (X + 49) 55) ≤ ni 0 then
    sm_fx C 212 85 [.ref (X + 49), sm_junk, sm_junk, sm_junk] [] D
  else
    sm_gu (sm_in_b ((D.1 (X + 49) 55) - (ni 1)) 8000) (
    sm_bi (sm_fe C 170 [.int (D.1 (X + 82) ((D.1 (X + 49) 55) - (ni 1)).toNatClampNeg)] D) (fun x0 D1 =>
      if x0 = ni 0 then
        sm_fx C 212 85 [.ref (X + 49), sm_junk, sm_junk, sm_junk] [] D1
      else
        let D2 := sm_dI D1 (X + 49) 55 ((D1.1 (X + 49) 55) - (ni 1))
        sm_fx C 212 48 [.ref (X + 49), sm_junk, sm_junk, sm_junk] [] D2))) := 
  (sx_p (pc' := 49) (lv' := [.ref (X + 49), sm_junk, sm_junk, sm_junk]) (st' := [.ref (X + 49)]) q212 26 1 rfl (sx_gI q212 27 rfl fk_12_384 rfl (hX.s 49 rfl) (hX.b 49) (sx_if_le q212 28 rfl rfl (sm_ge.refl _) (sx_p (pc' := 56) (lv' := [.ref (X + 49), sm_junk, sm_junk, sm_junk]) (st' := [.ref (X + 49)]) q212 29 1 rfl (sx_gR q212 30 rfl fk_12_109 (fun _ _ => rfl) (hX.s 49 rfl) (hX.r 49 56 rfl) (sx_p (pc' := 60) (lv' := [.ref (X + 49), sm_junk, sm_junk, sm_junk]) (st' := [.ref (X + 49), .ref (X + 82)]) q212 31 1 rfl (sx_gI q212 32 rfl fk_12_384 rfl (hX.s 49 rfl) (hX.b 49) (sx_p (pc' := 65) (lv' := [.ref (X + 49), sm_junk, sm_junk, sm_junk]) (st' := [.int ((D.1 (X + 49) 55) - (ni 1)), .ref (X + 82)]) q212 33 2 rfl (sx_ia q212 35 rfl (hX.s 82 rfl) (hX.b 82) (sx_ki (sx_S q212 36 rfl lk_12_204 rfl na_170 rfl rfl rfl rfl) (by decide) rfl (fun x0 D1 => (sx_if_eq q212 37 rfl rfl (sm_ge.refl _) (sx_p (pc' := 74) (lv' := [.ref (X + 49), sm_junk, sm_junk, sm_junk]) (st' := [.ref (X + 49), .ref (X + 49)]) q212 38 2 rfl (sx_gI q212 40 rfl fk_12_384 rfl (hX.s 49 rfl) (hX.b 49) (sx_p (pc' := 79) (lv' := [.ref (X + 49), sm_junk, sm_junk, sm_junk]) (st' := [.int ((D1.1 (X + 49) 55) - (ni 1)), .ref (X + 49)]) q212 41 2 rfl (sx_pI q212 43 rfl pk_12_384 rfl (hX.s 49 rfl) (hX.b 49) (sx_p (pc' := 48) (lv' := [.ref (X + 49), sm_junk, sm_junk, sm_junk]) (st' := []) q212 44 1 rfl (sm_ge.refl _))))))))))))))))))
set_option maxRecDepth 8000 in
theorem n212_85 {C : sm_K} {X : Nat} (hX : sm_Lay C X) {D : sm_D} : sm_ge (sm_fx C 212 85 [.ref (X + 49), sm_junk, sm_junk, sm_junk] [] D) (
  sm_fx C 212 87 [.ref (X + 49), sm_junk, .int (ni 0), sm_junk] [] D) := 
  (sx_p (pc' := 87) (lv' := [.ref (X + 49), sm_junk, .int (ni 0), sm_junk]) (st' := []) q212 45 2 rfl (sm_ge.refl _))
set_option maxRecDepth 8000 in
theorem n212_87 {C : sm_K} {X : Nat} {v2 : Int32} (hX : sm_Lay C X) {D : sm_D} : sm_ge (sm_fx C 212 87 [.ref (X + 49), sm_junk, .int v2, sm_junk] [] D) (
  if (D.1 (X + 49) 55) ≤ v2 then
    sm_fx C 212 113 [.ref (X + 49), sm_junk, .int v2, sm_junk] [] D
  else
    sm_gu (sm_in_b v2 8000) (
    sm_bi (sm_fe C 170 [.int (D.1 (X + 82) v2.toNatClampNeg)] D) (fun x0 D1 =>
      if x0 = ni 0 then
        sm_fx C 212 113 [.ref (X + 49), sm_junk, .int v2, sm_junk] [] D1
      else
        sm_fx C 212 87 [.ref (X + 49), sm_junk, .int (v2 + ni 1), sm_junk] [] D1))) := 
  (sx_p (pc' := 89) (lv' := [.ref (X + 49), sm_junk, .int v2, sm_junk]) (st' := [.ref (X + 49), .int v2]) q212 47 2 rfl (sx_gI q212 49 rfl fk_12_384 rfl (hX.s 49 rfl) (hX.b 49) (sx_icmp_ge q212 50 rfl rfl (sm_ge.refl _) (sx_p (pc' := 96) (lv' := [.ref (X + 49), sm_junk, .int v2, sm_junk]) (st' := [.ref (X + 49)]) q212 51 1 rfl (sx_gR q212 52 rfl fk_12_109 (fun _ _ => rfl) (hX.s 49 rfl) (hX.r 49 56 rfl) (sx_p (pc' := 100) (lv' := [.ref (X + 49), sm_junk, .int v2, sm_junk]) (st' := [.int v2, .ref (X + 82)]) q212 53 1 rfl (sx_ia q212 54 rfl (hX.s 82 rfl) (hX.b 82) (sx_ki (sx_S q212 55 rfl lk_12_204 rfl na_170 rfl rfl rfl rfl) (by decide) rfl (fun x0 D1 => (sx_if_eq q212 56 rfl rfl (sm_ge.refl _) (sx_p (pc' := 87) (lv' := [.ref (X + 49), sm_junk, .int (v2 + ni 1), sm_junk]) (st' := []) q212 57 2 rfl (sm_ge.refl _))))))))))))
set_option maxRecDepth 8000 in
theorem n212_113 {C : sm_K} {X : Nat} {v2 : Int32} (hX : sm_Lay C X) {D : sm_D} : sm_ge (sm_fx C 212 113 [.ref (X + 49), sm_junk, .int v2, sm_junk] [] D) (
  sm_fx C 212 115 [.ref (X + 49), sm_junk, .int v2, .int v2] [] D) := 
  (sx_p (pc' := 115) (lv' := [.ref (X + 49), sm_junk, .int v2, .int v2]) (st' := []) q212 59 2 rfl (sm_ge.refl _))
set_option maxRecDepth 8000 in
theorem n212_115 {C : sm_K} {X : Nat} {v2 : Int32} {v3 : Int32} (hX : sm_Lay C X) {D : sm_D} : sm_ge (sm_fx C 212 115 [.ref (X + 49), sm_junk, .int v2, .int v3] [] D) (
  if (D.1 (X + 49) 55) ≤ v3 then
    let D1 := sm_dI D (X + 49) 55 ((D.1 (X + 49) 55) - v2)
    some (.inl none, D1)
  else
    sm_gu (sm_in_b v3 8000) (
    sm_gu (sm_in_b (v3 - v2) 8000) (
    let D2 := sm_dI D (X + 82) ((v3 - v2).toNatClampNeg) (D.1 (X + 82) v3.toNatClampNeg)
    sm_fx C 212 115 [.ref (X + 49), sm_junk, .int v2, .int (v3 + ni 1)] [] D2))) := 
  (sx_p (pc' := 117) (lv' := [.ref (X + 49), sm_junk, .int v2, .int v3]) (st' := [.ref (X + 49), .int v3]) q212 61 2 rfl (sx_gI q212 63 rfl fk_12_384 rfl (hX.s 49 rfl) (hX.b 49) (sx_icmp_ge q212 64 rfl rfl (sx_p (pc' := 145) (lv' := [.ref (X + 49), sm_junk, .int v2, .int v3]) (st' := [.ref (X + 49), .ref (X + 49)]) q212 77 2 rfl (sx_gI q212 79 rfl fk_12_384 rfl (hX.s 49 rfl) (hX.b 49) (sx_p (pc' := 150) (lv' := [.ref (X + 49), sm_junk, .int v2, .int v3]) (st' := [.int ((D.1 (X + 49) 55) - v2), .ref (X + 49)]) q212 80 2 rfl (sx_pI q212 82 rfl pk_12_384 rfl (hX.s 49 rfl) (hX.b 49) (sx_rv q212 83 rfl rfl))))) (sx_p (pc' := 124) (lv' := [.ref (X + 49), sm_junk, .int v2, .int v3]) (st' := [.ref (X + 49)]) q212 65 1 rfl (sx_gR q212 66 rfl fk_12_109 (fun _ _ => rfl) (hX.s 49 rfl) (hX.r 49 56 rfl) (sx_p (pc' := 131) (lv' := [.ref (X + 49), sm_junk, .int v2, .int v3]) (st' := [.ref (X + 49), .int (v3 - v2), .ref (X + 82)]) q212 67 4 rfl (sx_gR q212 71 rfl fk_12_109 (fun _ _ => rfl) (hX.s 49 rfl) (hX.r 49 56 rfl) (sx_p (pc' := 135) (lv' := [.ref (X + 49), sm_junk, .int v2, .int v3]) (st' := [.int v3, .ref (X + 82), .int (v3 - v2), .ref (X + 82)]) q212 72 1 rfl (sx_ia q212 73 rfl (hX.s 82 rfl) (hX.b 82) (sx_is q212 74 rfl (hX.s 82 rfl) (hX.b 82) (sx_p (pc' := 115) (lv' := [.ref (X + 49), sm_junk, .int v2, .int (v3 + ni 1)]) (st' := []) q212 75 2 rfl (sm_ge.refl _))))))))))))
set_option maxRecDepth 8000 in
theorem f212 {C : sm_K} {X : Nat} {v1 : Int32} (hX : sm_Lay C X) {D : sm_D} : sm_ge (sm_fe C 212 [.ref (X + 49), .int v1] D) (
  let D1 := sm_dI D (X + 49) 55 (ni 0)
  sm_bv (sm_fe C 176 [.ref (X + 49), .int v1] D1) (fun D2 =>
    sm_fx C 212 10 [.ref (X + 49), sm_junk, sm_junk, sm_junk] [] D2)) := by
  rw [sx_fe (m := 4) rfl rfl]
  exact (show sm_ge (sm_fx C 212 0 [.ref (X + 49), .int v1, sm_junk, sm_junk] [] D) _ from (sx_p (pc' := 2) (lv' := [.ref (X + 49), .int v1, sm_junk, sm_junk]) (st' := [.int (ni 0), .ref (X + 49)]) q212 0 2 rfl (sx_pI q212 2 rfl pk_12_384 rfl (hX.s 49 rfl) (hX.b 49) (sx_p (pc' := 7) (lv' := [.ref (X + 49), .int v1, sm_junk, sm_junk]) (st' := [.int v1, .ref (X + 49)]) q212 3 2 rfl (sx_kv (sx_V q212 5 rfl lk_12_260 vk_176 na_176 rfl rfl rfl rfl (hX.s 49 rfl)) (by decide) rfl (fun D2 => (sx_w (lv := [.ref (X + 49), .int v1, sm_junk, sm_junk]) (lv' := [.ref (X + 49), sm_junk, sm_junk, sm_junk]) (sm_ordl.ord ⟨Or.inr rfl, Or.inl rfl, Or.inl rfl, Or.inl rfl, trivial⟩))))))))
/-! MessageTreeModel.isEncoded -/
theorem q213 : sm_q 213 12 sm_i213 5 := ⟨rfl, rfl, rfl⟩
set_option maxRecDepth 8000 in
theorem n213_94 {C : sm_K} {X : Nat} {v1 : Int32} {v2 : Int32} {v3 : Int32} {s0 : Int32} (hX : sm_Lay C X) {D : sm_D} : sm_ge (sm_fx C 213 94 [.ref (X + 49), .int v1, .int v2, .int v3, sm_junk, sm_junk, sm_junk] [.int s0] D) (
  if s0 = (sm_k (-1)) then
    sm_fx C 213 115 [.ref (X + 49), .int v1, .int v2, .int v3, .int s0, sm_junk, sm_junk] [.int (sm_k (-1))] D
  else
    sm_bi (sm_fe C 214 [.ref (X + 49), .int (s0 + (ni 1)), .int v2] D) (fun x0 D1 =>
      sm_fx C 213 115 [.ref (X + 49), .int v1, .int v2, .int v3, .int s0, sm_junk, sm_junk] [.int x0] D1)) := 
  (sx_p (pc' := 99) (lv' := [.ref (X + 49), .int v1, .int v2, .int v3, .int s0, sm_junk, sm_junk]) (st' := [.int (sm_k (-1)), .int s0]) q213 60 3 rfl (sx_icmp_ne q213 63 rfl rfl (sx_p (pc' := 112) (lv' := [.ref (X + 49), .int v1, .int v2, .int v3, .int s0, sm_junk, sm_junk]) (st' := [.int v2, .int (s0 + (ni 1)), .ref (X + 49)]) q213 66 5 rfl (sx_ki (sx_V q213 71 rfl lk_12_387 vk_214 na_214 rfl rfl rfl rfl (hX.s 49 rfl)) (by decide) rfl (fun x0 D1 => (sm_ge.refl _)))) (sx_p (pc' := 115) (lv' := [.ref (X + 49), .int v1, .int v2, .int v3, .int s0, sm_junk, sm_junk]) (st' := [.int (sm_k (-1))]) q213 64 2 rfl (sm_ge.refl _))))
set_option maxRecDepth 8000 in
theorem n213_115 {C : sm_K} {X : Nat} {v1 : Int32} {v2 : Int32} {v3 : Int32} {v4 : Int32} {s0 : Int32} (hX : sm_Lay C X) {D : sm_D} : sm_ge (sm_fx C 213 115 [.ref (X + 49), .int v1, .int v2, .int v3, .int v4, sm_junk, sm_junk] [.int s0] D) (
  if s0 = (v2 - (ni 2)) then
    if v4 = (v3 + (ni 2)) then
      if s0 = (v4 + (ni 1)) then
        some (.inl (some (.int (sm_nar .boolean (ni 0)))), D)
      else
        sm_bi (sm_fe C 215 [.ref (X + 49), .int (v1 + (ni 2)), .int v3, .ref (C.1.1 61)] D) (fun x0 D1 =>
          if x0 = ni 0 then
            sm_bi (sm_fe C 215 [.ref (X + 49), .int (v1 + (ni 2)), .int v3, .ref (C.1.1 62)] D1) (fun x1 D2 =>
              if x1 = ni 0 then
                sm_bi (sm_fe C 215 [.ref (X + 49), .int (v1 + (ni 2)), .int v3, .ref (C.1.1 63)] D2) (fun x2 D3 =>
                  if x2 = ni 0 then
                    sm_fx C 213 200 [.ref (X + 49), sm_junk, sm_junk, .int v3, .int v4, .int s0, sm_junk] [.int (sm_k (-1)), .ref (X + 49)] D3
                  else
                    sm_fx C 213 200 [.ref (X + 49), sm_junk, sm_junk, .int v3, .int v4, .int s0, sm_junk] [.int (ni 2), .ref (X + 49)] D3)
              else
                sm_fx C 213 200 [.ref (X + 49), sm_junk, sm_junk, .int v3, .int v4, .int s0, sm_junk] [.int (ni 1), .ref (X + 49)] D2)
          else
            sm_fx C 213 200 [.ref (X + 49), sm_junk, sm_junk, .int v3, .int v4, .int s0, sm_junk] [.int (ni 0), .ref (X + 49)] D1)
    else
      some (.inl (some (.int (sm_nar .boolean (ni 0)))), D)
  else
    some (.inl (some (.int (sm_nar .boolean (ni 0)))), D)) := 
  (sx_p (pc' := 122) (lv' := [.ref (X + 49), .int v1, .int v2, .int v3, .int v4, .int s0, sm_junk]) (st' := [.int (v2 - (ni 2)), .int s0]) q213 72 5 rfl (sx_icmp_ne q213 77 rfl rfl (sx_p (pc' := 143) (lv' := [.ref (X + 49), .int v1, .int v2, .int v3, .int v4, .int s0, sm_junk]) (st' := [.int (ni 0)]) q213 88 1 rfl (sx_ri (ty := .boolean) q213 89 rfl rfl)) (sx_p (pc' := 130) (lv' := [.ref (X + 49), .int v1, .int v2, .int v3, .int v4, .int s0, sm_junk]) (st' := [.int (v3 + (ni 2)), .int v4]) q213 78 4 rfl (sx_icmp_ne q213 82 rfl rfl (sx_p (pc' := 143) (lv' := [.ref (X + 49), .int v1, .int v2, .int v3, .int v4, .int s0, sm_junk]) (st' := [.int (ni 0)]) q213 88 1 rfl (sx_ri (ty := .boolean) q213 89 rfl rfl)) (sx_p (pc' := 139) (lv' := [.ref (X + 49), .int v1, .int v2, .int v3, .int v4, .int s0, sm_junk]) (st' := [.int (v4 + (ni 1)), .int s0]) q213 83 4 rfl (sx_icmp_ne q213 87 rfl rfl (sx_p (pc' := 150) (lv' := [.ref (X + 49), .int v1, .int v2, .int v3, .int v4, .int s0, sm_junk]) (st' := [.int v3, .int (v1 + (ni 2)), .ref (X + 49), .ref (X + 49)]) q213 90 6 rfl (sx_cs q213 96 rfl (Or.inr ⟨rfl, rfl⟩) cs_12_390 (sx_ki (sx_V q213 97 rfl lk_12_392 vk_215 na_215 rfl rfl rfl rfl (hX.s 49 rfl)) (by decide) rfl (fun x0 D1 => (sx_if_eq q213 98 rfl rfl (sx_p (pc' := 168) (lv' := [.ref (X + 49), .int v1, .int v2, .int v3, .int v4, .int s0, sm_junk]) (st' := [.int v3, .int (v1 + (ni 2)), .ref (X + 49), .ref (X + 49)]) q213 101 5 rfl (sx_cs q213 106 rfl (Or.inr ⟨rfl, rfl⟩) cs_12_395 (sx_ki (sx_V q213 107 rfl lk_12_392 vk_215 na_215 rfl rfl rfl rfl (hX.s 49 rfl)) (by decide) rfl (fun x1 D2 => (sx_if_eq q213 108 rfl rfl (sx_p (pc' := 186) (lv' := [.ref (X + 49), .int v1, .int v2, .int v3, .int v4, .int s0, sm_junk]) (st' := [.int v3, .int (v1 + (ni 2)), .ref (X + 49), .ref (X + 49)]) q213 111 5 rfl (sx_cs q213 116 rfl (Or.inr ⟨rfl, rfl⟩) cs_12_397 (sx_ki (sx_V q213 117 rfl lk_12_392 vk_215 na_215 rfl rfl rfl rfl (hX.s 49 rfl)) (by decide) rfl (fun x2 D3 => (sx_if_eq q213 118 rfl rfl (sx_p (pc' := 200) (lv' := [.ref (X + 49), .int v1, .int v2, .int v3, .int v4, .int s0, sm_junk]) (st' := [.int (sm_k (-1)), .ref (X + 49)]) q213 121 1 rfl (sx_w (lv := [.ref (X + 49), .int v1, .int v2, .int v3, .int v4, .int s0, sm_junk]) (lv' := [.ref (X + 49), sm_junk, sm_junk, .int v3, .int v4, .int s0, sm_junk]) (sm_ordl.ord ⟨Or.inr rfl, Or.inl rfl, Or.inl rfl, Or.inr rfl, Or.inr rfl, Or.inr rfl, Or.inl rfl, trivial⟩))) (sx_p (pc' := 200) (lv' := [.ref (X + 49), .int v1, .int v2, .int v3, .int v4, .int s0, sm_junk]) (st' := [.int (ni 2), .ref (X + 49)]) q213 119 2 rfl (sx_w (lv := [.ref (X + 49), .int v1, .int v2, .int v3, .int v4, .int s0, sm_junk]) (lv' := [.ref (X + 49), sm_junk, sm_junk, .int v3, .int v4, .int s0, sm_junk]) (sm_ordl.ord ⟨Or.inr rfl, Or.inl rfl, Or.inl rfl, Or.inr rfl, Or.inr rfl, Or.inr rfl, Or.inl rfl, trivial⟩)))))))) (sx_p (pc' := 200) (lv' := [.ref (X + 49), .int v1, .int v2, .int v3, .int v4, .int s0, sm_junk]) (st' := [.int (ni 1), .ref (X + 49)]) q213 109 2 rfl (sx_w (lv := [.ref (X + 49), .int v1, .int v2, .int v3, .int v4, .int s0, sm_junk]) (lv' := [.ref (X + 49), sm_junk, sm_junk, .int v3, .int v4, .int s0, sm_junk]) (sm_ordl.ord ⟨Or.inr rfl, Or.inl rfl, Or.inl rfl, Or.inr rfl, Or.inr rfl, Or.inr rfl, Or.inl rfl, trivial⟩)))))))) (sx_p (pc' := 200) (lv' := [.ref (X + 49), .int v1, .int v2, .int v3, .int v4, .int s0, sm_junk]) (st' := [.int (ni 0), .ref (X + 49)]) q213 99 2 rfl (sx_w (lv := [.ref (X + 49), .int v1, .int v2, .int v3, .int v4, .int s0, sm_junk]) (lv' := [.ref (X + 49), sm_junk, sm_junk, .int v3, .int v4, .int s0, sm_junk]) (sm_ordl.ord ⟨Or.inr rfl, Or.inl rfl, Or.inl rfl, Or.inr rfl, Or.inr rfl, Or.inr rfl, Or.inl rfl, trivial⟩)))))))) (sx_p (pc' := 143) (lv' := [.ref (X + 49), .int v1, .int v2, .int v3, .int v4, .int s0, sm_junk]) (st' := [.int (ni 0)]) q213 88 1 rfl (sx_ri (ty := .boolean) q213 89 rfl rfl))))))))
set_option maxRecDepth 8000 in
theorem n213_200 {C : sm_K} {X : Nat} {v3 : Int32} {v4 : Int32} {v5 : Int32} {s1 : Int32} (hX : sm_Lay C X) {D : sm_D} : sm_ge (sm_fx C 213 200 [.ref (X + 49), sm_junk, sm_junk, .int v3, .int v4, .int v5, sm_junk] [.int s1, .ref (X + 49)] D) (
  let D1 := sm_dI D (X + 49) 59 s1
  sm_gu (sm_in_b (v3 + (ni 1)) 8000) (
  sm_bi (sm_fe C 168 [.int (D1.1 (X + 82) (v3 + (ni 1)).toNatClampNeg)] D1) (fun x0 D2 =>
    if (D2.1 (X + 49) 59) = (sm_k (-1)) then
      some (.inl (some (.int (sm_nar .boolean (ni 0)))), D2)
    else
      if x0 = (ni 98) then
        sm_fx C 213 240 [.ref (X + 49), sm_junk, sm_junk, sm_junk, .int v4, .int v5, .int x0] [] D2
      else
        if x0 = (ni 113) then
          sm_fx C 213 240 [.ref (X + 49), sm_junk, sm_junk, sm_junk, .int v4, .int v5, .int x0] [] D2
        else
          some (.inl (some (.int (sm_nar .boolean (ni 0)))), D2)))) := 
  (sx_pI q213 122 rfl pk_12_399 rfl (hX.s 49 rfl) (hX.b 49) (sx_p (pc' := 204) (lv' := [.ref (X + 49), sm_junk, sm_junk, .int v3, .int v4, .int v5, sm_junk]) (st' := [.ref (X + 49)]) q213 123 1 rfl (sx_gR q213 124 rfl fk_12_109 (fun _ _ => rfl) (hX.s 49 rfl) (hX.r 49 56 rfl) (sx_p (pc' := 210) (lv' := [.ref (X + 49), sm_junk, sm_junk, .int v3, .int v4, .int v5, sm_junk]) (st' := [.int (v3 + (ni 1)), .ref (X + 82)]) q213 125 3 rfl (sx_ia q213 128 rfl (hX.s 82 rfl) (hX.b 82) (sx_ki (sx_S q213 129 rfl lk_12_165 rfl na_168 rfl rfl rfl rfl) (by decide) rfl (fun x0 D2 => (sx_p (pc' := 217) (lv' := [.ref (X + 49), sm_junk, sm_junk, .int v3, .int v4, .int v5, .int x0]) (st' := [.ref (X + 49)]) q213 130 2 rfl (sx_gI q213 132 rfl fk_12_399 rfl (hX.s 49 rfl) (hX.b 49) (sx_p (pc' := 221) (lv' := [.ref (X + 49), sm_junk, sm_junk, .int v3, .int v4, .int v5, .int x0]) (st' := [.int (sm_k (-1)), .int (D2.1 (X + 49) 59)]) q213 133 1 rfl (sx_icmp_eq q213 134 rfl rfl (sx_p (pc' := 239) (lv' := [.ref (X + 49), sm_junk, sm_junk, .int v3, .int v4, .int v5, .int x0]) (st' := [.int (ni 0)]) q213 141 1 rfl (sx_ri (ty := .boolean) q213 142 rfl rfl)) (sx_p (pc' := 228) (lv' := [.ref (X + 49), sm_junk, sm_junk, .int v3, .int v4, .int v5, .int x0]) (st' := [.int (ni 98), .int x0]) q213 135 2 rfl (sx_icmp_eq q213 137 rfl rfl (sx_w (lv := [.ref (X + 49), sm_junk, sm_junk, .int v3, .int v4, .int v5, .int x0]) (lv' := [.ref (X + 49), sm_junk, sm_junk, sm_junk, .int v4, .int v5, .int x0]) (sm_ordl.ord ⟨Or.inr rfl, Or.inl rfl, Or.inl rfl, Or.inl rfl, Or.inr rfl, Or.inr rfl, Or.inr rfl, trivial⟩)) (sx_p (pc' := 235) (lv' := [.ref (X + 49), sm_junk, sm_junk, .int v3, .int v4, .int v5, .int x0]) (st' := [.int (ni 113), .int x0]) q213 138 2 rfl (sx_icmp_eq q213 140 rfl rfl (sx_w (lv := [.ref (X + 49), sm_junk, sm_junk, .int v3, .int v4, .int v5, .int x0]) (lv' := [.ref (X + 49), sm_junk, sm_junk, sm_junk, .int v4, .int v5, .int x0]) (sm_ordl.ord ⟨Or.inr rfl, Or.inl rfl, Or.inl rfl, Or.inl rfl, Or.inr rfl, Or.inr rfl, Or.inr rfl, trivial⟩)) (sx_p (pc' := 239) (lv' := [.ref (X + 49), sm_junk, sm_junk, .int v3, .int v4, .int v5, .int x0]) (st' := [.int (ni 0)]) q213 141 1 rfl (sx_ri (ty := .boolean) q213 142 rfl rfl)))))))))))))))))
set_option maxRecDepth 8000 in
theorem n213_240 {C : sm_K} {X : Nat} {v4 : Int32} {v5 : Int32} {v6 : Int32} (hX : sm_Lay C X) {D : sm_D} : sm_ge (sm_fx C 213 240 [.ref (X + 49), sm_junk, sm_junk, sm_junk, .int v4, .int v5, .int v6] [] D) (
  let D1 := sm_dI D (X + 49) 57 (ni 0)
  if v6 = (ni 98) then
    sm_bi (sm_fe C 216 [.ref (X + 49), .int (v4 + (ni 1)), .int v5] D1) (fun x0 D3 =>
      some (.inl (some (.int (sm_nar .boolean x0))), D3))
  else
    sm_bi (sm_fe C 219 [.ref (X + 49), .int (v4 + (ni 1)), .int v5] D1) (fun x0 D2 =>
      some (.inl (some (.int (sm_nar .boolean x0))), D2))) := 
  (sx_p (pc' := 242) (lv' := [.ref (X + 49), sm_junk, sm_junk, sm_junk, .int v4, .int v5, .int v6]) (st' := [.int (ni 0), .ref (X + 49)]) q213 143 2 rfl (sx_pI q213 145 rfl pk_12_402 rfl (hX.s 49 rfl) (hX.b 49) (sx_p (pc' := 249) (lv' := [.ref (X + 49), sm_junk, sm_junk, sm_junk, .int v4, .int v5, .int v6]) (st' := [.int (ni 98), .int v6]) q213 146 2 rfl (sx_icmp_ne q213 148 rfl rfl (sx_p (pc' := 272) (lv' := [.ref (X + 49), sm_junk, sm_junk, sm_junk, .int v4, .int v5, .int v6]) (st' := [.int v5, .int (v4 + (ni 1)), .ref (X + 49)]) q213 156 5 rfl (sx_ki (sx_V q213 161 rfl lk_12_409 vk_219 na_219 rfl rfl rfl rfl (hX.s 49 rfl)) (by decide) rfl (fun x0 D2 => (sx_ri (ty := .boolean) q213 162 rfl rfl)))) (sx_p (pc' := 259) (lv' := [.ref (X + 49), sm_junk, sm_junk, sm_junk, .int v4, .int v5, .int v6]) (st' := [.int v5, .int (v4 + (ni 1)), .ref (X + 49)]) q213 149 5 rfl (sx_ki (sx_V q213 154 rfl lk_12_405 vk_216 na_216 rfl rfl rfl rfl (hX.s 49 rfl)) (by decide) rfl (fun x0 D3 => (sx_p (pc' := 275) (lv' := [.ref (X + 49), sm_junk, sm_junk, sm_junk, .int v4, .int v5, .int v6]) (st' := [.int x0]) q213 155 1 rfl (sx_ri (ty := .boolean) q213 162 rfl rfl)))))))))
set_option maxRecDepth 8000 in
theorem f213 {C : sm_K} {X : Nat} {v1 : Int32} {v2 : Int32} (hX : sm_Lay C X) {D : sm_D} : sm_ge (sm_fe C 213 [.ref (X + 49), .int v1, .int v2] D) (
  if (ni 75) < (v2 - v1) then
    some (.inl (some (.int (sm_nar .boolean (ni 0)))), D)
  else
    if (v2 - v1) < (ni 9) then
      some (.inl (some (.int (sm_nar .boolean (ni 0)))), D)
    else
      sm_gu (sm_in_b v1 8000) (
      if (D.1 (X + 82) v1.toNatClampNeg) = (ni 61) then
        sm_gu (sm_in_b (v1 + (ni 1)) 8000) (
        if (D.1 (X + 82) (v1 + (ni 1)).toNatClampNeg) = (ni 63) then
          sm_gu (sm_in_b (v2 - (ni 1)) 8000) (
          if (D.1 (X + 82) (v2 - (ni 1)).toNatClampNeg) = (ni 61) then
            sm_gu (sm_in_b (v2 - (ni 2)) 8000) (
            if (D.1 (X + 82) (v2 - (ni 2)).toNatClampNeg) = (ni 63) then
              sm_bi (sm_fe C 214 [.ref (X + 49), .int (v1 + (ni 2)), .int v2] D) (fun x0 D1 =>
                if x0 = (sm_k (-1)) then
                  sm_fx C 213 94 [.ref (X + 49), .int v1, .int v2, .int x0, sm_junk, sm_junk, sm_junk] [.int (sm_k (-1))] D1
                else
                  sm_bi (sm_fe C 214 [.ref (X + 49), .int (x0 + (ni 1)), .int v2] D1) (fun x1 D2 =>
                    sm_fx C 213 94 [.ref (X + 49), .int v1, .int v2, .int x0, sm_junk, sm_junk, sm_junk] [.int x1] D2))
            else
              some (.inl (some (.int (sm_nar .boolean (ni 0)))), D))
          else
            some (.inl (some (.int (sm_nar .boolean (ni 0)))), D))
        else
          some (.inl (some (.int (sm_nar .boolean (ni 0)))), D))
      else
        some (.inl (some (.int (sm_nar .boolean (ni 0)))), D))) := by
  rw [sx_fe (m := 7) rfl rfl]
  exact (show sm_ge (sm_fx C 213 0 [.ref (X + 49), .int v1, .int v2, sm_junk, sm_junk, sm_junk, sm_junk] [] D) _ from (sx_p (pc' := 5) (lv' := [.ref (X + 49), .int v1, .int v2, sm_junk, sm_junk, sm_junk, sm_junk]) (st' := [.int (ni 75), .int (v2 - v1)]) q213 0 4 rfl (sx_icmp_gt q213 4 rfl rfl (sx_p (pc' := 67) (lv' := [.ref (X + 49), .int v1, .int v2, sm_junk, sm_junk, sm_junk, sm_junk]) (st' := [.int (ni 0)]) q213 40 1 rfl (sx_ri (ty := .boolean) q213 41 rfl rfl)) (sx_p (pc' := 13) (lv' := [.ref (X + 49), .int v1, .int v2, sm_junk, sm_junk, sm_junk, sm_junk]) (st' := [.int (ni 9), .int (v2 - v1)]) q213 5 4 rfl (sx_icmp_lt q213 9 rfl rfl (sx_p (pc' := 67) (lv' := [.ref (X + 49), .int v1, .int v2, sm_junk, sm_junk, sm_junk, sm_junk]) (st' := [.int (ni 0)]) q213 40 1 rfl (sx_ri (ty := .boolean) q213 41 rfl rfl)) (sx_p (pc' := 17) (lv' := [.ref (X + 49), .int v1, .int v2, sm_junk, sm_junk, sm_junk, sm_junk]) (st' := [.ref (X + 49)]) q213 10 1 rfl (sx_gR q213 11 rfl fk_12_109 (fun _ _ => rfl) (hX.s 49 rfl) (hX.r 49 56 rfl) (sx_p (pc' := 21) (lv' := [.ref (X + 49), .int v1, .int v2, sm_junk, sm_junk, sm_junk, sm_junk]) (st' := [.int v1, .ref (X + 82)]) q213 12 1 rfl (sx_ia q213 13 rfl (hX.s 82 rfl) (hX.b 82) (sx_p (pc' := 24) (lv' := [.ref (X + 49), .int v1, .int v2, sm_junk, sm_junk, sm_junk, sm_junk]) (st' := [.int (ni 61), .int (D.1 (X + 82) v1.toNatClampNeg)]) q213 14 1 rfl (sx_icmp_ne q213 15 rfl rfl (sx_p (pc' := 67) (lv' := [.ref (X + 49), .int v1, .int v2, sm_junk, sm_junk, sm_junk, sm_junk]) (st' := [.int (ni 0)]) q213 40 1 rfl (sx_ri (ty := .boolean) q213 41 rfl rfl)) (sx_p (pc' := 28) (lv' := [.ref (X + 49), .int v1, .int v2, sm_junk, sm_junk, sm_junk, sm_junk]) (st' := [.ref (X + 49)]) q213 16 1 rfl (sx_gR q213 17 rfl fk_12_109 (fun _ _ => rfl) (hX.s 49 rfl) (hX.r 49 56 rfl) (sx_p (pc' := 34) (lv' := [.ref (X + 49), .int v1, .int v2, sm_junk, sm_junk, sm_junk, sm_junk]) (st' := [.int (v1 + (ni 1)), .ref (X + 82)]) q213 18 3 rfl (sx_ia q213 21 rfl (hX.s 82 rfl) (hX.b 82) (sx_p (pc' := 37) (lv' := [.ref (X + 49), .int v1, .int v2, sm_junk, sm_junk, sm_junk, sm_junk]) (st' := [.int (ni 63), .int (D.1 (X + 82) (v1 + (ni 1)).toNatClampNeg)]) q213 22 1 rfl (sx_icmp_ne q213 23 rfl rfl (sx_p (pc' := 67) (lv' := [.ref (X + 49), .int v1, .int v2, sm_junk, sm_junk, sm_junk, sm_junk]) (st' := [.int (ni 0)]) q213 40 1 rfl (sx_ri (ty := .boolean) q213 41 rfl rfl)) (sx_p (pc' := 41) (lv' := [.ref (X + 49), .int v1, .int v2, sm_junk, sm_junk, sm_junk, sm_junk]) (st' := [.ref (X + 49)]) q213 24 1 rfl (sx_gR q213 25 rfl fk_12_109 (fun _ _ => rfl) (hX.s 49 rfl) (hX.r 49 56 rfl) (sx_p (pc' := 47) (lv' := [.ref (X + 49), .int v1, .int v2, sm_junk, sm_junk, sm_junk, sm_junk]) (st' := [.int (v2 - (ni 1)), .ref (X + 82)]) q213 26 3 rfl (sx_ia q213 29 rfl (hX.s 82 rfl) (hX.b 82) (sx_p (pc' := 50) (lv' := [.ref (X + 49), .int v1, .int v2, sm_junk, sm_junk, sm_junk, sm_junk]) (st' := [.int (ni 61), .int (D.1 (X + 82) (v2 - (ni 1)).toNatClampNeg)]) q213 30 1 rfl (sx_icmp_ne q213 31 rfl rfl (sx_p (pc' := 67) (lv' := [.ref (X + 49), .int v1, .int v2, sm_junk, sm_junk, sm_junk, sm_junk]) (st' := [.int (ni 0)]) q213 40 1 rfl (sx_ri (ty := .boolean) q213 41 rfl rfl)) (sx_p (pc' := 54) (lv' := [.ref (X + 49), .int v1, .int v2, sm_junk, sm_junk, sm_junk, sm_junk]) (st' := [.ref (X + 49)]) q213 32 1 rfl (sx_gR q213 33 rfl fk_12_109 (fun _ _ => rfl) (hX.s 49 rfl) (hX.r 49 56 rfl) (sx_p (pc' := 60) (lv' := [.ref (X + 49), .int v1, .int v2, sm_junk, sm_junk, sm_junk, sm_junk]) (st' := [.int (v2 - (ni 2)), .ref (X + 82)]) q213 34 3 rfl (sx_ia q213 37 rfl (hX.s 82 rfl) (hX.b 82) (sx_p (pc' := 63) (lv' := [.ref (X + 49), .int v1, .int v2, sm_junk, sm_junk, sm_junk, sm_junk]) (st' := [.int (ni 63), .int (D.1 (X + 82) (v2 - (ni 2)).toNatClampNeg)]) q213 38 1 rfl (sx_icmp_eq q213 39 rfl rfl (sx_p (pc' := 73) (lv' := [.ref (X + 49), .int v1, .int v2, sm_junk, sm_junk, sm_junk, sm_junk]) (st' := [.int v2, .int (v1 + (ni 2)), .ref (X + 49)]) q213 42 5 rfl (sx_ki (sx_V q213 47 rfl lk_12_387 vk_214 na_214 rfl rfl rfl rfl (hX.s 49 rfl)) (by decide) rfl (fun x0 D1 => (sx_p (pc' := 79) (lv' := [.ref (X + 49), .int v1, .int v2, .int x0, sm_junk, sm_junk, sm_junk]) (st' := [.int (sm_k (-1)), .int x0]) q213 48 3 rfl (sx_icmp_ne q213 51 rfl rfl (sx_p (pc' := 91) (lv' := [.ref (X + 49), .int v1, .int v2, .int x0, sm_junk, sm_junk, sm_junk]) (st' := [.int v2, .int (x0 + (ni 1)), .ref (X + 49)]) q213 54 5 rfl (sx_ki (sx_V q213 59 rfl lk_12_387 vk_214 na_214 rfl rfl rfl rfl (hX.s 49 rfl)) (by decide) rfl (fun x1 D2 => (sm_ge.refl _)))) (sx_p (pc' := 94) (lv' := [.ref (X + 49), .int v1, .int v2, .int x0, sm_junk, sm_junk, sm_junk]) (st' := [.int (sm_k (-1))]) q213 52 2 rfl (sm_ge.refl _))))))) (sx_p (pc' := 67) (lv' := [.ref (X + 49), .int v1, .int v2, sm_junk, sm_junk, sm_junk, sm_junk]) (st' := [.int (ni 0)]) q213 40 1 rfl (sx_ri (ty := .boolean) q213 41 rfl rfl)))))))))))))))))))))))))))))))
/-! MessageTreeModel.mark -/
theorem q214 : sm_q 214 12 sm_i214 0 := ⟨rfl, rfl, rfl⟩
set_option maxRecDepth 8000 in
theorem n214_2 {C : sm_K} {X : Nat} {v2 : Int32} {v3 : Int32} (hX : sm_Lay C X) {D : sm_D} : sm_ge (sm_fx C 214 2 [.ref (X + 49), sm_junk, .int v2, .int v3] [] D) (
  if v2 ≤ v3 then
    some (.inl (some (.int (sm_k (-1)))), D)
  else
    sm_gu (sm_in_b v3 8000) (
    if (D.1 (X + 82) v3.toNatClampNeg) = (ni 63) then
      some (.inl (some (.int v3)), D)
    else
      sm_fx C 214 2 [.ref (X + 49), sm_junk, .int v2, .int (v3 + ni 1)] [] D)) := 
  (sx_p (pc' := 4) (lv' := [.ref (X + 49), sm_junk, .int v2, .int v3]) (st' := [.int v2, .int v3]) q214 2 2 rfl (sx_icmp_ge q214 4 rfl rfl (sx_p (pc' := 27) (lv' := [.ref (X + 49), sm_junk, .int v2, .int v3]) (st' := [.int (sm_k (-1))]) q214 15 1 rfl (sx_ri (ty := .int) q214 16 rfl rfl)) (sx_p (pc' := 8) (lv' := [.ref (X + 49), sm_junk, .int v2, .int v3]) (st' := [.ref (X + 49)]) q214 5 1 rfl (sx_gR q214 6 rfl fk_12_109 (fun _ _ => rfl) (hX.s 49 rfl) (hX.r 49 56 rfl) (sx_p (pc' := 12) (lv' := [.ref (X + 49), sm_junk, .int v2, .int v3]) (st' := [.int v3, .ref (X + 82)]) q214 7 1 rfl (sx_ia q214 8 rfl (hX.s 82 rfl) (hX.b 82) (sx_p (pc' := 15) (lv' := [.ref (X + 49), sm_junk, .int v2, .int v3]) (st' := [.int (ni 63), .int (D.1 (X + 82) v3.toNatClampNeg)]) q214 9 1 rfl (sx_icmp_ne q214 10 rfl rfl (sx_p (pc' := 2) (lv' := [.ref (X + 49), sm_junk, .int v2, .int (v3 + ni 1)]) (st' := []) q214 13 2 rfl (sm_ge.refl _)) (sx_p (pc' := 19) (lv' := [.ref (X + 49), sm_junk, .int v2, .int v3]) (st' := [.int v3]) q214 11 1 rfl (sx_ri (ty := .int) q214 12 rfl rfl))))))))))
set_option maxRecDepth 8000 in
theorem f214 {C : sm_K} {X : Nat} {v1 : Int32} {v2 : Int32} (hX : sm_Lay C X) {D : sm_D} : sm_ge (sm_fe C 214 [.ref (X + 49), .int v1, .int v2] D) (
  sm_fx C 214 2 [.ref (X + 49), sm_junk, .int v2, .int v1] [] D) := by
  rw [sx_fe (m := 4) rfl rfl]
  exact (show sm_ge (sm_fx C 214 0 [.ref (X + 49), .int v1, .int v2, sm_junk] [] D) _ from (sx_p (pc' := 2) (lv' := [.ref (X + 49), .int v1, .int v2, .int v1]) (st' := []) q214 0 2 rfl (sx_w (lv := [.ref (X + 49), .int v1, .int v2, .int v1]) (lv' := [.ref (X + 49), sm_junk, .int v2, .int v1]) (sm_ordl.ord ⟨Or.inr rfl, Or.inl rfl, Or.inr rfl, Or.inr rfl, trivial⟩))))
/-! MessageTreeModel.isPlain -/
theorem q215 : sm_q 215 12 sm_i215 4 := ⟨rfl, rfl, rfl⟩
set_option maxRecDepth 8000 in
theorem n215_15 {C : sm_K} {X : Nat} {s : Nat} {w : Nat} {nw : Nat} {v1 : Int32} {v2 : Int32} {s0 : Int32} (hX : sm_Lay C X) (hs : sm_sr C s w nw) {D : sm_D} : sm_ge (sm_fx C 215 15 [.ref (X + 49), .int v1, .int v2, .ref s, sm_junk, sm_junk] [.int s0] D) (
  sm_fx C 215 20 [.ref (X + 49), .int v1, .int v2, .ref s, .int s0, .int v1] [] D) := 
  (sx_p (pc' := 20) (lv' := [.ref (X + 49), .int v1, .int v2, .ref s, .int s0, .int v1]) (st' := []) q215 9 3 rfl (sm_ge.refl _))
set_option maxRecDepth 8000 in
theorem n215_20 {C : sm_K} {X : Nat} {s : Nat} {w : Nat} {nw : Nat} {v1 : Int32} {v2 : Int32} {v4 : Int32} {v5 : Int32} (hX : sm_Lay C X) (hs : sm_sr C s w nw) {D : sm_D} : sm_ge (sm_fx C 215 20 [.ref (X + 49), .int v1, .int v2, .ref s, .int v4, .int v5] [] D) (
  if v2 ≤ v5 then
    some (.inl (some (.int (sm_nar .boolean v4))), D)
  else
    if v4 = ni 0 then
      some (.inl (some (.int (sm_nar .boolean v4))), D)
    else
      sm_gu (sm_in_b v5 8000) (
      sm_bi (sm_fe C 168 [.int (D.1 (X + 82) v5.toNatClampNeg)] D) (fun x0 D1 =>
        sm_bi (sm_fe C 262 [.ref s, .int (v5 - v1)] D1) (fun x1 D2 =>
          if x0 = x1 then
            sm_fx C 215 20 [.ref (X + 49), .int v1, .int v2, .ref s, .int (ni 1), .int (v5 + ni 1)] [] D2
          else
            sm_fx C 215 20 [.ref (X + 49), .int v1, .int v2, .ref s, .int (ni 0), .int (v5 + ni 1)] [] D2)))) := 
  (sx_p (pc' := 23) (lv' := [.ref (X + 49), .int v1, .int v2, .ref s, .int v4, .int v5]) (st' := [.int v2, .int v5]) q215 12 2 rfl (sx_icmp_ge q215 14 rfl rfl (sx_p (pc' := 67) (lv' := [.ref (X + 49), .int v1, .int v2, .ref s, .int v4, .int v5]) (st' := [.int v4]) q215 34 1 rfl (sx_ri (ty := .boolean) q215 35 rfl rfl)) (sx_p (pc' := 28) (lv' := [.ref (X + 49), .int v1, .int v2, .ref s, .int v4, .int v5]) (st' := [.int v4]) q215 15 1 rfl (sx_if_eq q215 16 rfl rfl (sx_p (pc' := 67) (lv' := [.ref (X + 49), .int v1, .int v2, .ref s, .int v4, .int v5]) (st' := [.int v4]) q215 34 1 rfl (sx_ri (ty := .boolean) q215 35 rfl rfl)) (sx_p (pc' := 32) (lv' := [.ref (X + 49), .int v1, .int v2, .ref s, .int v4, .int v5]) (st' := [.ref (X + 49)]) q215 17 1 rfl (sx_gR q215 18 rfl fk_12_109 (fun _ _ => rfl) (hX.s 49 rfl) (hX.r 49 56 rfl) (sx_p (pc' := 37) (lv' := [.ref (X + 49), .int v1, .int v2, .ref s, .int v4, .int v5]) (st' := [.int v5, .ref (X + 82)]) q215 19 1 rfl (sx_ia q215 20 rfl (hX.s 82 rfl) (hX.b 82) (sx_ki (sx_S q215 21 rfl lk_12_165 rfl na_168 rfl rfl rfl rfl) (by decide) rfl (fun x0 D1 => (sx_p (pc' := 46) (lv' := [.ref (X + 49), .int v1, .int v2, .ref s, .int v4, .int v5]) (st' := [.int (v5 - v1), .ref s, .int x0]) q215 22 4 rfl (sx_ki (sx_V q215 26 rfl lk_12_168 vk_262 na_262 rfl rfl rfl rfl hs.1) (by decide) rfl (fun x1 D2 => (sx_icmp_ne q215 27 rfl rfl (sx_p (pc' := 20) (lv' := [.ref (X + 49), .int v1, .int v2, .ref s, .int (ni 0), .int (v5 + ni 1)]) (st' := []) q215 30 4 rfl (sm_ge.refl _)) (sx_p (pc' := 57) (lv' := [.ref (X + 49), .int v1, .int v2, .ref s, .int v4, .int v5]) (st' := [.int (ni 1)]) q215 28 2 rfl (sx_p (pc' := 20) (lv' := [.ref (X + 49), .int v1, .int v2, .ref s, .int (ni 1), .int (v5 + ni 1)]) (st' := []) q215 31 3 rfl (sm_ge.refl _)))))))))))))))))
set_option maxRecDepth 8000 in
theorem f215 {C : sm_K} {X : Nat} {v1 : Int32} {v2 : Int32} {s : Nat} {w : Nat} {nw : Nat} (hX : sm_Lay C X) (hs : sm_sr C s w nw) {D : sm_D} : sm_ge (sm_fe C 215 [.ref (X + 49), .int v1, .int v2, .ref s] D) (
  sm_bi (sm_fe C 260 [.ref s] D) (fun x0 D1 =>
    if (v2 - v1) = x0 then
      sm_fx C 215 15 [.ref (X + 49), .int v1, .int v2, .ref s, sm_junk, sm_junk] [.int (ni 1)] D1
    else
      sm_fx C 215 15 [.ref (X + 49), .int v1, .int v2, .ref s, sm_junk, sm_junk] [.int (ni 0)] D1)) := by
  rw [sx_fe (m := 6) rfl rfl]
  exact (show sm_ge (sm_fx C 215 0 [.ref (X + 49), .int v1, .int v2, .ref s, sm_junk, sm_junk] [] D) _ from (sx_p (pc' := 4) (lv' := [.ref (X + 49), .int v1, .int v2, .ref s, sm_junk, sm_junk]) (st' := [.ref s, .int (v2 - v1)]) q215 0 4 rfl (sx_ki (sx_V q215 4 rfl lk_12_159 vk_260 na_260 rfl rfl rfl rfl hs.1) (by decide) rfl (fun x0 D1 => (sx_icmp_ne q215 5 rfl rfl (sx_p (pc' := 15) (lv' := [.ref (X + 49), .int v1, .int v2, .ref s, sm_junk, sm_junk]) (st' := [.int (ni 0)]) q215 8 1 rfl (sm_ge.refl _)) (sx_p (pc' := 15) (lv' := [.ref (X + 49), .int v1, .int v2, .ref s, sm_junk, sm_junk]) (st' := [.int (ni 1)]) q215 6 2 rfl (sm_ge.refl _)))))))
/-! MessageTreeModel.isCodedWord -/
theorem q216 : sm_q 216 12 sm_i216 3 := ⟨rfl, rfl, rfl⟩
set_option maxRecDepth 8000 in
theorem n216_12 {C : sm_K} {X : Nat} {v2 : Int32} {v3 : Int32} (hX : sm_Lay C X) {D : sm_D} : sm_ge (sm_fx C 216 12 [.ref (X + 49), sm_junk, .int v2, .int v3, sm_junk, sm_junk, sm_junk, sm_junk, sm_junk, sm_junk, sm_junk] [] D) (
  if v2 ≤ v3 then
    some (.inl (some (.int (sm_nar .boolean (ni 1)))), D)
  else
    sm_gu (sm_in_b v3 8000) (
    sm_bi (sm_fe C 217 [.int (D.1 (X + 82) v3.toNatClampNeg)] D) (fun x0 D1 =>
      sm_gu (sm_in_b (v3 + (ni 1)) 8000) (
      sm_bi (sm_fe C 217 [.int (D1.1 (X + 82) (v3 + (ni 1)).toNatClampNeg)] D1) (fun x1 D2 =>
        sm_gu (sm_in_b (v3 + (ni 2)) 8000) (
        sm_bi (sm_fe C 217 [.int (D2.1 (X + 82) (v3 + (ni 2)).toNatClampNeg)] D2) (fun x2 D3 =>
          sm_gu (sm_in_b (v3 + (ni 3)) 8000) (
          sm_bi (sm_fe C 217 [.int (D3.1 (X + 82) (v3 + (ni 3)).toNatClampNeg)] D3) (fun x3 D4 =>
            if (v3 + (ni 4)) = v2 then
              sm_fx C 216 79 [.ref (X + 49), sm_junk, .int v2, .int v3, .int x0, .int x1, .int x2, .int x3, sm_junk, sm_junk, sm_junk] [.int (ni 1)] D4
            else
              sm_fx C 216 79 [.ref (X + 49), sm_junk, .int v2, .int v3, .int x0, .int x1, .int x2, .int x3, sm_junk, sm_junk, sm_junk] [.int (ni 0)] D4))))))))) := 
  (sx_p (pc' := 14) (lv' := [.ref (X + 49), sm_junk, .int v2, .int v3, sm_junk, sm_junk, sm_junk, sm_junk, sm_junk, sm_junk, sm_junk]) (st' := [.int v2, .int v3]) q216 10 2 rfl (sx_icmp_ge q216 12 rfl rfl (sx_p (pc' := 278) (lv' := [.ref (X + 49), sm_junk, .int v2, .int v3, sm_junk, sm_junk, sm_junk, sm_junk, sm_junk, sm_junk, sm_junk]) (st' := [.int (ni 1)]) q216 160 1 rfl (sx_ri (ty := .boolean) q216 161 rfl rfl)) (sx_p (pc' := 18) (lv' := [.ref (X + 49), sm_junk, .int v2, .int v3, sm_junk, sm_junk, sm_junk, sm_junk, sm_junk, sm_junk, sm_junk]) (st' := [.ref (X + 49)]) q216 13 1 rfl (sx_gR q216 14 rfl fk_12_109 (fun _ _ => rfl) (hX.s 49 rfl) (hX.r 49 56 rfl) (sx_p (pc' := 22) (lv' := [.ref (X + 49), sm_junk, .int v2, .int v3, sm_junk, sm_junk, sm_junk, sm_junk, sm_junk, sm_junk, sm_junk]) (st' := [.int v3, .ref (X + 82)]) q216 15 1 rfl (sx_ia q216 16 rfl (hX.s 82 rfl) (hX.b 82) (sx_ki (sx_S q216 17 rfl lk_12_412 rfl na_217 rfl rfl rfl rfl) (by decide) rfl (fun x0 D1 => (sx_p (pc' := 29) (lv' := [.ref (X + 49), sm_junk, .int v2, .int v3, .int x0, sm_junk, sm_junk, sm_junk, sm_junk, sm_junk, sm_junk]) (st' := [.ref (X + 49)]) q216 18 2 rfl (sx_gR q216 20 rfl fk_12_109 (fun _ _ => rfl) (hX.s 49 rfl) (hX.r 49 56 rfl) (sx_p (pc' := 35) (lv' := [.ref (X + 49), sm_junk, .int v2, .int v3, .int x0, sm_junk, sm_junk, sm_junk, sm_junk, sm_junk, sm_junk]) (st' := [.int (v3 + (ni 1)), .ref (X + 82)]) q216 21 3 rfl (sx_ia q216 24 rfl (hX.s 82 rfl) (hX.b 82) (sx_ki (sx_S q216 25 rfl lk_12_412 rfl na_217 rfl rfl rfl rfl) (by decide) rfl (fun x1 D2 => (sx_p (pc' := 42) (lv' := [.ref (X + 49), sm_junk, .int v2, .int v3, .int x0, .int x1, sm_junk, sm_junk, sm_junk, sm_junk, sm_junk]) (st' := [.ref (X + 49)]) q216 26 2 rfl (sx_gR q216 28 rfl fk_12_109 (fun _ _ => rfl) (hX.s 49 rfl) (hX.r 49 56 rfl) (sx_p (pc' := 48) (lv' := [.ref (X + 49), sm_junk, .int v2, .int v3, .int x0, .int x1, sm_junk, sm_junk, sm_junk, sm_junk, sm_junk]) (st' := [.int (v3 + (ni 2)), .ref (X + 82)]) q216 29 3 rfl (sx_ia q216 32 rfl (hX.s 82 rfl) (hX.b 82) (sx_ki (sx_S q216 33 rfl lk_12_412 rfl na_217 rfl rfl rfl rfl) (by decide) rfl (fun x2 D3 => (sx_p (pc' := 55) (lv' := [.ref (X + 49), sm_junk, .int v2, .int v3, .int x0, .int x1, .int x2, sm_junk, sm_junk, sm_junk, sm_junk]) (st' := [.ref (X + 49)]) q216 34 2 rfl (sx_gR q216 36 rfl fk_12_109 (fun _ _ => rfl) (hX.s 49 rfl) (hX.r 49 56 rfl) (sx_p (pc' := 61) (lv' := [.ref (X + 49), sm_junk, .int v2, .int v3, .int x0, .int x1, .int x2, sm_junk, sm_junk, sm_junk, sm_junk]) (st' := [.int (v3 + (ni 3)), .ref (X + 82)]) q216 37 3 rfl (sx_ia q216 40 rfl (hX.s 82 rfl) (hX.b 82) (sx_ki (sx_S q216 41 rfl lk_12_412 rfl na_217 rfl rfl rfl rfl) (by decide) rfl (fun x3 D4 => (sx_p (pc' := 71) (lv' := [.ref (X + 49), sm_junk, .int v2, .int v3, .int x0, .int x1, .int x2, .int x3, sm_junk, sm_junk, sm_junk]) (st' := [.int v2, .int (v3 + (ni 4))]) q216 42 5 rfl (sx_icmp_ne q216 47 rfl rfl (sx_p (pc' := 79) (lv' := [.ref (X + 49), sm_junk, .int v2, .int v3, .int x0, .int x1, .int x2, .int x3, sm_junk, sm_junk, sm_junk]) (st' := [.int (ni 0)]) q216 50 1 rfl (sm_ge.refl _)) (sx_p (pc' := 79) (lv' := [.ref (X + 49), sm_junk, .int v2, .int v3, .int x0, .int x1, .int x2, .int x3, sm_junk, sm_junk, sm_junk]) (st' := [.int (ni 1)]) q216 48 2 rfl (sm_ge.refl _))))))))))))))))))))))))))))))
set_option maxRecDepth 8000 in
theorem n216_79 {C : sm_K} {X : Nat} {v2 : Int32} {v3 : Int32} {v4 : Int32} {v5 : Int32} {v6 : Int32} {v7 : Int32} {s0 : Int32} (hX : sm_Lay C X) {D : sm_D} : sm_ge (sm_fx C 216 79 [.ref (X + 49), sm_junk, .int v2, .int v3, .int v4, .int v5, .int v6, .int v7, sm_junk, sm_junk, sm_junk] [.int s0] D) (
  if s0 = ni 0 then
    sm_fx C 216 116 [.ref (X + 49), sm_junk, .int v2, .int v3, .int v4, .int v5, .int v6, .int v7, .int s0, sm_junk, sm_junk] [] D
  else
    sm_gu (sm_in_b (v3 + (ni 2)) 8000) (
    if (D.1 (X + 82) (v3 + (ni 2)).toNatClampNeg) = (ni 61) then
      sm_gu (sm_in_b (v3 + (ni 3)) 8000) (
      if (D.1 (X + 82) (v3 + (ni 3)).toNatClampNeg) = (ni 61) then
        sm_fx C 216 117 [.ref (X + 49), sm_junk, .int v2, .int v3, .int v4, .int v5, .int v6, .int v7, .int s0, sm_junk, sm_junk] [.int (ni 1)] D
      else
        sm_fx C 216 116 [.ref (X + 49), sm_junk, .int v2, .int v3, .int v4, .int v5, .int v6, .int v7, .int s0, sm_junk, sm_junk] [] D)
    else
      sm_fx C 216 116 [.ref (X + 49), sm_junk, .int v2, .int v3, .int v4, .int v5, .int v6, .int v7, .int s0, sm_junk, sm_junk] [] D)) := 
  (sx_p (pc' := 83) (lv' := [.ref (X + 49), sm_junk, .int v2, .int v3, .int v4, .int v5, .int v6, .int v7, .int s0, sm_junk, sm_junk]) (st' := [.int s0]) q216 51 2 rfl (sx_if_eq q216 53 rfl rfl (sm_ge.refl _) (sx_p (pc' := 87) (lv' := [.ref (X + 49), sm_junk, .int v2, .int v3, .int v4, .int v5, .int v6, .int v7, .int s0, sm_junk, sm_junk]) (st' := [.ref (X + 49)]) q216 54 1 rfl (sx_gR q216 55 rfl fk_12_109 (fun _ _ => rfl) (hX.s 49 rfl) (hX.r 49 56 rfl) (sx_p (pc' := 93) (lv' := [.ref (X + 49), sm_junk, .int v2, .int v3, .int v4, .int v5, .int v6, .int v7, .int s0, sm_junk, sm_junk]) (st' := [.int (v3 + (ni 2)), .ref (X + 82)]) q216 56 3 rfl (sx_ia q216 59 rfl (hX.s 82 rfl) (hX.b 82) (sx_p (pc' := 96) (lv' := [.ref (X + 49), sm_junk, .int v2, .int v3, .int v4, .int v5, .int v6, .int v7, .int s0, sm_junk, sm_junk]) (st' := [.int (ni 61), .int (D.1 (X + 82) (v3 + (ni 2)).toNatClampNeg)]) q216 60 1 rfl (sx_icmp_ne q216 61 rfl rfl (sm_ge.refl _) (sx_p (pc' := 100) (lv' := [.ref (X + 49), sm_junk, .int v2, .int v3, .int v4, .int v5, .int v6, .int v7, .int s0, sm_junk, sm_junk]) (st' := [.ref (X + 49)]) q216 62 1 rfl (sx_gR q216 63 rfl fk_12_109 (fun _ _ => rfl) (hX.s 49 rfl) (hX.r 49 56 rfl) (sx_p (pc' := 106) (lv' := [.ref (X + 49), sm_junk, .int v2, .int v3, .int v4, .int v5, .int v6, .int v7, .int s0, sm_junk, sm_junk]) (st' := [.int (v3 + (ni 3)), .ref (X + 82)]) q216 64 3 rfl (sx_ia q216 67 rfl (hX.s 82 rfl) (hX.b 82) (sx_p (pc' := 109) (lv' := [.ref (X + 49), sm_junk, .int v2, .int v3, .int v4, .int v5, .int v6, .int v7, .int s0, sm_junk, sm_junk]) (st' := [.int (ni 61), .int (D.1 (X + 82) (v3 + (ni 3)).toNatClampNeg)]) q216 68 1 rfl (sx_icmp_ne q216 69 rfl rfl (sm_ge.refl _) (sx_p (pc' := 117) (lv' := [.ref (X + 49), sm_junk, .int v2, .int v3, .int v4, .int v5, .int v6, .int v7, .int s0, sm_junk, sm_junk]) (st' := [.int (ni 1)]) q216 70 2 rfl (sm_ge.refl _))))))))))))))))
set_option maxRecDepth 8000 in
theorem n216_116 {C : sm_K} {X : Nat} {v2 : Int32} {v3 : Int32} {v4 : Int32} {v5 : Int32} {v6 : Int32} {v7 : Int32} {v8 : Int32} (hX : sm_Lay C X) {D : sm_D} : sm_ge (sm_fx C 216 116 [.ref (X + 49), sm_junk, .int v2, .int v3, .int v4, .int v5, .int v6, .int v7, .int v8, sm_junk, sm_junk] [] D) (
  sm_fx C 216 117 [.ref (X + 49), sm_junk, .int v2, .int v3, .int v4, .int v5, .int v6, .int v7, .int v8, sm_junk, sm_junk] [.int (ni 0)] D) := 
  (sx_p (pc' := 117) (lv' := [.ref (X + 49), sm_junk, .int v2, .int v3, .int v4, .int v5, .int v6, .int v7, .int v8, sm_junk, sm_junk]) (st' := [.int (ni 0)]) q216 72 1 rfl (sm_ge.refl _))
set_option maxRecDepth 8000 in
theorem n216_117 {C : sm_K} {X : Nat} {v2 : Int32} {v3 : Int32} {v4 : Int32} {v5 : Int32} {v6 : Int32} {v7 : Int32} {v8 : Int32} {s0 : Int32} (hX : sm_Lay C X) {D : sm_D} : sm_ge (sm_fx C 216 117 [.ref (X + 49), sm_junk, .int v2, .int v3, .int v4, .int v5, .int v6, .int v7, .int v8, sm_junk, sm_junk] [.int s0] D) (
  if v8 = ni 0 then
    sm_fx C 216 146 [.ref (X + 49), sm_junk, .int v2, .int v3, .int v4, .int v5, .int v6, .int v7, sm_junk, .int s0, sm_junk] [] D
  else
    sm_gu (sm_in_b (v3 + (ni 3)) 8000) (
    if (D.1 (X + 82) (v3 + (ni 3)).toNatClampNeg) = (ni 61) then
      if s0 = ni 0 then
        sm_fx C 216 147 [.ref (X + 49), sm_junk, .int v2, .int v3, .int v4, .int v5, .int v6, .int v7, sm_junk, .int s0, sm_junk] [.int (ni 1)] D
      else
        sm_fx C 216 146 [.ref (X + 49), sm_junk, .int v2, .int v3, .int v4, .int v5, .int v6, .int v7, sm_junk, .int s0, sm_junk] [] D
    else
      sm_fx C 216 146 [.ref (X + 49), sm_junk, .int v2, .int v3, .int v4, .int v5, .int v6, .int v7, sm_junk, .int s0, sm_junk] [] D)) := 
  (sx_p (pc' := 121) (lv' := [.ref (X + 49), sm_junk, .int v2, .int v3, .int v4, .int v5, .int v6, .int v7, .int v8, .int s0, sm_junk]) (st' := [.int v8]) q216 73 2 rfl (sx_if_eq q216 75 rfl rfl (sx_w (lv := [.ref (X + 49), sm_junk, .int v2, .int v3, .int v4, .int v5, .int v6, .int v7, .int v8, .int s0, sm_junk]) (lv' := [.ref (X + 49), sm_junk, .int v2, .int v3, .int v4, .int v5, .int v6, .int v7, sm_junk, .int s0, sm_junk]) (sm_ordl.ord ⟨Or.inr rfl, Or.inl rfl, Or.inr rfl, Or.inr rfl, Or.inr rfl, Or.inr rfl, Or.inr rfl, Or.inr rfl, Or.inl rfl, Or.inr rfl, Or.inl rfl, trivial⟩)) (sx_p (pc' := 125) (lv' := [.ref (X + 49), sm_junk, .int v2, .int v3, .int v4, .int v5, .int v6, .int v7, .int v8, .int s0, sm_junk]) (st' := [.ref (X + 49)]) q216 76 1 rfl (sx_gR q216 77 rfl fk_12_109 (fun _ _ => rfl) (hX.s 49 rfl) (hX.r 49 56 rfl) (sx_p (pc' := 131) (lv' := [.ref (X + 49), sm_junk, .int v2, .int v3, .int v4, .int v5, .int v6, .int v7, .int v8, .int s0, sm_junk]) (st' := [.int (v3 + (ni 3)), .ref (X + 82)]) q216 78 3 rfl (sx_ia q216 81 rfl (hX.s 82 rfl) (hX.b 82) (sx_p (pc' := 134) (lv' := [.ref (X + 49), sm_junk, .int v2, .int v3, .int v4, .int v5, .int v6, .int v7, .int v8, .int s0, sm_junk]) (st' := [.int (ni 61), .int (D.1 (X + 82) (v3 + (ni 3)).toNatClampNeg)]) q216 82 1 rfl (sx_icmp_ne q216 83 rfl rfl (sx_w (lv := [.ref (X + 49), sm_junk, .int v2, .int v3, .int v4, .int v5, .int v6, .int v7, .int v8, .int s0, sm_junk]) (lv' := [.ref (X + 49), sm_junk, .int v2, .int v3, .int v4, .int v5, .int v6, .int v7, sm_junk, .int s0, sm_junk]) (sm_ordl.ord ⟨Or.inr rfl, Or.inl rfl, Or.inr rfl, Or.inr rfl, Or.inr rfl, Or.inr rfl, Or.inr rfl, Or.inr rfl, Or.inl rfl, Or.inr rfl, Or.inl rfl, trivial⟩)) (sx_p (pc' := 139) (lv' := [.ref (X + 49), sm_junk, .int v2, .int v3, .int v4, .int v5, .int v6, .int v7, .int v8, .int s0, sm_junk]) (st' := [.int s0]) q216 84 1 rfl (sx_if_ne q216 85 rfl rfl (sx_w (lv := [.ref (X + 49), sm_junk, .int v2, .int v3, .int v4, .int v5, .int v6, .int v7, .int v8, .int s0, sm_junk]) (lv' := [.ref (X + 49), sm_junk, .int v2, .int v3, .int v4, .int v5, .int v6, .int v7, sm_junk, .int s0, sm_junk]) (sm_ordl.ord ⟨Or.inr rfl, Or.inl rfl, Or.inr rfl, Or.inr rfl, Or.inr rfl, Or.inr rfl, Or.inr rfl, Or.inr rfl, Or.inl rfl, Or.inr rfl, Or.inl rfl, trivial⟩)) (sx_p (pc' := 147) (lv' := [.ref (X + 49), sm_junk, .int v2, .int v3, .int v4, .int v5, .int v6, .int v7, .int v8, .int s0, sm_junk]) (st' := [.int (ni 1)]) q216 86 2 rfl (sx_w (lv := [.ref (X + 49), sm_junk, .int v2, .int v3, .int v4, .int v5, .int v6, .int v7, .int v8, .int s0, sm_junk]) (lv' := [.ref (X + 49), sm_junk, .int v2, .int v3, .int v4, .int v5, .int v6, .int v7, sm_junk, .int s0, sm_junk]) (sm_ordl.ord ⟨Or.inr rfl, Or.inl rfl, Or.inr rfl, Or.inr rfl, Or.inr rfl, Or.inr rfl, Or.inr rfl, Or.inr rfl, Or.inl rfl, Or.inr rfl, Or.inl rfl, trivial⟩)))))))))))))
set_option maxRecDepth 8000 in
theorem n216_146 {C : sm_K} {X : Nat} {v2 : Int32} {v3 : Int32} {v4 : Int32} {v5 : Int32} {v6 : Int32} {v7 : Int32} {v9 : Int32} (hX : sm_Lay C X) {D : sm_D} : sm_ge (sm_fx C 216 146 [.ref (X + 49), sm_junk, .int v2, .int v3, .int v4, .int v5, .int v6, .int v7, sm_junk, .int v9, sm_junk] [] D) (
  sm_fx C 216 147 [.ref (X + 49), sm_junk, .int v2, .int v3, .int v4, .int v5, .int v6, .int v7, sm_junk, .int v9, sm_junk] [.int (ni 0)] D) := 
  (sx_p (pc' := 147) (lv' := [.ref (X + 49), sm_junk, .int v2, .int v3, .int v4, .int v5, .int v6, .int v7, sm_junk, .int v9, sm_junk]) (st' := [.int (ni 0)]) q216 88 1 rfl (sm_ge.refl _))
set_option maxRecDepth 8000 in
theorem n216_147 {C : sm_K} {X : Nat} {v2 : Int32} {v3 : Int32} {v4 : Int32} {v5 : Int32} {v6 : Int32} {v7 : Int32} {v9 : Int32} {s0 : Int32} (hX : sm_Lay C X) {D : sm_D} : sm_ge (sm_fx C 216 147 [.ref (X + 49), sm_junk, .int v2, .int v3, .int v4, .int v5, .int v6, .int v7, sm_junk, .int v9, sm_junk] [.int s0] D) (
  if v4 = (sm_k (-1)) then
    some (.inl (some (.int (sm_nar .boolean (ni 0)))), D)
  else
    if v5 = (sm_k (-1)) then
      some (.inl (some (.int (sm_nar .boolean (ni 0)))), D)
    else
      if v9 = ni 0 then
        if v6 = (sm_k (-1)) then
          some (.inl (some (.int (sm_nar .boolean (ni 0)))), D)
        else
          sm_fx C 216 172 [.ref (X + 49), sm_junk, .int v2, .int v3, .int v4, .int v5, .int v6, .int v7, sm_junk, .int v9, .int s0] [] D
      else
        sm_fx C 216 172 [.ref (X + 49), sm_junk, .int v2, .int v3, .int v4, .int v5, .int v6, .int v7, sm_junk, .int v9, .int s0] [] D) := 
  (sx_p (pc' := 152) (lv' := [.ref (X + 49), sm_junk, .int v2, .int v3, .int v4, .int v5, .int v6, .int v7, sm_junk, .int v9, .int s0]) (st' := [.int (sm_k (-1)), .int v4]) q216 89 3 rfl (sx_icmp_eq q216 92 rfl rfl (sx_p (pc' := 189) (lv' := [.ref (X + 49), sm_junk, .int v2, .int v3, .int v4, .int v5, .int v6, .int v7, sm_junk, .int v9, .int s0]) (st' := [.int (ni 0)]) q216 108 1 rfl (sx_ri (ty := .boolean) q216 109 rfl rfl)) (sx_p (pc' := 158) (lv' := [.ref (X + 49), sm_junk, .int v2, .int v3, .int v4, .int v5, .int v6, .int v7, sm_junk, .int v9, .int s0]) (st' := [.int (sm_k (-1)), .int v5]) q216 93 2 rfl (sx_icmp_eq q216 95 rfl rfl (sx_p (pc' := 189) (lv' := [.ref (X + 49), sm_junk, .int v2, .int v3, .int v4, .int v5, .int v6, .int v7, sm_junk, .int v9, .int s0]) (st' := [.int (ni 0)]) q216 108 1 rfl (sx_ri (ty := .boolean) q216 109 rfl rfl)) (sx_p (pc' := 163) (lv' := [.ref (X + 49), sm_junk, .int v2, .int v3, .int v4, .int v5, .int v6, .int v7, sm_junk, .int v9, .int s0]) (st' := [.int v9]) q216 96 1 rfl (sx_if_ne q216 97 rfl rfl (sm_ge.refl _) (sx_p (pc' := 169) (lv' := [.ref (X + 49), sm_junk, .int v2, .int v3, .int v4, .int v5, .int v6, .int v7, sm_junk, .int v9, .int s0]) (st' := [.int (sm_k (-1)), .int v6]) q216 98 2 rfl (sx_icmp_eq q216 100 rfl rfl (sx_p (pc' := 189) (lv' := [.ref (X + 49), sm_junk, .int v2, .int v3, .int v4, .int v5, .int v6, .int v7, sm_junk, .int v9, .int s0]) (st' := [.int (ni 0)]) q216 108 1 rfl (sx_ri (ty := .boolean) q216 109 rfl rfl)) (sm_ge.refl _)))))))))
set_option maxRecDepth 8000 in
theorem n216_172 {C : sm_K} {X : Nat} {v2 : Int32} {v3 : Int32} {v4 : Int32} {v5 : Int32} {v6 : Int32} {v7 : Int32} {v9 : Int32} {v10 : Int32} (hX : sm_Lay C X) {D : sm_D} : sm_ge (sm_fx C 216 172 [.ref (X + 49), sm_junk, .int v2, .int v3, .int v4, .int v5, .int v6, .int v7, sm_junk, .int v9, .int v10] [] D) (
  if v9 = ni 0 then
    if v10 = ni 0 then
      if v7 = (sm_k (-1)) then
        some (.inl (some (.int (sm_nar .boolean (ni 0)))), D)
      else
        sm_fx C 216 190 [.ref (X + 49), sm_junk, .int v2, .int v3, .int v4, .int v5, .int v6, .int v7, sm_junk, .int v9, .int v10] [] D
    else
      sm_fx C 216 190 [.ref (X + 49), sm_junk, .int v2, .int v3, .int v4, .int v5, .int v6, .int v7, sm_junk, .int v9, .int v10] [] D
  else
    sm_fx C 216 190 [.ref (X + 49), sm_junk, .int v2, .int v3, .int v4, .int v5, .int v6, .int v7, sm_junk, .int v9, .int v10] [] D) := 
  (sx_p (pc' := 174) (lv' := [.ref (X + 49), sm_junk, .int v2, .int v3, .int v4, .int v5, .int v6, .int v7, sm_junk, .int v9, .int v10]) (st' := [.int v9]) q216 101 1 rfl (sx_if_ne q216 102 rfl rfl (sm_ge.refl _) (sx_p (pc' := 179) (lv' := [.ref (X + 49), sm_junk, .int v2, .int v3, .int v4, .int v5, .int v6, .int v7, sm_junk, .int v9, .int v10]) (st' := [.int v10]) q216 103 1 rfl (sx_if_ne q216 104 rfl rfl (sm_ge.refl _) (sx_p (pc' := 185) (lv' := [.ref (X + 49), sm_junk, .int v2, .int v3, .int v4, .int v5, .int v6, .int v7, sm_junk, .int v9, .int v10]) (st' := [.int (sm_k (-1)), .int v7]) q216 105 2 rfl (sx_icmp_ne q216 107 rfl rfl (sm_ge.refl _) (sx_p (pc' := 189) (lv' := [.ref (X + 49), sm_junk, .int v2, .int v3, .int v4, .int v5, .int v6, .int v7, sm_junk, .int v9, .int v10]) (st' := [.int (ni 0)]) q216 108 1 rfl (sx_ri (ty := .boolean) q216 109 rfl rfl))))))))
set_option maxRecDepth 8000 in
theorem n216_190 {C : sm_K} {X : Nat} {v2 : Int32} {v3 : Int32} {v4 : Int32} {v5 : Int32} {v6 : Int32} {v7 : Int32} {v9 : Int32} {v10 : Int32} (hX : sm_Lay C X) {D : sm_D} : sm_ge (sm_fx C 216 190 [.ref (X + 49), sm_junk, .int v2, .int v3, .int v4, .int v5, .int v6, .int v7, sm_junk, .int v9, .int v10] [] D) (
  if v9 = ni 0 then
    sm_fx C 216 203 [.ref (X + 49), sm_junk, .int v2, .int v3, .int v4, .int v5, .int v6, .int v7, sm_junk, .int v9, .int v10] [] D
  else
    if (v5 &&& (ni 15)) = ni 0 then
      sm_fx C 216 203 [.ref (X + 49), sm_junk, .int v2, .int v3, .int v4, .int v5, .int v6, .int v7, sm_junk, .int v9, .int v10] [] D
    else
      some (.inl (some (.int (sm_nar .boolean (ni 0)))), D)) := 
  (sx_p (pc' := 192) (lv' := [.ref (X + 49), sm_junk, .int v2, .int v3, .int v4, .int v5, .int v6, .int v7, sm_junk, .int v9, .int v10]) (st' := [.int v9]) q216 110 1 rfl (sx_if_eq q216 111 rfl rfl (sm_ge.refl _) (sx_p (pc' := 200) (lv' := [.ref (X + 49), sm_junk, .int v2, .int v3, .int v4, .int v5, .int v6, .int v7, sm_junk, .int v9, .int v10]) (st' := [.int (v5 &&& (ni 15))]) q216 112 3 rfl (sx_if_ne q216 115 rfl rfl (sx_p (pc' := 216) (lv' := [.ref (X + 49), sm_junk, .int v2, .int v3, .int v4, .int v5, .int v6, .int v7, sm_junk, .int v9, .int v10]) (st' := [.int (ni 0)]) q216 122 1 rfl (sx_ri (ty := .boolean) q216 123 rfl rfl)) (sm_ge.refl _)))))
set_option maxRecDepth 8000 in
theorem n216_203 {C : sm_K} {X : Nat} {v2 : Int32} {v3 : Int32} {v4 : Int32} {v5 : Int32} {v6 : Int32} {v7 : Int32} {v9 : Int32} {v10 : Int32} (hX : sm_Lay C X) {D : sm_D} : sm_ge (sm_fx C 216 203 [.ref (X + 49), sm_junk, .int v2, .int v3, .int v4, .int v5, .int v6, .int v7, sm_junk, .int v9, .int v10] [] D) (
  if v10 = ni 0 then
    sm_fx C 216 217 [.ref (X + 49), sm_junk, .int v2, .int v3, .int v4, .int v5, .int v6, .int v7, sm_junk, .int v9, .int v10] [] D
  else
    if (v6 &&& (ni 3)) = ni 0 then
      sm_fx C 216 217 [.ref (X + 49), sm_junk, .int v2, .int v3, .int v4, .int v5, .int v6, .int v7, sm_junk, .int v9, .int v10] [] D
    else
      some (.inl (some (.int (sm_nar .boolean (ni 0)))), D)) := 
  (sx_p (pc' := 205) (lv' := [.ref (X + 49), sm_junk, .int v2, .int v3, .int v4, .int v5, .int v6, .int v7, sm_junk, .int v9, .int v10]) (st' := [.int v10]) q216 116 1 rfl (sx_if_eq q216 117 rfl rfl (sm_ge.refl _) (sx_p (pc' := 212) (lv' := [.ref (X + 49), sm_junk, .int v2, .int v3, .int v4, .int v5, .int v6, .int v7, sm_junk, .int v9, .int v10]) (st' := [.int (v6 &&& (ni 3))]) q216 118 3 rfl (sx_if_eq q216 121 rfl rfl (sm_ge.refl _) (sx_p (pc' := 216) (lv' := [.ref (X + 49), sm_junk, .int v2, .int v3, .int v4, .int v5, .int v6, .int v7, sm_junk, .int v9, .int v10]) (st' := [.int (ni 0)]) q216 122 1 rfl (sx_ri (ty := .boolean) q216 123 rfl rfl))))))
set_option maxRecDepth 8000 in
theorem n216_217 {C : sm_K} {X : Nat} {v2 : Int32} {v3 : Int32} {v4 : Int32} {v5 : Int32} {v6 : Int32} {v7 : Int32} {v9 : Int32} {v10 : Int32} (hX : sm_Lay C X) {D : sm_D} : sm_ge (sm_fx C 216 217 [.ref (X + 49), sm_junk, .int v2, .int v3, .int v4, .int v5, .int v6, .int v7, sm_junk, .int v9, .int v10] [] D) (
  sm_bv (sm_fe C 218 [.ref (X + 49), .int ((v4 <<< ((ni 2) &&& 31)) ||| (v5 >>> ((ni 4) &&& 31)))] D) (fun D1 =>
    if v9 = ni 0 then
      sm_bv (sm_fe C 218 [.ref (X + 49), .int ((v5 <<< ((ni 4) &&& 31)) ||| (v6 >>> ((ni 2) &&& 31)))] D1) (fun D2 =>
        sm_fx C 216 248 [.ref (X + 49), sm_junk, .int v2, .int v3, sm_junk, sm_junk, .int v6, .int v7, sm_junk, .int v9, .int v10] [] D2)
    else
      sm_fx C 216 248 [.ref (X + 49), sm_junk, .int v2, .int v3, sm_junk, sm_junk, .int v6, .int v7, sm_junk, .int v9, .int v10] [] D1)) := 
  (sx_p (pc' := 227) (lv' := [.ref (X + 49), sm_junk, .int v2, .int v3, .int v4, .int v5, .int v6, .int v7, sm_junk, .int v9, .int v10]) (st' := [.int ((v4 <<< ((ni 2) &&& 31)) ||| (v5 >>> ((ni 4) &&& 31))), .ref (X + 49)]) q216 124 8 rfl (sx_kv (sx_V q216 132 rfl lk_12_415 vk_218 na_218 rfl rfl rfl rfl (hX.s 49 rfl)) (by decide) rfl (fun D1 => (sx_p (pc' := 232) (lv' := [.ref (X + 49), sm_junk, .int v2, .int v3, .int v4, .int v5, .int v6, .int v7, sm_junk, .int v9, .int v10]) (st' := [.int v9]) q216 133 1 rfl (sx_if_ne q216 134 rfl rfl (sx_w (lv := [.ref (X + 49), sm_junk, .int v2, .int v3, .int v4, .int v5, .int v6, .int v7, sm_junk, .int v9, .int v10]) (lv' := [.ref (X + 49), sm_junk, .int v2, .int v3, sm_junk, sm_junk, .int v6, .int v7, sm_junk, .int v9, .int v10]) (sm_ordl.ord ⟨Or.inr rfl, Or.inl rfl, Or.inr rfl, Or.inr rfl, Or.inl rfl, Or.inl rfl, Or.inr rfl, Or.inr rfl, Or.inl rfl, Or.inr rfl, Or.inr rfl, trivial⟩)) (sx_p (pc' := 245) (lv' := [.ref (X + 49), sm_junk, .int v2, .int v3, .int v4, .int v5, .int v6, .int v7, sm_junk, .int v9, .int v10]) (st' := [.int ((v5 <<< ((ni 4) &&& 31)) ||| (v6 >>> ((ni 2) &&& 31))), .ref (X + 49)]) q216 135 8 rfl (sx_kv (sx_V q216 143 rfl lk_12_415 vk_218 na_218 rfl rfl rfl rfl (hX.s 49 rfl)) (by decide) rfl (fun D2 => (sx_w (lv := [.ref (X + 49), sm_junk, .int v2, .int v3, .int v4, .int v5, .int v6, .int v7, sm_junk, .int v9, .int v10]) (lv' := [.ref (X + 49), sm_junk, .int v2, .int v3, sm_junk, sm_junk, .int v6, .int v7, sm_junk, .int v9, .int v10]) (sm_ordl.ord ⟨Or.inr rfl, Or.inl rfl, Or.inr rfl, Or.inr rfl, Or.inl rfl, Or.inl rfl, Or.inr rfl, Or.inr rfl, Or.inl rfl, Or.inr rfl, Or.inr rfl, trivial⟩))))))))))
set_option maxRecDepth 8000 in
theorem n216_248 {C : sm_K} {X : Nat} {v2 : Int32} {v3 : Int32} {v6 : Int32} {v7 : Int32} {v9 : Int32} {v10 : Int32} (hX : sm_Lay C X) {D : sm_D} : sm_ge (sm_fx C 216 248 [.ref (X + 49), sm_junk, .int v2, .int v3, sm_junk, sm_junk, .int v6, .int v7, sm_junk, .int v9, .int v10] [] D) (
  if v9 = ni 0 then
    if v10 = ni 0 then
      sm_bv (sm_fe C 218 [.ref (X + 49), .int ((v6 <<< ((ni 6) &&& 31)) ||| v7)] D) (fun D1 =>
        sm_fx C 216 270 [.ref (X + 49), sm_junk, .int v2, .int v3, sm_junk, sm_junk, sm_junk, sm_junk, sm_junk, sm_junk, sm_junk] [] D1)
    else
      sm_fx C 216 270 [.ref (X + 49), sm_junk, .int v2, .int v3, sm_junk, sm_junk, sm_junk, sm_junk, sm_junk, sm_junk, sm_junk] [] D
  else
    sm_fx C 216 270 [.ref (X + 49), sm_junk, .int v2, .int v3, sm_junk, sm_junk, sm_junk, sm_junk, sm_junk, sm_junk, sm_junk] [] D) := 
  (sx_p (pc' := 250) (lv' := [.ref (X + 49), sm_junk, .int v2, .int v3, sm_junk, sm_junk, .int v6, .int v7, sm_junk, .int v9, .int v10]) (st' := [.int v9]) q216 144 1 rfl (sx_if_ne q216 145 rfl rfl (sx_w (lv := [.ref (X + 49), sm_junk, .int v2, .int v3, sm_junk, sm_junk, .int v6, .int v7, sm_junk, .int v9, .int v10]) (lv' := [.ref (X + 49), sm_junk, .int v2, .int v3, sm_junk, sm_junk, sm_junk, sm_junk, sm_junk, sm_junk, sm_junk]) (sm_ordl.ord ⟨Or.inr rfl, Or.inl rfl, Or.inr rfl, Or.inr rfl, Or.inl rfl, Or.inl rfl, Or.inl rfl, Or.inl rfl, Or.inl rfl, Or.inl rfl, Or.inl rfl, trivial⟩)) (sx_p (pc' := 255) (lv' := [.ref (X + 49), sm_junk, .int v2, .int v3, sm_junk, sm_junk, .int v6, .int v7, sm_junk, .int v9, .int v10]) (st' := [.int v10]) q216 146 1 rfl (sx_if_ne q216 147 rfl rfl (sx_w (lv := [.ref (X + 49), sm_junk, .int v2, .int v3, sm_junk, sm_junk, .int v6, .int v7, sm_junk, .int v9, .int v10]) (lv' := [.ref (X + 49), sm_junk, .int v2, .int v3, sm_junk, sm_junk, sm_junk, sm_junk, sm_junk, sm_junk, sm_junk]) (sm_ordl.ord ⟨Or.inr rfl, Or.inl rfl, Or.inr rfl, Or.inr rfl, Or.inl rfl, Or.inl rfl, Or.inl rfl, Or.inl rfl, Or.inl rfl, Or.inl rfl, Or.inl rfl, trivial⟩)) (sx_p (pc' := 267) (lv' := [.ref (X + 49), sm_junk, .int v2, .int v3, sm_junk, sm_junk, .int v6, .int v7, sm_junk, .int v9, .int v10]) (st' := [.int ((v6 <<< ((ni 6) &&& 31)) ||| v7), .ref (X + 49)]) q216 148 6 rfl (sx_kv (sx_V q216 154 rfl lk_12_415 vk_218 na_218 rfl rfl rfl rfl (hX.s 49 rfl)) (by decide) rfl (fun D1 => (sx_w (lv := [.ref (X + 49), sm_junk, .int v2, .int v3, sm_junk, sm_junk, .int v6, .int v7, sm_junk, .int v9, .int v10]) (lv' := [.ref (X + 49), sm_junk, .int v2, .int v3, sm_junk, sm_junk, sm_junk, sm_junk, sm_junk, sm_junk, sm_junk]) (sm_ordl.ord ⟨Or.inr rfl, Or.inl rfl, Or.inr rfl, Or.inr rfl, Or.inl rfl, Or.inl rfl, Or.inl rfl, Or.inl rfl, Or.inl rfl, Or.inl rfl, Or.inl rfl, trivial⟩)))))))))
set_option maxRecDepth 8000 in
theorem n216_270 {C : sm_K} {X : Nat} {v2 : Int32} {v3 : Int32} (hX : sm_Lay C X) {D : sm_D} : sm_ge (sm_fx C 216 270 [.ref (X + 49), sm_junk, .int v2, .int v3, sm_junk, sm_junk, sm_junk, sm_junk, sm_junk, sm_junk, sm_junk] [] D) (
  sm_fx C 216 12 [.ref (X + 49), sm_junk, .int v2, .int (v3 + (ni 4)), sm_junk, sm_junk, sm_junk, sm_junk, sm_junk, sm_junk, sm_junk] [] D) := 
  (sx_p (pc' := 12) (lv' := [.ref (X + 49), sm_junk, .int v2, .int (v3 + (ni 4)), sm_junk, sm_junk, sm_junk, sm_junk, sm_junk, sm_junk, sm_junk]) (st' := []) q216 155 5 rfl (sm_ge.refl _))
set_option maxRecDepth 8000 in
theorem f216 {C : sm_K} {X : Nat} {v1 : Int32} {v2 : Int32} (hX : sm_Lay C X) {D : sm_D} : sm_ge (sm_fe C 216 [.ref (X + 49), .int v1, .int v2] D) (
  if ((v2 - v1) - (v2 - v1) / (ni 4) * (ni 4)) = ni 0 then
    sm_fx C 216 12 [.ref (X + 49), sm_junk, .int v2, .int v1, sm_junk, sm_junk, sm_junk, sm_junk, sm_junk, sm_junk, sm_junk] [] D
  else
    some (.inl (some (.int (sm_nar .boolean (ni 0)))), D)) := by
  rw [sx_fe (m := 11) rfl rfl]
  exact (show sm_ge (sm_fx C 216 0 [.ref (X + 49), .int v1, .int v2, sm_junk, sm_junk, sm_junk, sm_junk, sm_junk, sm_junk, sm_junk, sm_junk] [] D) _ from (sx_p (pc' := 5) (lv' := [.ref (X + 49), .int v1, .int v2, sm_junk, sm_junk, sm_junk, sm_junk, sm_junk, sm_junk, sm_junk, sm_junk]) (st' := [.int ((v2 - v1) - (v2 - v1) / (ni 4) * (ni 4))]) q216 0 5 rfl (sx_if_eq q216 5 rfl rfl (sx_p (pc' := 12) (lv' := [.ref (X + 49), .int v1, .int v2, .int v1, sm_junk, sm_junk, sm_junk, sm_junk, sm_junk, sm_junk, sm_junk]) (st' := []) q216 8 2 rfl (sx_w (lv := [.ref (X + 49), .int v1, .int v2, .int v1, sm_junk, sm_junk, sm_junk, sm_junk, sm_junk, sm_junk, sm_junk]) (lv' := [.ref (X + 49), sm_junk, .int v2, .int v1, sm_junk, sm_junk, sm_junk, sm_junk, sm_junk, sm_junk, sm_junk]) (sm_ordl.ord ⟨Or.inr rfl, Or.inl rfl, Or.inr rfl, Or.inr rfl, Or.inl rfl, Or.inl rfl, Or.inl rfl, Or.inl rfl, Or.inl rfl, Or.inl rfl, Or.inl rfl, trivial⟩))) (sx_p (pc' := 9) (lv' := [.ref (X + 49), .int v1, .int v2, sm_junk, sm_junk, sm_junk, sm_junk, sm_junk, sm_junk, sm_junk, sm_junk]) (st' := [.int (ni 0)]) q216 6 1 rfl (sx_ri (ty := .boolean) q216 7 rfl rfl)))))
/-! MessageTreeModel.six -/
theorem q217 : sm_q 217 12 sm_i217 2 := ⟨rfl, rfl, rfl⟩
set_option maxRecDepth 8000 in
theorem f217 {C : sm_K} {v0 : Int32} {D : sm_D} : sm_ge (sm_fe C 217 [.int v0] D) (
  sm_bi (sm_fe C 157 [.int v0, .int (ni 65), .int (ni 90)] D) (fun x0 D1 =>
    if x0 = ni 0 then
      sm_bi (sm_fe C 157 [.int v0, .int (ni 97), .int (ni 122)] D1) (fun x1 D2 =>
        if x1 = ni 0 then
          sm_bi (sm_fe C 186 [.int v0] D2) (fun x2 D3 =>
            if x2 = ni 0 then
              if v0 = (ni 43) then
                some (.inl (some (.int (ni 62))), D3)
              else
                if v0 = (ni 47) then
                  some (.inl (some (.int (ni 63))), D3)
                else
                  some (.inl (some (.int (sm_k (-1)))), D3)
            else
              some (.inl (some (.int ((v0 - (ni 48)) + (ni 52)))), D3))
        else
          some (.inl (some (.int ((v0 - (ni 97)) + (ni 26)))), D2))
    else
      some (.inl (some (.int (v0 - (ni 65)))), D1))) := by
  rw [sx_fe (m := 1) rfl rfl]
  exact (show sm_ge (sm_fx C 217 0 [.int v0] [] D) _ from (sx_p (pc' := 5) (lv' := [.int v0]) (st' := [.int (ni 90), .int (ni 65), .int v0]) q217 0 3 rfl (sx_ki (sx_S q217 3 rfl lk_12_137 rfl na_157 rfl rfl rfl rfl) (by decide) rfl (fun x0 D1 => (sx_if_eq q217 4 rfl rfl (sx_p (pc' := 23) (lv' := [.int v0]) (st' := [.int (ni 122), .int (ni 97), .int v0]) q217 9 3 rfl (sx_ki (sx_S q217 12 rfl lk_12_137 rfl na_157 rfl rfl rfl rfl) (by decide) rfl (fun x1 D2 => (sx_if_eq q217 13 rfl rfl (sx_p (pc' := 40) (lv' := [.int v0]) (st' := [.int v0]) q217 20 1 rfl (sx_ki (sx_S q217 21 rfl lk_12_229 rfl na_186 rfl rfl rfl rfl) (by decide) rfl (fun x2 D3 => (sx_if_eq q217 22 rfl rfl (sx_p (pc' := 59) (lv' := [.int v0]) (st' := [.int (ni 43), .int v0]) q217 29 2 rfl (sx_icmp_ne q217 31 rfl rfl (sx_p (pc' := 70) (lv' := [.int v0]) (st' := [.int (ni 47), .int v0]) q217 34 2 rfl (sx_icmp_ne q217 36 rfl rfl (sx_p (pc' := 79) (lv' := [.int v0]) (st' := [.int (sm_k (-1))]) q217 39 1 rfl (sx_ri (ty := .int) q217 40 rfl rfl)) (sx_p (pc' := 79) (lv' := [.int v0]) (st' := [.int (ni 63)]) q217 37 2 rfl (sx_ri (ty := .int) q217 40 rfl rfl)))) (sx_p (pc' := 79) (lv' := [.int v0]) (st' := [.int (ni 62)]) q217 32 2 rfl (sx_ri (ty := .int) q217 40 rfl rfl)))) (sx_p (pc' := 79) (lv' := [.int v0]) (st' := [.int ((v0 - (ni 48)) + (ni 52))]) q217 23 6 rfl (sx_ri (ty := .int) q217 40 rfl rfl)))))) (sx_p (pc' := 79) (lv' := [.int v0]) (st' := [.int ((v0 - (ni 97)) + (ni 26))]) q217 14 6 rfl (sx_ri (ty := .int) q217 40 rfl rfl)))))) (sx_p (pc' := 79) (lv' := [.int v0]) (st' := [.int (v0 - (ni 65))]) q217 5 4 rfl (sx_ri (ty := .int) q217 40 rfl rfl)))))))
