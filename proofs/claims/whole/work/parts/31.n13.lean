/-! ===== what methods do from place to place, written by a program (wip/tools/gen_nodes.py) ===== -/
/-! MessageTreeModel.closeUp -/
theorem q247 : sm_q 247 12 sm_i247 6 := ⟨rfl, rfl, rfl⟩
set_option maxRecDepth 8000 in
theorem n247_19 {C : sm_K} {X : Nat} {v2 : Int32} {s0 : Int32} (hX : sm_Lay C X) {D : sm_D} : sm_ge (sm_fx C 247 19 [.ref (X + 49), sm_junk, .int v2, sm_junk] [.int s0] D) (
  sm_fx C 247 20 [.ref (X + 49), sm_junk, .int v2, .int s0] [] D) := 
  (sx_p (pc' := 20) (lv' := [.ref (X + 49), sm_junk, .int v2, .int s0]) (st' := []) q247 11 1 rfl (sm_ge.refl _))
set_option maxRecDepth 8000 in
theorem n247_20 {C : sm_K} {X : Nat} {v2 : Int32} {v3 : Int32} (hX : sm_Lay C X) {D : sm_D} : sm_ge (sm_fx C 247 20 [.ref (X + 49), sm_junk, .int v2, .int v3] [] D) (
  if v3 = v2 then
    some (.inl none, D)
  else
    if v3 = (sm_k (-1)) then
      some (.inl none, D)
    else
      sm_bv (sm_fe C 248 [.ref (X + 49), .int v3] D) (fun D1 =>
        sm_bv (sm_fe C 249 [.ref (X + 49), .ref (C.1.1 70)] D1) (fun D2 =>
          if v3 ≤ ni 0 then
            sm_fx C 247 50 [.ref (X + 49), sm_junk, .int v2, .int v3] [] D2
          else
            sm_bv (sm_fe C 252 [.ref (X + 49)] D2) (fun D3 =>
              sm_fx C 247 50 [.ref (X + 49), sm_junk, .int v2, .int v3] [] D3)))) := 
  (sx_p (pc' := 22) (lv' := [.ref (X + 49), sm_junk, .int v2, .int v3]) (st' := [.int v2, .int v3]) q247 12 2 rfl (sx_icmp_eq q247 14 rfl rfl (sx_rv q247 34 rfl rfl) (sx_p (pc' := 27) (lv' := [.ref (X + 49), sm_junk, .int v2, .int v3]) (st' := [.int (sm_k (-1)), .int v3]) q247 15 2 rfl (sx_icmp_eq q247 17 rfl rfl (sx_rv q247 34 rfl rfl) (sx_p (pc' := 32) (lv' := [.ref (X + 49), sm_junk, .int v2, .int v3]) (st' := [.int v3, .ref (X + 49)]) q247 18 2 rfl (sx_kv (sx_V q247 20 rfl lk_12_574 vk_248 na_248 rfl rfl rfl rfl (hX.s 49 rfl)) (by decide) rfl (fun D1 => (sx_p (pc' := 36) (lv' := [.ref (X + 49), sm_junk, .int v2, .int v3]) (st' := [.ref (X + 49)]) q247 21 1 rfl (sx_cs q247 22 rfl (Or.inr ⟨rfl, rfl⟩) cs_12_583 (sx_kv (sx_V q247 23 rfl lk_12_543 vk_249 na_249 rfl rfl rfl rfl (hX.s 49 rfl)) (by decide) rfl (fun D2 => (sx_p (pc' := 43) (lv' := [.ref (X + 49), sm_junk, .int v2, .int v3]) (st' := [.int v3]) q247 24 1 rfl (sx_if_le q247 25 rfl rfl (sm_ge.refl _) (sx_p (pc' := 47) (lv' := [.ref (X + 49), sm_junk, .int v2, .int v3]) (st' := [.ref (X + 49)]) q247 26 1 rfl (sx_kv (sx_V q247 27 rfl lk_12_546 vk_252 na_252 rfl rfl rfl rfl (hX.s 49 rfl)) (by decide) rfl (fun D3 => (sm_ge.refl _)))))))))))))))))
set_option maxRecDepth 8000 in
theorem n247_50 {C : sm_K} {X : Nat} {v2 : Int32} {v3 : Int32} (hX : sm_Lay C X) {D : sm_D} : sm_ge (sm_fx C 247 50 [.ref (X + 49), sm_junk, .int v2, .int v3] [] D) (
  sm_gu (sm_in_b v3 40) (
  sm_fx C 247 20 [.ref (X + 49), sm_junk, .int v2, .int (D.1 (X + 53) v3.toNatClampNeg)] [] D)) := 
  (sx_p (pc' := 51) (lv' := [.ref (X + 49), sm_junk, .int v2, .int v3]) (st' := [.ref (X + 49)]) q247 28 1 rfl (sx_gR q247 29 rfl fk_12_19 (fun _ _ => rfl) (hX.s 49 rfl) (hX.r 49 10 rfl) (sx_p (pc' := 55) (lv' := [.ref (X + 49), sm_junk, .int v2, .int v3]) (st' := [.int v3, .ref (X + 53)]) q247 30 1 rfl (sx_ia q247 31 rfl (hX.s 53 rfl) (hX.b 53) (sx_p (pc' := 20) (lv' := [.ref (X + 49), sm_junk, .int v2, .int (D.1 (X + 53) v3.toNatClampNeg)]) (st' := []) q247 32 2 rfl (sm_ge.refl _))))))
set_option maxRecDepth 8000 in
theorem f247 {C : sm_K} {X : Nat} {v1 : Int32} {v2 : Int32} (hX : sm_Lay C X) {D : sm_D} : sm_ge (sm_fe C 247 [.ref (X + 49), .int v1, .int v2] D) (
  sm_gu (sm_in_b v1 40) (
  if (D.1 (X + 56) v1.toNatClampNeg) = ni 0 then
    sm_gu (sm_in_b v1 40) (
    sm_fx C 247 19 [.ref (X + 49), sm_junk, .int v2, sm_junk] [.int (D.1 (X + 53) v1.toNatClampNeg)] D)
  else
    sm_fx C 247 19 [.ref (X + 49), sm_junk, .int v2, sm_junk] [.int v1] D)) := by
  rw [sx_fe (m := 4) rfl rfl]
  exact (show sm_ge (sm_fx C 247 0 [.ref (X + 49), .int v1, .int v2, sm_junk] [] D) _ from (sx_p (pc' := 1) (lv' := [.ref (X + 49), .int v1, .int v2, sm_junk]) (st' := [.ref (X + 49)]) q247 0 1 rfl (sx_gR q247 1 rfl fk_12_29 (fun _ _ => rfl) (hX.s 49 rfl) (hX.r 49 13 rfl) (sx_p (pc' := 5) (lv' := [.ref (X + 49), .int v1, .int v2, sm_junk]) (st' := [.int v1, .ref (X + 56)]) q247 2 1 rfl (sx_ba q247 3 rfl (hX.s 56 rfl) (by simp) (hX.b 56) (sx_if_eq q247 4 rfl rfl (sx_p (pc' := 14) (lv' := [.ref (X + 49), .int v1, .int v2, sm_junk]) (st' := [.ref (X + 49)]) q247 7 1 rfl (sx_gR q247 8 rfl fk_12_19 (fun _ _ => rfl) (hX.s 49 rfl) (hX.r 49 10 rfl) (sx_p (pc' := 18) (lv' := [.ref (X + 49), .int v1, .int v2, sm_junk]) (st' := [.int v1, .ref (X + 53)]) q247 9 1 rfl (sx_ia q247 10 rfl (hX.s 53 rfl) (hX.b 53) (sx_w (lv := [.ref (X + 49), .int v1, .int v2, sm_junk]) (lv' := [.ref (X + 49), sm_junk, .int v2, sm_junk]) (sm_ordl.ord ⟨Or.inr rfl, Or.inl rfl, Or.inr rfl, Or.inl rfl, trivial⟩)))))) (sx_p (pc' := 19) (lv' := [.ref (X + 49), .int v1, .int v2, sm_junk]) (st' := [.int v1]) q247 5 2 rfl (sx_w (lv := [.ref (X + 49), .int v1, .int v2, sm_junk]) (lv' := [.ref (X + 49), sm_junk, .int v2, sm_junk]) (sm_ordl.ord ⟨Or.inr rfl, Or.inl rfl, Or.inr rfl, Or.inl rfl, trivial⟩)))))))))
/-! MessageTreeModel.putBoundary -/
theorem q248 : sm_q 248 12 sm_i248 5 := ⟨rfl, rfl, rfl⟩
set_option maxRecDepth 8000 in
theorem f248 {C : sm_K} {X : Nat} {v1 : Int32} (hX : sm_Lay C X) {D : sm_D} : sm_ge (sm_fe C 248 [.ref (X + 49), .int v1] D) (
  sm_bv (sm_fe C 249 [.ref (X + 49), .ref (C.1.1 69)] D) (fun D1 =>
    sm_bv (sm_fe C 251 [.ref (X + 49), .int v1] D1) (fun D2 =>
      some (.inl none, D2)))) := by
  rw [sx_fe (m := 2) rfl rfl]
  exact (show sm_ge (sm_fx C 248 0 [.ref (X + 49), .int v1] [] D) _ from (sx_p (pc' := 1) (lv' := [.ref (X + 49), .int v1]) (st' := [.ref (X + 49)]) q248 0 1 rfl (sx_cs q248 1 rfl (Or.inr ⟨rfl, rfl⟩) cs_12_569 (sx_kv (sx_V q248 2 rfl lk_12_543 vk_249 na_249 rfl rfl rfl rfl (hX.s 49 rfl)) (by decide) rfl (fun D1 => (sx_p (pc' := 9) (lv' := [.ref (X + 49), .int v1]) (st' := [.int v1, .ref (X + 49)]) q248 3 2 rfl (sx_kv (sx_V q248 5 rfl lk_12_561 vk_251 na_251 rfl rfl rfl rfl (hX.s 49 rfl)) (by decide) rfl (fun D2 => (sx_rv q248 6 rfl rfl)))))))))
/-! MessageTreeModel.putWord -/
theorem q249 : sm_q 249 12 sm_i249 4 := ⟨rfl, rfl, rfl⟩
set_option maxRecDepth 8000 in
theorem n249_2 {C : sm_K} {X : Nat} {s : Nat} {w : Nat} {nw : Nat} {v2 : Int32} (hX : sm_Lay C X) (hs : sm_sr C s w nw) {D : sm_D} : sm_ge (sm_fx C 249 2 [.ref (X + 49), .ref s, .int v2] [] D) (
  sm_bi (sm_fe C 260 [.ref s] D) (fun x0 D1 =>
    if x0 ≤ v2 then
      some (.inl none, D1)
    else
      sm_bi (sm_fe C 262 [.ref s, .int v2] D1) (fun x1 D2 =>
        sm_bv (sm_fe C 250 [.ref (X + 49), .int x1] D2) (fun D3 =>
          sm_fx C 249 2 [.ref (X + 49), .ref s, .int (v2 + ni 1)] [] D3)))) := 
  (sx_p (pc' := 4) (lv' := [.ref (X + 49), .ref s, .int v2]) (st' := [.ref s, .int v2]) q249 2 2 rfl (sx_ki (sx_V q249 4 rfl lk_12_159 vk_260 na_260 rfl rfl rfl rfl hs.1) (by decide) rfl (fun x0 D1 => (sx_icmp_ge q249 5 rfl rfl (sx_rv q249 13 rfl rfl) (sx_p (pc' := 13) (lv' := [.ref (X + 49), .ref s, .int v2]) (st' := [.int v2, .ref s, .ref (X + 49)]) q249 6 3 rfl (sx_ki (sx_V q249 9 rfl lk_12_168 vk_262 na_262 rfl rfl rfl rfl hs.1) (by decide) rfl (fun x1 D2 => (sx_kv (sx_V q249 10 rfl lk_12_538 vk_250 na_250 rfl rfl rfl rfl (hX.s 49 rfl)) (by decide) rfl (fun D3 => (sx_p (pc' := 2) (lv' := [.ref (X + 49), .ref s, .int (v2 + ni 1)]) (st' := []) q249 11 2 rfl (sm_ge.refl _)))))))))))
set_option maxRecDepth 8000 in
theorem f249 {C : sm_K} {X : Nat} {s : Nat} {w : Nat} {nw : Nat} (hX : sm_Lay C X) (hs : sm_sr C s w nw) {D : sm_D} : sm_ge (sm_fe C 249 [.ref (X + 49), .ref s] D) (
  sm_fx C 249 2 [.ref (X + 49), .ref s, .int (ni 0)] [] D) := by
  rw [sx_fe (m := 3) rfl rfl]
  exact (show sm_ge (sm_fx C 249 0 [.ref (X + 49), .ref s, sm_junk] [] D) _ from (sx_p (pc' := 2) (lv' := [.ref (X + 49), .ref s, .int (ni 0)]) (st' := []) q249 0 2 rfl (sm_ge.refl _)))
/-! MessageTreeModel.put -/
theorem q250 : sm_q 250 12 sm_i250 0 := ⟨rfl, rfl, rfl⟩
set_option maxRecDepth 8000 in
theorem f250 {C : sm_K} {X : Nat} {v1 : Int32} (hX : sm_Lay C X) {D : sm_D} : sm_ge (sm_fe C 250 [.ref (X + 49), .int v1] D) (
  sm_gu (sm_in_b (D.1 (X + 49) 43) 60000) (
  let D1 := sm_dI D (X + 80) ((D.1 (X + 49) 43).toNatClampNeg) (sm_nar .byte (v1.toInt8.toInt32))
  let D2 := sm_dI D1 (X + 49) 43 ((D1.1 (X + 49) 43) + (ni 1))
  some (.inl none, D2))) := by
  rw [sx_fe (m := 2) rfl rfl]
  exact (show sm_ge (sm_fx C 250 0 [.ref (X + 49), .int v1] [] D) _ from (sx_p (pc' := 1) (lv' := [.ref (X + 49), .int v1]) (st' := [.ref (X + 49)]) q250 0 1 rfl (sx_gR q250 1 rfl fk_12_103 (fun _ _ => rfl) (hX.s 49 rfl) (hX.r 49 44 rfl) (sx_p (pc' := 5) (lv' := [.ref (X + 49), .int v1]) (st' := [.ref (X + 49), .ref (X + 80)]) q250 2 1 rfl (sx_gI q250 3 rfl fk_12_535 rfl (hX.s 49 rfl) (hX.b 49) (sx_p (pc' := 10) (lv' := [.ref (X + 49), .int v1]) (st' := [.int (v1.toInt8.toInt32), .int (D.1 (X + 49) 43), .ref (X + 80)]) q250 4 2 rfl (sx_bs q250 6 rfl (hX.s 80 rfl) (by simp) (hX.b 80) (sx_p (pc' := 13) (lv' := [.ref (X + 49), .int v1]) (st' := [.ref (X + 49), .ref (X + 49)]) q250 7 2 rfl (sx_gI q250 9 rfl fk_12_535 rfl (hX.s 49 rfl) (hX.b 49) (sx_p (pc' := 18) (lv' := [.ref (X + 49), .int v1]) (st' := [.int (((sm_dI D (X + 80) ((D.1 (X + 49) 43).toNatClampNeg) (sm_nar .byte (v1.toInt8.toInt32))).1 (X + 49) 43) + (ni 1)), .ref (X + 49)]) q250 10 2 rfl (sx_pI q250 12 rfl pk_12_535 rfl (hX.s 49 rfl) (hX.b 49) (sx_rv q250 13 rfl rfl))))))))))))
/-! MessageTreeModel.putNumber -/
theorem q251 : sm_q 251 12 sm_i251 1 := ⟨rfl, rfl, rfl⟩
set_option maxRecDepth 8000 in
theorem n251_17 {C : sm_K} {X : Nat} {v1 : Int32} (hX : sm_Lay C X) {D : sm_D} : sm_ge (sm_fx C 251 17 [.ref (X + 49), .int v1] [] D) (
  sm_bv (sm_fe C 250 [.ref (X + 49), .int ((ni 48) + (v1 - v1 / (ni 10) * (ni 10)))] D) (fun D1 =>
    some (.inl none, D1))) := 
  (sx_p (pc' := 25) (lv' := [.ref (X + 49), .int v1]) (st' := [.int ((ni 48) + (v1 - v1 / (ni 10) * (ni 10))), .ref (X + 49)]) q251 10 6 rfl (sx_kv (sx_V q251 16 rfl lk_12_538 vk_250 na_250 rfl rfl rfl rfl (hX.s 49 rfl)) (by decide) rfl (fun D1 => (sx_rv q251 17 rfl rfl))))
set_option maxRecDepth 8000 in
theorem f251 {C : sm_K} {X : Nat} {v1 : Int32} (hX : sm_Lay C X) {D : sm_D} : sm_ge (sm_fe C 251 [.ref (X + 49), .int v1] D) (
  if v1 ≤ (ni 9) then
    sm_fx C 251 17 [.ref (X + 49), .int v1] [] D
  else
    sm_bv (sm_fe C 250 [.ref (X + 49), .int ((ni 48) + (v1 / (ni 10)))] D) (fun D1 =>
      sm_fx C 251 17 [.ref (X + 49), .int v1] [] D1)) := by
  rw [sx_fe (m := 2) rfl rfl]
  exact (show sm_ge (sm_fx C 251 0 [.ref (X + 49), .int v1] [] D) _ from (sx_p (pc' := 3) (lv' := [.ref (X + 49), .int v1]) (st' := [.int (ni 9), .int v1]) q251 0 2 rfl (sx_icmp_le q251 2 rfl rfl (sm_ge.refl _) (sx_p (pc' := 14) (lv' := [.ref (X + 49), .int v1]) (st' := [.int ((ni 48) + (v1 / (ni 10))), .ref (X + 49)]) q251 3 6 rfl (sx_kv (sx_V q251 9 rfl lk_12_538 vk_250 na_250 rfl rfl rfl rfl (hX.s 49 rfl)) (by decide) rfl (fun D1 => (sm_ge.refl _)))))))
/-! MessageTreeModel.lineEnd -/
theorem q252 : sm_q 252 12 sm_i252 1 := ⟨rfl, rfl, rfl⟩
set_option maxRecDepth 8000 in
theorem f252 {C : sm_K} {X : Nat} (hX : sm_Lay C X) {D : sm_D} : sm_ge (sm_fe C 252 [.ref (X + 49)] D) (
  sm_bv (sm_fe C 250 [.ref (X + 49), .int (ni 13)] D) (fun D1 =>
    sm_bv (sm_fe C 250 [.ref (X + 49), .int (ni 10)] D1) (fun D2 =>
      some (.inl none, D2)))) := by
  rw [sx_fe (m := 1) rfl rfl]
  exact (show sm_ge (sm_fx C 252 0 [.ref (X + 49)] [] D) _ from (sx_p (pc' := 3) (lv' := [.ref (X + 49)]) (st' := [.int (ni 13), .ref (X + 49)]) q252 0 2 rfl (sx_kv (sx_V q252 2 rfl lk_12_538 vk_250 na_250 rfl rfl rfl rfl (hX.s 49 rfl)) (by decide) rfl (fun D1 => (sx_p (pc' := 9) (lv' := [.ref (X + 49)]) (st' := [.int (ni 10), .ref (X + 49)]) q252 3 2 rfl (sx_kv (sx_V q252 5 rfl lk_12_538 vk_250 na_250 rfl rfl rfl rfl (hX.s 49 rfl)) (by decide) rfl (fun D2 => (sx_rv q252 6 rfl rfl))))))))
/-! MessageTreeModel.writeHead -/
theorem q253 : sm_q 253 12 sm_i253 6 := ⟨rfl, rfl, rfl⟩
set_option maxRecDepth 8000 in
theorem n253_7 {C : sm_K} {X : Nat} {v1 : Int32} {v2 : Int32} (hX : sm_Lay C X) {D : sm_D} : sm_ge (sm_fx C 253 7 [.ref (X + 49), .int v1, .int v2, sm_junk, sm_junk, sm_junk] [] D) (
  sm_gu (sm_in_b v1 40) (
  sm_gu (sm_in_b v1 40) (
  if ((D.1 (X + 54) v1.toNatClampNeg) + (D.1 (X + 55) v1.toNatClampNeg)) ≤ v2 then
    sm_bv (sm_fe C 249 [.ref (X + 49), .ref (C.1.1 65)] D) (fun D1 =>
      sm_gu (sm_in_b ((ni 2) * v1) 80) (
      sm_gu (sm_in_b ((ni 2) * v1) 80) (
      sm_bv (sm_fe C 255 [.ref (X + 49), .int (D1.1 (X + 64) ((ni 2) * v1).toNatClampNeg), .int (D1.1 (X + 65) ((ni 2) * v1).toNatClampNeg)] D1) (fun D2 =>
        sm_bv (sm_fe C 250 [.ref (X + 49), .int (ni 47)] D2) (fun D3 =>
          sm_gu (sm_in_b (((ni 2) * v1) + (ni 1)) 80) (
          sm_gu (sm_in_b (((ni 2) * v1) + (ni 1)) 80) (
          sm_bv (sm_fe C 255 [.ref (X + 49), .int (D3.1 (X + 64) (((ni 2) * v1) + (ni 1)).toNatClampNeg), .int (D3.1 (X + 65) (((ni 2) * v1) + (ni 1)).toNatClampNeg)] D3) (fun D4 =>
            sm_gu (sm_in_b v1 40) (
            if (D4.1 (X + 56) v1.toNatClampNeg) = ni 0 then
              sm_fx C 253 130 [.ref (X + 49), .int v1, sm_junk, sm_junk, sm_junk, sm_junk] [.int (sm_k (-1))] D4
            else
              sm_bi (sm_fe C 193 [.ref (X + 49), .int v1] D4) (fun x0 D5 =>
                sm_fx C 253 130 [.ref (X + 49), .int v1, sm_junk, sm_junk, sm_junk, sm_junk] [.int x0] D5))))))))))
  else
    sm_gu (sm_in_b v2 200) (
    if (D.1 (X + 70) v2.toNatClampNeg) = (ni 1) then
      sm_fx C 253 7 [.ref (X + 49), .int v1, .int (v2 + ni 1), sm_junk, sm_junk, sm_junk] [] D
    else
      sm_gu (sm_in_b v2 200) (
      if (D.1 (X + 70) v2.toNatClampNeg) = (ni 2) then
        sm_fx C 253 7 [.ref (X + 49), .int v1, .int (v2 + ni 1), sm_junk, sm_junk, sm_junk] [] D
      else
        sm_bv (sm_fe C 254 [.ref (X + 49), .int v2] D) (fun D6 =>
          sm_fx C 253 7 [.ref (X + 49), .int v1, .int (v2 + ni 1), sm_junk, sm_junk, sm_junk] [] D6)))))) := 
  (sx_p (pc' := 9) (lv' := [.ref (X + 49), .int v1, .int v2, sm_junk, sm_junk, sm_junk]) (st' := [.ref (X + 49), .int v2]) q253 5 2 rfl (sx_gR q253 7 rfl fk_12_23 (fun _ _ => rfl) (hX.s 49 rfl) (hX.r 49 11 rfl) (sx_p (pc' := 13) (lv' := [.ref (X + 49), .int v1, .int v2, sm_junk, sm_junk, sm_junk]) (st' := [.int v1, .ref (X + 54), .int v2]) q253 8 1 rfl (sx_ia q253 9 rfl (hX.s 54 rfl) (hX.b 54) (sx_p (pc' := 15) (lv' := [.ref (X + 49), .int v1, .int v2, sm_junk, sm_junk, sm_junk]) (st' := [.ref (X + 49), .int (D.1 (X + 54) v1.toNatClampNeg), .int v2]) q253 10 1 rfl (sx_gR q253 11 rfl fk_12_26 (fun _ _ => rfl) (hX.s 49 rfl) (hX.r 49 12 rfl) (sx_p (pc' := 19) (lv' := [.ref (X + 49), .int v1, .int v2, sm_junk, sm_junk, sm_junk]) (st' := [.int v1, .ref (X + 55), .int (D.1 (X + 54) v1.toNatClampNeg), .int v2]) q253 12 1 rfl (sx_ia q253 13 rfl (hX.s 55 rfl) (hX.b 55) (sx_p (pc' := 21) (lv' := [.ref (X + 49), .int v1, .int v2, sm_junk, sm_junk, sm_junk]) (st' := [.int ((D.1 (X + 54) v1.toNatClampNeg) + (D.1 (X + 55) v1.toNatClampNeg)), .int v2]) q253 14 1 rfl (sx_icmp_ge q253 15 rfl rfl (sx_p (pc' := 56) (lv' := [.ref (X + 49), .int v1, .int v2, sm_junk, sm_junk, sm_junk]) (st' := [.ref (X + 49)]) q253 33 1 rfl (sx_cs q253 34 rfl (Or.inr ⟨rfl, rfl⟩) cs_12_552 (sx_kv (sx_V q253 35 rfl lk_12_543 vk_249 na_249 rfl rfl rfl rfl (hX.s 49 rfl)) (by decide) rfl (fun D1 => (sx_p (pc' := 64) (lv' := [.ref (X + 49), .int v1, .int v2, sm_junk, sm_junk, sm_junk]) (st' := [.ref (X + 49), .ref (X + 49)]) q253 36 2 rfl (sx_gR q253 38 rfl fk_12_54 (fun _ _ => rfl) (hX.s 49 rfl) (hX.r 49 22 rfl) (sx_p (pc' := 70) (lv' := [.ref (X + 49), .int v1, .int v2, sm_junk, sm_junk, sm_junk]) (st' := [.int ((ni 2) * v1), .ref (X + 64), .ref (X + 49)]) q253 39 3 rfl (sx_ia q253 42 rfl (hX.s 64 rfl) (hX.b 64) (sx_p (pc' := 72) (lv' := [.ref (X + 49), .int v1, .int v2, sm_junk, sm_junk, sm_junk]) (st' := [.ref (X + 49), .int (D1.1 (X + 64) ((ni 2) * v1).toNatClampNeg), .ref (X + 49)]) q253 43 1 rfl (sx_gR q253 44 rfl fk_12_57 (fun _ _ => rfl) (hX.s 49 rfl) (hX.r 49 23 rfl) (sx_p (pc' := 78) (lv' := [.ref (X + 49), .int v1, .int v2, sm_junk, sm_junk, sm_junk]) (st' := [.int ((ni 2) * v1), .ref (X + 65), .int (D1.1 (X + 64) ((ni 2) * v1).toNatClampNeg), .ref (X + 49)]) q253 45 3 rfl (sx_ia q253 48 rfl (hX.s 65 rfl) (hX.b 65) (sx_kv (sx_V q253 49 rfl lk_12_554 vk_255 na_255 rfl rfl rfl rfl (hX.s 49 rfl)) (by decide) rfl (fun D2 => (sx_p (pc' := 85) (lv' := [.ref (X + 49), .int v1, .int v2, sm_junk, sm_junk, sm_junk]) (st' := [.int (ni 47), .ref (X + 49)]) q253 50 2 rfl (sx_kv (sx_V q253 52 rfl lk_12_538 vk_250 na_250 rfl rfl rfl rfl (hX.s 49 rfl)) (by decide) rfl (fun D3 => (sx_p (pc' := 90) (lv' := [.ref (X + 49), .int v1, .int v2, sm_junk, sm_junk, sm_junk]) (st' := [.ref (X + 49), .ref (X + 49)]) q253 53 2 rfl (sx_gR q253 55 rfl fk_12_54 (fun _ _ => rfl) (hX.s 49 rfl) (hX.r 49 22 rfl) (sx_p (pc' := 98) (lv' := [.ref (X + 49), .int v1, .int v2, sm_junk, sm_junk, sm_junk]) (st' := [.int (((ni 2) * v1) + (ni 1)), .ref (X + 64), .ref (X + 49)]) q253 56 5 rfl (sx_ia q253 61 rfl (hX.s 64 rfl) (hX.b 64) (sx_p (pc' := 100) (lv' := [.ref (X + 49), .int v1, .int v2, sm_junk, sm_junk, sm_junk]) (st' := [.ref (X + 49), .int (D3.1 (X + 64) (((ni 2) * v1) + (ni 1)).toNatClampNeg), .ref (X + 49)]) q253 62 1 rfl (sx_gR q253 63 rfl fk_12_57 (fun _ _ => rfl) (hX.s 49 rfl) (hX.r 49 23 rfl) (sx_p (pc' := 108) (lv' := [.ref (X + 49), .int v1, .int v2, sm_junk, sm_junk, sm_junk]) (st' := [.int (((ni 2) * v1) + (ni 1)), .ref (X + 65), .int (D3.1 (X + 64) (((ni 2) * v1) + (ni 1)).toNatClampNeg), .ref (X + 49)]) q253 64 5 rfl (sx_ia q253 69 rfl (hX.s 65 rfl) (hX.b 65) (sx_kv (sx_V q253 70 rfl lk_12_554 vk_255 na_255 rfl rfl rfl rfl (hX.s 49 rfl)) (by decide) rfl (fun D4 => (sx_p (pc' := 113) (lv' := [.ref (X + 49), .int v1, .int v2, sm_junk, sm_junk, sm_junk]) (st' := [.ref (X + 49)]) q253 71 1 rfl (sx_gR q253 72 rfl fk_12_29 (fun _ _ => rfl) (hX.s 49 rfl) (hX.r 49 13 rfl) (sx_p (pc' := 117) (lv' := [.ref (X + 49), .int v1, .int v2, sm_junk, sm_junk, sm_junk]) (st' := [.int v1, .ref (X + 56)]) q253 73 1 rfl (sx_ba q253 74 rfl (hX.s 56 rfl) (by simp) (hX.b 56) (sx_if_eq q253 75 rfl rfl (sx_p (pc' := 130) (lv' := [.ref (X + 49), .int v1, .int v2, sm_junk, sm_junk, sm_junk]) (st' := [.int (sm_k (-1))]) q253 80 1 rfl (sx_w (lv := [.ref (X + 49), .int v1, .int v2, sm_junk, sm_junk, sm_junk]) (lv' := [.ref (X + 49), .int v1, sm_junk, sm_junk, sm_junk, sm_junk]) (sm_ordl.ord ⟨Or.inr rfl, Or.inr rfl, Or.inl rfl, Or.inl rfl, Or.inl rfl, Or.inl rfl, trivial⟩))) (sx_p (pc' := 123) (lv' := [.ref (X + 49), .int v1, .int v2, sm_junk, sm_junk, sm_junk]) (st' := [.int v1, .ref (X + 49)]) q253 76 2 rfl (sx_ki (sx_V q253 78 rfl lk_12_284 vk_193 na_193 rfl rfl rfl rfl (hX.s 49 rfl)) (by decide) rfl (fun x0 D5 => (sx_p (pc' := 130) (lv' := [.ref (X + 49), .int v1, .int v2, sm_junk, sm_junk, sm_junk]) (st' := [.int x0]) q253 79 1 rfl (sx_w (lv := [.ref (X + 49), .int v1, .int v2, sm_junk, sm_junk, sm_junk]) (lv' := [.ref (X + 49), .int v1, sm_junk, sm_junk, sm_junk, sm_junk]) (sm_ordl.ord ⟨Or.inr rfl, Or.inr rfl, Or.inl rfl, Or.inl rfl, Or.inl rfl, Or.inl rfl, trivial⟩)))))))))))))))))))))))))))))))))))))) (sx_p (pc' := 25) (lv' := [.ref (X + 49), .int v1, .int v2, sm_junk, sm_junk, sm_junk]) (st' := [.ref (X + 49)]) q253 16 1 rfl (sx_gR q253 17 rfl fk_12_72 (fun _ _ => rfl) (hX.s 49 rfl) (hX.r 49 29 rfl) (sx_p (pc' := 29) (lv' := [.ref (X + 49), .int v1, .int v2, sm_junk, sm_junk, sm_junk]) (st' := [.int v2, .ref (X + 70)]) q253 18 1 rfl (sx_ia q253 19 rfl (hX.s 70 rfl) (hX.b 70) (sx_p (pc' := 31) (lv' := [.ref (X + 49), .int v1, .int v2, sm_junk, sm_junk, sm_junk]) (st' := [.int (ni 1), .int (D.1 (X + 70) v2.toNatClampNeg)]) q253 20 1 rfl (sx_icmp_eq q253 21 rfl rfl (sx_p (pc' := 7) (lv' := [.ref (X + 49), .int v1, .int (v2 + ni 1), sm_junk, sm_junk, sm_junk]) (st' := []) q253 31 2 rfl (sm_ge.refl _)) (sx_p (pc' := 35) (lv' := [.ref (X + 49), .int v1, .int v2, sm_junk, sm_junk, sm_junk]) (st' := [.ref (X + 49)]) q253 22 1 rfl (sx_gR q253 23 rfl fk_12_72 (fun _ _ => rfl) (hX.s 49 rfl) (hX.r 49 29 rfl) (sx_p (pc' := 39) (lv' := [.ref (X + 49), .int v1, .int v2, sm_junk, sm_junk, sm_junk]) (st' := [.int v2, .ref (X + 70)]) q253 24 1 rfl (sx_ia q253 25 rfl (hX.s 70 rfl) (hX.b 70) (sx_p (pc' := 41) (lv' := [.ref (X + 49), .int v1, .int v2, sm_junk, sm_junk, sm_junk]) (st' := [.int (ni 2), .int (D.1 (X + 70) v2.toNatClampNeg)]) q253 26 1 rfl (sx_icmp_eq q253 27 rfl rfl (sx_p (pc' := 7) (lv' := [.ref (X + 49), .int v1, .int (v2 + ni 1), sm_junk, sm_junk, sm_junk]) (st' := []) q253 31 2 rfl (sm_ge.refl _)) (sx_p (pc' := 46) (lv' := [.ref (X + 49), .int v1, .int v2, sm_junk, sm_junk, sm_junk]) (st' := [.int v2, .ref (X + 49)]) q253 28 2 rfl (sx_kv (sx_V q253 30 rfl lk_12_549 vk_254 na_254 rfl rfl rfl rfl (hX.s 49 rfl)) (by decide) rfl (fun D6 => (sx_p (pc' := 7) (lv' := [.ref (X + 49), .int v1, .int (v2 + ni 1), sm_junk, sm_junk, sm_junk]) (st' := []) q253 31 2 rfl (sm_ge.refl _)))))))))))))))))))))))))))
set_option maxRecDepth 8000 in
theorem n253_130 {C : sm_K} {X : Nat} {v1 : Int32} {s0 : Int32} (hX : sm_Lay C X) {D : sm_D} : sm_ge (sm_fx C 253 130 [.ref (X + 49), .int v1, sm_junk, sm_junk, sm_junk, sm_junk] [.int s0] D) (
  sm_fx C 253 136 [.ref (X + 49), .int v1, .int s0, .int ((ni 6) * v1), sm_junk, sm_junk] [] D) := 
  (sx_p (pc' := 136) (lv' := [.ref (X + 49), .int v1, .int s0, .int ((ni 6) * v1), sm_junk, sm_junk]) (st' := []) q253 81 5 rfl (sm_ge.refl _))
set_option maxRecDepth 8000 in
theorem n253_136 {C : sm_K} {X : Nat} {v1 : Int32} {v2 : Int32} {v3 : Int32} (hX : sm_Lay C X) {D : sm_D} : sm_ge (sm_fx C 253 136 [.ref (X + 49), .int v1, .int v2, .int v3, sm_junk, sm_junk] [] D) (
  sm_gu (sm_in_b v1 40) (
  if (((ni 6) * v1) + (D.1 (X + 61) v1.toNatClampNeg)) ≤ v3 then
    sm_bv (sm_fe C 252 [.ref (X + 49)] D) (fun D1 =>
      sm_gu (sm_in_b v1 40) (
      if (D1.1 (X + 56) v1.toNatClampNeg) = ni 0 then
        sm_bv (sm_fe C 249 [.ref (X + 49), .ref (C.1.1 68)] D1) (fun D2 =>
          sm_bv (sm_fe C 252 [.ref (X + 49)] D2) (fun D3 =>
            sm_fx C 253 308 [.ref (X + 49), sm_junk, sm_junk, sm_junk, sm_junk, sm_junk] [] D3))
      else
        sm_fx C 253 308 [.ref (X + 49), sm_junk, sm_junk, sm_junk, sm_junk, sm_junk] [] D1))
  else
    sm_bv (sm_fe C 250 [.ref (X + 49), .int (ni 59)] D) (fun D4 =>
      sm_bv (sm_fe C 252 [.ref (X + 49)] D4) (fun D5 =>
        sm_bv (sm_fe C 250 [.ref (X + 49), .int (ni 32)] D5) (fun D6 =>
          sm_gu (sm_in_b v3 240) (
          sm_gu (sm_in_b v3 240) (
          sm_bv (sm_fe C 255 [.ref (X + 49), .int (D6.1 (X + 66) v3.toNatClampNeg), .int (D6.1 (X + 67) v3.toNatClampNeg)] D6) (fun D7 =>
            sm_bv (sm_fe C 249 [.ref (X + 49), .ref (C.1.1 66)] D7) (fun D8 =>
              if v3 = v2 then
                sm_bv (sm_fe C 249 [.ref (X + 49), .ref (C.1.1 67)] D8) (fun D9 =>
                  sm_bv (sm_fe C 251 [.ref (X + 49), .int v1] D9) (fun D10 =>
                    sm_fx C 253 272 [.ref (X + 49), .int v1, .int v2, .int v3, sm_junk, sm_junk] [] D10))
              else
                sm_fx C 253 213 [.ref (X + 49), .int v1, .int v2, .int v3, .int (ni 0), sm_junk] [] D8))))))))) := 
  (sx_p (pc' := 142) (lv' := [.ref (X + 49), .int v1, .int v2, .int v3, sm_junk, sm_junk]) (st' := [.ref (X + 49), .int ((ni 6) * v1), .int v3]) q253 86 5 rfl (sx_gR q253 91 rfl fk_12_45 (fun _ _ => rfl) (hX.s 49 rfl) (hX.r 49 18 rfl) (sx_p (pc' := 146) (lv' := [.ref (X + 49), .int v1, .int v2, .int v3, sm_junk, sm_junk]) (st' := [.int v1, .ref (X + 61), .int ((ni 6) * v1), .int v3]) q253 92 1 rfl (sx_ia q253 93 rfl (hX.s 61 rfl) (hX.b 61) (sx_p (pc' := 148) (lv' := [.ref (X + 49), .int v1, .int v2, .int v3, sm_junk, sm_junk]) (st' := [.int (((ni 6) * v1) + (D.1 (X + 61) v1.toNatClampNeg)), .int v3]) q253 94 1 rfl (sx_icmp_ge q253 95 rfl rfl (sx_p (pc' := 285) (lv' := [.ref (X + 49), .int v1, .int v2, .int v3, sm_junk, sm_junk]) (st' := [.ref (X + 49)]) q253 164 1 rfl (sx_kv (sx_V q253 165 rfl lk_12_546 vk_252 na_252 rfl rfl rfl rfl (hX.s 49 rfl)) (by decide) rfl (fun D1 => (sx_p (pc' := 289) (lv' := [.ref (X + 49), .int v1, .int v2, .int v3, sm_junk, sm_junk]) (st' := [.ref (X + 49)]) q253 166 1 rfl (sx_gR q253 167 rfl fk_12_29 (fun _ _ => rfl) (hX.s 49 rfl) (hX.r 49 13 rfl) (sx_p (pc' := 293) (lv' := [.ref (X + 49), .int v1, .int v2, .int v3, sm_junk, sm_junk]) (st' := [.int v1, .ref (X + 56)]) q253 168 1 rfl (sx_ba q253 169 rfl (hX.s 56 rfl) (by simp) (hX.b 56) (sx_if_ne q253 170 rfl rfl (sx_w (lv := [.ref (X + 49), .int v1, .int v2, .int v3, sm_junk, sm_junk]) (lv' := [.ref (X + 49), sm_junk, sm_junk, sm_junk, sm_junk, sm_junk]) (sm_ordl.ord ⟨Or.inr rfl, Or.inl rfl, Or.inl rfl, Or.inl rfl, Or.inl rfl, Or.inl rfl, trivial⟩)) (sx_p (pc' := 298) (lv' := [.ref (X + 49), .int v1, .int v2, .int v3, sm_junk, sm_junk]) (st' := [.ref (X + 49)]) q253 171 1 rfl (sx_cs q253 172 rfl (Or.inr ⟨rfl, rfl⟩) cs_12_564 (sx_kv (sx_V q253 173 rfl lk_12_543 vk_249 na_249 rfl rfl rfl rfl (hX.s 49 rfl)) (by decide) rfl (fun D2 => (sx_p (pc' := 305) (lv' := [.ref (X + 49), .int v1, .int v2, .int v3, sm_junk, sm_junk]) (st' := [.ref (X + 49)]) q253 174 1 rfl (sx_kv (sx_V q253 175 rfl lk_12_546 vk_252 na_252 rfl rfl rfl rfl (hX.s 49 rfl)) (by decide) rfl (fun D3 => (sx_w (lv := [.ref (X + 49), .int v1, .int v2, .int v3, sm_junk, sm_junk]) (lv' := [.ref (X + 49), sm_junk, sm_junk, sm_junk, sm_junk, sm_junk]) (sm_ordl.ord ⟨Or.inr rfl, Or.inl rfl, Or.inl rfl, Or.inl rfl, Or.inl rfl, Or.inl rfl, trivial⟩))))))))))))))))) (sx_p (pc' := 154) (lv' := [.ref (X + 49), .int v1, .int v2, .int v3, sm_junk, sm_junk]) (st' := [.int (ni 59), .ref (X + 49)]) q253 96 2 rfl (sx_kv (sx_V q253 98 rfl lk_12_538 vk_250 na_250 rfl rfl rfl rfl (hX.s 49 rfl)) (by decide) rfl (fun D4 => (sx_p (pc' := 158) (lv' := [.ref (X + 49), .int v1, .int v2, .int v3, sm_junk, sm_junk]) (st' := [.ref (X + 49)]) q253 99 1 rfl (sx_kv (sx_V q253 100 rfl lk_12_546 vk_252 na_252 rfl rfl rfl rfl (hX.s 49 rfl)) (by decide) rfl (fun D5 => (sx_p (pc' := 164) (lv' := [.ref (X + 49), .int v1, .int v2, .int v3, sm_junk, sm_junk]) (st' := [.int (ni 32), .ref (X + 49)]) q253 101 2 rfl (sx_kv (sx_V q253 103 rfl lk_12_538 vk_250 na_250 rfl rfl rfl rfl (hX.s 49 rfl)) (by decide) rfl (fun D6 => (sx_p (pc' := 169) (lv' := [.ref (X + 49), .int v1, .int v2, .int v3, sm_junk, sm_junk]) (st' := [.ref (X + 49), .ref (X + 49)]) q253 104 2 rfl (sx_gR q253 106 rfl fk_12_60 (fun _ _ => rfl) (hX.s 49 rfl) (hX.r 49 24 rfl) (sx_p (pc' := 173) (lv' := [.ref (X + 49), .int v1, .int v2, .int v3, sm_junk, sm_junk]) (st' := [.int v3, .ref (X + 66), .ref (X + 49)]) q253 107 1 rfl (sx_ia q253 108 rfl (hX.s 66 rfl) (hX.b 66) (sx_p (pc' := 175) (lv' := [.ref (X + 49), .int v1, .int v2, .int v3, sm_junk, sm_junk]) (st' := [.ref (X + 49), .int (D6.1 (X + 66) v3.toNatClampNeg), .ref (X + 49)]) q253 109 1 rfl (sx_gR q253 110 rfl fk_12_63 (fun _ _ => rfl) (hX.s 49 rfl) (hX.r 49 25 rfl) (sx_p (pc' := 179) (lv' := [.ref (X + 49), .int v1, .int v2, .int v3, sm_junk, sm_junk]) (st' := [.int v3, .ref (X + 67), .int (D6.1 (X + 66) v3.toNatClampNeg), .ref (X + 49)]) q253 111 1 rfl (sx_ia q253 112 rfl (hX.s 67 rfl) (hX.b 67) (sx_kv (sx_V q253 113 rfl lk_12_554 vk_255 na_255 rfl rfl rfl rfl (hX.s 49 rfl)) (by decide) rfl (fun D7 => (sx_p (pc' := 184) (lv' := [.ref (X + 49), .int v1, .int v2, .int v3, sm_junk, sm_junk]) (st' := [.ref (X + 49)]) q253 114 1 rfl (sx_cs q253 115 rfl (Or.inr ⟨rfl, rfl⟩) cs_12_557 (sx_kv (sx_V q253 116 rfl lk_12_543 vk_249 na_249 rfl rfl rfl rfl (hX.s 49 rfl)) (by decide) rfl (fun D8 => (sx_p (pc' := 192) (lv' := [.ref (X + 49), .int v1, .int v2, .int v3, sm_junk, sm_junk]) (st' := [.int v2, .int v3]) q253 117 2 rfl (sx_icmp_ne q253 119 rfl rfl (sx_p (pc' := 213) (lv' := [.ref (X + 49), .int v1, .int v2, .int v3, .int (ni 0), sm_junk]) (st' := []) q253 127 2 rfl (sm_ge.refl _)) (sx_p (pc' := 196) (lv' := [.ref (X + 49), .int v1, .int v2, .int v3, sm_junk, sm_junk]) (st' := [.ref (X + 49)]) q253 120 1 rfl (sx_cs q253 121 rfl (Or.inr ⟨rfl, rfl⟩) cs_12_559 (sx_kv (sx_V q253 122 rfl lk_12_543 vk_249 na_249 rfl rfl rfl rfl (hX.s 49 rfl)) (by decide) rfl (fun D9 => (sx_p (pc' := 204) (lv' := [.ref (X + 49), .int v1, .int v2, .int v3, sm_junk, sm_junk]) (st' := [.int v1, .ref (X + 49)]) q253 123 2 rfl (sx_kv (sx_V q253 125 rfl lk_12_561 vk_251 na_251 rfl rfl rfl rfl (hX.s 49 rfl)) (by decide) rfl (fun D10 => (sx_p (pc' := 272) (lv' := [.ref (X + 49), .int v1, .int v2, .int v3, sm_junk, sm_junk]) (st' := []) q253 126 1 rfl (sm_ge.refl _))))))))))))))))))))))))))))))))))))))))
set_option maxRecDepth 8000 in
theorem n253_213 {C : sm_K} {X : Nat} {v1 : Int32} {v2 : Int32} {v3 : Int32} {v4 : Int32} (hX : sm_Lay C X) {D : sm_D} : sm_ge (sm_fx C 253 213 [.ref (X + 49), .int v1, .int v2, .int v3, .int v4, sm_junk] [] D) (
  sm_gu (sm_in_b v3 240) (
  if (D.1 (X + 69) v3.toNatClampNeg) ≤ v4 then
    sm_fx C 253 272 [.ref (X + 49), .int v1, .int v2, .int v3, sm_junk, sm_junk] [] D
  else
    sm_gu (sm_in_b v3 240) (
    sm_gu (sm_in_b ((D.1 (X + 68) v3.toNatClampNeg) + v4) 24000) (
    if (D.1 (X + 63) ((D.1 (X + 68) v3.toNatClampNeg) + v4).toNatClampNeg) = (ni 34) then
      sm_fx C 253 254 [.ref (X + 49), .int v1, .int v2, .int v3, .int v4, .int (D.1 (X + 63) ((D.1 (X + 68) v3.toNatClampNeg) + v4).toNatClampNeg)] [] D
    else
      if (D.1 (X + 63) ((D.1 (X + 68) v3.toNatClampNeg) + v4).toNatClampNeg) = (ni 92) then
        sm_fx C 253 254 [.ref (X + 49), .int v1, .int v2, .int v3, .int v4, .int (D.1 (X + 63) ((D.1 (X + 68) v3.toNatClampNeg) + v4).toNatClampNeg)] [] D
      else
        sm_fx C 253 260 [.ref (X + 49), .int v1, .int v2, .int v3, .int v4, .int (D.1 (X + 63) ((D.1 (X + 68) v3.toNatClampNeg) + v4).toNatClampNeg)] [] D)))) := 
  (sx_p (pc' := 216) (lv' := [.ref (X + 49), .int v1, .int v2, .int v3, .int v4, sm_junk]) (st' := [.ref (X + 49), .int v4]) q253 129 2 rfl (sx_gR q253 131 rfl fk_12_69 (fun _ _ => rfl) (hX.s 49 rfl) (hX.r 49 27 rfl) (sx_p (pc' := 220) (lv' := [.ref (X + 49), .int v1, .int v2, .int v3, .int v4, sm_junk]) (st' := [.int v3, .ref (X + 69), .int v4]) q253 132 1 rfl (sx_ia q253 133 rfl (hX.s 69 rfl) (hX.b 69) (sx_icmp_ge q253 134 rfl rfl (sx_w (lv := [.ref (X + 49), .int v1, .int v2, .int v3, .int v4, sm_junk]) (lv' := [.ref (X + 49), .int v1, .int v2, .int v3, sm_junk, sm_junk]) (sm_ordl.ord ⟨Or.inr rfl, Or.inr rfl, Or.inr rfl, Or.inr rfl, Or.inl rfl, Or.inl rfl, trivial⟩)) (sx_p (pc' := 225) (lv' := [.ref (X + 49), .int v1, .int v2, .int v3, .int v4, sm_junk]) (st' := [.ref (X + 49)]) q253 135 1 rfl (sx_gR q253 136 rfl fk_12_51 (fun _ _ => rfl) (hX.s 49 rfl) (hX.r 49 21 rfl) (sx_p (pc' := 229) (lv' := [.ref (X + 49), .int v1, .int v2, .int v3, .int v4, sm_junk]) (st' := [.ref (X + 49), .ref (X + 63)]) q253 137 1 rfl (sx_gR q253 138 rfl fk_12_66 (fun _ _ => rfl) (hX.s 49 rfl) (hX.r 49 26 rfl) (sx_p (pc' := 233) (lv' := [.ref (X + 49), .int v1, .int v2, .int v3, .int v4, sm_junk]) (st' := [.int v3, .ref (X + 68), .ref (X + 63)]) q253 139 1 rfl (sx_ia q253 140 rfl (hX.s 68 rfl) (hX.b 68) (sx_p (pc' := 237) (lv' := [.ref (X + 49), .int v1, .int v2, .int v3, .int v4, sm_junk]) (st' := [.int ((D.1 (X + 68) v3.toNatClampNeg) + v4), .ref (X + 63)]) q253 141 2 rfl (sx_ba q253 143 rfl (hX.s 63 rfl) (by simp) (hX.b 63) (sx_p (pc' := 244) (lv' := [.ref (X + 49), .int v1, .int v2, .int v3, .int v4, .int (D.1 (X + 63) ((D.1 (X + 68) v3.toNatClampNeg) + v4).toNatClampNeg)]) (st' := [.int (ni 34), .int (D.1 (X + 63) ((D.1 (X + 68) v3.toNatClampNeg) + v4).toNatClampNeg)]) q253 144 3 rfl (sx_icmp_eq q253 147 rfl rfl (sm_ge.refl _) (sx_p (pc' := 251) (lv' := [.ref (X + 49), .int v1, .int v2, .int v3, .int v4, .int (D.1 (X + 63) ((D.1 (X + 68) v3.toNatClampNeg) + v4).toNatClampNeg)]) (st' := [.int (ni 92), .int (D.1 (X + 63) ((D.1 (X + 68) v3.toNatClampNeg) + v4).toNatClampNeg)]) q253 148 2 rfl (sx_icmp_ne q253 150 rfl rfl (sm_ge.refl _) (sm_ge.refl _))))))))))))))))))
set_option maxRecDepth 8000 in
theorem n253_254 {C : sm_K} {X : Nat} {v1 : Int32} {v2 : Int32} {v3 : Int32} {v4 : Int32} {v5 : Int32} (hX : sm_Lay C X) {D : sm_D} : sm_ge (sm_fx C 253 254 [.ref (X + 49), .int v1, .int v2, .int v3, .int v4, .int v5] [] D) (
  sm_bv (sm_fe C 250 [.ref (X + 49), .int (ni 92)] D) (fun D1 =>
    sm_fx C 253 260 [.ref (X + 49), .int v1, .int v2, .int v3, .int v4, .int v5] [] D1)) := 
  (sx_p (pc' := 257) (lv' := [.ref (X + 49), .int v1, .int v2, .int v3, .int v4, .int v5]) (st' := [.int (ni 92), .ref (X + 49)]) q253 151 2 rfl (sx_kv (sx_V q253 153 rfl lk_12_538 vk_250 na_250 rfl rfl rfl rfl (hX.s 49 rfl)) (by decide) rfl (fun D1 => (sm_ge.refl _))))
set_option maxRecDepth 8000 in
theorem n253_260 {C : sm_K} {X : Nat} {v1 : Int32} {v2 : Int32} {v3 : Int32} {v4 : Int32} {v5 : Int32} (hX : sm_Lay C X) {D : sm_D} : sm_ge (sm_fx C 253 260 [.ref (X + 49), .int v1, .int v2, .int v3, .int v4, .int v5] [] D) (
  sm_bv (sm_fe C 250 [.ref (X + 49), .int v5] D) (fun D1 =>
    sm_fx C 253 213 [.ref (X + 49), .int v1, .int v2, .int v3, .int (v4 + ni 1), sm_junk] [] D1)) := 
  (sx_p (pc' := 263) (lv' := [.ref (X + 49), .int v1, .int v2, .int v3, .int v4, .int v5]) (st' := [.int v5, .ref (X + 49)]) q253 154 2 rfl (sx_kv (sx_V q253 156 rfl lk_12_538 vk_250 na_250 rfl rfl rfl rfl (hX.s 49 rfl)) (by decide) rfl (fun D1 => (sx_p (pc' := 213) (lv' := [.ref (X + 49), .int v1, .int v2, .int v3, .int (v4 + ni 1), .int v5]) (st' := []) q253 157 2 rfl (sx_w (lv := [.ref (X + 49), .int v1, .int v2, .int v3, .int (v4 + ni 1), .int v5]) (lv' := [.ref (X + 49), .int v1, .int v2, .int v3, .int (v4 + ni 1), sm_junk]) (sm_ordl.ord ⟨Or.inr rfl, Or.inr rfl, Or.inr rfl, Or.inr rfl, Or.inr rfl, Or.inl rfl, trivial⟩))))))
set_option maxRecDepth 8000 in
theorem n253_272 {C : sm_K} {X : Nat} {v1 : Int32} {v2 : Int32} {v3 : Int32} (hX : sm_Lay C X) {D : sm_D} : sm_ge (sm_fx C 253 272 [.ref (X + 49), .int v1, .int v2, .int v3, sm_junk, sm_junk] [] D) (
  sm_bv (sm_fe C 250 [.ref (X + 49), .int (ni 34)] D) (fun D1 =>
    sm_fx C 253 136 [.ref (X + 49), .int v1, .int v2, .int (v3 + ni 1), sm_junk, sm_junk] [] D1)) := 
  (sx_p (pc' := 275) (lv' := [.ref (X + 49), .int v1, .int v2, .int v3, sm_junk, sm_junk]) (st' := [.int (ni 34), .ref (X + 49)]) q253 159 2 rfl (sx_kv (sx_V q253 161 rfl lk_12_538 vk_250 na_250 rfl rfl rfl rfl (hX.s 49 rfl)) (by decide) rfl (fun D1 => (sx_p (pc' := 136) (lv' := [.ref (X + 49), .int v1, .int v2, .int (v3 + ni 1), sm_junk, sm_junk]) (st' := []) q253 162 2 rfl (sm_ge.refl _)))))
set_option maxRecDepth 8000 in
theorem n253_308 {C : sm_K} {X : Nat} (hX : sm_Lay C X) {D : sm_D} : sm_ge (sm_fx C 253 308 [.ref (X + 49), sm_junk, sm_junk, sm_junk, sm_junk, sm_junk] [] D) (
  sm_bv (sm_fe C 252 [.ref (X + 49)] D) (fun D1 =>
    some (.inl none, D1))) := 
  (sx_p (pc' := 309) (lv' := [.ref (X + 49), sm_junk, sm_junk, sm_junk, sm_junk, sm_junk]) (st' := [.ref (X + 49)]) q253 176 1 rfl (sx_kv (sx_V q253 177 rfl lk_12_546 vk_252 na_252 rfl rfl rfl rfl (hX.s 49 rfl)) (by decide) rfl (fun D1 => (sx_rv q253 178 rfl rfl))))
set_option maxRecDepth 8000 in
theorem f253 {C : sm_K} {X : Nat} {v1 : Int32} (hX : sm_Lay C X) {D : sm_D} : sm_ge (sm_fe C 253 [.ref (X + 49), .int v1] D) (
  sm_gu (sm_in_b v1 40) (
  sm_fx C 253 7 [.ref (X + 49), .int v1, .int (D.1 (X + 54) v1.toNatClampNeg), sm_junk, sm_junk, sm_junk] [] D)) := by
  rw [sx_fe (m := 6) rfl rfl]
  exact (show sm_ge (sm_fx C 253 0 [.ref (X + 49), .int v1, sm_junk, sm_junk, sm_junk, sm_junk] [] D) _ from (sx_p (pc' := 1) (lv' := [.ref (X + 49), .int v1, sm_junk, sm_junk, sm_junk, sm_junk]) (st' := [.ref (X + 49)]) q253 0 1 rfl (sx_gR q253 1 rfl fk_12_23 (fun _ _ => rfl) (hX.s 49 rfl) (hX.r 49 11 rfl) (sx_p (pc' := 5) (lv' := [.ref (X + 49), .int v1, sm_junk, sm_junk, sm_junk, sm_junk]) (st' := [.int v1, .ref (X + 54)]) q253 2 1 rfl (sx_ia q253 3 rfl (hX.s 54 rfl) (hX.b 54) (sx_p (pc' := 7) (lv' := [.ref (X + 49), .int v1, .int (D.1 (X + 54) v1.toNatClampNeg), sm_junk, sm_junk, sm_junk]) (st' := []) q253 4 1 rfl (sm_ge.refl _)))))))
/-! MessageTreeModel.writeField -/
theorem q254 : sm_q 254 12 sm_i254 5 := ⟨rfl, rfl, rfl⟩
set_option maxRecDepth 8000 in
theorem n254_2 {C : sm_K} {X : Nat} {v1 : Int32} {v2 : Int32} (hX : sm_Lay C X) {D : sm_D} : sm_ge (sm_fx C 254 2 [.ref (X + 49), .int v1, .int v2, sm_junk, sm_junk, sm_junk, sm_junk] [] D) (
  sm_gu (sm_in_b v1 200) (
  if (D.1 (X + 72) v1.toNatClampNeg) ≤ v2 then
    sm_bv (sm_fe C 249 [.ref (X + 49), .ref (C.1.1 64)] D) (fun D1 =>
      sm_gu (sm_in_b v1 200) (
      sm_bv (sm_fe C 212 [.ref (X + 49), .int v1] D1) (fun D2 =>
        sm_fx C 254 60 [.ref (X + 49), sm_junk, .int ((D1.1 (X + 72) v1.toNatClampNeg) + (ni 2)), .int (ni 0), .int (ni 0), sm_junk, sm_junk] [] D2)))
  else
    sm_gu (sm_in_b v1 200) (
    sm_bi (sm_fe C 161 [.ref (X + 49), .int ((D.1 (X + 71) v1.toNatClampNeg) + v2)] D) (fun x0 D3 =>
      sm_bv (sm_fe C 250 [.ref (X + 49), .int x0] D3) (fun D4 =>
        sm_fx C 254 2 [.ref (X + 49), .int v1, .int (v2 + ni 1), sm_junk, sm_junk, sm_junk, sm_junk] [] D4))))) := 
  (sx_p (pc' := 4) (lv' := [.ref (X + 49), .int v1, .int v2, sm_junk, sm_junk, sm_junk, sm_junk]) (st' := [.ref (X + 49), .int v2]) q254 2 2 rfl (sx_gR q254 4 rfl fk_12_78 (fun _ _ => rfl) (hX.s 49 rfl) (hX.r 49 31 rfl) (sx_p (pc' := 8) (lv' := [.ref (X + 49), .int v1, .int v2, sm_junk, sm_junk, sm_junk, sm_junk]) (st' := [.int v1, .ref (X + 72), .int v2]) q254 5 1 rfl (sx_ia q254 6 rfl (hX.s 72 rfl) (hX.b 72) (sx_icmp_ge q254 7 rfl rfl (sx_p (pc' := 35) (lv' := [.ref (X + 49), .int v1, .int v2, sm_junk, sm_junk, sm_junk, sm_junk]) (st' := [.ref (X + 49)]) q254 20 1 rfl (sx_cs q254 21 rfl (Or.inr ⟨rfl, rfl⟩) cs_12_541 (sx_kv (sx_V q254 22 rfl lk_12_543 vk_249 na_249 rfl rfl rfl rfl (hX.s 49 rfl)) (by decide) rfl (fun D1 => (sx_p (pc' := 42) (lv' := [.ref (X + 49), .int v1, .int v2, sm_junk, sm_junk, sm_junk, sm_junk]) (st' := [.ref (X + 49)]) q254 23 1 rfl (sx_gR q254 24 rfl fk_12_78 (fun _ _ => rfl) (hX.s 49 rfl) (hX.r 49 31 rfl) (sx_p (pc' := 46) (lv' := [.ref (X + 49), .int v1, .int v2, sm_junk, sm_junk, sm_junk, sm_junk]) (st' := [.int v1, .ref (X + 72)]) q254 25 1 rfl (sx_ia q254 26 rfl (hX.s 72 rfl) (hX.b 72) (sx_p (pc' := 52) (lv' := [.ref (X + 49), .int v1, .int ((D1.1 (X + 72) v1.toNatClampNeg) + (ni 2)), sm_junk, sm_junk, sm_junk, sm_junk]) (st' := [.int v1, .ref (X + 49)]) q254 27 5 rfl (sx_kv (sx_V q254 32 rfl lk_12_437 vk_212 na_212 rfl rfl rfl rfl (hX.s 49 rfl)) (by decide) rfl (fun D2 => (sx_p (pc' := 60) (lv' := [.ref (X + 49), .int v1, .int ((D1.1 (X + 72) v1.toNatClampNeg) + (ni 2)), .int (ni 0), .int (ni 0), sm_junk, sm_junk]) (st' := []) q254 33 4 rfl (sx_w (lv := [.ref (X + 49), .int v1, .int ((D1.1 (X + 72) v1.toNatClampNeg) + (ni 2)), .int (ni 0), .int (ni 0), sm_junk, sm_junk]) (lv' := [.ref (X + 49), sm_junk, .int ((D1.1 (X + 72) v1.toNatClampNeg) + (ni 2)), .int (ni 0), .int (ni 0), sm_junk, sm_junk]) (sm_ordl.ord ⟨Or.inr rfl, Or.inl rfl, Or.inr rfl, Or.inr rfl, Or.inr rfl, Or.inl rfl, Or.inl rfl, trivial⟩)))))))))))))) (sx_p (pc' := 15) (lv' := [.ref (X + 49), .int v1, .int v2, sm_junk, sm_junk, sm_junk, sm_junk]) (st' := [.ref (X + 49), .ref (X + 49), .ref (X + 49)]) q254 8 3 rfl (sx_gR q254 11 rfl fk_12_75 (fun _ _ => rfl) (hX.s 49 rfl) (hX.r 49 30 rfl) (sx_p (pc' := 19) (lv' := [.ref (X + 49), .int v1, .int v2, sm_junk, sm_junk, sm_junk, sm_junk]) (st' := [.int v1, .ref (X + 71), .ref (X + 49), .ref (X + 49)]) q254 12 1 rfl (sx_ia q254 13 rfl (hX.s 71 rfl) (hX.b 71) (sx_p (pc' := 22) (lv' := [.ref (X + 49), .int v1, .int v2, sm_junk, sm_junk, sm_junk, sm_junk]) (st' := [.int ((D.1 (X + 71) v1.toNatClampNeg) + v2), .ref (X + 49), .ref (X + 49)]) q254 14 2 rfl (sx_ki (sx_V q254 16 rfl lk_12_151 vk_161 na_161 rfl rfl rfl rfl (hX.s 49 rfl)) (by decide) rfl (fun x0 D3 => (sx_kv (sx_V q254 17 rfl lk_12_538 vk_250 na_250 rfl rfl rfl rfl (hX.s 49 rfl)) (by decide) rfl (fun D4 => (sx_p (pc' := 2) (lv' := [.ref (X + 49), .int v1, .int (v2 + ni 1), sm_junk, sm_junk, sm_junk, sm_junk]) (st' := []) q254 18 2 rfl (sm_ge.refl _))))))))))))))))
set_option maxRecDepth 8000 in
theorem n254_60 {C : sm_K} {X : Nat} {v2 : Int32} {v3 : Int32} {v4 : Int32} (hX : sm_Lay C X) {D : sm_D} : sm_ge (sm_fx C 254 60 [.ref (X + 49), sm_junk, .int v2, .int v3, .int v4, sm_junk, sm_junk] [] D) (
  if (D.1 (X + 49) 55) ≤ v3 then
    sm_bv (sm_fe C 252 [.ref (X + 49)] D) (fun D1 =>
      some (.inl none, D1))
  else
    sm_fx C 254 71 [.ref (X + 49), sm_junk, .int v2, .int v3, .int v4, .int v3, sm_junk] [] D) := 
  (sx_p (pc' := 62) (lv' := [.ref (X + 49), sm_junk, .int v2, .int v3, .int v4, sm_junk, sm_junk]) (st' := [.ref (X + 49), .int v3]) q254 37 2 rfl (sx_gI q254 39 rfl fk_12_384 rfl (hX.s 49 rfl) (hX.b 49) (sx_icmp_ge q254 40 rfl rfl (sx_p (pc' := 193) (lv' := [.ref (X + 49), sm_junk, .int v2, .int v3, .int v4, sm_junk, sm_junk]) (st' := [.ref (X + 49)]) q254 104 1 rfl (sx_kv (sx_V q254 105 rfl lk_12_546 vk_252 na_252 rfl rfl rfl rfl (hX.s 49 rfl)) (by decide) rfl (fun D1 => (sx_rv q254 106 rfl rfl)))) (sx_p (pc' := 71) (lv' := [.ref (X + 49), sm_junk, .int v2, .int v3, .int v4, .int v3, sm_junk]) (st' := []) q254 41 2 rfl (sm_ge.refl _)))))
set_option maxRecDepth 8000 in
theorem n254_71 {C : sm_K} {X : Nat} {v2 : Int32} {v3 : Int32} {v4 : Int32} {v5 : Int32} (hX : sm_Lay C X) {D : sm_D} : sm_ge (sm_fx C 254 71 [.ref (X + 49), sm_junk, .int v2, .int v3, .int v4, .int v5, sm_junk] [] D) (
  if (D.1 (X + 49) 55) ≤ v5 then
    sm_fx C 254 99 [.ref (X + 49), sm_junk, .int v2, .int v3, .int v4, .int v5, sm_junk] [] D
  else
    sm_gu (sm_in_b v5 8000) (
    sm_bi (sm_fe C 170 [.int (D.1 (X + 82) v5.toNatClampNeg)] D) (fun x0 D1 =>
      if x0 = ni 0 then
        sm_fx C 254 99 [.ref (X + 49), sm_junk, .int v2, .int v3, .int v4, .int v5, sm_junk] [] D1
      else
        sm_fx C 254 71 [.ref (X + 49), sm_junk, .int v2, .int v3, .int v4, .int (v5 + ni 1), sm_junk] [] D1))) := 
  (sx_p (pc' := 74) (lv' := [.ref (X + 49), sm_junk, .int v2, .int v3, .int v4, .int v5, sm_junk]) (st' := [.ref (X + 49), .int v5]) q254 43 2 rfl (sx_gI q254 45 rfl fk_12_384 rfl (hX.s 49 rfl) (hX.b 49) (sx_icmp_ge q254 46 rfl rfl (sm_ge.refl _) (sx_p (pc' := 81) (lv' := [.ref (X + 49), sm_junk, .int v2, .int v3, .int v4, .int v5, sm_junk]) (st' := [.ref (X + 49)]) q254 47 1 rfl (sx_gR q254 48 rfl fk_12_109 (fun _ _ => rfl) (hX.s 49 rfl) (hX.r 49 56 rfl) (sx_p (pc' := 86) (lv' := [.ref (X + 49), sm_junk, .int v2, .int v3, .int v4, .int v5, sm_junk]) (st' := [.int v5, .ref (X + 82)]) q254 49 1 rfl (sx_ia q254 50 rfl (hX.s 82 rfl) (hX.b 82) (sx_ki (sx_S q254 51 rfl lk_12_204 rfl na_170 rfl rfl rfl rfl) (by decide) rfl (fun x0 D1 => (sx_if_eq q254 52 rfl rfl (sm_ge.refl _) (sx_p (pc' := 71) (lv' := [.ref (X + 49), sm_junk, .int v2, .int v3, .int v4, .int (v5 + ni 1), sm_junk]) (st' := []) q254 53 2 rfl (sm_ge.refl _))))))))))))
set_option maxRecDepth 8000 in
theorem n254_99 {C : sm_K} {X : Nat} {v2 : Int32} {v3 : Int32} {v4 : Int32} {v5 : Int32} (hX : sm_Lay C X) {D : sm_D} : sm_ge (sm_fx C 254 99 [.ref (X + 49), sm_junk, .int v2, .int v3, .int v4, .int v5, sm_junk] [] D) (
  if (D.1 (X + 49) 55) ≤ v5 then
    sm_fx C 254 127 [.ref (X + 49), sm_junk, .int v2, .int v3, .int v4, .int v5, sm_junk] [] D
  else
    sm_gu (sm_in_b v5 8000) (
    sm_bi (sm_fe C 170 [.int (D.1 (X + 82) v5.toNatClampNeg)] D) (fun x0 D1 =>
      if x0 = ni 0 then
        sm_fx C 254 99 [.ref (X + 49), sm_junk, .int v2, .int v3, .int v4, .int (v5 + ni 1), sm_junk] [] D1
      else
        sm_fx C 254 127 [.ref (X + 49), sm_junk, .int v2, .int v3, .int v4, .int v5, sm_junk] [] D1))) := 
  (sx_p (pc' := 102) (lv' := [.ref (X + 49), sm_junk, .int v2, .int v3, .int v4, .int v5, sm_junk]) (st' := [.ref (X + 49), .int v5]) q254 55 2 rfl (sx_gI q254 57 rfl fk_12_384 rfl (hX.s 49 rfl) (hX.b 49) (sx_icmp_ge q254 58 rfl rfl (sm_ge.refl _) (sx_p (pc' := 109) (lv' := [.ref (X + 49), sm_junk, .int v2, .int v3, .int v4, .int v5, sm_junk]) (st' := [.ref (X + 49)]) q254 59 1 rfl (sx_gR q254 60 rfl fk_12_109 (fun _ _ => rfl) (hX.s 49 rfl) (hX.r 49 56 rfl) (sx_p (pc' := 114) (lv' := [.ref (X + 49), sm_junk, .int v2, .int v3, .int v4, .int v5, sm_junk]) (st' := [.int v5, .ref (X + 82)]) q254 61 1 rfl (sx_ia q254 62 rfl (hX.s 82 rfl) (hX.b 82) (sx_ki (sx_S q254 63 rfl lk_12_204 rfl na_170 rfl rfl rfl rfl) (by decide) rfl (fun x0 D1 => (sx_if_ne q254 64 rfl rfl (sm_ge.refl _) (sx_p (pc' := 99) (lv' := [.ref (X + 49), sm_junk, .int v2, .int v3, .int v4, .int (v5 + ni 1), sm_junk]) (st' := []) q254 65 2 rfl (sm_ge.refl _))))))))))))
set_option maxRecDepth 8000 in
theorem n254_127 {C : sm_K} {X : Nat} {v2 : Int32} {v3 : Int32} {v4 : Int32} {v5 : Int32} (hX : sm_Lay C X) {D : sm_D} : sm_ge (sm_fx C 254 127 [.ref (X + 49), sm_junk, .int v2, .int v3, .int v4, .int v5, sm_junk] [] D) (
  if v4 = ni 0 then
    sm_fx C 254 149 [.ref (X + 49), sm_junk, .int v2, .int v3, sm_junk, .int v5, sm_junk] [] D
  else
    if ((v2 + v5) - v3) ≤ (ni 78) then
      sm_fx C 254 149 [.ref (X + 49), sm_junk, .int v2, .int v3, sm_junk, .int v5, sm_junk] [] D
    else
      sm_bv (sm_fe C 252 [.ref (X + 49)] D) (fun D1 =>
        sm_fx C 254 149 [.ref (X + 49), sm_junk, .int (ni 0), .int v3, sm_junk, .int v5, sm_junk] [] D1)) := 
  (sx_p (pc' := 129) (lv' := [.ref (X + 49), sm_junk, .int v2, .int v3, .int v4, .int v5, sm_junk]) (st' := [.int v4]) q254 67 1 rfl (sx_if_eq q254 68 rfl rfl (sx_w (lv := [.ref (X + 49), sm_junk, .int v2, .int v3, .int v4, .int v5, sm_junk]) (lv' := [.ref (X + 49), sm_junk, .int v2, .int v3, sm_junk, .int v5, sm_junk]) (sm_ordl.ord ⟨Or.inr rfl, Or.inl rfl, Or.inr rfl, Or.inr rfl, Or.inl rfl, Or.inr rfl, Or.inl rfl, trivial⟩)) (sx_p (pc' := 140) (lv' := [.ref (X + 49), sm_junk, .int v2, .int v3, .int v4, .int v5, sm_junk]) (st' := [.int (ni 78), .int ((v2 + v5) - v3)]) q254 69 6 rfl (sx_icmp_le q254 75 rfl rfl (sx_w (lv := [.ref (X + 49), sm_junk, .int v2, .int v3, .int v4, .int v5, sm_junk]) (lv' := [.ref (X + 49), sm_junk, .int v2, .int v3, sm_junk, .int v5, sm_junk]) (sm_ordl.ord ⟨Or.inr rfl, Or.inl rfl, Or.inr rfl, Or.inr rfl, Or.inl rfl, Or.inr rfl, Or.inl rfl, trivial⟩)) (sx_p (pc' := 144) (lv' := [.ref (X + 49), sm_junk, .int v2, .int v3, .int v4, .int v5, sm_junk]) (st' := [.ref (X + 49)]) q254 76 1 rfl (sx_kv (sx_V q254 77 rfl lk_12_546 vk_252 na_252 rfl rfl rfl rfl (hX.s 49 rfl)) (by decide) rfl (fun D1 => (sx_p (pc' := 149) (lv' := [.ref (X + 49), sm_junk, .int (ni 0), .int v3, .int v4, .int v5, sm_junk]) (st' := []) q254 78 2 rfl (sx_w (lv := [.ref (X + 49), sm_junk, .int (ni 0), .int v3, .int v4, .int v5, sm_junk]) (lv' := [.ref (X + 49), sm_junk, .int (ni 0), .int v3, sm_junk, .int v5, sm_junk]) (sm_ordl.ord ⟨Or.inr rfl, Or.inl rfl, Or.inr rfl, Or.inr rfl, Or.inl rfl, Or.inr rfl, Or.inl rfl, trivial⟩))))))))))
set_option maxRecDepth 8000 in
theorem n254_149 {C : sm_K} {X : Nat} {v2 : Int32} {v3 : Int32} {v5 : Int32} (hX : sm_Lay C X) {D : sm_D} : sm_ge (sm_fx C 254 149 [.ref (X + 49), sm_junk, .int v2, .int v3, sm_junk, .int v5, sm_junk] [] D) (
  sm_fx C 254 152 [.ref (X + 49), sm_junk, .int v2, .int v3, sm_junk, .int v5, .int v3] [] D) := 
  (sx_p (pc' := 152) (lv' := [.ref (X + 49), sm_junk, .int v2, .int v3, sm_junk, .int v5, .int v3]) (st' := []) q254 80 2 rfl (sm_ge.refl _))
set_option maxRecDepth 8000 in
theorem n254_152 {C : sm_K} {X : Nat} {v2 : Int32} {v3 : Int32} {v5 : Int32} {v6 : Int32} (hX : sm_Lay C X) {D : sm_D} : sm_ge (sm_fx C 254 152 [.ref (X + 49), sm_junk, .int v2, .int v3, sm_junk, .int v5, .int v6] [] D) (
  if v5 ≤ v6 then
    sm_fx C 254 60 [.ref (X + 49), sm_junk, .int ((v2 + v5) - v3), .int v5, .int (ni 1), sm_junk, sm_junk] [] D
  else
    sm_gu (sm_in_b v6 8000) (
    sm_bv (sm_fe C 250 [.ref (X + 49), .int (D.1 (X + 82) v6.toNatClampNeg)] D) (fun D1 =>
      sm_fx C 254 152 [.ref (X + 49), sm_junk, .int v2, .int v3, sm_junk, .int v5, .int (v6 + ni 1)] [] D1))) := 
  (sx_p (pc' := 156) (lv' := [.ref (X + 49), sm_junk, .int v2, .int v3, sm_junk, .int v5, .int v6]) (st' := [.int v5, .int v6]) q254 82 2 rfl (sx_icmp_ge q254 84 rfl rfl (sx_p (pc' := 60) (lv' := [.ref (X + 49), sm_junk, .int ((v2 + v5) - v3), .int v5, .int (ni 1), .int v5, .int v6]) (st' := []) q254 93 11 rfl (sx_w (lv := [.ref (X + 49), sm_junk, .int ((v2 + v5) - v3), .int v5, .int (ni 1), .int v5, .int v6]) (lv' := [.ref (X + 49), sm_junk, .int ((v2 + v5) - v3), .int v5, .int (ni 1), sm_junk, sm_junk]) (sm_ordl.ord ⟨Or.inr rfl, Or.inl rfl, Or.inr rfl, Or.inr rfl, Or.inr rfl, Or.inl rfl, Or.inl rfl, trivial⟩))) (sx_p (pc' := 161) (lv' := [.ref (X + 49), sm_junk, .int v2, .int v3, sm_junk, .int v5, .int v6]) (st' := [.ref (X + 49), .ref (X + 49)]) q254 85 2 rfl (sx_gR q254 87 rfl fk_12_109 (fun _ _ => rfl) (hX.s 49 rfl) (hX.r 49 56 rfl) (sx_p (pc' := 166) (lv' := [.ref (X + 49), sm_junk, .int v2, .int v3, sm_junk, .int v5, .int v6]) (st' := [.int v6, .ref (X + 82), .ref (X + 49)]) q254 88 1 rfl (sx_ia q254 89 rfl (hX.s 82 rfl) (hX.b 82) (sx_kv (sx_V q254 90 rfl lk_12_538 vk_250 na_250 rfl rfl rfl rfl (hX.s 49 rfl)) (by decide) rfl (fun D1 => (sx_p (pc' := 152) (lv' := [.ref (X + 49), sm_junk, .int v2, .int v3, sm_junk, .int v5, .int (v6 + ni 1)]) (st' := []) q254 91 2 rfl (sm_ge.refl _))))))))))
set_option maxRecDepth 8000 in
theorem f254 {C : sm_K} {X : Nat} {v1 : Int32} (hX : sm_Lay C X) {D : sm_D} : sm_ge (sm_fe C 254 [.ref (X + 49), .int v1] D) (
  sm_fx C 254 2 [.ref (X + 49), .int v1, .int (ni 0), sm_junk, sm_junk, sm_junk, sm_junk] [] D) := by
  rw [sx_fe (m := 7) rfl rfl]
  exact (show sm_ge (sm_fx C 254 0 [.ref (X + 49), .int v1, sm_junk, sm_junk, sm_junk, sm_junk, sm_junk] [] D) _ from (sx_p (pc' := 2) (lv' := [.ref (X + 49), .int v1, .int (ni 0), sm_junk, sm_junk, sm_junk, sm_junk]) (st' := []) q254 0 2 rfl (sm_ge.refl _)))
/-! MessageTreeModel.putTold -/
theorem q255 : sm_q 255 12 sm_i255 1 := ⟨rfl, rfl, rfl⟩
set_option maxRecDepth 8000 in
theorem n255_2 {C : sm_K} {X : Nat} {v1 : Int32} {v2 : Int32} {v3 : Int32} (hX : sm_Lay C X) {D : sm_D} : sm_ge (sm_fx C 255 2 [.ref (X + 49), .int v1, .int v2, .int v3] [] D) (
  if v2 ≤ v3 then
    some (.inl none, D)
  else
    sm_gu (sm_in_b (v1 + v3) 24000) (
    sm_bv (sm_fe C 250 [.ref (X + 49), .int (D.1 (X + 63) (v1 + v3).toNatClampNeg)] D) (fun D1 =>
      sm_fx C 255 2 [.ref (X + 49), .int v1, .int v2, .int (v3 + ni 1)] [] D1))) := 
  (sx_p (pc' := 4) (lv' := [.ref (X + 49), .int v1, .int v2, .int v3]) (st' := [.int v2, .int v3]) q255 2 2 rfl (sx_icmp_ge q255 4 rfl rfl (sx_rv q255 15 rfl rfl) (sx_p (pc' := 9) (lv' := [.ref (X + 49), .int v1, .int v2, .int v3]) (st' := [.ref (X + 49), .ref (X + 49)]) q255 5 2 rfl (sx_gR q255 7 rfl fk_12_51 (fun _ _ => rfl) (hX.s 49 rfl) (hX.r 49 21 rfl) (sx_p (pc' := 15) (lv' := [.ref (X + 49), .int v1, .int v2, .int v3]) (st' := [.int (v1 + v3), .ref (X + 63), .ref (X + 49)]) q255 8 3 rfl (sx_ba q255 11 rfl (hX.s 63 rfl) (by simp) (hX.b 63) (sx_kv (sx_V q255 12 rfl lk_12_538 vk_250 na_250 rfl rfl rfl rfl (hX.s 49 rfl)) (by decide) rfl (fun D1 => (sx_p (pc' := 2) (lv' := [.ref (X + 49), .int v1, .int v2, .int (v3 + ni 1)]) (st' := []) q255 13 2 rfl (sm_ge.refl _))))))))))
set_option maxRecDepth 8000 in
theorem f255 {C : sm_K} {X : Nat} {v1 : Int32} {v2 : Int32} (hX : sm_Lay C X) {D : sm_D} : sm_ge (sm_fe C 255 [.ref (X + 49), .int v1, .int v2] D) (
  sm_fx C 255 2 [.ref (X + 49), .int v1, .int v2, .int (ni 0)] [] D) := by
  rw [sx_fe (m := 4) rfl rfl]
  exact (show sm_ge (sm_fx C 255 0 [.ref (X + 49), .int v1, .int v2, sm_junk] [] D) _ from (sx_p (pc' := 2) (lv' := [.ref (X + 49), .int v1, .int v2, .int (ni 0)]) (st' := []) q255 0 2 rfl (sm_ge.refl _)))
/-! MessageTreeModel.writeLeaf -/
theorem q256 : sm_q 256 12 sm_i256 2 := ⟨rfl, rfl, rfl⟩
set_option maxRecDepth 8000 in
theorem n256_12 {C : sm_K} {X : Nat} {v1 : Int32} {v2 : Int32} {v3 : Int32} {v4 : Int32} (hX : sm_Lay C X) {D : sm_D} : sm_ge (sm_fx C 256 12 [.ref (X + 49), .int v1, .int v2, .int v3, .int v4, sm_junk, sm_junk, sm_junk] [] D) (
  if v2 ≤ v4 then
    some (.inl none, D)
  else
    if v3 = (ni 76) then
      sm_bv (sm_fe C 252 [.ref (X + 49)] D) (fun D1 =>
        sm_fx C 256 30 [.ref (X + 49), .int v1, .int v2, .int (ni 0), .int v4, sm_junk, sm_junk, sm_junk] [] D1)
    else
      sm_fx C 256 30 [.ref (X + 49), .int v1, .int v2, .int v3, .int v4, sm_junk, sm_junk, sm_junk] [] D) := 
  (sx_p (pc' := 15) (lv' := [.ref (X + 49), .int v1, .int v2, .int v3, .int v4, sm_junk, sm_junk, sm_junk]) (st' := [.int v2, .int v4]) q256 9 2 rfl (sx_icmp_ge q256 11 rfl rfl (sx_rv q256 132 rfl rfl) (sx_p (pc' := 21) (lv' := [.ref (X + 49), .int v1, .int v2, .int v3, .int v4, sm_junk, sm_junk, sm_junk]) (st' := [.int (ni 76), .int v3]) q256 12 2 rfl (sx_icmp_ne q256 14 rfl rfl (sm_ge.refl _) (sx_p (pc' := 25) (lv' := [.ref (X + 49), .int v1, .int v2, .int v3, .int v4, sm_junk, sm_junk, sm_junk]) (st' := [.ref (X + 49)]) q256 15 1 rfl (sx_kv (sx_V q256 16 rfl lk_12_546 vk_252 na_252 rfl rfl rfl rfl (hX.s 49 rfl)) (by decide) rfl (fun D1 => (sx_p (pc' := 30) (lv' := [.ref (X + 49), .int v1, .int v2, .int (ni 0), .int v4, sm_junk, sm_junk, sm_junk]) (st' := []) q256 17 2 rfl (sm_ge.refl _)))))))))
set_option maxRecDepth 8000 in
theorem n256_30 {C : sm_K} {X : Nat} {v1 : Int32} {v2 : Int32} {v3 : Int32} {v4 : Int32} (hX : sm_Lay C X) {D : sm_D} : sm_ge (sm_fx C 256 30 [.ref (X + 49), .int v1, .int v2, .int v3, .int v4, sm_junk, sm_junk, sm_junk] [] D) (
  sm_gu (sm_in_b v1 40) (
  sm_gu (sm_in_b ((D.1 (X + 59) v1.toNatClampNeg) + v4) 8000) (
  if v2 ≤ (v4 + (ni 1)) then
    sm_fx C 256 82 [.ref (X + 49), .int v1, .int v2, .int v3, .int v4, .int ((D.1 (X + 75) ((D.1 (X + 59) v1.toNatClampNeg) + v4).toNatClampNeg) &&& (ni 255)), sm_junk, sm_junk] [.int (ni 0)] D
  else
    sm_gu (sm_in_b v1 40) (
    sm_gu (sm_in_b (((D.1 (X + 59) v1.toNatClampNeg) + v4) + (ni 1)) 8000) (
    sm_fx C 256 82 [.ref (X + 49), .int v1, .int v2, .int v3, .int v4, .int ((D.1 (X + 75) ((D.1 (X + 59) v1.toNatClampNeg) + v4).toNatClampNeg) &&& (ni 255)), sm_junk, sm_junk] [.int ((D.1 (X + 75) (((D.1 (X + 59) v1.toNatClampNeg) + v4) + (ni 1)).toNatClampNeg) &&& (ni 255))] D))))) := 
  (sx_p (pc' := 31) (lv' := [.ref (X + 49), .int v1, .int v2, .int v3, .int v4, sm_junk, sm_junk, sm_junk]) (st' := [.ref (X + 49)]) q256 19 1 rfl (sx_gR q256 20 rfl fk_12_87 (fun _ _ => rfl) (hX.s 49 rfl) (hX.r 49 35 rfl) (sx_p (pc' := 35) (lv' := [.ref (X + 49), .int v1, .int v2, .int v3, .int v4, sm_junk, sm_junk, sm_junk]) (st' := [.ref (X + 49), .ref (X + 75)]) q256 21 1 rfl (sx_gR q256 22 rfl fk_12_39 (fun _ _ => rfl) (hX.s 49 rfl) (hX.r 49 16 rfl) (sx_p (pc' := 39) (lv' := [.ref (X + 49), .int v1, .int v2, .int v3, .int v4, sm_junk, sm_junk, sm_junk]) (st' := [.int v1, .ref (X + 59), .ref (X + 75)]) q256 23 1 rfl (sx_ia q256 24 rfl (hX.s 59 rfl) (hX.b 59) (sx_p (pc' := 43) (lv' := [.ref (X + 49), .int v1, .int v2, .int v3, .int v4, sm_junk, sm_junk, sm_junk]) (st' := [.int ((D.1 (X + 59) v1.toNatClampNeg) + v4), .ref (X + 75)]) q256 25 2 rfl (sx_ba q256 27 rfl (hX.s 75 rfl) (by simp) (hX.b 75) (sx_p (pc' := 55) (lv' := [.ref (X + 49), .int v1, .int v2, .int v3, .int v4, .int ((D.1 (X + 75) ((D.1 (X + 59) v1.toNatClampNeg) + v4).toNatClampNeg) &&& (ni 255)), sm_junk, sm_junk]) (st' := [.int v2, .int (v4 + (ni 1))]) q256 28 7 rfl (sx_icmp_ge q256 35 rfl rfl (sx_p (pc' := 82) (lv' := [.ref (X + 49), .int v1, .int v2, .int v3, .int v4, .int ((D.1 (X + 75) ((D.1 (X + 59) v1.toNatClampNeg) + v4).toNatClampNeg) &&& (ni 255)), sm_junk, sm_junk]) (st' := [.int (ni 0)]) q256 50 1 rfl (sm_ge.refl _)) (sx_p (pc' := 59) (lv' := [.ref (X + 49), .int v1, .int v2, .int v3, .int v4, .int ((D.1 (X + 75) ((D.1 (X + 59) v1.toNatClampNeg) + v4).toNatClampNeg) &&& (ni 255)), sm_junk, sm_junk]) (st' := [.ref (X + 49)]) q256 36 1 rfl (sx_gR q256 37 rfl fk_12_87 (fun _ _ => rfl) (hX.s 49 rfl) (hX.r 49 35 rfl) (sx_p (pc' := 63) (lv' := [.ref (X + 49), .int v1, .int v2, .int v3, .int v4, .int ((D.1 (X + 75) ((D.1 (X + 59) v1.toNatClampNeg) + v4).toNatClampNeg) &&& (ni 255)), sm_junk, sm_junk]) (st' := [.ref (X + 49), .ref (X + 75)]) q256 38 1 rfl (sx_gR q256 39 rfl fk_12_39 (fun _ _ => rfl) (hX.s 49 rfl) (hX.r 49 16 rfl) (sx_p (pc' := 67) (lv' := [.ref (X + 49), .int v1, .int v2, .int v3, .int v4, .int ((D.1 (X + 75) ((D.1 (X + 59) v1.toNatClampNeg) + v4).toNatClampNeg) &&& (ni 255)), sm_junk, sm_junk]) (st' := [.int v1, .ref (X + 59), .ref (X + 75)]) q256 40 1 rfl (sx_ia q256 41 rfl (hX.s 59 rfl) (hX.b 59) (sx_p (pc' := 73) (lv' := [.ref (X + 49), .int v1, .int v2, .int v3, .int v4, .int ((D.1 (X + 75) ((D.1 (X + 59) v1.toNatClampNeg) + v4).toNatClampNeg) &&& (ni 255)), sm_junk, sm_junk]) (st' := [.int (((D.1 (X + 59) v1.toNatClampNeg) + v4) + (ni 1)), .ref (X + 75)]) q256 42 4 rfl (sx_ba q256 46 rfl (hX.s 75 rfl) (by simp) (hX.b 75) (sx_p (pc' := 82) (lv' := [.ref (X + 49), .int v1, .int v2, .int v3, .int v4, .int ((D.1 (X + 75) ((D.1 (X + 59) v1.toNatClampNeg) + v4).toNatClampNeg) &&& (ni 255)), sm_junk, sm_junk]) (st' := [.int ((D.1 (X + 75) (((D.1 (X + 59) v1.toNatClampNeg) + v4) + (ni 1)).toNatClampNeg) &&& (ni 255))]) q256 47 3 rfl (sm_ge.refl _))))))))))))))))))))
set_option maxRecDepth 8000 in
theorem n256_82 {C : sm_K} {X : Nat} {v1 : Int32} {v2 : Int32} {v3 : Int32} {v4 : Int32} {v5 : Int32} {s0 : Int32} (hX : sm_Lay C X) {D : sm_D} : sm_ge (sm_fx C 256 82 [.ref (X + 49), .int v1, .int v2, .int v3, .int v4, .int v5, sm_junk, sm_junk] [.int s0] D) (
  if v2 ≤ (v4 + (ni 2)) then
    sm_fx C 256 116 [.ref (X + 49), .int v1, .int v2, .int v3, .int v4, .int v5, .int s0, sm_junk] [.int (ni 0)] D
  else
    sm_gu (sm_in_b v1 40) (
    sm_gu (sm_in_b (((D.1 (X + 59) v1.toNatClampNeg) + v4) + (ni 2)) 8000) (
    sm_fx C 256 116 [.ref (X + 49), .int v1, .int v2, .int v3, .int v4, .int v5, .int s0, sm_junk] [.int ((D.1 (X + 75) (((D.1 (X + 59) v1.toNatClampNeg) + v4) + (ni 2)).toNatClampNeg) &&& (ni 255))] D))) := 
  (sx_p (pc' := 89) (lv' := [.ref (X + 49), .int v1, .int v2, .int v3, .int v4, .int v5, .int s0, sm_junk]) (st' := [.int v2, .int (v4 + (ni 2))]) q256 51 5 rfl (sx_icmp_ge q256 56 rfl rfl (sx_p (pc' := 116) (lv' := [.ref (X + 49), .int v1, .int v2, .int v3, .int v4, .int v5, .int s0, sm_junk]) (st' := [.int (ni 0)]) q256 71 1 rfl (sm_ge.refl _)) (sx_p (pc' := 93) (lv' := [.ref (X + 49), .int v1, .int v2, .int v3, .int v4, .int v5, .int s0, sm_junk]) (st' := [.ref (X + 49)]) q256 57 1 rfl (sx_gR q256 58 rfl fk_12_87 (fun _ _ => rfl) (hX.s 49 rfl) (hX.r 49 35 rfl) (sx_p (pc' := 97) (lv' := [.ref (X + 49), .int v1, .int v2, .int v3, .int v4, .int v5, .int s0, sm_junk]) (st' := [.ref (X + 49), .ref (X + 75)]) q256 59 1 rfl (sx_gR q256 60 rfl fk_12_39 (fun _ _ => rfl) (hX.s 49 rfl) (hX.r 49 16 rfl) (sx_p (pc' := 101) (lv' := [.ref (X + 49), .int v1, .int v2, .int v3, .int v4, .int v5, .int s0, sm_junk]) (st' := [.int v1, .ref (X + 59), .ref (X + 75)]) q256 61 1 rfl (sx_ia q256 62 rfl (hX.s 59 rfl) (hX.b 59) (sx_p (pc' := 107) (lv' := [.ref (X + 49), .int v1, .int v2, .int v3, .int v4, .int v5, .int s0, sm_junk]) (st' := [.int (((D.1 (X + 59) v1.toNatClampNeg) + v4) + (ni 2)), .ref (X + 75)]) q256 63 4 rfl (sx_ba q256 67 rfl (hX.s 75 rfl) (by simp) (hX.b 75) (sx_p (pc' := 116) (lv' := [.ref (X + 49), .int v1, .int v2, .int v3, .int v4, .int v5, .int s0, sm_junk]) (st' := [.int ((D.1 (X + 75) (((D.1 (X + 59) v1.toNatClampNeg) + v4) + (ni 2)).toNatClampNeg) &&& (ni 255))]) q256 68 3 rfl (sm_ge.refl _))))))))))))
set_option maxRecDepth 8000 in
theorem n256_116 {C : sm_K} {X : Nat} {v1 : Int32} {v2 : Int32} {v3 : Int32} {v4 : Int32} {v5 : Int32} {v6 : Int32} {s0 : Int32} (hX : sm_Lay C X) {D : sm_D} : sm_ge (sm_fx C 256 116 [.ref (X + 49), .int v1, .int v2, .int v3, .int v4, .int v5, .int v6, sm_junk] [.int s0] D) (
  sm_bi (sm_fe C 257 [.int (v5 >>> ((ni 2) &&& 31))] D) (fun x0 D1 =>
    sm_bv (sm_fe C 250 [.ref (X + 49), .int x0] D1) (fun D2 =>
      sm_bi (sm_fe C 257 [.int (((v5 &&& (ni 3)) <<< ((ni 4) &&& 31)) ||| (v6 >>> ((ni 4) &&& 31)))] D2) (fun x1 D3 =>
        sm_bv (sm_fe C 250 [.ref (X + 49), .int x1] D3) (fun D4 =>
          if v2 ≤ (v4 + (ni 1)) then
            sm_fx C 256 177 [.ref (X + 49), .int v1, .int v2, .int v3, .int v4, sm_junk, sm_junk, .int s0] [.int (ni 61), .ref (X + 49)] D4
          else
            sm_bi (sm_fe C 257 [.int (((v6 &&& (ni 15)) <<< ((ni 2) &&& 31)) ||| (s0 >>> ((ni 6) &&& 31)))] D4) (fun x2 D5 =>
              sm_fx C 256 177 [.ref (X + 49), .int v1, .int v2, .int v3, .int v4, sm_junk, sm_junk, .int s0] [.int x2, .ref (X + 49)] D5)))))) := 
  (sx_p (pc' := 123) (lv' := [.ref (X + 49), .int v1, .int v2, .int v3, .int v4, .int v5, .int v6, .int s0]) (st' := [.int (v5 >>> ((ni 2) &&& 31)), .ref (X + 49)]) q256 72 5 rfl (sx_ki (sx_S q256 77 rfl lk_12_566 rfl na_257 rfl rfl rfl rfl) (by decide) rfl (fun x0 D1 => (sx_kv (sx_V q256 78 rfl lk_12_538 vk_250 na_250 rfl rfl rfl rfl (hX.s 49 rfl)) (by decide) rfl (fun D2 => (sx_p (pc' := 141) (lv' := [.ref (X + 49), .int v1, .int v2, .int v3, .int v4, .int v5, .int v6, .int s0]) (st' := [.int (((v5 &&& (ni 3)) <<< ((ni 4) &&& 31)) ||| (v6 >>> ((ni 4) &&& 31))), .ref (X + 49)]) q256 79 10 rfl (sx_ki (sx_S q256 89 rfl lk_12_566 rfl na_257 rfl rfl rfl rfl) (by decide) rfl (fun x1 D3 => (sx_kv (sx_V q256 90 rfl lk_12_538 vk_250 na_250 rfl rfl rfl rfl (hX.s 49 rfl)) (by decide) rfl (fun D4 => (sx_p (pc' := 153) (lv' := [.ref (X + 49), .int v1, .int v2, .int v3, .int v4, .int v5, .int v6, .int s0]) (st' := [.int v2, .int (v4 + (ni 1)), .ref (X + 49)]) q256 91 5 rfl (sx_icmp_ge q256 96 rfl rfl (sx_p (pc' := 177) (lv' := [.ref (X + 49), .int v1, .int v2, .int v3, .int v4, .int v5, .int v6, .int s0]) (st' := [.int (ni 61), .ref (X + 49)]) q256 108 1 rfl (sx_w (lv := [.ref (X + 49), .int v1, .int v2, .int v3, .int v4, .int v5, .int v6, .int s0]) (lv' := [.ref (X + 49), .int v1, .int v2, .int v3, .int v4, sm_junk, sm_junk, .int s0]) (sm_ordl.ord ⟨Or.inr rfl, Or.inr rfl, Or.inr rfl, Or.inr rfl, Or.inr rfl, Or.inl rfl, Or.inl rfl, Or.inr rfl, trivial⟩))) (sx_p (pc' := 169) (lv' := [.ref (X + 49), .int v1, .int v2, .int v3, .int v4, .int v5, .int v6, .int s0]) (st' := [.int (((v6 &&& (ni 15)) <<< ((ni 2) &&& 31)) ||| (s0 >>> ((ni 6) &&& 31))), .ref (X + 49)]) q256 97 9 rfl (sx_ki (sx_S q256 106 rfl lk_12_566 rfl na_257 rfl rfl rfl rfl) (by decide) rfl (fun x2 D5 => (sx_p (pc' := 177) (lv' := [.ref (X + 49), .int v1, .int v2, .int v3, .int v4, .int v5, .int v6, .int s0]) (st' := [.int x2, .ref (X + 49)]) q256 107 1 rfl (sx_w (lv := [.ref (X + 49), .int v1, .int v2, .int v3, .int v4, .int v5, .int v6, .int s0]) (lv' := [.ref (X + 49), .int v1, .int v2, .int v3, .int v4, sm_junk, sm_junk, .int s0]) (sm_ordl.ord ⟨Or.inr rfl, Or.inr rfl, Or.inr rfl, Or.inr rfl, Or.inr rfl, Or.inl rfl, Or.inl rfl, Or.inr rfl, trivial⟩))))))))))))))))))
set_option maxRecDepth 8000 in
theorem n256_177 {C : sm_K} {X : Nat} {v1 : Int32} {v2 : Int32} {v3 : Int32} {v4 : Int32} {v7 : Int32} {s1 : Int32} (hX : sm_Lay C X) {D : sm_D} : sm_ge (sm_fx C 256 177 [.ref (X + 49), .int v1, .int v2, .int v3, .int v4, sm_junk, sm_junk, .int v7] [.int s1, .ref (X + 49)] D) (
  sm_bv (sm_fe C 250 [.ref (X + 49), .int s1] D) (fun D1 =>
    if v2 ≤ (v4 + (ni 2)) then
      sm_fx C 256 202 [.ref (X + 49), .int v1, .int v2, .int v3, .int v4, sm_junk, sm_junk, sm_junk] [.int (ni 61), .ref (X + 49)] D1
    else
      sm_bi (sm_fe C 257 [.int (v7 &&& (ni 63))] D1) (fun x0 D2 =>
        sm_fx C 256 202 [.ref (X + 49), .int v1, .int v2, .int v3, .int v4, sm_junk, sm_junk, sm_junk] [.int x0, .ref (X + 49)] D2))) := 
  (sx_kv (sx_V q256 109 rfl lk_12_538 vk_250 na_250 rfl rfl rfl rfl (hX.s 49 rfl)) (by decide) rfl (fun D1 => (sx_p (pc' := 186) (lv' := [.ref (X + 49), .int v1, .int v2, .int v3, .int v4, sm_junk, sm_junk, .int v7]) (st' := [.int v2, .int (v4 + (ni 2)), .ref (X + 49)]) q256 110 5 rfl (sx_icmp_ge q256 115 rfl rfl (sx_p (pc' := 202) (lv' := [.ref (X + 49), .int v1, .int v2, .int v3, .int v4, sm_junk, sm_junk, .int v7]) (st' := [.int (ni 61), .ref (X + 49)]) q256 121 1 rfl (sx_w (lv := [.ref (X + 49), .int v1, .int v2, .int v3, .int v4, sm_junk, sm_junk, .int v7]) (lv' := [.ref (X + 49), .int v1, .int v2, .int v3, .int v4, sm_junk, sm_junk, sm_junk]) (sm_ordl.ord ⟨Or.inr rfl, Or.inr rfl, Or.inr rfl, Or.inr rfl, Or.inr rfl, Or.inl rfl, Or.inl rfl, Or.inl rfl, trivial⟩))) (sx_p (pc' := 194) (lv' := [.ref (X + 49), .int v1, .int v2, .int v3, .int v4, sm_junk, sm_junk, .int v7]) (st' := [.int (v7 &&& (ni 63)), .ref (X + 49)]) q256 116 3 rfl (sx_ki (sx_S q256 119 rfl lk_12_566 rfl na_257 rfl rfl rfl rfl) (by decide) rfl (fun x0 D2 => (sx_p (pc' := 202) (lv' := [.ref (X + 49), .int v1, .int v2, .int v3, .int v4, sm_junk, sm_junk, .int v7]) (st' := [.int x0, .ref (X + 49)]) q256 120 1 rfl (sx_w (lv := [.ref (X + 49), .int v1, .int v2, .int v3, .int v4, sm_junk, sm_junk, .int v7]) (lv' := [.ref (X + 49), .int v1, .int v2, .int v3, .int v4, sm_junk, sm_junk, sm_junk]) (sm_ordl.ord ⟨Or.inr rfl, Or.inr rfl, Or.inr rfl, Or.inr rfl, Or.inr rfl, Or.inl rfl, Or.inl rfl, Or.inl rfl, trivial⟩))))))))))
set_option maxRecDepth 8000 in
theorem n256_202 {C : sm_K} {X : Nat} {v1 : Int32} {v2 : Int32} {v3 : Int32} {v4 : Int32} {s1 : Int32} (hX : sm_Lay C X) {D : sm_D} : sm_ge (sm_fx C 256 202 [.ref (X + 49), .int v1, .int v2, .int v3, .int v4, sm_junk, sm_junk, sm_junk] [.int s1, .ref (X + 49)] D) (
  sm_bv (sm_fe C 250 [.ref (X + 49), .int s1] D) (fun D1 =>
    sm_fx C 256 12 [.ref (X + 49), .int v1, .int v2, .int (v3 + (ni 4)), .int (v4 + (ni 3)), sm_junk, sm_junk, sm_junk] [] D1)) := 
  (sx_kv (sx_V q256 122 rfl lk_12_538 vk_250 na_250 rfl rfl rfl rfl (hX.s 49 rfl)) (by decide) rfl (fun D1 => (sx_p (pc' := 12) (lv' := [.ref (X + 49), .int v1, .int v2, .int (v3 + (ni 4)), .int (v4 + (ni 3)), sm_junk, sm_junk, sm_junk]) (st' := []) q256 123 9 rfl (sm_ge.refl _))))
set_option maxRecDepth 8000 in
theorem f256 {C : sm_K} {X : Nat} {v1 : Int32} (hX : sm_Lay C X) {D : sm_D} : sm_ge (sm_fe C 256 [.ref (X + 49), .int v1] D) (
  sm_gu (sm_in_b v1 40) (
  sm_fx C 256 12 [.ref (X + 49), .int v1, .int (D.1 (X + 60) v1.toNatClampNeg), .int (ni 0), .int (ni 0), sm_junk, sm_junk, sm_junk] [] D)) := by
  rw [sx_fe (m := 8) rfl rfl]
  exact (show sm_ge (sm_fx C 256 0 [.ref (X + 49), .int v1, sm_junk, sm_junk, sm_junk, sm_junk, sm_junk, sm_junk] [] D) _ from (sx_p (pc' := 1) (lv' := [.ref (X + 49), .int v1, sm_junk, sm_junk, sm_junk, sm_junk, sm_junk, sm_junk]) (st' := [.ref (X + 49)]) q256 0 1 rfl (sx_gR q256 1 rfl fk_12_42 (fun _ _ => rfl) (hX.s 49 rfl) (hX.r 49 17 rfl) (sx_p (pc' := 5) (lv' := [.ref (X + 49), .int v1, sm_junk, sm_junk, sm_junk, sm_junk, sm_junk, sm_junk]) (st' := [.int v1, .ref (X + 60)]) q256 2 1 rfl (sx_ia q256 3 rfl (hX.s 60 rfl) (hX.b 60) (sx_p (pc' := 12) (lv' := [.ref (X + 49), .int v1, .int (D.1 (X + 60) v1.toNatClampNeg), .int (ni 0), .int (ni 0), sm_junk, sm_junk, sm_junk]) (st' := []) q256 4 5 rfl (sm_ge.refl _)))))))
/-! MessageTreeModel.sign -/
theorem q257 : sm_q 257 12 sm_i257 0 := ⟨rfl, rfl, rfl⟩
set_option maxRecDepth 8000 in
theorem f257 {C : sm_K} {v0 : Int32} {D : sm_D} : sm_ge (sm_fe C 257 [.int v0] D) (
  if (ni 26) ≤ v0 then
    if (ni 52) ≤ v0 then
      if (ni 62) ≤ v0 then
        if v0 = (ni 62) then
          some (.inl (some (.int (ni 43))), D)
        else
          some (.inl (some (.int (ni 47))), D)
      else
        some (.inl (some (.int (((ni 48) + v0) - (ni 52)))), D)
    else
      some (.inl (some (.int (((ni 97) + v0) - (ni 26)))), D)
  else
    some (.inl (some (.int ((ni 65) + v0))), D)) := by
  rw [sx_fe (m := 1) rfl rfl]
  exact (show sm_ge (sm_fx C 257 0 [.int v0] [] D) _ from (sx_p (pc' := 3) (lv' := [.int v0]) (st' := [.int (ni 26), .int v0]) q257 0 2 rfl (sx_icmp_ge q257 2 rfl rfl (sx_p (pc' := 16) (lv' := [.int v0]) (st' := [.int (ni 52), .int v0]) q257 7 2 rfl (sx_icmp_ge q257 9 rfl rfl (sx_p (pc' := 32) (lv' := [.int v0]) (st' := [.int (ni 62), .int v0]) q257 16 2 rfl (sx_icmp_ge q257 18 rfl rfl (sx_p (pc' := 48) (lv' := [.int v0]) (st' := [.int (ni 62), .int v0]) q257 25 2 rfl (sx_icmp_ne q257 27 rfl rfl (sx_p (pc' := 58) (lv' := [.int v0]) (st' := [.int (ni 47)]) q257 30 1 rfl (sx_ri (ty := .int) q257 31 rfl rfl)) (sx_p (pc' := 58) (lv' := [.int v0]) (st' := [.int (ni 43)]) q257 28 2 rfl (sx_ri (ty := .int) q257 31 rfl rfl)))) (sx_p (pc' := 58) (lv' := [.int v0]) (st' := [.int (((ni 48) + v0) - (ni 52))]) q257 19 6 rfl (sx_ri (ty := .int) q257 31 rfl rfl)))) (sx_p (pc' := 58) (lv' := [.int v0]) (st' := [.int (((ni 97) + v0) - (ni 26))]) q257 10 6 rfl (sx_ri (ty := .int) q257 31 rfl rfl)))) (sx_p (pc' := 58) (lv' := [.int v0]) (st' := [.int ((ni 65) + v0)]) q257 3 4 rfl (sx_ri (ty := .int) q257 31 rfl rfl)))))
/-! MessageTreeModel.out -/
theorem q258 : sm_q 258 12 sm_i258 1 := ⟨rfl, rfl, rfl⟩
set_option maxRecDepth 8000 in
theorem f258 {C : sm_K} {X : Nat} {v1 : Int32} (hX : sm_Lay C X) {D : sm_D} : sm_ge (sm_fe C 258 [.ref (X + 49), .int v1] D) (
  sm_bi (sm_fe C 157 [.int v1, .int (ni 0), .int ((D.1 (X + 49) 43) - (ni 1))] D) (fun x0 D1 =>
    sm_bi (sm_fe C 155 [.ref (X + 49), .int x0] D1) (fun x1 D2 =>
      if x1 = ni 0 then
        some (.inl (some (.int (ni 0))), D2)
      else
        sm_gu (sm_in_b v1 60000) (
        some (.inl (some (.int ((D2.1 (X + 80) v1.toNatClampNeg) &&& (ni 255)))), D2))))) := by
  rw [sx_fe (m := 2) rfl rfl]
  exact (show sm_ge (sm_fx C 258 0 [.ref (X + 49), .int v1] [] D) _ from (sx_p (pc' := 4) (lv' := [.ref (X + 49), .int v1]) (st' := [.ref (X + 49), .int (ni 0), .int v1, .ref (X + 49)]) q258 0 4 rfl (sx_gI q258 4 rfl fk_12_535 rfl (hX.s 49 rfl) (hX.b 49) (sx_p (pc' := 9) (lv' := [.ref (X + 49), .int v1]) (st' := [.int ((D.1 (X + 49) 43) - (ni 1)), .int (ni 0), .int v1, .ref (X + 49)]) q258 5 2 rfl (sx_ki (sx_S q258 7 rfl lk_12_137 rfl na_157 rfl rfl rfl rfl) (by decide) rfl (fun x0 D1 => (sx_ki (sx_V q258 8 rfl lk_12_144 vk_155 na_155 rfl rfl rfl rfl (hX.s 49 rfl)) (by decide) rfl (fun x1 D2 => (sx_if_eq q258 9 rfl rfl (sx_p (pc' := 32) (lv' := [.ref (X + 49), .int v1]) (st' := [.int (ni 0)]) q258 17 1 rfl (sx_ri (ty := .int) q258 18 rfl rfl)) (sx_p (pc' := 19) (lv' := [.ref (X + 49), .int v1]) (st' := [.ref (X + 49)]) q258 10 1 rfl (sx_gR q258 11 rfl fk_12_103 (fun _ _ => rfl) (hX.s 49 rfl) (hX.r 49 44 rfl) (sx_p (pc' := 23) (lv' := [.ref (X + 49), .int v1]) (st' := [.int v1, .ref (X + 80)]) q258 12 1 rfl (sx_ba q258 13 rfl (hX.s 80 rfl) (by simp) (hX.b 80) (sx_p (pc' := 32) (lv' := [.ref (X + 49), .int v1]) (st' := [.int ((D2.1 (X + 80) v1.toNatClampNeg) &&& (ni 255))]) q258 14 3 rfl (sx_ri (ty := .int) q258 18 rfl rfl)))))))))))))))
/-! MessageTreeModel.again -/
theorem q259 : sm_q 259 12 sm_i259 1 := ⟨rfl, rfl, rfl⟩
set_option maxRecDepth 8000 in
theorem n259_16 {C : sm_K} {X : Nat} {s1 : Int32} (hX : sm_Lay C X) {D : sm_D} : sm_ge (sm_fx C 259 16 [.ref (X + 49), sm_junk] [.int s1, .ref (X + 49)] D) (
  sm_bi (sm_fe C 155 [.ref (X + 49), .int s1] D) (fun x0 D1 =>
    if x0 = ni 0 then
      some (.inl (some (.int (ni 0))), D1)
    else
      let D2 := sm_dI D1 (X + 49) 2 (D1.1 (X + 49) 43)
      sm_fx C 259 34 [.ref (X + 49), .int (ni 0)] [] D2)) := 
  (sx_ki (sx_V q259 8 rfl lk_12_144 vk_155 na_155 rfl rfl rfl rfl (hX.s 49 rfl)) (by decide) rfl (fun x0 D1 => (sx_if_ne q259 9 rfl rfl (sx_p (pc' := 26) (lv' := [.ref (X + 49), sm_junk]) (st' := [.ref (X + 49), .ref (X + 49)]) q259 12 2 rfl (sx_gI q259 14 rfl fk_12_535 rfl (hX.s 49 rfl) (hX.b 49) (sx_pI q259 15 rfl pk_12_141 rfl (hX.s 49 rfl) (hX.b 49) (sx_p (pc' := 34) (lv' := [.ref (X + 49), .int (ni 0)]) (st' := []) q259 16 2 rfl (sm_ge.refl _))))) (sx_p (pc' := 23) (lv' := [.ref (X + 49), sm_junk]) (st' := [.int (ni 0)]) q259 10 1 rfl (sx_ri (ty := .int) q259 11 rfl rfl)))))
set_option maxRecDepth 8000 in
theorem n259_34 {C : sm_K} {X : Nat} {v1 : Int32} (hX : sm_Lay C X) {D : sm_D} : sm_ge (sm_fx C 259 34 [.ref (X + 49), .int v1] [] D) (
  if (D.1 (X + 49) 43) ≤ v1 then
    some (.inl (some (.int (D.1 (X + 49) 2))), D)
  else
    sm_gu (sm_in_b v1 60000) (
    sm_gu (sm_in_b v1 8000) (
    let D1 := sm_dI D (X + 50) (v1.toNatClampNeg) (sm_nar .byte (D.1 (X + 80) v1.toNatClampNeg))
    sm_fx C 259 34 [.ref (X + 49), .int (v1 + ni 1)] [] D1))) := 
  (sx_p (pc' := 36) (lv' := [.ref (X + 49), .int v1]) (st' := [.ref (X + 49), .int v1]) q259 18 2 rfl (sx_gI q259 20 rfl fk_12_535 rfl (hX.s 49 rfl) (hX.b 49) (sx_icmp_ge q259 21 rfl rfl (sx_p (pc' := 61) (lv' := [.ref (X + 49), .int v1]) (st' := [.ref (X + 49)]) q259 32 1 rfl (sx_gI q259 33 rfl fk_12_141 rfl (hX.s 49 rfl) (hX.b 49) (sx_ri (ty := .int) q259 34 rfl rfl))) (sx_p (pc' := 43) (lv' := [.ref (X + 49), .int v1]) (st' := [.ref (X + 49)]) q259 22 1 rfl (sx_gR q259 23 rfl fk_12_7 (fun _ _ => rfl) (hX.s 49 rfl) (hX.r 49 1 rfl) (sx_p (pc' := 48) (lv' := [.ref (X + 49), .int v1]) (st' := [.ref (X + 49), .int v1, .ref (X + 50)]) q259 24 2 rfl (sx_gR q259 26 rfl fk_12_103 (fun _ _ => rfl) (hX.s 49 rfl) (hX.r 49 44 rfl) (sx_p (pc' := 52) (lv' := [.ref (X + 49), .int v1]) (st' := [.int v1, .ref (X + 80), .int v1, .ref (X + 50)]) q259 27 1 rfl (sx_ba q259 28 rfl (hX.s 80 rfl) (by simp) (hX.b 80) (sx_bs q259 29 rfl (hX.s 50 rfl) (by simp) (hX.b 50) (sx_p (pc' := 34) (lv' := [.ref (X + 49), .int (v1 + ni 1)]) (st' := []) q259 30 2 rfl (sm_ge.refl _))))))))))))
set_option maxRecDepth 8000 in
theorem f259 {C : sm_K} {X : Nat} (hX : sm_Lay C X) {D : sm_D} : sm_ge (sm_fe C 259 [.ref (X + 49)] D) (
  if (ni 8000) < (D.1 (X + 49) 43) then
    sm_fx C 259 16 [.ref (X + 49), sm_junk] [.int (ni 0), .ref (X + 49)] D
  else
    sm_fx C 259 16 [.ref (X + 49), sm_junk] [.int (ni 1), .ref (X + 49)] D) := by
  rw [sx_fe (m := 2) rfl rfl]
  exact (show sm_ge (sm_fx C 259 0 [.ref (X + 49), sm_junk] [] D) _ from (sx_p (pc' := 2) (lv' := [.ref (X + 49), sm_junk]) (st' := [.ref (X + 49), .ref (X + 49)]) q259 0 2 rfl (sx_gI q259 2 rfl fk_12_535 rfl (hX.s 49 rfl) (hX.b 49) (sx_p (pc' := 8) (lv' := [.ref (X + 49), sm_junk]) (st' := [.int (ni 8000), .int (D.1 (X + 49) 43), .ref (X + 49)]) q259 3 1 rfl (sx_icmp_gt q259 4 rfl rfl (sx_p (pc' := 16) (lv' := [.ref (X + 49), sm_junk]) (st' := [.int (ni 0), .ref (X + 49)]) q259 7 1 rfl (sm_ge.refl _)) (sx_p (pc' := 16) (lv' := [.ref (X + 49), sm_junk]) (st' := [.int (ni 1), .ref (X + 49)]) q259 5 2 rfl (sm_ge.refl _)))))))
/-! String.length -/
theorem q260 : sm_q 260 13 sm_i260 1 := ⟨rfl, rfl, rfl⟩
set_option maxRecDepth 8000 in
theorem f260 {C : sm_K} {s : Nat} {w : Nat} {nw : Nat} (hs : sm_sr C s w nw) {D : sm_D} : sm_ge (sm_fe C 260 [.ref s] D) (
  sm_bi (sm_fe C 261 [.ref s] D) (fun x0 D1 =>
    some (.inl (some (.int ((ni nw) >>> (x0 &&& 31)))), D1))) := by
  rw [sx_fe (m := 1) rfl rfl]
  exact (show sm_ge (sm_fx C 260 0 [.ref s] [] D) _ from (sx_p (pc' := 1) (lv' := [.ref s]) (st' := [.ref s]) q260 0 1 rfl (sx_gR q260 1 rfl fk_13_9 (fun _ _ => rfl) hs.1 hs.2.1 (sx_al q260 2 rfl hs.2.2.1 (sx_p (pc' := 6) (lv' := [.ref s]) (st' := [.ref s, .int (ni nw)]) q260 3 1 rfl (sx_ki (sx_V q260 4 rfl lk_13_335 vk_261 na_261 rfl rfl rfl rfl hs.1) (by decide) rfl (fun x0 D1 => (sx_p (pc' := 10) (lv' := [.ref s]) (st' := [.int ((ni nw) >>> (x0 &&& 31))]) q260 5 1 rfl (sx_ri (ty := .int) q260 6 rfl rfl)))))))))
/-! String.coder -/
theorem q261 : sm_q 261 13 sm_i261 0 := ⟨rfl, rfl, rfl⟩
set_option maxRecDepth 8000 in
theorem f261 {C : sm_K} {s : Nat} {w : Nat} {nw : Nat} (hs : sm_sr C s w nw) {D : sm_D} : sm_ge (sm_fe C 261 [.ref s] D) (
  if (ni 1) = ni 0 then
    some (.inl (some (.int (sm_nar .byte (ni 1)))), D)
  else
    some (.inl (some (.int (sm_nar .byte (C.2.2.2 s 1)))), D)) := by
  rw [sx_fe (m := 1) rfl rfl]
  exact (show sm_ge (sm_fx C 261 0 [.ref s] [] D) _ from (sx_gs q261 0 rfl gs_13_38 (sx_if_eq q261 1 rfl rfl (sx_p (pc' := 14) (lv' := [.ref s]) (st' := [.int (ni 1)]) q261 5 1 rfl (sx_ri (ty := .byte) q261 6 rfl rfl)) (sx_p (pc' := 7) (lv' := [.ref s]) (st' := [.ref s]) q261 2 1 rfl (sx_gIlo q261 3 rfl fk_13_15 rfl hs.1 hs.2.2.2.1 (sx_p (pc' := 14) (lv' := [.ref s]) (st' := [.int (C.2.2.2 s 1)]) q261 4 1 rfl (sx_ri (ty := .byte) q261 6 rfl rfl)))))))
/-! String.charAt -/
theorem q262 : sm_q 262 13 sm_i262 3 := ⟨rfl, rfl, rfl⟩
set_option maxRecDepth 8000 in
theorem f262 {C : sm_K} {s : Nat} {w : Nat} {nw : Nat} {v1 : Int32} (hs : sm_sr C s w nw) {D : sm_D} : sm_ge (sm_fe C 262 [.ref s, .int v1] D) (
  sm_bi (sm_fe C 263 [.ref s] D) (fun x0 D1 =>
    if x0 = ni 0 then
      none
    else
      sm_bi (sm_fe C 286 [.ref w, .int v1] D1) (fun x1 D2 =>
        some (.inl (some (.int (sm_nar .char x1))), D2)))) := by
  rw [sx_fe (m := 2) rfl rfl]
  exact (show sm_ge (sm_fx C 262 0 [.ref s, .int v1] [] D) _ from (sx_p (pc' := 1) (lv' := [.ref s, .int v1]) (st' := [.ref s]) q262 0 1 rfl (sx_ki (sx_V q262 1 rfl lk_13_492 vk_263 na_263 rfl rfl rfl rfl hs.1) (by decide) rfl (fun x0 D1 => (sx_if_eq q262 2 rfl rfl (sx_p (pc' := 17) (lv' := [.ref s, .int v1]) (st' := [.ref s]) q262 8 1 rfl (sx_gR q262 9 rfl fk_13_9 (fun _ _ => rfl) hs.1 hs.2.1 (sx_p (pc' := 21) (lv' := [.ref s, .int v1]) (st' := [.int v1, .ref w]) q262 10 1 rfl (sm_ge.none _)))) (sx_p (pc' := 8) (lv' := [.ref s, .int v1]) (st' := [.ref s]) q262 3 1 rfl (sx_gR q262 4 rfl fk_13_9 (fun _ _ => rfl) hs.1 hs.2.1 (sx_p (pc' := 12) (lv' := [.ref s, .int v1]) (st' := [.int v1, .ref w]) q262 5 1 rfl (sx_ki (sx_S q262 6 rfl lk_13_495 rfl na_286 rfl rfl rfl rfl) (by decide) rfl (fun x1 D2 => (sx_ri (ty := .char) q262 7 rfl rfl)))))))))))
/-! String.isLatin1 -/
theorem q263 : sm_q 263 13 sm_i263 0 := ⟨rfl, rfl, rfl⟩
set_option maxRecDepth 8000 in
theorem f263 {C : sm_K} {s : Nat} {w : Nat} {nw : Nat} (hs : sm_sr C s w nw) {D : sm_D} : sm_ge (sm_fe C 263 [.ref s] D) (
  if (ni 1) = ni 0 then
    some (.inl (some (.int (sm_nar .boolean (ni 0)))), D)
  else
    if (C.2.2.2 s 1) = ni 0 then
      some (.inl (some (.int (sm_nar .boolean (ni 1)))), D)
    else
      some (.inl (some (.int (sm_nar .boolean (ni 0)))), D)) := by
  rw [sx_fe (m := 1) rfl rfl]
  exact (show sm_ge (sm_fx C 263 0 [.ref s] [] D) _ from (sx_gs q263 0 rfl gs_13_38 (sx_if_eq q263 1 rfl rfl (sx_p (pc' := 18) (lv' := [.ref s]) (st' := [.int (ni 0)]) q263 7 1 rfl (sx_ri (ty := .boolean) q263 8 rfl rfl)) (sx_p (pc' := 7) (lv' := [.ref s]) (st' := [.ref s]) q263 2 1 rfl (sx_gIlo q263 3 rfl fk_13_15 rfl hs.1 hs.2.2.2.1 (sx_if_ne q263 4 rfl rfl (sx_p (pc' := 18) (lv' := [.ref s]) (st' := [.int (ni 0)]) q263 7 1 rfl (sx_ri (ty := .boolean) q263 8 rfl rfl)) (sx_p (pc' := 18) (lv' := [.ref s]) (st' := [.int (ni 1)]) q263 5 2 rfl (sx_ri (ty := .boolean) q263 8 rfl rfl))))))))
/-! String.checkIndex -/
theorem q264 : sm_q 264 13 sm_i264 1 := ⟨rfl, rfl, rfl⟩
set_option maxRecDepth 8000 in
theorem f264 {C : sm_K} {v0 : Int32} {v1 : Int32} {D : sm_D} : sm_ge (sm_fe C 264 [.int v0, .int v1] D) (
  sm_bi (sm_fe C 290 [.int v0, .int v1, C.1.2] D) (fun x0 D1 =>
    some (.inl none, D1))) := by
  rw [sx_fe (m := 2) rfl rfl]
  exact (show sm_ge (sm_fx C 264 0 [.int v0, .int v1] [] D) _ from (sx_p (pc' := 2) (lv' := [.int v0, .int v1]) (st' := [.int v1, .int v0]) q264 0 2 rfl (sx_gs q264 2 rfl gs_13_1053 (sx_ki (sx_S q264 3 rfl lk_13_1059 rfl na_290 rfl rfl rfl rfl) (by decide) rfl (fun x0 D1 => (sx_p (pc' := 9) (lv' := [.int v0, .int v1]) (st' := []) q264 4 1 rfl (sx_rv q264 5 rfl rfl)))))))
/-! String.indexOf -/
theorem q265 : sm_q 265 13 sm_i265 3 := ⟨rfl, rfl, rfl⟩
set_option maxRecDepth 8000 in
theorem f265 {C : sm_K} {s : Nat} {w : Nat} {nw : Nat} {v1 : Int32} (hs : sm_sr C s w nw) {D : sm_D} : sm_ge (sm_fe C 265 [.ref s, .int v1] D) (
  sm_bi (sm_fe C 266 [.ref s, .int v1, .int (ni 0)] D) (fun x0 D1 =>
    some (.inl (some (.int x0)), D1))) := by
  rw [sx_fe (m := 2) rfl rfl]
  exact (show sm_ge (sm_fx C 265 0 [.ref s, .int v1] [] D) _ from (sx_p (pc' := 3) (lv' := [.ref s, .int v1]) (st' := [.int (ni 0), .int v1, .ref s]) q265 0 3 rfl (sx_ki (sx_V q265 3 rfl lk_13_633 vk_266 na_266 rfl rfl rfl rfl hs.1) (by decide) rfl (fun x0 D1 => (sx_ri (ty := .int) q265 4 rfl rfl)))))
/-! String.indexOf -/
theorem q266 : sm_q 266 13 sm_i266 2 := ⟨rfl, rfl, rfl⟩
set_option maxRecDepth 8000 in
theorem f266 {C : sm_K} {s : Nat} {w : Nat} {nw : Nat} {v1 : Int32} {v2 : Int32} (hs : sm_sr C s w nw) {D : sm_D} : sm_ge (sm_fe C 266 [.ref s, .int v1, .int v2] D) (
  sm_bi (sm_fe C 263 [.ref s] D) (fun x0 D1 =>
    if x0 = ni 0 then
      sm_bi (sm_fe C 260 [.ref s] D1) (fun x1 D2 =>
        none)
    else
      sm_bi (sm_fe C 260 [.ref s] D1) (fun x1 D3 =>
        sm_bi (sm_fe C 287 [.ref w, .int v1, .int v2, .int x1] D3) (fun x2 D4 =>
          some (.inl (some (.int x2)), D4))))) := by
  rw [sx_fe (m := 3) rfl rfl]
  exact (show sm_ge (sm_fx C 266 0 [.ref s, .int v1, .int v2] [] D) _ from (sx_p (pc' := 1) (lv' := [.ref s, .int v1, .int v2]) (st' := [.ref s]) q266 0 1 rfl (sx_ki (sx_V q266 1 rfl lk_13_492 vk_263 na_263 rfl rfl rfl rfl hs.1) (by decide) rfl (fun x0 D1 => (sx_if_eq q266 2 rfl rfl (sx_p (pc' := 24) (lv' := [.ref s, .int v1, .int v2]) (st' := [.ref s]) q266 11 1 rfl (sx_gR q266 12 rfl fk_13_9 (fun _ _ => rfl) hs.1 hs.2.1 (sx_p (pc' := 30) (lv' := [.ref s, .int v1, .int v2]) (st' := [.ref s, .int v2, .int v1, .ref w]) q266 13 3 rfl (sx_ki (sx_V q266 16 rfl lk_13_505 vk_260 na_260 rfl rfl rfl rfl hs.1) (by decide) rfl (fun x1 D2 => (sm_ge.none _)))))) (sx_p (pc' := 8) (lv' := [.ref s, .int v1, .int v2]) (st' := [.ref s]) q266 3 1 rfl (sx_gR q266 4 rfl fk_13_9 (fun _ _ => rfl) hs.1 hs.2.1 (sx_p (pc' := 14) (lv' := [.ref s, .int v1, .int v2]) (st' := [.ref s, .int v2, .int v1, .ref w]) q266 5 3 rfl (sx_ki (sx_V q266 8 rfl lk_13_505 vk_260 na_260 rfl rfl rfl rfl hs.1) (by decide) rfl (fun x1 D3 => (sx_ki (sx_S q266 9 rfl lk_13_637 rfl na_287 rfl rfl rfl rfl) (by decide) rfl (fun x2 D4 => (sx_p (pc' := 36) (lv' := [.ref s, .int v1, .int v2]) (st' := [.int x2]) q266 10 1 rfl (sx_ri (ty := .int) q266 18 rfl rfl))))))))))))))
/-! Math.max -/
theorem q283 : sm_q 283 15 sm_i283 0 := ⟨rfl, rfl, rfl⟩
set_option maxRecDepth 8000 in
theorem f283 {C : sm_K} {v0 : Int32} {v1 : Int32} {D : sm_D} : sm_ge (sm_fe C 283 [.int v0, .int v1] D) (
  if v0 < v1 then
    some (.inl (some (.int v1)), D)
  else
    some (.inl (some (.int v0)), D)) := by
  rw [sx_fe (m := 2) rfl rfl]
  exact (show sm_ge (sm_fx C 283 0 [.int v0, .int v1] [] D) _ from (sx_p (pc' := 2) (lv' := [.int v0, .int v1]) (st' := [.int v1, .int v0]) q283 0 2 rfl (sx_icmp_lt q283 2 rfl rfl (sx_p (pc' := 10) (lv' := [.int v0, .int v1]) (st' := [.int v1]) q283 5 1 rfl (sx_ri (ty := .int) q283 6 rfl rfl)) (sx_p (pc' := 10) (lv' := [.int v0, .int v1]) (st' := [.int v0]) q283 3 2 rfl (sx_ri (ty := .int) q283 6 rfl rfl)))))
/-! Math.min -/
theorem q284 : sm_q 284 15 sm_i284 0 := ⟨rfl, rfl, rfl⟩
set_option maxRecDepth 8000 in
theorem f284 {C : sm_K} {v0 : Int32} {v1 : Int32} {D : sm_D} : sm_ge (sm_fe C 284 [.int v0, .int v1] D) (
  if v1 < v0 then
    some (.inl (some (.int v1)), D)
  else
    some (.inl (some (.int v0)), D)) := by
  rw [sx_fe (m := 2) rfl rfl]
  exact (show sm_ge (sm_fx C 284 0 [.int v0, .int v1] [] D) _ from (sx_p (pc' := 2) (lv' := [.int v0, .int v1]) (st' := [.int v1, .int v0]) q284 0 2 rfl (sx_icmp_gt q284 2 rfl rfl (sx_p (pc' := 10) (lv' := [.int v0, .int v1]) (st' := [.int v1]) q284 5 1 rfl (sx_ri (ty := .int) q284 6 rfl rfl)) (sx_p (pc' := 10) (lv' := [.int v0, .int v1]) (st' := [.int v0]) q284 3 2 rfl (sx_ri (ty := .int) q284 6 rfl rfl)))))
/-! Math.floorMod -/
theorem q285 : sm_q 285 15 sm_i285 0 := ⟨rfl, rfl, rfl⟩
set_option maxRecDepth 8000 in
theorem f285 {C : sm_K} {v0 : Int64} {D : sm_D} : sm_ge (sm_fe C 285 [.long v0, .long (7 : Int64)] D) (
  if ni 0 ≤ (lg_cmp (v0 ^^^ (7 : Int64)) (Int64.ofNat 0)) then
    some (.inl (some (.long (v0 - v0 / (7 : Int64) * (7 : Int64)))), D)
  else
    if (lg_cmp (v0 - v0 / (7 : Int64) * (7 : Int64)) (Int64.ofNat 0)) = ni 0 then
      some (.inl (some (.long (v0 - v0 / (7 : Int64) * (7 : Int64)))), D)
    else
      some (.inl (some (.long ((v0 - v0 / (7 : Int64) * (7 : Int64)) + (7 : Int64)))), D)) := by
  rw [sx_fe (m := 6) rfl rfl]
  exact (show sm_ge (sm_fx C 285 0 [.long v0, sm_junk, .long (7 : Int64), sm_junk, sm_junk, sm_junk] [] D) _ from (sx_p (pc' := 10) (lv' := [.long v0, sm_junk, .long (7 : Int64), sm_junk, .long (v0 - v0 / (7 : Int64) * (7 : Int64)), sm_junk]) (st' := [.int (lg_cmp (v0 ^^^ (7 : Int64)) (Int64.ofNat 0))]) q285 0 9 rfl (sx_if_ge q285 9 rfl rfl (sx_p (pc' := 27) (lv' := [.long v0, sm_junk, .long (7 : Int64), sm_junk, .long (v0 - v0 / (7 : Int64) * (7 : Int64)), sm_junk]) (st' := [.long (v0 - v0 / (7 : Int64) * (7 : Int64))]) q285 18 1 rfl (sx_rj q285 19 rfl rfl)) (sx_p (pc' := 17) (lv' := [.long v0, sm_junk, .long (7 : Int64), sm_junk, .long (v0 - v0 / (7 : Int64) * (7 : Int64)), sm_junk]) (st' := [.int (lg_cmp (v0 - v0 / (7 : Int64) * (7 : Int64)) (Int64.ofNat 0))]) q285 10 3 rfl (sx_if_eq q285 13 rfl rfl (sx_p (pc' := 27) (lv' := [.long v0, sm_junk, .long (7 : Int64), sm_junk, .long (v0 - v0 / (7 : Int64) * (7 : Int64)), sm_junk]) (st' := [.long (v0 - v0 / (7 : Int64) * (7 : Int64))]) q285 18 1 rfl (sx_rj q285 19 rfl rfl)) (sx_p (pc' := 24) (lv' := [.long v0, sm_junk, .long (7 : Int64), sm_junk, .long (v0 - v0 / (7 : Int64) * (7 : Int64)), sm_junk]) (st' := [.long ((v0 - v0 / (7 : Int64) * (7 : Int64)) + (7 : Int64))]) q285 14 3 rfl (sx_rj q285 17 rfl rfl)))))))
