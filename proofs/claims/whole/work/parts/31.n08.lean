/-! ===== what methods do from place to place, written by a program (wip/tools/gen_nodes.py) ===== -/
/-! MessageTreeModel.begin -/
theorem q176 : sm_q 176 12 sm_i176 2 := ⟨rfl, rfl, rfl⟩
set_option maxRecDepth 8000 in
theorem f176 {C : sm_K} {X : Nat} {v1 : Int32} (hX : sm_Lay C X) {D : sm_D} : sm_ge (sm_fe C 176 [.ref (X + 49), .int v1] D) (
  sm_gu (sm_in_b v1 200) (
  let D1 := sm_dI D (X + 49) 46 (D.1 (X + 73) v1.toNatClampNeg)
  sm_gu (sm_in_b v1 200) (
  let D2 := sm_dI D1 (X + 49) 47 (D1.1 (X + 74) v1.toNatClampNeg)
  sm_bv (sm_fe C 177 [.ref (X + 49)] D2) (fun D3 =>
    some (.inl none, D3))))) := by
  rw [sx_fe (m := 2) rfl rfl]
  exact (show sm_ge (sm_fx C 176 0 [.ref (X + 49), .int v1] [] D) _ from (sx_p (pc' := 2) (lv' := [.ref (X + 49), .int v1]) (st' := [.ref (X + 49), .ref (X + 49)]) q176 0 2 rfl (sx_gR q176 2 rfl fk_12_81 (fun _ _ => rfl) (hX.s 49 rfl) (hX.r 49 32 rfl) (sx_p (pc' := 6) (lv' := [.ref (X + 49), .int v1]) (st' := [.int v1, .ref (X + 73), .ref (X + 49)]) q176 3 1 rfl (sx_ia q176 4 rfl (hX.s 73 rfl) (hX.b 73) (sx_pI q176 5 rfl pk_12_208 rfl (hX.s 49 rfl) (hX.b 49) (sx_p (pc' := 12) (lv' := [.ref (X + 49), .int v1]) (st' := [.ref (X + 49), .ref (X + 49)]) q176 6 2 rfl (sx_gR q176 8 rfl fk_12_84 (fun _ _ => rfl) (hX.s 49 rfl) (hX.r 49 33 rfl) (sx_p (pc' := 16) (lv' := [.ref (X + 49), .int v1]) (st' := [.int v1, .ref (X + 74), .ref (X + 49)]) q176 9 1 rfl (sx_ia q176 10 rfl (hX.s 74 rfl) (hX.b 74) (sx_pI q176 11 rfl pk_12_211 rfl (hX.s 49 rfl) (hX.b 49) (sx_p (pc' := 21) (lv' := [.ref (X + 49), .int v1]) (st' := [.ref (X + 49)]) q176 12 1 rfl (sx_kv (sx_V q176 13 rfl lk_12_214 vk_177 na_177 rfl rfl rfl rfl (hX.s 49 rfl)) (by decide) rfl (fun D3 => (sx_rv q176 14 rfl rfl)))))))))))))))
/-! MessageTreeModel.overFolds -/
theorem q177 : sm_q 177 12 sm_i177 1 := ⟨rfl, rfl, rfl⟩
set_option maxRecDepth 8000 in
theorem n177_0 {C : sm_K} {X : Nat} (hX : sm_Lay C X) {D : sm_D} : sm_ge (sm_fx C 177 0 [.ref (X + 49)] [] D) (
  if (D.1 (X + 49) 47) ≤ (D.1 (X + 49) 46) then
    some (.inl none, D)
  else
    sm_bi (sm_fe C 161 [.ref (X + 49), .int (D.1 (X + 49) 46)] D) (fun x0 D1 =>
      if x0 = (ni 13) then
        let D2 := sm_dI D1 (X + 49) 46 ((D1.1 (X + 49) 46) + (ni 2))
        sm_fx C 177 0 [.ref (X + 49)] [] D2
      else
        some (.inl none, D1))) := 
  (sx_p (pc' := 1) (lv' := [.ref (X + 49)]) (st' := [.ref (X + 49)]) q177 0 1 rfl (sx_gI q177 1 rfl fk_12_208 rfl (hX.s 49 rfl) (hX.b 49) (sx_p (pc' := 5) (lv' := [.ref (X + 49)]) (st' := [.ref (X + 49), .int (D.1 (X + 49) 46)]) q177 2 1 rfl (sx_gI q177 3 rfl fk_12_211 rfl (hX.s 49 rfl) (hX.b 49) (sx_icmp_ge q177 4 rfl rfl (sx_rv q177 18 rfl rfl) (sx_p (pc' := 13) (lv' := [.ref (X + 49)]) (st' := [.ref (X + 49), .ref (X + 49)]) q177 5 2 rfl (sx_gI q177 7 rfl fk_12_208 rfl (hX.s 49 rfl) (hX.b 49) (sx_ki (sx_V q177 8 rfl lk_12_151 vk_161 na_161 rfl rfl rfl rfl (hX.s 49 rfl)) (by decide) rfl (fun x0 D1 => (sx_p (pc' := 21) (lv' := [.ref (X + 49)]) (st' := [.int (ni 13), .int x0]) q177 9 1 rfl (sx_icmp_ne q177 10 rfl rfl (sx_rv q177 18 rfl rfl) (sx_p (pc' := 26) (lv' := [.ref (X + 49)]) (st' := [.ref (X + 49), .ref (X + 49)]) q177 11 2 rfl (sx_gI q177 13 rfl fk_12_208 rfl (hX.s 49 rfl) (hX.b 49) (sx_p (pc' := 31) (lv' := [.ref (X + 49)]) (st' := [.int ((D1.1 (X + 49) 46) + (ni 2)), .ref (X + 49)]) q177 14 2 rfl (sx_pI q177 16 rfl pk_12_208 rfl (hX.s 49 rfl) (hX.b 49) (sx_p (pc' := 0) (lv' := [.ref (X + 49)]) (st' := []) q177 17 1 rfl (sm_ge.refl _)))))))))))))))))
set_option maxRecDepth 8000 in
theorem f177 {C : sm_K} {X : Nat} (hX : sm_Lay C X) {D : sm_D} : sm_ge (sm_fe C 177 [.ref (X + 49)] D) (
  sm_fx C 177 0 [.ref (X + 49)] [] D) := by
  rw [sx_fe (m := 1) rfl rfl]
  exact (show sm_ge (sm_fx C 177 0 [.ref (X + 49)] [] D) _ from (sm_ge.refl _))
/-! MessageTreeModel.space -/
theorem q178 : sm_q 178 12 sm_i178 3 := ⟨rfl, rfl, rfl⟩
set_option maxRecDepth 8000 in
theorem n178_4 {C : sm_K} {X : Nat} {v1 : Int32} {v2 : Int32} (hX : sm_Lay C X) {D : sm_D} : sm_ge (sm_fx C 178 4 [.ref (X + 49), .int v1, .int v2, sm_junk] [] D) (
  if v2 = ni 0 then
    some (.inl none, D)
  else
    if (D.1 (X + 49) 8) = (sm_k (-1)) then
      sm_bi (sm_fe C 179 [.ref (X + 49)] D) (fun x0 D1 =>
        if x0 = (ni 40) then
          if v1 = (ni 10) then
            sm_bv (sm_fe C 180 [.ref (X + 49)] D1) (fun D6 =>
              sm_fx C 178 4 [.ref (X + 49), .int v1, .int v2, sm_junk] [] D6)
          else
            sm_bv (sm_fe C 181 [.ref (X + 49)] D1) (fun D5 =>
              sm_fx C 178 4 [.ref (X + 49), .int (v1 + ni 1), .int v2, sm_junk] [] D5)
        else
          if v1 ≤ ni 0 then
            sm_bi (sm_fe C 170 [.int x0] D1) (fun x1 D2 =>
              if x1 = ni 0 then
                sm_fx C 178 4 [.ref (X + 49), .int v1, .int (ni 0), sm_junk] [] D2
              else
                sm_bv (sm_fe C 181 [.ref (X + 49)] D2) (fun D3 =>
                  sm_fx C 178 4 [.ref (X + 49), .int v1, .int v2, sm_junk] [] D3))
          else
            if x0 = (sm_k (-1)) then
              sm_bv (sm_fe C 180 [.ref (X + 49)] D1) (fun D4 =>
                sm_fx C 178 4 [.ref (X + 49), .int v1, .int v2, sm_junk] [] D4)
            else
              if x0 = (ni 41) then
                sm_fx C 178 79 [.ref (X + 49), sm_junk, .int v2, .int x0] [.int (v1 - (ni 1))] D1
              else
                sm_fx C 178 79 [.ref (X + 49), sm_junk, .int v2, .int x0] [.int v1] D1)
    else
      some (.inl none, D)) := 
  (sx_p (pc' := 5) (lv' := [.ref (X + 49), .int v1, .int v2, sm_junk]) (st' := [.int v2]) q178 4 1 rfl (sx_if_eq q178 5 rfl rfl (sx_rv q178 67 rfl rfl) (sx_p (pc' := 9) (lv' := [.ref (X + 49), .int v1, .int v2, sm_junk]) (st' := [.ref (X + 49)]) q178 6 1 rfl (sx_gI q178 7 rfl fk_12_134 rfl (hX.s 49 rfl) (hX.b 49) (sx_p (pc' := 13) (lv' := [.ref (X + 49), .int v1, .int v2, sm_junk]) (st' := [.int (sm_k (-1)), .int (D.1 (X + 49) 8)]) q178 8 1 rfl (sx_icmp_ne q178 9 rfl rfl (sx_rv q178 67 rfl rfl) (sx_p (pc' := 17) (lv' := [.ref (X + 49), .int v1, .int v2, sm_junk]) (st' := [.ref (X + 49)]) q178 10 1 rfl (sx_ki (sx_V q178 11 rfl lk_12_217 vk_179 na_179 rfl rfl rfl rfl (hX.s 49 rfl)) (by decide) rfl (fun x0 D1 => (sx_p (pc' := 24) (lv' := [.ref (X + 49), .int v1, .int v2, .int x0]) (st' := [.int (ni 40), .int x0]) q178 12 3 rfl (sx_icmp_ne q178 15 rfl rfl (sx_p (pc' := 51) (lv' := [.ref (X + 49), .int v1, .int v2, .int x0]) (st' := [.int v1]) q178 26 1 rfl (sx_if_le q178 27 rfl rfl (sx_p (pc' := 113) (lv' := [.ref (X + 49), .int v1, .int v2, .int x0]) (st' := [.int x0]) q178 58 1 rfl (sx_ki (sx_S q178 59 rfl lk_12_204 rfl na_170 rfl rfl rfl rfl) (by decide) rfl (fun x1 D2 => (sx_if_eq q178 60 rfl rfl (sx_p (pc' := 4) (lv' := [.ref (X + 49), .int v1, .int (ni 0), .int x0]) (st' := []) q178 64 3 rfl (sx_w (lv := [.ref (X + 49), .int v1, .int (ni 0), .int x0]) (lv' := [.ref (X + 49), .int v1, .int (ni 0), sm_junk]) (sm_ordl.ord ⟨Or.inr rfl, Or.inr rfl, Or.inr rfl, Or.inl rfl, trivial⟩))) (sx_p (pc' := 120) (lv' := [.ref (X + 49), .int v1, .int v2, .int x0]) (st' := [.ref (X + 49)]) q178 61 1 rfl (sx_kv (sx_V q178 62 rfl lk_12_223 vk_181 na_181 rfl rfl rfl rfl (hX.s 49 rfl)) (by decide) rfl (fun D3 => (sx_p (pc' := 128) (lv' := [.ref (X + 49), .int v1, .int v2, .int x0]) (st' := []) q178 63 1 rfl (sx_p (pc' := 4) (lv' := [.ref (X + 49), .int v1, .int v2, .int x0]) (st' := []) q178 66 1 rfl (sx_w (lv := [.ref (X + 49), .int v1, .int v2, .int x0]) (lv' := [.ref (X + 49), .int v1, .int v2, sm_junk]) (sm_ordl.ord ⟨Or.inr rfl, Or.inr rfl, Or.inr rfl, Or.inl rfl, trivial⟩))))))))))) (sx_p (pc' := 56) (lv' := [.ref (X + 49), .int v1, .int v2, .int x0]) (st' := [.int (sm_k (-1)), .int x0]) q178 28 2 rfl (sx_icmp_ne q178 30 rfl rfl (sx_p (pc' := 69) (lv' := [.ref (X + 49), .int v1, .int v2, .int x0]) (st' := [.int (ni 41), .int x0]) q178 34 2 rfl (sx_icmp_ne q178 36 rfl rfl (sx_p (pc' := 79) (lv' := [.ref (X + 49), .int v1, .int v2, .int x0]) (st' := [.int v1]) q178 41 1 rfl (sx_w (lv := [.ref (X + 49), .int v1, .int v2, .int x0]) (lv' := [.ref (X + 49), sm_junk, .int v2, .int x0]) (sm_ordl.ord ⟨Or.inr rfl, Or.inl rfl, Or.inr rfl, Or.inr rfl, trivial⟩))) (sx_p (pc' := 79) (lv' := [.ref (X + 49), .int v1, .int v2, .int x0]) (st' := [.int (v1 - (ni 1))]) q178 37 4 rfl (sx_w (lv := [.ref (X + 49), .int v1, .int v2, .int x0]) (lv' := [.ref (X + 49), sm_junk, .int v2, .int x0]) (sm_ordl.ord ⟨Or.inr rfl, Or.inl rfl, Or.inr rfl, Or.inr rfl, trivial⟩))))) (sx_p (pc' := 60) (lv' := [.ref (X + 49), .int v1, .int v2, .int x0]) (st' := [.ref (X + 49)]) q178 31 1 rfl (sx_kv (sx_V q178 32 rfl lk_12_220 vk_180 na_180 rfl rfl rfl rfl (hX.s 49 rfl)) (by decide) rfl (fun D4 => (sx_p (pc' := 128) (lv' := [.ref (X + 49), .int v1, .int v2, .int x0]) (st' := []) q178 33 1 rfl (sx_p (pc' := 4) (lv' := [.ref (X + 49), .int v1, .int v2, .int x0]) (st' := []) q178 66 1 rfl (sx_w (lv := [.ref (X + 49), .int v1, .int v2, .int x0]) (lv' := [.ref (X + 49), .int v1, .int v2, sm_junk]) (sm_ordl.ord ⟨Or.inr rfl, Or.inr rfl, Or.inr rfl, Or.inl rfl, trivial⟩))))))))))) (sx_p (pc' := 30) (lv' := [.ref (X + 49), .int v1, .int v2, .int x0]) (st' := [.int (ni 10), .int v1]) q178 16 2 rfl (sx_icmp_ne q178 18 rfl rfl (sx_p (pc' := 44) (lv' := [.ref (X + 49), .int (v1 + ni 1), .int v2, .int x0]) (st' := [.ref (X + 49)]) q178 22 2 rfl (sx_kv (sx_V q178 24 rfl lk_12_223 vk_181 na_181 rfl rfl rfl rfl (hX.s 49 rfl)) (by decide) rfl (fun D5 => (sx_p (pc' := 128) (lv' := [.ref (X + 49), .int (v1 + ni 1), .int v2, .int x0]) (st' := []) q178 25 1 rfl (sx_p (pc' := 4) (lv' := [.ref (X + 49), .int (v1 + ni 1), .int v2, .int x0]) (st' := []) q178 66 1 rfl (sx_w (lv := [.ref (X + 49), .int (v1 + ni 1), .int v2, .int x0]) (lv' := [.ref (X + 49), .int (v1 + ni 1), .int v2, sm_junk]) (sm_ordl.ord ⟨Or.inr rfl, Or.inr rfl, Or.inr rfl, Or.inl rfl, trivial⟩))))))) (sx_p (pc' := 34) (lv' := [.ref (X + 49), .int v1, .int v2, .int x0]) (st' := [.ref (X + 49)]) q178 19 1 rfl (sx_kv (sx_V q178 20 rfl lk_12_220 vk_180 na_180 rfl rfl rfl rfl (hX.s 49 rfl)) (by decide) rfl (fun D6 => (sx_p (pc' := 128) (lv' := [.ref (X + 49), .int v1, .int v2, .int x0]) (st' := []) q178 21 1 rfl (sx_p (pc' := 4) (lv' := [.ref (X + 49), .int v1, .int v2, .int x0]) (st' := []) q178 66 1 rfl (sx_w (lv := [.ref (X + 49), .int v1, .int v2, .int x0]) (lv' := [.ref (X + 49), .int v1, .int v2, sm_junk]) (sm_ordl.ord ⟨Or.inr rfl, Or.inr rfl, Or.inr rfl, Or.inl rfl, trivial⟩))))))))))))))))))))
set_option maxRecDepth 8000 in
theorem n178_79 {C : sm_K} {X : Nat} {v2 : Int32} {v3 : Int32} {s0 : Int32} (hX : sm_Lay C X) {D : sm_D} : sm_ge (sm_fx C 178 79 [.ref (X + 49), sm_junk, .int v2, .int v3] [.int s0] D) (
  sm_bv (sm_fe C 181 [.ref (X + 49)] D) (fun D1 =>
    if v3 = (ni 92) then
      sm_bi (sm_fe C 179 [.ref (X + 49)] D1) (fun x0 D2 =>
        if x0 = (sm_k (-1)) then
          sm_bv (sm_fe C 180 [.ref (X + 49)] D2) (fun D4 =>
            sm_fx C 178 4 [.ref (X + 49), .int s0, .int v2, sm_junk] [] D4)
        else
          sm_bv (sm_fe C 181 [.ref (X + 49)] D2) (fun D3 =>
            sm_fx C 178 4 [.ref (X + 49), .int s0, .int v2, sm_junk] [] D3))
    else
      sm_fx C 178 4 [.ref (X + 49), .int s0, .int v2, sm_junk] [] D1)) := 
  (sx_p (pc' := 81) (lv' := [.ref (X + 49), .int s0, .int v2, .int v3]) (st' := [.ref (X + 49)]) q178 42 2 rfl (sx_kv (sx_V q178 44 rfl lk_12_223 vk_181 na_181 rfl rfl rfl rfl (hX.s 49 rfl)) (by decide) rfl (fun D1 => (sx_p (pc' := 87) (lv' := [.ref (X + 49), .int s0, .int v2, .int v3]) (st' := [.int (ni 92), .int v3]) q178 45 2 rfl (sx_icmp_ne q178 47 rfl rfl (sx_p (pc' := 4) (lv' := [.ref (X + 49), .int s0, .int v2, .int v3]) (st' := []) q178 66 1 rfl (sx_w (lv := [.ref (X + 49), .int s0, .int v2, .int v3]) (lv' := [.ref (X + 49), .int s0, .int v2, sm_junk]) (sm_ordl.ord ⟨Or.inr rfl, Or.inr rfl, Or.inr rfl, Or.inl rfl, trivial⟩))) (sx_p (pc' := 91) (lv' := [.ref (X + 49), .int s0, .int v2, .int v3]) (st' := [.ref (X + 49)]) q178 48 1 rfl (sx_ki (sx_V q178 49 rfl lk_12_217 vk_179 na_179 rfl rfl rfl rfl (hX.s 49 rfl)) (by decide) rfl (fun x0 D2 => (sx_p (pc' := 95) (lv' := [.ref (X + 49), .int s0, .int v2, .int v3]) (st' := [.int (sm_k (-1)), .int x0]) q178 50 1 rfl (sx_icmp_ne q178 51 rfl rfl (sx_p (pc' := 106) (lv' := [.ref (X + 49), .int s0, .int v2, .int v3]) (st' := [.ref (X + 49)]) q178 55 1 rfl (sx_kv (sx_V q178 56 rfl lk_12_223 vk_181 na_181 rfl rfl rfl rfl (hX.s 49 rfl)) (by decide) rfl (fun D3 => (sx_p (pc' := 128) (lv' := [.ref (X + 49), .int s0, .int v2, .int v3]) (st' := []) q178 57 1 rfl (sx_p (pc' := 4) (lv' := [.ref (X + 49), .int s0, .int v2, .int v3]) (st' := []) q178 66 1 rfl (sx_w (lv := [.ref (X + 49), .int s0, .int v2, .int v3]) (lv' := [.ref (X + 49), .int s0, .int v2, sm_junk]) (sm_ordl.ord ⟨Or.inr rfl, Or.inr rfl, Or.inr rfl, Or.inl rfl, trivial⟩))))))) (sx_p (pc' := 99) (lv' := [.ref (X + 49), .int s0, .int v2, .int v3]) (st' := [.ref (X + 49)]) q178 52 1 rfl (sx_kv (sx_V q178 53 rfl lk_12_220 vk_180 na_180 rfl rfl rfl rfl (hX.s 49 rfl)) (by decide) rfl (fun D4 => (sx_p (pc' := 128) (lv' := [.ref (X + 49), .int s0, .int v2, .int v3]) (st' := []) q178 54 1 rfl (sx_p (pc' := 4) (lv' := [.ref (X + 49), .int s0, .int v2, .int v3]) (st' := []) q178 66 1 rfl (sx_w (lv := [.ref (X + 49), .int s0, .int v2, .int v3]) (lv' := [.ref (X + 49), .int s0, .int v2, sm_junk]) (sm_ordl.ord ⟨Or.inr rfl, Or.inr rfl, Or.inr rfl, Or.inl rfl, trivial⟩)))))))))))))))))
set_option maxRecDepth 8000 in
theorem f178 {C : sm_K} {X : Nat} (hX : sm_Lay C X) {D : sm_D} : sm_ge (sm_fe C 178 [.ref (X + 49)] D) (
  sm_fx C 178 4 [.ref (X + 49), .int (ni 0), .int (ni 1), sm_junk] [] D) := by
  rw [sx_fe (m := 4) rfl rfl]
  exact (show sm_ge (sm_fx C 178 0 [.ref (X + 49), sm_junk, sm_junk, sm_junk] [] D) _ from (sx_p (pc' := 4) (lv' := [.ref (X + 49), .int (ni 0), .int (ni 1), sm_junk]) (st' := []) q178 0 4 rfl (sm_ge.refl _)))
/-! MessageTreeModel.cur -/
theorem q179 : sm_q 179 12 sm_i179 1 := ⟨rfl, rfl, rfl⟩
set_option maxRecDepth 8000 in
theorem f179 {C : sm_K} {X : Nat} (hX : sm_Lay C X) {D : sm_D} : sm_ge (sm_fe C 179 [.ref (X + 49)] D) (
  if (D.1 (X + 49) 47) ≤ (D.1 (X + 49) 46) then
    some (.inl (some (.int (sm_k (-1)))), D)
  else
    sm_bi (sm_fe C 161 [.ref (X + 49), .int (D.1 (X + 49) 46)] D) (fun x0 D1 =>
      some (.inl (some (.int x0)), D1))) := by
  rw [sx_fe (m := 1) rfl rfl]
  exact (show sm_ge (sm_fx C 179 0 [.ref (X + 49)] [] D) _ from (sx_p (pc' := 1) (lv' := [.ref (X + 49)]) (st' := [.ref (X + 49)]) q179 0 1 rfl (sx_gI q179 1 rfl fk_12_208 rfl (hX.s 49 rfl) (hX.b 49) (sx_p (pc' := 5) (lv' := [.ref (X + 49)]) (st' := [.ref (X + 49), .int (D.1 (X + 49) 46)]) q179 2 1 rfl (sx_gI q179 3 rfl fk_12_211 rfl (hX.s 49 rfl) (hX.b 49) (sx_icmp_ge q179 4 rfl rfl (sx_p (pc' := 23) (lv' := [.ref (X + 49)]) (st' := [.int (sm_k (-1))]) q179 10 1 rfl (sx_ri (ty := .int) q179 11 rfl rfl)) (sx_p (pc' := 13) (lv' := [.ref (X + 49)]) (st' := [.ref (X + 49), .ref (X + 49)]) q179 5 2 rfl (sx_gI q179 7 rfl fk_12_208 rfl (hX.s 49 rfl) (hX.b 49) (sx_ki (sx_V q179 8 rfl lk_12_151 vk_161 na_161 rfl rfl rfl rfl (hX.s 49 rfl)) (by decide) rfl (fun x0 D1 => (sx_p (pc' := 23) (lv' := [.ref (X + 49)]) (st' := [.int x0]) q179 9 1 rfl (sx_ri (ty := .int) q179 11 rfl rfl))))))))))))
/-! MessageTreeModel.cannot -/
theorem q180 : sm_q 180 12 sm_i180 1 := ⟨rfl, rfl, rfl⟩
set_option maxRecDepth 8000 in
theorem n180_23 {C : sm_K} {X : Nat} {s1 : Int32} (hX : sm_Lay C X) {D : sm_D} : sm_ge (sm_fx C 180 23 [sm_junk] [.int s1, .ref (X + 49)] D) (
  sm_bv (sm_fe C 162 [.ref (X + 49), .int s1] D) (fun D1 =>
    some (.inl none, D1))) := 
  (sx_kv (sx_V q180 11 rfl lk_12_155 vk_162 na_162 rfl rfl rfl rfl (hX.s 49 rfl)) (by decide) rfl (fun D1 => (sx_rv q180 12 rfl rfl)))
set_option maxRecDepth 8000 in
theorem f180 {C : sm_K} {X : Nat} (hX : sm_Lay C X) {D : sm_D} : sm_ge (sm_fe C 180 [.ref (X + 49)] D) (
  if (D.1 (X + 49) 47) ≤ (D.1 (X + 49) 46) then
    sm_fx C 180 23 [sm_junk] [.int (D.1 (X + 49) 47), .ref (X + 49)] D
  else
    sm_fx C 180 23 [sm_junk] [.int (D.1 (X + 49) 46), .ref (X + 49)] D) := by
  rw [sx_fe (m := 1) rfl rfl]
  exact (show sm_ge (sm_fx C 180 0 [.ref (X + 49)] [] D) _ from (sx_p (pc' := 2) (lv' := [.ref (X + 49)]) (st' := [.ref (X + 49), .ref (X + 49)]) q180 0 2 rfl (sx_gI q180 2 rfl fk_12_208 rfl (hX.s 49 rfl) (hX.b 49) (sx_p (pc' := 6) (lv' := [.ref (X + 49)]) (st' := [.ref (X + 49), .int (D.1 (X + 49) 46), .ref (X + 49)]) q180 3 1 rfl (sx_gI q180 4 rfl fk_12_211 rfl (hX.s 49 rfl) (hX.b 49) (sx_icmp_ge q180 5 rfl rfl (sx_p (pc' := 20) (lv' := [.ref (X + 49)]) (st' := [.ref (X + 49), .ref (X + 49)]) q180 9 1 rfl (sx_gI q180 10 rfl fk_12_211 rfl (hX.s 49 rfl) (hX.b 49) (sx_w (lv := [.ref (X + 49)]) (lv' := [sm_junk]) (sm_ordl.ord ⟨Or.inl rfl, trivial⟩)))) (sx_p (pc' := 13) (lv' := [.ref (X + 49)]) (st' := [.ref (X + 49), .ref (X + 49)]) q180 6 1 rfl (sx_gI q180 7 rfl fk_12_208 rfl (hX.s 49 rfl) (hX.b 49) (sx_p (pc' := 23) (lv' := [.ref (X + 49)]) (st' := [.int (D.1 (X + 49) 46), .ref (X + 49)]) q180 8 1 rfl (sx_w (lv := [.ref (X + 49)]) (lv' := [sm_junk]) (sm_ordl.ord ⟨Or.inl rfl, trivial⟩)))))))))))
/-! MessageTreeModel.next -/
theorem q181 : sm_q 181 12 sm_i181 2 := ⟨rfl, rfl, rfl⟩
set_option maxRecDepth 8000 in
theorem f181 {C : sm_K} {X : Nat} (hX : sm_Lay C X) {D : sm_D} : sm_ge (sm_fe C 181 [.ref (X + 49)] D) (
  let D1 := sm_dI D (X + 49) 46 ((D.1 (X + 49) 46) + (ni 1))
  sm_bv (sm_fe C 177 [.ref (X + 49)] D1) (fun D2 =>
    some (.inl none, D2))) := by
  rw [sx_fe (m := 1) rfl rfl]
  exact (show sm_ge (sm_fx C 181 0 [.ref (X + 49)] [] D) _ from (sx_p (pc' := 2) (lv' := [.ref (X + 49)]) (st' := [.ref (X + 49), .ref (X + 49)]) q181 0 2 rfl (sx_gI q181 2 rfl fk_12_208 rfl (hX.s 49 rfl) (hX.b 49) (sx_p (pc' := 7) (lv' := [.ref (X + 49)]) (st' := [.int ((D.1 (X + 49) 46) + (ni 1)), .ref (X + 49)]) q181 3 2 rfl (sx_pI q181 5 rfl pk_12_208 rfl (hX.s 49 rfl) (hX.b 49) (sx_p (pc' := 11) (lv' := [.ref (X + 49)]) (st' := [.ref (X + 49)]) q181 6 1 rfl (sx_kv (sx_V q181 7 rfl lk_12_214 vk_177 na_177 rfl rfl rfl rfl (hX.s 49 rfl)) (by decide) rfl (fun D2 => (sx_rv q181 8 rfl rfl)))))))))
/-! MessageTreeModel.word -/
theorem q182 : sm_q 182 12 sm_i182 3 := ⟨rfl, rfl, rfl⟩
set_option maxRecDepth 8000 in
theorem n182_18 {C : sm_K} {X : Nat} {v1 : Int32} {v2 : Int32} {v3 : Int32} (hX : sm_Lay C X) {D : sm_D} : sm_ge (sm_fx C 182 18 [.ref (X + 49), .int v1, .int v2, .int v3] [] D) (
  if (D.1 (X + 49) 8) = (sm_k (-1)) then
    if v1 = ni 0 then
      sm_bi (sm_fe C 179 [.ref (X + 49)] D) (fun x0 D1 =>
        sm_bi (sm_fe C 184 [.int x0] D1) (fun x1 D2 =>
          if x1 = ni 0 then
            sm_fx C 182 98 [.ref (X + 49), sm_junk, sm_junk, .int v3] [] D2
          else
            sm_fx C 182 53 [.ref (X + 49), .int v1, .int v2, .int v3] [] D2))
    else
      sm_bi (sm_fe C 179 [.ref (X + 49)] D) (fun x0 D3 =>
        sm_bi (sm_fe C 183 [.int x0] D3) (fun x1 D4 =>
          if x1 = ni 0 then
            sm_fx C 182 98 [.ref (X + 49), sm_junk, sm_junk, .int v3] [] D4
          else
            sm_fx C 182 53 [.ref (X + 49), .int v1, .int v2, .int v3] [] D4))
  else
    sm_fx C 182 98 [.ref (X + 49), sm_junk, sm_junk, .int v3] [] D) := 
  (sx_p (pc' := 19) (lv' := [.ref (X + 49), .int v1, .int v2, .int v3]) (st' := [.ref (X + 49)]) q182 10 1 rfl (sx_gI q182 11 rfl fk_12_134 rfl (hX.s 49 rfl) (hX.b 49) (sx_p (pc' := 23) (lv' := [.ref (X + 49), .int v1, .int v2, .int v3]) (st' := [.int (sm_k (-1)), .int (D.1 (X + 49) 8)]) q182 12 1 rfl (sx_icmp_ne q182 13 rfl rfl (sx_w (lv := [.ref (X + 49), .int v1, .int v2, .int v3]) (lv' := [.ref (X + 49), sm_junk, sm_junk, .int v3]) (sm_ordl.ord ⟨Or.inr rfl, Or.inl rfl, Or.inl rfl, Or.inr rfl, trivial⟩)) (sx_p (pc' := 27) (lv' := [.ref (X + 49), .int v1, .int v2, .int v3]) (st' := [.int v1]) q182 14 1 rfl (sx_if_eq q182 15 rfl rfl (sx_p (pc' := 44) (lv' := [.ref (X + 49), .int v1, .int v2, .int v3]) (st' := [.ref (X + 49)]) q182 21 1 rfl (sx_ki (sx_V q182 22 rfl lk_12_217 vk_179 na_179 rfl rfl rfl rfl (hX.s 49 rfl)) (by decide) rfl (fun x0 D1 => (sx_ki (sx_S q182 23 rfl lk_12_244 rfl na_184 rfl rfl rfl rfl) (by decide) rfl (fun x1 D2 => (sx_if_eq q182 24 rfl rfl (sx_w (lv := [.ref (X + 49), .int v1, .int v2, .int v3]) (lv' := [.ref (X + 49), sm_junk, sm_junk, .int v3]) (sm_ordl.ord ⟨Or.inr rfl, Or.inl rfl, Or.inl rfl, Or.inr rfl, trivial⟩)) (sm_ge.refl _))))))) (sx_p (pc' := 31) (lv' := [.ref (X + 49), .int v1, .int v2, .int v3]) (st' := [.ref (X + 49)]) q182 16 1 rfl (sx_ki (sx_V q182 17 rfl lk_12_217 vk_179 na_179 rfl rfl rfl rfl (hX.s 49 rfl)) (by decide) rfl (fun x0 D3 => (sx_ki (sx_S q182 18 rfl lk_12_241 rfl na_183 rfl rfl rfl rfl) (by decide) rfl (fun x1 D4 => (sx_if_eq q182 19 rfl rfl (sx_w (lv := [.ref (X + 49), .int v1, .int v2, .int v3]) (lv' := [.ref (X + 49), sm_junk, sm_junk, .int v3]) (sm_ordl.ord ⟨Or.inr rfl, Or.inl rfl, Or.inl rfl, Or.inr rfl, trivial⟩)) (sx_p (pc' := 53) (lv' := [.ref (X + 49), .int v1, .int v2, .int v3]) (st' := []) q182 20 1 rfl (sm_ge.refl _))))))))))))))
set_option maxRecDepth 8000 in
theorem n182_53 {C : sm_K} {X : Nat} {v1 : Int32} {v2 : Int32} {v3 : Int32} (hX : sm_Lay C X) {D : sm_D} : sm_ge (sm_fx C 182 53 [.ref (X + 49), .int v1, .int v2, .int v3] [] D) (
  if v3 = (ni 60) then
    sm_bv (sm_fe C 180 [.ref (X + 49)] D) (fun D4 =>
      sm_fx C 182 18 [.ref (X + 49), .int v1, .int v2, .int v3] [] D4)
  else
    if v2 = ni 0 then
      sm_bi (sm_fe C 179 [.ref (X + 49)] D) (fun x0 D1 =>
        sm_fx C 182 85 [.ref (X + 49), .int v1, .int v2, .int v3] [.int x0, .ref (X + 49)] D1)
    else
      sm_bi (sm_fe C 179 [.ref (X + 49)] D) (fun x0 D2 =>
        sm_bi (sm_fe C 168 [.int x0] D2) (fun x1 D3 =>
          sm_fx C 182 85 [.ref (X + 49), .int v1, .int v2, .int v3] [.int x1, .ref (X + 49)] D3))) := 
  (sx_p (pc' := 56) (lv' := [.ref (X + 49), .int v1, .int v2, .int v3]) (st' := [.int (ni 60), .int v3]) q182 25 2 rfl (sx_icmp_ne q182 27 rfl rfl (sx_p (pc' := 68) (lv' := [.ref (X + 49), .int v1, .int v2, .int v3]) (st' := [.int v2, .ref (X + 49)]) q182 31 2 rfl (sx_if_eq q182 33 rfl rfl (sx_p (pc' := 82) (lv' := [.ref (X + 49), .int v1, .int v2, .int v3]) (st' := [.ref (X + 49), .ref (X + 49)]) q182 38 1 rfl (sx_ki (sx_V q182 39 rfl lk_12_217 vk_179 na_179 rfl rfl rfl rfl (hX.s 49 rfl)) (by decide) rfl (fun x0 D1 => (sm_ge.refl _)))) (sx_p (pc' := 72) (lv' := [.ref (X + 49), .int v1, .int v2, .int v3]) (st' := [.ref (X + 49), .ref (X + 49)]) q182 34 1 rfl (sx_ki (sx_V q182 35 rfl lk_12_217 vk_179 na_179 rfl rfl rfl rfl (hX.s 49 rfl)) (by decide) rfl (fun x0 D2 => (sx_ki (sx_S q182 36 rfl lk_12_165 rfl na_168 rfl rfl rfl rfl) (by decide) rfl (fun x1 D3 => (sx_p (pc' := 85) (lv' := [.ref (X + 49), .int v1, .int v2, .int v3]) (st' := [.int x1, .ref (X + 49)]) q182 37 1 rfl (sm_ge.refl _))))))))) (sx_p (pc' := 60) (lv' := [.ref (X + 49), .int v1, .int v2, .int v3]) (st' := [.ref (X + 49)]) q182 28 1 rfl (sx_kv (sx_V q182 29 rfl lk_12_220 vk_180 na_180 rfl rfl rfl rfl (hX.s 49 rfl)) (by decide) rfl (fun D4 => (sx_p (pc' := 18) (lv' := [.ref (X + 49), .int v1, .int v2, .int v3]) (st' := []) q182 30 1 rfl (sm_ge.refl _)))))))
set_option maxRecDepth 8000 in
theorem n182_85 {C : sm_K} {X : Nat} {v1 : Int32} {v2 : Int32} {v3 : Int32} {s1 : Int32} (hX : sm_Lay C X) {D : sm_D} : sm_ge (sm_fx C 182 85 [.ref (X + 49), .int v1, .int v2, .int v3] [.int s1, .ref (X + 49)] D) (
  sm_bv (sm_fe C 173 [.ref (X + 49), .int s1] D) (fun D1 =>
    sm_bv (sm_fe C 181 [.ref (X + 49)] D1) (fun D2 =>
      sm_fx C 182 18 [.ref (X + 49), .int v1, .int v2, .int (v3 + ni 1)] [] D2))) := 
  (sx_kv (sx_V q182 40 rfl lk_12_247 vk_173 na_173 rfl rfl rfl rfl (hX.s 49 rfl)) (by decide) rfl (fun D1 => (sx_p (pc' := 92) (lv' := [.ref (X + 49), .int v1, .int v2, .int (v3 + ni 1)]) (st' := [.ref (X + 49)]) q182 41 2 rfl (sx_kv (sx_V q182 43 rfl lk_12_223 vk_181 na_181 rfl rfl rfl rfl (hX.s 49 rfl)) (by decide) rfl (fun D2 => (sx_p (pc' := 18) (lv' := [.ref (X + 49), .int v1, .int v2, .int (v3 + ni 1)]) (st' := []) q182 44 1 rfl (sm_ge.refl _)))))))
set_option maxRecDepth 8000 in
theorem n182_98 {C : sm_K} {X : Nat} {v3 : Int32} (hX : sm_Lay C X) {D : sm_D} : sm_ge (sm_fx C 182 98 [.ref (X + 49), sm_junk, sm_junk, .int v3] [] D) (
  if v3 = ni 0 then
    sm_bv (sm_fe C 180 [.ref (X + 49)] D) (fun D2 =>
      let D3 := sm_dI D2 (X + 49) 49 v3
      some (.inl none, D3))
  else
    let D1 := sm_dI D (X + 49) 49 v3
    some (.inl none, D1)) := 
  (sx_p (pc' := 99) (lv' := [.ref (X + 49), sm_junk, sm_junk, .int v3]) (st' := [.int v3]) q182 45 1 rfl (sx_if_ne q182 46 rfl rfl (sx_p (pc' := 108) (lv' := [.ref (X + 49), sm_junk, sm_junk, .int v3]) (st' := [.int v3, .ref (X + 49)]) q182 49 2 rfl (sx_pI q182 51 rfl pk_12_250 rfl (hX.s 49 rfl) (hX.b 49) (sx_rv q182 52 rfl rfl))) (sx_p (pc' := 103) (lv' := [.ref (X + 49), sm_junk, sm_junk, .int v3]) (st' := [.ref (X + 49)]) q182 47 1 rfl (sx_kv (sx_V q182 48 rfl lk_12_220 vk_180 na_180 rfl rfl rfl rfl (hX.s 49 rfl)) (by decide) rfl (fun D2 => (sx_p (pc' := 108) (lv' := [.ref (X + 49), sm_junk, sm_junk, .int v3]) (st' := [.int v3, .ref (X + 49)]) q182 49 2 rfl (sx_pI q182 51 rfl pk_12_250 rfl (hX.s 49 rfl) (hX.b 49) (sx_rv q182 52 rfl rfl))))))))
set_option maxRecDepth 8000 in
theorem f182 {C : sm_K} {X : Nat} {v1 : Int32} {v2 : Int32} (hX : sm_Lay C X) {D : sm_D} : sm_ge (sm_fe C 182 [.ref (X + 49), .int v1, .int v2] D) (
  let D1 := sm_dI D (X + 49) 50 (D.1 (X + 49) 46)
  let D2 := sm_dI D1 (X + 49) 48 (D1.1 (X + 49) 20)
  sm_fx C 182 18 [.ref (X + 49), .int v1, .int v2, .int (ni 0)] [] D2) := by
  rw [sx_fe (m := 4) rfl rfl]
  exact (show sm_ge (sm_fx C 182 0 [.ref (X + 49), .int v1, .int v2, sm_junk] [] D) _ from (sx_p (pc' := 2) (lv' := [.ref (X + 49), .int v1, .int v2, sm_junk]) (st' := [.ref (X + 49), .ref (X + 49)]) q182 0 2 rfl (sx_gI q182 2 rfl fk_12_208 rfl (hX.s 49 rfl) (hX.b 49) (sx_pI q182 3 rfl pk_12_235 rfl (hX.s 49 rfl) (hX.b 49) (sx_p (pc' := 10) (lv' := [.ref (X + 49), .int v1, .int v2, sm_junk]) (st' := [.ref (X + 49), .ref (X + 49)]) q182 4 2 rfl (sx_gI q182 6 rfl fk_12_232 rfl (hX.s 49 rfl) (hX.b 49) (sx_pI q182 7 rfl pk_12_238 rfl (hX.s 49 rfl) (hX.b 49) (sx_p (pc' := 18) (lv' := [.ref (X + 49), .int v1, .int v2, .int (ni 0)]) (st' := []) q182 8 2 rfl (sm_ge.refl _)))))))))
/-! MessageTreeModel.isTokenSign -/
theorem q183 : sm_q 183 12 sm_i183 1 := ⟨rfl, rfl, rfl⟩
set_option maxRecDepth 8000 in
theorem f183 {C : sm_K} {v0 : Int32} {D : sm_D} : sm_ge (sm_fe C 183 [.int v0] D) (
  sm_bi (sm_fe C 157 [.int v0, .int (ni 33), .int (ni 126)] D) (fun x0 D1 =>
    if x0 = ni 0 then
      some (.inl (some (.int (sm_nar .boolean (ni 0)))), D1)
    else
      if v0 = (ni 40) then
        some (.inl (some (.int (sm_nar .boolean (ni 0)))), D1)
      else
        if v0 = (ni 41) then
          some (.inl (some (.int (sm_nar .boolean (ni 0)))), D1)
        else
          if v0 = (ni 60) then
            some (.inl (some (.int (sm_nar .boolean (ni 0)))), D1)
          else
            if v0 = (ni 62) then
              some (.inl (some (.int (sm_nar .boolean (ni 0)))), D1)
            else
              if v0 = (ni 64) then
                some (.inl (some (.int (sm_nar .boolean (ni 0)))), D1)
              else
                if v0 = (ni 44) then
                  some (.inl (some (.int (sm_nar .boolean (ni 0)))), D1)
                else
                  if v0 = (ni 59) then
                    some (.inl (some (.int (sm_nar .boolean (ni 0)))), D1)
                  else
                    if v0 = (ni 58) then
                      some (.inl (some (.int (sm_nar .boolean (ni 0)))), D1)
                    else
                      if v0 = (ni 92) then
                        some (.inl (some (.int (sm_nar .boolean (ni 0)))), D1)
                      else
                        if v0 = (ni 34) then
                          some (.inl (some (.int (sm_nar .boolean (ni 0)))), D1)
                        else
                          if v0 = (ni 47) then
                            some (.inl (some (.int (sm_nar .boolean (ni 0)))), D1)
                          else
                            if v0 = (ni 91) then
                              some (.inl (some (.int (sm_nar .boolean (ni 0)))), D1)
                            else
                              if v0 = (ni 93) then
                                some (.inl (some (.int (sm_nar .boolean (ni 0)))), D1)
                              else
                                if v0 = (ni 63) then
                                  some (.inl (some (.int (sm_nar .boolean (ni 0)))), D1)
                                else
                                  if v0 = (ni 61) then
                                    some (.inl (some (.int (sm_nar .boolean (ni 0)))), D1)
                                  else
                                    some (.inl (some (.int (sm_nar .boolean (ni 1)))), D1))) := by
  rw [sx_fe (m := 1) rfl rfl]
  exact (show sm_ge (sm_fx C 183 0 [.int v0] [] D) _ from (sx_p (pc' := 5) (lv' := [.int v0]) (st' := [.int (ni 126), .int (ni 33), .int v0]) q183 0 3 rfl (sx_ki (sx_S q183 3 rfl lk_12_137 rfl na_157 rfl rfl rfl rfl) (by decide) rfl (fun x0 D1 => (sx_if_eq q183 4 rfl rfl (sx_p (pc' := 106) (lv' := [.int v0]) (st' := [.int (ni 0)]) q183 52 1 rfl (sx_ri (ty := .boolean) q183 53 rfl rfl)) (sx_p (pc' := 14) (lv' := [.int v0]) (st' := [.int (ni 40), .int v0]) q183 5 2 rfl (sx_icmp_eq q183 7 rfl rfl (sx_p (pc' := 106) (lv' := [.int v0]) (st' := [.int (ni 0)]) q183 52 1 rfl (sx_ri (ty := .boolean) q183 53 rfl rfl)) (sx_p (pc' := 20) (lv' := [.int v0]) (st' := [.int (ni 41), .int v0]) q183 8 2 rfl (sx_icmp_eq q183 10 rfl rfl (sx_p (pc' := 106) (lv' := [.int v0]) (st' := [.int (ni 0)]) q183 52 1 rfl (sx_ri (ty := .boolean) q183 53 rfl rfl)) (sx_p (pc' := 26) (lv' := [.int v0]) (st' := [.int (ni 60), .int v0]) q183 11 2 rfl (sx_icmp_eq q183 13 rfl rfl (sx_p (pc' := 106) (lv' := [.int v0]) (st' := [.int (ni 0)]) q183 52 1 rfl (sx_ri (ty := .boolean) q183 53 rfl rfl)) (sx_p (pc' := 32) (lv' := [.int v0]) (st' := [.int (ni 62), .int v0]) q183 14 2 rfl (sx_icmp_eq q183 16 rfl rfl (sx_p (pc' := 106) (lv' := [.int v0]) (st' := [.int (ni 0)]) q183 52 1 rfl (sx_ri (ty := .boolean) q183 53 rfl rfl)) (sx_p (pc' := 38) (lv' := [.int v0]) (st' := [.int (ni 64), .int v0]) q183 17 2 rfl (sx_icmp_eq q183 19 rfl rfl (sx_p (pc' := 106) (lv' := [.int v0]) (st' := [.int (ni 0)]) q183 52 1 rfl (sx_ri (ty := .boolean) q183 53 rfl rfl)) (sx_p (pc' := 44) (lv' := [.int v0]) (st' := [.int (ni 44), .int v0]) q183 20 2 rfl (sx_icmp_eq q183 22 rfl rfl (sx_p (pc' := 106) (lv' := [.int v0]) (st' := [.int (ni 0)]) q183 52 1 rfl (sx_ri (ty := .boolean) q183 53 rfl rfl)) (sx_p (pc' := 50) (lv' := [.int v0]) (st' := [.int (ni 59), .int v0]) q183 23 2 rfl (sx_icmp_eq q183 25 rfl rfl (sx_p (pc' := 106) (lv' := [.int v0]) (st' := [.int (ni 0)]) q183 52 1 rfl (sx_ri (ty := .boolean) q183 53 rfl rfl)) (sx_p (pc' := 56) (lv' := [.int v0]) (st' := [.int (ni 58), .int v0]) q183 26 2 rfl (sx_icmp_eq q183 28 rfl rfl (sx_p (pc' := 106) (lv' := [.int v0]) (st' := [.int (ni 0)]) q183 52 1 rfl (sx_ri (ty := .boolean) q183 53 rfl rfl)) (sx_p (pc' := 62) (lv' := [.int v0]) (st' := [.int (ni 92), .int v0]) q183 29 2 rfl (sx_icmp_eq q183 31 rfl rfl (sx_p (pc' := 106) (lv' := [.int v0]) (st' := [.int (ni 0)]) q183 52 1 rfl (sx_ri (ty := .boolean) q183 53 rfl rfl)) (sx_p (pc' := 68) (lv' := [.int v0]) (st' := [.int (ni 34), .int v0]) q183 32 2 rfl (sx_icmp_eq q183 34 rfl rfl (sx_p (pc' := 106) (lv' := [.int v0]) (st' := [.int (ni 0)]) q183 52 1 rfl (sx_ri (ty := .boolean) q183 53 rfl rfl)) (sx_p (pc' := 74) (lv' := [.int v0]) (st' := [.int (ni 47), .int v0]) q183 35 2 rfl (sx_icmp_eq q183 37 rfl rfl (sx_p (pc' := 106) (lv' := [.int v0]) (st' := [.int (ni 0)]) q183 52 1 rfl (sx_ri (ty := .boolean) q183 53 rfl rfl)) (sx_p (pc' := 80) (lv' := [.int v0]) (st' := [.int (ni 91), .int v0]) q183 38 2 rfl (sx_icmp_eq q183 40 rfl rfl (sx_p (pc' := 106) (lv' := [.int v0]) (st' := [.int (ni 0)]) q183 52 1 rfl (sx_ri (ty := .boolean) q183 53 rfl rfl)) (sx_p (pc' := 86) (lv' := [.int v0]) (st' := [.int (ni 93), .int v0]) q183 41 2 rfl (sx_icmp_eq q183 43 rfl rfl (sx_p (pc' := 106) (lv' := [.int v0]) (st' := [.int (ni 0)]) q183 52 1 rfl (sx_ri (ty := .boolean) q183 53 rfl rfl)) (sx_p (pc' := 92) (lv' := [.int v0]) (st' := [.int (ni 63), .int v0]) q183 44 2 rfl (sx_icmp_eq q183 46 rfl rfl (sx_p (pc' := 106) (lv' := [.int v0]) (st' := [.int (ni 0)]) q183 52 1 rfl (sx_ri (ty := .boolean) q183 53 rfl rfl)) (sx_p (pc' := 98) (lv' := [.int v0]) (st' := [.int (ni 61), .int v0]) q183 47 2 rfl (sx_icmp_eq q183 49 rfl rfl (sx_p (pc' := 106) (lv' := [.int v0]) (st' := [.int (ni 0)]) q183 52 1 rfl (sx_ri (ty := .boolean) q183 53 rfl rfl)) (sx_p (pc' := 106) (lv' := [.int v0]) (st' := [.int (ni 1)]) q183 50 2 rfl (sx_ri (ty := .boolean) q183 53 rfl rfl)))))))))))))))))))))))))))))))))))))
/-! MessageTreeModel.isAtomSign -/
theorem q184 : sm_q 184 12 sm_i184 2 := ⟨rfl, rfl, rfl⟩
set_option maxRecDepth 8000 in
theorem f184 {C : sm_K} {v0 : Int32} {D : sm_D} : sm_ge (sm_fe C 184 [.int v0] D) (
  sm_bi (sm_fe C 185 [.int v0] D) (fun x0 D1 =>
    if x0 = ni 0 then
      sm_bi (sm_fe C 186 [.int v0] D1) (fun x1 D2 =>
        if x1 = ni 0 then
          if v0 = (ni 33) then
            some (.inl (some (.int (sm_nar .boolean (ni 1)))), D2)
          else
            sm_bi (sm_fe C 157 [.int v0, .int (ni 35), .int (ni 39)] D2) (fun x2 D3 =>
              if x2 = ni 0 then
                if v0 = (ni 42) then
                  some (.inl (some (.int (sm_nar .boolean (ni 1)))), D3)
                else
                  if v0 = (ni 43) then
                    some (.inl (some (.int (sm_nar .boolean (ni 1)))), D3)
                  else
                    if v0 = (ni 45) then
                      some (.inl (some (.int (sm_nar .boolean (ni 1)))), D3)
                    else
                      if v0 = (ni 47) then
                        some (.inl (some (.int (sm_nar .boolean (ni 1)))), D3)
                      else
                        if v0 = (ni 61) then
                          some (.inl (some (.int (sm_nar .boolean (ni 1)))), D3)
                        else
                          if v0 = (ni 63) then
                            some (.inl (some (.int (sm_nar .boolean (ni 1)))), D3)
                          else
                            sm_bi (sm_fe C 157 [.int v0, .int (ni 94), .int (ni 96)] D3) (fun x3 D4 =>
                              if x3 = ni 0 then
                                sm_bi (sm_fe C 157 [.int v0, .int (ni 123), .int (ni 126)] D4) (fun x4 D5 =>
                                  if x4 = ni 0 then
                                    some (.inl (some (.int (sm_nar .boolean (ni 0)))), D5)
                                  else
                                    some (.inl (some (.int (sm_nar .boolean (ni 1)))), D5))
                              else
                                some (.inl (some (.int (sm_nar .boolean (ni 1)))), D4))
              else
                some (.inl (some (.int (sm_nar .boolean (ni 1)))), D3))
        else
          some (.inl (some (.int (sm_nar .boolean (ni 1)))), D2))
    else
      some (.inl (some (.int (sm_nar .boolean (ni 1)))), D1))) := by
  rw [sx_fe (m := 1) rfl rfl]
  exact (show sm_ge (sm_fx C 184 0 [.int v0] [] D) _ from (sx_p (pc' := 1) (lv' := [.int v0]) (st' := [.int v0]) q184 0 1 rfl (sx_ki (sx_S q184 1 rfl lk_12_226 rfl na_185 rfl rfl rfl rfl) (by decide) rfl (fun x0 D1 => (sx_if_ne q184 2 rfl rfl (sx_p (pc' := 94) (lv' := [.int v0]) (st' := [.int (ni 1)]) q184 42 2 rfl (sx_ri (ty := .boolean) q184 45 rfl rfl)) (sx_p (pc' := 8) (lv' := [.int v0]) (st' := [.int v0]) q184 3 1 rfl (sx_ki (sx_S q184 4 rfl lk_12_229 rfl na_186 rfl rfl rfl rfl) (by decide) rfl (fun x1 D2 => (sx_if_ne q184 5 rfl rfl (sx_p (pc' := 94) (lv' := [.int v0]) (st' := [.int (ni 1)]) q184 42 2 rfl (sx_ri (ty := .boolean) q184 45 rfl rfl)) (sx_p (pc' := 17) (lv' := [.int v0]) (st' := [.int (ni 33), .int v0]) q184 6 2 rfl (sx_icmp_eq q184 8 rfl rfl (sx_p (pc' := 94) (lv' := [.int v0]) (st' := [.int (ni 1)]) q184 42 2 rfl (sx_ri (ty := .boolean) q184 45 rfl rfl)) (sx_p (pc' := 25) (lv' := [.int v0]) (st' := [.int (ni 39), .int (ni 35), .int v0]) q184 9 3 rfl (sx_ki (sx_S q184 12 rfl lk_12_137 rfl na_157 rfl rfl rfl rfl) (by decide) rfl (fun x2 D3 => (sx_if_ne q184 13 rfl rfl (sx_p (pc' := 94) (lv' := [.int v0]) (st' := [.int (ni 1)]) q184 42 2 rfl (sx_ri (ty := .boolean) q184 45 rfl rfl)) (sx_p (pc' := 34) (lv' := [.int v0]) (st' := [.int (ni 42), .int v0]) q184 14 2 rfl (sx_icmp_eq q184 16 rfl rfl (sx_p (pc' := 94) (lv' := [.int v0]) (st' := [.int (ni 1)]) q184 42 2 rfl (sx_ri (ty := .boolean) q184 45 rfl rfl)) (sx_p (pc' := 40) (lv' := [.int v0]) (st' := [.int (ni 43), .int v0]) q184 17 2 rfl (sx_icmp_eq q184 19 rfl rfl (sx_p (pc' := 94) (lv' := [.int v0]) (st' := [.int (ni 1)]) q184 42 2 rfl (sx_ri (ty := .boolean) q184 45 rfl rfl)) (sx_p (pc' := 46) (lv' := [.int v0]) (st' := [.int (ni 45), .int v0]) q184 20 2 rfl (sx_icmp_eq q184 22 rfl rfl (sx_p (pc' := 94) (lv' := [.int v0]) (st' := [.int (ni 1)]) q184 42 2 rfl (sx_ri (ty := .boolean) q184 45 rfl rfl)) (sx_p (pc' := 52) (lv' := [.int v0]) (st' := [.int (ni 47), .int v0]) q184 23 2 rfl (sx_icmp_eq q184 25 rfl rfl (sx_p (pc' := 94) (lv' := [.int v0]) (st' := [.int (ni 1)]) q184 42 2 rfl (sx_ri (ty := .boolean) q184 45 rfl rfl)) (sx_p (pc' := 58) (lv' := [.int v0]) (st' := [.int (ni 61), .int v0]) q184 26 2 rfl (sx_icmp_eq q184 28 rfl rfl (sx_p (pc' := 94) (lv' := [.int v0]) (st' := [.int (ni 1)]) q184 42 2 rfl (sx_ri (ty := .boolean) q184 45 rfl rfl)) (sx_p (pc' := 64) (lv' := [.int v0]) (st' := [.int (ni 63), .int v0]) q184 29 2 rfl (sx_icmp_eq q184 31 rfl rfl (sx_p (pc' := 94) (lv' := [.int v0]) (st' := [.int (ni 1)]) q184 42 2 rfl (sx_ri (ty := .boolean) q184 45 rfl rfl)) (sx_p (pc' := 72) (lv' := [.int v0]) (st' := [.int (ni 96), .int (ni 94), .int v0]) q184 32 3 rfl (sx_ki (sx_S q184 35 rfl lk_12_137 rfl na_157 rfl rfl rfl rfl) (by decide) rfl (fun x3 D4 => (sx_if_ne q184 36 rfl rfl (sx_p (pc' := 94) (lv' := [.int v0]) (st' := [.int (ni 1)]) q184 42 2 rfl (sx_ri (ty := .boolean) q184 45 rfl rfl)) (sx_p (pc' := 83) (lv' := [.int v0]) (st' := [.int (ni 126), .int (ni 123), .int v0]) q184 37 3 rfl (sx_ki (sx_S q184 40 rfl lk_12_137 rfl na_157 rfl rfl rfl rfl) (by decide) rfl (fun x4 D5 => (sx_if_eq q184 41 rfl rfl (sx_p (pc' := 94) (lv' := [.int v0]) (st' := [.int (ni 0)]) q184 44 1 rfl (sx_ri (ty := .boolean) q184 45 rfl rfl)) (sx_p (pc' := 94) (lv' := [.int v0]) (st' := [.int (ni 1)]) q184 42 2 rfl (sx_ri (ty := .boolean) q184 45 rfl rfl)))))))))))))))))))))))))))))))))))))
/-! MessageTreeModel.isLetter -/
theorem q185 : sm_q 185 12 sm_i185 1 := ⟨rfl, rfl, rfl⟩
set_option maxRecDepth 8000 in
theorem f185 {C : sm_K} {v0 : Int32} {D : sm_D} : sm_ge (sm_fe C 185 [.int v0] D) (
  sm_bi (sm_fe C 157 [.int v0, .int (ni 97), .int (ni 122)] D) (fun x0 D1 =>
    if x0 = ni 0 then
      sm_bi (sm_fe C 157 [.int v0, .int (ni 65), .int (ni 90)] D1) (fun x1 D2 =>
        if x1 = ni 0 then
          some (.inl (some (.int (sm_nar .boolean (ni 0)))), D2)
        else
          some (.inl (some (.int (sm_nar .boolean (ni 1)))), D2))
    else
      some (.inl (some (.int (sm_nar .boolean (ni 1)))), D1))) := by
  rw [sx_fe (m := 1) rfl rfl]
  exact (show sm_ge (sm_fx C 185 0 [.int v0] [] D) _ from (sx_p (pc' := 5) (lv' := [.int v0]) (st' := [.int (ni 122), .int (ni 97), .int v0]) q185 0 3 rfl (sx_ki (sx_S q185 3 rfl lk_12_137 rfl na_157 rfl rfl rfl rfl) (by decide) rfl (fun x0 D1 => (sx_if_ne q185 4 rfl rfl (sx_p (pc' := 27) (lv' := [.int v0]) (st' := [.int (ni 1)]) q185 10 2 rfl (sx_ri (ty := .boolean) q185 13 rfl rfl)) (sx_p (pc' := 16) (lv' := [.int v0]) (st' := [.int (ni 90), .int (ni 65), .int v0]) q185 5 3 rfl (sx_ki (sx_S q185 8 rfl lk_12_137 rfl na_157 rfl rfl rfl rfl) (by decide) rfl (fun x1 D2 => (sx_if_eq q185 9 rfl rfl (sx_p (pc' := 27) (lv' := [.int v0]) (st' := [.int (ni 0)]) q185 12 1 rfl (sx_ri (ty := .boolean) q185 13 rfl rfl)) (sx_p (pc' := 27) (lv' := [.int v0]) (st' := [.int (ni 1)]) q185 10 2 rfl (sx_ri (ty := .boolean) q185 13 rfl rfl)))))))))))
/-! MessageTreeModel.isDigit -/
theorem q186 : sm_q 186 12 sm_i186 1 := ⟨rfl, rfl, rfl⟩
set_option maxRecDepth 8000 in
theorem f186 {C : sm_K} {v0 : Int32} {D : sm_D} : sm_ge (sm_fe C 186 [.int v0] D) (
  sm_bi (sm_fe C 157 [.int v0, .int (ni 48), .int (ni 57)] D) (fun x0 D1 =>
    some (.inl (some (.int (sm_nar .boolean x0))), D1))) := by
  rw [sx_fe (m := 1) rfl rfl]
  exact (show sm_ge (sm_fx C 186 0 [.int v0] [] D) _ from (sx_p (pc' := 5) (lv' := [.int v0]) (st' := [.int (ni 57), .int (ni 48), .int v0]) q186 0 3 rfl (sx_ki (sx_S q186 3 rfl lk_12_137 rfl na_157 rfl rfl rfl rfl) (by decide) rfl (fun x0 D1 => (sx_ri (ty := .boolean) q186 4 rfl rfl)))))
/-! MessageTreeModel.eat -/
theorem q187 : sm_q 187 12 sm_i187 3 := ⟨rfl, rfl, rfl⟩
set_option maxRecDepth 8000 in
theorem n187_20 {C : sm_K} {X : Nat} (hX : sm_Lay C X) {D : sm_D} : sm_ge (sm_fx C 187 20 [.ref (X + 49), sm_junk] [] D) (
  if (D.1 (X + 49) 8) = (sm_k (-1)) then
    sm_bv (sm_fe C 181 [.ref (X + 49)] D) (fun D1 =>
      some (.inl none, D1))
  else
    some (.inl none, D)) := 
  (sx_p (pc' := 21) (lv' := [.ref (X + 49), sm_junk]) (st' := [.ref (X + 49)]) q187 10 1 rfl (sx_gI q187 11 rfl fk_12_134 rfl (hX.s 49 rfl) (hX.b 49) (sx_p (pc' := 25) (lv' := [.ref (X + 49), sm_junk]) (st' := [.int (sm_k (-1)), .int (D.1 (X + 49) 8)]) q187 12 1 rfl (sx_icmp_ne q187 13 rfl rfl (sx_rv q187 16 rfl rfl) (sx_p (pc' := 29) (lv' := [.ref (X + 49), sm_junk]) (st' := [.ref (X + 49)]) q187 14 1 rfl (sx_kv (sx_V q187 15 rfl lk_12_223 vk_181 na_181 rfl rfl rfl rfl (hX.s 49 rfl)) (by decide) rfl (fun D1 => (sx_rv q187 16 rfl rfl))))))))
set_option maxRecDepth 8000 in
theorem f187 {C : sm_K} {X : Nat} {v1 : Int32} (hX : sm_Lay C X) {D : sm_D} : sm_ge (sm_fe C 187 [.ref (X + 49), .int v1] D) (
  if (D.1 (X + 49) 8) = (sm_k (-1)) then
    sm_bi (sm_fe C 179 [.ref (X + 49)] D) (fun x0 D1 =>
      if x0 = v1 then
        sm_fx C 187 20 [.ref (X + 49), sm_junk] [] D1
      else
        sm_bv (sm_fe C 180 [.ref (X + 49)] D1) (fun D2 =>
          sm_fx C 187 20 [.ref (X + 49), sm_junk] [] D2))
  else
    sm_fx C 187 20 [.ref (X + 49), sm_junk] [] D) := by
  rw [sx_fe (m := 2) rfl rfl]
  exact (show sm_ge (sm_fx C 187 0 [.ref (X + 49), .int v1] [] D) _ from (sx_p (pc' := 1) (lv' := [.ref (X + 49), .int v1]) (st' := [.ref (X + 49)]) q187 0 1 rfl (sx_gI q187 1 rfl fk_12_134 rfl (hX.s 49 rfl) (hX.b 49) (sx_p (pc' := 5) (lv' := [.ref (X + 49), .int v1]) (st' := [.int (sm_k (-1)), .int (D.1 (X + 49) 8)]) q187 2 1 rfl (sx_icmp_ne q187 3 rfl rfl (sx_w (lv := [.ref (X + 49), .int v1]) (lv' := [.ref (X + 49), sm_junk]) (sm_ordl.ord ⟨Or.inr rfl, Or.inl rfl, trivial⟩)) (sx_p (pc' := 9) (lv' := [.ref (X + 49), .int v1]) (st' := [.ref (X + 49)]) q187 4 1 rfl (sx_ki (sx_V q187 5 rfl lk_12_217 vk_179 na_179 rfl rfl rfl rfl (hX.s 49 rfl)) (by decide) rfl (fun x0 D1 => (sx_p (pc' := 13) (lv' := [.ref (X + 49), .int v1]) (st' := [.int v1, .int x0]) q187 6 1 rfl (sx_icmp_eq q187 7 rfl rfl (sx_w (lv := [.ref (X + 49), .int v1]) (lv' := [.ref (X + 49), sm_junk]) (sm_ordl.ord ⟨Or.inr rfl, Or.inl rfl, trivial⟩)) (sx_p (pc' := 17) (lv' := [.ref (X + 49), .int v1]) (st' := [.ref (X + 49)]) q187 8 1 rfl (sx_kv (sx_V q187 9 rfl lk_12_220 vk_180 na_180 rfl rfl rfl rfl (hX.s 49 rfl)) (by decide) rfl (fun D2 => (sx_w (lv := [.ref (X + 49), .int v1]) (lv' := [.ref (X + 49), sm_junk]) (sm_ordl.ord ⟨Or.inr rfl, Or.inl rfl, trivial⟩)))))))))))))))
/-! MessageTreeModel.readParameter -/
theorem q188 : sm_q 188 12 sm_i188 4 := ⟨rfl, rfl, rfl⟩
set_option maxRecDepth 8000 in
theorem n188_22 {C : sm_K} {X : Nat} {v1 : Int32} (hX : sm_Lay C X) {D : sm_D} : sm_ge (sm_fx C 188 22 [.ref (X + 49), .int v1, sm_junk, sm_junk] [] D) (
  if (D.1 (X + 49) 8) = (sm_k (-1)) then
    sm_gu (sm_in_b v1 40) (
    sm_gu (sm_in_b (((ni 6) * v1) + (D.1 (X + 61) v1.toNatClampNeg)) 240) (
    let D1 := sm_dI D (X + 66) ((((ni 6) * v1) + (D.1 (X + 61) v1.toNatClampNeg)).toNatClampNeg) (D.1 (X + 49) 48)
    sm_gu (sm_in_b (((ni 6) * v1) + (D.1 (X + 61) v1.toNatClampNeg)) 240) (
    let D2 := sm_dI D1 (X + 67) ((((ni 6) * v1) + (D.1 (X + 61) v1.toNatClampNeg)).toNatClampNeg) (D1.1 (X + 49) 49)
    sm_fx C 188 68 [.ref (X + 49), .int v1, .int (((ni 6) * v1) + (D.1 (X + 61) v1.toNatClampNeg)), .int ((ni 6) * v1)] [] D2)))
  else
    some (.inl none, D)) := 
  (sx_p (pc' := 23) (lv' := [.ref (X + 49), .int v1, sm_junk, sm_junk]) (st' := [.ref (X + 49)]) q188 12 1 rfl (sx_gI q188 13 rfl fk_12_134 rfl (hX.s 49 rfl) (hX.b 49) (sx_p (pc' := 27) (lv' := [.ref (X + 49), .int v1, sm_junk, sm_junk]) (st' := [.int (sm_k (-1)), .int (D.1 (X + 49) 8)]) q188 14 1 rfl (sx_icmp_eq q188 15 rfl rfl (sx_p (pc' := 36) (lv' := [.ref (X + 49), .int v1, sm_junk, sm_junk]) (st' := [.ref (X + 49), .int ((ni 6) * v1)]) q188 17 4 rfl (sx_gR q188 21 rfl fk_12_45 (fun _ _ => rfl) (hX.s 49 rfl) (hX.r 49 18 rfl) (sx_p (pc' := 40) (lv' := [.ref (X + 49), .int v1, sm_junk, sm_junk]) (st' := [.int v1, .ref (X + 61), .int ((ni 6) * v1)]) q188 22 1 rfl (sx_ia q188 23 rfl (hX.s 61 rfl) (hX.b 61) (sx_p (pc' := 44) (lv' := [.ref (X + 49), .int v1, .int (((ni 6) * v1) + (D.1 (X + 61) v1.toNatClampNeg)), sm_junk]) (st' := [.ref (X + 49)]) q188 24 3 rfl (sx_gR q188 27 rfl fk_12_60 (fun _ _ => rfl) (hX.s 49 rfl) (hX.r 49 24 rfl) (sx_p (pc' := 49) (lv' := [.ref (X + 49), .int v1, .int (((ni 6) * v1) + (D.1 (X + 61) v1.toNatClampNeg)), sm_junk]) (st' := [.ref (X + 49), .int (((ni 6) * v1) + (D.1 (X + 61) v1.toNatClampNeg)), .ref (X + 66)]) q188 28 2 rfl (sx_gI q188 30 rfl fk_12_238 rfl (hX.s 49 rfl) (hX.b 49) (sx_is q188 31 rfl (hX.s 66 rfl) (hX.b 66) (sx_p (pc' := 54) (lv' := [.ref (X + 49), .int v1, .int (((ni 6) * v1) + (D.1 (X + 61) v1.toNatClampNeg)), sm_junk]) (st' := [.ref (X + 49)]) q188 32 1 rfl (sx_gR q188 33 rfl fk_12_63 (fun _ _ => rfl) (hX.s 49 rfl) (hX.r 49 25 rfl) (sx_p (pc' := 59) (lv' := [.ref (X + 49), .int v1, .int (((ni 6) * v1) + (D.1 (X + 61) v1.toNatClampNeg)), sm_junk]) (st' := [.ref (X + 49), .int (((ni 6) * v1) + (D.1 (X + 61) v1.toNatClampNeg)), .ref (X + 67)]) q188 34 2 rfl (sx_gI q188 36 rfl fk_12_250 rfl (hX.s 49 rfl) (hX.b 49) (sx_is q188 37 rfl (hX.s 67 rfl) (hX.b 67) (sx_p (pc' := 68) (lv' := [.ref (X + 49), .int v1, .int (((ni 6) * v1) + (D.1 (X + 61) v1.toNatClampNeg)), .int ((ni 6) * v1)]) (st' := []) q188 38 4 rfl (sm_ge.refl _)))))))))))))))) (sx_rv q188 16 rfl rfl)))))
set_option maxRecDepth 8000 in
theorem n188_68 {C : sm_K} {X : Nat} {v1 : Int32} {v2 : Int32} {v3 : Int32} (hX : sm_Lay C X) {D : sm_D} : sm_ge (sm_fx C 188 68 [.ref (X + 49), .int v1, .int v2, .int v3] [] D) (
  if v2 ≤ v3 then
    if (D.1 (X + 49) 8) = (sm_k (-1)) then
      sm_bv (sm_fe C 178 [.ref (X + 49)] D) (fun D1 =>
        sm_fx C 188 133 [.ref (X + 49), .int v1, .int v2, sm_junk] [] D1)
    else
      sm_fx C 188 133 [.ref (X + 49), .int v1, .int v2, sm_junk] [] D
  else
    sm_gu (sm_in_b v3 240) (
    if (D.1 (X + 67) v3.toNatClampNeg) = (D.1 (X + 49) 49) then
      sm_gu (sm_in_b v3 240) (
      sm_bi (sm_fe C 189 [.ref (X + 49), .int (D.1 (X + 66) v3.toNatClampNeg), .int (D.1 (X + 49) 48), .int (D.1 (X + 49) 49)] D) (fun x0 D2 =>
        if x0 = ni 0 then
          sm_fx C 188 68 [.ref (X + 49), .int v1, .int v2, .int (v3 + ni 1)] [] D2
        else
          sm_bv (sm_fe C 162 [.ref (X + 49), .int (D2.1 (X + 49) 50)] D2) (fun D3 =>
            sm_fx C 188 68 [.ref (X + 49), .int v1, .int v2, .int (v3 + ni 1)] [] D3)))
    else
      sm_fx C 188 68 [.ref (X + 49), .int v1, .int v2, .int (v3 + ni 1)] [] D)) := 
  (sx_p (pc' := 70) (lv' := [.ref (X + 49), .int v1, .int v2, .int v3]) (st' := [.int v2, .int v3]) q188 42 2 rfl (sx_icmp_ge q188 44 rfl rfl (sx_p (pc' := 122) (lv' := [.ref (X + 49), .int v1, .int v2, .int v3]) (st' := [.ref (X + 49)]) q188 69 1 rfl (sx_gI q188 70 rfl fk_12_134 rfl (hX.s 49 rfl) (hX.b 49) (sx_p (pc' := 126) (lv' := [.ref (X + 49), .int v1, .int v2, .int v3]) (st' := [.int (sm_k (-1)), .int (D.1 (X + 49) 8)]) q188 71 1 rfl (sx_icmp_ne q188 72 rfl rfl (sx_w (lv := [.ref (X + 49), .int v1, .int v2, .int v3]) (lv' := [.ref (X + 49), .int v1, .int v2, sm_junk]) (sm_ordl.ord ⟨Or.inr rfl, Or.inr rfl, Or.inr rfl, Or.inl rfl, trivial⟩)) (sx_p (pc' := 130) (lv' := [.ref (X + 49), .int v1, .int v2, .int v3]) (st' := [.ref (X + 49)]) q188 73 1 rfl (sx_kv (sx_V q188 74 rfl lk_12_263 vk_178 na_178 rfl rfl rfl rfl (hX.s 49 rfl)) (by decide) rfl (fun D1 => (sx_w (lv := [.ref (X + 49), .int v1, .int v2, .int v3]) (lv' := [.ref (X + 49), .int v1, .int v2, sm_junk]) (sm_ordl.ord ⟨Or.inr rfl, Or.inr rfl, Or.inr rfl, Or.inl rfl, trivial⟩))))))))) (sx_p (pc' := 74) (lv' := [.ref (X + 49), .int v1, .int v2, .int v3]) (st' := [.ref (X + 49)]) q188 45 1 rfl (sx_gR q188 46 rfl fk_12_63 (fun _ _ => rfl) (hX.s 49 rfl) (hX.r 49 25 rfl) (sx_p (pc' := 78) (lv' := [.ref (X + 49), .int v1, .int v2, .int v3]) (st' := [.int v3, .ref (X + 67)]) q188 47 1 rfl (sx_ia q188 48 rfl (hX.s 67 rfl) (hX.b 67) (sx_p (pc' := 80) (lv' := [.ref (X + 49), .int v1, .int v2, .int v3]) (st' := [.ref (X + 49), .int (D.1 (X + 67) v3.toNatClampNeg)]) q188 49 1 rfl (sx_gI q188 50 rfl fk_12_250 rfl (hX.s 49 rfl) (hX.b 49) (sx_icmp_ne q188 51 rfl rfl (sx_p (pc' := 68) (lv' := [.ref (X + 49), .int v1, .int v2, .int (v3 + ni 1)]) (st' := []) q188 67 2 rfl (sm_ge.refl _)) (sx_p (pc' := 88) (lv' := [.ref (X + 49), .int v1, .int v2, .int v3]) (st' := [.ref (X + 49), .ref (X + 49)]) q188 52 2 rfl (sx_gR q188 54 rfl fk_12_60 (fun _ _ => rfl) (hX.s 49 rfl) (hX.r 49 24 rfl) (sx_p (pc' := 92) (lv' := [.ref (X + 49), .int v1, .int v2, .int v3]) (st' := [.int v3, .ref (X + 66), .ref (X + 49)]) q188 55 1 rfl (sx_ia q188 56 rfl (hX.s 66 rfl) (hX.b 66) (sx_p (pc' := 94) (lv' := [.ref (X + 49), .int v1, .int v2, .int v3]) (st' := [.ref (X + 49), .int (D.1 (X + 66) v3.toNatClampNeg), .ref (X + 49)]) q188 57 1 rfl (sx_gI q188 58 rfl fk_12_238 rfl (hX.s 49 rfl) (hX.b 49) (sx_p (pc' := 98) (lv' := [.ref (X + 49), .int v1, .int v2, .int v3]) (st' := [.ref (X + 49), .int (D.1 (X + 49) 48), .int (D.1 (X + 66) v3.toNatClampNeg), .ref (X + 49)]) q188 59 1 rfl (sx_gI q188 60 rfl fk_12_250 rfl (hX.s 49 rfl) (hX.b 49) (sx_ki (sx_V q188 61 rfl lk_12_287 vk_189 na_189 rfl rfl rfl rfl (hX.s 49 rfl)) (by decide) rfl (fun x0 D2 => (sx_if_eq q188 62 rfl rfl (sx_p (pc' := 68) (lv' := [.ref (X + 49), .int v1, .int v2, .int (v3 + ni 1)]) (st' := []) q188 67 2 rfl (sm_ge.refl _)) (sx_p (pc' := 109) (lv' := [.ref (X + 49), .int v1, .int v2, .int v3]) (st' := [.ref (X + 49), .ref (X + 49)]) q188 63 2 rfl (sx_gI q188 65 rfl fk_12_235 rfl (hX.s 49 rfl) (hX.b 49) (sx_kv (sx_V q188 66 rfl lk_12_155 vk_162 na_162 rfl rfl rfl rfl (hX.s 49 rfl)) (by decide) rfl (fun D3 => (sx_p (pc' := 68) (lv' := [.ref (X + 49), .int v1, .int v2, .int (v3 + ni 1)]) (st' := []) q188 67 2 rfl (sm_ge.refl _))))))))))))))))))))))))))
set_option maxRecDepth 8000 in
theorem n188_133 {C : sm_K} {X : Nat} {v1 : Int32} {v2 : Int32} (hX : sm_Lay C X) {D : sm_D} : sm_ge (sm_fx C 188 133 [.ref (X + 49), .int v1, .int v2, sm_junk] [] D) (
  sm_bv (sm_fe C 187 [.ref (X + 49), .int (ni 61)] D) (fun D1 =>
    if (D1.1 (X + 49) 8) = (sm_k (-1)) then
      sm_bv (sm_fe C 178 [.ref (X + 49)] D1) (fun D2 =>
        sm_fx C 188 151 [.ref (X + 49), .int v1, .int v2, sm_junk] [] D2)
    else
      sm_fx C 188 151 [.ref (X + 49), .int v1, .int v2, sm_junk] [] D1)) := 
  (sx_p (pc' := 136) (lv' := [.ref (X + 49), .int v1, .int v2, sm_junk]) (st' := [.int (ni 61), .ref (X + 49)]) q188 75 2 rfl (sx_kv (sx_V q188 77 rfl lk_12_270 vk_187 na_187 rfl rfl rfl rfl (hX.s 49 rfl)) (by decide) rfl (fun D1 => (sx_p (pc' := 140) (lv' := [.ref (X + 49), .int v1, .int v2, sm_junk]) (st' := [.ref (X + 49)]) q188 78 1 rfl (sx_gI q188 79 rfl fk_12_134 rfl (hX.s 49 rfl) (hX.b 49) (sx_p (pc' := 144) (lv' := [.ref (X + 49), .int v1, .int v2, sm_junk]) (st' := [.int (sm_k (-1)), .int (D1.1 (X + 49) 8)]) q188 80 1 rfl (sx_icmp_ne q188 81 rfl rfl (sm_ge.refl _) (sx_p (pc' := 148) (lv' := [.ref (X + 49), .int v1, .int v2, sm_junk]) (st' := [.ref (X + 49)]) q188 82 1 rfl (sx_kv (sx_V q188 83 rfl lk_12_263 vk_178 na_178 rfl rfl rfl rfl (hX.s 49 rfl)) (by decide) rfl (fun D2 => (sm_ge.refl _)))))))))))
set_option maxRecDepth 8000 in
theorem n188_151 {C : sm_K} {X : Nat} {v1 : Int32} {v2 : Int32} (hX : sm_Lay C X) {D : sm_D} : sm_ge (sm_fx C 188 151 [.ref (X + 49), .int v1, .int v2, sm_junk] [] D) (
  if (D.1 (X + 49) 8) = (sm_k (-1)) then
    sm_bi (sm_fe C 179 [.ref (X + 49)] D) (fun x0 D1 =>
      if x0 = (ni 34) then
        sm_bv (sm_fe C 190 [.ref (X + 49), .int (ni 100)] D1) (fun D3 =>
          sm_fx C 188 183 [.ref (X + 49), .int v1, .int v2, sm_junk] [] D3)
      else
        sm_bv (sm_fe C 182 [.ref (X + 49), .int (ni 1), .int (ni 0)] D1) (fun D2 =>
          sm_fx C 188 183 [.ref (X + 49), .int v1, .int v2, sm_junk] [] D2))
  else
    sm_fx C 188 183 [.ref (X + 49), .int v1, .int v2, sm_junk] [] D) := 
  (sx_p (pc' := 152) (lv' := [.ref (X + 49), .int v1, .int v2, sm_junk]) (st' := [.ref (X + 49)]) q188 84 1 rfl (sx_gI q188 85 rfl fk_12_134 rfl (hX.s 49 rfl) (hX.b 49) (sx_p (pc' := 156) (lv' := [.ref (X + 49), .int v1, .int v2, sm_junk]) (st' := [.int (sm_k (-1)), .int (D.1 (X + 49) 8)]) q188 86 1 rfl (sx_icmp_ne q188 87 rfl rfl (sm_ge.refl _) (sx_p (pc' := 160) (lv' := [.ref (X + 49), .int v1, .int v2, sm_junk]) (st' := [.ref (X + 49)]) q188 88 1 rfl (sx_ki (sx_V q188 89 rfl lk_12_217 vk_179 na_179 rfl rfl rfl rfl (hX.s 49 rfl)) (by decide) rfl (fun x0 D1 => (sx_p (pc' := 165) (lv' := [.ref (X + 49), .int v1, .int v2, sm_junk]) (st' := [.int (ni 34), .int x0]) q188 90 1 rfl (sx_icmp_ne q188 91 rfl rfl (sx_p (pc' := 180) (lv' := [.ref (X + 49), .int v1, .int v2, sm_junk]) (st' := [.int (ni 0), .int (ni 1), .ref (X + 49)]) q188 96 3 rfl (sx_kv (sx_V q188 99 rfl lk_12_266 vk_182 na_182 rfl rfl rfl rfl (hX.s 49 rfl)) (by decide) rfl (fun D2 => (sm_ge.refl _)))) (sx_p (pc' := 171) (lv' := [.ref (X + 49), .int v1, .int v2, sm_junk]) (st' := [.int (ni 100), .ref (X + 49)]) q188 92 2 rfl (sx_kv (sx_V q188 94 rfl lk_12_290 vk_190 na_190 rfl rfl rfl rfl (hX.s 49 rfl)) (by decide) rfl (fun D3 => (sx_p (pc' := 183) (lv' := [.ref (X + 49), .int v1, .int v2, sm_junk]) (st' := []) q188 95 1 rfl (sm_ge.refl _))))))))))))))
set_option maxRecDepth 8000 in
theorem n188_183 {C : sm_K} {X : Nat} {v1 : Int32} {v2 : Int32} (hX : sm_Lay C X) {D : sm_D} : sm_ge (sm_fx C 188 183 [.ref (X + 49), .int v1, .int v2, sm_junk] [] D) (
  sm_gu (sm_in_b v2 240) (
  let D1 := sm_dI D (X + 68) (v2.toNatClampNeg) (D.1 (X + 49) 48)
  sm_gu (sm_in_b v2 240) (
  let D2 := sm_dI D1 (X + 69) (v2.toNatClampNeg) (D1.1 (X + 49) 49)
  sm_gu (sm_in_b v1 40) (
  sm_gu (sm_in_b v1 40) (
  let D3 := sm_dI D2 (X + 61) (v1.toNatClampNeg) ((D2.1 (X + 61) v1.toNatClampNeg) + (ni 1))
  if (D3.1 (X + 49) 8) = (sm_k (-1)) then
    sm_bv (sm_fe C 178 [.ref (X + 49)] D3) (fun D4 =>
      some (.inl none, D4))
  else
    some (.inl none, D3)))))) := 
  (sx_p (pc' := 184) (lv' := [.ref (X + 49), .int v1, .int v2, sm_junk]) (st' := [.ref (X + 49)]) q188 100 1 rfl (sx_gR q188 101 rfl fk_12_66 (fun _ _ => rfl) (hX.s 49 rfl) (hX.r 49 26 rfl) (sx_p (pc' := 189) (lv' := [.ref (X + 49), .int v1, .int v2, sm_junk]) (st' := [.ref (X + 49), .int v2, .ref (X + 68)]) q188 102 2 rfl (sx_gI q188 104 rfl fk_12_238 rfl (hX.s 49 rfl) (hX.b 49) (sx_is q188 105 rfl (hX.s 68 rfl) (hX.b 68) (sx_p (pc' := 194) (lv' := [.ref (X + 49), .int v1, .int v2, sm_junk]) (st' := [.ref (X + 49)]) q188 106 1 rfl (sx_gR q188 107 rfl fk_12_69 (fun _ _ => rfl) (hX.s 49 rfl) (hX.r 49 27 rfl) (sx_p (pc' := 199) (lv' := [.ref (X + 49), .int v1, .int v2, sm_junk]) (st' := [.ref (X + 49), .int v2, .ref (X + 69)]) q188 108 2 rfl (sx_gI q188 110 rfl fk_12_250 rfl (hX.s 49 rfl) (hX.b 49) (sx_is q188 111 rfl (hX.s 69 rfl) (hX.b 69) (sx_p (pc' := 204) (lv' := [.ref (X + 49), .int v1, .int v2, sm_junk]) (st' := [.ref (X + 49)]) q188 112 1 rfl (sx_gR q188 113 rfl fk_12_45 (fun _ _ => rfl) (hX.s 49 rfl) (hX.r 49 18 rfl) (sx_p (pc' := 209) (lv' := [.ref (X + 49), .int v1, .int v2, sm_junk]) (st' := [.int v1, .ref (X + 61), .int v1, .ref (X + 61)]) q188 114 2 rfl (sx_ia q188 116 rfl (hX.s 61 rfl) (hX.b 61) (sx_p (pc' := 212) (lv' := [.ref (X + 49), .int v1, .int v2, sm_junk]) (st' := [.int (((sm_dI (sm_dI D (X + 68) (v2.toNatClampNeg) (D.1 (X + 49) 48)) (X + 69) (v2.toNatClampNeg) ((sm_dI D (X + 68) (v2.toNatClampNeg) (D.1 (X + 49) 48)).1 (X + 49) 49)).1 (X + 61) v1.toNatClampNeg) + (ni 1)), .int v1, .ref (X + 61)]) q188 117 2 rfl (sx_is q188 119 rfl (hX.s 61 rfl) (hX.b 61) (sx_p (pc' := 214) (lv' := [.ref (X + 49), .int v1, .int v2, sm_junk]) (st' := [.ref (X + 49)]) q188 120 1 rfl (sx_gI q188 121 rfl fk_12_134 rfl (hX.s 49 rfl) (hX.b 49) (sx_p (pc' := 218) (lv' := [.ref (X + 49), .int v1, .int v2, sm_junk]) (st' := [.int (sm_k (-1)), .int ((sm_dI (sm_dI (sm_dI D (X + 68) (v2.toNatClampNeg) (D.1 (X + 49) 48)) (X + 69) (v2.toNatClampNeg) ((sm_dI D (X + 68) (v2.toNatClampNeg) (D.1 (X + 49) 48)).1 (X + 49) 49)) (X + 61) (v1.toNatClampNeg) (((sm_dI (sm_dI D (X + 68) (v2.toNatClampNeg) (D.1 (X + 49) 48)) (X + 69) (v2.toNatClampNeg) ((sm_dI D (X + 68) (v2.toNatClampNeg) (D.1 (X + 49) 48)).1 (X + 49) 49)).1 (X + 61) v1.toNatClampNeg) + (ni 1))).1 (X + 49) 8)]) q188 122 1 rfl (sx_icmp_ne q188 123 rfl rfl (sx_rv q188 126 rfl rfl) (sx_p (pc' := 222) (lv' := [.ref (X + 49), .int v1, .int v2, sm_junk]) (st' := [.ref (X + 49)]) q188 124 1 rfl (sx_kv (sx_V q188 125 rfl lk_12_263 vk_178 na_178 rfl rfl rfl rfl (hX.s 49 rfl)) (by decide) rfl (fun D4 => (sx_rv q188 126 rfl rfl))))))))))))))))))))))))
set_option maxRecDepth 8000 in
theorem f188 {C : sm_K} {X : Nat} {v1 : Int32} (hX : sm_Lay C X) {D : sm_D} : sm_ge (sm_fe C 188 [.ref (X + 49), .int v1] D) (
  sm_bv (sm_fe C 181 [.ref (X + 49)] D) (fun D1 =>
    sm_bv (sm_fe C 178 [.ref (X + 49)] D1) (fun D2 =>
      if (D2.1 (X + 49) 8) = (sm_k (-1)) then
        sm_bv (sm_fe C 182 [.ref (X + 49), .int (ni 1), .int (ni 1)] D2) (fun D3 =>
          sm_fx C 188 22 [.ref (X + 49), .int v1, sm_junk, sm_junk] [] D3)
      else
        sm_fx C 188 22 [.ref (X + 49), .int v1, sm_junk, sm_junk] [] D2))) := by
  rw [sx_fe (m := 4) rfl rfl]
  exact (show sm_ge (sm_fx C 188 0 [.ref (X + 49), .int v1, sm_junk, sm_junk] [] D) _ from (sx_p (pc' := 1) (lv' := [.ref (X + 49), .int v1, sm_junk, sm_junk]) (st' := [.ref (X + 49)]) q188 0 1 rfl (sx_kv (sx_V q188 1 rfl lk_12_223 vk_181 na_181 rfl rfl rfl rfl (hX.s 49 rfl)) (by decide) rfl (fun D1 => (sx_p (pc' := 5) (lv' := [.ref (X + 49), .int v1, sm_junk, sm_junk]) (st' := [.ref (X + 49)]) q188 2 1 rfl (sx_kv (sx_V q188 3 rfl lk_12_263 vk_178 na_178 rfl rfl rfl rfl (hX.s 49 rfl)) (by decide) rfl (fun D2 => (sx_p (pc' := 9) (lv' := [.ref (X + 49), .int v1, sm_junk, sm_junk]) (st' := [.ref (X + 49)]) q188 4 1 rfl (sx_gI q188 5 rfl fk_12_134 rfl (hX.s 49 rfl) (hX.b 49) (sx_p (pc' := 13) (lv' := [.ref (X + 49), .int v1, sm_junk, sm_junk]) (st' := [.int (sm_k (-1)), .int (D2.1 (X + 49) 8)]) q188 6 1 rfl (sx_icmp_ne q188 7 rfl rfl (sm_ge.refl _) (sx_p (pc' := 19) (lv' := [.ref (X + 49), .int v1, sm_junk, sm_junk]) (st' := [.int (ni 1), .int (ni 1), .ref (X + 49)]) q188 8 3 rfl (sx_kv (sx_V q188 11 rfl lk_12_266 vk_182 na_182 rfl rfl rfl rfl (hX.s 49 rfl)) (by decide) rfl (fun D3 => (sm_ge.refl _)))))))))))))))
/-! MessageTreeModel.areSame -/
theorem q189 : sm_q 189 12 sm_i189 0 := ⟨rfl, rfl, rfl⟩
set_option maxRecDepth 8000 in
theorem n189_6 {C : sm_K} {X : Nat} {v1 : Int32} {v2 : Int32} {v3 : Int32} {v4 : Int32} {v5 : Int32} (hX : sm_Lay C X) {D : sm_D} : sm_ge (sm_fx C 189 6 [.ref (X + 49), .int v1, .int v2, .int v3, .int v4, .int v5] [] D) (
  if v3 ≤ v5 then
    some (.inl (some (.int (sm_nar .boolean v4))), D)
  else
    if v4 = ni 0 then
      some (.inl (some (.int (sm_nar .boolean v4))), D)
    else
      sm_gu (sm_in_b (v1 + v5) 24000) (
      sm_gu (sm_in_b (v2 + v5) 24000) (
      if (D.1 (X + 63) (v1 + v5).toNatClampNeg) = (D.1 (X + 63) (v2 + v5).toNatClampNeg) then
        sm_fx C 189 6 [.ref (X + 49), .int v1, .int v2, .int v3, .int (ni 1), .int (v5 + ni 1)] [] D
      else
        sm_fx C 189 6 [.ref (X + 49), .int v1, .int v2, .int v3, .int (ni 0), .int (v5 + ni 1)] [] D))) := 
  (sx_p (pc' := 9) (lv' := [.ref (X + 49), .int v1, .int v2, .int v3, .int v4, .int v5]) (st' := [.int v3, .int v5]) q189 4 2 rfl (sx_icmp_ge q189 6 rfl rfl (sx_p (pc' := 53) (lv' := [.ref (X + 49), .int v1, .int v2, .int v3, .int v4, .int v5]) (st' := [.int v4]) q189 28 1 rfl (sx_ri (ty := .boolean) q189 29 rfl rfl)) (sx_p (pc' := 14) (lv' := [.ref (X + 49), .int v1, .int v2, .int v3, .int v4, .int v5]) (st' := [.int v4]) q189 7 1 rfl (sx_if_eq q189 8 rfl rfl (sx_p (pc' := 53) (lv' := [.ref (X + 49), .int v1, .int v2, .int v3, .int v4, .int v5]) (st' := [.int v4]) q189 28 1 rfl (sx_ri (ty := .boolean) q189 29 rfl rfl)) (sx_p (pc' := 18) (lv' := [.ref (X + 49), .int v1, .int v2, .int v3, .int v4, .int v5]) (st' := [.ref (X + 49)]) q189 9 1 rfl (sx_gR q189 10 rfl fk_12_51 (fun _ _ => rfl) (hX.s 49 rfl) (hX.r 49 21 rfl) (sx_p (pc' := 25) (lv' := [.ref (X + 49), .int v1, .int v2, .int v3, .int v4, .int v5]) (st' := [.int (v1 + v5), .ref (X + 63)]) q189 11 3 rfl (sx_ba q189 14 rfl (hX.s 63 rfl) (by simp) (hX.b 63) (sx_p (pc' := 27) (lv' := [.ref (X + 49), .int v1, .int v2, .int v3, .int v4, .int v5]) (st' := [.ref (X + 49), .int (D.1 (X + 63) (v1 + v5).toNatClampNeg)]) q189 15 1 rfl (sx_gR q189 16 rfl fk_12_51 (fun _ _ => rfl) (hX.s 49 rfl) (hX.r 49 21 rfl) (sx_p (pc' := 34) (lv' := [.ref (X + 49), .int v1, .int v2, .int v3, .int v4, .int v5]) (st' := [.int (v2 + v5), .ref (X + 63), .int (D.1 (X + 63) (v1 + v5).toNatClampNeg)]) q189 17 3 rfl (sx_ba q189 20 rfl (hX.s 63 rfl) (by simp) (hX.b 63) (sx_icmp_ne q189 21 rfl rfl (sx_p (pc' := 6) (lv' := [.ref (X + 49), .int v1, .int v2, .int v3, .int (ni 0), .int (v5 + ni 1)]) (st' := []) q189 24 4 rfl (sm_ge.refl _)) (sx_p (pc' := 43) (lv' := [.ref (X + 49), .int v1, .int v2, .int v3, .int v4, .int v5]) (st' := [.int (ni 1)]) q189 22 2 rfl (sx_p (pc' := 6) (lv' := [.ref (X + 49), .int v1, .int v2, .int v3, .int (ni 1), .int (v5 + ni 1)]) (st' := []) q189 25 3 rfl (sm_ge.refl _))))))))))))))))
set_option maxRecDepth 8000 in
theorem f189 {C : sm_K} {X : Nat} {v1 : Int32} {v2 : Int32} {v3 : Int32} (hX : sm_Lay C X) {D : sm_D} : sm_ge (sm_fe C 189 [.ref (X + 49), .int v1, .int v2, .int v3] D) (
  sm_fx C 189 6 [.ref (X + 49), .int v1, .int v2, .int v3, .int (ni 1), .int (ni 0)] [] D) := by
  rw [sx_fe (m := 6) rfl rfl]
  exact (show sm_ge (sm_fx C 189 0 [.ref (X + 49), .int v1, .int v2, .int v3, sm_junk, sm_junk] [] D) _ from (sx_p (pc' := 6) (lv' := [.ref (X + 49), .int v1, .int v2, .int v3, .int (ni 1), .int (ni 0)]) (st' := []) q189 0 4 rfl (sm_ge.refl _)))
/-! MessageTreeModel.quoted -/
theorem q190 : sm_q 190 12 sm_i190 3 := ⟨rfl, rfl, rfl⟩
set_option maxRecDepth 8000 in
theorem n190_22 {C : sm_K} {X : Nat} {v1 : Int32} {v2 : Int32} (hX : sm_Lay C X) {D : sm_D} : sm_ge (sm_fx C 190 22 [.ref (X + 49), .int v1, .int v2] [] D) (
  if (D.1 (X + 49) 8) = (sm_k (-1)) then
    sm_bi (sm_fe C 179 [.ref (X + 49)] D) (fun x0 D1 =>
      if x0 = (ni 34) then
        sm_fx C 190 105 [.ref (X + 49), sm_junk, .int v2] [] D1
      else
        sm_bi (sm_fe C 179 [.ref (X + 49)] D1) (fun x1 D2 =>
          if x1 = (sm_k (-1)) then
            sm_fx C 190 52 [.ref (X + 49), .int v1, .int v2] [] D2
          else
            if v2 = v1 then
              sm_fx C 190 52 [.ref (X + 49), .int v1, .int v2] [] D2
            else
              sm_bi (sm_fe C 179 [.ref (X + 49)] D2) (fun x2 D3 =>
                if x2 = (ni 92) then
                  sm_bv (sm_fe C 181 [.ref (X + 49)] D3) (fun D4 =>
                    sm_fx C 190 72 [.ref (X + 49), .int v1, .int v2] [] D4)
                else
                  sm_fx C 190 72 [.ref (X + 49), .int v1, .int v2] [] D3)))
  else
    sm_fx C 190 105 [.ref (X + 49), sm_junk, .int v2] [] D) := 
  (sx_p (pc' := 23) (lv' := [.ref (X + 49), .int v1, .int v2]) (st' := [.ref (X + 49)]) q190 12 1 rfl (sx_gI q190 13 rfl fk_12_134 rfl (hX.s 49 rfl) (hX.b 49) (sx_p (pc' := 27) (lv' := [.ref (X + 49), .int v1, .int v2]) (st' := [.int (sm_k (-1)), .int (D.1 (X + 49) 8)]) q190 14 1 rfl (sx_icmp_ne q190 15 rfl rfl (sx_w (lv := [.ref (X + 49), .int v1, .int v2]) (lv' := [.ref (X + 49), sm_junk, .int v2]) (sm_ordl.ord ⟨Or.inr rfl, Or.inl rfl, Or.inr rfl, trivial⟩)) (sx_p (pc' := 31) (lv' := [.ref (X + 49), .int v1, .int v2]) (st' := [.ref (X + 49)]) q190 16 1 rfl (sx_ki (sx_V q190 17 rfl lk_12_217 vk_179 na_179 rfl rfl rfl rfl (hX.s 49 rfl)) (by decide) rfl (fun x0 D1 => (sx_p (pc' := 36) (lv' := [.ref (X + 49), .int v1, .int v2]) (st' := [.int (ni 34), .int x0]) q190 18 1 rfl (sx_icmp_eq q190 19 rfl rfl (sx_w (lv := [.ref (X + 49), .int v1, .int v2]) (lv' := [.ref (X + 49), sm_junk, .int v2]) (sm_ordl.ord ⟨Or.inr rfl, Or.inl rfl, Or.inr rfl, trivial⟩)) (sx_p (pc' := 40) (lv' := [.ref (X + 49), .int v1, .int v2]) (st' := [.ref (X + 49)]) q190 20 1 rfl (sx_ki (sx_V q190 21 rfl lk_12_217 vk_179 na_179 rfl rfl rfl rfl (hX.s 49 rfl)) (by decide) rfl (fun x1 D2 => (sx_p (pc' := 44) (lv' := [.ref (X + 49), .int v1, .int v2]) (st' := [.int (sm_k (-1)), .int x1]) q190 22 1 rfl (sx_icmp_eq q190 23 rfl rfl (sm_ge.refl _) (sx_p (pc' := 49) (lv' := [.ref (X + 49), .int v1, .int v2]) (st' := [.int v1, .int v2]) q190 24 2 rfl (sx_icmp_ne q190 26 rfl rfl (sx_p (pc' := 60) (lv' := [.ref (X + 49), .int v1, .int v2]) (st' := [.ref (X + 49)]) q190 30 1 rfl (sx_ki (sx_V q190 31 rfl lk_12_217 vk_179 na_179 rfl rfl rfl rfl (hX.s 49 rfl)) (by decide) rfl (fun x2 D3 => (sx_p (pc' := 65) (lv' := [.ref (X + 49), .int v1, .int v2]) (st' := [.int (ni 92), .int x2]) q190 32 1 rfl (sx_icmp_ne q190 33 rfl rfl (sm_ge.refl _) (sx_p (pc' := 69) (lv' := [.ref (X + 49), .int v1, .int v2]) (st' := [.ref (X + 49)]) q190 34 1 rfl (sx_kv (sx_V q190 35 rfl lk_12_223 vk_181 na_181 rfl rfl rfl rfl (hX.s 49 rfl)) (by decide) rfl (fun D4 => (sm_ge.refl _))))))))) (sm_ge.refl _)))))))))))))))))
set_option maxRecDepth 8000 in
theorem n190_52 {C : sm_K} {X : Nat} {v1 : Int32} {v2 : Int32} (hX : sm_Lay C X) {D : sm_D} : sm_ge (sm_fx C 190 52 [.ref (X + 49), .int v1, .int v2] [] D) (
  sm_bv (sm_fe C 180 [.ref (X + 49)] D) (fun D1 =>
    sm_fx C 190 22 [.ref (X + 49), .int v1, .int v2] [] D1)) := 
  (sx_p (pc' := 53) (lv' := [.ref (X + 49), .int v1, .int v2]) (st' := [.ref (X + 49)]) q190 27 1 rfl (sx_kv (sx_V q190 28 rfl lk_12_220 vk_180 na_180 rfl rfl rfl rfl (hX.s 49 rfl)) (by decide) rfl (fun D1 => (sx_p (pc' := 22) (lv' := [.ref (X + 49), .int v1, .int v2]) (st' := []) q190 29 1 rfl (sm_ge.refl _)))))
set_option maxRecDepth 8000 in
theorem n190_72 {C : sm_K} {X : Nat} {v1 : Int32} {v2 : Int32} (hX : sm_Lay C X) {D : sm_D} : sm_ge (sm_fx C 190 72 [.ref (X + 49), .int v1, .int v2] [] D) (
  sm_bi (sm_fe C 179 [.ref (X + 49)] D) (fun x0 D1 =>
    if x0 = (sm_k (-1)) then
      sm_bv (sm_fe C 180 [.ref (X + 49)] D1) (fun D5 =>
        sm_fx C 190 22 [.ref (X + 49), .int v1, .int v2] [] D5)
    else
      sm_bi (sm_fe C 179 [.ref (X + 49)] D1) (fun x1 D2 =>
        sm_bv (sm_fe C 173 [.ref (X + 49), .int x1] D2) (fun D3 =>
          sm_bv (sm_fe C 181 [.ref (X + 49)] D3) (fun D4 =>
            sm_fx C 190 22 [.ref (X + 49), .int v1, .int (v2 + ni 1)] [] D4))))) := 
  (sx_p (pc' := 73) (lv' := [.ref (X + 49), .int v1, .int v2]) (st' := [.ref (X + 49)]) q190 36 1 rfl (sx_ki (sx_V q190 37 rfl lk_12_217 vk_179 na_179 rfl rfl rfl rfl (hX.s 49 rfl)) (by decide) rfl (fun x0 D1 => (sx_p (pc' := 77) (lv' := [.ref (X + 49), .int v1, .int v2]) (st' := [.int (sm_k (-1)), .int x0]) q190 38 1 rfl (sx_icmp_ne q190 39 rfl rfl (sx_p (pc' := 89) (lv' := [.ref (X + 49), .int v1, .int v2]) (st' := [.ref (X + 49), .ref (X + 49)]) q190 43 2 rfl (sx_ki (sx_V q190 45 rfl lk_12_217 vk_179 na_179 rfl rfl rfl rfl (hX.s 49 rfl)) (by decide) rfl (fun x1 D2 => (sx_kv (sx_V q190 46 rfl lk_12_247 vk_173 na_173 rfl rfl rfl rfl (hX.s 49 rfl)) (by decide) rfl (fun D3 => (sx_p (pc' := 99) (lv' := [.ref (X + 49), .int v1, .int (v2 + ni 1)]) (st' := [.ref (X + 49)]) q190 47 2 rfl (sx_kv (sx_V q190 49 rfl lk_12_223 vk_181 na_181 rfl rfl rfl rfl (hX.s 49 rfl)) (by decide) rfl (fun D4 => (sx_p (pc' := 22) (lv' := [.ref (X + 49), .int v1, .int (v2 + ni 1)]) (st' := []) q190 50 1 rfl (sm_ge.refl _)))))))))) (sx_p (pc' := 81) (lv' := [.ref (X + 49), .int v1, .int v2]) (st' := [.ref (X + 49)]) q190 40 1 rfl (sx_kv (sx_V q190 41 rfl lk_12_220 vk_180 na_180 rfl rfl rfl rfl (hX.s 49 rfl)) (by decide) rfl (fun D5 => (sx_p (pc' := 22) (lv' := [.ref (X + 49), .int v1, .int v2]) (st' := []) q190 42 1 rfl (sm_ge.refl _))))))))))
set_option maxRecDepth 8000 in
theorem n190_105 {C : sm_K} {X : Nat} {v2 : Int32} (hX : sm_Lay C X) {D : sm_D} : sm_ge (sm_fx C 190 105 [.ref (X + 49), sm_junk, .int v2] [] D) (
  sm_bv (sm_fe C 181 [.ref (X + 49)] D) (fun D1 =>
    let D2 := sm_dI D1 (X + 49) 49 v2
    some (.inl none, D2))) := 
  (sx_p (pc' := 106) (lv' := [.ref (X + 49), sm_junk, .int v2]) (st' := [.ref (X + 49)]) q190 51 1 rfl (sx_kv (sx_V q190 52 rfl lk_12_223 vk_181 na_181 rfl rfl rfl rfl (hX.s 49 rfl)) (by decide) rfl (fun D1 => (sx_p (pc' := 111) (lv' := [.ref (X + 49), sm_junk, .int v2]) (st' := [.int v2, .ref (X + 49)]) q190 53 2 rfl (sx_pI q190 55 rfl pk_12_250 rfl (hX.s 49 rfl) (hX.b 49) (sx_rv q190 56 rfl rfl))))))
set_option maxRecDepth 8000 in
theorem f190 {C : sm_K} {X : Nat} {v1 : Int32} (hX : sm_Lay C X) {D : sm_D} : sm_ge (sm_fe C 190 [.ref (X + 49), .int v1] D) (
  let D1 := sm_dI D (X + 49) 50 (D.1 (X + 49) 46)
  let D2 := sm_dI D1 (X + 49) 48 (D1.1 (X + 49) 20)
  sm_bv (sm_fe C 181 [.ref (X + 49)] D2) (fun D3 =>
    sm_fx C 190 22 [.ref (X + 49), .int v1, .int (ni 0)] [] D3)) := by
  rw [sx_fe (m := 3) rfl rfl]
  exact (show sm_ge (sm_fx C 190 0 [.ref (X + 49), .int v1, sm_junk] [] D) _ from (sx_p (pc' := 2) (lv' := [.ref (X + 49), .int v1, sm_junk]) (st' := [.ref (X + 49), .ref (X + 49)]) q190 0 2 rfl (sx_gI q190 2 rfl fk_12_208 rfl (hX.s 49 rfl) (hX.b 49) (sx_pI q190 3 rfl pk_12_235 rfl (hX.s 49 rfl) (hX.b 49) (sx_p (pc' := 10) (lv' := [.ref (X + 49), .int v1, sm_junk]) (st' := [.ref (X + 49), .ref (X + 49)]) q190 4 2 rfl (sx_gI q190 6 rfl fk_12_232 rfl (hX.s 49 rfl) (hX.b 49) (sx_pI q190 7 rfl pk_12_238 rfl (hX.s 49 rfl) (hX.b 49) (sx_p (pc' := 19) (lv' := [.ref (X + 49), .int v1, .int (ni 0)]) (st' := [.ref (X + 49)]) q190 8 3 rfl (sx_kv (sx_V q190 11 rfl lk_12_223 vk_181 na_181 rfl rfl rfl rfl (hX.s 49 rfl)) (by decide) rfl (fun D3 => (sm_ge.refl _)))))))))))
/-! MessageTreeModel.needEnd -/
theorem q191 : sm_q 191 12 sm_i191 2 := ⟨rfl, rfl, rfl⟩
set_option maxRecDepth 8000 in
theorem f191 {C : sm_K} {X : Nat} (hX : sm_Lay C X) {D : sm_D} : sm_ge (sm_fe C 191 [.ref (X + 49)] D) (
  if (D.1 (X + 49) 8) = (sm_k (-1)) then
    sm_bi (sm_fe C 179 [.ref (X + 49)] D) (fun x0 D1 =>
      if x0 = (sm_k (-1)) then
        some (.inl none, D1)
      else
        sm_bv (sm_fe C 180 [.ref (X + 49)] D1) (fun D2 =>
          some (.inl none, D2)))
  else
    some (.inl none, D)) := by
  rw [sx_fe (m := 1) rfl rfl]
  exact (show sm_ge (sm_fx C 191 0 [.ref (X + 49)] [] D) _ from (sx_p (pc' := 1) (lv' := [.ref (X + 49)]) (st' := [.ref (X + 49)]) q191 0 1 rfl (sx_gI q191 1 rfl fk_12_134 rfl (hX.s 49 rfl) (hX.b 49) (sx_p (pc' := 5) (lv' := [.ref (X + 49)]) (st' := [.int (sm_k (-1)), .int (D.1 (X + 49) 8)]) q191 2 1 rfl (sx_icmp_ne q191 3 rfl rfl (sx_rv q191 10 rfl rfl) (sx_p (pc' := 9) (lv' := [.ref (X + 49)]) (st' := [.ref (X + 49)]) q191 4 1 rfl (sx_ki (sx_V q191 5 rfl lk_12_217 vk_179 na_179 rfl rfl rfl rfl (hX.s 49 rfl)) (by decide) rfl (fun x0 D1 => (sx_p (pc' := 13) (lv' := [.ref (X + 49)]) (st' := [.int (sm_k (-1)), .int x0]) q191 6 1 rfl (sx_icmp_eq q191 7 rfl rfl (sx_rv q191 10 rfl rfl) (sx_p (pc' := 17) (lv' := [.ref (X + 49)]) (st' := [.ref (X + 49)]) q191 8 1 rfl (sx_kv (sx_V q191 9 rfl lk_12_220 vk_180 na_180 rfl rfl rfl rfl (hX.s 49 rfl)) (by decide) rfl (fun D2 => (sx_rv q191 10 rfl rfl))))))))))))))
/-! MessageTreeModel.isTold -/
theorem q192 : sm_q 192 12 sm_i192 4 := ⟨rfl, rfl, rfl⟩
set_option maxRecDepth 8000 in
theorem n192_13 {C : sm_K} {X : Nat} {s : Nat} {w : Nat} {nw : Nat} {v1 : Int32} {v2 : Int32} {s0 : Int32} (hX : sm_Lay C X) (hs : sm_sr C s w nw) {D : sm_D} : sm_ge (sm_fx C 192 13 [.ref (X + 49), .int v1, .int v2, .ref s, sm_junk, sm_junk] [.int s0] D) (
  sm_fx C 192 18 [.ref (X + 49), .int v1, .int v2, .ref s, .int s0, .int (ni 0)] [] D) := 
  (sx_p (pc' := 18) (lv' := [.ref (X + 49), .int v1, .int v2, .ref s, .int s0, .int (ni 0)]) (st' := []) q192 7 3 rfl (sm_ge.refl _))
set_option maxRecDepth 8000 in
theorem n192_18 {C : sm_K} {X : Nat} {s : Nat} {w : Nat} {nw : Nat} {v1 : Int32} {v2 : Int32} {v4 : Int32} {v5 : Int32} (hX : sm_Lay C X) (hs : sm_sr C s w nw) {D : sm_D} : sm_ge (sm_fx C 192 18 [.ref (X + 49), .int v1, .int v2, .ref s, .int v4, .int v5] [] D) (
  if v2 ≤ v5 then
    some (.inl (some (.int (sm_nar .boolean v4))), D)
  else
    if v4 = ni 0 then
      some (.inl (some (.int (sm_nar .boolean v4))), D)
    else
      sm_gu (sm_in_b (v1 + v5) 24000) (
      sm_bi (sm_fe C 168 [.int (D.1 (X + 63) (v1 + v5).toNatClampNeg)] D) (fun x0 D1 =>
        sm_bi (sm_fe C 262 [.ref s, .int v5] D1) (fun x1 D2 =>
          if x0 = x1 then
            sm_fx C 192 18 [.ref (X + 49), .int v1, .int v2, .ref s, .int (ni 1), .int (v5 + ni 1)] [] D2
          else
            sm_fx C 192 18 [.ref (X + 49), .int v1, .int v2, .ref s, .int (ni 0), .int (v5 + ni 1)] [] D2)))) := 
  (sx_p (pc' := 21) (lv' := [.ref (X + 49), .int v1, .int v2, .ref s, .int v4, .int v5]) (st' := [.int v2, .int v5]) q192 10 2 rfl (sx_icmp_ge q192 12 rfl rfl (sx_p (pc' := 65) (lv' := [.ref (X + 49), .int v1, .int v2, .ref s, .int v4, .int v5]) (st' := [.int v4]) q192 32 1 rfl (sx_ri (ty := .boolean) q192 33 rfl rfl)) (sx_p (pc' := 26) (lv' := [.ref (X + 49), .int v1, .int v2, .ref s, .int v4, .int v5]) (st' := [.int v4]) q192 13 1 rfl (sx_if_eq q192 14 rfl rfl (sx_p (pc' := 65) (lv' := [.ref (X + 49), .int v1, .int v2, .ref s, .int v4, .int v5]) (st' := [.int v4]) q192 32 1 rfl (sx_ri (ty := .boolean) q192 33 rfl rfl)) (sx_p (pc' := 30) (lv' := [.ref (X + 49), .int v1, .int v2, .ref s, .int v4, .int v5]) (st' := [.ref (X + 49)]) q192 15 1 rfl (sx_gR q192 16 rfl fk_12_51 (fun _ _ => rfl) (hX.s 49 rfl) (hX.r 49 21 rfl) (sx_p (pc' := 37) (lv' := [.ref (X + 49), .int v1, .int v2, .ref s, .int v4, .int v5]) (st' := [.int (v1 + v5), .ref (X + 63)]) q192 17 3 rfl (sx_ba q192 20 rfl (hX.s 63 rfl) (by simp) (hX.b 63) (sx_ki (sx_S q192 21 rfl lk_12_165 rfl na_168 rfl rfl rfl rfl) (by decide) rfl (fun x0 D1 => (sx_p (pc' := 44) (lv' := [.ref (X + 49), .int v1, .int v2, .ref s, .int v4, .int v5]) (st' := [.int v5, .ref s, .int x0]) q192 22 2 rfl (sx_ki (sx_V q192 24 rfl lk_12_168 vk_262 na_262 rfl rfl rfl rfl hs.1) (by decide) rfl (fun x1 D2 => (sx_icmp_ne q192 25 rfl rfl (sx_p (pc' := 18) (lv' := [.ref (X + 49), .int v1, .int v2, .ref s, .int (ni 0), .int (v5 + ni 1)]) (st' := []) q192 28 4 rfl (sm_ge.refl _)) (sx_p (pc' := 55) (lv' := [.ref (X + 49), .int v1, .int v2, .ref s, .int v4, .int v5]) (st' := [.int (ni 1)]) q192 26 2 rfl (sx_p (pc' := 18) (lv' := [.ref (X + 49), .int v1, .int v2, .ref s, .int (ni 1), .int (v5 + ni 1)]) (st' := []) q192 29 3 rfl (sm_ge.refl _)))))))))))))))))
set_option maxRecDepth 8000 in
theorem f192 {C : sm_K} {X : Nat} {v1 : Int32} {v2 : Int32} {s : Nat} {w : Nat} {nw : Nat} (hX : sm_Lay C X) (hs : sm_sr C s w nw) {D : sm_D} : sm_ge (sm_fe C 192 [.ref (X + 49), .int v1, .int v2, .ref s] D) (
  sm_bi (sm_fe C 260 [.ref s] D) (fun x0 D1 =>
    if v2 = x0 then
      sm_fx C 192 13 [.ref (X + 49), .int v1, .int v2, .ref s, sm_junk, sm_junk] [.int (ni 1)] D1
    else
      sm_fx C 192 13 [.ref (X + 49), .int v1, .int v2, .ref s, sm_junk, sm_junk] [.int (ni 0)] D1)) := by
  rw [sx_fe (m := 6) rfl rfl]
  exact (show sm_ge (sm_fx C 192 0 [.ref (X + 49), .int v1, .int v2, .ref s, sm_junk, sm_junk] [] D) _ from (sx_p (pc' := 2) (lv' := [.ref (X + 49), .int v1, .int v2, .ref s, sm_junk, sm_junk]) (st' := [.ref s, .int v2]) q192 0 2 rfl (sx_ki (sx_V q192 2 rfl lk_12_159 vk_260 na_260 rfl rfl rfl rfl hs.1) (by decide) rfl (fun x0 D1 => (sx_icmp_ne q192 3 rfl rfl (sx_p (pc' := 13) (lv' := [.ref (X + 49), .int v1, .int v2, .ref s, sm_junk, sm_junk]) (st' := [.int (ni 0)]) q192 6 1 rfl (sm_ge.refl _)) (sx_p (pc' := 13) (lv' := [.ref (X + 49), .int v1, .int v2, .ref s, sm_junk, sm_junk]) (st' := [.int (ni 1)]) q192 4 2 rfl (sm_ge.refl _)))))))
/-! MessageTreeModel.boundaryOf -/
theorem q193 : sm_q 193 12 sm_i193 5 := ⟨rfl, rfl, rfl⟩
set_option maxRecDepth 8000 in
theorem n193_5 {C : sm_K} {X : Nat} {v1 : Int32} {v2 : Int32} (hX : sm_Lay C X) {D : sm_D} : sm_ge (sm_fx C 193 5 [.ref (X + 49), .int v1, .int v2, sm_junk, sm_junk, sm_junk] [] D) (
  sm_gu (sm_in_b v1 40) (
  if (((ni 6) * v1) + (D.1 (X + 61) v1.toNatClampNeg)) ≤ v2 then
    some (.inl (some (.int (sm_k (-1)))), D)
  else
    sm_gu (sm_in_b v2 240) (
    sm_gu (sm_in_b v2 240) (
    sm_bi (sm_fe C 192 [.ref (X + 49), .int (D.1 (X + 66) v2.toNatClampNeg), .int (D.1 (X + 67) v2.toNatClampNeg), .ref (C.1.1 53)] D) (fun x0 D1 =>
      if x0 = ni 0 then
        sm_fx C 193 5 [.ref (X + 49), .int v1, .int (v2 + ni 1), sm_junk, sm_junk, sm_junk] [] D1
      else
        sm_gu (sm_in_b v2 240) (
        sm_bi (sm_fe C 157 [.int (D1.1 (X + 69) v2.toNatClampNeg), .int (ni 1), .int (ni 70)] D1) (fun x1 D2 =>
          sm_fx C 193 61 [.ref (X + 49), sm_junk, .int v2, .int (D1.1 (X + 69) v2.toNatClampNeg), .int x1, .int (ni 0)] [] D2))))))) := 
  (sx_p (pc' := 11) (lv' := [.ref (X + 49), .int v1, .int v2, sm_junk, sm_junk, sm_junk]) (st' := [.ref (X + 49), .int ((ni 6) * v1), .int v2]) q193 4 5 rfl (sx_gR q193 9 rfl fk_12_45 (fun _ _ => rfl) (hX.s 49 rfl) (hX.r 49 18 rfl) (sx_p (pc' := 15) (lv' := [.ref (X + 49), .int v1, .int v2, sm_junk, sm_junk, sm_junk]) (st' := [.int v1, .ref (X + 61), .int ((ni 6) * v1), .int v2]) q193 10 1 rfl (sx_ia q193 11 rfl (hX.s 61 rfl) (hX.b 61) (sx_p (pc' := 17) (lv' := [.ref (X + 49), .int v1, .int v2, sm_junk, sm_junk, sm_junk]) (st' := [.int (((ni 6) * v1) + (D.1 (X + 61) v1.toNatClampNeg)), .int v2]) q193 12 1 rfl (sx_icmp_ge q193 13 rfl rfl (sx_p (pc' := 135) (lv' := [.ref (X + 49), .int v1, .int v2, sm_junk, sm_junk, sm_junk]) (st' := [.int (sm_k (-1))]) q193 77 1 rfl (sx_ri (ty := .int) q193 78 rfl rfl)) (sx_p (pc' := 22) (lv' := [.ref (X + 49), .int v1, .int v2, sm_junk, sm_junk, sm_junk]) (st' := [.ref (X + 49), .ref (X + 49)]) q193 14 2 rfl (sx_gR q193 16 rfl fk_12_60 (fun _ _ => rfl) (hX.s 49 rfl) (hX.r 49 24 rfl) (sx_p (pc' := 26) (lv' := [.ref (X + 49), .int v1, .int v2, sm_junk, sm_junk, sm_junk]) (st' := [.int v2, .ref (X + 66), .ref (X + 49)]) q193 17 1 rfl (sx_ia q193 18 rfl (hX.s 66 rfl) (hX.b 66) (sx_p (pc' := 28) (lv' := [.ref (X + 49), .int v1, .int v2, sm_junk, sm_junk, sm_junk]) (st' := [.ref (X + 49), .int (D.1 (X + 66) v2.toNatClampNeg), .ref (X + 49)]) q193 19 1 rfl (sx_gR q193 20 rfl fk_12_63 (fun _ _ => rfl) (hX.s 49 rfl) (hX.r 49 25 rfl) (sx_p (pc' := 32) (lv' := [.ref (X + 49), .int v1, .int v2, sm_junk, sm_junk, sm_junk]) (st' := [.int v2, .ref (X + 67), .int (D.1 (X + 66) v2.toNatClampNeg), .ref (X + 49)]) q193 21 1 rfl (sx_ia q193 22 rfl (hX.s 67 rfl) (hX.b 67) (sx_cs q193 23 rfl (Or.inr ⟨rfl, rfl⟩) cs_12_293 (sx_ki (sx_V q193 24 rfl lk_12_281 vk_192 na_192 rfl rfl rfl rfl (hX.s 49 rfl)) (by decide) rfl (fun x0 D1 => (sx_if_eq q193 25 rfl rfl (sx_p (pc' := 5) (lv' := [.ref (X + 49), .int v1, .int (v2 + ni 1), sm_junk, sm_junk, sm_junk]) (st' := []) q193 75 2 rfl (sm_ge.refl _)) (sx_p (pc' := 43) (lv' := [.ref (X + 49), .int v1, .int v2, sm_junk, sm_junk, sm_junk]) (st' := [.ref (X + 49)]) q193 26 1 rfl (sx_gR q193 27 rfl fk_12_69 (fun _ _ => rfl) (hX.s 49 rfl) (hX.r 49 27 rfl) (sx_p (pc' := 47) (lv' := [.ref (X + 49), .int v1, .int v2, sm_junk, sm_junk, sm_junk]) (st' := [.int v2, .ref (X + 69)]) q193 28 1 rfl (sx_ia q193 29 rfl (hX.s 69 rfl) (hX.b 69) (sx_p (pc' := 53) (lv' := [.ref (X + 49), .int v1, .int v2, .int (D1.1 (X + 69) v2.toNatClampNeg), sm_junk, sm_junk]) (st' := [.int (ni 70), .int (ni 1), .int (D1.1 (X + 69) v2.toNatClampNeg)]) q193 30 4 rfl (sx_ki (sx_S q193 34 rfl lk_12_137 rfl na_157 rfl rfl rfl rfl) (by decide) rfl (fun x1 D2 => (sx_p (pc' := 61) (lv' := [.ref (X + 49), .int v1, .int v2, .int (D1.1 (X + 69) v2.toNatClampNeg), .int x1, .int (ni 0)]) (st' := []) q193 35 3 rfl (sx_w (lv := [.ref (X + 49), .int v1, .int v2, .int (D1.1 (X + 69) v2.toNatClampNeg), .int x1, .int (ni 0)]) (lv' := [.ref (X + 49), sm_junk, .int v2, .int (D1.1 (X + 69) v2.toNatClampNeg), .int x1, .int (ni 0)]) (sm_ordl.ord ⟨Or.inr rfl, Or.inl rfl, Or.inr rfl, Or.inr rfl, Or.inr rfl, Or.inr rfl, trivial⟩))))))))))))))))))))))))))))
set_option maxRecDepth 8000 in
theorem n193_61 {C : sm_K} {X : Nat} {v2 : Int32} {v3 : Int32} {v4 : Int32} {v5 : Int32} (hX : sm_Lay C X) {D : sm_D} : sm_ge (sm_fx C 193 61 [.ref (X + 49), sm_junk, .int v2, .int v3, .int v4, .int v5] [] D) (
  if v3 ≤ v5 then
    sm_fx C 193 97 [.ref (X + 49), sm_junk, .int v2, .int v3, .int v4, sm_junk] [] D
  else
    if v4 = ni 0 then
      sm_fx C 193 97 [.ref (X + 49), sm_junk, .int v2, .int v3, .int v4, sm_junk] [] D
    else
      sm_gu (sm_in_b v2 240) (
      sm_gu (sm_in_b ((D.1 (X + 68) v2.toNatClampNeg) + v5) 24000) (
      sm_bi (sm_fe C 194 [.int (D.1 (X + 63) ((D.1 (X + 68) v2.toNatClampNeg) + v5).toNatClampNeg)] D) (fun x0 D1 =>
        sm_fx C 193 61 [.ref (X + 49), sm_junk, .int v2, .int v3, .int x0, .int (v5 + ni 1)] [] D1)))) := 
  (sx_p (pc' := 64) (lv' := [.ref (X + 49), sm_junk, .int v2, .int v3, .int v4, .int v5]) (st' := [.int v3, .int v5]) q193 38 2 rfl (sx_icmp_ge q193 40 rfl rfl (sx_w (lv := [.ref (X + 49), sm_junk, .int v2, .int v3, .int v4, .int v5]) (lv' := [.ref (X + 49), sm_junk, .int v2, .int v3, .int v4, sm_junk]) (sm_ordl.ord ⟨Or.inr rfl, Or.inl rfl, Or.inr rfl, Or.inr rfl, Or.inr rfl, Or.inl rfl, trivial⟩)) (sx_p (pc' := 69) (lv' := [.ref (X + 49), sm_junk, .int v2, .int v3, .int v4, .int v5]) (st' := [.int v4]) q193 41 1 rfl (sx_if_eq q193 42 rfl rfl (sx_w (lv := [.ref (X + 49), sm_junk, .int v2, .int v3, .int v4, .int v5]) (lv' := [.ref (X + 49), sm_junk, .int v2, .int v3, .int v4, sm_junk]) (sm_ordl.ord ⟨Or.inr rfl, Or.inl rfl, Or.inr rfl, Or.inr rfl, Or.inr rfl, Or.inl rfl, trivial⟩)) (sx_p (pc' := 73) (lv' := [.ref (X + 49), sm_junk, .int v2, .int v3, .int v4, .int v5]) (st' := [.ref (X + 49)]) q193 43 1 rfl (sx_gR q193 44 rfl fk_12_51 (fun _ _ => rfl) (hX.s 49 rfl) (hX.r 49 21 rfl) (sx_p (pc' := 77) (lv' := [.ref (X + 49), sm_junk, .int v2, .int v3, .int v4, .int v5]) (st' := [.ref (X + 49), .ref (X + 63)]) q193 45 1 rfl (sx_gR q193 46 rfl fk_12_66 (fun _ _ => rfl) (hX.s 49 rfl) (hX.r 49 26 rfl) (sx_p (pc' := 81) (lv' := [.ref (X + 49), sm_junk, .int v2, .int v3, .int v4, .int v5]) (st' := [.int v2, .ref (X + 68), .ref (X + 63)]) q193 47 1 rfl (sx_ia q193 48 rfl (hX.s 68 rfl) (hX.b 68) (sx_p (pc' := 85) (lv' := [.ref (X + 49), sm_junk, .int v2, .int v3, .int v4, .int v5]) (st' := [.int ((D.1 (X + 68) v2.toNatClampNeg) + v5), .ref (X + 63)]) q193 49 2 rfl (sx_ba q193 51 rfl (hX.s 63 rfl) (by simp) (hX.b 63) (sx_ki (sx_S q193 52 rfl lk_12_295 rfl na_194 rfl rfl rfl rfl) (by decide) rfl (fun x0 D1 => (sx_p (pc' := 61) (lv' := [.ref (X + 49), sm_junk, .int v2, .int v3, .int x0, .int (v5 + ni 1)]) (st' := []) q193 53 3 rfl (sm_ge.refl _))))))))))))))))
set_option maxRecDepth 8000 in
theorem n193_97 {C : sm_K} {X : Nat} {v2 : Int32} {v3 : Int32} {v4 : Int32} (hX : sm_Lay C X) {D : sm_D} : sm_ge (sm_fx C 193 97 [.ref (X + 49), sm_junk, .int v2, .int v3, .int v4, sm_junk] [] D) (
  if v4 = ni 0 then
    some (.inl (some (.int (sm_k (-1)))), D)
  else
    sm_gu (sm_in_b v2 240) (
    sm_gu (sm_in_b (((D.1 (X + 68) v2.toNatClampNeg) + v3) - (ni 1)) 24000) (
    if (D.1 (X + 63) (((D.1 (X + 68) v2.toNatClampNeg) + v3) - (ni 1)).toNatClampNeg) = (ni 32) then
      some (.inl (some (.int (sm_k (-1)))), D)
    else
      some (.inl (some (.int v2)), D)))) := 
  (sx_p (pc' := 99) (lv' := [.ref (X + 49), sm_junk, .int v2, .int v3, .int v4, sm_junk]) (st' := [.int v4]) q193 56 1 rfl (sx_if_eq q193 57 rfl rfl (sx_p (pc' := 127) (lv' := [.ref (X + 49), sm_junk, .int v2, .int v3, .int v4, sm_junk]) (st' := [.int (sm_k (-1))]) q193 73 1 rfl (sx_ri (ty := .int) q193 74 rfl rfl)) (sx_p (pc' := 103) (lv' := [.ref (X + 49), sm_junk, .int v2, .int v3, .int v4, sm_junk]) (st' := [.ref (X + 49)]) q193 58 1 rfl (sx_gR q193 59 rfl fk_12_51 (fun _ _ => rfl) (hX.s 49 rfl) (hX.r 49 21 rfl) (sx_p (pc' := 107) (lv' := [.ref (X + 49), sm_junk, .int v2, .int v3, .int v4, sm_junk]) (st' := [.ref (X + 49), .ref (X + 63)]) q193 60 1 rfl (sx_gR q193 61 rfl fk_12_66 (fun _ _ => rfl) (hX.s 49 rfl) (hX.r 49 26 rfl) (sx_p (pc' := 111) (lv' := [.ref (X + 49), sm_junk, .int v2, .int v3, .int v4, sm_junk]) (st' := [.int v2, .ref (X + 68), .ref (X + 63)]) q193 62 1 rfl (sx_ia q193 63 rfl (hX.s 68 rfl) (hX.b 68) (sx_p (pc' := 116) (lv' := [.ref (X + 49), sm_junk, .int v2, .int v3, .int v4, sm_junk]) (st' := [.int (((D.1 (X + 68) v2.toNatClampNeg) + v3) - (ni 1)), .ref (X + 63)]) q193 64 4 rfl (sx_ba q193 68 rfl (hX.s 63 rfl) (by simp) (hX.b 63) (sx_p (pc' := 119) (lv' := [.ref (X + 49), sm_junk, .int v2, .int v3, .int v4, sm_junk]) (st' := [.int (ni 32), .int (D.1 (X + 63) (((D.1 (X + 68) v2.toNatClampNeg) + v3) - (ni 1)).toNatClampNeg)]) q193 69 1 rfl (sx_icmp_eq q193 70 rfl rfl (sx_p (pc' := 127) (lv' := [.ref (X + 49), sm_junk, .int v2, .int v3, .int v4, sm_junk]) (st' := [.int (sm_k (-1))]) q193 73 1 rfl (sx_ri (ty := .int) q193 74 rfl rfl)) (sx_p (pc' := 127) (lv' := [.ref (X + 49), sm_junk, .int v2, .int v3, .int v4, sm_junk]) (st' := [.int v2]) q193 71 2 rfl (sx_ri (ty := .int) q193 74 rfl rfl))))))))))))))
set_option maxRecDepth 8000 in
theorem f193 {C : sm_K} {X : Nat} {v1 : Int32} (hX : sm_Lay C X) {D : sm_D} : sm_ge (sm_fe C 193 [.ref (X + 49), .int v1] D) (
  sm_fx C 193 5 [.ref (X + 49), .int v1, .int ((ni 6) * v1), sm_junk, sm_junk, sm_junk] [] D) := by
  rw [sx_fe (m := 6) rfl rfl]
  exact (show sm_ge (sm_fx C 193 0 [.ref (X + 49), .int v1, sm_junk, sm_junk, sm_junk, sm_junk] [] D) _ from (sx_p (pc' := 5) (lv' := [.ref (X + 49), .int v1, .int ((ni 6) * v1), sm_junk, sm_junk, sm_junk]) (st' := []) q193 0 4 rfl (sm_ge.refl _)))
/-! MessageTreeModel.isBoundarySign -/
theorem q194 : sm_q 194 12 sm_i194 2 := ⟨rfl, rfl, rfl⟩
set_option maxRecDepth 8000 in
theorem f194 {C : sm_K} {v0 : Int32} {D : sm_D} : sm_ge (sm_fe C 194 [.int v0] D) (
  sm_bi (sm_fe C 185 [.int v0] D) (fun x0 D1 =>
    if x0 = ni 0 then
      sm_bi (sm_fe C 186 [.int v0] D1) (fun x1 D2 =>
        if x1 = ni 0 then
          if v0 = (ni 32) then
            some (.inl (some (.int (sm_nar .boolean (ni 1)))), D2)
          else
            sm_bi (sm_fe C 157 [.int v0, .int (ni 39), .int (ni 41)] D2) (fun x2 D3 =>
              if x2 = ni 0 then
                sm_bi (sm_fe C 157 [.int v0, .int (ni 43), .int (ni 47)] D3) (fun x3 D4 =>
                  if x3 = ni 0 then
                    if v0 = (ni 95) then
                      some (.inl (some (.int (sm_nar .boolean (ni 1)))), D4)
                    else
                      if v0 = (ni 58) then
                        some (.inl (some (.int (sm_nar .boolean (ni 1)))), D4)
                      else
                        if v0 = (ni 61) then
                          some (.inl (some (.int (sm_nar .boolean (ni 1)))), D4)
                        else
                          if v0 = (ni 63) then
                            some (.inl (some (.int (sm_nar .boolean (ni 1)))), D4)
                          else
                            some (.inl (some (.int (sm_nar .boolean (ni 0)))), D4)
                  else
                    some (.inl (some (.int (sm_nar .boolean (ni 1)))), D4))
              else
                some (.inl (some (.int (sm_nar .boolean (ni 1)))), D3))
        else
          some (.inl (some (.int (sm_nar .boolean (ni 1)))), D2))
    else
      some (.inl (some (.int (sm_nar .boolean (ni 1)))), D1))) := by
  rw [sx_fe (m := 1) rfl rfl]
  exact (show sm_ge (sm_fx C 194 0 [.int v0] [] D) _ from (sx_p (pc' := 1) (lv' := [.int v0]) (st' := [.int v0]) q194 0 1 rfl (sx_ki (sx_S q194 1 rfl lk_12_226 rfl na_185 rfl rfl rfl rfl) (by decide) rfl (fun x0 D1 => (sx_if_ne q194 2 rfl rfl (sx_p (pc' := 71) (lv' := [.int v0]) (st' := [.int (ni 1)]) q194 31 2 rfl (sx_ri (ty := .boolean) q194 34 rfl rfl)) (sx_p (pc' := 8) (lv' := [.int v0]) (st' := [.int v0]) q194 3 1 rfl (sx_ki (sx_S q194 4 rfl lk_12_229 rfl na_186 rfl rfl rfl rfl) (by decide) rfl (fun x1 D2 => (sx_if_ne q194 5 rfl rfl (sx_p (pc' := 71) (lv' := [.int v0]) (st' := [.int (ni 1)]) q194 31 2 rfl (sx_ri (ty := .boolean) q194 34 rfl rfl)) (sx_p (pc' := 17) (lv' := [.int v0]) (st' := [.int (ni 32), .int v0]) q194 6 2 rfl (sx_icmp_eq q194 8 rfl rfl (sx_p (pc' := 71) (lv' := [.int v0]) (st' := [.int (ni 1)]) q194 31 2 rfl (sx_ri (ty := .boolean) q194 34 rfl rfl)) (sx_p (pc' := 25) (lv' := [.int v0]) (st' := [.int (ni 41), .int (ni 39), .int v0]) q194 9 3 rfl (sx_ki (sx_S q194 12 rfl lk_12_137 rfl na_157 rfl rfl rfl rfl) (by decide) rfl (fun x2 D3 => (sx_if_ne q194 13 rfl rfl (sx_p (pc' := 71) (lv' := [.int v0]) (st' := [.int (ni 1)]) q194 31 2 rfl (sx_ri (ty := .boolean) q194 34 rfl rfl)) (sx_p (pc' := 36) (lv' := [.int v0]) (st' := [.int (ni 47), .int (ni 43), .int v0]) q194 14 3 rfl (sx_ki (sx_S q194 17 rfl lk_12_137 rfl na_157 rfl rfl rfl rfl) (by decide) rfl (fun x3 D4 => (sx_if_ne q194 18 rfl rfl (sx_p (pc' := 71) (lv' := [.int v0]) (st' := [.int (ni 1)]) q194 31 2 rfl (sx_ri (ty := .boolean) q194 34 rfl rfl)) (sx_p (pc' := 45) (lv' := [.int v0]) (st' := [.int (ni 95), .int v0]) q194 19 2 rfl (sx_icmp_eq q194 21 rfl rfl (sx_p (pc' := 71) (lv' := [.int v0]) (st' := [.int (ni 1)]) q194 31 2 rfl (sx_ri (ty := .boolean) q194 34 rfl rfl)) (sx_p (pc' := 51) (lv' := [.int v0]) (st' := [.int (ni 58), .int v0]) q194 22 2 rfl (sx_icmp_eq q194 24 rfl rfl (sx_p (pc' := 71) (lv' := [.int v0]) (st' := [.int (ni 1)]) q194 31 2 rfl (sx_ri (ty := .boolean) q194 34 rfl rfl)) (sx_p (pc' := 57) (lv' := [.int v0]) (st' := [.int (ni 61), .int v0]) q194 25 2 rfl (sx_icmp_eq q194 27 rfl rfl (sx_p (pc' := 71) (lv' := [.int v0]) (st' := [.int (ni 1)]) q194 31 2 rfl (sx_ri (ty := .boolean) q194 34 rfl rfl)) (sx_p (pc' := 63) (lv' := [.int v0]) (st' := [.int (ni 63), .int v0]) q194 28 2 rfl (sx_icmp_ne q194 30 rfl rfl (sx_p (pc' := 71) (lv' := [.int v0]) (st' := [.int (ni 0)]) q194 33 1 rfl (sx_ri (ty := .boolean) q194 34 rfl rfl)) (sx_p (pc' := 71) (lv' := [.int v0]) (st' := [.int (ni 1)]) q194 31 2 rfl (sx_ri (ty := .boolean) q194 34 rfl rfl)))))))))))))))))))))))))))))
/-! MessageTreeModel.readCode -/
theorem q195 : sm_q 195 12 sm_i195 5 := ⟨rfl, rfl, rfl⟩
set_option maxRecDepth 8000 in
theorem n195_23 {C : sm_K} {X : Nat} {v1 : Int32} (hX : sm_Lay C X) {D : sm_D} : sm_ge (sm_fx C 195 23 [.ref (X + 49), .int v1, sm_junk] [] D) (
  if (D.1 (X + 49) 8) = (sm_k (-1)) then
    sm_bi (sm_fe C 192 [.ref (X + 49), .int (D.1 (X + 49) 48), .int (D.1 (X + 49) 49), .ref (C.1.1 54)] D) (fun x0 D1 =>
      if x0 = ni 0 then
        sm_bi (sm_fe C 192 [.ref (X + 49), .int (D1.1 (X + 49) 48), .int (D1.1 (X + 49) 49), .ref (C.1.1 55)] D1) (fun x1 D2 =>
          if x1 = ni 0 then
            sm_bi (sm_fe C 192 [.ref (X + 49), .int (D2.1 (X + 49) 48), .int (D2.1 (X + 49) 49), .ref (C.1.1 56)] D2) (fun x2 D3 =>
              if x2 = ni 0 then
                sm_bi (sm_fe C 192 [.ref (X + 49), .int (D3.1 (X + 49) 48), .int (D3.1 (X + 49) 49), .ref (C.1.1 57)] D3) (fun x3 D4 =>
                  if x3 = ni 0 then
                    sm_bi (sm_fe C 192 [.ref (X + 49), .int (D4.1 (X + 49) 48), .int (D4.1 (X + 49) 49), .ref (C.1.1 58)] D4) (fun x4 D5 =>
                      if x4 = ni 0 then
                        sm_fx C 195 148 [.ref (X + 49), .int v1, sm_junk] [.int (sm_k (-1)), .int v1, .ref (X + 57)] D5
                      else
                        sm_fx C 195 148 [.ref (X + 49), .int v1, sm_junk] [.int (ni 4), .int v1, .ref (X + 57)] D5)
                  else
                    sm_fx C 195 148 [.ref (X + 49), .int v1, sm_junk] [.int (ni 3), .int v1, .ref (X + 57)] D4)
              else
                sm_fx C 195 148 [.ref (X + 49), .int v1, sm_junk] [.int (ni 2), .int v1, .ref (X + 57)] D3)
          else
            sm_fx C 195 148 [.ref (X + 49), .int v1, sm_junk] [.int (ni 1), .int v1, .ref (X + 57)] D2)
      else
        sm_fx C 195 148 [.ref (X + 49), .int v1, sm_junk] [.int (ni 0), .int v1, .ref (X + 57)] D1)
  else
    some (.inl none, D)) := 
  (sx_p (pc' := 24) (lv' := [.ref (X + 49), .int v1, sm_junk]) (st' := [.ref (X + 49)]) q195 13 1 rfl (sx_gI q195 14 rfl fk_12_134 rfl (hX.s 49 rfl) (hX.b 49) (sx_p (pc' := 28) (lv' := [.ref (X + 49), .int v1, sm_junk]) (st' := [.int (sm_k (-1)), .int (D.1 (X + 49) 8)]) q195 15 1 rfl (sx_icmp_eq q195 16 rfl rfl (sx_p (pc' := 33) (lv' := [.ref (X + 49), .int v1, sm_junk]) (st' := [.ref (X + 49)]) q195 18 1 rfl (sx_gR q195 19 rfl fk_12_33 (fun _ _ => rfl) (hX.s 49 rfl) (hX.r 49 14 rfl) (sx_p (pc' := 39) (lv' := [.ref (X + 49), .int v1, sm_junk]) (st' := [.ref (X + 49), .ref (X + 49), .int v1, .ref (X + 57)]) q195 20 3 rfl (sx_gI q195 23 rfl fk_12_238 rfl (hX.s 49 rfl) (hX.b 49) (sx_p (pc' := 43) (lv' := [.ref (X + 49), .int v1, sm_junk]) (st' := [.ref (X + 49), .int (D.1 (X + 49) 48), .ref (X + 49), .int v1, .ref (X + 57)]) q195 24 1 rfl (sx_gI q195 25 rfl fk_12_250 rfl (hX.s 49 rfl) (hX.b 49) (sx_cs q195 26 rfl (Or.inr ⟨rfl, rfl⟩) cs_12_298 (sx_ki (sx_V q195 27 rfl lk_12_281 vk_192 na_192 rfl rfl rfl rfl (hX.s 49 rfl)) (by decide) rfl (fun x0 D1 => (sx_if_eq q195 28 rfl rfl (sx_p (pc' := 61) (lv' := [.ref (X + 49), .int v1, sm_junk]) (st' := [.ref (X + 49), .ref (X + 49), .int v1, .ref (X + 57)]) q195 31 2 rfl (sx_gI q195 33 rfl fk_12_238 rfl (hX.s 49 rfl) (hX.b 49) (sx_p (pc' := 65) (lv' := [.ref (X + 49), .int v1, sm_junk]) (st' := [.ref (X + 49), .int (D1.1 (X + 49) 48), .ref (X + 49), .int v1, .ref (X + 57)]) q195 34 1 rfl (sx_gI q195 35 rfl fk_12_250 rfl (hX.s 49 rfl) (hX.b 49) (sx_cs q195 36 rfl (Or.inr ⟨rfl, rfl⟩) cs_12_300 (sx_ki (sx_V q195 37 rfl lk_12_281 vk_192 na_192 rfl rfl rfl rfl (hX.s 49 rfl)) (by decide) rfl (fun x1 D2 => (sx_if_eq q195 38 rfl rfl (sx_p (pc' := 83) (lv' := [.ref (X + 49), .int v1, sm_junk]) (st' := [.ref (X + 49), .ref (X + 49), .int v1, .ref (X + 57)]) q195 41 2 rfl (sx_gI q195 43 rfl fk_12_238 rfl (hX.s 49 rfl) (hX.b 49) (sx_p (pc' := 87) (lv' := [.ref (X + 49), .int v1, sm_junk]) (st' := [.ref (X + 49), .int (D2.1 (X + 49) 48), .ref (X + 49), .int v1, .ref (X + 57)]) q195 44 1 rfl (sx_gI q195 45 rfl fk_12_250 rfl (hX.s 49 rfl) (hX.b 49) (sx_cs q195 46 rfl (Or.inr ⟨rfl, rfl⟩) cs_12_302 (sx_ki (sx_V q195 47 rfl lk_12_281 vk_192 na_192 rfl rfl rfl rfl (hX.s 49 rfl)) (by decide) rfl (fun x2 D3 => (sx_if_eq q195 48 rfl rfl (sx_p (pc' := 105) (lv' := [.ref (X + 49), .int v1, sm_junk]) (st' := [.ref (X + 49), .ref (X + 49), .int v1, .ref (X + 57)]) q195 51 2 rfl (sx_gI q195 53 rfl fk_12_238 rfl (hX.s 49 rfl) (hX.b 49) (sx_p (pc' := 109) (lv' := [.ref (X + 49), .int v1, sm_junk]) (st' := [.ref (X + 49), .int (D3.1 (X + 49) 48), .ref (X + 49), .int v1, .ref (X + 57)]) q195 54 1 rfl (sx_gI q195 55 rfl fk_12_250 rfl (hX.s 49 rfl) (hX.b 49) (sx_cs q195 56 rfl (Or.inr ⟨rfl, rfl⟩) cs_12_304 (sx_ki (sx_V q195 57 rfl lk_12_281 vk_192 na_192 rfl rfl rfl rfl (hX.s 49 rfl)) (by decide) rfl (fun x3 D4 => (sx_if_eq q195 58 rfl rfl (sx_p (pc' := 127) (lv' := [.ref (X + 49), .int v1, sm_junk]) (st' := [.ref (X + 49), .ref (X + 49), .int v1, .ref (X + 57)]) q195 61 2 rfl (sx_gI q195 63 rfl fk_12_238 rfl (hX.s 49 rfl) (hX.b 49) (sx_p (pc' := 131) (lv' := [.ref (X + 49), .int v1, sm_junk]) (st' := [.ref (X + 49), .int (D4.1 (X + 49) 48), .ref (X + 49), .int v1, .ref (X + 57)]) q195 64 1 rfl (sx_gI q195 65 rfl fk_12_250 rfl (hX.s 49 rfl) (hX.b 49) (sx_cs q195 66 rfl (Or.inr ⟨rfl, rfl⟩) cs_12_306 (sx_ki (sx_V q195 67 rfl lk_12_281 vk_192 na_192 rfl rfl rfl rfl (hX.s 49 rfl)) (by decide) rfl (fun x4 D5 => (sx_if_eq q195 68 rfl rfl (sx_p (pc' := 148) (lv' := [.ref (X + 49), .int v1, sm_junk]) (st' := [.int (sm_k (-1)), .int v1, .ref (X + 57)]) q195 71 1 rfl (sm_ge.refl _)) (sx_p (pc' := 148) (lv' := [.ref (X + 49), .int v1, sm_junk]) (st' := [.int (ni 4), .int v1, .ref (X + 57)]) q195 69 2 rfl (sm_ge.refl _)))))))))) (sx_p (pc' := 148) (lv' := [.ref (X + 49), .int v1, sm_junk]) (st' := [.int (ni 3), .int v1, .ref (X + 57)]) q195 59 2 rfl (sm_ge.refl _)))))))))) (sx_p (pc' := 148) (lv' := [.ref (X + 49), .int v1, sm_junk]) (st' := [.int (ni 2), .int v1, .ref (X + 57)]) q195 49 2 rfl (sm_ge.refl _)))))))))) (sx_p (pc' := 148) (lv' := [.ref (X + 49), .int v1, sm_junk]) (st' := [.int (ni 1), .int v1, .ref (X + 57)]) q195 39 2 rfl (sm_ge.refl _)))))))))) (sx_p (pc' := 148) (lv' := [.ref (X + 49), .int v1, sm_junk]) (st' := [.int (ni 0), .int v1, .ref (X + 57)]) q195 29 2 rfl (sm_ge.refl _)))))))))))) (sx_rv q195 17 rfl rfl)))))
set_option maxRecDepth 8000 in
theorem n195_148 {C : sm_K} {X : Nat} {v1 : Int32} {s1 : Int32} {s2 : Int32} (hX : sm_Lay C X) {D : sm_D} : sm_ge (sm_fx C 195 148 [.ref (X + 49), .int v1, sm_junk] [.int s2, .int s1, .ref (X + 57)] D) (
  sm_gu (sm_in_b s1 40) (
  let D1 := sm_dI D (X + 57) (s1.toNatClampNeg) s2
  sm_gu (sm_in_b v1 40) (
  let D2 := sm_dI D1 (X + 58) (v1.toNatClampNeg) (D1.1 (X + 49) 50)
  sm_gu (sm_in_b v1 40) (
  if (D2.1 (X + 57) v1.toNatClampNeg) = (sm_k (-1)) then
    sm_bv (sm_fe C 162 [.ref (X + 49), .int (D2.1 (X + 49) 50)] D2) (fun D3 =>
      sm_fx C 195 177 [.ref (X + 49), sm_junk, sm_junk] [] D3)
  else
    sm_fx C 195 177 [.ref (X + 49), sm_junk, sm_junk] [] D2)))) := 
  (sx_is q195 72 rfl (hX.s 57 rfl) (hX.b 57) (sx_p (pc' := 150) (lv' := [.ref (X + 49), .int v1, sm_junk]) (st' := [.ref (X + 49)]) q195 73 1 rfl (sx_gR q195 74 rfl fk_12_36 (fun _ _ => rfl) (hX.s 49 rfl) (hX.r 49 15 rfl) (sx_p (pc' := 155) (lv' := [.ref (X + 49), .int v1, sm_junk]) (st' := [.ref (X + 49), .int v1, .ref (X + 58)]) q195 75 2 rfl (sx_gI q195 77 rfl fk_12_235 rfl (hX.s 49 rfl) (hX.b 49) (sx_is q195 78 rfl (hX.s 58 rfl) (hX.b 58) (sx_p (pc' := 160) (lv' := [.ref (X + 49), .int v1, sm_junk]) (st' := [.ref (X + 49)]) q195 79 1 rfl (sx_gR q195 80 rfl fk_12_33 (fun _ _ => rfl) (hX.s 49 rfl) (hX.r 49 14 rfl) (sx_p (pc' := 164) (lv' := [.ref (X + 49), .int v1, sm_junk]) (st' := [.int v1, .ref (X + 57)]) q195 81 1 rfl (sx_ia q195 82 rfl (hX.s 57 rfl) (hX.b 57) (sx_p (pc' := 166) (lv' := [.ref (X + 49), .int v1, sm_junk]) (st' := [.int (sm_k (-1)), .int ((sm_dI (sm_dI D (X + 57) (s1.toNatClampNeg) s2) (X + 58) (v1.toNatClampNeg) ((sm_dI D (X + 57) (s1.toNatClampNeg) s2).1 (X + 49) 50)).1 (X + 57) v1.toNatClampNeg)]) q195 83 1 rfl (sx_icmp_ne q195 84 rfl rfl (sx_w (lv := [.ref (X + 49), .int v1, sm_junk]) (lv' := [.ref (X + 49), sm_junk, sm_junk]) (sm_ordl.ord ⟨Or.inr rfl, Or.inl rfl, Or.inl rfl, trivial⟩)) (sx_p (pc' := 171) (lv' := [.ref (X + 49), .int v1, sm_junk]) (st' := [.ref (X + 49), .ref (X + 49)]) q195 85 2 rfl (sx_gI q195 87 rfl fk_12_235 rfl (hX.s 49 rfl) (hX.b 49) (sx_kv (sx_V q195 88 rfl lk_12_155 vk_162 na_162 rfl rfl rfl rfl (hX.s 49 rfl)) (by decide) rfl (fun D3 => (sx_w (lv := [.ref (X + 49), .int v1, sm_junk]) (lv' := [.ref (X + 49), sm_junk, sm_junk]) (sm_ordl.ord ⟨Or.inr rfl, Or.inl rfl, Or.inl rfl, trivial⟩))))))))))))))))))
set_option maxRecDepth 8000 in
theorem n195_177 {C : sm_K} {X : Nat} (hX : sm_Lay C X) {D : sm_D} : sm_ge (sm_fx C 195 177 [.ref (X + 49), sm_junk, sm_junk] [] D) (
  let D1 := sm_dI D (X + 49) 20 (D.1 (X + 49) 48)
  if (D1.1 (X + 49) 8) = (sm_k (-1)) then
    sm_bv (sm_fe C 178 [.ref (X + 49)] D1) (fun D2 =>
      sm_fx C 195 197 [.ref (X + 49), sm_junk, sm_junk] [] D2)
  else
    sm_fx C 195 197 [.ref (X + 49), sm_junk, sm_junk] [] D1) := 
  (sx_p (pc' := 179) (lv' := [.ref (X + 49), sm_junk, sm_junk]) (st' := [.ref (X + 49), .ref (X + 49)]) q195 89 2 rfl (sx_gI q195 91 rfl fk_12_238 rfl (hX.s 49 rfl) (hX.b 49) (sx_pI q195 92 rfl pk_12_232 rfl (hX.s 49 rfl) (hX.b 49) (sx_p (pc' := 186) (lv' := [.ref (X + 49), sm_junk, sm_junk]) (st' := [.ref (X + 49)]) q195 93 1 rfl (sx_gI q195 94 rfl fk_12_134 rfl (hX.s 49 rfl) (hX.b 49) (sx_p (pc' := 190) (lv' := [.ref (X + 49), sm_junk, sm_junk]) (st' := [.int (sm_k (-1)), .int ((sm_dI D (X + 49) 20 (D.1 (X + 49) 48)).1 (X + 49) 8)]) q195 95 1 rfl (sx_icmp_ne q195 96 rfl rfl (sm_ge.refl _) (sx_p (pc' := 194) (lv' := [.ref (X + 49), sm_junk, sm_junk]) (st' := [.ref (X + 49)]) q195 97 1 rfl (sx_kv (sx_V q195 98 rfl lk_12_263 vk_178 na_178 rfl rfl rfl rfl (hX.s 49 rfl)) (by decide) rfl (fun D2 => (sm_ge.refl _)))))))))))
set_option maxRecDepth 8000 in
theorem n195_197 {C : sm_K} {X : Nat} (hX : sm_Lay C X) {D : sm_D} : sm_ge (sm_fx C 195 197 [.ref (X + 49), sm_junk, sm_junk] [] D) (
  sm_bv (sm_fe C 191 [.ref (X + 49)] D) (fun D1 =>
    some (.inl none, D1))) := 
  (sx_p (pc' := 198) (lv' := [.ref (X + 49), sm_junk, sm_junk]) (st' := [.ref (X + 49)]) q195 99 1 rfl (sx_kv (sx_V q195 100 rfl lk_12_276 vk_191 na_191 rfl rfl rfl rfl (hX.s 49 rfl)) (by decide) rfl (fun D1 => (sx_rv q195 101 rfl rfl))))
set_option maxRecDepth 8000 in
theorem f195 {C : sm_K} {X : Nat} {v1 : Int32} {v2 : Int32} (hX : sm_Lay C X) {D : sm_D} : sm_ge (sm_fe C 195 [.ref (X + 49), .int v1, .int v2] D) (
  sm_bv (sm_fe C 176 [.ref (X + 49), .int v2] D) (fun D1 =>
    sm_bv (sm_fe C 178 [.ref (X + 49)] D1) (fun D2 =>
      if (D2.1 (X + 49) 8) = (sm_k (-1)) then
        sm_bv (sm_fe C 182 [.ref (X + 49), .int (ni 1), .int (ni 1)] D2) (fun D3 =>
          sm_fx C 195 23 [.ref (X + 49), .int v1, sm_junk] [] D3)
      else
        sm_fx C 195 23 [.ref (X + 49), .int v1, sm_junk] [] D2))) := by
  rw [sx_fe (m := 3) rfl rfl]
  exact (show sm_ge (sm_fx C 195 0 [.ref (X + 49), .int v1, .int v2] [] D) _ from (sx_p (pc' := 2) (lv' := [.ref (X + 49), .int v1, .int v2]) (st' := [.int v2, .ref (X + 49)]) q195 0 2 rfl (sx_kv (sx_V q195 2 rfl lk_12_260 vk_176 na_176 rfl rfl rfl rfl (hX.s 49 rfl)) (by decide) rfl (fun D1 => (sx_p (pc' := 6) (lv' := [.ref (X + 49), .int v1, .int v2]) (st' := [.ref (X + 49)]) q195 3 1 rfl (sx_kv (sx_V q195 4 rfl lk_12_263 vk_178 na_178 rfl rfl rfl rfl (hX.s 49 rfl)) (by decide) rfl (fun D2 => (sx_p (pc' := 10) (lv' := [.ref (X + 49), .int v1, .int v2]) (st' := [.ref (X + 49)]) q195 5 1 rfl (sx_gI q195 6 rfl fk_12_134 rfl (hX.s 49 rfl) (hX.b 49) (sx_p (pc' := 14) (lv' := [.ref (X + 49), .int v1, .int v2]) (st' := [.int (sm_k (-1)), .int (D2.1 (X + 49) 8)]) q195 7 1 rfl (sx_icmp_ne q195 8 rfl rfl (sx_w (lv := [.ref (X + 49), .int v1, .int v2]) (lv' := [.ref (X + 49), .int v1, sm_junk]) (sm_ordl.ord ⟨Or.inr rfl, Or.inr rfl, Or.inl rfl, trivial⟩)) (sx_p (pc' := 20) (lv' := [.ref (X + 49), .int v1, .int v2]) (st' := [.int (ni 1), .int (ni 1), .ref (X + 49)]) q195 9 3 rfl (sx_kv (sx_V q195 12 rfl lk_12_266 vk_182 na_182 rfl rfl rfl rfl (hX.s 49 rfl)) (by decide) rfl (fun D3 => (sx_w (lv := [.ref (X + 49), .int v1, .int v2]) (lv' := [.ref (X + 49), .int v1, sm_junk]) (sm_ordl.ord ⟨Or.inr rfl, Or.inr rfl, Or.inl rfl, trivial⟩))))))))))))))))
