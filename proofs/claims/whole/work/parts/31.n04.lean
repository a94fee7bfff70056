/-! ===== what methods do from place to place, written by a program (wip/tools/gen_nodes.py) ===== -/
/-! MessageTree$SubjectText.markFrom -/
theorem q93 : sm_q 93 8 sm_i93 1 := ⟨rfl, rfl, rfl⟩
set_option maxRecDepth 8000 in
theorem n93_2 {C : sm_K} {r0 : Nat} {nr0 : Nat} {v2 : Int32} {v3 : Int32} (hr0 : sm_row C r0 nr0) {D : sm_D} : sm_ge (sm_fx C 93 2 [.ref r0, sm_junk, .int v2, .int v3] [] D) (
  if v2 ≤ v3 then
    some (.inl (some (.int v3)), D)
  else
    sm_bi (sm_fe C 42 [.ref r0, .int v3] D) (fun x0 D1 =>
      if x0 = (ni 63) then
        some (.inl (some (.int v3)), D1)
      else
        sm_fx C 93 2 [.ref r0, sm_junk, .int v2, .int (v3 + ni 1)] [] D1)) := 
  (sx_p (pc' := 4) (lv' := [.ref r0, sm_junk, .int v2, .int v3]) (st' := [.int v2, .int v3]) q93 2 2 rfl (sx_icmp_ge q93 4 rfl rfl (sx_p (pc' := 24) (lv' := [.ref r0, sm_junk, .int v2, .int v3]) (st' := [.int v3]) q93 12 1 rfl (sx_ri (ty := .int) q93 13 rfl rfl)) (sx_p (pc' := 9) (lv' := [.ref r0, sm_junk, .int v2, .int v3]) (st' := [.int v3, .ref r0]) q93 5 2 rfl (sx_ki (sx_V q93 7 rfl lk_8_66 vk_42 na_42 rfl rfl rfl rfl (hr0.s 0 rfl)) (by decide) rfl (fun x0 D1 => (sx_p (pc' := 14) (lv' := [.ref r0, sm_junk, .int v2, .int v3]) (st' := [.int (ni 63), .int x0]) q93 8 1 rfl (sx_icmp_eq q93 9 rfl rfl (sx_p (pc' := 24) (lv' := [.ref r0, sm_junk, .int v2, .int v3]) (st' := [.int v3]) q93 12 1 rfl (sx_ri (ty := .int) q93 13 rfl rfl)) (sx_p (pc' := 2) (lv' := [.ref r0, sm_junk, .int v2, .int (v3 + ni 1)]) (st' := []) q93 10 2 rfl (sm_ge.refl _)))))))))
set_option maxRecDepth 8000 in
theorem f93 {C : sm_K} {r0 : Nat} {nr0 : Nat} {v1 : Int32} {v2 : Int32} (hr0 : sm_row C r0 nr0) {D : sm_D} : sm_ge (sm_fe C 93 [.ref r0, .int v1, .int v2] D) (
  sm_fx C 93 2 [.ref r0, sm_junk, .int v2, .int v1] [] D) := by
  rw [sx_fe (m := 4) rfl rfl]
  exact (show sm_ge (sm_fx C 93 0 [.ref r0, .int v1, .int v2, sm_junk] [] D) _ from (sx_p (pc' := 2) (lv' := [.ref r0, .int v1, .int v2, .int v1]) (st' := []) q93 0 2 rfl (sx_w (lv := [.ref r0, .int v1, .int v2, .int v1]) (lv' := [.ref r0, sm_junk, .int v2, .int v1]) (sm_ordl.ord ⟨Or.inr rfl, Or.inl rfl, Or.inr rfl, Or.inr rfl, trivial⟩))))
/-! MessageTree$SubjectText.charsetNamed -/
theorem q94 : sm_q 94 8 sm_i94 5 := ⟨rfl, rfl, rfl⟩
set_option maxRecDepth 8000 in
theorem f94 {C : sm_K} {r0 : Nat} {nr0 : Nat} {v1 : Int32} {v2 : Int32} (hr0 : sm_row C r0 nr0) {D : sm_D} : sm_ge (sm_fe C 94 [.ref r0, .int v1, .int v2] D) (
  sm_bi (sm_fe C 43 [.ref r0, .int v1, .int v2, .ref (C.1.1 18)] D) (fun x0 D1 =>
    if x0 = ni 0 then
      sm_bi (sm_fe C 43 [.ref r0, .int v1, .int v2, .ref (C.1.1 19)] D1) (fun x1 D2 =>
        if x1 = ni 0 then
          sm_bi (sm_fe C 43 [.ref r0, .int v1, .int v2, .ref (C.1.1 20)] D2) (fun x2 D3 =>
            if x2 = ni 0 then
              some (.inl (some (.int (sm_k (-1)))), D3)
            else
              some (.inl (some (.int (ni 2))), D3))
        else
          some (.inl (some (.int (ni 1))), D2))
    else
      some (.inl (some (.int (ni 0))), D1))) := by
  rw [sx_fe (m := 3) rfl rfl]
  exact (show sm_ge (sm_fx C 94 0 [.ref r0, .int v1, .int v2] [] D) _ from (sx_p (pc' := 3) (lv' := [.ref r0, .int v1, .int v2]) (st' := [.int v2, .int v1, .ref r0]) q94 0 3 rfl (sx_cs q94 3 rfl (Or.inl ⟨rfl, rfl⟩) cs_8_88 (sx_ki (sx_V q94 4 rfl lk_8_90 vk_43 na_43 rfl rfl rfl rfl (hr0.s 0 rfl)) (by decide) rfl (fun x0 D1 => (sx_if_eq q94 5 rfl rfl (sx_p (pc' := 16) (lv' := [.ref r0, .int v1, .int v2]) (st' := [.int v2, .int v1, .ref r0]) q94 8 3 rfl (sx_cs q94 11 rfl (Or.inl ⟨rfl, rfl⟩) cs_8_94 (sx_ki (sx_V q94 12 rfl lk_8_90 vk_43 na_43 rfl rfl rfl rfl (hr0.s 0 rfl)) (by decide) rfl (fun x1 D2 => (sx_if_eq q94 13 rfl rfl (sx_p (pc' := 29) (lv' := [.ref r0, .int v1, .int v2]) (st' := [.int v2, .int v1, .ref r0]) q94 16 3 rfl (sx_cs q94 19 rfl (Or.inl ⟨rfl, rfl⟩) cs_8_96 (sx_ki (sx_V q94 20 rfl lk_8_90 vk_43 na_43 rfl rfl rfl rfl (hr0.s 0 rfl)) (by decide) rfl (fun x2 D3 => (sx_if_eq q94 21 rfl rfl (sx_p (pc' := 42) (lv' := [.ref r0, .int v1, .int v2]) (st' := [.int (sm_k (-1))]) q94 24 1 rfl (sx_ri (ty := .int) q94 25 rfl rfl)) (sx_p (pc' := 42) (lv' := [.ref r0, .int v1, .int v2]) (st' := [.int (ni 2)]) q94 22 2 rfl (sx_ri (ty := .int) q94 25 rfl rfl))))))) (sx_p (pc' := 25) (lv' := [.ref r0, .int v1, .int v2]) (st' := [.int (ni 1)]) q94 14 1 rfl (sx_ri (ty := .int) q94 15 rfl rfl))))))) (sx_p (pc' := 12) (lv' := [.ref r0, .int v1, .int v2]) (st' := [.int (ni 0)]) q94 6 1 rfl (sx_ri (ty := .int) q94 7 rfl rfl))))))))
/-! MessageTree$SubjectText.isMeantByB -/
theorem q95 : sm_q 95 8 sm_i95 5 := ⟨rfl, rfl, rfl⟩
set_option maxRecDepth 8000 in
theorem n95_18 {C : sm_K} {X : Nat} {r0 : Nat} {nr0 : Nat} {v3 : Int32} {v4 : Int32} (hX : sm_Lay C X) (hr0 : sm_row C r0 nr0) {D : sm_D} : sm_ge (sm_fx C 95 18 [.ref (X + 11), .ref r0, sm_junk, .int v3, .int v4] [] D) (
  if v3 ≤ v4 then
    if (D.1 (X + 10) 2) = ni 0 then
      some (.inl (some (.int (sm_nar .boolean (ni 1)))), D)
    else
      some (.inl (some (.int (sm_nar .boolean (ni 0)))), D)
  else
    sm_bi (sm_fe C 42 [.ref r0, .int v4] D) (fun x0 D1 =>
      sm_bi (sm_fe C 83 [.ref (X + 10), .int x0, .ref (X + 12)] D1) (fun x1 D2 =>
        if x1 = ni 0 then
          sm_fx C 95 18 [.ref (X + 11), .ref r0, sm_junk, .int v3, .int (v4 + ni 1)] [] D2
        else
          some (.inl (some (.int (sm_nar .boolean (ni 0)))), D2)))) := 
  (sx_p (pc' := 21) (lv' := [.ref (X + 11), .ref r0, sm_junk, .int v3, .int v4]) (st' := [.int v3, .int v4]) q95 9 2 rfl (sx_icmp_ge q95 11 rfl rfl (sx_p (pc' := 53) (lv' := [.ref (X + 11), .ref r0, sm_junk, .int v3, .int v4]) (st' := [.ref (X + 11)]) q95 25 1 rfl (sx_gR q95 26 rfl fk_8_20 (fun _ _ => rfl) (hX.s 11 rfl) (hX.r 11 0 rfl) (sx_gI q95 27 rfl fk_8_107 rfl (hX.s 10 rfl) (hX.b 10) (sx_if_ne q95 28 rfl rfl (sx_p (pc' := 67) (lv' := [.ref (X + 11), .ref r0, sm_junk, .int v3, .int v4]) (st' := [.int (ni 0)]) q95 31 1 rfl (sx_ri (ty := .boolean) q95 32 rfl rfl)) (sx_p (pc' := 67) (lv' := [.ref (X + 11), .ref r0, sm_junk, .int v3, .int v4]) (st' := [.int (ni 1)]) q95 29 2 rfl (sx_ri (ty := .boolean) q95 32 rfl rfl)))))) (sx_p (pc' := 25) (lv' := [.ref (X + 11), .ref r0, sm_junk, .int v3, .int v4]) (st' := [.ref (X + 11)]) q95 12 1 rfl (sx_gR q95 13 rfl fk_8_20 (fun _ _ => rfl) (hX.s 11 rfl) (hX.r 11 0 rfl) (sx_p (pc' := 31) (lv' := [.ref (X + 11), .ref r0, sm_junk, .int v3, .int v4]) (st' := [.int v4, .ref r0, .ref (X + 10)]) q95 14 2 rfl (sx_ki (sx_V q95 16 rfl lk_8_66 vk_42 na_42 rfl rfl rfl rfl (hr0.s 0 rfl)) (by decide) rfl (fun x0 D1 => (sx_p (pc' := 35) (lv' := [.ref (X + 11), .ref r0, sm_junk, .int v3, .int v4]) (st' := [.ref (X + 11), .int x0, .ref (X + 10)]) q95 17 1 rfl (sx_gR q95 18 rfl fk_8_14 (fun _ _ => rfl) (hX.s 11 rfl) (hX.r 11 1 rfl) (sx_ki (sx_V q95 19 rfl lk_8_103 vk_83 na_83 rfl rfl rfl rfl (hX.s 10 rfl)) (by decide) rfl (fun x1 D2 => (sx_if_eq q95 20 rfl rfl (sx_p (pc' := 18) (lv' := [.ref (X + 11), .ref r0, sm_junk, .int v3, .int (v4 + ni 1)]) (st' := []) q95 23 2 rfl (sm_ge.refl _)) (sx_p (pc' := 45) (lv' := [.ref (X + 11), .ref r0, sm_junk, .int v3, .int v4]) (st' := [.int (ni 0)]) q95 21 1 rfl (sx_ri (ty := .boolean) q95 22 rfl rfl))))))))))))))
set_option maxRecDepth 8000 in
theorem f95 {C : sm_K} {X : Nat} {r0 : Nat} {nr0 : Nat} {v2 : Int32} {v3 : Int32} (hX : sm_Lay C X) (hr0 : sm_row C r0 nr0) {D : sm_D} : sm_ge (sm_fe C 95 [.ref (X + 11), .ref r0, .int v2, .int v3] D) (
  let D1 := sm_dI D (X + 12) 1 (ni 0)
  sm_bv (sm_fe C 82 [.ref (X + 10)] D1) (fun D2 =>
    sm_fx C 95 18 [.ref (X + 11), .ref r0, sm_junk, .int v3, .int v2] [] D2)) := by
  rw [sx_fe (m := 5) rfl rfl]
  exact (show sm_ge (sm_fx C 95 0 [.ref (X + 11), .ref r0, .int v2, .int v3, sm_junk] [] D) _ from (sx_p (pc' := 1) (lv' := [.ref (X + 11), .ref r0, .int v2, .int v3, sm_junk]) (st' := [.ref (X + 11)]) q95 0 1 rfl (sx_gR q95 1 rfl fk_8_14 (fun _ _ => rfl) (hX.s 11 rfl) (hX.r 11 1 rfl) (sx_p (pc' := 5) (lv' := [.ref (X + 11), .ref r0, .int v2, .int v3, sm_junk]) (st' := [.int (ni 0), .ref (X + 12)]) q95 2 1 rfl (sx_pI q95 3 rfl pk_8_36 rfl (hX.s 12 rfl) (hX.b 12) (sx_p (pc' := 9) (lv' := [.ref (X + 11), .ref r0, .int v2, .int v3, sm_junk]) (st' := [.ref (X + 11)]) q95 4 1 rfl (sx_gR q95 5 rfl fk_8_20 (fun _ _ => rfl) (hX.s 11 rfl) (hX.r 11 0 rfl) (sx_kv (sx_V q95 6 rfl lk_8_98 vk_82 na_82 rfl rfl rfl rfl (hX.s 10 rfl)) (by decide) rfl (fun D2 => (sx_p (pc' := 18) (lv' := [.ref (X + 11), .ref r0, .int v2, .int v3, .int v2]) (st' := []) q95 7 2 rfl (sx_w (lv := [.ref (X + 11), .ref r0, .int v2, .int v3, .int v2]) (lv' := [.ref (X + 11), .ref r0, sm_junk, .int v3, .int v2]) (sm_ordl.ord ⟨Or.inr rfl, Or.inr rfl, Or.inl rfl, Or.inr rfl, Or.inr rfl, trivial⟩))))))))))))
/-! MessageTree$SubjectText.isMeantByQ -/
theorem q96 : sm_q 96 8 sm_i96 6 := ⟨rfl, rfl, rfl⟩
set_option maxRecDepth 8000 in
theorem n96_11 {C : sm_K} {X : Nat} {r0 : Nat} {nr0 : Nat} {v3 : Int32} {v4 : Int32} (hX : sm_Lay C X) (hr0 : sm_row C r0 nr0) {D : sm_D} : sm_ge (sm_fx C 96 11 [.ref (X + 11), .ref r0, sm_junk, .int v3, .int v4, sm_junk, sm_junk] [] D) (
  if v3 ≤ v4 then
    some (.inl (some (.int (sm_nar .boolean (ni 1)))), D)
  else
    sm_bi (sm_fe C 42 [.ref r0, .int v4] D) (fun x0 D1 =>
      if x0 = (ni 61) then
        if v3 ≤ (v4 + (ni 2)) then
          sm_fx C 96 63 [.ref (X + 11), .ref r0, sm_junk, .int v3, .int v4, sm_junk, sm_junk] [.int (sm_k (-1))] D1
        else
          sm_bi (sm_fe C 42 [.ref r0, .int (v4 + (ni 1))] D1) (fun x1 D2 =>
            sm_bi (sm_fe C 42 [.ref r0, .int (v4 + (ni 2))] D2) (fun x2 D3 =>
              sm_bi (sm_fe C 84 [.int x1, .int x2] D3) (fun x3 D4 =>
                sm_fx C 96 63 [.ref (X + 11), .ref r0, sm_junk, .int v3, .int v4, sm_junk, sm_junk] [.int x3] D4)))
      else
        if x0 = (ni 95) then
          sm_fx C 96 106 [.ref (X + 11), .ref r0, sm_junk, .int v3, .int v4, sm_junk, sm_junk] [.int (ni 32), .ref (X + 12)] D1
        else
          sm_fx C 96 106 [.ref (X + 11), .ref r0, sm_junk, .int v3, .int v4, sm_junk, sm_junk] [.int x0, .ref (X + 12)] D1)) := 
  (sx_p (pc' := 14) (lv' := [.ref (X + 11), .ref r0, sm_junk, .int v3, .int v4, sm_junk, sm_junk]) (st' := [.int v3, .int v4]) q96 6 2 rfl (sx_icmp_ge q96 8 rfl rfl (sx_p (pc' := 116) (lv' := [.ref (X + 11), .ref r0, sm_junk, .int v3, .int v4, sm_junk, sm_junk]) (st' := [.int (ni 1)]) q96 57 1 rfl (sx_ri (ty := .boolean) q96 58 rfl rfl)) (sx_p (pc' := 20) (lv' := [.ref (X + 11), .ref r0, sm_junk, .int v3, .int v4, sm_junk, sm_junk]) (st' := [.int v4, .ref r0]) q96 9 2 rfl (sx_ki (sx_V q96 11 rfl lk_8_66 vk_42 na_42 rfl rfl rfl rfl (hr0.s 0 rfl)) (by decide) rfl (fun x0 D1 => (sx_p (pc' := 29) (lv' := [.ref (X + 11), .ref r0, sm_junk, .int v3, .int v4, .int x0, sm_junk]) (st' := [.int (ni 61), .int x0]) q96 12 3 rfl (sx_icmp_ne q96 15 rfl rfl (sx_p (pc' := 89) (lv' := [.ref (X + 11), .ref r0, sm_junk, .int v3, .int v4, .int x0, sm_junk]) (st' := [.ref (X + 11)]) q96 46 1 rfl (sx_gR q96 47 rfl fk_8_14 (fun _ _ => rfl) (hX.s 11 rfl) (hX.r 11 1 rfl) (sx_p (pc' := 96) (lv' := [.ref (X + 11), .ref r0, sm_junk, .int v3, .int v4, .int x0, sm_junk]) (st' := [.int (ni 95), .int x0, .ref (X + 12)]) q96 48 2 rfl (sx_icmp_ne q96 50 rfl rfl (sx_p (pc' := 106) (lv' := [.ref (X + 11), .ref r0, sm_junk, .int v3, .int v4, .int x0, sm_junk]) (st' := [.int x0, .ref (X + 12)]) q96 53 1 rfl (sx_w (lv := [.ref (X + 11), .ref r0, sm_junk, .int v3, .int v4, .int x0, sm_junk]) (lv' := [.ref (X + 11), .ref r0, sm_junk, .int v3, .int v4, sm_junk, sm_junk]) (sm_ordl.ord ⟨Or.inr rfl, Or.inr rfl, Or.inl rfl, Or.inr rfl, Or.inr rfl, Or.inl rfl, Or.inl rfl, trivial⟩))) (sx_p (pc' := 106) (lv' := [.ref (X + 11), .ref r0, sm_junk, .int v3, .int v4, .int x0, sm_junk]) (st' := [.int (ni 32), .ref (X + 12)]) q96 51 2 rfl (sx_w (lv := [.ref (X + 11), .ref r0, sm_junk, .int v3, .int v4, .int x0, sm_junk]) (lv' := [.ref (X + 11), .ref r0, sm_junk, .int v3, .int v4, sm_junk, sm_junk]) (sm_ordl.ord ⟨Or.inr rfl, Or.inr rfl, Or.inl rfl, Or.inr rfl, Or.inr rfl, Or.inl rfl, Or.inl rfl, trivial⟩))))))) (sx_p (pc' := 37) (lv' := [.ref (X + 11), .ref r0, sm_junk, .int v3, .int v4, .int x0, sm_junk]) (st' := [.int v3, .int (v4 + (ni 2))]) q96 16 4 rfl (sx_icmp_ge q96 20 rfl rfl (sx_p (pc' := 63) (lv' := [.ref (X + 11), .ref r0, sm_junk, .int v3, .int v4, .int x0, sm_junk]) (st' := [.int (sm_k (-1))]) q96 33 1 rfl (sx_w (lv := [.ref (X + 11), .ref r0, sm_junk, .int v3, .int v4, .int x0, sm_junk]) (lv' := [.ref (X + 11), .ref r0, sm_junk, .int v3, .int v4, sm_junk, sm_junk]) (sm_ordl.ord ⟨Or.inr rfl, Or.inr rfl, Or.inl rfl, Or.inr rfl, Or.inr rfl, Or.inl rfl, Or.inl rfl, trivial⟩))) (sx_p (pc' := 45) (lv' := [.ref (X + 11), .ref r0, sm_junk, .int v3, .int v4, .int x0, sm_junk]) (st' := [.int (v4 + (ni 1)), .ref r0]) q96 21 4 rfl (sx_ki (sx_V q96 25 rfl lk_8_66 vk_42 na_42 rfl rfl rfl rfl (hr0.s 0 rfl)) (by decide) rfl (fun x1 D2 => (sx_p (pc' := 53) (lv' := [.ref (X + 11), .ref r0, sm_junk, .int v3, .int v4, .int x0, sm_junk]) (st' := [.int (v4 + (ni 2)), .ref r0, .int x1]) q96 26 4 rfl (sx_ki (sx_V q96 30 rfl lk_8_66 vk_42 na_42 rfl rfl rfl rfl (hr0.s 0 rfl)) (by decide) rfl (fun x2 D3 => (sx_ki (sx_S q96 31 rfl lk_8_110 rfl na_84 rfl rfl rfl rfl) (by decide) rfl (fun x3 D4 => (sx_p (pc' := 63) (lv' := [.ref (X + 11), .ref r0, sm_junk, .int v3, .int v4, .int x0, sm_junk]) (st' := [.int x3]) q96 32 1 rfl (sx_w (lv := [.ref (X + 11), .ref r0, sm_junk, .int v3, .int v4, .int x0, sm_junk]) (lv' := [.ref (X + 11), .ref r0, sm_junk, .int v3, .int v4, sm_junk, sm_junk]) (sm_ordl.ord ⟨Or.inr rfl, Or.inr rfl, Or.inl rfl, Or.inr rfl, Or.inr rfl, Or.inl rfl, Or.inl rfl, trivial⟩))))))))))))))))))))
set_option maxRecDepth 8000 in
theorem n96_63 {C : sm_K} {X : Nat} {r0 : Nat} {nr0 : Nat} {v3 : Int32} {v4 : Int32} {s0 : Int32} (hX : sm_Lay C X) (hr0 : sm_row C r0 nr0) {D : sm_D} : sm_ge (sm_fx C 96 63 [.ref (X + 11), .ref r0, sm_junk, .int v3, .int v4, sm_junk, sm_junk] [.int s0] D) (
  if s0 = (sm_k (-1)) then
    some (.inl (some (.int (sm_nar .boolean (ni 0)))), D)
  else
    sm_bv (sm_fe C 44 [.ref (X + 12), .int s0] D) (fun D1 =>
      sm_fx C 96 11 [.ref (X + 11), .ref r0, sm_junk, .int v3, .int ((v4 + ni 2) + ni 1), sm_junk, sm_junk] [] D1)) := 
  (sx_p (pc' := 68) (lv' := [.ref (X + 11), .ref r0, sm_junk, .int v3, .int v4, sm_junk, .int s0]) (st' := [.int (sm_k (-1)), .int s0]) q96 34 3 rfl (sx_icmp_ne q96 37 rfl rfl (sx_p (pc' := 74) (lv' := [.ref (X + 11), .ref r0, sm_junk, .int v3, .int v4, sm_junk, .int s0]) (st' := [.ref (X + 11)]) q96 40 1 rfl (sx_gR q96 41 rfl fk_8_14 (fun _ _ => rfl) (hX.s 11 rfl) (hX.r 11 1 rfl) (sx_p (pc' := 79) (lv' := [.ref (X + 11), .ref r0, sm_junk, .int v3, .int v4, sm_junk, .int s0]) (st' := [.int s0, .ref (X + 12)]) q96 42 1 rfl (sx_kv (sx_V q96 43 rfl lk_8_69 vk_44 na_44 rfl rfl rfl rfl (hX.s 12 rfl)) (by decide) rfl (fun D1 => (sx_p (pc' := 109) (lv' := [.ref (X + 11), .ref r0, sm_junk, .int v3, .int (v4 + ni 2), sm_junk, .int s0]) (st' := []) q96 44 2 rfl (sx_p (pc' := 11) (lv' := [.ref (X + 11), .ref r0, sm_junk, .int v3, .int ((v4 + ni 2) + ni 1), sm_junk, .int s0]) (st' := []) q96 55 2 rfl (sx_w (lv := [.ref (X + 11), .ref r0, sm_junk, .int v3, .int ((v4 + ni 2) + ni 1), sm_junk, .int s0]) (lv' := [.ref (X + 11), .ref r0, sm_junk, .int v3, .int ((v4 + ni 2) + ni 1), sm_junk, sm_junk]) (sm_ordl.ord ⟨Or.inr rfl, Or.inr rfl, Or.inl rfl, Or.inr rfl, Or.inr rfl, Or.inl rfl, Or.inl rfl, trivial⟩))))))))) (sx_p (pc' := 72) (lv' := [.ref (X + 11), .ref r0, sm_junk, .int v3, .int v4, sm_junk, .int s0]) (st' := [.int (ni 0)]) q96 38 1 rfl (sx_ri (ty := .boolean) q96 39 rfl rfl))))
set_option maxRecDepth 8000 in
theorem n96_106 {C : sm_K} {X : Nat} {r0 : Nat} {nr0 : Nat} {v3 : Int32} {v4 : Int32} {s1 : Int32} (hX : sm_Lay C X) (hr0 : sm_row C r0 nr0) {D : sm_D} : sm_ge (sm_fx C 96 106 [.ref (X + 11), .ref r0, sm_junk, .int v3, .int v4, sm_junk, sm_junk] [.int s1, .ref (X + 12)] D) (
  sm_bv (sm_fe C 44 [.ref (X + 12), .int s1] D) (fun D1 =>
    sm_fx C 96 11 [.ref (X + 11), .ref r0, sm_junk, .int v3, .int (v4 + ni 1), sm_junk, sm_junk] [] D1)) := 
  (sx_kv (sx_V q96 54 rfl lk_8_69 vk_44 na_44 rfl rfl rfl rfl (hX.s 12 rfl)) (by decide) rfl (fun D1 => (sx_p (pc' := 11) (lv' := [.ref (X + 11), .ref r0, sm_junk, .int v3, .int (v4 + ni 1), sm_junk, sm_junk]) (st' := []) q96 55 2 rfl (sm_ge.refl _))))
set_option maxRecDepth 8000 in
theorem f96 {C : sm_K} {X : Nat} {r0 : Nat} {nr0 : Nat} {v2 : Int32} {v3 : Int32} (hX : sm_Lay C X) (hr0 : sm_row C r0 nr0) {D : sm_D} : sm_ge (sm_fe C 96 [.ref (X + 11), .ref r0, .int v2, .int v3] D) (
  let D1 := sm_dI D (X + 12) 1 (ni 0)
  sm_fx C 96 11 [.ref (X + 11), .ref r0, sm_junk, .int v3, .int v2, sm_junk, sm_junk] [] D1) := by
  rw [sx_fe (m := 7) rfl rfl]
  exact (show sm_ge (sm_fx C 96 0 [.ref (X + 11), .ref r0, .int v2, .int v3, sm_junk, sm_junk, sm_junk] [] D) _ from (sx_p (pc' := 1) (lv' := [.ref (X + 11), .ref r0, .int v2, .int v3, sm_junk, sm_junk, sm_junk]) (st' := [.ref (X + 11)]) q96 0 1 rfl (sx_gR q96 1 rfl fk_8_14 (fun _ _ => rfl) (hX.s 11 rfl) (hX.r 11 1 rfl) (sx_p (pc' := 5) (lv' := [.ref (X + 11), .ref r0, .int v2, .int v3, sm_junk, sm_junk, sm_junk]) (st' := [.int (ni 0), .ref (X + 12)]) q96 2 1 rfl (sx_pI q96 3 rfl pk_8_36 rfl (hX.s 12 rfl) (hX.b 12) (sx_p (pc' := 11) (lv' := [.ref (X + 11), .ref r0, .int v2, .int v3, .int v2, sm_junk, sm_junk]) (st' := []) q96 4 2 rfl (sx_w (lv := [.ref (X + 11), .ref r0, .int v2, .int v3, .int v2, sm_junk, sm_junk]) (lv' := [.ref (X + 11), .ref r0, sm_junk, .int v3, .int v2, sm_junk, sm_junk]) (sm_ordl.ord ⟨Or.inr rfl, Or.inr rfl, Or.inl rfl, Or.inr rfl, Or.inr rfl, Or.inl rfl, Or.inl rfl, trivial⟩))))))))
/-! MessageTree$SubjectText.copy -/
theorem q97 : sm_q 97 8 sm_i97 1 := ⟨rfl, rfl, rfl⟩
set_option maxRecDepth 8000 in
theorem n97_2 {C : sm_K} {r0 : Nat} {nr0 : Nat} {v2 : Int32} {v3 : Int32} (hr0 : sm_row C r0 nr0) {D : sm_D} : sm_ge (sm_fx C 97 2 [.ref r0, sm_junk, .int v2, .int v3] [] D) (
  if v2 ≤ v3 then
    some (.inl none, D)
  else
    sm_bi (sm_fe C 42 [.ref r0, .int v3] D) (fun x0 D1 =>
      sm_bv (sm_fe C 44 [.ref r0, .int x0] D1) (fun D2 =>
        sm_fx C 97 2 [.ref r0, sm_junk, .int v2, .int (v3 + ni 1)] [] D2))) := 
  (sx_p (pc' := 4) (lv' := [.ref r0, sm_junk, .int v2, .int v3]) (st' := [.int v2, .int v3]) q97 2 2 rfl (sx_icmp_ge q97 4 rfl rfl (sx_rv q97 12 rfl rfl) (sx_p (pc' := 10) (lv' := [.ref r0, sm_junk, .int v2, .int v3]) (st' := [.int v3, .ref r0, .ref r0]) q97 5 3 rfl (sx_ki (sx_V q97 8 rfl lk_8_66 vk_42 na_42 rfl rfl rfl rfl (hr0.s 0 rfl)) (by decide) rfl (fun x0 D1 => (sx_kv (sx_V q97 9 rfl lk_8_69 vk_44 na_44 rfl rfl rfl rfl (hr0.s 0 rfl)) (by decide) rfl (fun D2 => (sx_p (pc' := 2) (lv' := [.ref r0, sm_junk, .int v2, .int (v3 + ni 1)]) (st' := []) q97 10 2 rfl (sm_ge.refl _)))))))))
set_option maxRecDepth 8000 in
theorem f97 {C : sm_K} {r0 : Nat} {nr0 : Nat} {v1 : Int32} {v2 : Int32} (hr0 : sm_row C r0 nr0) {D : sm_D} : sm_ge (sm_fe C 97 [.ref r0, .int v1, .int v2] D) (
  sm_fx C 97 2 [.ref r0, sm_junk, .int v2, .int v1] [] D) := by
  rw [sx_fe (m := 4) rfl rfl]
  exact (show sm_ge (sm_fx C 97 0 [.ref r0, .int v1, .int v2, sm_junk] [] D) _ from (sx_p (pc' := 2) (lv' := [.ref r0, .int v1, .int v2, .int v1]) (st' := []) q97 0 2 rfl (sx_w (lv := [.ref r0, .int v1, .int v2, .int v1]) (lv' := [.ref r0, sm_junk, .int v2, .int v1]) (sm_ordl.ord ⟨Or.inr rfl, Or.inl rfl, Or.inr rfl, Or.inr rfl, trivial⟩))))
/-! MessageTree$SubjectText.addMeant -/
theorem q98 : sm_q 98 8 sm_i98 3 := ⟨rfl, rfl, rfl⟩
set_option maxRecDepth 8000 in
theorem n98_2 {C : sm_K} {X : Nat} {r0 : Nat} {nr0 : Nat} {v2 : Int32} {v3 : Int32} (hX : sm_Lay C X) (hr0 : sm_row C r0 nr0) {D : sm_D} : sm_ge (sm_fx C 98 2 [.ref (X + 11), .ref r0, .int v2, .int v3, sm_junk, sm_junk] [] D) (
  if (D.1 (X + 12) 1) ≤ v3 then
    some (.inl none, D)
  else
    sm_bi (sm_fe C 42 [.ref (X + 12), .int v3] D) (fun x0 D1 =>
      if v2 = (ni 2) then
        sm_bi (sm_fe C 99 [.ref (X + 11), .int v3] D1) (fun x1 D2 =>
          sm_fx C 98 37 [.ref (X + 11), .ref r0, .int v2, .int v3, .int x0, sm_junk] [.int x1] D2)
      else
        sm_fx C 98 37 [.ref (X + 11), .ref r0, .int v2, .int v3, .int x0, sm_junk] [.int (ni 1)] D1)) := 
  (sx_p (pc' := 4) (lv' := [.ref (X + 11), .ref r0, .int v2, .int v3, sm_junk, sm_junk]) (st' := [.ref (X + 11), .int v3]) q98 2 2 rfl (sx_gR q98 4 rfl fk_8_14 (fun _ _ => rfl) (hX.s 11 rfl) (hX.r 11 1 rfl) (sx_gI q98 5 rfl fk_8_36 rfl (hX.s 12 rfl) (hX.b 12) (sx_icmp_ge q98 6 rfl rfl (sx_rv q98 50 rfl rfl) (sx_p (pc' := 14) (lv' := [.ref (X + 11), .ref r0, .int v2, .int v3, sm_junk, sm_junk]) (st' := [.ref (X + 11)]) q98 7 1 rfl (sx_gR q98 8 rfl fk_8_14 (fun _ _ => rfl) (hX.s 11 rfl) (hX.r 11 1 rfl) (sx_p (pc' := 18) (lv' := [.ref (X + 11), .ref r0, .int v2, .int v3, sm_junk, sm_junk]) (st' := [.int v3, .ref (X + 12)]) q98 9 1 rfl (sx_ki (sx_V q98 10 rfl lk_8_66 vk_42 na_42 rfl rfl rfl rfl (hX.s 12 rfl)) (by decide) rfl (fun x0 D1 => (sx_p (pc' := 25) (lv' := [.ref (X + 11), .ref r0, .int v2, .int v3, .int x0, sm_junk]) (st' := [.int (ni 2), .int v2]) q98 11 3 rfl (sx_icmp_ne q98 14 rfl rfl (sx_p (pc' := 37) (lv' := [.ref (X + 11), .ref r0, .int v2, .int v3, .int x0, sm_junk]) (st' := [.int (ni 1)]) q98 19 1 rfl (sm_ge.refl _)) (sx_p (pc' := 30) (lv' := [.ref (X + 11), .ref r0, .int v2, .int v3, .int x0, sm_junk]) (st' := [.int v3, .ref (X + 11)]) q98 15 2 rfl (sx_ki (sx_V q98 17 rfl lk_8_113 vk_99 na_99 rfl rfl rfl rfl (hX.s 11 rfl)) (by decide) rfl (fun x1 D2 => (sx_p (pc' := 37) (lv' := [.ref (X + 11), .ref r0, .int v2, .int v3, .int x0, sm_junk]) (st' := [.int x1]) q98 18 1 rfl (sm_ge.refl _))))))))))))))))
set_option maxRecDepth 8000 in
theorem n98_37 {C : sm_K} {X : Nat} {r0 : Nat} {nr0 : Nat} {v2 : Int32} {v3 : Int32} {v4 : Int32} {s0 : Int32} (hX : sm_Lay C X) (hr0 : sm_row C r0 nr0) {D : sm_D} : sm_ge (sm_fx C 98 37 [.ref (X + 11), .ref r0, .int v2, .int v3, .int v4, sm_junk] [.int s0] D) (
  if s0 = ni 0 then
    sm_fx C 98 55 [.ref (X + 11), .ref r0, .int v2, .int v3, sm_junk, .int s0] [] D
  else
    if v2 = ni 0 then
      if v4 ≤ (ni 127) then
        sm_fx C 98 64 [.ref (X + 11), .ref r0, .int v2, .int v3, .int v4, .int s0] [] D
      else
        sm_fx C 98 55 [.ref (X + 11), .ref r0, .int v2, .int v3, sm_junk, .int s0] [] D
    else
      sm_fx C 98 64 [.ref (X + 11), .ref r0, .int v2, .int v3, .int v4, .int s0] [] D) := 
  (sx_p (pc' := 41) (lv' := [.ref (X + 11), .ref r0, .int v2, .int v3, .int v4, .int s0]) (st' := [.int s0]) q98 20 2 rfl (sx_if_eq q98 22 rfl rfl (sx_w (lv := [.ref (X + 11), .ref r0, .int v2, .int v3, .int v4, .int s0]) (lv' := [.ref (X + 11), .ref r0, .int v2, .int v3, sm_junk, .int s0]) (sm_ordl.ord ⟨Or.inr rfl, Or.inr rfl, Or.inr rfl, Or.inr rfl, Or.inl rfl, Or.inr rfl, trivial⟩)) (sx_p (pc' := 45) (lv' := [.ref (X + 11), .ref r0, .int v2, .int v3, .int v4, .int s0]) (st' := [.int v2]) q98 23 1 rfl (sx_if_ne q98 24 rfl rfl (sm_ge.refl _) (sx_p (pc' := 52) (lv' := [.ref (X + 11), .ref r0, .int v2, .int v3, .int v4, .int s0]) (st' := [.int (ni 127), .int v4]) q98 25 2 rfl (sx_icmp_le q98 27 rfl rfl (sm_ge.refl _) (sx_w (lv := [.ref (X + 11), .ref r0, .int v2, .int v3, .int v4, .int s0]) (lv' := [.ref (X + 11), .ref r0, .int v2, .int v3, sm_junk, .int s0]) (sm_ordl.ord ⟨Or.inr rfl, Or.inr rfl, Or.inr rfl, Or.inr rfl, Or.inl rfl, Or.inr rfl, trivial⟩))))))))
set_option maxRecDepth 8000 in
theorem n98_55 {C : sm_K} {X : Nat} {r0 : Nat} {nr0 : Nat} {v2 : Int32} {v3 : Int32} {v5 : Int32} (hX : sm_Lay C X) (hr0 : sm_row C r0 nr0) {D : sm_D} : sm_ge (sm_fx C 98 55 [.ref (X + 11), .ref r0, .int v2, .int v3, sm_junk, .int v5] [] D) (
  sm_bv (sm_fe C 44 [.ref r0, .int (65533 : Int32)] D) (fun D1 =>
    sm_fx C 98 86 [.ref (X + 11), .ref r0, .int v2, .int v3, sm_junk, .int v5] [] D1)) := 
  (sx_p (pc' := 56) (lv' := [.ref (X + 11), .ref r0, .int v2, .int v3, sm_junk, .int v5]) (st' := [.ref r0]) q98 28 1 rfl (sx_ci q98 29 rfl (Or.inl ⟨rfl, rfl⟩) ci_8_116 (sx_kv (sx_V q98 30 rfl lk_8_69 vk_44 na_44 rfl rfl rfl rfl (hr0.s 0 rfl)) (by decide) rfl (fun D1 => (sx_p (pc' := 86) (lv' := [.ref (X + 11), .ref r0, .int v2, .int v3, sm_junk, .int v5]) (st' := []) q98 31 1 rfl (sm_ge.refl _))))))
set_option maxRecDepth 8000 in
theorem n98_64 {C : sm_K} {X : Nat} {r0 : Nat} {nr0 : Nat} {v2 : Int32} {v3 : Int32} {v4 : Int32} {v5 : Int32} (hX : sm_Lay C X) (hr0 : sm_row C r0 nr0) {D : sm_D} : sm_ge (sm_fx C 98 64 [.ref (X + 11), .ref r0, .int v2, .int v3, .int v4, .int v5] [] D) (
  if v5 = (ni 1) then
    sm_fx C 98 83 [.ref (X + 11), .ref r0, .int v2, .int v3, sm_junk, .int v5] [.int v4, .ref r0] D
  else
    sm_bi (sm_fe C 100 [.ref (X + 11), .int v3, .int v5] D) (fun x0 D1 =>
      sm_fx C 98 83 [.ref (X + 11), .ref r0, .int v2, .int v3, sm_junk, .int v5] [.int x0, .ref r0] D1)) := 
  (sx_p (pc' := 68) (lv' := [.ref (X + 11), .ref r0, .int v2, .int v3, .int v4, .int v5]) (st' := [.int (ni 1), .int v5, .ref r0]) q98 32 3 rfl (sx_icmp_ne q98 35 rfl rfl (sx_p (pc' := 80) (lv' := [.ref (X + 11), .ref r0, .int v2, .int v3, .int v4, .int v5]) (st' := [.int v5, .int v3, .ref (X + 11), .ref r0]) q98 38 3 rfl (sx_ki (sx_V q98 41 rfl lk_8_117 vk_100 na_100 rfl rfl rfl rfl (hX.s 11 rfl)) (by decide) rfl (fun x0 D1 => (sx_w (lv := [.ref (X + 11), .ref r0, .int v2, .int v3, .int v4, .int v5]) (lv' := [.ref (X + 11), .ref r0, .int v2, .int v3, sm_junk, .int v5]) (sm_ordl.ord ⟨Or.inr rfl, Or.inr rfl, Or.inr rfl, Or.inr rfl, Or.inl rfl, Or.inr rfl, trivial⟩))))) (sx_p (pc' := 83) (lv' := [.ref (X + 11), .ref r0, .int v2, .int v3, .int v4, .int v5]) (st' := [.int v4, .ref r0]) q98 36 2 rfl (sx_w (lv := [.ref (X + 11), .ref r0, .int v2, .int v3, .int v4, .int v5]) (lv' := [.ref (X + 11), .ref r0, .int v2, .int v3, sm_junk, .int v5]) (sm_ordl.ord ⟨Or.inr rfl, Or.inr rfl, Or.inr rfl, Or.inr rfl, Or.inl rfl, Or.inr rfl, trivial⟩)))))
set_option maxRecDepth 8000 in
theorem n98_83 {C : sm_K} {X : Nat} {r0 : Nat} {nr0 : Nat} {v2 : Int32} {v3 : Int32} {v5 : Int32} {s1 : Int32} (hX : sm_Lay C X) (hr0 : sm_row C r0 nr0) {D : sm_D} : sm_ge (sm_fx C 98 83 [.ref (X + 11), .ref r0, .int v2, .int v3, sm_junk, .int v5] [.int s1, .ref r0] D) (
  sm_bv (sm_fe C 44 [.ref r0, .int s1] D) (fun D1 =>
    sm_fx C 98 86 [.ref (X + 11), .ref r0, .int v2, .int v3, sm_junk, .int v5] [] D1)) := 
  (sx_kv (sx_V q98 42 rfl lk_8_69 vk_44 na_44 rfl rfl rfl rfl (hr0.s 0 rfl)) (by decide) rfl (fun D1 => (sm_ge.refl _)))
set_option maxRecDepth 8000 in
theorem n98_86 {C : sm_K} {X : Nat} {r0 : Nat} {nr0 : Nat} {v2 : Int32} {v3 : Int32} {v5 : Int32} (hX : sm_Lay C X) (hr0 : sm_row C r0 nr0) {D : sm_D} : sm_ge (sm_fx C 98 86 [.ref (X + 11), .ref r0, .int v2, .int v3, sm_junk, .int v5] [] D) (
  sm_bi (sm_fe C 283 [.int v5, .int (ni 1)] D) (fun x0 D1 =>
    sm_fx C 98 2 [.ref (X + 11), .ref r0, .int v2, .int (v3 + x0), sm_junk, sm_junk] [] D1)) := 
  (sx_p (pc' := 90) (lv' := [.ref (X + 11), .ref r0, .int v2, .int v3, sm_junk, .int v5]) (st' := [.int (ni 1), .int v5, .int v3]) q98 43 3 rfl (sx_ki (sx_S q98 46 rfl lk_8_56 rfl na_283 rfl rfl rfl rfl) (by decide) rfl (fun x0 D1 => (sx_p (pc' := 2) (lv' := [.ref (X + 11), .ref r0, .int v2, .int (v3 + x0), sm_junk, .int v5]) (st' := []) q98 47 3 rfl (sx_w (lv := [.ref (X + 11), .ref r0, .int v2, .int (v3 + x0), sm_junk, .int v5]) (lv' := [.ref (X + 11), .ref r0, .int v2, .int (v3 + x0), sm_junk, sm_junk]) (sm_ordl.ord ⟨Or.inr rfl, Or.inr rfl, Or.inr rfl, Or.inr rfl, Or.inl rfl, Or.inl rfl, trivial⟩))))))
set_option maxRecDepth 8000 in
theorem f98 {C : sm_K} {X : Nat} {r0 : Nat} {nr0 : Nat} {v2 : Int32} (hX : sm_Lay C X) (hr0 : sm_row C r0 nr0) {D : sm_D} : sm_ge (sm_fe C 98 [.ref (X + 11), .ref r0, .int v2] D) (
  sm_fx C 98 2 [.ref (X + 11), .ref r0, .int v2, .int (ni 0), sm_junk, sm_junk] [] D) := by
  rw [sx_fe (m := 6) rfl rfl]
  exact (show sm_ge (sm_fx C 98 0 [.ref (X + 11), .ref r0, .int v2, sm_junk, sm_junk, sm_junk] [] D) _ from (sx_p (pc' := 2) (lv' := [.ref (X + 11), .ref r0, .int v2, .int (ni 0), sm_junk, sm_junk]) (st' := []) q98 0 2 rfl (sm_ge.refl _)))
/-! MessageTree$SubjectText.sizeOfUtf8 -/
theorem q99 : sm_q 99 8 sm_i99 2 := ⟨rfl, rfl, rfl⟩
set_option maxRecDepth 8000 in
theorem n99_63 {C : sm_K} {X : Nat} {v1 : Int32} {s0 : Int32} (hX : sm_Lay C X) {D : sm_D} : sm_ge (sm_fx C 99 63 [.ref (X + 11), .int v1, sm_junk, sm_junk, sm_junk, sm_junk, sm_junk] [.int s0] D) (
  sm_fx C 99 67 [.ref (X + 11), .int v1, sm_junk, .int s0, .int (ni 1), sm_junk, sm_junk] [] D) := 
  (sx_p (pc' := 67) (lv' := [.ref (X + 11), .int v1, sm_junk, .int s0, .int (ni 1), sm_junk, sm_junk]) (st' := []) q99 31 3 rfl (sm_ge.refl _))
set_option maxRecDepth 8000 in
theorem n99_67 {C : sm_K} {X : Nat} {v1 : Int32} {v3 : Int32} {v4 : Int32} (hX : sm_Lay C X) {D : sm_D} : sm_ge (sm_fx C 99 67 [.ref (X + 11), .int v1, sm_junk, .int v3, .int v4, sm_junk, sm_junk] [] D) (
  if v3 ≤ v4 then
    sm_bi (sm_fe C 100 [.ref (X + 11), .int v1, .int v3] D) (fun x0 D1 =>
      if v3 = (ni 3) then
        if x0 < (ni 2048) then
          sm_fx C 99 139 [sm_junk, sm_junk, sm_junk, .int v3, .int x0, sm_junk, sm_junk] [.int (ni 1)] D1
        else
          sm_fx C 99 122 [sm_junk, sm_junk, sm_junk, .int v3, .int x0, sm_junk, sm_junk] [] D1
      else
        sm_fx C 99 122 [sm_junk, sm_junk, sm_junk, .int v3, .int x0, sm_junk, sm_junk] [] D1)
  else
    sm_bi (sm_fe C 42 [.ref (X + 12), .int (v1 + v4)] D) (fun x0 D2 =>
      if (x0 &&& (sm_k (-64))) = (ni 128) then
        sm_fx C 99 67 [.ref (X + 11), .int v1, sm_junk, .int v3, .int (v4 + ni 1), sm_junk, sm_junk] [] D2
      else
        some (.inl (some (.int (ni 0))), D2))) := 
  (sx_p (pc' := 70) (lv' := [.ref (X + 11), .int v1, sm_junk, .int v3, .int v4, sm_junk, sm_junk]) (st' := [.int v3, .int v4]) q99 34 2 rfl (sx_icmp_ge q99 36 rfl rfl (sx_p (pc' := 104) (lv' := [.ref (X + 11), .int v1, sm_junk, .int v3, .int v4, sm_junk, sm_junk]) (st' := [.int v3, .int v1, .ref (X + 11)]) q99 51 3 rfl (sx_ki (sx_V q99 54 rfl lk_8_117 vk_100 na_100 rfl rfl rfl rfl (hX.s 11 rfl)) (by decide) rfl (fun x0 D1 => (sx_p (pc' := 111) (lv' := [.ref (X + 11), .int v1, sm_junk, .int v3, .int x0, sm_junk, sm_junk]) (st' := [.int (ni 3), .int v3]) q99 55 3 rfl (sx_icmp_ne q99 58 rfl rfl (sx_w (lv := [.ref (X + 11), .int v1, sm_junk, .int v3, .int x0, sm_junk, sm_junk]) (lv' := [sm_junk, sm_junk, sm_junk, .int v3, .int x0, sm_junk, sm_junk]) (sm_ordl.ord ⟨Or.inl rfl, Or.inl rfl, Or.inl rfl, Or.inr rfl, Or.inr rfl, Or.inl rfl, Or.inl rfl, trivial⟩)) (sx_p (pc' := 119) (lv' := [.ref (X + 11), .int v1, sm_junk, .int v3, .int x0, sm_junk, sm_junk]) (st' := [.int (ni 2048), .int x0]) q99 59 2 rfl (sx_icmp_lt q99 61 rfl rfl (sx_p (pc' := 139) (lv' := [.ref (X + 11), .int v1, sm_junk, .int v3, .int x0, sm_junk, sm_junk]) (st' := [.int (ni 1)]) q99 68 2 rfl (sx_w (lv := [.ref (X + 11), .int v1, sm_junk, .int v3, .int x0, sm_junk, sm_junk]) (lv' := [sm_junk, sm_junk, sm_junk, .int v3, .int x0, sm_junk, sm_junk]) (sm_ordl.ord ⟨Or.inl rfl, Or.inl rfl, Or.inl rfl, Or.inr rfl, Or.inr rfl, Or.inl rfl, Or.inl rfl, trivial⟩))) (sx_w (lv := [.ref (X + 11), .int v1, sm_junk, .int v3, .int x0, sm_junk, sm_junk]) (lv' := [sm_junk, sm_junk, sm_junk, .int v3, .int x0, sm_junk, sm_junk]) (sm_ordl.ord ⟨Or.inl rfl, Or.inl rfl, Or.inl rfl, Or.inr rfl, Or.inr rfl, Or.inl rfl, Or.inl rfl, trivial⟩))))))))) (sx_p (pc' := 74) (lv' := [.ref (X + 11), .int v1, sm_junk, .int v3, .int v4, sm_junk, sm_junk]) (st' := [.ref (X + 11)]) q99 37 1 rfl (sx_gR q99 38 rfl fk_8_14 (fun _ _ => rfl) (hX.s 11 rfl) (hX.r 11 1 rfl) (sx_p (pc' := 81) (lv' := [.ref (X + 11), .int v1, sm_junk, .int v3, .int v4, sm_junk, sm_junk]) (st' := [.int (v1 + v4), .ref (X + 12)]) q99 39 3 rfl (sx_ki (sx_V q99 42 rfl lk_8_66 vk_42 na_42 rfl rfl rfl rfl (hX.s 12 rfl)) (by decide) rfl (fun x0 D2 => (sx_p (pc' := 90) (lv' := [.ref (X + 11), .int v1, sm_junk, .int v3, .int v4, sm_junk, sm_junk]) (st' := [.int (ni 128), .int (x0 &&& (sm_k (-64)))]) q99 43 3 rfl (sx_icmp_eq q99 46 rfl rfl (sx_p (pc' := 67) (lv' := [.ref (X + 11), .int v1, sm_junk, .int v3, .int (v4 + ni 1), sm_junk, sm_junk]) (st' := []) q99 49 2 rfl (sm_ge.refl _)) (sx_p (pc' := 94) (lv' := [.ref (X + 11), .int v1, sm_junk, .int v3, .int v4, sm_junk, sm_junk]) (st' := [.int (ni 0)]) q99 47 1 rfl (sx_ri (ty := .int) q99 48 rfl rfl)))))))))))
set_option maxRecDepth 8000 in
theorem n99_122 {C : sm_K} {X : Nat} {v3 : Int32} {v4 : Int32} (hX : sm_Lay C X) {D : sm_D} : sm_ge (sm_fx C 99 122 [sm_junk, sm_junk, sm_junk, .int v3, .int v4, sm_junk, sm_junk] [] D) (
  if v3 = (ni 4) then
    if (65536 : Int32) ≤ v4 then
      sm_fx C 99 138 [sm_junk, sm_junk, sm_junk, .int v3, .int v4, sm_junk, sm_junk] [] D
    else
      sm_fx C 99 139 [sm_junk, sm_junk, sm_junk, .int v3, .int v4, sm_junk, sm_junk] [.int (ni 1)] D
  else
    sm_fx C 99 138 [sm_junk, sm_junk, sm_junk, .int v3, .int v4, sm_junk, sm_junk] [] D) := 
  (sx_p (pc' := 124) (lv' := [sm_junk, sm_junk, sm_junk, .int v3, .int v4, sm_junk, sm_junk]) (st' := [.int (ni 4), .int v3]) q99 62 2 rfl (sx_icmp_ne q99 64 rfl rfl (sm_ge.refl _) (sx_p (pc' := 129) (lv' := [sm_junk, sm_junk, sm_junk, .int v3, .int v4, sm_junk, sm_junk]) (st' := [.int v4]) q99 65 1 rfl (sx_ci q99 66 rfl (Or.inl ⟨rfl, rfl⟩) ci_8_120 (sx_icmp_ge q99 67 rfl rfl (sm_ge.refl _) (sx_p (pc' := 139) (lv' := [sm_junk, sm_junk, sm_junk, .int v3, .int v4, sm_junk, sm_junk]) (st' := [.int (ni 1)]) q99 68 2 rfl (sm_ge.refl _)))))))
set_option maxRecDepth 8000 in
theorem n99_138 {C : sm_K} {X : Nat} {v3 : Int32} {v4 : Int32} (hX : sm_Lay C X) {D : sm_D} : sm_ge (sm_fx C 99 138 [sm_junk, sm_junk, sm_junk, .int v3, .int v4, sm_junk, sm_junk] [] D) (
  sm_fx C 99 139 [sm_junk, sm_junk, sm_junk, .int v3, .int v4, sm_junk, sm_junk] [.int (ni 0)] D) := 
  (sx_p (pc' := 139) (lv' := [sm_junk, sm_junk, sm_junk, .int v3, .int v4, sm_junk, sm_junk]) (st' := [.int (ni 0)]) q99 70 1 rfl (sm_ge.refl _))
set_option maxRecDepth 8000 in
theorem n99_139 {C : sm_K} {X : Nat} {v3 : Int32} {v4 : Int32} {s0 : Int32} (hX : sm_Lay C X) {D : sm_D} : sm_ge (sm_fx C 99 139 [sm_junk, sm_junk, sm_junk, .int v3, .int v4, sm_junk, sm_junk] [.int s0] D) (
  if v4 < (55296 : Int32) then
    sm_fx C 99 155 [sm_junk, sm_junk, sm_junk, .int v3, .int v4, .int s0, sm_junk] [] D
  else
    if v4 ≤ (57343 : Int32) then
      sm_fx C 99 167 [sm_junk, sm_junk, sm_junk, .int v3, sm_junk, .int s0, sm_junk] [.int (ni 1)] D
    else
      sm_fx C 99 155 [sm_junk, sm_junk, sm_junk, .int v3, .int v4, .int s0, sm_junk] [] D) := 
  (sx_p (pc' := 143) (lv' := [sm_junk, sm_junk, sm_junk, .int v3, .int v4, .int s0, sm_junk]) (st' := [.int v4]) q99 71 2 rfl (sx_ci q99 73 rfl (Or.inl ⟨rfl, rfl⟩) ci_8_121 (sx_icmp_lt q99 74 rfl rfl (sm_ge.refl _) (sx_p (pc' := 150) (lv' := [sm_junk, sm_junk, sm_junk, .int v3, .int v4, .int s0, sm_junk]) (st' := [.int v4]) q99 75 1 rfl (sx_ci q99 76 rfl (Or.inl ⟨rfl, rfl⟩) ci_8_122 (sx_icmp_le q99 77 rfl rfl (sx_p (pc' := 167) (lv' := [sm_junk, sm_junk, sm_junk, .int v3, .int v4, .int s0, sm_junk]) (st' := [.int (ni 1)]) q99 81 2 rfl (sx_w (lv := [sm_junk, sm_junk, sm_junk, .int v3, .int v4, .int s0, sm_junk]) (lv' := [sm_junk, sm_junk, sm_junk, .int v3, sm_junk, .int s0, sm_junk]) (sm_ordl.ord ⟨Or.inl rfl, Or.inl rfl, Or.inl rfl, Or.inr rfl, Or.inl rfl, Or.inr rfl, Or.inl rfl, trivial⟩))) (sm_ge.refl _)))))))
set_option maxRecDepth 8000 in
theorem n99_155 {C : sm_K} {X : Nat} {v3 : Int32} {v4 : Int32} {v5 : Int32} (hX : sm_Lay C X) {D : sm_D} : sm_ge (sm_fx C 99 155 [sm_junk, sm_junk, sm_junk, .int v3, .int v4, .int v5, sm_junk] [] D) (
  if v4 ≤ (1114111 : Int32) then
    sm_fx C 99 167 [sm_junk, sm_junk, sm_junk, .int v3, sm_junk, .int v5, sm_junk] [.int (ni 0)] D
  else
    sm_fx C 99 167 [sm_junk, sm_junk, sm_junk, .int v3, sm_junk, .int v5, sm_junk] [.int (ni 1)] D) := 
  (sx_p (pc' := 157) (lv' := [sm_junk, sm_junk, sm_junk, .int v3, .int v4, .int v5, sm_junk]) (st' := [.int v4]) q99 78 1 rfl (sx_ci q99 79 rfl (Or.inl ⟨rfl, rfl⟩) ci_8_123 (sx_icmp_le q99 80 rfl rfl (sx_p (pc' := 167) (lv' := [sm_junk, sm_junk, sm_junk, .int v3, .int v4, .int v5, sm_junk]) (st' := [.int (ni 0)]) q99 83 1 rfl (sx_w (lv := [sm_junk, sm_junk, sm_junk, .int v3, .int v4, .int v5, sm_junk]) (lv' := [sm_junk, sm_junk, sm_junk, .int v3, sm_junk, .int v5, sm_junk]) (sm_ordl.ord ⟨Or.inl rfl, Or.inl rfl, Or.inl rfl, Or.inr rfl, Or.inl rfl, Or.inr rfl, Or.inl rfl, trivial⟩))) (sx_p (pc' := 167) (lv' := [sm_junk, sm_junk, sm_junk, .int v3, .int v4, .int v5, sm_junk]) (st' := [.int (ni 1)]) q99 81 2 rfl (sx_w (lv := [sm_junk, sm_junk, sm_junk, .int v3, .int v4, .int v5, sm_junk]) (lv' := [sm_junk, sm_junk, sm_junk, .int v3, sm_junk, .int v5, sm_junk]) (sm_ordl.ord ⟨Or.inl rfl, Or.inl rfl, Or.inl rfl, Or.inr rfl, Or.inl rfl, Or.inr rfl, Or.inl rfl, trivial⟩))))))
set_option maxRecDepth 8000 in
theorem n99_167 {C : sm_K} {X : Nat} {v3 : Int32} {v5 : Int32} {s0 : Int32} (hX : sm_Lay C X) {D : sm_D} : sm_ge (sm_fx C 99 167 [sm_junk, sm_junk, sm_junk, .int v3, sm_junk, .int v5, sm_junk] [.int s0] D) (
  if v5 = ni 0 then
    if s0 = ni 0 then
      some (.inl (some (.int v3)), D)
    else
      some (.inl (some (.int (ni 0))), D)
  else
    some (.inl (some (.int (ni 0))), D)) := 
  (sx_p (pc' := 171) (lv' := [sm_junk, sm_junk, sm_junk, .int v3, sm_junk, .int v5, .int s0]) (st' := [.int v5]) q99 84 2 rfl (sx_if_ne q99 86 rfl rfl (sx_p (pc' := 184) (lv' := [sm_junk, sm_junk, sm_junk, .int v3, sm_junk, .int v5, .int s0]) (st' := [.int (ni 0)]) q99 89 2 rfl (sx_ri (ty := .int) q99 92 rfl rfl)) (sx_p (pc' := 176) (lv' := [sm_junk, sm_junk, sm_junk, .int v3, sm_junk, .int v5, .int s0]) (st' := [.int s0]) q99 87 1 rfl (sx_if_eq q99 88 rfl rfl (sx_p (pc' := 184) (lv' := [sm_junk, sm_junk, sm_junk, .int v3, sm_junk, .int v5, .int s0]) (st' := [.int v3]) q99 91 1 rfl (sx_ri (ty := .int) q99 92 rfl rfl)) (sx_p (pc' := 184) (lv' := [sm_junk, sm_junk, sm_junk, .int v3, sm_junk, .int v5, .int s0]) (st' := [.int (ni 0)]) q99 89 2 rfl (sx_ri (ty := .int) q99 92 rfl rfl))))))
set_option maxRecDepth 8000 in
theorem f99 {C : sm_K} {X : Nat} {v1 : Int32} (hX : sm_Lay C X) {D : sm_D} : sm_ge (sm_fe C 99 [.ref (X + 11), .int v1] D) (
  sm_bi (sm_fe C 42 [.ref (X + 12), .int v1] D) (fun x0 D1 =>
    if (ni 128) ≤ x0 then
      if (ni 194) ≤ x0 then
        if (ni 224) ≤ x0 then
          if (ni 240) ≤ x0 then
            if (ni 245) ≤ x0 then
              sm_fx C 99 63 [.ref (X + 11), .int v1, sm_junk, sm_junk, sm_junk, sm_junk, sm_junk] [.int (ni 0)] D1
            else
              sm_fx C 99 63 [.ref (X + 11), .int v1, sm_junk, sm_junk, sm_junk, sm_junk, sm_junk] [.int (ni 4)] D1
          else
            sm_fx C 99 63 [.ref (X + 11), .int v1, sm_junk, sm_junk, sm_junk, sm_junk, sm_junk] [.int (ni 3)] D1
        else
          sm_fx C 99 63 [.ref (X + 11), .int v1, sm_junk, sm_junk, sm_junk, sm_junk, sm_junk] [.int (ni 2)] D1
      else
        sm_fx C 99 63 [.ref (X + 11), .int v1, sm_junk, sm_junk, sm_junk, sm_junk, sm_junk] [.int (ni 0)] D1
    else
      some (.inl (some (.int (ni 1))), D1))) := by
  rw [sx_fe (m := 7) rfl rfl]
  exact (show sm_ge (sm_fx C 99 0 [.ref (X + 11), .int v1, sm_junk, sm_junk, sm_junk, sm_junk, sm_junk] [] D) _ from (sx_p (pc' := 1) (lv' := [.ref (X + 11), .int v1, sm_junk, sm_junk, sm_junk, sm_junk, sm_junk]) (st' := [.ref (X + 11)]) q99 0 1 rfl (sx_gR q99 1 rfl fk_8_14 (fun _ _ => rfl) (hX.s 11 rfl) (hX.r 11 1 rfl) (sx_p (pc' := 5) (lv' := [.ref (X + 11), .int v1, sm_junk, sm_junk, sm_junk, sm_junk, sm_junk]) (st' := [.int v1, .ref (X + 12)]) q99 2 1 rfl (sx_ki (sx_V q99 3 rfl lk_8_66 vk_42 na_42 rfl rfl rfl rfl (hX.s 12 rfl)) (by decide) rfl (fun x0 D1 => (sx_p (pc' := 13) (lv' := [.ref (X + 11), .int v1, .int x0, sm_junk, sm_junk, sm_junk, sm_junk]) (st' := [.int (ni 128), .int x0]) q99 4 3 rfl (sx_icmp_ge q99 7 rfl rfl (sx_p (pc' := 22) (lv' := [.ref (X + 11), .int v1, .int x0, sm_junk, sm_junk, sm_junk, sm_junk]) (st' := [.int (ni 194), .int x0]) q99 10 2 rfl (sx_icmp_ge q99 12 rfl rfl (sx_p (pc' := 33) (lv' := [.ref (X + 11), .int v1, .int x0, sm_junk, sm_junk, sm_junk, sm_junk]) (st' := [.int (ni 224), .int x0]) q99 15 2 rfl (sx_icmp_ge q99 17 rfl rfl (sx_p (pc' := 44) (lv' := [.ref (X + 11), .int v1, .int x0, sm_junk, sm_junk, sm_junk, sm_junk]) (st' := [.int (ni 240), .int x0]) q99 20 2 rfl (sx_icmp_ge q99 22 rfl rfl (sx_p (pc' := 55) (lv' := [.ref (X + 11), .int v1, .int x0, sm_junk, sm_junk, sm_junk, sm_junk]) (st' := [.int (ni 245), .int x0]) q99 25 2 rfl (sx_icmp_ge q99 27 rfl rfl (sx_p (pc' := 63) (lv' := [.ref (X + 11), .int v1, .int x0, sm_junk, sm_junk, sm_junk, sm_junk]) (st' := [.int (ni 0)]) q99 30 1 rfl (sx_w (lv := [.ref (X + 11), .int v1, .int x0, sm_junk, sm_junk, sm_junk, sm_junk]) (lv' := [.ref (X + 11), .int v1, sm_junk, sm_junk, sm_junk, sm_junk, sm_junk]) (sm_ordl.ord ⟨Or.inr rfl, Or.inr rfl, Or.inl rfl, Or.inl rfl, Or.inl rfl, Or.inl rfl, Or.inl rfl, trivial⟩))) (sx_p (pc' := 63) (lv' := [.ref (X + 11), .int v1, .int x0, sm_junk, sm_junk, sm_junk, sm_junk]) (st' := [.int (ni 4)]) q99 28 2 rfl (sx_w (lv := [.ref (X + 11), .int v1, .int x0, sm_junk, sm_junk, sm_junk, sm_junk]) (lv' := [.ref (X + 11), .int v1, sm_junk, sm_junk, sm_junk, sm_junk, sm_junk]) (sm_ordl.ord ⟨Or.inr rfl, Or.inr rfl, Or.inl rfl, Or.inl rfl, Or.inl rfl, Or.inl rfl, Or.inl rfl, trivial⟩))))) (sx_p (pc' := 63) (lv' := [.ref (X + 11), .int v1, .int x0, sm_junk, sm_junk, sm_junk, sm_junk]) (st' := [.int (ni 3)]) q99 23 2 rfl (sx_w (lv := [.ref (X + 11), .int v1, .int x0, sm_junk, sm_junk, sm_junk, sm_junk]) (lv' := [.ref (X + 11), .int v1, sm_junk, sm_junk, sm_junk, sm_junk, sm_junk]) (sm_ordl.ord ⟨Or.inr rfl, Or.inr rfl, Or.inl rfl, Or.inl rfl, Or.inl rfl, Or.inl rfl, Or.inl rfl, trivial⟩))))) (sx_p (pc' := 63) (lv' := [.ref (X + 11), .int v1, .int x0, sm_junk, sm_junk, sm_junk, sm_junk]) (st' := [.int (ni 2)]) q99 18 2 rfl (sx_w (lv := [.ref (X + 11), .int v1, .int x0, sm_junk, sm_junk, sm_junk, sm_junk]) (lv' := [.ref (X + 11), .int v1, sm_junk, sm_junk, sm_junk, sm_junk, sm_junk]) (sm_ordl.ord ⟨Or.inr rfl, Or.inr rfl, Or.inl rfl, Or.inl rfl, Or.inl rfl, Or.inl rfl, Or.inl rfl, trivial⟩))))) (sx_p (pc' := 63) (lv' := [.ref (X + 11), .int v1, .int x0, sm_junk, sm_junk, sm_junk, sm_junk]) (st' := [.int (ni 0)]) q99 13 2 rfl (sx_w (lv := [.ref (X + 11), .int v1, .int x0, sm_junk, sm_junk, sm_junk, sm_junk]) (lv' := [.ref (X + 11), .int v1, sm_junk, sm_junk, sm_junk, sm_junk, sm_junk]) (sm_ordl.ord ⟨Or.inr rfl, Or.inr rfl, Or.inl rfl, Or.inl rfl, Or.inl rfl, Or.inl rfl, Or.inl rfl, trivial⟩))))) (sx_p (pc' := 17) (lv' := [.ref (X + 11), .int v1, .int x0, sm_junk, sm_junk, sm_junk, sm_junk]) (st' := [.int (ni 1)]) q99 8 1 rfl (sx_ri (ty := .int) q99 9 rfl rfl))))))))))
/-! MessageTree$SubjectText.pointOfUtf8 -/
theorem q100 : sm_q 100 8 sm_i100 1 := ⟨rfl, rfl, rfl⟩
set_option maxRecDepth 8000 in
theorem n100_17 {C : sm_K} {X : Nat} {v1 : Int32} {v2 : Int32} {v3 : Int32} {v4 : Int32} (hX : sm_Lay C X) {D : sm_D} : sm_ge (sm_fx C 100 17 [.ref (X + 11), .int v1, .int v2, .int v3, .int v4] [] D) (
  if v2 ≤ v4 then
    some (.inl (some (.int v3)), D)
  else
    sm_bi (sm_fe C 42 [.ref (X + 12), .int (v1 + v4)] D) (fun x0 D1 =>
      sm_fx C 100 17 [.ref (X + 11), .int v1, .int v2, .int ((v3 <<< ((ni 6) &&& 31)) ||| (x0 &&& (ni 63))), .int (v4 + ni 1)] [] D1)) := 
  (sx_p (pc' := 20) (lv' := [.ref (X + 11), .int v1, .int v2, .int v3, .int v4]) (st' := [.int v2, .int v4]) q100 11 2 rfl (sx_icmp_ge q100 13 rfl rfl (sx_p (pc' := 50) (lv' := [.ref (X + 11), .int v1, .int v2, .int v3, .int v4]) (st' := [.int v3]) q100 29 1 rfl (sx_ri (ty := .int) q100 30 rfl rfl)) (sx_p (pc' := 28) (lv' := [.ref (X + 11), .int v1, .int v2, .int v3, .int v4]) (st' := [.ref (X + 11), .int (v3 <<< ((ni 6) &&& 31))]) q100 14 4 rfl (sx_gR q100 18 rfl fk_8_14 (fun _ _ => rfl) (hX.s 11 rfl) (hX.r 11 1 rfl) (sx_p (pc' := 35) (lv' := [.ref (X + 11), .int v1, .int v2, .int v3, .int v4]) (st' := [.int (v1 + v4), .ref (X + 12), .int (v3 <<< ((ni 6) &&& 31))]) q100 19 3 rfl (sx_ki (sx_V q100 22 rfl lk_8_66 vk_42 na_42 rfl rfl rfl rfl (hX.s 12 rfl)) (by decide) rfl (fun x0 D1 => (sx_p (pc' := 17) (lv' := [.ref (X + 11), .int v1, .int v2, .int ((v3 <<< ((ni 6) &&& 31)) ||| (x0 &&& (ni 63))), .int (v4 + ni 1)]) (st' := []) q100 23 6 rfl (sm_ge.refl _)))))))))
set_option maxRecDepth 8000 in
theorem f100 {C : sm_K} {X : Nat} {v1 : Int32} {v2 : Int32} (hX : sm_Lay C X) {D : sm_D} : sm_ge (sm_fe C 100 [.ref (X + 11), .int v1, .int v2] D) (
  sm_bi (sm_fe C 42 [.ref (X + 12), .int v1] D) (fun x0 D1 =>
    sm_fx C 100 17 [.ref (X + 11), .int v1, .int v2, .int (x0 &&& ((ni 127) >>> (v2 &&& 31))), .int (ni 1)] [] D1)) := by
  rw [sx_fe (m := 5) rfl rfl]
  exact (show sm_ge (sm_fx C 100 0 [.ref (X + 11), .int v1, .int v2, sm_junk, sm_junk] [] D) _ from (sx_p (pc' := 1) (lv' := [.ref (X + 11), .int v1, .int v2, sm_junk, sm_junk]) (st' := [.ref (X + 11)]) q100 0 1 rfl (sx_gR q100 1 rfl fk_8_14 (fun _ _ => rfl) (hX.s 11 rfl) (hX.r 11 1 rfl) (sx_p (pc' := 5) (lv' := [.ref (X + 11), .int v1, .int v2, sm_junk, sm_junk]) (st' := [.int v1, .ref (X + 12)]) q100 2 1 rfl (sx_ki (sx_V q100 3 rfl lk_8_66 vk_42 na_42 rfl rfl rfl rfl (hX.s 12 rfl)) (by decide) rfl (fun x0 D1 => (sx_p (pc' := 17) (lv' := [.ref (X + 11), .int v1, .int v2, .int (x0 &&& ((ni 127) >>> (v2 &&& 31))), .int (ni 1)]) (st' := []) q100 4 7 rfl (sm_ge.refl _))))))))
/-! MessageTree$Parts.openOutermost -/
theorem q102 : sm_q 102 9 sm_i102 0 := ⟨rfl, rfl, rfl⟩
set_option maxRecDepth 8000 in
theorem f102 {C : sm_K} {X : Nat} (hX : sm_Lay C X) {D : sm_D} : sm_ge (sm_fe C 102 [.ref (X + 14)] D) (
  let D1 := sm_dI D (X + 14) 6 (ni 0)
  let D2 := sm_dI D1 (X + 14) 7 (sm_k (-1))
  let D3 := sm_dI D2 (X + 14) 8 (ni 0)
  let D4 := sm_dI D3 (X + 14) 9 (D3.1 (X + 2) 1)
  some (.inl none, D4)) := by
  rw [sx_fe (m := 1) rfl rfl]
  exact (show sm_ge (sm_fx C 102 0 [.ref (X + 14)] [] D) _ from (sx_p (pc' := 2) (lv' := [.ref (X + 14)]) (st' := [.int (ni 0), .ref (X + 14)]) q102 0 2 rfl (sx_pI q102 2 rfl pk_9_32 rfl (hX.s 14 rfl) (hX.b 14) (sx_p (pc' := 7) (lv' := [.ref (X + 14)]) (st' := [.int (sm_k (-1)), .ref (X + 14)]) q102 3 2 rfl (sx_pI q102 5 rfl pk_9_36 rfl (hX.s 14 rfl) (hX.b 14) (sx_p (pc' := 12) (lv' := [.ref (X + 14)]) (st' := [.int (ni 0), .ref (X + 14)]) q102 6 2 rfl (sx_pI q102 8 rfl pk_9_39 rfl (hX.s 14 rfl) (hX.b 14) (sx_p (pc' := 17) (lv' := [.ref (X + 14)]) (st' := [.ref (X + 14), .ref (X + 14)]) q102 9 2 rfl (sx_gR q102 11 rfl fk_9_28 (fun _ _ => rfl) (hX.s 14 rfl) (hX.r 14 0 rfl) (sx_gR q102 12 rfl fk_9_42 (fun _ _ => rfl) (hX.s 1 rfl) (hX.r 1 0 rfl) (sx_gI q102 13 rfl fk_9_48 rfl (hX.s 2 rfl) (hX.b 2) (sx_pI q102 14 rfl pk_9_53 rfl (hX.s 14 rfl) (hX.b 14) (sx_rv q102 15 rfl rfl)))))))))))))
/-! MessageTree$Parts.openMultipart -/
theorem q103 : sm_q 103 9 sm_i103 8 := ⟨rfl, rfl, rfl⟩
set_option maxRecDepth 8000 in
theorem f103 {C : sm_K} {X : Nat} {t : Nat} {v2 : Int32} {v3 : Int32} (hX : sm_Lay C X) (ht : sm_tree C t) {D : sm_D} : sm_ge (sm_fe C 103 [.ref (X + 14), .ref t, .int v2, .int v3] D) (
  if (D.1 (X + 14) 6) < ni 0 then
    some (.inl none, D)
  else
    if (D.1 (X + 14) 6) < (ni 6) then
      sm_gu (sm_in_b (D.1 (X + 14) 6) 6) (
      let D1 := sm_dI D (X + 15) ((D.1 (X + 14) 6).toNatClampNeg) v2
      sm_gu (sm_in_b (D.1 (X + 14) 6) 6) (
      let D2 := sm_dI D1 (X + 16) ((D.1 (X + 14) 6).toNatClampNeg) (D1.1 (X + 14) 9)
      let D3 := sm_dI D2 (X + 14) 6 ((D2.1 (X + 14) 6) + (ni 1))
      sm_bv (sm_fe C 104 [.ref (X + 14), .ref t, .int (D.1 (X + 14) 6), .int v3] D3) (fun D4 =>
        sm_gu (sm_in_b (D.1 (X + 14) 6) 6) (
        if (D4.1 (X + 19) (D.1 (X + 14) 6).toNatClampNeg) = ni 0 then
          some (.inl none, D4)
        else
          sm_gu (sm_in_b (D.1 (X + 14) 6) 6) (
          sm_bv (sm_fe C 29 [.ref (X + 1), .int (D4.1 (X + 17) (D.1 (X + 14) 6).toNatClampNeg)] D4) (fun D5 =>
            some (.inl none, D5)))))))
    else
      some (.inl none, D)) := by
  rw [sx_fe (m := 5) rfl rfl]
  exact (show sm_ge (sm_fx C 103 0 [.ref (X + 14), .ref t, .int v2, .int v3, sm_junk] [] D) _ from (sx_p (pc' := 1) (lv' := [.ref (X + 14), .ref t, .int v2, .int v3, sm_junk]) (st' := [.ref (X + 14)]) q103 0 1 rfl (sx_gI q103 1 rfl fk_9_32 rfl (hX.s 14 rfl) (hX.b 14) (sx_p (pc' := 8) (lv' := [.ref (X + 14), .ref t, .int v2, .int v3, .int (D.1 (X + 14) 6)]) (st' := [.int (D.1 (X + 14) 6)]) q103 2 2 rfl (sx_if_lt q103 4 rfl rfl (sx_rv q103 8 rfl rfl) (sx_p (pc' := 15) (lv' := [.ref (X + 14), .ref t, .int v2, .int v3, .int (D.1 (X + 14) 6)]) (st' := [.int (ni 6), .int (D.1 (X + 14) 6)]) q103 5 2 rfl (sx_icmp_lt q103 7 rfl rfl (sx_p (pc' := 20) (lv' := [.ref (X + 14), .ref t, .int v2, .int v3, .int (D.1 (X + 14) 6)]) (st' := [.ref (X + 14)]) q103 9 1 rfl (sx_gR q103 10 rfl fk_9_9 (fun _ _ => rfl) (hX.s 14 rfl) (hX.r 14 1 rfl) (sx_p (pc' := 26) (lv' := [.ref (X + 14), .ref t, .int v2, .int v3, .int (D.1 (X + 14) 6)]) (st' := [.int v2, .int (D.1 (X + 14) 6), .ref (X + 15)]) q103 11 2 rfl (sx_is q103 13 rfl (hX.s 15 rfl) (hX.b 15) (sx_p (pc' := 28) (lv' := [.ref (X + 14), .ref t, .int v2, .int v3, .int (D.1 (X + 14) 6)]) (st' := [.ref (X + 14)]) q103 14 1 rfl (sx_gR q103 15 rfl fk_9_15 (fun _ _ => rfl) (hX.s 14 rfl) (hX.r 14 2 rfl) (sx_p (pc' := 34) (lv' := [.ref (X + 14), .ref t, .int v2, .int v3, .int (D.1 (X + 14) 6)]) (st' := [.ref (X + 14), .int (D.1 (X + 14) 6), .ref (X + 16)]) q103 16 2 rfl (sx_gI q103 18 rfl fk_9_53 rfl (hX.s 14 rfl) (hX.b 14) (sx_is q103 19 rfl (hX.s 16 rfl) (hX.b 16) (sx_p (pc' := 40) (lv' := [.ref (X + 14), .ref t, .int v2, .int v3, .int (D.1 (X + 14) 6)]) (st' := [.ref (X + 14), .ref (X + 14)]) q103 20 2 rfl (sx_gI q103 22 rfl fk_9_32 rfl (hX.s 14 rfl) (hX.b 14) (sx_p (pc' := 45) (lv' := [.ref (X + 14), .ref t, .int v2, .int v3, .int (D.1 (X + 14) 6)]) (st' := [.int (((sm_dI (sm_dI D (X + 15) ((D.1 (X + 14) 6).toNatClampNeg) v2) (X + 16) ((D.1 (X + 14) 6).toNatClampNeg) ((sm_dI D (X + 15) ((D.1 (X + 14) 6).toNatClampNeg) v2).1 (X + 14) 9)).1 (X + 14) 6) + (ni 1)), .ref (X + 14)]) q103 23 2 rfl (sx_pI q103 25 rfl pk_9_32 rfl (hX.s 14 rfl) (hX.b 14) (sx_p (pc' := 53) (lv' := [.ref (X + 14), .ref t, .int v2, .int v3, .int (D.1 (X + 14) 6)]) (st' := [.int v3, .int (D.1 (X + 14) 6), .ref t, .ref (X + 14)]) q103 26 4 rfl (sx_kv (sx_V q103 30 rfl lk_9_56 vk_104 na_104 rfl rfl rfl rfl (hX.s 14 rfl)) (by decide) rfl (fun D4 => (sx_p (pc' := 57) (lv' := [.ref (X + 14), .ref t, .int v2, .int v3, .int (D.1 (X + 14) 6)]) (st' := [.ref (X + 14)]) q103 31 1 rfl (sx_gR q103 32 rfl fk_9_24 (fun _ _ => rfl) (hX.s 14 rfl) (hX.r 14 5 rfl) (sx_p (pc' := 62) (lv' := [.ref (X + 14), .ref t, .int v2, .int v3, .int (D.1 (X + 14) 6)]) (st' := [.int (D.1 (X + 14) 6), .ref (X + 19)]) q103 33 1 rfl (sx_ba q103 34 rfl (hX.s 19 rfl) (by simp) (hX.b 19) (sx_if_eq q103 35 rfl rfl (sx_rv q103 43 rfl rfl) (sx_p (pc' := 67) (lv' := [.ref (X + 14), .ref t, .int v2, .int v3, .int (D.1 (X + 14) 6)]) (st' := [.ref (X + 14)]) q103 36 1 rfl (sx_gR q103 37 rfl fk_9_28 (fun _ _ => rfl) (hX.s 14 rfl) (hX.r 14 0 rfl) (sx_p (pc' := 71) (lv' := [.ref (X + 14), .ref t, .int v2, .int v3, .int (D.1 (X + 14) 6)]) (st' := [.ref (X + 14), .ref (X + 1)]) q103 38 1 rfl (sx_gR q103 39 rfl fk_9_18 (fun _ _ => rfl) (hX.s 14 rfl) (hX.r 14 3 rfl) (sx_p (pc' := 76) (lv' := [.ref (X + 14), .ref t, .int v2, .int v3, .int (D.1 (X + 14) 6)]) (st' := [.int (D.1 (X + 14) 6), .ref (X + 17), .ref (X + 1)]) q103 40 1 rfl (sx_ia q103 41 rfl (hX.s 17 rfl) (hX.b 17) (sx_kv (sx_V q103 42 rfl lk_9_60 vk_29 na_29 rfl rfl rfl rfl (hX.s 1 rfl)) (by decide) rfl (fun D5 => (sx_rv q103 43 rfl rfl)))))))))))))))))))))))))))))) (sx_rv q103 8 rfl rfl))))))))
/-! MessageTree$Parts.findDelimiter -/
theorem q104 : sm_q 104 9 sm_i104 7 := ⟨rfl, rfl, rfl⟩
set_option maxRecDepth 8000 in
theorem n104_23 {C : sm_K} {X : Nat} {t : Nat} {v2 : Int32} {v4 : Int32} {v5 : Int32} {v6 : Int32} (hX : sm_Lay C X) (ht : sm_tree C t) {D : sm_D} : sm_ge (sm_fx C 104 23 [.ref (X + 14), .ref t, .int v2, sm_junk, .int v4, .int v5, .int v6, sm_junk, sm_junk, sm_junk] [] D) (
  if v5 ≤ v6 then
    sm_bv (sm_fe C 29 [.ref (X + 1), .int v5] D) (fun D1 =>
      some (.inl none, D1))
  else
    sm_fx C 104 34 [.ref (X + 14), .ref t, .int v2, sm_junk, .int v4, .int v5, .int v6, .int v6, sm_junk, sm_junk] [] D) := 
  (sx_p (pc' := 27) (lv' := [.ref (X + 14), .ref t, .int v2, sm_junk, .int v4, .int v5, .int v6, sm_junk, sm_junk, sm_junk]) (st' := [.int v5, .int v6]) q104 14 2 rfl (sx_icmp_ge q104 16 rfl rfl (sx_p (pc' := 172) (lv' := [.ref (X + 14), .ref t, .int v2, sm_junk, .int v4, .int v5, .int v6, sm_junk, sm_junk, sm_junk]) (st' := [.ref (X + 14)]) q104 89 1 rfl (sx_gR q104 90 rfl fk_9_28 (fun _ _ => rfl) (hX.s 14 rfl) (hX.r 14 0 rfl) (sx_p (pc' := 177) (lv' := [.ref (X + 14), .ref t, .int v2, sm_junk, .int v4, .int v5, .int v6, sm_junk, sm_junk, sm_junk]) (st' := [.int v5, .ref (X + 1)]) q104 91 1 rfl (sx_kv (sx_V q104 92 rfl lk_9_60 vk_29 na_29 rfl rfl rfl rfl (hX.s 1 rfl)) (by decide) rfl (fun D1 => (sx_rv q104 93 rfl rfl)))))) (sx_p (pc' := 34) (lv' := [.ref (X + 14), .ref t, .int v2, sm_junk, .int v4, .int v5, .int v6, .int v6, sm_junk, sm_junk]) (st' := []) q104 17 2 rfl (sm_ge.refl _))))
set_option maxRecDepth 8000 in
theorem n104_34 {C : sm_K} {X : Nat} {t : Nat} {v2 : Int32} {v4 : Int32} {v5 : Int32} {v6 : Int32} {v7 : Int32} (hX : sm_Lay C X) (ht : sm_tree C t) {D : sm_D} : sm_ge (sm_fx C 104 34 [.ref (X + 14), .ref t, .int v2, sm_junk, .int v4, .int v5, .int v6, .int v7, sm_junk, sm_junk] [] D) (
  if v5 ≤ v7 then
    sm_fx C 104 64 [.ref (X + 14), .ref t, .int v2, sm_junk, .int v4, .int v5, .int v6, .int v7, sm_junk, sm_junk] [] D
  else
    sm_bi (sm_fe C 42 [.ref (X + 2), .int v7] D) (fun x0 D1 =>
      if x0 = (ni 13) then
        sm_fx C 104 64 [.ref (X + 14), .ref t, .int v2, sm_junk, .int v4, .int v5, .int v6, .int v7, sm_junk, sm_junk] [] D1
      else
        sm_fx C 104 34 [.ref (X + 14), .ref t, .int v2, sm_junk, .int v4, .int v5, .int v6, .int (v7 + ni 1), sm_junk, sm_junk] [] D1)) := 
  (sx_p (pc' := 38) (lv' := [.ref (X + 14), .ref t, .int v2, sm_junk, .int v4, .int v5, .int v6, .int v7, sm_junk, sm_junk]) (st' := [.int v5, .int v7]) q104 19 2 rfl (sx_icmp_ge q104 21 rfl rfl (sm_ge.refl _) (sx_p (pc' := 42) (lv' := [.ref (X + 14), .ref t, .int v2, sm_junk, .int v4, .int v5, .int v6, .int v7, sm_junk, sm_junk]) (st' := [.ref (X + 14)]) q104 22 1 rfl (sx_gR q104 23 rfl fk_9_28 (fun _ _ => rfl) (hX.s 14 rfl) (hX.r 14 0 rfl) (sx_gR q104 24 rfl fk_9_42 (fun _ _ => rfl) (hX.s 1 rfl) (hX.r 1 0 rfl) (sx_p (pc' := 50) (lv' := [.ref (X + 14), .ref t, .int v2, sm_junk, .int v4, .int v5, .int v6, .int v7, sm_junk, sm_junk]) (st' := [.int v7, .ref (X + 2)]) q104 25 1 rfl (sx_ki (sx_V q104 26 rfl lk_9_79 vk_42 na_42 rfl rfl rfl rfl (hX.s 2 rfl)) (by decide) rfl (fun x0 D1 => (sx_p (pc' := 55) (lv' := [.ref (X + 14), .ref t, .int v2, sm_junk, .int v4, .int v5, .int v6, .int v7, sm_junk, sm_junk]) (st' := [.int (ni 13), .int x0]) q104 27 1 rfl (sx_icmp_eq q104 28 rfl rfl (sm_ge.refl _) (sx_p (pc' := 34) (lv' := [.ref (X + 14), .ref t, .int v2, sm_junk, .int v4, .int v5, .int v6, .int (v7 + ni 1), sm_junk, sm_junk]) (st' := []) q104 29 2 rfl (sm_ge.refl _))))))))))))
set_option maxRecDepth 8000 in
theorem n104_64 {C : sm_K} {X : Nat} {t : Nat} {v2 : Int32} {v4 : Int32} {v5 : Int32} {v6 : Int32} {v7 : Int32} (hX : sm_Lay C X) (ht : sm_tree C t) {D : sm_D} : sm_ge (sm_fx C 104 64 [.ref (X + 14), .ref t, .int v2, sm_junk, .int v4, .int v5, .int v6, .int v7, sm_junk, sm_junk] [] D) (
  sm_bi (sm_fe C 105 [.ref (X + 14), .ref t, .int v4, .int v6, .int v7] D) (fun x0 D1 =>
    if x0 = (sm_k (-1)) then
      sm_fx C 104 98 [.ref (X + 14), .ref t, .int v2, sm_junk, .int v4, .int v5, .int v6, .int v7, .int x0, sm_junk] [] D1
    else
      sm_bi (sm_fe C 106 [.ref (X + 14), .int x0, .int v7] D1) (fun x1 D2 =>
        if x1 = ni 0 then
          sm_fx C 104 98 [.ref (X + 14), .ref t, .int v2, sm_junk, .int v4, .int v5, .int v6, .int v7, .int x0, sm_junk] [] D2
        else
          sm_fx C 104 99 [.ref (X + 14), .ref t, .int v2, sm_junk, .int v4, .int v5, .int v6, .int v7, .int x0, sm_junk] [.int (ni 1)] D2))) := 
  (sx_p (pc' := 72) (lv' := [.ref (X + 14), .ref t, .int v2, sm_junk, .int v4, .int v5, .int v6, .int v7, sm_junk, sm_junk]) (st' := [.int v7, .int v6, .int v4, .ref t, .ref (X + 14)]) q104 31 5 rfl (sx_ki (sx_V q104 36 rfl lk_9_82 vk_105 na_105 rfl rfl rfl rfl (hX.s 14 rfl)) (by decide) rfl (fun x0 D1 => (sx_p (pc' := 80) (lv' := [.ref (X + 14), .ref t, .int v2, sm_junk, .int v4, .int v5, .int v6, .int v7, .int x0, sm_junk]) (st' := [.int (sm_k (-1)), .int x0]) q104 37 3 rfl (sx_icmp_eq q104 40 rfl rfl (sm_ge.refl _) (sx_p (pc' := 88) (lv' := [.ref (X + 14), .ref t, .int v2, sm_junk, .int v4, .int v5, .int v6, .int v7, .int x0, sm_junk]) (st' := [.int v7, .int x0, .ref (X + 14)]) q104 41 3 rfl (sx_ki (sx_V q104 44 rfl lk_9_86 vk_106 na_106 rfl rfl rfl rfl (hX.s 14 rfl)) (by decide) rfl (fun x1 D2 => (sx_if_eq q104 45 rfl rfl (sm_ge.refl _) (sx_p (pc' := 99) (lv' := [.ref (X + 14), .ref t, .int v2, sm_junk, .int v4, .int v5, .int v6, .int v7, .int x0, sm_junk]) (st' := [.int (ni 1)]) q104 46 2 rfl (sm_ge.refl _)))))))))))
set_option maxRecDepth 8000 in
theorem n104_98 {C : sm_K} {X : Nat} {t : Nat} {v2 : Int32} {v4 : Int32} {v5 : Int32} {v6 : Int32} {v7 : Int32} {v8 : Int32} (hX : sm_Lay C X) (ht : sm_tree C t) {D : sm_D} : sm_ge (sm_fx C 104 98 [.ref (X + 14), .ref t, .int v2, sm_junk, .int v4, .int v5, .int v6, .int v7, .int v8, sm_junk] [] D) (
  sm_fx C 104 99 [.ref (X + 14), .ref t, .int v2, sm_junk, .int v4, .int v5, .int v6, .int v7, .int v8, sm_junk] [.int (ni 0)] D) := 
  (sx_p (pc' := 99) (lv' := [.ref (X + 14), .ref t, .int v2, sm_junk, .int v4, .int v5, .int v6, .int v7, .int v8, sm_junk]) (st' := [.int (ni 0)]) q104 48 1 rfl (sm_ge.refl _))
set_option maxRecDepth 8000 in
theorem n104_99 {C : sm_K} {X : Nat} {t : Nat} {v2 : Int32} {v4 : Int32} {v5 : Int32} {v6 : Int32} {v7 : Int32} {v8 : Int32} {s0 : Int32} (hX : sm_Lay C X) (ht : sm_tree C t) {D : sm_D} : sm_ge (sm_fx C 104 99 [.ref (X + 14), .ref t, .int v2, sm_junk, .int v4, .int v5, .int v6, .int v7, .int v8, sm_junk] [.int s0] D) (
  if v8 = (sm_k (-1)) then
    sm_fx C 104 162 [.ref (X + 14), .ref t, .int v2, sm_junk, .int v4, .int v5, sm_junk, .int v7, sm_junk, sm_junk] [] D
  else
    if s0 = ni 0 then
      sm_fx C 104 122 [.ref (X + 14), .ref t, .int v2, sm_junk, .int v4, .int v5, .int v6, .int v7, sm_junk, .int s0] [.int v8, .ref (X + 14)] D
    else
      sm_fx C 104 122 [.ref (X + 14), .ref t, .int v2, sm_junk, .int v4, .int v5, .int v6, .int v7, sm_junk, .int s0] [.int (v8 + (ni 2)), .ref (X + 14)] D) := 
  (sx_p (pc' := 104) (lv' := [.ref (X + 14), .ref t, .int v2, sm_junk, .int v4, .int v5, .int v6, .int v7, .int v8, .int s0]) (st' := [.int (sm_k (-1)), .int v8]) q104 49 3 rfl (sx_icmp_eq q104 52 rfl rfl (sx_w (lv := [.ref (X + 14), .ref t, .int v2, sm_junk, .int v4, .int v5, .int v6, .int v7, .int v8, .int s0]) (lv' := [.ref (X + 14), .ref t, .int v2, sm_junk, .int v4, .int v5, sm_junk, .int v7, sm_junk, sm_junk]) (sm_ordl.ord ⟨Or.inr rfl, Or.inr rfl, Or.inr rfl, Or.inl rfl, Or.inr rfl, Or.inr rfl, Or.inl rfl, Or.inr rfl, Or.inl rfl, Or.inl rfl, trivial⟩)) (sx_p (pc' := 110) (lv' := [.ref (X + 14), .ref t, .int v2, sm_junk, .int v4, .int v5, .int v6, .int v7, .int v8, .int s0]) (st' := [.int s0, .ref (X + 14)]) q104 53 2 rfl (sx_if_eq q104 55 rfl rfl (sx_p (pc' := 122) (lv' := [.ref (X + 14), .ref t, .int v2, sm_junk, .int v4, .int v5, .int v6, .int v7, .int v8, .int s0]) (st' := [.int v8, .ref (X + 14)]) q104 60 1 rfl (sx_w (lv := [.ref (X + 14), .ref t, .int v2, sm_junk, .int v4, .int v5, .int v6, .int v7, .int v8, .int s0]) (lv' := [.ref (X + 14), .ref t, .int v2, sm_junk, .int v4, .int v5, .int v6, .int v7, sm_junk, .int s0]) (sm_ordl.ord ⟨Or.inr rfl, Or.inr rfl, Or.inr rfl, Or.inl rfl, Or.inr rfl, Or.inr rfl, Or.inr rfl, Or.inr rfl, Or.inl rfl, Or.inr rfl, trivial⟩))) (sx_p (pc' := 122) (lv' := [.ref (X + 14), .ref t, .int v2, sm_junk, .int v4, .int v5, .int v6, .int v7, .int v8, .int s0]) (st' := [.int (v8 + (ni 2)), .ref (X + 14)]) q104 56 4 rfl (sx_w (lv := [.ref (X + 14), .ref t, .int v2, sm_junk, .int v4, .int v5, .int v6, .int v7, .int v8, .int s0]) (lv' := [.ref (X + 14), .ref t, .int v2, sm_junk, .int v4, .int v5, .int v6, .int v7, sm_junk, .int s0]) (sm_ordl.ord ⟨Or.inr rfl, Or.inr rfl, Or.inr rfl, Or.inl rfl, Or.inr rfl, Or.inr rfl, Or.inr rfl, Or.inr rfl, Or.inl rfl, Or.inr rfl, trivial⟩)))))))
set_option maxRecDepth 8000 in
theorem n104_122 {C : sm_K} {X : Nat} {t : Nat} {v2 : Int32} {v4 : Int32} {v5 : Int32} {v6 : Int32} {v7 : Int32} {v9 : Int32} {s1 : Int32} (hX : sm_Lay C X) (ht : sm_tree C t) {D : sm_D} : sm_ge (sm_fx C 104 122 [.ref (X + 14), .ref t, .int v2, sm_junk, .int v4, .int v5, .int v6, .int v7, sm_junk, .int v9] [.int s1, .ref (X + 14)] D) (
  sm_bi (sm_fe C 107 [.ref (X + 14), .int s1, .int v7] D) (fun x0 D1 =>
    if x0 = ni 0 then
      sm_fx C 104 162 [.ref (X + 14), .ref t, .int v2, sm_junk, .int v4, .int v5, sm_junk, .int v7, sm_junk, sm_junk] [] D1
    else
      sm_gu (sm_in_b v2 6) (
      let D2 := sm_dI D1 (X + 17) (v2.toNatClampNeg) v6
      sm_bi (sm_fe C 284 [.int (v7 + (ni 2)), .int v5] D2) (fun x1 D3 =>
        sm_gu (sm_in_b v2 6) (
        let D4 := sm_dI D3 (X + 18) (v2.toNatClampNeg) x1
        sm_gu (sm_in_b v2 6) (
        let D5 := sm_dI D4 (X + 19) (v2.toNatClampNeg) (sm_nar .boolean v9)
        some (.inl none, D5))))))) := 
  (sx_p (pc' := 124) (lv' := [.ref (X + 14), .ref t, .int v2, sm_junk, .int v4, .int v5, .int v6, .int v7, sm_junk, .int v9]) (st' := [.int v7, .int s1, .ref (X + 14)]) q104 61 1 rfl (sx_ki (sx_V q104 62 rfl lk_9_90 vk_107 na_107 rfl rfl rfl rfl (hX.s 14 rfl)) (by decide) rfl (fun x0 D1 => (sx_if_eq q104 63 rfl rfl (sx_w (lv := [.ref (X + 14), .ref t, .int v2, sm_junk, .int v4, .int v5, .int v6, .int v7, sm_junk, .int v9]) (lv' := [.ref (X + 14), .ref t, .int v2, sm_junk, .int v4, .int v5, sm_junk, .int v7, sm_junk, sm_junk]) (sm_ordl.ord ⟨Or.inr rfl, Or.inr rfl, Or.inr rfl, Or.inl rfl, Or.inr rfl, Or.inr rfl, Or.inl rfl, Or.inr rfl, Or.inl rfl, Or.inl rfl, trivial⟩)) (sx_p (pc' := 131) (lv' := [.ref (X + 14), .ref t, .int v2, sm_junk, .int v4, .int v5, .int v6, .int v7, sm_junk, .int v9]) (st' := [.ref (X + 14)]) q104 64 1 rfl (sx_gR q104 65 rfl fk_9_18 (fun _ _ => rfl) (hX.s 14 rfl) (hX.r 14 3 rfl) (sx_p (pc' := 137) (lv' := [.ref (X + 14), .ref t, .int v2, sm_junk, .int v4, .int v5, .int v6, .int v7, sm_junk, .int v9]) (st' := [.int v6, .int v2, .ref (X + 17)]) q104 66 2 rfl (sx_is q104 68 rfl (hX.s 17 rfl) (hX.b 17) (sx_p (pc' := 139) (lv' := [.ref (X + 14), .ref t, .int v2, sm_junk, .int v4, .int v5, .int v6, .int v7, sm_junk, .int v9]) (st' := [.ref (X + 14)]) q104 69 1 rfl (sx_gR q104 70 rfl fk_9_21 (fun _ _ => rfl) (hX.s 14 rfl) (hX.r 14 4 rfl) (sx_p (pc' := 149) (lv' := [.ref (X + 14), .ref t, .int v2, sm_junk, .int v4, .int v5, .int v6, .int v7, sm_junk, .int v9]) (st' := [.int v5, .int (v7 + (ni 2)), .int v2, .ref (X + 18)]) q104 71 5 rfl (sx_ki (sx_S q104 76 rfl lk_9_93 rfl na_284 rfl rfl rfl rfl) (by decide) rfl (fun x1 D3 => (sx_is q104 77 rfl (hX.s 18 rfl) (hX.b 18) (sx_p (pc' := 154) (lv' := [.ref (X + 14), .ref t, .int v2, sm_junk, .int v4, .int v5, .int v6, .int v7, sm_junk, .int v9]) (st' := [.ref (X + 14)]) q104 78 1 rfl (sx_gR q104 79 rfl fk_9_24 (fun _ _ => rfl) (hX.s 14 rfl) (hX.r 14 5 rfl) (sx_p (pc' := 160) (lv' := [.ref (X + 14), .ref t, .int v2, sm_junk, .int v4, .int v5, .int v6, .int v7, sm_junk, .int v9]) (st' := [.int v9, .int v2, .ref (X + 19)]) q104 80 2 rfl (sx_bs q104 82 rfl (hX.s 19 rfl) (by simp) (hX.b 19) (sx_rv q104 83 rfl rfl)))))))))))))))))))
set_option maxRecDepth 8000 in
theorem n104_162 {C : sm_K} {X : Nat} {t : Nat} {v2 : Int32} {v4 : Int32} {v5 : Int32} {v7 : Int32} (hX : sm_Lay C X) (ht : sm_tree C t) {D : sm_D} : sm_ge (sm_fx C 104 162 [.ref (X + 14), .ref t, .int v2, sm_junk, .int v4, .int v5, sm_junk, .int v7, sm_junk, sm_junk] [] D) (
  sm_fx C 104 23 [.ref (X + 14), .ref t, .int v2, sm_junk, .int v4, .int v5, .int (v7 + (ni 2)), sm_junk, sm_junk, sm_junk] [] D) := 
  (sx_p (pc' := 23) (lv' := [.ref (X + 14), .ref t, .int v2, sm_junk, .int v4, .int v5, .int (v7 + (ni 2)), .int v7, sm_junk, sm_junk]) (st' := []) q104 84 5 rfl (sx_w (lv := [.ref (X + 14), .ref t, .int v2, sm_junk, .int v4, .int v5, .int (v7 + (ni 2)), .int v7, sm_junk, sm_junk]) (lv' := [.ref (X + 14), .ref t, .int v2, sm_junk, .int v4, .int v5, .int (v7 + (ni 2)), sm_junk, sm_junk, sm_junk]) (sm_ordl.ord ⟨Or.inr rfl, Or.inr rfl, Or.inr rfl, Or.inl rfl, Or.inr rfl, Or.inr rfl, Or.inr rfl, Or.inl rfl, Or.inl rfl, Or.inl rfl, trivial⟩)))
set_option maxRecDepth 8000 in
theorem f104 {C : sm_K} {X : Nat} {t : Nat} {v2 : Int32} {v3 : Int32} (hX : sm_Lay C X) (ht : sm_tree C t) {D : sm_D} : sm_ge (sm_fe C 104 [.ref (X + 14), .ref t, .int v2, .int v3] D) (
  sm_gu (sm_in_b v2 6) (
  sm_bi (sm_fe C 142 [.ref t, .int (D.1 (X + 15) v2.toNatClampNeg)] D) (fun x0 D1 =>
    sm_gu (sm_in_b v2 6) (
    sm_fx C 104 23 [.ref (X + 14), .ref t, .int v2, sm_junk, .int x0, .int (D1.1 (X + 16) v2.toNatClampNeg), .int v3, sm_junk, sm_junk, sm_junk] [] D1)))) := by
  rw [sx_fe (m := 10) rfl rfl]
  exact (show sm_ge (sm_fx C 104 0 [.ref (X + 14), .ref t, .int v2, .int v3, sm_junk, sm_junk, sm_junk, sm_junk, sm_junk, sm_junk] [] D) _ from (sx_p (pc' := 2) (lv' := [.ref (X + 14), .ref t, .int v2, .int v3, sm_junk, sm_junk, sm_junk, sm_junk, sm_junk, sm_junk]) (st' := [.ref (X + 14), .ref t]) q104 0 2 rfl (sx_gR q104 2 rfl fk_9_9 (fun _ _ => rfl) (hX.s 14 rfl) (hX.r 14 1 rfl) (sx_p (pc' := 6) (lv' := [.ref (X + 14), .ref t, .int v2, .int v3, sm_junk, sm_junk, sm_junk, sm_junk, sm_junk, sm_junk]) (st' := [.int v2, .ref (X + 15), .ref t]) q104 3 1 rfl (sx_ia q104 4 rfl (hX.s 15 rfl) (hX.b 15) (sx_ki (sx_V q104 5 rfl lk_9_75 vk_142 na_142 rfl rfl rfl rfl (ht.s 0 rfl)) (by decide) rfl (fun x0 D1 => (sx_p (pc' := 13) (lv' := [.ref (X + 14), .ref t, .int v2, .int v3, .int x0, sm_junk, sm_junk, sm_junk, sm_junk, sm_junk]) (st' := [.ref (X + 14)]) q104 6 2 rfl (sx_gR q104 8 rfl fk_9_15 (fun _ _ => rfl) (hX.s 14 rfl) (hX.r 14 2 rfl) (sx_p (pc' := 17) (lv' := [.ref (X + 14), .ref t, .int v2, .int v3, .int x0, sm_junk, sm_junk, sm_junk, sm_junk, sm_junk]) (st' := [.int v2, .ref (X + 16)]) q104 9 1 rfl (sx_ia q104 10 rfl (hX.s 16 rfl) (hX.b 16) (sx_p (pc' := 23) (lv' := [.ref (X + 14), .ref t, .int v2, .int v3, .int x0, .int (D1.1 (X + 16) v2.toNatClampNeg), .int v3, sm_junk, sm_junk, sm_junk]) (st' := []) q104 11 3 rfl (sx_w (lv := [.ref (X + 14), .ref t, .int v2, .int v3, .int x0, .int (D1.1 (X + 16) v2.toNatClampNeg), .int v3, sm_junk, sm_junk, sm_junk]) (lv' := [.ref (X + 14), .ref t, .int v2, sm_junk, .int x0, .int (D1.1 (X + 16) v2.toNatClampNeg), .int v3, sm_junk, sm_junk, sm_junk]) (sm_ordl.ord ⟨Or.inr rfl, Or.inr rfl, Or.inr rfl, Or.inl rfl, Or.inr rfl, Or.inr rfl, Or.inr rfl, Or.inl rfl, Or.inl rfl, Or.inl rfl, trivial⟩))))))))))))))
/-! MessageTree$Parts.behindBoundary -/
theorem q105 : sm_q 105 9 sm_i105 2 := ⟨rfl, rfl, rfl⟩
set_option maxRecDepth 8000 in
theorem n105_33 {C : sm_K} {X : Nat} {t : Nat} {v2 : Int32} {v3 : Int32} {v5 : Int32} {v6 : Int32} (hX : sm_Lay C X) (ht : sm_tree C t) {D : sm_D} : sm_ge (sm_fx C 105 33 [.ref (X + 14), .ref t, .int v2, .int v3, sm_junk, .int v5, .int v6] [] D) (
  if v5 ≤ v6 then
    some (.inl (some (.int ((v3 + (ni 2)) + v5))), D)
  else
    sm_bi (sm_fe C 42 [.ref (X + 2), .int ((v3 + (ni 2)) + v6)] D) (fun x0 D1 =>
      sm_bi (sm_fe C 139 [.ref t, .int v2, .int v6] D1) (fun x1 D2 =>
        if x0 = x1 then
          sm_fx C 105 33 [.ref (X + 14), .ref t, .int v2, .int v3, sm_junk, .int v5, .int (v6 + ni 1)] [] D2
        else
          some (.inl (some (.int (sm_k (-1)))), D2)))) := 
  (sx_p (pc' := 37) (lv' := [.ref (X + 14), .ref t, .int v2, .int v3, sm_junk, .int v5, .int v6]) (st' := [.int v5, .int v6]) q105 20 2 rfl (sx_icmp_ge q105 22 rfl rfl (sx_p (pc' := 80) (lv' := [.ref (X + 14), .ref t, .int v2, .int v3, sm_junk, .int v5, .int v6]) (st' := [.int ((v3 + (ni 2)) + v5)]) q105 41 5 rfl (sx_ri (ty := .int) q105 46 rfl rfl)) (sx_p (pc' := 41) (lv' := [.ref (X + 14), .ref t, .int v2, .int v3, sm_junk, .int v5, .int v6]) (st' := [.ref (X + 14)]) q105 23 1 rfl (sx_gR q105 24 rfl fk_9_28 (fun _ _ => rfl) (hX.s 14 rfl) (hX.r 14 0 rfl) (sx_gR q105 25 rfl fk_9_42 (fun _ _ => rfl) (hX.s 1 rfl) (hX.r 1 0 rfl) (sx_p (pc' := 53) (lv' := [.ref (X + 14), .ref t, .int v2, .int v3, sm_junk, .int v5, .int v6]) (st' := [.int ((v3 + (ni 2)) + v6), .ref (X + 2)]) q105 26 5 rfl (sx_ki (sx_V q105 31 rfl lk_9_79 vk_42 na_42 rfl rfl rfl rfl (hX.s 2 rfl)) (by decide) rfl (fun x0 D1 => (sx_p (pc' := 60) (lv' := [.ref (X + 14), .ref t, .int v2, .int v3, sm_junk, .int v5, .int v6]) (st' := [.int v6, .int v2, .ref t, .int x0]) q105 32 3 rfl (sx_ki (sx_V q105 35 rfl lk_9_99 vk_139 na_139 rfl rfl rfl rfl (ht.s 0 rfl)) (by decide) rfl (fun x1 D2 => (sx_icmp_eq q105 36 rfl rfl (sx_p (pc' := 33) (lv' := [.ref (X + 14), .ref t, .int v2, .int v3, sm_junk, .int v5, .int (v6 + ni 1)]) (st' := []) q105 39 2 rfl (sm_ge.refl _)) (sx_p (pc' := 67) (lv' := [.ref (X + 14), .ref t, .int v2, .int v3, sm_junk, .int v5, .int v6]) (st' := [.int (sm_k (-1))]) q105 37 1 rfl (sx_ri (ty := .int) q105 38 rfl rfl))))))))))))))
set_option maxRecDepth 8000 in
theorem f105 {C : sm_K} {X : Nat} {t : Nat} {v2 : Int32} {v3 : Int32} {v4 : Int32} (hX : sm_Lay C X) (ht : sm_tree C t) {D : sm_D} : sm_ge (sm_fe C 105 [.ref (X + 14), .ref t, .int v2, .int v3, .int v4] D) (
  sm_bi (sm_fe C 138 [.ref t, .int v2] D) (fun x0 D1 =>
    if v4 < ((v3 + (ni 2)) + x0) then
      some (.inl (some (.int (sm_k (-1)))), D1)
    else
      sm_bi (sm_fe C 106 [.ref (X + 14), .int v3, .int v4] D1) (fun x1 D2 =>
        if x1 = ni 0 then
          some (.inl (some (.int (sm_k (-1)))), D2)
        else
          sm_fx C 105 33 [.ref (X + 14), .ref t, .int v2, .int v3, sm_junk, .int x0, .int (ni 0)] [] D2))) := by
  rw [sx_fe (m := 7) rfl rfl]
  exact (show sm_ge (sm_fx C 105 0 [.ref (X + 14), .ref t, .int v2, .int v3, .int v4, sm_junk, sm_junk] [] D) _ from (sx_p (pc' := 2) (lv' := [.ref (X + 14), .ref t, .int v2, .int v3, .int v4, sm_junk, sm_junk]) (st' := [.int v2, .ref t]) q105 0 2 rfl (sx_ki (sx_V q105 2 rfl lk_9_96 vk_138 na_138 rfl rfl rfl rfl (ht.s 0 rfl)) (by decide) rfl (fun x0 D1 => (sx_p (pc' := 15) (lv' := [.ref (X + 14), .ref t, .int v2, .int v3, .int v4, .int x0, sm_junk]) (st' := [.int v4, .int ((v3 + (ni 2)) + x0)]) q105 3 7 rfl (sx_icmp_gt q105 10 rfl rfl (sx_p (pc' := 29) (lv' := [.ref (X + 14), .ref t, .int v2, .int v3, .int v4, .int x0, sm_junk]) (st' := [.int (sm_k (-1))]) q105 16 1 rfl (sx_ri (ty := .int) q105 17 rfl rfl)) (sx_p (pc' := 22) (lv' := [.ref (X + 14), .ref t, .int v2, .int v3, .int v4, .int x0, sm_junk]) (st' := [.int v4, .int v3, .ref (X + 14)]) q105 11 3 rfl (sx_ki (sx_V q105 14 rfl lk_9_86 vk_106 na_106 rfl rfl rfl rfl (hX.s 14 rfl)) (by decide) rfl (fun x1 D2 => (sx_if_ne q105 15 rfl rfl (sx_p (pc' := 33) (lv' := [.ref (X + 14), .ref t, .int v2, .int v3, .int v4, .int x0, .int (ni 0)]) (st' := []) q105 18 2 rfl (sx_w (lv := [.ref (X + 14), .ref t, .int v2, .int v3, .int v4, .int x0, .int (ni 0)]) (lv' := [.ref (X + 14), .ref t, .int v2, .int v3, sm_junk, .int x0, .int (ni 0)]) (sm_ordl.ord ⟨Or.inr rfl, Or.inr rfl, Or.inr rfl, Or.inr rfl, Or.inl rfl, Or.inr rfl, Or.inr rfl, trivial⟩))) (sx_p (pc' := 29) (lv' := [.ref (X + 14), .ref t, .int v2, .int v3, .int v4, .int x0, sm_junk]) (st' := [.int (sm_k (-1))]) q105 16 1 rfl (sx_ri (ty := .int) q105 17 rfl rfl))))))))))))
/-! MessageTree$Parts.startsWithDashes -/
theorem q106 : sm_q 106 9 sm_i106 1 := ⟨rfl, rfl, rfl⟩
set_option maxRecDepth 8000 in
theorem f106 {C : sm_K} {X : Nat} {v1 : Int32} {v2 : Int32} (hX : sm_Lay C X) {D : sm_D} : sm_ge (sm_fe C 106 [.ref (X + 14), .int v1, .int v2] D) (
  if v2 < (v1 + (ni 2)) then
    some (.inl (some (.int (sm_nar .boolean (ni 0)))), D)
  else
    sm_bi (sm_fe C 42 [.ref (X + 2), .int v1] D) (fun x0 D1 =>
      if x0 = (ni 45) then
        sm_bi (sm_fe C 42 [.ref (X + 2), .int (v1 + (ni 1))] D1) (fun x1 D2 =>
          if x1 = (ni 45) then
            some (.inl (some (.int (sm_nar .boolean (ni 1)))), D2)
          else
            some (.inl (some (.int (sm_nar .boolean (ni 0)))), D2))
      else
        some (.inl (some (.int (sm_nar .boolean (ni 0)))), D1))) := by
  rw [sx_fe (m := 3) rfl rfl]
  exact (show sm_ge (sm_fx C 106 0 [.ref (X + 14), .int v1, .int v2] [] D) _ from (sx_p (pc' := 4) (lv' := [.ref (X + 14), .int v1, .int v2]) (st' := [.int v2, .int (v1 + (ni 2))]) q106 0 4 rfl (sx_icmp_gt q106 4 rfl rfl (sx_p (pc' := 46) (lv' := [.ref (X + 14), .int v1, .int v2]) (st' := [.int (ni 0)]) q106 23 1 rfl (sx_ri (ty := .boolean) q106 24 rfl rfl)) (sx_p (pc' := 8) (lv' := [.ref (X + 14), .int v1, .int v2]) (st' := [.ref (X + 14)]) q106 5 1 rfl (sx_gR q106 6 rfl fk_9_28 (fun _ _ => rfl) (hX.s 14 rfl) (hX.r 14 0 rfl) (sx_gR q106 7 rfl fk_9_42 (fun _ _ => rfl) (hX.s 1 rfl) (hX.r 1 0 rfl) (sx_p (pc' := 15) (lv' := [.ref (X + 14), .int v1, .int v2]) (st' := [.int v1, .ref (X + 2)]) q106 8 1 rfl (sx_ki (sx_V q106 9 rfl lk_9_79 vk_42 na_42 rfl rfl rfl rfl (hX.s 2 rfl)) (by decide) rfl (fun x0 D1 => (sx_p (pc' := 20) (lv' := [.ref (X + 14), .int v1, .int v2]) (st' := [.int (ni 45), .int x0]) q106 10 1 rfl (sx_icmp_ne q106 11 rfl rfl (sx_p (pc' := 46) (lv' := [.ref (X + 14), .int v1, .int v2]) (st' := [.int (ni 0)]) q106 23 1 rfl (sx_ri (ty := .boolean) q106 24 rfl rfl)) (sx_p (pc' := 24) (lv' := [.ref (X + 14), .int v1, .int v2]) (st' := [.ref (X + 14)]) q106 12 1 rfl (sx_gR q106 13 rfl fk_9_28 (fun _ _ => rfl) (hX.s 14 rfl) (hX.r 14 0 rfl) (sx_gR q106 14 rfl fk_9_42 (fun _ _ => rfl) (hX.s 1 rfl) (hX.r 1 0 rfl) (sx_p (pc' := 33) (lv' := [.ref (X + 14), .int v1, .int v2]) (st' := [.int (v1 + (ni 1)), .ref (X + 2)]) q106 15 3 rfl (sx_ki (sx_V q106 18 rfl lk_9_79 vk_42 na_42 rfl rfl rfl rfl (hX.s 2 rfl)) (by decide) rfl (fun x1 D2 => (sx_p (pc' := 38) (lv' := [.ref (X + 14), .int v1, .int v2]) (st' := [.int (ni 45), .int x1]) q106 19 1 rfl (sx_icmp_ne q106 20 rfl rfl (sx_p (pc' := 46) (lv' := [.ref (X + 14), .int v1, .int v2]) (st' := [.int (ni 0)]) q106 23 1 rfl (sx_ri (ty := .boolean) q106 24 rfl rfl)) (sx_p (pc' := 46) (lv' := [.ref (X + 14), .int v1, .int v2]) (st' := [.int (ni 1)]) q106 21 2 rfl (sx_ri (ty := .boolean) q106 24 rfl rfl)))))))))))))))))))))
/-! MessageTree$Parts.hasJustBlanks -/
theorem q107 : sm_q 107 9 sm_i107 1 := ⟨rfl, rfl, rfl⟩
set_option maxRecDepth 8000 in
theorem n107_2 {C : sm_K} {X : Nat} {v2 : Int32} {v3 : Int32} (hX : sm_Lay C X) {D : sm_D} : sm_ge (sm_fx C 107 2 [.ref (X + 14), sm_junk, .int v2, .int v3] [] D) (
  if v2 ≤ v3 then
    some (.inl (some (.int (sm_nar .boolean (ni 1)))), D)
  else
    sm_bi (sm_fe C 42 [.ref (X + 2), .int v3] D) (fun x0 D1 =>
      sm_bi (sm_fe C 3 [.int x0] D1) (fun x1 D2 =>
        if x1 = ni 0 then
          some (.inl (some (.int (sm_nar .boolean (ni 0)))), D2)
        else
          sm_fx C 107 2 [.ref (X + 14), sm_junk, .int v2, .int (v3 + ni 1)] [] D2))) := 
  (sx_p (pc' := 4) (lv' := [.ref (X + 14), sm_junk, .int v2, .int v3]) (st' := [.int v2, .int v3]) q107 2 2 rfl (sx_icmp_ge q107 4 rfl rfl (sx_p (pc' := 33) (lv' := [.ref (X + 14), sm_junk, .int v2, .int v3]) (st' := [.int (ni 1)]) q107 16 1 rfl (sx_ri (ty := .boolean) q107 17 rfl rfl)) (sx_p (pc' := 8) (lv' := [.ref (X + 14), sm_junk, .int v2, .int v3]) (st' := [.ref (X + 14)]) q107 5 1 rfl (sx_gR q107 6 rfl fk_9_28 (fun _ _ => rfl) (hX.s 14 rfl) (hX.r 14 0 rfl) (sx_gR q107 7 rfl fk_9_42 (fun _ _ => rfl) (hX.s 1 rfl) (hX.r 1 0 rfl) (sx_p (pc' := 15) (lv' := [.ref (X + 14), sm_junk, .int v2, .int v3]) (st' := [.int v3, .ref (X + 2)]) q107 8 1 rfl (sx_ki (sx_V q107 9 rfl lk_9_79 vk_42 na_42 rfl rfl rfl rfl (hX.s 2 rfl)) (by decide) rfl (fun x0 D1 => (sx_ki (sx_S q107 10 rfl lk_9_102 rfl na_3 rfl rfl rfl rfl) (by decide) rfl (fun x1 D2 => (sx_if_ne q107 11 rfl rfl (sx_p (pc' := 2) (lv' := [.ref (X + 14), sm_junk, .int v2, .int (v3 + ni 1)]) (st' := []) q107 14 2 rfl (sm_ge.refl _)) (sx_p (pc' := 25) (lv' := [.ref (X + 14), sm_junk, .int v2, .int v3]) (st' := [.int (ni 0)]) q107 12 1 rfl (sx_ri (ty := .boolean) q107 13 rfl rfl)))))))))))))
set_option maxRecDepth 8000 in
theorem f107 {C : sm_K} {X : Nat} {v1 : Int32} {v2 : Int32} (hX : sm_Lay C X) {D : sm_D} : sm_ge (sm_fe C 107 [.ref (X + 14), .int v1, .int v2] D) (
  sm_fx C 107 2 [.ref (X + 14), sm_junk, .int v2, .int v1] [] D) := by
  rw [sx_fe (m := 4) rfl rfl]
  exact (show sm_ge (sm_fx C 107 0 [.ref (X + 14), .int v1, .int v2, sm_junk] [] D) _ from (sx_p (pc' := 2) (lv' := [.ref (X + 14), .int v1, .int v2, .int v1]) (st' := []) q107 0 2 rfl (sx_w (lv := [.ref (X + 14), .int v1, .int v2, .int v1]) (lv' := [.ref (X + 14), sm_junk, .int v2, .int v1]) (sm_ordl.ord ⟨Or.inr rfl, Or.inl rfl, Or.inr rfl, Or.inr rfl, trivial⟩))))
/-! MessageTree$Parts.goToNext -/
theorem q108 : sm_q 108 9 sm_i108 8 := ⟨rfl, rfl, rfl⟩
set_option maxRecDepth 8000 in
theorem n108_0 {C : sm_K} {X : Nat} {t : Nat} (hX : sm_Lay C X) (ht : sm_tree C t) {D : sm_D} : sm_ge (sm_fx C 108 0 [.ref (X + 14), .ref t, sm_junk] [] D) (
  if (D.1 (X + 14) 6) ≤ ni 0 then
    sm_fx C 108 43 [.ref (X + 14), .ref t, sm_junk] [] D
  else
    if (ni 6) < (D.1 (X + 14) 6) then
      sm_fx C 108 43 [.ref (X + 14), .ref t, sm_junk] [] D
    else
      sm_gu (sm_in_b ((D.1 (X + 14) 6) - (ni 1)) 6) (
      if (D.1 (X + 19) ((D.1 (X + 14) 6) - (ni 1)).toNatClampNeg) = ni 0 then
        sm_fx C 108 43 [.ref (X + 14), .ref t, sm_junk] [] D
      else
        let D1 := sm_dI D (X + 14) 6 ((D.1 (X + 14) 6) - (ni 1))
        sm_fx C 108 0 [.ref (X + 14), .ref t, sm_junk] [] D1)) := 
  (sx_p (pc' := 1) (lv' := [.ref (X + 14), .ref t, sm_junk]) (st' := [.ref (X + 14)]) q108 0 1 rfl (sx_gI q108 1 rfl fk_9_32 rfl (hX.s 14 rfl) (hX.b 14) (sx_if_le q108 2 rfl rfl (sm_ge.refl _) (sx_p (pc' := 8) (lv' := [.ref (X + 14), .ref t, sm_junk]) (st' := [.ref (X + 14)]) q108 3 1 rfl (sx_gI q108 4 rfl fk_9_32 rfl (hX.s 14 rfl) (hX.b 14) (sx_p (pc' := 13) (lv' := [.ref (X + 14), .ref t, sm_junk]) (st' := [.int (ni 6), .int (D.1 (X + 14) 6)]) q108 5 1 rfl (sx_icmp_gt q108 6 rfl rfl (sm_ge.refl _) (sx_p (pc' := 17) (lv' := [.ref (X + 14), .ref t, sm_junk]) (st' := [.ref (X + 14)]) q108 7 1 rfl (sx_gR q108 8 rfl fk_9_24 (fun _ _ => rfl) (hX.s 14 rfl) (hX.r 14 5 rfl) (sx_p (pc' := 21) (lv' := [.ref (X + 14), .ref t, sm_junk]) (st' := [.ref (X + 14), .ref (X + 19)]) q108 9 1 rfl (sx_gI q108 10 rfl fk_9_32 rfl (hX.s 14 rfl) (hX.b 14) (sx_p (pc' := 26) (lv' := [.ref (X + 14), .ref t, sm_junk]) (st' := [.int ((D.1 (X + 14) 6) - (ni 1)), .ref (X + 19)]) q108 11 2 rfl (sx_ba q108 13 rfl (hX.s 19 rfl) (by simp) (hX.b 19) (sx_if_eq q108 14 rfl rfl (sm_ge.refl _) (sx_p (pc' := 32) (lv' := [.ref (X + 14), .ref t, sm_junk]) (st' := [.ref (X + 14), .ref (X + 14)]) q108 15 2 rfl (sx_gI q108 17 rfl fk_9_32 rfl (hX.s 14 rfl) (hX.b 14) (sx_p (pc' := 37) (lv' := [.ref (X + 14), .ref t, sm_junk]) (st' := [.int ((D.1 (X + 14) 6) - (ni 1)), .ref (X + 14)]) q108 18 2 rfl (sx_pI q108 20 rfl pk_9_32 rfl (hX.s 14 rfl) (hX.b 14) (sx_p (pc' := 0) (lv' := [.ref (X + 14), .ref t, sm_junk]) (st' := []) q108 21 1 rfl (sm_ge.refl _))))))))))))))))))))
set_option maxRecDepth 8000 in
theorem n108_43 {C : sm_K} {X : Nat} {t : Nat} (hX : sm_Lay C X) (ht : sm_tree C t) {D : sm_D} : sm_ge (sm_fx C 108 43 [.ref (X + 14), .ref t, sm_junk] [] D) (
  if ((D.1 (X + 14) 6) - (ni 1)) < ni 0 then
    some (.inl (some (.int (sm_nar .boolean (ni 0)))), D)
  else
    if ((D.1 (X + 14) 6) - (ni 1)) < (ni 6) then
      if (D.1 t 11) < (ni 40) then
        sm_fx C 108 84 [.ref (X + 14), .ref t, .int ((D.1 (X + 14) 6) - (ni 1))] [] D
      else
        sm_gu (sm_in_b ((D.1 (X + 14) 6) - (ni 1)) 6) (
        sm_bv (sm_fe C 29 [.ref (X + 1), .int (D.1 (X + 17) ((D.1 (X + 14) 6) - (ni 1)).toNatClampNeg)] D) (fun D1 =>
          sm_fx C 108 84 [.ref (X + 14), .ref t, .int ((D.1 (X + 14) 6) - (ni 1))] [] D1))
    else
      some (.inl (some (.int (sm_nar .boolean (ni 0)))), D)) := 
  (sx_p (pc' := 44) (lv' := [.ref (X + 14), .ref t, sm_junk]) (st' := [.ref (X + 14)]) q108 22 1 rfl (sx_gI q108 23 rfl fk_9_32 rfl (hX.s 14 rfl) (hX.b 14) (sx_p (pc' := 51) (lv' := [.ref (X + 14), .ref t, .int ((D.1 (X + 14) 6) - (ni 1))]) (st' := [.int ((D.1 (X + 14) 6) - (ni 1))]) q108 24 4 rfl (sx_if_lt q108 28 rfl rfl (sx_p (pc' := 61) (lv' := [.ref (X + 14), .ref t, .int ((D.1 (X + 14) 6) - (ni 1))]) (st' := [.int (ni 0)]) q108 32 1 rfl (sx_ri (ty := .boolean) q108 33 rfl rfl)) (sx_p (pc' := 57) (lv' := [.ref (X + 14), .ref t, .int ((D.1 (X + 14) 6) - (ni 1))]) (st' := [.int (ni 6), .int ((D.1 (X + 14) 6) - (ni 1))]) q108 29 2 rfl (sx_icmp_lt q108 31 rfl rfl (sx_p (pc' := 63) (lv' := [.ref (X + 14), .ref t, .int ((D.1 (X + 14) 6) - (ni 1))]) (st' := [.ref t]) q108 34 1 rfl (sx_gI q108 35 rfl fk_9_64 rfl (ht.s 0 rfl) (ht.b 0) (sx_p (pc' := 68) (lv' := [.ref (X + 14), .ref t, .int ((D.1 (X + 14) 6) - (ni 1))]) (st' := [.int (ni 40), .int (D.1 t 11)]) q108 36 1 rfl (sx_icmp_lt q108 37 rfl rfl (sm_ge.refl _) (sx_p (pc' := 72) (lv' := [.ref (X + 14), .ref t, .int ((D.1 (X + 14) 6) - (ni 1))]) (st' := [.ref (X + 14)]) q108 38 1 rfl (sx_gR q108 39 rfl fk_9_28 (fun _ _ => rfl) (hX.s 14 rfl) (hX.r 14 0 rfl) (sx_p (pc' := 76) (lv' := [.ref (X + 14), .ref t, .int ((D.1 (X + 14) 6) - (ni 1))]) (st' := [.ref (X + 14), .ref (X + 1)]) q108 40 1 rfl (sx_gR q108 41 rfl fk_9_18 (fun _ _ => rfl) (hX.s 14 rfl) (hX.r 14 3 rfl) (sx_p (pc' := 80) (lv' := [.ref (X + 14), .ref t, .int ((D.1 (X + 14) 6) - (ni 1))]) (st' := [.int ((D.1 (X + 14) 6) - (ni 1)), .ref (X + 17), .ref (X + 1)]) q108 42 1 rfl (sx_ia q108 43 rfl (hX.s 17 rfl) (hX.b 17) (sx_kv (sx_V q108 44 rfl lk_9_60 vk_29 na_29 rfl rfl rfl rfl (hX.s 1 rfl)) (by decide) rfl (fun D1 => (sm_ge.refl _))))))))))))) (sx_p (pc' := 61) (lv' := [.ref (X + 14), .ref t, .int ((D.1 (X + 14) 6) - (ni 1))]) (st' := [.int (ni 0)]) q108 32 1 rfl (sx_ri (ty := .boolean) q108 33 rfl rfl))))))))
set_option maxRecDepth 8000 in
theorem n108_84 {C : sm_K} {X : Nat} {t : Nat} {v2 : Int32} (hX : sm_Lay C X) (ht : sm_tree C t) {D : sm_D} : sm_ge (sm_fx C 108 84 [.ref (X + 14), .ref t, .int v2] [] D) (
  sm_gu (sm_in_b v2 6) (
  let D1 := sm_dI D (X + 14) 7 (D.1 (X + 15) v2.toNatClampNeg)
  sm_gu (sm_in_b v2 6) (
  let D2 := sm_dI D1 (X + 14) 8 (D1.1 (X + 18) v2.toNatClampNeg)
  sm_bv (sm_fe C 104 [.ref (X + 14), .ref t, .int v2, .int (D2.1 (X + 14) 8)] D2) (fun D3 =>
    sm_gu (sm_in_b v2 6) (
    sm_bi (sm_fe C 283 [.int (D3.1 (X + 14) 8), .int ((D3.1 (X + 17) v2.toNatClampNeg) - (ni 2))] D3) (fun x0 D4 =>
      let D5 := sm_dI D4 (X + 14) 9 x0
      some (.inl (some (.int (sm_nar .boolean (ni 1)))), D5))))))) := 
  (sx_p (pc' := 86) (lv' := [.ref (X + 14), .ref t, .int v2]) (st' := [.ref (X + 14), .ref (X + 14)]) q108 45 2 rfl (sx_gR q108 47 rfl fk_9_9 (fun _ _ => rfl) (hX.s 14 rfl) (hX.r 14 1 rfl) (sx_p (pc' := 90) (lv' := [.ref (X + 14), .ref t, .int v2]) (st' := [.int v2, .ref (X + 15), .ref (X + 14)]) q108 48 1 rfl (sx_ia q108 49 rfl (hX.s 15 rfl) (hX.b 15) (sx_pI q108 50 rfl pk_9_36 rfl (hX.s 14 rfl) (hX.b 14) (sx_p (pc' := 96) (lv' := [.ref (X + 14), .ref t, .int v2]) (st' := [.ref (X + 14), .ref (X + 14)]) q108 51 2 rfl (sx_gR q108 53 rfl fk_9_21 (fun _ _ => rfl) (hX.s 14 rfl) (hX.r 14 4 rfl) (sx_p (pc' := 100) (lv' := [.ref (X + 14), .ref t, .int v2]) (st' := [.int v2, .ref (X + 18), .ref (X + 14)]) q108 54 1 rfl (sx_ia q108 55 rfl (hX.s 18 rfl) (hX.b 18) (sx_pI q108 56 rfl pk_9_39 rfl (hX.s 14 rfl) (hX.b 14) (sx_p (pc' := 108) (lv' := [.ref (X + 14), .ref t, .int v2]) (st' := [.ref (X + 14), .int v2, .ref t, .ref (X + 14)]) q108 57 4 rfl (sx_gI q108 61 rfl fk_9_39 rfl (hX.s 14 rfl) (hX.b 14) (sx_kv (sx_V q108 62 rfl lk_9_56 vk_104 na_104 rfl rfl rfl rfl (hX.s 14 rfl)) (by decide) rfl (fun D3 => (sx_p (pc' := 116) (lv' := [.ref (X + 14), .ref t, .int v2]) (st' := [.ref (X + 14), .ref (X + 14)]) q108 63 2 rfl (sx_gI q108 65 rfl fk_9_39 rfl (hX.s 14 rfl) (hX.b 14) (sx_p (pc' := 120) (lv' := [.ref (X + 14), .ref t, .int v2]) (st' := [.ref (X + 14), .int (D3.1 (X + 14) 8), .ref (X + 14)]) q108 66 1 rfl (sx_gR q108 67 rfl fk_9_18 (fun _ _ => rfl) (hX.s 14 rfl) (hX.r 14 3 rfl) (sx_p (pc' := 124) (lv' := [.ref (X + 14), .ref t, .int v2]) (st' := [.int v2, .ref (X + 17), .int (D3.1 (X + 14) 8), .ref (X + 14)]) q108 68 1 rfl (sx_ia q108 69 rfl (hX.s 17 rfl) (hX.b 17) (sx_p (pc' := 127) (lv' := [.ref (X + 14), .ref t, .int v2]) (st' := [.int ((D3.1 (X + 17) v2.toNatClampNeg) - (ni 2)), .int (D3.1 (X + 14) 8), .ref (X + 14)]) q108 70 2 rfl (sx_ki (sx_S q108 72 rfl lk_9_69 rfl na_283 rfl rfl rfl rfl) (by decide) rfl (fun x0 D4 => (sx_pI q108 73 rfl pk_9_53 rfl (hX.s 14 rfl) (hX.b 14) (sx_p (pc' := 134) (lv' := [.ref (X + 14), .ref t, .int v2]) (st' := [.int (ni 1)]) q108 74 1 rfl (sx_ri (ty := .boolean) q108 75 rfl rfl))))))))))))))))))))))))))
set_option maxRecDepth 8000 in
theorem f108 {C : sm_K} {X : Nat} {t : Nat} (hX : sm_Lay C X) (ht : sm_tree C t) {D : sm_D} : sm_ge (sm_fe C 108 [.ref (X + 14), .ref t] D) (
  sm_fx C 108 0 [.ref (X + 14), .ref t, sm_junk] [] D) := by
  rw [sx_fe (m := 3) rfl rfl]
  exact (show sm_ge (sm_fx C 108 0 [.ref (X + 14), .ref t, sm_junk] [] D) _ from (sm_ge.refl _))
/-! MessageTree$Writer.writeTree -/
theorem q110 : sm_q 110 10 sm_i110 8 := ⟨rfl, rfl, rfl⟩
set_option maxRecDepth 8000 in
theorem n110_10 {C : sm_K} {X : Nat} {t : Nat} {v2 : Int32} (hX : sm_Lay C X) (ht : sm_tree C t) {D : sm_D} : sm_ge (sm_fx C 110 10 [.ref (X + 20), .ref t, .int v2] [] D) (
  if (D.1 t 11) ≤ v2 then
    some (.inl none, D)
  else
    if (ni 40) ≤ v2 then
      some (.inl none, D)
    else
      if v2 ≤ ni 0 then
        sm_fx C 110 42 [.ref (X + 20), .ref t, .int v2] [] D
      else
        sm_gu (sm_in_b v2 40) (
        sm_bv (sm_fe C 111 [.ref (X + 20), .int (D.1 (t + 5) v2.toNatClampNeg)] D) (fun D1 =>
          sm_bv (sm_fe C 114 [.ref (X + 20)] D1) (fun D2 =>
            sm_fx C 110 42 [.ref (X + 20), .ref t, .int v2] [] D2)))) := 
  (sx_p (pc' := 12) (lv' := [.ref (X + 20), .ref t, .int v2]) (st' := [.ref t, .int v2]) q110 6 2 rfl (sx_gI q110 8 rfl fk_10_24 rfl (ht.s 0 rfl) (ht.b 0) (sx_icmp_ge q110 9 rfl rfl (sx_rv q110 53 rfl rfl) (sx_p (pc' := 21) (lv' := [.ref (X + 20), .ref t, .int v2]) (st' := [.int (ni 40), .int v2]) q110 10 2 rfl (sx_icmp_ge q110 12 rfl rfl (sx_rv q110 53 rfl rfl) (sx_p (pc' := 25) (lv' := [.ref (X + 20), .ref t, .int v2]) (st' := [.int v2]) q110 13 1 rfl (sx_if_le q110 14 rfl rfl (sm_ge.refl _) (sx_p (pc' := 30) (lv' := [.ref (X + 20), .ref t, .int v2]) (st' := [.ref t, .ref (X + 20)]) q110 15 2 rfl (sx_gR q110 17 rfl fk_10_29 (fun _ _ => rfl) (ht.s 0 rfl) (ht.r 0 3 rfl) (sx_p (pc' := 34) (lv' := [.ref (X + 20), .ref t, .int v2]) (st' := [.int v2, .ref (t + 5), .ref (X + 20)]) q110 18 1 rfl (sx_ia q110 19 rfl (ht.s 5 rfl) (ht.b 5) (sx_kv (sx_V q110 20 rfl lk_10_33 vk_111 na_111 rfl rfl rfl rfl (hX.s 20 rfl)) (by decide) rfl (fun D1 => (sx_p (pc' := 39) (lv' := [.ref (X + 20), .ref t, .int v2]) (st' := [.ref (X + 20)]) q110 21 1 rfl (sx_kv (sx_V q110 22 rfl lk_10_36 vk_114 na_114 rfl rfl rfl rfl (hX.s 20 rfl)) (by decide) rfl (fun D2 => (sm_ge.refl _)))))))))))))))))
set_option maxRecDepth 8000 in
theorem n110_42 {C : sm_K} {X : Nat} {t : Nat} {v2 : Int32} (hX : sm_Lay C X) (ht : sm_tree C t) {D : sm_D} : sm_ge (sm_fx C 110 42 [.ref (X + 20), .ref t, .int v2] [] D) (
  sm_bv (sm_fe C 115 [.ref (X + 20), .ref t, .int v2] D) (fun D1 =>
    sm_bv (sm_fe C 118 [.ref (X + 20), .ref t, .int v2] D1) (fun D2 =>
      sm_gu (sm_in_b v2 40) (
      if (D2.1 (t + 10) v2.toNatClampNeg) = ni 0 then
        sm_bv (sm_fe C 112 [.ref (X + 20), .ref (C.1.1 34)] D2) (fun D3 =>
          sm_bi (sm_fe C 147 [.int v2] D3) (fun x0 D4 =>
            sm_bv (sm_fe C 120 [.ref (X + 20), .ref t, .int x0] D4) (fun D5 =>
              sm_bv (sm_fe C 123 [.ref (X + 20), .ref t, .int v2] D5) (fun D6 =>
                sm_fx C 110 10 [.ref (X + 20), .ref t, .int (v2 + ni 1)] [] D6))))
      else
        sm_bv (sm_fe C 114 [.ref (X + 20)] D2) (fun D7 =>
          sm_fx C 110 10 [.ref (X + 20), .ref t, .int (v2 + ni 1)] [] D7))))) := 
  (sx_p (pc' := 45) (lv' := [.ref (X + 20), .ref t, .int v2]) (st' := [.int v2, .ref t, .ref (X + 20)]) q110 23 3 rfl (sx_kv (sx_V q110 26 rfl lk_10_39 vk_115 na_115 rfl rfl rfl rfl (hX.s 20 rfl)) (by decide) rfl (fun D1 => (sx_p (pc' := 51) (lv' := [.ref (X + 20), .ref t, .int v2]) (st' := [.int v2, .ref t, .ref (X + 20)]) q110 27 3 rfl (sx_kv (sx_V q110 30 rfl lk_10_43 vk_118 na_118 rfl rfl rfl rfl (hX.s 20 rfl)) (by decide) rfl (fun D2 => (sx_p (pc' := 55) (lv' := [.ref (X + 20), .ref t, .int v2]) (st' := [.ref t]) q110 31 1 rfl (sx_gR q110 32 rfl fk_10_46 (fun _ _ => rfl) (ht.s 0 rfl) (ht.r 0 8 rfl) (sx_p (pc' := 59) (lv' := [.ref (X + 20), .ref t, .int v2]) (st' := [.int v2, .ref (t + 10)]) q110 33 1 rfl (sx_ba q110 34 rfl (ht.s 10 rfl) (by simp) (ht.b 10) (sx_if_eq q110 35 rfl rfl (sx_p (pc' := 71) (lv' := [.ref (X + 20), .ref t, .int v2]) (st' := [.ref (X + 20)]) q110 39 1 rfl (sx_cs q110 40 rfl (Or.inl ⟨rfl, rfl⟩) cs_10_50 (sx_kv (sx_V q110 41 rfl lk_10_52 vk_112 na_112 rfl rfl rfl rfl (hX.s 20 rfl)) (by decide) rfl (fun D3 => (sx_p (pc' := 79) (lv' := [.ref (X + 20), .ref t, .int v2]) (st' := [.int v2, .ref t, .ref (X + 20)]) q110 42 3 rfl (sx_ki (sx_S q110 45 rfl lk_10_56 rfl na_147 rfl rfl rfl rfl) (by decide) rfl (fun x0 D4 => (sx_kv (sx_V q110 46 rfl lk_10_60 vk_120 na_120 rfl rfl rfl rfl (hX.s 20 rfl)) (by decide) rfl (fun D5 => (sx_p (pc' := 88) (lv' := [.ref (X + 20), .ref t, .int v2]) (st' := [.int v2, .ref t, .ref (X + 20)]) q110 47 3 rfl (sx_kv (sx_V q110 50 rfl lk_10_63 vk_123 na_123 rfl rfl rfl rfl (hX.s 20 rfl)) (by decide) rfl (fun D6 => (sx_p (pc' := 10) (lv' := [.ref (X + 20), .ref t, .int (v2 + ni 1)]) (st' := []) q110 51 2 rfl (sm_ge.refl _)))))))))))))) (sx_p (pc' := 64) (lv' := [.ref (X + 20), .ref t, .int v2]) (st' := [.ref (X + 20)]) q110 36 1 rfl (sx_kv (sx_V q110 37 rfl lk_10_36 vk_114 na_114 rfl rfl rfl rfl (hX.s 20 rfl)) (by decide) rfl (fun D7 => (sx_p (pc' := 91) (lv' := [.ref (X + 20), .ref t, .int v2]) (st' := []) q110 38 1 rfl (sx_p (pc' := 10) (lv' := [.ref (X + 20), .ref t, .int (v2 + ni 1)]) (st' := []) q110 51 2 rfl (sm_ge.refl _)))))))))))))))))
set_option maxRecDepth 8000 in
theorem f110 {C : sm_K} {X : Nat} {t : Nat} (hX : sm_Lay C X) (ht : sm_tree C t) {D : sm_D} : sm_ge (sm_fe C 110 [.ref (X + 20), .ref t] D) (
  let D1 := sm_dI D (X + 21) 1 (ni 0)
  sm_fx C 110 10 [.ref (X + 20), .ref t, .int (ni 0)] [] D1) := by
  rw [sx_fe (m := 3) rfl rfl]
  exact (show sm_ge (sm_fx C 110 0 [.ref (X + 20), .ref t, sm_junk] [] D) _ from (sx_p (pc' := 1) (lv' := [.ref (X + 20), .ref t, sm_junk]) (st' := [.ref (X + 20)]) q110 0 1 rfl (sx_gR q110 1 rfl fk_10_14 (fun _ _ => rfl) (hX.s 20 rfl) (hX.r 20 0 rfl) (sx_p (pc' := 5) (lv' := [.ref (X + 20), .ref t, sm_junk]) (st' := [.int (ni 0), .ref (X + 21)]) q110 2 1 rfl (sx_pI q110 3 rfl pk_10_20 rfl (hX.s 21 rfl) (hX.b 21) (sx_p (pc' := 10) (lv' := [.ref (X + 20), .ref t, .int (ni 0)]) (st' := []) q110 4 2 rfl (sm_ge.refl _)))))))
/-! MessageTree$Writer.putDelimiter -/
theorem q111 : sm_q 111 10 sm_i111 6 := ⟨rfl, rfl, rfl⟩
set_option maxRecDepth 8000 in
theorem f111 {C : sm_K} {X : Nat} {v1 : Int32} (hX : sm_Lay C X) {D : sm_D} : sm_ge (sm_fe C 111 [.ref (X + 20), .int v1] D) (
  sm_bv (sm_fe C 112 [.ref (X + 20), .ref (C.1.1 35)] D) (fun D1 =>
    sm_bv (sm_fe C 113 [.ref (X + 20), .int v1] D1) (fun D2 =>
      some (.inl none, D2)))) := by
  rw [sx_fe (m := 2) rfl rfl]
  exact (show sm_ge (sm_fx C 111 0 [.ref (X + 20), .int v1] [] D) _ from (sx_p (pc' := 1) (lv' := [.ref (X + 20), .int v1]) (st' := [.ref (X + 20)]) q111 0 1 rfl (sx_cs q111 1 rfl (Or.inl ⟨rfl, rfl⟩) cs_10_69 (sx_kv (sx_V q111 2 rfl lk_10_52 vk_112 na_112 rfl rfl rfl rfl (hX.s 20 rfl)) (by decide) rfl (fun D1 => (sx_p (pc' := 8) (lv' := [.ref (X + 20), .int v1]) (st' := [.int v1, .ref (X + 20)]) q111 3 2 rfl (sx_kv (sx_V q111 5 rfl lk_10_71 vk_113 na_113 rfl rfl rfl rfl (hX.s 20 rfl)) (by decide) rfl (fun D2 => (sx_rv q111 6 rfl rfl)))))))))
