/-! ===== what methods do from place to place, written by a program (wip/tools/gen_nodes.py) ===== -/
/-! MessageTree.small -/
theorem q2 : sm_q 2 0 sm_i2 0 := ⟨rfl, rfl, rfl⟩
set_option maxRecDepth 8000 in
theorem f2 {C : sm_K} {v0 : Int32} {D : sm_D} : sm_ge (sm_fe C 2 [.int v0] D) (
  if v0 < (ni 65) then
    some (.inl (some (.int v0)), D)
  else
    if (ni 90) < v0 then
      some (.inl (some (.int v0)), D)
    else
      some (.inl (some (.int (v0 + (ni 32)))), D)) := by
  rw [sx_fe (m := 1) rfl rfl]
  exact (show sm_ge (sm_fx C 2 0 [.int v0] [] D) _ from (sx_p (pc' := 3) (lv' := [.int v0]) (st' := [.int (ni 65), .int v0]) q2 0 2 rfl (sx_icmp_lt q2 2 rfl rfl (sx_p (pc' := 20) (lv' := [.int v0]) (st' := [.int v0]) q2 10 1 rfl (sx_ri (ty := .int) q2 11 rfl rfl)) (sx_p (pc' := 9) (lv' := [.int v0]) (st' := [.int (ni 90), .int v0]) q2 3 2 rfl (sx_icmp_gt q2 5 rfl rfl (sx_p (pc' := 20) (lv' := [.int v0]) (st' := [.int v0]) q2 10 1 rfl (sx_ri (ty := .int) q2 11 rfl rfl)) (sx_p (pc' := 20) (lv' := [.int v0]) (st' := [.int (v0 + (ni 32))]) q2 6 4 rfl (sx_ri (ty := .int) q2 11 rfl rfl)))))))
/-! MessageTree.isBlank -/
theorem q3 : sm_q 3 0 sm_i3 0 := ⟨rfl, rfl, rfl⟩
set_option maxRecDepth 8000 in
theorem f3 {C : sm_K} {v0 : Int32} {D : sm_D} : sm_ge (sm_fe C 3 [.int v0] D) (
  if v0 = (ni 32) then
    some (.inl (some (.int (sm_nar .boolean (ni 1)))), D)
  else
    if v0 = (ni 9) then
      some (.inl (some (.int (sm_nar .boolean (ni 1)))), D)
    else
      some (.inl (some (.int (sm_nar .boolean (ni 0)))), D)) := by
  rw [sx_fe (m := 1) rfl rfl]
  exact (show sm_ge (sm_fx C 3 0 [.int v0] [] D) _ from (sx_p (pc' := 3) (lv' := [.int v0]) (st' := [.int (ni 32), .int v0]) q3 0 2 rfl (sx_icmp_eq q3 2 rfl rfl (sx_p (pc' := 17) (lv' := [.int v0]) (st' := [.int (ni 1)]) q3 6 2 rfl (sx_ri (ty := .boolean) q3 9 rfl rfl)) (sx_p (pc' := 9) (lv' := [.int v0]) (st' := [.int (ni 9), .int v0]) q3 3 2 rfl (sx_icmp_ne q3 5 rfl rfl (sx_p (pc' := 17) (lv' := [.int v0]) (st' := [.int (ni 0)]) q3 8 1 rfl (sx_ri (ty := .boolean) q3 9 rfl rfl)) (sx_p (pc' := 17) (lv' := [.int v0]) (st' := [.int (ni 1)]) q3 6 2 rfl (sx_ri (ty := .boolean) q3 9 rfl rfl)))))))
/-! MessageTree.isOneOf -/
theorem q4 : sm_q 4 0 sm_i4 4 := ⟨rfl, rfl, rfl⟩
set_option maxRecDepth 8000 in
theorem f4 {C : sm_K} {s : Nat} {w : Nat} {nw : Nat} {v1 : Int32} (hs : sm_sr C s w nw) {D : sm_D} : sm_ge (sm_fe C 4 [.ref s, .int v1] D) (
  if v1 < ni 0 then
    some (.inl (some (.int (sm_nar .boolean (ni 0)))), D)
  else
    sm_bi (sm_fe C 265 [.ref s, .int ((v1.toUInt32 % 65536).toInt32)] D) (fun x0 D1 =>
      if x0 < ni 0 then
        some (.inl (some (.int (sm_nar .boolean (ni 0)))), D1)
      else
        some (.inl (some (.int (sm_nar .boolean (ni 1)))), D1))) := by
  rw [sx_fe (m := 2) rfl rfl]
  exact (show sm_ge (sm_fx C 4 0 [.ref s, .int v1] [] D) _ from (sx_p (pc' := 1) (lv' := [.ref s, .int v1]) (st' := [.int v1]) q4 0 1 rfl (sx_if_lt q4 1 rfl rfl (sx_p (pc' := 18) (lv' := [.ref s, .int v1]) (st' := [.int (ni 0)]) q4 9 1 rfl (sx_ri (ty := .boolean) q4 10 rfl rfl)) (sx_p (pc' := 7) (lv' := [.ref s, .int v1]) (st' := [.int ((v1.toUInt32 % 65536).toInt32), .ref s]) q4 2 3 rfl (sx_ki (sx_V q4 5 rfl lk_0_183 vk_265 na_265 rfl rfl rfl rfl hs.1) (by decide) rfl (fun x0 D1 => (sx_if_lt q4 6 rfl rfl (sx_p (pc' := 18) (lv' := [.ref s, .int v1]) (st' := [.int (ni 0)]) q4 9 1 rfl (sx_ri (ty := .boolean) q4 10 rfl rfl)) (sx_p (pc' := 18) (lv' := [.ref s, .int v1]) (st' := [.int (ni 1)]) q4 7 2 rfl (sx_ri (ty := .boolean) q4 10 rfl rfl)))))))))
/-! MessageTree.isLetter -/
theorem q5 : sm_q 5 0 sm_i5 0 := ⟨rfl, rfl, rfl⟩
set_option maxRecDepth 8000 in
theorem n5_12 {C : sm_K} {v0 : Int32} {D : sm_D} : sm_ge (sm_fx C 5 12 [.int v0] [] D) (
  if v0 < (ni 65) then
    some (.inl (some (.int (sm_nar .boolean (ni 0)))), D)
  else
    if (ni 90) < v0 then
      some (.inl (some (.int (sm_nar .boolean (ni 0)))), D)
    else
      some (.inl (some (.int (sm_nar .boolean (ni 1)))), D)) := 
  (sx_p (pc' := 15) (lv' := [.int v0]) (st' := [.int (ni 65), .int v0]) q5 6 2 rfl (sx_icmp_lt q5 8 rfl rfl (sx_p (pc' := 29) (lv' := [.int v0]) (st' := [.int (ni 0)]) q5 14 1 rfl (sx_ri (ty := .boolean) q5 15 rfl rfl)) (sx_p (pc' := 21) (lv' := [.int v0]) (st' := [.int (ni 90), .int v0]) q5 9 2 rfl (sx_icmp_gt q5 11 rfl rfl (sx_p (pc' := 29) (lv' := [.int v0]) (st' := [.int (ni 0)]) q5 14 1 rfl (sx_ri (ty := .boolean) q5 15 rfl rfl)) (sx_p (pc' := 29) (lv' := [.int v0]) (st' := [.int (ni 1)]) q5 12 2 rfl (sx_ri (ty := .boolean) q5 15 rfl rfl))))))
set_option maxRecDepth 8000 in
theorem f5 {C : sm_K} {v0 : Int32} {D : sm_D} : sm_ge (sm_fe C 5 [.int v0] D) (
  if v0 < (ni 97) then
    sm_fx C 5 12 [.int v0] [] D
  else
    if v0 ≤ (ni 122) then
      some (.inl (some (.int (sm_nar .boolean (ni 1)))), D)
    else
      sm_fx C 5 12 [.int v0] [] D) := by
  rw [sx_fe (m := 1) rfl rfl]
  exact (show sm_ge (sm_fx C 5 0 [.int v0] [] D) _ from (sx_p (pc' := 3) (lv' := [.int v0]) (st' := [.int (ni 97), .int v0]) q5 0 2 rfl (sx_icmp_lt q5 2 rfl rfl (sm_ge.refl _) (sx_p (pc' := 9) (lv' := [.int v0]) (st' := [.int (ni 122), .int v0]) q5 3 2 rfl (sx_icmp_le q5 5 rfl rfl (sx_p (pc' := 29) (lv' := [.int v0]) (st' := [.int (ni 1)]) q5 12 2 rfl (sx_ri (ty := .boolean) q5 15 rfl rfl)) (sm_ge.refl _))))))
/-! MessageTree.isDigit -/
theorem q6 : sm_q 6 0 sm_i6 0 := ⟨rfl, rfl, rfl⟩
set_option maxRecDepth 8000 in
theorem f6 {C : sm_K} {v0 : Int32} {D : sm_D} : sm_ge (sm_fe C 6 [.int v0] D) (
  if v0 < (ni 48) then
    some (.inl (some (.int (sm_nar .boolean (ni 0)))), D)
  else
    if (ni 57) < v0 then
      some (.inl (some (.int (sm_nar .boolean (ni 0)))), D)
    else
      some (.inl (some (.int (sm_nar .boolean (ni 1)))), D)) := by
  rw [sx_fe (m := 1) rfl rfl]
  exact (show sm_ge (sm_fx C 6 0 [.int v0] [] D) _ from (sx_p (pc' := 3) (lv' := [.int v0]) (st' := [.int (ni 48), .int v0]) q6 0 2 rfl (sx_icmp_lt q6 2 rfl rfl (sx_p (pc' := 17) (lv' := [.int v0]) (st' := [.int (ni 0)]) q6 8 1 rfl (sx_ri (ty := .boolean) q6 9 rfl rfl)) (sx_p (pc' := 9) (lv' := [.int v0]) (st' := [.int (ni 57), .int v0]) q6 3 2 rfl (sx_icmp_gt q6 5 rfl rfl (sx_p (pc' := 17) (lv' := [.int v0]) (st' := [.int (ni 0)]) q6 8 1 rfl (sx_ri (ty := .boolean) q6 9 rfl rfl)) (sx_p (pc' := 17) (lv' := [.int v0]) (st' := [.int (ni 1)]) q6 6 2 rfl (sx_ri (ty := .boolean) q6 9 rfl rfl)))))))
/-! MessageTree.feed -/
theorem q7 : sm_q 7 0 sm_i7 6 := ⟨rfl, rfl, rfl⟩
set_option maxRecDepth 8000 in
theorem f7 {C : sm_K} {X : Nat} {v1 : Int32} {v2 : Int32} {v3 : Int32} {v4 : Int32} {v5 : Int32} (hX : sm_Lay C X) {D : sm_D} : sm_ge (sm_fe C 7 [.ref X, .int v1, .int v2, .int v3, .int v4, .int v5] D) (
  if ((D.1 (X + 2) 1) + (ni 20)) ≤ (ni 8000) then
    sm_bv (sm_fe C 40 [.ref (X + 1), .int v1] D) (fun D1 =>
      sm_bv (sm_fe C 40 [.ref (X + 1), .int v2] D1) (fun D2 =>
        sm_bv (sm_fe C 40 [.ref (X + 1), .int v3] D2) (fun D3 =>
          sm_bv (sm_fe C 40 [.ref (X + 1), .int v4] D3) (fun D4 =>
            sm_bv (sm_fe C 40 [.ref (X + 1), .int v5] D4) (fun D5 =>
              some (.inl (some (.int (D5.1 (X + 2) 1))), D5))))))
  else
    some (.inr D.2.2.2.1, sm_thr D 0)) := by
  rw [sx_fe (m := 6) rfl rfl]
  exact (show sm_ge (sm_fx C 7 0 [.ref X, .int v1, .int v2, .int v3, .int v4, .int v5] [] D) _ from (sx_p (pc' := 1) (lv' := [.ref X, .int v1, .int v2, .int v3, .int v4, .int v5]) (st' := [.ref X]) q7 0 1 rfl (sx_gR q7 1 rfl fk_0_12 (fun _ _ => rfl) (hX.s 0 rfl) (hX.r 0 0 rfl) (sx_gR q7 2 rfl fk_0_42 (fun _ _ => rfl) (hX.s 1 rfl) (hX.r 1 0 rfl) (sx_gI q7 3 rfl fk_0_46 rfl (hX.s 2 rfl) (hX.b 2) (sx_p (pc' := 16) (lv' := [.ref X, .int v1, .int v2, .int v3, .int v4, .int v5]) (st' := [.int (ni 8000), .int ((D.1 (X + 2) 1) + (ni 20))]) q7 4 3 rfl (sx_icmp_le q7 7 rfl rfl (sx_p (pc' := 30) (lv' := [.ref X, .int v1, .int v2, .int v3, .int v4, .int v5]) (st' := [.ref X]) q7 13 1 rfl (sx_gR q7 14 rfl fk_0_12 (fun _ _ => rfl) (hX.s 0 rfl) (hX.r 0 0 rfl) (sx_p (pc' := 34) (lv' := [.ref X, .int v1, .int v2, .int v3, .int v4, .int v5]) (st' := [.int v1, .ref (X + 1)]) q7 15 1 rfl (sx_kv (sx_V q7 16 rfl lk_0_59 vk_40 na_40 rfl rfl rfl rfl (hX.s 1 rfl)) (by decide) rfl (fun D1 => (sx_p (pc' := 38) (lv' := [.ref X, .int v1, .int v2, .int v3, .int v4, .int v5]) (st' := [.ref X]) q7 17 1 rfl (sx_gR q7 18 rfl fk_0_12 (fun _ _ => rfl) (hX.s 0 rfl) (hX.r 0 0 rfl) (sx_p (pc' := 42) (lv' := [.ref X, .int v1, .int v2, .int v3, .int v4, .int v5]) (st' := [.int v2, .ref (X + 1)]) q7 19 1 rfl (sx_kv (sx_V q7 20 rfl lk_0_59 vk_40 na_40 rfl rfl rfl rfl (hX.s 1 rfl)) (by decide) rfl (fun D2 => (sx_p (pc' := 46) (lv' := [.ref X, .int v1, .int v2, .int v3, .int v4, .int v5]) (st' := [.ref X]) q7 21 1 rfl (sx_gR q7 22 rfl fk_0_12 (fun _ _ => rfl) (hX.s 0 rfl) (hX.r 0 0 rfl) (sx_p (pc' := 50) (lv' := [.ref X, .int v1, .int v2, .int v3, .int v4, .int v5]) (st' := [.int v3, .ref (X + 1)]) q7 23 1 rfl (sx_kv (sx_V q7 24 rfl lk_0_59 vk_40 na_40 rfl rfl rfl rfl (hX.s 1 rfl)) (by decide) rfl (fun D3 => (sx_p (pc' := 54) (lv' := [.ref X, .int v1, .int v2, .int v3, .int v4, .int v5]) (st' := [.ref X]) q7 25 1 rfl (sx_gR q7 26 rfl fk_0_12 (fun _ _ => rfl) (hX.s 0 rfl) (hX.r 0 0 rfl) (sx_p (pc' := 59) (lv' := [.ref X, .int v1, .int v2, .int v3, .int v4, .int v5]) (st' := [.int v4, .ref (X + 1)]) q7 27 1 rfl (sx_kv (sx_V q7 28 rfl lk_0_59 vk_40 na_40 rfl rfl rfl rfl (hX.s 1 rfl)) (by decide) rfl (fun D4 => (sx_p (pc' := 63) (lv' := [.ref X, .int v1, .int v2, .int v3, .int v4, .int v5]) (st' := [.ref X]) q7 29 1 rfl (sx_gR q7 30 rfl fk_0_12 (fun _ _ => rfl) (hX.s 0 rfl) (hX.r 0 0 rfl) (sx_p (pc' := 68) (lv' := [.ref X, .int v1, .int v2, .int v3, .int v4, .int v5]) (st' := [.int v5, .ref (X + 1)]) q7 31 1 rfl (sx_kv (sx_V q7 32 rfl lk_0_59 vk_40 na_40 rfl rfl rfl rfl (hX.s 1 rfl)) (by decide) rfl (fun D5 => (sx_p (pc' := 72) (lv' := [.ref X, .int v1, .int v2, .int v3, .int v4, .int v5]) (st' := [.ref X]) q7 33 1 rfl (sx_gR q7 34 rfl fk_0_12 (fun _ _ => rfl) (hX.s 0 rfl) (hX.r 0 0 rfl) (sx_gR q7 35 rfl fk_0_42 (fun _ _ => rfl) (hX.s 1 rfl) (hX.r 1 0 rfl) (sx_gI q7 36 rfl fk_0_46 rfl (hX.s 2 rfl) (hX.b 2) (sx_ri (ty := .int) q7 37 rfl rfl)))))))))))))))))))))))))))))) (sx_T q7 8 rfl rfl rfl rfl rfl th_0_52_54 (by decide) rfl rfl))))))))
/-! MessageTree.end -/
theorem q8 : sm_q 8 0 sm_i8 6 := ⟨rfl, rfl, rfl⟩
set_option maxRecDepth 8000 in
theorem n8_18 {C : sm_K} {X : Nat} (hX : sm_Lay C X) {D : sm_D} : sm_ge (sm_fx C 8 18 [sm_junk, sm_junk] [] D) (
  some (.inr D.2.2.2.1, sm_thr D 1)) := 
  (sx_T q8 8 rfl rfl rfl rfl rfl th_0_63_65 (by decide) rfl rfl)
set_option maxRecDepth 8000 in
theorem f8 {C : sm_K} {X : Nat} {v1 : Int32} (hX : sm_Lay C X) {D : sm_D} : sm_ge (sm_fe C 8 [.ref X, .int v1] D) (
  if v1 < ni 0 then
    sm_fx C 8 18 [sm_junk, sm_junk] [] D
  else
    if v1 ≤ (D.1 (X + 2) 1) then
      let D1 := sm_dI D (X + 2) 1 v1
      some (.inl none, D1)
    else
      sm_fx C 8 18 [sm_junk, sm_junk] [] D) := by
  rw [sx_fe (m := 2) rfl rfl]
  exact (show sm_ge (sm_fx C 8 0 [.ref X, .int v1] [] D) _ from (sx_p (pc' := 1) (lv' := [.ref X, .int v1]) (st' := [.int v1]) q8 0 1 rfl (sx_if_lt q8 1 rfl rfl (sx_w (lv := [.ref X, .int v1]) (lv' := [sm_junk, sm_junk]) (sm_ordl.ord ⟨Or.inl rfl, Or.inl rfl, trivial⟩)) (sx_p (pc' := 6) (lv' := [.ref X, .int v1]) (st' := [.ref X, .int v1]) q8 2 2 rfl (sx_gR q8 4 rfl fk_0_12 (fun _ _ => rfl) (hX.s 0 rfl) (hX.r 0 0 rfl) (sx_gR q8 5 rfl fk_0_42 (fun _ _ => rfl) (hX.s 1 rfl) (hX.r 1 0 rfl) (sx_gI q8 6 rfl fk_0_46 rfl (hX.s 2 rfl) (hX.b 2) (sx_icmp_le q8 7 rfl rfl (sx_p (pc' := 29) (lv' := [.ref X, .int v1]) (st' := [.ref X]) q8 13 1 rfl (sx_gR q8 14 rfl fk_0_12 (fun _ _ => rfl) (hX.s 0 rfl) (hX.r 0 0 rfl) (sx_gR q8 15 rfl fk_0_42 (fun _ _ => rfl) (hX.s 1 rfl) (hX.r 1 0 rfl) (sx_p (pc' := 36) (lv' := [.ref X, .int v1]) (st' := [.int v1, .ref (X + 2)]) q8 16 1 rfl (sx_pI q8 17 rfl pk_0_46 rfl (hX.s 2 rfl) (hX.b 2) (sx_rv q8 18 rfl rfl)))))) (sx_w (lv := [.ref X, .int v1]) (lv' := [sm_junk, sm_junk]) (sm_ordl.ord ⟨Or.inl rfl, Or.inl rfl, trivial⟩))))))))))
/-! MessageTree.entity -/
theorem q9 : sm_q 9 0 sm_i9 8 := ⟨rfl, rfl, rfl⟩
set_option maxRecDepth 8000 in
theorem f9 {C : sm_K} {X : Nat} {v1 : Int32} {v2 : Int32} {t : Nat} (hX : sm_Lay C X) (ht : sm_tree C t) (hl : C.2.2.1.2 X 3 = .ref t) {D : sm_D} : sm_ge (sm_fe C 9 [.ref X, .int v1, .int v2] D) (
  sm_bv (sm_fe C 10 [.ref X, .int v1] D) (fun D1 =>
    sm_sw v2 0 [(sm_gu (sm_in_b v1 40) (
      some (.inl (some (.int (D1.1 (t + 5) v1.toNatClampNeg))), D1))), (sm_bi (sm_fe C 148 [.ref t, .int v1] D1) (fun x0 D2 =>
        some (.inl (some (.int x0)), D2))), (sm_gu (sm_in_b v1 40) (
      some (.inl (some (.int (D1.1 (t + 7) v1.toNatClampNeg))), D1))), (sm_bi (sm_fe C 147 [.int v1] D1) (fun x0 D3 =>
        sm_bi (sm_fe C 138 [.ref t, .int x0] D3) (fun x1 D4 =>
          some (.inl (some (.int x1)), D4)))), (sm_gu (sm_in_b v1 40) (
      some (.inl (some (.int (D1.1 (t + 9) v1.toNatClampNeg))), D1))), (sm_gu (sm_in_b v1 40) (
      some (.inl (some (.int (D1.1 (t + 8) v1.toNatClampNeg))), D1))), (sm_gu (sm_in_b v1 40) (
      if (D1.1 (t + 10) v1.toNatClampNeg) = ni 0 then
        some (.inl (some (.int (ni 0))), D1)
      else
        some (.inl (some (.int (ni 1))), D1)))] (some (.inr D1.2.2.2.1, sm_thr D1 2)))) := by
  rw [sx_fe (m := 3) rfl rfl]
  exact (show sm_ge (sm_fx C 9 0 [.ref X, .int v1, .int v2] [] D) _ from (sx_p (pc' := 2) (lv' := [.ref X, .int v1, .int v2]) (st' := [.int v1, .ref X]) q9 0 2 rfl (sx_kv (sx_V q9 2 rfl lk_0_78 vk_10 na_10 rfl rfl rfl rfl (hX.s 0 rfl)) (by decide) rfl (fun D1 => (sx_p (pc' := 6) (lv' := [.ref X, .int v1, .int v2]) (st' := [.int v2]) q9 3 1 rfl (sx_ts q9 4 rfl rfl (by decide) (by decide) (sx_T q9 50 rfl rfl rfl rfl rfl th_0_108_110 (by decide) rfl rfl) ⟨⟨_, rfl, (sx_p (pc' := 49) (lv' := [.ref X, .int v1, .int v2]) (st' := [.ref X]) q9 5 1 rfl (sx_gR q9 6 rfl fk_0_35 (fun _ _ => rfl) (hX.s 0 rfl) hl (sx_gR q9 7 rfl fk_0_81 (fun _ _ => rfl) (ht.s 0 rfl) (ht.r 0 3 rfl) (sx_p (pc' := 56) (lv' := [.ref X, .int v1, .int v2]) (st' := [.int v1, .ref (t + 5)]) q9 8 1 rfl (sx_ia q9 9 rfl (ht.s 5 rfl) (ht.b 5) (sx_ri (ty := .int) q9 10 rfl rfl))))))⟩, ⟨⟨_, rfl, (sx_p (pc' := 59) (lv' := [.ref X, .int v1, .int v2]) (st' := [.ref X]) q9 11 1 rfl (sx_gR q9 12 rfl fk_0_35 (fun _ _ => rfl) (hX.s 0 rfl) hl (sx_p (pc' := 63) (lv' := [.ref X, .int v1, .int v2]) (st' := [.int v1, .ref t]) q9 13 1 rfl (sx_ki (sx_V q9 14 rfl lk_0_85 vk_148 na_148 rfl rfl rfl rfl (ht.s 0 rfl)) (by decide) rfl (fun x0 D2 => (sx_ri (ty := .int) q9 15 rfl rfl))))))⟩, ⟨⟨_, rfl, (sx_p (pc' := 68) (lv' := [.ref X, .int v1, .int v2]) (st' := [.ref X]) q9 16 1 rfl (sx_gR q9 17 rfl fk_0_35 (fun _ _ => rfl) (hX.s 0 rfl) hl (sx_gR q9 18 rfl fk_0_89 (fun _ _ => rfl) (ht.s 0 rfl) (ht.r 0 5 rfl) (sx_p (pc' := 75) (lv' := [.ref X, .int v1, .int v2]) (st' := [.int v1, .ref (t + 7)]) q9 19 1 rfl (sx_ia q9 20 rfl (ht.s 7 rfl) (ht.b 7) (sx_ri (ty := .int) q9 21 rfl rfl))))))⟩, ⟨⟨_, rfl, (sx_p (pc' := 78) (lv' := [.ref X, .int v1, .int v2]) (st' := [.ref X]) q9 22 1 rfl (sx_gR q9 23 rfl fk_0_35 (fun _ _ => rfl) (hX.s 0 rfl) hl (sx_p (pc' := 82) (lv' := [.ref X, .int v1, .int v2]) (st' := [.int v1, .ref t]) q9 24 1 rfl (sx_ki (sx_S q9 25 rfl lk_0_92 rfl na_147 rfl rfl rfl rfl) (by decide) rfl (fun x0 D3 => (sx_ki (sx_V q9 26 rfl lk_0_95 vk_138 na_138 rfl rfl rfl rfl (ht.s 0 rfl)) (by decide) rfl (fun x1 D4 => (sx_ri (ty := .int) q9 27 rfl rfl))))))))⟩, ⟨⟨_, rfl, (sx_p (pc' := 90) (lv' := [.ref X, .int v1, .int v2]) (st' := [.ref X]) q9 28 1 rfl (sx_gR q9 29 rfl fk_0_35 (fun _ _ => rfl) (hX.s 0 rfl) hl (sx_gR q9 30 rfl fk_0_98 (fun _ _ => rfl) (ht.s 0 rfl) (ht.r 0 7 rfl) (sx_p (pc' := 97) (lv' := [.ref X, .int v1, .int v2]) (st' := [.int v1, .ref (t + 9)]) q9 31 1 rfl (sx_ia q9 32 rfl (ht.s 9 rfl) (ht.b 9) (sx_ri (ty := .int) q9 33 rfl rfl))))))⟩, ⟨⟨_, rfl, (sx_p (pc' := 100) (lv' := [.ref X, .int v1, .int v2]) (st' := [.ref X]) q9 34 1 rfl (sx_gR q9 35 rfl fk_0_35 (fun _ _ => rfl) (hX.s 0 rfl) hl (sx_gR q9 36 rfl fk_0_101 (fun _ _ => rfl) (ht.s 0 rfl) (ht.r 0 6 rfl) (sx_p (pc' := 107) (lv' := [.ref X, .int v1, .int v2]) (st' := [.int v1, .ref (t + 8)]) q9 37 1 rfl (sx_ia q9 38 rfl (ht.s 8 rfl) (ht.b 8) (sx_ri (ty := .int) q9 39 rfl rfl))))))⟩, ⟨⟨_, rfl, (sx_p (pc' := 110) (lv' := [.ref X, .int v1, .int v2]) (st' := [.ref X]) q9 40 1 rfl (sx_gR q9 41 rfl fk_0_35 (fun _ _ => rfl) (hX.s 0 rfl) hl (sx_gR q9 42 rfl fk_0_104 (fun _ _ => rfl) (ht.s 0 rfl) (ht.r 0 8 rfl) (sx_p (pc' := 117) (lv' := [.ref X, .int v1, .int v2]) (st' := [.int v1, .ref (t + 10)]) q9 43 1 rfl (sx_ba q9 44 rfl (ht.s 10 rfl) (by simp) (ht.b 10) (sx_if_eq q9 45 rfl rfl (sx_p (pc' := 126) (lv' := [.ref X, .int v1, .int v2]) (st' := [.int (ni 0)]) q9 48 1 rfl (sx_ri (ty := .int) q9 49 rfl rfl)) (sx_p (pc' := 126) (lv' := [.ref X, .int v1, .int v2]) (st' := [.int (ni 1)]) q9 46 2 rfl (sx_ri (ty := .int) q9 49 rfl rfl))))))))⟩, trivial⟩⟩⟩⟩⟩⟩⟩))))))
/-! MessageTree.requireEntity -/
theorem q10 : sm_q 10 0 sm_i10 7 := ⟨rfl, rfl, rfl⟩
set_option maxRecDepth 8000 in
theorem f10 {C : sm_K} {X : Nat} {v1 : Int32} {t : Nat} (hX : sm_Lay C X) (ht : sm_tree C t) (hl : C.2.2.1.2 X 3 = .ref t) {D : sm_D} : sm_ge (sm_fe C 10 [.ref X, .int v1] D) (
  sm_bv (sm_fe C 11 [.ref X, .int v1, .int (D.1 t 11)] D) (fun D1 =>
    some (.inl none, D1))) := by
  rw [sx_fe (m := 2) rfl rfl]
  exact (show sm_ge (sm_fx C 10 0 [.ref X, .int v1] [] D) _ from (sx_p (pc' := 3) (lv' := [.ref X, .int v1]) (st' := [.ref X, .int v1, .ref X]) q10 0 3 rfl (sx_gR q10 3 rfl fk_0_35 (fun _ _ => rfl) (hX.s 0 rfl) hl (sx_gI q10 4 rfl fk_0_75 rfl (ht.s 0 rfl) (ht.b 0) (sx_kv (sx_V q10 5 rfl lk_0_117 vk_11 na_11 rfl rfl rfl rfl (hX.s 0 rfl)) (by decide) rfl (fun D1 => (sx_rv q10 6 rfl rfl)))))))
/-! MessageTree.requireWithin -/
theorem q11 : sm_q 11 0 sm_i11 6 := ⟨rfl, rfl, rfl⟩
set_option maxRecDepth 8000 in
theorem n11_9 {C : sm_K} {X : Nat} (hX : sm_Lay C X) {D : sm_D} : sm_ge (sm_fx C 11 9 [sm_junk, sm_junk, sm_junk] [] D) (
  some (.inr D.2.2.2.1, sm_thr D 2)) := 
  (sx_T q11 5 rfl rfl rfl rfl rfl th_0_108_181 (by decide) rfl rfl)
set_option maxRecDepth 8000 in
theorem f11 {C : sm_K} {X : Nat} {v1 : Int32} {v2 : Int32} (hX : sm_Lay C X) {D : sm_D} : sm_ge (sm_fe C 11 [.ref X, .int v1, .int v2] D) (
  if v1 < ni 0 then
    sm_fx C 11 9 [sm_junk, sm_junk, sm_junk] [] D
  else
    if v1 < v2 then
      some (.inl none, D)
    else
      sm_fx C 11 9 [sm_junk, sm_junk, sm_junk] [] D) := by
  rw [sx_fe (m := 3) rfl rfl]
  exact (show sm_ge (sm_fx C 11 0 [.ref X, .int v1, .int v2] [] D) _ from (sx_p (pc' := 1) (lv' := [.ref X, .int v1, .int v2]) (st' := [.int v1]) q11 0 1 rfl (sx_if_lt q11 1 rfl rfl (sx_w (lv := [.ref X, .int v1, .int v2]) (lv' := [sm_junk, sm_junk, sm_junk]) (sm_ordl.ord ⟨Or.inl rfl, Or.inl rfl, Or.inl rfl, trivial⟩)) (sx_p (pc' := 6) (lv' := [.ref X, .int v1, .int v2]) (st' := [.int v2, .int v1]) q11 2 2 rfl (sx_icmp_lt q11 4 rfl rfl (sx_rv q11 10 rfl rfl) (sx_w (lv := [.ref X, .int v1, .int v2]) (lv' := [sm_junk, sm_junk, sm_junk]) (sm_ordl.ord ⟨Or.inl rfl, Or.inl rfl, Or.inl rfl, trivial⟩)))))))
/-! MessageTree.part -/
theorem q12 : sm_q 12 0 sm_i12 8 := ⟨rfl, rfl, rfl⟩
set_option maxRecDepth 8000 in
theorem f12 {C : sm_K} {X : Nat} {v1 : Int32} {v2 : Int32} {t : Nat} (hX : sm_Lay C X) (ht : sm_tree C t) (hl : C.2.2.1.2 X 3 = .ref t) {D : sm_D} : sm_ge (sm_fe C 12 [.ref X, .int v1, .int v2] D) (
  sm_bv (sm_fe C 10 [.ref X, .int v1] D) (fun D1 =>
    sm_bi (sm_fe C 150 [.ref t, .int v1, .int v2] D1) (fun x0 D2 =>
      some (.inl (some (.int x0)), D2)))) := by
  rw [sx_fe (m := 3) rfl rfl]
  exact (show sm_ge (sm_fx C 12 0 [.ref X, .int v1, .int v2] [] D) _ from (sx_p (pc' := 2) (lv' := [.ref X, .int v1, .int v2]) (st' := [.int v1, .ref X]) q12 0 2 rfl (sx_kv (sx_V q12 2 rfl lk_0_78 vk_10 na_10 rfl rfl rfl rfl (hX.s 0 rfl)) (by decide) rfl (fun D1 => (sx_p (pc' := 6) (lv' := [.ref X, .int v1, .int v2]) (st' := [.ref X]) q12 3 1 rfl (sx_gR q12 4 rfl fk_0_35 (fun _ _ => rfl) (hX.s 0 rfl) hl (sx_p (pc' := 11) (lv' := [.ref X, .int v1, .int v2]) (st' := [.int v2, .int v1, .ref t]) q12 5 2 rfl (sx_ki (sx_V q12 7 rfl lk_0_113 vk_150 na_150 rfl rfl rfl rfl (ht.s 0 rfl)) (by decide) rfl (fun x0 D2 => (sx_ri (ty := .int) q12 8 rfl rfl))))))))))
/-! MessageTree.octet -/
theorem q13 : sm_q 13 0 sm_i13 8 := ⟨rfl, rfl, rfl⟩
set_option maxRecDepth 8000 in
theorem f13 {C : sm_K} {X : Nat} {v1 : Int32} {v2 : Int32} {t : Nat} (hX : sm_Lay C X) (ht : sm_tree C t) (hl : C.2.2.1.2 X 3 = .ref t) {D : sm_D} : sm_ge (sm_fe C 13 [.ref X, .int v1, .int v2] D) (
  sm_bv (sm_fe C 10 [.ref X, .int v1] D) (fun D1 =>
    sm_bi (sm_fe C 147 [.int v1] D1) (fun x0 D2 =>
      sm_bi (sm_fe C 138 [.ref t, .int x0] D2) (fun x1 D3 =>
        sm_bv (sm_fe C 11 [.ref X, .int v2, .int x1] D3) (fun D4 =>
          sm_bi (sm_fe C 147 [.int v1] D4) (fun x2 D5 =>
            sm_bi (sm_fe C 139 [.ref t, .int x2, .int v2] D5) (fun x3 D6 =>
              some (.inl (some (.int x3)), D6)))))))) := by
  rw [sx_fe (m := 3) rfl rfl]
  exact (show sm_ge (sm_fx C 13 0 [.ref X, .int v1, .int v2] [] D) _ from (sx_p (pc' := 2) (lv' := [.ref X, .int v1, .int v2]) (st' := [.int v1, .ref X]) q13 0 2 rfl (sx_kv (sx_V q13 2 rfl lk_0_78 vk_10 na_10 rfl rfl rfl rfl (hX.s 0 rfl)) (by decide) rfl (fun D1 => (sx_p (pc' := 8) (lv' := [.ref X, .int v1, .int v2]) (st' := [.ref X, .int v2, .ref X]) q13 3 3 rfl (sx_gR q13 6 rfl fk_0_35 (fun _ _ => rfl) (hX.s 0 rfl) hl (sx_p (pc' := 12) (lv' := [.ref X, .int v1, .int v2]) (st' := [.int v1, .ref t, .int v2, .ref X]) q13 7 1 rfl (sx_ki (sx_S q13 8 rfl lk_0_92 rfl na_147 rfl rfl rfl rfl) (by decide) rfl (fun x0 D2 => (sx_ki (sx_V q13 9 rfl lk_0_95 vk_138 na_138 rfl rfl rfl rfl (ht.s 0 rfl)) (by decide) rfl (fun x1 D3 => (sx_kv (sx_V q13 10 rfl lk_0_117 vk_11 na_11 rfl rfl rfl rfl (hX.s 0 rfl)) (by decide) rfl (fun D4 => (sx_p (pc' := 22) (lv' := [.ref X, .int v1, .int v2]) (st' := [.ref X]) q13 11 1 rfl (sx_gR q13 12 rfl fk_0_35 (fun _ _ => rfl) (hX.s 0 rfl) hl (sx_p (pc' := 26) (lv' := [.ref X, .int v1, .int v2]) (st' := [.int v1, .ref t]) q13 13 1 rfl (sx_ki (sx_S q13 14 rfl lk_0_92 rfl na_147 rfl rfl rfl rfl) (by decide) rfl (fun x2 D5 => (sx_p (pc' := 30) (lv' := [.ref X, .int v1, .int v2]) (st' := [.int v2, .int x2, .ref t]) q13 15 1 rfl (sx_ki (sx_V q13 16 rfl lk_0_121 vk_139 na_139 rfl rfl rfl rfl (ht.s 0 rfl)) (by decide) rfl (fun x3 D6 => (sx_ri (ty := .int) q13 17 rfl rfl))))))))))))))))))))))
/-! MessageTree.kind -/
theorem q14 : sm_q 14 0 sm_i14 9 := ⟨rfl, rfl, rfl⟩
set_option maxRecDepth 8000 in
theorem f14 {C : sm_K} {X : Nat} {v1 : Int32} {v2 : Int32} {t : Nat} (hX : sm_Lay C X) (ht : sm_tree C t) (hl : C.2.2.1.2 X 3 = .ref t) {D : sm_D} : sm_ge (sm_fe C 14 [.ref X, .int v1, .int v2] D) (
  sm_bv (sm_fe C 15 [.ref X, .int v1, .int v2] D) (fun D1 =>
    sm_bi (sm_fe C 129 [.ref t, .int v1, .int v2] D1) (fun x0 D2 =>
      some (.inl (some (.int x0)), D2)))) := by
  rw [sx_fe (m := 3) rfl rfl]
  exact (show sm_ge (sm_fx C 14 0 [.ref X, .int v1, .int v2] [] D) _ from (sx_p (pc' := 3) (lv' := [.ref X, .int v1, .int v2]) (st' := [.int v2, .int v1, .ref X]) q14 0 3 rfl (sx_kv (sx_V q14 3 rfl lk_0_124 vk_15 na_15 rfl rfl rfl rfl (hX.s 0 rfl)) (by decide) rfl (fun D1 => (sx_p (pc' := 7) (lv' := [.ref X, .int v1, .int v2]) (st' := [.ref X]) q14 4 1 rfl (sx_gR q14 5 rfl fk_0_35 (fun _ _ => rfl) (hX.s 0 rfl) hl (sx_p (pc' := 12) (lv' := [.ref X, .int v1, .int v2]) (st' := [.int v2, .int v1, .ref t]) q14 6 2 rfl (sx_ki (sx_V q14 8 rfl lk_0_127 vk_129 na_129 rfl rfl rfl rfl (ht.s 0 rfl)) (by decide) rfl (fun x0 D2 => (sx_ri (ty := .int) q14 9 rfl rfl))))))))))
/-! MessageTree.requireField -/
theorem q15 : sm_q 15 0 sm_i15 8 := ⟨rfl, rfl, rfl⟩
set_option maxRecDepth 8000 in
theorem f15 {C : sm_K} {X : Nat} {v1 : Int32} {v2 : Int32} {t : Nat} (hX : sm_Lay C X) (ht : sm_tree C t) (hl : C.2.2.1.2 X 3 = .ref t) {D : sm_D} : sm_ge (sm_fe C 15 [.ref X, .int v1, .int v2] D) (
  sm_bv (sm_fe C 10 [.ref X, .int v1] D) (fun D1 =>
    sm_gu (sm_in_b v1 40) (
    sm_bv (sm_fe C 11 [.ref X, .int v2, .int (D1.1 (t + 7) v1.toNatClampNeg)] D1) (fun D2 =>
      some (.inl none, D2))))) := by
  rw [sx_fe (m := 3) rfl rfl]
  exact (show sm_ge (sm_fx C 15 0 [.ref X, .int v1, .int v2] [] D) _ from (sx_p (pc' := 2) (lv' := [.ref X, .int v1, .int v2]) (st' := [.int v1, .ref X]) q15 0 2 rfl (sx_kv (sx_V q15 2 rfl lk_0_78 vk_10 na_10 rfl rfl rfl rfl (hX.s 0 rfl)) (by decide) rfl (fun D1 => (sx_p (pc' := 8) (lv' := [.ref X, .int v1, .int v2]) (st' := [.ref X, .int v2, .ref X]) q15 3 3 rfl (sx_gR q15 6 rfl fk_0_35 (fun _ _ => rfl) (hX.s 0 rfl) hl (sx_gR q15 7 rfl fk_0_89 (fun _ _ => rfl) (ht.s 0 rfl) (ht.r 0 5 rfl) (sx_p (pc' := 15) (lv' := [.ref X, .int v1, .int v2]) (st' := [.int v1, .ref (t + 7), .int v2, .ref X]) q15 8 1 rfl (sx_ia q15 9 rfl (ht.s 7 rfl) (ht.b 7) (sx_kv (sx_V q15 10 rfl lk_0_117 vk_11 na_11 rfl rfl rfl rfl (hX.s 0 rfl)) (by decide) rfl (fun D2 => (sx_rv q15 11 rfl rfl))))))))))))
/-! MessageTree.letter -/
theorem q16 : sm_q 16 0 sm_i16 9 := ⟨rfl, rfl, rfl⟩
set_option maxRecDepth 8000 in
theorem f16 {C : sm_K} {X : Nat} {v1 : Int32} {v2 : Int32} {v3 : Int32} {v4 : Int32} {t : Nat} (hX : sm_Lay C X) (ht : sm_tree C t) (hl : C.2.2.1.2 X 3 = .ref t) {D : sm_D} : sm_ge (sm_fe C 16 [.ref X, .int v1, .int v2, .int v3, .int v4] D) (
  sm_bv (sm_fe C 15 [.ref X, .int v1, .int v2] D) (fun D1 =>
    sm_bv (sm_fe C 11 [.ref X, .int v3, .int (ni 2)] D1) (fun D2 =>
      sm_gu (sm_in_b v1 40) (
      sm_bi (sm_fe C 130 [.int ((D2.1 (t + 6) v1.toNatClampNeg) + v2), .int v3] D2) (fun x0 D3 =>
        sm_bi (sm_fe C 17 [.ref X, .int x0, .int v4] D3) (fun x1 D4 =>
          some (.inl (some (.int x1)), D4))))))) := by
  rw [sx_fe (m := 5) rfl rfl]
  exact (show sm_ge (sm_fx C 16 0 [.ref X, .int v1, .int v2, .int v3, .int v4] [] D) _ from (sx_p (pc' := 3) (lv' := [.ref X, .int v1, .int v2, .int v3, .int v4]) (st' := [.int v2, .int v1, .ref X]) q16 0 3 rfl (sx_kv (sx_V q16 3 rfl lk_0_124 vk_15 na_15 rfl rfl rfl rfl (hX.s 0 rfl)) (by decide) rfl (fun D1 => (sx_p (pc' := 9) (lv' := [.ref X, .int v1, .int v2, .int v3, .int v4]) (st' := [.int (ni 2), .int v3, .ref X]) q16 4 3 rfl (sx_kv (sx_V q16 7 rfl lk_0_117 vk_11 na_11 rfl rfl rfl rfl (hX.s 0 rfl)) (by decide) rfl (fun D2 => (sx_p (pc' := 14) (lv' := [.ref X, .int v1, .int v2, .int v3, .int v4]) (st' := [.ref X, .ref X]) q16 8 2 rfl (sx_gR q16 10 rfl fk_0_35 (fun _ _ => rfl) (hX.s 0 rfl) hl (sx_gR q16 11 rfl fk_0_130 (fun _ _ => rfl) (ht.s 0 rfl) (ht.r 0 4 rfl) (sx_p (pc' := 21) (lv' := [.ref X, .int v1, .int v2, .int v3, .int v4]) (st' := [.int v1, .ref (t + 6), .ref X]) q16 12 1 rfl (sx_ia q16 13 rfl (ht.s 6 rfl) (ht.b 6) (sx_p (pc' := 25) (lv' := [.ref X, .int v1, .int v2, .int v3, .int v4]) (st' := [.int v3, .int ((D2.1 (t + 6) v1.toNatClampNeg) + v2), .ref X]) q16 14 3 rfl (sx_ki (sx_S q16 17 rfl lk_0_133 rfl na_130 rfl rfl rfl rfl) (by decide) rfl (fun x0 D3 => (sx_p (pc' := 30) (lv' := [.ref X, .int v1, .int v2, .int v3, .int v4]) (st' := [.int v4, .int x0, .ref X]) q16 18 1 rfl (sx_ki (sx_V q16 19 rfl lk_0_136 vk_17 na_17 rfl rfl rfl rfl (hX.s 0 rfl)) (by decide) rfl (fun x1 D4 => (sx_ri (ty := .int) q16 20 rfl rfl)))))))))))))))))))
/-! MessageTree.itemOrSize -/
theorem q17 : sm_q 17 0 sm_i17 7 := ⟨rfl, rfl, rfl⟩
set_option maxRecDepth 8000 in
theorem f17 {C : sm_K} {X : Nat} {v1 : Int32} {v2 : Int32} {t : Nat} (hX : sm_Lay C X) (ht : sm_tree C t) (hl : C.2.2.1.2 X 3 = .ref t) {D : sm_D} : sm_ge (sm_fe C 17 [.ref X, .int v1, .int v2] D) (
  sm_bi (sm_fe C 138 [.ref t, .int v1] D) (fun x0 D1 =>
    if v2 = (sm_k (-1)) then
      some (.inl (some (.int x0)), D1)
    else
      sm_bv (sm_fe C 11 [.ref X, .int v2, .int x0] D1) (fun D2 =>
        sm_bi (sm_fe C 139 [.ref t, .int v1, .int v2] D2) (fun x1 D3 =>
          some (.inl (some (.int x1)), D3))))) := by
  rw [sx_fe (m := 4) rfl rfl]
  exact (show sm_ge (sm_fx C 17 0 [.ref X, .int v1, .int v2, sm_junk] [] D) _ from (sx_p (pc' := 1) (lv' := [.ref X, .int v1, .int v2, sm_junk]) (st' := [.ref X]) q17 0 1 rfl (sx_gR q17 1 rfl fk_0_35 (fun _ _ => rfl) (hX.s 0 rfl) hl (sx_p (pc' := 5) (lv' := [.ref X, .int v1, .int v2, sm_junk]) (st' := [.int v1, .ref t]) q17 2 1 rfl (sx_ki (sx_V q17 3 rfl lk_0_95 vk_138 na_138 rfl rfl rfl rfl (ht.s 0 rfl)) (by decide) rfl (fun x0 D1 => (sx_p (pc' := 11) (lv' := [.ref X, .int v1, .int v2, .int x0]) (st' := [.int (sm_k (-1)), .int v2]) q17 4 3 rfl (sx_icmp_ne q17 7 rfl rfl (sx_p (pc' := 19) (lv' := [.ref X, .int v1, .int v2, .int x0]) (st' := [.int x0, .int v2, .ref X]) q17 10 3 rfl (sx_kv (sx_V q17 13 rfl lk_0_117 vk_11 na_11 rfl rfl rfl rfl (hX.s 0 rfl)) (by decide) rfl (fun D2 => (sx_p (pc' := 23) (lv' := [.ref X, .int v1, .int v2, .int x0]) (st' := [.ref X]) q17 14 1 rfl (sx_gR q17 15 rfl fk_0_35 (fun _ _ => rfl) (hX.s 0 rfl) hl (sx_p (pc' := 28) (lv' := [.ref X, .int v1, .int v2, .int x0]) (st' := [.int v2, .int v1, .ref t]) q17 16 2 rfl (sx_ki (sx_V q17 18 rfl lk_0_121 vk_139 na_139 rfl rfl rfl rfl (ht.s 0 rfl)) (by decide) rfl (fun x1 D3 => (sx_ri (ty := .int) q17 19 rfl rfl))))))))) (sx_p (pc' := 15) (lv' := [.ref X, .int v1, .int v2, .int x0]) (st' := [.int x0]) q17 8 1 rfl (sx_ri (ty := .int) q17 9 rfl rfl))))))))))
/-! MessageTree.type -/
theorem q18 : sm_q 18 0 sm_i18 8 := ⟨rfl, rfl, rfl⟩
set_option maxRecDepth 8000 in
theorem f18 {C : sm_K} {X : Nat} {v1 : Int32} {v2 : Int32} {v3 : Int32} (hX : sm_Lay C X) {D : sm_D} : sm_ge (sm_fe C 18 [.ref X, .int v1, .int v2, .int v3] D) (
  sm_bv (sm_fe C 10 [.ref X, .int v1] D) (fun D1 =>
    sm_bv (sm_fe C 11 [.ref X, .int v2, .int (ni 2)] D1) (fun D2 =>
      sm_bi (sm_fe C 133 [.int v1, .int v2] D2) (fun x0 D3 =>
        sm_bi (sm_fe C 17 [.ref X, .int x0, .int v3] D3) (fun x1 D4 =>
          some (.inl (some (.int x1)), D4)))))) := by
  rw [sx_fe (m := 4) rfl rfl]
  exact (show sm_ge (sm_fx C 18 0 [.ref X, .int v1, .int v2, .int v3] [] D) _ from (sx_p (pc' := 2) (lv' := [.ref X, .int v1, .int v2, .int v3]) (st' := [.int v1, .ref X]) q18 0 2 rfl (sx_kv (sx_V q18 2 rfl lk_0_78 vk_10 na_10 rfl rfl rfl rfl (hX.s 0 rfl)) (by decide) rfl (fun D1 => (sx_p (pc' := 8) (lv' := [.ref X, .int v1, .int v2, .int v3]) (st' := [.int (ni 2), .int v2, .ref X]) q18 3 3 rfl (sx_kv (sx_V q18 6 rfl lk_0_117 vk_11 na_11 rfl rfl rfl rfl (hX.s 0 rfl)) (by decide) rfl (fun D2 => (sx_p (pc' := 14) (lv' := [.ref X, .int v1, .int v2, .int v3]) (st' := [.int v2, .int v1, .ref X]) q18 7 3 rfl (sx_ki (sx_S q18 10 rfl lk_0_139 rfl na_133 rfl rfl rfl rfl) (by decide) rfl (fun x0 D3 => (sx_p (pc' := 18) (lv' := [.ref X, .int v1, .int v2, .int v3]) (st' := [.int v3, .int x0, .ref X]) q18 11 1 rfl (sx_ki (sx_V q18 12 rfl lk_0_136 vk_17 na_17 rfl rfl rfl rfl (hX.s 0 rfl)) (by decide) rfl (fun x1 D4 => (sx_ri (ty := .int) q18 13 rfl rfl))))))))))))))
/-! MessageTree.parameter -/
theorem q19 : sm_q 19 0 sm_i19 8 := ⟨rfl, rfl, rfl⟩
set_option maxRecDepth 8000 in
theorem f19 {C : sm_K} {X : Nat} {v1 : Int32} {v2 : Int32} {v3 : Int32} {v4 : Int32} {t : Nat} (hX : sm_Lay C X) (ht : sm_tree C t) (hl : C.2.2.1.2 X 3 = .ref t) {D : sm_D} : sm_ge (sm_fe C 19 [.ref X, .int v1, .int v2, .int v3, .int v4] D) (
  sm_bv (sm_fe C 10 [.ref X, .int v1] D) (fun D1 =>
    sm_gu (sm_in_b v1 40) (
    sm_bv (sm_fe C 11 [.ref X, .int v2, .int (D1.1 (t + 8) v1.toNatClampNeg)] D1) (fun D2 =>
      sm_bv (sm_fe C 11 [.ref X, .int v3, .int (ni 2)] D2) (fun D3 =>
        sm_bi (sm_fe C 136 [.int v1, .int v2, .int v3] D3) (fun x0 D4 =>
          sm_bi (sm_fe C 17 [.ref X, .int x0, .int v4] D4) (fun x1 D5 =>
            some (.inl (some (.int x1)), D5)))))))) := by
  rw [sx_fe (m := 5) rfl rfl]
  exact (show sm_ge (sm_fx C 19 0 [.ref X, .int v1, .int v2, .int v3, .int v4] [] D) _ from (sx_p (pc' := 2) (lv' := [.ref X, .int v1, .int v2, .int v3, .int v4]) (st' := [.int v1, .ref X]) q19 0 2 rfl (sx_kv (sx_V q19 2 rfl lk_0_78 vk_10 na_10 rfl rfl rfl rfl (hX.s 0 rfl)) (by decide) rfl (fun D1 => (sx_p (pc' := 8) (lv' := [.ref X, .int v1, .int v2, .int v3, .int v4]) (st' := [.ref X, .int v2, .ref X]) q19 3 3 rfl (sx_gR q19 6 rfl fk_0_35 (fun _ _ => rfl) (hX.s 0 rfl) hl (sx_gR q19 7 rfl fk_0_101 (fun _ _ => rfl) (ht.s 0 rfl) (ht.r 0 6 rfl) (sx_p (pc' := 15) (lv' := [.ref X, .int v1, .int v2, .int v3, .int v4]) (st' := [.int v1, .ref (t + 8), .int v2, .ref X]) q19 8 1 rfl (sx_ia q19 9 rfl (ht.s 8 rfl) (ht.b 8) (sx_kv (sx_V q19 10 rfl lk_0_117 vk_11 na_11 rfl rfl rfl rfl (hX.s 0 rfl)) (by decide) rfl (fun D2 => (sx_p (pc' := 22) (lv' := [.ref X, .int v1, .int v2, .int v3, .int v4]) (st' := [.int (ni 2), .int v3, .ref X]) q19 11 3 rfl (sx_kv (sx_V q19 14 rfl lk_0_117 vk_11 na_11 rfl rfl rfl rfl (hX.s 0 rfl)) (by decide) rfl (fun D3 => (sx_p (pc' := 29) (lv' := [.ref X, .int v1, .int v2, .int v3, .int v4]) (st' := [.int v3, .int v2, .int v1, .ref X]) q19 15 4 rfl (sx_ki (sx_S q19 19 rfl lk_0_142 rfl na_136 rfl rfl rfl rfl) (by decide) rfl (fun x0 D4 => (sx_p (pc' := 34) (lv' := [.ref X, .int v1, .int v2, .int v3, .int v4]) (st' := [.int v4, .int x0, .ref X]) q19 20 1 rfl (sx_ki (sx_V q19 21 rfl lk_0_136 vk_17 na_17 rfl rfl rfl rfl (hX.s 0 rfl)) (by decide) rfl (fun x1 D5 => (sx_ri (ty := .int) q19 22 rfl rfl)))))))))))))))))))))
/-! MessageTree.subject -/
theorem q20 : sm_q 20 0 sm_i20 8 := ⟨rfl, rfl, rfl⟩
set_option maxRecDepth 8000 in
theorem f20 {C : sm_K} {X : Nat} {v1 : Int32} (hX : sm_Lay C X) {D : sm_D} : sm_ge (sm_fe C 20 [.ref X, .int v1] D) (
  sm_bi (sm_fe C 17 [.ref X, .int (ni 1060), .int v1] D) (fun x0 D1 =>
    some (.inl (some (.int x0)), D1))) := by
  rw [sx_fe (m := 2) rfl rfl]
  exact (show sm_ge (sm_fx C 20 0 [.ref X, .int v1] [] D) _ from (sx_p (pc' := 5) (lv' := [.ref X, .int v1]) (st' := [.int v1, .int (ni 1060), .ref X]) q20 0 3 rfl (sx_ki (sx_V q20 3 rfl lk_0_136 vk_17 na_17 rfl rfl rfl rfl (hX.s 0 rfl)) (by decide) rfl (fun x0 D1 => (sx_ri (ty := .int) q20 4 rfl rfl)))))
/-! MessageTree.date -/
theorem q21 : sm_q 21 0 sm_i21 7 := ⟨rfl, rfl, rfl⟩
set_option maxRecDepth 8000 in
theorem f21 {C : sm_K} {X : Nat} {v1 : Int32} {t : Nat} (hX : sm_Lay C X) (ht : sm_tree C t) (hl : C.2.2.1.2 X 3 = .ref t) {D : sm_D} : sm_ge (sm_fe C 21 [.ref X, .int v1] D) (
  sm_bv (sm_fe C 11 [.ref X, .int v1, .int (ni 2)] D) (fun D1 =>
    if v1 = ni 0 then
      some (.inl (some (.long (D1.2.1 t 13))), D1)
    else
      some (.inl (some (.long ((D1.1 t 14).toInt64))), D1))) := by
  rw [sx_fe (m := 2) rfl rfl]
  exact (show sm_ge (sm_fx C 21 0 [.ref X, .int v1] [] D) _ from (sx_p (pc' := 3) (lv' := [.ref X, .int v1]) (st' := [.int (ni 2), .int v1, .ref X]) q21 0 3 rfl (sx_kv (sx_V q21 3 rfl lk_0_117 vk_11 na_11 rfl rfl rfl rfl (hX.s 0 rfl)) (by decide) rfl (fun D1 => (sx_p (pc' := 7) (lv' := [.ref X, .int v1]) (st' := [.int v1]) q21 4 1 rfl (sx_if_ne q21 5 rfl rfl (sx_p (pc' := 21) (lv' := [.ref X, .int v1]) (st' := [.ref X]) q21 10 1 rfl (sx_gR q21 11 rfl fk_0_35 (fun _ _ => rfl) (hX.s 0 rfl) hl (sx_gI q21 12 rfl fk_0_150 rfl (ht.s 0 rfl) (ht.b 0) (sx_p (pc' := 28) (lv' := [.ref X, .int v1]) (st' := [.long ((D1.1 t 14).toInt64)]) q21 13 1 rfl (sx_rj q21 14 rfl rfl))))) (sx_p (pc' := 11) (lv' := [.ref X, .int v1]) (st' := [.ref X]) q21 6 1 rfl (sx_gR q21 7 rfl fk_0_35 (fun _ _ => rfl) (hX.s 0 rfl) hl (sx_gJ q21 8 rfl fk_0_146 rfl (ht.s 0 rfl) (sx_p (pc' := 28) (lv' := [.ref X, .int v1]) (st' := [.long (D1.2.1 t 13)]) q21 9 1 rfl (sx_rj q21 14 rfl rfl)))))))))))
/-! MessageTree.addresses -/
theorem q22 : sm_q 22 0 sm_i22 7 := ⟨rfl, rfl, rfl⟩
set_option maxRecDepth 8000 in
theorem f22 {C : sm_K} {X : Nat} {v1 : Int32} {t : Nat} (hX : sm_Lay C X) (ht : sm_tree C t) (hl : C.2.2.1.2 X 3 = .ref t) {D : sm_D} : sm_ge (sm_fe C 22 [.ref X, .int v1] D) (
  sm_bv (sm_fe C 23 [.ref X, .int v1] D) (fun D1 =>
    sm_bi (sm_fe C 151 [.ref t, .int v1] D1) (fun x0 D2 =>
      some (.inl (some (.int x0)), D2)))) := by
  rw [sx_fe (m := 2) rfl rfl]
  exact (show sm_ge (sm_fx C 22 0 [.ref X, .int v1] [] D) _ from (sx_p (pc' := 2) (lv' := [.ref X, .int v1]) (st' := [.int v1, .ref X]) q22 0 2 rfl (sx_kv (sx_V q22 2 rfl lk_0_153 vk_23 na_23 rfl rfl rfl rfl (hX.s 0 rfl)) (by decide) rfl (fun D1 => (sx_p (pc' := 6) (lv' := [.ref X, .int v1]) (st' := [.ref X]) q22 3 1 rfl (sx_gR q22 4 rfl fk_0_35 (fun _ _ => rfl) (hX.s 0 rfl) hl (sx_p (pc' := 10) (lv' := [.ref X, .int v1]) (st' := [.int v1, .ref t]) q22 5 1 rfl (sx_ki (sx_V q22 6 rfl lk_0_156 vk_151 na_151 rfl rfl rfl rfl (ht.s 0 rfl)) (by decide) rfl (fun x0 D2 => (sx_ri (ty := .int) q22 7 rfl rfl))))))))))
/-! MessageTree.requireAddressKind -/
theorem q23 : sm_q 23 0 sm_i23 6 := ⟨rfl, rfl, rfl⟩
set_option maxRecDepth 8000 in
theorem f23 {C : sm_K} {X : Nat} {v1 : Int32} (hX : sm_Lay C X) {D : sm_D} : sm_ge (sm_fe C 23 [.ref X, .int v1] D) (
  if v1 = (ni 5) then
    some (.inl none, D)
  else
    if v1 = (ni 6) then
      some (.inl none, D)
    else
      some (.inr D.2.2.2.1, sm_thr D 1)) := by
  rw [sx_fe (m := 2) rfl rfl]
  exact (show sm_ge (sm_fx C 23 0 [.ref X, .int v1] [] D) _ from (sx_p (pc' := 2) (lv' := [.ref X, .int v1]) (st' := [.int (ni 5), .int v1]) q23 0 2 rfl (sx_icmp_eq q23 2 rfl rfl (sx_rv q23 11 rfl rfl) (sx_p (pc' := 8) (lv' := [.ref X, .int v1]) (st' := [.int (ni 6), .int v1]) q23 3 2 rfl (sx_icmp_eq q23 5 rfl rfl (sx_rv q23 11 rfl rfl) (sx_T q23 6 rfl rfl rfl rfl rfl th_0_63_179 (by decide) rfl rfl))))))
/-! MessageTree.address -/
theorem q24 : sm_q 24 0 sm_i24 8 := ⟨rfl, rfl, rfl⟩
set_option maxRecDepth 8000 in
theorem f24 {C : sm_K} {X : Nat} {v1 : Int32} {v2 : Int32} {v3 : Int32} {v4 : Int32} {t : Nat} (hX : sm_Lay C X) (ht : sm_tree C t) (hl : C.2.2.1.2 X 3 = .ref t) {D : sm_D} : sm_ge (sm_fe C 24 [.ref X, .int v1, .int v2, .int v3, .int v4] D) (
  sm_bv (sm_fe C 23 [.ref X, .int v1] D) (fun D1 =>
    sm_bi (sm_fe C 151 [.ref t, .int v1] D1) (fun x0 D2 =>
      sm_bv (sm_fe C 11 [.ref X, .int v2, .int x0] D2) (fun D3 =>
        sm_bv (sm_fe C 11 [.ref X, .int v3, .int (ni 3)] D3) (fun D4 =>
          sm_bi (sm_fe C 145 [.int v1, .int v2, .int v3] D4) (fun x1 D5 =>
            sm_bi (sm_fe C 17 [.ref X, .int x1, .int v4] D5) (fun x2 D6 =>
              some (.inl (some (.int x2)), D6)))))))) := by
  rw [sx_fe (m := 5) rfl rfl]
  exact (show sm_ge (sm_fx C 24 0 [.ref X, .int v1, .int v2, .int v3, .int v4] [] D) _ from (sx_p (pc' := 2) (lv' := [.ref X, .int v1, .int v2, .int v3, .int v4]) (st' := [.int v1, .ref X]) q24 0 2 rfl (sx_kv (sx_V q24 2 rfl lk_0_153 vk_23 na_23 rfl rfl rfl rfl (hX.s 0 rfl)) (by decide) rfl (fun D1 => (sx_p (pc' := 8) (lv' := [.ref X, .int v1, .int v2, .int v3, .int v4]) (st' := [.ref X, .int v2, .ref X]) q24 3 3 rfl (sx_gR q24 6 rfl fk_0_35 (fun _ _ => rfl) (hX.s 0 rfl) hl (sx_p (pc' := 12) (lv' := [.ref X, .int v1, .int v2, .int v3, .int v4]) (st' := [.int v1, .ref t, .int v2, .ref X]) q24 7 1 rfl (sx_ki (sx_V q24 8 rfl lk_0_156 vk_151 na_151 rfl rfl rfl rfl (ht.s 0 rfl)) (by decide) rfl (fun x0 D2 => (sx_kv (sx_V q24 9 rfl lk_0_117 vk_11 na_11 rfl rfl rfl rfl (hX.s 0 rfl)) (by decide) rfl (fun D3 => (sx_p (pc' := 21) (lv' := [.ref X, .int v1, .int v2, .int v3, .int v4]) (st' := [.int (ni 3), .int v3, .ref X]) q24 10 3 rfl (sx_kv (sx_V q24 13 rfl lk_0_117 vk_11 na_11 rfl rfl rfl rfl (hX.s 0 rfl)) (by decide) rfl (fun D4 => (sx_p (pc' := 28) (lv' := [.ref X, .int v1, .int v2, .int v3, .int v4]) (st' := [.int v3, .int v2, .int v1, .ref X]) q24 14 4 rfl (sx_ki (sx_S q24 18 rfl lk_0_159 rfl na_145 rfl rfl rfl rfl) (by decide) rfl (fun x1 D5 => (sx_p (pc' := 33) (lv' := [.ref X, .int v1, .int v2, .int v3, .int v4]) (st' := [.int v4, .int x1, .ref X]) q24 19 1 rfl (sx_ki (sx_V q24 20 rfl lk_0_136 vk_17 na_17 rfl rfl rfl rfl (hX.s 0 rfl)) (by decide) rfl (fun x2 D6 => (sx_ri (ty := .int) q24 21 rfl rfl)))))))))))))))))))))
/-! MessageTree.write -/
theorem q25 : sm_q 25 0 sm_i25 9 := ⟨rfl, rfl, rfl⟩
set_option maxRecDepth 8000 in
theorem f25 {C : sm_K} {X : Nat} {t : Nat} (hX : sm_Lay C X) (ht : sm_tree C t) (hl : C.2.2.1.2 X 3 = .ref t) {D : sm_D} : sm_ge (sm_fe C 25 [.ref X] D) (
  if (D.1 t 11) = ni 0 then
    some (.inr D.2.2.2.1, sm_thr D 0)
  else
    sm_bv (sm_fe C 110 [.ref (X + 20), .ref t] D) (fun D1 =>
      some (.inl (some (.int (D1.1 (X + 21) 1))), D1))) := by
  rw [sx_fe (m := 1) rfl rfl]
  exact (show sm_ge (sm_fx C 25 0 [.ref X] [] D) _ from (sx_p (pc' := 1) (lv' := [.ref X]) (st' := [.ref X]) q25 0 1 rfl (sx_gR q25 1 rfl fk_0_35 (fun _ _ => rfl) (hX.s 0 rfl) hl (sx_gI q25 2 rfl fk_0_75 rfl (ht.s 0 rfl) (ht.b 0) (sx_if_ne q25 3 rfl rfl (sx_p (pc' := 21) (lv' := [.ref X]) (st' := [.ref X]) q25 9 1 rfl (sx_gR q25 10 rfl fk_0_28 (fun _ _ => rfl) (hX.s 0 rfl) (hX.r 0 2 rfl) (sx_p (pc' := 25) (lv' := [.ref X]) (st' := [.ref X, .ref (X + 20)]) q25 11 1 rfl (sx_gR q25 12 rfl fk_0_35 (fun _ _ => rfl) (hX.s 0 rfl) hl (sx_kv (sx_V q25 13 rfl lk_0_164 vk_110 na_110 rfl rfl rfl rfl (hX.s 20 rfl)) (by decide) rfl (fun D1 => (sx_p (pc' := 32) (lv' := [.ref X]) (st' := [.ref X]) q25 14 1 rfl (sx_gR q25 15 rfl fk_0_28 (fun _ _ => rfl) (hX.s 0 rfl) (hX.r 0 2 rfl) (sx_gR q25 16 rfl fk_0_167 (fun _ _ => rfl) (hX.s 20 rfl) (hX.r 20 0 rfl) (sx_gI q25 17 rfl fk_0_46 rfl (hX.s 21 rfl) (hX.b 21) (sx_ri (ty := .int) q25 18 rfl rfl))))))))))) (sx_T q25 4 rfl rfl rfl rfl rfl th_0_52_162 (by decide) rfl rfl))))))
/-! MessageTree.out -/
theorem q26 : sm_q 26 0 sm_i26 7 := ⟨rfl, rfl, rfl⟩
set_option maxRecDepth 8000 in
theorem f26 {C : sm_K} {X : Nat} {v1 : Int32} (hX : sm_Lay C X) {D : sm_D} : sm_ge (sm_fe C 26 [.ref X, .int v1] D) (
  sm_bv (sm_fe C 11 [.ref X, .int v1, .int (D.1 (X + 21) 1)] D) (fun D1 =>
    sm_bi (sm_fe C 42 [.ref (X + 21), .int v1] D1) (fun x0 D2 =>
      some (.inl (some (.int x0)), D2)))) := by
  rw [sx_fe (m := 2) rfl rfl]
  exact (show sm_ge (sm_fx C 26 0 [.ref X, .int v1] [] D) _ from (sx_p (pc' := 3) (lv' := [.ref X, .int v1]) (st' := [.ref X, .int v1, .ref X]) q26 0 3 rfl (sx_gR q26 3 rfl fk_0_28 (fun _ _ => rfl) (hX.s 0 rfl) (hX.r 0 2 rfl) (sx_gR q26 4 rfl fk_0_167 (fun _ _ => rfl) (hX.s 20 rfl) (hX.r 20 0 rfl) (sx_gI q26 5 rfl fk_0_46 rfl (hX.s 21 rfl) (hX.b 21) (sx_kv (sx_V q26 6 rfl lk_0_117 vk_11 na_11 rfl rfl rfl rfl (hX.s 0 rfl)) (by decide) rfl (fun D1 => (sx_p (pc' := 16) (lv' := [.ref X, .int v1]) (st' := [.ref X]) q26 7 1 rfl (sx_gR q26 8 rfl fk_0_28 (fun _ _ => rfl) (hX.s 0 rfl) (hX.r 0 2 rfl) (sx_gR q26 9 rfl fk_0_167 (fun _ _ => rfl) (hX.s 20 rfl) (hX.r 20 0 rfl) (sx_p (pc' := 23) (lv' := [.ref X, .int v1]) (st' := [.int v1, .ref (X + 21)]) q26 10 1 rfl (sx_ki (sx_V q26 11 rfl lk_0_170 vk_42 na_42 rfl rfl rfl rfl (hX.s 21 rfl)) (by decide) rfl (fun x0 D2 => (sx_ri (ty := .int) q26 12 rfl rfl))))))))))))))
/-! MessageTree.again -/
theorem q27 : sm_q 27 0 sm_i27 6 := ⟨rfl, rfl, rfl⟩
set_option maxRecDepth 8000 in
theorem f27 {C : sm_K} {X : Nat} (hX : sm_Lay C X) {D : sm_D} : sm_ge (sm_fe C 27 [.ref X] D) (
  if (D.1 (X + 21) 1) ≤ (ni 8000) then
    sm_bv (sm_fe C 46 [.ref (X + 2), .ref (X + 21)] D) (fun D1 =>
      some (.inl (some (.int (D1.1 (X + 2) 1))), D1))
  else
    some (.inr D.2.2.2.1, sm_thr D 0)) := by
  rw [sx_fe (m := 1) rfl rfl]
  exact (show sm_ge (sm_fx C 27 0 [.ref X] [] D) _ from (sx_p (pc' := 1) (lv' := [.ref X]) (st' := [.ref X]) q27 0 1 rfl (sx_gR q27 1 rfl fk_0_28 (fun _ _ => rfl) (hX.s 0 rfl) (hX.r 0 2 rfl) (sx_gR q27 2 rfl fk_0_167 (fun _ _ => rfl) (hX.s 20 rfl) (hX.r 20 0 rfl) (sx_gI q27 3 rfl fk_0_46 rfl (hX.s 21 rfl) (hX.b 21) (sx_p (pc' := 13) (lv' := [.ref X]) (st' := [.int (ni 8000), .int (D.1 (X + 21) 1)]) q27 4 1 rfl (sx_icmp_le q27 5 rfl rfl (sx_p (pc' := 27) (lv' := [.ref X]) (st' := [.ref X]) q27 11 1 rfl (sx_gR q27 12 rfl fk_0_12 (fun _ _ => rfl) (hX.s 0 rfl) (hX.r 0 0 rfl) (sx_gR q27 13 rfl fk_0_42 (fun _ _ => rfl) (hX.s 1 rfl) (hX.r 1 0 rfl) (sx_p (pc' := 34) (lv' := [.ref X]) (st' := [.ref X, .ref (X + 2)]) q27 14 1 rfl (sx_gR q27 15 rfl fk_0_28 (fun _ _ => rfl) (hX.s 0 rfl) (hX.r 0 2 rfl) (sx_gR q27 16 rfl fk_0_167 (fun _ _ => rfl) (hX.s 20 rfl) (hX.r 20 0 rfl) (sx_kv (sx_V q27 17 rfl lk_0_175 vk_46 na_46 rfl rfl rfl rfl (hX.s 2 rfl)) (by decide) rfl (fun D1 => (sx_p (pc' := 44) (lv' := [.ref X]) (st' := [.ref X]) q27 18 1 rfl (sx_gR q27 19 rfl fk_0_12 (fun _ _ => rfl) (hX.s 0 rfl) (hX.r 0 0 rfl) (sx_gR q27 20 rfl fk_0_42 (fun _ _ => rfl) (hX.s 1 rfl) (hX.r 1 0 rfl) (sx_gI q27 21 rfl fk_0_46 rfl (hX.s 2 rfl) (hX.b 2) (sx_ri (ty := .int) q27 22 rfl rfl))))))))))))) (sx_T q27 6 rfl rfl rfl rfl rfl th_0_52_173 (by decide) rfl rfl))))))))
/-! MessageTree$Tape.fail -/
theorem q29 : sm_q 29 1 sm_i29 6 := ⟨rfl, rfl, rfl⟩
set_option maxRecDepth 8000 in
theorem f29 {C : sm_K} {X : Nat} {v1 : Int32} (hX : sm_Lay C X) {D : sm_D} : sm_ge (sm_fe C 29 [.ref (X + 1), .int v1] D) (
  let D1 := sm_dI D (X + 1) 1 v1
  some (.inr D1.2.2.2.1, sm_thr D1 0)) := by
  rw [sx_fe (m := 2) rfl rfl]
  exact (show sm_ge (sm_fx C 29 0 [.ref (X + 1), .int v1] [] D) _ from (sx_p (pc' := 2) (lv' := [.ref (X + 1), .int v1]) (st' := [.int v1, .ref (X + 1)]) q29 0 2 rfl (sx_pI q29 2 rfl pk_1_23 rfl (hX.s 1 rfl) (hX.b 1) (sx_T q29 3 rfl rfl rfl rfl rfl th_1_27_29 (by decide) rfl rfl))))
/-! MessageTree$Tape.openText -/
theorem q30 : sm_q 30 1 sm_i30 1 := ⟨rfl, rfl, rfl⟩
set_option maxRecDepth 8000 in
theorem f30 {C : sm_K} {X : Nat} {v1 : Int32} {v2 : Int32} (hX : sm_Lay C X) {D : sm_D} : sm_ge (sm_fe C 30 [.ref (X + 1), .int v1, .int v2] D) (
  sm_bi (sm_fe C 283 [.int v1, .int (ni 0)] D) (fun x0 D1 =>
    let D2 := sm_dI D1 (X + 1) 2 x0
    sm_bi (sm_fe C 284 [.int v2, .int (D2.1 (X + 2) 1)] D2) (fun x1 D3 =>
      let D4 := sm_dI D3 (X + 1) 3 x1
      sm_bv (sm_fe C 31 [.ref (X + 1)] D4) (fun D5 =>
        some (.inl none, D5))))) := by
  rw [sx_fe (m := 3) rfl rfl]
  exact (show sm_ge (sm_fx C 30 0 [.ref (X + 1), .int v1, .int v2] [] D) _ from (sx_p (pc' := 3) (lv' := [.ref (X + 1), .int v1, .int v2]) (st' := [.int (ni 0), .int v1, .ref (X + 1)]) q30 0 3 rfl (sx_ki (sx_S q30 3 rfl lk_1_34 rfl na_283 rfl rfl rfl rfl) (by decide) rfl (fun x0 D1 => (sx_pI q30 4 rfl pk_1_40 rfl (hX.s 1 rfl) (hX.b 1) (sx_p (pc' := 12) (lv' := [.ref (X + 1), .int v1, .int v2]) (st' := [.ref (X + 1), .int v2, .ref (X + 1)]) q30 5 3 rfl (sx_gR q30 8 rfl fk_1_14 (fun _ _ => rfl) (hX.s 1 rfl) (hX.r 1 0 rfl) (sx_gI q30 9 rfl fk_1_43 rfl (hX.s 2 rfl) (hX.b 2) (sx_ki (sx_S q30 10 rfl lk_1_46 rfl na_284 rfl rfl rfl rfl) (by decide) rfl (fun x1 D3 => (sx_pI q30 11 rfl pk_1_49 rfl (hX.s 1 rfl) (hX.b 1) (sx_p (pc' := 25) (lv' := [.ref (X + 1), .int v1, .int v2]) (st' := [.ref (X + 1)]) q30 12 1 rfl (sx_kv (sx_V q30 13 rfl lk_1_52 vk_31 na_31 rfl rfl rfl rfl (hX.s 1 rfl)) (by decide) rfl (fun D5 => (sx_rv q30 14 rfl rfl)))))))))))))))
/-! MessageTree$Tape.step -/
theorem q31 : sm_q 31 1 sm_i31 0 := ⟨rfl, rfl, rfl⟩
set_option maxRecDepth 8000 in
theorem n31_29 {C : sm_K} {X : Nat} (hX : sm_Lay C X) {D : sm_D} : sm_ge (sm_fx C 31 29 [.ref (X + 1), .ref (X + 3)] [] D) (
  if (D.1 (X + 1) 3) ≤ (D.1 (X + 1) 2) then
    sm_fx C 31 61 [.ref (X + 1), .ref (X + 3)] [] D
  else
    sm_gu (sm_in_b (D.1 (X + 1) 2) 8000) (
    if (D.1 (X + 3) (D.1 (X + 1) 2).toNatClampNeg) = (ni 13) then
      let D1 := sm_dI D (X + 1) 2 ((D.1 (X + 1) 2) + (ni 2))
      sm_fx C 31 61 [.ref (X + 1), .ref (X + 3)] [] D1
    else
      sm_fx C 31 61 [.ref (X + 1), .ref (X + 3)] [] D)) := 
  (sx_p (pc' := 30) (lv' := [.ref (X + 1), .ref (X + 3)]) (st' := [.ref (X + 1)]) q31 15 1 rfl (sx_gI q31 16 rfl fk_1_40 rfl (hX.s 1 rfl) (hX.b 1) (sx_p (pc' := 34) (lv' := [.ref (X + 1), .ref (X + 3)]) (st' := [.ref (X + 1), .int (D.1 (X + 1) 2)]) q31 17 1 rfl (sx_gI q31 18 rfl fk_1_49 rfl (hX.s 1 rfl) (hX.b 1) (sx_icmp_ge q31 19 rfl rfl (sm_ge.refl _) (sx_p (pc' := 42) (lv' := [.ref (X + 1), .ref (X + 3)]) (st' := [.ref (X + 1), .ref (X + 3)]) q31 20 2 rfl (sx_gI q31 22 rfl fk_1_40 rfl (hX.s 1 rfl) (hX.b 1) (sx_ia q31 23 rfl (hX.s 3 rfl) (hX.b 3) (sx_p (pc' := 48) (lv' := [.ref (X + 1), .ref (X + 3)]) (st' := [.int (ni 13), .int (D.1 (X + 3) (D.1 (X + 1) 2).toNatClampNeg)]) q31 24 1 rfl (sx_icmp_ne q31 25 rfl rfl (sm_ge.refl _) (sx_p (pc' := 53) (lv' := [.ref (X + 1), .ref (X + 3)]) (st' := [.ref (X + 1), .ref (X + 1)]) q31 26 2 rfl (sx_gI q31 28 rfl fk_1_40 rfl (hX.s 1 rfl) (hX.b 1) (sx_p (pc' := 58) (lv' := [.ref (X + 1), .ref (X + 3)]) (st' := [.int ((D.1 (X + 1) 2) + (ni 2)), .ref (X + 1)]) q31 29 2 rfl (sx_pI q31 31 rfl pk_1_40 rfl (hX.s 1 rfl) (hX.b 1) (sm_ge.refl _)))))))))))))))
set_option maxRecDepth 8000 in
theorem n31_61 {C : sm_K} {X : Nat} (hX : sm_Lay C X) {D : sm_D} : sm_ge (sm_fx C 31 61 [.ref (X + 1), .ref (X + 3)] [] D) (
  if (D.1 (X + 1) 3) ≤ (D.1 (X + 1) 2) then
    let D1 := sm_dI D (X + 1) 4 (sm_k (-1))
    some (.inl none, D1)
  else
    sm_gu (sm_in_b (D.1 (X + 1) 2) 8000) (
    let D2 := sm_dI D (X + 1) 4 (D.1 (X + 3) (D.1 (X + 1) 2).toNatClampNeg)
    some (.inl none, D2))) := 
  (sx_p (pc' := 63) (lv' := [.ref (X + 1), .ref (X + 3)]) (st' := [.ref (X + 1), .ref (X + 1)]) q31 32 2 rfl (sx_gI q31 34 rfl fk_1_40 rfl (hX.s 1 rfl) (hX.b 1) (sx_p (pc' := 67) (lv' := [.ref (X + 1), .ref (X + 3)]) (st' := [.ref (X + 1), .int (D.1 (X + 1) 2), .ref (X + 1)]) q31 35 1 rfl (sx_gI q31 36 rfl fk_1_49 rfl (hX.s 1 rfl) (hX.b 1) (sx_icmp_ge q31 37 rfl rfl (sx_p (pc' := 83) (lv' := [.ref (X + 1), .ref (X + 3)]) (st' := [.int (sm_k (-1)), .ref (X + 1)]) q31 43 1 rfl (sx_pI q31 44 rfl pk_1_59 rfl (hX.s 1 rfl) (hX.b 1) (sx_rv q31 45 rfl rfl))) (sx_p (pc' := 75) (lv' := [.ref (X + 1), .ref (X + 3)]) (st' := [.ref (X + 1), .ref (X + 3), .ref (X + 1)]) q31 38 2 rfl (sx_gI q31 40 rfl fk_1_40 rfl (hX.s 1 rfl) (hX.b 1) (sx_ia q31 41 rfl (hX.s 3 rfl) (hX.b 3) (sx_p (pc' := 83) (lv' := [.ref (X + 1), .ref (X + 3)]) (st' := [.int (D.1 (X + 3) (D.1 (X + 1) 2).toNatClampNeg), .ref (X + 1)]) q31 42 1 rfl (sx_pI q31 44 rfl pk_1_59 rfl (hX.s 1 rfl) (hX.b 1) (sx_rv q31 45 rfl rfl)))))))))))
set_option maxRecDepth 8000 in
theorem f31 {C : sm_K} {X : Nat} (hX : sm_Lay C X) {D : sm_D} : sm_ge (sm_fe C 31 [.ref (X + 1)] D) (
  if (D.1 (X + 1) 3) ≤ (D.1 (X + 1) 2) then
    sm_fx C 31 29 [.ref (X + 1), .ref (X + 3)] [] D
  else
    let D1 := sm_dI D (X + 1) 2 ((D.1 (X + 1) 2) + (ni 1))
    sm_fx C 31 29 [.ref (X + 1), .ref (X + 3)] [] D1) := by
  rw [sx_fe (m := 2) rfl rfl]
  exact (show sm_ge (sm_fx C 31 0 [.ref (X + 1), sm_junk] [] D) _ from (sx_p (pc' := 1) (lv' := [.ref (X + 1), sm_junk]) (st' := [.ref (X + 1)]) q31 0 1 rfl (sx_gR q31 1 rfl fk_1_14 (fun _ _ => rfl) (hX.s 1 rfl) (hX.r 1 0 rfl) (sx_gR q31 2 rfl fk_1_55 (fun _ _ => rfl) (hX.s 2 rfl) (hX.r 2 0 rfl) (sx_p (pc' := 9) (lv' := [.ref (X + 1), .ref (X + 3)]) (st' := [.ref (X + 1)]) q31 3 2 rfl (sx_gI q31 5 rfl fk_1_40 rfl (hX.s 1 rfl) (hX.b 1) (sx_p (pc' := 13) (lv' := [.ref (X + 1), .ref (X + 3)]) (st' := [.ref (X + 1), .int (D.1 (X + 1) 2)]) q31 6 1 rfl (sx_gI q31 7 rfl fk_1_49 rfl (hX.s 1 rfl) (hX.b 1) (sx_icmp_ge q31 8 rfl rfl (sm_ge.refl _) (sx_p (pc' := 21) (lv' := [.ref (X + 1), .ref (X + 3)]) (st' := [.ref (X + 1), .ref (X + 1)]) q31 9 2 rfl (sx_gI q31 11 rfl fk_1_40 rfl (hX.s 1 rfl) (hX.b 1) (sx_p (pc' := 26) (lv' := [.ref (X + 1), .ref (X + 3)]) (st' := [.int ((D.1 (X + 1) 2) + (ni 1)), .ref (X + 1)]) q31 12 2 rfl (sx_pI q31 14 rfl pk_1_40 rfl (hX.s 1 rfl) (hX.b 1) (sm_ge.refl _))))))))))))))
/-! MessageTree$Tape.skipSpace -/
theorem q32 : sm_q 32 1 sm_i32 8 := ⟨rfl, rfl, rfl⟩
set_option maxRecDepth 8000 in
theorem n32_4 {C : sm_K} {X : Nat} {v1 : Int32} {v2 : Int32} (hX : sm_Lay C X) {D : sm_D} : sm_ge (sm_fx C 32 4 [.ref (X + 1), .int v1, .int v2] [] D) (
  if (ni 8000) < v2 then
    some (.inl none, D)
  else
    if v1 = ni 0 then
      if (D.1 (X + 1) 4) = (ni 40) then
        sm_fx C 32 35 [.ref (X + 1), .int v1, .int v2] [] D
      else
        sm_bi (sm_fe C 3 [.int (D.1 (X + 1) 4)] D) (fun x0 D1 =>
          if x0 = ni 0 then
            some (.inl none, D1)
          else
            sm_fx C 32 35 [.ref (X + 1), .int v1, .int v2] [] D1)
    else
      sm_fx C 32 35 [.ref (X + 1), .int v1, .int v2] [] D) := 
  (sx_p (pc' := 8) (lv' := [.ref (X + 1), .int v1, .int v2]) (st' := [.int (ni 8000), .int v2]) q32 4 2 rfl (sx_icmp_gt q32 6 rfl rfl (sx_rv q32 55 rfl rfl) (sx_p (pc' := 12) (lv' := [.ref (X + 1), .int v1, .int v2]) (st' := [.int v1]) q32 7 1 rfl (sx_if_ne q32 8 rfl rfl (sm_ge.refl _) (sx_p (pc' := 16) (lv' := [.ref (X + 1), .int v1, .int v2]) (st' := [.ref (X + 1)]) q32 9 1 rfl (sx_gI q32 10 rfl fk_1_59 rfl (hX.s 1 rfl) (hX.b 1) (sx_p (pc' := 21) (lv' := [.ref (X + 1), .int v1, .int v2]) (st' := [.int (ni 40), .int (D.1 (X + 1) 4)]) q32 11 1 rfl (sx_icmp_eq q32 12 rfl rfl (sm_ge.refl _) (sx_p (pc' := 25) (lv' := [.ref (X + 1), .int v1, .int v2]) (st' := [.ref (X + 1)]) q32 13 1 rfl (sx_gI q32 14 rfl fk_1_59 rfl (hX.s 1 rfl) (hX.b 1) (sx_ki (sx_S q32 15 rfl lk_1_65 rfl na_3 rfl rfl rfl rfl) (by decide) rfl (fun x0 D1 => (sx_if_ne q32 16 rfl rfl (sm_ge.refl _) (sx_rv q32 17 rfl rfl))))))))))))))
set_option maxRecDepth 8000 in
theorem n32_35 {C : sm_K} {X : Nat} {v1 : Int32} {v2 : Int32} (hX : sm_Lay C X) {D : sm_D} : sm_ge (sm_fx C 32 35 [.ref (X + 1), .int v1, .int v2] [] D) (
  if (D.1 (X + 1) 4) = (sm_k (-1)) then
    sm_fx C 32 58 [.ref (X + 1), .int v1, .int v2] [] D
  else
    if (D.1 (X + 1) 4) = (ni 40) then
      if v1 = (ni 10) then
        sm_fx C 32 58 [.ref (X + 1), .int v1, .int v2] [] D
      else
        sm_fx C 32 66 [.ref (X + 1), .int v1, .int v2] [] D
    else
      sm_fx C 32 66 [.ref (X + 1), .int v1, .int v2] [] D) := 
  (sx_p (pc' := 36) (lv' := [.ref (X + 1), .int v1, .int v2]) (st' := [.ref (X + 1)]) q32 18 1 rfl (sx_gI q32 19 rfl fk_1_59 rfl (hX.s 1 rfl) (hX.b 1) (sx_p (pc' := 40) (lv' := [.ref (X + 1), .int v1, .int v2]) (st' := [.int (sm_k (-1)), .int (D.1 (X + 1) 4)]) q32 20 1 rfl (sx_icmp_eq q32 21 rfl rfl (sm_ge.refl _) (sx_p (pc' := 44) (lv' := [.ref (X + 1), .int v1, .int v2]) (st' := [.ref (X + 1)]) q32 22 1 rfl (sx_gI q32 23 rfl fk_1_59 rfl (hX.s 1 rfl) (hX.b 1) (sx_p (pc' := 49) (lv' := [.ref (X + 1), .int v1, .int v2]) (st' := [.int (ni 40), .int (D.1 (X + 1) 4)]) q32 24 1 rfl (sx_icmp_ne q32 25 rfl rfl (sm_ge.refl _) (sx_p (pc' := 55) (lv' := [.ref (X + 1), .int v1, .int v2]) (st' := [.int (ni 10), .int v1]) q32 26 2 rfl (sx_icmp_ne q32 28 rfl rfl (sm_ge.refl _) (sm_ge.refl _)))))))))))
set_option maxRecDepth 8000 in
theorem n32_58 {C : sm_K} {X : Nat} {v1 : Int32} {v2 : Int32} (hX : sm_Lay C X) {D : sm_D} : sm_ge (sm_fx C 32 58 [.ref (X + 1), .int v1, .int v2] [] D) (
  sm_bv (sm_fe C 29 [.ref (X + 1), .int (D.1 (X + 1) 2)] D) (fun D1 =>
    sm_fx C 32 66 [.ref (X + 1), .int v1, .int v2] [] D1)) := 
  (sx_p (pc' := 60) (lv' := [.ref (X + 1), .int v1, .int v2]) (st' := [.ref (X + 1), .ref (X + 1)]) q32 29 2 rfl (sx_gI q32 31 rfl fk_1_40 rfl (hX.s 1 rfl) (hX.b 1) (sx_kv (sx_V q32 32 rfl lk_1_62 vk_29 na_29 rfl rfl rfl rfl (hX.s 1 rfl)) (by decide) rfl (fun D1 => (sm_ge.refl _)))))
set_option maxRecDepth 8000 in
theorem n32_66 {C : sm_K} {X : Nat} {v1 : Int32} {v2 : Int32} (hX : sm_Lay C X) {D : sm_D} : sm_ge (sm_fx C 32 66 [.ref (X + 1), .int v1, .int v2] [] D) (
  if (D.1 (X + 1) 4) = (ni 40) then
    sm_fx C 32 109 [.ref (X + 1), .int (v1 + ni 1), .int v2] [] D
  else
    if (D.1 (X + 1) 4) = (ni 41) then
      sm_fx C 32 109 [.ref (X + 1), .int (v1 - ni 1), .int v2] [] D
    else
      if (D.1 (X + 1) 4) = (ni 92) then
        sm_bv (sm_fe C 33 [.ref (X + 1)] D) (fun D1 =>
          sm_fx C 32 109 [.ref (X + 1), .int v1, .int v2] [] D1)
      else
        sm_fx C 32 109 [.ref (X + 1), .int v1, .int v2] [] D) := 
  (sx_p (pc' := 67) (lv' := [.ref (X + 1), .int v1, .int v2]) (st' := [.ref (X + 1)]) q32 33 1 rfl (sx_gI q32 34 rfl fk_1_59 rfl (hX.s 1 rfl) (hX.b 1) (sx_p (pc' := 72) (lv' := [.ref (X + 1), .int v1, .int v2]) (st' := [.int (ni 40), .int (D.1 (X + 1) 4)]) q32 35 1 rfl (sx_icmp_ne q32 36 rfl rfl (sx_p (pc' := 82) (lv' := [.ref (X + 1), .int v1, .int v2]) (st' := [.ref (X + 1)]) q32 39 1 rfl (sx_gI q32 40 rfl fk_1_59 rfl (hX.s 1 rfl) (hX.b 1) (sx_p (pc' := 87) (lv' := [.ref (X + 1), .int v1, .int v2]) (st' := [.int (ni 41), .int (D.1 (X + 1) 4)]) q32 41 1 rfl (sx_icmp_ne q32 42 rfl rfl (sx_p (pc' := 97) (lv' := [.ref (X + 1), .int v1, .int v2]) (st' := [.ref (X + 1)]) q32 45 1 rfl (sx_gI q32 46 rfl fk_1_59 rfl (hX.s 1 rfl) (hX.b 1) (sx_p (pc' := 102) (lv' := [.ref (X + 1), .int v1, .int v2]) (st' := [.int (ni 92), .int (D.1 (X + 1) 4)]) q32 47 1 rfl (sx_icmp_ne q32 48 rfl rfl (sm_ge.refl _) (sx_p (pc' := 106) (lv' := [.ref (X + 1), .int v1, .int v2]) (st' := [.ref (X + 1)]) q32 49 1 rfl (sx_kv (sx_V q32 50 rfl lk_1_69 vk_33 na_33 rfl rfl rfl rfl (hX.s 1 rfl)) (by decide) rfl (fun D1 => (sm_ge.refl _)))))))) (sx_p (pc' := 109) (lv' := [.ref (X + 1), .int (v1 - ni 1), .int v2]) (st' := []) q32 43 2 rfl (sm_ge.refl _)))))) (sx_p (pc' := 109) (lv' := [.ref (X + 1), .int (v1 + ni 1), .int v2]) (st' := []) q32 37 2 rfl (sm_ge.refl _))))))
set_option maxRecDepth 8000 in
theorem n32_109 {C : sm_K} {X : Nat} {v1 : Int32} {v2 : Int32} (hX : sm_Lay C X) {D : sm_D} : sm_ge (sm_fx C 32 109 [.ref (X + 1), .int v1, .int v2] [] D) (
  sm_bv (sm_fe C 31 [.ref (X + 1)] D) (fun D1 =>
    sm_fx C 32 4 [.ref (X + 1), .int v1, .int (v2 + ni 1)] [] D1)) := 
  (sx_p (pc' := 110) (lv' := [.ref (X + 1), .int v1, .int v2]) (st' := [.ref (X + 1)]) q32 51 1 rfl (sx_kv (sx_V q32 52 rfl lk_1_52 vk_31 na_31 rfl rfl rfl rfl (hX.s 1 rfl)) (by decide) rfl (fun D1 => (sx_p (pc' := 4) (lv' := [.ref (X + 1), .int v1, .int (v2 + ni 1)]) (st' := []) q32 53 2 rfl (sm_ge.refl _)))))
set_option maxRecDepth 8000 in
theorem f32 {C : sm_K} {X : Nat} (hX : sm_Lay C X) {D : sm_D} : sm_ge (sm_fe C 32 [.ref (X + 1)] D) (
  sm_fx C 32 4 [.ref (X + 1), .int (ni 0), .int (ni 0)] [] D) := by
  rw [sx_fe (m := 3) rfl rfl]
  exact (show sm_ge (sm_fx C 32 0 [.ref (X + 1), sm_junk, sm_junk] [] D) _ from (sx_p (pc' := 4) (lv' := [.ref (X + 1), .int (ni 0), .int (ni 0)]) (st' := []) q32 0 4 rfl (sm_ge.refl _)))
/-! MessageTree$Tape.stepOverBackslash -/
theorem q33 : sm_q 33 1 sm_i33 7 := ⟨rfl, rfl, rfl⟩
set_option maxRecDepth 8000 in
theorem f33 {C : sm_K} {X : Nat} (hX : sm_Lay C X) {D : sm_D} : sm_ge (sm_fe C 33 [.ref (X + 1)] D) (
  sm_bv (sm_fe C 31 [.ref (X + 1)] D) (fun D1 =>
    if (D1.1 (X + 1) 4) = (sm_k (-1)) then
      sm_bv (sm_fe C 29 [.ref (X + 1), .int (D1.1 (X + 1) 2)] D1) (fun D2 =>
        some (.inl none, D2))
    else
      some (.inl none, D1))) := by
  rw [sx_fe (m := 1) rfl rfl]
  exact (show sm_ge (sm_fx C 33 0 [.ref (X + 1)] [] D) _ from (sx_p (pc' := 1) (lv' := [.ref (X + 1)]) (st' := [.ref (X + 1)]) q33 0 1 rfl (sx_kv (sx_V q33 1 rfl lk_1_52 vk_31 na_31 rfl rfl rfl rfl (hX.s 1 rfl)) (by decide) rfl (fun D1 => (sx_p (pc' := 5) (lv' := [.ref (X + 1)]) (st' := [.ref (X + 1)]) q33 2 1 rfl (sx_gI q33 3 rfl fk_1_59 rfl (hX.s 1 rfl) (hX.b 1) (sx_p (pc' := 9) (lv' := [.ref (X + 1)]) (st' := [.int (sm_k (-1)), .int (D1.1 (X + 1) 4)]) q33 4 1 rfl (sx_icmp_ne q33 5 rfl rfl (sx_rv q33 10 rfl rfl) (sx_p (pc' := 14) (lv' := [.ref (X + 1)]) (st' := [.ref (X + 1), .ref (X + 1)]) q33 6 2 rfl (sx_gI q33 8 rfl fk_1_40 rfl (hX.s 1 rfl) (hX.b 1) (sx_kv (sx_V q33 9 rfl lk_1_62 vk_29 na_29 rfl rfl rfl rfl (hX.s 1 rfl)) (by decide) rfl (fun D2 => (sx_rv q33 10 rfl rfl)))))))))))))
/-! MessageTree$Tape.word -/
theorem q34 : sm_q 34 1 sm_i34 7 := ⟨rfl, rfl, rfl⟩
set_option maxRecDepth 8000 in
theorem n34_2 {C : sm_K} {X : Nat} {s : Nat} {w : Nat} {nw : Nat} {r1 : Nat} {nr1 : Nat} {v3 : Int32} (hX : sm_Lay C X) (hs : sm_sr C s w nw) (hr1 : sm_row C r1 nr1) {D : sm_D} : sm_ge (sm_fx C 34 2 [.ref (X + 1), .ref s, .ref r1, .int v3] [] D) (
  if (ni 60) ≤ v3 then
    sm_fx C 34 37 [.ref (X + 1), .ref s, sm_junk, .int v3] [] D
  else
    sm_bi (sm_fe C 4 [.ref s, .int (D.1 (X + 1) 4)] D) (fun x0 D1 =>
      if x0 = ni 0 then
        sm_fx C 34 37 [.ref (X + 1), .ref s, sm_junk, .int v3] [] D1
      else
        sm_bv (sm_fe C 44 [.ref r1, .int (D1.1 (X + 1) 4)] D1) (fun D2 =>
          sm_bv (sm_fe C 31 [.ref (X + 1)] D2) (fun D3 =>
            sm_fx C 34 2 [.ref (X + 1), .ref s, .ref r1, .int (v3 + ni 1)] [] D3)))) := 
  (sx_p (pc' := 5) (lv' := [.ref (X + 1), .ref s, .ref r1, .int v3]) (st' := [.int (ni 60), .int v3]) q34 2 2 rfl (sx_icmp_ge q34 4 rfl rfl (sx_w (lv := [.ref (X + 1), .ref s, .ref r1, .int v3]) (lv' := [.ref (X + 1), .ref s, sm_junk, .int v3]) (sm_ordl.ord ⟨Or.inr rfl, Or.inr rfl, Or.inl rfl, Or.inr rfl, trivial⟩)) (sx_p (pc' := 10) (lv' := [.ref (X + 1), .ref s, .ref r1, .int v3]) (st' := [.ref (X + 1), .ref s]) q34 5 2 rfl (sx_gI q34 7 rfl fk_1_59 rfl (hX.s 1 rfl) (hX.b 1) (sx_ki (sx_S q34 8 rfl lk_1_72 rfl na_4 rfl rfl rfl rfl) (by decide) rfl (fun x0 D1 => (sx_if_eq q34 9 rfl rfl (sx_w (lv := [.ref (X + 1), .ref s, .ref r1, .int v3]) (lv' := [.ref (X + 1), .ref s, sm_junk, .int v3]) (sm_ordl.ord ⟨Or.inr rfl, Or.inr rfl, Or.inl rfl, Or.inr rfl, trivial⟩)) (sx_p (pc' := 21) (lv' := [.ref (X + 1), .ref s, .ref r1, .int v3]) (st' := [.ref (X + 1), .ref r1]) q34 10 2 rfl (sx_gI q34 12 rfl fk_1_59 rfl (hX.s 1 rfl) (hX.b 1) (sx_kv (sx_V q34 13 rfl lk_1_20 vk_44 na_44 rfl rfl rfl rfl (hr1.s 0 rfl)) (by decide) rfl (fun D2 => (sx_p (pc' := 28) (lv' := [.ref (X + 1), .ref s, .ref r1, .int v3]) (st' := [.ref (X + 1)]) q34 14 1 rfl (sx_kv (sx_V q34 15 rfl lk_1_52 vk_31 na_31 rfl rfl rfl rfl (hX.s 1 rfl)) (by decide) rfl (fun D3 => (sx_p (pc' := 2) (lv' := [.ref (X + 1), .ref s, .ref r1, .int (v3 + ni 1)]) (st' := []) q34 16 2 rfl (sm_ge.refl _))))))))))))))))
set_option maxRecDepth 8000 in
theorem n34_37 {C : sm_K} {X : Nat} {s : Nat} {w : Nat} {nw : Nat} {r1 : Nat} {nr1 : Nat} {v3 : Int32} (hX : sm_Lay C X) (hs : sm_sr C s w nw) (hr1 : sm_row C r1 nr1) {D : sm_D} : sm_ge (sm_fx C 34 37 [.ref (X + 1), .ref s, sm_junk, .int v3] [] D) (
  if v3 = ni 0 then
    sm_fx C 34 52 [.ref (X + 1), sm_junk, sm_junk, sm_junk] [] D
  else
    sm_bi (sm_fe C 4 [.ref s, .int (D.1 (X + 1) 4)] D) (fun x0 D1 =>
      if x0 = ni 0 then
        some (.inl none, D1)
      else
        sm_fx C 34 52 [.ref (X + 1), sm_junk, sm_junk, sm_junk] [] D1)) := 
  (sx_p (pc' := 38) (lv' := [.ref (X + 1), .ref s, sm_junk, .int v3]) (st' := [.int v3]) q34 18 1 rfl (sx_if_eq q34 19 rfl rfl (sx_w (lv := [.ref (X + 1), .ref s, sm_junk, .int v3]) (lv' := [.ref (X + 1), sm_junk, sm_junk, sm_junk]) (sm_ordl.ord ⟨Or.inr rfl, Or.inl rfl, Or.inl rfl, Or.inl rfl, trivial⟩)) (sx_p (pc' := 43) (lv' := [.ref (X + 1), .ref s, sm_junk, .int v3]) (st' := [.ref (X + 1), .ref s]) q34 20 2 rfl (sx_gI q34 22 rfl fk_1_59 rfl (hX.s 1 rfl) (hX.b 1) (sx_ki (sx_S q34 23 rfl lk_1_72 rfl na_4 rfl rfl rfl rfl) (by decide) rfl (fun x0 D1 => (sx_if_eq q34 24 rfl rfl (sx_rv q34 29 rfl rfl) (sx_w (lv := [.ref (X + 1), .ref s, sm_junk, .int v3]) (lv' := [.ref (X + 1), sm_junk, sm_junk, sm_junk]) (sm_ordl.ord ⟨Or.inr rfl, Or.inl rfl, Or.inl rfl, Or.inl rfl, trivial⟩)))))))))
set_option maxRecDepth 8000 in
theorem n34_52 {C : sm_K} {X : Nat} {s : Nat} {w : Nat} {nw : Nat} {r1 : Nat} {nr1 : Nat} (hX : sm_Lay C X) (hs : sm_sr C s w nw) (hr1 : sm_row C r1 nr1) {D : sm_D} : sm_ge (sm_fx C 34 52 [.ref (X + 1), sm_junk, sm_junk, sm_junk] [] D) (
  sm_bv (sm_fe C 29 [.ref (X + 1), .int (D.1 (X + 1) 2)] D) (fun D1 =>
    some (.inl none, D1))) := 
  (sx_p (pc' := 54) (lv' := [.ref (X + 1), sm_junk, sm_junk, sm_junk]) (st' := [.ref (X + 1), .ref (X + 1)]) q34 25 2 rfl (sx_gI q34 27 rfl fk_1_40 rfl (hX.s 1 rfl) (hX.b 1) (sx_kv (sx_V q34 28 rfl lk_1_62 vk_29 na_29 rfl rfl rfl rfl (hX.s 1 rfl)) (by decide) rfl (fun D1 => (sx_rv q34 29 rfl rfl)))))
set_option maxRecDepth 8000 in
theorem f34 {C : sm_K} {X : Nat} {s : Nat} {w : Nat} {nw : Nat} {r1 : Nat} {nr1 : Nat} (hX : sm_Lay C X) (hs : sm_sr C s w nw) (hr1 : sm_row C r1 nr1) {D : sm_D} : sm_ge (sm_fe C 34 [.ref (X + 1), .ref s, .ref r1] D) (
  sm_fx C 34 2 [.ref (X + 1), .ref s, .ref r1, .int (ni 0)] [] D) := by
  rw [sx_fe (m := 4) rfl rfl]
  exact (show sm_ge (sm_fx C 34 0 [.ref (X + 1), .ref s, .ref r1, sm_junk] [] D) _ from (sx_p (pc' := 2) (lv' := [.ref (X + 1), .ref s, .ref r1, .int (ni 0)]) (st' := []) q34 0 2 rfl (sm_ge.refl _)))
/-! MessageTree$Tape.expect -/
theorem q35 : sm_q 35 1 sm_i35 7 := ⟨rfl, rfl, rfl⟩
set_option maxRecDepth 8000 in
theorem n35_16 {C : sm_K} {X : Nat} (hX : sm_Lay C X) {D : sm_D} : sm_ge (sm_fx C 35 16 [.ref (X + 1), sm_junk] [] D) (
  sm_bv (sm_fe C 31 [.ref (X + 1)] D) (fun D1 =>
    some (.inl none, D1))) := 
  (sx_p (pc' := 17) (lv' := [.ref (X + 1), sm_junk]) (st' := [.ref (X + 1)]) q35 8 1 rfl (sx_kv (sx_V q35 9 rfl lk_1_52 vk_31 na_31 rfl rfl rfl rfl (hX.s 1 rfl)) (by decide) rfl (fun D1 => (sx_rv q35 10 rfl rfl))))
set_option maxRecDepth 8000 in
theorem f35 {C : sm_K} {X : Nat} {v1 : Int32} (hX : sm_Lay C X) {D : sm_D} : sm_ge (sm_fe C 35 [.ref (X + 1), .int v1] D) (
  if (D.1 (X + 1) 4) = v1 then
    sm_fx C 35 16 [.ref (X + 1), sm_junk] [] D
  else
    sm_bv (sm_fe C 29 [.ref (X + 1), .int (D.1 (X + 1) 2)] D) (fun D1 =>
      sm_fx C 35 16 [.ref (X + 1), sm_junk] [] D1)) := by
  rw [sx_fe (m := 2) rfl rfl]
  exact (show sm_ge (sm_fx C 35 0 [.ref (X + 1), .int v1] [] D) _ from (sx_p (pc' := 1) (lv' := [.ref (X + 1), .int v1]) (st' := [.ref (X + 1)]) q35 0 1 rfl (sx_gI q35 1 rfl fk_1_59 rfl (hX.s 1 rfl) (hX.b 1) (sx_p (pc' := 5) (lv' := [.ref (X + 1), .int v1]) (st' := [.int v1, .int (D.1 (X + 1) 4)]) q35 2 1 rfl (sx_icmp_eq q35 3 rfl rfl (sx_w (lv := [.ref (X + 1), .int v1]) (lv' := [.ref (X + 1), sm_junk]) (sm_ordl.ord ⟨Or.inr rfl, Or.inl rfl, trivial⟩)) (sx_p (pc' := 10) (lv' := [.ref (X + 1), .int v1]) (st' := [.ref (X + 1), .ref (X + 1)]) q35 4 2 rfl (sx_gI q35 6 rfl fk_1_40 rfl (hX.s 1 rfl) (hX.b 1) (sx_kv (sx_V q35 7 rfl lk_1_62 vk_29 na_29 rfl rfl rfl rfl (hX.s 1 rfl)) (by decide) rfl (fun D1 => (sx_w (lv := [.ref (X + 1), .int v1]) (lv' := [.ref (X + 1), sm_junk]) (sm_ordl.ord ⟨Or.inr rfl, Or.inl rfl, trivial⟩)))))))))))
/-! MessageTree$Tape.quoted -/
theorem q36 : sm_q 36 1 sm_i36 8 := ⟨rfl, rfl, rfl⟩
set_option maxRecDepth 8000 in
theorem n36_6 {C : sm_K} {X : Nat} {r0 : Nat} {nr0 : Nat} {v2 : Int32} {v3 : Int32} (hX : sm_Lay C X) (hr0 : sm_row C r0 nr0) {D : sm_D} : sm_ge (sm_fx C 36 6 [.ref (X + 1), .ref r0, .int v2, .int v3] [] D) (
  if v2 < v3 then
    sm_fx C 36 72 [.ref (X + 1), sm_junk, sm_junk, sm_junk] [] D
  else
    if (D.1 (X + 1) 4) = (ni 34) then
      sm_fx C 36 72 [.ref (X + 1), sm_junk, sm_junk, sm_junk] [] D
    else
      if v3 = v2 then
        sm_fx C 36 33 [.ref (X + 1), .ref r0, .int v2, .int v3] [] D
      else
        if (D.1 (X + 1) 4) = (sm_k (-1)) then
          sm_fx C 36 33 [.ref (X + 1), .ref r0, .int v2, .int v3] [] D
        else
          sm_fx C 36 41 [.ref (X + 1), .ref r0, .int v2, .int v3] [] D) := 
  (sx_p (pc' := 8) (lv' := [.ref (X + 1), .ref r0, .int v2, .int v3]) (st' := [.int v2, .int v3]) q36 4 2 rfl (sx_icmp_gt q36 6 rfl rfl (sx_w (lv := [.ref (X + 1), .ref r0, .int v2, .int v3]) (lv' := [.ref (X + 1), sm_junk, sm_junk, sm_junk]) (sm_ordl.ord ⟨Or.inr rfl, Or.inl rfl, Or.inl rfl, Or.inl rfl, trivial⟩)) (sx_p (pc' := 12) (lv' := [.ref (X + 1), .ref r0, .int v2, .int v3]) (st' := [.ref (X + 1)]) q36 7 1 rfl (sx_gI q36 8 rfl fk_1_59 rfl (hX.s 1 rfl) (hX.b 1) (sx_p (pc' := 17) (lv' := [.ref (X + 1), .ref r0, .int v2, .int v3]) (st' := [.int (ni 34), .int (D.1 (X + 1) 4)]) q36 9 1 rfl (sx_icmp_eq q36 10 rfl rfl (sx_w (lv := [.ref (X + 1), .ref r0, .int v2, .int v3]) (lv' := [.ref (X + 1), sm_junk, sm_junk, sm_junk]) (sm_ordl.ord ⟨Or.inr rfl, Or.inl rfl, Or.inl rfl, Or.inl rfl, trivial⟩)) (sx_p (pc' := 22) (lv' := [.ref (X + 1), .ref r0, .int v2, .int v3]) (st' := [.int v2, .int v3]) q36 11 2 rfl (sx_icmp_eq q36 13 rfl rfl (sm_ge.refl _) (sx_p (pc' := 26) (lv' := [.ref (X + 1), .ref r0, .int v2, .int v3]) (st' := [.ref (X + 1)]) q36 14 1 rfl (sx_gI q36 15 rfl fk_1_59 rfl (hX.s 1 rfl) (hX.b 1) (sx_p (pc' := 30) (lv' := [.ref (X + 1), .ref r0, .int v2, .int v3]) (st' := [.int (sm_k (-1)), .int (D.1 (X + 1) 4)]) q36 16 1 rfl (sx_icmp_ne q36 17 rfl rfl (sm_ge.refl _) (sm_ge.refl _)))))))))))))
set_option maxRecDepth 8000 in
theorem n36_33 {C : sm_K} {X : Nat} {r0 : Nat} {nr0 : Nat} {v2 : Int32} {v3 : Int32} (hX : sm_Lay C X) (hr0 : sm_row C r0 nr0) {D : sm_D} : sm_ge (sm_fx C 36 33 [.ref (X + 1), .ref r0, .int v2, .int v3] [] D) (
  sm_bv (sm_fe C 29 [.ref (X + 1), .int (D.1 (X + 1) 2)] D) (fun D1 =>
    sm_fx C 36 41 [.ref (X + 1), .ref r0, .int v2, .int v3] [] D1)) := 
  (sx_p (pc' := 35) (lv' := [.ref (X + 1), .ref r0, .int v2, .int v3]) (st' := [.ref (X + 1), .ref (X + 1)]) q36 18 2 rfl (sx_gI q36 20 rfl fk_1_40 rfl (hX.s 1 rfl) (hX.b 1) (sx_kv (sx_V q36 21 rfl lk_1_62 vk_29 na_29 rfl rfl rfl rfl (hX.s 1 rfl)) (by decide) rfl (fun D1 => (sm_ge.refl _)))))
set_option maxRecDepth 8000 in
theorem n36_41 {C : sm_K} {X : Nat} {r0 : Nat} {nr0 : Nat} {v2 : Int32} {v3 : Int32} (hX : sm_Lay C X) (hr0 : sm_row C r0 nr0) {D : sm_D} : sm_ge (sm_fx C 36 41 [.ref (X + 1), .ref r0, .int v2, .int v3] [] D) (
  if (D.1 (X + 1) 4) = (ni 92) then
    sm_bv (sm_fe C 33 [.ref (X + 1)] D) (fun D1 =>
      sm_fx C 36 54 [.ref (X + 1), .ref r0, .int v2, .int v3] [] D1)
  else
    sm_fx C 36 54 [.ref (X + 1), .ref r0, .int v2, .int v3] [] D) := 
  (sx_p (pc' := 42) (lv' := [.ref (X + 1), .ref r0, .int v2, .int v3]) (st' := [.ref (X + 1)]) q36 22 1 rfl (sx_gI q36 23 rfl fk_1_59 rfl (hX.s 1 rfl) (hX.b 1) (sx_p (pc' := 47) (lv' := [.ref (X + 1), .ref r0, .int v2, .int v3]) (st' := [.int (ni 92), .int (D.1 (X + 1) 4)]) q36 24 1 rfl (sx_icmp_ne q36 25 rfl rfl (sm_ge.refl _) (sx_p (pc' := 51) (lv' := [.ref (X + 1), .ref r0, .int v2, .int v3]) (st' := [.ref (X + 1)]) q36 26 1 rfl (sx_kv (sx_V q36 27 rfl lk_1_69 vk_33 na_33 rfl rfl rfl rfl (hX.s 1 rfl)) (by decide) rfl (fun D1 => (sm_ge.refl _))))))))
set_option maxRecDepth 8000 in
theorem n36_54 {C : sm_K} {X : Nat} {r0 : Nat} {nr0 : Nat} {v2 : Int32} {v3 : Int32} (hX : sm_Lay C X) (hr0 : sm_row C r0 nr0) {D : sm_D} : sm_ge (sm_fx C 36 54 [.ref (X + 1), .ref r0, .int v2, .int v3] [] D) (
  sm_bv (sm_fe C 44 [.ref r0, .int (D.1 (X + 1) 4)] D) (fun D1 =>
    sm_bv (sm_fe C 31 [.ref (X + 1)] D1) (fun D2 =>
      sm_fx C 36 6 [.ref (X + 1), .ref r0, .int v2, .int (v3 + ni 1)] [] D2))) := 
  (sx_p (pc' := 56) (lv' := [.ref (X + 1), .ref r0, .int v2, .int v3]) (st' := [.ref (X + 1), .ref r0]) q36 28 2 rfl (sx_gI q36 30 rfl fk_1_59 rfl (hX.s 1 rfl) (hX.b 1) (sx_kv (sx_V q36 31 rfl lk_1_20 vk_44 na_44 rfl rfl rfl rfl (hr0.s 0 rfl)) (by decide) rfl (fun D1 => (sx_p (pc' := 63) (lv' := [.ref (X + 1), .ref r0, .int v2, .int v3]) (st' := [.ref (X + 1)]) q36 32 1 rfl (sx_kv (sx_V q36 33 rfl lk_1_52 vk_31 na_31 rfl rfl rfl rfl (hX.s 1 rfl)) (by decide) rfl (fun D2 => (sx_p (pc' := 6) (lv' := [.ref (X + 1), .ref r0, .int v2, .int (v3 + ni 1)]) (st' := []) q36 34 2 rfl (sm_ge.refl _)))))))))
set_option maxRecDepth 8000 in
theorem n36_72 {C : sm_K} {X : Nat} {r0 : Nat} {nr0 : Nat} (hX : sm_Lay C X) (hr0 : sm_row C r0 nr0) {D : sm_D} : sm_ge (sm_fx C 36 72 [.ref (X + 1), sm_junk, sm_junk, sm_junk] [] D) (
  sm_bv (sm_fe C 31 [.ref (X + 1)] D) (fun D1 =>
    some (.inl none, D1))) := 
  (sx_p (pc' := 73) (lv' := [.ref (X + 1), sm_junk, sm_junk, sm_junk]) (st' := [.ref (X + 1)]) q36 36 1 rfl (sx_kv (sx_V q36 37 rfl lk_1_52 vk_31 na_31 rfl rfl rfl rfl (hX.s 1 rfl)) (by decide) rfl (fun D1 => (sx_rv q36 38 rfl rfl))))
set_option maxRecDepth 8000 in
theorem f36 {C : sm_K} {X : Nat} {r0 : Nat} {nr0 : Nat} {v2 : Int32} (hX : sm_Lay C X) (hr0 : sm_row C r0 nr0) {D : sm_D} : sm_ge (sm_fe C 36 [.ref (X + 1), .ref r0, .int v2] D) (
  sm_bv (sm_fe C 31 [.ref (X + 1)] D) (fun D1 =>
    sm_fx C 36 6 [.ref (X + 1), .ref r0, .int v2, .int (ni 0)] [] D1)) := by
  rw [sx_fe (m := 4) rfl rfl]
  exact (show sm_ge (sm_fx C 36 0 [.ref (X + 1), .ref r0, .int v2, sm_junk] [] D) _ from (sx_p (pc' := 1) (lv' := [.ref (X + 1), .ref r0, .int v2, sm_junk]) (st' := [.ref (X + 1)]) q36 0 1 rfl (sx_kv (sx_V q36 1 rfl lk_1_52 vk_31 na_31 rfl rfl rfl rfl (hX.s 1 rfl)) (by decide) rfl (fun D1 => (sx_p (pc' := 6) (lv' := [.ref (X + 1), .ref r0, .int v2, .int (ni 0)]) (st' := []) q36 2 2 rfl (sm_ge.refl _))))))
/-! MessageTree$Tape.expectEnd -/
theorem q37 : sm_q 37 1 sm_i37 7 := ⟨rfl, rfl, rfl⟩
set_option maxRecDepth 8000 in
theorem f37 {C : sm_K} {X : Nat} (hX : sm_Lay C X) {D : sm_D} : sm_ge (sm_fe C 37 [.ref (X + 1)] D) (
  if (D.1 (X + 1) 4) = (sm_k (-1)) then
    some (.inl none, D)
  else
    sm_bv (sm_fe C 29 [.ref (X + 1), .int (D.1 (X + 1) 2)] D) (fun D1 =>
      some (.inl none, D1))) := by
  rw [sx_fe (m := 1) rfl rfl]
  exact (show sm_ge (sm_fx C 37 0 [.ref (X + 1)] [] D) _ from (sx_p (pc' := 1) (lv' := [.ref (X + 1)]) (st' := [.ref (X + 1)]) q37 0 1 rfl (sx_gI q37 1 rfl fk_1_59 rfl (hX.s 1 rfl) (hX.b 1) (sx_p (pc' := 5) (lv' := [.ref (X + 1)]) (st' := [.int (sm_k (-1)), .int (D.1 (X + 1) 4)]) q37 2 1 rfl (sx_icmp_eq q37 3 rfl rfl (sx_rv q37 8 rfl rfl) (sx_p (pc' := 10) (lv' := [.ref (X + 1)]) (st' := [.ref (X + 1), .ref (X + 1)]) q37 4 2 rfl (sx_gI q37 6 rfl fk_1_40 rfl (hX.s 1 rfl) (hX.b 1) (sx_kv (sx_V q37 7 rfl lk_1_62 vk_29 na_29 rfl rfl rfl rfl (hX.s 1 rfl)) (by decide) rfl (fun D1 => (sx_rv q37 8 rfl rfl))))))))))
/-! MessageTree$Tape.digits -/
theorem q38 : sm_q 38 1 sm_i38 7 := ⟨rfl, rfl, rfl⟩
set_option maxRecDepth 8000 in
theorem n38_4 {C : sm_K} {X : Nat} {v1 : Int32} {v2 : Int32} {v3 : Int32} (hX : sm_Lay C X) {D : sm_D} : sm_ge (sm_fx C 38 4 [.ref (X + 1), .int v1, .int v2, .int v3] [] D) (
  if v1 ≤ v3 then
    some (.inl (some (.int v2)), D)
  else
    sm_bi (sm_fe C 6 [.int (D.1 (X + 1) 4)] D) (fun x0 D1 =>
      if x0 = ni 0 then
        sm_bv (sm_fe C 29 [.ref (X + 1), .int (D1.1 (X + 1) 2)] D1) (fun D2 =>
          sm_fx C 38 27 [.ref (X + 1), .int v1, .int v2, .int v3] [] D2)
      else
        sm_fx C 38 27 [.ref (X + 1), .int v1, .int v2, .int v3] [] D1)) := 
  (sx_p (pc' := 6) (lv' := [.ref (X + 1), .int v1, .int v2, .int v3]) (st' := [.int v1, .int v3]) q38 4 2 rfl (sx_icmp_ge q38 6 rfl rfl (sx_p (pc' := 51) (lv' := [.ref (X + 1), .int v1, .int v2, .int v3]) (st' := [.int v2]) q38 28 1 rfl (sx_ri (ty := .int) q38 29 rfl rfl)) (sx_p (pc' := 10) (lv' := [.ref (X + 1), .int v1, .int v2, .int v3]) (st' := [.ref (X + 1)]) q38 7 1 rfl (sx_gI q38 8 rfl fk_1_59 rfl (hX.s 1 rfl) (hX.b 1) (sx_ki (sx_S q38 9 rfl lk_1_82 rfl na_6 rfl rfl rfl rfl) (by decide) rfl (fun x0 D1 => (sx_if_ne q38 10 rfl rfl (sm_ge.refl _) (sx_p (pc' := 21) (lv' := [.ref (X + 1), .int v1, .int v2, .int v3]) (st' := [.ref (X + 1), .ref (X + 1)]) q38 11 2 rfl (sx_gI q38 13 rfl fk_1_40 rfl (hX.s 1 rfl) (hX.b 1) (sx_kv (sx_V q38 14 rfl lk_1_62 vk_29 na_29 rfl rfl rfl rfl (hX.s 1 rfl)) (by decide) rfl (fun D2 => (sm_ge.refl _))))))))))))
set_option maxRecDepth 8000 in
theorem n38_27 {C : sm_K} {X : Nat} {v1 : Int32} {v2 : Int32} {v3 : Int32} (hX : sm_Lay C X) {D : sm_D} : sm_ge (sm_fx C 38 27 [.ref (X + 1), .int v1, .int v2, .int v3] [] D) (
  sm_bv (sm_fe C 31 [.ref (X + 1)] D) (fun D1 =>
    sm_fx C 38 4 [.ref (X + 1), .int v1, .int ((v2 * (ni 10)) + ((D.1 (X + 1) 4) - (ni 48))), .int (v3 + ni 1)] [] D1)) := 
  (sx_p (pc' := 32) (lv' := [.ref (X + 1), .int v1, .int v2, .int v3]) (st' := [.ref (X + 1), .int (v2 * (ni 10))]) q38 15 4 rfl (sx_gI q38 19 rfl fk_1_59 rfl (hX.s 1 rfl) (hX.b 1) (sx_p (pc' := 41) (lv' := [.ref (X + 1), .int v1, .int ((v2 * (ni 10)) + ((D.1 (X + 1) 4) - (ni 48))), .int v3]) (st' := [.ref (X + 1)]) q38 20 5 rfl (sx_kv (sx_V q38 25 rfl lk_1_52 vk_31 na_31 rfl rfl rfl rfl (hX.s 1 rfl)) (by decide) rfl (fun D1 => (sx_p (pc' := 4) (lv' := [.ref (X + 1), .int v1, .int ((v2 * (ni 10)) + ((D.1 (X + 1) 4) - (ni 48))), .int (v3 + ni 1)]) (st' := []) q38 26 2 rfl (sm_ge.refl _)))))))
set_option maxRecDepth 8000 in
theorem f38 {C : sm_K} {X : Nat} {v1 : Int32} (hX : sm_Lay C X) {D : sm_D} : sm_ge (sm_fe C 38 [.ref (X + 1), .int v1] D) (
  sm_fx C 38 4 [.ref (X + 1), .int v1, .int (ni 0), .int (ni 0)] [] D) := by
  rw [sx_fe (m := 4) rfl rfl]
  exact (show sm_ge (sm_fx C 38 0 [.ref (X + 1), .int v1, sm_junk, sm_junk] [] D) _ from (sx_p (pc' := 4) (lv' := [.ref (X + 1), .int v1, .int (ni 0), .int (ni 0)]) (st' := []) q38 0 4 rfl (sm_ge.refl _)))
/-! MessageTree$Tape.dotted -/
theorem q39 : sm_q 39 1 sm_i39 8 := ⟨rfl, rfl, rfl⟩
set_option maxRecDepth 8000 in
theorem n39_9 {C : sm_K} {X : Nat} {r0 : Nat} {nr0 : Nat} {v2 : Int32} (hX : sm_Lay C X) (hr0 : sm_row C r0 nr0) {D : sm_D} : sm_ge (sm_fx C 39 9 [.ref (X + 1), .ref r0, .int v2] [] D) (
  if (ni 8000) ≤ v2 then
    sm_fx C 39 50 [sm_junk, sm_junk, .int v2] [] D
  else
    if (D.1 (X + 1) 4) = (ni 46) then
      sm_bv (sm_fe C 44 [.ref r0, .int (D.1 (X + 1) 4)] D) (fun D1 =>
        sm_bv (sm_fe C 31 [.ref (X + 1)] D1) (fun D2 =>
          sm_bv (sm_fe C 34 [.ref (X + 1), .ref (C.1.1 22), .ref r0] D2) (fun D3 =>
            sm_fx C 39 9 [.ref (X + 1), .ref r0, .int (v2 + ni 1)] [] D3)))
    else
      sm_fx C 39 50 [sm_junk, sm_junk, .int v2] [] D) := 
  (sx_p (pc' := 13) (lv' := [.ref (X + 1), .ref r0, .int v2]) (st' := [.int (ni 8000), .int v2]) q39 6 2 rfl (sx_icmp_ge q39 8 rfl rfl (sx_w (lv := [.ref (X + 1), .ref r0, .int v2]) (lv' := [sm_junk, sm_junk, .int v2]) (sm_ordl.ord ⟨Or.inl rfl, Or.inl rfl, Or.inr rfl, trivial⟩)) (sx_p (pc' := 17) (lv' := [.ref (X + 1), .ref r0, .int v2]) (st' := [.ref (X + 1)]) q39 9 1 rfl (sx_gI q39 10 rfl fk_1_59 rfl (hX.s 1 rfl) (hX.b 1) (sx_p (pc' := 22) (lv' := [.ref (X + 1), .ref r0, .int v2]) (st' := [.int (ni 46), .int (D.1 (X + 1) 4)]) q39 11 1 rfl (sx_icmp_ne q39 12 rfl rfl (sx_w (lv := [.ref (X + 1), .ref r0, .int v2]) (lv' := [sm_junk, sm_junk, .int v2]) (sm_ordl.ord ⟨Or.inl rfl, Or.inl rfl, Or.inr rfl, trivial⟩)) (sx_p (pc' := 27) (lv' := [.ref (X + 1), .ref r0, .int v2]) (st' := [.ref (X + 1), .ref r0]) q39 13 2 rfl (sx_gI q39 15 rfl fk_1_59 rfl (hX.s 1 rfl) (hX.b 1) (sx_kv (sx_V q39 16 rfl lk_1_20 vk_44 na_44 rfl rfl rfl rfl (hr0.s 0 rfl)) (by decide) rfl (fun D1 => (sx_p (pc' := 34) (lv' := [.ref (X + 1), .ref r0, .int v2]) (st' := [.ref (X + 1)]) q39 17 1 rfl (sx_kv (sx_V q39 18 rfl lk_1_52 vk_31 na_31 rfl rfl rfl rfl (hX.s 1 rfl)) (by decide) rfl (fun D2 => (sx_p (pc' := 38) (lv' := [.ref (X + 1), .ref r0, .int v2]) (st' := [.ref (X + 1)]) q39 19 1 rfl (sx_cs q39 20 rfl (Or.inl ⟨rfl, rfl⟩) cs_1_76 (sx_p (pc' := 41) (lv' := [.ref (X + 1), .ref r0, .int v2]) (st' := [.ref r0, .ref (C.1.1 22), .ref (X + 1)]) q39 21 1 rfl (sx_kv (sx_V q39 22 rfl lk_1_78 vk_34 na_34 rfl rfl rfl rfl (hX.s 1 rfl)) (by decide) rfl (fun D3 => (sx_p (pc' := 9) (lv' := [.ref (X + 1), .ref r0, .int (v2 + ni 1)]) (st' := []) q39 23 2 rfl (sm_ge.refl _))))))))))))))))))))
set_option maxRecDepth 8000 in
theorem n39_50 {C : sm_K} {X : Nat} {r0 : Nat} {nr0 : Nat} {v2 : Int32} (hX : sm_Lay C X) (hr0 : sm_row C r0 nr0) {D : sm_D} : sm_ge (sm_fx C 39 50 [sm_junk, sm_junk, .int v2] [] D) (
  if v2 ≤ ni 0 then
    some (.inl (some (.int (sm_nar .boolean (ni 0)))), D)
  else
    some (.inl (some (.int (sm_nar .boolean (ni 1)))), D)) := 
  (sx_p (pc' := 51) (lv' := [sm_junk, sm_junk, .int v2]) (st' := [.int v2]) q39 25 1 rfl (sx_if_le q39 26 rfl rfl (sx_p (pc' := 59) (lv' := [sm_junk, sm_junk, .int v2]) (st' := [.int (ni 0)]) q39 29 1 rfl (sx_ri (ty := .boolean) q39 30 rfl rfl)) (sx_p (pc' := 59) (lv' := [sm_junk, sm_junk, .int v2]) (st' := [.int (ni 1)]) q39 27 2 rfl (sx_ri (ty := .boolean) q39 30 rfl rfl))))
set_option maxRecDepth 8000 in
theorem f39 {C : sm_K} {X : Nat} {r0 : Nat} {nr0 : Nat} (hX : sm_Lay C X) (hr0 : sm_row C r0 nr0) {D : sm_D} : sm_ge (sm_fe C 39 [.ref (X + 1), .ref r0] D) (
  sm_bv (sm_fe C 34 [.ref (X + 1), .ref (C.1.1 22), .ref r0] D) (fun D1 =>
    sm_fx C 39 9 [.ref (X + 1), .ref r0, .int (ni 0)] [] D1)) := by
  rw [sx_fe (m := 3) rfl rfl]
  exact (show sm_ge (sm_fx C 39 0 [.ref (X + 1), .ref r0, sm_junk] [] D) _ from (sx_p (pc' := 1) (lv' := [.ref (X + 1), .ref r0, sm_junk]) (st' := [.ref (X + 1)]) q39 0 1 rfl (sx_cs q39 1 rfl (Or.inl ⟨rfl, rfl⟩) cs_1_76 (sx_p (pc' := 4) (lv' := [.ref (X + 1), .ref r0, sm_junk]) (st' := [.ref r0, .ref (C.1.1 22), .ref (X + 1)]) q39 2 1 rfl (sx_kv (sx_V q39 3 rfl lk_1_78 vk_34 na_34 rfl rfl rfl rfl (hX.s 1 rfl)) (by decide) rfl (fun D1 => (sx_p (pc' := 9) (lv' := [.ref (X + 1), .ref r0, .int (ni 0)]) (st' := []) q39 4 2 rfl (sm_ge.refl _))))))))
