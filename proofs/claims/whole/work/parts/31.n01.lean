/-! ===== what methods do from place to place, written by a program (wip/tools/gen_nodes.py) ===== -/
/-! MessageTree$Tape.addNumber -/
theorem q40 : sm_q 40 1 sm_i40 1 := ⟨rfl, rfl, rfl⟩
set_option maxRecDepth 8000 in
theorem n40_3 {C : sm_K} {X : Nat} {v1 : Int32} {v2 : Int32} (hX : sm_Lay C X) {D : sm_D} : sm_ge (sm_fx C 40 3 [.ref (X + 1), .int v1, .int v2] [] D) (
  if v2 < ni 0 then
    some (.inl none, D)
  else
    sm_bv (sm_fe C 44 [.ref (X + 2), .int (((v1.toUInt32 >>> (v2.toUInt32 &&& Int32.toUInt32 31)).toInt32) &&& (ni 255))] D) (fun D1 =>
      sm_fx C 40 3 [.ref (X + 1), .int v1, .int (v2 - ni 8)] [] D1)) := 
  (sx_p (pc' := 4) (lv' := [.ref (X + 1), .int v1, .int v2]) (st' := [.int v2]) q40 2 1 rfl (sx_if_lt q40 3 rfl rfl (sx_rv q40 14 rfl rfl) (sx_p (pc' := 8) (lv' := [.ref (X + 1), .int v1, .int v2]) (st' := [.ref (X + 1)]) q40 4 1 rfl (sx_gR q40 5 rfl fk_1_14 (fun _ _ => rfl) (hX.s 1 rfl) (hX.r 1 0 rfl) (sx_p (pc' := 18) (lv' := [.ref (X + 1), .int v1, .int v2]) (st' := [.int (((v1.toUInt32 >>> (v2.toUInt32 &&& Int32.toUInt32 31)).toInt32) &&& (ni 255)), .ref (X + 2)]) q40 6 5 rfl (sx_kv (sx_V q40 11 rfl lk_1_20 vk_44 na_44 rfl rfl rfl rfl (hX.s 2 rfl)) (by decide) rfl (fun D1 => (sx_p (pc' := 3) (lv' := [.ref (X + 1), .int v1, .int (v2 - ni 8)]) (st' := []) q40 12 2 rfl (sm_ge.refl _)))))))))
set_option maxRecDepth 8000 in
theorem f40 {C : sm_K} {X : Nat} {v1 : Int32} (hX : sm_Lay C X) {D : sm_D} : sm_ge (sm_fe C 40 [.ref (X + 1), .int v1] D) (
  sm_fx C 40 3 [.ref (X + 1), .int v1, .int (ni 24)] [] D) := by
  rw [sx_fe (m := 3) rfl rfl]
  exact (show sm_ge (sm_fx C 40 0 [.ref (X + 1), .int v1, sm_junk] [] D) _ from (sx_p (pc' := 3) (lv' := [.ref (X + 1), .int v1, .int (ni 24)]) (st' := []) q40 0 2 rfl (sm_ge.refl _)))
/-! MessageTree$Row.at -/
theorem q42 : sm_q 42 2 sm_i42 0 := ⟨rfl, rfl, rfl⟩
set_option maxRecDepth 8000 in
theorem f42 {C : sm_K} {r : Nat} {nr : Nat} {v1 : Int32} (hr : sm_row C r nr) {D : sm_D} : sm_ge (sm_fe C 42 [.ref r, .int v1] D) (
  if v1 < ni 0 then
    some (.inl (some (.int (sm_k (-1)))), D)
  else
    if (D.1 r 1) ≤ v1 then
      some (.inl (some (.int (sm_k (-1)))), D)
    else
      if (ni nr) ≤ v1 then
        some (.inl (some (.int (sm_k (-1)))), D)
      else
        sm_gu (sm_in_b v1 nr) (
        some (.inl (some (.int (D.1 (r + 1) v1.toNatClampNeg))), D))) := by
  rw [sx_fe (m := 2) rfl rfl]
  exact (show sm_ge (sm_fx C 42 0 [.ref r, .int v1] [] D) _ from (sx_p (pc' := 1) (lv' := [.ref r, .int v1]) (st' := [.int v1]) q42 0 1 rfl (sx_if_lt q42 1 rfl rfl (sx_p (pc' := 31) (lv' := [.ref r, .int v1]) (st' := [.int (sm_k (-1))]) q42 16 1 rfl (sx_ri (ty := .int) q42 17 rfl rfl)) (sx_p (pc' := 6) (lv' := [.ref r, .int v1]) (st' := [.ref r, .int v1]) q42 2 2 rfl (sx_gI q42 4 rfl fk_2_21 rfl (hr.s 0 rfl) (hr.b 0) (sx_icmp_ge q42 5 rfl rfl (sx_p (pc' := 31) (lv' := [.ref r, .int v1]) (st' := [.int (sm_k (-1))]) q42 16 1 rfl (sx_ri (ty := .int) q42 17 rfl rfl)) (sx_p (pc' := 14) (lv' := [.ref r, .int v1]) (st' := [.ref r, .int v1]) q42 6 2 rfl (sx_gR q42 8 rfl fk_2_15 (fun _ _ => rfl) (hr.s 0 rfl) (hr.r 0 0 rfl) (sx_al q42 9 rfl (hr.s 1 rfl) (sx_icmp_ge q42 10 rfl rfl (sx_p (pc' := 31) (lv' := [.ref r, .int v1]) (st' := [.int (sm_k (-1))]) q42 16 1 rfl (sx_ri (ty := .int) q42 17 rfl rfl)) (sx_p (pc' := 22) (lv' := [.ref r, .int v1]) (st' := [.ref r]) q42 11 1 rfl (sx_gR q42 12 rfl fk_2_15 (fun _ _ => rfl) (hr.s 0 rfl) (hr.r 0 0 rfl) (sx_p (pc' := 26) (lv' := [.ref r, .int v1]) (st' := [.int v1, .ref (r + 1)]) q42 13 1 rfl (sx_ia q42 14 rfl (hr.s 1 rfl) (hr.b 1) (sx_p (pc' := 31) (lv' := [.ref r, .int v1]) (st' := [.int (D.1 (r + 1) v1.toNatClampNeg)]) q42 15 1 rfl (sx_ri (ty := .int) q42 17 rfl rfl))))))))))))))))
/-! MessageTree$Row.spells -/
theorem q43 : sm_q 43 2 sm_i43 4 := ⟨rfl, rfl, rfl⟩
set_option maxRecDepth 8000 in
theorem n43_13 {C : sm_K} {r : Nat} {nr : Nat} {s : Nat} {w : Nat} {nw : Nat} {v1 : Int32} {v2 : Int32} {v4 : Int32} (hr : sm_row C r nr) (hs : sm_sr C s w nw) {D : sm_D} : sm_ge (sm_fx C 43 13 [.ref r, .int v1, .int v2, .ref s, .int v4] [] D) (
  if v2 ≤ v4 then
    some (.inl (some (.int (sm_nar .boolean (ni 1)))), D)
  else
    sm_bi (sm_fe C 42 [.ref r, .int (v1 + v4)] D) (fun x0 D1 =>
      sm_bi (sm_fe C 2 [.int x0] D1) (fun x1 D2 =>
        sm_bi (sm_fe C 262 [.ref s, .int v4] D2) (fun x2 D3 =>
          if x1 = x2 then
            sm_fx C 43 13 [.ref r, .int v1, .int v2, .ref s, .int (v4 + ni 1)] [] D3
          else
            some (.inl (some (.int (sm_nar .boolean (ni 0)))), D3))))) := 
  (sx_p (pc' := 16) (lv' := [.ref r, .int v1, .int v2, .ref s, .int v4]) (st' := [.int v2, .int v4]) q43 8 2 rfl (sx_icmp_ge q43 10 rfl rfl (sx_p (pc' := 48) (lv' := [.ref r, .int v1, .int v2, .ref s, .int v4]) (st' := [.int (ni 1)]) q43 25 1 rfl (sx_ri (ty := .boolean) q43 26 rfl rfl)) (sx_p (pc' := 24) (lv' := [.ref r, .int v1, .int v2, .ref s, .int v4]) (st' := [.int (v1 + v4), .ref r]) q43 11 4 rfl (sx_ki (sx_V q43 15 rfl lk_2_34 vk_42 na_42 rfl rfl rfl rfl (hr.s 0 rfl)) (by decide) rfl (fun x0 D1 => (sx_ki (sx_S q43 16 rfl lk_2_48 rfl na_2 rfl rfl rfl rfl) (by decide) rfl (fun x1 D2 => (sx_p (pc' := 33) (lv' := [.ref r, .int v1, .int v2, .ref s, .int v4]) (st' := [.int v4, .ref s, .int x1]) q43 17 2 rfl (sx_ki (sx_V q43 19 rfl lk_2_51 vk_262 na_262 rfl rfl rfl rfl hs.1) (by decide) rfl (fun x2 D3 => (sx_icmp_eq q43 20 rfl rfl (sx_p (pc' := 13) (lv' := [.ref r, .int v1, .int v2, .ref s, .int (v4 + ni 1)]) (st' := []) q43 23 2 rfl (sm_ge.refl _)) (sx_p (pc' := 40) (lv' := [.ref r, .int v1, .int v2, .ref s, .int v4]) (st' := [.int (ni 0)]) q43 21 1 rfl (sx_ri (ty := .boolean) q43 22 rfl rfl)))))))))))))
set_option maxRecDepth 8000 in
theorem f43 {C : sm_K} {r : Nat} {nr : Nat} {v1 : Int32} {v2 : Int32} {s : Nat} {w : Nat} {nw : Nat} (hr : sm_row C r nr) (hs : sm_sr C s w nw) {D : sm_D} : sm_ge (sm_fe C 43 [.ref r, .int v1, .int v2, .ref s] D) (
  sm_bi (sm_fe C 260 [.ref s] D) (fun x0 D1 =>
    if v2 = x0 then
      sm_fx C 43 13 [.ref r, .int v1, .int v2, .ref s, .int (ni 0)] [] D1
    else
      some (.inl (some (.int (sm_nar .boolean (ni 0)))), D1))) := by
  rw [sx_fe (m := 5) rfl rfl]
  exact (show sm_ge (sm_fx C 43 0 [.ref r, .int v1, .int v2, .ref s, sm_junk] [] D) _ from (sx_p (pc' := 2) (lv' := [.ref r, .int v1, .int v2, .ref s, sm_junk]) (st' := [.ref s, .int v2]) q43 0 2 rfl (sx_ki (sx_V q43 2 rfl lk_2_42 vk_260 na_260 rfl rfl rfl rfl hs.1) (by decide) rfl (fun x0 D1 => (sx_icmp_eq q43 3 rfl rfl (sx_p (pc' := 13) (lv' := [.ref r, .int v1, .int v2, .ref s, .int (ni 0)]) (st' := []) q43 6 2 rfl (sm_ge.refl _)) (sx_p (pc' := 9) (lv' := [.ref r, .int v1, .int v2, .ref s, sm_junk]) (st' := [.int (ni 0)]) q43 4 1 rfl (sx_ri (ty := .boolean) q43 5 rfl rfl)))))))
/-! MessageTree$Row.add -/
theorem q44 : sm_q 44 2 sm_i44 0 := ⟨rfl, rfl, rfl⟩
set_option maxRecDepth 8000 in
theorem f44 {C : sm_K} {r : Nat} {nr : Nat} {v1 : Int32} (hr : sm_row C r nr) {D : sm_D} : sm_ge (sm_fe C 44 [.ref r, .int v1] D) (
  if (D.1 r 1) < ni 0 then
    some (.inl none, D)
  else
    if (ni nr) ≤ (D.1 r 1) then
      some (.inl none, D)
    else
      sm_gu (sm_in_b (D.1 r 1) nr) (
      let D1 := sm_dI D (r + 1) ((D.1 r 1).toNatClampNeg) v1
      let D2 := sm_dI D1 r 1 ((D1.1 r 1) + (ni 1))
      some (.inl none, D2))) := by
  rw [sx_fe (m := 2) rfl rfl]
  exact (show sm_ge (sm_fx C 44 0 [.ref r, .int v1] [] D) _ from (sx_p (pc' := 1) (lv' := [.ref r, .int v1]) (st' := [.ref r]) q44 0 1 rfl (sx_gI q44 1 rfl fk_2_21 rfl (hr.s 0 rfl) (hr.b 0) (sx_if_lt q44 2 rfl rfl (sx_rv q44 21 rfl rfl) (sx_p (pc' := 8) (lv' := [.ref r, .int v1]) (st' := [.ref r]) q44 3 1 rfl (sx_gI q44 4 rfl fk_2_21 rfl (hr.s 0 rfl) (hr.b 0) (sx_p (pc' := 12) (lv' := [.ref r, .int v1]) (st' := [.ref r, .int (D.1 r 1)]) q44 5 1 rfl (sx_gR q44 6 rfl fk_2_15 (fun _ _ => rfl) (hr.s 0 rfl) (hr.r 0 0 rfl) (sx_al q44 7 rfl (hr.s 1 rfl) (sx_icmp_ge q44 8 rfl rfl (sx_rv q44 21 rfl rfl) (sx_p (pc' := 20) (lv' := [.ref r, .int v1]) (st' := [.ref r]) q44 9 1 rfl (sx_gR q44 10 rfl fk_2_15 (fun _ _ => rfl) (hr.s 0 rfl) (hr.r 0 0 rfl) (sx_p (pc' := 24) (lv' := [.ref r, .int v1]) (st' := [.ref r, .ref (r + 1)]) q44 11 1 rfl (sx_gI q44 12 rfl fk_2_21 rfl (hr.s 0 rfl) (hr.b 0) (sx_p (pc' := 28) (lv' := [.ref r, .int v1]) (st' := [.int v1, .int (D.1 r 1), .ref (r + 1)]) q44 13 1 rfl (sx_is q44 14 rfl (hr.s 1 rfl) (hr.b 1) (sx_p (pc' := 31) (lv' := [.ref r, .int v1]) (st' := [.ref r, .ref r]) q44 15 2 rfl (sx_gI q44 17 rfl fk_2_21 rfl (hr.s 0 rfl) (hr.b 0) (sx_p (pc' := 36) (lv' := [.ref r, .int v1]) (st' := [.int (((sm_dI D (r + 1) ((D.1 r 1).toNatClampNeg) v1).1 r 1) + (ni 1)), .ref r]) q44 18 2 rfl (sx_pI q44 20 rfl pk_2_21 rfl (hr.s 0 rfl) (hr.b 0) (sx_rv q44 21 rfl rfl)))))))))))))))))))))
/-! MessageTree$Row.behindRun -/
theorem q45 : sm_q 45 2 sm_i45 1 := ⟨rfl, rfl, rfl⟩
set_option maxRecDepth 8000 in
theorem n45_3 {C : sm_K} {r : Nat} {nr : Nat} {v2 : Int32} {v3 : Int32} {v4 : Int32} (hr : sm_row C r nr) {D : sm_D} : sm_ge (sm_fx C 45 3 [.ref r, sm_junk, .int v2, .int v3, .int v4] [] D) (
  if v2 ≤ v4 then
    some (.inl (some (.int v4)), D)
  else
    sm_bi (sm_fe C 42 [.ref r, .int v4] D) (fun x0 D1 =>
      sm_bi (sm_fe C 3 [.int x0] D1) (fun x1 D2 =>
        if x1 = v3 then
          sm_fx C 45 3 [.ref r, sm_junk, .int v2, .int v3, .int (v4 + ni 1)] [] D2
        else
          some (.inl (some (.int v4)), D2)))) := 
  (sx_p (pc' := 6) (lv' := [.ref r, sm_junk, .int v2, .int v3, .int v4]) (st' := [.int v2, .int v4]) q45 2 2 rfl (sx_icmp_ge q45 4 rfl rfl (sx_p (pc' := 30) (lv' := [.ref r, sm_junk, .int v2, .int v3, .int v4]) (st' := [.int v4]) q45 13 1 rfl (sx_ri (ty := .int) q45 14 rfl rfl)) (sx_p (pc' := 12) (lv' := [.ref r, sm_junk, .int v2, .int v3, .int v4]) (st' := [.int v4, .ref r]) q45 5 2 rfl (sx_ki (sx_V q45 7 rfl lk_2_34 vk_42 na_42 rfl rfl rfl rfl (hr.s 0 rfl)) (by decide) rfl (fun x0 D1 => (sx_ki (sx_S q45 8 rfl lk_2_38 rfl na_3 rfl rfl rfl rfl) (by decide) rfl (fun x1 D2 => (sx_p (pc' := 19) (lv' := [.ref r, sm_junk, .int v2, .int v3, .int v4]) (st' := [.int v3, .int x1]) q45 9 1 rfl (sx_icmp_ne q45 10 rfl rfl (sx_p (pc' := 30) (lv' := [.ref r, sm_junk, .int v2, .int v3, .int v4]) (st' := [.int v4]) q45 13 1 rfl (sx_ri (ty := .int) q45 14 rfl rfl)) (sx_p (pc' := 3) (lv' := [.ref r, sm_junk, .int v2, .int v3, .int (v4 + ni 1)]) (st' := []) q45 11 2 rfl (sm_ge.refl _)))))))))))
set_option maxRecDepth 8000 in
theorem f45 {C : sm_K} {r : Nat} {nr : Nat} {v1 : Int32} {v2 : Int32} {v3 : Int32} (hr : sm_row C r nr) {D : sm_D} : sm_ge (sm_fe C 45 [.ref r, .int v1, .int v2, .int v3] D) (
  sm_fx C 45 3 [.ref r, sm_junk, .int v2, .int v3, .int v1] [] D) := by
  rw [sx_fe (m := 5) rfl rfl]
  exact (show sm_ge (sm_fx C 45 0 [.ref r, .int v1, .int v2, .int v3, sm_junk] [] D) _ from (sx_p (pc' := 3) (lv' := [.ref r, .int v1, .int v2, .int v3, .int v1]) (st' := []) q45 0 2 rfl (sx_w (lv := [.ref r, .int v1, .int v2, .int v3, .int v1]) (lv' := [.ref r, sm_junk, .int v2, .int v3, .int v1]) (sm_ordl.ord ⟨Or.inr rfl, Or.inl rfl, Or.inr rfl, Or.inr rfl, Or.inr rfl, trivial⟩))))
/-! MessageTree$Row.take -/
theorem q46 : sm_q 46 2 sm_i46 1 := ⟨rfl, rfl, rfl⟩
set_option maxRecDepth 8000 in
theorem f46 {C : sm_K} {r : Nat} {nr : Nat} {r0 : Nat} {nr0 : Nat} (hr : sm_row C r nr) (hr0 : sm_row C r0 nr0) {D : sm_D} : sm_ge (sm_fe C 46 [.ref r, .ref r0] D) (
  sm_bi (sm_fe C 284 [.int (D.1 r0 1), .int (ni nr)] D) (fun x0 D1 =>
    sm_cpy nr0 nr (r0 + 1) (ni 0) (r + 1) (ni 0) x0 D1 (fun D2 =>
      let D3 := sm_dI D2 r 1 x0
      some (.inl none, D3)))) := by
  rw [sx_fe (m := 3) rfl rfl]
  exact (show sm_ge (sm_fx C 46 0 [.ref r, .ref r0, sm_junk] [] D) _ from (sx_p (pc' := 1) (lv' := [.ref r, .ref r0, sm_junk]) (st' := [.ref r0]) q46 0 1 rfl (sx_gI q46 1 rfl fk_2_21 rfl (hr0.s 0 rfl) (hr0.b 0) (sx_p (pc' := 5) (lv' := [.ref r, .ref r0, sm_junk]) (st' := [.ref r, .int (D.1 r0 1)]) q46 2 1 rfl (sx_gR q46 3 rfl fk_2_15 (fun _ _ => rfl) (hr.s 0 rfl) (hr.r 0 0 rfl) (sx_al q46 4 rfl (hr.s 1 rfl) (sx_ki (sx_S q46 5 rfl lk_2_25 rfl na_284 rfl rfl rfl rfl) (by decide) rfl (fun x0 D1 => (sx_p (pc' := 14) (lv' := [.ref r, .ref r0, .int x0]) (st' := [.ref r0]) q46 6 2 rfl (sx_gR q46 8 rfl fk_2_15 (fun _ _ => rfl) (hr0.s 0 rfl) (hr0.r 0 0 rfl) (sx_p (pc' := 19) (lv' := [.ref r, .ref r0, .int x0]) (st' := [.ref r, .int (ni 0), .ref (r0 + 1)]) q46 9 2 rfl (sx_gR q46 11 rfl fk_2_15 (fun _ _ => rfl) (hr.s 0 rfl) (hr.r 0 0 rfl) (sx_p (pc' := 24) (lv' := [.ref r, .ref r0, .int x0]) (st' := [.int x0, .int (ni 0), .ref (r + 1), .int (ni 0), .ref (r0 + 1)]) q46 12 2 rfl (sx_cp q46 14 rfl cp_2_28 (by decide) rfl (hr0.s 1 rfl) (hr.s 1 rfl) (hr0.b 1) (hr.b 1) (fun D2 => (sx_p (pc' := 29) (lv' := [.ref r, .ref r0, .int x0]) (st' := [.int x0, .ref r]) q46 15 2 rfl (sx_pI q46 17 rfl pk_2_21 rfl (hr.s 0 rfl) (hr.b 0) (sx_rv q46 18 rfl rfl))))))))))))))))))
/-! MessageTree$Reader.readMessage -/
theorem q48 : sm_q 48 3 sm_i48 12 := ⟨rfl, rfl, rfl⟩
set_option maxRecDepth 8000 in
theorem n48_17 {C : sm_K} {X : Nat} {t : Nat} {v2 : Int32} (hX : sm_Lay C X) (ht : sm_tree C t) {D : sm_D} : sm_ge (sm_fx C 48 17 [.ref (X + 4), .ref t, .int v2, sm_junk] [] D) (
  if (ni 40) ≤ v2 then
    some (.inl none, D)
  else
    sm_bv (sm_fe C 126 [.ref t, .int (D.1 (X + 14) 7)] D) (fun D1 =>
      sm_bi (sm_fe C 50 [.ref (X + 4), .ref t, .int v2, .int (D1.1 (X + 14) 8), .int (D1.1 (X + 14) 9)] D1) (fun x0 D2 =>
        sm_bv (sm_fe C 56 [.ref (X + 4), .ref t, .int v2] D2) (fun D3 =>
          sm_gu (sm_in_b v2 40) (
          if (D3.1 (t + 10) v2.toNatClampNeg) = ni 0 then
            sm_bv (sm_fe C 85 [.ref (X + 10), .ref t, .int v2, .int x0, .int (D3.1 (X + 14) 9)] D3) (fun D4 =>
              sm_fx C 48 100 [.ref (X + 4), .ref t, .int v2, sm_junk] [] D4)
          else
            sm_bv (sm_fe C 103 [.ref (X + 14), .ref t, .int v2, .int x0] D3) (fun D5 =>
              sm_fx C 48 100 [.ref (X + 4), .ref t, .int v2, sm_junk] [] D5)))))) := 
  (sx_p (pc' := 20) (lv' := [.ref (X + 4), .ref t, .int v2, sm_junk]) (st' := [.int (ni 40), .int v2]) q48 9 2 rfl (sx_icmp_ge q48 11 rfl rfl (sx_rv q48 61 rfl rfl) (sx_p (pc' := 25) (lv' := [.ref (X + 4), .ref t, .int v2, sm_junk]) (st' := [.ref (X + 4), .ref t]) q48 12 2 rfl (sx_gR q48 14 rfl fk_3_64 (fun _ _ => rfl) (hX.s 4 rfl) (hX.r 4 8 rfl) (sx_gI q48 15 rfl fk_3_79 rfl (hX.s 14 rfl) (hX.b 14) (sx_kv (sx_V q48 16 rfl lk_3_83 vk_126 na_126 rfl rfl rfl rfl (ht.s 0 rfl)) (by decide) rfl (fun D1 => (sx_p (pc' := 38) (lv' := [.ref (X + 4), .ref t, .int v2, sm_junk]) (st' := [.ref (X + 4), .int v2, .ref t, .ref (X + 4)]) q48 17 4 rfl (sx_gR q48 21 rfl fk_3_64 (fun _ _ => rfl) (hX.s 4 rfl) (hX.r 4 8 rfl) (sx_gI q48 22 rfl fk_3_87 rfl (hX.s 14 rfl) (hX.b 14) (sx_p (pc' := 45) (lv' := [.ref (X + 4), .ref t, .int v2, sm_junk]) (st' := [.ref (X + 4), .int (D1.1 (X + 14) 8), .int v2, .ref t, .ref (X + 4)]) q48 23 1 rfl (sx_gR q48 24 rfl fk_3_64 (fun _ _ => rfl) (hX.s 4 rfl) (hX.r 4 8 rfl) (sx_gI q48 25 rfl fk_3_90 rfl (hX.s 14 rfl) (hX.b 14) (sx_ki (sx_V q48 26 rfl lk_3_93 vk_50 na_50 rfl rfl rfl rfl (hX.s 4 rfl)) (by decide) rfl (fun x0 D2 => (sx_p (pc' := 58) (lv' := [.ref (X + 4), .ref t, .int v2, .int x0]) (st' := [.int v2, .ref t, .ref (X + 4)]) q48 27 4 rfl (sx_kv (sx_V q48 31 rfl lk_3_97 vk_56 na_56 rfl rfl rfl rfl (hX.s 4 rfl)) (by decide) rfl (fun D3 => (sx_p (pc' := 62) (lv' := [.ref (X + 4), .ref t, .int v2, .int x0]) (st' := [.ref t]) q48 32 1 rfl (sx_gR q48 33 rfl fk_3_101 (fun _ _ => rfl) (ht.s 0 rfl) (ht.r 0 8 rfl) (sx_p (pc' := 66) (lv' := [.ref (X + 4), .ref t, .int v2, .int x0]) (st' := [.int v2, .ref (t + 10)]) q48 34 1 rfl (sx_ba q48 35 rfl (ht.s 10 rfl) (by simp) (ht.b 10) (sx_if_eq q48 36 rfl rfl (sx_p (pc' := 84) (lv' := [.ref (X + 4), .ref t, .int v2, .int x0]) (st' := [.ref (X + 4)]) q48 44 1 rfl (sx_gR q48 45 rfl fk_3_48 (fun _ _ => rfl) (hX.s 4 rfl) (hX.r 4 7 rfl) (sx_p (pc' := 91) (lv' := [.ref (X + 4), .ref t, .int v2, .int x0]) (st' := [.ref (X + 4), .int x0, .int v2, .ref t, .ref (X + 10)]) q48 46 4 rfl (sx_gR q48 50 rfl fk_3_64 (fun _ _ => rfl) (hX.s 4 rfl) (hX.r 4 8 rfl) (sx_gI q48 51 rfl fk_3_90 rfl (hX.s 14 rfl) (hX.b 14) (sx_kv (sx_V q48 52 rfl lk_3_109 vk_85 na_85 rfl rfl rfl rfl (hX.s 10 rfl)) (by decide) rfl (fun D4 => (sx_w (lv := [.ref (X + 4), .ref t, .int v2, .int x0]) (lv' := [.ref (X + 4), .ref t, .int v2, sm_junk]) (sm_ordl.ord ⟨Or.inr rfl, Or.inr rfl, Or.inr rfl, Or.inl rfl, trivial⟩))))))))) (sx_p (pc' := 71) (lv' := [.ref (X + 4), .ref t, .int v2, .int x0]) (st' := [.ref (X + 4)]) q48 37 1 rfl (sx_gR q48 38 rfl fk_3_64 (fun _ _ => rfl) (hX.s 4 rfl) (hX.r 4 8 rfl) (sx_p (pc' := 77) (lv' := [.ref (X + 4), .ref t, .int v2, .int x0]) (st' := [.int x0, .int v2, .ref t, .ref (X + 14)]) q48 39 3 rfl (sx_kv (sx_V q48 42 rfl lk_3_105 vk_103 na_103 rfl rfl rfl rfl (hX.s 14 rfl)) (by decide) rfl (fun D5 => (sx_p (pc' := 100) (lv' := [.ref (X + 4), .ref t, .int v2, .int x0]) (st' := []) q48 43 1 rfl (sx_w (lv := [.ref (X + 4), .ref t, .int v2, .int x0]) (lv' := [.ref (X + 4), .ref t, .int v2, sm_junk]) (sm_ordl.ord ⟨Or.inr rfl, Or.inr rfl, Or.inr rfl, Or.inl rfl, trivial⟩)))))))))))))))))))))))))))))))
set_option maxRecDepth 8000 in
theorem n48_100 {C : sm_K} {X : Nat} {t : Nat} {v2 : Int32} (hX : sm_Lay C X) (ht : sm_tree C t) {D : sm_D} : sm_ge (sm_fx C 48 100 [.ref (X + 4), .ref t, .int v2, sm_junk] [] D) (
  sm_bi (sm_fe C 108 [.ref (X + 14), .ref t] D) (fun x0 D1 =>
    if x0 = ni 0 then
      some (.inl none, D1)
    else
      sm_fx C 48 17 [.ref (X + 4), .ref t, .int (v2 + ni 1), sm_junk] [] D1)) := 
  (sx_p (pc' := 101) (lv' := [.ref (X + 4), .ref t, .int v2, sm_junk]) (st' := [.ref (X + 4)]) q48 53 1 rfl (sx_gR q48 54 rfl fk_3_64 (fun _ _ => rfl) (hX.s 4 rfl) (hX.r 4 8 rfl) (sx_p (pc' := 105) (lv' := [.ref (X + 4), .ref t, .int v2, sm_junk]) (st' := [.ref t, .ref (X + 14)]) q48 55 1 rfl (sx_ki (sx_V q48 56 rfl lk_3_113 vk_108 na_108 rfl rfl rfl rfl (hX.s 14 rfl)) (by decide) rfl (fun x0 D1 => (sx_if_ne q48 57 rfl rfl (sx_p (pc' := 17) (lv' := [.ref (X + 4), .ref t, .int (v2 + ni 1), sm_junk]) (st' := []) q48 59 2 rfl (sm_ge.refl _)) (sx_rv q48 58 rfl rfl)))))))
set_option maxRecDepth 8000 in
theorem f48 {C : sm_K} {X : Nat} {t : Nat} (hX : sm_Lay C X) (ht : sm_tree C t) {D : sm_D} : sm_ge (sm_fe C 48 [.ref (X + 4), .ref t] D) (
  sm_bv (sm_fe C 49 [.ref (X + 4)] D) (fun D1 =>
    sm_bv (sm_fe C 125 [.ref t] D1) (fun D2 =>
      sm_bv (sm_fe C 102 [.ref (X + 14)] D2) (fun D3 =>
        sm_fx C 48 17 [.ref (X + 4), .ref t, .int (ni 0), sm_junk] [] D3)))) := by
  rw [sx_fe (m := 4) rfl rfl]
  exact (show sm_ge (sm_fx C 48 0 [.ref (X + 4), .ref t, sm_junk, sm_junk] [] D) _ from (sx_p (pc' := 1) (lv' := [.ref (X + 4), .ref t, sm_junk, sm_junk]) (st' := [.ref (X + 4)]) q48 0 1 rfl (sx_kv (sx_V q48 1 rfl lk_3_68 vk_49 na_49 rfl rfl rfl rfl (hX.s 4 rfl)) (by decide) rfl (fun D1 => (sx_p (pc' := 5) (lv' := [.ref (X + 4), .ref t, sm_junk, sm_junk]) (st' := [.ref t]) q48 2 1 rfl (sx_kv (sx_V q48 3 rfl lk_3_71 vk_125 na_125 rfl rfl rfl rfl (ht.s 0 rfl)) (by decide) rfl (fun D2 => (sx_p (pc' := 9) (lv' := [.ref (X + 4), .ref t, sm_junk, sm_junk]) (st' := [.ref (X + 4)]) q48 4 1 rfl (sx_gR q48 5 rfl fk_3_64 (fun _ _ => rfl) (hX.s 4 rfl) (hX.r 4 8 rfl) (sx_kv (sx_V q48 6 rfl lk_3_76 vk_102 na_102 rfl rfl rfl rfl (hX.s 14 rfl)) (by decide) rfl (fun D3 => (sx_p (pc' := 17) (lv' := [.ref (X + 4), .ref t, .int (ni 0), sm_junk]) (st' := []) q48 7 2 rfl (sm_ge.refl _)))))))))))))
/-! MessageTree$Reader.checkLines -/
theorem q49 : sm_q 49 3 sm_i49 7 := ⟨rfl, rfl, rfl⟩
set_option maxRecDepth 8000 in
theorem n49_15 {C : sm_K} {X : Nat} {v1 : Int32} {v2 : Int32} {v3 : Int32} (hX : sm_Lay C X) {D : sm_D} : sm_ge (sm_fx C 49 15 [.ref (X + 4), .int v1, .int v2, .int v3, sm_junk] [] D) (
  if v1 ≤ v3 then
    some (.inl none, D)
  else
    sm_bi (sm_fe C 42 [.ref (X + 2), .int v3] D) (fun x0 D1 =>
      if x0 = (ni 13) then
        sm_bi (sm_fe C 42 [.ref (X + 2), .int (v3 + (ni 1))] D1) (fun x1 D2 =>
          if x1 = (ni 10) then
            sm_fx C 49 15 [.ref (X + 4), .int v1, .int (ni 0), .int ((v3 + ni 1) + ni 1), sm_junk] [] D2
          else
            sm_fx C 49 69 [.ref (X + 4), .int v1, .int (v2 + ni 1), .int v3, .int x0] [] D2)
      else
        sm_fx C 49 69 [.ref (X + 4), .int v1, .int (v2 + ni 1), .int v3, .int x0] [] D1)) := 
  (sx_p (pc' := 17) (lv' := [.ref (X + 4), .int v1, .int v2, .int v3, sm_junk]) (st' := [.int v1, .int v3]) q49 9 2 rfl (sx_icmp_ge q49 11 rfl rfl (sx_rv q49 50 rfl rfl) (sx_p (pc' := 21) (lv' := [.ref (X + 4), .int v1, .int v2, .int v3, sm_junk]) (st' := [.ref (X + 4)]) q49 12 1 rfl (sx_gR q49 13 rfl fk_3_18 (fun _ _ => rfl) (hX.s 4 rfl) (hX.r 4 0 rfl) (sx_gR q49 14 rfl fk_3_117 (fun _ _ => rfl) (hX.s 1 rfl) (hX.r 1 0 rfl) (sx_p (pc' := 28) (lv' := [.ref (X + 4), .int v1, .int v2, .int v3, sm_junk]) (st' := [.int v3, .ref (X + 2)]) q49 15 1 rfl (sx_ki (sx_V q49 16 rfl lk_3_128 vk_42 na_42 rfl rfl rfl rfl (hX.s 2 rfl)) (by decide) rfl (fun x0 D1 => (sx_p (pc' := 40) (lv' := [.ref (X + 4), .int v1, .int (v2 + ni 1), .int v3, .int x0]) (st' := [.int (ni 13), .int x0]) q49 17 4 rfl (sx_icmp_ne q49 21 rfl rfl (sm_ge.refl _) (sx_p (pc' := 44) (lv' := [.ref (X + 4), .int v1, .int (v2 + ni 1), .int v3, .int x0]) (st' := [.ref (X + 4)]) q49 22 1 rfl (sx_gR q49 23 rfl fk_3_18 (fun _ _ => rfl) (hX.s 4 rfl) (hX.r 4 0 rfl) (sx_gR q49 24 rfl fk_3_117 (fun _ _ => rfl) (hX.s 1 rfl) (hX.r 1 0 rfl) (sx_p (pc' := 53) (lv' := [.ref (X + 4), .int v1, .int (v2 + ni 1), .int v3, .int x0]) (st' := [.int (v3 + (ni 1)), .ref (X + 2)]) q49 25 3 rfl (sx_ki (sx_V q49 28 rfl lk_3_128 vk_42 na_42 rfl rfl rfl rfl (hX.s 2 rfl)) (by decide) rfl (fun x1 D2 => (sx_p (pc' := 58) (lv' := [.ref (X + 4), .int v1, .int (v2 + ni 1), .int v3, .int x0]) (st' := [.int (ni 10), .int x1]) q49 29 1 rfl (sx_icmp_ne q49 30 rfl rfl (sm_ge.refl _) (sx_p (pc' := 98) (lv' := [.ref (X + 4), .int v1, .int (ni 0), .int (v3 + ni 1), .int x0]) (st' := []) q49 31 4 rfl (sx_p (pc' := 15) (lv' := [.ref (X + 4), .int v1, .int (ni 0), .int ((v3 + ni 1) + ni 1), .int x0]) (st' := []) q49 48 2 rfl (sx_w (lv := [.ref (X + 4), .int v1, .int (ni 0), .int ((v3 + ni 1) + ni 1), .int x0]) (lv' := [.ref (X + 4), .int v1, .int (ni 0), .int ((v3 + ni 1) + ni 1), sm_junk]) (sm_ordl.ord ⟨Or.inr rfl, Or.inr rfl, Or.inr rfl, Or.inr rfl, Or.inl rfl, trivial⟩))))))))))))))))))))))
set_option maxRecDepth 8000 in
theorem n49_69 {C : sm_K} {X : Nat} {v1 : Int32} {v2 : Int32} {v3 : Int32} {v4 : Int32} (hX : sm_Lay C X) {D : sm_D} : sm_ge (sm_fx C 49 69 [.ref (X + 4), .int v1, .int v2, .int v3, .int v4] [] D) (
  if v4 = (ni 13) then
    sm_fx C 49 90 [.ref (X + 4), .int v1, .int v2, .int v3, sm_junk] [] D
  else
    if v4 = (ni 10) then
      sm_fx C 49 90 [.ref (X + 4), .int v1, .int v2, .int v3, sm_junk] [] D
    else
      if v2 ≤ (ni 998) then
        sm_fx C 49 15 [.ref (X + 4), .int v1, .int v2, .int (v3 + ni 1), sm_junk] [] D
      else
        sm_fx C 49 90 [.ref (X + 4), .int v1, .int v2, .int v3, sm_junk] [] D) := 
  (sx_p (pc' := 73) (lv' := [.ref (X + 4), .int v1, .int v2, .int v3, .int v4]) (st' := [.int (ni 13), .int v4]) q49 35 2 rfl (sx_icmp_eq q49 37 rfl rfl (sx_w (lv := [.ref (X + 4), .int v1, .int v2, .int v3, .int v4]) (lv' := [.ref (X + 4), .int v1, .int v2, .int v3, sm_junk]) (sm_ordl.ord ⟨Or.inr rfl, Or.inr rfl, Or.inr rfl, Or.inr rfl, Or.inl rfl, trivial⟩)) (sx_p (pc' := 80) (lv' := [.ref (X + 4), .int v1, .int v2, .int v3, .int v4]) (st' := [.int (ni 10), .int v4]) q49 38 2 rfl (sx_icmp_eq q49 40 rfl rfl (sx_w (lv := [.ref (X + 4), .int v1, .int v2, .int v3, .int v4]) (lv' := [.ref (X + 4), .int v1, .int v2, .int v3, sm_junk]) (sm_ordl.ord ⟨Or.inr rfl, Or.inr rfl, Or.inr rfl, Or.inr rfl, Or.inl rfl, trivial⟩)) (sx_p (pc' := 87) (lv' := [.ref (X + 4), .int v1, .int v2, .int v3, .int v4]) (st' := [.int (ni 998), .int v2]) q49 41 2 rfl (sx_icmp_le q49 43 rfl rfl (sx_p (pc' := 15) (lv' := [.ref (X + 4), .int v1, .int v2, .int (v3 + ni 1), .int v4]) (st' := []) q49 48 2 rfl (sx_w (lv := [.ref (X + 4), .int v1, .int v2, .int (v3 + ni 1), .int v4]) (lv' := [.ref (X + 4), .int v1, .int v2, .int (v3 + ni 1), sm_junk]) (sm_ordl.ord ⟨Or.inr rfl, Or.inr rfl, Or.inr rfl, Or.inr rfl, Or.inl rfl, trivial⟩))) (sx_w (lv := [.ref (X + 4), .int v1, .int v2, .int v3, .int v4]) (lv' := [.ref (X + 4), .int v1, .int v2, .int v3, sm_junk]) (sm_ordl.ord ⟨Or.inr rfl, Or.inr rfl, Or.inr rfl, Or.inr rfl, Or.inl rfl, trivial⟩))))))))
set_option maxRecDepth 8000 in
theorem n49_90 {C : sm_K} {X : Nat} {v1 : Int32} {v2 : Int32} {v3 : Int32} (hX : sm_Lay C X) {D : sm_D} : sm_ge (sm_fx C 49 90 [.ref (X + 4), .int v1, .int v2, .int v3, sm_junk] [] D) (
  sm_bv (sm_fe C 29 [.ref (X + 1), .int v3] D) (fun D1 =>
    sm_fx C 49 15 [.ref (X + 4), .int v1, .int v2, .int (v3 + ni 1), sm_junk] [] D1)) := 
  (sx_p (pc' := 91) (lv' := [.ref (X + 4), .int v1, .int v2, .int v3, sm_junk]) (st' := [.ref (X + 4)]) q49 44 1 rfl (sx_gR q49 45 rfl fk_3_18 (fun _ _ => rfl) (hX.s 4 rfl) (hX.r 4 0 rfl) (sx_p (pc' := 95) (lv' := [.ref (X + 4), .int v1, .int v2, .int v3, sm_junk]) (st' := [.int v3, .ref (X + 1)]) q49 46 1 rfl (sx_kv (sx_V q49 47 rfl lk_3_132 vk_29 na_29 rfl rfl rfl rfl (hX.s 1 rfl)) (by decide) rfl (fun D1 => (sx_p (pc' := 15) (lv' := [.ref (X + 4), .int v1, .int v2, .int (v3 + ni 1), sm_junk]) (st' := []) q49 48 2 rfl (sm_ge.refl _)))))))
set_option maxRecDepth 8000 in
theorem f49 {C : sm_K} {X : Nat} (hX : sm_Lay C X) {D : sm_D} : sm_ge (sm_fe C 49 [.ref (X + 4)] D) (
  sm_fx C 49 15 [.ref (X + 4), .int (D.1 (X + 2) 1), .int (ni 0), .int (ni 0), sm_junk] [] D) := by
  rw [sx_fe (m := 5) rfl rfl]
  exact (show sm_ge (sm_fx C 49 0 [.ref (X + 4), sm_junk, sm_junk, sm_junk, sm_junk] [] D) _ from (sx_p (pc' := 1) (lv' := [.ref (X + 4), sm_junk, sm_junk, sm_junk, sm_junk]) (st' := [.ref (X + 4)]) q49 0 1 rfl (sx_gR q49 1 rfl fk_3_18 (fun _ _ => rfl) (hX.s 4 rfl) (hX.r 4 0 rfl) (sx_gR q49 2 rfl fk_3_117 (fun _ _ => rfl) (hX.s 1 rfl) (hX.r 1 0 rfl) (sx_gI q49 3 rfl fk_3_123 rfl (hX.s 2 rfl) (hX.b 2) (sx_p (pc' := 15) (lv' := [.ref (X + 4), .int (D.1 (X + 2) 1), .int (ni 0), .int (ni 0), sm_junk]) (st' := []) q49 4 5 rfl (sm_ge.refl _)))))))
/-! MessageTree$Reader.readFields -/
theorem q50 : sm_q 50 3 sm_i50 8 := ⟨rfl, rfl, rfl⟩
set_option maxRecDepth 8000 in
theorem n50_6 {C : sm_K} {X : Nat} {t : Nat} {v2 : Int32} {v4 : Int32} {v5 : Int32} {v6 : Int32} (hX : sm_Lay C X) (ht : sm_tree C t) {D : sm_D} : sm_ge (sm_fx C 50 6 [.ref (X + 4), .ref t, .int v2, sm_junk, .int v4, .int v5, .int v6, sm_junk, sm_junk] [] D) (
  if (ni 20) < v6 then
    some (.inl (some (.int (v5 + (ni 2)))), D)
  else
    if v5 < v4 then
      sm_fx C 50 29 [.ref (X + 4), .ref t, .int v2, sm_junk, .int v4, .int v5, .int v6, sm_junk, sm_junk] [] D
    else
      sm_bv (sm_fe C 29 [.ref (X + 1), .int v4] D) (fun D1 =>
        sm_fx C 50 29 [.ref (X + 4), .ref t, .int v2, sm_junk, .int v4, .int v5, .int v6, sm_junk, sm_junk] [] D1)) := 
  (sx_p (pc' := 10) (lv' := [.ref (X + 4), .ref t, .int v2, sm_junk, .int v4, .int v5, .int v6, sm_junk, sm_junk]) (st' := [.int (ni 20), .int v6]) q50 4 2 rfl (sx_icmp_gt q50 6 rfl rfl (sx_p (pc' := 142) (lv' := [.ref (X + 4), .ref t, .int v2, sm_junk, .int v4, .int v5, .int v6, sm_junk, sm_junk]) (st' := [.int (v5 + (ni 2))]) q50 68 3 rfl (sx_ri (ty := .int) q50 71 rfl rfl)) (sx_p (pc' := 17) (lv' := [.ref (X + 4), .ref t, .int v2, sm_junk, .int v4, .int v5, .int v6, sm_junk, sm_junk]) (st' := [.int v4, .int v5]) q50 7 2 rfl (sx_icmp_lt q50 9 rfl rfl (sm_ge.refl _) (sx_p (pc' := 21) (lv' := [.ref (X + 4), .ref t, .int v2, sm_junk, .int v4, .int v5, .int v6, sm_junk, sm_junk]) (st' := [.ref (X + 4)]) q50 10 1 rfl (sx_gR q50 11 rfl fk_3_18 (fun _ _ => rfl) (hX.s 4 rfl) (hX.r 4 0 rfl) (sx_p (pc' := 26) (lv' := [.ref (X + 4), .ref t, .int v2, sm_junk, .int v4, .int v5, .int v6, sm_junk, sm_junk]) (st' := [.int v4, .ref (X + 1)]) q50 12 1 rfl (sx_kv (sx_V q50 13 rfl lk_3_132 vk_29 na_29 rfl rfl rfl rfl (hX.s 1 rfl)) (by decide) rfl (fun D1 => (sm_ge.refl _))))))))))
set_option maxRecDepth 8000 in
theorem n50_29 {C : sm_K} {X : Nat} {t : Nat} {v2 : Int32} {v4 : Int32} {v5 : Int32} {v6 : Int32} (hX : sm_Lay C X) (ht : sm_tree C t) {D : sm_D} : sm_ge (sm_fx C 50 29 [.ref (X + 4), .ref t, .int v2, sm_junk, .int v4, .int v5, .int v6, sm_junk, sm_junk] [] D) (
  sm_bi (sm_fe C 42 [.ref (X + 2), .int v5] D) (fun x0 D1 =>
    if x0 = (ni 13) then
      some (.inl (some (.int (v5 + (ni 2)))), D1)
    else
      if v6 = (ni 20) then
        sm_fx C 50 66 [.ref (X + 4), .ref t, .int v2, sm_junk, .int v4, .int v5, .int v6, sm_junk, sm_junk] [] D1
      else
        if (D1.1 t 12) < (ni 200) then
          sm_fx C 50 75 [.ref (X + 4), .ref t, .int v2, sm_junk, .int v4, .int v5, .int v6, sm_junk, sm_junk] [] D1
        else
          sm_fx C 50 66 [.ref (X + 4), .ref t, .int v2, sm_junk, .int v4, .int v5, .int v6, sm_junk, sm_junk] [] D1)) := 
  (sx_p (pc' := 30) (lv' := [.ref (X + 4), .ref t, .int v2, sm_junk, .int v4, .int v5, .int v6, sm_junk, sm_junk]) (st' := [.ref (X + 4)]) q50 14 1 rfl (sx_gR q50 15 rfl fk_3_18 (fun _ _ => rfl) (hX.s 4 rfl) (hX.r 4 0 rfl) (sx_gR q50 16 rfl fk_3_117 (fun _ _ => rfl) (hX.s 1 rfl) (hX.r 1 0 rfl) (sx_p (pc' := 38) (lv' := [.ref (X + 4), .ref t, .int v2, sm_junk, .int v4, .int v5, .int v6, sm_junk, sm_junk]) (st' := [.int v5, .ref (X + 2)]) q50 17 1 rfl (sx_ki (sx_V q50 18 rfl lk_3_128 vk_42 na_42 rfl rfl rfl rfl (hX.s 2 rfl)) (by decide) rfl (fun x0 D1 => (sx_p (pc' := 43) (lv' := [.ref (X + 4), .ref t, .int v2, sm_junk, .int v4, .int v5, .int v6, sm_junk, sm_junk]) (st' := [.int (ni 13), .int x0]) q50 19 1 rfl (sx_icmp_ne q50 20 rfl rfl (sx_p (pc' := 53) (lv' := [.ref (X + 4), .ref t, .int v2, sm_junk, .int v4, .int v5, .int v6, sm_junk, sm_junk]) (st' := [.int (ni 20), .int v6]) q50 22 2 rfl (sx_icmp_eq q50 24 rfl rfl (sm_ge.refl _) (sx_p (pc' := 57) (lv' := [.ref (X + 4), .ref t, .int v2, sm_junk, .int v4, .int v5, .int v6, sm_junk, sm_junk]) (st' := [.ref t]) q50 25 1 rfl (sx_gI q50 26 rfl fk_3_135 rfl (ht.s 0 rfl) (ht.b 0) (sx_p (pc' := 63) (lv' := [.ref (X + 4), .ref t, .int v2, sm_junk, .int v4, .int v5, .int v6, sm_junk, sm_junk]) (st' := [.int (ni 200), .int (D1.1 t 12)]) q50 27 1 rfl (sx_icmp_lt q50 28 rfl rfl (sm_ge.refl _) (sm_ge.refl _))))))) (sx_p (pc' := 138) (lv' := [.ref (X + 4), .ref t, .int v2, sm_junk, .int v4, .int v5, .int v6, sm_junk, sm_junk]) (st' := []) q50 21 1 rfl (sx_p (pc' := 142) (lv' := [.ref (X + 4), .ref t, .int v2, sm_junk, .int v4, .int v5, .int v6, sm_junk, sm_junk]) (st' := [.int (v5 + (ni 2))]) q50 68 3 rfl (sx_ri (ty := .int) q50 71 rfl rfl)))))))))))
set_option maxRecDepth 8000 in
theorem n50_66 {C : sm_K} {X : Nat} {t : Nat} {v2 : Int32} {v4 : Int32} {v5 : Int32} {v6 : Int32} (hX : sm_Lay C X) (ht : sm_tree C t) {D : sm_D} : sm_ge (sm_fx C 50 66 [.ref (X + 4), .ref t, .int v2, sm_junk, .int v4, .int v5, .int v6, sm_junk, sm_junk] [] D) (
  sm_bv (sm_fe C 29 [.ref (X + 1), .int v5] D) (fun D1 =>
    sm_fx C 50 75 [.ref (X + 4), .ref t, .int v2, sm_junk, .int v4, .int v5, .int v6, sm_junk, sm_junk] [] D1)) := 
  (sx_p (pc' := 67) (lv' := [.ref (X + 4), .ref t, .int v2, sm_junk, .int v4, .int v5, .int v6, sm_junk, sm_junk]) (st' := [.ref (X + 4)]) q50 29 1 rfl (sx_gR q50 30 rfl fk_3_18 (fun _ _ => rfl) (hX.s 4 rfl) (hX.r 4 0 rfl) (sx_p (pc' := 72) (lv' := [.ref (X + 4), .ref t, .int v2, sm_junk, .int v4, .int v5, .int v6, sm_junk, sm_junk]) (st' := [.int v5, .ref (X + 1)]) q50 31 1 rfl (sx_kv (sx_V q50 32 rfl lk_3_132 vk_29 na_29 rfl rfl rfl rfl (hX.s 1 rfl)) (by decide) rfl (fun D1 => (sm_ge.refl _))))))
set_option maxRecDepth 8000 in
theorem n50_75 {C : sm_K} {X : Nat} {t : Nat} {v2 : Int32} {v4 : Int32} {v5 : Int32} {v6 : Int32} (hX : sm_Lay C X) (ht : sm_tree C t) {D : sm_D} : sm_ge (sm_fx C 50 75 [.ref (X + 4), .ref t, .int v2, sm_junk, .int v4, .int v5, .int v6, sm_junk, sm_junk] [] D) (
  sm_bi (sm_fe C 51 [.ref (X + 4), .int v5, .int v4] D) (fun x0 D1 =>
    sm_bv (sm_fe C 53 [.ref (X + 4), .ref t, .int v2, .int v5, .int x0] D1) (fun D2 =>
      sm_bi (sm_fe C 55 [.ref (X + 4), .ref t, .int (x0 + (ni 1)), .int v4] D2) (fun x1 D3 =>
        sm_gu (sm_in_b v6 20) (
        let D4 := sm_dI D3 (X + 5) (v6.toNatClampNeg) x0
        sm_gu (sm_in_b v6 20) (
        let D5 := sm_dI D4 (X + 6) (v6.toNatClampNeg) x1
        sm_fx C 50 6 [.ref (X + 4), .ref t, .int v2, sm_junk, .int v4, .int (x1 + (ni 2)), .int (v6 + ni 1), sm_junk, sm_junk] [] D5)))))) := 
  (sx_p (pc' := 80) (lv' := [.ref (X + 4), .ref t, .int v2, sm_junk, .int v4, .int v5, .int v6, sm_junk, sm_junk]) (st' := [.int v4, .int v5, .ref (X + 4)]) q50 33 3 rfl (sx_ki (sx_V q50 36 rfl lk_3_138 vk_51 na_51 rfl rfl rfl rfl (hX.s 4 rfl)) (by decide) rfl (fun x0 D1 => (sx_p (pc' := 92) (lv' := [.ref (X + 4), .ref t, .int v2, sm_junk, .int v4, .int v5, .int v6, .int x0, sm_junk]) (st' := [.int x0, .int v5, .int v2, .ref t, .ref (X + 4)]) q50 37 6 rfl (sx_kv (sx_V q50 43 rfl lk_3_142 vk_53 na_53 rfl rfl rfl rfl (hX.s 4 rfl)) (by decide) rfl (fun D2 => (sx_p (pc' := 103) (lv' := [.ref (X + 4), .ref t, .int v2, sm_junk, .int v4, .int v5, .int v6, .int x0, sm_junk]) (st' := [.int v4, .int (x0 + (ni 1)), .ref t, .ref (X + 4)]) q50 44 6 rfl (sx_ki (sx_V q50 50 rfl lk_3_145 vk_55 na_55 rfl rfl rfl rfl (hX.s 4 rfl)) (by decide) rfl (fun x1 D3 => (sx_p (pc' := 109) (lv' := [.ref (X + 4), .ref t, .int v2, sm_junk, .int v4, .int v5, .int v6, .int x0, .int x1]) (st' := [.ref (X + 4)]) q50 51 2 rfl (sx_gR q50 53 rfl fk_3_9 (fun _ _ => rfl) (hX.s 4 rfl) (hX.r 4 1 rfl) (sx_p (pc' := 116) (lv' := [.ref (X + 4), .ref t, .int v2, sm_junk, .int v4, .int v5, .int v6, .int x0, .int x1]) (st' := [.int x0, .int v6, .ref (X + 5)]) q50 54 2 rfl (sx_is q50 56 rfl (hX.s 5 rfl) (hX.b 5) (sx_p (pc' := 118) (lv' := [.ref (X + 4), .ref t, .int v2, sm_junk, .int v4, .int v5, .int v6, .int x0, .int x1]) (st' := [.ref (X + 4)]) q50 57 1 rfl (sx_gR q50 58 rfl fk_3_15 (fun _ _ => rfl) (hX.s 4 rfl) (hX.r 4 2 rfl) (sx_p (pc' := 125) (lv' := [.ref (X + 4), .ref t, .int v2, sm_junk, .int v4, .int v5, .int v6, .int x0, .int x1]) (st' := [.int x1, .int v6, .ref (X + 6)]) q50 59 2 rfl (sx_is q50 61 rfl (hX.s 6 rfl) (hX.b 6) (sx_p (pc' := 6) (lv' := [.ref (X + 4), .ref t, .int v2, sm_junk, .int v4, .int (x1 + (ni 2)), .int (v6 + ni 1), .int x0, .int x1]) (st' := []) q50 62 6 rfl (sx_w (lv := [.ref (X + 4), .ref t, .int v2, sm_junk, .int v4, .int (x1 + (ni 2)), .int (v6 + ni 1), .int x0, .int x1]) (lv' := [.ref (X + 4), .ref t, .int v2, sm_junk, .int v4, .int (x1 + (ni 2)), .int (v6 + ni 1), sm_junk, sm_junk]) (sm_ordl.ord ⟨Or.inr rfl, Or.inr rfl, Or.inr rfl, Or.inl rfl, Or.inr rfl, Or.inr rfl, Or.inr rfl, Or.inl rfl, Or.inl rfl, trivial⟩))))))))))))))))))))
set_option maxRecDepth 8000 in
theorem f50 {C : sm_K} {X : Nat} {t : Nat} {v2 : Int32} {v3 : Int32} {v4 : Int32} (hX : sm_Lay C X) (ht : sm_tree C t) {D : sm_D} : sm_ge (sm_fe C 50 [.ref (X + 4), .ref t, .int v2, .int v3, .int v4] D) (
  sm_fx C 50 6 [.ref (X + 4), .ref t, .int v2, sm_junk, .int v4, .int v3, .int (ni 0), sm_junk, sm_junk] [] D) := by
  rw [sx_fe (m := 9) rfl rfl]
  exact (show sm_ge (sm_fx C 50 0 [.ref (X + 4), .ref t, .int v2, .int v3, .int v4, sm_junk, sm_junk, sm_junk, sm_junk] [] D) _ from (sx_p (pc' := 6) (lv' := [.ref (X + 4), .ref t, .int v2, .int v3, .int v4, .int v3, .int (ni 0), sm_junk, sm_junk]) (st' := []) q50 0 4 rfl (sx_w (lv := [.ref (X + 4), .ref t, .int v2, .int v3, .int v4, .int v3, .int (ni 0), sm_junk, sm_junk]) (lv' := [.ref (X + 4), .ref t, .int v2, sm_junk, .int v4, .int v3, .int (ni 0), sm_junk, sm_junk]) (sm_ordl.ord ⟨Or.inr rfl, Or.inr rfl, Or.inr rfl, Or.inl rfl, Or.inr rfl, Or.inr rfl, Or.inr rfl, Or.inl rfl, Or.inl rfl, trivial⟩))))
/-! MessageTree$Reader.nameEnd -/
theorem q51 : sm_q 51 3 sm_i51 7 := ⟨rfl, rfl, rfl⟩
set_option maxRecDepth 8000 in
theorem n51_2 {C : sm_K} {X : Nat} {v1 : Int32} {v2 : Int32} {v3 : Int32} (hX : sm_Lay C X) {D : sm_D} : sm_ge (sm_fx C 51 2 [.ref (X + 4), .int v1, .int v2, .int v3] [] D) (
  if v2 ≤ v3 then
    sm_fx C 51 38 [.ref (X + 4), .int v1, .int v2, .int v3] [] D
  else
    if (ni 40) ≤ (v3 - v1) then
      sm_fx C 51 38 [.ref (X + 4), .int v1, .int v2, .int v3] [] D
    else
      sm_bi (sm_fe C 42 [.ref (X + 2), .int v3] D) (fun x0 D1 =>
        sm_bi (sm_fe C 52 [.int x0] D1) (fun x1 D2 =>
          if x1 = ni 0 then
            sm_fx C 51 38 [.ref (X + 4), .int v1, .int v2, .int v3] [] D2
          else
            sm_fx C 51 2 [.ref (X + 4), .int v1, .int v2, .int (v3 + ni 1)] [] D2))) := 
  (sx_p (pc' := 4) (lv' := [.ref (X + 4), .int v1, .int v2, .int v3]) (st' := [.int v2, .int v3]) q51 2 2 rfl (sx_icmp_ge q51 4 rfl rfl (sm_ge.refl _) (sx_p (pc' := 12) (lv' := [.ref (X + 4), .int v1, .int v2, .int v3]) (st' := [.int (ni 40), .int (v3 - v1)]) q51 5 4 rfl (sx_icmp_ge q51 9 rfl rfl (sm_ge.refl _) (sx_p (pc' := 16) (lv' := [.ref (X + 4), .int v1, .int v2, .int v3]) (st' := [.ref (X + 4)]) q51 10 1 rfl (sx_gR q51 11 rfl fk_3_18 (fun _ _ => rfl) (hX.s 4 rfl) (hX.r 4 0 rfl) (sx_gR q51 12 rfl fk_3_117 (fun _ _ => rfl) (hX.s 1 rfl) (hX.r 1 0 rfl) (sx_p (pc' := 23) (lv' := [.ref (X + 4), .int v1, .int v2, .int v3]) (st' := [.int v3, .ref (X + 2)]) q51 13 1 rfl (sx_ki (sx_V q51 14 rfl lk_3_128 vk_42 na_42 rfl rfl rfl rfl (hX.s 2 rfl)) (by decide) rfl (fun x0 D1 => (sx_ki (sx_S q51 15 rfl lk_3_149 rfl na_52 rfl rfl rfl rfl) (by decide) rfl (fun x1 D2 => (sx_if_eq q51 16 rfl rfl (sm_ge.refl _) (sx_p (pc' := 2) (lv' := [.ref (X + 4), .int v1, .int v2, .int (v3 + ni 1)]) (st' := []) q51 17 2 rfl (sm_ge.refl _)))))))))))))))
set_option maxRecDepth 8000 in
theorem n51_38 {C : sm_K} {X : Nat} {v1 : Int32} {v2 : Int32} {v3 : Int32} (hX : sm_Lay C X) {D : sm_D} : sm_ge (sm_fx C 51 38 [.ref (X + 4), .int v1, .int v2, .int v3] [] D) (
  if v2 ≤ v3 then
    sm_fx C 51 64 [.ref (X + 4), sm_junk, sm_junk, .int v3] [] D
  else
    if v3 = v1 then
      sm_fx C 51 64 [.ref (X + 4), sm_junk, sm_junk, .int v3] [] D
    else
      sm_bi (sm_fe C 42 [.ref (X + 2), .int v3] D) (fun x0 D1 =>
        if x0 = (ni 58) then
          some (.inl (some (.int v3)), D1)
        else
          sm_fx C 51 64 [.ref (X + 4), sm_junk, sm_junk, .int v3] [] D1)) := 
  (sx_p (pc' := 40) (lv' := [.ref (X + 4), .int v1, .int v2, .int v3]) (st' := [.int v2, .int v3]) q51 19 2 rfl (sx_icmp_ge q51 21 rfl rfl (sx_w (lv := [.ref (X + 4), .int v1, .int v2, .int v3]) (lv' := [.ref (X + 4), sm_junk, sm_junk, .int v3]) (sm_ordl.ord ⟨Or.inr rfl, Or.inl rfl, Or.inl rfl, Or.inr rfl, trivial⟩)) (sx_p (pc' := 45) (lv' := [.ref (X + 4), .int v1, .int v2, .int v3]) (st' := [.int v1, .int v3]) q51 22 2 rfl (sx_icmp_eq q51 24 rfl rfl (sx_w (lv := [.ref (X + 4), .int v1, .int v2, .int v3]) (lv' := [.ref (X + 4), sm_junk, sm_junk, .int v3]) (sm_ordl.ord ⟨Or.inr rfl, Or.inl rfl, Or.inl rfl, Or.inr rfl, trivial⟩)) (sx_p (pc' := 49) (lv' := [.ref (X + 4), .int v1, .int v2, .int v3]) (st' := [.ref (X + 4)]) q51 25 1 rfl (sx_gR q51 26 rfl fk_3_18 (fun _ _ => rfl) (hX.s 4 rfl) (hX.r 4 0 rfl) (sx_gR q51 27 rfl fk_3_117 (fun _ _ => rfl) (hX.s 1 rfl) (hX.r 1 0 rfl) (sx_p (pc' := 56) (lv' := [.ref (X + 4), .int v1, .int v2, .int v3]) (st' := [.int v3, .ref (X + 2)]) q51 28 1 rfl (sx_ki (sx_V q51 29 rfl lk_3_128 vk_42 na_42 rfl rfl rfl rfl (hX.s 2 rfl)) (by decide) rfl (fun x0 D1 => (sx_p (pc' := 61) (lv' := [.ref (X + 4), .int v1, .int v2, .int v3]) (st' := [.int (ni 58), .int x0]) q51 30 1 rfl (sx_icmp_eq q51 31 rfl rfl (sx_p (pc' := 73) (lv' := [.ref (X + 4), .int v1, .int v2, .int v3]) (st' := [.int v3]) q51 36 1 rfl (sx_ri (ty := .int) q51 37 rfl rfl)) (sx_w (lv := [.ref (X + 4), .int v1, .int v2, .int v3]) (lv' := [.ref (X + 4), sm_junk, sm_junk, .int v3]) (sm_ordl.ord ⟨Or.inr rfl, Or.inl rfl, Or.inl rfl, Or.inr rfl, trivial⟩))))))))))))))
set_option maxRecDepth 8000 in
theorem n51_64 {C : sm_K} {X : Nat} {v3 : Int32} (hX : sm_Lay C X) {D : sm_D} : sm_ge (sm_fx C 51 64 [.ref (X + 4), sm_junk, sm_junk, .int v3] [] D) (
  sm_bv (sm_fe C 29 [.ref (X + 1), .int v3] D) (fun D1 =>
    some (.inl (some (.int v3)), D1))) := 
  (sx_p (pc' := 65) (lv' := [.ref (X + 4), sm_junk, sm_junk, .int v3]) (st' := [.ref (X + 4)]) q51 32 1 rfl (sx_gR q51 33 rfl fk_3_18 (fun _ _ => rfl) (hX.s 4 rfl) (hX.r 4 0 rfl) (sx_p (pc' := 69) (lv' := [.ref (X + 4), sm_junk, sm_junk, .int v3]) (st' := [.int v3, .ref (X + 1)]) q51 34 1 rfl (sx_kv (sx_V q51 35 rfl lk_3_132 vk_29 na_29 rfl rfl rfl rfl (hX.s 1 rfl)) (by decide) rfl (fun D1 => (sx_p (pc' := 73) (lv' := [.ref (X + 4), sm_junk, sm_junk, .int v3]) (st' := [.int v3]) q51 36 1 rfl (sx_ri (ty := .int) q51 37 rfl rfl)))))))
set_option maxRecDepth 8000 in
theorem f51 {C : sm_K} {X : Nat} {v1 : Int32} {v2 : Int32} (hX : sm_Lay C X) {D : sm_D} : sm_ge (sm_fe C 51 [.ref (X + 4), .int v1, .int v2] D) (
  sm_fx C 51 2 [.ref (X + 4), .int v1, .int v2, .int v1] [] D) := by
  rw [sx_fe (m := 4) rfl rfl]
  exact (show sm_ge (sm_fx C 51 0 [.ref (X + 4), .int v1, .int v2, sm_junk] [] D) _ from (sx_p (pc' := 2) (lv' := [.ref (X + 4), .int v1, .int v2, .int v1]) (st' := []) q51 0 2 rfl (sm_ge.refl _)))
/-! MessageTree$Reader.isNameByte -/
theorem q52 : sm_q 52 3 sm_i52 0 := ⟨rfl, rfl, rfl⟩
set_option maxRecDepth 8000 in
theorem f52 {C : sm_K} {v0 : Int32} {D : sm_D} : sm_ge (sm_fe C 52 [.int v0] D) (
  if v0 ≤ (ni 32) then
    some (.inl (some (.int (sm_nar .boolean (ni 0)))), D)
  else
    if (ni 127) ≤ v0 then
      some (.inl (some (.int (sm_nar .boolean (ni 0)))), D)
    else
      if v0 = (ni 58) then
        some (.inl (some (.int (sm_nar .boolean (ni 0)))), D)
      else
        some (.inl (some (.int (sm_nar .boolean (ni 1)))), D)) := by
  rw [sx_fe (m := 1) rfl rfl]
  exact (show sm_ge (sm_fx C 52 0 [.int v0] [] D) _ from (sx_p (pc' := 3) (lv' := [.int v0]) (st' := [.int (ni 32), .int v0]) q52 0 2 rfl (sx_icmp_le q52 2 rfl rfl (sx_p (pc' := 23) (lv' := [.int v0]) (st' := [.int (ni 0)]) q52 11 1 rfl (sx_ri (ty := .boolean) q52 12 rfl rfl)) (sx_p (pc' := 9) (lv' := [.int v0]) (st' := [.int (ni 127), .int v0]) q52 3 2 rfl (sx_icmp_ge q52 5 rfl rfl (sx_p (pc' := 23) (lv' := [.int v0]) (st' := [.int (ni 0)]) q52 11 1 rfl (sx_ri (ty := .boolean) q52 12 rfl rfl)) (sx_p (pc' := 15) (lv' := [.int v0]) (st' := [.int (ni 58), .int v0]) q52 6 2 rfl (sx_icmp_eq q52 8 rfl rfl (sx_p (pc' := 23) (lv' := [.int v0]) (st' := [.int (ni 0)]) q52 11 1 rfl (sx_ri (ty := .boolean) q52 12 rfl rfl)) (sx_p (pc' := 23) (lv' := [.int v0]) (st' := [.int (ni 1)]) q52 9 2 rfl (sx_ri (ty := .boolean) q52 12 rfl rfl)))))))))
/-! MessageTree$Reader.addName -/
theorem q53 : sm_q 53 3 sm_i53 7 := ⟨rfl, rfl, rfl⟩
set_option maxRecDepth 8000 in
theorem n53_15 {C : sm_K} {X : Nat} {t : Nat} {v2 : Int32} {v3 : Int32} {v4 : Int32} {s1 : Int32} {s2 : Int32} {s3 : Int32} (hX : sm_Lay C X) (ht : sm_tree C t) {D : sm_D} : sm_ge (sm_fx C 53 15 [.ref (X + 4), .ref t, .int v2, .int v3, .int v4, sm_junk, sm_junk, sm_junk] [.int s3, .int s2, .int s1, .ref (X + 4)] D) (
  sm_bi (sm_fe C 54 [.ref (X + 4), .int s1, .int s2, .int s3] D) (fun x0 D1 =>
    if x0 ≤ ni 0 then
      sm_fx C 53 43 [.ref (X + 4), .ref t, .int v2, .int v3, .int v4, .int x0, sm_junk, sm_junk] [] D1
    else
      sm_bi (sm_fe C 127 [.ref t, .int v2, .int x0] D1) (fun x1 D2 =>
        if x1 = ni 0 then
          sm_fx C 53 43 [.ref (X + 4), .ref t, .int v2, .int v3, .int v4, .int x0, sm_junk, sm_junk] [] D2
        else
          sm_bv (sm_fe C 29 [.ref (X + 1), .int v3] D2) (fun D3 =>
            sm_fx C 53 43 [.ref (X + 4), .ref t, .int v2, .int v3, .int v4, .int x0, sm_junk, sm_junk] [] D3)))) := 
  (sx_ki (sx_V q53 10 rfl lk_3_153 vk_54 na_54 rfl rfl rfl rfl (hX.s 4 rfl)) (by decide) rfl (fun x0 D1 => (sx_p (pc' := 22) (lv' := [.ref (X + 4), .ref t, .int v2, .int v3, .int v4, .int x0, sm_junk, sm_junk]) (st' := [.int x0]) q53 11 2 rfl (sx_if_le q53 13 rfl rfl (sm_ge.refl _) (sx_p (pc' := 29) (lv' := [.ref (X + 4), .ref t, .int v2, .int v3, .int v4, .int x0, sm_junk, sm_junk]) (st' := [.int x0, .int v2, .ref t]) q53 14 3 rfl (sx_ki (sx_V q53 17 rfl lk_3_157 vk_127 na_127 rfl rfl rfl rfl (ht.s 0 rfl)) (by decide) rfl (fun x1 D2 => (sx_if_eq q53 18 rfl rfl (sm_ge.refl _) (sx_p (pc' := 36) (lv' := [.ref (X + 4), .ref t, .int v2, .int v3, .int v4, .int x0, sm_junk, sm_junk]) (st' := [.ref (X + 4)]) q53 19 1 rfl (sx_gR q53 20 rfl fk_3_18 (fun _ _ => rfl) (hX.s 4 rfl) (hX.r 4 0 rfl) (sx_p (pc' := 40) (lv' := [.ref (X + 4), .ref t, .int v2, .int v3, .int v4, .int x0, sm_junk, sm_junk]) (st' := [.int v3, .ref (X + 1)]) q53 21 1 rfl (sx_kv (sx_V q53 22 rfl lk_3_132 vk_29 na_29 rfl rfl rfl rfl (hX.s 1 rfl)) (by decide) rfl (fun D3 => (sm_ge.refl _))))))))))))))
set_option maxRecDepth 8000 in
theorem n53_43 {C : sm_K} {X : Nat} {t : Nat} {v2 : Int32} {v3 : Int32} {v4 : Int32} {v5 : Int32} (hX : sm_Lay C X) (ht : sm_tree C t) {D : sm_D} : sm_ge (sm_fx C 53 43 [.ref (X + 4), .ref t, .int v2, .int v3, .int v4, .int v5, sm_junk, sm_junk] [] D) (
  sm_fx C 53 55 [.ref (X + 4), .ref t, .int v2, sm_junk, .int v4, .int v5, .int (D.1 (t + 1) 1), .int v3] [] D) := 
  (sx_p (pc' := 44) (lv' := [.ref (X + 4), .ref t, .int v2, .int v3, .int v4, .int v5, sm_junk, sm_junk]) (st' := [.ref t]) q53 23 1 rfl (sx_gR q53 24 rfl fk_3_161 (fun _ _ => rfl) (ht.s 0 rfl) (ht.r 0 0 rfl) (sx_gI q53 25 rfl fk_3_123 rfl (ht.s 1 rfl) (ht.b 1) (sx_p (pc' := 55) (lv' := [.ref (X + 4), .ref t, .int v2, .int v3, .int v4, .int v5, .int (D.1 (t + 1) 1), .int v3]) (st' := []) q53 26 3 rfl (sx_w (lv := [.ref (X + 4), .ref t, .int v2, .int v3, .int v4, .int v5, .int (D.1 (t + 1) 1), .int v3]) (lv' := [.ref (X + 4), .ref t, .int v2, sm_junk, .int v4, .int v5, .int (D.1 (t + 1) 1), .int v3]) (sm_ordl.ord ⟨Or.inr rfl, Or.inr rfl, Or.inr rfl, Or.inl rfl, Or.inr rfl, Or.inr rfl, Or.inr rfl, Or.inr rfl, trivial⟩))))))
set_option maxRecDepth 8000 in
theorem n53_55 {C : sm_K} {X : Nat} {t : Nat} {v2 : Int32} {v4 : Int32} {v5 : Int32} {v6 : Int32} {v7 : Int32} (hX : sm_Lay C X) (ht : sm_tree C t) {D : sm_D} : sm_ge (sm_fx C 53 55 [.ref (X + 4), .ref t, .int v2, sm_junk, .int v4, .int v5, .int v6, .int v7] [] D) (
  if v4 ≤ v7 then
    sm_bi (sm_fe C 130 [.int (D.1 t 12), .int (ni 0)] D) (fun x0 D1 =>
      sm_bv (sm_fe C 131 [.ref t, .int x0, .int v6] D1) (fun D2 =>
        sm_bv (sm_fe C 132 [.ref t, .int v2, .int v5] D2) (fun D3 =>
          some (.inl none, D3))))
  else
    sm_bi (sm_fe C 42 [.ref (X + 2), .int v7] D) (fun x0 D4 =>
      sm_bv (sm_fe C 44 [.ref (t + 1), .int x0] D4) (fun D5 =>
        sm_fx C 53 55 [.ref (X + 4), .ref t, .int v2, sm_junk, .int v4, .int v5, .int v6, .int (v7 + ni 1)] [] D5))) := 
  (sx_p (pc' := 59) (lv' := [.ref (X + 4), .ref t, .int v2, sm_junk, .int v4, .int v5, .int v6, .int v7]) (st' := [.int v4, .int v7]) q53 29 2 rfl (sx_icmp_ge q53 31 rfl rfl (sx_p (pc' := 89) (lv' := [.ref (X + 4), .ref t, .int v2, sm_junk, .int v4, .int v5, .int v6, .int v7]) (st' := [.ref t, .ref t]) q53 42 2 rfl (sx_gI q53 44 rfl fk_3_135 rfl (ht.s 0 rfl) (ht.b 0) (sx_p (pc' := 93) (lv' := [.ref (X + 4), .ref t, .int v2, sm_junk, .int v4, .int v5, .int v6, .int v7]) (st' := [.int (ni 0), .int (D.1 t 12), .ref t]) q53 45 1 rfl (sx_ki (sx_S q53 46 rfl lk_3_167 rfl na_130 rfl rfl rfl rfl) (by decide) rfl (fun x0 D1 => (sx_p (pc' := 98) (lv' := [.ref (X + 4), .ref t, .int v2, sm_junk, .int v4, .int v5, .int v6, .int v7]) (st' := [.int v6, .int x0, .ref t]) q53 47 1 rfl (sx_kv (sx_V q53 48 rfl lk_3_170 vk_131 na_131 rfl rfl rfl rfl (ht.s 0 rfl)) (by decide) rfl (fun D2 => (sx_p (pc' := 105) (lv' := [.ref (X + 4), .ref t, .int v2, sm_junk, .int v4, .int v5, .int v6, .int v7]) (st' := [.int v5, .int v2, .ref t]) q53 49 3 rfl (sx_kv (sx_V q53 52 rfl lk_3_174 vk_132 na_132 rfl rfl rfl rfl (ht.s 0 rfl)) (by decide) rfl (fun D3 => (sx_rv q53 53 rfl rfl)))))))))))) (sx_p (pc' := 63) (lv' := [.ref (X + 4), .ref t, .int v2, sm_junk, .int v4, .int v5, .int v6, .int v7]) (st' := [.ref t]) q53 32 1 rfl (sx_gR q53 33 rfl fk_3_161 (fun _ _ => rfl) (ht.s 0 rfl) (ht.r 0 0 rfl) (sx_p (pc' := 67) (lv' := [.ref (X + 4), .ref t, .int v2, sm_junk, .int v4, .int v5, .int v6, .int v7]) (st' := [.ref (X + 4), .ref (t + 1)]) q53 34 1 rfl (sx_gR q53 35 rfl fk_3_18 (fun _ _ => rfl) (hX.s 4 rfl) (hX.r 4 0 rfl) (sx_gR q53 36 rfl fk_3_117 (fun _ _ => rfl) (hX.s 1 rfl) (hX.r 1 0 rfl) (sx_p (pc' := 75) (lv' := [.ref (X + 4), .ref t, .int v2, sm_junk, .int v4, .int v5, .int v6, .int v7]) (st' := [.int v7, .ref (X + 2), .ref (t + 1)]) q53 37 1 rfl (sx_ki (sx_V q53 38 rfl lk_3_128 vk_42 na_42 rfl rfl rfl rfl (hX.s 2 rfl)) (by decide) rfl (fun x0 D4 => (sx_kv (sx_V q53 39 rfl lk_3_164 vk_44 na_44 rfl rfl rfl rfl (ht.s 1 rfl)) (by decide) rfl (fun D5 => (sx_p (pc' := 55) (lv' := [.ref (X + 4), .ref t, .int v2, sm_junk, .int v4, .int v5, .int v6, .int (v7 + ni 1)]) (st' := []) q53 40 2 rfl (sm_ge.refl _))))))))))))))
set_option maxRecDepth 8000 in
theorem f53 {C : sm_K} {X : Nat} {t : Nat} {v2 : Int32} {v3 : Int32} {v4 : Int32} (hX : sm_Lay C X) (ht : sm_tree C t) {D : sm_D} : sm_ge (sm_fe C 53 [.ref (X + 4), .ref t, .int v2, .int v3, .int v4] D) (
  if v2 = ni 0 then
    sm_fx C 53 15 [.ref (X + 4), .ref t, .int v2, .int v3, .int v4, sm_junk, sm_junk, sm_junk] [.int (ni 1), .int (v4 - v3), .int v3, .ref (X + 4)] D
  else
    sm_fx C 53 15 [.ref (X + 4), .ref t, .int v2, .int v3, .int v4, sm_junk, sm_junk, sm_junk] [.int (ni 0), .int (v4 - v3), .int v3, .ref (X + 4)] D) := by
  rw [sx_fe (m := 8) rfl rfl]
  exact (show sm_ge (sm_fx C 53 0 [.ref (X + 4), .ref t, .int v2, .int v3, .int v4, sm_junk, sm_junk, sm_junk] [] D) _ from (sx_p (pc' := 7) (lv' := [.ref (X + 4), .ref t, .int v2, .int v3, .int v4, sm_junk, sm_junk, sm_junk]) (st' := [.int v2, .int (v4 - v3), .int v3, .ref (X + 4)]) q53 0 6 rfl (sx_if_ne q53 6 rfl rfl (sx_p (pc' := 15) (lv' := [.ref (X + 4), .ref t, .int v2, .int v3, .int v4, sm_junk, sm_junk, sm_junk]) (st' := [.int (ni 0), .int (v4 - v3), .int v3, .ref (X + 4)]) q53 9 1 rfl (sm_ge.refl _)) (sx_p (pc' := 15) (lv' := [.ref (X + 4), .ref t, .int v2, .int v3, .int v4, sm_junk, sm_junk, sm_junk]) (st' := [.int (ni 1), .int (v4 - v3), .int v3, .ref (X + 4)]) q53 7 2 rfl (sm_ge.refl _)))))
/-! MessageTree$Reader.kindOfName -/
theorem q54 : sm_q 54 3 sm_i54 5 := ⟨rfl, rfl, rfl⟩
set_option maxRecDepth 8000 in
theorem f54 {C : sm_K} {X : Nat} {v1 : Int32} {v2 : Int32} {v3 : Int32} (hX : sm_Lay C X) {D : sm_D} : sm_ge (sm_fe C 54 [.ref (X + 4), .int v1, .int v2, .int v3] D) (
  sm_bi (sm_fe C 43 [.ref (X + 2), .int v1, .int v2, .ref (C.1.1 12)] D) (fun x0 D1 =>
    if x0 = ni 0 then
      sm_bi (sm_fe C 43 [.ref (X + 2), .int v1, .int v2, .ref (C.1.1 13)] D1) (fun x1 D2 =>
        if x1 = ni 0 then
          if v3 = ni 0 then
            some (.inl (some (.int (ni 0))), D2)
          else
            sm_bi (sm_fe C 43 [.ref (X + 2), .int v1, .int v2, .ref (C.1.1 14)] D2) (fun x2 D3 =>
              if x2 = ni 0 then
                sm_bi (sm_fe C 43 [.ref (X + 2), .int v1, .int v2, .ref (C.1.1 15)] D3) (fun x3 D4 =>
                  if x3 = ni 0 then
                    sm_bi (sm_fe C 43 [.ref (X + 2), .int v1, .int v2, .ref (C.1.1 16)] D4) (fun x4 D5 =>
                      if x4 = ni 0 then
                        sm_bi (sm_fe C 43 [.ref (X + 2), .int v1, .int v2, .ref (C.1.1 17)] D5) (fun x5 D6 =>
                          if x5 = ni 0 then
                            some (.inl (some (.int (ni 0))), D6)
                          else
                            some (.inl (some (.int (ni 6))), D6))
                      else
                        some (.inl (some (.int (ni 5))), D5))
                  else
                    some (.inl (some (.int (ni 4))), D4))
              else
                some (.inl (some (.int (ni 3))), D3))
        else
          some (.inl (some (.int (ni 2))), D2))
    else
      some (.inl (some (.int (ni 1))), D1))) := by
  rw [sx_fe (m := 5) rfl rfl]
  exact (show sm_ge (sm_fx C 54 0 [.ref (X + 4), .int v1, .int v2, .int v3, sm_junk] [] D) _ from (sx_p (pc' := 1) (lv' := [.ref (X + 4), .int v1, .int v2, .int v3, sm_junk]) (st' := [.ref (X + 4)]) q54 0 1 rfl (sx_gR q54 1 rfl fk_3_18 (fun _ _ => rfl) (hX.s 4 rfl) (hX.r 4 0 rfl) (sx_gR q54 2 rfl fk_3_117 (fun _ _ => rfl) (hX.s 1 rfl) (hX.r 1 0 rfl) (sx_p (pc' := 13) (lv' := [.ref (X + 4), .int v1, .int v2, .int v3, .ref (X + 2)]) (st' := [.int v2, .int v1, .ref (X + 2)]) q54 3 4 rfl (sx_cs q54 7 rfl (Or.inl ⟨rfl, rfl⟩) cs_3_177 (sx_ki (sx_V q54 8 rfl lk_3_179 vk_43 na_43 rfl rfl rfl rfl (hX.s 2 rfl)) (by decide) rfl (fun x0 D1 => (sx_if_eq q54 9 rfl rfl (sx_p (pc' := 27) (lv' := [.ref (X + 4), .int v1, .int v2, .int v3, .ref (X + 2)]) (st' := [.int v2, .int v1, .ref (X + 2)]) q54 12 3 rfl (sx_cs q54 15 rfl (Or.inl ⟨rfl, rfl⟩) cs_3_183 (sx_ki (sx_V q54 16 rfl lk_3_179 vk_43 na_43 rfl rfl rfl rfl (hX.s 2 rfl)) (by decide) rfl (fun x1 D2 => (sx_if_eq q54 17 rfl rfl (sx_p (pc' := 38) (lv' := [.ref (X + 4), .int v1, .int v2, .int v3, .ref (X + 2)]) (st' := [.int v3]) q54 20 1 rfl (sx_if_ne q54 21 rfl rfl (sx_p (pc' := 47) (lv' := [.ref (X + 4), .int v1, .int v2, .int v3, .ref (X + 2)]) (st' := [.int v2, .int v1, .ref (X + 2)]) q54 24 3 rfl (sx_cs q54 27 rfl (Or.inl ⟨rfl, rfl⟩) cs_3_185 (sx_ki (sx_V q54 28 rfl lk_3_179 vk_43 na_43 rfl rfl rfl rfl (hX.s 2 rfl)) (by decide) rfl (fun x2 D3 => (sx_if_eq q54 29 rfl rfl (sx_p (pc' := 61) (lv' := [.ref (X + 4), .int v1, .int v2, .int v3, .ref (X + 2)]) (st' := [.int v2, .int v1, .ref (X + 2)]) q54 32 3 rfl (sx_cs q54 35 rfl (Or.inl ⟨rfl, rfl⟩) cs_3_187 (sx_ki (sx_V q54 36 rfl lk_3_179 vk_43 na_43 rfl rfl rfl rfl (hX.s 2 rfl)) (by decide) rfl (fun x3 D4 => (sx_if_eq q54 37 rfl rfl (sx_p (pc' := 75) (lv' := [.ref (X + 4), .int v1, .int v2, .int v3, .ref (X + 2)]) (st' := [.int v2, .int v1, .ref (X + 2)]) q54 40 3 rfl (sx_cs q54 43 rfl (Or.inl ⟨rfl, rfl⟩) cs_3_189 (sx_ki (sx_V q54 44 rfl lk_3_179 vk_43 na_43 rfl rfl rfl rfl (hX.s 2 rfl)) (by decide) rfl (fun x4 D5 => (sx_if_eq q54 45 rfl rfl (sx_p (pc' := 89) (lv' := [.ref (X + 4), .int v1, .int v2, .int v3, .ref (X + 2)]) (st' := [.int v2, .int v1, .ref (X + 2)]) q54 48 3 rfl (sx_cs q54 51 rfl (Or.inl ⟨rfl, rfl⟩) cs_3_190 (sx_ki (sx_V q54 52 rfl lk_3_179 vk_43 na_43 rfl rfl rfl rfl (hX.s 2 rfl)) (by decide) rfl (fun x5 D6 => (sx_if_eq q54 53 rfl rfl (sx_p (pc' := 103) (lv' := [.ref (X + 4), .int v1, .int v2, .int v3, .ref (X + 2)]) (st' := [.int (ni 0)]) q54 56 1 rfl (sx_ri (ty := .int) q54 57 rfl rfl)) (sx_p (pc' := 103) (lv' := [.ref (X + 4), .int v1, .int v2, .int v3, .ref (X + 2)]) (st' := [.int (ni 6)]) q54 54 2 rfl (sx_ri (ty := .int) q54 57 rfl rfl))))))) (sx_p (pc' := 84) (lv' := [.ref (X + 4), .int v1, .int v2, .int v3, .ref (X + 2)]) (st' := [.int (ni 5)]) q54 46 1 rfl (sx_ri (ty := .int) q54 47 rfl rfl))))))) (sx_p (pc' := 70) (lv' := [.ref (X + 4), .int v1, .int v2, .int v3, .ref (X + 2)]) (st' := [.int (ni 4)]) q54 38 1 rfl (sx_ri (ty := .int) q54 39 rfl rfl))))))) (sx_p (pc' := 56) (lv' := [.ref (X + 4), .int v1, .int v2, .int v3, .ref (X + 2)]) (st' := [.int (ni 3)]) q54 30 1 rfl (sx_ri (ty := .int) q54 31 rfl rfl))))))) (sx_p (pc' := 42) (lv' := [.ref (X + 4), .int v1, .int v2, .int v3, .ref (X + 2)]) (st' := [.int (ni 0)]) q54 22 1 rfl (sx_ri (ty := .int) q54 23 rfl rfl)))) (sx_p (pc' := 36) (lv' := [.ref (X + 4), .int v1, .int v2, .int v3, .ref (X + 2)]) (st' := [.int (ni 2)]) q54 18 1 rfl (sx_ri (ty := .int) q54 19 rfl rfl))))))) (sx_p (pc' := 22) (lv' := [.ref (X + 4), .int v1, .int v2, .int v3, .ref (X + 2)]) (st' := [.int (ni 1)]) q54 10 1 rfl (sx_ri (ty := .int) q54 11 rfl rfl)))))))))))
/-! MessageTree$Reader.readText -/
theorem q55 : sm_q 55 3 sm_i55 7 := ⟨rfl, rfl, rfl⟩
set_option maxRecDepth 8000 in
theorem n55_12 {C : sm_K} {X : Nat} {t : Nat} {v3 : Int32} {v4 : Int32} {v5 : Int32} (hX : sm_Lay C X) (ht : sm_tree C t) {D : sm_D} : sm_ge (sm_fx C 55 12 [.ref (X + 4), .ref t, sm_junk, .int v3, .int v4, .int v5, sm_junk] [] D) (
  if v3 ≤ v5 then
    sm_fx C 55 124 [.ref (X + 4), .ref t, sm_junk, .int v3, .int v4, .int v5, sm_junk] [] D
  else
    sm_bi (sm_fe C 42 [.ref (X + 2), .int v5] D) (fun x0 D1 =>
      if x0 = (ni 13) then
        if v3 ≤ (v5 + (ni 2)) then
          sm_fx C 55 124 [.ref (X + 4), .ref t, sm_junk, .int v3, .int v4, .int v5, sm_junk] [] D1
        else
          sm_bi (sm_fe C 42 [.ref (X + 2), .int (v5 + (ni 2))] D1) (fun x1 D2 =>
            sm_bi (sm_fe C 3 [.int x1] D2) (fun x2 D3 =>
              if x2 = ni 0 then
                sm_fx C 55 124 [.ref (X + 4), .ref t, sm_junk, .int v3, .int v4, .int v5, sm_junk] [] D3
              else
                sm_fx C 55 12 [.ref (X + 4), .ref t, sm_junk, .int v3, .int v4, .int ((v5 + ni 1) + ni 1), sm_junk] [] D3))
      else
        if x0 < (ni 32) then
          sm_fx C 55 90 [.ref (X + 4), .ref t, sm_junk, .int v3, .int v4, .int v5, .int x0] [] D1
        else
          if x0 < (ni 127) then
            sm_fx C 55 97 [.ref (X + 4), .ref t, sm_junk, .int v3, .int v4, .int v5, .int x0] [] D1
          else
            sm_fx C 55 90 [.ref (X + 4), .ref t, sm_junk, .int v3, .int v4, .int v5, .int x0] [] D1)) := 
  (sx_p (pc' := 15) (lv' := [.ref (X + 4), .ref t, sm_junk, .int v3, .int v4, .int v5, sm_junk]) (st' := [.int v3, .int v5]) q55 6 2 rfl (sx_icmp_ge q55 8 rfl rfl (sm_ge.refl _) (sx_p (pc' := 19) (lv' := [.ref (X + 4), .ref t, sm_junk, .int v3, .int v4, .int v5, sm_junk]) (st' := [.ref (X + 4)]) q55 9 1 rfl (sx_gR q55 10 rfl fk_3_18 (fun _ _ => rfl) (hX.s 4 rfl) (hX.r 4 0 rfl) (sx_gR q55 11 rfl fk_3_117 (fun _ _ => rfl) (hX.s 1 rfl) (hX.r 1 0 rfl) (sx_p (pc' := 27) (lv' := [.ref (X + 4), .ref t, sm_junk, .int v3, .int v4, .int v5, sm_junk]) (st' := [.int v5, .ref (X + 2)]) q55 12 1 rfl (sx_ki (sx_V q55 13 rfl lk_3_128 vk_42 na_42 rfl rfl rfl rfl (hX.s 2 rfl)) (by decide) rfl (fun x0 D1 => (sx_p (pc' := 36) (lv' := [.ref (X + 4), .ref t, sm_junk, .int v3, .int v4, .int v5, .int x0]) (st' := [.int (ni 13), .int x0]) q55 14 3 rfl (sx_icmp_ne q55 17 rfl rfl (sx_p (pc' := 80) (lv' := [.ref (X + 4), .ref t, sm_junk, .int v3, .int v4, .int v5, .int x0]) (st' := [.int (ni 32), .int x0]) q55 35 2 rfl (sx_icmp_lt q55 37 rfl rfl (sm_ge.refl _) (sx_p (pc' := 87) (lv' := [.ref (X + 4), .ref t, sm_junk, .int v3, .int v4, .int v5, .int x0]) (st' := [.int (ni 127), .int x0]) q55 38 2 rfl (sx_icmp_lt q55 40 rfl rfl (sm_ge.refl _) (sm_ge.refl _))))) (sx_p (pc' := 44) (lv' := [.ref (X + 4), .ref t, sm_junk, .int v3, .int v4, .int v5, .int x0]) (st' := [.int v3, .int (v5 + (ni 2))]) q55 18 4 rfl (sx_icmp_ge q55 22 rfl rfl (sx_w (lv := [.ref (X + 4), .ref t, sm_junk, .int v3, .int v4, .int v5, .int x0]) (lv' := [.ref (X + 4), .ref t, sm_junk, .int v3, .int v4, .int v5, sm_junk]) (sm_ordl.ord ⟨Or.inr rfl, Or.inr rfl, Or.inl rfl, Or.inr rfl, Or.inr rfl, Or.inr rfl, Or.inl rfl, trivial⟩)) (sx_p (pc' := 48) (lv' := [.ref (X + 4), .ref t, sm_junk, .int v3, .int v4, .int v5, .int x0]) (st' := [.ref (X + 4)]) q55 23 1 rfl (sx_gR q55 24 rfl fk_3_18 (fun _ _ => rfl) (hX.s 4 rfl) (hX.r 4 0 rfl) (sx_gR q55 25 rfl fk_3_117 (fun _ _ => rfl) (hX.s 1 rfl) (hX.r 1 0 rfl) (sx_p (pc' := 58) (lv' := [.ref (X + 4), .ref t, sm_junk, .int v3, .int v4, .int v5, .int x0]) (st' := [.int (v5 + (ni 2)), .ref (X + 2)]) q55 26 3 rfl (sx_ki (sx_V q55 29 rfl lk_3_128 vk_42 na_42 rfl rfl rfl rfl (hX.s 2 rfl)) (by decide) rfl (fun x1 D2 => (sx_ki (sx_S q55 30 rfl lk_3_191 rfl na_3 rfl rfl rfl rfl) (by decide) rfl (fun x2 D3 => (sx_if_ne q55 31 rfl rfl (sx_p (pc' := 118) (lv' := [.ref (X + 4), .ref t, sm_junk, .int v3, .int v4, .int (v5 + ni 1), .int x0]) (st' := []) q55 33 2 rfl (sx_p (pc' := 12) (lv' := [.ref (X + 4), .ref t, sm_junk, .int v3, .int v4, .int ((v5 + ni 1) + ni 1), .int x0]) (st' := []) q55 53 2 rfl (sx_w (lv := [.ref (X + 4), .ref t, sm_junk, .int v3, .int v4, .int ((v5 + ni 1) + ni 1), .int x0]) (lv' := [.ref (X + 4), .ref t, sm_junk, .int v3, .int v4, .int ((v5 + ni 1) + ni 1), sm_junk]) (sm_ordl.ord ⟨Or.inr rfl, Or.inr rfl, Or.inl rfl, Or.inr rfl, Or.inr rfl, Or.inr rfl, Or.inl rfl, trivial⟩)))) (sx_p (pc' := 124) (lv' := [.ref (X + 4), .ref t, sm_junk, .int v3, .int v4, .int v5, .int x0]) (st' := []) q55 32 1 rfl (sx_w (lv := [.ref (X + 4), .ref t, sm_junk, .int v3, .int v4, .int v5, .int x0]) (lv' := [.ref (X + 4), .ref t, sm_junk, .int v3, .int v4, .int v5, sm_junk]) (sm_ordl.ord ⟨Or.inr rfl, Or.inr rfl, Or.inl rfl, Or.inr rfl, Or.inr rfl, Or.inr rfl, Or.inl rfl, trivial⟩))))))))))))))))))))))))
set_option maxRecDepth 8000 in
theorem n55_90 {C : sm_K} {X : Nat} {t : Nat} {v3 : Int32} {v4 : Int32} {v5 : Int32} {v6 : Int32} (hX : sm_Lay C X) (ht : sm_tree C t) {D : sm_D} : sm_ge (sm_fx C 55 90 [.ref (X + 4), .ref t, sm_junk, .int v3, .int v4, .int v5, .int v6] [] D) (
  if v6 = (ni 9) then
    sm_fx C 55 97 [.ref (X + 4), .ref t, sm_junk, .int v3, .int v4, .int v5, .int v6] [] D
  else
    sm_bv (sm_fe C 29 [.ref (X + 1), .int v5] D) (fun D1 =>
      sm_fx C 55 12 [.ref (X + 4), .ref t, sm_junk, .int v3, .int v4, .int (v5 + ni 1), sm_junk] [] D1)) := 
  (sx_p (pc' := 94) (lv' := [.ref (X + 4), .ref t, sm_junk, .int v3, .int v4, .int v5, .int v6]) (st' := [.int (ni 9), .int v6]) q55 41 2 rfl (sx_icmp_ne q55 43 rfl rfl (sx_p (pc' := 110) (lv' := [.ref (X + 4), .ref t, sm_junk, .int v3, .int v4, .int v5, .int v6]) (st' := [.ref (X + 4)]) q55 49 1 rfl (sx_gR q55 50 rfl fk_3_18 (fun _ _ => rfl) (hX.s 4 rfl) (hX.r 4 0 rfl) (sx_p (pc' := 115) (lv' := [.ref (X + 4), .ref t, sm_junk, .int v3, .int v4, .int v5, .int v6]) (st' := [.int v5, .ref (X + 1)]) q55 51 1 rfl (sx_kv (sx_V q55 52 rfl lk_3_132 vk_29 na_29 rfl rfl rfl rfl (hX.s 1 rfl)) (by decide) rfl (fun D1 => (sx_p (pc' := 12) (lv' := [.ref (X + 4), .ref t, sm_junk, .int v3, .int v4, .int (v5 + ni 1), .int v6]) (st' := []) q55 53 2 rfl (sx_w (lv := [.ref (X + 4), .ref t, sm_junk, .int v3, .int v4, .int (v5 + ni 1), .int v6]) (lv' := [.ref (X + 4), .ref t, sm_junk, .int v3, .int v4, .int (v5 + ni 1), sm_junk]) (sm_ordl.ord ⟨Or.inr rfl, Or.inr rfl, Or.inl rfl, Or.inr rfl, Or.inr rfl, Or.inr rfl, Or.inl rfl, trivial⟩)))))))) (sm_ge.refl _)))
set_option maxRecDepth 8000 in
theorem n55_97 {C : sm_K} {X : Nat} {t : Nat} {v3 : Int32} {v4 : Int32} {v5 : Int32} {v6 : Int32} (hX : sm_Lay C X) (ht : sm_tree C t) {D : sm_D} : sm_ge (sm_fx C 55 97 [.ref (X + 4), .ref t, sm_junk, .int v3, .int v4, .int v5, .int v6] [] D) (
  sm_bv (sm_fe C 44 [.ref (t + 1), .int v6] D) (fun D1 =>
    sm_fx C 55 12 [.ref (X + 4), .ref t, sm_junk, .int v3, .int v4, .int (v5 + ni 1), sm_junk] [] D1)) := 
  (sx_p (pc' := 98) (lv' := [.ref (X + 4), .ref t, sm_junk, .int v3, .int v4, .int v5, .int v6]) (st' := [.ref t]) q55 44 1 rfl (sx_gR q55 45 rfl fk_3_161 (fun _ _ => rfl) (ht.s 0 rfl) (ht.r 0 0 rfl) (sx_p (pc' := 103) (lv' := [.ref (X + 4), .ref t, sm_junk, .int v3, .int v4, .int v5, .int v6]) (st' := [.int v6, .ref (t + 1)]) q55 46 1 rfl (sx_kv (sx_V q55 47 rfl lk_3_164 vk_44 na_44 rfl rfl rfl rfl (ht.s 1 rfl)) (by decide) rfl (fun D1 => (sx_p (pc' := 118) (lv' := [.ref (X + 4), .ref t, sm_junk, .int v3, .int v4, .int v5, .int v6]) (st' := []) q55 48 1 rfl (sx_p (pc' := 12) (lv' := [.ref (X + 4), .ref t, sm_junk, .int v3, .int v4, .int (v5 + ni 1), .int v6]) (st' := []) q55 53 2 rfl (sx_w (lv := [.ref (X + 4), .ref t, sm_junk, .int v3, .int v4, .int (v5 + ni 1), .int v6]) (lv' := [.ref (X + 4), .ref t, sm_junk, .int v3, .int v4, .int (v5 + ni 1), sm_junk]) (sm_ordl.ord ⟨Or.inr rfl, Or.inr rfl, Or.inl rfl, Or.inr rfl, Or.inr rfl, Or.inr rfl, Or.inl rfl, trivial⟩)))))))))
set_option maxRecDepth 8000 in
theorem n55_124 {C : sm_K} {X : Nat} {t : Nat} {v3 : Int32} {v4 : Int32} {v5 : Int32} (hX : sm_Lay C X) (ht : sm_tree C t) {D : sm_D} : sm_ge (sm_fx C 55 124 [.ref (X + 4), .ref t, sm_junk, .int v3, .int v4, .int v5, sm_junk] [] D) (
  if v5 < v3 then
    sm_fx C 55 138 [sm_junk, .ref t, sm_junk, sm_junk, .int v4, .int v5, sm_junk] [] D
  else
    sm_bv (sm_fe C 29 [.ref (X + 1), .int v3] D) (fun D1 =>
      sm_fx C 55 138 [sm_junk, .ref t, sm_junk, sm_junk, .int v4, .int v5, sm_junk] [] D1)) := 
  (sx_p (pc' := 127) (lv' := [.ref (X + 4), .ref t, sm_junk, .int v3, .int v4, .int v5, sm_junk]) (st' := [.int v3, .int v5]) q55 55 2 rfl (sx_icmp_lt q55 57 rfl rfl (sx_w (lv := [.ref (X + 4), .ref t, sm_junk, .int v3, .int v4, .int v5, sm_junk]) (lv' := [sm_junk, .ref t, sm_junk, sm_junk, .int v4, .int v5, sm_junk]) (sm_ordl.ord ⟨Or.inl rfl, Or.inr rfl, Or.inl rfl, Or.inl rfl, Or.inr rfl, Or.inr rfl, Or.inl rfl, trivial⟩)) (sx_p (pc' := 131) (lv' := [.ref (X + 4), .ref t, sm_junk, .int v3, .int v4, .int v5, sm_junk]) (st' := [.ref (X + 4)]) q55 58 1 rfl (sx_gR q55 59 rfl fk_3_18 (fun _ _ => rfl) (hX.s 4 rfl) (hX.r 4 0 rfl) (sx_p (pc' := 135) (lv' := [.ref (X + 4), .ref t, sm_junk, .int v3, .int v4, .int v5, sm_junk]) (st' := [.int v3, .ref (X + 1)]) q55 60 1 rfl (sx_kv (sx_V q55 61 rfl lk_3_132 vk_29 na_29 rfl rfl rfl rfl (hX.s 1 rfl)) (by decide) rfl (fun D1 => (sx_w (lv := [.ref (X + 4), .ref t, sm_junk, .int v3, .int v4, .int v5, sm_junk]) (lv' := [sm_junk, .ref t, sm_junk, sm_junk, .int v4, .int v5, sm_junk]) (sm_ordl.ord ⟨Or.inl rfl, Or.inr rfl, Or.inl rfl, Or.inl rfl, Or.inr rfl, Or.inr rfl, Or.inl rfl, trivial⟩)))))))))
set_option maxRecDepth 8000 in
theorem n55_138 {C : sm_K} {X : Nat} {t : Nat} {v4 : Int32} {v5 : Int32} (hX : sm_Lay C X) (ht : sm_tree C t) {D : sm_D} : sm_ge (sm_fx C 55 138 [sm_junk, .ref t, sm_junk, sm_junk, .int v4, .int v5, sm_junk] [] D) (
  sm_bi (sm_fe C 130 [.int ((D.1 t 12) - (ni 1)), .int (ni 1)] D) (fun x0 D1 =>
    sm_bv (sm_fe C 131 [.ref t, .int x0, .int v4] D1) (fun D2 =>
      some (.inl (some (.int v5)), D2)))) := 
  (sx_p (pc' := 140) (lv' := [sm_junk, .ref t, sm_junk, sm_junk, .int v4, .int v5, sm_junk]) (st' := [.ref t, .ref t]) q55 62 2 rfl (sx_gI q55 64 rfl fk_3_135 rfl (ht.s 0 rfl) (ht.b 0) (sx_p (pc' := 146) (lv' := [sm_junk, .ref t, sm_junk, sm_junk, .int v4, .int v5, sm_junk]) (st' := [.int (ni 1), .int ((D.1 t 12) - (ni 1)), .ref t]) q55 65 3 rfl (sx_ki (sx_S q55 68 rfl lk_3_167 rfl na_130 rfl rfl rfl rfl) (by decide) rfl (fun x0 D1 => (sx_p (pc' := 151) (lv' := [sm_junk, .ref t, sm_junk, sm_junk, .int v4, .int v5, sm_junk]) (st' := [.int v4, .int x0, .ref t]) q55 69 1 rfl (sx_kv (sx_V q55 70 rfl lk_3_170 vk_131 na_131 rfl rfl rfl rfl (ht.s 0 rfl)) (by decide) rfl (fun D2 => (sx_p (pc' := 156) (lv' := [sm_junk, .ref t, sm_junk, sm_junk, .int v4, .int v5, sm_junk]) (st' := [.int v5]) q55 71 1 rfl (sx_ri (ty := .int) q55 72 rfl rfl))))))))))
set_option maxRecDepth 8000 in
theorem f55 {C : sm_K} {X : Nat} {t : Nat} {v2 : Int32} {v3 : Int32} (hX : sm_Lay C X) (ht : sm_tree C t) {D : sm_D} : sm_ge (sm_fe C 55 [.ref (X + 4), .ref t, .int v2, .int v3] D) (
  sm_fx C 55 12 [.ref (X + 4), .ref t, sm_junk, .int v3, .int (D.1 (t + 1) 1), .int v2, sm_junk] [] D) := by
  rw [sx_fe (m := 7) rfl rfl]
  exact (show sm_ge (sm_fx C 55 0 [.ref (X + 4), .ref t, .int v2, .int v3, sm_junk, sm_junk, sm_junk] [] D) _ from (sx_p (pc' := 1) (lv' := [.ref (X + 4), .ref t, .int v2, .int v3, sm_junk, sm_junk, sm_junk]) (st' := [.ref t]) q55 0 1 rfl (sx_gR q55 1 rfl fk_3_161 (fun _ _ => rfl) (ht.s 0 rfl) (ht.r 0 0 rfl) (sx_gI q55 2 rfl fk_3_123 rfl (ht.s 1 rfl) (ht.b 1) (sx_p (pc' := 12) (lv' := [.ref (X + 4), .ref t, .int v2, .int v3, .int (D.1 (t + 1) 1), .int v2, sm_junk]) (st' := []) q55 3 3 rfl (sx_w (lv := [.ref (X + 4), .ref t, .int v2, .int v3, .int (D.1 (t + 1) 1), .int v2, sm_junk]) (lv' := [.ref (X + 4), .ref t, sm_junk, .int v3, .int (D.1 (t + 1) 1), .int v2, sm_junk]) (sm_ordl.ord ⟨Or.inr rfl, Or.inr rfl, Or.inl rfl, Or.inr rfl, Or.inr rfl, Or.inr rfl, Or.inl rfl, trivial⟩)))))))
/-! MessageTree$Reader.readTexts -/
theorem q56 : sm_q 56 3 sm_i56 11 := ⟨rfl, rfl, rfl⟩
set_option maxRecDepth 8000 in
theorem n56_11 {C : sm_K} {X : Nat} {t : Nat} {v2 : Int32} {v3 : Int32} (hX : sm_Lay C X) (ht : sm_tree C t) {D : sm_D} : sm_ge (sm_fx C 56 11 [.ref (X + 4), .ref t, .int v2, .int v3, sm_junk] [] D) (
  if (ni 20) ≤ v3 then
    sm_fx C 56 180 [.ref (X + 4), .ref t, .int v2, sm_junk, sm_junk] [] D
  else
    sm_gu (sm_in_b v2 40) (
    if (D.1 (t + 7) v2.toNatClampNeg) ≤ v3 then
      sm_fx C 56 180 [.ref (X + 4), .ref t, .int v2, sm_junk, sm_junk] [] D
    else
      sm_bi (sm_fe C 129 [.ref t, .int v2, .int v3] D) (fun x0 D1 =>
        sm_gu (sm_in_b v3 20) (
        sm_gu (sm_in_b v3 20) (
        sm_bv (sm_fe C 30 [.ref (X + 1), .int (D1.1 (X + 5) v3.toNatClampNeg), .int (D1.1 (X + 6) v3.toNatClampNeg)] D1) (fun D2 =>
          sm_sw x0 1 [(sm_bv (sm_fe C 59 [.ref (X + 7), .ref t, .int v2, .int (D2.1 (X + 14) 6)] D2) (fun D3 =>
              sm_fx C 56 11 [.ref (X + 4), .ref t, .int v2, .int (v3 + ni 1), sm_junk] [] D3)), (sm_bv (sm_fe C 63 [.ref (X + 7), .ref t, .int v2] D2) (fun D4 =>
              sm_fx C 56 11 [.ref (X + 4), .ref t, .int v2, .int (v3 + ni 1), sm_junk] [] D4)), (sm_gu (sm_in_b v2 40) (
            sm_bi (sm_fe C 130 [.int ((D2.1 (t + 6) v2.toNatClampNeg) + v3), .int (ni 1)] D2) (fun x1 D5 =>
              sm_bv (sm_fe C 91 [.ref (X + 11), .ref t, .int x1] D5) (fun D6 =>
                sm_fx C 56 11 [.ref (X + 4), .ref t, .int v2, .int (v3 + ni 1), sm_junk] [] D6)))), (sm_bv (sm_fe C 67 [.ref (X + 8), .ref t] D2) (fun D7 =>
              sm_fx C 56 11 [.ref (X + 4), .ref t, .int v2, .int (v3 + ni 1), sm_junk] [] D7)), (sm_bv (sm_fe C 77 [.ref (X + 9), .ref t, .int x0] D2) (fun D8 =>
              sm_fx C 56 11 [.ref (X + 4), .ref t, .int v2, .int (v3 + ni 1), sm_junk] [] D8)), (sm_bv (sm_fe C 77 [.ref (X + 9), .ref t, .int x0] D2) (fun D9 =>
              sm_fx C 56 11 [.ref (X + 4), .ref t, .int v2, .int (v3 + ni 1), sm_junk] [] D9))] (sm_fx C 56 11 [.ref (X + 4), .ref t, .int v2, .int (v3 + ni 1), sm_junk] [] D2))))))) := 
  (sx_p (pc' := 14) (lv' := [.ref (X + 4), .ref t, .int v2, .int v3, sm_junk]) (st' := [.int (ni 20), .int v3]) q56 7 2 rfl (sx_icmp_ge q56 9 rfl rfl (sx_w (lv := [.ref (X + 4), .ref t, .int v2, .int v3, sm_junk]) (lv' := [.ref (X + 4), .ref t, .int v2, sm_junk, sm_junk]) (sm_ordl.ord ⟨Or.inr rfl, Or.inr rfl, Or.inr rfl, Or.inl rfl, Or.inl rfl, trivial⟩)) (sx_p (pc' := 19) (lv' := [.ref (X + 4), .ref t, .int v2, .int v3, sm_junk]) (st' := [.ref t, .int v3]) q56 10 2 rfl (sx_gR q56 12 rfl fk_3_197 (fun _ _ => rfl) (ht.s 0 rfl) (ht.r 0 5 rfl) (sx_p (pc' := 23) (lv' := [.ref (X + 4), .ref t, .int v2, .int v3, sm_junk]) (st' := [.int v2, .ref (t + 7), .int v3]) q56 13 1 rfl (sx_ia q56 14 rfl (ht.s 7 rfl) (ht.b 7) (sx_icmp_ge q56 15 rfl rfl (sx_w (lv := [.ref (X + 4), .ref t, .int v2, .int v3, sm_junk]) (lv' := [.ref (X + 4), .ref t, .int v2, sm_junk, sm_junk]) (sm_ordl.ord ⟨Or.inr rfl, Or.inr rfl, Or.inr rfl, Or.inl rfl, Or.inl rfl, trivial⟩)) (sx_p (pc' := 30) (lv' := [.ref (X + 4), .ref t, .int v2, .int v3, sm_junk]) (st' := [.int v3, .int v2, .ref t]) q56 16 3 rfl (sx_ki (sx_V q56 19 rfl lk_3_200 vk_129 na_129 rfl rfl rfl rfl (ht.s 0 rfl)) (by decide) rfl (fun x0 D1 => (sx_p (pc' := 36) (lv' := [.ref (X + 4), .ref t, .int v2, .int v3, .int x0]) (st' := [.ref (X + 4)]) q56 20 2 rfl (sx_gR q56 22 rfl fk_3_18 (fun _ _ => rfl) (hX.s 4 rfl) (hX.r 4 0 rfl) (sx_p (pc' := 40) (lv' := [.ref (X + 4), .ref t, .int v2, .int v3, .int x0]) (st' := [.ref (X + 4), .ref (X + 1)]) q56 23 1 rfl (sx_gR q56 24 rfl fk_3_9 (fun _ _ => rfl) (hX.s 4 rfl) (hX.r 4 1 rfl) (sx_p (pc' := 44) (lv' := [.ref (X + 4), .ref t, .int v2, .int v3, .int x0]) (st' := [.int v3, .ref (X + 5), .ref (X + 1)]) q56 25 1 rfl (sx_ia q56 26 rfl (hX.s 5 rfl) (hX.b 5) (sx_p (pc' := 46) (lv' := [.ref (X + 4), .ref t, .int v2, .int v3, .int x0]) (st' := [.ref (X + 4), .int (D1.1 (X + 5) v3.toNatClampNeg), .ref (X + 1)]) q56 27 1 rfl (sx_gR q56 28 rfl fk_3_15 (fun _ _ => rfl) (hX.s 4 rfl) (hX.r 4 2 rfl) (sx_p (pc' := 50) (lv' := [.ref (X + 4), .ref t, .int v2, .int v3, .int x0]) (st' := [.int v3, .ref (X + 6), .int (D1.1 (X + 5) v3.toNatClampNeg), .ref (X + 1)]) q56 29 1 rfl (sx_ia q56 30 rfl (hX.s 6 rfl) (hX.b 6) (sx_kv (sx_V q56 31 rfl lk_3_203 vk_30 na_30 rfl rfl rfl rfl (hX.s 1 rfl)) (by decide) rfl (fun D2 => (sx_p (pc' := 56) (lv' := [.ref (X + 4), .ref t, .int v2, .int v3, .int x0]) (st' := [.int x0]) q56 32 1 rfl (sx_ts q56 33 rfl rfl (by decide) (by decide) (sx_p (pc' := 11) (lv' := [.ref (X + 4), .ref t, .int v2, .int (v3 + ni 1), .int x0]) (st' := []) q56 73 2 rfl (sx_w (lv := [.ref (X + 4), .ref t, .int v2, .int (v3 + ni 1), .int x0]) (lv' := [.ref (X + 4), .ref t, .int v2, .int (v3 + ni 1), sm_junk]) (sm_ordl.ord ⟨Or.inr rfl, Or.inr rfl, Or.inr rfl, Or.inr rfl, Or.inl rfl, trivial⟩))) ⟨⟨_, rfl, (sx_p (pc' := 97) (lv' := [.ref (X + 4), .ref t, .int v2, .int v3, .int x0]) (st' := [.ref (X + 4)]) q56 34 1 rfl (sx_gR q56 35 rfl fk_3_27 (fun _ _ => rfl) (hX.s 4 rfl) (hX.r 4 3 rfl) (sx_p (pc' := 103) (lv' := [.ref (X + 4), .ref t, .int v2, .int v3, .int x0]) (st' := [.ref (X + 4), .int v2, .ref t, .ref (X + 7)]) q56 36 3 rfl (sx_gR q56 39 rfl fk_3_64 (fun _ _ => rfl) (hX.s 4 rfl) (hX.r 4 8 rfl) (sx_gI q56 40 rfl fk_3_206 rfl (hX.s 14 rfl) (hX.b 14) (sx_kv (sx_V q56 41 rfl lk_3_209 vk_59 na_59 rfl rfl rfl rfl (hX.s 7 rfl)) (by decide) rfl (fun D3 => (sx_p (pc' := 174) (lv' := [.ref (X + 4), .ref t, .int v2, .int v3, .int x0]) (st' := []) q56 42 1 rfl (sx_p (pc' := 11) (lv' := [.ref (X + 4), .ref t, .int v2, .int (v3 + ni 1), .int x0]) (st' := []) q56 73 2 rfl (sx_w (lv := [.ref (X + 4), .ref t, .int v2, .int (v3 + ni 1), .int x0]) (lv' := [.ref (X + 4), .ref t, .int v2, .int (v3 + ni 1), sm_junk]) (sm_ordl.ord ⟨Or.inr rfl, Or.inr rfl, Or.inr rfl, Or.inr rfl, Or.inl rfl, trivial⟩)))))))))))⟩, ⟨⟨_, rfl, (sx_p (pc' := 116) (lv' := [.ref (X + 4), .ref t, .int v2, .int v3, .int x0]) (st' := [.ref (X + 4)]) q56 43 1 rfl (sx_gR q56 44 rfl fk_3_27 (fun _ _ => rfl) (hX.s 4 rfl) (hX.r 4 3 rfl) (sx_p (pc' := 121) (lv' := [.ref (X + 4), .ref t, .int v2, .int v3, .int x0]) (st' := [.int v2, .ref t, .ref (X + 7)]) q56 45 2 rfl (sx_kv (sx_V q56 47 rfl lk_3_212 vk_63 na_63 rfl rfl rfl rfl (hX.s 7 rfl)) (by decide) rfl (fun D4 => (sx_p (pc' := 174) (lv' := [.ref (X + 4), .ref t, .int v2, .int v3, .int x0]) (st' := []) q56 48 1 rfl (sx_p (pc' := 11) (lv' := [.ref (X + 4), .ref t, .int v2, .int (v3 + ni 1), .int x0]) (st' := []) q56 73 2 rfl (sx_w (lv := [.ref (X + 4), .ref t, .int v2, .int (v3 + ni 1), .int x0]) (lv' := [.ref (X + 4), .ref t, .int v2, .int (v3 + ni 1), sm_junk]) (sm_ordl.ord ⟨Or.inr rfl, Or.inr rfl, Or.inr rfl, Or.inr rfl, Or.inl rfl, trivial⟩)))))))))⟩, ⟨⟨_, rfl, (sx_p (pc' := 128) (lv' := [.ref (X + 4), .ref t, .int v2, .int v3, .int x0]) (st' := [.ref (X + 4)]) q56 49 1 rfl (sx_gR q56 50 rfl fk_3_57 (fun _ _ => rfl) (hX.s 4 rfl) (hX.r 4 6 rfl) (sx_p (pc' := 133) (lv' := [.ref (X + 4), .ref t, .int v2, .int v3, .int x0]) (st' := [.ref t, .ref t, .ref (X + 11)]) q56 51 2 rfl (sx_gR q56 53 rfl fk_3_215 (fun _ _ => rfl) (ht.s 0 rfl) (ht.r 0 4 rfl) (sx_p (pc' := 137) (lv' := [.ref (X + 4), .ref t, .int v2, .int v3, .int x0]) (st' := [.int v2, .ref (t + 6), .ref t, .ref (X + 11)]) q56 54 1 rfl (sx_ia q56 55 rfl (ht.s 6 rfl) (ht.b 6) (sx_p (pc' := 141) (lv' := [.ref (X + 4), .ref t, .int v2, .int v3, .int x0]) (st' := [.int (ni 1), .int ((D2.1 (t + 6) v2.toNatClampNeg) + v3), .ref t, .ref (X + 11)]) q56 56 3 rfl (sx_ki (sx_S q56 59 rfl lk_3_167 rfl na_130 rfl rfl rfl rfl) (by decide) rfl (fun x1 D5 => (sx_kv (sx_V q56 60 rfl lk_3_218 vk_91 na_91 rfl rfl rfl rfl (hX.s 11 rfl)) (by decide) rfl (fun D6 => (sx_p (pc' := 174) (lv' := [.ref (X + 4), .ref t, .int v2, .int v3, .int x0]) (st' := []) q56 61 1 rfl (sx_p (pc' := 11) (lv' := [.ref (X + 4), .ref t, .int v2, .int (v3 + ni 1), .int x0]) (st' := []) q56 73 2 rfl (sx_w (lv := [.ref (X + 4), .ref t, .int v2, .int (v3 + ni 1), .int x0]) (lv' := [.ref (X + 4), .ref t, .int v2, .int (v3 + ni 1), sm_junk]) (sm_ordl.ord ⟨Or.inr rfl, Or.inr rfl, Or.inr rfl, Or.inr rfl, Or.inl rfl, trivial⟩)))))))))))))))⟩, ⟨⟨_, rfl, (sx_p (pc' := 151) (lv' := [.ref (X + 4), .ref t, .int v2, .int v3, .int x0]) (st' := [.ref (X + 4)]) q56 62 1 rfl (sx_gR q56 63 rfl fk_3_34 (fun _ _ => rfl) (hX.s 4 rfl) (hX.r 4 4 rfl) (sx_p (pc' := 155) (lv' := [.ref (X + 4), .ref t, .int v2, .int v3, .int x0]) (st' := [.ref t, .ref (X + 8)]) q56 64 1 rfl (sx_kv (sx_V q56 65 rfl lk_3_221 vk_67 na_67 rfl rfl rfl rfl (hX.s 8 rfl)) (by decide) rfl (fun D7 => (sx_p (pc' := 174) (lv' := [.ref (X + 4), .ref t, .int v2, .int v3, .int x0]) (st' := []) q56 66 1 rfl (sx_p (pc' := 11) (lv' := [.ref (X + 4), .ref t, .int v2, .int (v3 + ni 1), .int x0]) (st' := []) q56 73 2 rfl (sx_w (lv := [.ref (X + 4), .ref t, .int v2, .int (v3 + ni 1), .int x0]) (lv' := [.ref (X + 4), .ref t, .int v2, .int (v3 + ni 1), sm_junk]) (sm_ordl.ord ⟨Or.inr rfl, Or.inr rfl, Or.inr rfl, Or.inr rfl, Or.inl rfl, trivial⟩)))))))))⟩, ⟨⟨_, rfl, (sx_p (pc' := 162) (lv' := [.ref (X + 4), .ref t, .int v2, .int v3, .int x0]) (st' := [.ref (X + 4)]) q56 67 1 rfl (sx_gR q56 68 rfl fk_3_41 (fun _ _ => rfl) (hX.s 4 rfl) (hX.r 4 5 rfl) (sx_p (pc' := 168) (lv' := [.ref (X + 4), .ref t, .int v2, .int v3, .int x0]) (st' := [.int x0, .ref t, .ref (X + 9)]) q56 69 2 rfl (sx_kv (sx_V q56 71 rfl lk_3_225 vk_77 na_77 rfl rfl rfl rfl (hX.s 9 rfl)) (by decide) rfl (fun D8 => (sx_p (pc' := 174) (lv' := [.ref (X + 4), .ref t, .int v2, .int v3, .int x0]) (st' := []) q56 72 1 rfl (sx_p (pc' := 11) (lv' := [.ref (X + 4), .ref t, .int v2, .int (v3 + ni 1), .int x0]) (st' := []) q56 73 2 rfl (sx_w (lv := [.ref (X + 4), .ref t, .int v2, .int (v3 + ni 1), .int x0]) (lv' := [.ref (X + 4), .ref t, .int v2, .int (v3 + ni 1), sm_junk]) (sm_ordl.ord ⟨Or.inr rfl, Or.inr rfl, Or.inr rfl, Or.inr rfl, Or.inl rfl, trivial⟩)))))))))⟩, ⟨⟨_, rfl, (sx_p (pc' := 162) (lv' := [.ref (X + 4), .ref t, .int v2, .int v3, .int x0]) (st' := [.ref (X + 4)]) q56 67 1 rfl (sx_gR q56 68 rfl fk_3_41 (fun _ _ => rfl) (hX.s 4 rfl) (hX.r 4 5 rfl) (sx_p (pc' := 168) (lv' := [.ref (X + 4), .ref t, .int v2, .int v3, .int x0]) (st' := [.int x0, .ref t, .ref (X + 9)]) q56 69 2 rfl (sx_kv (sx_V q56 71 rfl lk_3_225 vk_77 na_77 rfl rfl rfl rfl (hX.s 9 rfl)) (by decide) rfl (fun D9 => (sx_p (pc' := 174) (lv' := [.ref (X + 4), .ref t, .int v2, .int v3, .int x0]) (st' := []) q56 72 1 rfl (sx_p (pc' := 11) (lv' := [.ref (X + 4), .ref t, .int v2, .int (v3 + ni 1), .int x0]) (st' := []) q56 73 2 rfl (sx_w (lv := [.ref (X + 4), .ref t, .int v2, .int (v3 + ni 1), .int x0]) (lv' := [.ref (X + 4), .ref t, .int v2, .int (v3 + ni 1), sm_junk]) (sm_ordl.ord ⟨Or.inr rfl, Or.inr rfl, Or.inr rfl, Or.inr rfl, Or.inl rfl, trivial⟩)))))))))⟩, trivial⟩⟩⟩⟩⟩⟩))))))))))))))))))))))))
set_option maxRecDepth 8000 in
theorem n56_180 {C : sm_K} {X : Nat} {t : Nat} {v2 : Int32} (hX : sm_Lay C X) (ht : sm_tree C t) {D : sm_D} : sm_ge (sm_fx C 56 180 [.ref (X + 4), .ref t, .int v2, sm_junk, sm_junk] [] D) (
  sm_bv (sm_fe C 65 [.ref (X + 7), .ref t, .int v2] D) (fun D1 =>
    some (.inl none, D1))) := 
  (sx_p (pc' := 181) (lv' := [.ref (X + 4), .ref t, .int v2, sm_junk, sm_junk]) (st' := [.ref (X + 4)]) q56 75 1 rfl (sx_gR q56 76 rfl fk_3_27 (fun _ _ => rfl) (hX.s 4 rfl) (hX.r 4 3 rfl) (sx_p (pc' := 186) (lv' := [.ref (X + 4), .ref t, .int v2, sm_junk, sm_junk]) (st' := [.int v2, .ref t, .ref (X + 7)]) q56 77 2 rfl (sx_kv (sx_V q56 79 rfl lk_3_228 vk_65 na_65 rfl rfl rfl rfl (hX.s 7 rfl)) (by decide) rfl (fun D1 => (sx_rv q56 80 rfl rfl))))))
set_option maxRecDepth 8000 in
theorem f56 {C : sm_K} {X : Nat} {t : Nat} {v2 : Int32} (hX : sm_Lay C X) (ht : sm_tree C t) {D : sm_D} : sm_ge (sm_fe C 56 [.ref (X + 4), .ref t, .int v2] D) (
  sm_bv (sm_fe C 58 [.ref (X + 7), .ref t, .int v2] D) (fun D1 =>
    sm_fx C 56 11 [.ref (X + 4), .ref t, .int v2, .int (ni 0), sm_junk] [] D1)) := by
  rw [sx_fe (m := 5) rfl rfl]
  exact (show sm_ge (sm_fx C 56 0 [.ref (X + 4), .ref t, .int v2, sm_junk, sm_junk] [] D) _ from (sx_p (pc' := 1) (lv' := [.ref (X + 4), .ref t, .int v2, sm_junk, sm_junk]) (st' := [.ref (X + 4)]) q56 0 1 rfl (sx_gR q56 1 rfl fk_3_27 (fun _ _ => rfl) (hX.s 4 rfl) (hX.r 4 3 rfl) (sx_p (pc' := 6) (lv' := [.ref (X + 4), .ref t, .int v2, sm_junk, sm_junk]) (st' := [.int v2, .ref t, .ref (X + 7)]) q56 2 2 rfl (sx_kv (sx_V q56 4 rfl lk_3_194 vk_58 na_58 rfl rfl rfl rfl (hX.s 7 rfl)) (by decide) rfl (fun D1 => (sx_p (pc' := 11) (lv' := [.ref (X + 4), .ref t, .int v2, .int (ni 0), sm_junk]) (st' := []) q56 5 2 rfl (sm_ge.refl _))))))))
/-! MessageTree$TypeText.begin -/
theorem q58 : sm_q 58 4 sm_i58 5 := ⟨rfl, rfl, rfl⟩
set_option maxRecDepth 8000 in
theorem f58 {C : sm_K} {X : Nat} {t : Nat} {v2 : Int32} (hX : sm_Lay C X) (ht : sm_tree C t) {D : sm_D} : sm_ge (sm_fe C 58 [.ref (X + 7), .ref t, .int v2] D) (
  let D1 := sm_dI D (X + 7) 1 (ni 0)
  sm_bi (sm_fe C 127 [.ref t, .int v2, .int (ni 1)] D1) (fun x0 D2 =>
    if x0 = ni 0 then
      sm_bi (sm_fe C 133 [.int v2, .int (ni 0)] D2) (fun x1 D3 =>
        sm_bv (sm_fe C 134 [.ref t, .int x1, .ref (C.1.1 24)] D3) (fun D4 =>
          sm_bi (sm_fe C 133 [.int v2, .int (ni 1)] D4) (fun x2 D5 =>
            sm_bv (sm_fe C 134 [.ref t, .int x2, .ref (C.1.1 25)] D5) (fun D6 =>
              some (.inl none, D6)))))
    else
      some (.inl none, D2))) := by
  rw [sx_fe (m := 3) rfl rfl]
  exact (show sm_ge (sm_fx C 58 0 [.ref (X + 7), .ref t, .int v2] [] D) _ from (sx_p (pc' := 2) (lv' := [.ref (X + 7), .ref t, .int v2]) (st' := [.int (ni 0), .ref (X + 7)]) q58 0 2 rfl (sx_pI q58 2 rfl pk_4_15 rfl (hX.s 7 rfl) (hX.b 7) (sx_p (pc' := 8) (lv' := [.ref (X + 7), .ref t, .int v2]) (st' := [.int (ni 1), .int v2, .ref t]) q58 3 3 rfl (sx_ki (sx_V q58 6 rfl lk_4_19 vk_127 na_127 rfl rfl rfl rfl (ht.s 0 rfl)) (by decide) rfl (fun x0 D2 => (sx_if_ne q58 7 rfl rfl (sx_rv q58 20 rfl rfl) (sx_p (pc' := 17) (lv' := [.ref (X + 7), .ref t, .int v2]) (st' := [.int (ni 0), .int v2, .ref t]) q58 8 3 rfl (sx_ki (sx_S q58 11 rfl lk_4_25 rfl na_133 rfl rfl rfl rfl) (by decide) rfl (fun x1 D3 => (sx_cs q58 12 rfl (Or.inl ⟨rfl, rfl⟩) cs_4_29 (sx_kv (sx_V q58 13 rfl lk_4_31 vk_134 na_134 rfl rfl rfl rfl (ht.s 0 rfl)) (by decide) rfl (fun D4 => (sx_p (pc' := 28) (lv' := [.ref (X + 7), .ref t, .int v2]) (st' := [.int (ni 1), .int v2, .ref t]) q58 14 3 rfl (sx_ki (sx_S q58 17 rfl lk_4_25 rfl na_133 rfl rfl rfl rfl) (by decide) rfl (fun x2 D5 => (sx_cs q58 18 rfl (Or.inl ⟨rfl, rfl⟩) cs_4_35 (sx_kv (sx_V q58 19 rfl lk_4_31 vk_134 na_134 rfl rfl rfl rfl (ht.s 0 rfl)) (by decide) rfl (fun D6 => (sx_rv q58 20 rfl rfl))))))))))))))))))))
/-! MessageTree$TypeText.readType -/
theorem q59 : sm_q 59 4 sm_i59 10 := ⟨rfl, rfl, rfl⟩
set_option maxRecDepth 8000 in
theorem n59_69 {C : sm_K} {X : Nat} {t : Nat} {v2 : Int32} {v3 : Int32} {v4 : Int32} {v5 : Int32} (hX : sm_Lay C X) (ht : sm_tree C t) {D : sm_D} : sm_ge (sm_fx C 59 69 [.ref (X + 7), .ref t, .int v2, .int v3, .int v4, .int v5, sm_junk] [] D) (
  if (ni 6) ≤ v5 then
    sm_fx C 59 116 [.ref (X + 7), .ref t, .int v2, .int v3, .int v4, .int v5, sm_junk] [] D
  else
    if (D.1 (X + 1) 4) = (ni 59) then
      sm_bv (sm_fe C 31 [.ref (X + 1)] D) (fun D1 =>
        sm_bv (sm_fe C 61 [.ref (X + 7), .ref t, .int v2, .int v5] D1) (fun D2 =>
          sm_bv (sm_fe C 32 [.ref (X + 1)] D2) (fun D3 =>
            sm_fx C 59 69 [.ref (X + 7), .ref t, .int v2, .int v3, .int v4, .int (v5 + ni 1), sm_junk] [] D3)))
    else
      sm_fx C 59 116 [.ref (X + 7), .ref t, .int v2, .int v3, .int v4, .int v5, sm_junk] [] D) := 
  (sx_p (pc' := 73) (lv' := [.ref (X + 7), .ref t, .int v2, .int v3, .int v4, .int v5, sm_junk]) (st' := [.int (ni 6), .int v5]) q59 34 2 rfl (sx_icmp_ge q59 36 rfl rfl (sm_ge.refl _) (sx_p (pc' := 77) (lv' := [.ref (X + 7), .ref t, .int v2, .int v3, .int v4, .int v5, sm_junk]) (st' := [.ref (X + 7)]) q59 37 1 rfl (sx_gR q59 38 rfl fk_4_9 (fun _ _ => rfl) (hX.s 7 rfl) (hX.r 7 0 rfl) (sx_gI q59 39 rfl fk_4_53 rfl (hX.s 1 rfl) (hX.b 1) (sx_p (pc' := 85) (lv' := [.ref (X + 7), .ref t, .int v2, .int v3, .int v4, .int v5, sm_junk]) (st' := [.int (ni 59), .int (D.1 (X + 1) 4)]) q59 40 1 rfl (sx_icmp_ne q59 41 rfl rfl (sm_ge.refl _) (sx_p (pc' := 89) (lv' := [.ref (X + 7), .ref t, .int v2, .int v3, .int v4, .int v5, sm_junk]) (st' := [.ref (X + 7)]) q59 42 1 rfl (sx_gR q59 43 rfl fk_4_9 (fun _ _ => rfl) (hX.s 7 rfl) (hX.r 7 0 rfl) (sx_kv (sx_V q59 44 rfl lk_4_56 vk_31 na_31 rfl rfl rfl rfl (hX.s 1 rfl)) (by decide) rfl (fun D1 => (sx_p (pc' := 100) (lv' := [.ref (X + 7), .ref t, .int v2, .int v3, .int v4, .int v5, sm_junk]) (st' := [.int v5, .int v2, .ref t, .ref (X + 7)]) q59 45 4 rfl (sx_kv (sx_V q59 49 rfl lk_4_59 vk_61 na_61 rfl rfl rfl rfl (hX.s 7 rfl)) (by decide) rfl (fun D2 => (sx_p (pc' := 104) (lv' := [.ref (X + 7), .ref t, .int v2, .int v3, .int v4, .int v5, sm_junk]) (st' := [.ref (X + 7)]) q59 50 1 rfl (sx_gR q59 51 rfl fk_4_9 (fun _ _ => rfl) (hX.s 7 rfl) (hX.r 7 0 rfl) (sx_kv (sx_V q59 52 rfl lk_4_37 vk_32 na_32 rfl rfl rfl rfl (hX.s 1 rfl)) (by decide) rfl (fun D3 => (sx_p (pc' := 69) (lv' := [.ref (X + 7), .ref t, .int v2, .int v3, .int v4, .int (v5 + ni 1), sm_junk]) (st' := []) q59 53 2 rfl (sm_ge.refl _))))))))))))))))))))
set_option maxRecDepth 8000 in
theorem n59_116 {C : sm_K} {X : Nat} {t : Nat} {v2 : Int32} {v3 : Int32} {v4 : Int32} {v5 : Int32} (hX : sm_Lay C X) (ht : sm_tree C t) {D : sm_D} : sm_ge (sm_fx C 59 116 [.ref (X + 7), .ref t, .int v2, .int v3, .int v4, .int v5, sm_junk] [] D) (
  sm_bv (sm_fe C 37 [.ref (X + 1)] D) (fun D1 =>
    sm_bi (sm_fe C 128 [.ref t, .int v2] D1) (fun x0 D2 =>
      if x0 = ni 0 then
        some (.inl none, D2)
      else
        sm_gu (sm_in_b v2 40) (
        let D3 := sm_dI D2 (t + 8) (v2.toNatClampNeg) v5
        sm_bi (sm_fe C 133 [.int v2, .int (ni 0)] D3) (fun x1 D4 =>
          sm_bi (sm_fe C 141 [.ref t, .int x1, .ref (C.1.1 26)] D4) (fun x2 D5 =>
            sm_gu (sm_in_b v2 40) (
            let D6 := sm_dI D5 (t + 10) (v2.toNatClampNeg) (sm_nar .boolean x2)
            if (ni 6) ≤ v3 then
              sm_fx C 59 179 [.ref (X + 7), .ref t, .int v2, sm_junk, .int v4, sm_junk, sm_junk] [] D6
            else
              sm_bi (sm_fe C 142 [.ref t, .int v2] D6) (fun x3 D7 =>
                sm_bi (sm_fe C 62 [.ref t, .int x3] D7) (fun x4 D8 =>
                  if x4 = ni 0 then
                    sm_fx C 59 179 [.ref (X + 7), .ref t, .int v2, sm_junk, .int v4, sm_junk, sm_junk] [] D8
                  else
                    sm_fx C 59 180 [.ref (X + 7), .ref t, .int v2, sm_junk, .int v4, sm_junk, sm_junk] [.int (ni 1)] D8))))))))) := 
  (sx_p (pc' := 117) (lv' := [.ref (X + 7), .ref t, .int v2, .int v3, .int v4, .int v5, sm_junk]) (st' := [.ref (X + 7)]) q59 55 1 rfl (sx_gR q59 56 rfl fk_4_9 (fun _ _ => rfl) (hX.s 7 rfl) (hX.r 7 0 rfl) (sx_kv (sx_V q59 57 rfl lk_4_63 vk_37 na_37 rfl rfl rfl rfl (hX.s 1 rfl)) (by decide) rfl (fun D1 => (sx_p (pc' := 125) (lv' := [.ref (X + 7), .ref t, .int v2, .int v3, .int v4, .int v5, sm_junk]) (st' := [.int v2, .ref t]) q59 58 2 rfl (sx_ki (sx_V q59 60 rfl lk_4_66 vk_128 na_128 rfl rfl rfl rfl (ht.s 0 rfl)) (by decide) rfl (fun x0 D2 => (sx_if_ne q59 61 rfl rfl (sx_p (pc' := 133) (lv' := [.ref (X + 7), .ref t, .int v2, .int v3, .int v4, .int v5, sm_junk]) (st' := [.ref t]) q59 63 1 rfl (sx_gR q59 64 rfl fk_4_70 (fun _ _ => rfl) (ht.s 0 rfl) (ht.r 0 6 rfl) (sx_p (pc' := 139) (lv' := [.ref (X + 7), .ref t, .int v2, .int v3, .int v4, .int v5, sm_junk]) (st' := [.int v5, .int v2, .ref (t + 8)]) q59 65 2 rfl (sx_is q59 67 rfl (ht.s 8 rfl) (ht.b 8) (sx_p (pc' := 141) (lv' := [.ref (X + 7), .ref t, .int v2, .int v3, .int v4, .int v5, sm_junk]) (st' := [.ref t]) q59 68 1 rfl (sx_gR q59 69 rfl fk_4_74 (fun _ _ => rfl) (ht.s 0 rfl) (ht.r 0 8 rfl) (sx_p (pc' := 148) (lv' := [.ref (X + 7), .ref t, .int v2, .int v3, .int v4, .int v5, sm_junk]) (st' := [.int (ni 0), .int v2, .ref t, .int v2, .ref (t + 10)]) q59 70 4 rfl (sx_ki (sx_S q59 74 rfl lk_4_25 rfl na_133 rfl rfl rfl rfl) (by decide) rfl (fun x1 D4 => (sx_cs q59 75 rfl (Or.inl ⟨rfl, rfl⟩) cs_4_78 (sx_ki (sx_V q59 76 rfl lk_4_80 vk_141 na_141 rfl rfl rfl rfl (ht.s 0 rfl)) (by decide) rfl (fun x2 D5 => (sx_bs q59 77 rfl (ht.s 10 rfl) (by simp) (ht.b 10) (sx_p (pc' := 160) (lv' := [.ref (X + 7), .ref t, .int v2, .int v3, .int v4, .int v5, sm_junk]) (st' := [.int (ni 6), .int v3]) q59 78 2 rfl (sx_icmp_ge q59 80 rfl rfl (sx_w (lv := [.ref (X + 7), .ref t, .int v2, .int v3, .int v4, .int v5, sm_junk]) (lv' := [.ref (X + 7), .ref t, .int v2, sm_junk, .int v4, sm_junk, sm_junk]) (sm_ordl.ord ⟨Or.inr rfl, Or.inr rfl, Or.inr rfl, Or.inl rfl, Or.inr rfl, Or.inl rfl, Or.inl rfl, trivial⟩)) (sx_p (pc' := 166) (lv' := [.ref (X + 7), .ref t, .int v2, .int v3, .int v4, .int v5, sm_junk]) (st' := [.int v2, .ref t, .ref t]) q59 81 3 rfl (sx_ki (sx_V q59 84 rfl lk_4_84 vk_142 na_142 rfl rfl rfl rfl (ht.s 0 rfl)) (by decide) rfl (fun x3 D7 => (sx_ki (sx_S q59 85 rfl lk_4_88 rfl na_62 rfl rfl rfl rfl) (by decide) rfl (fun x4 D8 => (sx_if_eq q59 86 rfl rfl (sx_w (lv := [.ref (X + 7), .ref t, .int v2, .int v3, .int v4, .int v5, sm_junk]) (lv' := [.ref (X + 7), .ref t, .int v2, sm_junk, .int v4, sm_junk, sm_junk]) (sm_ordl.ord ⟨Or.inr rfl, Or.inr rfl, Or.inr rfl, Or.inl rfl, Or.inr rfl, Or.inl rfl, Or.inl rfl, trivial⟩)) (sx_p (pc' := 180) (lv' := [.ref (X + 7), .ref t, .int v2, .int v3, .int v4, .int v5, sm_junk]) (st' := [.int (ni 1)]) q59 87 2 rfl (sx_w (lv := [.ref (X + 7), .ref t, .int v2, .int v3, .int v4, .int v5, sm_junk]) (lv' := [.ref (X + 7), .ref t, .int v2, sm_junk, .int v4, sm_junk, sm_junk]) (sm_ordl.ord ⟨Or.inr rfl, Or.inr rfl, Or.inr rfl, Or.inl rfl, Or.inr rfl, Or.inl rfl, Or.inl rfl, trivial⟩)))))))))))))))))))))))) (sx_rv q59 62 rfl rfl)))))))))
set_option maxRecDepth 8000 in
theorem n59_179 {C : sm_K} {X : Nat} {t : Nat} {v2 : Int32} {v4 : Int32} (hX : sm_Lay C X) (ht : sm_tree C t) {D : sm_D} : sm_ge (sm_fx C 59 179 [.ref (X + 7), .ref t, .int v2, sm_junk, .int v4, sm_junk, sm_junk] [] D) (
  sm_fx C 59 180 [.ref (X + 7), .ref t, .int v2, sm_junk, .int v4, sm_junk, sm_junk] [.int (ni 0)] D) := 
  (sx_p (pc' := 180) (lv' := [.ref (X + 7), .ref t, .int v2, sm_junk, .int v4, sm_junk, sm_junk]) (st' := [.int (ni 0)]) q59 89 1 rfl (sm_ge.refl _))
set_option maxRecDepth 8000 in
theorem n59_180 {C : sm_K} {X : Nat} {t : Nat} {v2 : Int32} {v4 : Int32} {s0 : Int32} (hX : sm_Lay C X) (ht : sm_tree C t) {D : sm_D} : sm_ge (sm_fx C 59 180 [.ref (X + 7), .ref t, .int v2, sm_junk, .int v4, sm_junk, sm_junk] [.int s0] D) (
  sm_gu (sm_in_b v2 40) (
  if (D.1 (t + 10) v2.toNatClampNeg) = ni 0 then
    some (.inl none, D)
  else
    if s0 = ni 0 then
      sm_bv (sm_fe C 29 [.ref (X + 1), .int v4] D) (fun D1 =>
        some (.inl none, D1))
    else
      some (.inl none, D))) := 
  (sx_p (pc' := 183) (lv' := [.ref (X + 7), .ref t, .int v2, sm_junk, .int v4, sm_junk, .int s0]) (st' := [.ref t]) q59 90 2 rfl (sx_gR q59 92 rfl fk_4_74 (fun _ _ => rfl) (ht.s 0 rfl) (ht.r 0 8 rfl) (sx_p (pc' := 187) (lv' := [.ref (X + 7), .ref t, .int v2, sm_junk, .int v4, sm_junk, .int s0]) (st' := [.int v2, .ref (t + 10)]) q59 93 1 rfl (sx_ba q59 94 rfl (ht.s 10 rfl) (by simp) (ht.b 10) (sx_if_eq q59 95 rfl rfl (sx_rv q59 102 rfl rfl) (sx_p (pc' := 193) (lv' := [.ref (X + 7), .ref t, .int v2, sm_junk, .int v4, sm_junk, .int s0]) (st' := [.int s0]) q59 96 1 rfl (sx_if_ne q59 97 rfl rfl (sx_rv q59 102 rfl rfl) (sx_p (pc' := 197) (lv' := [.ref (X + 7), .ref t, .int v2, sm_junk, .int v4, sm_junk, .int s0]) (st' := [.ref (X + 7)]) q59 98 1 rfl (sx_gR q59 99 rfl fk_4_9 (fun _ _ => rfl) (hX.s 7 rfl) (hX.r 7 0 rfl) (sx_p (pc' := 202) (lv' := [.ref (X + 7), .ref t, .int v2, sm_junk, .int v4, sm_junk, .int s0]) (st' := [.int v4, .ref (X + 1)]) q59 100 1 rfl (sx_kv (sx_V q59 101 rfl lk_4_92 vk_29 na_29 rfl rfl rfl rfl (hX.s 1 rfl)) (by decide) rfl (fun D1 => (sx_rv q59 102 rfl rfl)))))))))))))
set_option maxRecDepth 8000 in
theorem f59 {C : sm_K} {X : Nat} {t : Nat} {v2 : Int32} {v3 : Int32} (hX : sm_Lay C X) (ht : sm_tree C t) {D : sm_D} : sm_ge (sm_fe C 59 [.ref (X + 7), .ref t, .int v2, .int v3] D) (
  sm_bv (sm_fe C 32 [.ref (X + 1)] D) (fun D1 =>
    sm_bi (sm_fe C 133 [.int v2, .int (ni 0)] D1) (fun x0 D2 =>
      sm_bv (sm_fe C 60 [.ref (X + 7), .ref t, .int x0] D2) (fun D3 =>
        sm_bv (sm_fe C 32 [.ref (X + 1)] D3) (fun D4 =>
          sm_bv (sm_fe C 35 [.ref (X + 1), .int (ni 47)] D4) (fun D5 =>
            sm_bv (sm_fe C 32 [.ref (X + 1)] D5) (fun D6 =>
              sm_bi (sm_fe C 133 [.int v2, .int (ni 1)] D6) (fun x1 D7 =>
                sm_bv (sm_fe C 60 [.ref (X + 7), .ref t, .int x1] D7) (fun D8 =>
                  sm_bv (sm_fe C 32 [.ref (X + 1)] D8) (fun D9 =>
                    sm_fx C 59 69 [.ref (X + 7), .ref t, .int v2, .int v3, .int (D1.1 (X + 1) 2), .int (ni 0), sm_junk] [] D9)))))))))) := by
  rw [sx_fe (m := 7) rfl rfl]
  exact (show sm_ge (sm_fx C 59 0 [.ref (X + 7), .ref t, .int v2, .int v3, sm_junk, sm_junk, sm_junk] [] D) _ from (sx_p (pc' := 1) (lv' := [.ref (X + 7), .ref t, .int v2, .int v3, sm_junk, sm_junk, sm_junk]) (st' := [.ref (X + 7)]) q59 0 1 rfl (sx_gR q59 1 rfl fk_4_9 (fun _ _ => rfl) (hX.s 7 rfl) (hX.r 7 0 rfl) (sx_kv (sx_V q59 2 rfl lk_4_37 vk_32 na_32 rfl rfl rfl rfl (hX.s 1 rfl)) (by decide) rfl (fun D1 => (sx_p (pc' := 8) (lv' := [.ref (X + 7), .ref t, .int v2, .int v3, sm_junk, sm_junk, sm_junk]) (st' := [.ref (X + 7)]) q59 3 1 rfl (sx_gR q59 4 rfl fk_4_9 (fun _ _ => rfl) (hX.s 7 rfl) (hX.r 7 0 rfl) (sx_gI q59 5 rfl fk_4_42 rfl (hX.s 1 rfl) (hX.b 1) (sx_p (pc' := 20) (lv' := [.ref (X + 7), .ref t, .int v2, .int v3, .int (D1.1 (X + 1) 2), sm_junk, sm_junk]) (st' := [.int (ni 0), .int v2, .ref t, .ref (X + 7)]) q59 6 5 rfl (sx_ki (sx_S q59 11 rfl lk_4_25 rfl na_133 rfl rfl rfl rfl) (by decide) rfl (fun x0 D2 => (sx_kv (sx_V q59 12 rfl lk_4_45 vk_60 na_60 rfl rfl rfl rfl (hX.s 7 rfl)) (by decide) rfl (fun D3 => (sx_p (pc' := 27) (lv' := [.ref (X + 7), .ref t, .int v2, .int v3, .int (D1.1 (X + 1) 2), sm_junk, sm_junk]) (st' := [.ref (X + 7)]) q59 13 1 rfl (sx_gR q59 14 rfl fk_4_9 (fun _ _ => rfl) (hX.s 7 rfl) (hX.r 7 0 rfl) (sx_kv (sx_V q59 15 rfl lk_4_37 vk_32 na_32 rfl rfl rfl rfl (hX.s 1 rfl)) (by decide) rfl (fun D4 => (sx_p (pc' := 34) (lv' := [.ref (X + 7), .ref t, .int v2, .int v3, .int (D1.1 (X + 1) 2), sm_junk, sm_junk]) (st' := [.ref (X + 7)]) q59 16 1 rfl (sx_gR q59 17 rfl fk_4_9 (fun _ _ => rfl) (hX.s 7 rfl) (hX.r 7 0 rfl) (sx_p (pc' := 39) (lv' := [.ref (X + 7), .ref t, .int v2, .int v3, .int (D1.1 (X + 1) 2), sm_junk, sm_junk]) (st' := [.int (ni 47), .ref (X + 1)]) q59 18 1 rfl (sx_kv (sx_V q59 19 rfl lk_4_49 vk_35 na_35 rfl rfl rfl rfl (hX.s 1 rfl)) (by decide) rfl (fun D5 => (sx_p (pc' := 43) (lv' := [.ref (X + 7), .ref t, .int v2, .int v3, .int (D1.1 (X + 1) 2), sm_junk, sm_junk]) (st' := [.ref (X + 7)]) q59 20 1 rfl (sx_gR q59 21 rfl fk_4_9 (fun _ _ => rfl) (hX.s 7 rfl) (hX.r 7 0 rfl) (sx_kv (sx_V q59 22 rfl lk_4_37 vk_32 na_32 rfl rfl rfl rfl (hX.s 1 rfl)) (by decide) rfl (fun D6 => (sx_p (pc' := 53) (lv' := [.ref (X + 7), .ref t, .int v2, .int v3, .int (D1.1 (X + 1) 2), sm_junk, sm_junk]) (st' := [.int (ni 1), .int v2, .ref t, .ref (X + 7)]) q59 23 4 rfl (sx_ki (sx_S q59 27 rfl lk_4_25 rfl na_133 rfl rfl rfl rfl) (by decide) rfl (fun x1 D7 => (sx_kv (sx_V q59 28 rfl lk_4_45 vk_60 na_60 rfl rfl rfl rfl (hX.s 7 rfl)) (by decide) rfl (fun D8 => (sx_p (pc' := 60) (lv' := [.ref (X + 7), .ref t, .int v2, .int v3, .int (D1.1 (X + 1) 2), sm_junk, sm_junk]) (st' := [.ref (X + 7)]) q59 29 1 rfl (sx_gR q59 30 rfl fk_4_9 (fun _ _ => rfl) (hX.s 7 rfl) (hX.r 7 0 rfl) (sx_kv (sx_V q59 31 rfl lk_4_37 vk_32 na_32 rfl rfl rfl rfl (hX.s 1 rfl)) (by decide) rfl (fun D9 => (sx_p (pc' := 69) (lv' := [.ref (X + 7), .ref t, .int v2, .int v3, .int (D1.1 (X + 1) 2), .int (ni 0), sm_junk]) (st' := []) q59 32 2 rfl (sm_ge.refl _)))))))))))))))))))))))))))))))))))))
