/-! ===== what methods do from place to place, written by a program (wip/tools/gen_nodes.py) ===== -/
/-! MessageTreeModel.at -/
theorem q161 : sm_q 161 12 sm_i161 0 := ⟨rfl, rfl, rfl⟩
set_option maxRecDepth 8000 in
theorem f161 {C : sm_K} {X : Nat} {v1 : Int32} (hX : sm_Lay C X) {D : sm_D} : sm_ge (sm_fe C 161 [.ref (X + 49), .int v1] D) (
  sm_gu (sm_in_b v1 8000) (
  some (.inl (some (.int ((D.1 (X + 51) v1.toNatClampNeg) &&& (ni 255)))), D))) := by
  rw [sx_fe (m := 2) rfl rfl]
  exact (show sm_ge (sm_fx C 161 0 [.ref (X + 49), .int v1] [] D) _ from (sx_p (pc' := 1) (lv' := [.ref (X + 49), .int v1]) (st' := [.ref (X + 49)]) q161 0 1 rfl (sx_gR q161 1 rfl fk_12_13 (fun _ _ => rfl) (hX.s 49 rfl) (hX.r 49 3 rfl) (sx_p (pc' := 5) (lv' := [.ref (X + 49), .int v1]) (st' := [.int v1, .ref (X + 51)]) q161 2 1 rfl (sx_ba q161 3 rfl (hX.s 51 rfl) (by simp) (hX.b 51) (sx_p (pc' := 10) (lv' := [.ref (X + 49), .int v1]) (st' := [.int ((D.1 (X + 51) v1.toNatClampNeg) &&& (ni 255))]) q161 4 2 rfl (sx_ri (ty := .int) q161 6 rfl rfl)))))))
/-! MessageTreeModel.bad -/
theorem q162 : sm_q 162 12 sm_i162 0 := ⟨rfl, rfl, rfl⟩
set_option maxRecDepth 8000 in
theorem f162 {C : sm_K} {X : Nat} {v1 : Int32} (hX : sm_Lay C X) {D : sm_D} : sm_ge (sm_fe C 162 [.ref (X + 49), .int v1] D) (
  if (D.1 (X + 49) 8) = (sm_k (-1)) then
    let D2 := sm_dI D (X + 49) 8 v1
    some (.inl none, D2)
  else
    let D1 := sm_dI D (X + 49) 8 (D.1 (X + 49) 8)
    some (.inl none, D1)) := by
  rw [sx_fe (m := 2) rfl rfl]
  exact (show sm_ge (sm_fx C 162 0 [.ref (X + 49), .int v1] [] D) _ from (sx_p (pc' := 2) (lv' := [.ref (X + 49), .int v1]) (st' := [.ref (X + 49), .ref (X + 49)]) q162 0 2 rfl (sx_gI q162 2 rfl fk_12_134 rfl (hX.s 49 rfl) (hX.b 49) (sx_p (pc' := 6) (lv' := [.ref (X + 49), .int v1]) (st' := [.int (sm_k (-1)), .int (D.1 (X + 49) 8), .ref (X + 49)]) q162 3 1 rfl (sx_icmp_ne q162 4 rfl rfl (sx_p (pc' := 14) (lv' := [.ref (X + 49), .int v1]) (st' := [.ref (X + 49), .ref (X + 49)]) q162 7 1 rfl (sx_gI q162 8 rfl fk_12_134 rfl (hX.s 49 rfl) (hX.b 49) (sx_pI q162 9 rfl pk_12_134 rfl (hX.s 49 rfl) (hX.b 49) (sx_rv q162 10 rfl rfl)))) (sx_p (pc' := 17) (lv' := [.ref (X + 49), .int v1]) (st' := [.int v1, .ref (X + 49)]) q162 5 2 rfl (sx_pI q162 9 rfl pk_12_134 rfl (hX.s 49 rfl) (hX.b 49) (sx_rv q162 10 rfl rfl))))))))
/-! MessageTreeModel.readEntity -/
theorem q163 : sm_q 163 12 sm_i163 9 := ⟨rfl, rfl, rfl⟩
set_option maxRecDepth 8000 in
theorem n163_47 {C : sm_K} {X : Nat} {v2 : Int32} {v3 : Int32} {v4 : Int32} {s1 : Int32} {s2 : Int32} (hX : sm_Lay C X) {D : sm_D} : sm_ge (sm_fx C 163 47 [.ref (X + 49), sm_junk, .int v2, .int v3, .int v4, sm_junk] [.int s2, .int s1, .ref (X + 62)] D) (
  sm_gu (sm_in_b s1 40) (
  let D1 := sm_dI D (X + 62) (s1.toNatClampNeg) s2
  sm_gu (sm_in_b v4 40) (
  let D2 := sm_dI D1 (X + 56) (v4.toNatClampNeg) (sm_nar .boolean (ni 0))
  sm_gu (sm_in_b v4 40) (
  let D3 := sm_dI D2 (X + 57) (v4.toNatClampNeg) (ni 0)
  sm_gu (sm_in_b v4 40) (
  let D4 := sm_dI D3 (X + 61) (v4.toNatClampNeg) (ni 0)
  sm_gu (sm_in_b v4 40) (
  let D5 := sm_dI D4 (X + 59) (v4.toNatClampNeg) (D4.1 (X + 49) 34)
  sm_gu (sm_in_b v4 40) (
  let D6 := sm_dI D5 (X + 60) (v4.toNatClampNeg) (ni 0)
  sm_bv (sm_fe C 164 [.ref (X + 49), .int v4, .int v2, .int v3] D6) (fun D7 =>
    if (D7.1 (X + 49) 8) = (sm_k (-1)) then
      sm_bi (sm_fe C 169 [.ref (X + 49), .int v4, .int (ni 1)] D7) (fun x0 D8 =>
        if x0 = (sm_k (-1)) then
          sm_bv (sm_fe C 171 [.ref (X + 49), .int v4] D8) (fun D9 =>
            sm_fx C 163 131 [.ref (X + 49), sm_junk, sm_junk, .int v3, .int v4, .int (D7.1 (X + 49) 45)] [] D9)
        else
          sm_fx C 163 131 [.ref (X + 49), sm_junk, sm_junk, .int v3, .int v4, .int (D7.1 (X + 49) 45)] [] D8)
    else
      some (.inl none, D7))))))))) := 
  (sx_is q163 28 rfl (hX.s 62 rfl) (hX.b 62) (sx_p (pc' := 49) (lv' := [.ref (X + 49), sm_junk, .int v2, .int v3, .int v4, sm_junk]) (st' := [.ref (X + 49)]) q163 29 1 rfl (sx_gR q163 30 rfl fk_12_29 (fun _ _ => rfl) (hX.s 49 rfl) (hX.r 49 13 rfl) (sx_p (pc' := 55) (lv' := [.ref (X + 49), sm_junk, .int v2, .int v3, .int v4, sm_junk]) (st' := [.int (ni 0), .int v4, .ref (X + 56)]) q163 31 2 rfl (sx_bs q163 33 rfl (hX.s 56 rfl) (by simp) (hX.b 56) (sx_p (pc' := 57) (lv' := [.ref (X + 49), sm_junk, .int v2, .int v3, .int v4, sm_junk]) (st' := [.ref (X + 49)]) q163 34 1 rfl (sx_gR q163 35 rfl fk_12_33 (fun _ _ => rfl) (hX.s 49 rfl) (hX.r 49 14 rfl) (sx_p (pc' := 63) (lv' := [.ref (X + 49), sm_junk, .int v2, .int v3, .int v4, sm_junk]) (st' := [.int (ni 0), .int v4, .ref (X + 57)]) q163 36 2 rfl (sx_is q163 38 rfl (hX.s 57 rfl) (hX.b 57) (sx_p (pc' := 65) (lv' := [.ref (X + 49), sm_junk, .int v2, .int v3, .int v4, sm_junk]) (st' := [.ref (X + 49)]) q163 39 1 rfl (sx_gR q163 40 rfl fk_12_45 (fun _ _ => rfl) (hX.s 49 rfl) (hX.r 49 18 rfl) (sx_p (pc' := 71) (lv' := [.ref (X + 49), sm_junk, .int v2, .int v3, .int v4, sm_junk]) (st' := [.int (ni 0), .int v4, .ref (X + 61)]) q163 41 2 rfl (sx_is q163 43 rfl (hX.s 61 rfl) (hX.b 61) (sx_p (pc' := 73) (lv' := [.ref (X + 49), sm_junk, .int v2, .int v3, .int v4, sm_junk]) (st' := [.ref (X + 49)]) q163 44 1 rfl (sx_gR q163 45 rfl fk_12_39 (fun _ _ => rfl) (hX.s 49 rfl) (hX.r 49 16 rfl) (sx_p (pc' := 79) (lv' := [.ref (X + 49), sm_junk, .int v2, .int v3, .int v4, sm_junk]) (st' := [.ref (X + 49), .int v4, .ref (X + 59)]) q163 46 2 rfl (sx_gI q163 48 rfl fk_12_465 rfl (hX.s 49 rfl) (hX.b 49) (sx_is q163 49 rfl (hX.s 59 rfl) (hX.b 59) (sx_p (pc' := 84) (lv' := [.ref (X + 49), sm_junk, .int v2, .int v3, .int v4, sm_junk]) (st' := [.ref (X + 49)]) q163 50 1 rfl (sx_gR q163 51 rfl fk_12_42 (fun _ _ => rfl) (hX.s 49 rfl) (hX.r 49 17 rfl) (sx_p (pc' := 90) (lv' := [.ref (X + 49), sm_junk, .int v2, .int v3, .int v4, sm_junk]) (st' := [.int (ni 0), .int v4, .ref (X + 60)]) q163 52 2 rfl (sx_is q163 54 rfl (hX.s 60 rfl) (hX.b 60) (sx_p (pc' := 96) (lv' := [.ref (X + 49), sm_junk, .int v2, .int v3, .int v4, sm_junk]) (st' := [.int v3, .int v2, .int v4, .ref (X + 49)]) q163 55 4 rfl (sx_kv (sx_V q163 59 rfl lk_12_468 vk_164 na_164 rfl rfl rfl rfl (hX.s 49 rfl)) (by decide) rfl (fun D7 => (sx_p (pc' := 100) (lv' := [.ref (X + 49), sm_junk, .int v2, .int v3, .int v4, sm_junk]) (st' := [.ref (X + 49)]) q163 60 1 rfl (sx_gI q163 61 rfl fk_12_134 rfl (hX.s 49 rfl) (hX.b 49) (sx_p (pc' := 104) (lv' := [.ref (X + 49), sm_junk, .int v2, .int v3, .int v4, sm_junk]) (st' := [.int (sm_k (-1)), .int (D7.1 (X + 49) 8)]) q163 62 1 rfl (sx_icmp_eq q163 63 rfl rfl (sx_p (pc' := 109) (lv' := [.ref (X + 49), sm_junk, .int v2, .int v3, .int v4, sm_junk]) (st' := [.ref (X + 49)]) q163 65 1 rfl (sx_gI q163 66 rfl fk_12_190 rfl (hX.s 49 rfl) (hX.b 49) (sx_p (pc' := 118) (lv' := [.ref (X + 49), sm_junk, .int v2, .int v3, .int v4, .int (D7.1 (X + 49) 45)]) (st' := [.int (ni 1), .int v4, .ref (X + 49)]) q163 67 4 rfl (sx_ki (sx_V q163 71 rfl lk_12_200 vk_169 na_169 rfl rfl rfl rfl (hX.s 49 rfl)) (by decide) rfl (fun x0 D8 => (sx_p (pc' := 122) (lv' := [.ref (X + 49), sm_junk, .int v2, .int v3, .int v4, .int (D7.1 (X + 49) 45)]) (st' := [.int (sm_k (-1)), .int x0]) q163 72 1 rfl (sx_icmp_ne q163 73 rfl rfl (sx_w (lv := [.ref (X + 49), sm_junk, .int v2, .int v3, .int v4, .int (D7.1 (X + 49) 45)]) (lv' := [.ref (X + 49), sm_junk, sm_junk, .int v3, .int v4, .int (D7.1 (X + 49) 45)]) (sm_ordl.ord ⟨Or.inr rfl, Or.inl rfl, Or.inl rfl, Or.inr rfl, Or.inr rfl, Or.inr rfl, trivial⟩)) (sx_p (pc' := 128) (lv' := [.ref (X + 49), sm_junk, .int v2, .int v3, .int v4, .int (D7.1 (X + 49) 45)]) (st' := [.int v4, .ref (X + 49)]) q163 74 2 rfl (sx_kv (sx_V q163 76 rfl lk_12_471 vk_171 na_171 rfl rfl rfl rfl (hX.s 49 rfl)) (by decide) rfl (fun D9 => (sx_w (lv := [.ref (X + 49), sm_junk, .int v2, .int v3, .int v4, .int (D7.1 (X + 49) 45)]) (lv' := [.ref (X + 49), sm_junk, sm_junk, .int v3, .int v4, .int (D7.1 (X + 49) 45)]) (sm_ordl.ord ⟨Or.inr rfl, Or.inl rfl, Or.inl rfl, Or.inr rfl, Or.inr rfl, Or.inr rfl, trivial⟩)))))))))))) (sx_rv q163 64 rfl rfl))))))))))))))))))))))))))))))
set_option maxRecDepth 8000 in
theorem n163_131 {C : sm_K} {X : Nat} {v3 : Int32} {v4 : Int32} {v5 : Int32} (hX : sm_Lay C X) {D : sm_D} : sm_ge (sm_fx C 163 131 [.ref (X + 49), sm_junk, sm_junk, .int v3, .int v4, .int v5] [] D) (
  sm_bv (sm_fe C 174 [.ref (X + 49), .int v4] D) (fun D1 =>
    if (D1.1 (X + 49) 8) = (sm_k (-1)) then
      sm_gu (sm_in_b v4 40) (
      if (D1.1 (X + 56) v4.toNatClampNeg) = ni 0 then
        sm_bv (sm_fe C 225 [.ref (X + 49), .int v4, .int v5, .int v3] D1) (fun D2 =>
          some (.inl none, D2))
      else
        sm_gu (sm_in_b (D1.1 (X + 49) 60) 8) (
        let D3 := sm_dI D1 (X + 84) ((D1.1 (X + 49) 60).toNatClampNeg) v4
        sm_gu (sm_in_b (D3.1 (X + 49) 60) 8) (
        let D4 := sm_dI D3 (X + 85) ((D3.1 (X + 49) 60).toNatClampNeg) v3
        sm_gu (sm_in_b (D4.1 (X + 49) 60) 8) (
        let D5 := sm_dI D4 (X + 86) ((D4.1 (X + 49) 60).toNatClampNeg) v5
        sm_gu (sm_in_b (D5.1 (X + 49) 60) 8) (
        let D6 := sm_dI D5 (X + 87) ((D5.1 (X + 49) 60).toNatClampNeg) (sm_k (-1))
        let D7 := sm_dI D6 (X + 49) 60 ((D6.1 (X + 49) 60) + (ni 1))
        some (.inl none, D7))))))
    else
      some (.inl none, D1))) := 
  (sx_p (pc' := 134) (lv' := [.ref (X + 49), sm_junk, sm_junk, .int v3, .int v4, .int v5]) (st' := [.int v4, .ref (X + 49)]) q163 77 2 rfl (sx_kv (sx_V q163 79 rfl lk_12_474 vk_174 na_174 rfl rfl rfl rfl (hX.s 49 rfl)) (by decide) rfl (fun D1 => (sx_p (pc' := 138) (lv' := [.ref (X + 49), sm_junk, sm_junk, .int v3, .int v4, .int v5]) (st' := [.ref (X + 49)]) q163 80 1 rfl (sx_gI q163 81 rfl fk_12_134 rfl (hX.s 49 rfl) (hX.b 49) (sx_p (pc' := 142) (lv' := [.ref (X + 49), sm_junk, sm_junk, .int v3, .int v4, .int v5]) (st' := [.int (sm_k (-1)), .int (D1.1 (X + 49) 8)]) q163 82 1 rfl (sx_icmp_eq q163 83 rfl rfl (sx_p (pc' := 147) (lv' := [.ref (X + 49), sm_junk, sm_junk, .int v3, .int v4, .int v5]) (st' := [.ref (X + 49)]) q163 85 1 rfl (sx_gR q163 86 rfl fk_12_29 (fun _ _ => rfl) (hX.s 49 rfl) (hX.r 49 13 rfl) (sx_p (pc' := 152) (lv' := [.ref (X + 49), sm_junk, sm_junk, .int v3, .int v4, .int v5]) (st' := [.int v4, .ref (X + 56)]) q163 87 1 rfl (sx_ba q163 88 rfl (hX.s 56 rfl) (by simp) (hX.b 56) (sx_if_eq q163 89 rfl rfl (sx_p (pc' := 217) (lv' := [.ref (X + 49), sm_junk, sm_junk, .int v3, .int v4, .int v5]) (st' := [.int v3, .int v5, .int v4, .ref (X + 49)]) q163 121 4 rfl (sx_kv (sx_V q163 125 rfl lk_12_480 vk_225 na_225 rfl rfl rfl rfl (hX.s 49 rfl)) (by decide) rfl (fun D2 => (sx_rv q163 126 rfl rfl)))) (sx_p (pc' := 157) (lv' := [.ref (X + 49), sm_junk, sm_junk, .int v3, .int v4, .int v5]) (st' := [.ref (X + 49)]) q163 90 1 rfl (sx_gR q163 91 rfl fk_12_115 (fun _ _ => rfl) (hX.s 49 rfl) (hX.r 49 61 rfl) (sx_p (pc' := 161) (lv' := [.ref (X + 49), sm_junk, sm_junk, .int v3, .int v4, .int v5]) (st' := [.ref (X + 49), .ref (X + 84)]) q163 92 1 rfl (sx_gI q163 93 rfl fk_12_477 rfl (hX.s 49 rfl) (hX.b 49) (sx_p (pc' := 166) (lv' := [.ref (X + 49), sm_junk, sm_junk, .int v3, .int v4, .int v5]) (st' := [.int v4, .int (D1.1 (X + 49) 60), .ref (X + 84)]) q163 94 1 rfl (sx_is q163 95 rfl (hX.s 84 rfl) (hX.b 84) (sx_p (pc' := 168) (lv' := [.ref (X + 49), sm_junk, sm_junk, .int v3, .int v4, .int v5]) (st' := [.ref (X + 49)]) q163 96 1 rfl (sx_gR q163 97 rfl fk_12_118 (fun _ _ => rfl) (hX.s 49 rfl) (hX.r 49 62 rfl) (sx_p (pc' := 172) (lv' := [.ref (X + 49), sm_junk, sm_junk, .int v3, .int v4, .int v5]) (st' := [.ref (X + 49), .ref (X + 85)]) q163 98 1 rfl (sx_gI q163 99 rfl fk_12_477 rfl (hX.s 49 rfl) (hX.b 49) (sx_p (pc' := 176) (lv' := [.ref (X + 49), sm_junk, sm_junk, .int v3, .int v4, .int v5]) (st' := [.int v3, .int ((sm_dI D1 (X + 84) ((D1.1 (X + 49) 60).toNatClampNeg) v4).1 (X + 49) 60), .ref (X + 85)]) q163 100 1 rfl (sx_is q163 101 rfl (hX.s 85 rfl) (hX.b 85) (sx_p (pc' := 178) (lv' := [.ref (X + 49), sm_junk, sm_junk, .int v3, .int v4, .int v5]) (st' := [.ref (X + 49)]) q163 102 1 rfl (sx_gR q163 103 rfl fk_12_121 (fun _ _ => rfl) (hX.s 49 rfl) (hX.r 49 63 rfl) (sx_p (pc' := 182) (lv' := [.ref (X + 49), sm_junk, sm_junk, .int v3, .int v4, .int v5]) (st' := [.ref (X + 49), .ref (X + 86)]) q163 104 1 rfl (sx_gI q163 105 rfl fk_12_477 rfl (hX.s 49 rfl) (hX.b 49) (sx_p (pc' := 187) (lv' := [.ref (X + 49), sm_junk, sm_junk, .int v3, .int v4, .int v5]) (st' := [.int v5, .int ((sm_dI (sm_dI D1 (X + 84) ((D1.1 (X + 49) 60).toNatClampNeg) v4) (X + 85) (((sm_dI D1 (X + 84) ((D1.1 (X + 49) 60).toNatClampNeg) v4).1 (X + 49) 60).toNatClampNeg) v3).1 (X + 49) 60), .ref (X + 86)]) q163 106 1 rfl (sx_is q163 107 rfl (hX.s 86 rfl) (hX.b 86) (sx_p (pc' := 189) (lv' := [.ref (X + 49), sm_junk, sm_junk, .int v3, .int v4, .int v5]) (st' := [.ref (X + 49)]) q163 108 1 rfl (sx_gR q163 109 rfl fk_12_124 (fun _ _ => rfl) (hX.s 49 rfl) (hX.r 49 64 rfl) (sx_p (pc' := 193) (lv' := [.ref (X + 49), sm_junk, sm_junk, .int v3, .int v4, .int v5]) (st' := [.ref (X + 49), .ref (X + 87)]) q163 110 1 rfl (sx_gI q163 111 rfl fk_12_477 rfl (hX.s 49 rfl) (hX.b 49) (sx_p (pc' := 197) (lv' := [.ref (X + 49), sm_junk, sm_junk, .int v3, .int v4, .int v5]) (st' := [.int (sm_k (-1)), .int ((sm_dI (sm_dI (sm_dI D1 (X + 84) ((D1.1 (X + 49) 60).toNatClampNeg) v4) (X + 85) (((sm_dI D1 (X + 84) ((D1.1 (X + 49) 60).toNatClampNeg) v4).1 (X + 49) 60).toNatClampNeg) v3) (X + 86) (((sm_dI (sm_dI D1 (X + 84) ((D1.1 (X + 49) 60).toNatClampNeg) v4) (X + 85) (((sm_dI D1 (X + 84) ((D1.1 (X + 49) 60).toNatClampNeg) v4).1 (X + 49) 60).toNatClampNeg) v3).1 (X + 49) 60).toNatClampNeg) v5).1 (X + 49) 60), .ref (X + 87)]) q163 112 1 rfl (sx_is q163 113 rfl (hX.s 87 rfl) (hX.b 87) (sx_p (pc' := 200) (lv' := [.ref (X + 49), sm_junk, sm_junk, .int v3, .int v4, .int v5]) (st' := [.ref (X + 49), .ref (X + 49)]) q163 114 2 rfl (sx_gI q163 116 rfl fk_12_477 rfl (hX.s 49 rfl) (hX.b 49) (sx_p (pc' := 205) (lv' := [.ref (X + 49), sm_junk, sm_junk, .int v3, .int v4, .int v5]) (st' := [.int (((sm_dI (sm_dI (sm_dI (sm_dI D1 (X + 84) ((D1.1 (X + 49) 60).toNatClampNeg) v4) (X + 85) (((sm_dI D1 (X + 84) ((D1.1 (X + 49) 60).toNatClampNeg) v4).1 (X + 49) 60).toNatClampNeg) v3) (X + 86) (((sm_dI (sm_dI D1 (X + 84) ((D1.1 (X + 49) 60).toNatClampNeg) v4) (X + 85) (((sm_dI D1 (X + 84) ((D1.1 (X + 49) 60).toNatClampNeg) v4).1 (X + 49) 60).toNatClampNeg) v3).1 (X + 49) 60).toNatClampNeg) v5) (X + 87) (((sm_dI (sm_dI (sm_dI D1 (X + 84) ((D1.1 (X + 49) 60).toNatClampNeg) v4) (X + 85) (((sm_dI D1 (X + 84) ((D1.1 (X + 49) 60).toNatClampNeg) v4).1 (X + 49) 60).toNatClampNeg) v3) (X + 86) (((sm_dI (sm_dI D1 (X + 84) ((D1.1 (X + 49) 60).toNatClampNeg) v4) (X + 85) (((sm_dI D1 (X + 84) ((D1.1 (X + 49) 60).toNatClampNeg) v4).1 (X + 49) 60).toNatClampNeg) v3).1 (X + 49) 60).toNatClampNeg) v5).1 (X + 49) 60).toNatClampNeg) (sm_k (-1))).1 (X + 49) 60) + (ni 1)), .ref (X + 49)]) q163 117 2 rfl (sx_pI q163 119 rfl pk_12_477 rfl (hX.s 49 rfl) (hX.b 49) (sx_p (pc' := 220) (lv' := [.ref (X + 49), sm_junk, sm_junk, .int v3, .int v4, .int v5]) (st' := []) q163 120 1 rfl (sx_rv q163 126 rfl rfl))))))))))))))))))))))))))))))))))) (sx_rv q163 84 rfl rfl))))))))
set_option maxRecDepth 8000 in
theorem f163 {C : sm_K} {X : Nat} {v1 : Int32} {v2 : Int32} {v3 : Int32} (hX : sm_Lay C X) {D : sm_D} : sm_ge (sm_fe C 163 [.ref (X + 49), .int v1, .int v2, .int v3] D) (
  let D1 := sm_dI D (X + 49) 9 ((D.1 (X + 49) 9) + (ni 1))
  sm_gu (sm_in_b (D.1 (X + 49) 9) 40) (
  let D2 := sm_dI D1 (X + 53) ((D.1 (X + 49) 9).toNatClampNeg) v1
  if v1 = (sm_k (-1)) then
    sm_fx C 163 47 [.ref (X + 49), sm_junk, .int v2, .int v3, .int (D.1 (X + 49) 9), sm_junk] [.int (ni 0), .int (D.1 (X + 49) 9), .ref (X + 62)] D2
  else
    sm_gu (sm_in_b v1 40) (
    sm_fx C 163 47 [.ref (X + 49), sm_junk, .int v2, .int v3, .int (D.1 (X + 49) 9), sm_junk] [.int ((D2.1 (X + 62) v1.toNatClampNeg) + (ni 1)), .int (D.1 (X + 49) 9), .ref (X + 62)] D2))) := by
  rw [sx_fe (m := 6) rfl rfl]
  exact (show sm_ge (sm_fx C 163 0 [.ref (X + 49), .int v1, .int v2, .int v3, sm_junk, sm_junk] [] D) _ from (sx_p (pc' := 1) (lv' := [.ref (X + 49), .int v1, .int v2, .int v3, sm_junk, sm_junk]) (st' := [.ref (X + 49)]) q163 0 1 rfl (sx_gI q163 1 rfl fk_12_462 rfl (hX.s 49 rfl) (hX.b 49) (sx_p (pc' := 8) (lv' := [.ref (X + 49), .int v1, .int v2, .int v3, .int (D.1 (X + 49) 9), sm_junk]) (st' := [.ref (X + 49), .ref (X + 49)]) q163 2 3 rfl (sx_gI q163 5 rfl fk_12_462 rfl (hX.s 49 rfl) (hX.b 49) (sx_p (pc' := 13) (lv' := [.ref (X + 49), .int v1, .int v2, .int v3, .int (D.1 (X + 49) 9), sm_junk]) (st' := [.int ((D.1 (X + 49) 9) + (ni 1)), .ref (X + 49)]) q163 6 2 rfl (sx_pI q163 8 rfl pk_12_462 rfl (hX.s 49 rfl) (hX.b 49) (sx_p (pc' := 17) (lv' := [.ref (X + 49), .int v1, .int v2, .int v3, .int (D.1 (X + 49) 9), sm_junk]) (st' := [.ref (X + 49)]) q163 9 1 rfl (sx_gR q163 10 rfl fk_12_19 (fun _ _ => rfl) (hX.s 49 rfl) (hX.r 49 10 rfl) (sx_p (pc' := 23) (lv' := [.ref (X + 49), .int v1, .int v2, .int v3, .int (D.1 (X + 49) 9), sm_junk]) (st' := [.int v1, .int (D.1 (X + 49) 9), .ref (X + 53)]) q163 11 2 rfl (sx_is q163 13 rfl (hX.s 53 rfl) (hX.b 53) (sx_p (pc' := 25) (lv' := [.ref (X + 49), .int v1, .int v2, .int v3, .int (D.1 (X + 49) 9), sm_junk]) (st' := [.ref (X + 49)]) q163 14 1 rfl (sx_gR q163 15 rfl fk_12_48 (fun _ _ => rfl) (hX.s 49 rfl) (hX.r 49 19 rfl) (sx_p (pc' := 32) (lv' := [.ref (X + 49), .int v1, .int v2, .int v3, .int (D.1 (X + 49) 9), sm_junk]) (st' := [.int (sm_k (-1)), .int v1, .int (D.1 (X + 49) 9), .ref (X + 62)]) q163 16 3 rfl (sx_icmp_ne q163 19 rfl rfl (sx_p (pc' := 40) (lv' := [.ref (X + 49), .int v1, .int v2, .int v3, .int (D.1 (X + 49) 9), sm_junk]) (st' := [.ref (X + 49), .int (D.1 (X + 49) 9), .ref (X + 62)]) q163 22 1 rfl (sx_gR q163 23 rfl fk_12_48 (fun _ _ => rfl) (hX.s 49 rfl) (hX.r 49 19 rfl) (sx_p (pc' := 44) (lv' := [.ref (X + 49), .int v1, .int v2, .int v3, .int (D.1 (X + 49) 9), sm_junk]) (st' := [.int v1, .ref (X + 62), .int (D.1 (X + 49) 9), .ref (X + 62)]) q163 24 1 rfl (sx_ia q163 25 rfl (hX.s 62 rfl) (hX.b 62) (sx_p (pc' := 47) (lv' := [.ref (X + 49), .int v1, .int v2, .int v3, .int (D.1 (X + 49) 9), sm_junk]) (st' := [.int (((sm_dI (sm_dI D (X + 49) 9 ((D.1 (X + 49) 9) + (ni 1))) (X + 53) ((D.1 (X + 49) 9).toNatClampNeg) v1).1 (X + 62) v1.toNatClampNeg) + (ni 1)), .int (D.1 (X + 49) 9), .ref (X + 62)]) q163 26 2 rfl (sx_w (lv := [.ref (X + 49), .int v1, .int v2, .int v3, .int (D.1 (X + 49) 9), sm_junk]) (lv' := [.ref (X + 49), sm_junk, .int v2, .int v3, .int (D.1 (X + 49) 9), sm_junk]) (sm_ordl.ord ⟨Or.inr rfl, Or.inl rfl, Or.inr rfl, Or.inr rfl, Or.inr rfl, Or.inl rfl, trivial⟩))))))) (sx_p (pc' := 47) (lv' := [.ref (X + 49), .int v1, .int v2, .int v3, .int (D.1 (X + 49) 9), sm_junk]) (st' := [.int (ni 0), .int (D.1 (X + 49) 9), .ref (X + 62)]) q163 20 2 rfl (sx_w (lv := [.ref (X + 49), .int v1, .int v2, .int v3, .int (D.1 (X + 49) 9), sm_junk]) (lv' := [.ref (X + 49), sm_junk, .int v2, .int v3, .int (D.1 (X + 49) 9), sm_junk]) (sm_ordl.ord ⟨Or.inr rfl, Or.inl rfl, Or.inr rfl, Or.inr rfl, Or.inr rfl, Or.inl rfl, trivial⟩))))))))))))))))))
/-! MessageTreeModel.readFields -/
theorem q164 : sm_q 164 12 sm_i164 7 := ⟨rfl, rfl, rfl⟩
set_option maxRecDepth 8000 in
theorem n164_23 {C : sm_K} {X : Nat} {v1 : Int32} {v3 : Int32} {v4 : Int32} {v5 : Int32} (hX : sm_Lay C X) {D : sm_D} : sm_ge (sm_fx C 164 23 [.ref (X + 49), .int v1, sm_junk, .int v3, .int v4, .int v5] [] D) (
  if v5 = ni 0 then
    some (.inl none, D)
  else
    if (D.1 (X + 49) 8) = (sm_k (-1)) then
      if v4 < v3 then
        sm_bi (sm_fe C 161 [.ref (X + 49), .int v4] D) (fun x0 D1 =>
          if x0 = (ni 13) then
            let D3 := sm_dI D1 (X + 49) 45 (v4 + (ni 2))
            if (v4 + (ni 2)) ≤ v3 then
              sm_fx C 164 23 [.ref (X + 49), .int v1, sm_junk, .int v3, .int v4, .int (ni 0)] [] D3
            else
              sm_bv (sm_fe C 162 [.ref (X + 49), .int v3] D3) (fun D4 =>
                sm_fx C 164 23 [.ref (X + 49), .int v1, sm_junk, .int v3, .int v4, .int (ni 0)] [] D4)
          else
            sm_bi (sm_fe C 165 [.ref (X + 49), .int v1, .int v4, .int v3] D1) (fun x1 D2 =>
              sm_fx C 164 23 [.ref (X + 49), .int v1, sm_junk, .int v3, .int x1, .int v5] [] D2))
      else
        sm_bv (sm_fe C 162 [.ref (X + 49), .int v3] D) (fun D5 =>
          sm_fx C 164 23 [.ref (X + 49), .int v1, sm_junk, .int v3, .int v4, .int v5] [] D5)
    else
      some (.inl none, D)) := 
  (sx_p (pc' := 25) (lv' := [.ref (X + 49), .int v1, sm_junk, .int v3, .int v4, .int v5]) (st' := [.int v5]) q164 15 1 rfl (sx_if_eq q164 16 rfl rfl (sx_rv q164 56 rfl rfl) (sx_p (pc' := 29) (lv' := [.ref (X + 49), .int v1, sm_junk, .int v3, .int v4, .int v5]) (st' := [.ref (X + 49)]) q164 17 1 rfl (sx_gI q164 18 rfl fk_12_134 rfl (hX.s 49 rfl) (hX.b 49) (sx_p (pc' := 33) (lv' := [.ref (X + 49), .int v1, sm_junk, .int v3, .int v4, .int v5]) (st' := [.int (sm_k (-1)), .int (D.1 (X + 49) 8)]) q164 19 1 rfl (sx_icmp_ne q164 20 rfl rfl (sx_rv q164 56 rfl rfl) (sx_p (pc' := 39) (lv' := [.ref (X + 49), .int v1, sm_junk, .int v3, .int v4, .int v5]) (st' := [.int v3, .int v4]) q164 21 2 rfl (sx_icmp_lt q164 23 rfl rfl (sx_p (pc' := 53) (lv' := [.ref (X + 49), .int v1, sm_junk, .int v3, .int v4, .int v5]) (st' := [.int v4, .ref (X + 49)]) q164 28 2 rfl (sx_ki (sx_V q164 30 rfl lk_12_151 vk_161 na_161 rfl rfl rfl rfl (hX.s 49 rfl)) (by decide) rfl (fun x0 D1 => (sx_p (pc' := 58) (lv' := [.ref (X + 49), .int v1, sm_junk, .int v3, .int v4, .int v5]) (st' := [.int (ni 13), .int x0]) q164 31 1 rfl (sx_icmp_ne q164 32 rfl rfl (sx_p (pc' := 93) (lv' := [.ref (X + 49), .int v1, sm_junk, .int v3, .int v4, .int v5]) (st' := [.int v3, .int v4, .int v1, .ref (X + 49)]) q164 49 4 rfl (sx_ki (sx_V q164 53 rfl lk_12_193 vk_165 na_165 rfl rfl rfl rfl (hX.s 49 rfl)) (by decide) rfl (fun x1 D2 => (sx_p (pc' := 23) (lv' := [.ref (X + 49), .int v1, sm_junk, .int v3, .int x1, .int v5]) (st' := []) q164 54 2 rfl (sm_ge.refl _))))) (sx_p (pc' := 69) (lv' := [.ref (X + 49), .int v1, sm_junk, .int v3, .int v4, .int (ni 0)]) (st' := [.int (v4 + (ni 2)), .ref (X + 49)]) q164 33 6 rfl (sx_pI q164 39 rfl pk_12_190 rfl (hX.s 49 rfl) (hX.b 49) (sx_p (pc' := 77) (lv' := [.ref (X + 49), .int v1, sm_junk, .int v3, .int v4, .int (ni 0)]) (st' := [.int v3, .int (v4 + (ni 2))]) q164 40 4 rfl (sx_icmp_le q164 44 rfl rfl (sm_ge.refl _) (sx_p (pc' := 82) (lv' := [.ref (X + 49), .int v1, sm_junk, .int v3, .int v4, .int (ni 0)]) (st' := [.int v3, .ref (X + 49)]) q164 45 2 rfl (sx_kv (sx_V q164 47 rfl lk_12_155 vk_162 na_162 rfl rfl rfl rfl (hX.s 49 rfl)) (by decide) rfl (fun D4 => (sx_p (pc' := 23) (lv' := [.ref (X + 49), .int v1, sm_junk, .int v3, .int v4, .int (ni 0)]) (st' := []) q164 48 1 rfl (sm_ge.refl _)))))))))))))) (sx_p (pc' := 44) (lv' := [.ref (X + 49), .int v1, sm_junk, .int v3, .int v4, .int v5]) (st' := [.int v3, .ref (X + 49)]) q164 24 2 rfl (sx_kv (sx_V q164 26 rfl lk_12_155 vk_162 na_162 rfl rfl rfl rfl (hX.s 49 rfl)) (by decide) rfl (fun D5 => (sx_p (pc' := 23) (lv' := [.ref (X + 49), .int v1, sm_junk, .int v3, .int v4, .int v5]) (st' := []) q164 27 1 rfl (sm_ge.refl _)))))))))))))
set_option maxRecDepth 8000 in
theorem f164 {C : sm_K} {X : Nat} {v1 : Int32} {v2 : Int32} {v3 : Int32} (hX : sm_Lay C X) {D : sm_D} : sm_ge (sm_fe C 164 [.ref (X + 49), .int v1, .int v2, .int v3] D) (
  sm_gu (sm_in_b v1 40) (
  let D1 := sm_dI D (X + 54) (v1.toNatClampNeg) (D.1 (X + 49) 28)
  sm_gu (sm_in_b v1 40) (
  let D2 := sm_dI D1 (X + 55) (v1.toNatClampNeg) (ni 0)
  sm_fx C 164 23 [.ref (X + 49), .int v1, sm_junk, .int v3, .int v2, .int (ni 1)] [] D2))) := by
  rw [sx_fe (m := 6) rfl rfl]
  exact (show sm_ge (sm_fx C 164 0 [.ref (X + 49), .int v1, .int v2, .int v3, sm_junk, sm_junk] [] D) _ from (sx_p (pc' := 1) (lv' := [.ref (X + 49), .int v1, .int v2, .int v3, sm_junk, sm_junk]) (st' := [.ref (X + 49)]) q164 0 1 rfl (sx_gR q164 1 rfl fk_12_23 (fun _ _ => rfl) (hX.s 49 rfl) (hX.r 49 11 rfl) (sx_p (pc' := 6) (lv' := [.ref (X + 49), .int v1, .int v2, .int v3, sm_junk, sm_junk]) (st' := [.ref (X + 49), .int v1, .ref (X + 54)]) q164 2 2 rfl (sx_gI q164 4 rfl fk_12_187 rfl (hX.s 49 rfl) (hX.b 49) (sx_is q164 5 rfl (hX.s 54 rfl) (hX.b 54) (sx_p (pc' := 11) (lv' := [.ref (X + 49), .int v1, .int v2, .int v3, sm_junk, sm_junk]) (st' := [.ref (X + 49)]) q164 6 1 rfl (sx_gR q164 7 rfl fk_12_26 (fun _ _ => rfl) (hX.s 49 rfl) (hX.r 49 12 rfl) (sx_p (pc' := 16) (lv' := [.ref (X + 49), .int v1, .int v2, .int v3, sm_junk, sm_junk]) (st' := [.int (ni 0), .int v1, .ref (X + 55)]) q164 8 2 rfl (sx_is q164 10 rfl (hX.s 55 rfl) (hX.b 55) (sx_p (pc' := 23) (lv' := [.ref (X + 49), .int v1, .int v2, .int v3, .int v2, .int (ni 1)]) (st' := []) q164 11 4 rfl (sx_w (lv := [.ref (X + 49), .int v1, .int v2, .int v3, .int v2, .int (ni 1)]) (lv' := [.ref (X + 49), .int v1, sm_junk, .int v3, .int v2, .int (ni 1)]) (sm_ordl.ord ⟨Or.inr rfl, Or.inr rfl, Or.inl rfl, Or.inr rfl, Or.inr rfl, Or.inr rfl, trivial⟩)))))))))))))
/-! MessageTreeModel.readField -/
theorem q165 : sm_q 165 12 sm_i165 6 := ⟨rfl, rfl, rfl⟩
set_option maxRecDepth 8000 in
theorem n165_21 {C : sm_K} {X : Nat} {v2 : Int32} (hX : sm_Lay C X) {D : sm_D} : sm_ge (sm_fx C 165 21 [.ref (X + 49), sm_junk, .int v2, sm_junk, sm_junk, sm_junk, sm_junk, sm_junk] [] D) (
  sm_bv (sm_fe C 162 [.ref (X + 49), .int v2] D) (fun D1 =>
    some (.inl (some (.int v2)), D1))) := 
  (sx_p (pc' := 23) (lv' := [.ref (X + 49), sm_junk, .int v2, sm_junk, sm_junk, sm_junk, sm_junk, sm_junk]) (st' := [.int v2, .ref (X + 49)]) q165 10 2 rfl (sx_kv (sx_V q165 12 rfl lk_12_155 vk_162 na_162 rfl rfl rfl rfl (hX.s 49 rfl)) (by decide) rfl (fun D1 => (sx_p (pc' := 27) (lv' := [.ref (X + 49), sm_junk, .int v2, sm_junk, sm_junk, sm_junk, sm_junk, sm_junk]) (st' := [.int v2]) q165 13 1 rfl (sx_ri (ty := .int) q165 14 rfl rfl)))))
set_option maxRecDepth 8000 in
theorem n165_31 {C : sm_K} {X : Nat} {v1 : Int32} {v2 : Int32} {v3 : Int32} {v4 : Int32} (hX : sm_Lay C X) {D : sm_D} : sm_ge (sm_fx C 165 31 [.ref (X + 49), .int v1, .int v2, .int v3, .int v4, sm_junk, sm_junk, sm_junk] [] D) (
  if v3 ≤ v4 then
    sm_fx C 165 88 [.ref (X + 49), .int v1, .int v2, .int v3, .int v4, sm_junk, sm_junk, sm_junk] [] D
  else
    sm_bi (sm_fe C 161 [.ref (X + 49), .int v4] D) (fun x0 D1 =>
      if x0 = (ni 58) then
        sm_fx C 165 88 [.ref (X + 49), .int v1, .int v2, .int v3, .int v4, sm_junk, sm_junk, sm_junk] [] D1
      else
        sm_bi (sm_fe C 161 [.ref (X + 49), .int v4] D1) (fun x1 D2 =>
          sm_bi (sm_fe C 157 [.int x1, .int (ni 33), .int (ni 126)] D2) (fun x2 D3 =>
            if x2 = ni 0 then
              sm_fx C 165 73 [.ref (X + 49), sm_junk, sm_junk, sm_junk, .int v4, sm_junk, sm_junk, sm_junk] [] D3
            else
              if (v4 - v2) = (ni 40) then
                sm_fx C 165 73 [.ref (X + 49), sm_junk, sm_junk, sm_junk, .int v4, sm_junk, sm_junk, sm_junk] [] D3
              else
                sm_fx C 165 31 [.ref (X + 49), .int v1, .int v2, .int v3, .int (v4 + ni 1), sm_junk, sm_junk, sm_junk] [] D3)))) := 
  (sx_p (pc' := 34) (lv' := [.ref (X + 49), .int v1, .int v2, .int v3, .int v4, sm_junk, sm_junk, sm_junk]) (st' := [.int v3, .int v4]) q165 17 2 rfl (sx_icmp_ge q165 19 rfl rfl (sm_ge.refl _) (sx_p (pc' := 40) (lv' := [.ref (X + 49), .int v1, .int v2, .int v3, .int v4, sm_junk, sm_junk, sm_junk]) (st' := [.int v4, .ref (X + 49)]) q165 20 2 rfl (sx_ki (sx_V q165 22 rfl lk_12_151 vk_161 na_161 rfl rfl rfl rfl (hX.s 49 rfl)) (by decide) rfl (fun x0 D1 => (sx_p (pc' := 45) (lv' := [.ref (X + 49), .int v1, .int v2, .int v3, .int v4, sm_junk, sm_junk, sm_junk]) (st' := [.int (ni 58), .int x0]) q165 23 1 rfl (sx_icmp_eq q165 24 rfl rfl (sm_ge.refl _) (sx_p (pc' := 51) (lv' := [.ref (X + 49), .int v1, .int v2, .int v3, .int v4, sm_junk, sm_junk, sm_junk]) (st' := [.int v4, .ref (X + 49)]) q165 25 2 rfl (sx_ki (sx_V q165 27 rfl lk_12_151 vk_161 na_161 rfl rfl rfl rfl (hX.s 49 rfl)) (by decide) rfl (fun x1 D2 => (sx_p (pc' := 58) (lv' := [.ref (X + 49), .int v1, .int v2, .int v3, .int v4, sm_junk, sm_junk, sm_junk]) (st' := [.int (ni 126), .int (ni 33), .int x1]) q165 28 2 rfl (sx_ki (sx_S q165 30 rfl lk_12_137 rfl na_157 rfl rfl rfl rfl) (by decide) rfl (fun x2 D3 => (sx_if_eq q165 31 rfl rfl (sx_w (lv := [.ref (X + 49), .int v1, .int v2, .int v3, .int v4, sm_junk, sm_junk, sm_junk]) (lv' := [.ref (X + 49), sm_junk, sm_junk, sm_junk, .int v4, sm_junk, sm_junk, sm_junk]) (sm_ordl.ord ⟨Or.inr rfl, Or.inl rfl, Or.inl rfl, Or.inl rfl, Or.inr rfl, Or.inl rfl, Or.inl rfl, Or.inl rfl, trivial⟩)) (sx_p (pc' := 70) (lv' := [.ref (X + 49), .int v1, .int v2, .int v3, .int v4, sm_junk, sm_junk, sm_junk]) (st' := [.int (ni 40), .int (v4 - v2)]) q165 32 4 rfl (sx_icmp_ne q165 36 rfl rfl (sx_p (pc' := 31) (lv' := [.ref (X + 49), .int v1, .int v2, .int v3, .int (v4 + ni 1), sm_junk, sm_junk, sm_junk]) (st' := []) q165 42 2 rfl (sm_ge.refl _)) (sx_w (lv := [.ref (X + 49), .int v1, .int v2, .int v3, .int v4, sm_junk, sm_junk, sm_junk]) (lv' := [.ref (X + 49), sm_junk, sm_junk, sm_junk, .int v4, sm_junk, sm_junk, sm_junk]) (sm_ordl.ord ⟨Or.inr rfl, Or.inl rfl, Or.inl rfl, Or.inl rfl, Or.inr rfl, Or.inl rfl, Or.inl rfl, Or.inl rfl, trivial⟩))))))))))))))))))
set_option maxRecDepth 8000 in
theorem n165_73 {C : sm_K} {X : Nat} {v4 : Int32} (hX : sm_Lay C X) {D : sm_D} : sm_ge (sm_fx C 165 73 [.ref (X + 49), sm_junk, sm_junk, sm_junk, .int v4, sm_junk, sm_junk, sm_junk] [] D) (
  sm_bv (sm_fe C 162 [.ref (X + 49), .int v4] D) (fun D1 =>
    some (.inl (some (.int v4)), D1))) := 
  (sx_p (pc' := 76) (lv' := [.ref (X + 49), sm_junk, sm_junk, sm_junk, .int v4, sm_junk, sm_junk, sm_junk]) (st' := [.int v4, .ref (X + 49)]) q165 37 2 rfl (sx_kv (sx_V q165 39 rfl lk_12_155 vk_162 na_162 rfl rfl rfl rfl (hX.s 49 rfl)) (by decide) rfl (fun D1 => (sx_p (pc' := 81) (lv' := [.ref (X + 49), sm_junk, sm_junk, sm_junk, .int v4, sm_junk, sm_junk, sm_junk]) (st' := [.int v4]) q165 40 1 rfl (sx_ri (ty := .int) q165 41 rfl rfl)))))
set_option maxRecDepth 8000 in
theorem n165_88 {C : sm_K} {X : Nat} {v1 : Int32} {v2 : Int32} {v3 : Int32} {v4 : Int32} (hX : sm_Lay C X) {D : sm_D} : sm_ge (sm_fx C 165 88 [.ref (X + 49), .int v1, .int v2, .int v3, .int v4, sm_junk, sm_junk, sm_junk] [] D) (
  if v4 = v3 then
    sm_bv (sm_fe C 162 [.ref (X + 49), .int v3] D) (fun D5 =>
      some (.inl (some (.int v4)), D5))
  else
    if v4 = v2 then
      sm_bv (sm_fe C 162 [.ref (X + 49), .int v4] D) (fun D4 =>
        some (.inl (some (.int v4)), D4))
    else
      sm_bi (sm_fe C 166 [.ref (X + 49), .int v1, .int v2, .int (v4 - v2)] D) (fun x0 D1 =>
        if x0 ≤ ni 0 then
          sm_fx C 165 153 [.ref (X + 49), .int v1, .int v2, .int v3, .int v4, .int x0, sm_junk, sm_junk] [] D1
        else
          sm_bi (sm_fe C 169 [.ref (X + 49), .int v1, .int x0] D1) (fun x1 D2 =>
            if x1 = (sm_k (-1)) then
              sm_fx C 165 153 [.ref (X + 49), .int v1, .int v2, .int v3, .int v4, .int x0, sm_junk, sm_junk] [] D2
            else
              sm_bv (sm_fe C 162 [.ref (X + 49), .int v2] D2) (fun D3 =>
                some (.inl (some (.int v4)), D3))))) := 
  (sx_p (pc' := 91) (lv' := [.ref (X + 49), .int v1, .int v2, .int v3, .int v4, sm_junk, sm_junk, sm_junk]) (st' := [.int v3, .int v4]) q165 44 2 rfl (sx_icmp_ne q165 46 rfl rfl (sx_p (pc' := 105) (lv' := [.ref (X + 49), .int v1, .int v2, .int v3, .int v4, sm_junk, sm_junk, sm_junk]) (st' := [.int v2, .int v4]) q165 52 2 rfl (sx_icmp_ne q165 54 rfl rfl (sx_p (pc' := 124) (lv' := [.ref (X + 49), .int v1, .int v2, .int v3, .int v4, sm_junk, sm_junk, sm_junk]) (st' := [.int (v4 - v2), .int v2, .int v1, .ref (X + 49)]) q165 60 6 rfl (sx_ki (sx_V q165 66 rfl lk_12_197 vk_166 na_166 rfl rfl rfl rfl (hX.s 49 rfl)) (by decide) rfl (fun x0 D1 => (sx_p (pc' := 131) (lv' := [.ref (X + 49), .int v1, .int v2, .int v3, .int v4, .int x0, sm_junk, sm_junk]) (st' := [.int x0]) q165 67 2 rfl (sx_if_le q165 69 rfl rfl (sm_ge.refl _) (sx_p (pc' := 138) (lv' := [.ref (X + 49), .int v1, .int v2, .int v3, .int v4, .int x0, sm_junk, sm_junk]) (st' := [.int x0, .int v1, .ref (X + 49)]) q165 70 3 rfl (sx_ki (sx_V q165 73 rfl lk_12_200 vk_169 na_169 rfl rfl rfl rfl (hX.s 49 rfl)) (by decide) rfl (fun x1 D2 => (sx_p (pc' := 142) (lv' := [.ref (X + 49), .int v1, .int v2, .int v3, .int v4, .int x0, sm_junk, sm_junk]) (st' := [.int (sm_k (-1)), .int x1]) q165 74 1 rfl (sx_icmp_eq q165 75 rfl rfl (sm_ge.refl _) (sx_p (pc' := 147) (lv' := [.ref (X + 49), .int v1, .int v2, .int v3, .int v4, .int x0, sm_junk, sm_junk]) (st' := [.int v2, .ref (X + 49)]) q165 76 2 rfl (sx_kv (sx_V q165 78 rfl lk_12_155 vk_162 na_162 rfl rfl rfl rfl (hX.s 49 rfl)) (by decide) rfl (fun D3 => (sx_p (pc' := 152) (lv' := [.ref (X + 49), .int v1, .int v2, .int v3, .int v4, .int x0, sm_junk, sm_junk]) (st' := [.int v4]) q165 79 1 rfl (sx_ri (ty := .int) q165 80 rfl rfl))))))))))))))) (sx_p (pc' := 111) (lv' := [.ref (X + 49), .int v1, .int v2, .int v3, .int v4, sm_junk, sm_junk, sm_junk]) (st' := [.int v4, .ref (X + 49)]) q165 55 2 rfl (sx_kv (sx_V q165 57 rfl lk_12_155 vk_162 na_162 rfl rfl rfl rfl (hX.s 49 rfl)) (by decide) rfl (fun D4 => (sx_p (pc' := 116) (lv' := [.ref (X + 49), .int v1, .int v2, .int v3, .int v4, sm_junk, sm_junk, sm_junk]) (st' := [.int v4]) q165 58 1 rfl (sx_ri (ty := .int) q165 59 rfl rfl))))))) (sx_p (pc' := 96) (lv' := [.ref (X + 49), .int v1, .int v2, .int v3, .int v4, sm_junk, sm_junk, sm_junk]) (st' := [.int v3, .ref (X + 49)]) q165 47 2 rfl (sx_kv (sx_V q165 49 rfl lk_12_155 vk_162 na_162 rfl rfl rfl rfl (hX.s 49 rfl)) (by decide) rfl (fun D5 => (sx_p (pc' := 101) (lv' := [.ref (X + 49), .int v1, .int v2, .int v3, .int v4, sm_junk, sm_junk, sm_junk]) (st' := [.int v4]) q165 50 1 rfl (sx_ri (ty := .int) q165 51 rfl rfl)))))))
set_option maxRecDepth 8000 in
theorem n165_153 {C : sm_K} {X : Nat} {v1 : Int32} {v2 : Int32} {v3 : Int32} {v4 : Int32} {v5 : Int32} (hX : sm_Lay C X) {D : sm_D} : sm_ge (sm_fx C 165 153 [.ref (X + 49), .int v1, .int v2, .int v3, .int v4, .int v5, sm_junk, sm_junk] [] D) (
  sm_gu (sm_in_b (D.1 (X + 49) 28) 200) (
  let D1 := sm_dI D (X + 70) ((D.1 (X + 49) 28).toNatClampNeg) v5
  sm_gu (sm_in_b (D.1 (X + 49) 28) 200) (
  let D2 := sm_dI D1 (X + 71) ((D.1 (X + 49) 28).toNatClampNeg) v2
  sm_gu (sm_in_b (D.1 (X + 49) 28) 200) (
  let D3 := sm_dI D2 (X + 72) ((D.1 (X + 49) 28).toNatClampNeg) (v4 - v2)
  sm_gu (sm_in_b (D.1 (X + 49) 28) 200) (
  let D4 := sm_dI D3 (X + 73) ((D.1 (X + 49) 28).toNatClampNeg) (v4 + ni 1)
  sm_fx C 165 202 [.ref (X + 49), .int v1, sm_junk, .int v3, .int (v4 + ni 1), sm_junk, .int (D.1 (X + 49) 28), .int (ni 1)] [] D4))))) := 
  (sx_p (pc' := 154) (lv' := [.ref (X + 49), .int v1, .int v2, .int v3, .int v4, .int v5, sm_junk, sm_junk]) (st' := [.ref (X + 49)]) q165 81 1 rfl (sx_gI q165 82 rfl fk_12_187 rfl (hX.s 49 rfl) (hX.b 49) (sx_p (pc' := 160) (lv' := [.ref (X + 49), .int v1, .int v2, .int v3, .int v4, .int v5, .int (D.1 (X + 49) 28), sm_junk]) (st' := [.ref (X + 49)]) q165 83 2 rfl (sx_gR q165 85 rfl fk_12_72 (fun _ _ => rfl) (hX.s 49 rfl) (hX.r 49 29 rfl) (sx_p (pc' := 167) (lv' := [.ref (X + 49), .int v1, .int v2, .int v3, .int v4, .int v5, .int (D.1 (X + 49) 28), sm_junk]) (st' := [.int v5, .int (D.1 (X + 49) 28), .ref (X + 70)]) q165 86 2 rfl (sx_is q165 88 rfl (hX.s 70 rfl) (hX.b 70) (sx_p (pc' := 169) (lv' := [.ref (X + 49), .int v1, .int v2, .int v3, .int v4, .int v5, .int (D.1 (X + 49) 28), sm_junk]) (st' := [.ref (X + 49)]) q165 89 1 rfl (sx_gR q165 90 rfl fk_12_75 (fun _ _ => rfl) (hX.s 49 rfl) (hX.r 49 30 rfl) (sx_p (pc' := 175) (lv' := [.ref (X + 49), .int v1, .int v2, .int v3, .int v4, .int v5, .int (D.1 (X + 49) 28), sm_junk]) (st' := [.int v2, .int (D.1 (X + 49) 28), .ref (X + 71)]) q165 91 2 rfl (sx_is q165 93 rfl (hX.s 71 rfl) (hX.b 71) (sx_p (pc' := 177) (lv' := [.ref (X + 49), .int v1, .int v2, .int v3, .int v4, .int v5, .int (D.1 (X + 49) 28), sm_junk]) (st' := [.ref (X + 49)]) q165 94 1 rfl (sx_gR q165 95 rfl fk_12_78 (fun _ _ => rfl) (hX.s 49 rfl) (hX.r 49 31 rfl) (sx_p (pc' := 186) (lv' := [.ref (X + 49), .int v1, .int v2, .int v3, .int v4, .int v5, .int (D.1 (X + 49) 28), sm_junk]) (st' := [.int (v4 - v2), .int (D.1 (X + 49) 28), .ref (X + 72)]) q165 96 4 rfl (sx_is q165 100 rfl (hX.s 72 rfl) (hX.b 72) (sx_p (pc' := 191) (lv' := [.ref (X + 49), .int v1, .int v2, .int v3, .int (v4 + ni 1), .int v5, .int (D.1 (X + 49) 28), sm_junk]) (st' := [.ref (X + 49)]) q165 101 2 rfl (sx_gR q165 103 rfl fk_12_81 (fun _ _ => rfl) (hX.s 49 rfl) (hX.r 49 32 rfl) (sx_p (pc' := 198) (lv' := [.ref (X + 49), .int v1, .int v2, .int v3, .int (v4 + ni 1), .int v5, .int (D.1 (X + 49) 28), sm_junk]) (st' := [.int (v4 + ni 1), .int (D.1 (X + 49) 28), .ref (X + 73)]) q165 104 2 rfl (sx_is q165 106 rfl (hX.s 73 rfl) (hX.b 73) (sx_p (pc' := 202) (lv' := [.ref (X + 49), .int v1, .int v2, .int v3, .int (v4 + ni 1), .int v5, .int (D.1 (X + 49) 28), .int (ni 1)]) (st' := []) q165 107 2 rfl (sx_w (lv := [.ref (X + 49), .int v1, .int v2, .int v3, .int (v4 + ni 1), .int v5, .int (D.1 (X + 49) 28), .int (ni 1)]) (lv' := [.ref (X + 49), .int v1, sm_junk, .int v3, .int (v4 + ni 1), sm_junk, .int (D.1 (X + 49) 28), .int (ni 1)]) (sm_ordl.ord ⟨Or.inr rfl, Or.inr rfl, Or.inl rfl, Or.inr rfl, Or.inr rfl, Or.inl rfl, Or.inr rfl, Or.inr rfl, trivial⟩)))))))))))))))))))))
set_option maxRecDepth 8000 in
theorem n165_202 {C : sm_K} {X : Nat} {v1 : Int32} {v3 : Int32} {v4 : Int32} {v6 : Int32} {v7 : Int32} (hX : sm_Lay C X) {D : sm_D} : sm_ge (sm_fx C 165 202 [.ref (X + 49), .int v1, sm_junk, .int v3, .int v4, sm_junk, .int v6, .int v7] [] D) (
  if v7 = ni 0 then
    let D1 := sm_dI D (X + 49) 28 ((D.1 (X + 49) 28) + (ni 1))
    sm_gu (sm_in_b v1 40) (
    sm_gu (sm_in_b v1 40) (
    let D2 := sm_dI D1 (X + 55) (v1.toNatClampNeg) ((D1.1 (X + 55) v1.toNatClampNeg) + (ni 1))
    some (.inl (some (.int v4)), D2)))
  else
    sm_fx C 165 207 [.ref (X + 49), .int v1, sm_junk, .int v3, .int v4, sm_junk, .int v6, sm_junk] [] D) := 
  (sx_p (pc' := 204) (lv' := [.ref (X + 49), .int v1, sm_junk, .int v3, .int v4, sm_junk, .int v6, .int v7]) (st' := [.int v7]) q165 109 1 rfl (sx_if_eq q165 110 rfl rfl (sx_p (pc' := 331) (lv' := [.ref (X + 49), .int v1, sm_junk, .int v3, .int v4, sm_junk, .int v6, .int v7]) (st' := [.ref (X + 49), .ref (X + 49)]) q165 174 2 rfl (sx_gI q165 176 rfl fk_12_187 rfl (hX.s 49 rfl) (hX.b 49) (sx_p (pc' := 336) (lv' := [.ref (X + 49), .int v1, sm_junk, .int v3, .int v4, sm_junk, .int v6, .int v7]) (st' := [.int ((D.1 (X + 49) 28) + (ni 1)), .ref (X + 49)]) q165 177 2 rfl (sx_pI q165 179 rfl pk_12_187 rfl (hX.s 49 rfl) (hX.b 49) (sx_p (pc' := 340) (lv' := [.ref (X + 49), .int v1, sm_junk, .int v3, .int v4, sm_junk, .int v6, .int v7]) (st' := [.ref (X + 49)]) q165 180 1 rfl (sx_gR q165 181 rfl fk_12_26 (fun _ _ => rfl) (hX.s 49 rfl) (hX.r 49 12 rfl) (sx_p (pc' := 345) (lv' := [.ref (X + 49), .int v1, sm_junk, .int v3, .int v4, sm_junk, .int v6, .int v7]) (st' := [.int v1, .ref (X + 55), .int v1, .ref (X + 55)]) q165 182 2 rfl (sx_ia q165 184 rfl (hX.s 55 rfl) (hX.b 55) (sx_p (pc' := 348) (lv' := [.ref (X + 49), .int v1, sm_junk, .int v3, .int v4, sm_junk, .int v6, .int v7]) (st' := [.int (((sm_dI D (X + 49) 28 ((D.1 (X + 49) 28) + (ni 1))).1 (X + 55) v1.toNatClampNeg) + (ni 1)), .int v1, .ref (X + 55)]) q165 185 2 rfl (sx_is q165 187 rfl (hX.s 55 rfl) (hX.b 55) (sx_p (pc' := 351) (lv' := [.ref (X + 49), .int v1, sm_junk, .int v3, .int v4, sm_junk, .int v6, .int v7]) (st' := [.int v4]) q165 188 1 rfl (sx_ri (ty := .int) q165 189 rfl rfl)))))))))))) (sx_w (lv := [.ref (X + 49), .int v1, sm_junk, .int v3, .int v4, sm_junk, .int v6, .int v7]) (lv' := [.ref (X + 49), .int v1, sm_junk, .int v3, .int v4, sm_junk, .int v6, sm_junk]) (sm_ordl.ord ⟨Or.inr rfl, Or.inr rfl, Or.inl rfl, Or.inr rfl, Or.inr rfl, Or.inl rfl, Or.inr rfl, Or.inl rfl, trivial⟩))))
set_option maxRecDepth 8000 in
theorem n165_207 {C : sm_K} {X : Nat} {v1 : Int32} {v3 : Int32} {v4 : Int32} {v6 : Int32} (hX : sm_Lay C X) {D : sm_D} : sm_ge (sm_fx C 165 207 [.ref (X + 49), .int v1, sm_junk, .int v3, .int v4, sm_junk, .int v6, sm_junk] [] D) (
  if v3 ≤ v4 then
    sm_fx C 165 266 [.ref (X + 49), .int v1, sm_junk, .int v3, .int v4, sm_junk, .int v6, sm_junk] [] D
  else
    sm_bi (sm_fe C 161 [.ref (X + 49), .int v4] D) (fun x0 D1 =>
      if x0 = (ni 13) then
        sm_fx C 165 266 [.ref (X + 49), .int v1, sm_junk, .int v3, .int v4, sm_junk, .int v6, sm_junk] [] D1
      else
        sm_bi (sm_fe C 161 [.ref (X + 49), .int v4] D1) (fun x1 D2 =>
          sm_bi (sm_fe C 157 [.int x1, .int (ni 32), .int (ni 126)] D2) (fun x2 D3 =>
            if x2 = ni 0 then
              sm_bi (sm_fe C 161 [.ref (X + 49), .int v4] D3) (fun x3 D4 =>
                if x3 = (ni 9) then
                  sm_fx C 165 207 [.ref (X + 49), .int v1, sm_junk, .int v3, .int (v4 + ni 1), sm_junk, .int v6, sm_junk] [] D4
                else
                  sm_bv (sm_fe C 162 [.ref (X + 49), .int v4] D4) (fun D5 =>
                    some (.inl (some (.int v4)), D5)))
            else
              sm_fx C 165 207 [.ref (X + 49), .int v1, sm_junk, .int v3, .int (v4 + ni 1), sm_junk, .int v6, sm_junk] [] D3)))) := 
  (sx_p (pc' := 210) (lv' := [.ref (X + 49), .int v1, sm_junk, .int v3, .int v4, sm_junk, .int v6, sm_junk]) (st' := [.int v3, .int v4]) q165 111 2 rfl (sx_icmp_ge q165 113 rfl rfl (sm_ge.refl _) (sx_p (pc' := 216) (lv' := [.ref (X + 49), .int v1, sm_junk, .int v3, .int v4, sm_junk, .int v6, sm_junk]) (st' := [.int v4, .ref (X + 49)]) q165 114 2 rfl (sx_ki (sx_V q165 116 rfl lk_12_151 vk_161 na_161 rfl rfl rfl rfl (hX.s 49 rfl)) (by decide) rfl (fun x0 D1 => (sx_p (pc' := 221) (lv' := [.ref (X + 49), .int v1, sm_junk, .int v3, .int v4, sm_junk, .int v6, sm_junk]) (st' := [.int (ni 13), .int x0]) q165 117 1 rfl (sx_icmp_eq q165 118 rfl rfl (sm_ge.refl _) (sx_p (pc' := 227) (lv' := [.ref (X + 49), .int v1, sm_junk, .int v3, .int v4, sm_junk, .int v6, sm_junk]) (st' := [.int v4, .ref (X + 49)]) q165 119 2 rfl (sx_ki (sx_V q165 121 rfl lk_12_151 vk_161 na_161 rfl rfl rfl rfl (hX.s 49 rfl)) (by decide) rfl (fun x1 D2 => (sx_p (pc' := 234) (lv' := [.ref (X + 49), .int v1, sm_junk, .int v3, .int v4, sm_junk, .int v6, sm_junk]) (st' := [.int (ni 126), .int (ni 32), .int x1]) q165 122 2 rfl (sx_ki (sx_S q165 124 rfl lk_12_137 rfl na_157 rfl rfl rfl rfl) (by decide) rfl (fun x2 D3 => (sx_if_ne q165 125 rfl rfl (sx_p (pc' := 207) (lv' := [.ref (X + 49), .int v1, sm_junk, .int v3, .int (v4 + ni 1), sm_junk, .int v6, sm_junk]) (st' := []) q165 136 2 rfl (sm_ge.refl _)) (sx_p (pc' := 243) (lv' := [.ref (X + 49), .int v1, sm_junk, .int v3, .int v4, sm_junk, .int v6, sm_junk]) (st' := [.int v4, .ref (X + 49)]) q165 126 2 rfl (sx_ki (sx_V q165 128 rfl lk_12_151 vk_161 na_161 rfl rfl rfl rfl (hX.s 49 rfl)) (by decide) rfl (fun x3 D4 => (sx_p (pc' := 248) (lv' := [.ref (X + 49), .int v1, sm_junk, .int v3, .int v4, sm_junk, .int v6, sm_junk]) (st' := [.int (ni 9), .int x3]) q165 129 1 rfl (sx_icmp_eq q165 130 rfl rfl (sx_p (pc' := 207) (lv' := [.ref (X + 49), .int v1, sm_junk, .int v3, .int (v4 + ni 1), sm_junk, .int v6, sm_junk]) (st' := []) q165 136 2 rfl (sm_ge.refl _)) (sx_p (pc' := 254) (lv' := [.ref (X + 49), .int v1, sm_junk, .int v3, .int v4, sm_junk, .int v6, sm_junk]) (st' := [.int v4, .ref (X + 49)]) q165 131 2 rfl (sx_kv (sx_V q165 133 rfl lk_12_155 vk_162 na_162 rfl rfl rfl rfl (hX.s 49 rfl)) (by decide) rfl (fun D5 => (sx_p (pc' := 259) (lv' := [.ref (X + 49), .int v1, sm_junk, .int v3, .int v4, sm_junk, .int v6, sm_junk]) (st' := [.int v4]) q165 134 1 rfl (sx_ri (ty := .int) q165 135 rfl rfl))))))))))))))))))))))))
set_option maxRecDepth 8000 in
theorem n165_266 {C : sm_K} {X : Nat} {v1 : Int32} {v3 : Int32} {v4 : Int32} {v6 : Int32} (hX : sm_Lay C X) {D : sm_D} : sm_ge (sm_fx C 165 266 [.ref (X + 49), .int v1, sm_junk, .int v3, .int v4, sm_junk, .int v6, sm_junk] [] D) (
  if (v4 + (ni 2)) ≤ v3 then
    if v3 ≤ (v4 + (ni 2)) then
      sm_fx C 165 308 [.ref (X + 49), .int v1, sm_junk, .int v3, .int v4, sm_junk, .int v6, sm_junk] [] D
    else
      sm_bi (sm_fe C 161 [.ref (X + 49), .int (v4 + (ni 2))] D) (fun x0 D1 =>
        sm_bi (sm_fe C 170 [.int x0] D1) (fun x1 D2 =>
          if x1 = ni 0 then
            sm_fx C 165 308 [.ref (X + 49), .int v1, sm_junk, .int v3, .int v4, sm_junk, .int v6, sm_junk] [] D2
          else
            sm_fx C 165 309 [.ref (X + 49), .int v1, sm_junk, .int v3, .int v4, sm_junk, .int v6, sm_junk] [.int (ni 1)] D2))
  else
    sm_bv (sm_fe C 162 [.ref (X + 49), .int v3] D) (fun D3 =>
      some (.inl (some (.int v4)), D3))) := 
  (sx_p (pc' := 271) (lv' := [.ref (X + 49), .int v1, sm_junk, .int v3, .int v4, sm_junk, .int v6, sm_junk]) (st' := [.int v3, .int (v4 + (ni 2))]) q165 138 4 rfl (sx_icmp_le q165 142 rfl rfl (sx_p (pc' := 287) (lv' := [.ref (X + 49), .int v1, sm_junk, .int v3, .int v4, sm_junk, .int v6, sm_junk]) (st' := [.int v3, .int (v4 + (ni 2))]) q165 148 4 rfl (sx_icmp_ge q165 152 rfl rfl (sm_ge.refl _) (sx_p (pc' := 295) (lv' := [.ref (X + 49), .int v1, sm_junk, .int v3, .int v4, sm_junk, .int v6, sm_junk]) (st' := [.int (v4 + (ni 2)), .ref (X + 49)]) q165 153 4 rfl (sx_ki (sx_V q165 157 rfl lk_12_151 vk_161 na_161 rfl rfl rfl rfl (hX.s 49 rfl)) (by decide) rfl (fun x0 D1 => (sx_ki (sx_S q165 158 rfl lk_12_204 rfl na_170 rfl rfl rfl rfl) (by decide) rfl (fun x1 D2 => (sx_if_eq q165 159 rfl rfl (sm_ge.refl _) (sx_p (pc' := 309) (lv' := [.ref (X + 49), .int v1, sm_junk, .int v3, .int v4, sm_junk, .int v6, sm_junk]) (st' := [.int (ni 1)]) q165 160 2 rfl (sm_ge.refl _)))))))))) (sx_p (pc' := 276) (lv' := [.ref (X + 49), .int v1, sm_junk, .int v3, .int v4, sm_junk, .int v6, sm_junk]) (st' := [.int v3, .ref (X + 49)]) q165 143 2 rfl (sx_kv (sx_V q165 145 rfl lk_12_155 vk_162 na_162 rfl rfl rfl rfl (hX.s 49 rfl)) (by decide) rfl (fun D3 => (sx_p (pc' := 281) (lv' := [.ref (X + 49), .int v1, sm_junk, .int v3, .int v4, sm_junk, .int v6, sm_junk]) (st' := [.int v4]) q165 146 1 rfl (sx_ri (ty := .int) q165 147 rfl rfl)))))))
set_option maxRecDepth 8000 in
theorem n165_308 {C : sm_K} {X : Nat} {v1 : Int32} {v3 : Int32} {v4 : Int32} {v6 : Int32} (hX : sm_Lay C X) {D : sm_D} : sm_ge (sm_fx C 165 308 [.ref (X + 49), .int v1, sm_junk, .int v3, .int v4, sm_junk, .int v6, sm_junk] [] D) (
  sm_fx C 165 309 [.ref (X + 49), .int v1, sm_junk, .int v3, .int v4, sm_junk, .int v6, sm_junk] [.int (ni 0)] D) := 
  (sx_p (pc' := 309) (lv' := [.ref (X + 49), .int v1, sm_junk, .int v3, .int v4, sm_junk, .int v6, sm_junk]) (st' := [.int (ni 0)]) q165 162 1 rfl (sm_ge.refl _))
set_option maxRecDepth 8000 in
theorem n165_309 {C : sm_K} {X : Nat} {v1 : Int32} {v3 : Int32} {v4 : Int32} {v6 : Int32} {s0 : Int32} (hX : sm_Lay C X) {D : sm_D} : sm_ge (sm_fx C 165 309 [.ref (X + 49), .int v1, sm_junk, .int v3, .int v4, sm_junk, .int v6, sm_junk] [.int s0] D) (
  sm_gu (sm_in_b v6 200) (
  let D1 := sm_dI D (X + 74) (v6.toNatClampNeg) v4
  sm_fx C 165 202 [.ref (X + 49), .int v1, sm_junk, .int v3, .int (v4 + (ni 2)), sm_junk, .int v6, .int s0] [] D1)) := 
  (sx_p (pc' := 312) (lv' := [.ref (X + 49), .int v1, sm_junk, .int v3, .int v4, sm_junk, .int v6, .int s0]) (st' := [.ref (X + 49)]) q165 163 2 rfl (sx_gR q165 165 rfl fk_12_84 (fun _ _ => rfl) (hX.s 49 rfl) (hX.r 49 33 rfl) (sx_p (pc' := 319) (lv' := [.ref (X + 49), .int v1, sm_junk, .int v3, .int v4, sm_junk, .int v6, .int s0]) (st' := [.int v4, .int v6, .ref (X + 74)]) q165 166 2 rfl (sx_is q165 168 rfl (hX.s 74 rfl) (hX.b 74) (sx_p (pc' := 202) (lv' := [.ref (X + 49), .int v1, sm_junk, .int v3, .int (v4 + (ni 2)), sm_junk, .int v6, .int s0]) (st' := []) q165 169 5 rfl (sm_ge.refl _))))))
set_option maxRecDepth 8000 in
theorem f165 {C : sm_K} {X : Nat} {v1 : Int32} {v2 : Int32} {v3 : Int32} (hX : sm_Lay C X) {D : sm_D} : sm_ge (sm_fe C 165 [.ref (X + 49), .int v1, .int v2, .int v3] D) (
  sm_gu (sm_in_b v1 40) (
  if (D.1 (X + 55) v1.toNatClampNeg) = (ni 20) then
    sm_fx C 165 21 [.ref (X + 49), sm_junk, .int v2, sm_junk, sm_junk, sm_junk, sm_junk, sm_junk] [] D
  else
    if (D.1 (X + 49) 28) = (ni 200) then
      sm_fx C 165 21 [.ref (X + 49), sm_junk, .int v2, sm_junk, sm_junk, sm_junk, sm_junk, sm_junk] [] D
    else
      sm_fx C 165 31 [.ref (X + 49), .int v1, .int v2, .int v3, .int v2, sm_junk, sm_junk, sm_junk] [] D)) := by
  rw [sx_fe (m := 8) rfl rfl]
  exact (show sm_ge (sm_fx C 165 0 [.ref (X + 49), .int v1, .int v2, .int v3, sm_junk, sm_junk, sm_junk, sm_junk] [] D) _ from (sx_p (pc' := 1) (lv' := [.ref (X + 49), .int v1, .int v2, .int v3, sm_junk, sm_junk, sm_junk, sm_junk]) (st' := [.ref (X + 49)]) q165 0 1 rfl (sx_gR q165 1 rfl fk_12_26 (fun _ _ => rfl) (hX.s 49 rfl) (hX.r 49 12 rfl) (sx_p (pc' := 5) (lv' := [.ref (X + 49), .int v1, .int v2, .int v3, sm_junk, sm_junk, sm_junk, sm_junk]) (st' := [.int v1, .ref (X + 55)]) q165 2 1 rfl (sx_ia q165 3 rfl (hX.s 55 rfl) (hX.b 55) (sx_p (pc' := 8) (lv' := [.ref (X + 49), .int v1, .int v2, .int v3, sm_junk, sm_junk, sm_junk, sm_junk]) (st' := [.int (ni 20), .int (D.1 (X + 55) v1.toNatClampNeg)]) q165 4 1 rfl (sx_icmp_eq q165 5 rfl rfl (sx_w (lv := [.ref (X + 49), .int v1, .int v2, .int v3, sm_junk, sm_junk, sm_junk, sm_junk]) (lv' := [.ref (X + 49), sm_junk, .int v2, sm_junk, sm_junk, sm_junk, sm_junk, sm_junk]) (sm_ordl.ord ⟨Or.inr rfl, Or.inl rfl, Or.inr rfl, Or.inl rfl, Or.inl rfl, Or.inl rfl, Or.inl rfl, Or.inl rfl, trivial⟩)) (sx_p (pc' := 12) (lv' := [.ref (X + 49), .int v1, .int v2, .int v3, sm_junk, sm_junk, sm_junk, sm_junk]) (st' := [.ref (X + 49)]) q165 6 1 rfl (sx_gI q165 7 rfl fk_12_187 rfl (hX.s 49 rfl) (hX.b 49) (sx_p (pc' := 18) (lv' := [.ref (X + 49), .int v1, .int v2, .int v3, sm_junk, sm_junk, sm_junk, sm_junk]) (st' := [.int (ni 200), .int (D.1 (X + 49) 28)]) q165 8 1 rfl (sx_icmp_ne q165 9 rfl rfl (sx_p (pc' := 31) (lv' := [.ref (X + 49), .int v1, .int v2, .int v3, .int v2, sm_junk, sm_junk, sm_junk]) (st' := []) q165 15 2 rfl (sm_ge.refl _)) (sx_w (lv := [.ref (X + 49), .int v1, .int v2, .int v3, sm_junk, sm_junk, sm_junk, sm_junk]) (lv' := [.ref (X + 49), sm_junk, .int v2, sm_junk, sm_junk, sm_junk, sm_junk, sm_junk]) (sm_ordl.ord ⟨Or.inr rfl, Or.inl rfl, Or.inr rfl, Or.inl rfl, Or.inl rfl, Or.inl rfl, Or.inl rfl, Or.inl rfl, trivial⟩)))))))))))))
/-! MessageTreeModel.kindOf -/
theorem q166 : sm_q 166 12 sm_i166 5 := ⟨rfl, rfl, rfl⟩
set_option maxRecDepth 8000 in
theorem f166 {C : sm_K} {X : Nat} {v1 : Int32} {v2 : Int32} {v3 : Int32} (hX : sm_Lay C X) {D : sm_D} : sm_ge (sm_fe C 166 [.ref (X + 49), .int v1, .int v2, .int v3] D) (
  sm_bi (sm_fe C 167 [.ref (X + 49), .int v2, .int v3, .ref (C.1.1 44)] D) (fun x0 D1 =>
    if x0 = ni 0 then
      sm_bi (sm_fe C 167 [.ref (X + 49), .int v2, .int v3, .ref (C.1.1 45)] D1) (fun x1 D2 =>
        if x1 = ni 0 then
          if v1 ≤ ni 0 then
            sm_bi (sm_fe C 167 [.ref (X + 49), .int v2, .int v3, .ref (C.1.1 46)] D2) (fun x2 D3 =>
              if x2 = ni 0 then
                sm_bi (sm_fe C 167 [.ref (X + 49), .int v2, .int v3, .ref (C.1.1 47)] D3) (fun x3 D4 =>
                  if x3 = ni 0 then
                    sm_bi (sm_fe C 167 [.ref (X + 49), .int v2, .int v3, .ref (C.1.1 48)] D4) (fun x4 D5 =>
                      if x4 = ni 0 then
                        sm_bi (sm_fe C 167 [.ref (X + 49), .int v2, .int v3, .ref (C.1.1 49)] D5) (fun x5 D6 =>
                          if x5 = ni 0 then
                            some (.inl (some (.int (ni 0))), D6)
                          else
                            some (.inl (some (.int (ni 6))), D6))
                      else
                        some (.inl (some (.int (ni 5))), D5))
                  else
                    some (.inl (some (.int (ni 4))), D4))
              else
                some (.inl (some (.int (ni 3))), D3))
          else
            some (.inl (some (.int (ni 0))), D2)
        else
          some (.inl (some (.int (ni 2))), D2))
    else
      some (.inl (some (.int (ni 1))), D1))) := by
  rw [sx_fe (m := 4) rfl rfl]
  exact (show sm_ge (sm_fx C 166 0 [.ref (X + 49), .int v1, .int v2, .int v3] [] D) _ from (sx_p (pc' := 3) (lv' := [.ref (X + 49), .int v1, .int v2, .int v3]) (st' := [.int v3, .int v2, .ref (X + 49)]) q166 0 3 rfl (sx_cs q166 3 rfl (Or.inl ⟨rfl, rfl⟩) cs_12_172 (sx_ki (sx_V q166 4 rfl lk_12_174 vk_167 na_167 rfl rfl rfl rfl (hX.s 49 rfl)) (by decide) rfl (fun x0 D1 => (sx_if_eq q166 5 rfl rfl (sx_p (pc' := 16) (lv' := [.ref (X + 49), .int v1, .int v2, .int v3]) (st' := [.int v3, .int v2, .ref (X + 49)]) q166 8 3 rfl (sx_cs q166 11 rfl (Or.inl ⟨rfl, rfl⟩) cs_12_178 (sx_ki (sx_V q166 12 rfl lk_12_174 vk_167 na_167 rfl rfl rfl rfl (hX.s 49 rfl)) (by decide) rfl (fun x1 D2 => (sx_if_eq q166 13 rfl rfl (sx_p (pc' := 27) (lv' := [.ref (X + 49), .int v1, .int v2, .int v3]) (st' := [.int v1]) q166 16 1 rfl (sx_if_le q166 17 rfl rfl (sx_p (pc' := 35) (lv' := [.ref (X + 49), .int v1, .int v2, .int v3]) (st' := [.int v3, .int v2, .ref (X + 49)]) q166 20 3 rfl (sx_cs q166 23 rfl (Or.inl ⟨rfl, rfl⟩) cs_12_180 (sx_ki (sx_V q166 24 rfl lk_12_174 vk_167 na_167 rfl rfl rfl rfl (hX.s 49 rfl)) (by decide) rfl (fun x2 D3 => (sx_if_eq q166 25 rfl rfl (sx_p (pc' := 50) (lv' := [.ref (X + 49), .int v1, .int v2, .int v3]) (st' := [.int v3, .int v2, .ref (X + 49)]) q166 28 3 rfl (sx_cs q166 31 rfl (Or.inl ⟨rfl, rfl⟩) cs_12_181 (sx_ki (sx_V q166 32 rfl lk_12_174 vk_167 na_167 rfl rfl rfl rfl (hX.s 49 rfl)) (by decide) rfl (fun x3 D4 => (sx_if_eq q166 33 rfl rfl (sx_p (pc' := 65) (lv' := [.ref (X + 49), .int v1, .int v2, .int v3]) (st' := [.int v3, .int v2, .ref (X + 49)]) q166 36 3 rfl (sx_cs q166 39 rfl (Or.inl ⟨rfl, rfl⟩) cs_12_183 (sx_ki (sx_V q166 40 rfl lk_12_174 vk_167 na_167 rfl rfl rfl rfl (hX.s 49 rfl)) (by decide) rfl (fun x4 D5 => (sx_if_eq q166 41 rfl rfl (sx_p (pc' := 80) (lv' := [.ref (X + 49), .int v1, .int v2, .int v3]) (st' := [.int v3, .int v2, .ref (X + 49)]) q166 44 3 rfl (sx_cs q166 47 rfl (Or.inl ⟨rfl, rfl⟩) cs_12_185 (sx_ki (sx_V q166 48 rfl lk_12_174 vk_167 na_167 rfl rfl rfl rfl (hX.s 49 rfl)) (by decide) rfl (fun x5 D6 => (sx_if_eq q166 49 rfl rfl (sx_p (pc' := 94) (lv' := [.ref (X + 49), .int v1, .int v2, .int v3]) (st' := [.int (ni 0)]) q166 52 1 rfl (sx_ri (ty := .int) q166 53 rfl rfl)) (sx_p (pc' := 94) (lv' := [.ref (X + 49), .int v1, .int v2, .int v3]) (st' := [.int (ni 6)]) q166 50 2 rfl (sx_ri (ty := .int) q166 53 rfl rfl))))))) (sx_p (pc' := 94) (lv' := [.ref (X + 49), .int v1, .int v2, .int v3]) (st' := [.int (ni 5)]) q166 42 2 rfl (sx_ri (ty := .int) q166 53 rfl rfl))))))) (sx_p (pc' := 94) (lv' := [.ref (X + 49), .int v1, .int v2, .int v3]) (st' := [.int (ni 4)]) q166 34 2 rfl (sx_ri (ty := .int) q166 53 rfl rfl))))))) (sx_p (pc' := 94) (lv' := [.ref (X + 49), .int v1, .int v2, .int v3]) (st' := [.int (ni 3)]) q166 26 2 rfl (sx_ri (ty := .int) q166 53 rfl rfl))))))) (sx_p (pc' := 31) (lv' := [.ref (X + 49), .int v1, .int v2, .int v3]) (st' := [.int (ni 0)]) q166 18 1 rfl (sx_ri (ty := .int) q166 19 rfl rfl)))) (sx_p (pc' := 25) (lv' := [.ref (X + 49), .int v1, .int v2, .int v3]) (st' := [.int (ni 2)]) q166 14 1 rfl (sx_ri (ty := .int) q166 15 rfl rfl))))))) (sx_p (pc' := 12) (lv' := [.ref (X + 49), .int v1, .int v2, .int v3]) (st' := [.int (ni 1)]) q166 6 1 rfl (sx_ri (ty := .int) q166 7 rfl rfl))))))))
/-! MessageTreeModel.isWord -/
theorem q167 : sm_q 167 12 sm_i167 4 := ⟨rfl, rfl, rfl⟩
set_option maxRecDepth 8000 in
theorem n167_13 {C : sm_K} {X : Nat} {s : Nat} {w : Nat} {nw : Nat} {v1 : Int32} {v2 : Int32} {s0 : Int32} (hX : sm_Lay C X) (hs : sm_sr C s w nw) {D : sm_D} : sm_ge (sm_fx C 167 13 [.ref (X + 49), .int v1, .int v2, .ref s, sm_junk, sm_junk] [.int s0] D) (
  sm_fx C 167 18 [.ref (X + 49), .int v1, .int v2, .ref s, .int s0, .int (ni 0)] [] D) := 
  (sx_p (pc' := 18) (lv' := [.ref (X + 49), .int v1, .int v2, .ref s, .int s0, .int (ni 0)]) (st' := []) q167 7 3 rfl (sm_ge.refl _))
set_option maxRecDepth 8000 in
theorem n167_18 {C : sm_K} {X : Nat} {s : Nat} {w : Nat} {nw : Nat} {v1 : Int32} {v2 : Int32} {v4 : Int32} {v5 : Int32} (hX : sm_Lay C X) (hs : sm_sr C s w nw) {D : sm_D} : sm_ge (sm_fx C 167 18 [.ref (X + 49), .int v1, .int v2, .ref s, .int v4, .int v5] [] D) (
  if v2 ≤ v5 then
    some (.inl (some (.int (sm_nar .boolean v4))), D)
  else
    if v4 = ni 0 then
      some (.inl (some (.int (sm_nar .boolean v4))), D)
    else
      sm_bi (sm_fe C 161 [.ref (X + 49), .int (v1 + v5)] D) (fun x0 D1 =>
        sm_bi (sm_fe C 168 [.int x0] D1) (fun x1 D2 =>
          sm_bi (sm_fe C 262 [.ref s, .int v5] D2) (fun x2 D3 =>
            if x1 = x2 then
              sm_fx C 167 18 [.ref (X + 49), .int v1, .int v2, .ref s, .int (ni 1), .int (v5 + ni 1)] [] D3
            else
              sm_fx C 167 18 [.ref (X + 49), .int v1, .int v2, .ref s, .int (ni 0), .int (v5 + ni 1)] [] D3)))) := 
  (sx_p (pc' := 21) (lv' := [.ref (X + 49), .int v1, .int v2, .ref s, .int v4, .int v5]) (st' := [.int v2, .int v5]) q167 10 2 rfl (sx_icmp_ge q167 12 rfl rfl (sx_p (pc' := 64) (lv' := [.ref (X + 49), .int v1, .int v2, .ref s, .int v4, .int v5]) (st' := [.int v4]) q167 31 1 rfl (sx_ri (ty := .boolean) q167 32 rfl rfl)) (sx_p (pc' := 26) (lv' := [.ref (X + 49), .int v1, .int v2, .ref s, .int v4, .int v5]) (st' := [.int v4]) q167 13 1 rfl (sx_if_eq q167 14 rfl rfl (sx_p (pc' := 64) (lv' := [.ref (X + 49), .int v1, .int v2, .ref s, .int v4, .int v5]) (st' := [.int v4]) q167 31 1 rfl (sx_ri (ty := .boolean) q167 32 rfl rfl)) (sx_p (pc' := 34) (lv' := [.ref (X + 49), .int v1, .int v2, .ref s, .int v4, .int v5]) (st' := [.int (v1 + v5), .ref (X + 49)]) q167 15 4 rfl (sx_ki (sx_V q167 19 rfl lk_12_151 vk_161 na_161 rfl rfl rfl rfl (hX.s 49 rfl)) (by decide) rfl (fun x0 D1 => (sx_ki (sx_S q167 20 rfl lk_12_165 rfl na_168 rfl rfl rfl rfl) (by decide) rfl (fun x1 D2 => (sx_p (pc' := 43) (lv' := [.ref (X + 49), .int v1, .int v2, .ref s, .int v4, .int v5]) (st' := [.int v5, .ref s, .int x1]) q167 21 2 rfl (sx_ki (sx_V q167 23 rfl lk_12_168 vk_262 na_262 rfl rfl rfl rfl hs.1) (by decide) rfl (fun x2 D3 => (sx_icmp_ne q167 24 rfl rfl (sx_p (pc' := 18) (lv' := [.ref (X + 49), .int v1, .int v2, .ref s, .int (ni 0), .int (v5 + ni 1)]) (st' := []) q167 27 4 rfl (sm_ge.refl _)) (sx_p (pc' := 54) (lv' := [.ref (X + 49), .int v1, .int v2, .ref s, .int v4, .int v5]) (st' := [.int (ni 1)]) q167 25 2 rfl (sx_p (pc' := 18) (lv' := [.ref (X + 49), .int v1, .int v2, .ref s, .int (ni 1), .int (v5 + ni 1)]) (st' := []) q167 28 3 rfl (sm_ge.refl _))))))))))))))))
set_option maxRecDepth 8000 in
theorem f167 {C : sm_K} {X : Nat} {v1 : Int32} {v2 : Int32} {s : Nat} {w : Nat} {nw : Nat} (hX : sm_Lay C X) (hs : sm_sr C s w nw) {D : sm_D} : sm_ge (sm_fe C 167 [.ref (X + 49), .int v1, .int v2, .ref s] D) (
  sm_bi (sm_fe C 260 [.ref s] D) (fun x0 D1 =>
    if v2 = x0 then
      sm_fx C 167 13 [.ref (X + 49), .int v1, .int v2, .ref s, sm_junk, sm_junk] [.int (ni 1)] D1
    else
      sm_fx C 167 13 [.ref (X + 49), .int v1, .int v2, .ref s, sm_junk, sm_junk] [.int (ni 0)] D1)) := by
  rw [sx_fe (m := 6) rfl rfl]
  exact (show sm_ge (sm_fx C 167 0 [.ref (X + 49), .int v1, .int v2, .ref s, sm_junk, sm_junk] [] D) _ from (sx_p (pc' := 2) (lv' := [.ref (X + 49), .int v1, .int v2, .ref s, sm_junk, sm_junk]) (st' := [.ref s, .int v2]) q167 0 2 rfl (sx_ki (sx_V q167 2 rfl lk_12_159 vk_260 na_260 rfl rfl rfl rfl hs.1) (by decide) rfl (fun x0 D1 => (sx_icmp_ne q167 3 rfl rfl (sx_p (pc' := 13) (lv' := [.ref (X + 49), .int v1, .int v2, .ref s, sm_junk, sm_junk]) (st' := [.int (ni 0)]) q167 6 1 rfl (sm_ge.refl _)) (sx_p (pc' := 13) (lv' := [.ref (X + 49), .int v1, .int v2, .ref s, sm_junk, sm_junk]) (st' := [.int (ni 1)]) q167 4 2 rfl (sm_ge.refl _)))))))
/-! MessageTreeModel.small -/
theorem q168 : sm_q 168 12 sm_i168 1 := ⟨rfl, rfl, rfl⟩
set_option maxRecDepth 8000 in
theorem f168 {C : sm_K} {v0 : Int32} {D : sm_D} : sm_ge (sm_fe C 168 [.int v0] D) (
  sm_bi (sm_fe C 157 [.int v0, .int (ni 65), .int (ni 90)] D) (fun x0 D1 =>
    if x0 = ni 0 then
      some (.inl (some (.int v0)), D1)
    else
      some (.inl (some (.int (v0 + (ni 32)))), D1))) := by
  rw [sx_fe (m := 1) rfl rfl]
  exact (show sm_ge (sm_fx C 168 0 [.int v0] [] D) _ from (sx_p (pc' := 5) (lv' := [.int v0]) (st' := [.int (ni 90), .int (ni 65), .int v0]) q168 0 3 rfl (sx_ki (sx_S q168 3 rfl lk_12_137 rfl na_157 rfl rfl rfl rfl) (by decide) rfl (fun x0 D1 => (sx_if_eq q168 4 rfl rfl (sx_p (pc' := 19) (lv' := [.int v0]) (st' := [.int v0]) q168 9 1 rfl (sx_ri (ty := .int) q168 10 rfl rfl)) (sx_p (pc' := 19) (lv' := [.int v0]) (st' := [.int (v0 + (ni 32))]) q168 5 4 rfl (sx_ri (ty := .int) q168 10 rfl rfl)))))))
/-! MessageTreeModel.fieldOf -/
theorem q169 : sm_q 169 12 sm_i169 0 := ⟨rfl, rfl, rfl⟩
set_option maxRecDepth 8000 in
theorem n169_10 {C : sm_K} {X : Nat} {v1 : Int32} {v2 : Int32} {v3 : Int32} {v4 : Int32} (hX : sm_Lay C X) {D : sm_D} : sm_ge (sm_fx C 169 10 [.ref (X + 49), .int v1, .int v2, .int v3, .int v4] [] D) (
  sm_gu (sm_in_b v1 40) (
  sm_gu (sm_in_b v1 40) (
  if ((D.1 (X + 54) v1.toNatClampNeg) + (D.1 (X + 55) v1.toNatClampNeg)) ≤ v4 then
    some (.inl (some (.int v3)), D)
  else
    sm_gu (sm_in_b v4 200) (
    if (D.1 (X + 70) v4.toNatClampNeg) = v2 then
      sm_fx C 169 10 [.ref (X + 49), .int v1, .int v2, .int v4, .int (v4 + ni 1)] [] D
    else
      sm_fx C 169 10 [.ref (X + 49), .int v1, .int v2, .int v3, .int (v4 + ni 1)] [] D)))) := 
  (sx_p (pc' := 13) (lv' := [.ref (X + 49), .int v1, .int v2, .int v3, .int v4]) (st' := [.ref (X + 49), .int v4]) q169 7 2 rfl (sx_gR q169 9 rfl fk_12_23 (fun _ _ => rfl) (hX.s 49 rfl) (hX.r 49 11 rfl) (sx_p (pc' := 17) (lv' := [.ref (X + 49), .int v1, .int v2, .int v3, .int v4]) (st' := [.int v1, .ref (X + 54), .int v4]) q169 10 1 rfl (sx_ia q169 11 rfl (hX.s 54 rfl) (hX.b 54) (sx_p (pc' := 19) (lv' := [.ref (X + 49), .int v1, .int v2, .int v3, .int v4]) (st' := [.ref (X + 49), .int (D.1 (X + 54) v1.toNatClampNeg), .int v4]) q169 12 1 rfl (sx_gR q169 13 rfl fk_12_26 (fun _ _ => rfl) (hX.s 49 rfl) (hX.r 49 12 rfl) (sx_p (pc' := 23) (lv' := [.ref (X + 49), .int v1, .int v2, .int v3, .int v4]) (st' := [.int v1, .ref (X + 55), .int (D.1 (X + 54) v1.toNatClampNeg), .int v4]) q169 14 1 rfl (sx_ia q169 15 rfl (hX.s 55 rfl) (hX.b 55) (sx_p (pc' := 25) (lv' := [.ref (X + 49), .int v1, .int v2, .int v3, .int v4]) (st' := [.int ((D.1 (X + 54) v1.toNatClampNeg) + (D.1 (X + 55) v1.toNatClampNeg)), .int v4]) q169 16 1 rfl (sx_icmp_ge q169 17 rfl rfl (sx_p (pc' := 53) (lv' := [.ref (X + 49), .int v1, .int v2, .int v3, .int v4]) (st' := [.int v3]) q169 30 1 rfl (sx_ri (ty := .int) q169 31 rfl rfl)) (sx_p (pc' := 29) (lv' := [.ref (X + 49), .int v1, .int v2, .int v3, .int v4]) (st' := [.ref (X + 49)]) q169 18 1 rfl (sx_gR q169 19 rfl fk_12_72 (fun _ _ => rfl) (hX.s 49 rfl) (hX.r 49 29 rfl) (sx_p (pc' := 34) (lv' := [.ref (X + 49), .int v1, .int v2, .int v3, .int v4]) (st' := [.int v4, .ref (X + 70)]) q169 20 1 rfl (sx_ia q169 21 rfl (hX.s 70 rfl) (hX.b 70) (sx_p (pc' := 36) (lv' := [.ref (X + 49), .int v1, .int v2, .int v3, .int v4]) (st' := [.int v2, .int (D.1 (X + 70) v4.toNatClampNeg)]) q169 22 1 rfl (sx_icmp_ne q169 23 rfl rfl (sx_p (pc' := 10) (lv' := [.ref (X + 49), .int v1, .int v2, .int v3, .int (v4 + ni 1)]) (st' := []) q169 26 4 rfl (sm_ge.refl _)) (sx_p (pc' := 45) (lv' := [.ref (X + 49), .int v1, .int v2, .int v3, .int v4]) (st' := [.int v4]) q169 24 2 rfl (sx_p (pc' := 10) (lv' := [.ref (X + 49), .int v1, .int v2, .int v4, .int (v4 + ni 1)]) (st' := []) q169 27 3 rfl (sm_ge.refl _)))))))))))))))))))
set_option maxRecDepth 8000 in
theorem f169 {C : sm_K} {X : Nat} {v1 : Int32} {v2 : Int32} (hX : sm_Lay C X) {D : sm_D} : sm_ge (sm_fe C 169 [.ref (X + 49), .int v1, .int v2] D) (
  sm_gu (sm_in_b v1 40) (
  sm_fx C 169 10 [.ref (X + 49), .int v1, .int v2, .int (sm_k (-1)), .int (D.1 (X + 54) v1.toNatClampNeg)] [] D)) := by
  rw [sx_fe (m := 5) rfl rfl]
  exact (show sm_ge (sm_fx C 169 0 [.ref (X + 49), .int v1, .int v2, sm_junk, sm_junk] [] D) _ from (sx_p (pc' := 3) (lv' := [.ref (X + 49), .int v1, .int v2, .int (sm_k (-1)), sm_junk]) (st' := [.ref (X + 49)]) q169 0 3 rfl (sx_gR q169 3 rfl fk_12_23 (fun _ _ => rfl) (hX.s 49 rfl) (hX.r 49 11 rfl) (sx_p (pc' := 7) (lv' := [.ref (X + 49), .int v1, .int v2, .int (sm_k (-1)), sm_junk]) (st' := [.int v1, .ref (X + 54)]) q169 4 1 rfl (sx_ia q169 5 rfl (hX.s 54 rfl) (hX.b 54) (sx_p (pc' := 10) (lv' := [.ref (X + 49), .int v1, .int v2, .int (sm_k (-1)), .int (D.1 (X + 54) v1.toNatClampNeg)]) (st' := []) q169 6 1 rfl (sm_ge.refl _)))))))
/-! MessageTreeModel.isBlank -/
theorem q170 : sm_q 170 12 sm_i170 0 := ⟨rfl, rfl, rfl⟩
set_option maxRecDepth 8000 in
theorem f170 {C : sm_K} {v0 : Int32} {D : sm_D} : sm_ge (sm_fe C 170 [.int v0] D) (
  if v0 = (ni 32) then
    some (.inl (some (.int (sm_nar .boolean (ni 1)))), D)
  else
    if v0 = (ni 9) then
      some (.inl (some (.int (sm_nar .boolean (ni 1)))), D)
    else
      some (.inl (some (.int (sm_nar .boolean (ni 0)))), D)) := by
  rw [sx_fe (m := 1) rfl rfl]
  exact (show sm_ge (sm_fx C 170 0 [.int v0] [] D) _ from (sx_p (pc' := 3) (lv' := [.int v0]) (st' := [.int (ni 32), .int v0]) q170 0 2 rfl (sx_icmp_eq q170 2 rfl rfl (sx_p (pc' := 17) (lv' := [.int v0]) (st' := [.int (ni 1)]) q170 6 2 rfl (sx_ri (ty := .boolean) q170 9 rfl rfl)) (sx_p (pc' := 9) (lv' := [.int v0]) (st' := [.int (ni 9), .int v0]) q170 3 2 rfl (sx_icmp_ne q170 5 rfl rfl (sx_p (pc' := 17) (lv' := [.int v0]) (st' := [.int (ni 0)]) q170 8 1 rfl (sx_ri (ty := .boolean) q170 9 rfl rfl)) (sx_p (pc' := 17) (lv' := [.int v0]) (st' := [.int (ni 1)]) q170 6 2 rfl (sx_ri (ty := .boolean) q170 9 rfl rfl)))))))
/-! MessageTreeModel.plainType -/
theorem q171 : sm_q 171 12 sm_i171 5 := ⟨rfl, rfl, rfl⟩
set_option maxRecDepth 8000 in
theorem f171 {C : sm_K} {X : Nat} {v1 : Int32} (hX : sm_Lay C X) {D : sm_D} : sm_ge (sm_fe C 171 [.ref (X + 49), .int v1] D) (
  sm_gu (sm_in_b ((ni 2) * v1) 80) (
  let D1 := sm_dI D (X + 64) (((ni 2) * v1).toNatClampNeg) (D.1 (X + 49) 20)
  sm_gu (sm_in_b ((ni 2) * v1) 80) (
  let D2 := sm_dI D1 (X + 65) (((ni 2) * v1).toNatClampNeg) (ni 4)
  sm_bv (sm_fe C 172 [.ref (X + 49), .ref (C.1.1 50)] D2) (fun D3 =>
    sm_gu (sm_in_b (((ni 2) * v1) + (ni 1)) 80) (
    let D4 := sm_dI D3 (X + 64) ((((ni 2) * v1) + (ni 1)).toNatClampNeg) (D3.1 (X + 49) 20)
    sm_gu (sm_in_b (((ni 2) * v1) + (ni 1)) 80) (
    let D5 := sm_dI D4 (X + 65) ((((ni 2) * v1) + (ni 1)).toNatClampNeg) (ni 5)
    sm_bv (sm_fe C 172 [.ref (X + 49), .ref (C.1.1 51)] D5) (fun D6 =>
      some (.inl none, D6)))))))) := by
  rw [sx_fe (m := 2) rfl rfl]
  exact (show sm_ge (sm_fx C 171 0 [.ref (X + 49), .int v1] [] D) _ from (sx_p (pc' := 1) (lv' := [.ref (X + 49), .int v1]) (st' := [.ref (X + 49)]) q171 0 1 rfl (sx_gR q171 1 rfl fk_12_54 (fun _ _ => rfl) (hX.s 49 rfl) (hX.r 49 22 rfl) (sx_p (pc' := 8) (lv' := [.ref (X + 49), .int v1]) (st' := [.ref (X + 49), .int ((ni 2) * v1), .ref (X + 64)]) q171 2 4 rfl (sx_gI q171 6 rfl fk_12_232 rfl (hX.s 49 rfl) (hX.b 49) (sx_is q171 7 rfl (hX.s 64 rfl) (hX.b 64) (sx_p (pc' := 13) (lv' := [.ref (X + 49), .int v1]) (st' := [.ref (X + 49)]) q171 8 1 rfl (sx_gR q171 9 rfl fk_12_57 (fun _ _ => rfl) (hX.s 49 rfl) (hX.r 49 23 rfl) (sx_p (pc' := 20) (lv' := [.ref (X + 49), .int v1]) (st' := [.int (ni 4), .int ((ni 2) * v1), .ref (X + 65)]) q171 10 4 rfl (sx_is q171 14 rfl (hX.s 65 rfl) (hX.b 65) (sx_p (pc' := 22) (lv' := [.ref (X + 49), .int v1]) (st' := [.ref (X + 49)]) q171 15 1 rfl (sx_cs q171 16 rfl (Or.inl ⟨rfl, rfl⟩) cs_12_253 (sx_kv (sx_V q171 17 rfl lk_12_255 vk_172 na_172 rfl rfl rfl rfl (hX.s 49 rfl)) (by decide) rfl (fun D3 => (sx_p (pc' := 28) (lv' := [.ref (X + 49), .int v1]) (st' := [.ref (X + 49)]) q171 18 1 rfl (sx_gR q171 19 rfl fk_12_54 (fun _ _ => rfl) (hX.s 49 rfl) (hX.r 49 22 rfl) (sx_p (pc' := 37) (lv' := [.ref (X + 49), .int v1]) (st' := [.ref (X + 49), .int (((ni 2) * v1) + (ni 1)), .ref (X + 64)]) q171 20 6 rfl (sx_gI q171 26 rfl fk_12_232 rfl (hX.s 49 rfl) (hX.b 49) (sx_is q171 27 rfl (hX.s 64 rfl) (hX.b 64) (sx_p (pc' := 42) (lv' := [.ref (X + 49), .int v1]) (st' := [.ref (X + 49)]) q171 28 1 rfl (sx_gR q171 29 rfl fk_12_57 (fun _ _ => rfl) (hX.s 49 rfl) (hX.r 49 23 rfl) (sx_p (pc' := 51) (lv' := [.ref (X + 49), .int v1]) (st' := [.int (ni 5), .int (((ni 2) * v1) + (ni 1)), .ref (X + 65)]) q171 30 6 rfl (sx_is q171 36 rfl (hX.s 65 rfl) (hX.b 65) (sx_p (pc' := 53) (lv' := [.ref (X + 49), .int v1]) (st' := [.ref (X + 49)]) q171 37 1 rfl (sx_cs q171 38 rfl (Or.inr ⟨rfl, rfl⟩) cs_12_259 (sx_kv (sx_V q171 39 rfl lk_12_255 vk_172 na_172 rfl rfl rfl rfl (hX.s 49 rfl)) (by decide) rfl (fun D6 => (sx_rv q171 40 rfl rfl))))))))))))))))))))))))))))
/-! MessageTreeModel.tellWord -/
theorem q172 : sm_q 172 12 sm_i172 4 := ⟨rfl, rfl, rfl⟩
set_option maxRecDepth 8000 in
theorem n172_2 {C : sm_K} {X : Nat} {s : Nat} {w : Nat} {nw : Nat} {v2 : Int32} (hX : sm_Lay C X) (hs : sm_sr C s w nw) {D : sm_D} : sm_ge (sm_fx C 172 2 [.ref (X + 49), .ref s, .int v2] [] D) (
  sm_bi (sm_fe C 260 [.ref s] D) (fun x0 D1 =>
    if x0 ≤ v2 then
      some (.inl none, D1)
    else
      sm_bi (sm_fe C 262 [.ref s, .int v2] D1) (fun x1 D2 =>
        sm_bv (sm_fe C 173 [.ref (X + 49), .int x1] D2) (fun D3 =>
          sm_fx C 172 2 [.ref (X + 49), .ref s, .int (v2 + ni 1)] [] D3)))) := 
  (sx_p (pc' := 4) (lv' := [.ref (X + 49), .ref s, .int v2]) (st' := [.ref s, .int v2]) q172 2 2 rfl (sx_ki (sx_V q172 4 rfl lk_12_159 vk_260 na_260 rfl rfl rfl rfl hs.1) (by decide) rfl (fun x0 D1 => (sx_icmp_ge q172 5 rfl rfl (sx_rv q172 13 rfl rfl) (sx_p (pc' := 13) (lv' := [.ref (X + 49), .ref s, .int v2]) (st' := [.int v2, .ref s, .ref (X + 49)]) q172 6 3 rfl (sx_ki (sx_V q172 9 rfl lk_12_168 vk_262 na_262 rfl rfl rfl rfl hs.1) (by decide) rfl (fun x1 D2 => (sx_kv (sx_V q172 10 rfl lk_12_247 vk_173 na_173 rfl rfl rfl rfl (hX.s 49 rfl)) (by decide) rfl (fun D3 => (sx_p (pc' := 2) (lv' := [.ref (X + 49), .ref s, .int (v2 + ni 1)]) (st' := []) q172 11 2 rfl (sm_ge.refl _)))))))))))
set_option maxRecDepth 8000 in
theorem f172 {C : sm_K} {X : Nat} {s : Nat} {w : Nat} {nw : Nat} (hX : sm_Lay C X) (hs : sm_sr C s w nw) {D : sm_D} : sm_ge (sm_fe C 172 [.ref (X + 49), .ref s] D) (
  sm_fx C 172 2 [.ref (X + 49), .ref s, .int (ni 0)] [] D) := by
  rw [sx_fe (m := 3) rfl rfl]
  exact (show sm_ge (sm_fx C 172 0 [.ref (X + 49), .ref s, sm_junk] [] D) _ from (sx_p (pc' := 2) (lv' := [.ref (X + 49), .ref s, .int (ni 0)]) (st' := []) q172 0 2 rfl (sm_ge.refl _)))
/-! MessageTreeModel.tell -/
theorem q173 : sm_q 173 12 sm_i173 0 := ⟨rfl, rfl, rfl⟩
set_option maxRecDepth 8000 in
theorem f173 {C : sm_K} {X : Nat} {v1 : Int32} (hX : sm_Lay C X) {D : sm_D} : sm_ge (sm_fe C 173 [.ref (X + 49), .int v1] D) (
  sm_gu (sm_in_b (D.1 (X + 49) 20) 24000) (
  let D1 := sm_dI D (X + 63) ((D.1 (X + 49) 20).toNatClampNeg) (sm_nar .byte (v1.toInt8.toInt32))
  let D2 := sm_dI D1 (X + 49) 20 ((D1.1 (X + 49) 20) + (ni 1))
  some (.inl none, D2))) := by
  rw [sx_fe (m := 2) rfl rfl]
  exact (show sm_ge (sm_fx C 173 0 [.ref (X + 49), .int v1] [] D) _ from (sx_p (pc' := 1) (lv' := [.ref (X + 49), .int v1]) (st' := [.ref (X + 49)]) q173 0 1 rfl (sx_gR q173 1 rfl fk_12_51 (fun _ _ => rfl) (hX.s 49 rfl) (hX.r 49 21 rfl) (sx_p (pc' := 5) (lv' := [.ref (X + 49), .int v1]) (st' := [.ref (X + 49), .ref (X + 63)]) q173 2 1 rfl (sx_gI q173 3 rfl fk_12_232 rfl (hX.s 49 rfl) (hX.b 49) (sx_p (pc' := 10) (lv' := [.ref (X + 49), .int v1]) (st' := [.int (v1.toInt8.toInt32), .int (D.1 (X + 49) 20), .ref (X + 63)]) q173 4 2 rfl (sx_bs q173 6 rfl (hX.s 63 rfl) (by simp) (hX.b 63) (sx_p (pc' := 13) (lv' := [.ref (X + 49), .int v1]) (st' := [.ref (X + 49), .ref (X + 49)]) q173 7 2 rfl (sx_gI q173 9 rfl fk_12_232 rfl (hX.s 49 rfl) (hX.b 49) (sx_p (pc' := 18) (lv' := [.ref (X + 49), .int v1]) (st' := [.int (((sm_dI D (X + 63) ((D.1 (X + 49) 20).toNatClampNeg) (sm_nar .byte (v1.toInt8.toInt32))).1 (X + 49) 20) + (ni 1)), .ref (X + 49)]) q173 10 2 rfl (sx_pI q173 12 rfl pk_12_232 rfl (hX.s 49 rfl) (hX.b 49) (sx_rv q173 13 rfl rfl))))))))))))
/-! MessageTreeModel.readTexts -/
theorem q174 : sm_q 174 12 sm_i174 8 := ⟨rfl, rfl, rfl⟩
set_option maxRecDepth 8000 in
theorem n174_7 {C : sm_K} {X : Nat} {v1 : Int32} {v2 : Int32} (hX : sm_Lay C X) {D : sm_D} : sm_ge (sm_fx C 174 7 [.ref (X + 49), .int v1, .int v2] [] D) (
  sm_gu (sm_in_b v1 40) (
  sm_gu (sm_in_b v1 40) (
  if ((D.1 (X + 54) v1.toNatClampNeg) + (D.1 (X + 55) v1.toNatClampNeg)) ≤ v2 then
    sm_fx C 174 124 [.ref (X + 49), .int v1, sm_junk] [] D
  else
    if (D.1 (X + 49) 8) = (sm_k (-1)) then
      sm_gu (sm_in_b v2 200) (
      sm_sw (D.1 (X + 70) v2.toNatClampNeg) 1 [(sm_bv (sm_fe C 175 [.ref (X + 49), .int v1, .int v2] D) (fun D1 =>
          sm_fx C 174 7 [.ref (X + 49), .int v1, .int (v2 + ni 1)] [] D1)), (sm_bv (sm_fe C 195 [.ref (X + 49), .int v1, .int v2] D) (fun D2 =>
          sm_fx C 174 7 [.ref (X + 49), .int v1, .int (v2 + ni 1)] [] D2)), (sm_fx C 174 7 [.ref (X + 49), .int v1, .int (v2 + ni 1)] [] D), (sm_bv (sm_fe C 196 [.ref (X + 49), .int v2] D) (fun D3 =>
          sm_fx C 174 7 [.ref (X + 49), .int v1, .int (v2 + ni 1)] [] D3)), (sm_gu (sm_in_b v2 200) (
        sm_bv (sm_fe C 205 [.ref (X + 49), .int ((D.1 (X + 70) v2.toNatClampNeg) - (ni 5)), .int v2] D) (fun D4 =>
          sm_fx C 174 7 [.ref (X + 49), .int v1, .int (v2 + ni 1)] [] D4))), (sm_gu (sm_in_b v2 200) (
        sm_bv (sm_fe C 205 [.ref (X + 49), .int ((D.1 (X + 70) v2.toNatClampNeg) - (ni 5)), .int v2] D) (fun D5 =>
          sm_fx C 174 7 [.ref (X + 49), .int v1, .int (v2 + ni 1)] [] D5)))] (sm_fx C 174 7 [.ref (X + 49), .int v1, .int (v2 + ni 1)] [] D))
    else
      sm_fx C 174 124 [.ref (X + 49), .int v1, sm_junk] [] D))) := 
  (sx_p (pc' := 9) (lv' := [.ref (X + 49), .int v1, .int v2]) (st' := [.ref (X + 49), .int v2]) q174 5 2 rfl (sx_gR q174 7 rfl fk_12_23 (fun _ _ => rfl) (hX.s 49 rfl) (hX.r 49 11 rfl) (sx_p (pc' := 13) (lv' := [.ref (X + 49), .int v1, .int v2]) (st' := [.int v1, .ref (X + 54), .int v2]) q174 8 1 rfl (sx_ia q174 9 rfl (hX.s 54 rfl) (hX.b 54) (sx_p (pc' := 15) (lv' := [.ref (X + 49), .int v1, .int v2]) (st' := [.ref (X + 49), .int (D.1 (X + 54) v1.toNatClampNeg), .int v2]) q174 10 1 rfl (sx_gR q174 11 rfl fk_12_26 (fun _ _ => rfl) (hX.s 49 rfl) (hX.r 49 12 rfl) (sx_p (pc' := 19) (lv' := [.ref (X + 49), .int v1, .int v2]) (st' := [.int v1, .ref (X + 55), .int (D.1 (X + 54) v1.toNatClampNeg), .int v2]) q174 12 1 rfl (sx_ia q174 13 rfl (hX.s 55 rfl) (hX.b 55) (sx_p (pc' := 21) (lv' := [.ref (X + 49), .int v1, .int v2]) (st' := [.int ((D.1 (X + 54) v1.toNatClampNeg) + (D.1 (X + 55) v1.toNatClampNeg)), .int v2]) q174 14 1 rfl (sx_icmp_ge q174 15 rfl rfl (sx_w (lv := [.ref (X + 49), .int v1, .int v2]) (lv' := [.ref (X + 49), .int v1, sm_junk]) (sm_ordl.ord ⟨Or.inr rfl, Or.inr rfl, Or.inl rfl, trivial⟩)) (sx_p (pc' := 25) (lv' := [.ref (X + 49), .int v1, .int v2]) (st' := [.ref (X + 49)]) q174 16 1 rfl (sx_gI q174 17 rfl fk_12_134 rfl (hX.s 49 rfl) (hX.b 49) (sx_p (pc' := 29) (lv' := [.ref (X + 49), .int v1, .int v2]) (st' := [.int (sm_k (-1)), .int (D.1 (X + 49) 8)]) q174 18 1 rfl (sx_icmp_ne q174 19 rfl rfl (sx_w (lv := [.ref (X + 49), .int v1, .int v2]) (lv' := [.ref (X + 49), .int v1, sm_junk]) (sm_ordl.ord ⟨Or.inr rfl, Or.inr rfl, Or.inl rfl, trivial⟩)) (sx_p (pc' := 33) (lv' := [.ref (X + 49), .int v1, .int v2]) (st' := [.ref (X + 49)]) q174 20 1 rfl (sx_gR q174 21 rfl fk_12_72 (fun _ _ => rfl) (hX.s 49 rfl) (hX.r 49 29 rfl) (sx_p (pc' := 37) (lv' := [.ref (X + 49), .int v1, .int v2]) (st' := [.int v2, .ref (X + 70)]) q174 22 1 rfl (sx_ia q174 23 rfl (hX.s 70 rfl) (hX.b 70) (sx_ts q174 24 rfl rfl (by decide) (by decide) (sx_p (pc' := 7) (lv' := [.ref (X + 49), .int v1, .int (v2 + ni 1)]) (st' := []) q174 49 2 rfl (sm_ge.refl _)) ⟨⟨_, rfl, (sx_p (pc' := 79) (lv' := [.ref (X + 49), .int v1, .int v2]) (st' := [.int v2, .int v1, .ref (X + 49)]) q174 25 3 rfl (sx_kv (sx_V q174 28 rfl lk_12_446 vk_175 na_175 rfl rfl rfl rfl (hX.s 49 rfl)) (by decide) rfl (fun D1 => (sx_p (pc' := 118) (lv' := [.ref (X + 49), .int v1, .int v2]) (st' := []) q174 29 1 rfl (sx_p (pc' := 7) (lv' := [.ref (X + 49), .int v1, .int (v2 + ni 1)]) (st' := []) q174 49 2 rfl (sm_ge.refl _))))))⟩, ⟨⟨_, rfl, (sx_p (pc' := 88) (lv' := [.ref (X + 49), .int v1, .int v2]) (st' := [.int v2, .int v1, .ref (X + 49)]) q174 30 3 rfl (sx_kv (sx_V q174 33 rfl lk_12_450 vk_195 na_195 rfl rfl rfl rfl (hX.s 49 rfl)) (by decide) rfl (fun D2 => (sx_p (pc' := 118) (lv' := [.ref (X + 49), .int v1, .int v2]) (st' := []) q174 34 1 rfl (sx_p (pc' := 7) (lv' := [.ref (X + 49), .int v1, .int (v2 + ni 1)]) (st' := []) q174 49 2 rfl (sm_ge.refl _))))))⟩, ⟨⟨_, rfl, (sx_p (pc' := 7) (lv' := [.ref (X + 49), .int v1, .int (v2 + ni 1)]) (st' := []) q174 49 2 rfl (sm_ge.refl _))⟩, ⟨⟨_, rfl, (sx_p (pc' := 96) (lv' := [.ref (X + 49), .int v1, .int v2]) (st' := [.int v2, .ref (X + 49)]) q174 35 2 rfl (sx_kv (sx_V q174 37 rfl lk_12_453 vk_196 na_196 rfl rfl rfl rfl (hX.s 49 rfl)) (by decide) rfl (fun D3 => (sx_p (pc' := 118) (lv' := [.ref (X + 49), .int v1, .int v2]) (st' := []) q174 38 1 rfl (sx_p (pc' := 7) (lv' := [.ref (X + 49), .int v1, .int (v2 + ni 1)]) (st' := []) q174 49 2 rfl (sm_ge.refl _))))))⟩, ⟨⟨_, rfl, (sx_p (pc' := 104) (lv' := [.ref (X + 49), .int v1, .int v2]) (st' := [.ref (X + 49), .ref (X + 49)]) q174 39 2 rfl (sx_gR q174 41 rfl fk_12_72 (fun _ _ => rfl) (hX.s 49 rfl) (hX.r 49 29 rfl) (sx_p (pc' := 108) (lv' := [.ref (X + 49), .int v1, .int v2]) (st' := [.int v2, .ref (X + 70), .ref (X + 49)]) q174 42 1 rfl (sx_ia q174 43 rfl (hX.s 70 rfl) (hX.b 70) (sx_p (pc' := 112) (lv' := [.ref (X + 49), .int v1, .int v2]) (st' := [.int v2, .int ((D.1 (X + 70) v2.toNatClampNeg) - (ni 5)), .ref (X + 49)]) q174 44 3 rfl (sx_kv (sx_V q174 47 rfl lk_12_456 vk_205 na_205 rfl rfl rfl rfl (hX.s 49 rfl)) (by decide) rfl (fun D4 => (sx_p (pc' := 118) (lv' := [.ref (X + 49), .int v1, .int v2]) (st' := []) q174 48 1 rfl (sx_p (pc' := 7) (lv' := [.ref (X + 49), .int v1, .int (v2 + ni 1)]) (st' := []) q174 49 2 rfl (sm_ge.refl _))))))))))⟩, ⟨⟨_, rfl, (sx_p (pc' := 104) (lv' := [.ref (X + 49), .int v1, .int v2]) (st' := [.ref (X + 49), .ref (X + 49)]) q174 39 2 rfl (sx_gR q174 41 rfl fk_12_72 (fun _ _ => rfl) (hX.s 49 rfl) (hX.r 49 29 rfl) (sx_p (pc' := 108) (lv' := [.ref (X + 49), .int v1, .int v2]) (st' := [.int v2, .ref (X + 70), .ref (X + 49)]) q174 42 1 rfl (sx_ia q174 43 rfl (hX.s 70 rfl) (hX.b 70) (sx_p (pc' := 112) (lv' := [.ref (X + 49), .int v1, .int v2]) (st' := [.int v2, .int ((D.1 (X + 70) v2.toNatClampNeg) - (ni 5)), .ref (X + 49)]) q174 44 3 rfl (sx_kv (sx_V q174 47 rfl lk_12_456 vk_205 na_205 rfl rfl rfl rfl (hX.s 49 rfl)) (by decide) rfl (fun D5 => (sx_p (pc' := 118) (lv' := [.ref (X + 49), .int v1, .int v2]) (st' := []) q174 48 1 rfl (sx_p (pc' := 7) (lv' := [.ref (X + 49), .int v1, .int (v2 + ni 1)]) (st' := []) q174 49 2 rfl (sm_ge.refl _))))))))))⟩, trivial⟩⟩⟩⟩⟩⟩)))))))))))))))))))
set_option maxRecDepth 8000 in
theorem n174_124 {C : sm_K} {X : Nat} {v1 : Int32} (hX : sm_Lay C X) {D : sm_D} : sm_ge (sm_fx C 174 124 [.ref (X + 49), .int v1, sm_junk] [] D) (
  if (D.1 (X + 49) 8) = (sm_k (-1)) then
    sm_gu (sm_in_b v1 40) (
    if (D.1 (X + 56) v1.toNatClampNeg) = ni 0 then
      sm_fx C 174 161 [.ref (X + 49), .int v1, sm_junk] [] D
    else
      sm_gu (sm_in_b v1 40) (
      if (D.1 (X + 57) v1.toNatClampNeg) ≤ (ni 2) then
        sm_fx C 174 161 [.ref (X + 49), .int v1, sm_junk] [] D
      else
        sm_gu (sm_in_b v1 40) (
        sm_bv (sm_fe C 162 [.ref (X + 49), .int (D.1 (X + 58) v1.toNatClampNeg)] D) (fun D1 =>
          sm_fx C 174 161 [.ref (X + 49), .int v1, sm_junk] [] D1))))
  else
    sm_fx C 174 161 [.ref (X + 49), .int v1, sm_junk] [] D) := 
  (sx_p (pc' := 125) (lv' := [.ref (X + 49), .int v1, sm_junk]) (st' := [.ref (X + 49)]) q174 51 1 rfl (sx_gI q174 52 rfl fk_12_134 rfl (hX.s 49 rfl) (hX.b 49) (sx_p (pc' := 129) (lv' := [.ref (X + 49), .int v1, sm_junk]) (st' := [.int (sm_k (-1)), .int (D.1 (X + 49) 8)]) q174 53 1 rfl (sx_icmp_ne q174 54 rfl rfl (sm_ge.refl _) (sx_p (pc' := 133) (lv' := [.ref (X + 49), .int v1, sm_junk]) (st' := [.ref (X + 49)]) q174 55 1 rfl (sx_gR q174 56 rfl fk_12_29 (fun _ _ => rfl) (hX.s 49 rfl) (hX.r 49 13 rfl) (sx_p (pc' := 137) (lv' := [.ref (X + 49), .int v1, sm_junk]) (st' := [.int v1, .ref (X + 56)]) q174 57 1 rfl (sx_ba q174 58 rfl (hX.s 56 rfl) (by simp) (hX.b 56) (sx_if_eq q174 59 rfl rfl (sm_ge.refl _) (sx_p (pc' := 142) (lv' := [.ref (X + 49), .int v1, sm_junk]) (st' := [.ref (X + 49)]) q174 60 1 rfl (sx_gR q174 61 rfl fk_12_33 (fun _ _ => rfl) (hX.s 49 rfl) (hX.r 49 14 rfl) (sx_p (pc' := 146) (lv' := [.ref (X + 49), .int v1, sm_junk]) (st' := [.int v1, .ref (X + 57)]) q174 62 1 rfl (sx_ia q174 63 rfl (hX.s 57 rfl) (hX.b 57) (sx_p (pc' := 148) (lv' := [.ref (X + 49), .int v1, sm_junk]) (st' := [.int (ni 2), .int (D.1 (X + 57) v1.toNatClampNeg)]) q174 64 1 rfl (sx_icmp_le q174 65 rfl rfl (sm_ge.refl _) (sx_p (pc' := 153) (lv' := [.ref (X + 49), .int v1, sm_junk]) (st' := [.ref (X + 49), .ref (X + 49)]) q174 66 2 rfl (sx_gR q174 68 rfl fk_12_36 (fun _ _ => rfl) (hX.s 49 rfl) (hX.r 49 15 rfl) (sx_p (pc' := 157) (lv' := [.ref (X + 49), .int v1, sm_junk]) (st' := [.int v1, .ref (X + 58), .ref (X + 49)]) q174 69 1 rfl (sx_ia q174 70 rfl (hX.s 58 rfl) (hX.b 58) (sx_kv (sx_V q174 71 rfl lk_12_155 vk_162 na_162 rfl rfl rfl rfl (hX.s 49 rfl)) (by decide) rfl (fun D1 => (sm_ge.refl _))))))))))))))))))))))
set_option maxRecDepth 8000 in
theorem n174_161 {C : sm_K} {X : Nat} {v1 : Int32} (hX : sm_Lay C X) {D : sm_D} : sm_ge (sm_fx C 174 161 [.ref (X + 49), .int v1, sm_junk] [] D) (
  sm_bi (sm_fe C 169 [.ref (X + 49), .int v1, .int (ni 3)] D) (fun x0 D1 =>
    if (D1.1 (X + 49) 8) = (sm_k (-1)) then
      if x0 = (sm_k (-1)) then
        some (.inl none, D1)
      else
        sm_bv (sm_fe C 211 [.ref (X + 49), .int x0] D1) (fun D2 =>
          some (.inl none, D2))
    else
      some (.inl none, D1))) := 
  (sx_p (pc' := 164) (lv' := [.ref (X + 49), .int v1, sm_junk]) (st' := [.int (ni 3), .int v1, .ref (X + 49)]) q174 72 3 rfl (sx_ki (sx_V q174 75 rfl lk_12_200 vk_169 na_169 rfl rfl rfl rfl (hX.s 49 rfl)) (by decide) rfl (fun x0 D1 => (sx_p (pc' := 169) (lv' := [.ref (X + 49), .int v1, .int x0]) (st' := [.ref (X + 49)]) q174 76 2 rfl (sx_gI q174 78 rfl fk_12_134 rfl (hX.s 49 rfl) (hX.b 49) (sx_p (pc' := 173) (lv' := [.ref (X + 49), .int v1, .int x0]) (st' := [.int (sm_k (-1)), .int (D1.1 (X + 49) 8)]) q174 79 1 rfl (sx_icmp_ne q174 80 rfl rfl (sx_rv q174 87 rfl rfl) (sx_p (pc' := 178) (lv' := [.ref (X + 49), .int v1, .int x0]) (st' := [.int (sm_k (-1)), .int x0]) q174 81 2 rfl (sx_icmp_eq q174 83 rfl rfl (sx_rv q174 87 rfl rfl) (sx_p (pc' := 183) (lv' := [.ref (X + 49), .int v1, .int x0]) (st' := [.int x0, .ref (X + 49)]) q174 84 2 rfl (sx_kv (sx_V q174 86 rfl lk_12_459 vk_211 na_211 rfl rfl rfl rfl (hX.s 49 rfl)) (by decide) rfl (fun D2 => (sx_rv q174 87 rfl rfl)))))))))))))
set_option maxRecDepth 8000 in
theorem f174 {C : sm_K} {X : Nat} {v1 : Int32} (hX : sm_Lay C X) {D : sm_D} : sm_ge (sm_fe C 174 [.ref (X + 49), .int v1] D) (
  sm_gu (sm_in_b v1 40) (
  sm_fx C 174 7 [.ref (X + 49), .int v1, .int (D.1 (X + 54) v1.toNatClampNeg)] [] D)) := by
  rw [sx_fe (m := 3) rfl rfl]
  exact (show sm_ge (sm_fx C 174 0 [.ref (X + 49), .int v1, sm_junk] [] D) _ from (sx_p (pc' := 1) (lv' := [.ref (X + 49), .int v1, sm_junk]) (st' := [.ref (X + 49)]) q174 0 1 rfl (sx_gR q174 1 rfl fk_12_23 (fun _ _ => rfl) (hX.s 49 rfl) (hX.r 49 11 rfl) (sx_p (pc' := 5) (lv' := [.ref (X + 49), .int v1, sm_junk]) (st' := [.int v1, .ref (X + 54)]) q174 2 1 rfl (sx_ia q174 3 rfl (hX.s 54 rfl) (hX.b 54) (sx_p (pc' := 7) (lv' := [.ref (X + 49), .int v1, .int (D.1 (X + 54) v1.toNatClampNeg)]) (st' := []) q174 4 1 rfl (sm_ge.refl _)))))))
/-! MessageTreeModel.readType -/
theorem q175 : sm_q 175 12 sm_i175 6 := ⟨rfl, rfl, rfl⟩
set_option maxRecDepth 8000 in
theorem n175_23 {C : sm_K} {X : Nat} {v1 : Int32} (hX : sm_Lay C X) {D : sm_D} : sm_ge (sm_fx C 175 23 [.ref (X + 49), .int v1, sm_junk, sm_junk] [] D) (
  sm_gu (sm_in_b ((ni 2) * v1) 80) (
  let D1 := sm_dI D (X + 64) (((ni 2) * v1).toNatClampNeg) (D.1 (X + 49) 48)
  sm_gu (sm_in_b ((ni 2) * v1) 80) (
  let D2 := sm_dI D1 (X + 65) (((ni 2) * v1).toNatClampNeg) (D1.1 (X + 49) 49)
  if (D2.1 (X + 49) 8) = (sm_k (-1)) then
    sm_bv (sm_fe C 178 [.ref (X + 49)] D2) (fun D3 =>
      sm_fx C 175 64 [.ref (X + 49), .int v1, sm_junk, .int (D.1 (X + 49) 50)] [] D3)
  else
    sm_fx C 175 64 [.ref (X + 49), .int v1, sm_junk, .int (D.1 (X + 49) 50)] [] D2))) := 
  (sx_p (pc' := 24) (lv' := [.ref (X + 49), .int v1, sm_junk, sm_junk]) (st' := [.ref (X + 49)]) q175 13 1 rfl (sx_gI q175 14 rfl fk_12_235 rfl (hX.s 49 rfl) (hX.b 49) (sx_p (pc' := 29) (lv' := [.ref (X + 49), .int v1, sm_junk, .int (D.1 (X + 49) 50)]) (st' := [.ref (X + 49)]) q175 15 2 rfl (sx_gR q175 17 rfl fk_12_54 (fun _ _ => rfl) (hX.s 49 rfl) (hX.r 49 22 rfl) (sx_p (pc' := 36) (lv' := [.ref (X + 49), .int v1, sm_junk, .int (D.1 (X + 49) 50)]) (st' := [.ref (X + 49), .int ((ni 2) * v1), .ref (X + 64)]) q175 18 4 rfl (sx_gI q175 22 rfl fk_12_238 rfl (hX.s 49 rfl) (hX.b 49) (sx_is q175 23 rfl (hX.s 64 rfl) (hX.b 64) (sx_p (pc' := 41) (lv' := [.ref (X + 49), .int v1, sm_junk, .int (D.1 (X + 49) 50)]) (st' := [.ref (X + 49)]) q175 24 1 rfl (sx_gR q175 25 rfl fk_12_57 (fun _ _ => rfl) (hX.s 49 rfl) (hX.r 49 23 rfl) (sx_p (pc' := 48) (lv' := [.ref (X + 49), .int v1, sm_junk, .int (D.1 (X + 49) 50)]) (st' := [.ref (X + 49), .int ((ni 2) * v1), .ref (X + 65)]) q175 26 4 rfl (sx_gI q175 30 rfl fk_12_250 rfl (hX.s 49 rfl) (hX.b 49) (sx_is q175 31 rfl (hX.s 65 rfl) (hX.b 65) (sx_p (pc' := 53) (lv' := [.ref (X + 49), .int v1, sm_junk, .int (D.1 (X + 49) 50)]) (st' := [.ref (X + 49)]) q175 32 1 rfl (sx_gI q175 33 rfl fk_12_134 rfl (hX.s 49 rfl) (hX.b 49) (sx_p (pc' := 57) (lv' := [.ref (X + 49), .int v1, sm_junk, .int (D.1 (X + 49) 50)]) (st' := [.int (sm_k (-1)), .int ((sm_dI (sm_dI D (X + 64) (((ni 2) * v1).toNatClampNeg) (D.1 (X + 49) 48)) (X + 65) (((ni 2) * v1).toNatClampNeg) ((sm_dI D (X + 64) (((ni 2) * v1).toNatClampNeg) (D.1 (X + 49) 48)).1 (X + 49) 49)).1 (X + 49) 8)]) q175 34 1 rfl (sx_icmp_ne q175 35 rfl rfl (sm_ge.refl _) (sx_p (pc' := 61) (lv' := [.ref (X + 49), .int v1, sm_junk, .int (D.1 (X + 49) 50)]) (st' := [.ref (X + 49)]) q175 36 1 rfl (sx_kv (sx_V q175 37 rfl lk_12_263 vk_178 na_178 rfl rfl rfl rfl (hX.s 49 rfl)) (by decide) rfl (fun D3 => (sm_ge.refl _))))))))))))))))))))
set_option maxRecDepth 8000 in
theorem n175_64 {C : sm_K} {X : Nat} {v1 : Int32} {v3 : Int32} (hX : sm_Lay C X) {D : sm_D} : sm_ge (sm_fx C 175 64 [.ref (X + 49), .int v1, sm_junk, .int v3] [] D) (
  sm_bv (sm_fe C 187 [.ref (X + 49), .int (ni 47)] D) (fun D1 =>
    if (D1.1 (X + 49) 8) = (sm_k (-1)) then
      sm_bv (sm_fe C 178 [.ref (X + 49)] D1) (fun D2 =>
        sm_fx C 175 82 [.ref (X + 49), .int v1, sm_junk, .int v3] [] D2)
    else
      sm_fx C 175 82 [.ref (X + 49), .int v1, sm_junk, .int v3] [] D1)) := 
  (sx_p (pc' := 67) (lv' := [.ref (X + 49), .int v1, sm_junk, .int v3]) (st' := [.int (ni 47), .ref (X + 49)]) q175 38 2 rfl (sx_kv (sx_V q175 40 rfl lk_12_270 vk_187 na_187 rfl rfl rfl rfl (hX.s 49 rfl)) (by decide) rfl (fun D1 => (sx_p (pc' := 71) (lv' := [.ref (X + 49), .int v1, sm_junk, .int v3]) (st' := [.ref (X + 49)]) q175 41 1 rfl (sx_gI q175 42 rfl fk_12_134 rfl (hX.s 49 rfl) (hX.b 49) (sx_p (pc' := 75) (lv' := [.ref (X + 49), .int v1, sm_junk, .int v3]) (st' := [.int (sm_k (-1)), .int (D1.1 (X + 49) 8)]) q175 43 1 rfl (sx_icmp_ne q175 44 rfl rfl (sm_ge.refl _) (sx_p (pc' := 79) (lv' := [.ref (X + 49), .int v1, sm_junk, .int v3]) (st' := [.ref (X + 49)]) q175 45 1 rfl (sx_kv (sx_V q175 46 rfl lk_12_263 vk_178 na_178 rfl rfl rfl rfl (hX.s 49 rfl)) (by decide) rfl (fun D2 => (sm_ge.refl _)))))))))))
set_option maxRecDepth 8000 in
theorem n175_82 {C : sm_K} {X : Nat} {v1 : Int32} {v3 : Int32} (hX : sm_Lay C X) {D : sm_D} : sm_ge (sm_fx C 175 82 [.ref (X + 49), .int v1, sm_junk, .int v3] [] D) (
  if (D.1 (X + 49) 8) = (sm_k (-1)) then
    sm_bv (sm_fe C 182 [.ref (X + 49), .int (ni 1), .int (ni 1)] D) (fun D1 =>
      sm_fx C 175 96 [.ref (X + 49), .int v1, sm_junk, .int v3] [] D1)
  else
    sm_fx C 175 96 [.ref (X + 49), .int v1, sm_junk, .int v3] [] D) := 
  (sx_p (pc' := 83) (lv' := [.ref (X + 49), .int v1, sm_junk, .int v3]) (st' := [.ref (X + 49)]) q175 47 1 rfl (sx_gI q175 48 rfl fk_12_134 rfl (hX.s 49 rfl) (hX.b 49) (sx_p (pc' := 87) (lv' := [.ref (X + 49), .int v1, sm_junk, .int v3]) (st' := [.int (sm_k (-1)), .int (D.1 (X + 49) 8)]) q175 49 1 rfl (sx_icmp_ne q175 50 rfl rfl (sm_ge.refl _) (sx_p (pc' := 93) (lv' := [.ref (X + 49), .int v1, sm_junk, .int v3]) (st' := [.int (ni 1), .int (ni 1), .ref (X + 49)]) q175 51 3 rfl (sx_kv (sx_V q175 54 rfl lk_12_266 vk_182 na_182 rfl rfl rfl rfl (hX.s 49 rfl)) (by decide) rfl (fun D1 => (sm_ge.refl _))))))))
set_option maxRecDepth 8000 in
theorem n175_96 {C : sm_K} {X : Nat} {v1 : Int32} {v3 : Int32} (hX : sm_Lay C X) {D : sm_D} : sm_ge (sm_fx C 175 96 [.ref (X + 49), .int v1, sm_junk, .int v3] [] D) (
  sm_gu (sm_in_b (((ni 2) * v1) + (ni 1)) 80) (
  let D1 := sm_dI D (X + 64) ((((ni 2) * v1) + (ni 1)).toNatClampNeg) (D.1 (X + 49) 48)
  sm_gu (sm_in_b (((ni 2) * v1) + (ni 1)) 80) (
  let D2 := sm_dI D1 (X + 65) ((((ni 2) * v1) + (ni 1)).toNatClampNeg) (D1.1 (X + 49) 49)
  if (D2.1 (X + 49) 8) = (sm_k (-1)) then
    sm_bv (sm_fe C 178 [.ref (X + 49)] D2) (fun D3 =>
      sm_fx C 175 136 [.ref (X + 49), .int v1, sm_junk, .int v3] [] D3)
  else
    sm_fx C 175 136 [.ref (X + 49), .int v1, sm_junk, .int v3] [] D2))) := 
  (sx_p (pc' := 97) (lv' := [.ref (X + 49), .int v1, sm_junk, .int v3]) (st' := [.ref (X + 49)]) q175 55 1 rfl (sx_gR q175 56 rfl fk_12_54 (fun _ _ => rfl) (hX.s 49 rfl) (hX.r 49 22 rfl) (sx_p (pc' := 106) (lv' := [.ref (X + 49), .int v1, sm_junk, .int v3]) (st' := [.ref (X + 49), .int (((ni 2) * v1) + (ni 1)), .ref (X + 64)]) q175 57 6 rfl (sx_gI q175 63 rfl fk_12_238 rfl (hX.s 49 rfl) (hX.b 49) (sx_is q175 64 rfl (hX.s 64 rfl) (hX.b 64) (sx_p (pc' := 111) (lv' := [.ref (X + 49), .int v1, sm_junk, .int v3]) (st' := [.ref (X + 49)]) q175 65 1 rfl (sx_gR q175 66 rfl fk_12_57 (fun _ _ => rfl) (hX.s 49 rfl) (hX.r 49 23 rfl) (sx_p (pc' := 120) (lv' := [.ref (X + 49), .int v1, sm_junk, .int v3]) (st' := [.ref (X + 49), .int (((ni 2) * v1) + (ni 1)), .ref (X + 65)]) q175 67 6 rfl (sx_gI q175 73 rfl fk_12_250 rfl (hX.s 49 rfl) (hX.b 49) (sx_is q175 74 rfl (hX.s 65 rfl) (hX.b 65) (sx_p (pc' := 125) (lv' := [.ref (X + 49), .int v1, sm_junk, .int v3]) (st' := [.ref (X + 49)]) q175 75 1 rfl (sx_gI q175 76 rfl fk_12_134 rfl (hX.s 49 rfl) (hX.b 49) (sx_p (pc' := 129) (lv' := [.ref (X + 49), .int v1, sm_junk, .int v3]) (st' := [.int (sm_k (-1)), .int ((sm_dI (sm_dI D (X + 64) ((((ni 2) * v1) + (ni 1)).toNatClampNeg) (D.1 (X + 49) 48)) (X + 65) ((((ni 2) * v1) + (ni 1)).toNatClampNeg) ((sm_dI D (X + 64) ((((ni 2) * v1) + (ni 1)).toNatClampNeg) (D.1 (X + 49) 48)).1 (X + 49) 49)).1 (X + 49) 8)]) q175 77 1 rfl (sx_icmp_ne q175 78 rfl rfl (sm_ge.refl _) (sx_p (pc' := 133) (lv' := [.ref (X + 49), .int v1, sm_junk, .int v3]) (st' := [.ref (X + 49)]) q175 79 1 rfl (sx_kv (sx_V q175 80 rfl lk_12_263 vk_178 na_178 rfl rfl rfl rfl (hX.s 49 rfl)) (by decide) rfl (fun D3 => (sm_ge.refl _))))))))))))))))))
set_option maxRecDepth 8000 in
theorem n175_136 {C : sm_K} {X : Nat} {v1 : Int32} {v3 : Int32} (hX : sm_Lay C X) {D : sm_D} : sm_ge (sm_fx C 175 136 [.ref (X + 49), .int v1, sm_junk, .int v3] [] D) (
  if (D.1 (X + 49) 8) = (sm_k (-1)) then
    sm_bi (sm_fe C 179 [.ref (X + 49)] D) (fun x0 D1 =>
      if x0 = (ni 59) then
        sm_gu (sm_in_b v1 40) (
        if (ni 6) ≤ (D1.1 (X + 61) v1.toNatClampNeg) then
          sm_fx C 175 172 [.ref (X + 49), .int v1, sm_junk, .int v3] [] D1
        else
          sm_bv (sm_fe C 188 [.ref (X + 49), .int v1] D1) (fun D2 =>
            sm_fx C 175 136 [.ref (X + 49), .int v1, sm_junk, .int v3] [] D2))
      else
        sm_fx C 175 172 [.ref (X + 49), .int v1, sm_junk, .int v3] [] D1)
  else
    sm_fx C 175 172 [.ref (X + 49), .int v1, sm_junk, .int v3] [] D) := 
  (sx_p (pc' := 137) (lv' := [.ref (X + 49), .int v1, sm_junk, .int v3]) (st' := [.ref (X + 49)]) q175 81 1 rfl (sx_gI q175 82 rfl fk_12_134 rfl (hX.s 49 rfl) (hX.b 49) (sx_p (pc' := 141) (lv' := [.ref (X + 49), .int v1, sm_junk, .int v3]) (st' := [.int (sm_k (-1)), .int (D.1 (X + 49) 8)]) q175 83 1 rfl (sx_icmp_ne q175 84 rfl rfl (sm_ge.refl _) (sx_p (pc' := 145) (lv' := [.ref (X + 49), .int v1, sm_junk, .int v3]) (st' := [.ref (X + 49)]) q175 85 1 rfl (sx_ki (sx_V q175 86 rfl lk_12_217 vk_179 na_179 rfl rfl rfl rfl (hX.s 49 rfl)) (by decide) rfl (fun x0 D1 => (sx_p (pc' := 150) (lv' := [.ref (X + 49), .int v1, sm_junk, .int v3]) (st' := [.int (ni 59), .int x0]) q175 87 1 rfl (sx_icmp_ne q175 88 rfl rfl (sm_ge.refl _) (sx_p (pc' := 154) (lv' := [.ref (X + 49), .int v1, sm_junk, .int v3]) (st' := [.ref (X + 49)]) q175 89 1 rfl (sx_gR q175 90 rfl fk_12_45 (fun _ _ => rfl) (hX.s 49 rfl) (hX.r 49 18 rfl) (sx_p (pc' := 158) (lv' := [.ref (X + 49), .int v1, sm_junk, .int v3]) (st' := [.int v1, .ref (X + 61)]) q175 91 1 rfl (sx_ia q175 92 rfl (hX.s 61 rfl) (hX.b 61) (sx_p (pc' := 161) (lv' := [.ref (X + 49), .int v1, sm_junk, .int v3]) (st' := [.int (ni 6), .int (D1.1 (X + 61) v1.toNatClampNeg)]) q175 93 1 rfl (sx_icmp_ge q175 94 rfl rfl (sm_ge.refl _) (sx_p (pc' := 166) (lv' := [.ref (X + 49), .int v1, sm_junk, .int v3]) (st' := [.int v1, .ref (X + 49)]) q175 95 2 rfl (sx_kv (sx_V q175 97 rfl lk_12_273 vk_188 na_188 rfl rfl rfl rfl (hX.s 49 rfl)) (by decide) rfl (fun D2 => (sx_p (pc' := 136) (lv' := [.ref (X + 49), .int v1, sm_junk, .int v3]) (st' := []) q175 98 1 rfl (sm_ge.refl _))))))))))))))))))))
set_option maxRecDepth 8000 in
theorem n175_172 {C : sm_K} {X : Nat} {v1 : Int32} {v3 : Int32} (hX : sm_Lay C X) {D : sm_D} : sm_ge (sm_fx C 175 172 [.ref (X + 49), .int v1, sm_junk, .int v3] [] D) (
  sm_bv (sm_fe C 191 [.ref (X + 49)] D) (fun D1 =>
    if (D1.1 (X + 49) 8) = (sm_k (-1)) then
      sm_gu (sm_in_b ((ni 2) * v1) 80) (
      sm_gu (sm_in_b ((ni 2) * v1) 80) (
      sm_bi (sm_fe C 192 [.ref (X + 49), .int (D1.1 (X + 64) ((ni 2) * v1).toNatClampNeg), .int (D1.1 (X + 65) ((ni 2) * v1).toNatClampNeg), .ref (C.1.1 52)] D1) (fun x0 D2 =>
        sm_gu (sm_in_b v1 40) (
        let D3 := sm_dI D2 (X + 56) (v1.toNatClampNeg) (sm_nar .boolean x0)
        sm_gu (sm_in_b v1 40) (
        if (D3.1 (X + 56) v1.toNatClampNeg) = ni 0 then
          some (.inl none, D3)
        else
          sm_bi (sm_fe C 193 [.ref (X + 49), .int v1] D3) (fun x1 D4 =>
            if x1 = (sm_k (-1)) then
              sm_fx C 175 242 [.ref (X + 49), sm_junk, sm_junk, .int v3] [] D4
            else
              sm_gu (sm_in_b v1 40) (
              if (D4.1 (X + 62) v1.toNatClampNeg) ≤ (ni 5) then
                some (.inl none, D4)
              else
                sm_fx C 175 242 [.ref (X + 49), sm_junk, sm_junk, .int v3] [] D4)))))))
    else
      some (.inl none, D1))) := 
  (sx_p (pc' := 173) (lv' := [.ref (X + 49), .int v1, sm_junk, .int v3]) (st' := [.ref (X + 49)]) q175 99 1 rfl (sx_kv (sx_V q175 100 rfl lk_12_276 vk_191 na_191 rfl rfl rfl rfl (hX.s 49 rfl)) (by decide) rfl (fun D1 => (sx_p (pc' := 177) (lv' := [.ref (X + 49), .int v1, sm_junk, .int v3]) (st' := [.ref (X + 49)]) q175 101 1 rfl (sx_gI q175 102 rfl fk_12_134 rfl (hX.s 49 rfl) (hX.b 49) (sx_p (pc' := 181) (lv' := [.ref (X + 49), .int v1, sm_junk, .int v3]) (st' := [.int (sm_k (-1)), .int (D1.1 (X + 49) 8)]) q175 103 1 rfl (sx_icmp_eq q175 104 rfl rfl (sx_p (pc' := 186) (lv' := [.ref (X + 49), .int v1, sm_junk, .int v3]) (st' := [.ref (X + 49)]) q175 106 1 rfl (sx_gR q175 107 rfl fk_12_29 (fun _ _ => rfl) (hX.s 49 rfl) (hX.r 49 13 rfl) (sx_p (pc' := 192) (lv' := [.ref (X + 49), .int v1, sm_junk, .int v3]) (st' := [.ref (X + 49), .ref (X + 49), .int v1, .ref (X + 56)]) q175 108 3 rfl (sx_gR q175 111 rfl fk_12_54 (fun _ _ => rfl) (hX.s 49 rfl) (hX.r 49 22 rfl) (sx_p (pc' := 198) (lv' := [.ref (X + 49), .int v1, sm_junk, .int v3]) (st' := [.int ((ni 2) * v1), .ref (X + 64), .ref (X + 49), .int v1, .ref (X + 56)]) q175 112 3 rfl (sx_ia q175 115 rfl (hX.s 64 rfl) (hX.b 64) (sx_p (pc' := 200) (lv' := [.ref (X + 49), .int v1, sm_junk, .int v3]) (st' := [.ref (X + 49), .int (D1.1 (X + 64) ((ni 2) * v1).toNatClampNeg), .ref (X + 49), .int v1, .ref (X + 56)]) q175 116 1 rfl (sx_gR q175 117 rfl fk_12_57 (fun _ _ => rfl) (hX.s 49 rfl) (hX.r 49 23 rfl) (sx_p (pc' := 206) (lv' := [.ref (X + 49), .int v1, sm_junk, .int v3]) (st' := [.int ((ni 2) * v1), .ref (X + 65), .int (D1.1 (X + 64) ((ni 2) * v1).toNatClampNeg), .ref (X + 49), .int v1, .ref (X + 56)]) q175 118 3 rfl (sx_ia q175 121 rfl (hX.s 65 rfl) (hX.b 65) (sx_cs q175 122 rfl (Or.inr ⟨rfl, rfl⟩) cs_12_279 (sx_ki (sx_V q175 123 rfl lk_12_281 vk_192 na_192 rfl rfl rfl rfl (hX.s 49 rfl)) (by decide) rfl (fun x0 D2 => (sx_bs q175 124 rfl (hX.s 56 rfl) (by simp) (hX.b 56) (sx_p (pc' := 215) (lv' := [.ref (X + 49), .int v1, sm_junk, .int v3]) (st' := [.ref (X + 49)]) q175 125 1 rfl (sx_gR q175 126 rfl fk_12_29 (fun _ _ => rfl) (hX.s 49 rfl) (hX.r 49 13 rfl) (sx_p (pc' := 219) (lv' := [.ref (X + 49), .int v1, sm_junk, .int v3]) (st' := [.int v1, .ref (X + 56)]) q175 127 1 rfl (sx_ba q175 128 rfl (hX.s 56 rfl) (by simp) (hX.b 56) (sx_if_eq q175 129 rfl rfl (sx_rv q175 144 rfl rfl) (sx_p (pc' := 225) (lv' := [.ref (X + 49), .int v1, sm_junk, .int v3]) (st' := [.int v1, .ref (X + 49)]) q175 130 2 rfl (sx_ki (sx_V q175 132 rfl lk_12_284 vk_193 na_193 rfl rfl rfl rfl (hX.s 49 rfl)) (by decide) rfl (fun x1 D4 => (sx_p (pc' := 229) (lv' := [.ref (X + 49), .int v1, sm_junk, .int v3]) (st' := [.int (sm_k (-1)), .int x1]) q175 133 1 rfl (sx_icmp_eq q175 134 rfl rfl (sx_w (lv := [.ref (X + 49), .int v1, sm_junk, .int v3]) (lv' := [.ref (X + 49), sm_junk, sm_junk, .int v3]) (sm_ordl.ord ⟨Or.inr rfl, Or.inl rfl, Or.inl rfl, Or.inr rfl, trivial⟩)) (sx_p (pc' := 233) (lv' := [.ref (X + 49), .int v1, sm_junk, .int v3]) (st' := [.ref (X + 49)]) q175 135 1 rfl (sx_gR q175 136 rfl fk_12_48 (fun _ _ => rfl) (hX.s 49 rfl) (hX.r 49 19 rfl) (sx_p (pc' := 237) (lv' := [.ref (X + 49), .int v1, sm_junk, .int v3]) (st' := [.int v1, .ref (X + 62)]) q175 137 1 rfl (sx_ia q175 138 rfl (hX.s 62 rfl) (hX.b 62) (sx_p (pc' := 239) (lv' := [.ref (X + 49), .int v1, sm_junk, .int v3]) (st' := [.int (ni 5), .int (D4.1 (X + 62) v1.toNatClampNeg)]) q175 139 1 rfl (sx_icmp_le q175 140 rfl rfl (sx_rv q175 144 rfl rfl) (sx_w (lv := [.ref (X + 49), .int v1, sm_junk, .int v3]) (lv' := [.ref (X + 49), sm_junk, sm_junk, .int v3]) (sm_ordl.ord ⟨Or.inr rfl, Or.inl rfl, Or.inl rfl, Or.inr rfl, trivial⟩)))))))))))))))))))))))))))))))) (sx_rv q175 105 rfl rfl))))))))
set_option maxRecDepth 8000 in
theorem n175_242 {C : sm_K} {X : Nat} {v3 : Int32} (hX : sm_Lay C X) {D : sm_D} : sm_ge (sm_fx C 175 242 [.ref (X + 49), sm_junk, sm_junk, .int v3] [] D) (
  sm_bv (sm_fe C 162 [.ref (X + 49), .int v3] D) (fun D1 =>
    some (.inl none, D1))) := 
  (sx_p (pc' := 244) (lv' := [.ref (X + 49), sm_junk, sm_junk, .int v3]) (st' := [.int v3, .ref (X + 49)]) q175 141 2 rfl (sx_kv (sx_V q175 143 rfl lk_12_155 vk_162 na_162 rfl rfl rfl rfl (hX.s 49 rfl)) (by decide) rfl (fun D1 => (sx_rv q175 144 rfl rfl))))
set_option maxRecDepth 8000 in
theorem f175 {C : sm_K} {X : Nat} {v1 : Int32} {v2 : Int32} (hX : sm_Lay C X) {D : sm_D} : sm_ge (sm_fe C 175 [.ref (X + 49), .int v1, .int v2] D) (
  sm_bv (sm_fe C 176 [.ref (X + 49), .int v2] D) (fun D1 =>
    sm_bv (sm_fe C 178 [.ref (X + 49)] D1) (fun D2 =>
      if (D2.1 (X + 49) 8) = (sm_k (-1)) then
        sm_bv (sm_fe C 182 [.ref (X + 49), .int (ni 1), .int (ni 1)] D2) (fun D3 =>
          sm_fx C 175 23 [.ref (X + 49), .int v1, sm_junk, sm_junk] [] D3)
      else
        sm_fx C 175 23 [.ref (X + 49), .int v1, sm_junk, sm_junk] [] D2))) := by
  rw [sx_fe (m := 4) rfl rfl]
  exact (show sm_ge (sm_fx C 175 0 [.ref (X + 49), .int v1, .int v2, sm_junk] [] D) _ from (sx_p (pc' := 2) (lv' := [.ref (X + 49), .int v1, .int v2, sm_junk]) (st' := [.int v2, .ref (X + 49)]) q175 0 2 rfl (sx_kv (sx_V q175 2 rfl lk_12_260 vk_176 na_176 rfl rfl rfl rfl (hX.s 49 rfl)) (by decide) rfl (fun D1 => (sx_p (pc' := 6) (lv' := [.ref (X + 49), .int v1, .int v2, sm_junk]) (st' := [.ref (X + 49)]) q175 3 1 rfl (sx_kv (sx_V q175 4 rfl lk_12_263 vk_178 na_178 rfl rfl rfl rfl (hX.s 49 rfl)) (by decide) rfl (fun D2 => (sx_p (pc' := 10) (lv' := [.ref (X + 49), .int v1, .int v2, sm_junk]) (st' := [.ref (X + 49)]) q175 5 1 rfl (sx_gI q175 6 rfl fk_12_134 rfl (hX.s 49 rfl) (hX.b 49) (sx_p (pc' := 14) (lv' := [.ref (X + 49), .int v1, .int v2, sm_junk]) (st' := [.int (sm_k (-1)), .int (D2.1 (X + 49) 8)]) q175 7 1 rfl (sx_icmp_ne q175 8 rfl rfl (sx_w (lv := [.ref (X + 49), .int v1, .int v2, sm_junk]) (lv' := [.ref (X + 49), .int v1, sm_junk, sm_junk]) (sm_ordl.ord ⟨Or.inr rfl, Or.inr rfl, Or.inl rfl, Or.inl rfl, trivial⟩)) (sx_p (pc' := 20) (lv' := [.ref (X + 49), .int v1, .int v2, sm_junk]) (st' := [.int (ni 1), .int (ni 1), .ref (X + 49)]) q175 9 3 rfl (sx_kv (sx_V q175 12 rfl lk_12_266 vk_182 na_182 rfl rfl rfl rfl (hX.s 49 rfl)) (by decide) rfl (fun D3 => (sx_w (lv := [.ref (X + 49), .int v1, .int v2, sm_junk]) (lv' := [.ref (X + 49), .int v1, sm_junk, sm_junk]) (sm_ordl.ord ⟨Or.inr rfl, Or.inr rfl, Or.inl rfl, Or.inl rfl, trivial⟩))))))))))))))))
