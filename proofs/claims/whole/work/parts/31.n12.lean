/-! ===== what methods do from place to place, written by a program (wip/tools/gen_nodes.py) ===== -/
/-! MessageTreeModel.findDelimiter -/
theorem q229 : sm_q 229 12 sm_i229 6 := ⟨rfl, rfl, rfl⟩
set_option maxRecDepth 8000 in
theorem n229_19 {C : sm_K} {X : Nat} {v3 : Int32} {v4 : Int32} {v5 : Int32} {v6 : Int32} (hX : sm_Lay C X) {D : sm_D} : sm_ge (sm_fx C 229 19 [.ref (X + 49), sm_junk, sm_junk, .int v3, .int v4, .int v5, .int v6, sm_junk, sm_junk, sm_junk] [] D) (
  if v3 ≤ v6 then
    some (.inl (some (.int (sm_nar .boolean (ni 0)))), D)
  else
    sm_fx C 229 29 [.ref (X + 49), sm_junk, sm_junk, .int v3, .int v4, .int v5, .int v6, .int v6, sm_junk, sm_junk] [] D) := 
  (sx_p (pc' := 22) (lv' := [.ref (X + 49), sm_junk, sm_junk, .int v3, .int v4, .int v5, .int v6, sm_junk, sm_junk, sm_junk]) (st' := [.int v3, .int v6]) q229 11 2 rfl (sx_icmp_ge q229 13 rfl rfl (sx_p (pc' := 317) (lv' := [.ref (X + 49), sm_junk, sm_junk, .int v3, .int v4, .int v5, .int v6, sm_junk, sm_junk, sm_junk]) (st' := [.int (ni 0)]) q229 163 1 rfl (sx_ri (ty := .boolean) q229 164 rfl rfl)) (sx_p (pc' := 29) (lv' := [.ref (X + 49), sm_junk, sm_junk, .int v3, .int v4, .int v5, .int v6, .int v6, sm_junk, sm_junk]) (st' := []) q229 14 2 rfl (sm_ge.refl _))))
set_option maxRecDepth 8000 in
theorem n229_29 {C : sm_K} {X : Nat} {v3 : Int32} {v4 : Int32} {v5 : Int32} {v6 : Int32} {v7 : Int32} (hX : sm_Lay C X) {D : sm_D} : sm_ge (sm_fx C 229 29 [.ref (X + 49), sm_junk, sm_junk, .int v3, .int v4, .int v5, .int v6, .int v7, sm_junk, sm_junk] [] D) (
  if v3 ≤ v7 then
    sm_fx C 229 52 [.ref (X + 49), sm_junk, sm_junk, .int v3, .int v4, .int v5, .int v6, .int v7, sm_junk, sm_junk] [] D
  else
    sm_bi (sm_fe C 161 [.ref (X + 49), .int v7] D) (fun x0 D1 =>
      if x0 = (ni 13) then
        sm_fx C 229 52 [.ref (X + 49), sm_junk, sm_junk, .int v3, .int v4, .int v5, .int v6, .int v7, sm_junk, sm_junk] [] D1
      else
        sm_fx C 229 29 [.ref (X + 49), sm_junk, sm_junk, .int v3, .int v4, .int v5, .int v6, .int (v7 + ni 1), sm_junk, sm_junk] [] D1)) := 
  (sx_p (pc' := 32) (lv' := [.ref (X + 49), sm_junk, sm_junk, .int v3, .int v4, .int v5, .int v6, .int v7, sm_junk, sm_junk]) (st' := [.int v3, .int v7]) q229 16 2 rfl (sx_icmp_ge q229 18 rfl rfl (sm_ge.refl _) (sx_p (pc' := 38) (lv' := [.ref (X + 49), sm_junk, sm_junk, .int v3, .int v4, .int v5, .int v6, .int v7, sm_junk, sm_junk]) (st' := [.int v7, .ref (X + 49)]) q229 19 2 rfl (sx_ki (sx_V q229 21 rfl lk_12_151 vk_161 na_161 rfl rfl rfl rfl (hX.s 49 rfl)) (by decide) rfl (fun x0 D1 => (sx_p (pc' := 43) (lv' := [.ref (X + 49), sm_junk, sm_junk, .int v3, .int v4, .int v5, .int v6, .int v7, sm_junk, sm_junk]) (st' := [.int (ni 13), .int x0]) q229 22 1 rfl (sx_icmp_eq q229 23 rfl rfl (sm_ge.refl _) (sx_p (pc' := 29) (lv' := [.ref (X + 49), sm_junk, sm_junk, .int v3, .int v4, .int v5, .int v6, .int (v7 + ni 1), sm_junk, sm_junk]) (st' := []) q229 24 2 rfl (sm_ge.refl _)))))))))
set_option maxRecDepth 8000 in
theorem n229_52 {C : sm_K} {X : Nat} {v3 : Int32} {v4 : Int32} {v5 : Int32} {v6 : Int32} {v7 : Int32} (hX : sm_Lay C X) {D : sm_D} : sm_ge (sm_fx C 229 52 [.ref (X + 49), sm_junk, sm_junk, .int v3, .int v4, .int v5, .int v6, .int v7, sm_junk, sm_junk] [] D) (
  if v7 < ((v6 + (ni 2)) + v5) then
    sm_fx C 229 92 [.ref (X + 49), sm_junk, sm_junk, .int v3, .int v4, .int v5, .int v6, .int v7, sm_junk, sm_junk] [] D
  else
    sm_bi (sm_fe C 161 [.ref (X + 49), .int v6] D) (fun x0 D1 =>
      if x0 = (ni 45) then
        sm_bi (sm_fe C 161 [.ref (X + 49), .int (v6 + (ni 1))] D1) (fun x1 D2 =>
          if x1 = (ni 45) then
            sm_fx C 229 93 [.ref (X + 49), sm_junk, sm_junk, .int v3, .int v4, .int v5, .int v6, .int v7, sm_junk, sm_junk] [.int (ni 1)] D2
          else
            sm_fx C 229 92 [.ref (X + 49), sm_junk, sm_junk, .int v3, .int v4, .int v5, .int v6, .int v7, sm_junk, sm_junk] [] D2)
      else
        sm_fx C 229 92 [.ref (X + 49), sm_junk, sm_junk, .int v3, .int v4, .int v5, .int v6, .int v7, sm_junk, sm_junk] [] D1)) := 
  (sx_p (pc' := 61) (lv' := [.ref (X + 49), sm_junk, sm_junk, .int v3, .int v4, .int v5, .int v6, .int v7, sm_junk, sm_junk]) (st' := [.int v7, .int ((v6 + (ni 2)) + v5)]) q229 26 6 rfl (sx_icmp_gt q229 32 rfl rfl (sm_ge.refl _) (sx_p (pc' := 67) (lv' := [.ref (X + 49), sm_junk, sm_junk, .int v3, .int v4, .int v5, .int v6, .int v7, sm_junk, sm_junk]) (st' := [.int v6, .ref (X + 49)]) q229 33 2 rfl (sx_ki (sx_V q229 35 rfl lk_12_151 vk_161 na_161 rfl rfl rfl rfl (hX.s 49 rfl)) (by decide) rfl (fun x0 D1 => (sx_p (pc' := 72) (lv' := [.ref (X + 49), sm_junk, sm_junk, .int v3, .int v4, .int v5, .int v6, .int v7, sm_junk, sm_junk]) (st' := [.int (ni 45), .int x0]) q229 36 1 rfl (sx_icmp_ne q229 37 rfl rfl (sm_ge.refl _) (sx_p (pc' := 80) (lv' := [.ref (X + 49), sm_junk, sm_junk, .int v3, .int v4, .int v5, .int v6, .int v7, sm_junk, sm_junk]) (st' := [.int (v6 + (ni 1)), .ref (X + 49)]) q229 38 4 rfl (sx_ki (sx_V q229 42 rfl lk_12_151 vk_161 na_161 rfl rfl rfl rfl (hX.s 49 rfl)) (by decide) rfl (fun x1 D2 => (sx_p (pc' := 85) (lv' := [.ref (X + 49), sm_junk, sm_junk, .int v3, .int v4, .int v5, .int v6, .int v7, sm_junk, sm_junk]) (st' := [.int (ni 45), .int x1]) q229 43 1 rfl (sx_icmp_ne q229 44 rfl rfl (sm_ge.refl _) (sx_p (pc' := 93) (lv' := [.ref (X + 49), sm_junk, sm_junk, .int v3, .int v4, .int v5, .int v6, .int v7, sm_junk, sm_junk]) (st' := [.int (ni 1)]) q229 45 2 rfl (sm_ge.refl _))))))))))))))
set_option maxRecDepth 8000 in
theorem n229_92 {C : sm_K} {X : Nat} {v3 : Int32} {v4 : Int32} {v5 : Int32} {v6 : Int32} {v7 : Int32} (hX : sm_Lay C X) {D : sm_D} : sm_ge (sm_fx C 229 92 [.ref (X + 49), sm_junk, sm_junk, .int v3, .int v4, .int v5, .int v6, .int v7, sm_junk, sm_junk] [] D) (
  sm_fx C 229 93 [.ref (X + 49), sm_junk, sm_junk, .int v3, .int v4, .int v5, .int v6, .int v7, sm_junk, sm_junk] [.int (ni 0)] D) := 
  (sx_p (pc' := 93) (lv' := [.ref (X + 49), sm_junk, sm_junk, .int v3, .int v4, .int v5, .int v6, .int v7, sm_junk, sm_junk]) (st' := [.int (ni 0)]) q229 47 1 rfl (sm_ge.refl _))
set_option maxRecDepth 8000 in
theorem n229_93 {C : sm_K} {X : Nat} {v3 : Int32} {v4 : Int32} {v5 : Int32} {v6 : Int32} {v7 : Int32} {s0 : Int32} (hX : sm_Lay C X) {D : sm_D} : sm_ge (sm_fx C 229 93 [.ref (X + 49), sm_junk, sm_junk, .int v3, .int v4, .int v5, .int v6, .int v7, sm_junk, sm_junk] [.int s0] D) (
  sm_fx C 229 98 [.ref (X + 49), sm_junk, sm_junk, .int v3, .int v4, .int v5, .int v6, .int v7, .int s0, .int (ni 0)] [] D) := 
  (sx_p (pc' := 98) (lv' := [.ref (X + 49), sm_junk, sm_junk, .int v3, .int v4, .int v5, .int v6, .int v7, .int s0, .int (ni 0)]) (st' := []) q229 48 3 rfl (sm_ge.refl _))
set_option maxRecDepth 8000 in
theorem n229_98 {C : sm_K} {X : Nat} {v3 : Int32} {v4 : Int32} {v5 : Int32} {v6 : Int32} {v7 : Int32} {v8 : Int32} {v9 : Int32} (hX : sm_Lay C X) {D : sm_D} : sm_ge (sm_fx C 229 98 [.ref (X + 49), sm_junk, sm_junk, .int v3, .int v4, .int v5, .int v6, .int v7, .int v8, .int v9] [] D) (
  if v5 ≤ v9 then
    sm_fx C 229 153 [.ref (X + 49), sm_junk, sm_junk, .int v3, .int v4, .int v5, .int v6, .int v7, .int v8, sm_junk] [] D
  else
    if v8 = ni 0 then
      sm_fx C 229 153 [.ref (X + 49), sm_junk, sm_junk, .int v3, .int v4, .int v5, .int v6, .int v7, .int v8, sm_junk] [] D
    else
      sm_gu (sm_in_b ((v6 + (ni 2)) + v9) 8000) (
      sm_gu (sm_in_b v4 240) (
      sm_gu (sm_in_b ((D.1 (X + 68) v4.toNatClampNeg) + v9) 24000) (
      if (D.1 (X + 51) ((v6 + (ni 2)) + v9).toNatClampNeg) = (D.1 (X + 63) ((D.1 (X + 68) v4.toNatClampNeg) + v9).toNatClampNeg) then
        sm_fx C 229 98 [.ref (X + 49), sm_junk, sm_junk, .int v3, .int v4, .int v5, .int v6, .int v7, .int (ni 1), .int (v9 + ni 1)] [] D
      else
        sm_fx C 229 98 [.ref (X + 49), sm_junk, sm_junk, .int v3, .int v4, .int v5, .int v6, .int v7, .int (ni 0), .int (v9 + ni 1)] [] D)))) := 
  (sx_p (pc' := 102) (lv' := [.ref (X + 49), sm_junk, sm_junk, .int v3, .int v4, .int v5, .int v6, .int v7, .int v8, .int v9]) (st' := [.int v5, .int v9]) q229 51 2 rfl (sx_icmp_ge q229 53 rfl rfl (sx_w (lv := [.ref (X + 49), sm_junk, sm_junk, .int v3, .int v4, .int v5, .int v6, .int v7, .int v8, .int v9]) (lv' := [.ref (X + 49), sm_junk, sm_junk, .int v3, .int v4, .int v5, .int v6, .int v7, .int v8, sm_junk]) (sm_ordl.ord ⟨Or.inr rfl, Or.inl rfl, Or.inl rfl, Or.inr rfl, Or.inr rfl, Or.inr rfl, Or.inr rfl, Or.inr rfl, Or.inr rfl, Or.inl rfl, trivial⟩)) (sx_p (pc' := 107) (lv' := [.ref (X + 49), sm_junk, sm_junk, .int v3, .int v4, .int v5, .int v6, .int v7, .int v8, .int v9]) (st' := [.int v8]) q229 54 1 rfl (sx_if_eq q229 55 rfl rfl (sx_w (lv := [.ref (X + 49), sm_junk, sm_junk, .int v3, .int v4, .int v5, .int v6, .int v7, .int v8, .int v9]) (lv' := [.ref (X + 49), sm_junk, sm_junk, .int v3, .int v4, .int v5, .int v6, .int v7, .int v8, sm_junk]) (sm_ordl.ord ⟨Or.inr rfl, Or.inl rfl, Or.inl rfl, Or.inr rfl, Or.inr rfl, Or.inr rfl, Or.inr rfl, Or.inr rfl, Or.inr rfl, Or.inl rfl, trivial⟩)) (sx_p (pc' := 111) (lv' := [.ref (X + 49), sm_junk, sm_junk, .int v3, .int v4, .int v5, .int v6, .int v7, .int v8, .int v9]) (st' := [.ref (X + 49)]) q229 56 1 rfl (sx_gR q229 57 rfl fk_12_13 (fun _ _ => rfl) (hX.s 49 rfl) (hX.r 49 3 rfl) (sx_p (pc' := 121) (lv' := [.ref (X + 49), sm_junk, sm_junk, .int v3, .int v4, .int v5, .int v6, .int v7, .int v8, .int v9]) (st' := [.int ((v6 + (ni 2)) + v9), .ref (X + 51)]) q229 58 5 rfl (sx_ba q229 63 rfl (hX.s 51 rfl) (by simp) (hX.b 51) (sx_p (pc' := 123) (lv' := [.ref (X + 49), sm_junk, sm_junk, .int v3, .int v4, .int v5, .int v6, .int v7, .int v8, .int v9]) (st' := [.ref (X + 49), .int (D.1 (X + 51) ((v6 + (ni 2)) + v9).toNatClampNeg)]) q229 64 1 rfl (sx_gR q229 65 rfl fk_12_51 (fun _ _ => rfl) (hX.s 49 rfl) (hX.r 49 21 rfl) (sx_p (pc' := 127) (lv' := [.ref (X + 49), sm_junk, sm_junk, .int v3, .int v4, .int v5, .int v6, .int v7, .int v8, .int v9]) (st' := [.ref (X + 49), .ref (X + 63), .int (D.1 (X + 51) ((v6 + (ni 2)) + v9).toNatClampNeg)]) q229 66 1 rfl (sx_gR q229 67 rfl fk_12_66 (fun _ _ => rfl) (hX.s 49 rfl) (hX.r 49 26 rfl) (sx_p (pc' := 132) (lv' := [.ref (X + 49), sm_junk, sm_junk, .int v3, .int v4, .int v5, .int v6, .int v7, .int v8, .int v9]) (st' := [.int v4, .ref (X + 68), .ref (X + 63), .int (D.1 (X + 51) ((v6 + (ni 2)) + v9).toNatClampNeg)]) q229 68 1 rfl (sx_ia q229 69 rfl (hX.s 68 rfl) (hX.b 68) (sx_p (pc' := 136) (lv' := [.ref (X + 49), sm_junk, sm_junk, .int v3, .int v4, .int v5, .int v6, .int v7, .int v8, .int v9]) (st' := [.int ((D.1 (X + 68) v4.toNatClampNeg) + v9), .ref (X + 63), .int (D.1 (X + 51) ((v6 + (ni 2)) + v9).toNatClampNeg)]) q229 70 2 rfl (sx_ba q229 72 rfl (hX.s 63 rfl) (by simp) (hX.b 63) (sx_icmp_ne q229 73 rfl rfl (sx_p (pc' := 98) (lv' := [.ref (X + 49), sm_junk, sm_junk, .int v3, .int v4, .int v5, .int v6, .int v7, .int (ni 0), .int (v9 + ni 1)]) (st' := []) q229 76 4 rfl (sm_ge.refl _)) (sx_p (pc' := 145) (lv' := [.ref (X + 49), sm_junk, sm_junk, .int v3, .int v4, .int v5, .int v6, .int v7, .int v8, .int v9]) (st' := [.int (ni 1)]) q229 74 2 rfl (sx_p (pc' := 98) (lv' := [.ref (X + 49), sm_junk, sm_junk, .int v3, .int v4, .int v5, .int v6, .int v7, .int (ni 1), .int (v9 + ni 1)]) (st' := []) q229 77 3 rfl (sm_ge.refl _))))))))))))))))))))
set_option maxRecDepth 8000 in
theorem n229_153 {C : sm_K} {X : Nat} {v3 : Int32} {v4 : Int32} {v5 : Int32} {v6 : Int32} {v7 : Int32} {v8 : Int32} (hX : sm_Lay C X) {D : sm_D} : sm_ge (sm_fx C 229 153 [.ref (X + 49), sm_junk, sm_junk, .int v3, .int v4, .int v5, .int v6, .int v7, .int v8, sm_junk] [] D) (
  if v8 = ni 0 then
    sm_fx C 229 266 [.ref (X + 49), sm_junk, sm_junk, .int v3, .int v4, .int v5, .int v6, .int v7, .int v8, sm_junk] [] D
  else
    if v7 < (((v6 + (ni 2)) + v5) + (ni 2)) then
      sm_fx C 229 205 [.ref (X + 49), sm_junk, sm_junk, .int v3, .int v4, .int v5, .int v6, .int v7, sm_junk, .int ((v6 + (ni 2)) + v5)] [.ref (X + 49)] D
    else
      sm_bi (sm_fe C 161 [.ref (X + 49), .int ((v6 + (ni 2)) + v5)] D) (fun x0 D1 =>
        if x0 = (ni 45) then
          sm_bi (sm_fe C 161 [.ref (X + 49), .int (((v6 + (ni 2)) + v5) + (ni 1))] D1) (fun x1 D2 =>
            if x1 = (ni 45) then
              sm_fx C 229 206 [.ref (X + 49), sm_junk, sm_junk, .int v3, .int v4, .int v5, .int v6, .int v7, sm_junk, .int ((v6 + (ni 2)) + v5)] [.int (ni 1), .ref (X + 49)] D2
            else
              sm_fx C 229 205 [.ref (X + 49), sm_junk, sm_junk, .int v3, .int v4, .int v5, .int v6, .int v7, sm_junk, .int ((v6 + (ni 2)) + v5)] [.ref (X + 49)] D2)
        else
          sm_fx C 229 205 [.ref (X + 49), sm_junk, sm_junk, .int v3, .int v4, .int v5, .int v6, .int v7, sm_junk, .int ((v6 + (ni 2)) + v5)] [.ref (X + 49)] D1)) := 
  (sx_p (pc' := 155) (lv' := [.ref (X + 49), sm_junk, sm_junk, .int v3, .int v4, .int v5, .int v6, .int v7, .int v8, sm_junk]) (st' := [.int v8]) q229 80 1 rfl (sx_if_eq q229 81 rfl rfl (sm_ge.refl _) (sx_p (pc' := 174) (lv' := [.ref (X + 49), sm_junk, sm_junk, .int v3, .int v4, .int v5, .int v6, .int v7, .int v8, .int ((v6 + (ni 2)) + v5)]) (st' := [.int v7, .int (((v6 + (ni 2)) + v5) + (ni 2)), .ref (X + 49)]) q229 82 11 rfl (sx_icmp_gt q229 93 rfl rfl (sx_w (lv := [.ref (X + 49), sm_junk, sm_junk, .int v3, .int v4, .int v5, .int v6, .int v7, .int v8, .int ((v6 + (ni 2)) + v5)]) (lv' := [.ref (X + 49), sm_junk, sm_junk, .int v3, .int v4, .int v5, .int v6, .int v7, sm_junk, .int ((v6 + (ni 2)) + v5)]) (sm_ordl.ord ⟨Or.inr rfl, Or.inl rfl, Or.inl rfl, Or.inr rfl, Or.inr rfl, Or.inr rfl, Or.inr rfl, Or.inr rfl, Or.inl rfl, Or.inr rfl, trivial⟩)) (sx_p (pc' := 180) (lv' := [.ref (X + 49), sm_junk, sm_junk, .int v3, .int v4, .int v5, .int v6, .int v7, .int v8, .int ((v6 + (ni 2)) + v5)]) (st' := [.int ((v6 + (ni 2)) + v5), .ref (X + 49), .ref (X + 49)]) q229 94 2 rfl (sx_ki (sx_V q229 96 rfl lk_12_151 vk_161 na_161 rfl rfl rfl rfl (hX.s 49 rfl)) (by decide) rfl (fun x0 D1 => (sx_p (pc' := 185) (lv' := [.ref (X + 49), sm_junk, sm_junk, .int v3, .int v4, .int v5, .int v6, .int v7, .int v8, .int ((v6 + (ni 2)) + v5)]) (st' := [.int (ni 45), .int x0, .ref (X + 49)]) q229 97 1 rfl (sx_icmp_ne q229 98 rfl rfl (sx_w (lv := [.ref (X + 49), sm_junk, sm_junk, .int v3, .int v4, .int v5, .int v6, .int v7, .int v8, .int ((v6 + (ni 2)) + v5)]) (lv' := [.ref (X + 49), sm_junk, sm_junk, .int v3, .int v4, .int v5, .int v6, .int v7, sm_junk, .int ((v6 + (ni 2)) + v5)]) (sm_ordl.ord ⟨Or.inr rfl, Or.inl rfl, Or.inl rfl, Or.inr rfl, Or.inr rfl, Or.inr rfl, Or.inr rfl, Or.inr rfl, Or.inl rfl, Or.inr rfl, trivial⟩)) (sx_p (pc' := 193) (lv' := [.ref (X + 49), sm_junk, sm_junk, .int v3, .int v4, .int v5, .int v6, .int v7, .int v8, .int ((v6 + (ni 2)) + v5)]) (st' := [.int (((v6 + (ni 2)) + v5) + (ni 1)), .ref (X + 49), .ref (X + 49)]) q229 99 4 rfl (sx_ki (sx_V q229 103 rfl lk_12_151 vk_161 na_161 rfl rfl rfl rfl (hX.s 49 rfl)) (by decide) rfl (fun x1 D2 => (sx_p (pc' := 198) (lv' := [.ref (X + 49), sm_junk, sm_junk, .int v3, .int v4, .int v5, .int v6, .int v7, .int v8, .int ((v6 + (ni 2)) + v5)]) (st' := [.int (ni 45), .int x1, .ref (X + 49)]) q229 104 1 rfl (sx_icmp_ne q229 105 rfl rfl (sx_w (lv := [.ref (X + 49), sm_junk, sm_junk, .int v3, .int v4, .int v5, .int v6, .int v7, .int v8, .int ((v6 + (ni 2)) + v5)]) (lv' := [.ref (X + 49), sm_junk, sm_junk, .int v3, .int v4, .int v5, .int v6, .int v7, sm_junk, .int ((v6 + (ni 2)) + v5)]) (sm_ordl.ord ⟨Or.inr rfl, Or.inl rfl, Or.inl rfl, Or.inr rfl, Or.inr rfl, Or.inr rfl, Or.inr rfl, Or.inr rfl, Or.inl rfl, Or.inr rfl, trivial⟩)) (sx_p (pc' := 206) (lv' := [.ref (X + 49), sm_junk, sm_junk, .int v3, .int v4, .int v5, .int v6, .int v7, .int v8, .int ((v6 + (ni 2)) + v5)]) (st' := [.int (ni 1), .ref (X + 49)]) q229 106 2 rfl (sx_w (lv := [.ref (X + 49), sm_junk, sm_junk, .int v3, .int v4, .int v5, .int v6, .int v7, .int v8, .int ((v6 + (ni 2)) + v5)]) (lv' := [.ref (X + 49), sm_junk, sm_junk, .int v3, .int v4, .int v5, .int v6, .int v7, sm_junk, .int ((v6 + (ni 2)) + v5)]) (sm_ordl.ord ⟨Or.inr rfl, Or.inl rfl, Or.inl rfl, Or.inr rfl, Or.inr rfl, Or.inr rfl, Or.inr rfl, Or.inr rfl, Or.inl rfl, Or.inr rfl, trivial⟩)))))))))))))))))
set_option maxRecDepth 8000 in
theorem n229_205 {C : sm_K} {X : Nat} {v3 : Int32} {v4 : Int32} {v5 : Int32} {v6 : Int32} {v7 : Int32} {v9 : Int32} (hX : sm_Lay C X) {D : sm_D} : sm_ge (sm_fx C 229 205 [.ref (X + 49), sm_junk, sm_junk, .int v3, .int v4, .int v5, .int v6, .int v7, sm_junk, .int v9] [.ref (X + 49)] D) (
  sm_fx C 229 206 [.ref (X + 49), sm_junk, sm_junk, .int v3, .int v4, .int v5, .int v6, .int v7, sm_junk, .int v9] [.int (ni 0), .ref (X + 49)] D) := 
  (sx_p (pc' := 206) (lv' := [.ref (X + 49), sm_junk, sm_junk, .int v3, .int v4, .int v5, .int v6, .int v7, sm_junk, .int v9]) (st' := [.int (ni 0), .ref (X + 49)]) q229 108 1 rfl (sm_ge.refl _))
set_option maxRecDepth 8000 in
theorem n229_206 {C : sm_K} {X : Nat} {v3 : Int32} {v4 : Int32} {v5 : Int32} {v6 : Int32} {v7 : Int32} {v9 : Int32} {s1 : Int32} (hX : sm_Lay C X) {D : sm_D} : sm_ge (sm_fx C 229 206 [.ref (X + 49), sm_junk, sm_junk, .int v3, .int v4, .int v5, .int v6, .int v7, sm_junk, .int v9] [.int s1, .ref (X + 49)] D) (
  sm_gu (decide (s1 = 0 ∨ s1 = 1)) (
  let D1 := sm_dI D (X + 49) 67 s1
  if (D1.1 (X + 49) 67) = ni 0 then
    sm_fx C 229 225 [.ref (X + 49), sm_junk, sm_junk, .int v3, .int v4, .int v5, .int v6, .int v7, sm_junk, sm_junk] [.int v9] D1
  else
    sm_fx C 229 225 [.ref (X + 49), sm_junk, sm_junk, .int v3, .int v4, .int v5, .int v6, .int v7, sm_junk, sm_junk] [.int (v9 + (ni 2))] D1)) := 
  (sx_pZ q229 109 rfl pk_12_483 rfl (hX.s 49 rfl) (hX.b 49) (sx_p (pc' := 210) (lv' := [.ref (X + 49), sm_junk, sm_junk, .int v3, .int v4, .int v5, .int v6, .int v7, sm_junk, .int v9]) (st' := [.ref (X + 49)]) q229 110 1 rfl (sx_gI q229 111 rfl fk_12_483 rfl (hX.s 49 rfl) (hX.b 49) (sx_if_eq q229 112 rfl rfl (sx_p (pc' := 225) (lv' := [.ref (X + 49), sm_junk, sm_junk, .int v3, .int v4, .int v5, .int v6, .int v7, sm_junk, .int v9]) (st' := [.int v9]) q229 117 1 rfl (sx_w (lv := [.ref (X + 49), sm_junk, sm_junk, .int v3, .int v4, .int v5, .int v6, .int v7, sm_junk, .int v9]) (lv' := [.ref (X + 49), sm_junk, sm_junk, .int v3, .int v4, .int v5, .int v6, .int v7, sm_junk, sm_junk]) (sm_ordl.ord ⟨Or.inr rfl, Or.inl rfl, Or.inl rfl, Or.inr rfl, Or.inr rfl, Or.inr rfl, Or.inr rfl, Or.inr rfl, Or.inl rfl, Or.inl rfl, trivial⟩))) (sx_p (pc' := 225) (lv' := [.ref (X + 49), sm_junk, sm_junk, .int v3, .int v4, .int v5, .int v6, .int v7, sm_junk, .int v9]) (st' := [.int (v9 + (ni 2))]) q229 113 4 rfl (sx_w (lv := [.ref (X + 49), sm_junk, sm_junk, .int v3, .int v4, .int v5, .int v6, .int v7, sm_junk, .int v9]) (lv' := [.ref (X + 49), sm_junk, sm_junk, .int v3, .int v4, .int v5, .int v6, .int v7, sm_junk, sm_junk]) (sm_ordl.ord ⟨Or.inr rfl, Or.inl rfl, Or.inl rfl, Or.inr rfl, Or.inr rfl, Or.inr rfl, Or.inr rfl, Or.inr rfl, Or.inl rfl, Or.inl rfl, trivial⟩)))))))
set_option maxRecDepth 8000 in
theorem n229_225 {C : sm_K} {X : Nat} {v3 : Int32} {v4 : Int32} {v5 : Int32} {v6 : Int32} {v7 : Int32} {s0 : Int32} (hX : sm_Lay C X) {D : sm_D} : sm_ge (sm_fx C 229 225 [.ref (X + 49), sm_junk, sm_junk, .int v3, .int v4, .int v5, .int v6, .int v7, sm_junk, sm_junk] [.int s0] D) (
  sm_fx C 229 227 [.ref (X + 49), sm_junk, sm_junk, .int v3, .int v4, .int v5, .int v6, .int v7, sm_junk, .int s0] [] D) := 
  (sx_p (pc' := 227) (lv' := [.ref (X + 49), sm_junk, sm_junk, .int v3, .int v4, .int v5, .int v6, .int v7, sm_junk, .int s0]) (st' := []) q229 118 1 rfl (sm_ge.refl _))
set_option maxRecDepth 8000 in
theorem n229_227 {C : sm_K} {X : Nat} {v3 : Int32} {v4 : Int32} {v5 : Int32} {v6 : Int32} {v7 : Int32} {v9 : Int32} (hX : sm_Lay C X) {D : sm_D} : sm_ge (sm_fx C 229 227 [.ref (X + 49), sm_junk, sm_junk, .int v3, .int v4, .int v5, .int v6, .int v7, sm_junk, .int v9] [] D) (
  if v7 ≤ v9 then
    sm_fx C 229 252 [.ref (X + 49), sm_junk, sm_junk, .int v3, .int v4, .int v5, .int v6, .int v7, sm_junk, .int v9] [] D
  else
    sm_bi (sm_fe C 161 [.ref (X + 49), .int v9] D) (fun x0 D1 =>
      sm_bi (sm_fe C 170 [.int x0] D1) (fun x1 D2 =>
        if x1 = ni 0 then
          sm_fx C 229 252 [.ref (X + 49), sm_junk, sm_junk, .int v3, .int v4, .int v5, .int v6, .int v7, sm_junk, .int v9] [] D2
        else
          sm_fx C 229 227 [.ref (X + 49), sm_junk, sm_junk, .int v3, .int v4, .int v5, .int v6, .int v7, sm_junk, .int (v9 + ni 1)] [] D2))) := 
  (sx_p (pc' := 231) (lv' := [.ref (X + 49), sm_junk, sm_junk, .int v3, .int v4, .int v5, .int v6, .int v7, sm_junk, .int v9]) (st' := [.int v7, .int v9]) q229 119 2 rfl (sx_icmp_ge q229 121 rfl rfl (sm_ge.refl _) (sx_p (pc' := 237) (lv' := [.ref (X + 49), sm_junk, sm_junk, .int v3, .int v4, .int v5, .int v6, .int v7, sm_junk, .int v9]) (st' := [.int v9, .ref (X + 49)]) q229 122 2 rfl (sx_ki (sx_V q229 124 rfl lk_12_151 vk_161 na_161 rfl rfl rfl rfl (hX.s 49 rfl)) (by decide) rfl (fun x0 D1 => (sx_ki (sx_S q229 125 rfl lk_12_204 rfl na_170 rfl rfl rfl rfl) (by decide) rfl (fun x1 D2 => (sx_if_eq q229 126 rfl rfl (sm_ge.refl _) (sx_p (pc' := 227) (lv' := [.ref (X + 49), sm_junk, sm_junk, .int v3, .int v4, .int v5, .int v6, .int v7, sm_junk, .int (v9 + ni 1)]) (st' := []) q229 127 2 rfl (sm_ge.refl _))))))))))
set_option maxRecDepth 8000 in
theorem n229_252 {C : sm_K} {X : Nat} {v3 : Int32} {v4 : Int32} {v5 : Int32} {v6 : Int32} {v7 : Int32} {v9 : Int32} (hX : sm_Lay C X) {D : sm_D} : sm_ge (sm_fx C 229 252 [.ref (X + 49), sm_junk, sm_junk, .int v3, .int v4, .int v5, .int v6, .int v7, sm_junk, .int v9] [] D) (
  if v9 = v7 then
    sm_fx C 229 264 [.ref (X + 49), sm_junk, sm_junk, .int v3, .int v4, .int v5, .int v6, .int v7, sm_junk, sm_junk] [.int (ni 1)] D
  else
    sm_fx C 229 264 [.ref (X + 49), sm_junk, sm_junk, .int v3, .int v4, .int v5, .int v6, .int v7, sm_junk, sm_junk] [.int (ni 0)] D) := 
  (sx_p (pc' := 256) (lv' := [.ref (X + 49), sm_junk, sm_junk, .int v3, .int v4, .int v5, .int v6, .int v7, sm_junk, .int v9]) (st' := [.int v7, .int v9]) q229 129 2 rfl (sx_icmp_ne q229 131 rfl rfl (sx_p (pc' := 264) (lv' := [.ref (X + 49), sm_junk, sm_junk, .int v3, .int v4, .int v5, .int v6, .int v7, sm_junk, .int v9]) (st' := [.int (ni 0)]) q229 134 1 rfl (sx_w (lv := [.ref (X + 49), sm_junk, sm_junk, .int v3, .int v4, .int v5, .int v6, .int v7, sm_junk, .int v9]) (lv' := [.ref (X + 49), sm_junk, sm_junk, .int v3, .int v4, .int v5, .int v6, .int v7, sm_junk, sm_junk]) (sm_ordl.ord ⟨Or.inr rfl, Or.inl rfl, Or.inl rfl, Or.inr rfl, Or.inr rfl, Or.inr rfl, Or.inr rfl, Or.inr rfl, Or.inl rfl, Or.inl rfl, trivial⟩))) (sx_p (pc' := 264) (lv' := [.ref (X + 49), sm_junk, sm_junk, .int v3, .int v4, .int v5, .int v6, .int v7, sm_junk, .int v9]) (st' := [.int (ni 1)]) q229 132 2 rfl (sx_w (lv := [.ref (X + 49), sm_junk, sm_junk, .int v3, .int v4, .int v5, .int v6, .int v7, sm_junk, .int v9]) (lv' := [.ref (X + 49), sm_junk, sm_junk, .int v3, .int v4, .int v5, .int v6, .int v7, sm_junk, sm_junk]) (sm_ordl.ord ⟨Or.inr rfl, Or.inl rfl, Or.inl rfl, Or.inr rfl, Or.inr rfl, Or.inr rfl, Or.inr rfl, Or.inr rfl, Or.inl rfl, Or.inl rfl, trivial⟩)))))
set_option maxRecDepth 8000 in
theorem n229_264 {C : sm_K} {X : Nat} {v3 : Int32} {v4 : Int32} {v5 : Int32} {v6 : Int32} {v7 : Int32} {s0 : Int32} (hX : sm_Lay C X) {D : sm_D} : sm_ge (sm_fx C 229 264 [.ref (X + 49), sm_junk, sm_junk, .int v3, .int v4, .int v5, .int v6, .int v7, sm_junk, sm_junk] [.int s0] D) (
  sm_fx C 229 266 [.ref (X + 49), sm_junk, sm_junk, .int v3, .int v4, .int v5, .int v6, .int v7, .int s0, sm_junk] [] D) := 
  (sx_p (pc' := 266) (lv' := [.ref (X + 49), sm_junk, sm_junk, .int v3, .int v4, .int v5, .int v6, .int v7, .int s0, sm_junk]) (st' := []) q229 135 1 rfl (sm_ge.refl _))
set_option maxRecDepth 8000 in
theorem n229_266 {C : sm_K} {X : Nat} {v3 : Int32} {v4 : Int32} {v5 : Int32} {v6 : Int32} {v7 : Int32} {v8 : Int32} (hX : sm_Lay C X) {D : sm_D} : sm_ge (sm_fx C 229 266 [.ref (X + 49), sm_junk, sm_junk, .int v3, .int v4, .int v5, .int v6, .int v7, .int v8, sm_junk] [] D) (
  if v8 = ni 0 then
    if v3 ≤ v7 then
      sm_fx C 229 19 [.ref (X + 49), sm_junk, sm_junk, .int v3, .int v4, .int v5, .int v3, sm_junk, sm_junk, sm_junk] [] D
    else
      sm_fx C 229 19 [.ref (X + 49), sm_junk, sm_junk, .int v3, .int v4, .int v5, .int (v7 + (ni 2)), sm_junk, sm_junk, sm_junk] [] D
  else
    let D1 := sm_dI D (X + 49) 65 v6
    if v3 ≤ v7 then
      let D2 := sm_dI D1 (X + 49) 66 v3
      some (.inl (some (.int (sm_nar .boolean (ni 1)))), D2)
    else
      let D3 := sm_dI D1 (X + 49) 66 (v7 + (ni 2))
      some (.inl (some (.int (sm_nar .boolean (ni 1)))), D3)) := 
  (sx_p (pc' := 268) (lv' := [.ref (X + 49), sm_junk, sm_junk, .int v3, .int v4, .int v5, .int v6, .int v7, .int v8, sm_junk]) (st' := [.int v8]) q229 136 1 rfl (sx_if_eq q229 137 rfl rfl (sx_p (pc' := 300) (lv' := [.ref (X + 49), sm_junk, sm_junk, .int v3, .int v4, .int v5, .int v6, .int v7, .int v8, sm_junk]) (st' := [.int v3, .int v7]) q229 153 2 rfl (sx_icmp_ge q229 155 rfl rfl (sx_p (pc' := 19) (lv' := [.ref (X + 49), sm_junk, sm_junk, .int v3, .int v4, .int v5, .int v3, .int v7, .int v8, sm_junk]) (st' := []) q229 160 3 rfl (sx_w (lv := [.ref (X + 49), sm_junk, sm_junk, .int v3, .int v4, .int v5, .int v3, .int v7, .int v8, sm_junk]) (lv' := [.ref (X + 49), sm_junk, sm_junk, .int v3, .int v4, .int v5, .int v3, sm_junk, sm_junk, sm_junk]) (sm_ordl.ord ⟨Or.inr rfl, Or.inl rfl, Or.inl rfl, Or.inr rfl, Or.inr rfl, Or.inr rfl, Or.inr rfl, Or.inl rfl, Or.inl rfl, Or.inl rfl, trivial⟩))) (sx_p (pc' := 311) (lv' := [.ref (X + 49), sm_junk, sm_junk, .int v3, .int v4, .int v5, .int v6, .int v7, .int v8, sm_junk]) (st' := [.int (v7 + (ni 2))]) q229 156 4 rfl (sx_p (pc' := 19) (lv' := [.ref (X + 49), sm_junk, sm_junk, .int v3, .int v4, .int v5, .int (v7 + (ni 2)), .int v7, .int v8, sm_junk]) (st' := []) q229 161 2 rfl (sx_w (lv := [.ref (X + 49), sm_junk, sm_junk, .int v3, .int v4, .int v5, .int (v7 + (ni 2)), .int v7, .int v8, sm_junk]) (lv' := [.ref (X + 49), sm_junk, sm_junk, .int v3, .int v4, .int v5, .int (v7 + (ni 2)), sm_junk, sm_junk, sm_junk]) (sm_ordl.ord ⟨Or.inr rfl, Or.inl rfl, Or.inl rfl, Or.inr rfl, Or.inr rfl, Or.inr rfl, Or.inr rfl, Or.inl rfl, Or.inl rfl, Or.inl rfl, trivial⟩)))))) (sx_p (pc' := 274) (lv' := [.ref (X + 49), sm_junk, sm_junk, .int v3, .int v4, .int v5, .int v6, .int v7, .int v8, sm_junk]) (st' := [.int v6, .ref (X + 49)]) q229 138 2 rfl (sx_pI q229 140 rfl pk_12_486 rfl (hX.s 49 rfl) (hX.b 49) (sx_p (pc' := 281) (lv' := [.ref (X + 49), sm_junk, sm_junk, .int v3, .int v4, .int v5, .int v6, .int v7, .int v8, sm_junk]) (st' := [.int v3, .int v7, .ref (X + 49)]) q229 141 3 rfl (sx_icmp_ge q229 144 rfl rfl (sx_p (pc' := 292) (lv' := [.ref (X + 49), sm_junk, sm_junk, .int v3, .int v4, .int v5, .int v6, .int v7, .int v8, sm_junk]) (st' := [.int v3, .ref (X + 49)]) q229 149 1 rfl (sx_pI q229 150 rfl pk_12_489 rfl (hX.s 49 rfl) (hX.b 49) (sx_p (pc' := 296) (lv' := [.ref (X + 49), sm_junk, sm_junk, .int v3, .int v4, .int v5, .int v6, .int v7, .int v8, sm_junk]) (st' := [.int (ni 1)]) q229 151 1 rfl (sx_ri (ty := .boolean) q229 152 rfl rfl)))) (sx_p (pc' := 292) (lv' := [.ref (X + 49), sm_junk, sm_junk, .int v3, .int v4, .int v5, .int v6, .int v7, .int v8, sm_junk]) (st' := [.int (v7 + (ni 2)), .ref (X + 49)]) q229 145 4 rfl (sx_pI q229 150 rfl pk_12_489 rfl (hX.s 49 rfl) (hX.b 49) (sx_p (pc' := 296) (lv' := [.ref (X + 49), sm_junk, sm_junk, .int v3, .int v4, .int v5, .int v6, .int v7, .int v8, sm_junk]) (st' := [.int (ni 1)]) q229 151 1 rfl (sx_ri (ty := .boolean) q229 152 rfl rfl))))))))))
set_option maxRecDepth 8000 in
theorem f229 {C : sm_K} {X : Nat} {v1 : Int32} {v2 : Int32} {v3 : Int32} (hX : sm_Lay C X) {D : sm_D} : sm_ge (sm_fe C 229 [.ref (X + 49), .int v1, .int v2, .int v3] D) (
  sm_bi (sm_fe C 193 [.ref (X + 49), .int v1] D) (fun x0 D1 =>
    sm_gu (sm_in_b x0 240) (
    sm_fx C 229 19 [.ref (X + 49), sm_junk, sm_junk, .int v3, .int x0, .int (D1.1 (X + 69) x0.toNatClampNeg), .int v2, sm_junk, sm_junk, sm_junk] [] D1))) := by
  rw [sx_fe (m := 10) rfl rfl]
  exact (show sm_ge (sm_fx C 229 0 [.ref (X + 49), .int v1, .int v2, .int v3, sm_junk, sm_junk, sm_junk, sm_junk, sm_junk, sm_junk] [] D) _ from (sx_p (pc' := 2) (lv' := [.ref (X + 49), .int v1, .int v2, .int v3, sm_junk, sm_junk, sm_junk, sm_junk, sm_junk, sm_junk]) (st' := [.int v1, .ref (X + 49)]) q229 0 2 rfl (sx_ki (sx_V q229 2 rfl lk_12_284 vk_193 na_193 rfl rfl rfl rfl (hX.s 49 rfl)) (by decide) rfl (fun x0 D1 => (sx_p (pc' := 8) (lv' := [.ref (X + 49), .int v1, .int v2, .int v3, .int x0, sm_junk, sm_junk, sm_junk, sm_junk, sm_junk]) (st' := [.ref (X + 49)]) q229 3 2 rfl (sx_gR q229 5 rfl fk_12_69 (fun _ _ => rfl) (hX.s 49 rfl) (hX.r 49 27 rfl) (sx_p (pc' := 13) (lv' := [.ref (X + 49), .int v1, .int v2, .int v3, .int x0, sm_junk, sm_junk, sm_junk, sm_junk, sm_junk]) (st' := [.int x0, .ref (X + 69)]) q229 6 1 rfl (sx_ia q229 7 rfl (hX.s 69 rfl) (hX.b 69) (sx_p (pc' := 19) (lv' := [.ref (X + 49), .int v1, .int v2, .int v3, .int x0, .int (D1.1 (X + 69) x0.toNatClampNeg), .int v2, sm_junk, sm_junk, sm_junk]) (st' := []) q229 8 3 rfl (sx_w (lv := [.ref (X + 49), .int v1, .int v2, .int v3, .int x0, .int (D1.1 (X + 69) x0.toNatClampNeg), .int v2, sm_junk, sm_junk, sm_junk]) (lv' := [.ref (X + 49), sm_junk, sm_junk, .int v3, .int x0, .int (D1.1 (X + 69) x0.toNatClampNeg), .int v2, sm_junk, sm_junk, sm_junk]) (sm_ordl.ord ⟨Or.inr rfl, Or.inl rfl, Or.inl rfl, Or.inr rfl, Or.inr rfl, Or.inr rfl, Or.inr rfl, Or.inl rfl, Or.inl rfl, Or.inl rfl, trivial⟩)))))))))))
/-! MessageTreeModel.readPart -/
theorem q230 : sm_q 230 12 sm_i230 10 := ⟨rfl, rfl, rfl⟩
set_option maxRecDepth 8000 in
theorem f230 {C : sm_K} {X : Nat} {v1 : Int32} {v2 : Int32} {v3 : Int32} (hX : sm_Lay C X) {D : sm_D} : sm_ge (sm_fe C 230 [.ref (X + 49), .int v1, .int v2, .int v3] D) (
  sm_bv (sm_fe C 163 [.ref (X + 49), .int v1, .int v2, .int v3] D) (fun D1 =>
    some (.inl none, D1))) := by
  rw [sx_fe (m := 4) rfl rfl]
  exact (show sm_ge (sm_fx C 230 0 [.ref (X + 49), .int v1, .int v2, .int v3] [] D) _ from (sx_p (pc' := 4) (lv' := [.ref (X + 49), .int v1, .int v2, .int v3]) (st' := [.int v3, .int v2, .int v1, .ref (X + 49)]) q230 0 4 rfl (sx_kv (sx_V q230 4 rfl lk_12_495 vk_163 na_163 rfl rfl rfl rfl (hX.s 49 rfl)) (by decide) rfl (fun D1 => (sx_rv q230 5 rfl rfl)))))
/-! MessageTreeModel.entity -/
theorem q231 : sm_q 231 12 sm_i231 2 := ⟨rfl, rfl, rfl⟩
set_option maxRecDepth 8000 in
theorem n231_23 {C : sm_K} {X : Nat} {v1 : Int32} {v2 : Int32} (hX : sm_Lay C X) {D : sm_D} : sm_ge (sm_fx C 231 23 [.ref (X + 49), .int v1, .int v2] [.ref (X + 49)] D) (
  sm_fx C 231 24 [.ref (X + 49), .int v1, .int v2] [.int (ni 0), .ref (X + 49)] D) := 
  (sx_p (pc' := 24) (lv' := [.ref (X + 49), .int v1, .int v2]) (st' := [.int (ni 0), .ref (X + 49)]) q231 12 1 rfl (sm_ge.refl _))
set_option maxRecDepth 8000 in
theorem n231_24 {C : sm_K} {X : Nat} {v1 : Int32} {v2 : Int32} {s1 : Int32} (hX : sm_Lay C X) {D : sm_D} : sm_ge (sm_fx C 231 24 [.ref (X + 49), .int v1, .int v2] [.int s1, .ref (X + 49)] D) (
  sm_bi (sm_fe C 155 [.ref (X + 49), .int s1] D) (fun x0 D1 =>
    if x0 = ni 0 then
      some (.inl (some (.int (ni 0))), D1)
    else
      sm_sw v2 0 [(sm_gu (sm_in_b v1 40) (
        some (.inl (some (.int (D1.1 (X + 53) v1.toNatClampNeg))), D1))), (sm_bi (sm_fe C 233 [.ref (X + 49), .int v1] D1) (fun x1 D2 =>
          some (.inl (some (.int x1)), D2))), (sm_gu (sm_in_b v1 40) (
        some (.inl (some (.int (D1.1 (X + 55) v1.toNatClampNeg))), D1))), (sm_gu (sm_in_b v1 40) (
        some (.inl (some (.int (D1.1 (X + 60) v1.toNatClampNeg))), D1))), (sm_gu (sm_in_b v1 40) (
        some (.inl (some (.int (D1.1 (X + 57) v1.toNatClampNeg))), D1))), (sm_gu (sm_in_b v1 40) (
        some (.inl (some (.int (D1.1 (X + 61) v1.toNatClampNeg))), D1)))] (sm_gu (sm_in_b v1 40) (
        if (D1.1 (X + 56) v1.toNatClampNeg) = ni 0 then
          some (.inl (some (.int (ni 0))), D1)
        else
          some (.inl (some (.int (ni 1))), D1))))) := 
  (sx_ki (sx_V q231 13 rfl lk_12_144 vk_155 na_155 rfl rfl rfl rfl (hX.s 49 rfl)) (by decide) rfl (fun x0 D1 => (sx_if_ne q231 14 rfl rfl (sx_p (pc' := 33) (lv' := [.ref (X + 49), .int v1, .int v2]) (st' := [.int v2]) q231 17 1 rfl (sx_ts q231 18 rfl rfl (by decide) (by decide) (sx_p (pc' := 114) (lv' := [.ref (X + 49), .int v1, .int v2]) (st' := [.ref (X + 49)]) q231 48 1 rfl (sx_gR q231 49 rfl fk_12_29 (fun _ _ => rfl) (hX.s 49 rfl) (hX.r 49 13 rfl) (sx_p (pc' := 118) (lv' := [.ref (X + 49), .int v1, .int v2]) (st' := [.int v1, .ref (X + 56)]) q231 50 1 rfl (sx_ba q231 51 rfl (hX.s 56 rfl) (by simp) (hX.b 56) (sx_if_eq q231 52 rfl rfl (sx_p (pc' := 127) (lv' := [.ref (X + 49), .int v1, .int v2]) (st' := [.int (ni 0)]) q231 55 1 rfl (sx_ri (ty := .int) q231 56 rfl rfl)) (sx_p (pc' := 127) (lv' := [.ref (X + 49), .int v1, .int v2]) (st' := [.int (ni 1)]) q231 53 2 rfl (sx_ri (ty := .int) q231 56 rfl rfl))))))) ⟨⟨_, rfl, (sx_p (pc' := 73) (lv' := [.ref (X + 49), .int v1, .int v2]) (st' := [.ref (X + 49)]) q231 19 1 rfl (sx_gR q231 20 rfl fk_12_19 (fun _ _ => rfl) (hX.s 49 rfl) (hX.r 49 10 rfl) (sx_p (pc' := 77) (lv' := [.ref (X + 49), .int v1, .int v2]) (st' := [.int v1, .ref (X + 53)]) q231 21 1 rfl (sx_ia q231 22 rfl (hX.s 53 rfl) (hX.b 53) (sx_ri (ty := .int) q231 23 rfl rfl)))))⟩, ⟨⟨_, rfl, (sx_p (pc' := 81) (lv' := [.ref (X + 49), .int v1, .int v2]) (st' := [.int v1, .ref (X + 49)]) q231 24 2 rfl (sx_ki (sx_V q231 26 rfl lk_12_525 vk_233 na_233 rfl rfl rfl rfl (hX.s 49 rfl)) (by decide) rfl (fun x1 D2 => (sx_ri (ty := .int) q231 27 rfl rfl))))⟩, ⟨⟨_, rfl, (sx_p (pc' := 86) (lv' := [.ref (X + 49), .int v1, .int v2]) (st' := [.ref (X + 49)]) q231 28 1 rfl (sx_gR q231 29 rfl fk_12_26 (fun _ _ => rfl) (hX.s 49 rfl) (hX.r 49 12 rfl) (sx_p (pc' := 90) (lv' := [.ref (X + 49), .int v1, .int v2]) (st' := [.int v1, .ref (X + 55)]) q231 30 1 rfl (sx_ia q231 31 rfl (hX.s 55 rfl) (hX.b 55) (sx_ri (ty := .int) q231 32 rfl rfl)))))⟩, ⟨⟨_, rfl, (sx_p (pc' := 93) (lv' := [.ref (X + 49), .int v1, .int v2]) (st' := [.ref (X + 49)]) q231 33 1 rfl (sx_gR q231 34 rfl fk_12_42 (fun _ _ => rfl) (hX.s 49 rfl) (hX.r 49 17 rfl) (sx_p (pc' := 97) (lv' := [.ref (X + 49), .int v1, .int v2]) (st' := [.int v1, .ref (X + 60)]) q231 35 1 rfl (sx_ia q231 36 rfl (hX.s 60 rfl) (hX.b 60) (sx_ri (ty := .int) q231 37 rfl rfl)))))⟩, ⟨⟨_, rfl, (sx_p (pc' := 100) (lv' := [.ref (X + 49), .int v1, .int v2]) (st' := [.ref (X + 49)]) q231 38 1 rfl (sx_gR q231 39 rfl fk_12_33 (fun _ _ => rfl) (hX.s 49 rfl) (hX.r 49 14 rfl) (sx_p (pc' := 104) (lv' := [.ref (X + 49), .int v1, .int v2]) (st' := [.int v1, .ref (X + 57)]) q231 40 1 rfl (sx_ia q231 41 rfl (hX.s 57 rfl) (hX.b 57) (sx_ri (ty := .int) q231 42 rfl rfl)))))⟩, ⟨⟨_, rfl, (sx_p (pc' := 107) (lv' := [.ref (X + 49), .int v1, .int v2]) (st' := [.ref (X + 49)]) q231 43 1 rfl (sx_gR q231 44 rfl fk_12_45 (fun _ _ => rfl) (hX.s 49 rfl) (hX.r 49 18 rfl) (sx_p (pc' := 111) (lv' := [.ref (X + 49), .int v1, .int v2]) (st' := [.int v1, .ref (X + 61)]) q231 45 1 rfl (sx_ia q231 46 rfl (hX.s 61 rfl) (hX.b 61) (sx_ri (ty := .int) q231 47 rfl rfl)))))⟩, trivial⟩⟩⟩⟩⟩⟩)) (sx_p (pc' := 31) (lv' := [.ref (X + 49), .int v1, .int v2]) (st' := [.int (ni 0)]) q231 15 1 rfl (sx_ri (ty := .int) q231 16 rfl rfl)))))
set_option maxRecDepth 8000 in
theorem f231 {C : sm_K} {X : Nat} {v1 : Int32} {v2 : Int32} (hX : sm_Lay C X) {D : sm_D} : sm_ge (sm_fe C 231 [.ref (X + 49), .int v1, .int v2] D) (
  sm_bi (sm_fe C 232 [.ref (X + 49), .int v1] D) (fun x0 D1 =>
    if x0 = ni 0 then
      sm_fx C 231 23 [.ref (X + 49), .int v1, .int v2] [.ref (X + 49)] D1
    else
      sm_bi (sm_fe C 157 [.int v2, .int (ni 0), .int (ni 6)] D1) (fun x1 D2 =>
        if x1 = ni 0 then
          sm_fx C 231 23 [.ref (X + 49), .int v1, .int v2] [.ref (X + 49)] D2
        else
          sm_fx C 231 24 [.ref (X + 49), .int v1, .int v2] [.int (ni 1), .ref (X + 49)] D2))) := by
  rw [sx_fe (m := 3) rfl rfl]
  exact (show sm_ge (sm_fx C 231 0 [.ref (X + 49), .int v1, .int v2] [] D) _ from (sx_p (pc' := 3) (lv' := [.ref (X + 49), .int v1, .int v2]) (st' := [.int v1, .ref (X + 49), .ref (X + 49)]) q231 0 3 rfl (sx_ki (sx_V q231 3 rfl lk_12_522 vk_232 na_232 rfl rfl rfl rfl (hX.s 49 rfl)) (by decide) rfl (fun x0 D1 => (sx_if_eq q231 4 rfl rfl (sm_ge.refl _) (sx_p (pc' := 13) (lv' := [.ref (X + 49), .int v1, .int v2]) (st' := [.int (ni 6), .int (ni 0), .int v2, .ref (X + 49)]) q231 5 3 rfl (sx_ki (sx_S q231 8 rfl lk_12_137 rfl na_157 rfl rfl rfl rfl) (by decide) rfl (fun x1 D2 => (sx_if_eq q231 9 rfl rfl (sm_ge.refl _) (sx_p (pc' := 24) (lv' := [.ref (X + 49), .int v1, .int v2]) (st' := [.int (ni 1), .ref (X + 49)]) q231 10 2 rfl (sm_ge.refl _)))))))))))
/-! MessageTreeModel.isEntity -/
theorem q232 : sm_q 232 12 sm_i232 1 := ⟨rfl, rfl, rfl⟩
set_option maxRecDepth 8000 in
theorem f232 {C : sm_K} {X : Nat} {v1 : Int32} (hX : sm_Lay C X) {D : sm_D} : sm_ge (sm_fe C 232 [.ref (X + 49), .int v1] D) (
  sm_bi (sm_fe C 157 [.int v1, .int (ni 0), .int ((D.1 (X + 49) 9) - (ni 1))] D) (fun x0 D1 =>
    some (.inl (some (.int (sm_nar .boolean x0))), D1))) := by
  rw [sx_fe (m := 2) rfl rfl]
  exact (show sm_ge (sm_fx C 232 0 [.ref (X + 49), .int v1] [] D) _ from (sx_p (pc' := 3) (lv' := [.ref (X + 49), .int v1]) (st' := [.ref (X + 49), .int (ni 0), .int v1]) q232 0 3 rfl (sx_gI q232 3 rfl fk_12_462 rfl (hX.s 49 rfl) (hX.b 49) (sx_p (pc' := 8) (lv' := [.ref (X + 49), .int v1]) (st' := [.int ((D.1 (X + 49) 9) - (ni 1)), .int (ni 0), .int v1]) q232 4 2 rfl (sx_ki (sx_S q232 6 rfl lk_12_137 rfl na_157 rfl rfl rfl rfl) (by decide) rfl (fun x0 D1 => (sx_ri (ty := .boolean) q232 7 rfl rfl)))))))
/-! MessageTreeModel.partsOf -/
theorem q233 : sm_q 233 12 sm_i233 0 := ⟨rfl, rfl, rfl⟩
set_option maxRecDepth 8000 in
theorem n233_4 {C : sm_K} {X : Nat} {v1 : Int32} {v2 : Int32} {v3 : Int32} (hX : sm_Lay C X) {D : sm_D} : sm_ge (sm_fx C 233 4 [.ref (X + 49), .int v1, .int v2, .int v3] [] D) (
  if (D.1 (X + 49) 9) ≤ v3 then
    some (.inl (some (.int v2)), D)
  else
    sm_gu (sm_in_b v3 40) (
    if (D.1 (X + 53) v3.toNatClampNeg) = v1 then
      sm_fx C 233 4 [.ref (X + 49), .int v1, .int (v2 + (ni 1)), .int (v3 + ni 1)] [] D
    else
      sm_fx C 233 4 [.ref (X + 49), .int v1, .int v2, .int (v3 + ni 1)] [] D)) := 
  (sx_p (pc' := 6) (lv' := [.ref (X + 49), .int v1, .int v2, .int v3]) (st' := [.ref (X + 49), .int v3]) q233 4 2 rfl (sx_gI q233 6 rfl fk_12_462 rfl (hX.s 49 rfl) (hX.b 49) (sx_icmp_ge q233 7 rfl rfl (sx_p (pc' := 37) (lv' := [.ref (X + 49), .int v1, .int v2, .int v3]) (st' := [.int v2]) q233 22 1 rfl (sx_ri (ty := .int) q233 23 rfl rfl)) (sx_p (pc' := 13) (lv' := [.ref (X + 49), .int v1, .int v2, .int v3]) (st' := [.ref (X + 49)]) q233 8 1 rfl (sx_gR q233 9 rfl fk_12_19 (fun _ _ => rfl) (hX.s 49 rfl) (hX.r 49 10 rfl) (sx_p (pc' := 17) (lv' := [.ref (X + 49), .int v1, .int v2, .int v3]) (st' := [.int v3, .ref (X + 53)]) q233 10 1 rfl (sx_ia q233 11 rfl (hX.s 53 rfl) (hX.b 53) (sx_p (pc' := 19) (lv' := [.ref (X + 49), .int v1, .int v2, .int v3]) (st' := [.int v1, .int (D.1 (X + 53) v3.toNatClampNeg)]) q233 12 1 rfl (sx_icmp_ne q233 13 rfl rfl (sx_p (pc' := 4) (lv' := [.ref (X + 49), .int v1, .int v2, .int (v3 + ni 1)]) (st' := []) q233 18 4 rfl (sm_ge.refl _)) (sx_p (pc' := 29) (lv' := [.ref (X + 49), .int v1, .int v2, .int v3]) (st' := [.int (v2 + (ni 1))]) q233 14 4 rfl (sx_p (pc' := 4) (lv' := [.ref (X + 49), .int v1, .int (v2 + (ni 1)), .int (v3 + ni 1)]) (st' := []) q233 19 3 rfl (sm_ge.refl _))))))))))))
set_option maxRecDepth 8000 in
theorem f233 {C : sm_K} {X : Nat} {v1 : Int32} (hX : sm_Lay C X) {D : sm_D} : sm_ge (sm_fe C 233 [.ref (X + 49), .int v1] D) (
  sm_fx C 233 4 [.ref (X + 49), .int v1, .int (ni 0), .int (ni 0)] [] D) := by
  rw [sx_fe (m := 4) rfl rfl]
  exact (show sm_ge (sm_fx C 233 0 [.ref (X + 49), .int v1, sm_junk, sm_junk] [] D) _ from (sx_p (pc' := 4) (lv' := [.ref (X + 49), .int v1, .int (ni 0), .int (ni 0)]) (st' := []) q233 0 4 rfl (sm_ge.refl _)))
/-! MessageTreeModel.part -/
theorem q234 : sm_q 234 12 sm_i234 2 := ⟨rfl, rfl, rfl⟩
set_option maxRecDepth 8000 in
theorem n234_19 {C : sm_K} {X : Nat} {v1 : Int32} {v2 : Int32} {v3 : Int32} {v4 : Int32} (hX : sm_Lay C X) {D : sm_D} : sm_ge (sm_fx C 234 19 [.ref (X + 49), .int v1, .int v2, .int v3, .int v4] [] D) (
  if (D.1 (X + 49) 9) ≤ v4 then
    some (.inl (some (.int (sm_k (-1)))), D)
  else
    sm_gu (sm_in_b v4 40) (
    if (D.1 (X + 53) v4.toNatClampNeg) = v1 then
      if v3 = v2 then
        some (.inl (some (.int v4)), D)
      else
        sm_fx C 234 19 [.ref (X + 49), .int v1, .int v2, .int (v3 + ni 1), .int (v4 + ni 1)] [] D
    else
      sm_fx C 234 19 [.ref (X + 49), .int v1, .int v2, .int v3, .int (v4 + ni 1)] [] D)) := 
  (sx_p (pc' := 22) (lv' := [.ref (X + 49), .int v1, .int v2, .int v3, .int v4]) (st' := [.ref (X + 49), .int v4]) q234 12 2 rfl (sx_gI q234 14 rfl fk_12_462 rfl (hX.s 49 rfl) (hX.b 49) (sx_icmp_ge q234 15 rfl rfl (sx_p (pc' := 57) (lv' := [.ref (X + 49), .int v1, .int v2, .int v3, .int v4]) (st' := [.int (sm_k (-1))]) q234 30 1 rfl (sx_ri (ty := .int) q234 31 rfl rfl)) (sx_p (pc' := 29) (lv' := [.ref (X + 49), .int v1, .int v2, .int v3, .int v4]) (st' := [.ref (X + 49)]) q234 16 1 rfl (sx_gR q234 17 rfl fk_12_19 (fun _ _ => rfl) (hX.s 49 rfl) (hX.r 49 10 rfl) (sx_p (pc' := 34) (lv' := [.ref (X + 49), .int v1, .int v2, .int v3, .int v4]) (st' := [.int v4, .ref (X + 53)]) q234 18 1 rfl (sx_ia q234 19 rfl (hX.s 53 rfl) (hX.b 53) (sx_p (pc' := 36) (lv' := [.ref (X + 49), .int v1, .int v2, .int v3, .int v4]) (st' := [.int v1, .int (D.1 (X + 53) v4.toNatClampNeg)]) q234 20 1 rfl (sx_icmp_ne q234 21 rfl rfl (sx_p (pc' := 19) (lv' := [.ref (X + 49), .int v1, .int v2, .int v3, .int (v4 + ni 1)]) (st' := []) q234 28 2 rfl (sm_ge.refl _)) (sx_p (pc' := 41) (lv' := [.ref (X + 49), .int v1, .int v2, .int v3, .int v4]) (st' := [.int v2, .int v3]) q234 22 2 rfl (sx_icmp_ne q234 24 rfl rfl (sx_p (pc' := 19) (lv' := [.ref (X + 49), .int v1, .int v2, .int (v3 + ni 1), .int (v4 + ni 1)]) (st' := []) q234 27 3 rfl (sm_ge.refl _)) (sx_p (pc' := 46) (lv' := [.ref (X + 49), .int v1, .int v2, .int v3, .int v4]) (st' := [.int v4]) q234 25 1 rfl (sx_ri (ty := .int) q234 26 rfl rfl)))))))))))))
set_option maxRecDepth 8000 in
theorem f234 {C : sm_K} {X : Nat} {v1 : Int32} {v2 : Int32} (hX : sm_Lay C X) {D : sm_D} : sm_ge (sm_fe C 234 [.ref (X + 49), .int v1, .int v2] D) (
  sm_bi (sm_fe C 232 [.ref (X + 49), .int v1] D) (fun x0 D1 =>
    sm_bi (sm_fe C 155 [.ref (X + 49), .int x0] D1) (fun x1 D2 =>
      if x1 = ni 0 then
        some (.inl (some (.int (ni 0))), D2)
      else
        sm_fx C 234 19 [.ref (X + 49), .int v1, .int v2, .int (ni 0), .int (ni 0)] [] D2))) := by
  rw [sx_fe (m := 5) rfl rfl]
  exact (show sm_ge (sm_fx C 234 0 [.ref (X + 49), .int v1, .int v2, sm_junk, sm_junk] [] D) _ from (sx_p (pc' := 3) (lv' := [.ref (X + 49), .int v1, .int v2, sm_junk, sm_junk]) (st' := [.int v1, .ref (X + 49), .ref (X + 49)]) q234 0 3 rfl (sx_ki (sx_V q234 3 rfl lk_12_522 vk_232 na_232 rfl rfl rfl rfl (hX.s 49 rfl)) (by decide) rfl (fun x0 D1 => (sx_ki (sx_V q234 4 rfl lk_12_144 vk_155 na_155 rfl rfl rfl rfl (hX.s 49 rfl)) (by decide) rfl (fun x1 D2 => (sx_if_ne q234 5 rfl rfl (sx_p (pc' := 19) (lv' := [.ref (X + 49), .int v1, .int v2, .int (ni 0), .int (ni 0)]) (st' := []) q234 8 4 rfl (sm_ge.refl _)) (sx_p (pc' := 13) (lv' := [.ref (X + 49), .int v1, .int v2, sm_junk, sm_junk]) (st' := [.int (ni 0)]) q234 6 1 rfl (sx_ri (ty := .int) q234 7 rfl rfl)))))))))
/-! MessageTreeModel.octet -/
theorem q235 : sm_q 235 12 sm_i235 2 := ⟨rfl, rfl, rfl⟩
set_option maxRecDepth 8000 in
theorem n235_29 {C : sm_K} {X : Nat} {v1 : Int32} {v2 : Int32} (hX : sm_Lay C X) {D : sm_D} : sm_ge (sm_fx C 235 29 [.ref (X + 49), .int v1, .int v2] [.ref (X + 49)] D) (
  sm_fx C 235 30 [.ref (X + 49), .int v1, .int v2] [.int (ni 0), .ref (X + 49)] D) := 
  (sx_p (pc' := 30) (lv' := [.ref (X + 49), .int v1, .int v2]) (st' := [.int (ni 0), .ref (X + 49)]) q235 17 1 rfl (sm_ge.refl _))
set_option maxRecDepth 8000 in
theorem n235_30 {C : sm_K} {X : Nat} {v1 : Int32} {v2 : Int32} {s1 : Int32} (hX : sm_Lay C X) {D : sm_D} : sm_ge (sm_fx C 235 30 [.ref (X + 49), .int v1, .int v2] [.int s1, .ref (X + 49)] D) (
  sm_bi (sm_fe C 155 [.ref (X + 49), .int s1] D) (fun x0 D1 =>
    if x0 = ni 0 then
      some (.inl (some (.int (ni 0))), D1)
    else
      sm_gu (sm_in_b v1 40) (
      sm_gu (sm_in_b ((D1.1 (X + 59) v1.toNatClampNeg) + v2) 8000) (
      some (.inl (some (.int ((D1.1 (X + 75) ((D1.1 (X + 59) v1.toNatClampNeg) + v2).toNatClampNeg) &&& (ni 255)))), D1))))) := 
  (sx_ki (sx_V q235 18 rfl lk_12_144 vk_155 na_155 rfl rfl rfl rfl (hX.s 49 rfl)) (by decide) rfl (fun x0 D1 => (sx_if_ne q235 19 rfl rfl (sx_p (pc' := 39) (lv' := [.ref (X + 49), .int v1, .int v2]) (st' := [.ref (X + 49)]) q235 22 1 rfl (sx_gR q235 23 rfl fk_12_87 (fun _ _ => rfl) (hX.s 49 rfl) (hX.r 49 35 rfl) (sx_p (pc' := 43) (lv' := [.ref (X + 49), .int v1, .int v2]) (st' := [.ref (X + 49), .ref (X + 75)]) q235 24 1 rfl (sx_gR q235 25 rfl fk_12_39 (fun _ _ => rfl) (hX.s 49 rfl) (hX.r 49 16 rfl) (sx_p (pc' := 47) (lv' := [.ref (X + 49), .int v1, .int v2]) (st' := [.int v1, .ref (X + 59), .ref (X + 75)]) q235 26 1 rfl (sx_ia q235 27 rfl (hX.s 59 rfl) (hX.b 59) (sx_p (pc' := 50) (lv' := [.ref (X + 49), .int v1, .int v2]) (st' := [.int ((D1.1 (X + 59) v1.toNatClampNeg) + v2), .ref (X + 75)]) q235 28 2 rfl (sx_ba q235 30 rfl (hX.s 75 rfl) (by simp) (hX.b 75) (sx_p (pc' := 55) (lv' := [.ref (X + 49), .int v1, .int v2]) (st' := [.int ((D1.1 (X + 75) ((D1.1 (X + 59) v1.toNatClampNeg) + v2).toNatClampNeg) &&& (ni 255))]) q235 31 2 rfl (sx_ri (ty := .int) q235 33 rfl rfl)))))))))) (sx_p (pc' := 37) (lv' := [.ref (X + 49), .int v1, .int v2]) (st' := [.int (ni 0)]) q235 20 1 rfl (sx_ri (ty := .int) q235 21 rfl rfl)))))
set_option maxRecDepth 8000 in
theorem f235 {C : sm_K} {X : Nat} {v1 : Int32} {v2 : Int32} (hX : sm_Lay C X) {D : sm_D} : sm_ge (sm_fe C 235 [.ref (X + 49), .int v1, .int v2] D) (
  sm_bi (sm_fe C 232 [.ref (X + 49), .int v1] D) (fun x0 D1 =>
    if x0 = ni 0 then
      sm_fx C 235 29 [.ref (X + 49), .int v1, .int v2] [.ref (X + 49)] D1
    else
      sm_gu (sm_in_b v1 40) (
      sm_bi (sm_fe C 157 [.int v2, .int (ni 0), .int ((D1.1 (X + 60) v1.toNatClampNeg) - (ni 1))] D1) (fun x1 D2 =>
        if x1 = ni 0 then
          sm_fx C 235 29 [.ref (X + 49), .int v1, .int v2] [.ref (X + 49)] D2
        else
          sm_fx C 235 30 [.ref (X + 49), .int v1, .int v2] [.int (ni 1), .ref (X + 49)] D2)))) := by
  rw [sx_fe (m := 3) rfl rfl]
  exact (show sm_ge (sm_fx C 235 0 [.ref (X + 49), .int v1, .int v2] [] D) _ from (sx_p (pc' := 3) (lv' := [.ref (X + 49), .int v1, .int v2]) (st' := [.int v1, .ref (X + 49), .ref (X + 49)]) q235 0 3 rfl (sx_ki (sx_V q235 3 rfl lk_12_522 vk_232 na_232 rfl rfl rfl rfl (hX.s 49 rfl)) (by decide) rfl (fun x0 D1 => (sx_if_eq q235 4 rfl rfl (sm_ge.refl _) (sx_p (pc' := 12) (lv' := [.ref (X + 49), .int v1, .int v2]) (st' := [.ref (X + 49), .int (ni 0), .int v2, .ref (X + 49)]) q235 5 3 rfl (sx_gR q235 8 rfl fk_12_42 (fun _ _ => rfl) (hX.s 49 rfl) (hX.r 49 17 rfl) (sx_p (pc' := 16) (lv' := [.ref (X + 49), .int v1, .int v2]) (st' := [.int v1, .ref (X + 60), .int (ni 0), .int v2, .ref (X + 49)]) q235 9 1 rfl (sx_ia q235 10 rfl (hX.s 60 rfl) (hX.b 60) (sx_p (pc' := 19) (lv' := [.ref (X + 49), .int v1, .int v2]) (st' := [.int ((D1.1 (X + 60) v1.toNatClampNeg) - (ni 1)), .int (ni 0), .int v2, .ref (X + 49)]) q235 11 2 rfl (sx_ki (sx_S q235 13 rfl lk_12_137 rfl na_157 rfl rfl rfl rfl) (by decide) rfl (fun x1 D2 => (sx_if_eq q235 14 rfl rfl (sm_ge.refl _) (sx_p (pc' := 30) (lv' := [.ref (X + 49), .int v1, .int v2]) (st' := [.int (ni 1), .ref (X + 49)]) q235 15 2 rfl (sm_ge.refl _)))))))))))))))
/-! MessageTreeModel.kind -/
theorem q236 : sm_q 236 12 sm_i236 3 := ⟨rfl, rfl, rfl⟩
set_option maxRecDepth 8000 in
theorem f236 {C : sm_K} {X : Nat} {v1 : Int32} {v2 : Int32} (hX : sm_Lay C X) {D : sm_D} : sm_ge (sm_fe C 236 [.ref (X + 49), .int v1, .int v2] D) (
  sm_bi (sm_fe C 237 [.ref (X + 49), .int v1, .int v2] D) (fun x0 D1 =>
    sm_bi (sm_fe C 155 [.ref (X + 49), .int x0] D1) (fun x1 D2 =>
      if x1 = ni 0 then
        some (.inl (some (.int (ni 0))), D2)
      else
        sm_gu (sm_in_b v1 40) (
        sm_gu (sm_in_b ((D2.1 (X + 54) v1.toNatClampNeg) + v2) 200) (
        some (.inl (some (.int (D2.1 (X + 70) ((D2.1 (X + 54) v1.toNatClampNeg) + v2).toNatClampNeg))), D2)))))) := by
  rw [sx_fe (m := 3) rfl rfl]
  exact (show sm_ge (sm_fx C 236 0 [.ref (X + 49), .int v1, .int v2] [] D) _ from (sx_p (pc' := 4) (lv' := [.ref (X + 49), .int v1, .int v2]) (st' := [.int v2, .int v1, .ref (X + 49), .ref (X + 49)]) q236 0 4 rfl (sx_ki (sx_V q236 4 rfl lk_12_528 vk_237 na_237 rfl rfl rfl rfl (hX.s 49 rfl)) (by decide) rfl (fun x0 D1 => (sx_ki (sx_V q236 5 rfl lk_12_144 vk_155 na_155 rfl rfl rfl rfl (hX.s 49 rfl)) (by decide) rfl (fun x1 D2 => (sx_if_eq q236 6 rfl rfl (sx_p (pc' := 30) (lv' := [.ref (X + 49), .int v1, .int v2]) (st' := [.int (ni 0)]) q236 17 1 rfl (sx_ri (ty := .int) q236 18 rfl rfl)) (sx_p (pc' := 14) (lv' := [.ref (X + 49), .int v1, .int v2]) (st' := [.ref (X + 49)]) q236 7 1 rfl (sx_gR q236 8 rfl fk_12_72 (fun _ _ => rfl) (hX.s 49 rfl) (hX.r 49 29 rfl) (sx_p (pc' := 18) (lv' := [.ref (X + 49), .int v1, .int v2]) (st' := [.ref (X + 49), .ref (X + 70)]) q236 9 1 rfl (sx_gR q236 10 rfl fk_12_23 (fun _ _ => rfl) (hX.s 49 rfl) (hX.r 49 11 rfl) (sx_p (pc' := 22) (lv' := [.ref (X + 49), .int v1, .int v2]) (st' := [.int v1, .ref (X + 54), .ref (X + 70)]) q236 11 1 rfl (sx_ia q236 12 rfl (hX.s 54 rfl) (hX.b 54) (sx_p (pc' := 25) (lv' := [.ref (X + 49), .int v1, .int v2]) (st' := [.int ((D2.1 (X + 54) v1.toNatClampNeg) + v2), .ref (X + 70)]) q236 13 2 rfl (sx_ia q236 15 rfl (hX.s 70 rfl) (hX.b 70) (sx_p (pc' := 30) (lv' := [.ref (X + 49), .int v1, .int v2]) (st' := [.int (D2.1 (X + 70) ((D2.1 (X + 54) v1.toNatClampNeg) + v2).toNatClampNeg)]) q236 16 1 rfl (sx_ri (ty := .int) q236 18 rfl rfl)))))))))))))))))
/-! MessageTreeModel.isField -/
theorem q237 : sm_q 237 12 sm_i237 2 := ⟨rfl, rfl, rfl⟩
set_option maxRecDepth 8000 in
theorem f237 {C : sm_K} {X : Nat} {v1 : Int32} {v2 : Int32} (hX : sm_Lay C X) {D : sm_D} : sm_ge (sm_fe C 237 [.ref (X + 49), .int v1, .int v2] D) (
  sm_bi (sm_fe C 232 [.ref (X + 49), .int v1] D) (fun x0 D1 =>
    if x0 = ni 0 then
      some (.inl (some (.int (sm_nar .boolean (ni 0)))), D1)
    else
      sm_gu (sm_in_b v1 40) (
      sm_bi (sm_fe C 157 [.int v2, .int (ni 0), .int ((D1.1 (X + 55) v1.toNatClampNeg) - (ni 1))] D1) (fun x1 D2 =>
        if x1 = ni 0 then
          some (.inl (some (.int (sm_nar .boolean (ni 0)))), D2)
        else
          some (.inl (some (.int (sm_nar .boolean (ni 1)))), D2))))) := by
  rw [sx_fe (m := 3) rfl rfl]
  exact (show sm_ge (sm_fx C 237 0 [.ref (X + 49), .int v1, .int v2] [] D) _ from (sx_p (pc' := 2) (lv' := [.ref (X + 49), .int v1, .int v2]) (st' := [.int v1, .ref (X + 49)]) q237 0 2 rfl (sx_ki (sx_V q237 2 rfl lk_12_522 vk_232 na_232 rfl rfl rfl rfl (hX.s 49 rfl)) (by decide) rfl (fun x0 D1 => (sx_if_eq q237 3 rfl rfl (sx_p (pc' := 29) (lv' := [.ref (X + 49), .int v1, .int v2]) (st' := [.int (ni 0)]) q237 16 1 rfl (sx_ri (ty := .boolean) q237 17 rfl rfl)) (sx_p (pc' := 11) (lv' := [.ref (X + 49), .int v1, .int v2]) (st' := [.ref (X + 49), .int (ni 0), .int v2]) q237 4 3 rfl (sx_gR q237 7 rfl fk_12_26 (fun _ _ => rfl) (hX.s 49 rfl) (hX.r 49 12 rfl) (sx_p (pc' := 15) (lv' := [.ref (X + 49), .int v1, .int v2]) (st' := [.int v1, .ref (X + 55), .int (ni 0), .int v2]) q237 8 1 rfl (sx_ia q237 9 rfl (hX.s 55 rfl) (hX.b 55) (sx_p (pc' := 18) (lv' := [.ref (X + 49), .int v1, .int v2]) (st' := [.int ((D1.1 (X + 55) v1.toNatClampNeg) - (ni 1)), .int (ni 0), .int v2]) q237 10 2 rfl (sx_ki (sx_S q237 12 rfl lk_12_137 rfl na_157 rfl rfl rfl rfl) (by decide) rfl (fun x1 D2 => (sx_if_eq q237 13 rfl rfl (sx_p (pc' := 29) (lv' := [.ref (X + 49), .int v1, .int v2]) (st' := [.int (ni 0)]) q237 16 1 rfl (sx_ri (ty := .boolean) q237 17 rfl rfl)) (sx_p (pc' := 29) (lv' := [.ref (X + 49), .int v1, .int v2]) (st' := [.int (ni 1)]) q237 14 2 rfl (sx_ri (ty := .boolean) q237 17 rfl rfl)))))))))))))))
/-! MessageTreeModel.letter -/
theorem q238 : sm_q 238 12 sm_i238 3 := ⟨rfl, rfl, rfl⟩
set_option maxRecDepth 8000 in
theorem n238_23 {C : sm_K} {X : Nat} {v1 : Int32} {v2 : Int32} {v3 : Int32} {v4 : Int32} (hX : sm_Lay C X) {D : sm_D} : sm_ge (sm_fx C 238 23 [.ref (X + 49), .int v1, .int v2, .int v3, .int v4, sm_junk, sm_junk] [.ref (X + 49)] D) (
  sm_fx C 238 24 [.ref (X + 49), .int v1, .int v2, .int v3, .int v4, sm_junk, sm_junk] [.int (ni 0), .ref (X + 49)] D) := 
  (sx_p (pc' := 24) (lv' := [.ref (X + 49), .int v1, .int v2, .int v3, .int v4, sm_junk, sm_junk]) (st' := [.int (ni 0), .ref (X + 49)]) q238 13 1 rfl (sm_ge.refl _))
set_option maxRecDepth 8000 in
theorem n238_24 {C : sm_K} {X : Nat} {v1 : Int32} {v2 : Int32} {v3 : Int32} {v4 : Int32} {s1 : Int32} (hX : sm_Lay C X) {D : sm_D} : sm_ge (sm_fx C 238 24 [.ref (X + 49), .int v1, .int v2, .int v3, .int v4, sm_junk, sm_junk] [.int s1, .ref (X + 49)] D) (
  sm_bi (sm_fe C 155 [.ref (X + 49), .int s1] D) (fun x0 D1 =>
    if x0 = ni 0 then
      some (.inl (some (.int (ni 0))), D1)
    else
      sm_gu (sm_in_b v1 40) (
      if v3 = ni 0 then
        sm_gu (sm_in_b ((D1.1 (X + 54) v1.toNatClampNeg) + v2) 200) (
        sm_gu (sm_in_b ((D1.1 (X + 54) v1.toNatClampNeg) + v2) 200) (
        sm_bi (sm_fe C 239 [.ref (X + 49), .int v4, .int (D1.1 (X + 71) ((D1.1 (X + 54) v1.toNatClampNeg) + v2).toNatClampNeg), .int (D1.1 (X + 72) ((D1.1 (X + 54) v1.toNatClampNeg) + v2).toNatClampNeg), .int (ni 1)] D1) (fun x1 D3 =>
          some (.inl (some (.int x1)), D3))))
      else
        sm_bv (sm_fe C 176 [.ref (X + 49), .int ((D1.1 (X + 54) v1.toNatClampNeg) + v2)] D1) (fun D2 =>
          sm_fx C 238 77 [.ref (X + 49), sm_junk, sm_junk, sm_junk, .int v4, sm_junk, .int (ni 0)] [] D2)))) := 
  (sx_ki (sx_V q238 14 rfl lk_12_144 vk_155 na_155 rfl rfl rfl rfl (hX.s 49 rfl)) (by decide) rfl (fun x0 D1 => (sx_if_ne q238 15 rfl rfl (sx_p (pc' := 33) (lv' := [.ref (X + 49), .int v1, .int v2, .int v3, .int v4, sm_junk, sm_junk]) (st' := [.ref (X + 49)]) q238 18 1 rfl (sx_gR q238 19 rfl fk_12_23 (fun _ _ => rfl) (hX.s 49 rfl) (hX.r 49 11 rfl) (sx_p (pc' := 37) (lv' := [.ref (X + 49), .int v1, .int v2, .int v3, .int v4, sm_junk, sm_junk]) (st' := [.int v1, .ref (X + 54)]) q238 20 1 rfl (sx_ia q238 21 rfl (hX.s 54 rfl) (hX.b 54) (sx_p (pc' := 43) (lv' := [.ref (X + 49), .int v1, .int v2, .int v3, .int v4, .int ((D1.1 (X + 54) v1.toNatClampNeg) + v2), sm_junk]) (st' := [.int v3]) q238 22 4 rfl (sx_if_ne q238 26 rfl rfl (sx_p (pc' := 74) (lv' := [.ref (X + 49), .int v1, .int v2, .int v3, .int v4, .int ((D1.1 (X + 54) v1.toNatClampNeg) + v2), .int (ni 0)]) (st' := [.int ((D1.1 (X + 54) v1.toNatClampNeg) + v2), .ref (X + 49)]) q238 40 4 rfl (sx_kv (sx_V q238 44 rfl lk_12_260 vk_176 na_176 rfl rfl rfl rfl (hX.s 49 rfl)) (by decide) rfl (fun D2 => (sx_w (lv := [.ref (X + 49), .int v1, .int v2, .int v3, .int v4, .int ((D1.1 (X + 54) v1.toNatClampNeg) + v2), .int (ni 0)]) (lv' := [.ref (X + 49), sm_junk, sm_junk, sm_junk, .int v4, sm_junk, .int (ni 0)]) (sm_ordl.ord ⟨Or.inr rfl, Or.inl rfl, Or.inl rfl, Or.inl rfl, Or.inr rfl, Or.inl rfl, Or.inr rfl, trivial⟩))))) (sx_p (pc' := 50) (lv' := [.ref (X + 49), .int v1, .int v2, .int v3, .int v4, .int ((D1.1 (X + 54) v1.toNatClampNeg) + v2), sm_junk]) (st' := [.ref (X + 49), .int v4, .ref (X + 49)]) q238 27 3 rfl (sx_gR q238 30 rfl fk_12_75 (fun _ _ => rfl) (hX.s 49 rfl) (hX.r 49 30 rfl) (sx_p (pc' := 55) (lv' := [.ref (X + 49), .int v1, .int v2, .int v3, .int v4, .int ((D1.1 (X + 54) v1.toNatClampNeg) + v2), sm_junk]) (st' := [.int ((D1.1 (X + 54) v1.toNatClampNeg) + v2), .ref (X + 71), .int v4, .ref (X + 49)]) q238 31 1 rfl (sx_ia q238 32 rfl (hX.s 71 rfl) (hX.b 71) (sx_p (pc' := 57) (lv' := [.ref (X + 49), .int v1, .int v2, .int v3, .int v4, .int ((D1.1 (X + 54) v1.toNatClampNeg) + v2), sm_junk]) (st' := [.ref (X + 49), .int (D1.1 (X + 71) ((D1.1 (X + 54) v1.toNatClampNeg) + v2).toNatClampNeg), .int v4, .ref (X + 49)]) q238 33 1 rfl (sx_gR q238 34 rfl fk_12_78 (fun _ _ => rfl) (hX.s 49 rfl) (hX.r 49 31 rfl) (sx_p (pc' := 62) (lv' := [.ref (X + 49), .int v1, .int v2, .int v3, .int v4, .int ((D1.1 (X + 54) v1.toNatClampNeg) + v2), sm_junk]) (st' := [.int ((D1.1 (X + 54) v1.toNatClampNeg) + v2), .ref (X + 72), .int (D1.1 (X + 71) ((D1.1 (X + 54) v1.toNatClampNeg) + v2).toNatClampNeg), .int v4, .ref (X + 49)]) q238 35 1 rfl (sx_ia q238 36 rfl (hX.s 72 rfl) (hX.b 72) (sx_p (pc' := 64) (lv' := [.ref (X + 49), .int v1, .int v2, .int v3, .int v4, .int ((D1.1 (X + 54) v1.toNatClampNeg) + v2), sm_junk]) (st' := [.int (ni 1), .int (D1.1 (X + 72) ((D1.1 (X + 54) v1.toNatClampNeg) + v2).toNatClampNeg), .int (D1.1 (X + 71) ((D1.1 (X + 54) v1.toNatClampNeg) + v2).toNatClampNeg), .int v4, .ref (X + 49)]) q238 37 1 rfl (sx_ki (sx_V q238 38 rfl lk_12_531 vk_239 na_239 rfl rfl rfl rfl (hX.s 49 rfl)) (by decide) rfl (fun x1 D3 => (sx_ri (ty := .int) q238 39 rfl rfl)))))))))))))))))) (sx_p (pc' := 31) (lv' := [.ref (X + 49), .int v1, .int v2, .int v3, .int v4, sm_junk, sm_junk]) (st' := [.int (ni 0)]) q238 16 1 rfl (sx_ri (ty := .int) q238 17 rfl rfl)))))
set_option maxRecDepth 8000 in
theorem n238_77 {C : sm_K} {X : Nat} {v4 : Int32} {v6 : Int32} (hX : sm_Lay C X) {D : sm_D} : sm_ge (sm_fx C 238 77 [.ref (X + 49), sm_junk, sm_junk, sm_junk, .int v4, sm_junk, .int v6] [] D) (
  sm_bi (sm_fe C 179 [.ref (X + 49)] D) (fun x0 D1 =>
    if x0 = (sm_k (-1)) then
      if v4 = (sm_k (-1)) then
        sm_fx C 238 119 [sm_junk, sm_junk, sm_junk, sm_junk, sm_junk, sm_junk, .int v6] [.int (ni 1), .ref (X + 49)] D1
      else
        sm_fx C 238 119 [sm_junk, sm_junk, sm_junk, sm_junk, sm_junk, sm_junk, .int v6] [.int (ni 0), .ref (X + 49)] D1
    else
      if v6 = v4 then
        sm_bi (sm_fe C 179 [.ref (X + 49)] D1) (fun x1 D3 =>
          some (.inl (some (.int x1)), D3))
      else
        sm_bv (sm_fe C 181 [.ref (X + 49)] D1) (fun D2 =>
          sm_fx C 238 77 [.ref (X + 49), sm_junk, sm_junk, sm_junk, .int v4, sm_junk, .int (v6 + ni 1)] [] D2))) := 
  (sx_p (pc' := 78) (lv' := [.ref (X + 49), sm_junk, sm_junk, sm_junk, .int v4, sm_junk, .int v6]) (st' := [.ref (X + 49)]) q238 45 1 rfl (sx_ki (sx_V q238 46 rfl lk_12_217 vk_179 na_179 rfl rfl rfl rfl (hX.s 49 rfl)) (by decide) rfl (fun x0 D1 => (sx_p (pc' := 82) (lv' := [.ref (X + 49), sm_junk, sm_junk, sm_junk, .int v4, sm_junk, .int v6]) (st' := [.int (sm_k (-1)), .int x0]) q238 47 1 rfl (sx_icmp_eq q238 48 rfl rfl (sx_p (pc' := 111) (lv' := [.ref (X + 49), sm_junk, sm_junk, sm_junk, .int v4, sm_junk, .int v6]) (st' := [.int (sm_k (-1)), .int v4, .ref (X + 49)]) q238 59 3 rfl (sx_icmp_ne q238 62 rfl rfl (sx_p (pc' := 119) (lv' := [.ref (X + 49), sm_junk, sm_junk, sm_junk, .int v4, sm_junk, .int v6]) (st' := [.int (ni 0), .ref (X + 49)]) q238 65 1 rfl (sx_w (lv := [.ref (X + 49), sm_junk, sm_junk, sm_junk, .int v4, sm_junk, .int v6]) (lv' := [sm_junk, sm_junk, sm_junk, sm_junk, sm_junk, sm_junk, .int v6]) (sm_ordl.ord ⟨Or.inl rfl, Or.inl rfl, Or.inl rfl, Or.inl rfl, Or.inl rfl, Or.inl rfl, Or.inr rfl, trivial⟩))) (sx_p (pc' := 119) (lv' := [.ref (X + 49), sm_junk, sm_junk, sm_junk, .int v4, sm_junk, .int v6]) (st' := [.int (ni 1), .ref (X + 49)]) q238 63 2 rfl (sx_w (lv := [.ref (X + 49), sm_junk, sm_junk, sm_junk, .int v4, sm_junk, .int v6]) (lv' := [sm_junk, sm_junk, sm_junk, sm_junk, sm_junk, sm_junk, .int v6]) (sm_ordl.ord ⟨Or.inl rfl, Or.inl rfl, Or.inl rfl, Or.inl rfl, Or.inl rfl, Or.inl rfl, Or.inr rfl, trivial⟩))))) (sx_p (pc' := 89) (lv' := [.ref (X + 49), sm_junk, sm_junk, sm_junk, .int v4, sm_junk, .int v6]) (st' := [.int v4, .int v6]) q238 49 2 rfl (sx_icmp_ne q238 51 rfl rfl (sx_p (pc' := 101) (lv' := [.ref (X + 49), sm_junk, sm_junk, sm_junk, .int v4, sm_junk, .int (v6 + ni 1)]) (st' := [.ref (X + 49)]) q238 55 2 rfl (sx_kv (sx_V q238 57 rfl lk_12_223 vk_181 na_181 rfl rfl rfl rfl (hX.s 49 rfl)) (by decide) rfl (fun D2 => (sx_p (pc' := 77) (lv' := [.ref (X + 49), sm_junk, sm_junk, sm_junk, .int v4, sm_junk, .int (v6 + ni 1)]) (st' := []) q238 58 1 rfl (sm_ge.refl _))))) (sx_p (pc' := 93) (lv' := [.ref (X + 49), sm_junk, sm_junk, sm_junk, .int v4, sm_junk, .int v6]) (st' := [.ref (X + 49)]) q238 52 1 rfl (sx_ki (sx_V q238 53 rfl lk_12_217 vk_179 na_179 rfl rfl rfl rfl (hX.s 49 rfl)) (by decide) rfl (fun x1 D3 => (sx_ri (ty := .int) q238 54 rfl rfl)))))))))))
set_option maxRecDepth 8000 in
theorem n238_119 {C : sm_K} {X : Nat} {v6 : Int32} {s1 : Int32} (hX : sm_Lay C X) {D : sm_D} : sm_ge (sm_fx C 238 119 [sm_junk, sm_junk, sm_junk, sm_junk, sm_junk, sm_junk, .int v6] [.int s1, .ref (X + 49)] D) (
  sm_bi (sm_fe C 155 [.ref (X + 49), .int s1] D) (fun x0 D1 =>
    if x0 = ni 0 then
      some (.inl (some (.int (ni 0))), D1)
    else
      some (.inl (some (.int v6)), D1))) := 
  (sx_ki (sx_V q238 66 rfl lk_12_144 vk_155 na_155 rfl rfl rfl rfl (hX.s 49 rfl)) (by decide) rfl (fun x0 D1 => (sx_if_eq q238 67 rfl rfl (sx_p (pc' := 131) (lv' := [sm_junk, sm_junk, sm_junk, sm_junk, sm_junk, sm_junk, .int v6]) (st' := [.int (ni 0)]) q238 70 1 rfl (sx_ri (ty := .int) q238 71 rfl rfl)) (sx_p (pc' := 131) (lv' := [sm_junk, sm_junk, sm_junk, sm_junk, sm_junk, sm_junk, .int v6]) (st' := [.int v6]) q238 68 2 rfl (sx_ri (ty := .int) q238 71 rfl rfl)))))
set_option maxRecDepth 8000 in
theorem f238 {C : sm_K} {X : Nat} {v1 : Int32} {v2 : Int32} {v3 : Int32} {v4 : Int32} (hX : sm_Lay C X) {D : sm_D} : sm_ge (sm_fe C 238 [.ref (X + 49), .int v1, .int v2, .int v3, .int v4] D) (
  sm_bi (sm_fe C 237 [.ref (X + 49), .int v1, .int v2] D) (fun x0 D1 =>
    if x0 = ni 0 then
      sm_fx C 238 23 [.ref (X + 49), .int v1, .int v2, .int v3, .int v4, sm_junk, sm_junk] [.ref (X + 49)] D1
    else
      sm_bi (sm_fe C 157 [.int v3, .int (ni 0), .int (ni 1)] D1) (fun x1 D2 =>
        if x1 = ni 0 then
          sm_fx C 238 23 [.ref (X + 49), .int v1, .int v2, .int v3, .int v4, sm_junk, sm_junk] [.ref (X + 49)] D2
        else
          sm_fx C 238 24 [.ref (X + 49), .int v1, .int v2, .int v3, .int v4, sm_junk, sm_junk] [.int (ni 1), .ref (X + 49)] D2))) := by
  rw [sx_fe (m := 7) rfl rfl]
  exact (show sm_ge (sm_fx C 238 0 [.ref (X + 49), .int v1, .int v2, .int v3, .int v4, sm_junk, sm_junk] [] D) _ from (sx_p (pc' := 4) (lv' := [.ref (X + 49), .int v1, .int v2, .int v3, .int v4, sm_junk, sm_junk]) (st' := [.int v2, .int v1, .ref (X + 49), .ref (X + 49)]) q238 0 4 rfl (sx_ki (sx_V q238 4 rfl lk_12_528 vk_237 na_237 rfl rfl rfl rfl (hX.s 49 rfl)) (by decide) rfl (fun x0 D1 => (sx_if_eq q238 5 rfl rfl (sm_ge.refl _) (sx_p (pc' := 13) (lv' := [.ref (X + 49), .int v1, .int v2, .int v3, .int v4, sm_junk, sm_junk]) (st' := [.int (ni 1), .int (ni 0), .int v3, .ref (X + 49)]) q238 6 3 rfl (sx_ki (sx_S q238 9 rfl lk_12_137 rfl na_157 rfl rfl rfl rfl) (by decide) rfl (fun x1 D2 => (sx_if_eq q238 10 rfl rfl (sm_ge.refl _) (sx_p (pc' := 24) (lv' := [.ref (X + 49), .int v1, .int v2, .int v3, .int v4, sm_junk, sm_junk]) (st' := [.int (ni 1), .ref (X + 49)]) q238 11 2 rfl (sm_ge.refl _)))))))))))
/-! MessageTreeModel.of -/
theorem q239 : sm_q 239 12 sm_i239 1 := ⟨rfl, rfl, rfl⟩
set_option maxRecDepth 8000 in
theorem f239 {C : sm_K} {X : Nat} {v1 : Int32} {v2 : Int32} {v3 : Int32} {v4 : Int32} (hX : sm_Lay C X) {D : sm_D} : sm_ge (sm_fe C 239 [.ref (X + 49), .int v1, .int v2, .int v3, .int v4] D) (
  if v1 = (sm_k (-1)) then
    some (.inl (some (.int v3)), D)
  else
    sm_bi (sm_fe C 157 [.int v1, .int (ni 0), .int (v3 - (ni 1))] D) (fun x0 D1 =>
      sm_bi (sm_fe C 155 [.ref (X + 49), .int x0] D1) (fun x1 D2 =>
        if x1 = ni 0 then
          some (.inl (some (.int (ni 0))), D2)
        else
          if v4 = ni 0 then
            sm_gu (sm_in_b (v2 + v1) 24000) (
            some (.inl (some (.int ((D2.1 (X + 63) (v2 + v1).toNatClampNeg) &&& (ni 255)))), D2))
          else
            sm_gu (sm_in_b (v2 + v1) 8000) (
            some (.inl (some (.int ((D2.1 (X + 51) (v2 + v1).toNatClampNeg) &&& (ni 255)))), D2))))) := by
  rw [sx_fe (m := 5) rfl rfl]
  exact (show sm_ge (sm_fx C 239 0 [.ref (X + 49), .int v1, .int v2, .int v3, .int v4] [] D) _ from (sx_p (pc' := 2) (lv' := [.ref (X + 49), .int v1, .int v2, .int v3, .int v4]) (st' := [.int (sm_k (-1)), .int v1]) q239 0 2 rfl (sx_icmp_ne q239 2 rfl rfl (sx_p (pc' := 13) (lv' := [.ref (X + 49), .int v1, .int v2, .int v3, .int v4]) (st' := [.int (v3 - (ni 1)), .int (ni 0), .int v1, .ref (X + 49)]) q239 5 6 rfl (sx_ki (sx_S q239 11 rfl lk_12_137 rfl na_157 rfl rfl rfl rfl) (by decide) rfl (fun x0 D1 => (sx_ki (sx_V q239 12 rfl lk_12_144 vk_155 na_155 rfl rfl rfl rfl (hX.s 49 rfl)) (by decide) rfl (fun x1 D2 => (sx_if_eq q239 13 rfl rfl (sx_p (pc' := 54) (lv' := [.ref (X + 49), .int v1, .int v2, .int v3, .int v4]) (st' := [.int (ni 0)]) q239 32 1 rfl (sx_ri (ty := .int) q239 33 rfl rfl)) (sx_p (pc' := 24) (lv' := [.ref (X + 49), .int v1, .int v2, .int v3, .int v4]) (st' := [.int v4]) q239 14 1 rfl (sx_if_eq q239 15 rfl rfl (sx_p (pc' := 39) (lv' := [.ref (X + 49), .int v1, .int v2, .int v3, .int v4]) (st' := [.ref (X + 49)]) q239 23 1 rfl (sx_gR q239 24 rfl fk_12_51 (fun _ _ => rfl) (hX.s 49 rfl) (hX.r 49 21 rfl) (sx_p (pc' := 45) (lv' := [.ref (X + 49), .int v1, .int v2, .int v3, .int v4]) (st' := [.int (v2 + v1), .ref (X + 63)]) q239 25 3 rfl (sx_ba q239 28 rfl (hX.s 63 rfl) (by simp) (hX.b 63) (sx_p (pc' := 54) (lv' := [.ref (X + 49), .int v1, .int v2, .int v3, .int v4]) (st' := [.int ((D2.1 (X + 63) (v2 + v1).toNatClampNeg) &&& (ni 255))]) q239 29 3 rfl (sx_ri (ty := .int) q239 33 rfl rfl)))))) (sx_p (pc' := 28) (lv' := [.ref (X + 49), .int v1, .int v2, .int v3, .int v4]) (st' := [.ref (X + 49)]) q239 16 1 rfl (sx_gR q239 17 rfl fk_12_13 (fun _ _ => rfl) (hX.s 49 rfl) (hX.r 49 3 rfl) (sx_p (pc' := 34) (lv' := [.ref (X + 49), .int v1, .int v2, .int v3, .int v4]) (st' := [.int (v2 + v1), .ref (X + 51)]) q239 18 3 rfl (sx_ba q239 21 rfl (hX.s 51 rfl) (by simp) (hX.b 51) (sx_p (pc' := 46) (lv' := [.ref (X + 49), .int v1, .int v2, .int v3, .int v4]) (st' := [.int (D2.1 (X + 51) (v2 + v1).toNatClampNeg)]) q239 22 1 rfl (sx_p (pc' := 54) (lv' := [.ref (X + 49), .int v1, .int v2, .int v3, .int v4]) (st' := [.int ((D2.1 (X + 51) (v2 + v1).toNatClampNeg) &&& (ni 255))]) q239 29 3 rfl (sx_ri (ty := .int) q239 33 rfl rfl))))))))))))))) (sx_p (pc' := 6) (lv' := [.ref (X + 49), .int v1, .int v2, .int v3, .int v4]) (st' := [.int v3]) q239 3 1 rfl (sx_ri (ty := .int) q239 4 rfl rfl)))))
/-! MessageTreeModel.type -/
theorem q240 : sm_q 240 12 sm_i240 2 := ⟨rfl, rfl, rfl⟩
set_option maxRecDepth 8000 in
theorem n240_22 {C : sm_K} {X : Nat} {v1 : Int32} {v2 : Int32} {v3 : Int32} (hX : sm_Lay C X) {D : sm_D} : sm_ge (sm_fx C 240 22 [.ref (X + 49), .int v1, .int v2, .int v3] [.ref (X + 49)] D) (
  sm_fx C 240 23 [.ref (X + 49), .int v1, .int v2, .int v3] [.int (ni 0), .ref (X + 49)] D) := 
  (sx_p (pc' := 23) (lv' := [.ref (X + 49), .int v1, .int v2, .int v3]) (st' := [.int (ni 0), .ref (X + 49)]) q240 12 1 rfl (sm_ge.refl _))
set_option maxRecDepth 8000 in
theorem n240_23 {C : sm_K} {X : Nat} {v1 : Int32} {v2 : Int32} {v3 : Int32} {s1 : Int32} (hX : sm_Lay C X) {D : sm_D} : sm_ge (sm_fx C 240 23 [.ref (X + 49), .int v1, .int v2, .int v3] [.int s1, .ref (X + 49)] D) (
  sm_bi (sm_fe C 155 [.ref (X + 49), .int s1] D) (fun x0 D1 =>
    if x0 = ni 0 then
      some (.inl (some (.int (ni 0))), D1)
    else
      sm_gu (sm_in_b (((ni 2) * v1) + v2) 80) (
      sm_gu (sm_in_b (((ni 2) * v1) + v2) 80) (
      sm_bi (sm_fe C 239 [.ref (X + 49), .int v3, .int (D1.1 (X + 64) (((ni 2) * v1) + v2).toNatClampNeg), .int (D1.1 (X + 65) (((ni 2) * v1) + v2).toNatClampNeg), .int (ni 0)] D1) (fun x1 D2 =>
        some (.inl (some (.int x1)), D2)))))) := 
  (sx_ki (sx_V q240 13 rfl lk_12_144 vk_155 na_155 rfl rfl rfl rfl (hX.s 49 rfl)) (by decide) rfl (fun x0 D1 => (sx_if_ne q240 14 rfl rfl (sx_p (pc' := 34) (lv' := [.ref (X + 49), .int v1, .int v2, .int v3]) (st' := [.ref (X + 49), .int v3, .ref (X + 49)]) q240 17 3 rfl (sx_gR q240 20 rfl fk_12_54 (fun _ _ => rfl) (hX.s 49 rfl) (hX.r 49 22 rfl) (sx_p (pc' := 42) (lv' := [.ref (X + 49), .int v1, .int v2, .int v3]) (st' := [.int (((ni 2) * v1) + v2), .ref (X + 64), .int v3, .ref (X + 49)]) q240 21 5 rfl (sx_ia q240 26 rfl (hX.s 64 rfl) (hX.b 64) (sx_p (pc' := 44) (lv' := [.ref (X + 49), .int v1, .int v2, .int v3]) (st' := [.ref (X + 49), .int (D1.1 (X + 64) (((ni 2) * v1) + v2).toNatClampNeg), .int v3, .ref (X + 49)]) q240 27 1 rfl (sx_gR q240 28 rfl fk_12_57 (fun _ _ => rfl) (hX.s 49 rfl) (hX.r 49 23 rfl) (sx_p (pc' := 52) (lv' := [.ref (X + 49), .int v1, .int v2, .int v3]) (st' := [.int (((ni 2) * v1) + v2), .ref (X + 65), .int (D1.1 (X + 64) (((ni 2) * v1) + v2).toNatClampNeg), .int v3, .ref (X + 49)]) q240 29 5 rfl (sx_ia q240 34 rfl (hX.s 65 rfl) (hX.b 65) (sx_p (pc' := 54) (lv' := [.ref (X + 49), .int v1, .int v2, .int v3]) (st' := [.int (ni 0), .int (D1.1 (X + 65) (((ni 2) * v1) + v2).toNatClampNeg), .int (D1.1 (X + 64) (((ni 2) * v1) + v2).toNatClampNeg), .int v3, .ref (X + 49)]) q240 35 1 rfl (sx_ki (sx_V q240 36 rfl lk_12_531 vk_239 na_239 rfl rfl rfl rfl (hX.s 49 rfl)) (by decide) rfl (fun x1 D2 => (sx_ri (ty := .int) q240 37 rfl rfl)))))))))))) (sx_p (pc' := 30) (lv' := [.ref (X + 49), .int v1, .int v2, .int v3]) (st' := [.int (ni 0)]) q240 15 1 rfl (sx_ri (ty := .int) q240 16 rfl rfl)))))
set_option maxRecDepth 8000 in
theorem f240 {C : sm_K} {X : Nat} {v1 : Int32} {v2 : Int32} {v3 : Int32} (hX : sm_Lay C X) {D : sm_D} : sm_ge (sm_fe C 240 [.ref (X + 49), .int v1, .int v2, .int v3] D) (
  sm_bi (sm_fe C 232 [.ref (X + 49), .int v1] D) (fun x0 D1 =>
    if x0 = ni 0 then
      sm_fx C 240 22 [.ref (X + 49), .int v1, .int v2, .int v3] [.ref (X + 49)] D1
    else
      sm_bi (sm_fe C 157 [.int v2, .int (ni 0), .int (ni 1)] D1) (fun x1 D2 =>
        if x1 = ni 0 then
          sm_fx C 240 22 [.ref (X + 49), .int v1, .int v2, .int v3] [.ref (X + 49)] D2
        else
          sm_fx C 240 23 [.ref (X + 49), .int v1, .int v2, .int v3] [.int (ni 1), .ref (X + 49)] D2))) := by
  rw [sx_fe (m := 4) rfl rfl]
  exact (show sm_ge (sm_fx C 240 0 [.ref (X + 49), .int v1, .int v2, .int v3] [] D) _ from (sx_p (pc' := 3) (lv' := [.ref (X + 49), .int v1, .int v2, .int v3]) (st' := [.int v1, .ref (X + 49), .ref (X + 49)]) q240 0 3 rfl (sx_ki (sx_V q240 3 rfl lk_12_522 vk_232 na_232 rfl rfl rfl rfl (hX.s 49 rfl)) (by decide) rfl (fun x0 D1 => (sx_if_eq q240 4 rfl rfl (sm_ge.refl _) (sx_p (pc' := 12) (lv' := [.ref (X + 49), .int v1, .int v2, .int v3]) (st' := [.int (ni 1), .int (ni 0), .int v2, .ref (X + 49)]) q240 5 3 rfl (sx_ki (sx_S q240 8 rfl lk_12_137 rfl na_157 rfl rfl rfl rfl) (by decide) rfl (fun x1 D2 => (sx_if_eq q240 9 rfl rfl (sm_ge.refl _) (sx_p (pc' := 23) (lv' := [.ref (X + 49), .int v1, .int v2, .int v3]) (st' := [.int (ni 1), .ref (X + 49)]) q240 10 2 rfl (sm_ge.refl _)))))))))))
/-! MessageTreeModel.parameter -/
theorem q241 : sm_q 241 12 sm_i241 2 := ⟨rfl, rfl, rfl⟩
set_option maxRecDepth 8000 in
theorem n241_38 {C : sm_K} {X : Nat} {v1 : Int32} {v2 : Int32} {v3 : Int32} {v4 : Int32} (hX : sm_Lay C X) {D : sm_D} : sm_ge (sm_fx C 241 38 [.ref (X + 49), .int v1, .int v2, .int v3, .int v4, sm_junk] [.ref (X + 49)] D) (
  sm_fx C 241 39 [.ref (X + 49), .int v1, .int v2, .int v3, .int v4, sm_junk] [.int (ni 0), .ref (X + 49)] D) := 
  (sx_p (pc' := 39) (lv' := [.ref (X + 49), .int v1, .int v2, .int v3, .int v4, sm_junk]) (st' := [.int (ni 0), .ref (X + 49)]) q241 22 1 rfl (sm_ge.refl _))
set_option maxRecDepth 8000 in
theorem n241_39 {C : sm_K} {X : Nat} {v1 : Int32} {v2 : Int32} {v3 : Int32} {v4 : Int32} {s1 : Int32} (hX : sm_Lay C X) {D : sm_D} : sm_ge (sm_fx C 241 39 [.ref (X + 49), .int v1, .int v2, .int v3, .int v4, sm_junk] [.int s1, .ref (X + 49)] D) (
  sm_bi (sm_fe C 155 [.ref (X + 49), .int s1] D) (fun x0 D1 =>
    if x0 = ni 0 then
      some (.inl (some (.int (ni 0))), D1)
    else
      if v3 = ni 0 then
        sm_gu (sm_in_b (((ni 6) * v1) + v2) 240) (
        sm_gu (sm_in_b (((ni 6) * v1) + v2) 240) (
        sm_bi (sm_fe C 239 [.ref (X + 49), .int v4, .int (D1.1 (X + 66) (((ni 6) * v1) + v2).toNatClampNeg), .int (D1.1 (X + 67) (((ni 6) * v1) + v2).toNatClampNeg), .int (ni 0)] D1) (fun x1 D3 =>
          some (.inl (some (.int x1)), D3))))
      else
        sm_gu (sm_in_b (((ni 6) * v1) + v2) 240) (
        sm_gu (sm_in_b (((ni 6) * v1) + v2) 240) (
        sm_bi (sm_fe C 239 [.ref (X + 49), .int v4, .int (D1.1 (X + 68) (((ni 6) * v1) + v2).toNatClampNeg), .int (D1.1 (X + 69) (((ni 6) * v1) + v2).toNatClampNeg), .int (ni 0)] D1) (fun x1 D2 =>
          some (.inl (some (.int x1)), D2)))))) := 
  (sx_ki (sx_V q241 23 rfl lk_12_144 vk_155 na_155 rfl rfl rfl rfl (hX.s 49 rfl)) (by decide) rfl (fun x0 D1 => (sx_if_ne q241 24 rfl rfl (sx_p (pc' := 56) (lv' := [.ref (X + 49), .int v1, .int v2, .int v3, .int v4, .int (((ni 6) * v1) + v2)]) (st' := [.int v3]) q241 27 7 rfl (sx_if_ne q241 34 rfl rfl (sx_p (pc' := 87) (lv' := [.ref (X + 49), .int v1, .int v2, .int v3, .int v4, .int (((ni 6) * v1) + v2)]) (st' := [.ref (X + 49), .int v4, .ref (X + 49)]) q241 48 3 rfl (sx_gR q241 51 rfl fk_12_66 (fun _ _ => rfl) (hX.s 49 rfl) (hX.r 49 26 rfl) (sx_p (pc' := 92) (lv' := [.ref (X + 49), .int v1, .int v2, .int v3, .int v4, .int (((ni 6) * v1) + v2)]) (st' := [.int (((ni 6) * v1) + v2), .ref (X + 68), .int v4, .ref (X + 49)]) q241 52 1 rfl (sx_ia q241 53 rfl (hX.s 68 rfl) (hX.b 68) (sx_p (pc' := 94) (lv' := [.ref (X + 49), .int v1, .int v2, .int v3, .int v4, .int (((ni 6) * v1) + v2)]) (st' := [.ref (X + 49), .int (D1.1 (X + 68) (((ni 6) * v1) + v2).toNatClampNeg), .int v4, .ref (X + 49)]) q241 54 1 rfl (sx_gR q241 55 rfl fk_12_69 (fun _ _ => rfl) (hX.s 49 rfl) (hX.r 49 27 rfl) (sx_p (pc' := 99) (lv' := [.ref (X + 49), .int v1, .int v2, .int v3, .int v4, .int (((ni 6) * v1) + v2)]) (st' := [.int (((ni 6) * v1) + v2), .ref (X + 69), .int (D1.1 (X + 68) (((ni 6) * v1) + v2).toNatClampNeg), .int v4, .ref (X + 49)]) q241 56 1 rfl (sx_ia q241 57 rfl (hX.s 69 rfl) (hX.b 69) (sx_p (pc' := 101) (lv' := [.ref (X + 49), .int v1, .int v2, .int v3, .int v4, .int (((ni 6) * v1) + v2)]) (st' := [.int (ni 0), .int (D1.1 (X + 69) (((ni 6) * v1) + v2).toNatClampNeg), .int (D1.1 (X + 68) (((ni 6) * v1) + v2).toNatClampNeg), .int v4, .ref (X + 49)]) q241 58 1 rfl (sx_ki (sx_V q241 59 rfl lk_12_531 vk_239 na_239 rfl rfl rfl rfl (hX.s 49 rfl)) (by decide) rfl (fun x1 D2 => (sx_ri (ty := .int) q241 60 rfl rfl)))))))))))) (sx_p (pc' := 63) (lv' := [.ref (X + 49), .int v1, .int v2, .int v3, .int v4, .int (((ni 6) * v1) + v2)]) (st' := [.ref (X + 49), .int v4, .ref (X + 49)]) q241 35 3 rfl (sx_gR q241 38 rfl fk_12_60 (fun _ _ => rfl) (hX.s 49 rfl) (hX.r 49 24 rfl) (sx_p (pc' := 68) (lv' := [.ref (X + 49), .int v1, .int v2, .int v3, .int v4, .int (((ni 6) * v1) + v2)]) (st' := [.int (((ni 6) * v1) + v2), .ref (X + 66), .int v4, .ref (X + 49)]) q241 39 1 rfl (sx_ia q241 40 rfl (hX.s 66 rfl) (hX.b 66) (sx_p (pc' := 70) (lv' := [.ref (X + 49), .int v1, .int v2, .int v3, .int v4, .int (((ni 6) * v1) + v2)]) (st' := [.ref (X + 49), .int (D1.1 (X + 66) (((ni 6) * v1) + v2).toNatClampNeg), .int v4, .ref (X + 49)]) q241 41 1 rfl (sx_gR q241 42 rfl fk_12_63 (fun _ _ => rfl) (hX.s 49 rfl) (hX.r 49 25 rfl) (sx_p (pc' := 75) (lv' := [.ref (X + 49), .int v1, .int v2, .int v3, .int v4, .int (((ni 6) * v1) + v2)]) (st' := [.int (((ni 6) * v1) + v2), .ref (X + 67), .int (D1.1 (X + 66) (((ni 6) * v1) + v2).toNatClampNeg), .int v4, .ref (X + 49)]) q241 43 1 rfl (sx_ia q241 44 rfl (hX.s 67 rfl) (hX.b 67) (sx_p (pc' := 77) (lv' := [.ref (X + 49), .int v1, .int v2, .int v3, .int v4, .int (((ni 6) * v1) + v2)]) (st' := [.int (ni 0), .int (D1.1 (X + 67) (((ni 6) * v1) + v2).toNatClampNeg), .int (D1.1 (X + 66) (((ni 6) * v1) + v2).toNatClampNeg), .int v4, .ref (X + 49)]) q241 45 1 rfl (sx_ki (sx_V q241 46 rfl lk_12_531 vk_239 na_239 rfl rfl rfl rfl (hX.s 49 rfl)) (by decide) rfl (fun x1 D3 => (sx_p (pc' := 104) (lv' := [.ref (X + 49), .int v1, .int v2, .int v3, .int v4, .int (((ni 6) * v1) + v2)]) (st' := [.int x1]) q241 47 1 rfl (sx_ri (ty := .int) q241 60 rfl rfl))))))))))))))) (sx_p (pc' := 46) (lv' := [.ref (X + 49), .int v1, .int v2, .int v3, .int v4, sm_junk]) (st' := [.int (ni 0)]) q241 25 1 rfl (sx_ri (ty := .int) q241 26 rfl rfl)))))
set_option maxRecDepth 8000 in
theorem f241 {C : sm_K} {X : Nat} {v1 : Int32} {v2 : Int32} {v3 : Int32} {v4 : Int32} (hX : sm_Lay C X) {D : sm_D} : sm_ge (sm_fe C 241 [.ref (X + 49), .int v1, .int v2, .int v3, .int v4] D) (
  sm_bi (sm_fe C 232 [.ref (X + 49), .int v1] D) (fun x0 D1 =>
    if x0 = ni 0 then
      sm_fx C 241 38 [.ref (X + 49), .int v1, .int v2, .int v3, .int v4, sm_junk] [.ref (X + 49)] D1
    else
      sm_gu (sm_in_b v1 40) (
      sm_bi (sm_fe C 157 [.int v2, .int (ni 0), .int ((D1.1 (X + 61) v1.toNatClampNeg) - (ni 1))] D1) (fun x1 D2 =>
        if x1 = ni 0 then
          sm_fx C 241 38 [.ref (X + 49), .int v1, .int v2, .int v3, .int v4, sm_junk] [.ref (X + 49)] D2
        else
          sm_bi (sm_fe C 157 [.int v3, .int (ni 0), .int (ni 1)] D2) (fun x2 D3 =>
            if x2 = ni 0 then
              sm_fx C 241 38 [.ref (X + 49), .int v1, .int v2, .int v3, .int v4, sm_junk] [.ref (X + 49)] D3
            else
              sm_fx C 241 39 [.ref (X + 49), .int v1, .int v2, .int v3, .int v4, sm_junk] [.int (ni 1), .ref (X + 49)] D3))))) := by
  rw [sx_fe (m := 6) rfl rfl]
  exact (show sm_ge (sm_fx C 241 0 [.ref (X + 49), .int v1, .int v2, .int v3, .int v4, sm_junk] [] D) _ from (sx_p (pc' := 3) (lv' := [.ref (X + 49), .int v1, .int v2, .int v3, .int v4, sm_junk]) (st' := [.int v1, .ref (X + 49), .ref (X + 49)]) q241 0 3 rfl (sx_ki (sx_V q241 3 rfl lk_12_522 vk_232 na_232 rfl rfl rfl rfl (hX.s 49 rfl)) (by decide) rfl (fun x0 D1 => (sx_if_eq q241 4 rfl rfl (sm_ge.refl _) (sx_p (pc' := 12) (lv' := [.ref (X + 49), .int v1, .int v2, .int v3, .int v4, sm_junk]) (st' := [.ref (X + 49), .int (ni 0), .int v2, .ref (X + 49)]) q241 5 3 rfl (sx_gR q241 8 rfl fk_12_45 (fun _ _ => rfl) (hX.s 49 rfl) (hX.r 49 18 rfl) (sx_p (pc' := 16) (lv' := [.ref (X + 49), .int v1, .int v2, .int v3, .int v4, sm_junk]) (st' := [.int v1, .ref (X + 61), .int (ni 0), .int v2, .ref (X + 49)]) q241 9 1 rfl (sx_ia q241 10 rfl (hX.s 61 rfl) (hX.b 61) (sx_p (pc' := 19) (lv' := [.ref (X + 49), .int v1, .int v2, .int v3, .int v4, sm_junk]) (st' := [.int ((D1.1 (X + 61) v1.toNatClampNeg) - (ni 1)), .int (ni 0), .int v2, .ref (X + 49)]) q241 11 2 rfl (sx_ki (sx_S q241 13 rfl lk_12_137 rfl na_157 rfl rfl rfl rfl) (by decide) rfl (fun x1 D2 => (sx_if_eq q241 14 rfl rfl (sm_ge.refl _) (sx_p (pc' := 28) (lv' := [.ref (X + 49), .int v1, .int v2, .int v3, .int v4, sm_junk]) (st' := [.int (ni 1), .int (ni 0), .int v3, .ref (X + 49)]) q241 15 3 rfl (sx_ki (sx_S q241 18 rfl lk_12_137 rfl na_157 rfl rfl rfl rfl) (by decide) rfl (fun x2 D3 => (sx_if_eq q241 19 rfl rfl (sm_ge.refl _) (sx_p (pc' := 39) (lv' := [.ref (X + 49), .int v1, .int v2, .int v3, .int v4, sm_junk]) (st' := [.int (ni 1), .ref (X + 49)]) q241 20 2 rfl (sm_ge.refl _)))))))))))))))))))
/-! MessageTreeModel.subject -/
theorem q242 : sm_q 242 12 sm_i242 1 := ⟨rfl, rfl, rfl⟩
set_option maxRecDepth 8000 in
theorem f242 {C : sm_K} {X : Nat} {v1 : Int32} (hX : sm_Lay C X) {D : sm_D} : sm_ge (sm_fe C 242 [.ref (X + 49), .int v1] D) (
  let D1 := sm_dI D (X + 49) 0 (ni 0)
  if v1 = (sm_k (-1)) then
    some (.inl (some (.int (D1.1 (X + 49) 36))), D1)
  else
    sm_bi (sm_fe C 157 [.int v1, .int (ni 0), .int ((D1.1 (X + 49) 36) - (ni 1))] D1) (fun x0 D2 =>
      sm_bi (sm_fe C 155 [.ref (X + 49), .int x0] D2) (fun x1 D3 =>
        if x1 = ni 0 then
          some (.inl (some (.int (ni 0))), D3)
        else
          sm_gu (sm_in_b v1 8000) (
          some (.inl (some (.int (D3.1 (X + 76) v1.toNatClampNeg))), D3))))) := by
  rw [sx_fe (m := 2) rfl rfl]
  exact (show sm_ge (sm_fx C 242 0 [.ref (X + 49), .int v1] [] D) _ from (sx_p (pc' := 2) (lv' := [.ref (X + 49), .int v1]) (st' := [.int (ni 0), .ref (X + 49)]) q242 0 2 rfl (sx_pI q242 2 rfl pk_12_130 rfl (hX.s 49 rfl) (hX.b 49) (sx_p (pc' := 7) (lv' := [.ref (X + 49), .int v1]) (st' := [.int (sm_k (-1)), .int v1]) q242 3 2 rfl (sx_icmp_ne q242 5 rfl rfl (sx_p (pc' := 19) (lv' := [.ref (X + 49), .int v1]) (st' := [.ref (X + 49), .int (ni 0), .int v1, .ref (X + 49)]) q242 9 4 rfl (sx_gI q242 13 rfl fk_12_420 rfl (hX.s 49 rfl) (hX.b 49) (sx_p (pc' := 24) (lv' := [.ref (X + 49), .int v1]) (st' := [.int (((sm_dI D (X + 49) 0 (ni 0)).1 (X + 49) 36) - (ni 1)), .int (ni 0), .int v1, .ref (X + 49)]) q242 14 2 rfl (sx_ki (sx_S q242 16 rfl lk_12_137 rfl na_157 rfl rfl rfl rfl) (by decide) rfl (fun x0 D2 => (sx_ki (sx_V q242 17 rfl lk_12_144 vk_155 na_155 rfl rfl rfl rfl (hX.s 49 rfl)) (by decide) rfl (fun x1 D3 => (sx_if_eq q242 18 rfl rfl (sx_p (pc' := 43) (lv' := [.ref (X + 49), .int v1]) (st' := [.int (ni 0)]) q242 24 1 rfl (sx_ri (ty := .int) q242 25 rfl rfl)) (sx_p (pc' := 34) (lv' := [.ref (X + 49), .int v1]) (st' := [.ref (X + 49)]) q242 19 1 rfl (sx_gR q242 20 rfl fk_12_90 (fun _ _ => rfl) (hX.s 49 rfl) (hX.r 49 37 rfl) (sx_p (pc' := 38) (lv' := [.ref (X + 49), .int v1]) (st' := [.int v1, .ref (X + 76)]) q242 21 1 rfl (sx_ia q242 22 rfl (hX.s 76 rfl) (hX.b 76) (sx_p (pc' := 43) (lv' := [.ref (X + 49), .int v1]) (st' := [.int (D3.1 (X + 76) v1.toNatClampNeg)]) q242 23 1 rfl (sx_ri (ty := .int) q242 25 rfl rfl)))))))))))))) (sx_p (pc' := 11) (lv' := [.ref (X + 49), .int v1]) (st' := [.ref (X + 49)]) q242 6 1 rfl (sx_gI q242 7 rfl fk_12_420 rfl (hX.s 49 rfl) (hX.b 49) (sx_ri (ty := .int) q242 8 rfl rfl))))))))
/-! MessageTreeModel.date -/
theorem q243 : sm_q 243 12 sm_i243 1 := ⟨rfl, rfl, rfl⟩
set_option maxRecDepth 8000 in
theorem f243 {C : sm_K} {X : Nat} {v1 : Int32} (hX : sm_Lay C X) {D : sm_D} : sm_ge (sm_fe C 243 [.ref (X + 49), .int v1] D) (
  sm_bi (sm_fe C 157 [.int v1, .int (ni 0), .int (ni 1)] D) (fun x0 D1 =>
    sm_bi (sm_fe C 155 [.ref (X + 49), .int x0] D1) (fun x1 D2 =>
      if x1 = ni 0 then
        some (.inl (some (.long (Int64.ofNat 0))), D2)
      else
        if v1 = ni 0 then
          some (.inl (some (.long (D2.2.1 (X + 49) 38))), D2)
        else
          some (.inl (some (.long ((D2.1 (X + 49) 39).toInt64))), D2)))) := by
  rw [sx_fe (m := 2) rfl rfl]
  exact (show sm_ge (sm_fx C 243 0 [.ref (X + 49), .int v1] [] D) _ from (sx_p (pc' := 4) (lv' := [.ref (X + 49), .int v1]) (st' := [.int (ni 1), .int (ni 0), .int v1, .ref (X + 49)]) q243 0 4 rfl (sx_ki (sx_S q243 4 rfl lk_12_137 rfl na_157 rfl rfl rfl rfl) (by decide) rfl (fun x0 D1 => (sx_ki (sx_V q243 5 rfl lk_12_144 vk_155 na_155 rfl rfl rfl rfl (hX.s 49 rfl)) (by decide) rfl (fun x1 D2 => (sx_if_ne q243 6 rfl rfl (sx_p (pc' := 16) (lv' := [.ref (X + 49), .int v1]) (st' := [.int v1]) q243 9 1 rfl (sx_if_ne q243 10 rfl rfl (sx_p (pc' := 27) (lv' := [.ref (X + 49), .int v1]) (st' := [.ref (X + 49)]) q243 14 1 rfl (sx_gI q243 15 rfl fk_12_348 rfl (hX.s 49 rfl) (hX.b 49) (sx_p (pc' := 31) (lv' := [.ref (X + 49), .int v1]) (st' := [.long ((D2.1 (X + 49) 39).toInt64)]) q243 16 1 rfl (sx_rj q243 17 rfl rfl)))) (sx_p (pc' := 20) (lv' := [.ref (X + 49), .int v1]) (st' := [.ref (X + 49)]) q243 11 1 rfl (sx_gJ q243 12 rfl fk_12_357 rfl (hX.s 49 rfl) (sx_p (pc' := 31) (lv' := [.ref (X + 49), .int v1]) (st' := [.long (D2.2.1 (X + 49) 38)]) q243 13 1 rfl (sx_rj q243 17 rfl rfl)))))) (sx_p (pc' := 14) (lv' := [.ref (X + 49), .int v1]) (st' := [.long (Int64.ofNat 0)]) q243 7 1 rfl (sx_rj q243 8 rfl rfl)))))))))
/-! MessageTreeModel.addresses -/
theorem q244 : sm_q 244 12 sm_i244 1 := ⟨rfl, rfl, rfl⟩
set_option maxRecDepth 8000 in
theorem f244 {C : sm_K} {X : Nat} {v1 : Int32} (hX : sm_Lay C X) {D : sm_D} : sm_ge (sm_fe C 244 [.ref (X + 49), .int v1] D) (
  sm_bi (sm_fe C 157 [.int v1, .int (ni 5), .int (ni 6)] D) (fun x0 D1 =>
    sm_bi (sm_fe C 155 [.ref (X + 49), .int x0] D1) (fun x1 D2 =>
      if x1 = ni 0 then
        some (.inl (some (.int (ni 0))), D2)
      else
        sm_gu (sm_in_b (v1 - (ni 5)) 2) (
        some (.inl (some (.int (D2.1 (X + 77) (v1 - (ni 5)).toNatClampNeg))), D2))))) := by
  rw [sx_fe (m := 2) rfl rfl]
  exact (show sm_ge (sm_fx C 244 0 [.ref (X + 49), .int v1] [] D) _ from (sx_p (pc' := 5) (lv' := [.ref (X + 49), .int v1]) (st' := [.int (ni 6), .int (ni 5), .int v1, .ref (X + 49)]) q244 0 4 rfl (sx_ki (sx_S q244 4 rfl lk_12_137 rfl na_157 rfl rfl rfl rfl) (by decide) rfl (fun x0 D1 => (sx_ki (sx_V q244 5 rfl lk_12_144 vk_155 na_155 rfl rfl rfl rfl (hX.s 49 rfl)) (by decide) rfl (fun x1 D2 => (sx_if_eq q244 6 rfl rfl (sx_p (pc' := 26) (lv' := [.ref (X + 49), .int v1]) (st' := [.int (ni 0)]) q244 14 1 rfl (sx_ri (ty := .int) q244 15 rfl rfl)) (sx_p (pc' := 15) (lv' := [.ref (X + 49), .int v1]) (st' := [.ref (X + 49)]) q244 7 1 rfl (sx_gR q244 8 rfl fk_12_93 (fun _ _ => rfl) (hX.s 49 rfl) (hX.r 49 40 rfl) (sx_p (pc' := 21) (lv' := [.ref (X + 49), .int v1]) (st' := [.int (v1 - (ni 5)), .ref (X + 77)]) q244 9 3 rfl (sx_ia q244 12 rfl (hX.s 77 rfl) (hX.b 77) (sx_p (pc' := 26) (lv' := [.ref (X + 49), .int v1]) (st' := [.int (D2.1 (X + 77) (v1 - (ni 5)).toNatClampNeg)]) q244 13 1 rfl (sx_ri (ty := .int) q244 15 rfl rfl)))))))))))))
/-! MessageTreeModel.address -/
theorem q245 : sm_q 245 12 sm_i245 2 := ⟨rfl, rfl, rfl⟩
set_option maxRecDepth 8000 in
theorem n245_47 {C : sm_K} {X : Nat} {v1 : Int32} {v2 : Int32} {v3 : Int32} {v4 : Int32} {s1 : Int32} (hX : sm_Lay C X) {D : sm_D} : sm_ge (sm_fx C 245 47 [.ref (X + 49), .int v1, .int v2, .int v3, .int v4, sm_junk, sm_junk] [.int s1, .ref (X + 49)] D) (
  let D1 := sm_dI D (X + 49) 0 s1
  if (D1.1 (X + 49) 0) ≤ ni 0 then
    sm_gu (sm_in_b ((((ni 30) * (v1 - (ni 5))) + ((ni 3) * v2)) + v3) 60) (
    sm_gu (sm_in_b ((((ni 30) * (v1 - (ni 5))) + ((ni 3) * v2)) + v3) 60) (
    sm_bi (sm_fe C 239 [.ref (X + 49), .int v4, .int (D1.1 (X + 78) ((((ni 30) * (v1 - (ni 5))) + ((ni 3) * v2)) + v3).toNatClampNeg), .int (D1.1 (X + 79) ((((ni 30) * (v1 - (ni 5))) + ((ni 3) * v2)) + v3).toNatClampNeg), .int (ni 0)] D1) (fun x0 D2 =>
      if (D2.1 (X + 49) 0) ≤ ni 0 then
        let D3 := sm_dI D2 (X + 49) 0 (ni 0)
        some (.inl (some (.int x0)), D3)
      else
        let D4 := sm_dI D2 (X + 49) 0 (ni 2)
        some (.inl (some (.int x0)), D4))))
  else
    some (.inl (some (.int (ni 0))), D1)) := 
  (sx_pI q245 28 rfl pk_12_130 rfl (hX.s 49 rfl) (hX.b 49) (sx_p (pc' := 51) (lv' := [.ref (X + 49), .int v1, .int v2, .int v3, .int v4, sm_junk, sm_junk]) (st' := [.ref (X + 49)]) q245 29 1 rfl (sx_gI q245 30 rfl fk_12_130 rfl (hX.s 49 rfl) (hX.b 49) (sx_if_le q245 31 rfl rfl (sx_p (pc' := 77) (lv' := [.ref (X + 49), .int v1, .int v2, .int v3, .int v4, .int ((((ni 30) * (v1 - (ni 5))) + ((ni 3) * v2)) + v3), sm_junk]) (st' := [.ref (X + 49), .int v4, .ref (X + 49)]) q245 34 15 rfl (sx_gR q245 49 rfl fk_12_96 (fun _ _ => rfl) (hX.s 49 rfl) (hX.r 49 41 rfl) (sx_p (pc' := 82) (lv' := [.ref (X + 49), .int v1, .int v2, .int v3, .int v4, .int ((((ni 30) * (v1 - (ni 5))) + ((ni 3) * v2)) + v3), sm_junk]) (st' := [.int ((((ni 30) * (v1 - (ni 5))) + ((ni 3) * v2)) + v3), .ref (X + 78), .int v4, .ref (X + 49)]) q245 50 1 rfl (sx_ia q245 51 rfl (hX.s 78 rfl) (hX.b 78) (sx_p (pc' := 84) (lv' := [.ref (X + 49), .int v1, .int v2, .int v3, .int v4, .int ((((ni 30) * (v1 - (ni 5))) + ((ni 3) * v2)) + v3), sm_junk]) (st' := [.ref (X + 49), .int ((sm_dI D (X + 49) 0 s1).1 (X + 78) ((((ni 30) * (v1 - (ni 5))) + ((ni 3) * v2)) + v3).toNatClampNeg), .int v4, .ref (X + 49)]) q245 52 1 rfl (sx_gR q245 53 rfl fk_12_99 (fun _ _ => rfl) (hX.s 49 rfl) (hX.r 49 42 rfl) (sx_p (pc' := 89) (lv' := [.ref (X + 49), .int v1, .int v2, .int v3, .int v4, .int ((((ni 30) * (v1 - (ni 5))) + ((ni 3) * v2)) + v3), sm_junk]) (st' := [.int ((((ni 30) * (v1 - (ni 5))) + ((ni 3) * v2)) + v3), .ref (X + 79), .int ((sm_dI D (X + 49) 0 s1).1 (X + 78) ((((ni 30) * (v1 - (ni 5))) + ((ni 3) * v2)) + v3).toNatClampNeg), .int v4, .ref (X + 49)]) q245 54 1 rfl (sx_ia q245 55 rfl (hX.s 79 rfl) (hX.b 79) (sx_p (pc' := 91) (lv' := [.ref (X + 49), .int v1, .int v2, .int v3, .int v4, .int ((((ni 30) * (v1 - (ni 5))) + ((ni 3) * v2)) + v3), sm_junk]) (st' := [.int (ni 0), .int ((sm_dI D (X + 49) 0 s1).1 (X + 79) ((((ni 30) * (v1 - (ni 5))) + ((ni 3) * v2)) + v3).toNatClampNeg), .int ((sm_dI D (X + 49) 0 s1).1 (X + 78) ((((ni 30) * (v1 - (ni 5))) + ((ni 3) * v2)) + v3).toNatClampNeg), .int v4, .ref (X + 49)]) q245 56 1 rfl (sx_ki (sx_V q245 57 rfl lk_12_531 vk_239 na_239 rfl rfl rfl rfl (hX.s 49 rfl)) (by decide) rfl (fun x0 D2 => (sx_p (pc' := 98) (lv' := [.ref (X + 49), .int v1, .int v2, .int v3, .int v4, .int ((((ni 30) * (v1 - (ni 5))) + ((ni 3) * v2)) + v3), .int x0]) (st' := [.ref (X + 49), .ref (X + 49)]) q245 58 3 rfl (sx_gI q245 61 rfl fk_12_130 rfl (hX.s 49 rfl) (hX.b 49) (sx_if_le q245 62 rfl rfl (sx_p (pc' := 109) (lv' := [.ref (X + 49), .int v1, .int v2, .int v3, .int v4, .int ((((ni 30) * (v1 - (ni 5))) + ((ni 3) * v2)) + v3), .int x0]) (st' := [.int (ni 0), .ref (X + 49)]) q245 65 1 rfl (sx_pI q245 66 rfl pk_12_130 rfl (hX.s 49 rfl) (hX.b 49) (sx_p (pc' := 114) (lv' := [.ref (X + 49), .int v1, .int v2, .int v3, .int v4, .int ((((ni 30) * (v1 - (ni 5))) + ((ni 3) * v2)) + v3), .int x0]) (st' := [.int x0]) q245 67 1 rfl (sx_ri (ty := .int) q245 68 rfl rfl)))) (sx_p (pc' := 109) (lv' := [.ref (X + 49), .int v1, .int v2, .int v3, .int v4, .int ((((ni 30) * (v1 - (ni 5))) + ((ni 3) * v2)) + v3), .int x0]) (st' := [.int (ni 2), .ref (X + 49)]) q245 63 2 rfl (sx_pI q245 66 rfl pk_12_130 rfl (hX.s 49 rfl) (hX.b 49) (sx_p (pc' := 114) (lv' := [.ref (X + 49), .int v1, .int v2, .int v3, .int v4, .int ((((ni 30) * (v1 - (ni 5))) + ((ni 3) * v2)) + v3), .int x0]) (st' := [.int x0]) q245 67 1 rfl (sx_ri (ty := .int) q245 68 rfl rfl)))))))))))))))))) (sx_p (pc' := 58) (lv' := [.ref (X + 49), .int v1, .int v2, .int v3, .int v4, sm_junk, sm_junk]) (st' := [.int (ni 0)]) q245 32 1 rfl (sx_ri (ty := .int) q245 33 rfl rfl))))))
set_option maxRecDepth 8000 in
theorem f245 {C : sm_K} {X : Nat} {v1 : Int32} {v2 : Int32} {v3 : Int32} {v4 : Int32} (hX : sm_Lay C X) {D : sm_D} : sm_ge (sm_fe C 245 [.ref (X + 49), .int v1, .int v2, .int v3, .int v4] D) (
  sm_bi (sm_fe C 157 [.int v1, .int (ni 5), .int (ni 6)] D) (fun x0 D1 =>
    if x0 = ni 0 then
      sm_fx C 245 47 [.ref (X + 49), .int v1, .int v2, .int v3, .int v4, sm_junk, sm_junk] [.int (ni 1), .ref (X + 49)] D1
    else
      sm_gu (sm_in_b (v1 - (ni 5)) 2) (
      sm_bi (sm_fe C 157 [.int v2, .int (ni 0), .int ((D1.1 (X + 77) (v1 - (ni 5)).toNatClampNeg) - (ni 1))] D1) (fun x1 D2 =>
        if x1 = ni 0 then
          sm_fx C 245 47 [.ref (X + 49), .int v1, .int v2, .int v3, .int v4, sm_junk, sm_junk] [.int (ni 2), .ref (X + 49)] D2
        else
          sm_bi (sm_fe C 157 [.int v3, .int (ni 0), .int (ni 2)] D2) (fun x2 D3 =>
            if x2 = ni 0 then
              sm_fx C 245 47 [.ref (X + 49), .int v1, .int v2, .int v3, .int v4, sm_junk, sm_junk] [.int (ni 2), .ref (X + 49)] D3
            else
              sm_fx C 245 47 [.ref (X + 49), .int v1, .int v2, .int v3, .int v4, sm_junk, sm_junk] [.int (ni 0), .ref (X + 49)] D3))))) := by
  rw [sx_fe (m := 7) rfl rfl]
  exact (show sm_ge (sm_fx C 245 0 [.ref (X + 49), .int v1, .int v2, .int v3, .int v4, sm_junk, sm_junk] [] D) _ from (sx_p (pc' := 5) (lv' := [.ref (X + 49), .int v1, .int v2, .int v3, .int v4, sm_junk, sm_junk]) (st' := [.int (ni 6), .int (ni 5), .int v1, .ref (X + 49)]) q245 0 4 rfl (sx_ki (sx_S q245 4 rfl lk_12_137 rfl na_157 rfl rfl rfl rfl) (by decide) rfl (fun x0 D1 => (sx_if_ne q245 5 rfl rfl (sx_p (pc' := 18) (lv' := [.ref (X + 49), .int v1, .int v2, .int v3, .int v4, sm_junk, sm_junk]) (st' := [.ref (X + 49), .int (ni 0), .int v2, .ref (X + 49)]) q245 8 3 rfl (sx_gR q245 11 rfl fk_12_93 (fun _ _ => rfl) (hX.s 49 rfl) (hX.r 49 40 rfl) (sx_p (pc' := 24) (lv' := [.ref (X + 49), .int v1, .int v2, .int v3, .int v4, sm_junk, sm_junk]) (st' := [.int (v1 - (ni 5)), .ref (X + 77), .int (ni 0), .int v2, .ref (X + 49)]) q245 12 3 rfl (sx_ia q245 15 rfl (hX.s 77 rfl) (hX.b 77) (sx_p (pc' := 27) (lv' := [.ref (X + 49), .int v1, .int v2, .int v3, .int v4, sm_junk, sm_junk]) (st' := [.int ((D1.1 (X + 77) (v1 - (ni 5)).toNatClampNeg) - (ni 1)), .int (ni 0), .int v2, .ref (X + 49)]) q245 16 2 rfl (sx_ki (sx_S q245 18 rfl lk_12_137 rfl na_157 rfl rfl rfl rfl) (by decide) rfl (fun x1 D2 => (sx_if_eq q245 19 rfl rfl (sx_p (pc' := 47) (lv' := [.ref (X + 49), .int v1, .int v2, .int v3, .int v4, sm_junk, sm_junk]) (st' := [.int (ni 2), .ref (X + 49)]) q245 25 2 rfl (sm_ge.refl _)) (sx_p (pc' := 36) (lv' := [.ref (X + 49), .int v1, .int v2, .int v3, .int v4, sm_junk, sm_junk]) (st' := [.int (ni 2), .int (ni 0), .int v3, .ref (X + 49)]) q245 20 3 rfl (sx_ki (sx_S q245 23 rfl lk_12_137 rfl na_157 rfl rfl rfl rfl) (by decide) rfl (fun x2 D3 => (sx_if_ne q245 24 rfl rfl (sx_p (pc' := 47) (lv' := [.ref (X + 49), .int v1, .int v2, .int v3, .int v4, sm_junk, sm_junk]) (st' := [.int (ni 0), .ref (X + 49)]) q245 27 1 rfl (sm_ge.refl _)) (sx_p (pc' := 47) (lv' := [.ref (X + 49), .int v1, .int v2, .int v3, .int v4, sm_junk, sm_junk]) (st' := [.int (ni 2), .ref (X + 49)]) q245 25 2 rfl (sm_ge.refl _)))))))))))))) (sx_p (pc' := 47) (lv' := [.ref (X + 49), .int v1, .int v2, .int v3, .int v4, sm_junk, sm_junk]) (st' := [.int (ni 1), .ref (X + 49)]) q245 6 2 rfl (sm_ge.refl _)))))))
/-! MessageTreeModel.write -/
theorem q246 : sm_q 246 12 sm_i246 7 := ⟨rfl, rfl, rfl⟩
set_option maxRecDepth 8000 in
theorem n246_20 {C : sm_K} {X : Nat} {v1 : Int32} (hX : sm_Lay C X) {D : sm_D} : sm_ge (sm_fx C 246 20 [.ref (X + 49), .int v1] [] D) (
  if (D.1 (X + 49) 9) ≤ v1 then
    sm_bv (sm_fe C 247 [.ref (X + 49), .int ((D.1 (X + 49) 9) - (ni 1)), .int (sm_k (-1))] D) (fun D1 =>
      some (.inl (some (.int (D1.1 (X + 49) 43))), D1))
  else
    if v1 ≤ ni 0 then
      sm_fx C 246 59 [.ref (X + 49), .int v1] [] D
    else
      sm_gu (sm_in_b v1 40) (
      sm_bv (sm_fe C 247 [.ref (X + 49), .int (v1 - (ni 1)), .int (D.1 (X + 53) v1.toNatClampNeg)] D) (fun D2 =>
        sm_gu (sm_in_b v1 40) (
        sm_bv (sm_fe C 248 [.ref (X + 49), .int (D2.1 (X + 53) v1.toNatClampNeg)] D2) (fun D3 =>
          sm_bv (sm_fe C 252 [.ref (X + 49)] D3) (fun D4 =>
            sm_fx C 246 59 [.ref (X + 49), .int v1] [] D4)))))) := 
  (sx_p (pc' := 22) (lv' := [.ref (X + 49), .int v1]) (st' := [.ref (X + 49), .int v1]) q246 12 2 rfl (sx_gI q246 14 rfl fk_12_462 rfl (hX.s 49 rfl) (hX.b 49) (sx_icmp_ge q246 15 rfl rfl (sx_p (pc' := 94) (lv' := [.ref (X + 49), .int v1]) (st' := [.ref (X + 49), .ref (X + 49)]) q246 52 2 rfl (sx_gI q246 54 rfl fk_12_462 rfl (hX.s 49 rfl) (hX.b 49) (sx_p (pc' := 100) (lv' := [.ref (X + 49), .int v1]) (st' := [.int (sm_k (-1)), .int ((D.1 (X + 49) 9) - (ni 1)), .ref (X + 49)]) q246 55 3 rfl (sx_kv (sx_V q246 58 rfl lk_12_571 vk_247 na_247 rfl rfl rfl rfl (hX.s 49 rfl)) (by decide) rfl (fun D1 => (sx_p (pc' := 104) (lv' := [.ref (X + 49), .int v1]) (st' := [.ref (X + 49)]) q246 59 1 rfl (sx_gI q246 60 rfl fk_12_535 rfl (hX.s 49 rfl) (hX.b 49) (sx_ri (ty := .int) q246 61 rfl rfl)))))))) (sx_p (pc' := 29) (lv' := [.ref (X + 49), .int v1]) (st' := [.int v1]) q246 16 1 rfl (sx_if_le q246 17 rfl rfl (sm_ge.refl _) (sx_p (pc' := 37) (lv' := [.ref (X + 49), .int v1]) (st' := [.ref (X + 49), .int (v1 - (ni 1)), .ref (X + 49)]) q246 18 5 rfl (sx_gR q246 23 rfl fk_12_19 (fun _ _ => rfl) (hX.s 49 rfl) (hX.r 49 10 rfl) (sx_p (pc' := 41) (lv' := [.ref (X + 49), .int v1]) (st' := [.int v1, .ref (X + 53), .int (v1 - (ni 1)), .ref (X + 49)]) q246 24 1 rfl (sx_ia q246 25 rfl (hX.s 53 rfl) (hX.b 53) (sx_kv (sx_V q246 26 rfl lk_12_571 vk_247 na_247 rfl rfl rfl rfl (hX.s 49 rfl)) (by decide) rfl (fun D2 => (sx_p (pc' := 47) (lv' := [.ref (X + 49), .int v1]) (st' := [.ref (X + 49), .ref (X + 49)]) q246 27 2 rfl (sx_gR q246 29 rfl fk_12_19 (fun _ _ => rfl) (hX.s 49 rfl) (hX.r 49 10 rfl) (sx_p (pc' := 51) (lv' := [.ref (X + 49), .int v1]) (st' := [.int v1, .ref (X + 53), .ref (X + 49)]) q246 30 1 rfl (sx_ia q246 31 rfl (hX.s 53 rfl) (hX.b 53) (sx_kv (sx_V q246 32 rfl lk_12_574 vk_248 na_248 rfl rfl rfl rfl (hX.s 49 rfl)) (by decide) rfl (fun D3 => (sx_p (pc' := 56) (lv' := [.ref (X + 49), .int v1]) (st' := [.ref (X + 49)]) q246 33 1 rfl (sx_kv (sx_V q246 34 rfl lk_12_546 vk_252 na_252 rfl rfl rfl rfl (hX.s 49 rfl)) (by decide) rfl (fun D4 => (sm_ge.refl _)))))))))))))))))))))
set_option maxRecDepth 8000 in
theorem n246_59 {C : sm_K} {X : Nat} {v1 : Int32} (hX : sm_Lay C X) {D : sm_D} : sm_ge (sm_fx C 246 59 [.ref (X + 49), .int v1] [] D) (
  sm_bv (sm_fe C 253 [.ref (X + 49), .int v1] D) (fun D1 =>
    sm_gu (sm_in_b v1 40) (
    if (D1.1 (X + 56) v1.toNatClampNeg) = ni 0 then
      sm_bv (sm_fe C 256 [.ref (X + 49), .int v1] D1) (fun D2 =>
        if v1 ≤ ni 0 then
          sm_fx C 246 20 [.ref (X + 49), .int (v1 + ni 1)] [] D2
        else
          sm_bv (sm_fe C 252 [.ref (X + 49)] D2) (fun D3 =>
            sm_fx C 246 20 [.ref (X + 49), .int (v1 + ni 1)] [] D3))
    else
      sm_fx C 246 20 [.ref (X + 49), .int (v1 + ni 1)] [] D1))) := 
  (sx_p (pc' := 61) (lv' := [.ref (X + 49), .int v1]) (st' := [.int v1, .ref (X + 49)]) q246 35 2 rfl (sx_kv (sx_V q246 37 rfl lk_12_577 vk_253 na_253 rfl rfl rfl rfl (hX.s 49 rfl)) (by decide) rfl (fun D1 => (sx_p (pc' := 65) (lv' := [.ref (X + 49), .int v1]) (st' := [.ref (X + 49)]) q246 38 1 rfl (sx_gR q246 39 rfl fk_12_29 (fun _ _ => rfl) (hX.s 49 rfl) (hX.r 49 13 rfl) (sx_p (pc' := 69) (lv' := [.ref (X + 49), .int v1]) (st' := [.int v1, .ref (X + 56)]) q246 40 1 rfl (sx_ba q246 41 rfl (hX.s 56 rfl) (by simp) (hX.b 56) (sx_if_ne q246 42 rfl rfl (sx_p (pc' := 20) (lv' := [.ref (X + 49), .int (v1 + ni 1)]) (st' := []) q246 50 2 rfl (sm_ge.refl _)) (sx_p (pc' := 75) (lv' := [.ref (X + 49), .int v1]) (st' := [.int v1, .ref (X + 49)]) q246 43 2 rfl (sx_kv (sx_V q246 45 rfl lk_12_580 vk_256 na_256 rfl rfl rfl rfl (hX.s 49 rfl)) (by decide) rfl (fun D2 => (sx_p (pc' := 79) (lv' := [.ref (X + 49), .int v1]) (st' := [.int v1]) q246 46 1 rfl (sx_if_le q246 47 rfl rfl (sx_p (pc' := 20) (lv' := [.ref (X + 49), .int (v1 + ni 1)]) (st' := []) q246 50 2 rfl (sm_ge.refl _)) (sx_p (pc' := 83) (lv' := [.ref (X + 49), .int v1]) (st' := [.ref (X + 49)]) q246 48 1 rfl (sx_kv (sx_V q246 49 rfl lk_12_546 vk_252 na_252 rfl rfl rfl rfl (hX.s 49 rfl)) (by decide) rfl (fun D3 => (sx_p (pc' := 20) (lv' := [.ref (X + 49), .int (v1 + ni 1)]) (st' := []) q246 50 2 rfl (sm_ge.refl _))))))))))))))))))
set_option maxRecDepth 8000 in
theorem f246 {C : sm_K} {X : Nat} (hX : sm_Lay C X) {D : sm_D} : sm_ge (sm_fe C 246 [.ref (X + 49)] D) (
  sm_bi (sm_fe C 155 [.ref (X + 49), .int (D.1 (X + 49) 7)] D) (fun x0 D1 =>
    if x0 = ni 0 then
      some (.inl (some (.int (ni 0))), D1)
    else
      let D2 := sm_dI D1 (X + 49) 43 (ni 0)
      sm_fx C 246 20 [.ref (X + 49), .int (ni 0)] [] D2)) := by
  rw [sx_fe (m := 2) rfl rfl]
  exact (show sm_ge (sm_fx C 246 0 [.ref (X + 49), sm_junk] [] D) _ from (sx_p (pc' := 2) (lv' := [.ref (X + 49), sm_junk]) (st' := [.ref (X + 49), .ref (X + 49)]) q246 0 2 rfl (sx_gI q246 2 rfl fk_12_519 rfl (hX.s 49 rfl) (hX.b 49) (sx_ki (sx_V q246 3 rfl lk_12_144 vk_155 na_155 rfl rfl rfl rfl (hX.s 49 rfl)) (by decide) rfl (fun x0 D1 => (sx_if_ne q246 4 rfl rfl (sx_p (pc' := 15) (lv' := [.ref (X + 49), sm_junk]) (st' := [.int (ni 0), .ref (X + 49)]) q246 7 2 rfl (sx_pI q246 9 rfl pk_12_535 rfl (hX.s 49 rfl) (hX.b 49) (sx_p (pc' := 20) (lv' := [.ref (X + 49), .int (ni 0)]) (st' := []) q246 10 2 rfl (sm_ge.refl _)))) (sx_p (pc' := 12) (lv' := [.ref (X + 49), sm_junk]) (st' := [.int (ni 0)]) q246 5 1 rfl (sx_ri (ty := .int) q246 6 rfl rfl))))))))
