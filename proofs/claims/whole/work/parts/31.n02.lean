/-! ===== what methods do from place to place, written by a program (wip/tools/gen_nodes.py) ===== -/
/-! MessageTree$TypeText.readSmallToken -/
theorem q60 : sm_q 60 4 sm_i60 8 := ⟨rfl, rfl, rfl⟩
set_option maxRecDepth 8000 in
theorem f60 {C : sm_K} {X : Nat} {t : Nat} {v2 : Int32} (hX : sm_Lay C X) (ht : sm_tree C t) {D : sm_D} : sm_ge (sm_fe C 60 [.ref (X + 7), .ref t, .int v2] D) (
  sm_bv (sm_fe C 34 [.ref (X + 1), .ref (C.1.1 27), .ref (t + 1)] D) (fun D1 =>
    sm_bv (sm_fe C 135 [.ref t, .int v2, .int (D.1 (t + 1) 1)] D1) (fun D2 =>
      some (.inl none, D2)))) := by
  rw [sx_fe (m := 4) rfl rfl]
  exact (show sm_ge (sm_fx C 60 0 [.ref (X + 7), .ref t, .int v2, sm_junk] [] D) _ from (sx_p (pc' := 1) (lv' := [.ref (X + 7), .ref t, .int v2, sm_junk]) (st' := [.ref t]) q60 0 1 rfl (sx_gR q60 1 rfl fk_4_95 (fun _ _ => rfl) (ht.s 0 rfl) (ht.r 0 0 rfl) (sx_gI q60 2 rfl fk_4_99 rfl (ht.s 1 rfl) (ht.b 1) (sx_p (pc' := 9) (lv' := [.ref (X + 7), .ref t, .int v2, .int (D.1 (t + 1) 1)]) (st' := [.ref (X + 7)]) q60 3 2 rfl (sx_gR q60 5 rfl fk_4_9 (fun _ _ => rfl) (hX.s 7 rfl) (hX.r 7 0 rfl) (sx_cs q60 6 rfl (Or.inl ⟨rfl, rfl⟩) cs_4_104 (sx_p (pc' := 15) (lv' := [.ref (X + 7), .ref t, .int v2, .int (D.1 (t + 1) 1)]) (st' := [.ref t, .ref (C.1.1 27), .ref (X + 1)]) q60 7 1 rfl (sx_gR q60 8 rfl fk_4_95 (fun _ _ => rfl) (ht.s 0 rfl) (ht.r 0 0 rfl) (sx_kv (sx_V q60 9 rfl lk_4_106 vk_34 na_34 rfl rfl rfl rfl (hX.s 1 rfl)) (by decide) rfl (fun D1 => (sx_p (pc' := 24) (lv' := [.ref (X + 7), .ref t, .int v2, .int (D.1 (t + 1) 1)]) (st' := [.int (D.1 (t + 1) 1), .int v2, .ref t]) q60 10 3 rfl (sx_kv (sx_V q60 13 rfl lk_4_110 vk_135 na_135 rfl rfl rfl rfl (ht.s 0 rfl)) (by decide) rfl (fun D2 => (sx_rv q60 14 rfl rfl)))))))))))))))
/-! MessageTree$TypeText.readParameter -/
theorem q61 : sm_q 61 4 sm_i61 9 := ⟨rfl, rfl, rfl⟩
set_option maxRecDepth 8000 in
theorem n61_30 {C : sm_K} {X : Nat} {t : Nat} {v2 : Int32} {v3 : Int32} {v4 : Int32} {v5 : Int32} (hX : sm_Lay C X) (ht : sm_tree C t) {D : sm_D} : sm_ge (sm_fx C 61 30 [.ref (X + 7), .ref t, .int v2, .int v3, .int v4, .int v5] [] D) (
  if v3 ≤ v5 then
    sm_bv (sm_fe C 32 [.ref (X + 1)] D) (fun D1 =>
      sm_bv (sm_fe C 35 [.ref (X + 1), .int (ni 61)] D1) (fun D2 =>
        sm_bv (sm_fe C 32 [.ref (X + 1)] D2) (fun D3 =>
          if (D3.1 (X + 1) 4) = (ni 34) then
            sm_bv (sm_fe C 36 [.ref (X + 1), .ref (t + 1), .int (ni 100)] D3) (fun D5 =>
              sm_fx C 61 144 [sm_junk, .ref t, .int v2, .int v3, sm_junk, .int (D3.1 (t + 1) 1)] [] D5)
          else
            sm_bv (sm_fe C 34 [.ref (X + 1), .ref (C.1.1 27), .ref (t + 1)] D3) (fun D4 =>
              sm_fx C 61 144 [sm_junk, .ref t, .int v2, .int v3, sm_junk, .int (D3.1 (t + 1) 1)] [] D4))))
  else
    sm_bi (sm_fe C 136 [.int v2, .int v5, .int (ni 0)] D) (fun x0 D6 =>
      sm_bi (sm_fe C 136 [.int v2, .int v3, .int (ni 0)] D6) (fun x1 D7 =>
        sm_bi (sm_fe C 137 [.ref t, .int x0, .int x1] D7) (fun x2 D8 =>
          if x2 = ni 0 then
            sm_fx C 61 30 [.ref (X + 7), .ref t, .int v2, .int v3, .int v4, .int (v5 + ni 1)] [] D8
          else
            sm_bv (sm_fe C 29 [.ref (X + 1), .int v4] D8) (fun D9 =>
              sm_fx C 61 30 [.ref (X + 7), .ref t, .int v2, .int v3, .int v4, .int (v5 + ni 1)] [] D9))))) := 
  (sx_p (pc' := 33) (lv' := [.ref (X + 7), .ref t, .int v2, .int v3, .int v4, .int v5]) (st' := [.int v3, .int v5]) q61 16 2 rfl (sx_icmp_ge q61 18 rfl rfl (sx_p (pc' := 72) (lv' := [.ref (X + 7), .ref t, .int v2, .int v3, .int v4, .int v5]) (st' := [.ref (X + 7)]) q61 36 1 rfl (sx_gR q61 37 rfl fk_4_9 (fun _ _ => rfl) (hX.s 7 rfl) (hX.r 7 0 rfl) (sx_kv (sx_V q61 38 rfl lk_4_37 vk_32 na_32 rfl rfl rfl rfl (hX.s 1 rfl)) (by decide) rfl (fun D1 => (sx_p (pc' := 79) (lv' := [.ref (X + 7), .ref t, .int v2, .int v3, .int v4, .int v5]) (st' := [.ref (X + 7)]) q61 39 1 rfl (sx_gR q61 40 rfl fk_4_9 (fun _ _ => rfl) (hX.s 7 rfl) (hX.r 7 0 rfl) (sx_p (pc' := 84) (lv' := [.ref (X + 7), .ref t, .int v2, .int v3, .int v4, .int v5]) (st' := [.int (ni 61), .ref (X + 1)]) q61 41 1 rfl (sx_kv (sx_V q61 42 rfl lk_4_49 vk_35 na_35 rfl rfl rfl rfl (hX.s 1 rfl)) (by decide) rfl (fun D2 => (sx_p (pc' := 88) (lv' := [.ref (X + 7), .ref t, .int v2, .int v3, .int v4, .int v5]) (st' := [.ref (X + 7)]) q61 43 1 rfl (sx_gR q61 44 rfl fk_4_9 (fun _ _ => rfl) (hX.s 7 rfl) (hX.r 7 0 rfl) (sx_kv (sx_V q61 45 rfl lk_4_37 vk_32 na_32 rfl rfl rfl rfl (hX.s 1 rfl)) (by decide) rfl (fun D3 => (sx_p (pc' := 95) (lv' := [.ref (X + 7), .ref t, .int v2, .int v3, .int v4, .int v5]) (st' := [.ref t]) q61 46 1 rfl (sx_gR q61 47 rfl fk_4_95 (fun _ _ => rfl) (ht.s 0 rfl) (ht.r 0 0 rfl) (sx_gI q61 48 rfl fk_4_99 rfl (ht.s 1 rfl) (ht.b 1) (sx_p (pc' := 104) (lv' := [.ref (X + 7), .ref t, .int v2, .int v3, .int v4, .int (D3.1 (t + 1) 1)]) (st' := [.ref (X + 7)]) q61 49 2 rfl (sx_gR q61 51 rfl fk_4_9 (fun _ _ => rfl) (hX.s 7 rfl) (hX.r 7 0 rfl) (sx_gI q61 52 rfl fk_4_53 rfl (hX.s 1 rfl) (hX.b 1) (sx_p (pc' := 112) (lv' := [.ref (X + 7), .ref t, .int v2, .int v3, .int v4, .int (D3.1 (t + 1) 1)]) (st' := [.int (ni 34), .int (D3.1 (X + 1) 4)]) q61 53 1 rfl (sx_icmp_ne q61 54 rfl rfl (sx_p (pc' := 132) (lv' := [.ref (X + 7), .ref t, .int v2, .int v3, .int v4, .int (D3.1 (t + 1) 1)]) (st' := [.ref (X + 7)]) q61 62 1 rfl (sx_gR q61 63 rfl fk_4_9 (fun _ _ => rfl) (hX.s 7 rfl) (hX.r 7 0 rfl) (sx_cs q61 64 rfl (Or.inl ⟨rfl, rfl⟩) cs_4_104 (sx_p (pc' := 138) (lv' := [.ref (X + 7), .ref t, .int v2, .int v3, .int v4, .int (D3.1 (t + 1) 1)]) (st' := [.ref t, .ref (C.1.1 27), .ref (X + 1)]) q61 65 1 rfl (sx_gR q61 66 rfl fk_4_95 (fun _ _ => rfl) (ht.s 0 rfl) (ht.r 0 0 rfl) (sx_kv (sx_V q61 67 rfl lk_4_106 vk_34 na_34 rfl rfl rfl rfl (hX.s 1 rfl)) (by decide) rfl (fun D4 => (sx_w (lv := [.ref (X + 7), .ref t, .int v2, .int v3, .int v4, .int (D3.1 (t + 1) 1)]) (lv' := [sm_junk, .ref t, .int v2, .int v3, sm_junk, .int (D3.1 (t + 1) 1)]) (sm_ordl.ord ⟨Or.inl rfl, Or.inr rfl, Or.inr rfl, Or.inr rfl, Or.inl rfl, Or.inr rfl, trivial⟩))))))))) (sx_p (pc' := 116) (lv' := [.ref (X + 7), .ref t, .int v2, .int v3, .int v4, .int (D3.1 (t + 1) 1)]) (st' := [.ref (X + 7)]) q61 55 1 rfl (sx_gR q61 56 rfl fk_4_9 (fun _ _ => rfl) (hX.s 7 rfl) (hX.r 7 0 rfl) (sx_p (pc' := 120) (lv' := [.ref (X + 7), .ref t, .int v2, .int v3, .int v4, .int (D3.1 (t + 1) 1)]) (st' := [.ref t, .ref (X + 1)]) q61 57 1 rfl (sx_gR q61 58 rfl fk_4_95 (fun _ _ => rfl) (ht.s 0 rfl) (ht.r 0 0 rfl) (sx_p (pc' := 125) (lv' := [.ref (X + 7), .ref t, .int v2, .int v3, .int v4, .int (D3.1 (t + 1) 1)]) (st' := [.int (ni 100), .ref (t + 1), .ref (X + 1)]) q61 59 1 rfl (sx_kv (sx_V q61 60 rfl lk_4_121 vk_36 na_36 rfl rfl rfl rfl (hX.s 1 rfl)) (by decide) rfl (fun D5 => (sx_p (pc' := 144) (lv' := [.ref (X + 7), .ref t, .int v2, .int v3, .int v4, .int (D3.1 (t + 1) 1)]) (st' := []) q61 61 1 rfl (sx_w (lv := [.ref (X + 7), .ref t, .int v2, .int v3, .int v4, .int (D3.1 (t + 1) 1)]) (lv' := [sm_junk, .ref t, .int v2, .int v3, sm_junk, .int (D3.1 (t + 1) 1)]) (sm_ordl.ord ⟨Or.inl rfl, Or.inr rfl, Or.inr rfl, Or.inr rfl, Or.inl rfl, Or.inr rfl, trivial⟩))))))))))))))))))))))))))))))) (sx_p (pc' := 41) (lv' := [.ref (X + 7), .ref t, .int v2, .int v3, .int v4, .int v5]) (st' := [.int (ni 0), .int v5, .int v2, .ref t]) q61 19 4 rfl (sx_ki (sx_S q61 23 rfl lk_4_114 rfl na_136 rfl rfl rfl rfl) (by decide) rfl (fun x0 D6 => (sx_p (pc' := 47) (lv' := [.ref (X + 7), .ref t, .int v2, .int v3, .int v4, .int v5]) (st' := [.int (ni 0), .int v3, .int v2, .int x0, .ref t]) q61 24 3 rfl (sx_ki (sx_S q61 27 rfl lk_4_114 rfl na_136 rfl rfl rfl rfl) (by decide) rfl (fun x1 D7 => (sx_ki (sx_V q61 28 rfl lk_4_118 vk_137 na_137 rfl rfl rfl rfl (ht.s 0 rfl)) (by decide) rfl (fun x2 D8 => (sx_if_eq q61 29 rfl rfl (sx_p (pc' := 30) (lv' := [.ref (X + 7), .ref t, .int v2, .int v3, .int v4, .int (v5 + ni 1)]) (st' := []) q61 34 2 rfl (sm_ge.refl _)) (sx_p (pc' := 57) (lv' := [.ref (X + 7), .ref t, .int v2, .int v3, .int v4, .int v5]) (st' := [.ref (X + 7)]) q61 30 1 rfl (sx_gR q61 31 rfl fk_4_9 (fun _ _ => rfl) (hX.s 7 rfl) (hX.r 7 0 rfl) (sx_p (pc' := 62) (lv' := [.ref (X + 7), .ref t, .int v2, .int v3, .int v4, .int v5]) (st' := [.int v4, .ref (X + 1)]) q61 32 1 rfl (sx_kv (sx_V q61 33 rfl lk_4_92 vk_29 na_29 rfl rfl rfl rfl (hX.s 1 rfl)) (by decide) rfl (fun D9 => (sx_p (pc' := 30) (lv' := [.ref (X + 7), .ref t, .int v2, .int v3, .int v4, .int (v5 + ni 1)]) (st' := []) q61 34 2 rfl (sm_ge.refl _))))))))))))))))))
set_option maxRecDepth 8000 in
theorem n61_144 {C : sm_K} {X : Nat} {t : Nat} {v2 : Int32} {v3 : Int32} {v5 : Int32} (hX : sm_Lay C X) (ht : sm_tree C t) {D : sm_D} : sm_ge (sm_fx C 61 144 [sm_junk, .ref t, .int v2, .int v3, sm_junk, .int v5] [] D) (
  sm_bi (sm_fe C 136 [.int v2, .int v3, .int (ni 1)] D) (fun x0 D1 =>
    sm_bv (sm_fe C 131 [.ref t, .int x0, .int v5] D1) (fun D2 =>
      some (.inl none, D2)))) := 
  (sx_p (pc' := 148) (lv' := [sm_junk, .ref t, .int v2, .int v3, sm_junk, .int v5]) (st' := [.int (ni 1), .int v3, .int v2, .ref t]) q61 68 4 rfl (sx_ki (sx_S q61 72 rfl lk_4_114 rfl na_136 rfl rfl rfl rfl) (by decide) rfl (fun x0 D1 => (sx_p (pc' := 153) (lv' := [sm_junk, .ref t, .int v2, .int v3, sm_junk, .int v5]) (st' := [.int v5, .int x0, .ref t]) q61 73 1 rfl (sx_kv (sx_V q61 74 rfl lk_4_125 vk_131 na_131 rfl rfl rfl rfl (ht.s 0 rfl)) (by decide) rfl (fun D2 => (sx_rv q61 75 rfl rfl)))))))
set_option maxRecDepth 8000 in
theorem f61 {C : sm_K} {X : Nat} {t : Nat} {v2 : Int32} {v3 : Int32} (hX : sm_Lay C X) (ht : sm_tree C t) {D : sm_D} : sm_ge (sm_fe C 61 [.ref (X + 7), .ref t, .int v2, .int v3] D) (
  sm_bv (sm_fe C 32 [.ref (X + 1)] D) (fun D1 =>
    sm_bi (sm_fe C 136 [.int v2, .int v3, .int (ni 0)] D1) (fun x0 D2 =>
      sm_bv (sm_fe C 60 [.ref (X + 7), .ref t, .int x0] D2) (fun D3 =>
        sm_fx C 61 30 [.ref (X + 7), .ref t, .int v2, .int v3, .int (D1.1 (X + 1) 2), .int (ni 0)] [] D3)))) := by
  rw [sx_fe (m := 6) rfl rfl]
  exact (show sm_ge (sm_fx C 61 0 [.ref (X + 7), .ref t, .int v2, .int v3, sm_junk, sm_junk] [] D) _ from (sx_p (pc' := 1) (lv' := [.ref (X + 7), .ref t, .int v2, .int v3, sm_junk, sm_junk]) (st' := [.ref (X + 7)]) q61 0 1 rfl (sx_gR q61 1 rfl fk_4_9 (fun _ _ => rfl) (hX.s 7 rfl) (hX.r 7 0 rfl) (sx_kv (sx_V q61 2 rfl lk_4_37 vk_32 na_32 rfl rfl rfl rfl (hX.s 1 rfl)) (by decide) rfl (fun D1 => (sx_p (pc' := 8) (lv' := [.ref (X + 7), .ref t, .int v2, .int v3, sm_junk, sm_junk]) (st' := [.ref (X + 7)]) q61 3 1 rfl (sx_gR q61 4 rfl fk_4_9 (fun _ _ => rfl) (hX.s 7 rfl) (hX.r 7 0 rfl) (sx_gI q61 5 rfl fk_4_42 rfl (hX.s 1 rfl) (hX.b 1) (sx_p (pc' := 21) (lv' := [.ref (X + 7), .ref t, .int v2, .int v3, .int (D1.1 (X + 1) 2), sm_junk]) (st' := [.int (ni 0), .int v3, .int v2, .ref t, .ref (X + 7)]) q61 6 6 rfl (sx_ki (sx_S q61 12 rfl lk_4_114 rfl na_136 rfl rfl rfl rfl) (by decide) rfl (fun x0 D2 => (sx_kv (sx_V q61 13 rfl lk_4_45 vk_60 na_60 rfl rfl rfl rfl (hX.s 7 rfl)) (by decide) rfl (fun D3 => (sx_p (pc' := 30) (lv' := [.ref (X + 7), .ref t, .int v2, .int v3, .int (D1.1 (X + 1) 2), .int (ni 0)]) (st' := []) q61 14 2 rfl (sm_ge.refl _)))))))))))))))
/-! MessageTree$TypeText.isRightBoundary -/
theorem q62 : sm_q 62 4 sm_i62 5 := ⟨rfl, rfl, rfl⟩
set_option maxRecDepth 8000 in
theorem n62_34 {C : sm_K} {t : Nat} {v1 : Int32} {v2 : Int32} {v3 : Int32} (ht : sm_tree C t) {D : sm_D} : sm_ge (sm_fx C 62 34 [.ref t, .int v1, .int v2, .int v3] [] D) (
  if v2 ≤ v3 then
    some (.inl (some (.int (sm_nar .boolean (ni 1)))), D)
  else
    sm_bi (sm_fe C 139 [.ref t, .int v1, .int v3] D) (fun x0 D1 =>
      sm_bi (sm_fe C 4 [.ref (C.1.1 28), .int x0] D1) (fun x1 D2 =>
        if x1 = ni 0 then
          some (.inl (some (.int (sm_nar .boolean (ni 0)))), D2)
        else
          sm_fx C 62 34 [.ref t, .int v1, .int v2, .int (v3 + ni 1)] [] D2))) := 
  (sx_p (pc' := 36) (lv' := [.ref t, .int v1, .int v2, .int v3]) (st' := [.int v2, .int v3]) q62 22 2 rfl (sx_icmp_ge q62 24 rfl rfl (sx_p (pc' := 62) (lv' := [.ref t, .int v1, .int v2, .int v3]) (st' := [.int (ni 1)]) q62 36 1 rfl (sx_ri (ty := .boolean) q62 37 rfl rfl)) (sx_cs q62 25 rfl (Or.inl ⟨rfl, rfl⟩) cs_4_134 (sx_p (pc' := 44) (lv' := [.ref t, .int v1, .int v2, .int v3]) (st' := [.int v3, .int v1, .ref t, .ref (C.1.1 28)]) q62 26 3 rfl (sx_ki (sx_V q62 29 rfl lk_4_131 vk_139 na_139 rfl rfl rfl rfl (ht.s 0 rfl)) (by decide) rfl (fun x0 D1 => (sx_ki (sx_S q62 30 rfl lk_4_136 rfl na_4 rfl rfl rfl rfl) (by decide) rfl (fun x1 D2 => (sx_if_ne q62 31 rfl rfl (sx_p (pc' := 34) (lv' := [.ref t, .int v1, .int v2, .int (v3 + ni 1)]) (st' := []) q62 34 2 rfl (sm_ge.refl _)) (sx_p (pc' := 54) (lv' := [.ref t, .int v1, .int v2, .int v3]) (st' := [.int (ni 0)]) q62 32 1 rfl (sx_ri (ty := .boolean) q62 33 rfl rfl)))))))))))
set_option maxRecDepth 8000 in
theorem f62 {C : sm_K} {t : Nat} {v1 : Int32} (ht : sm_tree C t) {D : sm_D} : sm_ge (sm_fe C 62 [.ref t, .int v1] D) (
  sm_bi (sm_fe C 138 [.ref t, .int v1] D) (fun x0 D1 =>
    if x0 < (ni 1) then
      some (.inl (some (.int (sm_nar .boolean (ni 0)))), D1)
    else
      if (ni 70) < x0 then
        some (.inl (some (.int (sm_nar .boolean (ni 0)))), D1)
      else
        sm_bi (sm_fe C 139 [.ref t, .int v1, .int (x0 - (ni 1))] D1) (fun x1 D2 =>
          if x1 = (ni 32) then
            some (.inl (some (.int (sm_nar .boolean (ni 0)))), D2)
          else
            sm_fx C 62 34 [.ref t, .int v1, .int x0, .int (ni 0)] [] D2))) := by
  rw [sx_fe (m := 4) rfl rfl]
  exact (show sm_ge (sm_fx C 62 0 [.ref t, .int v1, sm_junk, sm_junk] [] D) _ from (sx_p (pc' := 2) (lv' := [.ref t, .int v1, sm_junk, sm_junk]) (st' := [.int v1, .ref t]) q62 0 2 rfl (sx_ki (sx_V q62 2 rfl lk_4_128 vk_138 na_138 rfl rfl rfl rfl (ht.s 0 rfl)) (by decide) rfl (fun x0 D1 => (sx_p (pc' := 8) (lv' := [.ref t, .int v1, .int x0, sm_junk]) (st' := [.int (ni 1), .int x0]) q62 3 3 rfl (sx_icmp_lt q62 6 rfl rfl (sx_p (pc' := 31) (lv' := [.ref t, .int v1, .int x0, sm_junk]) (st' := [.int (ni 0)]) q62 18 1 rfl (sx_ri (ty := .boolean) q62 19 rfl rfl)) (sx_p (pc' := 14) (lv' := [.ref t, .int v1, .int x0, sm_junk]) (st' := [.int (ni 70), .int x0]) q62 7 2 rfl (sx_icmp_gt q62 9 rfl rfl (sx_p (pc' := 31) (lv' := [.ref t, .int v1, .int x0, sm_junk]) (st' := [.int (ni 0)]) q62 18 1 rfl (sx_ri (ty := .boolean) q62 19 rfl rfl)) (sx_p (pc' := 22) (lv' := [.ref t, .int v1, .int x0, sm_junk]) (st' := [.int (x0 - (ni 1)), .int v1, .ref t]) q62 10 5 rfl (sx_ki (sx_V q62 15 rfl lk_4_131 vk_139 na_139 rfl rfl rfl rfl (ht.s 0 rfl)) (by decide) rfl (fun x1 D2 => (sx_p (pc' := 27) (lv' := [.ref t, .int v1, .int x0, sm_junk]) (st' := [.int (ni 32), .int x1]) q62 16 1 rfl (sx_icmp_ne q62 17 rfl rfl (sx_p (pc' := 34) (lv' := [.ref t, .int v1, .int x0, .int (ni 0)]) (st' := []) q62 20 2 rfl (sm_ge.refl _)) (sx_p (pc' := 31) (lv' := [.ref t, .int v1, .int x0, sm_junk]) (st' := [.int (ni 0)]) q62 18 1 rfl (sx_ri (ty := .boolean) q62 19 rfl rfl)))))))))))))))
/-! MessageTree$TypeText.readCode -/
theorem q63 : sm_q 63 4 sm_i63 9 := ⟨rfl, rfl, rfl⟩
set_option maxRecDepth 8000 in
theorem n63_75 {C : sm_K} {X : Nat} {t : Nat} {v2 : Int32} {v4 : Int32} (hX : sm_Lay C X) (ht : sm_tree C t) {D : sm_D} : sm_ge (sm_fx C 63 75 [.ref (X + 7), .ref t, .int v2, sm_junk, .int v4] [] D) (
  sm_bv (sm_fe C 32 [.ref (X + 1)] D) (fun D1 =>
    sm_bv (sm_fe C 37 [.ref (X + 1)] D1) (fun D2 =>
      sm_bi (sm_fe C 128 [.ref t, .int v2] D2) (fun x0 D3 =>
        if x0 = ni 0 then
          some (.inl none, D3)
        else
          sm_gu (sm_in_b v2 40) (
          let D4 := sm_dI D3 (t + 9) (v2.toNatClampNeg) v4
          some (.inl none, D4)))))) := 
  (sx_p (pc' := 76) (lv' := [.ref (X + 7), .ref t, .int v2, sm_junk, .int v4]) (st' := [.ref (X + 7)]) q63 36 1 rfl (sx_gR q63 37 rfl fk_4_9 (fun _ _ => rfl) (hX.s 7 rfl) (hX.r 7 0 rfl) (sx_kv (sx_V q63 38 rfl lk_4_37 vk_32 na_32 rfl rfl rfl rfl (hX.s 1 rfl)) (by decide) rfl (fun D1 => (sx_p (pc' := 83) (lv' := [.ref (X + 7), .ref t, .int v2, sm_junk, .int v4]) (st' := [.ref (X + 7)]) q63 39 1 rfl (sx_gR q63 40 rfl fk_4_9 (fun _ _ => rfl) (hX.s 7 rfl) (hX.r 7 0 rfl) (sx_kv (sx_V q63 41 rfl lk_4_63 vk_37 na_37 rfl rfl rfl rfl (hX.s 1 rfl)) (by decide) rfl (fun D2 => (sx_p (pc' := 91) (lv' := [.ref (X + 7), .ref t, .int v2, sm_junk, .int v4]) (st' := [.int v2, .ref t]) q63 42 2 rfl (sx_ki (sx_V q63 44 rfl lk_4_66 vk_128 na_128 rfl rfl rfl rfl (ht.s 0 rfl)) (by decide) rfl (fun x0 D3 => (sx_if_eq q63 45 rfl rfl (sx_rv q63 51 rfl rfl) (sx_p (pc' := 98) (lv' := [.ref (X + 7), .ref t, .int v2, sm_junk, .int v4]) (st' := [.ref t]) q63 46 1 rfl (sx_gR q63 47 rfl fk_4_144 (fun _ _ => rfl) (ht.s 0 rfl) (ht.r 0 7 rfl) (sx_p (pc' := 104) (lv' := [.ref (X + 7), .ref t, .int v2, sm_junk, .int v4]) (st' := [.int v4, .int v2, .ref (t + 9)]) q63 48 2 rfl (sx_is q63 50 rfl (ht.s 9 rfl) (ht.b 9) (sx_rv q63 51 rfl rfl)))))))))))))))))
set_option maxRecDepth 8000 in
theorem f63 {C : sm_K} {X : Nat} {t : Nat} {v2 : Int32} (hX : sm_Lay C X) (ht : sm_tree C t) {D : sm_D} : sm_ge (sm_fe C 63 [.ref (X + 7), .ref t, .int v2] D) (
  sm_bv (sm_fe C 32 [.ref (X + 1)] D) (fun D1 =>
    let D2 := sm_dI D1 (X + 7) 1 (D1.1 (X + 1) 2)
    sm_bv (sm_fe C 34 [.ref (X + 1), .ref (C.1.1 27), .ref (t + 1)] D2) (fun D3 =>
      sm_bi (sm_fe C 64 [.ref (t + 1), .int (D2.1 (t + 1) 1), .int ((D3.1 (t + 1) 1) - (D2.1 (t + 1) 1))] D3) (fun x0 D4 =>
        if x0 = (sm_k (-1)) then
          sm_bv (sm_fe C 29 [.ref (X + 1), .int (D4.1 (X + 7) 1)] D4) (fun D5 =>
            sm_fx C 63 75 [.ref (X + 7), .ref t, .int v2, sm_junk, .int x0] [] D5)
        else
          sm_fx C 63 75 [.ref (X + 7), .ref t, .int v2, sm_junk, .int x0] [] D4)))) := by
  rw [sx_fe (m := 5) rfl rfl]
  exact (show sm_ge (sm_fx C 63 0 [.ref (X + 7), .ref t, .int v2, sm_junk, sm_junk] [] D) _ from (sx_p (pc' := 1) (lv' := [.ref (X + 7), .ref t, .int v2, sm_junk, sm_junk]) (st' := [.ref (X + 7)]) q63 0 1 rfl (sx_gR q63 1 rfl fk_4_9 (fun _ _ => rfl) (hX.s 7 rfl) (hX.r 7 0 rfl) (sx_kv (sx_V q63 2 rfl lk_4_37 vk_32 na_32 rfl rfl rfl rfl (hX.s 1 rfl)) (by decide) rfl (fun D1 => (sx_p (pc' := 9) (lv' := [.ref (X + 7), .ref t, .int v2, sm_junk, sm_junk]) (st' := [.ref (X + 7), .ref (X + 7)]) q63 3 2 rfl (sx_gR q63 5 rfl fk_4_9 (fun _ _ => rfl) (hX.s 7 rfl) (hX.r 7 0 rfl) (sx_gI q63 6 rfl fk_4_42 rfl (hX.s 1 rfl) (hX.b 1) (sx_pI q63 7 rfl pk_4_15 rfl (hX.s 7 rfl) (hX.b 7) (sx_p (pc' := 19) (lv' := [.ref (X + 7), .ref t, .int v2, sm_junk, sm_junk]) (st' := [.ref t]) q63 8 1 rfl (sx_gR q63 9 rfl fk_4_95 (fun _ _ => rfl) (ht.s 0 rfl) (ht.r 0 0 rfl) (sx_gI q63 10 rfl fk_4_99 rfl (ht.s 1 rfl) (ht.b 1) (sx_p (pc' := 27) (lv' := [.ref (X + 7), .ref t, .int v2, .int ((sm_dI D1 (X + 7) 1 (D1.1 (X + 1) 2)).1 (t + 1) 1), sm_junk]) (st' := [.ref (X + 7)]) q63 11 2 rfl (sx_gR q63 13 rfl fk_4_9 (fun _ _ => rfl) (hX.s 7 rfl) (hX.r 7 0 rfl) (sx_cs q63 14 rfl (Or.inl ⟨rfl, rfl⟩) cs_4_104 (sx_p (pc' := 33) (lv' := [.ref (X + 7), .ref t, .int v2, .int ((sm_dI D1 (X + 7) 1 (D1.1 (X + 1) 2)).1 (t + 1) 1), sm_junk]) (st' := [.ref t, .ref (C.1.1 27), .ref (X + 1)]) q63 15 1 rfl (sx_gR q63 16 rfl fk_4_95 (fun _ _ => rfl) (ht.s 0 rfl) (ht.r 0 0 rfl) (sx_kv (sx_V q63 17 rfl lk_4_106 vk_34 na_34 rfl rfl rfl rfl (hX.s 1 rfl)) (by decide) rfl (fun D3 => (sx_p (pc' := 40) (lv' := [.ref (X + 7), .ref t, .int v2, .int ((sm_dI D1 (X + 7) 1 (D1.1 (X + 1) 2)).1 (t + 1) 1), sm_junk]) (st' := [.ref t]) q63 18 1 rfl (sx_gR q63 19 rfl fk_4_95 (fun _ _ => rfl) (ht.s 0 rfl) (ht.r 0 0 rfl) (sx_p (pc' := 45) (lv' := [.ref (X + 7), .ref t, .int v2, .int ((sm_dI D1 (X + 7) 1 (D1.1 (X + 1) 2)).1 (t + 1) 1), sm_junk]) (st' := [.ref t, .int ((sm_dI D1 (X + 7) 1 (D1.1 (X + 1) 2)).1 (t + 1) 1), .ref (t + 1)]) q63 20 2 rfl (sx_gR q63 22 rfl fk_4_95 (fun _ _ => rfl) (ht.s 0 rfl) (ht.r 0 0 rfl) (sx_gI q63 23 rfl fk_4_99 rfl (ht.s 1 rfl) (ht.b 1) (sx_p (pc' := 53) (lv' := [.ref (X + 7), .ref t, .int v2, .int ((sm_dI D1 (X + 7) 1 (D1.1 (X + 1) 2)).1 (t + 1) 1), sm_junk]) (st' := [.int ((D3.1 (t + 1) 1) - ((sm_dI D1 (X + 7) 1 (D1.1 (X + 1) 2)).1 (t + 1) 1)), .int ((sm_dI D1 (X + 7) 1 (D1.1 (X + 1) 2)).1 (t + 1) 1), .ref (t + 1)]) q63 24 2 rfl (sx_ki (sx_S q63 26 rfl lk_4_140 rfl na_64 rfl rfl rfl rfl) (by decide) rfl (fun x0 D4 => (sx_p (pc' := 61) (lv' := [.ref (X + 7), .ref t, .int v2, .int ((sm_dI D1 (X + 7) 1 (D1.1 (X + 1) 2)).1 (t + 1) 1), .int x0]) (st' := [.int (sm_k (-1)), .int x0]) q63 27 3 rfl (sx_icmp_ne q63 30 rfl rfl (sx_w (lv := [.ref (X + 7), .ref t, .int v2, .int ((sm_dI D1 (X + 7) 1 (D1.1 (X + 1) 2)).1 (t + 1) 1), .int x0]) (lv' := [.ref (X + 7), .ref t, .int v2, sm_junk, .int x0]) (sm_ordl.ord ⟨Or.inr rfl, Or.inr rfl, Or.inr rfl, Or.inl rfl, Or.inr rfl, trivial⟩)) (sx_p (pc' := 65) (lv' := [.ref (X + 7), .ref t, .int v2, .int ((sm_dI D1 (X + 7) 1 (D1.1 (X + 1) 2)).1 (t + 1) 1), .int x0]) (st' := [.ref (X + 7)]) q63 31 1 rfl (sx_gR q63 32 rfl fk_4_9 (fun _ _ => rfl) (hX.s 7 rfl) (hX.r 7 0 rfl) (sx_p (pc' := 69) (lv' := [.ref (X + 7), .ref t, .int v2, .int ((sm_dI D1 (X + 7) 1 (D1.1 (X + 1) 2)).1 (t + 1) 1), .int x0]) (st' := [.ref (X + 7), .ref (X + 1)]) q63 33 1 rfl (sx_gI q63 34 rfl fk_4_15 rfl (hX.s 7 rfl) (hX.b 7) (sx_kv (sx_V q63 35 rfl lk_4_92 vk_29 na_29 rfl rfl rfl rfl (hX.s 1 rfl)) (by decide) rfl (fun D5 => (sx_w (lv := [.ref (X + 7), .ref t, .int v2, .int ((sm_dI D1 (X + 7) 1 (D1.1 (X + 1) 2)).1 (t + 1) 1), .int x0]) (lv' := [.ref (X + 7), .ref t, .int v2, sm_junk, .int x0]) (sm_ordl.ord ⟨Or.inr rfl, Or.inr rfl, Or.inr rfl, Or.inl rfl, Or.inr rfl, trivial⟩)))))))))))))))))))))))))))))))))))))
/-! MessageTree$TypeText.codeOf -/
theorem q64 : sm_q 64 4 sm_i64 5 := ⟨rfl, rfl, rfl⟩
set_option maxRecDepth 8000 in
theorem f64 {C : sm_K} {r0 : Nat} {nr0 : Nat} {v1 : Int32} {v2 : Int32} (hr0 : sm_row C r0 nr0) {D : sm_D} : sm_ge (sm_fe C 64 [.ref r0, .int v1, .int v2] D) (
  sm_bi (sm_fe C 43 [.ref r0, .int v1, .int v2, .ref (C.1.1 29)] D) (fun x0 D1 =>
    if x0 = ni 0 then
      sm_bi (sm_fe C 43 [.ref r0, .int v1, .int v2, .ref (C.1.1 30)] D1) (fun x1 D2 =>
        if x1 = ni 0 then
          sm_bi (sm_fe C 43 [.ref r0, .int v1, .int v2, .ref (C.1.1 31)] D2) (fun x2 D3 =>
            if x2 = ni 0 then
              sm_bi (sm_fe C 43 [.ref r0, .int v1, .int v2, .ref (C.1.1 32)] D3) (fun x3 D4 =>
                if x3 = ni 0 then
                  sm_bi (sm_fe C 43 [.ref r0, .int v1, .int v2, .ref (C.1.1 33)] D4) (fun x4 D5 =>
                    if x4 = ni 0 then
                      some (.inl (some (.int (sm_k (-1)))), D5)
                    else
                      some (.inl (some (.int (ni 4))), D5))
                else
                  some (.inl (some (.int (ni 3))), D4))
            else
              some (.inl (some (.int (ni 2))), D3))
        else
          some (.inl (some (.int (ni 1))), D2))
    else
      some (.inl (some (.int (ni 0))), D1))) := by
  rw [sx_fe (m := 3) rfl rfl]
  exact (show sm_ge (sm_fx C 64 0 [.ref r0, .int v1, .int v2] [] D) _ from (sx_p (pc' := 3) (lv' := [.ref r0, .int v1, .int v2]) (st' := [.int v2, .int v1, .ref r0]) q64 0 3 rfl (sx_cs q64 3 rfl (Or.inl ⟨rfl, rfl⟩) cs_4_147 (sx_ki (sx_V q64 4 rfl lk_4_149 vk_43 na_43 rfl rfl rfl rfl (hr0.s 0 rfl)) (by decide) rfl (fun x0 D1 => (sx_if_eq q64 5 rfl rfl (sx_p (pc' := 16) (lv' := [.ref r0, .int v1, .int v2]) (st' := [.int v2, .int v1, .ref r0]) q64 8 3 rfl (sx_cs q64 11 rfl (Or.inl ⟨rfl, rfl⟩) cs_4_153 (sx_ki (sx_V q64 12 rfl lk_4_149 vk_43 na_43 rfl rfl rfl rfl (hr0.s 0 rfl)) (by decide) rfl (fun x1 D2 => (sx_if_eq q64 13 rfl rfl (sx_p (pc' := 29) (lv' := [.ref r0, .int v1, .int v2]) (st' := [.int v2, .int v1, .ref r0]) q64 16 3 rfl (sx_cs q64 19 rfl (Or.inl ⟨rfl, rfl⟩) cs_4_155 (sx_ki (sx_V q64 20 rfl lk_4_149 vk_43 na_43 rfl rfl rfl rfl (hr0.s 0 rfl)) (by decide) rfl (fun x2 D3 => (sx_if_eq q64 21 rfl rfl (sx_p (pc' := 42) (lv' := [.ref r0, .int v1, .int v2]) (st' := [.int v2, .int v1, .ref r0]) q64 24 3 rfl (sx_cs q64 27 rfl (Or.inl ⟨rfl, rfl⟩) cs_4_157 (sx_ki (sx_V q64 28 rfl lk_4_149 vk_43 na_43 rfl rfl rfl rfl (hr0.s 0 rfl)) (by decide) rfl (fun x3 D4 => (sx_if_eq q64 29 rfl rfl (sx_p (pc' := 55) (lv' := [.ref r0, .int v1, .int v2]) (st' := [.int v2, .int v1, .ref r0]) q64 32 3 rfl (sx_cs q64 35 rfl (Or.inl ⟨rfl, rfl⟩) cs_4_159 (sx_ki (sx_V q64 36 rfl lk_4_149 vk_43 na_43 rfl rfl rfl rfl (hr0.s 0 rfl)) (by decide) rfl (fun x4 D5 => (sx_if_eq q64 37 rfl rfl (sx_p (pc' := 68) (lv' := [.ref r0, .int v1, .int v2]) (st' := [.int (sm_k (-1))]) q64 40 1 rfl (sx_ri (ty := .int) q64 41 rfl rfl)) (sx_p (pc' := 68) (lv' := [.ref r0, .int v1, .int v2]) (st' := [.int (ni 4)]) q64 38 2 rfl (sx_ri (ty := .int) q64 41 rfl rfl))))))) (sx_p (pc' := 51) (lv' := [.ref r0, .int v1, .int v2]) (st' := [.int (ni 3)]) q64 30 1 rfl (sx_ri (ty := .int) q64 31 rfl rfl))))))) (sx_p (pc' := 38) (lv' := [.ref r0, .int v1, .int v2]) (st' := [.int (ni 2)]) q64 22 1 rfl (sx_ri (ty := .int) q64 23 rfl rfl))))))) (sx_p (pc' := 25) (lv' := [.ref r0, .int v1, .int v2]) (st' := [.int (ni 1)]) q64 14 1 rfl (sx_ri (ty := .int) q64 15 rfl rfl))))))) (sx_p (pc' := 12) (lv' := [.ref r0, .int v1, .int v2]) (st' := [.int (ni 0)]) q64 6 1 rfl (sx_ri (ty := .int) q64 7 rfl rfl))))))))
/-! MessageTree$TypeText.finish -/
theorem q65 : sm_q 65 4 sm_i65 7 := ⟨rfl, rfl, rfl⟩
set_option maxRecDepth 8000 in
theorem f65 {C : sm_K} {X : Nat} {t : Nat} {v2 : Int32} (hX : sm_Lay C X) (ht : sm_tree C t) {D : sm_D} : sm_ge (sm_fe C 65 [.ref (X + 7), .ref t, .int v2] D) (
  sm_bi (sm_fe C 128 [.ref t, .int v2] D) (fun x0 D1 =>
    if x0 = ni 0 then
      some (.inl none, D1)
    else
      sm_gu (sm_in_b v2 40) (
      if (D1.1 (t + 10) v2.toNatClampNeg) = ni 0 then
        some (.inl none, D1)
      else
        sm_gu (sm_in_b v2 40) (
        if (D1.1 (t + 9) v2.toNatClampNeg) ≤ (ni 2) then
          some (.inl none, D1)
        else
          sm_bv (sm_fe C 29 [.ref (X + 1), .int (D1.1 (X + 7) 1)] D1) (fun D2 =>
            some (.inl none, D2)))))) := by
  rw [sx_fe (m := 3) rfl rfl]
  exact (show sm_ge (sm_fx C 65 0 [.ref (X + 7), .ref t, .int v2] [] D) _ from (sx_p (pc' := 2) (lv' := [.ref (X + 7), .ref t, .int v2]) (st' := [.int v2, .ref t]) q65 0 2 rfl (sx_ki (sx_V q65 2 rfl lk_4_66 vk_128 na_128 rfl rfl rfl rfl (ht.s 0 rfl)) (by decide) rfl (fun x0 D1 => (sx_if_eq q65 3 rfl rfl (sx_rv q65 20 rfl rfl) (sx_p (pc' := 9) (lv' := [.ref (X + 7), .ref t, .int v2]) (st' := [.ref t]) q65 4 1 rfl (sx_gR q65 5 rfl fk_4_74 (fun _ _ => rfl) (ht.s 0 rfl) (ht.r 0 8 rfl) (sx_p (pc' := 13) (lv' := [.ref (X + 7), .ref t, .int v2]) (st' := [.int v2, .ref (t + 10)]) q65 6 1 rfl (sx_ba q65 7 rfl (ht.s 10 rfl) (by simp) (ht.b 10) (sx_if_eq q65 8 rfl rfl (sx_rv q65 20 rfl rfl) (sx_p (pc' := 18) (lv' := [.ref (X + 7), .ref t, .int v2]) (st' := [.ref t]) q65 9 1 rfl (sx_gR q65 10 rfl fk_4_144 (fun _ _ => rfl) (ht.s 0 rfl) (ht.r 0 7 rfl) (sx_p (pc' := 22) (lv' := [.ref (X + 7), .ref t, .int v2]) (st' := [.int v2, .ref (t + 9)]) q65 11 1 rfl (sx_ia q65 12 rfl (ht.s 9 rfl) (ht.b 9) (sx_p (pc' := 24) (lv' := [.ref (X + 7), .ref t, .int v2]) (st' := [.int (ni 2), .int (D1.1 (t + 9) v2.toNatClampNeg)]) q65 13 1 rfl (sx_icmp_le q65 14 rfl rfl (sx_rv q65 20 rfl rfl) (sx_p (pc' := 28) (lv' := [.ref (X + 7), .ref t, .int v2]) (st' := [.ref (X + 7)]) q65 15 1 rfl (sx_gR q65 16 rfl fk_4_9 (fun _ _ => rfl) (hX.s 7 rfl) (hX.r 7 0 rfl) (sx_p (pc' := 32) (lv' := [.ref (X + 7), .ref t, .int v2]) (st' := [.ref (X + 7), .ref (X + 1)]) q65 17 1 rfl (sx_gI q65 18 rfl fk_4_15 rfl (hX.s 7 rfl) (hX.b 7) (sx_kv (sx_V q65 19 rfl lk_4_92 vk_29 na_29 rfl rfl rfl rfl (hX.s 1 rfl)) (by decide) rfl (fun D2 => (sx_rv q65 20 rfl rfl)))))))))))))))))))))))
/-! MessageTree$DateText.readDate -/
theorem q67 : sm_q 67 5 sm_i67 10 := ⟨rfl, rfl, rfl⟩
set_option maxRecDepth 8000 in
theorem n67_97 {C : sm_K} {X : Nat} {t : Nat} {v4 : Int64} {v6 : Int32} {v7 : Int32} (hX : sm_Lay C X) (ht : sm_tree C t) {D : sm_D} : sm_ge (sm_fx C 67 97 [sm_junk, .ref t, sm_junk, sm_junk, .long v4, sm_junk, .int v6, .int v7] [] D) (
  let D1 := sm_dJ D t 13 (((v4 * (86400 : Int64)) + (v6.toInt64)) - ((v7 * (ni 60)).toInt64))
  let D2 := sm_dI D1 t 14 v7
  some (.inl none, D2)) := 
  (sx_p (pc' := 100) (lv' := [sm_junk, .ref t, sm_junk, sm_junk, .long v4, sm_junk, .int v6, .int v7]) (st' := [.long v4, .ref t]) q67 47 2 rfl (sx_cj q67 49 rfl cj_5_55 (sx_p (pc' := 115) (lv' := [sm_junk, .ref t, sm_junk, sm_junk, .long v4, sm_junk, .int v6, .int v7]) (st' := [.long (((v4 * (86400 : Int64)) + (v6.toInt64)) - ((v7 * (ni 60)).toInt64)), .ref t]) q67 50 9 rfl (sx_pJ q67 59 rfl pk_5_57 rfl (ht.s 0 rfl) (ht.b 0) (sx_p (pc' := 121) (lv' := [sm_junk, .ref t, sm_junk, sm_junk, .long v4, sm_junk, .int v6, .int v7]) (st' := [.int v7, .ref t]) q67 60 2 rfl (sx_pI q67 62 rfl pk_5_63 rfl (ht.s 0 rfl) (ht.b 0) (sx_rv q67 63 rfl rfl)))))))
set_option maxRecDepth 8000 in
theorem f67 {C : sm_K} {X : Nat} {t : Nat} (hX : sm_Lay C X) (ht : sm_tree C t) {D : sm_D} : sm_ge (sm_fe C 67 [.ref (X + 8), .ref t] D) (
  sm_bv (sm_fe C 32 [.ref (X + 1)] D) (fun D1 =>
    sm_bi (sm_fe C 68 [.ref (X + 8)] D1) (fun x0 D2 =>
      sm_bj (sm_fe C 70 [.ref (X + 8)] D2) (fun x1 D3 =>
        sm_bv (sm_fe C 32 [.ref (X + 1)] D3) (fun D4 =>
          sm_bi (sm_fe C 73 [.ref (X + 8)] D4) (fun x2 D5 =>
            sm_bv (sm_fe C 32 [.ref (X + 1)] D5) (fun D6 =>
              sm_bi (sm_fe C 75 [.ref (X + 8)] D6) (fun x3 D7 =>
                sm_bv (sm_fe C 32 [.ref (X + 1)] D7) (fun D8 =>
                  sm_bv (sm_fe C 37 [.ref (X + 1)] D8) (fun D9 =>
                    if x0 = (sm_k (-1)) then
                      sm_fx C 67 97 [sm_junk, .ref t, sm_junk, sm_junk, .long x1, sm_junk, .int x2, .int x3] [] D9
                    else
                      sm_bj (sm_fe C 285 [.long (x1 + (3 : Int64)), .long (7 : Int64)] D9) (fun x4 D10 =>
                        if (lg_cmp (x0.toInt64) x4) = ni 0 then
                          sm_fx C 67 97 [sm_junk, .ref t, sm_junk, sm_junk, .long x1, sm_junk, .int x2, .int x3] [] D10
                        else
                          sm_bv (sm_fe C 29 [.ref (X + 1), .int (D1.1 (X + 1) 2)] D10) (fun D11 =>
                            sm_fx C 67 97 [sm_junk, .ref t, sm_junk, sm_junk, .long x1, sm_junk, .int x2, .int x3] [] D11)))))))))))) := by
  rw [sx_fe (m := 8) rfl rfl]
  exact (show sm_ge (sm_fx C 67 0 [.ref (X + 8), .ref t, sm_junk, sm_junk, sm_junk, sm_junk, sm_junk, sm_junk] [] D) _ from (sx_p (pc' := 1) (lv' := [.ref (X + 8), .ref t, sm_junk, sm_junk, sm_junk, sm_junk, sm_junk, sm_junk]) (st' := [.ref (X + 8)]) q67 0 1 rfl (sx_gR q67 1 rfl fk_5_9 (fun _ _ => rfl) (hX.s 8 rfl) (hX.r 8 0 rfl) (sx_kv (sx_V q67 2 rfl lk_5_15 vk_32 na_32 rfl rfl rfl rfl (hX.s 1 rfl)) (by decide) rfl (fun D1 => (sx_p (pc' := 8) (lv' := [.ref (X + 8), .ref t, sm_junk, sm_junk, sm_junk, sm_junk, sm_junk, sm_junk]) (st' := [.ref (X + 8)]) q67 3 1 rfl (sx_gR q67 4 rfl fk_5_9 (fun _ _ => rfl) (hX.s 8 rfl) (hX.r 8 0 rfl) (sx_gI q67 5 rfl fk_5_20 rfl (hX.s 1 rfl) (hX.b 1) (sx_p (pc' := 16) (lv' := [.ref (X + 8), .ref t, .int (D1.1 (X + 1) 2), sm_junk, sm_junk, sm_junk, sm_junk, sm_junk]) (st' := [.ref (X + 8)]) q67 6 2 rfl (sx_ki (sx_V q67 8 rfl lk_5_24 vk_68 na_68 rfl rfl rfl rfl (hX.s 8 rfl)) (by decide) rfl (fun x0 D2 => (sx_p (pc' := 21) (lv' := [.ref (X + 8), .ref t, .int (D1.1 (X + 1) 2), .int x0, sm_junk, sm_junk, sm_junk, sm_junk]) (st' := [.ref (X + 8)]) q67 9 2 rfl (sx_kj (sx_V q67 11 rfl lk_5_28 vk_70 na_70 rfl rfl rfl rfl (hX.s 8 rfl)) (by decide) rfl (fun x1 D3 => (sx_p (pc' := 27) (lv' := [.ref (X + 8), .ref t, .int (D1.1 (X + 1) 2), .int x0, .long x1, sm_junk, sm_junk, sm_junk]) (st' := [.ref (X + 8)]) q67 12 2 rfl (sx_gR q67 14 rfl fk_5_9 (fun _ _ => rfl) (hX.s 8 rfl) (hX.r 8 0 rfl) (sx_kv (sx_V q67 15 rfl lk_5_15 vk_32 na_32 rfl rfl rfl rfl (hX.s 1 rfl)) (by decide) rfl (fun D4 => (sx_p (pc' := 34) (lv' := [.ref (X + 8), .ref t, .int (D1.1 (X + 1) 2), .int x0, .long x1, sm_junk, sm_junk, sm_junk]) (st' := [.ref (X + 8)]) q67 16 1 rfl (sx_ki (sx_V q67 17 rfl lk_5_32 vk_73 na_73 rfl rfl rfl rfl (hX.s 8 rfl)) (by decide) rfl (fun x2 D5 => (sx_p (pc' := 40) (lv' := [.ref (X + 8), .ref t, .int (D1.1 (X + 1) 2), .int x0, .long x1, sm_junk, .int x2, sm_junk]) (st' := [.ref (X + 8)]) q67 18 2 rfl (sx_gR q67 20 rfl fk_5_9 (fun _ _ => rfl) (hX.s 8 rfl) (hX.r 8 0 rfl) (sx_kv (sx_V q67 21 rfl lk_5_15 vk_32 na_32 rfl rfl rfl rfl (hX.s 1 rfl)) (by decide) rfl (fun D6 => (sx_p (pc' := 47) (lv' := [.ref (X + 8), .ref t, .int (D1.1 (X + 1) 2), .int x0, .long x1, sm_junk, .int x2, sm_junk]) (st' := [.ref (X + 8)]) q67 22 1 rfl (sx_ki (sx_V q67 23 rfl lk_5_35 vk_75 na_75 rfl rfl rfl rfl (hX.s 8 rfl)) (by decide) rfl (fun x3 D7 => (sx_p (pc' := 53) (lv' := [.ref (X + 8), .ref t, .int (D1.1 (X + 1) 2), .int x0, .long x1, sm_junk, .int x2, .int x3]) (st' := [.ref (X + 8)]) q67 24 2 rfl (sx_gR q67 26 rfl fk_5_9 (fun _ _ => rfl) (hX.s 8 rfl) (hX.r 8 0 rfl) (sx_kv (sx_V q67 27 rfl lk_5_15 vk_32 na_32 rfl rfl rfl rfl (hX.s 1 rfl)) (by decide) rfl (fun D8 => (sx_p (pc' := 60) (lv' := [.ref (X + 8), .ref t, .int (D1.1 (X + 1) 2), .int x0, .long x1, sm_junk, .int x2, .int x3]) (st' := [.ref (X + 8)]) q67 28 1 rfl (sx_gR q67 29 rfl fk_5_9 (fun _ _ => rfl) (hX.s 8 rfl) (hX.r 8 0 rfl) (sx_kv (sx_V q67 30 rfl lk_5_38 vk_37 na_37 rfl rfl rfl rfl (hX.s 1 rfl)) (by decide) rfl (fun D9 => (sx_p (pc' := 68) (lv' := [.ref (X + 8), .ref t, .int (D1.1 (X + 1) 2), .int x0, .long x1, sm_junk, .int x2, .int x3]) (st' := [.int (sm_k (-1)), .int x0]) q67 31 2 rfl (sx_icmp_eq q67 33 rfl rfl (sx_w (lv := [.ref (X + 8), .ref t, .int (D1.1 (X + 1) 2), .int x0, .long x1, sm_junk, .int x2, .int x3]) (lv' := [sm_junk, .ref t, sm_junk, sm_junk, .long x1, sm_junk, .int x2, .int x3]) (sm_ordl.ord ⟨Or.inl rfl, Or.inr rfl, Or.inl rfl, Or.inl rfl, Or.inr rfl, Or.inl rfl, Or.inr rfl, Or.inr rfl, trivial⟩)) (sx_p (pc' := 75) (lv' := [.ref (X + 8), .ref t, .int (D1.1 (X + 1) 2), .int x0, .long x1, sm_junk, .int x2, .int x3]) (st' := [.long x1, .long (x0.toInt64)]) q67 34 3 rfl (sx_cj q67 37 rfl cj_5_41 (sx_p (pc' := 79) (lv' := [.ref (X + 8), .ref t, .int (D1.1 (X + 1) 2), .int x0, .long x1, sm_junk, .int x2, .int x3]) (st' := [.long (x1 + (3 : Int64)), .long (x0.toInt64)]) q67 38 1 rfl (sx_cj q67 39 rfl cj_5_43 (sx_kj (sx_S q67 40 rfl lk_5_45 rfl na_285 rfl rfl rfl rfl) (by decide) rfl (fun x4 D10 => (sx_p (pc' := 86) (lv' := [.ref (X + 8), .ref t, .int (D1.1 (X + 1) 2), .int x0, .long x1, sm_junk, .int x2, .int x3]) (st' := [.int (lg_cmp (x0.toInt64) x4)]) q67 41 1 rfl (sx_if_eq q67 42 rfl rfl (sx_w (lv := [.ref (X + 8), .ref t, .int (D1.1 (X + 1) 2), .int x0, .long x1, sm_junk, .int x2, .int x3]) (lv' := [sm_junk, .ref t, sm_junk, sm_junk, .long x1, sm_junk, .int x2, .int x3]) (sm_ordl.ord ⟨Or.inl rfl, Or.inr rfl, Or.inl rfl, Or.inl rfl, Or.inr rfl, Or.inl rfl, Or.inr rfl, Or.inr rfl, trivial⟩)) (sx_p (pc' := 90) (lv' := [.ref (X + 8), .ref t, .int (D1.1 (X + 1) 2), .int x0, .long x1, sm_junk, .int x2, .int x3]) (st' := [.ref (X + 8)]) q67 43 1 rfl (sx_gR q67 44 rfl fk_5_9 (fun _ _ => rfl) (hX.s 8 rfl) (hX.r 8 0 rfl) (sx_p (pc' := 94) (lv' := [.ref (X + 8), .ref t, .int (D1.1 (X + 1) 2), .int x0, .long x1, sm_junk, .int x2, .int x3]) (st' := [.int (D1.1 (X + 1) 2), .ref (X + 1)]) q67 45 1 rfl (sx_kv (sx_V q67 46 rfl lk_5_51 vk_29 na_29 rfl rfl rfl rfl (hX.s 1 rfl)) (by decide) rfl (fun D11 => (sx_w (lv := [.ref (X + 8), .ref t, .int (D1.1 (X + 1) 2), .int x0, .long x1, sm_junk, .int x2, .int x3]) (lv' := [sm_junk, .ref t, sm_junk, sm_junk, .long x1, sm_junk, .int x2, .int x3]) (sm_ordl.ord ⟨Or.inl rfl, Or.inr rfl, Or.inl rfl, Or.inl rfl, Or.inr rfl, Or.inl rfl, Or.inr rfl, Or.inr rfl, trivial⟩)))))))))))))))))))))))))))))))))))))))))))))))))))))
/-! MessageTree$DateText.readWeekday -/
theorem q68 : sm_q 68 5 sm_i68 9 := ⟨rfl, rfl, rfl⟩
set_option maxRecDepth 8000 in
theorem f68 {C : sm_K} {X : Nat} (hX : sm_Lay C X) {D : sm_D} : sm_ge (sm_fe C 68 [.ref (X + 8)] D) (
  sm_bi (sm_fe C 5 [.int (D.1 (X + 1) 4)] D) (fun x0 D1 =>
    if x0 = ni 0 then
      some (.inl (some (.int (sm_k (-1)))), D1)
    else
      sm_bi (sm_fe C 69 [.ref (X + 8), .ref (C.1.1 10)] D1) (fun x1 D2 =>
        sm_bv (sm_fe C 32 [.ref (X + 1)] D2) (fun D3 =>
          sm_bv (sm_fe C 35 [.ref (X + 1), .int (ni 44)] D3) (fun D4 =>
            sm_bv (sm_fe C 32 [.ref (X + 1)] D4) (fun D5 =>
              some (.inl (some (.int x1)), D5))))))) := by
  rw [sx_fe (m := 2) rfl rfl]
  exact (show sm_ge (sm_fx C 68 0 [.ref (X + 8), sm_junk] [] D) _ from (sx_p (pc' := 1) (lv' := [.ref (X + 8), sm_junk]) (st' := [.ref (X + 8)]) q68 0 1 rfl (sx_gR q68 1 rfl fk_5_9 (fun _ _ => rfl) (hX.s 8 rfl) (hX.r 8 0 rfl) (sx_gI q68 2 rfl fk_5_66 rfl (hX.s 1 rfl) (hX.b 1) (sx_ki (sx_S q68 3 rfl lk_5_69 rfl na_5 rfl rfl rfl rfl) (by decide) rfl (fun x0 D1 => (sx_if_ne q68 4 rfl rfl (sx_p (pc' := 16) (lv' := [.ref (X + 8), sm_junk]) (st' := [.ref (X + 8)]) q68 7 1 rfl (sx_cs q68 8 rfl (Or.inl ⟨rfl, rfl⟩) cs_5_73 (sx_ki (sx_V q68 9 rfl lk_5_75 vk_69 na_69 rfl rfl rfl rfl (hX.s 8 rfl)) (by decide) rfl (fun x1 D2 => (sx_p (pc' := 23) (lv' := [.ref (X + 8), .int x1]) (st' := [.ref (X + 8)]) q68 10 2 rfl (sx_gR q68 12 rfl fk_5_9 (fun _ _ => rfl) (hX.s 8 rfl) (hX.r 8 0 rfl) (sx_kv (sx_V q68 13 rfl lk_5_15 vk_32 na_32 rfl rfl rfl rfl (hX.s 1 rfl)) (by decide) rfl (fun D3 => (sx_p (pc' := 30) (lv' := [.ref (X + 8), .int x1]) (st' := [.ref (X + 8)]) q68 14 1 rfl (sx_gR q68 15 rfl fk_5_9 (fun _ _ => rfl) (hX.s 8 rfl) (hX.r 8 0 rfl) (sx_p (pc' := 35) (lv' := [.ref (X + 8), .int x1]) (st' := [.int (ni 44), .ref (X + 1)]) q68 16 1 rfl (sx_kv (sx_V q68 17 rfl lk_5_79 vk_35 na_35 rfl rfl rfl rfl (hX.s 1 rfl)) (by decide) rfl (fun D4 => (sx_p (pc' := 39) (lv' := [.ref (X + 8), .int x1]) (st' := [.ref (X + 8)]) q68 18 1 rfl (sx_gR q68 19 rfl fk_5_9 (fun _ _ => rfl) (hX.s 8 rfl) (hX.r 8 0 rfl) (sx_kv (sx_V q68 20 rfl lk_5_15 vk_32 na_32 rfl rfl rfl rfl (hX.s 1 rfl)) (by decide) rfl (fun D5 => (sx_p (pc' := 46) (lv' := [.ref (X + 8), .int x1]) (st' := [.int x1]) q68 21 1 rfl (sx_ri (ty := .int) q68 22 rfl rfl))))))))))))))))))) (sx_p (pc' := 14) (lv' := [.ref (X + 8), sm_junk]) (st' := [.int (sm_k (-1))]) q68 5 1 rfl (sx_ri (ty := .int) q68 6 rfl rfl)))))))))
/-! MessageTree$DateText.readWord -/
theorem q69 : sm_q 69 5 sm_i69 7 := ⟨rfl, rfl, rfl⟩
set_option maxRecDepth 8000 in
theorem n69_10 {C : sm_K} {X : Nat} {s : Nat} {w : Nat} {nw : Nat} {v2 : Int32} {v3 : Int32} (hX : sm_Lay C X) (hs : sm_sr C s w nw) {D : sm_D} : sm_ge (sm_fx C 69 10 [.ref (X + 8), .ref s, .int v2, .int v3, sm_junk, sm_junk, sm_junk, sm_junk] [] D) (
  if (ni 8000) ≤ v3 then
    sm_fx C 69 43 [.ref (X + 8), .ref s, .int v2, .int v3, sm_junk, sm_junk, sm_junk, sm_junk] [] D
  else
    sm_bi (sm_fe C 5 [.int (D.1 (X + 1) 4)] D) (fun x0 D1 =>
      if x0 = ni 0 then
        sm_fx C 69 43 [.ref (X + 8), .ref s, .int v2, .int v3, sm_junk, sm_junk, sm_junk, sm_junk] [] D1
      else
        sm_bv (sm_fe C 31 [.ref (X + 1)] D1) (fun D2 =>
          sm_fx C 69 10 [.ref (X + 8), .ref s, .int v2, .int (v3 + ni 1), sm_junk, sm_junk, sm_junk, sm_junk] [] D2))) := 
  (sx_p (pc' := 14) (lv' := [.ref (X + 8), .ref s, .int v2, .int v3, sm_junk, sm_junk, sm_junk, sm_junk]) (st' := [.int (ni 8000), .int v3]) q69 6 2 rfl (sx_icmp_ge q69 8 rfl rfl (sm_ge.refl _) (sx_p (pc' := 18) (lv' := [.ref (X + 8), .ref s, .int v2, .int v3, sm_junk, sm_junk, sm_junk, sm_junk]) (st' := [.ref (X + 8)]) q69 9 1 rfl (sx_gR q69 10 rfl fk_5_9 (fun _ _ => rfl) (hX.s 8 rfl) (hX.r 8 0 rfl) (sx_gI q69 11 rfl fk_5_66 rfl (hX.s 1 rfl) (hX.b 1) (sx_ki (sx_S q69 12 rfl lk_5_69 rfl na_5 rfl rfl rfl rfl) (by decide) rfl (fun x0 D1 => (sx_if_eq q69 13 rfl rfl (sm_ge.refl _) (sx_p (pc' := 31) (lv' := [.ref (X + 8), .ref s, .int v2, .int v3, sm_junk, sm_junk, sm_junk, sm_junk]) (st' := [.ref (X + 8)]) q69 14 1 rfl (sx_gR q69 15 rfl fk_5_9 (fun _ _ => rfl) (hX.s 8 rfl) (hX.r 8 0 rfl) (sx_kv (sx_V q69 16 rfl lk_5_107 vk_31 na_31 rfl rfl rfl rfl (hX.s 1 rfl)) (by decide) rfl (fun D2 => (sx_p (pc' := 10) (lv' := [.ref (X + 8), .ref s, .int v2, .int (v3 + ni 1), sm_junk, sm_junk, sm_junk, sm_junk]) (st' := []) q69 17 2 rfl (sm_ge.refl _))))))))))))))
set_option maxRecDepth 8000 in
theorem n69_43 {C : sm_K} {X : Nat} {s : Nat} {w : Nat} {nw : Nat} {v2 : Int32} {v3 : Int32} (hX : sm_Lay C X) (hs : sm_sr C s w nw) {D : sm_D} : sm_ge (sm_fx C 69 43 [.ref (X + 8), .ref s, .int v2, .int v3, sm_junk, sm_junk, sm_junk, sm_junk] [] D) (
  sm_bi (sm_fe C 42 [.ref (X + 2), .int v2] D) (fun x0 D1 =>
    sm_bi (sm_fe C 2 [.int x0] D1) (fun x1 D2 =>
      sm_bi (sm_fe C 42 [.ref (X + 2), .int (v2 + (ni 1))] D2) (fun x2 D3 =>
        sm_bi (sm_fe C 2 [.int x2] D3) (fun x3 D4 =>
          sm_bi (sm_fe C 42 [.ref (X + 2), .int (v2 + (ni 2))] D4) (fun x4 D5 =>
            sm_bi (sm_fe C 2 [.int x4] D5) (fun x5 D6 =>
              sm_fx C 69 98 [.ref (X + 8), .ref s, .int v2, .int v3, .int x1, .int x3, .int x5, .int (ni 0)] [] D6))))))) := 
  (sx_p (pc' := 44) (lv' := [.ref (X + 8), .ref s, .int v2, .int v3, sm_junk, sm_junk, sm_junk, sm_junk]) (st' := [.ref (X + 8)]) q69 19 1 rfl (sx_gR q69 20 rfl fk_5_9 (fun _ _ => rfl) (hX.s 8 rfl) (hX.r 8 0 rfl) (sx_gR q69 21 rfl fk_5_110 (fun _ _ => rfl) (hX.s 1 rfl) (hX.r 1 0 rfl) (sx_p (pc' := 51) (lv' := [.ref (X + 8), .ref s, .int v2, .int v3, sm_junk, sm_junk, sm_junk, sm_junk]) (st' := [.int v2, .ref (X + 2)]) q69 22 1 rfl (sx_ki (sx_V q69 23 rfl lk_5_114 vk_42 na_42 rfl rfl rfl rfl (hX.s 2 rfl)) (by decide) rfl (fun x0 D1 => (sx_ki (sx_S q69 24 rfl lk_5_119 rfl na_2 rfl rfl rfl rfl) (by decide) rfl (fun x1 D2 => (sx_p (pc' := 60) (lv' := [.ref (X + 8), .ref s, .int v2, .int v3, .int x1, sm_junk, sm_junk, sm_junk]) (st' := [.ref (X + 8)]) q69 25 2 rfl (sx_gR q69 27 rfl fk_5_9 (fun _ _ => rfl) (hX.s 8 rfl) (hX.r 8 0 rfl) (sx_gR q69 28 rfl fk_5_110 (fun _ _ => rfl) (hX.s 1 rfl) (hX.r 1 0 rfl) (sx_p (pc' := 69) (lv' := [.ref (X + 8), .ref s, .int v2, .int v3, .int x1, sm_junk, sm_junk, sm_junk]) (st' := [.int (v2 + (ni 1)), .ref (X + 2)]) q69 29 3 rfl (sx_ki (sx_V q69 32 rfl lk_5_114 vk_42 na_42 rfl rfl rfl rfl (hX.s 2 rfl)) (by decide) rfl (fun x2 D3 => (sx_ki (sx_S q69 33 rfl lk_5_119 rfl na_2 rfl rfl rfl rfl) (by decide) rfl (fun x3 D4 => (sx_p (pc' := 78) (lv' := [.ref (X + 8), .ref s, .int v2, .int v3, .int x1, .int x3, sm_junk, sm_junk]) (st' := [.ref (X + 8)]) q69 34 2 rfl (sx_gR q69 36 rfl fk_5_9 (fun _ _ => rfl) (hX.s 8 rfl) (hX.r 8 0 rfl) (sx_gR q69 37 rfl fk_5_110 (fun _ _ => rfl) (hX.s 1 rfl) (hX.r 1 0 rfl) (sx_p (pc' := 87) (lv' := [.ref (X + 8), .ref s, .int v2, .int v3, .int x1, .int x3, sm_junk, sm_junk]) (st' := [.int (v2 + (ni 2)), .ref (X + 2)]) q69 38 3 rfl (sx_ki (sx_V q69 41 rfl lk_5_114 vk_42 na_42 rfl rfl rfl rfl (hX.s 2 rfl)) (by decide) rfl (fun x4 D5 => (sx_ki (sx_S q69 42 rfl lk_5_119 rfl na_2 rfl rfl rfl rfl) (by decide) rfl (fun x5 D6 => (sx_p (pc' := 98) (lv' := [.ref (X + 8), .ref s, .int v2, .int v3, .int x1, .int x3, .int x5, .int (ni 0)]) (st' := []) q69 43 3 rfl (sm_ge.refl _))))))))))))))))))))))))))
set_option maxRecDepth 8000 in
theorem n69_98 {C : sm_K} {X : Nat} {s : Nat} {w : Nat} {nw : Nat} {v2 : Int32} {v3 : Int32} {v4 : Int32} {v5 : Int32} {v6 : Int32} {v7 : Int32} (hX : sm_Lay C X) (hs : sm_sr C s w nw) {D : sm_D} : sm_ge (sm_fx C 69 98 [.ref (X + 8), .ref s, .int v2, .int v3, .int v4, .int v5, .int v6, .int v7] [] D) (
  if v3 = (ni 3) then
    sm_bi (sm_fe C 260 [.ref s] D) (fun x0 D1 =>
      if x0 ≤ (v7 + (ni 2)) then
        sm_fx C 69 162 [.ref (X + 8), sm_junk, .int v2, sm_junk, sm_junk, sm_junk, sm_junk, sm_junk] [] D1
      else
        sm_bi (sm_fe C 262 [.ref s, .int v7] D1) (fun x1 D2 =>
          if x1 = v4 then
            sm_bi (sm_fe C 262 [.ref s, .int (v7 + (ni 1))] D2) (fun x2 D3 =>
              if x2 = v5 then
                sm_bi (sm_fe C 262 [.ref s, .int (v7 + (ni 2))] D3) (fun x3 D4 =>
                  if x3 = v6 then
                    some (.inl (some (.int (v7 / (ni 3)))), D4)
                  else
                    sm_fx C 69 98 [.ref (X + 8), .ref s, .int v2, .int v3, .int v4, .int v5, .int v6, .int (v7 + ni 3)] [] D4)
              else
                sm_fx C 69 98 [.ref (X + 8), .ref s, .int v2, .int v3, .int v4, .int v5, .int v6, .int (v7 + ni 3)] [] D3)
          else
            sm_fx C 69 98 [.ref (X + 8), .ref s, .int v2, .int v3, .int v4, .int v5, .int v6, .int (v7 + ni 3)] [] D2))
  else
    sm_fx C 69 162 [.ref (X + 8), sm_junk, .int v2, sm_junk, sm_junk, sm_junk, sm_junk, sm_junk] [] D) := 
  (sx_p (pc' := 100) (lv' := [.ref (X + 8), .ref s, .int v2, .int v3, .int v4, .int v5, .int v6, .int v7]) (st' := [.int (ni 3), .int v3]) q69 46 2 rfl (sx_icmp_ne q69 48 rfl rfl (sx_w (lv := [.ref (X + 8), .ref s, .int v2, .int v3, .int v4, .int v5, .int v6, .int v7]) (lv' := [.ref (X + 8), sm_junk, .int v2, sm_junk, sm_junk, sm_junk, sm_junk, sm_junk]) (sm_ordl.ord ⟨Or.inr rfl, Or.inl rfl, Or.inr rfl, Or.inl rfl, Or.inl rfl, Or.inl rfl, Or.inl rfl, Or.inl rfl, trivial⟩)) (sx_p (pc' := 108) (lv' := [.ref (X + 8), .ref s, .int v2, .int v3, .int v4, .int v5, .int v6, .int v7]) (st' := [.ref s, .int (v7 + (ni 2))]) q69 49 4 rfl (sx_ki (sx_V q69 53 rfl lk_5_122 vk_260 na_260 rfl rfl rfl rfl hs.1) (by decide) rfl (fun x0 D1 => (sx_icmp_ge q69 54 rfl rfl (sx_w (lv := [.ref (X + 8), .ref s, .int v2, .int v3, .int v4, .int v5, .int v6, .int v7]) (lv' := [.ref (X + 8), sm_junk, .int v2, sm_junk, sm_junk, sm_junk, sm_junk, sm_junk]) (sm_ordl.ord ⟨Or.inr rfl, Or.inl rfl, Or.inr rfl, Or.inl rfl, Or.inl rfl, Or.inl rfl, Or.inl rfl, Or.inl rfl, trivial⟩)) (sx_p (pc' := 117) (lv' := [.ref (X + 8), .ref s, .int v2, .int v3, .int v4, .int v5, .int v6, .int v7]) (st' := [.int v7, .ref s]) q69 55 2 rfl (sx_ki (sx_V q69 57 rfl lk_5_127 vk_262 na_262 rfl rfl rfl rfl hs.1) (by decide) rfl (fun x1 D2 => (sx_p (pc' := 122) (lv' := [.ref (X + 8), .ref s, .int v2, .int v3, .int v4, .int v5, .int v6, .int v7]) (st' := [.int v4, .int x1]) q69 58 1 rfl (sx_icmp_ne q69 59 rfl rfl (sx_p (pc' := 98) (lv' := [.ref (X + 8), .ref s, .int v2, .int v3, .int v4, .int v5, .int v6, .int (v7 + ni 3)]) (st' := []) q69 78 2 rfl (sm_ge.refl _)) (sx_p (pc' := 130) (lv' := [.ref (X + 8), .ref s, .int v2, .int v3, .int v4, .int v5, .int v6, .int v7]) (st' := [.int (v7 + (ni 1)), .ref s]) q69 60 4 rfl (sx_ki (sx_V q69 64 rfl lk_5_127 vk_262 na_262 rfl rfl rfl rfl hs.1) (by decide) rfl (fun x2 D3 => (sx_p (pc' := 135) (lv' := [.ref (X + 8), .ref s, .int v2, .int v3, .int v4, .int v5, .int v6, .int v7]) (st' := [.int v5, .int x2]) q69 65 1 rfl (sx_icmp_ne q69 66 rfl rfl (sx_p (pc' := 98) (lv' := [.ref (X + 8), .ref s, .int v2, .int v3, .int v4, .int v5, .int v6, .int (v7 + ni 3)]) (st' := []) q69 78 2 rfl (sm_ge.refl _)) (sx_p (pc' := 143) (lv' := [.ref (X + 8), .ref s, .int v2, .int v3, .int v4, .int v5, .int v6, .int v7]) (st' := [.int (v7 + (ni 2)), .ref s]) q69 67 4 rfl (sx_ki (sx_V q69 71 rfl lk_5_127 vk_262 na_262 rfl rfl rfl rfl hs.1) (by decide) rfl (fun x3 D4 => (sx_p (pc' := 148) (lv' := [.ref (X + 8), .ref s, .int v2, .int v3, .int v4, .int v5, .int v6, .int v7]) (st' := [.int v6, .int x3]) q69 72 1 rfl (sx_icmp_ne q69 73 rfl rfl (sx_p (pc' := 98) (lv' := [.ref (X + 8), .ref s, .int v2, .int v3, .int v4, .int v5, .int v6, .int (v7 + ni 3)]) (st' := []) q69 78 2 rfl (sm_ge.refl _)) (sx_p (pc' := 155) (lv' := [.ref (X + 8), .ref s, .int v2, .int v3, .int v4, .int v5, .int v6, .int v7]) (st' := [.int (v7 / (ni 3))]) q69 74 3 rfl (sx_ri (ty := .int) q69 77 rfl rfl)))))))))))))))))))))))
set_option maxRecDepth 8000 in
theorem n69_162 {C : sm_K} {X : Nat} {s : Nat} {w : Nat} {nw : Nat} {v2 : Int32} (hX : sm_Lay C X) (hs : sm_sr C s w nw) {D : sm_D} : sm_ge (sm_fx C 69 162 [.ref (X + 8), sm_junk, .int v2, sm_junk, sm_junk, sm_junk, sm_junk, sm_junk] [] D) (
  sm_bv (sm_fe C 29 [.ref (X + 1), .int v2] D) (fun D1 =>
    some (.inl (some (.int (sm_k (-1)))), D1))) := 
  (sx_p (pc' := 163) (lv' := [.ref (X + 8), sm_junk, .int v2, sm_junk, sm_junk, sm_junk, sm_junk, sm_junk]) (st' := [.ref (X + 8)]) q69 80 1 rfl (sx_gR q69 81 rfl fk_5_9 (fun _ _ => rfl) (hX.s 8 rfl) (hX.r 8 0 rfl) (sx_p (pc' := 167) (lv' := [.ref (X + 8), sm_junk, .int v2, sm_junk, sm_junk, sm_junk, sm_junk, sm_junk]) (st' := [.int v2, .ref (X + 1)]) q69 82 1 rfl (sx_kv (sx_V q69 83 rfl lk_5_51 vk_29 na_29 rfl rfl rfl rfl (hX.s 1 rfl)) (by decide) rfl (fun D1 => (sx_p (pc' := 171) (lv' := [.ref (X + 8), sm_junk, .int v2, sm_junk, sm_junk, sm_junk, sm_junk, sm_junk]) (st' := [.int (sm_k (-1))]) q69 84 1 rfl (sx_ri (ty := .int) q69 85 rfl rfl)))))))
set_option maxRecDepth 8000 in
theorem f69 {C : sm_K} {X : Nat} {s : Nat} {w : Nat} {nw : Nat} (hX : sm_Lay C X) (hs : sm_sr C s w nw) {D : sm_D} : sm_ge (sm_fe C 69 [.ref (X + 8), .ref s] D) (
  sm_fx C 69 10 [.ref (X + 8), .ref s, .int (D.1 (X + 1) 2), .int (ni 0), sm_junk, sm_junk, sm_junk, sm_junk] [] D) := by
  rw [sx_fe (m := 8) rfl rfl]
  exact (show sm_ge (sm_fx C 69 0 [.ref (X + 8), .ref s, sm_junk, sm_junk, sm_junk, sm_junk, sm_junk, sm_junk] [] D) _ from (sx_p (pc' := 1) (lv' := [.ref (X + 8), .ref s, sm_junk, sm_junk, sm_junk, sm_junk, sm_junk, sm_junk]) (st' := [.ref (X + 8)]) q69 0 1 rfl (sx_gR q69 1 rfl fk_5_9 (fun _ _ => rfl) (hX.s 8 rfl) (hX.r 8 0 rfl) (sx_gI q69 2 rfl fk_5_20 rfl (hX.s 1 rfl) (hX.b 1) (sx_p (pc' := 10) (lv' := [.ref (X + 8), .ref s, .int (D.1 (X + 1) 2), .int (ni 0), sm_junk, sm_junk, sm_junk, sm_junk]) (st' := []) q69 3 3 rfl (sm_ge.refl _))))))
/-! MessageTree$DateText.readDays -/
theorem q70 : sm_q 70 5 sm_i70 9 := ⟨rfl, rfl, rfl⟩
set_option maxRecDepth 8000 in
theorem n70_44 {C : sm_K} {X : Nat} {v1 : Int32} {v2 : Int32} (hX : sm_Lay C X) {D : sm_D} : sm_ge (sm_fx C 70 44 [.ref (X + 8), .int v1, .int v2, sm_junk, sm_junk, sm_junk, sm_junk, sm_junk, sm_junk] [] D) (
  sm_bv (sm_fe C 32 [.ref (X + 1)] D) (fun D1 =>
    sm_bi (sm_fe C 69 [.ref (X + 8), .ref (C.1.1 11)] D1) (fun x0 D2 =>
      sm_bv (sm_fe C 32 [.ref (X + 1)] D2) (fun D3 =>
        sm_bi (sm_fe C 38 [.ref (X + 1), .int (ni 4)] D3) (fun x1 D4 =>
          if (ni 1600) ≤ x1 then
            sm_fx C 70 101 [.ref (X + 8), .int v1, .int v2, .int x0, sm_junk, .int x1, sm_junk, sm_junk, sm_junk] [] D4
          else
            sm_bv (sm_fe C 29 [.ref (X + 1), .int (D3.1 (X + 1) 2)] D4) (fun D5 =>
              sm_fx C 70 101 [.ref (X + 8), .int v1, .int v2, .int x0, sm_junk, .int x1, sm_junk, sm_junk, sm_junk] [] D5)))))) := 
  (sx_p (pc' := 45) (lv' := [.ref (X + 8), .int v1, .int v2, sm_junk, sm_junk, sm_junk, sm_junk, sm_junk, sm_junk]) (st' := [.ref (X + 8)]) q70 23 1 rfl (sx_gR q70 24 rfl fk_5_9 (fun _ _ => rfl) (hX.s 8 rfl) (hX.r 8 0 rfl) (sx_kv (sx_V q70 25 rfl lk_5_15 vk_32 na_32 rfl rfl rfl rfl (hX.s 1 rfl)) (by decide) rfl (fun D1 => (sx_p (pc' := 52) (lv' := [.ref (X + 8), .int v1, .int v2, sm_junk, sm_junk, sm_junk, sm_junk, sm_junk, sm_junk]) (st' := [.ref (X + 8)]) q70 26 1 rfl (sx_cs q70 27 rfl (Or.inl ⟨rfl, rfl⟩) cs_5_89 (sx_ki (sx_V q70 28 rfl lk_5_75 vk_69 na_69 rfl rfl rfl rfl (hX.s 8 rfl)) (by decide) rfl (fun x0 D2 => (sx_p (pc' := 59) (lv' := [.ref (X + 8), .int v1, .int v2, .int x0, sm_junk, sm_junk, sm_junk, sm_junk, sm_junk]) (st' := [.ref (X + 8)]) q70 29 2 rfl (sx_gR q70 31 rfl fk_5_9 (fun _ _ => rfl) (hX.s 8 rfl) (hX.r 8 0 rfl) (sx_kv (sx_V q70 32 rfl lk_5_15 vk_32 na_32 rfl rfl rfl rfl (hX.s 1 rfl)) (by decide) rfl (fun D3 => (sx_p (pc' := 66) (lv' := [.ref (X + 8), .int v1, .int v2, .int x0, sm_junk, sm_junk, sm_junk, sm_junk, sm_junk]) (st' := [.ref (X + 8)]) q70 33 1 rfl (sx_gR q70 34 rfl fk_5_9 (fun _ _ => rfl) (hX.s 8 rfl) (hX.r 8 0 rfl) (sx_gI q70 35 rfl fk_5_20 rfl (hX.s 1 rfl) (hX.b 1) (sx_p (pc' := 75) (lv' := [.ref (X + 8), .int v1, .int v2, .int x0, .int (D3.1 (X + 1) 2), sm_junk, sm_junk, sm_junk, sm_junk]) (st' := [.ref (X + 8)]) q70 36 2 rfl (sx_gR q70 38 rfl fk_5_9 (fun _ _ => rfl) (hX.s 8 rfl) (hX.r 8 0 rfl) (sx_p (pc' := 79) (lv' := [.ref (X + 8), .int v1, .int v2, .int x0, .int (D3.1 (X + 1) 2), sm_junk, sm_junk, sm_junk, sm_junk]) (st' := [.int (ni 4), .ref (X + 1)]) q70 39 1 rfl (sx_ki (sx_V q70 40 rfl lk_5_82 vk_38 na_38 rfl rfl rfl rfl (hX.s 1 rfl)) (by decide) rfl (fun x1 D4 => (sx_p (pc' := 89) (lv' := [.ref (X + 8), .int v1, .int v2, .int x0, .int (D3.1 (X + 1) 2), .int x1, sm_junk, sm_junk, sm_junk]) (st' := [.int (ni 1600), .int x1]) q70 41 3 rfl (sx_icmp_ge q70 44 rfl rfl (sx_w (lv := [.ref (X + 8), .int v1, .int v2, .int x0, .int (D3.1 (X + 1) 2), .int x1, sm_junk, sm_junk, sm_junk]) (lv' := [.ref (X + 8), .int v1, .int v2, .int x0, sm_junk, .int x1, sm_junk, sm_junk, sm_junk]) (sm_ordl.ord ⟨Or.inr rfl, Or.inr rfl, Or.inr rfl, Or.inr rfl, Or.inl rfl, Or.inr rfl, Or.inl rfl, Or.inl rfl, Or.inl rfl, trivial⟩)) (sx_p (pc' := 93) (lv' := [.ref (X + 8), .int v1, .int v2, .int x0, .int (D3.1 (X + 1) 2), .int x1, sm_junk, sm_junk, sm_junk]) (st' := [.ref (X + 8)]) q70 45 1 rfl (sx_gR q70 46 rfl fk_5_9 (fun _ _ => rfl) (hX.s 8 rfl) (hX.r 8 0 rfl) (sx_p (pc' := 98) (lv' := [.ref (X + 8), .int v1, .int v2, .int x0, .int (D3.1 (X + 1) 2), .int x1, sm_junk, sm_junk, sm_junk]) (st' := [.int (D3.1 (X + 1) 2), .ref (X + 1)]) q70 47 1 rfl (sx_kv (sx_V q70 48 rfl lk_5_51 vk_29 na_29 rfl rfl rfl rfl (hX.s 1 rfl)) (by decide) rfl (fun D5 => (sx_w (lv := [.ref (X + 8), .int v1, .int v2, .int x0, .int (D3.1 (X + 1) 2), .int x1, sm_junk, sm_junk, sm_junk]) (lv' := [.ref (X + 8), .int v1, .int v2, .int x0, sm_junk, .int x1, sm_junk, sm_junk, sm_junk]) (sm_ordl.ord ⟨Or.inr rfl, Or.inr rfl, Or.inr rfl, Or.inr rfl, Or.inl rfl, Or.inr rfl, Or.inl rfl, Or.inl rfl, Or.inl rfl, trivial⟩)))))))))))))))))))))))))))))
set_option maxRecDepth 8000 in
theorem n70_101 {C : sm_K} {X : Nat} {v1 : Int32} {v2 : Int32} {v3 : Int32} {v5 : Int32} (hX : sm_Lay C X) {D : sm_D} : sm_ge (sm_fx C 70 101 [.ref (X + 8), .int v1, .int v2, .int v3, sm_junk, .int v5, sm_junk, sm_junk, sm_junk] [] D) (
  if v2 < (ni 1) then
    sm_fx C 70 116 [.ref (X + 8), .int v1, .int v2, .int v3, sm_junk, .int v5, sm_junk, sm_junk, sm_junk] [] D
  else
    sm_bi (sm_fe C 71 [.int v3, .int v5] D) (fun x0 D1 =>
      if v2 ≤ x0 then
        sm_fx C 70 124 [sm_junk, sm_junk, .int v2, .int v3, sm_junk, .int v5, sm_junk, sm_junk, sm_junk] [] D1
      else
        sm_fx C 70 116 [.ref (X + 8), .int v1, .int v2, .int v3, sm_junk, .int v5, sm_junk, sm_junk, sm_junk] [] D1)) := 
  (sx_p (pc' := 103) (lv' := [.ref (X + 8), .int v1, .int v2, .int v3, sm_junk, .int v5, sm_junk, sm_junk, sm_junk]) (st' := [.int (ni 1), .int v2]) q70 49 2 rfl (sx_icmp_lt q70 51 rfl rfl (sm_ge.refl _) (sx_p (pc' := 110) (lv' := [.ref (X + 8), .int v1, .int v2, .int v3, sm_junk, .int v5, sm_junk, sm_junk, sm_junk]) (st' := [.int v5, .int v3, .int v2]) q70 52 3 rfl (sx_ki (sx_S q70 55 rfl lk_5_91 rfl na_71 rfl rfl rfl rfl) (by decide) rfl (fun x0 D1 => (sx_icmp_le q70 56 rfl rfl (sx_w (lv := [.ref (X + 8), .int v1, .int v2, .int v3, sm_junk, .int v5, sm_junk, sm_junk, sm_junk]) (lv' := [sm_junk, sm_junk, .int v2, .int v3, sm_junk, .int v5, sm_junk, sm_junk, sm_junk]) (sm_ordl.ord ⟨Or.inl rfl, Or.inl rfl, Or.inr rfl, Or.inr rfl, Or.inl rfl, Or.inr rfl, Or.inl rfl, Or.inl rfl, Or.inl rfl, trivial⟩)) (sm_ge.refl _)))))))
set_option maxRecDepth 8000 in
theorem n70_116 {C : sm_K} {X : Nat} {v1 : Int32} {v2 : Int32} {v3 : Int32} {v5 : Int32} (hX : sm_Lay C X) {D : sm_D} : sm_ge (sm_fx C 70 116 [.ref (X + 8), .int v1, .int v2, .int v3, sm_junk, .int v5, sm_junk, sm_junk, sm_junk] [] D) (
  sm_bv (sm_fe C 29 [.ref (X + 1), .int v1] D) (fun D1 =>
    sm_fx C 70 124 [sm_junk, sm_junk, .int v2, .int v3, sm_junk, .int v5, sm_junk, sm_junk, sm_junk] [] D1)) := 
  (sx_p (pc' := 117) (lv' := [.ref (X + 8), .int v1, .int v2, .int v3, sm_junk, .int v5, sm_junk, sm_junk, sm_junk]) (st' := [.ref (X + 8)]) q70 57 1 rfl (sx_gR q70 58 rfl fk_5_9 (fun _ _ => rfl) (hX.s 8 rfl) (hX.r 8 0 rfl) (sx_p (pc' := 121) (lv' := [.ref (X + 8), .int v1, .int v2, .int v3, sm_junk, .int v5, sm_junk, sm_junk, sm_junk]) (st' := [.int v1, .ref (X + 1)]) q70 59 1 rfl (sx_kv (sx_V q70 60 rfl lk_5_51 vk_29 na_29 rfl rfl rfl rfl (hX.s 1 rfl)) (by decide) rfl (fun D1 => (sx_w (lv := [.ref (X + 8), .int v1, .int v2, .int v3, sm_junk, .int v5, sm_junk, sm_junk, sm_junk]) (lv' := [sm_junk, sm_junk, .int v2, .int v3, sm_junk, .int v5, sm_junk, sm_junk, sm_junk]) (sm_ordl.ord ⟨Or.inl rfl, Or.inl rfl, Or.inr rfl, Or.inr rfl, Or.inl rfl, Or.inr rfl, Or.inl rfl, Or.inl rfl, Or.inl rfl, trivial⟩)))))))
set_option maxRecDepth 8000 in
theorem n70_124 {C : sm_K} {X : Nat} {v2 : Int32} {v3 : Int32} {v5 : Int32} (hX : sm_Lay C X) {D : sm_D} : sm_ge (sm_fx C 70 124 [sm_junk, sm_junk, .int v2, .int v3, sm_junk, .int v5, sm_junk, sm_junk, sm_junk] [] D) (
  sm_bj (sm_fe C 72 [.int v5] D) (fun x0 D1 =>
    sm_fx C 70 139 [sm_junk, sm_junk, sm_junk, .int v3, sm_junk, .int v5, .long ((x0 + (v2.toInt64)) - (Int64.ofNat 1)), sm_junk, .int (ni 0)] [] D1)) := 
  (sx_p (pc' := 126) (lv' := [sm_junk, sm_junk, .int v2, .int v3, sm_junk, .int v5, sm_junk, sm_junk, sm_junk]) (st' := [.int v5]) q70 61 1 rfl (sx_kj (sx_S q70 62 rfl lk_5_95 rfl na_72 rfl rfl rfl rfl) (by decide) rfl (fun x0 D1 => (sx_p (pc' := 139) (lv' := [sm_junk, sm_junk, .int v2, .int v3, sm_junk, .int v5, .long ((x0 + (v2.toInt64)) - (Int64.ofNat 1)), sm_junk, .int (ni 0)]) (st' := []) q70 63 8 rfl (sx_w (lv := [sm_junk, sm_junk, .int v2, .int v3, sm_junk, .int v5, .long ((x0 + (v2.toInt64)) - (Int64.ofNat 1)), sm_junk, .int (ni 0)]) (lv' := [sm_junk, sm_junk, sm_junk, .int v3, sm_junk, .int v5, .long ((x0 + (v2.toInt64)) - (Int64.ofNat 1)), sm_junk, .int (ni 0)]) (sm_ordl.ord ⟨Or.inl rfl, Or.inl rfl, Or.inl rfl, Or.inr rfl, Or.inl rfl, Or.inr rfl, Or.inr rfl, Or.inl rfl, Or.inr rfl, trivial⟩))))))
set_option maxRecDepth 8000 in
theorem n70_139 {C : sm_K} {X : Nat} {v3 : Int32} {v5 : Int32} {v6 : Int64} {v8 : Int32} (hX : sm_Lay C X) {D : sm_D} : sm_ge (sm_fx C 70 139 [sm_junk, sm_junk, sm_junk, .int v3, sm_junk, .int v5, .long v6, sm_junk, .int v8] [] D) (
  if v3 ≤ v8 then
    some (.inl (some (.long v6)), D)
  else
    sm_bi (sm_fe C 71 [.int v8, .int v5] D) (fun x0 D1 =>
      sm_fx C 70 139 [sm_junk, sm_junk, sm_junk, .int v3, sm_junk, .int v5, .long (v6 + (x0.toInt64)), sm_junk, .int (v8 + ni 1)] [] D1)) := 
  (sx_p (pc' := 142) (lv' := [sm_junk, sm_junk, sm_junk, .int v3, sm_junk, .int v5, .long v6, sm_junk, .int v8]) (st' := [.int v3, .int v8]) q70 71 2 rfl (sx_icmp_ge q70 73 rfl rfl (sx_p (pc' := 166) (lv' := [sm_junk, sm_junk, sm_junk, .int v3, sm_junk, .int v5, .long v6, sm_junk, .int v8]) (st' := [.long v6]) q70 83 1 rfl (sx_rj q70 84 rfl rfl)) (sx_p (pc' := 151) (lv' := [sm_junk, sm_junk, sm_junk, .int v3, sm_junk, .int v5, .long v6, sm_junk, .int v8]) (st' := [.int v5, .int v8, .long v6]) q70 74 3 rfl (sx_ki (sx_S q70 77 rfl lk_5_91 rfl na_71 rfl rfl rfl rfl) (by decide) rfl (fun x0 D1 => (sx_p (pc' := 139) (lv' := [sm_junk, sm_junk, sm_junk, .int v3, sm_junk, .int v5, .long (v6 + (x0.toInt64)), sm_junk, .int (v8 + ni 1)]) (st' := []) q70 78 5 rfl (sm_ge.refl _)))))))
set_option maxRecDepth 8000 in
theorem f70 {C : sm_K} {X : Nat} (hX : sm_Lay C X) {D : sm_D} : sm_ge (sm_fe C 70 [.ref (X + 8)] D) (
  sm_bi (sm_fe C 38 [.ref (X + 1), .int (ni 1)] D) (fun x0 D1 =>
    sm_bi (sm_fe C 6 [.int (D1.1 (X + 1) 4)] D1) (fun x1 D2 =>
      if x1 = ni 0 then
        sm_fx C 70 44 [.ref (X + 8), .int (D.1 (X + 1) 2), .int x0, sm_junk, sm_junk, sm_junk, sm_junk, sm_junk, sm_junk] [] D2
      else
        sm_bi (sm_fe C 38 [.ref (X + 1), .int (ni 1)] D2) (fun x2 D3 =>
          sm_fx C 70 44 [.ref (X + 8), .int (D.1 (X + 1) 2), .int ((x0 * (ni 10)) + x2), sm_junk, sm_junk, sm_junk, sm_junk, sm_junk, sm_junk] [] D3)))) := by
  rw [sx_fe (m := 9) rfl rfl]
  exact (show sm_ge (sm_fx C 70 0 [.ref (X + 8), sm_junk, sm_junk, sm_junk, sm_junk, sm_junk, sm_junk, sm_junk, sm_junk] [] D) _ from (sx_p (pc' := 1) (lv' := [.ref (X + 8), sm_junk, sm_junk, sm_junk, sm_junk, sm_junk, sm_junk, sm_junk, sm_junk]) (st' := [.ref (X + 8)]) q70 0 1 rfl (sx_gR q70 1 rfl fk_5_9 (fun _ _ => rfl) (hX.s 8 rfl) (hX.r 8 0 rfl) (sx_gI q70 2 rfl fk_5_20 rfl (hX.s 1 rfl) (hX.b 1) (sx_p (pc' := 9) (lv' := [.ref (X + 8), .int (D.1 (X + 1) 2), sm_junk, sm_junk, sm_junk, sm_junk, sm_junk, sm_junk, sm_junk]) (st' := [.ref (X + 8)]) q70 3 2 rfl (sx_gR q70 5 rfl fk_5_9 (fun _ _ => rfl) (hX.s 8 rfl) (hX.r 8 0 rfl) (sx_p (pc' := 13) (lv' := [.ref (X + 8), .int (D.1 (X + 1) 2), sm_junk, sm_junk, sm_junk, sm_junk, sm_junk, sm_junk, sm_junk]) (st' := [.int (ni 1), .ref (X + 1)]) q70 6 1 rfl (sx_ki (sx_V q70 7 rfl lk_5_82 vk_38 na_38 rfl rfl rfl rfl (hX.s 1 rfl)) (by decide) rfl (fun x0 D1 => (sx_p (pc' := 18) (lv' := [.ref (X + 8), .int (D.1 (X + 1) 2), .int x0, sm_junk, sm_junk, sm_junk, sm_junk, sm_junk, sm_junk]) (st' := [.ref (X + 8)]) q70 8 2 rfl (sx_gR q70 10 rfl fk_5_9 (fun _ _ => rfl) (hX.s 8 rfl) (hX.r 8 0 rfl) (sx_gI q70 11 rfl fk_5_66 rfl (hX.s 1 rfl) (hX.b 1) (sx_ki (sx_S q70 12 rfl lk_5_86 rfl na_6 rfl rfl rfl rfl) (by decide) rfl (fun x1 D2 => (sx_if_eq q70 13 rfl rfl (sm_ge.refl _) (sx_p (pc' := 35) (lv' := [.ref (X + 8), .int (D.1 (X + 1) 2), .int x0, sm_junk, sm_junk, sm_junk, sm_junk, sm_junk, sm_junk]) (st' := [.ref (X + 8), .int (x0 * (ni 10))]) q70 14 4 rfl (sx_gR q70 18 rfl fk_5_9 (fun _ _ => rfl) (hX.s 8 rfl) (hX.r 8 0 rfl) (sx_p (pc' := 39) (lv' := [.ref (X + 8), .int (D.1 (X + 1) 2), .int x0, sm_junk, sm_junk, sm_junk, sm_junk, sm_junk, sm_junk]) (st' := [.int (ni 1), .ref (X + 1), .int (x0 * (ni 10))]) q70 19 1 rfl (sx_ki (sx_V q70 20 rfl lk_5_82 vk_38 na_38 rfl rfl rfl rfl (hX.s 1 rfl)) (by decide) rfl (fun x2 D3 => (sx_p (pc' := 44) (lv' := [.ref (X + 8), .int (D.1 (X + 1) 2), .int ((x0 * (ni 10)) + x2), sm_junk, sm_junk, sm_junk, sm_junk, sm_junk, sm_junk]) (st' := []) q70 21 2 rfl (sm_ge.refl _))))))))))))))))))))))
/-! MessageTree$DateText.daysOfMonth -/
theorem q71 : sm_q 71 5 sm_i71 0 := ⟨rfl, rfl, rfl⟩
set_option maxRecDepth 8000 in
theorem n71_39 {C : sm_K} {v0 : Int32} (hM : sm_md C) {D : sm_D} : sm_ge (sm_fx C 71 39 [.int v0, sm_junk, sm_junk] [] D) (
  sm_fx C 71 40 [.int v0, sm_junk, sm_junk] [.int (ni 0)] D) := 
  (sx_p (pc' := 40) (lv' := [.int v0, sm_junk, sm_junk]) (st' := [.int (ni 0)]) q71 22 1 rfl (sm_ge.refl _))
set_option maxRecDepth 8000 in
theorem n71_40 {C : sm_K} {v0 : Int32} {s0 : Int32} (hM : sm_md C) {D : sm_D} : sm_ge (sm_fx C 71 40 [.int v0, sm_junk, sm_junk] [.int s0] D) (
  if v0 = (ni 1) then
    if s0 = ni 0 then
      sm_gu (sm_in_b v0 12) (
      some (.inl (some (.int (C.2.2.2 (C.1.1 71) v0.toNatClampNeg))), D))
    else
      some (.inl (some (.int (ni 29))), D)
  else
    sm_gu (sm_in_b v0 12) (
    some (.inl (some (.int (C.2.2.2 (C.1.1 71) v0.toNatClampNeg))), D))) := 
  (sx_p (pc' := 43) (lv' := [.int v0, sm_junk, .int s0]) (st' := [.int (ni 1), .int v0]) q71 23 3 rfl (sx_icmp_ne q71 26 rfl rfl (sx_gs q71 31 rfl gs_5_99 (sx_p (pc' := 59) (lv' := [.int v0, sm_junk, .int s0]) (st' := [.int v0, .ref (C.1.1 71)]) q71 32 1 rfl (sx_ialo q71 33 rfl hM.1 hM.2 (sx_ri (ty := .int) q71 34 rfl rfl)))) (sx_p (pc' := 47) (lv' := [.int v0, sm_junk, .int s0]) (st' := [.int s0]) q71 27 1 rfl (sx_if_eq q71 28 rfl rfl (sx_gs q71 31 rfl gs_5_99 (sx_p (pc' := 59) (lv' := [.int v0, sm_junk, .int s0]) (st' := [.int v0, .ref (C.1.1 71)]) q71 32 1 rfl (sx_ialo q71 33 rfl hM.1 hM.2 (sx_ri (ty := .int) q71 34 rfl rfl)))) (sx_p (pc' := 60) (lv' := [.int v0, sm_junk, .int s0]) (st' := [.int (ni 29)]) q71 29 2 rfl (sx_ri (ty := .int) q71 34 rfl rfl))))))
set_option maxRecDepth 8000 in
theorem f71 {C : sm_K} {v0 : Int32} {v1 : Int32} (hM : sm_md C) {D : sm_D} : sm_ge (sm_fe C 71 [.int v0, .int v1] D) (
  if v0 < ni 0 then
    some (.inl (some (.int (ni 0))), D)
  else
    if v0 < (ni 12) then
      if (v1 - v1 / (ni 4) * (ni 4)) = ni 0 then
        if (v1 - v1 / (ni 100) * (ni 100)) = ni 0 then
          if (v1 - v1 / (ni 400) * (ni 400)) = ni 0 then
            sm_fx C 71 40 [.int v0, sm_junk, sm_junk] [.int (ni 1)] D
          else
            sm_fx C 71 39 [.int v0, sm_junk, sm_junk] [] D
        else
          sm_fx C 71 40 [.int v0, sm_junk, sm_junk] [.int (ni 1)] D
      else
        sm_fx C 71 39 [.int v0, sm_junk, sm_junk] [] D
    else
      some (.inl (some (.int (ni 0))), D)) := by
  rw [sx_fe (m := 3) rfl rfl]
  exact (show sm_ge (sm_fx C 71 0 [.int v0, .int v1, sm_junk] [] D) _ from (sx_p (pc' := 1) (lv' := [.int v0, .int v1, sm_junk]) (st' := [.int v0]) q71 0 1 rfl (sx_if_lt q71 1 rfl rfl (sx_p (pc' := 13) (lv' := [.int v0, .int v1, sm_junk]) (st' := [.int (ni 0)]) q71 6 1 rfl (sx_ri (ty := .int) q71 7 rfl rfl)) (sx_p (pc' := 5) (lv' := [.int v0, .int v1, sm_junk]) (st' := [.int v0]) q71 2 1 rfl (sx_gs q71 3 rfl gs_5_99 (sx_al q71 4 rfl hM.1 (sx_icmp_lt q71 5 rfl rfl (sx_p (pc' := 17) (lv' := [.int v0, .int v1, sm_junk]) (st' := [.int (v1 - v1 / (ni 4) * (ni 4))]) q71 8 3 rfl (sx_if_ne q71 11 rfl rfl (sx_w (lv := [.int v0, .int v1, sm_junk]) (lv' := [.int v0, sm_junk, sm_junk]) (sm_ordl.ord ⟨Or.inr rfl, Or.inl rfl, Or.inl rfl, trivial⟩)) (sx_p (pc' := 24) (lv' := [.int v0, .int v1, sm_junk]) (st' := [.int (v1 - v1 / (ni 100) * (ni 100))]) q71 12 3 rfl (sx_if_ne q71 15 rfl rfl (sx_p (pc' := 40) (lv' := [.int v0, .int v1, sm_junk]) (st' := [.int (ni 1)]) q71 20 2 rfl (sx_w (lv := [.int v0, .int v1, sm_junk]) (lv' := [.int v0, sm_junk, sm_junk]) (sm_ordl.ord ⟨Or.inr rfl, Or.inl rfl, Or.inl rfl, trivial⟩))) (sx_p (pc' := 32) (lv' := [.int v0, .int v1, sm_junk]) (st' := [.int (v1 - v1 / (ni 400) * (ni 400))]) q71 16 3 rfl (sx_if_ne q71 19 rfl rfl (sx_w (lv := [.int v0, .int v1, sm_junk]) (lv' := [.int v0, sm_junk, sm_junk]) (sm_ordl.ord ⟨Or.inr rfl, Or.inl rfl, Or.inl rfl, trivial⟩)) (sx_p (pc' := 40) (lv' := [.int v0, .int v1, sm_junk]) (st' := [.int (ni 1)]) q71 20 2 rfl (sx_w (lv := [.int v0, .int v1, sm_junk]) (lv' := [.int v0, sm_junk, sm_junk]) (sm_ordl.ord ⟨Or.inr rfl, Or.inl rfl, Or.inl rfl, trivial⟩))))))))) (sx_p (pc' := 13) (lv' := [.int v0, .int v1, sm_junk]) (st' := [.int (ni 0)]) q71 6 1 rfl (sx_ri (ty := .int) q71 7 rfl rfl)))))))))
/-! MessageTree$DateText.daysBeforeYear -/
theorem q72 : sm_q 72 5 sm_i72 0 := ⟨rfl, rfl, rfl⟩
set_option maxRecDepth 8000 in
theorem f72 {C : sm_K} {v0 : Int32} {D : sm_D} : sm_ge (sm_fe C 72 [.int v0] D) (
  some (.inl (some (.long ((((((365 : Int64) * ((v0 - (ni 1)).toInt64)) + (((v0 - (ni 1)) / (ni 4)).toInt64)) - (((v0 - (ni 1)) / (ni 100)).toInt64)) + (((v0 - (ni 1)) / (ni 400)).toInt64)) - (719162 : Int64)))), D)) := by
  rw [sx_fe (m := 2) rfl rfl]
  exact (show sm_ge (sm_fx C 72 0 [.int v0, sm_junk] [] D) _ from (sx_p (pc' := 4) (lv' := [.int v0, .int (v0 - (ni 1))]) (st' := []) q72 0 4 rfl (sx_cj q72 4 rfl cj_5_103 (sx_p (pc' := 28) (lv' := [.int v0, .int (v0 - (ni 1))]) (st' := [.long (((((365 : Int64) * ((v0 - (ni 1)).toInt64)) + (((v0 - (ni 1)) / (ni 4)).toInt64)) - (((v0 - (ni 1)) / (ni 100)).toInt64)) + (((v0 - (ni 1)) / (ni 400)).toInt64))]) q72 5 18 rfl (sx_cj q72 23 rfl cj_5_105 (sx_p (pc' := 32) (lv' := [.int v0, .int (v0 - (ni 1))]) (st' := [.long ((((((365 : Int64) * ((v0 - (ni 1)).toInt64)) + (((v0 - (ni 1)) / (ni 4)).toInt64)) - (((v0 - (ni 1)) / (ni 100)).toInt64)) + (((v0 - (ni 1)) / (ni 400)).toInt64)) - (719162 : Int64))]) q72 24 1 rfl (sx_rj q72 25 rfl rfl)))))))
/-! MessageTree$DateText.readTime -/
theorem q73 : sm_q 73 5 sm_i73 9 := ⟨rfl, rfl, rfl⟩
set_option maxRecDepth 8000 in
theorem f73 {C : sm_K} {X : Nat} (hX : sm_Lay C X) {D : sm_D} : sm_ge (sm_fe C 73 [.ref (X + 8)] D) (
  sm_bi (sm_fe C 74 [.ref (X + 8), .int (ni 23)] D) (fun x0 D1 =>
    sm_bv (sm_fe C 32 [.ref (X + 1)] D1) (fun D2 =>
      sm_bv (sm_fe C 35 [.ref (X + 1), .int (ni 58)] D2) (fun D3 =>
        sm_bv (sm_fe C 32 [.ref (X + 1)] D3) (fun D4 =>
          sm_bi (sm_fe C 74 [.ref (X + 8), .int (ni 59)] D4) (fun x1 D5 =>
            sm_bv (sm_fe C 32 [.ref (X + 1)] D5) (fun D6 =>
              if (D6.1 (X + 1) 4) = (ni 58) then
                sm_bv (sm_fe C 31 [.ref (X + 1)] D6) (fun D7 =>
                  sm_bv (sm_fe C 32 [.ref (X + 1)] D7) (fun D8 =>
                    sm_bi (sm_fe C 74 [.ref (X + 8), .int (ni 59)] D8) (fun x2 D9 =>
                      some (.inl (some (.int (((x0 * (ni 3600)) + (x1 * (ni 60))) + x2))), D9))))
              else
                some (.inl (some (.int ((x0 * (ni 3600)) + (x1 * (ni 60))))), D6)))))))) := by
  rw [sx_fe (m := 2) rfl rfl]
  exact (show sm_ge (sm_fx C 73 0 [.ref (X + 8), sm_junk] [] D) _ from (sx_p (pc' := 3) (lv' := [.ref (X + 8), sm_junk]) (st' := [.int (ni 23), .ref (X + 8)]) q73 0 2 rfl (sx_ki (sx_V q73 2 rfl lk_5_131 vk_74 na_74 rfl rfl rfl rfl (hX.s 8 rfl)) (by decide) rfl (fun x0 D1 => (sx_p (pc' := 12) (lv' := [.ref (X + 8), .int (x0 * (ni 3600))]) (st' := [.ref (X + 8)]) q73 3 4 rfl (sx_gR q73 7 rfl fk_5_9 (fun _ _ => rfl) (hX.s 8 rfl) (hX.r 8 0 rfl) (sx_kv (sx_V q73 8 rfl lk_5_15 vk_32 na_32 rfl rfl rfl rfl (hX.s 1 rfl)) (by decide) rfl (fun D2 => (sx_p (pc' := 19) (lv' := [.ref (X + 8), .int (x0 * (ni 3600))]) (st' := [.ref (X + 8)]) q73 9 1 rfl (sx_gR q73 10 rfl fk_5_9 (fun _ _ => rfl) (hX.s 8 rfl) (hX.r 8 0 rfl) (sx_p (pc' := 24) (lv' := [.ref (X + 8), .int (x0 * (ni 3600))]) (st' := [.int (ni 58), .ref (X + 1)]) q73 11 1 rfl (sx_kv (sx_V q73 12 rfl lk_5_79 vk_35 na_35 rfl rfl rfl rfl (hX.s 1 rfl)) (by decide) rfl (fun D3 => (sx_p (pc' := 28) (lv' := [.ref (X + 8), .int (x0 * (ni 3600))]) (st' := [.ref (X + 8)]) q73 13 1 rfl (sx_gR q73 14 rfl fk_5_9 (fun _ _ => rfl) (hX.s 8 rfl) (hX.r 8 0 rfl) (sx_kv (sx_V q73 15 rfl lk_5_15 vk_32 na_32 rfl rfl rfl rfl (hX.s 1 rfl)) (by decide) rfl (fun D4 => (sx_p (pc' := 38) (lv' := [.ref (X + 8), .int (x0 * (ni 3600))]) (st' := [.int (ni 59), .ref (X + 8), .int (x0 * (ni 3600))]) q73 16 3 rfl (sx_ki (sx_V q73 19 rfl lk_5_131 vk_74 na_74 rfl rfl rfl rfl (hX.s 8 rfl)) (by decide) rfl (fun x1 D5 => (sx_p (pc' := 47) (lv' := [.ref (X + 8), .int ((x0 * (ni 3600)) + (x1 * (ni 60)))]) (st' := [.ref (X + 8)]) q73 20 5 rfl (sx_gR q73 25 rfl fk_5_9 (fun _ _ => rfl) (hX.s 8 rfl) (hX.r 8 0 rfl) (sx_kv (sx_V q73 26 rfl lk_5_15 vk_32 na_32 rfl rfl rfl rfl (hX.s 1 rfl)) (by decide) rfl (fun D6 => (sx_p (pc' := 54) (lv' := [.ref (X + 8), .int ((x0 * (ni 3600)) + (x1 * (ni 60)))]) (st' := [.ref (X + 8)]) q73 27 1 rfl (sx_gR q73 28 rfl fk_5_9 (fun _ _ => rfl) (hX.s 8 rfl) (hX.r 8 0 rfl) (sx_gI q73 29 rfl fk_5_66 rfl (hX.s 1 rfl) (hX.b 1) (sx_p (pc' := 62) (lv' := [.ref (X + 8), .int ((x0 * (ni 3600)) + (x1 * (ni 60)))]) (st' := [.int (ni 58), .int (D6.1 (X + 1) 4)]) q73 30 1 rfl (sx_icmp_ne q73 31 rfl rfl (sx_p (pc' := 89) (lv' := [.ref (X + 8), .int ((x0 * (ni 3600)) + (x1 * (ni 60)))]) (st' := [.int ((x0 * (ni 3600)) + (x1 * (ni 60)))]) q73 44 1 rfl (sx_ri (ty := .int) q73 45 rfl rfl)) (sx_p (pc' := 66) (lv' := [.ref (X + 8), .int ((x0 * (ni 3600)) + (x1 * (ni 60)))]) (st' := [.ref (X + 8)]) q73 32 1 rfl (sx_gR q73 33 rfl fk_5_9 (fun _ _ => rfl) (hX.s 8 rfl) (hX.r 8 0 rfl) (sx_kv (sx_V q73 34 rfl lk_5_107 vk_31 na_31 rfl rfl rfl rfl (hX.s 1 rfl)) (by decide) rfl (fun D7 => (sx_p (pc' := 73) (lv' := [.ref (X + 8), .int ((x0 * (ni 3600)) + (x1 * (ni 60)))]) (st' := [.ref (X + 8)]) q73 35 1 rfl (sx_gR q73 36 rfl fk_5_9 (fun _ _ => rfl) (hX.s 8 rfl) (hX.r 8 0 rfl) (sx_kv (sx_V q73 37 rfl lk_5_15 vk_32 na_32 rfl rfl rfl rfl (hX.s 1 rfl)) (by decide) rfl (fun D8 => (sx_p (pc' := 83) (lv' := [.ref (X + 8), .int ((x0 * (ni 3600)) + (x1 * (ni 60)))]) (st' := [.int (ni 59), .ref (X + 8), .int ((x0 * (ni 3600)) + (x1 * (ni 60)))]) q73 38 3 rfl (sx_ki (sx_V q73 41 rfl lk_5_131 vk_74 na_74 rfl rfl rfl rfl (hX.s 8 rfl)) (by decide) rfl (fun x2 D9 => (sx_p (pc' := 89) (lv' := [.ref (X + 8), .int (((x0 * (ni 3600)) + (x1 * (ni 60))) + x2)]) (st' := [.int (((x0 * (ni 3600)) + (x1 * (ni 60))) + x2)]) q73 42 3 rfl (sx_ri (ty := .int) q73 45 rfl rfl))))))))))))))))))))))))))))))))))))))))))
/-! MessageTree$DateText.readTwoDigits -/
theorem q74 : sm_q 74 5 sm_i74 8 := ⟨rfl, rfl, rfl⟩
set_option maxRecDepth 8000 in
theorem f74 {C : sm_K} {X : Nat} {v1 : Int32} (hX : sm_Lay C X) {D : sm_D} : sm_ge (sm_fe C 74 [.ref (X + 8), .int v1] D) (
  sm_bi (sm_fe C 38 [.ref (X + 1), .int (ni 2)] D) (fun x0 D1 =>
    if x0 ≤ v1 then
      some (.inl (some (.int x0)), D1)
    else
      sm_bv (sm_fe C 29 [.ref (X + 1), .int (D.1 (X + 1) 2)] D1) (fun D2 =>
        some (.inl (some (.int x0)), D2)))) := by
  rw [sx_fe (m := 4) rfl rfl]
  exact (show sm_ge (sm_fx C 74 0 [.ref (X + 8), .int v1, sm_junk, sm_junk] [] D) _ from (sx_p (pc' := 1) (lv' := [.ref (X + 8), .int v1, sm_junk, sm_junk]) (st' := [.ref (X + 8)]) q74 0 1 rfl (sx_gR q74 1 rfl fk_5_9 (fun _ _ => rfl) (hX.s 8 rfl) (hX.r 8 0 rfl) (sx_gI q74 2 rfl fk_5_20 rfl (hX.s 1 rfl) (hX.b 1) (sx_p (pc' := 9) (lv' := [.ref (X + 8), .int v1, .int (D.1 (X + 1) 2), sm_junk]) (st' := [.ref (X + 8)]) q74 3 2 rfl (sx_gR q74 5 rfl fk_5_9 (fun _ _ => rfl) (hX.s 8 rfl) (hX.r 8 0 rfl) (sx_p (pc' := 13) (lv' := [.ref (X + 8), .int v1, .int (D.1 (X + 1) 2), sm_junk]) (st' := [.int (ni 2), .ref (X + 1)]) q74 6 1 rfl (sx_ki (sx_V q74 7 rfl lk_5_82 vk_38 na_38 rfl rfl rfl rfl (hX.s 1 rfl)) (by decide) rfl (fun x0 D1 => (sx_p (pc' := 19) (lv' := [.ref (X + 8), .int v1, .int (D.1 (X + 1) 2), .int x0]) (st' := [.int v1, .int x0]) q74 8 3 rfl (sx_icmp_le q74 11 rfl rfl (sx_p (pc' := 31) (lv' := [.ref (X + 8), .int v1, .int (D.1 (X + 1) 2), .int x0]) (st' := [.int x0]) q74 16 1 rfl (sx_ri (ty := .int) q74 17 rfl rfl)) (sx_p (pc' := 23) (lv' := [.ref (X + 8), .int v1, .int (D.1 (X + 1) 2), .int x0]) (st' := [.ref (X + 8)]) q74 12 1 rfl (sx_gR q74 13 rfl fk_5_9 (fun _ _ => rfl) (hX.s 8 rfl) (hX.r 8 0 rfl) (sx_p (pc' := 27) (lv' := [.ref (X + 8), .int v1, .int (D.1 (X + 1) 2), .int x0]) (st' := [.int (D.1 (X + 1) 2), .ref (X + 1)]) q74 14 1 rfl (sx_kv (sx_V q74 15 rfl lk_5_51 vk_29 na_29 rfl rfl rfl rfl (hX.s 1 rfl)) (by decide) rfl (fun D2 => (sx_p (pc' := 31) (lv' := [.ref (X + 8), .int v1, .int (D.1 (X + 1) 2), .int x0]) (st' := [.int x0]) q74 16 1 rfl (sx_ri (ty := .int) q74 17 rfl rfl))))))))))))))))))
/-! MessageTree$DateText.readZone -/
theorem q75 : sm_q 75 5 sm_i75 9 := ⟨rfl, rfl, rfl⟩
set_option maxRecDepth 8000 in
theorem n75_17 {C : sm_K} {X : Nat} {s0 : Int32} (hX : sm_Lay C X) {D : sm_D} : sm_ge (sm_fx C 75 17 [.ref (X + 8), sm_junk, sm_junk, sm_junk] [.int s0] D) (
  if s0 = ni 0 then
    if (D.1 (X + 1) 4) = (ni 43) then
      sm_fx C 75 48 [.ref (X + 8), .int s0, sm_junk, sm_junk] [] D
    else
      sm_bv (sm_fe C 29 [.ref (X + 1), .int (D.1 (X + 1) 2)] D) (fun D1 =>
        sm_fx C 75 48 [.ref (X + 8), .int s0, sm_junk, sm_junk] [] D1)
  else
    sm_fx C 75 48 [.ref (X + 8), .int s0, sm_junk, sm_junk] [] D) := 
  (sx_p (pc' := 19) (lv' := [.ref (X + 8), .int s0, sm_junk, sm_junk]) (st' := [.int s0]) q75 8 2 rfl (sx_if_ne q75 10 rfl rfl (sm_ge.refl _) (sx_p (pc' := 23) (lv' := [.ref (X + 8), .int s0, sm_junk, sm_junk]) (st' := [.ref (X + 8)]) q75 11 1 rfl (sx_gR q75 12 rfl fk_5_9 (fun _ _ => rfl) (hX.s 8 rfl) (hX.r 8 0 rfl) (sx_gI q75 13 rfl fk_5_66 rfl (hX.s 1 rfl) (hX.b 1) (sx_p (pc' := 31) (lv' := [.ref (X + 8), .int s0, sm_junk, sm_junk]) (st' := [.int (ni 43), .int (D.1 (X + 1) 4)]) q75 14 1 rfl (sx_icmp_eq q75 15 rfl rfl (sm_ge.refl _) (sx_p (pc' := 35) (lv' := [.ref (X + 8), .int s0, sm_junk, sm_junk]) (st' := [.ref (X + 8)]) q75 16 1 rfl (sx_gR q75 17 rfl fk_5_9 (fun _ _ => rfl) (hX.s 8 rfl) (hX.r 8 0 rfl) (sx_p (pc' := 39) (lv' := [.ref (X + 8), .int s0, sm_junk, sm_junk]) (st' := [.ref (X + 8), .ref (X + 1)]) q75 18 1 rfl (sx_gR q75 19 rfl fk_5_9 (fun _ _ => rfl) (hX.s 8 rfl) (hX.r 8 0 rfl) (sx_gI q75 20 rfl fk_5_20 rfl (hX.s 1 rfl) (hX.b 1) (sx_kv (sx_V q75 21 rfl lk_5_51 vk_29 na_29 rfl rfl rfl rfl (hX.s 1 rfl)) (by decide) rfl (fun D1 => (sm_ge.refl _)))))))))))))))
set_option maxRecDepth 8000 in
theorem n75_48 {C : sm_K} {X : Nat} {v1 : Int32} (hX : sm_Lay C X) {D : sm_D} : sm_ge (sm_fx C 75 48 [.ref (X + 8), .int v1, sm_junk, sm_junk] [] D) (
  sm_bv (sm_fe C 31 [.ref (X + 1)] D) (fun D1 =>
    sm_bi (sm_fe C 74 [.ref (X + 8), .int (ni 23)] D1) (fun x0 D2 =>
      sm_bi (sm_fe C 74 [.ref (X + 8), .int (ni 59)] D2) (fun x1 D3 =>
        if v1 = ni 0 then
          some (.inl (some (.int ((x0 * (ni 60)) + x1))), D3)
        else
          some (.inl (some (.int (-((x0 * (ni 60)) + x1)))), D3))))) := 
  (sx_p (pc' := 49) (lv' := [.ref (X + 8), .int v1, sm_junk, sm_junk]) (st' := [.ref (X + 8)]) q75 22 1 rfl (sx_gR q75 23 rfl fk_5_9 (fun _ _ => rfl) (hX.s 8 rfl) (hX.r 8 0 rfl) (sx_kv (sx_V q75 24 rfl lk_5_107 vk_31 na_31 rfl rfl rfl rfl (hX.s 1 rfl)) (by decide) rfl (fun D1 => (sx_p (pc' := 58) (lv' := [.ref (X + 8), .int v1, sm_junk, sm_junk]) (st' := [.int (ni 23), .ref (X + 8)]) q75 25 2 rfl (sx_ki (sx_V q75 27 rfl lk_5_131 vk_74 na_74 rfl rfl rfl rfl (hX.s 8 rfl)) (by decide) rfl (fun x0 D2 => (sx_p (pc' := 65) (lv' := [.ref (X + 8), .int v1, .int x0, sm_junk]) (st' := [.int (ni 59), .ref (X + 8)]) q75 28 3 rfl (sx_ki (sx_V q75 31 rfl lk_5_131 vk_74 na_74 rfl rfl rfl rfl (hX.s 8 rfl)) (by decide) rfl (fun x1 D3 => (sx_p (pc' := 70) (lv' := [.ref (X + 8), .int v1, .int x0, .int x1]) (st' := [.int v1]) q75 32 2 rfl (sx_if_eq q75 34 rfl rfl (sx_p (pc' := 89) (lv' := [.ref (X + 8), .int v1, .int x0, .int x1]) (st' := [.int ((x0 * (ni 60)) + x1)]) q75 42 5 rfl (sx_ri (ty := .int) q75 47 rfl rfl)) (sx_p (pc' := 89) (lv' := [.ref (X + 8), .int v1, .int x0, .int x1]) (st' := [.int (-((x0 * (ni 60)) + x1))]) q75 35 7 rfl (sx_ri (ty := .int) q75 47 rfl rfl))))))))))))))
set_option maxRecDepth 8000 in
theorem f75 {C : sm_K} {X : Nat} (hX : sm_Lay C X) {D : sm_D} : sm_ge (sm_fe C 75 [.ref (X + 8)] D) (
  if (D.1 (X + 1) 4) = (ni 45) then
    sm_fx C 75 17 [.ref (X + 8), sm_junk, sm_junk, sm_junk] [.int (ni 1)] D
  else
    sm_fx C 75 17 [.ref (X + 8), sm_junk, sm_junk, sm_junk] [.int (ni 0)] D) := by
  rw [sx_fe (m := 4) rfl rfl]
  exact (show sm_ge (sm_fx C 75 0 [.ref (X + 8), sm_junk, sm_junk, sm_junk] [] D) _ from (sx_p (pc' := 1) (lv' := [.ref (X + 8), sm_junk, sm_junk, sm_junk]) (st' := [.ref (X + 8)]) q75 0 1 rfl (sx_gR q75 1 rfl fk_5_9 (fun _ _ => rfl) (hX.s 8 rfl) (hX.r 8 0 rfl) (sx_gI q75 2 rfl fk_5_66 rfl (hX.s 1 rfl) (hX.b 1) (sx_p (pc' := 9) (lv' := [.ref (X + 8), sm_junk, sm_junk, sm_junk]) (st' := [.int (ni 45), .int (D.1 (X + 1) 4)]) q75 3 1 rfl (sx_icmp_ne q75 4 rfl rfl (sx_p (pc' := 17) (lv' := [.ref (X + 8), sm_junk, sm_junk, sm_junk]) (st' := [.int (ni 0)]) q75 7 1 rfl (sm_ge.refl _)) (sx_p (pc' := 17) (lv' := [.ref (X + 8), sm_junk, sm_junk, sm_junk]) (st' := [.int (ni 1)]) q75 5 2 rfl (sm_ge.refl _))))))))
/-! MessageTree$AddressText.readAddresses -/
theorem q77 : sm_q 77 6 sm_i77 10 := ⟨rfl, rfl, rfl⟩
set_option maxRecDepth 8000 in
theorem n77_2 {C : sm_K} {X : Nat} {t : Nat} {v2 : Int32} {v3 : Int32} (hX : sm_Lay C X) (ht : sm_tree C t) {D : sm_D} : sm_ge (sm_fx C 77 2 [.ref (X + 9), .ref t, .int v2, .int v3, sm_junk] [] D) (
  if (ni 10) < v3 then
    some (.inl none, D)
  else
    sm_bv (sm_fe C 32 [.ref (X + 1)] D) (fun D1 =>
      if v3 = (ni 10) then
        sm_bv (sm_fe C 29 [.ref (X + 1), .int (D1.1 (X + 1) 2)] D1) (fun D2 =>
          sm_fx C 77 35 [.ref (X + 9), .ref t, .int v2, .int v3, sm_junk] [] D2)
      else
        sm_fx C 77 35 [.ref (X + 9), .ref t, .int v2, .int v3, sm_junk] [] D1)) := 
  (sx_p (pc' := 5) (lv' := [.ref (X + 9), .ref t, .int v2, .int v3, sm_junk]) (st' := [.int (ni 10), .int v3]) q77 2 2 rfl (sx_icmp_gt q77 4 rfl rfl (sx_rv q77 69 rfl rfl) (sx_p (pc' := 9) (lv' := [.ref (X + 9), .ref t, .int v2, .int v3, sm_junk]) (st' := [.ref (X + 9)]) q77 5 1 rfl (sx_gR q77 6 rfl fk_6_9 (fun _ _ => rfl) (hX.s 9 rfl) (hX.r 9 0 rfl) (sx_kv (sx_V q77 7 rfl lk_6_15 vk_32 na_32 rfl rfl rfl rfl (hX.s 1 rfl)) (by decide) rfl (fun D1 => (sx_p (pc' := 18) (lv' := [.ref (X + 9), .ref t, .int v2, .int v3, sm_junk]) (st' := [.int (ni 10), .int v3]) q77 8 2 rfl (sx_icmp_ne q77 10 rfl rfl (sm_ge.refl _) (sx_p (pc' := 22) (lv' := [.ref (X + 9), .ref t, .int v2, .int v3, sm_junk]) (st' := [.ref (X + 9)]) q77 11 1 rfl (sx_gR q77 12 rfl fk_6_9 (fun _ _ => rfl) (hX.s 9 rfl) (hX.r 9 0 rfl) (sx_p (pc' := 26) (lv' := [.ref (X + 9), .ref t, .int v2, .int v3, sm_junk]) (st' := [.ref (X + 9), .ref (X + 1)]) q77 13 1 rfl (sx_gR q77 14 rfl fk_6_9 (fun _ _ => rfl) (hX.s 9 rfl) (hX.r 9 0 rfl) (sx_gI q77 15 rfl fk_6_20 rfl (hX.s 1 rfl) (hX.b 1) (sx_kv (sx_V q77 16 rfl lk_6_24 vk_29 na_29 rfl rfl rfl rfl (hX.s 1 rfl)) (by decide) rfl (fun D2 => (sm_ge.refl _))))))))))))))))
set_option maxRecDepth 8000 in
theorem n77_35 {C : sm_K} {X : Nat} {t : Nat} {v2 : Int32} {v3 : Int32} (hX : sm_Lay C X) (ht : sm_tree C t) {D : sm_D} : sm_ge (sm_fx C 77 35 [.ref (X + 9), .ref t, .int v2, .int v3, sm_junk] [] D) (
  sm_bi (sm_fe C 78 [.ref (X + 9), .ref t, .int v2, .int v3] D) (fun x0 D1 =>
    if x0 = ni 0 then
      sm_fx C 77 63 [.ref (X + 9), .ref t, .int v2, .int v3, .int x0] [] D1
    else
      sm_bv (sm_fe C 31 [.ref (X + 1)] D1) (fun D2 =>
        sm_bv (sm_fe C 79 [.ref (X + 9), .ref t, .int v2, .int v3] D2) (fun D3 =>
          sm_fx C 77 63 [.ref (X + 9), .ref t, .int v2, .int v3, .int x0] [] D3)))) := 
  (sx_p (pc' := 39) (lv' := [.ref (X + 9), .ref t, .int v2, .int v3, sm_junk]) (st' := [.int v3, .int v2, .ref t, .ref (X + 9)]) q77 17 4 rfl (sx_ki (sx_V q77 21 rfl lk_6_28 vk_78 na_78 rfl rfl rfl rfl (hX.s 9 rfl)) (by decide) rfl (fun x0 D1 => (sx_p (pc' := 46) (lv' := [.ref (X + 9), .ref t, .int v2, .int v3, .int x0]) (st' := [.int x0]) q77 22 2 rfl (sx_if_eq q77 24 rfl rfl (sm_ge.refl _) (sx_p (pc' := 50) (lv' := [.ref (X + 9), .ref t, .int v2, .int v3, .int x0]) (st' := [.ref (X + 9)]) q77 25 1 rfl (sx_gR q77 26 rfl fk_6_9 (fun _ _ => rfl) (hX.s 9 rfl) (hX.r 9 0 rfl) (sx_kv (sx_V q77 27 rfl lk_6_32 vk_31 na_31 rfl rfl rfl rfl (hX.s 1 rfl)) (by decide) rfl (fun D2 => (sx_p (pc' := 60) (lv' := [.ref (X + 9), .ref t, .int v2, .int v3, .int x0]) (st' := [.int v3, .int v2, .ref t, .ref (X + 9)]) q77 28 4 rfl (sx_kv (sx_V q77 32 rfl lk_6_35 vk_79 na_79 rfl rfl rfl rfl (hX.s 9 rfl)) (by decide) rfl (fun D3 => (sm_ge.refl _)))))))))))))
set_option maxRecDepth 8000 in
theorem n77_63 {C : sm_K} {X : Nat} {t : Nat} {v2 : Int32} {v3 : Int32} {v4 : Int32} (hX : sm_Lay C X) (ht : sm_tree C t) {D : sm_D} : sm_ge (sm_fx C 77 63 [.ref (X + 9), .ref t, .int v2, .int v3, .int v4] [] D) (
  sm_bv (sm_fe C 35 [.ref (X + 1), .int (ni 64)] D) (fun D1 =>
    sm_bv (sm_fe C 80 [.ref (X + 9), .ref t, .int v2, .int v3] D1) (fun D2 =>
      if v4 = ni 0 then
        sm_fx C 77 100 [.ref (X + 9), .ref t, .int v2, .int v3, sm_junk] [] D2
      else
        sm_bv (sm_fe C 35 [.ref (X + 1), .int (ni 62)] D2) (fun D3 =>
          sm_bv (sm_fe C 32 [.ref (X + 1)] D3) (fun D4 =>
            sm_fx C 77 100 [.ref (X + 9), .ref t, .int v2, .int v3, sm_junk] [] D4))))) := 
  (sx_p (pc' := 64) (lv' := [.ref (X + 9), .ref t, .int v2, .int v3, .int v4]) (st' := [.ref (X + 9)]) q77 33 1 rfl (sx_gR q77 34 rfl fk_6_9 (fun _ _ => rfl) (hX.s 9 rfl) (hX.r 9 0 rfl) (sx_p (pc' := 69) (lv' := [.ref (X + 9), .ref t, .int v2, .int v3, .int v4]) (st' := [.int (ni 64), .ref (X + 1)]) q77 35 1 rfl (sx_kv (sx_V q77 36 rfl lk_6_39 vk_35 na_35 rfl rfl rfl rfl (hX.s 1 rfl)) (by decide) rfl (fun D1 => (sx_p (pc' := 76) (lv' := [.ref (X + 9), .ref t, .int v2, .int v3, .int v4]) (st' := [.int v3, .int v2, .ref t, .ref (X + 9)]) q77 37 4 rfl (sx_kv (sx_V q77 41 rfl lk_6_42 vk_80 na_80 rfl rfl rfl rfl (hX.s 9 rfl)) (by decide) rfl (fun D2 => (sx_p (pc' := 81) (lv' := [.ref (X + 9), .ref t, .int v2, .int v3, .int v4]) (st' := [.int v4]) q77 42 1 rfl (sx_if_eq q77 43 rfl rfl (sx_w (lv := [.ref (X + 9), .ref t, .int v2, .int v3, .int v4]) (lv' := [.ref (X + 9), .ref t, .int v2, .int v3, sm_junk]) (sm_ordl.ord ⟨Or.inr rfl, Or.inr rfl, Or.inr rfl, Or.inr rfl, Or.inl rfl, trivial⟩)) (sx_p (pc' := 85) (lv' := [.ref (X + 9), .ref t, .int v2, .int v3, .int v4]) (st' := [.ref (X + 9)]) q77 44 1 rfl (sx_gR q77 45 rfl fk_6_9 (fun _ _ => rfl) (hX.s 9 rfl) (hX.r 9 0 rfl) (sx_p (pc' := 90) (lv' := [.ref (X + 9), .ref t, .int v2, .int v3, .int v4]) (st' := [.int (ni 62), .ref (X + 1)]) q77 46 1 rfl (sx_kv (sx_V q77 47 rfl lk_6_39 vk_35 na_35 rfl rfl rfl rfl (hX.s 1 rfl)) (by decide) rfl (fun D3 => (sx_p (pc' := 94) (lv' := [.ref (X + 9), .ref t, .int v2, .int v3, .int v4]) (st' := [.ref (X + 9)]) q77 48 1 rfl (sx_gR q77 49 rfl fk_6_9 (fun _ _ => rfl) (hX.s 9 rfl) (hX.r 9 0 rfl) (sx_kv (sx_V q77 50 rfl lk_6_15 vk_32 na_32 rfl rfl rfl rfl (hX.s 1 rfl)) (by decide) rfl (fun D4 => (sx_w (lv := [.ref (X + 9), .ref t, .int v2, .int v3, .int v4]) (lv' := [.ref (X + 9), .ref t, .int v2, .int v3, sm_junk]) (sm_ordl.ord ⟨Or.inr rfl, Or.inr rfl, Or.inr rfl, Or.inr rfl, Or.inl rfl, trivial⟩)))))))))))))))))))))
set_option maxRecDepth 8000 in
theorem n77_100 {C : sm_K} {X : Nat} {t : Nat} {v2 : Int32} {v3 : Int32} (hX : sm_Lay C X) (ht : sm_tree C t) {D : sm_D} : sm_ge (sm_fx C 77 100 [.ref (X + 9), .ref t, .int v2, .int v3, sm_junk] [] D) (
  sm_bv (sm_fe C 146 [.ref t, .int v2, .int (v3 + (ni 1))] D) (fun D1 =>
    if (D1.1 (X + 1) 4) = (sm_k (-1)) then
      some (.inl none, D1)
    else
      sm_bv (sm_fe C 35 [.ref (X + 1), .int (ni 44)] D1) (fun D2 =>
        sm_fx C 77 2 [.ref (X + 9), .ref t, .int v2, .int (v3 + ni 1), sm_junk] [] D2))) := 
  (sx_p (pc' := 105) (lv' := [.ref (X + 9), .ref t, .int v2, .int v3, sm_junk]) (st' := [.int (v3 + (ni 1)), .int v2, .ref t]) q77 51 5 rfl (sx_kv (sx_V q77 56 rfl lk_6_45 vk_146 na_146 rfl rfl rfl rfl (ht.s 0 rfl)) (by decide) rfl (fun D1 => (sx_p (pc' := 109) (lv' := [.ref (X + 9), .ref t, .int v2, .int v3, sm_junk]) (st' := [.ref (X + 9)]) q77 57 1 rfl (sx_gR q77 58 rfl fk_6_9 (fun _ _ => rfl) (hX.s 9 rfl) (hX.r 9 0 rfl) (sx_gI q77 59 rfl fk_6_51 rfl (hX.s 1 rfl) (hX.b 1) (sx_p (pc' := 116) (lv' := [.ref (X + 9), .ref t, .int v2, .int v3, sm_junk]) (st' := [.int (sm_k (-1)), .int (D1.1 (X + 1) 4)]) q77 60 1 rfl (sx_icmp_ne q77 61 rfl rfl (sx_p (pc' := 121) (lv' := [.ref (X + 9), .ref t, .int v2, .int v3, sm_junk]) (st' := [.ref (X + 9)]) q77 63 1 rfl (sx_gR q77 64 rfl fk_6_9 (fun _ _ => rfl) (hX.s 9 rfl) (hX.r 9 0 rfl) (sx_p (pc' := 126) (lv' := [.ref (X + 9), .ref t, .int v2, .int v3, sm_junk]) (st' := [.int (ni 44), .ref (X + 1)]) q77 65 1 rfl (sx_kv (sx_V q77 66 rfl lk_6_39 vk_35 na_35 rfl rfl rfl rfl (hX.s 1 rfl)) (by decide) rfl (fun D2 => (sx_p (pc' := 2) (lv' := [.ref (X + 9), .ref t, .int v2, .int (v3 + ni 1), sm_junk]) (st' := []) q77 67 2 rfl (sm_ge.refl _))))))) (sx_rv q77 62 rfl rfl)))))))))
set_option maxRecDepth 8000 in
theorem f77 {C : sm_K} {X : Nat} {t : Nat} {v2 : Int32} (hX : sm_Lay C X) (ht : sm_tree C t) {D : sm_D} : sm_ge (sm_fe C 77 [.ref (X + 9), .ref t, .int v2] D) (
  sm_fx C 77 2 [.ref (X + 9), .ref t, .int v2, .int (ni 0), sm_junk] [] D) := by
  rw [sx_fe (m := 5) rfl rfl]
  exact (show sm_ge (sm_fx C 77 0 [.ref (X + 9), .ref t, .int v2, sm_junk, sm_junk] [] D) _ from (sx_p (pc' := 2) (lv' := [.ref (X + 9), .ref t, .int v2, .int (ni 0), sm_junk]) (st' := []) q77 0 2 rfl (sm_ge.refl _)))
