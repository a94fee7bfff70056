/-! ===== what methods do from place to place, written by a program (wip/tools/gen_nodes.py) ===== -/
/-! MessageTree$Writer.putText -/
theorem q112 : sm_q 112 10 sm_i112 4 := ⟨rfl, rfl, rfl⟩
set_option maxRecDepth 8000 in
theorem n112_2 {C : sm_K} {X : Nat} {s : Nat} {w : Nat} {nw : Nat} {v2 : Int32} (hX : sm_Lay C X) (hs : sm_sr C s w nw) {D : sm_D} : sm_ge (sm_fx C 112 2 [.ref (X + 20), .ref s, .int v2] [] D) (
  sm_bi (sm_fe C 260 [.ref s] D) (fun x0 D1 =>
    if x0 ≤ v2 then
      some (.inl none, D1)
    else
      sm_bi (sm_fe C 262 [.ref s, .int v2] D1) (fun x1 D2 =>
        sm_bv (sm_fe C 44 [.ref (X + 21), .int x1] D2) (fun D3 =>
          sm_fx C 112 2 [.ref (X + 20), .ref s, .int (v2 + ni 1)] [] D3)))) := 
  (sx_p (pc' := 4) (lv' := [.ref (X + 20), .ref s, .int v2]) (st' := [.ref s, .int v2]) q112 2 2 rfl (sx_ki (sx_V q112 4 rfl lk_10_169 vk_260 na_260 rfl rfl rfl rfl hs.1) (by decide) rfl (fun x0 D1 => (sx_icmp_ge q112 5 rfl rfl (sx_rv q112 14 rfl rfl) (sx_p (pc' := 11) (lv' := [.ref (X + 20), .ref s, .int v2]) (st' := [.ref (X + 20)]) q112 6 1 rfl (sx_gR q112 7 rfl fk_10_14 (fun _ _ => rfl) (hX.s 20 rfl) (hX.r 20 0 rfl) (sx_p (pc' := 16) (lv' := [.ref (X + 20), .ref s, .int v2]) (st' := [.int v2, .ref s, .ref (X + 21)]) q112 8 2 rfl (sx_ki (sx_V q112 10 rfl lk_10_163 vk_262 na_262 rfl rfl rfl rfl hs.1) (by decide) rfl (fun x1 D2 => (sx_kv (sx_V q112 11 rfl lk_10_76 vk_44 na_44 rfl rfl rfl rfl (hX.s 21 rfl)) (by decide) rfl (fun D3 => (sx_p (pc' := 2) (lv' := [.ref (X + 20), .ref s, .int (v2 + ni 1)]) (st' := []) q112 12 2 rfl (sm_ge.refl _)))))))))))))
set_option maxRecDepth 8000 in
theorem f112 {C : sm_K} {X : Nat} {s : Nat} {w : Nat} {nw : Nat} (hX : sm_Lay C X) (hs : sm_sr C s w nw) {D : sm_D} : sm_ge (sm_fe C 112 [.ref (X + 20), .ref s] D) (
  sm_fx C 112 2 [.ref (X + 20), .ref s, .int (ni 0)] [] D) := by
  rw [sx_fe (m := 3) rfl rfl]
  exact (show sm_ge (sm_fx C 112 0 [.ref (X + 20), .ref s, sm_junk] [] D) _ from (sx_p (pc' := 2) (lv' := [.ref (X + 20), .ref s, .int (ni 0)]) (st' := []) q112 0 2 rfl (sm_ge.refl _)))
/-! MessageTree$Writer.putBoundary -/
theorem q113 : sm_q 113 10 sm_i113 5 := ⟨rfl, rfl, rfl⟩
set_option maxRecDepth 8000 in
theorem n113_26 {C : sm_K} {X : Nat} {v1 : Int32} (hX : sm_Lay C X) {D : sm_D} : sm_ge (sm_fx C 113 26 [.ref (X + 20), .int v1] [] D) (
  sm_bv (sm_fe C 44 [.ref (X + 21), .int ((ni 48) + (v1 - v1 / (ni 10) * (ni 10)))] D) (fun D1 =>
    some (.inl none, D1))) := 
  (sx_p (pc' := 27) (lv' := [.ref (X + 20), .int v1]) (st' := [.ref (X + 20)]) q113 14 1 rfl (sx_gR q113 15 rfl fk_10_14 (fun _ _ => rfl) (hX.s 20 rfl) (hX.r 20 0 rfl) (sx_p (pc' := 37) (lv' := [.ref (X + 20), .int v1]) (st' := [.int ((ni 48) + (v1 - v1 / (ni 10) * (ni 10))), .ref (X + 21)]) q113 16 5 rfl (sx_kv (sx_V q113 21 rfl lk_10_76 vk_44 na_44 rfl rfl rfl rfl (hX.s 21 rfl)) (by decide) rfl (fun D1 => (sx_rv q113 22 rfl rfl))))))
set_option maxRecDepth 8000 in
theorem f113 {C : sm_K} {X : Nat} {v1 : Int32} (hX : sm_Lay C X) {D : sm_D} : sm_ge (sm_fe C 113 [.ref (X + 20), .int v1] D) (
  sm_bv (sm_fe C 112 [.ref (X + 20), .ref (C.1.1 36)] D) (fun D1 =>
    if v1 < (ni 10) then
      sm_fx C 113 26 [.ref (X + 20), .int v1] [] D1
    else
      sm_bv (sm_fe C 44 [.ref (X + 21), .int ((ni 48) + (v1 / (ni 10)))] D1) (fun D2 =>
        sm_fx C 113 26 [.ref (X + 20), .int v1] [] D2))) := by
  rw [sx_fe (m := 2) rfl rfl]
  exact (show sm_ge (sm_fx C 113 0 [.ref (X + 20), .int v1] [] D) _ from (sx_p (pc' := 1) (lv' := [.ref (X + 20), .int v1]) (st' := [.ref (X + 20)]) q113 0 1 rfl (sx_cs q113 1 rfl (Or.inl ⟨rfl, rfl⟩) cs_10_74 (sx_kv (sx_V q113 2 rfl lk_10_52 vk_112 na_112 rfl rfl rfl rfl (hX.s 20 rfl)) (by decide) rfl (fun D1 => (sx_p (pc' := 9) (lv' := [.ref (X + 20), .int v1]) (st' := [.int (ni 10), .int v1]) q113 3 2 rfl (sx_icmp_lt q113 5 rfl rfl (sm_ge.refl _) (sx_p (pc' := 13) (lv' := [.ref (X + 20), .int v1]) (st' := [.ref (X + 20)]) q113 6 1 rfl (sx_gR q113 7 rfl fk_10_14 (fun _ _ => rfl) (hX.s 20 rfl) (hX.r 20 0 rfl) (sx_p (pc' := 23) (lv' := [.ref (X + 20), .int v1]) (st' := [.int ((ni 48) + (v1 / (ni 10))), .ref (X + 21)]) q113 8 5 rfl (sx_kv (sx_V q113 13 rfl lk_10_76 vk_44 na_44 rfl rfl rfl rfl (hX.s 21 rfl)) (by decide) rfl (fun D2 => (sm_ge.refl _)))))))))))))
/-! MessageTree$Writer.putLineEnd -/
theorem q114 : sm_q 114 10 sm_i114 1 := ⟨rfl, rfl, rfl⟩
set_option maxRecDepth 8000 in
theorem f114 {C : sm_K} {X : Nat} (hX : sm_Lay C X) {D : sm_D} : sm_ge (sm_fe C 114 [.ref (X + 20)] D) (
  sm_bv (sm_fe C 44 [.ref (X + 21), .int (ni 13)] D) (fun D1 =>
    sm_bv (sm_fe C 44 [.ref (X + 21), .int (ni 10)] D1) (fun D2 =>
      some (.inl none, D2)))) := by
  rw [sx_fe (m := 1) rfl rfl]
  exact (show sm_ge (sm_fx C 114 0 [.ref (X + 20)] [] D) _ from (sx_p (pc' := 1) (lv' := [.ref (X + 20)]) (st' := [.ref (X + 20)]) q114 0 1 rfl (sx_gR q114 1 rfl fk_10_14 (fun _ _ => rfl) (hX.s 20 rfl) (hX.r 20 0 rfl) (sx_p (pc' := 6) (lv' := [.ref (X + 20)]) (st' := [.int (ni 13), .ref (X + 21)]) q114 2 1 rfl (sx_kv (sx_V q114 3 rfl lk_10_76 vk_44 na_44 rfl rfl rfl rfl (hX.s 21 rfl)) (by decide) rfl (fun D1 => (sx_p (pc' := 10) (lv' := [.ref (X + 20)]) (st' := [.ref (X + 20)]) q114 4 1 rfl (sx_gR q114 5 rfl fk_10_14 (fun _ _ => rfl) (hX.s 20 rfl) (hX.r 20 0 rfl) (sx_p (pc' := 15) (lv' := [.ref (X + 20)]) (st' := [.int (ni 10), .ref (X + 21)]) q114 6 1 rfl (sx_kv (sx_V q114 7 rfl lk_10_76 vk_44 na_44 rfl rfl rfl rfl (hX.s 21 rfl)) (by decide) rfl (fun D2 => (sx_rv q114 8 rfl rfl))))))))))))
/-! MessageTree$Writer.putFields -/
theorem q115 : sm_q 115 10 sm_i115 5 := ⟨rfl, rfl, rfl⟩
set_option maxRecDepth 8000 in
theorem n115_2 {C : sm_K} {X : Nat} {t : Nat} {v2 : Int32} {v3 : Int32} (hX : sm_Lay C X) (ht : sm_tree C t) {D : sm_D} : sm_ge (sm_fx C 115 2 [.ref (X + 20), .ref t, .int v2, .int v3, sm_junk, sm_junk, sm_junk] [] D) (
  sm_gu (sm_in_b v2 40) (
  if (D.1 (t + 7) v2.toNatClampNeg) ≤ v3 then
    some (.inl none, D)
  else
    sm_bi (sm_fe C 129 [.ref t, .int v2, .int v3] D) (fun x0 D1 =>
      if x0 = (ni 1) then
        sm_fx C 115 2 [.ref (X + 20), .ref t, .int v2, .int (v3 + ni 1), sm_junk, sm_junk, sm_junk] [] D1
      else
        if x0 = (ni 2) then
          sm_fx C 115 2 [.ref (X + 20), .ref t, .int v2, .int (v3 + ni 1), sm_junk, sm_junk, sm_junk] [] D1
        else
          sm_gu (sm_in_b v2 40) (
          sm_bi (sm_fe C 130 [.int ((D1.1 (t + 6) v2.toNatClampNeg) + v3), .int (ni 0)] D1) (fun x1 D2 =>
            sm_bv (sm_fe C 116 [.ref (X + 20), .ref t, .int x1] D2) (fun D3 =>
              sm_bv (sm_fe C 112 [.ref (X + 20), .ref (C.1.1 37)] D3) (fun D4 =>
                sm_bi (sm_fe C 130 [.int ((D1.1 (t + 6) v2.toNatClampNeg) + v3), .int (ni 0)] D4) (fun x2 D5 =>
                  sm_bi (sm_fe C 138 [.ref t, .int x2] D5) (fun x3 D6 =>
                    sm_bi (sm_fe C 130 [.int ((D1.1 (t + 6) v2.toNatClampNeg) + v3), .int (ni 1)] D6) (fun x4 D7 =>
                      sm_bv (sm_fe C 117 [.ref (X + 20), .ref t, .int x4, .int (x3 + (ni 2))] D7) (fun D8 =>
                        sm_bv (sm_fe C 114 [.ref (X + 20)] D8) (fun D9 =>
                          sm_fx C 115 2 [.ref (X + 20), .ref t, .int v2, .int (v3 + ni 1), sm_junk, sm_junk, sm_junk] [] D9)))))))))))) := 
  (sx_p (pc' := 4) (lv' := [.ref (X + 20), .ref t, .int v2, .int v3, sm_junk, sm_junk, sm_junk]) (st' := [.ref t, .int v3]) q115 2 2 rfl (sx_gR q115 4 rfl fk_10_79 (fun _ _ => rfl) (ht.s 0 rfl) (ht.r 0 5 rfl) (sx_p (pc' := 8) (lv' := [.ref (X + 20), .ref t, .int v2, .int v3, sm_junk, sm_junk, sm_junk]) (st' := [.int v2, .ref (t + 7), .int v3]) q115 5 1 rfl (sx_ia q115 6 rfl (ht.s 7 rfl) (ht.b 7) (sx_icmp_ge q115 7 rfl rfl (sx_rv q115 54 rfl rfl) (sx_p (pc' := 15) (lv' := [.ref (X + 20), .ref t, .int v2, .int v3, sm_junk, sm_junk, sm_junk]) (st' := [.int v3, .int v2, .ref t]) q115 8 3 rfl (sx_ki (sx_V q115 11 rfl lk_10_82 vk_129 na_129 rfl rfl rfl rfl (ht.s 0 rfl)) (by decide) rfl (fun x0 D1 => (sx_p (pc' := 23) (lv' := [.ref (X + 20), .ref t, .int v2, .int v3, .int x0, sm_junk, sm_junk]) (st' := [.int (ni 1), .int x0]) q115 12 3 rfl (sx_icmp_eq q115 15 rfl rfl (sx_p (pc' := 2) (lv' := [.ref (X + 20), .ref t, .int v2, .int (v3 + ni 1), .int x0, sm_junk, sm_junk]) (st' := []) q115 52 2 rfl (sx_w (lv := [.ref (X + 20), .ref t, .int v2, .int (v3 + ni 1), .int x0, sm_junk, sm_junk]) (lv' := [.ref (X + 20), .ref t, .int v2, .int (v3 + ni 1), sm_junk, sm_junk, sm_junk]) (sm_ordl.ord ⟨Or.inr rfl, Or.inr rfl, Or.inr rfl, Or.inr rfl, Or.inl rfl, Or.inl rfl, Or.inl rfl, trivial⟩))) (sx_p (pc' := 29) (lv' := [.ref (X + 20), .ref t, .int v2, .int v3, .int x0, sm_junk, sm_junk]) (st' := [.int (ni 2), .int x0]) q115 16 2 rfl (sx_icmp_eq q115 18 rfl rfl (sx_p (pc' := 2) (lv' := [.ref (X + 20), .ref t, .int v2, .int (v3 + ni 1), .int x0, sm_junk, sm_junk]) (st' := []) q115 52 2 rfl (sx_w (lv := [.ref (X + 20), .ref t, .int v2, .int (v3 + ni 1), .int x0, sm_junk, sm_junk]) (lv' := [.ref (X + 20), .ref t, .int v2, .int (v3 + ni 1), sm_junk, sm_junk, sm_junk]) (sm_ordl.ord ⟨Or.inr rfl, Or.inr rfl, Or.inr rfl, Or.inr rfl, Or.inl rfl, Or.inl rfl, Or.inl rfl, trivial⟩))) (sx_p (pc' := 33) (lv' := [.ref (X + 20), .ref t, .int v2, .int v3, .int x0, sm_junk, sm_junk]) (st' := [.ref t]) q115 19 1 rfl (sx_gR q115 20 rfl fk_10_86 (fun _ _ => rfl) (ht.s 0 rfl) (ht.r 0 4 rfl) (sx_p (pc' := 37) (lv' := [.ref (X + 20), .ref t, .int v2, .int v3, .int x0, sm_junk, sm_junk]) (st' := [.int v2, .ref (t + 6)]) q115 21 1 rfl (sx_ia q115 22 rfl (ht.s 6 rfl) (ht.b 6) (sx_p (pc' := 47) (lv' := [.ref (X + 20), .ref t, .int v2, .int v3, .int x0, .int ((D1.1 (t + 6) v2.toNatClampNeg) + v3), sm_junk]) (st' := [.int (ni 0), .int ((D1.1 (t + 6) v2.toNatClampNeg) + v3), .ref t, .ref (X + 20)]) q115 23 7 rfl (sx_ki (sx_S q115 30 rfl lk_10_89 rfl na_130 rfl rfl rfl rfl) (by decide) rfl (fun x1 D2 => (sx_kv (sx_V q115 31 rfl lk_10_92 vk_116 na_116 rfl rfl rfl rfl (hX.s 20 rfl)) (by decide) rfl (fun D3 => (sx_p (pc' := 54) (lv' := [.ref (X + 20), .ref t, .int v2, .int v3, .int x0, .int ((D1.1 (t + 6) v2.toNatClampNeg) + v3), sm_junk]) (st' := [.ref (X + 20)]) q115 32 1 rfl (sx_cs q115 33 rfl (Or.inl ⟨rfl, rfl⟩) cs_10_95 (sx_kv (sx_V q115 34 rfl lk_10_52 vk_112 na_112 rfl rfl rfl rfl (hX.s 20 rfl)) (by decide) rfl (fun D4 => (sx_p (pc' := 63) (lv' := [.ref (X + 20), .ref t, .int v2, .int v3, .int x0, .int ((D1.1 (t + 6) v2.toNatClampNeg) + v3), sm_junk]) (st' := [.int (ni 0), .int ((D1.1 (t + 6) v2.toNatClampNeg) + v3), .ref t]) q115 35 3 rfl (sx_ki (sx_S q115 38 rfl lk_10_89 rfl na_130 rfl rfl rfl rfl) (by decide) rfl (fun x2 D5 => (sx_ki (sx_V q115 39 rfl lk_10_97 vk_138 na_138 rfl rfl rfl rfl (ht.s 0 rfl)) (by decide) rfl (fun x3 D6 => (sx_p (pc' := 78) (lv' := [.ref (X + 20), .ref t, .int v2, .int v3, .int x0, .int ((D1.1 (t + 6) v2.toNatClampNeg) + v3), .int (x3 + (ni 2))]) (st' := [.int (ni 1), .int ((D1.1 (t + 6) v2.toNatClampNeg) + v3), .ref t, .ref (X + 20)]) q115 40 7 rfl (sx_ki (sx_S q115 47 rfl lk_10_89 rfl na_130 rfl rfl rfl rfl) (by decide) rfl (fun x4 D7 => (sx_p (pc' := 83) (lv' := [.ref (X + 20), .ref t, .int v2, .int v3, .int x0, .int ((D1.1 (t + 6) v2.toNatClampNeg) + v3), .int (x3 + (ni 2))]) (st' := [.int (x3 + (ni 2)), .int x4, .ref t, .ref (X + 20)]) q115 48 1 rfl (sx_kv (sx_V q115 49 rfl lk_10_100 vk_117 na_117 rfl rfl rfl rfl (hX.s 20 rfl)) (by decide) rfl (fun D8 => (sx_p (pc' := 87) (lv' := [.ref (X + 20), .ref t, .int v2, .int v3, .int x0, .int ((D1.1 (t + 6) v2.toNatClampNeg) + v3), .int (x3 + (ni 2))]) (st' := [.ref (X + 20)]) q115 50 1 rfl (sx_kv (sx_V q115 51 rfl lk_10_36 vk_114 na_114 rfl rfl rfl rfl (hX.s 20 rfl)) (by decide) rfl (fun D9 => (sx_p (pc' := 2) (lv' := [.ref (X + 20), .ref t, .int v2, .int (v3 + ni 1), .int x0, .int ((D1.1 (t + 6) v2.toNatClampNeg) + v3), .int (x3 + (ni 2))]) (st' := []) q115 52 2 rfl (sx_w (lv := [.ref (X + 20), .ref t, .int v2, .int (v3 + ni 1), .int x0, .int ((D1.1 (t + 6) v2.toNatClampNeg) + v3), .int (x3 + (ni 2))]) (lv' := [.ref (X + 20), .ref t, .int v2, .int (v3 + ni 1), sm_junk, sm_junk, sm_junk]) (sm_ordl.ord ⟨Or.inr rfl, Or.inr rfl, Or.inr rfl, Or.inr rfl, Or.inl rfl, Or.inl rfl, Or.inl rfl, trivial⟩))))))))))))))))))))))))))))))))))))))))))
set_option maxRecDepth 8000 in
theorem f115 {C : sm_K} {X : Nat} {t : Nat} {v2 : Int32} (hX : sm_Lay C X) (ht : sm_tree C t) {D : sm_D} : sm_ge (sm_fe C 115 [.ref (X + 20), .ref t, .int v2] D) (
  sm_fx C 115 2 [.ref (X + 20), .ref t, .int v2, .int (ni 0), sm_junk, sm_junk, sm_junk] [] D) := by
  rw [sx_fe (m := 7) rfl rfl]
  exact (show sm_ge (sm_fx C 115 0 [.ref (X + 20), .ref t, .int v2, sm_junk, sm_junk, sm_junk, sm_junk] [] D) _ from (sx_p (pc' := 2) (lv' := [.ref (X + 20), .ref t, .int v2, .int (ni 0), sm_junk, sm_junk, sm_junk]) (st' := []) q115 0 2 rfl (sm_ge.refl _)))
/-! MessageTree$Writer.putSlot -/
theorem q116 : sm_q 116 10 sm_i116 2 := ⟨rfl, rfl, rfl⟩
set_option maxRecDepth 8000 in
theorem n116_2 {C : sm_K} {X : Nat} {t : Nat} {v2 : Int32} {v3 : Int32} (hX : sm_Lay C X) (ht : sm_tree C t) {D : sm_D} : sm_ge (sm_fx C 116 2 [.ref (X + 20), .ref t, .int v2, .int v3] [] D) (
  sm_bi (sm_fe C 138 [.ref t, .int v2] D) (fun x0 D1 =>
    if x0 ≤ v3 then
      some (.inl none, D1)
    else
      sm_bi (sm_fe C 139 [.ref t, .int v2, .int v3] D1) (fun x1 D2 =>
        sm_bv (sm_fe C 44 [.ref (X + 21), .int x1] D2) (fun D3 =>
          sm_fx C 116 2 [.ref (X + 20), .ref t, .int v2, .int (v3 + ni 1)] [] D3)))) := 
  (sx_p (pc' := 5) (lv' := [.ref (X + 20), .ref t, .int v2, .int v3]) (st' := [.int v2, .ref t, .int v3]) q116 2 3 rfl (sx_ki (sx_V q116 5 rfl lk_10_97 vk_138 na_138 rfl rfl rfl rfl (ht.s 0 rfl)) (by decide) rfl (fun x0 D1 => (sx_icmp_ge q116 6 rfl rfl (sx_rv q116 16 rfl rfl) (sx_p (pc' := 12) (lv' := [.ref (X + 20), .ref t, .int v2, .int v3]) (st' := [.ref (X + 20)]) q116 7 1 rfl (sx_gR q116 8 rfl fk_10_14 (fun _ _ => rfl) (hX.s 20 rfl) (hX.r 20 0 rfl) (sx_p (pc' := 18) (lv' := [.ref (X + 20), .ref t, .int v2, .int v3]) (st' := [.int v3, .int v2, .ref t, .ref (X + 21)]) q116 9 3 rfl (sx_ki (sx_V q116 12 rfl lk_10_151 vk_139 na_139 rfl rfl rfl rfl (ht.s 0 rfl)) (by decide) rfl (fun x1 D2 => (sx_kv (sx_V q116 13 rfl lk_10_76 vk_44 na_44 rfl rfl rfl rfl (hX.s 21 rfl)) (by decide) rfl (fun D3 => (sx_p (pc' := 2) (lv' := [.ref (X + 20), .ref t, .int v2, .int (v3 + ni 1)]) (st' := []) q116 14 2 rfl (sm_ge.refl _)))))))))))))
set_option maxRecDepth 8000 in
theorem f116 {C : sm_K} {X : Nat} {t : Nat} {v2 : Int32} (hX : sm_Lay C X) (ht : sm_tree C t) {D : sm_D} : sm_ge (sm_fe C 116 [.ref (X + 20), .ref t, .int v2] D) (
  sm_fx C 116 2 [.ref (X + 20), .ref t, .int v2, .int (ni 0)] [] D) := by
  rw [sx_fe (m := 4) rfl rfl]
  exact (show sm_ge (sm_fx C 116 0 [.ref (X + 20), .ref t, .int v2, sm_junk] [] D) _ from (sx_p (pc' := 2) (lv' := [.ref (X + 20), .ref t, .int v2, .int (ni 0)]) (st' := []) q116 0 2 rfl (sm_ge.refl _)))
/-! MessageTree$Writer.putFolded -/
theorem q117 : sm_q 117 10 sm_i117 3 := ⟨rfl, rfl, rfl⟩
set_option maxRecDepth 8000 in
theorem n117_21 {C : sm_K} {X : Nat} {t : Nat} {v4 : Int32} {v5 : Int32} {v6 : Int32} {v7 : Int32} (hX : sm_Lay C X) (ht : sm_tree C t) {D : sm_D} : sm_ge (sm_fx C 117 21 [.ref (X + 20), .ref t, sm_junk, sm_junk, .int v4, .int v5, .int v6, .int v7, sm_junk, sm_junk] [] D) (
  if v5 ≤ v7 then
    some (.inl none, D)
  else
    sm_bi (sm_fe C 45 [.ref (t + 1), .int v7, .int v5, .int (ni 1)] D) (fun x0 D1 =>
      sm_bi (sm_fe C 45 [.ref (t + 1), .int x0, .int v5, .int (ni 0)] D1) (fun x1 D2 =>
        if v7 ≤ v4 then
          sm_fx C 117 79 [.ref (X + 20), .ref t, sm_junk, sm_junk, .int v4, .int v5, .int v6, .int v7, .int x1, sm_junk] [] D2
        else
          if ((v6 + x1) - v7) ≤ (ni 78) then
            sm_fx C 117 79 [.ref (X + 20), .ref t, sm_junk, sm_junk, .int v4, .int v5, .int v6, .int v7, .int x1, sm_junk] [] D2
          else
            sm_bv (sm_fe C 114 [.ref (X + 20)] D2) (fun D3 =>
              sm_fx C 117 79 [.ref (X + 20), .ref t, sm_junk, sm_junk, .int v4, .int v5, .int (ni 0), .int v7, .int x1, sm_junk] [] D3)))) := 
  (sx_p (pc' := 25) (lv' := [.ref (X + 20), .ref t, sm_junk, sm_junk, .int v4, .int v5, .int v6, .int v7, sm_junk, sm_junk]) (st' := [.int v5, .int v7]) q117 12 2 rfl (sx_icmp_ge q117 14 rfl rfl (sx_rv q117 68 rfl rfl) (sx_p (pc' := 29) (lv' := [.ref (X + 20), .ref t, sm_junk, sm_junk, .int v4, .int v5, .int v6, .int v7, sm_junk, sm_junk]) (st' := [.ref t]) q117 15 1 rfl (sx_gR q117 16 rfl fk_10_110 (fun _ _ => rfl) (ht.s 0 rfl) (ht.r 0 0 rfl) (sx_p (pc' := 33) (lv' := [.ref (X + 20), .ref t, sm_junk, sm_junk, .int v4, .int v5, .int v6, .int v7, sm_junk, sm_junk]) (st' := [.ref t, .ref (t + 1)]) q117 17 1 rfl (sx_gR q117 18 rfl fk_10_110 (fun _ _ => rfl) (ht.s 0 rfl) (ht.r 0 0 rfl) (sx_p (pc' := 41) (lv' := [.ref (X + 20), .ref t, sm_junk, sm_junk, .int v4, .int v5, .int v6, .int v7, sm_junk, sm_junk]) (st' := [.int (ni 1), .int v5, .int v7, .ref (t + 1), .ref (t + 1)]) q117 19 3 rfl (sx_ki (sx_V q117 22 rfl lk_10_113 vk_45 na_45 rfl rfl rfl rfl (ht.s 1 rfl)) (by decide) rfl (fun x0 D1 => (sx_p (pc' := 47) (lv' := [.ref (X + 20), .ref t, sm_junk, sm_junk, .int v4, .int v5, .int v6, .int v7, sm_junk, sm_junk]) (st' := [.int (ni 0), .int v5, .int x0, .ref (t + 1)]) q117 23 2 rfl (sx_ki (sx_V q117 25 rfl lk_10_113 vk_45 na_45 rfl rfl rfl rfl (ht.s 1 rfl)) (by decide) rfl (fun x1 D2 => (sx_p (pc' := 56) (lv' := [.ref (X + 20), .ref t, sm_junk, sm_junk, .int v4, .int v5, .int v6, .int v7, .int x1, sm_junk]) (st' := [.int v4, .int v7]) q117 26 3 rfl (sx_icmp_le q117 29 rfl rfl (sm_ge.refl _) (sx_p (pc' := 69) (lv' := [.ref (X + 20), .ref t, sm_junk, sm_junk, .int v4, .int v5, .int v6, .int v7, .int x1, sm_junk]) (st' := [.int (ni 78), .int ((v6 + x1) - v7)]) q117 30 6 rfl (sx_icmp_le q117 36 rfl rfl (sm_ge.refl _) (sx_p (pc' := 73) (lv' := [.ref (X + 20), .ref t, sm_junk, sm_junk, .int v4, .int v5, .int v6, .int v7, .int x1, sm_junk]) (st' := [.ref (X + 20)]) q117 37 1 rfl (sx_kv (sx_V q117 38 rfl lk_10_36 vk_114 na_114 rfl rfl rfl rfl (hX.s 20 rfl)) (by decide) rfl (fun D3 => (sx_p (pc' := 79) (lv' := [.ref (X + 20), .ref t, sm_junk, sm_junk, .int v4, .int v5, .int (ni 0), .int v7, .int x1, sm_junk]) (st' := []) q117 39 2 rfl (sm_ge.refl _)))))))))))))))))))))
set_option maxRecDepth 8000 in
theorem n117_79 {C : sm_K} {X : Nat} {t : Nat} {v4 : Int32} {v5 : Int32} {v6 : Int32} {v7 : Int32} {v8 : Int32} (hX : sm_Lay C X) (ht : sm_tree C t) {D : sm_D} : sm_ge (sm_fx C 117 79 [.ref (X + 20), .ref t, sm_junk, sm_junk, .int v4, .int v5, .int v6, .int v7, .int v8, sm_junk] [] D) (
  sm_fx C 117 83 [.ref (X + 20), .ref t, sm_junk, sm_junk, .int v4, .int v5, .int v6, .int v7, .int v8, .int v7] [] D) := 
  (sx_p (pc' := 83) (lv' := [.ref (X + 20), .ref t, sm_junk, sm_junk, .int v4, .int v5, .int v6, .int v7, .int v8, .int v7]) (st' := []) q117 41 2 rfl (sm_ge.refl _))
set_option maxRecDepth 8000 in
theorem n117_83 {C : sm_K} {X : Nat} {t : Nat} {v4 : Int32} {v5 : Int32} {v6 : Int32} {v7 : Int32} {v8 : Int32} {v9 : Int32} (hX : sm_Lay C X) (ht : sm_tree C t) {D : sm_D} : sm_ge (sm_fx C 117 83 [.ref (X + 20), .ref t, sm_junk, sm_junk, .int v4, .int v5, .int v6, .int v7, .int v8, .int v9] [] D) (
  if v8 ≤ v9 then
    sm_bi (sm_fe C 283 [.int v8, .int (v7 + (ni 1))] D) (fun x0 D1 =>
      sm_fx C 117 21 [.ref (X + 20), .ref t, sm_junk, sm_junk, .int v4, .int v5, .int (v6 + (v8 - v7)), .int x0, sm_junk, sm_junk] [] D1)
  else
    sm_bi (sm_fe C 42 [.ref (t + 1), .int v9] D) (fun x0 D2 =>
      sm_bv (sm_fe C 44 [.ref (X + 21), .int x0] D2) (fun D3 =>
        sm_fx C 117 83 [.ref (X + 20), .ref t, sm_junk, sm_junk, .int v4, .int v5, .int v6, .int v7, .int v8, .int (v9 + ni 1)] [] D3))) := 
  (sx_p (pc' := 87) (lv' := [.ref (X + 20), .ref t, sm_junk, sm_junk, .int v4, .int v5, .int v6, .int v7, .int v8, .int v9]) (st' := [.int v8, .int v9]) q117 43 2 rfl (sx_icmp_ge q117 45 rfl rfl (sx_p (pc' := 128) (lv' := [.ref (X + 20), .ref t, sm_junk, sm_junk, .int v4, .int v5, .int (v6 + (v8 - v7)), .int v7, .int v8, .int v9]) (st' := [.int (v7 + (ni 1)), .int v8]) q117 55 10 rfl (sx_ki (sx_S q117 65 rfl lk_10_120 rfl na_283 rfl rfl rfl rfl) (by decide) rfl (fun x0 D1 => (sx_p (pc' := 21) (lv' := [.ref (X + 20), .ref t, sm_junk, sm_junk, .int v4, .int v5, .int (v6 + (v8 - v7)), .int x0, .int v8, .int v9]) (st' := []) q117 66 2 rfl (sx_w (lv := [.ref (X + 20), .ref t, sm_junk, sm_junk, .int v4, .int v5, .int (v6 + (v8 - v7)), .int x0, .int v8, .int v9]) (lv' := [.ref (X + 20), .ref t, sm_junk, sm_junk, .int v4, .int v5, .int (v6 + (v8 - v7)), .int x0, sm_junk, sm_junk]) (sm_ordl.ord ⟨Or.inr rfl, Or.inr rfl, Or.inl rfl, Or.inl rfl, Or.inr rfl, Or.inr rfl, Or.inr rfl, Or.inr rfl, Or.inl rfl, Or.inl rfl, trivial⟩)))))) (sx_p (pc' := 91) (lv' := [.ref (X + 20), .ref t, sm_junk, sm_junk, .int v4, .int v5, .int v6, .int v7, .int v8, .int v9]) (st' := [.ref (X + 20)]) q117 46 1 rfl (sx_gR q117 47 rfl fk_10_14 (fun _ _ => rfl) (hX.s 20 rfl) (hX.r 20 0 rfl) (sx_p (pc' := 95) (lv' := [.ref (X + 20), .ref t, sm_junk, sm_junk, .int v4, .int v5, .int v6, .int v7, .int v8, .int v9]) (st' := [.ref t, .ref (X + 21)]) q117 48 1 rfl (sx_gR q117 49 rfl fk_10_110 (fun _ _ => rfl) (ht.s 0 rfl) (ht.r 0 0 rfl) (sx_p (pc' := 100) (lv' := [.ref (X + 20), .ref t, sm_junk, sm_junk, .int v4, .int v5, .int v6, .int v7, .int v8, .int v9]) (st' := [.int v9, .ref (t + 1), .ref (X + 21)]) q117 50 1 rfl (sx_ki (sx_V q117 51 rfl lk_10_117 vk_42 na_42 rfl rfl rfl rfl (ht.s 1 rfl)) (by decide) rfl (fun x0 D2 => (sx_kv (sx_V q117 52 rfl lk_10_76 vk_44 na_44 rfl rfl rfl rfl (hX.s 21 rfl)) (by decide) rfl (fun D3 => (sx_p (pc' := 83) (lv' := [.ref (X + 20), .ref t, sm_junk, sm_junk, .int v4, .int v5, .int v6, .int v7, .int v8, .int (v9 + ni 1)]) (st' := []) q117 53 2 rfl (sm_ge.refl _)))))))))))))
set_option maxRecDepth 8000 in
theorem f117 {C : sm_K} {X : Nat} {t : Nat} {v2 : Int32} {v3 : Int32} (hX : sm_Lay C X) (ht : sm_tree C t) {D : sm_D} : sm_ge (sm_fe C 117 [.ref (X + 20), .ref t, .int v2, .int v3] D) (
  sm_bi (sm_fe C 143 [.ref t, .int v2] D) (fun x0 D1 =>
    sm_bi (sm_fe C 144 [.ref t, .int v2] D1) (fun x1 D2 =>
      sm_fx C 117 21 [.ref (X + 20), .ref t, sm_junk, sm_junk, .int x0, .int x1, .int v3, .int x0, sm_junk, sm_junk] [] D2))) := by
  rw [sx_fe (m := 10) rfl rfl]
  exact (show sm_ge (sm_fx C 117 0 [.ref (X + 20), .ref t, .int v2, .int v3, sm_junk, sm_junk, sm_junk, sm_junk, sm_junk, sm_junk] [] D) _ from (sx_p (pc' := 2) (lv' := [.ref (X + 20), .ref t, .int v2, .int v3, sm_junk, sm_junk, sm_junk, sm_junk, sm_junk, sm_junk]) (st' := [.int v2, .ref t]) q117 0 2 rfl (sx_ki (sx_V q117 2 rfl lk_10_104 vk_143 na_143 rfl rfl rfl rfl (ht.s 0 rfl)) (by decide) rfl (fun x0 D1 => (sx_p (pc' := 9) (lv' := [.ref (X + 20), .ref t, .int v2, .int v3, .int x0, sm_junk, sm_junk, sm_junk, sm_junk, sm_junk]) (st' := [.int v2, .ref t]) q117 3 3 rfl (sx_ki (sx_V q117 6 rfl lk_10_107 vk_144 na_144 rfl rfl rfl rfl (ht.s 0 rfl)) (by decide) rfl (fun x1 D2 => (sx_p (pc' := 21) (lv' := [.ref (X + 20), .ref t, .int v2, .int v3, .int x0, .int x1, .int v3, .int x0, sm_junk, sm_junk]) (st' := []) q117 7 5 rfl (sx_w (lv := [.ref (X + 20), .ref t, .int v2, .int v3, .int x0, .int x1, .int v3, .int x0, sm_junk, sm_junk]) (lv' := [.ref (X + 20), .ref t, sm_junk, sm_junk, .int x0, .int x1, .int v3, .int x0, sm_junk, sm_junk]) (sm_ordl.ord ⟨Or.inr rfl, Or.inr rfl, Or.inl rfl, Or.inl rfl, Or.inr rfl, Or.inr rfl, Or.inr rfl, Or.inr rfl, Or.inl rfl, Or.inl rfl, trivial⟩))))))))))
/-! MessageTree$Writer.putType -/
theorem q118 : sm_q 118 10 sm_i118 7 := ⟨rfl, rfl, rfl⟩
set_option maxRecDepth 8000 in
theorem n118_50 {C : sm_K} {X : Nat} {t : Nat} {v2 : Int32} {s0 : Int32} (hX : sm_Lay C X) (ht : sm_tree C t) {D : sm_D} : sm_ge (sm_fx C 118 50 [.ref (X + 20), .ref t, .int v2, sm_junk, sm_junk] [.int s0] D) (
  sm_fx C 118 54 [.ref (X + 20), .ref t, .int v2, .int s0, .int (ni 0)] [] D) := 
  (sx_p (pc' := 54) (lv' := [.ref (X + 20), .ref t, .int v2, .int s0, .int (ni 0)]) (st' := []) q118 28 3 rfl (sm_ge.refl _))
set_option maxRecDepth 8000 in
theorem n118_54 {C : sm_K} {X : Nat} {t : Nat} {v2 : Int32} {v3 : Int32} {v4 : Int32} (hX : sm_Lay C X) (ht : sm_tree C t) {D : sm_D} : sm_ge (sm_fx C 118 54 [.ref (X + 20), .ref t, .int v2, .int v3, .int v4] [] D) (
  sm_gu (sm_in_b v2 40) (
  if (D.1 (t + 8) v2.toNatClampNeg) ≤ v4 then
    sm_bv (sm_fe C 114 [.ref (X + 20)] D) (fun D1 =>
      some (.inl none, D1))
  else
    sm_bv (sm_fe C 112 [.ref (X + 20), .ref (C.1.1 40)] D) (fun D2 =>
      sm_bi (sm_fe C 136 [.int v2, .int v4, .int (ni 0)] D2) (fun x0 D3 =>
        sm_bv (sm_fe C 116 [.ref (X + 20), .ref t, .int x0] D3) (fun D4 =>
          sm_bv (sm_fe C 112 [.ref (X + 20), .ref (C.1.1 41)] D4) (fun D5 =>
            sm_bi (sm_fe C 136 [.int v2, .int v4, .int (ni 1)] D5) (fun x1 D6 =>
              if x1 = v3 then
                sm_bv (sm_fe C 113 [.ref (X + 20), .int v2] D6) (fun D9 =>
                  sm_fx C 118 120 [.ref (X + 20), .ref t, .int v2, .int v3, .int v4] [] D9)
              else
                sm_bi (sm_fe C 136 [.int v2, .int v4, .int (ni 1)] D6) (fun x2 D7 =>
                  sm_bv (sm_fe C 119 [.ref (X + 20), .ref t, .int x2] D7) (fun D8 =>
                    sm_fx C 118 120 [.ref (X + 20), .ref t, .int v2, .int v3, .int v4] [] D8))))))))) := 
  (sx_p (pc' := 57) (lv' := [.ref (X + 20), .ref t, .int v2, .int v3, .int v4]) (st' := [.ref t, .int v4]) q118 31 2 rfl (sx_gR q118 33 rfl fk_10_135 (fun _ _ => rfl) (ht.s 0 rfl) (ht.r 0 6 rfl) (sx_p (pc' := 61) (lv' := [.ref (X + 20), .ref t, .int v2, .int v3, .int v4]) (st' := [.int v2, .ref (t + 8), .int v4]) q118 34 1 rfl (sx_ia q118 35 rfl (ht.s 8 rfl) (ht.b 8) (sx_icmp_ge q118 36 rfl rfl (sx_p (pc' := 133) (lv' := [.ref (X + 20), .ref t, .int v2, .int v3, .int v4]) (st' := [.ref (X + 20)]) q118 72 1 rfl (sx_kv (sx_V q118 73 rfl lk_10_36 vk_114 na_114 rfl rfl rfl rfl (hX.s 20 rfl)) (by decide) rfl (fun D1 => (sx_rv q118 74 rfl rfl)))) (sx_p (pc' := 66) (lv' := [.ref (X + 20), .ref t, .int v2, .int v3, .int v4]) (st' := [.ref (X + 20)]) q118 37 1 rfl (sx_cs q118 38 rfl (Or.inl ⟨rfl, rfl⟩) cs_10_138 (sx_kv (sx_V q118 39 rfl lk_10_52 vk_112 na_112 rfl rfl rfl rfl (hX.s 20 rfl)) (by decide) rfl (fun D2 => (sx_p (pc' := 77) (lv' := [.ref (X + 20), .ref t, .int v2, .int v3, .int v4]) (st' := [.int (ni 0), .int v4, .int v2, .ref t, .ref (X + 20)]) q118 40 5 rfl (sx_ki (sx_S q118 45 rfl lk_10_140 rfl na_136 rfl rfl rfl rfl) (by decide) rfl (fun x0 D3 => (sx_kv (sx_V q118 46 rfl lk_10_92 vk_116 na_116 rfl rfl rfl rfl (hX.s 20 rfl)) (by decide) rfl (fun D4 => (sx_p (pc' := 84) (lv' := [.ref (X + 20), .ref t, .int v2, .int v3, .int v4]) (st' := [.ref (X + 20)]) q118 47 1 rfl (sx_cs q118 48 rfl (Or.inl ⟨rfl, rfl⟩) cs_10_144 (sx_kv (sx_V q118 49 rfl lk_10_52 vk_112 na_112 rfl rfl rfl rfl (hX.s 20 rfl)) (by decide) rfl (fun D5 => (sx_p (pc' := 93) (lv' := [.ref (X + 20), .ref t, .int v2, .int v3, .int v4]) (st' := [.int (ni 1), .int v4, .int v2]) q118 50 3 rfl (sx_ki (sx_S q118 53 rfl lk_10_140 rfl na_136 rfl rfl rfl rfl) (by decide) rfl (fun x1 D6 => (sx_p (pc' := 97) (lv' := [.ref (X + 20), .ref t, .int v2, .int v3, .int v4]) (st' := [.int v3, .int x1]) q118 54 1 rfl (sx_icmp_ne q118 55 rfl rfl (sx_p (pc' := 114) (lv' := [.ref (X + 20), .ref t, .int v2, .int v3, .int v4]) (st' := [.int (ni 1), .int v4, .int v2, .ref t, .ref (X + 20)]) q118 60 5 rfl (sx_ki (sx_S q118 65 rfl lk_10_140 rfl na_136 rfl rfl rfl rfl) (by decide) rfl (fun x2 D7 => (sx_kv (sx_V q118 66 rfl lk_10_146 vk_119 na_119 rfl rfl rfl rfl (hX.s 20 rfl)) (by decide) rfl (fun D8 => (sm_ge.refl _)))))) (sx_p (pc' := 102) (lv' := [.ref (X + 20), .ref t, .int v2, .int v3, .int v4]) (st' := [.int v2, .ref (X + 20)]) q118 56 2 rfl (sx_kv (sx_V q118 58 rfl lk_10_71 vk_113 na_113 rfl rfl rfl rfl (hX.s 20 rfl)) (by decide) rfl (fun D9 => (sx_p (pc' := 120) (lv' := [.ref (X + 20), .ref t, .int v2, .int v3, .int v4]) (st' := []) q118 59 1 rfl (sm_ge.refl _))))))))))))))))))))))))))))
set_option maxRecDepth 8000 in
theorem n118_120 {C : sm_K} {X : Nat} {t : Nat} {v2 : Int32} {v3 : Int32} {v4 : Int32} (hX : sm_Lay C X) (ht : sm_tree C t) {D : sm_D} : sm_ge (sm_fx C 118 120 [.ref (X + 20), .ref t, .int v2, .int v3, .int v4] [] D) (
  sm_bv (sm_fe C 112 [.ref (X + 20), .ref (C.1.1 42)] D) (fun D1 =>
    sm_fx C 118 54 [.ref (X + 20), .ref t, .int v2, .int v3, .int (v4 + ni 1)] [] D1)) := 
  (sx_p (pc' := 121) (lv' := [.ref (X + 20), .ref t, .int v2, .int v3, .int v4]) (st' := [.ref (X + 20)]) q118 67 1 rfl (sx_cs q118 68 rfl (Or.inl ⟨rfl, rfl⟩) cs_10_149 (sx_kv (sx_V q118 69 rfl lk_10_52 vk_112 na_112 rfl rfl rfl rfl (hX.s 20 rfl)) (by decide) rfl (fun D1 => (sx_p (pc' := 54) (lv' := [.ref (X + 20), .ref t, .int v2, .int v3, .int (v4 + ni 1)]) (st' := []) q118 70 2 rfl (sm_ge.refl _))))))
set_option maxRecDepth 8000 in
theorem f118 {C : sm_K} {X : Nat} {t : Nat} {v2 : Int32} (hX : sm_Lay C X) (ht : sm_tree C t) {D : sm_D} : sm_ge (sm_fe C 118 [.ref (X + 20), .ref t, .int v2] D) (
  sm_bv (sm_fe C 112 [.ref (X + 20), .ref (C.1.1 38)] D) (fun D1 =>
    sm_bi (sm_fe C 133 [.int v2, .int (ni 0)] D1) (fun x0 D2 =>
      sm_bv (sm_fe C 116 [.ref (X + 20), .ref t, .int x0] D2) (fun D3 =>
        sm_bv (sm_fe C 112 [.ref (X + 20), .ref (C.1.1 39)] D3) (fun D4 =>
          sm_bi (sm_fe C 133 [.int v2, .int (ni 1)] D4) (fun x1 D5 =>
            sm_bv (sm_fe C 116 [.ref (X + 20), .ref t, .int x1] D5) (fun D6 =>
              sm_gu (sm_in_b v2 40) (
              if (D6.1 (t + 10) v2.toNatClampNeg) = ni 0 then
                sm_fx C 118 50 [.ref (X + 20), .ref t, .int v2, sm_junk, sm_junk] [.int (sm_k (-1))] D6
              else
                sm_bi (sm_fe C 142 [.ref t, .int v2] D6) (fun x2 D7 =>
                  sm_fx C 118 50 [.ref (X + 20), .ref t, .int v2, sm_junk, sm_junk] [.int x2] D7))))))))) := by
  rw [sx_fe (m := 5) rfl rfl]
  exact (show sm_ge (sm_fx C 118 0 [.ref (X + 20), .ref t, .int v2, sm_junk, sm_junk] [] D) _ from (sx_p (pc' := 1) (lv' := [.ref (X + 20), .ref t, .int v2, sm_junk, sm_junk]) (st' := [.ref (X + 20)]) q118 0 1 rfl (sx_cs q118 1 rfl (Or.inl ⟨rfl, rfl⟩) cs_10_125 (sx_kv (sx_V q118 2 rfl lk_10_52 vk_112 na_112 rfl rfl rfl rfl (hX.s 20 rfl)) (by decide) rfl (fun D1 => (sx_p (pc' := 10) (lv' := [.ref (X + 20), .ref t, .int v2, sm_junk, sm_junk]) (st' := [.int (ni 0), .int v2, .ref t, .ref (X + 20)]) q118 3 4 rfl (sx_ki (sx_S q118 7 rfl lk_10_127 rfl na_133 rfl rfl rfl rfl) (by decide) rfl (fun x0 D2 => (sx_kv (sx_V q118 8 rfl lk_10_92 vk_116 na_116 rfl rfl rfl rfl (hX.s 20 rfl)) (by decide) rfl (fun D3 => (sx_p (pc' := 17) (lv' := [.ref (X + 20), .ref t, .int v2, sm_junk, sm_junk]) (st' := [.ref (X + 20)]) q118 9 1 rfl (sx_cs q118 10 rfl (Or.inl ⟨rfl, rfl⟩) cs_10_130 (sx_kv (sx_V q118 11 rfl lk_10_52 vk_112 na_112 rfl rfl rfl rfl (hX.s 20 rfl)) (by decide) rfl (fun D4 => (sx_p (pc' := 26) (lv' := [.ref (X + 20), .ref t, .int v2, sm_junk, sm_junk]) (st' := [.int (ni 1), .int v2, .ref t, .ref (X + 20)]) q118 12 4 rfl (sx_ki (sx_S q118 16 rfl lk_10_127 rfl na_133 rfl rfl rfl rfl) (by decide) rfl (fun x1 D5 => (sx_kv (sx_V q118 17 rfl lk_10_92 vk_116 na_116 rfl rfl rfl rfl (hX.s 20 rfl)) (by decide) rfl (fun D6 => (sx_p (pc' := 33) (lv' := [.ref (X + 20), .ref t, .int v2, sm_junk, sm_junk]) (st' := [.ref t]) q118 18 1 rfl (sx_gR q118 19 rfl fk_10_46 (fun _ _ => rfl) (ht.s 0 rfl) (ht.r 0 8 rfl) (sx_p (pc' := 37) (lv' := [.ref (X + 20), .ref t, .int v2, sm_junk, sm_junk]) (st' := [.int v2, .ref (t + 10)]) q118 20 1 rfl (sx_ba q118 21 rfl (ht.s 10 rfl) (by simp) (ht.b 10) (sx_if_eq q118 22 rfl rfl (sx_p (pc' := 50) (lv' := [.ref (X + 20), .ref t, .int v2, sm_junk, sm_junk]) (st' := [.int (sm_k (-1))]) q118 27 1 rfl (sm_ge.refl _)) (sx_p (pc' := 43) (lv' := [.ref (X + 20), .ref t, .int v2, sm_junk, sm_junk]) (st' := [.int v2, .ref t]) q118 23 2 rfl (sx_ki (sx_V q118 25 rfl lk_10_132 vk_142 na_142 rfl rfl rfl rfl (ht.s 0 rfl)) (by decide) rfl (fun x2 D7 => (sx_p (pc' := 50) (lv' := [.ref (X + 20), .ref t, .int v2, sm_junk, sm_junk]) (st' := [.int x2]) q118 26 1 rfl (sm_ge.refl _)))))))))))))))))))))))))))))
/-! MessageTree$Writer.putEscaped -/
theorem q119 : sm_q 119 10 sm_i119 2 := ⟨rfl, rfl, rfl⟩
set_option maxRecDepth 8000 in
theorem n119_2 {C : sm_K} {X : Nat} {t : Nat} {v2 : Int32} {v3 : Int32} (hX : sm_Lay C X) (ht : sm_tree C t) {D : sm_D} : sm_ge (sm_fx C 119 2 [.ref (X + 20), .ref t, .int v2, .int v3, sm_junk] [] D) (
  sm_bi (sm_fe C 138 [.ref t, .int v2] D) (fun x0 D1 =>
    if x0 ≤ v3 then
      some (.inl none, D1)
    else
      sm_bi (sm_fe C 139 [.ref t, .int v2, .int v3] D1) (fun x1 D2 =>
        if x1 = (ni 34) then
          sm_fx C 119 33 [.ref (X + 20), .ref t, .int v2, .int v3, .int x1] [] D2
        else
          if x1 = (ni 92) then
            sm_fx C 119 33 [.ref (X + 20), .ref t, .int v2, .int v3, .int x1] [] D2
          else
            sm_fx C 119 42 [.ref (X + 20), .ref t, .int v2, .int v3, .int x1] [] D2))) := 
  (sx_p (pc' := 5) (lv' := [.ref (X + 20), .ref t, .int v2, .int v3, sm_junk]) (st' := [.int v2, .ref t, .int v3]) q119 2 3 rfl (sx_ki (sx_V q119 5 rfl lk_10_97 vk_138 na_138 rfl rfl rfl rfl (ht.s 0 rfl)) (by decide) rfl (fun x0 D1 => (sx_icmp_ge q119 6 rfl rfl (sx_rv q119 28 rfl rfl) (sx_p (pc' := 14) (lv' := [.ref (X + 20), .ref t, .int v2, .int v3, sm_junk]) (st' := [.int v3, .int v2, .ref t]) q119 7 3 rfl (sx_ki (sx_V q119 10 rfl lk_10_151 vk_139 na_139 rfl rfl rfl rfl (ht.s 0 rfl)) (by decide) rfl (fun x1 D2 => (sx_p (pc' := 23) (lv' := [.ref (X + 20), .ref t, .int v2, .int v3, .int x1]) (st' := [.int (ni 34), .int x1]) q119 11 3 rfl (sx_icmp_eq q119 14 rfl rfl (sm_ge.refl _) (sx_p (pc' := 30) (lv' := [.ref (X + 20), .ref t, .int v2, .int v3, .int x1]) (st' := [.int (ni 92), .int x1]) q119 15 2 rfl (sx_icmp_ne q119 17 rfl rfl (sm_ge.refl _) (sm_ge.refl _))))))))))))
set_option maxRecDepth 8000 in
theorem n119_33 {C : sm_K} {X : Nat} {t : Nat} {v2 : Int32} {v3 : Int32} {v4 : Int32} (hX : sm_Lay C X) (ht : sm_tree C t) {D : sm_D} : sm_ge (sm_fx C 119 33 [.ref (X + 20), .ref t, .int v2, .int v3, .int v4] [] D) (
  sm_bv (sm_fe C 44 [.ref (X + 21), .int (ni 92)] D) (fun D1 =>
    sm_fx C 119 42 [.ref (X + 20), .ref t, .int v2, .int v3, .int v4] [] D1)) := 
  (sx_p (pc' := 34) (lv' := [.ref (X + 20), .ref t, .int v2, .int v3, .int v4]) (st' := [.ref (X + 20)]) q119 18 1 rfl (sx_gR q119 19 rfl fk_10_14 (fun _ _ => rfl) (hX.s 20 rfl) (hX.r 20 0 rfl) (sx_p (pc' := 39) (lv' := [.ref (X + 20), .ref t, .int v2, .int v3, .int v4]) (st' := [.int (ni 92), .ref (X + 21)]) q119 20 1 rfl (sx_kv (sx_V q119 21 rfl lk_10_76 vk_44 na_44 rfl rfl rfl rfl (hX.s 21 rfl)) (by decide) rfl (fun D1 => (sm_ge.refl _))))))
set_option maxRecDepth 8000 in
theorem n119_42 {C : sm_K} {X : Nat} {t : Nat} {v2 : Int32} {v3 : Int32} {v4 : Int32} (hX : sm_Lay C X) (ht : sm_tree C t) {D : sm_D} : sm_ge (sm_fx C 119 42 [.ref (X + 20), .ref t, .int v2, .int v3, .int v4] [] D) (
  sm_bv (sm_fe C 44 [.ref (X + 21), .int v4] D) (fun D1 =>
    sm_fx C 119 2 [.ref (X + 20), .ref t, .int v2, .int (v3 + ni 1), sm_junk] [] D1)) := 
  (sx_p (pc' := 43) (lv' := [.ref (X + 20), .ref t, .int v2, .int v3, .int v4]) (st' := [.ref (X + 20)]) q119 22 1 rfl (sx_gR q119 23 rfl fk_10_14 (fun _ _ => rfl) (hX.s 20 rfl) (hX.r 20 0 rfl) (sx_p (pc' := 48) (lv' := [.ref (X + 20), .ref t, .int v2, .int v3, .int v4]) (st' := [.int v4, .ref (X + 21)]) q119 24 1 rfl (sx_kv (sx_V q119 25 rfl lk_10_76 vk_44 na_44 rfl rfl rfl rfl (hX.s 21 rfl)) (by decide) rfl (fun D1 => (sx_p (pc' := 2) (lv' := [.ref (X + 20), .ref t, .int v2, .int (v3 + ni 1), .int v4]) (st' := []) q119 26 2 rfl (sx_w (lv := [.ref (X + 20), .ref t, .int v2, .int (v3 + ni 1), .int v4]) (lv' := [.ref (X + 20), .ref t, .int v2, .int (v3 + ni 1), sm_junk]) (sm_ordl.ord ⟨Or.inr rfl, Or.inr rfl, Or.inr rfl, Or.inr rfl, Or.inl rfl, trivial⟩))))))))
set_option maxRecDepth 8000 in
theorem f119 {C : sm_K} {X : Nat} {t : Nat} {v2 : Int32} (hX : sm_Lay C X) (ht : sm_tree C t) {D : sm_D} : sm_ge (sm_fe C 119 [.ref (X + 20), .ref t, .int v2] D) (
  sm_fx C 119 2 [.ref (X + 20), .ref t, .int v2, .int (ni 0), sm_junk] [] D) := by
  rw [sx_fe (m := 5) rfl rfl]
  exact (show sm_ge (sm_fx C 119 0 [.ref (X + 20), .ref t, .int v2, sm_junk, sm_junk] [] D) _ from (sx_p (pc' := 2) (lv' := [.ref (X + 20), .ref t, .int v2, .int (ni 0), sm_junk]) (st' := []) q119 0 2 rfl (sm_ge.refl _)))
/-! MessageTree$Writer.putCoded -/
theorem q120 : sm_q 120 10 sm_i120 6 := ⟨rfl, rfl, rfl⟩
set_option maxRecDepth 8000 in
theorem n120_12 {C : sm_K} {X : Nat} {t : Nat} {v2 : Int32} {v3 : Int32} {v4 : Int32} {v5 : Int32} (hX : sm_Lay C X) (ht : sm_tree C t) {D : sm_D} : sm_ge (sm_fx C 120 12 [.ref (X + 20), .ref t, .int v2, .int v3, .int v4, .int v5] [] D) (
  if v3 ≤ v5 then
    some (.inl none, D)
  else
    if v4 = (ni 76) then
      sm_bv (sm_fe C 114 [.ref (X + 20)] D) (fun D1 =>
        sm_fx C 120 32 [.ref (X + 20), .ref t, .int v2, .int v3, .int (ni 0), .int v5] [] D1)
    else
      sm_fx C 120 32 [.ref (X + 20), .ref t, .int v2, .int v3, .int v4, .int v5] [] D) := 
  (sx_p (pc' := 15) (lv' := [.ref (X + 20), .ref t, .int v2, .int v3, .int v4, .int v5]) (st' := [.int v3, .int v5]) q120 8 2 rfl (sx_icmp_ge q120 10 rfl rfl (sx_rv q120 29 rfl rfl) (sx_p (pc' := 22) (lv' := [.ref (X + 20), .ref t, .int v2, .int v3, .int v4, .int v5]) (st' := [.int (ni 76), .int v4]) q120 11 2 rfl (sx_icmp_ne q120 13 rfl rfl (sm_ge.refl _) (sx_p (pc' := 26) (lv' := [.ref (X + 20), .ref t, .int v2, .int v3, .int v4, .int v5]) (st' := [.ref (X + 20)]) q120 14 1 rfl (sx_kv (sx_V q120 15 rfl lk_10_36 vk_114 na_114 rfl rfl rfl rfl (hX.s 20 rfl)) (by decide) rfl (fun D1 => (sx_p (pc' := 32) (lv' := [.ref (X + 20), .ref t, .int v2, .int v3, .int (ni 0), .int v5]) (st' := []) q120 16 2 rfl (sm_ge.refl _)))))))))
set_option maxRecDepth 8000 in
theorem n120_32 {C : sm_K} {X : Nat} {t : Nat} {v2 : Int32} {v3 : Int32} {v4 : Int32} {v5 : Int32} (hX : sm_Lay C X) (ht : sm_tree C t) {D : sm_D} : sm_ge (sm_fx C 120 32 [.ref (X + 20), .ref t, .int v2, .int v3, .int v4, .int v5] [] D) (
  sm_bv (sm_fe C 121 [.ref (X + 20), .ref t, .int v2, .int v5, .int (v3 - v5)] D) (fun D1 =>
    sm_fx C 120 12 [.ref (X + 20), .ref t, .int v2, .int v3, .int (v4 + ni 4), .int (v5 + ni 3)] [] D1)) := 
  (sx_p (pc' := 41) (lv' := [.ref (X + 20), .ref t, .int v2, .int v3, .int v4, .int v5]) (st' := [.int (v3 - v5), .int v5, .int v2, .ref t, .ref (X + 20)]) q120 18 7 rfl (sx_kv (sx_V q120 25 rfl lk_10_154 vk_121 na_121 rfl rfl rfl rfl (hX.s 20 rfl)) (by decide) rfl (fun D1 => (sx_p (pc' := 12) (lv' := [.ref (X + 20), .ref t, .int v2, .int v3, .int (v4 + ni 4), .int (v5 + ni 3)]) (st' := []) q120 26 3 rfl (sm_ge.refl _)))))
set_option maxRecDepth 8000 in
theorem f120 {C : sm_K} {X : Nat} {t : Nat} {v2 : Int32} (hX : sm_Lay C X) (ht : sm_tree C t) {D : sm_D} : sm_ge (sm_fe C 120 [.ref (X + 20), .ref t, .int v2] D) (
  sm_bi (sm_fe C 138 [.ref t, .int v2] D) (fun x0 D1 =>
    sm_fx C 120 12 [.ref (X + 20), .ref t, .int v2, .int x0, .int (ni 0), .int (ni 0)] [] D1)) := by
  rw [sx_fe (m := 6) rfl rfl]
  exact (show sm_ge (sm_fx C 120 0 [.ref (X + 20), .ref t, .int v2, sm_junk, sm_junk, sm_junk] [] D) _ from (sx_p (pc' := 2) (lv' := [.ref (X + 20), .ref t, .int v2, sm_junk, sm_junk, sm_junk]) (st' := [.int v2, .ref t]) q120 0 2 rfl (sx_ki (sx_V q120 2 rfl lk_10_97 vk_138 na_138 rfl rfl rfl rfl (ht.s 0 rfl)) (by decide) rfl (fun x0 D1 => (sx_p (pc' := 12) (lv' := [.ref (X + 20), .ref t, .int v2, .int x0, .int (ni 0), .int (ni 0)]) (st' := []) q120 3 5 rfl (sm_ge.refl _))))))
/-! MessageTree$Writer.putFour -/
theorem q121 : sm_q 121 10 sm_i121 5 := ⟨rfl, rfl, rfl⟩
set_option maxRecDepth 8000 in
theorem n121_33 {C : sm_K} {X : Nat} {t : Nat} {v2 : Int32} {v3 : Int32} {v4 : Int32} {v5 : Int32} (hX : sm_Lay C X) (ht : sm_tree C t) {D : sm_D} : sm_ge (sm_fx C 121 33 [.ref (X + 20), .ref t, .int v2, .int v3, .int v4, .int v5] [] D) (
  if v4 ≤ (ni 2) then
    sm_fx C 121 52 [.ref (X + 20), sm_junk, sm_junk, sm_junk, .int v4, .int v5] [] D
  else
    sm_bi (sm_fe C 139 [.ref t, .int v2, .int (v3 + (ni 2))] D) (fun x0 D1 =>
      sm_fx C 121 52 [.ref (X + 20), sm_junk, sm_junk, sm_junk, .int v4, .int (v5 ||| x0)] [] D1)) := 
  (sx_p (pc' := 36) (lv' := [.ref (X + 20), .ref t, .int v2, .int v3, .int v4, .int v5]) (st' := [.int (ni 2), .int v4]) q121 21 2 rfl (sx_icmp_le q121 23 rfl rfl (sx_w (lv := [.ref (X + 20), .ref t, .int v2, .int v3, .int v4, .int v5]) (lv' := [.ref (X + 20), sm_junk, sm_junk, sm_junk, .int v4, .int v5]) (sm_ordl.ord ⟨Or.inr rfl, Or.inl rfl, Or.inl rfl, Or.inl rfl, Or.inr rfl, Or.inr rfl, trivial⟩)) (sx_p (pc' := 46) (lv' := [.ref (X + 20), .ref t, .int v2, .int v3, .int v4, .int v5]) (st' := [.int (v3 + (ni 2)), .int v2, .ref t, .int v5]) q121 24 6 rfl (sx_ki (sx_V q121 30 rfl lk_10_151 vk_139 na_139 rfl rfl rfl rfl (ht.s 0 rfl)) (by decide) rfl (fun x0 D1 => (sx_p (pc' := 52) (lv' := [.ref (X + 20), .ref t, .int v2, .int v3, .int v4, .int (v5 ||| x0)]) (st' := []) q121 31 2 rfl (sx_w (lv := [.ref (X + 20), .ref t, .int v2, .int v3, .int v4, .int (v5 ||| x0)]) (lv' := [.ref (X + 20), sm_junk, sm_junk, sm_junk, .int v4, .int (v5 ||| x0)]) (sm_ordl.ord ⟨Or.inr rfl, Or.inl rfl, Or.inl rfl, Or.inl rfl, Or.inr rfl, Or.inr rfl, trivial⟩))))))))
set_option maxRecDepth 8000 in
theorem n121_52 {C : sm_K} {X : Nat} {t : Nat} {v4 : Int32} {v5 : Int32} (hX : sm_Lay C X) (ht : sm_tree C t) {D : sm_D} : sm_ge (sm_fx C 121 52 [.ref (X + 20), sm_junk, sm_junk, sm_junk, .int v4, .int v5] [] D) (
  sm_bv (sm_fe C 122 [.ref (X + 20), .int (v5 >>> ((ni 18) &&& 31))] D) (fun D1 =>
    sm_bv (sm_fe C 122 [.ref (X + 20), .int (v5 >>> ((ni 12) &&& 31))] D1) (fun D2 =>
      if v4 ≤ (ni 1) then
        sm_bv (sm_fe C 44 [.ref (X + 21), .int (ni 61)] D2) (fun D3 =>
          sm_fx C 121 97 [.ref (X + 20), sm_junk, sm_junk, sm_junk, .int v4, .int v5] [] D3)
      else
        sm_bv (sm_fe C 122 [.ref (X + 20), .int (v5 >>> ((ni 6) &&& 31))] D2) (fun D4 =>
          sm_fx C 121 97 [.ref (X + 20), sm_junk, sm_junk, sm_junk, .int v4, .int v5] [] D4)))) := 
  (sx_p (pc' := 58) (lv' := [.ref (X + 20), sm_junk, sm_junk, sm_junk, .int v4, .int v5]) (st' := [.int (v5 >>> ((ni 18) &&& 31)), .ref (X + 20)]) q121 33 4 rfl (sx_kv (sx_V q121 37 rfl lk_10_158 vk_122 na_122 rfl rfl rfl rfl (hX.s 20 rfl)) (by decide) rfl (fun D1 => (sx_p (pc' := 67) (lv' := [.ref (X + 20), sm_junk, sm_junk, sm_junk, .int v4, .int v5]) (st' := [.int (v5 >>> ((ni 12) &&& 31)), .ref (X + 20)]) q121 38 4 rfl (sx_kv (sx_V q121 42 rfl lk_10_158 vk_122 na_122 rfl rfl rfl rfl (hX.s 20 rfl)) (by decide) rfl (fun D2 => (sx_p (pc' := 73) (lv' := [.ref (X + 20), sm_junk, sm_junk, sm_junk, .int v4, .int v5]) (st' := [.int (ni 1), .int v4]) q121 43 2 rfl (sx_icmp_le q121 45 rfl rfl (sx_p (pc' := 89) (lv' := [.ref (X + 20), sm_junk, sm_junk, sm_junk, .int v4, .int v5]) (st' := [.ref (X + 20)]) q121 52 1 rfl (sx_gR q121 53 rfl fk_10_14 (fun _ _ => rfl) (hX.s 20 rfl) (hX.r 20 0 rfl) (sx_p (pc' := 94) (lv' := [.ref (X + 20), sm_junk, sm_junk, sm_junk, .int v4, .int v5]) (st' := [.int (ni 61), .ref (X + 21)]) q121 54 1 rfl (sx_kv (sx_V q121 55 rfl lk_10_76 vk_44 na_44 rfl rfl rfl rfl (hX.s 21 rfl)) (by decide) rfl (fun D3 => (sm_ge.refl _)))))) (sx_p (pc' := 82) (lv' := [.ref (X + 20), sm_junk, sm_junk, sm_junk, .int v4, .int v5]) (st' := [.int (v5 >>> ((ni 6) &&& 31)), .ref (X + 20)]) q121 46 4 rfl (sx_kv (sx_V q121 50 rfl lk_10_158 vk_122 na_122 rfl rfl rfl rfl (hX.s 20 rfl)) (by decide) rfl (fun D4 => (sx_p (pc' := 97) (lv' := [.ref (X + 20), sm_junk, sm_junk, sm_junk, .int v4, .int v5]) (st' := []) q121 51 1 rfl (sm_ge.refl _)))))))))))))
set_option maxRecDepth 8000 in
theorem n121_97 {C : sm_K} {X : Nat} {t : Nat} {v4 : Int32} {v5 : Int32} (hX : sm_Lay C X) (ht : sm_tree C t) {D : sm_D} : sm_ge (sm_fx C 121 97 [.ref (X + 20), sm_junk, sm_junk, sm_junk, .int v4, .int v5] [] D) (
  if v4 ≤ (ni 2) then
    sm_bv (sm_fe C 44 [.ref (X + 21), .int (ni 61)] D) (fun D1 =>
      some (.inl none, D1))
  else
    sm_bv (sm_fe C 122 [.ref (X + 20), .int v5] D) (fun D2 =>
      some (.inl none, D2))) := 
  (sx_p (pc' := 100) (lv' := [.ref (X + 20), sm_junk, sm_junk, sm_junk, .int v4, .int v5]) (st' := [.int (ni 2), .int v4]) q121 56 2 rfl (sx_icmp_le q121 58 rfl rfl (sx_p (pc' := 113) (lv' := [.ref (X + 20), sm_junk, sm_junk, sm_junk, .int v4, .int v5]) (st' := [.ref (X + 20)]) q121 63 1 rfl (sx_gR q121 64 rfl fk_10_14 (fun _ _ => rfl) (hX.s 20 rfl) (hX.r 20 0 rfl) (sx_p (pc' := 118) (lv' := [.ref (X + 20), sm_junk, sm_junk, sm_junk, .int v4, .int v5]) (st' := [.int (ni 61), .ref (X + 21)]) q121 65 1 rfl (sx_kv (sx_V q121 66 rfl lk_10_76 vk_44 na_44 rfl rfl rfl rfl (hX.s 21 rfl)) (by decide) rfl (fun D1 => (sx_rv q121 67 rfl rfl)))))) (sx_p (pc' := 106) (lv' := [.ref (X + 20), sm_junk, sm_junk, sm_junk, .int v4, .int v5]) (st' := [.int v5, .ref (X + 20)]) q121 59 2 rfl (sx_kv (sx_V q121 61 rfl lk_10_158 vk_122 na_122 rfl rfl rfl rfl (hX.s 20 rfl)) (by decide) rfl (fun D2 => (sx_p (pc' := 121) (lv' := [.ref (X + 20), sm_junk, sm_junk, sm_junk, .int v4, .int v5]) (st' := []) q121 62 1 rfl (sx_rv q121 67 rfl rfl)))))))
set_option maxRecDepth 8000 in
theorem f121 {C : sm_K} {X : Nat} {t : Nat} {v2 : Int32} {v3 : Int32} {v4 : Int32} (hX : sm_Lay C X) (ht : sm_tree C t) {D : sm_D} : sm_ge (sm_fe C 121 [.ref (X + 20), .ref t, .int v2, .int v3, .int v4] D) (
  sm_bi (sm_fe C 139 [.ref t, .int v2, .int v3] D) (fun x0 D1 =>
    if v4 ≤ (ni 1) then
      sm_fx C 121 33 [.ref (X + 20), .ref t, .int v2, .int v3, .int v4, .int (x0 <<< ((ni 16) &&& 31))] [] D1
    else
      sm_bi (sm_fe C 139 [.ref t, .int v2, .int (v3 + (ni 1))] D1) (fun x1 D2 =>
        sm_fx C 121 33 [.ref (X + 20), .ref t, .int v2, .int v3, .int v4, .int ((x0 <<< ((ni 16) &&& 31)) ||| (x1 <<< ((ni 8) &&& 31)))] [] D2))) := by
  rw [sx_fe (m := 6) rfl rfl]
  exact (show sm_ge (sm_fx C 121 0 [.ref (X + 20), .ref t, .int v2, .int v3, .int v4, sm_junk] [] D) _ from (sx_p (pc' := 3) (lv' := [.ref (X + 20), .ref t, .int v2, .int v3, .int v4, sm_junk]) (st' := [.int v3, .int v2, .ref t]) q121 0 3 rfl (sx_ki (sx_V q121 3 rfl lk_10_151 vk_139 na_139 rfl rfl rfl rfl (ht.s 0 rfl)) (by decide) rfl (fun x0 D1 => (sx_p (pc' := 14) (lv' := [.ref (X + 20), .ref t, .int v2, .int v3, .int v4, .int (x0 <<< ((ni 16) &&& 31))]) (st' := [.int (ni 1), .int v4]) q121 4 5 rfl (sx_icmp_le q121 9 rfl rfl (sm_ge.refl _) (sx_p (pc' := 24) (lv' := [.ref (X + 20), .ref t, .int v2, .int v3, .int v4, .int (x0 <<< ((ni 16) &&& 31))]) (st' := [.int (v3 + (ni 1)), .int v2, .ref t, .int (x0 <<< ((ni 16) &&& 31))]) q121 10 6 rfl (sx_ki (sx_V q121 16 rfl lk_10_151 vk_139 na_139 rfl rfl rfl rfl (ht.s 0 rfl)) (by decide) rfl (fun x1 D2 => (sx_p (pc' := 33) (lv' := [.ref (X + 20), .ref t, .int v2, .int v3, .int v4, .int ((x0 <<< ((ni 16) &&& 31)) ||| (x1 <<< ((ni 8) &&& 31)))]) (st' := []) q121 17 4 rfl (sm_ge.refl _)))))))))))
/-! MessageTree$Writer.putSign -/
theorem q122 : sm_q 122 10 sm_i122 4 := ⟨rfl, rfl, rfl⟩
set_option maxRecDepth 8000 in
theorem f122 {C : sm_K} {X : Nat} {v1 : Int32} (hX : sm_Lay C X) (hT : sm_tx_ok C) {D : sm_D} : sm_ge (sm_fe C 122 [.ref (X + 20), .int v1] D) (
  sm_bi (sm_fe C 262 [.ref (C.1.1 43), .int (v1 &&& (ni 63))] D) (fun x0 D1 =>
    sm_bv (sm_fe C 44 [.ref (X + 21), .int x0] D1) (fun D2 =>
      some (.inl none, D2)))) := by
  rw [sx_fe (m := 2) rfl rfl]
  exact (show sm_ge (sm_fx C 122 0 [.ref (X + 20), .int v1] [] D) _ from (sx_p (pc' := 1) (lv' := [.ref (X + 20), .int v1]) (st' := [.ref (X + 20)]) q122 0 1 rfl (sx_gR q122 1 rfl fk_10_14 (fun _ _ => rfl) (hX.s 20 rfl) (hX.r 20 0 rfl) (sx_cs q122 2 rfl (Or.inl ⟨rfl, rfl⟩) cs_10_161 (sx_p (pc' := 10) (lv' := [.ref (X + 20), .int v1]) (st' := [.int (v1 &&& (ni 63)), .ref (C.1.1 43), .ref (X + 21)]) q122 3 3 rfl (sx_ki (sx_V q122 6 rfl lk_10_163 vk_262 na_262 rfl rfl rfl rfl (hT.s 43)) (by decide) rfl (fun x0 D1 => (sx_kv (sx_V q122 7 rfl lk_10_76 vk_44 na_44 rfl rfl rfl rfl (hX.s 21 rfl)) (by decide) rfl (fun D2 => (sx_rv q122 8 rfl rfl))))))))))
/-! MessageTree$Writer.closeParts -/
theorem q123 : sm_q 123 10 sm_i123 7 := ⟨rfl, rfl, rfl⟩
set_option maxRecDepth 8000 in
theorem n123_14 {C : sm_K} {X : Nat} {t : Nat} {v3 : Int32} {v4 : Int32} {v5 : Int32} (hX : sm_Lay C X) (ht : sm_tree C t) {D : sm_D} : sm_ge (sm_fx C 123 14 [.ref (X + 20), .ref t, sm_junk, .int v3, .int v4, .int v5] [] D) (
  if (ni 40) ≤ v5 then
    some (.inl none, D)
  else
    if v4 ≤ ni 0 then
      some (.inl none, D)
    else
      sm_bv (sm_fe C 114 [.ref (X + 20)] D) (fun D1 =>
        sm_bi (sm_fe C 149 [.ref t, .int v4] D1) (fun x0 D2 =>
          if x0 = v3 then
            some (.inl none, D2)
          else
            sm_bv (sm_fe C 111 [.ref (X + 20), .int x0] D2) (fun D3 =>
              sm_bv (sm_fe C 112 [.ref (X + 20), .ref (C.1.1 35)] D3) (fun D4 =>
                sm_fx C 123 14 [.ref (X + 20), .ref t, sm_junk, .int v3, .int x0, .int (v5 + ni 1)] [] D4))))) := 
  (sx_p (pc' := 18) (lv' := [.ref (X + 20), .ref t, sm_junk, .int v3, .int v4, .int v5]) (st' := [.int (ni 40), .int v5]) q123 10 2 rfl (sx_icmp_ge q123 12 rfl rfl (sx_rv q123 33 rfl rfl) (sx_p (pc' := 23) (lv' := [.ref (X + 20), .ref t, sm_junk, .int v3, .int v4, .int v5]) (st' := [.int v4]) q123 13 1 rfl (sx_if_le q123 14 rfl rfl (sx_rv q123 33 rfl rfl) (sx_p (pc' := 27) (lv' := [.ref (X + 20), .ref t, sm_junk, .int v3, .int v4, .int v5]) (st' := [.ref (X + 20)]) q123 15 1 rfl (sx_kv (sx_V q123 16 rfl lk_10_36 vk_114 na_114 rfl rfl rfl rfl (hX.s 20 rfl)) (by decide) rfl (fun D1 => (sx_p (pc' := 33) (lv' := [.ref (X + 20), .ref t, sm_junk, .int v3, .int v4, .int v5]) (st' := [.int v4, .ref t]) q123 17 2 rfl (sx_ki (sx_V q123 19 rfl lk_10_66 vk_149 na_149 rfl rfl rfl rfl (ht.s 0 rfl)) (by decide) rfl (fun x0 D2 => (sx_p (pc' := 41) (lv' := [.ref (X + 20), .ref t, sm_junk, .int v3, .int x0, .int v5]) (st' := [.int v3, .int x0]) q123 20 3 rfl (sx_icmp_ne q123 23 rfl rfl (sx_p (pc' := 48) (lv' := [.ref (X + 20), .ref t, sm_junk, .int v3, .int x0, .int v5]) (st' := [.int x0, .ref (X + 20)]) q123 25 2 rfl (sx_kv (sx_V q123 27 rfl lk_10_33 vk_111 na_111 rfl rfl rfl rfl (hX.s 20 rfl)) (by decide) rfl (fun D3 => (sx_p (pc' := 52) (lv' := [.ref (X + 20), .ref t, sm_junk, .int v3, .int x0, .int v5]) (st' := [.ref (X + 20)]) q123 28 1 rfl (sx_cs q123 29 rfl (Or.inl ⟨rfl, rfl⟩) cs_10_69 (sx_kv (sx_V q123 30 rfl lk_10_52 vk_112 na_112 rfl rfl rfl rfl (hX.s 20 rfl)) (by decide) rfl (fun D4 => (sx_p (pc' := 14) (lv' := [.ref (X + 20), .ref t, sm_junk, .int v3, .int x0, .int (v5 + ni 1)]) (st' := []) q123 31 2 rfl (sm_ge.refl _))))))))) (sx_rv q123 24 rfl rfl)))))))))))))
set_option maxRecDepth 8000 in
theorem f123 {C : sm_K} {X : Nat} {t : Nat} {v2 : Int32} (hX : sm_Lay C X) (ht : sm_tree C t) {D : sm_D} : sm_ge (sm_fe C 123 [.ref (X + 20), .ref t, .int v2] D) (
  sm_bi (sm_fe C 149 [.ref t, .int (v2 + (ni 1))] D) (fun x0 D1 =>
    sm_fx C 123 14 [.ref (X + 20), .ref t, sm_junk, .int x0, .int v2, .int (ni 0)] [] D1)) := by
  rw [sx_fe (m := 6) rfl rfl]
  exact (show sm_ge (sm_fx C 123 0 [.ref (X + 20), .ref t, .int v2, sm_junk, sm_junk, sm_junk] [] D) _ from (sx_p (pc' := 4) (lv' := [.ref (X + 20), .ref t, .int v2, sm_junk, sm_junk, sm_junk]) (st' := [.int (v2 + (ni 1)), .ref t]) q123 0 4 rfl (sx_ki (sx_V q123 4 rfl lk_10_66 vk_149 na_149 rfl rfl rfl rfl (ht.s 0 rfl)) (by decide) rfl (fun x0 D1 => (sx_p (pc' := 14) (lv' := [.ref (X + 20), .ref t, .int v2, .int x0, .int v2, .int (ni 0)]) (st' := []) q123 5 5 rfl (sx_w (lv := [.ref (X + 20), .ref t, .int v2, .int x0, .int v2, .int (ni 0)]) (lv' := [.ref (X + 20), .ref t, sm_junk, .int x0, .int v2, .int (ni 0)]) (sm_ordl.ord ⟨Or.inr rfl, Or.inr rfl, Or.inl rfl, Or.inr rfl, Or.inr rfl, Or.inr rfl, trivial⟩)))))))
/-! MessageTree$Tree.clear -/
theorem q125 : sm_q 125 11 sm_i125 1 := ⟨rfl, rfl, rfl⟩
set_option maxRecDepth 8000 in
theorem f125 {C : sm_K} {t : Nat} (ht : sm_tree C t) {D : sm_D} : sm_ge (sm_fe C 125 [.ref t] D) (
  let D1 := sm_dI D (t + 1) 1 (ni 0)
  sm_bv (sm_fe C 291 [.ref (t + 4), .int (ni 0)] D1) (fun D2 =>
    sm_bv (sm_fe C 291 [.ref (t + 12), .int (ni 0)] D2) (fun D3 =>
      let D4 := sm_dI D3 t 11 (ni 0)
      let D5 := sm_dI D4 t 12 (ni 0)
      let D6 := sm_dJ D5 t 13 (Int64.ofNat 0)
      let D7 := sm_dI D6 t 14 (ni 0)
      some (.inl none, D7)))) := by
  rw [sx_fe (m := 1) rfl rfl]
  exact (show sm_ge (sm_fx C 125 0 [.ref t] [] D) _ from (sx_p (pc' := 1) (lv' := [.ref t]) (st' := [.ref t]) q125 0 1 rfl (sx_gR q125 1 rfl fk_11_16 (fun _ _ => rfl) (ht.s 0 rfl) (ht.r 0 0 rfl) (sx_p (pc' := 5) (lv' := [.ref t]) (st' := [.int (ni 0), .ref (t + 1)]) q125 2 1 rfl (sx_pI q125 3 rfl pk_11_52 rfl (ht.s 1 rfl) (ht.b 1) (sx_p (pc' := 9) (lv' := [.ref t]) (st' := [.ref t]) q125 4 1 rfl (sx_gR q125 5 rfl fk_11_24 (fun _ _ => rfl) (ht.s 0 rfl) (ht.r 0 2 rfl) (sx_p (pc' := 13) (lv' := [.ref t]) (st' := [.int (ni 0), .ref (t + 4)]) q125 6 1 rfl (sx_kv (sx_S q125 7 rfl lk_11_56 rfl na_291 rfl rfl rfl rfl) (by decide) rfl (fun D2 => (sx_p (pc' := 17) (lv' := [.ref t]) (st' := [.ref t]) q125 8 1 rfl (sx_gR q125 9 rfl fk_11_49 (fun _ _ => rfl) (ht.s 0 rfl) (ht.r 0 10 rfl) (sx_p (pc' := 21) (lv' := [.ref t]) (st' := [.int (ni 0), .ref (t + 12)]) q125 10 1 rfl (sx_kv (sx_S q125 11 rfl lk_11_56 rfl na_291 rfl rfl rfl rfl) (by decide) rfl (fun D3 => (sx_p (pc' := 26) (lv' := [.ref t]) (st' := [.int (ni 0), .ref t]) q125 12 2 rfl (sx_pI q125 14 rfl pk_11_62 rfl (ht.s 0 rfl) (ht.b 0) (sx_p (pc' := 31) (lv' := [.ref t]) (st' := [.int (ni 0), .ref t]) q125 15 2 rfl (sx_pI q125 17 rfl pk_11_65 rfl (ht.s 0 rfl) (ht.b 0) (sx_p (pc' := 36) (lv' := [.ref t]) (st' := [.long (Int64.ofNat 0), .ref t]) q125 18 2 rfl (sx_pJ q125 20 rfl pk_11_68 rfl (ht.s 0 rfl) (ht.b 0) (sx_p (pc' := 41) (lv' := [.ref t]) (st' := [.int (ni 0), .ref t]) q125 21 2 rfl (sx_pI q125 23 rfl pk_11_72 rfl (ht.s 0 rfl) (ht.b 0) (sx_rv q125 24 rfl rfl))))))))))))))))))))))))
/-! MessageTree$Tree.addEntity -/
theorem q126 : sm_q 126 11 sm_i126 0 := ⟨rfl, rfl, rfl⟩
set_option maxRecDepth 8000 in
theorem f126 {C : sm_K} {t : Nat} {v1 : Int32} (ht : sm_tree C t) {D : sm_D} : sm_ge (sm_fe C 126 [.ref t, .int v1] D) (
  if (D.1 t 11) < ni 0 then
    some (.inl none, D)
  else
    if (D.1 t 11) < (ni 40) then
      sm_gu (sm_in_b (D.1 t 11) 40) (
      let D1 := sm_dI D (t + 5) ((D.1 t 11).toNatClampNeg) v1
      sm_gu (sm_in_b (D.1 t 11) 40) (
      let D2 := sm_dI D1 (t + 6) ((D.1 t 11).toNatClampNeg) (D1.1 t 12)
      sm_gu (sm_in_b (D.1 t 11) 40) (
      let D3 := sm_dI D2 (t + 7) ((D.1 t 11).toNatClampNeg) (ni 0)
      sm_gu (sm_in_b (D.1 t 11) 40) (
      let D4 := sm_dI D3 (t + 8) ((D.1 t 11).toNatClampNeg) (ni 0)
      sm_gu (sm_in_b (D.1 t 11) 40) (
      let D5 := sm_dI D4 (t + 9) ((D.1 t 11).toNatClampNeg) (ni 0)
      sm_gu (sm_in_b (D.1 t 11) 40) (
      let D6 := sm_dI D5 (t + 10) ((D.1 t 11).toNatClampNeg) (sm_nar .boolean (ni 0))
      let D7 := sm_dI D6 t 11 ((D6.1 t 11) + (ni 1))
      some (.inl none, D7)))))))
    else
      some (.inl none, D)) := by
  rw [sx_fe (m := 3) rfl rfl]
  exact (show sm_ge (sm_fx C 126 0 [.ref t, .int v1, sm_junk] [] D) _ from (sx_p (pc' := 1) (lv' := [.ref t, .int v1, sm_junk]) (st' := [.ref t]) q126 0 1 rfl (sx_gI q126 1 rfl fk_11_62 rfl (ht.s 0 rfl) (ht.b 0) (sx_p (pc' := 6) (lv' := [.ref t, .int v1, .int (D.1 t 11)]) (st' := [.int (D.1 t 11)]) q126 2 2 rfl (sx_if_lt q126 4 rfl rfl (sx_rv q126 8 rfl rfl) (sx_p (pc' := 12) (lv' := [.ref t, .int v1, .int (D.1 t 11)]) (st' := [.int (ni 40), .int (D.1 t 11)]) q126 5 2 rfl (sx_icmp_lt q126 7 rfl rfl (sx_p (pc' := 17) (lv' := [.ref t, .int v1, .int (D.1 t 11)]) (st' := [.ref t]) q126 9 1 rfl (sx_gR q126 10 rfl fk_11_27 (fun _ _ => rfl) (ht.s 0 rfl) (ht.r 0 3 rfl) (sx_p (pc' := 22) (lv' := [.ref t, .int v1, .int (D.1 t 11)]) (st' := [.int v1, .int (D.1 t 11), .ref (t + 5)]) q126 11 2 rfl (sx_is q126 13 rfl (ht.s 5 rfl) (ht.b 5) (sx_p (pc' := 24) (lv' := [.ref t, .int v1, .int (D.1 t 11)]) (st' := [.ref t]) q126 14 1 rfl (sx_gR q126 15 rfl fk_11_30 (fun _ _ => rfl) (ht.s 0 rfl) (ht.r 0 4 rfl) (sx_p (pc' := 29) (lv' := [.ref t, .int v1, .int (D.1 t 11)]) (st' := [.ref t, .int (D.1 t 11), .ref (t + 6)]) q126 16 2 rfl (sx_gI q126 18 rfl fk_11_65 rfl (ht.s 0 rfl) (ht.b 0) (sx_is q126 19 rfl (ht.s 6 rfl) (ht.b 6) (sx_p (pc' := 34) (lv' := [.ref t, .int v1, .int (D.1 t 11)]) (st' := [.ref t]) q126 20 1 rfl (sx_gR q126 21 rfl fk_11_33 (fun _ _ => rfl) (ht.s 0 rfl) (ht.r 0 5 rfl) (sx_p (pc' := 39) (lv' := [.ref t, .int v1, .int (D.1 t 11)]) (st' := [.int (ni 0), .int (D.1 t 11), .ref (t + 7)]) q126 22 2 rfl (sx_is q126 24 rfl (ht.s 7 rfl) (ht.b 7) (sx_p (pc' := 41) (lv' := [.ref t, .int v1, .int (D.1 t 11)]) (st' := [.ref t]) q126 25 1 rfl (sx_gR q126 26 rfl fk_11_36 (fun _ _ => rfl) (ht.s 0 rfl) (ht.r 0 6 rfl) (sx_p (pc' := 46) (lv' := [.ref t, .int v1, .int (D.1 t 11)]) (st' := [.int (ni 0), .int (D.1 t 11), .ref (t + 8)]) q126 27 2 rfl (sx_is q126 29 rfl (ht.s 8 rfl) (ht.b 8) (sx_p (pc' := 48) (lv' := [.ref t, .int v1, .int (D.1 t 11)]) (st' := [.ref t]) q126 30 1 rfl (sx_gR q126 31 rfl fk_11_39 (fun _ _ => rfl) (ht.s 0 rfl) (ht.r 0 7 rfl) (sx_p (pc' := 53) (lv' := [.ref t, .int v1, .int (D.1 t 11)]) (st' := [.int (ni 0), .int (D.1 t 11), .ref (t + 9)]) q126 32 2 rfl (sx_is q126 34 rfl (ht.s 9 rfl) (ht.b 9) (sx_p (pc' := 55) (lv' := [.ref t, .int v1, .int (D.1 t 11)]) (st' := [.ref t]) q126 35 1 rfl (sx_gR q126 36 rfl fk_11_42 (fun _ _ => rfl) (ht.s 0 rfl) (ht.r 0 8 rfl) (sx_p (pc' := 60) (lv' := [.ref t, .int v1, .int (D.1 t 11)]) (st' := [.int (ni 0), .int (D.1 t 11), .ref (t + 10)]) q126 37 2 rfl (sx_bs q126 39 rfl (ht.s 10 rfl) (by simp) (ht.b 10) (sx_p (pc' := 63) (lv' := [.ref t, .int v1, .int (D.1 t 11)]) (st' := [.ref t, .ref t]) q126 40 2 rfl (sx_gI q126 42 rfl fk_11_62 rfl (ht.s 0 rfl) (ht.b 0) (sx_p (pc' := 68) (lv' := [.ref t, .int v1, .int (D.1 t 11)]) (st' := [.int (((sm_dI (sm_dI (sm_dI (sm_dI (sm_dI (sm_dI D (t + 5) ((D.1 t 11).toNatClampNeg) v1) (t + 6) ((D.1 t 11).toNatClampNeg) ((sm_dI D (t + 5) ((D.1 t 11).toNatClampNeg) v1).1 t 12)) (t + 7) ((D.1 t 11).toNatClampNeg) (ni 0)) (t + 8) ((D.1 t 11).toNatClampNeg) (ni 0)) (t + 9) ((D.1 t 11).toNatClampNeg) (ni 0)) (t + 10) ((D.1 t 11).toNatClampNeg) (sm_nar .boolean (ni 0))).1 t 11) + (ni 1)), .ref t]) q126 43 2 rfl (sx_pI q126 45 rfl pk_11_62 rfl (ht.s 0 rfl) (ht.b 0) (sx_rv q126 46 rfl rfl)))))))))))))))))))))))))))))) (sx_rv q126 8 rfl rfl))))))))
/-! MessageTree$Tree.hasKind -/
theorem q127 : sm_q 127 11 sm_i127 2 := ⟨rfl, rfl, rfl⟩
set_option maxRecDepth 8000 in
theorem n127_18 {C : sm_K} {t : Nat} {v1 : Int32} {v2 : Int32} {s0 : Int32} (ht : sm_tree C t) {D : sm_D} : sm_ge (sm_fx C 127 18 [.ref t, .int v1, .int v2, sm_junk, sm_junk] [.int s0] D) (
  sm_fx C 127 22 [.ref t, .int v1, .int v2, .int s0, .int (ni 0)] [] D) := 
  (sx_p (pc' := 22) (lv' := [.ref t, .int v1, .int v2, .int s0, .int (ni 0)]) (st' := []) q127 10 3 rfl (sm_ge.refl _))
set_option maxRecDepth 8000 in
theorem n127_22 {C : sm_K} {t : Nat} {v1 : Int32} {v2 : Int32} {v3 : Int32} {v4 : Int32} (ht : sm_tree C t) {D : sm_D} : sm_ge (sm_fx C 127 22 [.ref t, .int v1, .int v2, .int v3, .int v4] [] D) (
  if v3 ≤ v4 then
    some (.inl (some (.int (sm_nar .boolean (ni 0)))), D)
  else
    sm_bi (sm_fe C 129 [.ref t, .int v1, .int v4] D) (fun x0 D1 =>
      if x0 = v2 then
        some (.inl (some (.int (sm_nar .boolean (ni 1)))), D1)
      else
        sm_fx C 127 22 [.ref t, .int v1, .int v2, .int v3, .int (v4 + ni 1)] [] D1)) := 
  (sx_p (pc' := 25) (lv' := [.ref t, .int v1, .int v2, .int v3, .int v4]) (st' := [.int v3, .int v4]) q127 13 2 rfl (sx_icmp_ge q127 15 rfl rfl (sx_p (pc' := 48) (lv' := [.ref t, .int v1, .int v2, .int v3, .int v4]) (st' := [.int (ni 0)]) q127 26 1 rfl (sx_ri (ty := .boolean) q127 27 rfl rfl)) (sx_p (pc' := 32) (lv' := [.ref t, .int v1, .int v2, .int v3, .int v4]) (st' := [.int v4, .int v1, .ref t]) q127 16 3 rfl (sx_ki (sx_V q127 19 rfl lk_11_79 vk_129 na_129 rfl rfl rfl rfl (ht.s 0 rfl)) (by decide) rfl (fun x0 D1 => (sx_p (pc' := 36) (lv' := [.ref t, .int v1, .int v2, .int v3, .int v4]) (st' := [.int v2, .int x0]) q127 20 1 rfl (sx_icmp_ne q127 21 rfl rfl (sx_p (pc' := 22) (lv' := [.ref t, .int v1, .int v2, .int v3, .int (v4 + ni 1)]) (st' := []) q127 24 2 rfl (sm_ge.refl _)) (sx_p (pc' := 40) (lv' := [.ref t, .int v1, .int v2, .int v3, .int v4]) (st' := [.int (ni 1)]) q127 22 1 rfl (sx_ri (ty := .boolean) q127 23 rfl rfl)))))))))
set_option maxRecDepth 8000 in
theorem f127 {C : sm_K} {t : Nat} {v1 : Int32} {v2 : Int32} (ht : sm_tree C t) {D : sm_D} : sm_ge (sm_fe C 127 [.ref t, .int v1, .int v2] D) (
  sm_bi (sm_fe C 128 [.ref t, .int v1] D) (fun x0 D1 =>
    if x0 = ni 0 then
      sm_fx C 127 18 [.ref t, .int v1, .int v2, sm_junk, sm_junk] [.int (ni 0)] D1
    else
      sm_gu (sm_in_b v1 40) (
      sm_fx C 127 18 [.ref t, .int v1, .int v2, sm_junk, sm_junk] [.int (D1.1 (t + 7) v1.toNatClampNeg)] D1))) := by
  rw [sx_fe (m := 5) rfl rfl]
  exact (show sm_ge (sm_fx C 127 0 [.ref t, .int v1, .int v2, sm_junk, sm_junk] [] D) _ from (sx_p (pc' := 2) (lv' := [.ref t, .int v1, .int v2, sm_junk, sm_junk]) (st' := [.int v1, .ref t]) q127 0 2 rfl (sx_ki (sx_V q127 2 rfl lk_11_75 vk_128 na_128 rfl rfl rfl rfl (ht.s 0 rfl)) (by decide) rfl (fun x0 D1 => (sx_if_eq q127 3 rfl rfl (sx_p (pc' := 18) (lv' := [.ref t, .int v1, .int v2, sm_junk, sm_junk]) (st' := [.int (ni 0)]) q127 9 1 rfl (sm_ge.refl _)) (sx_p (pc' := 9) (lv' := [.ref t, .int v1, .int v2, sm_junk, sm_junk]) (st' := [.ref t]) q127 4 1 rfl (sx_gR q127 5 rfl fk_11_33 (fun _ _ => rfl) (ht.s 0 rfl) (ht.r 0 5 rfl) (sx_p (pc' := 13) (lv' := [.ref t, .int v1, .int v2, sm_junk, sm_junk]) (st' := [.int v1, .ref (t + 7)]) q127 6 1 rfl (sx_ia q127 7 rfl (ht.s 7 rfl) (ht.b 7) (sx_p (pc' := 18) (lv' := [.ref t, .int v1, .int v2, sm_junk, sm_junk]) (st' := [.int (D1.1 (t + 7) v1.toNatClampNeg)]) q127 8 1 rfl (sm_ge.refl _)))))))))))
/-! MessageTree$Tree.hasEntity -/
theorem q128 : sm_q 128 11 sm_i128 0 := ⟨rfl, rfl, rfl⟩
set_option maxRecDepth 8000 in
theorem f128 {C : sm_K} {t : Nat} {v1 : Int32} (ht : sm_tree C t) {D : sm_D} : sm_ge (sm_fe C 128 [.ref t, .int v1] D) (
  if v1 < ni 0 then
    some (.inl (some (.int (sm_nar .boolean (ni 0)))), D)
  else
    if (D.1 t 11) ≤ v1 then
      some (.inl (some (.int (sm_nar .boolean (ni 0)))), D)
    else
      if (ni 40) ≤ v1 then
        some (.inl (some (.int (sm_nar .boolean (ni 0)))), D)
      else
        some (.inl (some (.int (sm_nar .boolean (ni 1)))), D)) := by
  rw [sx_fe (m := 2) rfl rfl]
  exact (show sm_ge (sm_fx C 128 0 [.ref t, .int v1] [] D) _ from (sx_p (pc' := 1) (lv' := [.ref t, .int v1]) (st' := [.int v1]) q128 0 1 rfl (sx_if_lt q128 1 rfl rfl (sx_p (pc' := 23) (lv' := [.ref t, .int v1]) (st' := [.int (ni 0)]) q128 11 1 rfl (sx_ri (ty := .boolean) q128 12 rfl rfl)) (sx_p (pc' := 6) (lv' := [.ref t, .int v1]) (st' := [.ref t, .int v1]) q128 2 2 rfl (sx_gI q128 4 rfl fk_11_62 rfl (ht.s 0 rfl) (ht.b 0) (sx_icmp_ge q128 5 rfl rfl (sx_p (pc' := 23) (lv' := [.ref t, .int v1]) (st' := [.int (ni 0)]) q128 11 1 rfl (sx_ri (ty := .boolean) q128 12 rfl rfl)) (sx_p (pc' := 15) (lv' := [.ref t, .int v1]) (st' := [.int (ni 40), .int v1]) q128 6 2 rfl (sx_icmp_ge q128 8 rfl rfl (sx_p (pc' := 23) (lv' := [.ref t, .int v1]) (st' := [.int (ni 0)]) q128 11 1 rfl (sx_ri (ty := .boolean) q128 12 rfl rfl)) (sx_p (pc' := 23) (lv' := [.ref t, .int v1]) (st' := [.int (ni 1)]) q128 9 2 rfl (sx_ri (ty := .boolean) q128 12 rfl rfl))))))))))
/-! MessageTree$Tree.kindOf -/
theorem q129 : sm_q 129 11 sm_i129 1 := ⟨rfl, rfl, rfl⟩
set_option maxRecDepth 8000 in
theorem n129_20 {C : sm_K} {t : Nat} {s0 : Int32} (ht : sm_tree C t) {D : sm_D} : sm_ge (sm_fx C 129 20 [.ref t, sm_junk, sm_junk, sm_junk] [.int s0] D) (
  if s0 < ni 0 then
    some (.inl (some (.int (ni 0))), D)
  else
    if (D.1 t 12) ≤ s0 then
      some (.inl (some (.int (ni 0))), D)
    else
      if (ni 200) ≤ s0 then
        some (.inl (some (.int (ni 0))), D)
      else
        sm_gu (sm_in_b s0 200) (
        some (.inl (some (.int (D.1 (t + 11) s0.toNatClampNeg))), D))) := 
  (sx_p (pc' := 22) (lv' := [.ref t, sm_junk, sm_junk, .int s0]) (st' := [.int s0]) q129 12 2 rfl (sx_if_lt q129 14 rfl rfl (sx_p (pc' := 50) (lv' := [.ref t, sm_junk, sm_junk, .int s0]) (st' := [.int (ni 0)]) q129 27 1 rfl (sx_ri (ty := .int) q129 28 rfl rfl)) (sx_p (pc' := 27) (lv' := [.ref t, sm_junk, sm_junk, .int s0]) (st' := [.ref t, .int s0]) q129 15 2 rfl (sx_gI q129 17 rfl fk_11_65 rfl (ht.s 0 rfl) (ht.b 0) (sx_icmp_ge q129 18 rfl rfl (sx_p (pc' := 50) (lv' := [.ref t, sm_junk, sm_junk, .int s0]) (st' := [.int (ni 0)]) q129 27 1 rfl (sx_ri (ty := .int) q129 28 rfl rfl)) (sx_p (pc' := 37) (lv' := [.ref t, sm_junk, sm_junk, .int s0]) (st' := [.int (ni 200), .int s0]) q129 19 2 rfl (sx_icmp_ge q129 21 rfl rfl (sx_p (pc' := 50) (lv' := [.ref t, sm_junk, sm_junk, .int s0]) (st' := [.int (ni 0)]) q129 27 1 rfl (sx_ri (ty := .int) q129 28 rfl rfl)) (sx_p (pc' := 41) (lv' := [.ref t, sm_junk, sm_junk, .int s0]) (st' := [.ref t]) q129 22 1 rfl (sx_gR q129 23 rfl fk_11_46 (fun _ _ => rfl) (ht.s 0 rfl) (ht.r 0 9 rfl) (sx_p (pc' := 45) (lv' := [.ref t, sm_junk, sm_junk, .int s0]) (st' := [.int s0, .ref (t + 11)]) q129 24 1 rfl (sx_ia q129 25 rfl (ht.s 11 rfl) (ht.b 11) (sx_p (pc' := 50) (lv' := [.ref t, sm_junk, sm_junk, .int s0]) (st' := [.int (D.1 (t + 11) s0.toNatClampNeg)]) q129 26 1 rfl (sx_ri (ty := .int) q129 28 rfl rfl)))))))))))))
set_option maxRecDepth 8000 in
theorem f129 {C : sm_K} {t : Nat} {v1 : Int32} {v2 : Int32} (ht : sm_tree C t) {D : sm_D} : sm_ge (sm_fe C 129 [.ref t, .int v1, .int v2] D) (
  sm_bi (sm_fe C 128 [.ref t, .int v1] D) (fun x0 D1 =>
    if x0 = ni 0 then
      sm_fx C 129 20 [.ref t, sm_junk, sm_junk, sm_junk] [.int (sm_k (-1))] D1
    else
      sm_gu (sm_in_b v1 40) (
      sm_fx C 129 20 [.ref t, sm_junk, sm_junk, sm_junk] [.int ((D1.1 (t + 6) v1.toNatClampNeg) + v2)] D1))) := by
  rw [sx_fe (m := 4) rfl rfl]
  exact (show sm_ge (sm_fx C 129 0 [.ref t, .int v1, .int v2, sm_junk] [] D) _ from (sx_p (pc' := 2) (lv' := [.ref t, .int v1, .int v2, sm_junk]) (st' := [.int v1, .ref t]) q129 0 2 rfl (sx_ki (sx_V q129 2 rfl lk_11_75 vk_128 na_128 rfl rfl rfl rfl (ht.s 0 rfl)) (by decide) rfl (fun x0 D1 => (sx_if_eq q129 3 rfl rfl (sx_p (pc' := 20) (lv' := [.ref t, .int v1, .int v2, sm_junk]) (st' := [.int (sm_k (-1))]) q129 11 1 rfl (sx_w (lv := [.ref t, .int v1, .int v2, sm_junk]) (lv' := [.ref t, sm_junk, sm_junk, sm_junk]) (sm_ordl.ord ⟨Or.inr rfl, Or.inl rfl, Or.inl rfl, Or.inl rfl, trivial⟩))) (sx_p (pc' := 9) (lv' := [.ref t, .int v1, .int v2, sm_junk]) (st' := [.ref t]) q129 4 1 rfl (sx_gR q129 5 rfl fk_11_30 (fun _ _ => rfl) (ht.s 0 rfl) (ht.r 0 4 rfl) (sx_p (pc' := 13) (lv' := [.ref t, .int v1, .int v2, sm_junk]) (st' := [.int v1, .ref (t + 6)]) q129 6 1 rfl (sx_ia q129 7 rfl (ht.s 6 rfl) (ht.b 6) (sx_p (pc' := 20) (lv' := [.ref t, .int v1, .int v2, sm_junk]) (st' := [.int ((D1.1 (t + 6) v1.toNatClampNeg) + v2)]) q129 8 3 rfl (sx_w (lv := [.ref t, .int v1, .int v2, sm_junk]) (lv' := [.ref t, sm_junk, sm_junk, sm_junk]) (sm_ordl.ord ⟨Or.inr rfl, Or.inl rfl, Or.inl rfl, Or.inl rfl, trivial⟩))))))))))))
/-! MessageTree$Tree.fieldSlot -/
theorem q130 : sm_q 130 11 sm_i130 0 := ⟨rfl, rfl, rfl⟩
set_option maxRecDepth 8000 in
theorem f130 {C : sm_K} {v0 : Int32} {v1 : Int32} {D : sm_D} : sm_ge (sm_fe C 130 [.int v0, .int v1] D) (
  some (.inl (some (.int (((ni 2) * v0) + v1))), D)) := by
  rw [sx_fe (m := 2) rfl rfl]
  exact (show sm_ge (sm_fx C 130 0 [.int v0, .int v1] [] D) _ from (sx_p (pc' := 5) (lv' := [.int v0, .int v1]) (st' := [.int (((ni 2) * v0) + v1)]) q130 0 5 rfl (sx_ri (ty := .int) q130 5 rfl rfl)))
/-! MessageTree$Tree.setSlot -/
theorem q131 : sm_q 131 11 sm_i131 0 := ⟨rfl, rfl, rfl⟩
set_option maxRecDepth 8000 in
theorem f131 {C : sm_K} {t : Nat} {v1 : Int32} {v2 : Int32} (ht : sm_tree C t) {D : sm_D} : sm_ge (sm_fe C 131 [.ref t, .int v1, .int v2] D) (
  if v1 < ni 0 then
    some (.inl none, D)
  else
    if (ni 1061) ≤ v1 then
      some (.inl none, D)
    else
      sm_gu (sm_in_b v1 1061) (
      let D1 := sm_dI D (t + 3) (v1.toNatClampNeg) v2
      sm_gu (sm_in_b v1 1061) (
      let D2 := sm_dI D1 (t + 4) (v1.toNatClampNeg) ((D1.1 (t + 1) 1) - v2)
      some (.inl none, D2)))) := by
  rw [sx_fe (m := 3) rfl rfl]
  exact (show sm_ge (sm_fx C 131 0 [.ref t, .int v1, .int v2] [] D) _ from (sx_p (pc' := 1) (lv' := [.ref t, .int v1, .int v2]) (st' := [.int v1]) q131 0 1 rfl (sx_if_lt q131 1 rfl rfl (sx_rv q131 19 rfl rfl) (sx_p (pc' := 8) (lv' := [.ref t, .int v1, .int v2]) (st' := [.int (ni 1061), .int v1]) q131 2 2 rfl (sx_icmp_ge q131 4 rfl rfl (sx_rv q131 19 rfl rfl) (sx_p (pc' := 12) (lv' := [.ref t, .int v1, .int v2]) (st' := [.ref t]) q131 5 1 rfl (sx_gR q131 6 rfl fk_11_20 (fun _ _ => rfl) (ht.s 0 rfl) (ht.r 0 1 rfl) (sx_p (pc' := 17) (lv' := [.ref t, .int v1, .int v2]) (st' := [.int v2, .int v1, .ref (t + 3)]) q131 7 2 rfl (sx_is q131 9 rfl (ht.s 3 rfl) (ht.b 3) (sx_p (pc' := 19) (lv' := [.ref t, .int v1, .int v2]) (st' := [.ref t]) q131 10 1 rfl (sx_gR q131 11 rfl fk_11_24 (fun _ _ => rfl) (ht.s 0 rfl) (ht.r 0 2 rfl) (sx_p (pc' := 24) (lv' := [.ref t, .int v1, .int v2]) (st' := [.ref t, .int v1, .ref (t + 4)]) q131 12 2 rfl (sx_gR q131 14 rfl fk_11_16 (fun _ _ => rfl) (ht.s 0 rfl) (ht.r 0 0 rfl) (sx_gI q131 15 rfl fk_11_52 rfl (ht.s 1 rfl) (ht.b 1) (sx_p (pc' := 32) (lv' := [.ref t, .int v1, .int v2]) (st' := [.int (((sm_dI D (t + 3) (v1.toNatClampNeg) v2).1 (t + 1) 1) - v2), .int v1, .ref (t + 4)]) q131 16 2 rfl (sx_is q131 18 rfl (ht.s 4 rfl) (ht.b 4) (sx_rv q131 19 rfl rfl)))))))))))))))))
/-! MessageTree$Tree.addField -/
theorem q132 : sm_q 132 11 sm_i132 1 := ⟨rfl, rfl, rfl⟩
set_option maxRecDepth 8000 in
theorem f132 {C : sm_K} {t : Nat} {v1 : Int32} {v2 : Int32} (ht : sm_tree C t) {D : sm_D} : sm_ge (sm_fe C 132 [.ref t, .int v1, .int v2] D) (
  sm_bi (sm_fe C 128 [.ref t, .int v1] D) (fun x0 D1 =>
    if x0 = ni 0 then
      some (.inl none, D1)
    else
      if (D1.1 t 12) < ni 0 then
        some (.inl none, D1)
      else
        if (ni 200) ≤ (D1.1 t 12) then
          some (.inl none, D1)
        else
          sm_gu (sm_in_b (D1.1 t 12) 200) (
          let D2 := sm_dI D1 (t + 11) ((D1.1 t 12).toNatClampNeg) v2
          let D3 := sm_dI D2 t 12 ((D2.1 t 12) + (ni 1))
          sm_gu (sm_in_b v1 40) (
          sm_gu (sm_in_b v1 40) (
          let D4 := sm_dI D3 (t + 7) (v1.toNatClampNeg) ((D3.1 (t + 7) v1.toNatClampNeg) + (ni 1))
          some (.inl none, D4)))))) := by
  rw [sx_fe (m := 3) rfl rfl]
  exact (show sm_ge (sm_fx C 132 0 [.ref t, .int v1, .int v2] [] D) _ from (sx_p (pc' := 2) (lv' := [.ref t, .int v1, .int v2]) (st' := [.int v1, .ref t]) q132 0 2 rfl (sx_ki (sx_V q132 2 rfl lk_11_75 vk_128 na_128 rfl rfl rfl rfl (ht.s 0 rfl)) (by decide) rfl (fun x0 D1 => (sx_if_eq q132 3 rfl rfl (sx_rv q132 31 rfl rfl) (sx_p (pc' := 9) (lv' := [.ref t, .int v1, .int v2]) (st' := [.ref t]) q132 4 1 rfl (sx_gI q132 5 rfl fk_11_65 rfl (ht.s 0 rfl) (ht.b 0) (sx_if_lt q132 6 rfl rfl (sx_rv q132 31 rfl rfl) (sx_p (pc' := 16) (lv' := [.ref t, .int v1, .int v2]) (st' := [.ref t]) q132 7 1 rfl (sx_gI q132 8 rfl fk_11_65 rfl (ht.s 0 rfl) (ht.b 0) (sx_p (pc' := 22) (lv' := [.ref t, .int v1, .int v2]) (st' := [.int (ni 200), .int (D1.1 t 12)]) q132 9 1 rfl (sx_icmp_ge q132 10 rfl rfl (sx_rv q132 31 rfl rfl) (sx_p (pc' := 26) (lv' := [.ref t, .int v1, .int v2]) (st' := [.ref t]) q132 11 1 rfl (sx_gR q132 12 rfl fk_11_46 (fun _ _ => rfl) (ht.s 0 rfl) (ht.r 0 9 rfl) (sx_p (pc' := 30) (lv' := [.ref t, .int v1, .int v2]) (st' := [.ref t, .ref (t + 11)]) q132 13 1 rfl (sx_gI q132 14 rfl fk_11_65 rfl (ht.s 0 rfl) (ht.b 0) (sx_p (pc' := 34) (lv' := [.ref t, .int v1, .int v2]) (st' := [.int v2, .int (D1.1 t 12), .ref (t + 11)]) q132 15 1 rfl (sx_is q132 16 rfl (ht.s 11 rfl) (ht.b 11) (sx_p (pc' := 37) (lv' := [.ref t, .int v1, .int v2]) (st' := [.ref t, .ref t]) q132 17 2 rfl (sx_gI q132 19 rfl fk_11_65 rfl (ht.s 0 rfl) (ht.b 0) (sx_p (pc' := 42) (lv' := [.ref t, .int v1, .int v2]) (st' := [.int (((sm_dI D1 (t + 11) ((D1.1 t 12).toNatClampNeg) v2).1 t 12) + (ni 1)), .ref t]) q132 20 2 rfl (sx_pI q132 22 rfl pk_11_65 rfl (ht.s 0 rfl) (ht.b 0) (sx_p (pc' := 46) (lv' := [.ref t, .int v1, .int v2]) (st' := [.ref t]) q132 23 1 rfl (sx_gR q132 24 rfl fk_11_33 (fun _ _ => rfl) (ht.s 0 rfl) (ht.r 0 5 rfl) (sx_p (pc' := 51) (lv' := [.ref t, .int v1, .int v2]) (st' := [.int v1, .ref (t + 7), .int v1, .ref (t + 7)]) q132 25 2 rfl (sx_ia q132 27 rfl (ht.s 7 rfl) (ht.b 7) (sx_p (pc' := 54) (lv' := [.ref t, .int v1, .int v2]) (st' := [.int (((sm_dI (sm_dI D1 (t + 11) ((D1.1 t 12).toNatClampNeg) v2) t 12 (((sm_dI D1 (t + 11) ((D1.1 t 12).toNatClampNeg) v2).1 t 12) + (ni 1))).1 (t + 7) v1.toNatClampNeg) + (ni 1)), .int v1, .ref (t + 7)]) q132 28 2 rfl (sx_is q132 30 rfl (ht.s 7 rfl) (ht.b 7) (sx_rv q132 31 rfl rfl)))))))))))))))))))))))))))))
/-! MessageTree$Tree.typeSlot -/
theorem q133 : sm_q 133 11 sm_i133 0 := ⟨rfl, rfl, rfl⟩
set_option maxRecDepth 8000 in
theorem f133 {C : sm_K} {v0 : Int32} {v1 : Int32} {D : sm_D} : sm_ge (sm_fe C 133 [.int v0, .int v1] D) (
  some (.inl (some (.int (((ni 400) + ((ni 2) * v0)) + v1))), D)) := by
  rw [sx_fe (m := 2) rfl rfl]
  exact (show sm_ge (sm_fx C 133 0 [.int v0, .int v1] [] D) _ from (sx_p (pc' := 9) (lv' := [.int v0, .int v1]) (st' := [.int (((ni 400) + ((ni 2) * v0)) + v1)]) q133 0 7 rfl (sx_ri (ty := .int) q133 7 rfl rfl)))
/-! MessageTree$Tree.setWord -/
theorem q134 : sm_q 134 11 sm_i134 4 := ⟨rfl, rfl, rfl⟩
set_option maxRecDepth 8000 in
theorem n134_11 {C : sm_K} {t : Nat} {s : Nat} {w : Nat} {nw : Nat} {v1 : Int32} {v3 : Int32} {v4 : Int32} (ht : sm_tree C t) (hs : sm_sr C s w nw) {D : sm_D} : sm_ge (sm_fx C 134 11 [.ref t, .int v1, .ref s, .int v3, .int v4] [] D) (
  sm_bi (sm_fe C 260 [.ref s] D) (fun x0 D1 =>
    if x0 ≤ v4 then
      sm_bv (sm_fe C 131 [.ref t, .int v1, .int v3] D1) (fun D2 =>
        some (.inl none, D2))
    else
      sm_bi (sm_fe C 262 [.ref s, .int v4] D1) (fun x1 D3 =>
        sm_bv (sm_fe C 44 [.ref (t + 1), .int x1] D3) (fun D4 =>
          sm_fx C 134 11 [.ref t, .int v1, .ref s, .int v3, .int (v4 + ni 1)] [] D4)))) := 
  (sx_p (pc' := 14) (lv' := [.ref t, .int v1, .ref s, .int v3, .int v4]) (st' := [.ref s, .int v4]) q134 6 2 rfl (sx_ki (sx_V q134 8 rfl lk_11_99 vk_260 na_260 rfl rfl rfl rfl hs.1) (by decide) rfl (fun x0 D1 => (sx_icmp_ge q134 9 rfl rfl (sx_p (pc' := 42) (lv' := [.ref t, .int v1, .ref s, .int v3, .int v4]) (st' := [.int v3, .int v1, .ref t]) q134 18 3 rfl (sx_kv (sx_V q134 21 rfl lk_11_95 vk_131 na_131 rfl rfl rfl rfl (ht.s 0 rfl)) (by decide) rfl (fun D2 => (sx_rv q134 22 rfl rfl)))) (sx_p (pc' := 21) (lv' := [.ref t, .int v1, .ref s, .int v3, .int v4]) (st' := [.ref t]) q134 10 1 rfl (sx_gR q134 11 rfl fk_11_16 (fun _ _ => rfl) (ht.s 0 rfl) (ht.r 0 0 rfl) (sx_p (pc' := 27) (lv' := [.ref t, .int v1, .ref s, .int v3, .int v4]) (st' := [.int v4, .ref s, .ref (t + 1)]) q134 12 2 rfl (sx_ki (sx_V q134 14 rfl lk_11_105 vk_262 na_262 rfl rfl rfl rfl hs.1) (by decide) rfl (fun x1 D3 => (sx_kv (sx_V q134 15 rfl lk_11_109 vk_44 na_44 rfl rfl rfl rfl (ht.s 1 rfl)) (by decide) rfl (fun D4 => (sx_p (pc' := 11) (lv' := [.ref t, .int v1, .ref s, .int v3, .int (v4 + ni 1)]) (st' := []) q134 16 2 rfl (sm_ge.refl _)))))))))))))
set_option maxRecDepth 8000 in
theorem f134 {C : sm_K} {t : Nat} {v1 : Int32} {s : Nat} {w : Nat} {nw : Nat} (ht : sm_tree C t) (hs : sm_sr C s w nw) {D : sm_D} : sm_ge (sm_fe C 134 [.ref t, .int v1, .ref s] D) (
  sm_fx C 134 11 [.ref t, .int v1, .ref s, .int (D.1 (t + 1) 1), .int (ni 0)] [] D) := by
  rw [sx_fe (m := 5) rfl rfl]
  exact (show sm_ge (sm_fx C 134 0 [.ref t, .int v1, .ref s, sm_junk, sm_junk] [] D) _ from (sx_p (pc' := 1) (lv' := [.ref t, .int v1, .ref s, sm_junk, sm_junk]) (st' := [.ref t]) q134 0 1 rfl (sx_gR q134 1 rfl fk_11_16 (fun _ _ => rfl) (ht.s 0 rfl) (ht.r 0 0 rfl) (sx_gI q134 2 rfl fk_11_52 rfl (ht.s 1 rfl) (ht.b 1) (sx_p (pc' := 11) (lv' := [.ref t, .int v1, .ref s, .int (D.1 (t + 1) 1), .int (ni 0)]) (st' := []) q134 3 3 rfl (sm_ge.refl _))))))
/-! MessageTree$Tree.setSmallSlot -/
theorem q135 : sm_q 135 11 sm_i135 1 := ⟨rfl, rfl, rfl⟩
set_option maxRecDepth 8000 in
theorem n135_6 {C : sm_K} {t : Nat} {v1 : Int32} {v2 : Int32} {v3 : Int32} (ht : sm_tree C t) {D : sm_D} : sm_ge (sm_fx C 135 6 [.ref t, .int v1, .int v2, .int v3] [] D) (
  if (D.1 (t + 1) 1) ≤ v3 then
    sm_fx C 135 51 [.ref t, .int v1, .int v2, sm_junk] [] D
  else
    if (ni 16400) ≤ v3 then
      sm_fx C 135 51 [.ref t, .int v1, .int v2, sm_junk] [] D
    else
      sm_gu (sm_in_b v3 16400) (
      sm_bi (sm_fe C 2 [.int (D.1 (t + 2) v3.toNatClampNeg)] D) (fun x0 D1 =>
        sm_gu (sm_in_b v3 16400) (
        let D2 := sm_dI D1 (t + 2) (v3.toNatClampNeg) x0
        sm_fx C 135 6 [.ref t, .int v1, .int v2, .int (v3 + ni 1)] [] D2)))) := 
  (sx_p (pc' := 8) (lv' := [.ref t, .int v1, .int v2, .int v3]) (st' := [.ref t, .int v3]) q135 4 2 rfl (sx_gR q135 6 rfl fk_11_16 (fun _ _ => rfl) (ht.s 0 rfl) (ht.r 0 0 rfl) (sx_gI q135 7 rfl fk_11_52 rfl (ht.s 1 rfl) (ht.b 1) (sx_icmp_ge q135 8 rfl rfl (sx_w (lv := [.ref t, .int v1, .int v2, .int v3]) (lv' := [.ref t, .int v1, .int v2, sm_junk]) (sm_ordl.ord ⟨Or.inr rfl, Or.inr rfl, Or.inr rfl, Or.inl rfl, trivial⟩)) (sx_p (pc' := 21) (lv' := [.ref t, .int v1, .int v2, .int v3]) (st' := [.int (ni 16400), .int v3]) q135 9 2 rfl (sx_icmp_ge q135 11 rfl rfl (sx_w (lv := [.ref t, .int v1, .int v2, .int v3]) (lv' := [.ref t, .int v1, .int v2, sm_junk]) (sm_ordl.ord ⟨Or.inr rfl, Or.inr rfl, Or.inr rfl, Or.inl rfl, trivial⟩)) (sx_p (pc' := 25) (lv' := [.ref t, .int v1, .int v2, .int v3]) (st' := [.ref t]) q135 12 1 rfl (sx_gR q135 13 rfl fk_11_16 (fun _ _ => rfl) (ht.s 0 rfl) (ht.r 0 0 rfl) (sx_gR q135 14 rfl fk_11_88 (fun _ _ => rfl) (ht.s 1 rfl) (ht.r 1 0 rfl) (sx_p (pc' := 33) (lv' := [.ref t, .int v1, .int v2, .int v3]) (st' := [.ref t, .int v3, .ref (t + 2)]) q135 15 2 rfl (sx_gR q135 17 rfl fk_11_16 (fun _ _ => rfl) (ht.s 0 rfl) (ht.r 0 0 rfl) (sx_gR q135 18 rfl fk_11_88 (fun _ _ => rfl) (ht.s 1 rfl) (ht.r 1 0 rfl) (sx_p (pc' := 40) (lv' := [.ref t, .int v1, .int v2, .int v3]) (st' := [.int v3, .ref (t + 2), .int v3, .ref (t + 2)]) q135 19 1 rfl (sx_ia q135 20 rfl (ht.s 2 rfl) (ht.b 2) (sx_ki (sx_S q135 21 rfl lk_11_91 rfl na_2 rfl rfl rfl rfl) (by decide) rfl (fun x0 D1 => (sx_is q135 22 rfl (ht.s 2 rfl) (ht.b 2) (sx_p (pc' := 6) (lv' := [.ref t, .int v1, .int v2, .int (v3 + ni 1)]) (st' := []) q135 23 2 rfl (sm_ge.refl _)))))))))))))))))))
set_option maxRecDepth 8000 in
theorem n135_51 {C : sm_K} {t : Nat} {v1 : Int32} {v2 : Int32} (ht : sm_tree C t) {D : sm_D} : sm_ge (sm_fx C 135 51 [.ref t, .int v1, .int v2, sm_junk] [] D) (
  sm_bv (sm_fe C 131 [.ref t, .int v1, .int v2] D) (fun D1 =>
    some (.inl none, D1))) := 
  (sx_p (pc' := 54) (lv' := [.ref t, .int v1, .int v2, sm_junk]) (st' := [.int v2, .int v1, .ref t]) q135 25 3 rfl (sx_kv (sx_V q135 28 rfl lk_11_95 vk_131 na_131 rfl rfl rfl rfl (ht.s 0 rfl)) (by decide) rfl (fun D1 => (sx_rv q135 29 rfl rfl))))
set_option maxRecDepth 8000 in
theorem f135 {C : sm_K} {t : Nat} {v1 : Int32} {v2 : Int32} (ht : sm_tree C t) {D : sm_D} : sm_ge (sm_fe C 135 [.ref t, .int v1, .int v2] D) (
  sm_bi (sm_fe C 283 [.int v2, .int (ni 0)] D) (fun x0 D1 =>
    sm_fx C 135 6 [.ref t, .int v1, .int v2, .int x0] [] D1)) := by
  rw [sx_fe (m := 4) rfl rfl]
  exact (show sm_ge (sm_fx C 135 0 [.ref t, .int v1, .int v2, sm_junk] [] D) _ from (sx_p (pc' := 2) (lv' := [.ref t, .int v1, .int v2, sm_junk]) (st' := [.int (ni 0), .int v2]) q135 0 2 rfl (sx_ki (sx_S q135 2 rfl lk_11_83 rfl na_283 rfl rfl rfl rfl) (by decide) rfl (fun x0 D1 => (sx_p (pc' := 6) (lv' := [.ref t, .int v1, .int v2, .int x0]) (st' := []) q135 3 1 rfl (sm_ge.refl _))))))
/-! MessageTree$Tree.parameterSlot -/
theorem q136 : sm_q 136 11 sm_i136 0 := ⟨rfl, rfl, rfl⟩
set_option maxRecDepth 8000 in
theorem f136 {C : sm_K} {v0 : Int32} {v1 : Int32} {v2 : Int32} {D : sm_D} : sm_ge (sm_fe C 136 [.int v0, .int v1, .int v2] D) (
  some (.inl (some (.int (((ni 480) + ((ni 2) * (((ni 6) * v0) + v1))) + v2))), D)) := by
  rw [sx_fe (m := 3) rfl rfl]
  exact (show sm_ge (sm_fx C 136 0 [.int v0, .int v1, .int v2] [] D) _ from (sx_p (pc' := 14) (lv' := [.int v0, .int v1, .int v2]) (st' := [.int (((ni 480) + ((ni 2) * (((ni 6) * v0) + v1))) + v2)]) q136 0 11 rfl (sx_ri (ty := .int) q136 11 rfl rfl)))
