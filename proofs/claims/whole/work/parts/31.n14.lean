/-! ===== what methods do from place to place, written by a program (wip/tools/gen_nodes.py) ===== -/
/-! StringLatin1.charAt -/
theorem q286 : sm_q 286 16 sm_i286 2 := ⟨rfl, rfl, rfl⟩
set_option maxRecDepth 8000 in
theorem f286 {C : sm_K} {b : Nat} {nb : Nat} {v1 : Int32} (hb : sm_lw C b nb) {D : sm_D} : sm_ge (sm_fe C 286 [.ref b, .int v1] D) (
  sm_bv (sm_fe C 264 [.int v1, .int (ni nb)] D) (fun D1 =>
    sm_gu (sm_in_b v1 nb) (
    some (.inl (some (.int (sm_nar .char ((((C.2.2.2 b v1.toNatClampNeg) &&& (ni 255)).toUInt32 % 65536).toInt32)))), D1)))) := by
  rw [sx_fe (m := 2) rfl rfl]
  exact (show sm_ge (sm_fx C 286 0 [.ref b, .int v1] [] D) _ from (sx_p (pc' := 2) (lv' := [.ref b, .int v1]) (st' := [.ref b, .int v1]) q286 0 2 rfl (sx_al q286 2 rfl hb.1 (sx_kv (sx_S q286 3 rfl lk_16_9 rfl na_264 rfl rfl rfl rfl) (by decide) rfl (fun D1 => (sx_p (pc' := 8) (lv' := [.ref b, .int v1]) (st' := [.int v1, .ref b]) q286 4 2 rfl (sx_balo q286 6 rfl hb.1 (by simp) hb.2 (sx_p (pc' := 14) (lv' := [.ref b, .int v1]) (st' := [.int ((((C.2.2.2 b v1.toNatClampNeg) &&& (ni 255)).toUInt32 % 65536).toInt32)]) q286 7 3 rfl (sx_ri (ty := .char) q286 10 rfl rfl)))))))))
/-! StringLatin1.indexOf -/
theorem q287 : sm_q 287 16 sm_i287 1 := ⟨rfl, rfl, rfl⟩
set_option maxRecDepth 8000 in
theorem f287 {C : sm_K} {b : Nat} {nb : Nat} {v1 : Int32} {v2 : Int32} {v3 : Int32} (hb : sm_lw C b nb) {D : sm_D} : sm_ge (sm_fe C 287 [.ref b, .int v1, .int v2, .int v3] D) (
  sm_bi (sm_fe C 288 [.int v1] D) (fun x0 D1 =>
    if x0 = ni 0 then
      some (.inl (some (.int (sm_k (-1)))), D1)
    else
      sm_bi (sm_fe C 283 [.int v2, .int (ni 0)] D1) (fun x1 D2 =>
        sm_bi (sm_fe C 284 [.int v3, .int (ni nb)] D2) (fun x2 D3 =>
          if x1 < x2 then
            sm_bi (sm_fe C 289 [.ref b, .int v1, .int x1, .int x2] D3) (fun x3 D4 =>
              some (.inl (some (.int x3)), D4))
          else
            some (.inl (some (.int (sm_k (-1)))), D3))))) := by
  rw [sx_fe (m := 4) rfl rfl]
  exact (show sm_ge (sm_fx C 287 0 [.ref b, .int v1, .int v2, .int v3] [] D) _ from (sx_p (pc' := 1) (lv' := [.ref b, .int v1, .int v2, .int v3]) (st' := [.int v1]) q287 0 1 rfl (sx_ki (sx_S q287 1 rfl lk_16_88 rfl na_288 rfl rfl rfl rfl) (by decide) rfl (fun x0 D1 => (sx_if_ne q287 2 rfl rfl (sx_p (pc' := 11) (lv' := [.ref b, .int v1, .int v2, .int v3]) (st' := [.int (ni 0), .int v2]) q287 5 2 rfl (sx_ki (sx_S q287 7 rfl lk_16_92 rfl na_283 rfl rfl rfl rfl) (by decide) rfl (fun x1 D2 => (sx_p (pc' := 17) (lv' := [.ref b, .int v1, .int x1, .int v3]) (st' := [.ref b, .int v3]) q287 8 3 rfl (sx_al q287 11 rfl hb.1 (sx_ki (sx_S q287 12 rfl lk_16_38 rfl na_284 rfl rfl rfl rfl) (by decide) rfl (fun x2 D3 => (sx_p (pc' := 24) (lv' := [.ref b, .int v1, .int x1, .int x2]) (st' := [.int x2, .int x1]) q287 13 3 rfl (sx_icmp_lt q287 16 rfl rfl (sx_p (pc' := 33) (lv' := [.ref b, .int v1, .int x1, .int x2]) (st' := [.int x2, .int x1, .int v1, .ref b]) q287 19 4 rfl (sx_ki (sx_S q287 23 rfl lk_16_95 rfl na_289 rfl rfl rfl rfl) (by decide) rfl (fun x3 D4 => (sx_ri (ty := .int) q287 24 rfl rfl)))) (sx_p (pc' := 28) (lv' := [.ref b, .int v1, .int x1, .int x2]) (st' := [.int (sm_k (-1))]) q287 17 1 rfl (sx_ri (ty := .int) q287 18 rfl rfl))))))))))) (sx_p (pc' := 8) (lv' := [.ref b, .int v1, .int v2, .int v3]) (st' := [.int (sm_k (-1))]) q287 3 1 rfl (sx_ri (ty := .int) q287 4 rfl rfl)))))))
/-! StringLatin1.canEncode -/
theorem q288 : sm_q 288 16 sm_i288 0 := ⟨rfl, rfl, rfl⟩
set_option maxRecDepth 8000 in
theorem f288 {C : sm_K} {v0 : Int32} {D : sm_D} : sm_ge (sm_fe C 288 [.int v0] D) (
  if v0 < ni 0 then
    some (.inl (some (.int (sm_nar .boolean (ni 0)))), D)
  else
    if (ni 255) < v0 then
      some (.inl (some (.int (sm_nar .boolean (ni 0)))), D)
    else
      some (.inl (some (.int (sm_nar .boolean (ni 1)))), D)) := by
  rw [sx_fe (m := 1) rfl rfl]
  exact (show sm_ge (sm_fx C 288 0 [.int v0] [] D) _ from (sx_p (pc' := 1) (lv' := [.int v0]) (st' := [.int v0]) q288 0 1 rfl (sx_if_lt q288 1 rfl rfl (sx_p (pc' := 16) (lv' := [.int v0]) (st' := [.int (ni 0)]) q288 7 1 rfl (sx_ri (ty := .boolean) q288 8 rfl rfl)) (sx_p (pc' := 8) (lv' := [.int v0]) (st' := [.int (ni 255), .int v0]) q288 2 2 rfl (sx_icmp_gt q288 4 rfl rfl (sx_p (pc' := 16) (lv' := [.int v0]) (st' := [.int (ni 0)]) q288 7 1 rfl (sx_ri (ty := .boolean) q288 8 rfl rfl)) (sx_p (pc' := 16) (lv' := [.int v0]) (st' := [.int (ni 1)]) q288 5 2 rfl (sx_ri (ty := .boolean) q288 8 rfl rfl)))))))
/-! StringLatin1.indexOfChar -/
theorem q289 : sm_q 289 16 sm_i289 0 := ⟨rfl, rfl, rfl⟩
set_option maxRecDepth 8000 in
theorem n289_7 {C : sm_K} {b : Nat} {nb : Nat} {v3 : Int32} {v4 : Int32} {v5 : Int32} (hb : sm_lw C b nb) {D : sm_D} : sm_ge (sm_fx C 289 7 [.ref b, sm_junk, sm_junk, .int v3, .int v4, .int v5] [] D) (
  if v3 ≤ v5 then
    some (.inl (some (.int (sm_k (-1)))), D)
  else
    sm_gu (sm_in_b v5 nb) (
    if (C.2.2.2 b v5.toNatClampNeg) = v4 then
      some (.inl (some (.int v5)), D)
    else
      sm_fx C 289 7 [.ref b, sm_junk, sm_junk, .int v3, .int v4, .int (v5 + ni 1)] [] D)) := 
  (sx_p (pc' := 10) (lv' := [.ref b, sm_junk, sm_junk, .int v3, .int v4, .int v5]) (st' := [.int v3, .int v5]) q289 5 2 rfl (sx_icmp_ge q289 7 rfl rfl (sx_p (pc' := 32) (lv' := [.ref b, sm_junk, sm_junk, .int v3, .int v4, .int v5]) (st' := [.int (sm_k (-1))]) q289 17 1 rfl (sx_ri (ty := .int) q289 18 rfl rfl)) (sx_p (pc' := 16) (lv' := [.ref b, sm_junk, sm_junk, .int v3, .int v4, .int v5]) (st' := [.int v5, .ref b]) q289 8 2 rfl (sx_balo q289 10 rfl hb.1 (by simp) hb.2 (sx_p (pc' := 19) (lv' := [.ref b, sm_junk, sm_junk, .int v3, .int v4, .int v5]) (st' := [.int v4, .int (C.2.2.2 b v5.toNatClampNeg)]) q289 11 1 rfl (sx_icmp_ne q289 12 rfl rfl (sx_p (pc' := 7) (lv' := [.ref b, sm_junk, sm_junk, .int v3, .int v4, .int (v5 + ni 1)]) (st' := []) q289 15 2 rfl (sm_ge.refl _)) (sx_p (pc' := 24) (lv' := [.ref b, sm_junk, sm_junk, .int v3, .int v4, .int v5]) (st' := [.int v5]) q289 13 1 rfl (sx_ri (ty := .int) q289 14 rfl rfl))))))))
set_option maxRecDepth 8000 in
theorem f289 {C : sm_K} {b : Nat} {nb : Nat} {v1 : Int32} {v2 : Int32} {v3 : Int32} (hb : sm_lw C b nb) {D : sm_D} : sm_ge (sm_fe C 289 [.ref b, .int v1, .int v2, .int v3] D) (
  sm_fx C 289 7 [.ref b, sm_junk, sm_junk, .int v3, .int (v1.toInt8.toInt32), .int v2] [] D) := by
  rw [sx_fe (m := 6) rfl rfl]
  exact (show sm_ge (sm_fx C 289 0 [.ref b, .int v1, .int v2, .int v3, sm_junk, sm_junk] [] D) _ from (sx_p (pc' := 7) (lv' := [.ref b, .int v1, .int v2, .int v3, .int (v1.toInt8.toInt32), .int v2]) (st' := []) q289 0 5 rfl (sx_w (lv := [.ref b, .int v1, .int v2, .int v3, .int (v1.toInt8.toInt32), .int v2]) (lv' := [.ref b, sm_junk, sm_junk, .int v3, .int (v1.toInt8.toInt32), .int v2]) (sm_ordl.ord ⟨Or.inr rfl, Or.inl rfl, Or.inl rfl, Or.inr rfl, Or.inr rfl, Or.inr rfl, trivial⟩))))
/-! Preconditions.checkIndex -/
theorem q290 : sm_q 290 17 sm_i290 0 := ⟨rfl, rfl, rfl⟩
set_option maxRecDepth 8000 in
theorem n290_9 {C : sm_K} {b : Nat} {v0 : Int32} {v1 : Int32} {D : sm_D} : sm_ge (sm_fx C 290 9 [.int v0, .int v1, .ref b] [] D) (
  none) := 
  sm_ge.none _
set_option maxRecDepth 8000 in
theorem f290 {C : sm_K} {v0 : Int32} {v1 : Int32} {b : Nat} {D : sm_D} : sm_ge (sm_fe C 290 [.int v0, .int v1, .ref b] D) (
  if v0 < ni 0 then
    sm_fx C 290 9 [.int v0, .int v1, .ref b] [] D
  else
    if v0 < v1 then
      some (.inl (some (.int v0)), D)
    else
      sm_fx C 290 9 [.int v0, .int v1, .ref b] [] D) := by
  rw [sx_fe (m := 3) rfl rfl]
  exact (show sm_ge (sm_fx C 290 0 [.int v0, .int v1, .ref b] [] D) _ from (sx_p (pc' := 1) (lv' := [.int v0, .int v1, .ref b]) (st' := [.int v0]) q290 0 1 rfl (sx_if_lt q290 1 rfl rfl (sm_ge.refl _) (sx_p (pc' := 6) (lv' := [.int v0, .int v1, .ref b]) (st' := [.int v1, .int v0]) q290 2 2 rfl (sx_icmp_lt q290 4 rfl rfl (sx_p (pc' := 17) (lv' := [.int v0, .int v1, .ref b]) (st' := [.int v0]) q290 10 1 rfl (sx_ri (ty := .int) q290 11 rfl rfl)) (sm_ge.refl _))))))
/-! Arrays.fill -/
theorem q291 : sm_q 291 18 sm_i291 0 := ⟨rfl, rfl, rfl⟩
set_option maxRecDepth 8000 in
theorem n291_5 {C : sm_K} {a : Nat} {na : Nat} {v1 : Int32} {v2 : Int32} {v3 : Int32} (ha : sm_ar C a na) {D : sm_D} : sm_ge (sm_fx C 291 5 [.ref a, .int v1, .int v2, .int v3] [] D) (
  if v3 ≤ v2 then
    some (.inl none, D)
  else
    sm_gu (sm_in_b v2 na) (
    let D1 := sm_dI D a (v2.toNatClampNeg) v1
    sm_fx C 291 5 [.ref a, .int v1, .int (v2 + ni 1), .int v3] [] D1)) := 
  (sx_p (pc' := 7) (lv' := [.ref a, .int v1, .int v2, .int v3]) (st' := [.int v3, .int v2]) q291 5 2 rfl (sx_icmp_ge q291 7 rfl rfl (sx_rv q291 14 rfl rfl) (sx_p (pc' := 13) (lv' := [.ref a, .int v1, .int v2, .int v3]) (st' := [.int v1, .int v2, .ref a]) q291 8 3 rfl (sx_is q291 11 rfl ha.1 ha.2 (sx_p (pc' := 5) (lv' := [.ref a, .int v1, .int (v2 + ni 1), .int v3]) (st' := []) q291 12 2 rfl (sm_ge.refl _))))))
set_option maxRecDepth 8000 in
theorem f291 {C : sm_K} {a : Nat} {na : Nat} {v1 : Int32} (ha : sm_ar C a na) {D : sm_D} : sm_ge (sm_fe C 291 [.ref a, .int v1] D) (
  sm_fx C 291 5 [.ref a, .int v1, .int (ni 0), .int (ni na)] [] D) := by
  rw [sx_fe (m := 4) rfl rfl]
  exact (show sm_ge (sm_fx C 291 0 [.ref a, .int v1, sm_junk, sm_junk] [] D) _ from (sx_p (pc' := 3) (lv' := [.ref a, .int v1, .int (ni 0), sm_junk]) (st' := [.ref a]) q291 0 3 rfl (sx_al q291 3 rfl ha.1 (sx_p (pc' := 5) (lv' := [.ref a, .int v1, .int (ni 0), .int (ni na)]) (st' := []) q291 4 1 rfl (sm_ge.refl _)))))
