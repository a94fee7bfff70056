/-! ===== the law's helpers, but the one above ===== -/
theorem q267 : sm_q 267 14 sm_i267 7 := ⟨rfl, rfl, rfl⟩
theorem lk_14_7 : sm_lk 14 7 7 = true := by decide +kernel
theorem vk_7' : ((sm_m 7).2.1.2.2 = false ∧ ¬ (sm_m 7).1.1.name = "<init>") ∧ (sm_m 7).2.1.1 < 14 := by decide +kernel
theorem na_7' : sm_na 7 = 5 := by decide +kernel
theorem cb267 {C : sm_K} {X : Nat} {v1 v2 v3 v4 v5 : Int32} (hX : sm_Lay C X) : sm_cb C 267 11 7 [.ref X, .int v1, .int v2, .int v3, .int v4, .int v5, .ref (X + 89), sm_junk] [.int v5, .int v4, .int v3, .int v2, .int v1, .ref X, .int (ni 0), .ref (X + 89)] [.ref X, .int v1, .int v2, .int v3, .int v4, .int v5] [.int (ni 0), .ref (X + 89)] := sx_V q267 8 rfl lk_14_7 vk_7' na_7' rfl rfl rfl rfl (hX.s 0 rfl)
set_option maxRecDepth 8000 in
theorem l267_ok {C : sm_K} {X : Nat} {D D1 : sm_D} {v1 v2 v3 v4 v5 : Int32} {x : Int32} (hX : sm_Lay C X) (h : sm_fe C 7 [.ref X, .int v1, .int v2, .int v3, .int v4, .int v5] D = some (.inl (some (.int x)), D1)) : sm_fe C 267 [.ref X, .int v1, .int v2, .int v3, .int v4, .int v5, .ref (X + 89)] D = some (.inl (some (.int (ni 0))), sm_dJ D1 (X + 89) 0 (x.toInt64)) := by
  have t0 : (ni 0).toNatClampNeg = 0 := by decide
  have i0 : sm_in_b (ni 0) 1 = true := by decide
  rw [sx_fe (m := 8) rfl rfl]
  have key : sm_ge (sm_fx C 267 0 [.ref X, .int v1, .int v2, .int v3, .int v4, .int v5, .ref (X + 89), sm_junk] [] D) (sm_fx C 267 11 [.ref X, .int v1, .int v2, .int v3, .int v4, .int v5, .ref (X + 89), sm_junk] [.int v5, .int v4, .int v3, .int v2, .int v1, .ref X, .int (ni 0), .ref (X + 89)] D) := sx_p q267 0 8 rfl (sm_ge.refl _)
  refine key _ ?_
  rw [sx_hv (cb267 hX) (by decide) h]
  have k1 : sm_ge (sm_fx C 267 14 [.ref X, .int v1, .int v2, .int v3, .int v4, .int v5, .ref (X + 89), sm_junk] (.int x :: [.int (ni 0), .ref (X + 89)]) D1) (sm_fx C 267 15 [.ref X, .int v1, .int v2, .int v3, .int v4, .int v5, .ref (X + 89), sm_junk] (.long x.toInt64 :: [.int (ni 0), .ref (X + 89)]) D1) := sx_p q267 9 1 rfl (sm_ge.refl _)
  refine k1 _ ?_
  have k2 : sm_ge (sm_fx C 267 15 [.ref X, .int v1, .int v2, .int v3, .int v4, .int v5, .ref (X + 89), sm_junk] (.long x.toInt64 :: [.int (ni 0), .ref (X + 89)]) D1) (sm_gu (sm_in_b (ni 0) 1) (sm_fx C 267 16 [.ref X, .int v1, .int v2, .int v3, .int v4, .int v5, .ref (X + 89), sm_junk] [] (sm_dJ D1 (X + 89) (ni 0).toNatClampNeg (x.toInt64)))) := sx_ls q267 10 rfl (hX.s 89 rfl) (hX.b 89) (sm_ge.refl _)
  refine k2 _ ?_
  rw [i0, t0]
  have k3 : sm_ge (sm_fx C 267 16 [.ref X, .int v1, .int v2, .int v3, .int v4, .int v5, .ref (X + 89), sm_junk] [] (sm_dJ D1 (X + 89) 0 (x.toInt64))) (sm_fx C 267 24 [.ref X, .int v1, .int v2, .int v3, .int v4, .int v5, .ref (X + 89), sm_junk] [.int (ni 0)] (sm_dJ D1 (X + 89) 0 (x.toInt64))) := sx_p q267 11 1 rfl (sx_p q267 15 1 rfl (sm_ge.refl _))
  exact k3 _ (sx_ri q267 16 rfl rfl _ rfl)
set_option maxRecDepth 8000 in
theorem l267_er {C : sm_K} {X a : Nat} {D D1 : sm_D} {v1 v2 v3 v4 v5 : Int32} (hX : sm_Lay C X) (h : sm_fe C 7 [.ref X, .int v1, .int v2, .int v3, .int v4, .int v5] D = some (.inr a, D1)) (hz : D1.2.2.1 a = some (2 * 0 + 1)) : sm_fe C 267 [.ref X, .int v1, .int v2, .int v3, .int v4, .int v5, .ref (X + 89)] D = some (.inl (some (.int (ni 1))), D1) := by
  rw [sx_fe (m := 8) rfl rfl]
  have key : sm_ge (sm_fx C 267 0 [.ref X, .int v1, .int v2, .int v3, .int v4, .int v5, .ref (X + 89), sm_junk] [] D) (sm_fx C 267 11 [.ref X, .int v1, .int v2, .int v3, .int v4, .int v5, .ref (X + 89), sm_junk] [.int v5, .int v4, .int v3, .int v2, .int v1, .ref X, .int (ni 0), .ref (X + 89)] D) := sx_p q267 0 8 rfl (sm_ge.refl _)
  refine key _ ?_
  rw [sx_hc (cb267 hX) (by decide) h hz (hp := 19) (by decide)]
  have k2 : sm_ge (sm_fx C 267 19 [.ref X, .int v1, .int v2, .int v3, .int v4, .int v5, .ref (X + 89), sm_junk] [.ref a] D1) (sm_fx C 267 22 [.ref X, .int v1, .int v2, .int v3, .int v4, .int v5, .ref (X + 89), .ref a] [.int (ni 1)] D1) := sx_p q267 12 2 rfl (sm_ge.refl _)
  exact k2 _ (sx_ri q267 14 rfl rfl _ rfl)
theorem q269 : sm_q 269 14 sm_i269 9 := ⟨rfl, rfl, rfl⟩
theorem lk_14_21 : sm_lk 14 21 9 = true := by decide +kernel
theorem vk_9' : ((sm_m 9).2.1.2.2 = false ∧ ¬ (sm_m 9).1.1.name = "<init>") ∧ (sm_m 9).2.1.1 < 14 := by decide +kernel
theorem na_9' : sm_na 9 = 2 := by decide +kernel
theorem cb269 {C : sm_K} {X : Nat} {v1 v2 : Int32} (hX : sm_Lay C X) : sm_cb C 269 5 9 [.ref X, .int v1, .int v2, .ref (X + 89), sm_junk] [.int v2, .int v1, .ref X, .int (ni 0), .ref (X + 89)] [.ref X, .int v1, .int v2] [.int (ni 0), .ref (X + 89)] := sx_V q269 5 rfl lk_14_21 vk_9' na_9' rfl rfl rfl rfl (hX.s 0 rfl)
set_option maxRecDepth 8000 in
theorem l269_ok {C : sm_K} {X : Nat} {D D1 : sm_D} {v1 v2 : Int32} {x : Int32} (hX : sm_Lay C X) (h : sm_fe C 9 [.ref X, .int v1, .int v2] D = some (.inl (some (.int x)), D1)) : sm_fe C 269 [.ref X, .int v1, .int v2, .ref (X + 89)] D = some (.inl (some (.int (ni 0))), sm_dJ D1 (X + 89) 0 (x.toInt64)) := by
  have t0 : (ni 0).toNatClampNeg = 0 := by decide
  have i0 : sm_in_b (ni 0) 1 = true := by decide
  rw [sx_fe (m := 5) rfl rfl]
  have key : sm_ge (sm_fx C 269 0 [.ref X, .int v1, .int v2, .ref (X + 89), sm_junk] [] D) (sm_fx C 269 5 [.ref X, .int v1, .int v2, .ref (X + 89), sm_junk] [.int v2, .int v1, .ref X, .int (ni 0), .ref (X + 89)] D) := sx_p q269 0 5 rfl (sm_ge.refl _)
  refine key _ ?_
  rw [sx_hv (cb269 hX) (by decide) h]
  have k1 : sm_ge (sm_fx C 269 8 [.ref X, .int v1, .int v2, .ref (X + 89), sm_junk] (.int x :: [.int (ni 0), .ref (X + 89)]) D1) (sm_fx C 269 9 [.ref X, .int v1, .int v2, .ref (X + 89), sm_junk] (.long x.toInt64 :: [.int (ni 0), .ref (X + 89)]) D1) := sx_p q269 6 1 rfl (sm_ge.refl _)
  refine k1 _ ?_
  have k2 : sm_ge (sm_fx C 269 9 [.ref X, .int v1, .int v2, .ref (X + 89), sm_junk] (.long x.toInt64 :: [.int (ni 0), .ref (X + 89)]) D1) (sm_gu (sm_in_b (ni 0) 1) (sm_fx C 269 10 [.ref X, .int v1, .int v2, .ref (X + 89), sm_junk] [] (sm_dJ D1 (X + 89) (ni 0).toNatClampNeg (x.toInt64)))) := sx_ls q269 7 rfl (hX.s 89 rfl) (hX.b 89) (sm_ge.refl _)
  refine k2 _ ?_
  rw [i0, t0]
  have k3 : sm_ge (sm_fx C 269 10 [.ref X, .int v1, .int v2, .ref (X + 89), sm_junk] [] (sm_dJ D1 (X + 89) 0 (x.toInt64))) (sm_fx C 269 18 [.ref X, .int v1, .int v2, .ref (X + 89), sm_junk] [.int (ni 0)] (sm_dJ D1 (X + 89) 0 (x.toInt64))) := sx_p q269 8 1 rfl (sx_p q269 12 1 rfl (sm_ge.refl _))
  exact k3 _ (sx_ri q269 13 rfl rfl _ rfl)
set_option maxRecDepth 8000 in
theorem l269_er {C : sm_K} {X a : Nat} {D D1 : sm_D} {v1 v2 : Int32} (hX : sm_Lay C X) (h : sm_fe C 9 [.ref X, .int v1, .int v2] D = some (.inr a, D1)) (hz : D1.2.2.1 a = some (2 * 2 + 1)) : sm_fe C 269 [.ref X, .int v1, .int v2, .ref (X + 89)] D = some (.inl (some (.int (ni 1))), D1) := by
  rw [sx_fe (m := 5) rfl rfl]
  have key : sm_ge (sm_fx C 269 0 [.ref X, .int v1, .int v2, .ref (X + 89), sm_junk] [] D) (sm_fx C 269 5 [.ref X, .int v1, .int v2, .ref (X + 89), sm_junk] [.int v2, .int v1, .ref X, .int (ni 0), .ref (X + 89)] D) := sx_p q269 0 5 rfl (sm_ge.refl _)
  refine key _ ?_
  rw [sx_hc (cb269 hX) (by decide) h hz (hp := 13) (by decide)]
  have k2 : sm_ge (sm_fx C 269 13 [.ref X, .int v1, .int v2, .ref (X + 89), sm_junk] [.ref a] D1) (sm_fx C 269 16 [.ref X, .int v1, .int v2, .ref (X + 89), .ref a] [.int (ni 1)] D1) := sx_p q269 9 2 rfl (sm_ge.refl _)
  exact k2 _ (sx_ri q269 11 rfl rfl _ rfl)
theorem q270 : sm_q 270 14 sm_i270 9 := ⟨rfl, rfl, rfl⟩
theorem lk_14_27 : sm_lk 14 27 12 = true := by decide +kernel
theorem vk_12' : ((sm_m 12).2.1.2.2 = false ∧ ¬ (sm_m 12).1.1.name = "<init>") ∧ (sm_m 12).2.1.1 < 14 := by decide +kernel
theorem na_12' : sm_na 12 = 2 := by decide +kernel
theorem cb270 {C : sm_K} {X : Nat} {v1 v2 : Int32} (hX : sm_Lay C X) : sm_cb C 270 5 12 [.ref X, .int v1, .int v2, .ref (X + 89), sm_junk] [.int v2, .int v1, .ref X, .int (ni 0), .ref (X + 89)] [.ref X, .int v1, .int v2] [.int (ni 0), .ref (X + 89)] := sx_V q270 5 rfl lk_14_27 vk_12' na_12' rfl rfl rfl rfl (hX.s 0 rfl)
set_option maxRecDepth 8000 in
theorem l270_ok {C : sm_K} {X : Nat} {D D1 : sm_D} {v1 v2 : Int32} {x : Int32} (hX : sm_Lay C X) (h : sm_fe C 12 [.ref X, .int v1, .int v2] D = some (.inl (some (.int x)), D1)) : sm_fe C 270 [.ref X, .int v1, .int v2, .ref (X + 89)] D = some (.inl (some (.int (ni 0))), sm_dJ D1 (X + 89) 0 (x.toInt64)) := by
  have t0 : (ni 0).toNatClampNeg = 0 := by decide
  have i0 : sm_in_b (ni 0) 1 = true := by decide
  rw [sx_fe (m := 5) rfl rfl]
  have key : sm_ge (sm_fx C 270 0 [.ref X, .int v1, .int v2, .ref (X + 89), sm_junk] [] D) (sm_fx C 270 5 [.ref X, .int v1, .int v2, .ref (X + 89), sm_junk] [.int v2, .int v1, .ref X, .int (ni 0), .ref (X + 89)] D) := sx_p q270 0 5 rfl (sm_ge.refl _)
  refine key _ ?_
  rw [sx_hv (cb270 hX) (by decide) h]
  have k1 : sm_ge (sm_fx C 270 8 [.ref X, .int v1, .int v2, .ref (X + 89), sm_junk] (.int x :: [.int (ni 0), .ref (X + 89)]) D1) (sm_fx C 270 9 [.ref X, .int v1, .int v2, .ref (X + 89), sm_junk] (.long x.toInt64 :: [.int (ni 0), .ref (X + 89)]) D1) := sx_p q270 6 1 rfl (sm_ge.refl _)
  refine k1 _ ?_
  have k2 : sm_ge (sm_fx C 270 9 [.ref X, .int v1, .int v2, .ref (X + 89), sm_junk] (.long x.toInt64 :: [.int (ni 0), .ref (X + 89)]) D1) (sm_gu (sm_in_b (ni 0) 1) (sm_fx C 270 10 [.ref X, .int v1, .int v2, .ref (X + 89), sm_junk] [] (sm_dJ D1 (X + 89) (ni 0).toNatClampNeg (x.toInt64)))) := sx_ls q270 7 rfl (hX.s 89 rfl) (hX.b 89) (sm_ge.refl _)
  refine k2 _ ?_
  rw [i0, t0]
  have k3 : sm_ge (sm_fx C 270 10 [.ref X, .int v1, .int v2, .ref (X + 89), sm_junk] [] (sm_dJ D1 (X + 89) 0 (x.toInt64))) (sm_fx C 270 18 [.ref X, .int v1, .int v2, .ref (X + 89), sm_junk] [.int (ni 0)] (sm_dJ D1 (X + 89) 0 (x.toInt64))) := sx_p q270 8 1 rfl (sx_p q270 12 1 rfl (sm_ge.refl _))
  exact k3 _ (sx_ri q270 13 rfl rfl _ rfl)
set_option maxRecDepth 8000 in
theorem l270_er {C : sm_K} {X a : Nat} {D D1 : sm_D} {v1 v2 : Int32} (hX : sm_Lay C X) (h : sm_fe C 12 [.ref X, .int v1, .int v2] D = some (.inr a, D1)) (hz : D1.2.2.1 a = some (2 * 2 + 1)) : sm_fe C 270 [.ref X, .int v1, .int v2, .ref (X + 89)] D = some (.inl (some (.int (ni 1))), D1) := by
  rw [sx_fe (m := 5) rfl rfl]
  have key : sm_ge (sm_fx C 270 0 [.ref X, .int v1, .int v2, .ref (X + 89), sm_junk] [] D) (sm_fx C 270 5 [.ref X, .int v1, .int v2, .ref (X + 89), sm_junk] [.int v2, .int v1, .ref X, .int (ni 0), .ref (X + 89)] D) := sx_p q270 0 5 rfl (sm_ge.refl _)
  refine key _ ?_
  rw [sx_hc (cb270 hX) (by decide) h hz (hp := 13) (by decide)]
  have k2 : sm_ge (sm_fx C 270 13 [.ref X, .int v1, .int v2, .ref (X + 89), sm_junk] [.ref a] D1) (sm_fx C 270 16 [.ref X, .int v1, .int v2, .ref (X + 89), .ref a] [.int (ni 1)] D1) := sx_p q270 9 2 rfl (sm_ge.refl _)
  exact k2 _ (sx_ri q270 11 rfl rfl _ rfl)
theorem q271 : sm_q 271 14 sm_i271 9 := ⟨rfl, rfl, rfl⟩
theorem lk_14_30 : sm_lk 14 30 13 = true := by decide +kernel
theorem vk_13' : ((sm_m 13).2.1.2.2 = false ∧ ¬ (sm_m 13).1.1.name = "<init>") ∧ (sm_m 13).2.1.1 < 14 := by decide +kernel
theorem na_13' : sm_na 13 = 2 := by decide +kernel
theorem cb271 {C : sm_K} {X : Nat} {v1 v2 : Int32} (hX : sm_Lay C X) : sm_cb C 271 5 13 [.ref X, .int v1, .int v2, .ref (X + 89), sm_junk] [.int v2, .int v1, .ref X, .int (ni 0), .ref (X + 89)] [.ref X, .int v1, .int v2] [.int (ni 0), .ref (X + 89)] := sx_V q271 5 rfl lk_14_30 vk_13' na_13' rfl rfl rfl rfl (hX.s 0 rfl)
set_option maxRecDepth 8000 in
theorem l271_ok {C : sm_K} {X : Nat} {D D1 : sm_D} {v1 v2 : Int32} {x : Int32} (hX : sm_Lay C X) (h : sm_fe C 13 [.ref X, .int v1, .int v2] D = some (.inl (some (.int x)), D1)) : sm_fe C 271 [.ref X, .int v1, .int v2, .ref (X + 89)] D = some (.inl (some (.int (ni 0))), sm_dJ D1 (X + 89) 0 (x.toInt64)) := by
  have t0 : (ni 0).toNatClampNeg = 0 := by decide
  have i0 : sm_in_b (ni 0) 1 = true := by decide
  rw [sx_fe (m := 5) rfl rfl]
  have key : sm_ge (sm_fx C 271 0 [.ref X, .int v1, .int v2, .ref (X + 89), sm_junk] [] D) (sm_fx C 271 5 [.ref X, .int v1, .int v2, .ref (X + 89), sm_junk] [.int v2, .int v1, .ref X, .int (ni 0), .ref (X + 89)] D) := sx_p q271 0 5 rfl (sm_ge.refl _)
  refine key _ ?_
  rw [sx_hv (cb271 hX) (by decide) h]
  have k1 : sm_ge (sm_fx C 271 8 [.ref X, .int v1, .int v2, .ref (X + 89), sm_junk] (.int x :: [.int (ni 0), .ref (X + 89)]) D1) (sm_fx C 271 9 [.ref X, .int v1, .int v2, .ref (X + 89), sm_junk] (.long x.toInt64 :: [.int (ni 0), .ref (X + 89)]) D1) := sx_p q271 6 1 rfl (sm_ge.refl _)
  refine k1 _ ?_
  have k2 : sm_ge (sm_fx C 271 9 [.ref X, .int v1, .int v2, .ref (X + 89), sm_junk] (.long x.toInt64 :: [.int (ni 0), .ref (X + 89)]) D1) (sm_gu (sm_in_b (ni 0) 1) (sm_fx C 271 10 [.ref X, .int v1, .int v2, .ref (X + 89), sm_junk] [] (sm_dJ D1 (X + 89) (ni 0).toNatClampNeg (x.toInt64)))) := sx_ls q271 7 rfl (hX.s 89 rfl) (hX.b 89) (sm_ge.refl _)
  refine k2 _ ?_
  rw [i0, t0]
  have k3 : sm_ge (sm_fx C 271 10 [.ref X, .int v1, .int v2, .ref (X + 89), sm_junk] [] (sm_dJ D1 (X + 89) 0 (x.toInt64))) (sm_fx C 271 18 [.ref X, .int v1, .int v2, .ref (X + 89), sm_junk] [.int (ni 0)] (sm_dJ D1 (X + 89) 0 (x.toInt64))) := sx_p q271 8 1 rfl (sx_p q271 12 1 rfl (sm_ge.refl _))
  exact k3 _ (sx_ri q271 13 rfl rfl _ rfl)
set_option maxRecDepth 8000 in
theorem l271_er {C : sm_K} {X a : Nat} {D D1 : sm_D} {v1 v2 : Int32} (hX : sm_Lay C X) (h : sm_fe C 13 [.ref X, .int v1, .int v2] D = some (.inr a, D1)) (hz : D1.2.2.1 a = some (2 * 2 + 1)) : sm_fe C 271 [.ref X, .int v1, .int v2, .ref (X + 89)] D = some (.inl (some (.int (ni 1))), D1) := by
  rw [sx_fe (m := 5) rfl rfl]
  have key : sm_ge (sm_fx C 271 0 [.ref X, .int v1, .int v2, .ref (X + 89), sm_junk] [] D) (sm_fx C 271 5 [.ref X, .int v1, .int v2, .ref (X + 89), sm_junk] [.int v2, .int v1, .ref X, .int (ni 0), .ref (X + 89)] D) := sx_p q271 0 5 rfl (sm_ge.refl _)
  refine key _ ?_
  rw [sx_hc (cb271 hX) (by decide) h hz (hp := 13) (by decide)]
  have k2 : sm_ge (sm_fx C 271 13 [.ref X, .int v1, .int v2, .ref (X + 89), sm_junk] [.ref a] D1) (sm_fx C 271 16 [.ref X, .int v1, .int v2, .ref (X + 89), .ref a] [.int (ni 1)] D1) := sx_p q271 9 2 rfl (sm_ge.refl _)
  exact k2 _ (sx_ri q271 11 rfl rfl _ rfl)
theorem q272 : sm_q 272 14 sm_i272 10 := ⟨rfl, rfl, rfl⟩
theorem lk_14_33 : sm_lk 14 33 14 = true := by decide +kernel
theorem vk_14' : ((sm_m 14).2.1.2.2 = false ∧ ¬ (sm_m 14).1.1.name = "<init>") ∧ (sm_m 14).2.1.1 < 14 := by decide +kernel
theorem na_14' : sm_na 14 = 2 := by decide +kernel
theorem cb272 {C : sm_K} {X : Nat} {v1 v2 : Int32} (hX : sm_Lay C X) : sm_cb C 272 5 14 [.ref X, .int v1, .int v2, .ref (X + 89), sm_junk] [.int v2, .int v1, .ref X, .int (ni 0), .ref (X + 89)] [.ref X, .int v1, .int v2] [.int (ni 0), .ref (X + 89)] := sx_V q272 5 rfl lk_14_33 vk_14' na_14' rfl rfl rfl rfl (hX.s 0 rfl)
set_option maxRecDepth 8000 in
theorem l272_ok {C : sm_K} {X : Nat} {D D1 : sm_D} {v1 v2 : Int32} {x : Int32} (hX : sm_Lay C X) (h : sm_fe C 14 [.ref X, .int v1, .int v2] D = some (.inl (some (.int x)), D1)) : sm_fe C 272 [.ref X, .int v1, .int v2, .ref (X + 89)] D = some (.inl (some (.int (ni 0))), sm_dJ D1 (X + 89) 0 (x.toInt64)) := by
  have t0 : (ni 0).toNatClampNeg = 0 := by decide
  have i0 : sm_in_b (ni 0) 1 = true := by decide
  rw [sx_fe (m := 5) rfl rfl]
  have key : sm_ge (sm_fx C 272 0 [.ref X, .int v1, .int v2, .ref (X + 89), sm_junk] [] D) (sm_fx C 272 5 [.ref X, .int v1, .int v2, .ref (X + 89), sm_junk] [.int v2, .int v1, .ref X, .int (ni 0), .ref (X + 89)] D) := sx_p q272 0 5 rfl (sm_ge.refl _)
  refine key _ ?_
  rw [sx_hv (cb272 hX) (by decide) h]
  have k1 : sm_ge (sm_fx C 272 8 [.ref X, .int v1, .int v2, .ref (X + 89), sm_junk] (.int x :: [.int (ni 0), .ref (X + 89)]) D1) (sm_fx C 272 9 [.ref X, .int v1, .int v2, .ref (X + 89), sm_junk] (.long x.toInt64 :: [.int (ni 0), .ref (X + 89)]) D1) := sx_p q272 6 1 rfl (sm_ge.refl _)
  refine k1 _ ?_
  have k2 : sm_ge (sm_fx C 272 9 [.ref X, .int v1, .int v2, .ref (X + 89), sm_junk] (.long x.toInt64 :: [.int (ni 0), .ref (X + 89)]) D1) (sm_gu (sm_in_b (ni 0) 1) (sm_fx C 272 10 [.ref X, .int v1, .int v2, .ref (X + 89), sm_junk] [] (sm_dJ D1 (X + 89) (ni 0).toNatClampNeg (x.toInt64)))) := sx_ls q272 7 rfl (hX.s 89 rfl) (hX.b 89) (sm_ge.refl _)
  refine k2 _ ?_
  rw [i0, t0]
  have k3 : sm_ge (sm_fx C 272 10 [.ref X, .int v1, .int v2, .ref (X + 89), sm_junk] [] (sm_dJ D1 (X + 89) 0 (x.toInt64))) (sm_fx C 272 18 [.ref X, .int v1, .int v2, .ref (X + 89), sm_junk] [.int (ni 0)] (sm_dJ D1 (X + 89) 0 (x.toInt64))) := sx_p q272 8 1 rfl (sx_p q272 12 1 rfl (sm_ge.refl _))
  exact k3 _ (sx_ri q272 13 rfl rfl _ rfl)
set_option maxRecDepth 8000 in
theorem l272_er {C : sm_K} {X a : Nat} {D D1 : sm_D} {v1 v2 : Int32} (hX : sm_Lay C X) (h : sm_fe C 14 [.ref X, .int v1, .int v2] D = some (.inr a, D1)) (hz : D1.2.2.1 a = some (2 * 2 + 1)) : sm_fe C 272 [.ref X, .int v1, .int v2, .ref (X + 89)] D = some (.inl (some (.int (ni 1))), D1) := by
  rw [sx_fe (m := 5) rfl rfl]
  have key : sm_ge (sm_fx C 272 0 [.ref X, .int v1, .int v2, .ref (X + 89), sm_junk] [] D) (sm_fx C 272 5 [.ref X, .int v1, .int v2, .ref (X + 89), sm_junk] [.int v2, .int v1, .ref X, .int (ni 0), .ref (X + 89)] D) := sx_p q272 0 5 rfl (sm_ge.refl _)
  refine key _ ?_
  rw [sx_hc (cb272 hX) (by decide) h hz (hp := 13) (by decide)]
  have k2 : sm_ge (sm_fx C 272 13 [.ref X, .int v1, .int v2, .ref (X + 89), sm_junk] [.ref a] D1) (sm_fx C 272 16 [.ref X, .int v1, .int v2, .ref (X + 89), .ref a] [.int (ni 1)] D1) := sx_p q272 9 2 rfl (sm_ge.refl _)
  exact k2 _ (sx_ri q272 11 rfl rfl _ rfl)
theorem q273 : sm_q 273 14 sm_i273 10 := ⟨rfl, rfl, rfl⟩
theorem lk_14_36 : sm_lk 14 36 16 = true := by decide +kernel
theorem vk_16' : ((sm_m 16).2.1.2.2 = false ∧ ¬ (sm_m 16).1.1.name = "<init>") ∧ (sm_m 16).2.1.1 < 14 := by decide +kernel
theorem na_16' : sm_na 16 = 4 := by decide +kernel
theorem cb273 {C : sm_K} {X : Nat} {v1 v2 v3 v4 : Int32} (hX : sm_Lay C X) : sm_cb C 273 9 16 [.ref X, .int v1, .int v2, .int v3, .int v4, .ref (X + 89), sm_junk] [.int v4, .int v3, .int v2, .int v1, .ref X, .int (ni 0), .ref (X + 89)] [.ref X, .int v1, .int v2, .int v3, .int v4] [.int (ni 0), .ref (X + 89)] := sx_V q273 7 rfl lk_14_36 vk_16' na_16' rfl rfl rfl rfl (hX.s 0 rfl)
set_option maxRecDepth 8000 in
theorem l273_ok {C : sm_K} {X : Nat} {D D1 : sm_D} {v1 v2 v3 v4 : Int32} {x : Int32} (hX : sm_Lay C X) (h : sm_fe C 16 [.ref X, .int v1, .int v2, .int v3, .int v4] D = some (.inl (some (.int x)), D1)) : sm_fe C 273 [.ref X, .int v1, .int v2, .int v3, .int v4, .ref (X + 89)] D = some (.inl (some (.int (ni 0))), sm_dJ D1 (X + 89) 0 (x.toInt64)) := by
  have t0 : (ni 0).toNatClampNeg = 0 := by decide
  have i0 : sm_in_b (ni 0) 1 = true := by decide
  rw [sx_fe (m := 7) rfl rfl]
  have key : sm_ge (sm_fx C 273 0 [.ref X, .int v1, .int v2, .int v3, .int v4, .ref (X + 89), sm_junk] [] D) (sm_fx C 273 9 [.ref X, .int v1, .int v2, .int v3, .int v4, .ref (X + 89), sm_junk] [.int v4, .int v3, .int v2, .int v1, .ref X, .int (ni 0), .ref (X + 89)] D) := sx_p q273 0 7 rfl (sm_ge.refl _)
  refine key _ ?_
  rw [sx_hv (cb273 hX) (by decide) h]
  have k1 : sm_ge (sm_fx C 273 12 [.ref X, .int v1, .int v2, .int v3, .int v4, .ref (X + 89), sm_junk] (.int x :: [.int (ni 0), .ref (X + 89)]) D1) (sm_fx C 273 13 [.ref X, .int v1, .int v2, .int v3, .int v4, .ref (X + 89), sm_junk] (.long x.toInt64 :: [.int (ni 0), .ref (X + 89)]) D1) := sx_p q273 8 1 rfl (sm_ge.refl _)
  refine k1 _ ?_
  have k2 : sm_ge (sm_fx C 273 13 [.ref X, .int v1, .int v2, .int v3, .int v4, .ref (X + 89), sm_junk] (.long x.toInt64 :: [.int (ni 0), .ref (X + 89)]) D1) (sm_gu (sm_in_b (ni 0) 1) (sm_fx C 273 14 [.ref X, .int v1, .int v2, .int v3, .int v4, .ref (X + 89), sm_junk] [] (sm_dJ D1 (X + 89) (ni 0).toNatClampNeg (x.toInt64)))) := sx_ls q273 9 rfl (hX.s 89 rfl) (hX.b 89) (sm_ge.refl _)
  refine k2 _ ?_
  rw [i0, t0]
  have k3 : sm_ge (sm_fx C 273 14 [.ref X, .int v1, .int v2, .int v3, .int v4, .ref (X + 89), sm_junk] [] (sm_dJ D1 (X + 89) 0 (x.toInt64))) (sm_fx C 273 22 [.ref X, .int v1, .int v2, .int v3, .int v4, .ref (X + 89), sm_junk] [.int (ni 0)] (sm_dJ D1 (X + 89) 0 (x.toInt64))) := sx_p q273 10 1 rfl (sx_p q273 14 1 rfl (sm_ge.refl _))
  exact k3 _ (sx_ri q273 15 rfl rfl _ rfl)
set_option maxRecDepth 8000 in
theorem l273_er {C : sm_K} {X a : Nat} {D D1 : sm_D} {v1 v2 v3 v4 : Int32} (hX : sm_Lay C X) (h : sm_fe C 16 [.ref X, .int v1, .int v2, .int v3, .int v4] D = some (.inr a, D1)) (hz : D1.2.2.1 a = some (2 * 2 + 1)) : sm_fe C 273 [.ref X, .int v1, .int v2, .int v3, .int v4, .ref (X + 89)] D = some (.inl (some (.int (ni 1))), D1) := by
  rw [sx_fe (m := 7) rfl rfl]
  have key : sm_ge (sm_fx C 273 0 [.ref X, .int v1, .int v2, .int v3, .int v4, .ref (X + 89), sm_junk] [] D) (sm_fx C 273 9 [.ref X, .int v1, .int v2, .int v3, .int v4, .ref (X + 89), sm_junk] [.int v4, .int v3, .int v2, .int v1, .ref X, .int (ni 0), .ref (X + 89)] D) := sx_p q273 0 7 rfl (sm_ge.refl _)
  refine key _ ?_
  rw [sx_hc (cb273 hX) (by decide) h hz (hp := 17) (by decide)]
  have k2 : sm_ge (sm_fx C 273 17 [.ref X, .int v1, .int v2, .int v3, .int v4, .ref (X + 89), sm_junk] [.ref a] D1) (sm_fx C 273 20 [.ref X, .int v1, .int v2, .int v3, .int v4, .ref (X + 89), .ref a] [.int (ni 1)] D1) := sx_p q273 11 2 rfl (sm_ge.refl _)
  exact k2 _ (sx_ri q273 13 rfl rfl _ rfl)
theorem q274 : sm_q 274 14 sm_i274 9 := ⟨rfl, rfl, rfl⟩
theorem lk_14_40 : sm_lk 14 40 18 = true := by decide +kernel
theorem vk_18' : ((sm_m 18).2.1.2.2 = false ∧ ¬ (sm_m 18).1.1.name = "<init>") ∧ (sm_m 18).2.1.1 < 14 := by decide +kernel
theorem na_18' : sm_na 18 = 3 := by decide +kernel
theorem cb274 {C : sm_K} {X : Nat} {v1 v2 v3 : Int32} (hX : sm_Lay C X) : sm_cb C 274 7 18 [.ref X, .int v1, .int v2, .int v3, .ref (X + 89), sm_junk] [.int v3, .int v2, .int v1, .ref X, .int (ni 0), .ref (X + 89)] [.ref X, .int v1, .int v2, .int v3] [.int (ni 0), .ref (X + 89)] := sx_V q274 6 rfl lk_14_40 vk_18' na_18' rfl rfl rfl rfl (hX.s 0 rfl)
set_option maxRecDepth 8000 in
theorem l274_ok {C : sm_K} {X : Nat} {D D1 : sm_D} {v1 v2 v3 : Int32} {x : Int32} (hX : sm_Lay C X) (h : sm_fe C 18 [.ref X, .int v1, .int v2, .int v3] D = some (.inl (some (.int x)), D1)) : sm_fe C 274 [.ref X, .int v1, .int v2, .int v3, .ref (X + 89)] D = some (.inl (some (.int (ni 0))), sm_dJ D1 (X + 89) 0 (x.toInt64)) := by
  have t0 : (ni 0).toNatClampNeg = 0 := by decide
  have i0 : sm_in_b (ni 0) 1 = true := by decide
  rw [sx_fe (m := 6) rfl rfl]
  have key : sm_ge (sm_fx C 274 0 [.ref X, .int v1, .int v2, .int v3, .ref (X + 89), sm_junk] [] D) (sm_fx C 274 7 [.ref X, .int v1, .int v2, .int v3, .ref (X + 89), sm_junk] [.int v3, .int v2, .int v1, .ref X, .int (ni 0), .ref (X + 89)] D) := sx_p q274 0 6 rfl (sm_ge.refl _)
  refine key _ ?_
  rw [sx_hv (cb274 hX) (by decide) h]
  have k1 : sm_ge (sm_fx C 274 10 [.ref X, .int v1, .int v2, .int v3, .ref (X + 89), sm_junk] (.int x :: [.int (ni 0), .ref (X + 89)]) D1) (sm_fx C 274 11 [.ref X, .int v1, .int v2, .int v3, .ref (X + 89), sm_junk] (.long x.toInt64 :: [.int (ni 0), .ref (X + 89)]) D1) := sx_p q274 7 1 rfl (sm_ge.refl _)
  refine k1 _ ?_
  have k2 : sm_ge (sm_fx C 274 11 [.ref X, .int v1, .int v2, .int v3, .ref (X + 89), sm_junk] (.long x.toInt64 :: [.int (ni 0), .ref (X + 89)]) D1) (sm_gu (sm_in_b (ni 0) 1) (sm_fx C 274 12 [.ref X, .int v1, .int v2, .int v3, .ref (X + 89), sm_junk] [] (sm_dJ D1 (X + 89) (ni 0).toNatClampNeg (x.toInt64)))) := sx_ls q274 8 rfl (hX.s 89 rfl) (hX.b 89) (sm_ge.refl _)
  refine k2 _ ?_
  rw [i0, t0]
  have k3 : sm_ge (sm_fx C 274 12 [.ref X, .int v1, .int v2, .int v3, .ref (X + 89), sm_junk] [] (sm_dJ D1 (X + 89) 0 (x.toInt64))) (sm_fx C 274 20 [.ref X, .int v1, .int v2, .int v3, .ref (X + 89), sm_junk] [.int (ni 0)] (sm_dJ D1 (X + 89) 0 (x.toInt64))) := sx_p q274 9 1 rfl (sx_p q274 13 1 rfl (sm_ge.refl _))
  exact k3 _ (sx_ri q274 14 rfl rfl _ rfl)
set_option maxRecDepth 8000 in
theorem l274_er {C : sm_K} {X a : Nat} {D D1 : sm_D} {v1 v2 v3 : Int32} (hX : sm_Lay C X) (h : sm_fe C 18 [.ref X, .int v1, .int v2, .int v3] D = some (.inr a, D1)) (hz : D1.2.2.1 a = some (2 * 2 + 1)) : sm_fe C 274 [.ref X, .int v1, .int v2, .int v3, .ref (X + 89)] D = some (.inl (some (.int (ni 1))), D1) := by
  rw [sx_fe (m := 6) rfl rfl]
  have key : sm_ge (sm_fx C 274 0 [.ref X, .int v1, .int v2, .int v3, .ref (X + 89), sm_junk] [] D) (sm_fx C 274 7 [.ref X, .int v1, .int v2, .int v3, .ref (X + 89), sm_junk] [.int v3, .int v2, .int v1, .ref X, .int (ni 0), .ref (X + 89)] D) := sx_p q274 0 6 rfl (sm_ge.refl _)
  refine key _ ?_
  rw [sx_hc (cb274 hX) (by decide) h hz (hp := 15) (by decide)]
  have k2 : sm_ge (sm_fx C 274 15 [.ref X, .int v1, .int v2, .int v3, .ref (X + 89), sm_junk] [.ref a] D1) (sm_fx C 274 18 [.ref X, .int v1, .int v2, .int v3, .ref (X + 89), .ref a] [.int (ni 1)] D1) := sx_p q274 10 2 rfl (sm_ge.refl _)
  exact k2 _ (sx_ri q274 12 rfl rfl _ rfl)
theorem q275 : sm_q 275 14 sm_i275 9 := ⟨rfl, rfl, rfl⟩
theorem lk_14_44 : sm_lk 14 44 19 = true := by decide +kernel
theorem vk_19' : ((sm_m 19).2.1.2.2 = false ∧ ¬ (sm_m 19).1.1.name = "<init>") ∧ (sm_m 19).2.1.1 < 14 := by decide +kernel
theorem na_19' : sm_na 19 = 4 := by decide +kernel
theorem cb275 {C : sm_K} {X : Nat} {v1 v2 v3 v4 : Int32} (hX : sm_Lay C X) : sm_cb C 275 9 19 [.ref X, .int v1, .int v2, .int v3, .int v4, .ref (X + 89), sm_junk] [.int v4, .int v3, .int v2, .int v1, .ref X, .int (ni 0), .ref (X + 89)] [.ref X, .int v1, .int v2, .int v3, .int v4] [.int (ni 0), .ref (X + 89)] := sx_V q275 7 rfl lk_14_44 vk_19' na_19' rfl rfl rfl rfl (hX.s 0 rfl)
set_option maxRecDepth 8000 in
theorem l275_ok {C : sm_K} {X : Nat} {D D1 : sm_D} {v1 v2 v3 v4 : Int32} {x : Int32} (hX : sm_Lay C X) (h : sm_fe C 19 [.ref X, .int v1, .int v2, .int v3, .int v4] D = some (.inl (some (.int x)), D1)) : sm_fe C 275 [.ref X, .int v1, .int v2, .int v3, .int v4, .ref (X + 89)] D = some (.inl (some (.int (ni 0))), sm_dJ D1 (X + 89) 0 (x.toInt64)) := by
  have t0 : (ni 0).toNatClampNeg = 0 := by decide
  have i0 : sm_in_b (ni 0) 1 = true := by decide
  rw [sx_fe (m := 7) rfl rfl]
  have key : sm_ge (sm_fx C 275 0 [.ref X, .int v1, .int v2, .int v3, .int v4, .ref (X + 89), sm_junk] [] D) (sm_fx C 275 9 [.ref X, .int v1, .int v2, .int v3, .int v4, .ref (X + 89), sm_junk] [.int v4, .int v3, .int v2, .int v1, .ref X, .int (ni 0), .ref (X + 89)] D) := sx_p q275 0 7 rfl (sm_ge.refl _)
  refine key _ ?_
  rw [sx_hv (cb275 hX) (by decide) h]
  have k1 : sm_ge (sm_fx C 275 12 [.ref X, .int v1, .int v2, .int v3, .int v4, .ref (X + 89), sm_junk] (.int x :: [.int (ni 0), .ref (X + 89)]) D1) (sm_fx C 275 13 [.ref X, .int v1, .int v2, .int v3, .int v4, .ref (X + 89), sm_junk] (.long x.toInt64 :: [.int (ni 0), .ref (X + 89)]) D1) := sx_p q275 8 1 rfl (sm_ge.refl _)
  refine k1 _ ?_
  have k2 : sm_ge (sm_fx C 275 13 [.ref X, .int v1, .int v2, .int v3, .int v4, .ref (X + 89), sm_junk] (.long x.toInt64 :: [.int (ni 0), .ref (X + 89)]) D1) (sm_gu (sm_in_b (ni 0) 1) (sm_fx C 275 14 [.ref X, .int v1, .int v2, .int v3, .int v4, .ref (X + 89), sm_junk] [] (sm_dJ D1 (X + 89) (ni 0).toNatClampNeg (x.toInt64)))) := sx_ls q275 9 rfl (hX.s 89 rfl) (hX.b 89) (sm_ge.refl _)
  refine k2 _ ?_
  rw [i0, t0]
  have k3 : sm_ge (sm_fx C 275 14 [.ref X, .int v1, .int v2, .int v3, .int v4, .ref (X + 89), sm_junk] [] (sm_dJ D1 (X + 89) 0 (x.toInt64))) (sm_fx C 275 22 [.ref X, .int v1, .int v2, .int v3, .int v4, .ref (X + 89), sm_junk] [.int (ni 0)] (sm_dJ D1 (X + 89) 0 (x.toInt64))) := sx_p q275 10 1 rfl (sx_p q275 14 1 rfl (sm_ge.refl _))
  exact k3 _ (sx_ri q275 15 rfl rfl _ rfl)
set_option maxRecDepth 8000 in
theorem l275_er {C : sm_K} {X a : Nat} {D D1 : sm_D} {v1 v2 v3 v4 : Int32} (hX : sm_Lay C X) (h : sm_fe C 19 [.ref X, .int v1, .int v2, .int v3, .int v4] D = some (.inr a, D1)) (hz : D1.2.2.1 a = some (2 * 2 + 1)) : sm_fe C 275 [.ref X, .int v1, .int v2, .int v3, .int v4, .ref (X + 89)] D = some (.inl (some (.int (ni 1))), D1) := by
  rw [sx_fe (m := 7) rfl rfl]
  have key : sm_ge (sm_fx C 275 0 [.ref X, .int v1, .int v2, .int v3, .int v4, .ref (X + 89), sm_junk] [] D) (sm_fx C 275 9 [.ref X, .int v1, .int v2, .int v3, .int v4, .ref (X + 89), sm_junk] [.int v4, .int v3, .int v2, .int v1, .ref X, .int (ni 0), .ref (X + 89)] D) := sx_p q275 0 7 rfl (sm_ge.refl _)
  refine key _ ?_
  rw [sx_hc (cb275 hX) (by decide) h hz (hp := 17) (by decide)]
  have k2 : sm_ge (sm_fx C 275 17 [.ref X, .int v1, .int v2, .int v3, .int v4, .ref (X + 89), sm_junk] [.ref a] D1) (sm_fx C 275 20 [.ref X, .int v1, .int v2, .int v3, .int v4, .ref (X + 89), .ref a] [.int (ni 1)] D1) := sx_p q275 11 2 rfl (sm_ge.refl _)
  exact k2 _ (sx_ri q275 13 rfl rfl _ rfl)
theorem q276 : sm_q 276 14 sm_i276 9 := ⟨rfl, rfl, rfl⟩
theorem lk_14_47 : sm_lk 14 47 20 = true := by decide +kernel
theorem vk_20' : ((sm_m 20).2.1.2.2 = false ∧ ¬ (sm_m 20).1.1.name = "<init>") ∧ (sm_m 20).2.1.1 < 14 := by decide +kernel
theorem na_20' : sm_na 20 = 1 := by decide +kernel
theorem cb276 {C : sm_K} {X : Nat} {v1 : Int32} (hX : sm_Lay C X) : sm_cb C 276 4 20 [.ref X, .int v1, .ref (X + 89), sm_junk] [.int v1, .ref X, .int (ni 0), .ref (X + 89)] [.ref X, .int v1] [.int (ni 0), .ref (X + 89)] := sx_V q276 4 rfl lk_14_47 vk_20' na_20' rfl rfl rfl rfl (hX.s 0 rfl)
set_option maxRecDepth 8000 in
theorem l276_ok {C : sm_K} {X : Nat} {D D1 : sm_D} {v1 : Int32} {x : Int32} (hX : sm_Lay C X) (h : sm_fe C 20 [.ref X, .int v1] D = some (.inl (some (.int x)), D1)) : sm_fe C 276 [.ref X, .int v1, .ref (X + 89)] D = some (.inl (some (.int (ni 0))), sm_dJ D1 (X + 89) 0 (x.toInt64)) := by
  have t0 : (ni 0).toNatClampNeg = 0 := by decide
  have i0 : sm_in_b (ni 0) 1 = true := by decide
  rw [sx_fe (m := 4) rfl rfl]
  have key : sm_ge (sm_fx C 276 0 [.ref X, .int v1, .ref (X + 89), sm_junk] [] D) (sm_fx C 276 4 [.ref X, .int v1, .ref (X + 89), sm_junk] [.int v1, .ref X, .int (ni 0), .ref (X + 89)] D) := sx_p q276 0 4 rfl (sm_ge.refl _)
  refine key _ ?_
  rw [sx_hv (cb276 hX) (by decide) h]
  have k1 : sm_ge (sm_fx C 276 7 [.ref X, .int v1, .ref (X + 89), sm_junk] (.int x :: [.int (ni 0), .ref (X + 89)]) D1) (sm_fx C 276 8 [.ref X, .int v1, .ref (X + 89), sm_junk] (.long x.toInt64 :: [.int (ni 0), .ref (X + 89)]) D1) := sx_p q276 5 1 rfl (sm_ge.refl _)
  refine k1 _ ?_
  have k2 : sm_ge (sm_fx C 276 8 [.ref X, .int v1, .ref (X + 89), sm_junk] (.long x.toInt64 :: [.int (ni 0), .ref (X + 89)]) D1) (sm_gu (sm_in_b (ni 0) 1) (sm_fx C 276 9 [.ref X, .int v1, .ref (X + 89), sm_junk] [] (sm_dJ D1 (X + 89) (ni 0).toNatClampNeg (x.toInt64)))) := sx_ls q276 6 rfl (hX.s 89 rfl) (hX.b 89) (sm_ge.refl _)
  refine k2 _ ?_
  rw [i0, t0]
  have k3 : sm_ge (sm_fx C 276 9 [.ref X, .int v1, .ref (X + 89), sm_junk] [] (sm_dJ D1 (X + 89) 0 (x.toInt64))) (sm_fx C 276 16 [.ref X, .int v1, .ref (X + 89), sm_junk] [.int (ni 0)] (sm_dJ D1 (X + 89) 0 (x.toInt64))) := sx_p q276 7 1 rfl (sx_p q276 11 1 rfl (sm_ge.refl _))
  exact k3 _ (sx_ri q276 12 rfl rfl _ rfl)
set_option maxRecDepth 8000 in
theorem l276_er {C : sm_K} {X a : Nat} {D D1 : sm_D} {v1 : Int32} (hX : sm_Lay C X) (h : sm_fe C 20 [.ref X, .int v1] D = some (.inr a, D1)) (hz : D1.2.2.1 a = some (2 * 2 + 1)) : sm_fe C 276 [.ref X, .int v1, .ref (X + 89)] D = some (.inl (some (.int (ni 1))), D1) := by
  rw [sx_fe (m := 4) rfl rfl]
  have key : sm_ge (sm_fx C 276 0 [.ref X, .int v1, .ref (X + 89), sm_junk] [] D) (sm_fx C 276 4 [.ref X, .int v1, .ref (X + 89), sm_junk] [.int v1, .ref X, .int (ni 0), .ref (X + 89)] D) := sx_p q276 0 4 rfl (sm_ge.refl _)
  refine key _ ?_
  rw [sx_hc (cb276 hX) (by decide) h hz (hp := 12) (by decide)]
  have k2 : sm_ge (sm_fx C 276 12 [.ref X, .int v1, .ref (X + 89), sm_junk] [.ref a] D1) (sm_fx C 276 14 [.ref X, .int v1, .ref (X + 89), .ref a] [.int (ni 1)] D1) := sx_p q276 8 2 rfl (sm_ge.refl _)
  exact k2 _ (sx_ri q276 10 rfl rfl _ rfl)
theorem q277 : sm_q 277 14 sm_i277 8 := ⟨rfl, rfl, rfl⟩
theorem lk_14_51 : sm_lk 14 51 21 = true := by decide +kernel
theorem vk_21' : ((sm_m 21).2.1.2.2 = false ∧ ¬ (sm_m 21).1.1.name = "<init>") ∧ (sm_m 21).2.1.1 < 14 := by decide +kernel
theorem na_21' : sm_na 21 = 1 := by decide +kernel
theorem cb277 {C : sm_K} {X : Nat} {v1 : Int32} (hX : sm_Lay C X) : sm_cb C 277 4 21 [.ref X, .int v1, .ref (X + 89), sm_junk] [.int v1, .ref X, .int (ni 0), .ref (X + 89)] [.ref X, .int v1] [.int (ni 0), .ref (X + 89)] := sx_V q277 4 rfl lk_14_51 vk_21' na_21' rfl rfl rfl rfl (hX.s 0 rfl)
set_option maxRecDepth 8000 in
theorem l277_ok {C : sm_K} {X : Nat} {D D1 : sm_D} {v1 : Int32} {x : Int64} (hX : sm_Lay C X) (h : sm_fe C 21 [.ref X, .int v1] D = some (.inl (some (.long x)), D1)) : sm_fe C 277 [.ref X, .int v1, .ref (X + 89)] D = some (.inl (some (.int (ni 0))), sm_dJ D1 (X + 89) 0 x) := by
  have t0 : (ni 0).toNatClampNeg = 0 := by decide
  have i0 : sm_in_b (ni 0) 1 = true := by decide
  rw [sx_fe (m := 4) rfl rfl]
  have key : sm_ge (sm_fx C 277 0 [.ref X, .int v1, .ref (X + 89), sm_junk] [] D) (sm_fx C 277 4 [.ref X, .int v1, .ref (X + 89), sm_junk] [.int v1, .ref X, .int (ni 0), .ref (X + 89)] D) := sx_p q277 0 4 rfl (sm_ge.refl _)
  refine key _ ?_
  rw [sx_hv (cb277 hX) (by decide) h]
  have k2 : sm_ge (sm_fx C 277 7 [.ref X, .int v1, .ref (X + 89), sm_junk] (.long x :: [.int (ni 0), .ref (X + 89)]) D1) (sm_gu (sm_in_b (ni 0) 1) (sm_fx C 277 8 [.ref X, .int v1, .ref (X + 89), sm_junk] [] (sm_dJ D1 (X + 89) (ni 0).toNatClampNeg (x)))) := sx_ls q277 5 rfl (hX.s 89 rfl) (hX.b 89) (sm_ge.refl _)
  refine k2 _ ?_
  rw [i0, t0]
  have k3 : sm_ge (sm_fx C 277 8 [.ref X, .int v1, .ref (X + 89), sm_junk] [] (sm_dJ D1 (X + 89) 0 (x))) (sm_fx C 277 15 [.ref X, .int v1, .ref (X + 89), sm_junk] [.int (ni 0)] (sm_dJ D1 (X + 89) 0 (x))) := sx_p q277 6 1 rfl (sx_p q277 10 1 rfl (sm_ge.refl _))
  exact k3 _ (sx_ri q277 11 rfl rfl _ rfl)
set_option maxRecDepth 8000 in
theorem l277_er {C : sm_K} {X a : Nat} {D D1 : sm_D} {v1 : Int32} (hX : sm_Lay C X) (h : sm_fe C 21 [.ref X, .int v1] D = some (.inr a, D1)) (hz : D1.2.2.1 a = some (2 * 2 + 1)) : sm_fe C 277 [.ref X, .int v1, .ref (X + 89)] D = some (.inl (some (.int (ni 1))), D1) := by
  rw [sx_fe (m := 4) rfl rfl]
  have key : sm_ge (sm_fx C 277 0 [.ref X, .int v1, .ref (X + 89), sm_junk] [] D) (sm_fx C 277 4 [.ref X, .int v1, .ref (X + 89), sm_junk] [.int v1, .ref X, .int (ni 0), .ref (X + 89)] D) := sx_p q277 0 4 rfl (sm_ge.refl _)
  refine key _ ?_
  rw [sx_hc (cb277 hX) (by decide) h hz (hp := 11) (by decide)]
  have k2 : sm_ge (sm_fx C 277 11 [.ref X, .int v1, .ref (X + 89), sm_junk] [.ref a] D1) (sm_fx C 277 13 [.ref X, .int v1, .ref (X + 89), .ref a] [.int (ni 1)] D1) := sx_p q277 7 2 rfl (sm_ge.refl _)
  exact k2 _ (sx_ri q277 9 rfl rfl _ rfl)
theorem q278 : sm_q 278 14 sm_i278 8 := ⟨rfl, rfl, rfl⟩
theorem lk_14_55 : sm_lk 14 55 22 = true := by decide +kernel
theorem vk_22' : ((sm_m 22).2.1.2.2 = false ∧ ¬ (sm_m 22).1.1.name = "<init>") ∧ (sm_m 22).2.1.1 < 14 := by decide +kernel
theorem na_22' : sm_na 22 = 1 := by decide +kernel
theorem cb278 {C : sm_K} {X : Nat} {v1 : Int32} (hX : sm_Lay C X) : sm_cb C 278 4 22 [.ref X, .int v1, .ref (X + 89), sm_junk] [.int v1, .ref X, .int (ni 0), .ref (X + 89)] [.ref X, .int v1] [.int (ni 0), .ref (X + 89)] := sx_V q278 4 rfl lk_14_55 vk_22' na_22' rfl rfl rfl rfl (hX.s 0 rfl)
set_option maxRecDepth 8000 in
theorem l278_ok {C : sm_K} {X : Nat} {D D1 : sm_D} {v1 : Int32} {x : Int32} (hX : sm_Lay C X) (h : sm_fe C 22 [.ref X, .int v1] D = some (.inl (some (.int x)), D1)) : sm_fe C 278 [.ref X, .int v1, .ref (X + 89)] D = some (.inl (some (.int (ni 0))), sm_dJ D1 (X + 89) 0 (x.toInt64)) := by
  have t0 : (ni 0).toNatClampNeg = 0 := by decide
  have i0 : sm_in_b (ni 0) 1 = true := by decide
  rw [sx_fe (m := 4) rfl rfl]
  have key : sm_ge (sm_fx C 278 0 [.ref X, .int v1, .ref (X + 89), sm_junk] [] D) (sm_fx C 278 4 [.ref X, .int v1, .ref (X + 89), sm_junk] [.int v1, .ref X, .int (ni 0), .ref (X + 89)] D) := sx_p q278 0 4 rfl (sm_ge.refl _)
  refine key _ ?_
  rw [sx_hv (cb278 hX) (by decide) h]
  have k1 : sm_ge (sm_fx C 278 7 [.ref X, .int v1, .ref (X + 89), sm_junk] (.int x :: [.int (ni 0), .ref (X + 89)]) D1) (sm_fx C 278 8 [.ref X, .int v1, .ref (X + 89), sm_junk] (.long x.toInt64 :: [.int (ni 0), .ref (X + 89)]) D1) := sx_p q278 5 1 rfl (sm_ge.refl _)
  refine k1 _ ?_
  have k2 : sm_ge (sm_fx C 278 8 [.ref X, .int v1, .ref (X + 89), sm_junk] (.long x.toInt64 :: [.int (ni 0), .ref (X + 89)]) D1) (sm_gu (sm_in_b (ni 0) 1) (sm_fx C 278 9 [.ref X, .int v1, .ref (X + 89), sm_junk] [] (sm_dJ D1 (X + 89) (ni 0).toNatClampNeg (x.toInt64)))) := sx_ls q278 6 rfl (hX.s 89 rfl) (hX.b 89) (sm_ge.refl _)
  refine k2 _ ?_
  rw [i0, t0]
  have k3 : sm_ge (sm_fx C 278 9 [.ref X, .int v1, .ref (X + 89), sm_junk] [] (sm_dJ D1 (X + 89) 0 (x.toInt64))) (sm_fx C 278 16 [.ref X, .int v1, .ref (X + 89), sm_junk] [.int (ni 0)] (sm_dJ D1 (X + 89) 0 (x.toInt64))) := sx_p q278 7 1 rfl (sx_p q278 11 1 rfl (sm_ge.refl _))
  exact k3 _ (sx_ri q278 12 rfl rfl _ rfl)
set_option maxRecDepth 8000 in
theorem l278_er {C : sm_K} {X a : Nat} {D D1 : sm_D} {v1 : Int32} (hX : sm_Lay C X) (h : sm_fe C 22 [.ref X, .int v1] D = some (.inr a, D1)) (hz : D1.2.2.1 a = some (2 * 1 + 1)) : sm_fe C 278 [.ref X, .int v1, .ref (X + 89)] D = some (.inl (some (.int (ni 1))), D1) := by
  rw [sx_fe (m := 4) rfl rfl]
  have key : sm_ge (sm_fx C 278 0 [.ref X, .int v1, .ref (X + 89), sm_junk] [] D) (sm_fx C 278 4 [.ref X, .int v1, .ref (X + 89), sm_junk] [.int v1, .ref X, .int (ni 0), .ref (X + 89)] D) := sx_p q278 0 4 rfl (sm_ge.refl _)
  refine key _ ?_
  rw [sx_hc (cb278 hX) (by decide) h hz (hp := 12) (by decide)]
  have k2 : sm_ge (sm_fx C 278 12 [.ref X, .int v1, .ref (X + 89), sm_junk] [.ref a] D1) (sm_fx C 278 14 [.ref X, .int v1, .ref (X + 89), .ref a] [.int (ni 1)] D1) := sx_p q278 8 2 rfl (sm_ge.refl _)
  exact k2 _ (sx_ri q278 10 rfl rfl _ rfl)
theorem q279 : sm_q 279 14 sm_i279 9 := ⟨rfl, rfl, rfl⟩
theorem lk_14_58 : sm_lk 14 58 24 = true := by decide +kernel
theorem vk_24' : ((sm_m 24).2.1.2.2 = false ∧ ¬ (sm_m 24).1.1.name = "<init>") ∧ (sm_m 24).2.1.1 < 14 := by decide +kernel
theorem na_24' : sm_na 24 = 4 := by decide +kernel
theorem cb279 {C : sm_K} {X : Nat} {v1 v2 v3 v4 : Int32} (hX : sm_Lay C X) : sm_cb C 279 9 24 [.ref X, .int v1, .int v2, .int v3, .int v4, .ref (X + 89), sm_junk] [.int v4, .int v3, .int v2, .int v1, .ref X, .int (ni 0), .ref (X + 89)] [.ref X, .int v1, .int v2, .int v3, .int v4] [.int (ni 0), .ref (X + 89)] := sx_V q279 7 rfl lk_14_58 vk_24' na_24' rfl rfl rfl rfl (hX.s 0 rfl)
set_option maxRecDepth 8000 in
theorem l279_ok {C : sm_K} {X : Nat} {D D1 : sm_D} {v1 v2 v3 v4 : Int32} {x : Int32} (hX : sm_Lay C X) (h : sm_fe C 24 [.ref X, .int v1, .int v2, .int v3, .int v4] D = some (.inl (some (.int x)), D1)) : sm_fe C 279 [.ref X, .int v1, .int v2, .int v3, .int v4, .ref (X + 89)] D = some (.inl (some (.int (ni 0))), sm_dJ D1 (X + 89) 0 (x.toInt64)) := by
  have t0 : (ni 0).toNatClampNeg = 0 := by decide
  have i0 : sm_in_b (ni 0) 1 = true := by decide
  rw [sx_fe (m := 7) rfl rfl]
  have key : sm_ge (sm_fx C 279 0 [.ref X, .int v1, .int v2, .int v3, .int v4, .ref (X + 89), sm_junk] [] D) (sm_fx C 279 9 [.ref X, .int v1, .int v2, .int v3, .int v4, .ref (X + 89), sm_junk] [.int v4, .int v3, .int v2, .int v1, .ref X, .int (ni 0), .ref (X + 89)] D) := sx_p q279 0 7 rfl (sm_ge.refl _)
  refine key _ ?_
  rw [sx_hv (cb279 hX) (by decide) h]
  have k1 : sm_ge (sm_fx C 279 12 [.ref X, .int v1, .int v2, .int v3, .int v4, .ref (X + 89), sm_junk] (.int x :: [.int (ni 0), .ref (X + 89)]) D1) (sm_fx C 279 13 [.ref X, .int v1, .int v2, .int v3, .int v4, .ref (X + 89), sm_junk] (.long x.toInt64 :: [.int (ni 0), .ref (X + 89)]) D1) := sx_p q279 8 1 rfl (sm_ge.refl _)
  refine k1 _ ?_
  have k2 : sm_ge (sm_fx C 279 13 [.ref X, .int v1, .int v2, .int v3, .int v4, .ref (X + 89), sm_junk] (.long x.toInt64 :: [.int (ni 0), .ref (X + 89)]) D1) (sm_gu (sm_in_b (ni 0) 1) (sm_fx C 279 14 [.ref X, .int v1, .int v2, .int v3, .int v4, .ref (X + 89), sm_junk] [] (sm_dJ D1 (X + 89) (ni 0).toNatClampNeg (x.toInt64)))) := sx_ls q279 9 rfl (hX.s 89 rfl) (hX.b 89) (sm_ge.refl _)
  refine k2 _ ?_
  rw [i0, t0]
  have k3 : sm_ge (sm_fx C 279 14 [.ref X, .int v1, .int v2, .int v3, .int v4, .ref (X + 89), sm_junk] [] (sm_dJ D1 (X + 89) 0 (x.toInt64))) (sm_fx C 279 26 [.ref X, .int v1, .int v2, .int v3, .int v4, .ref (X + 89), sm_junk] [.int (ni 0)] (sm_dJ D1 (X + 89) 0 (x.toInt64))) := sx_p q279 10 1 rfl (sx_p q279 17 1 rfl (sm_ge.refl _))
  exact k3 _ (sx_ri q279 18 rfl rfl _ rfl)
set_option maxRecDepth 8000 in
theorem l279_er1 {C : sm_K} {X a : Nat} {D D1 : sm_D} {v1 v2 v3 v4 : Int32} (hX : sm_Lay C X) (h : sm_fe C 24 [.ref X, .int v1, .int v2, .int v3, .int v4] D = some (.inr a, D1)) (hz : D1.2.2.1 a = some (2 * 1 + 1)) : sm_fe C 279 [.ref X, .int v1, .int v2, .int v3, .int v4, .ref (X + 89)] D = some (.inl (some (.int (ni 1))), D1) := by
  rw [sx_fe (m := 7) rfl rfl]
  have key : sm_ge (sm_fx C 279 0 [.ref X, .int v1, .int v2, .int v3, .int v4, .ref (X + 89), sm_junk] [] D) (sm_fx C 279 9 [.ref X, .int v1, .int v2, .int v3, .int v4, .ref (X + 89), sm_junk] [.int v4, .int v3, .int v2, .int v1, .ref X, .int (ni 0), .ref (X + 89)] D) := sx_p q279 0 7 rfl (sm_ge.refl _)
  refine key _ ?_
  rw [sx_hc (cb279 hX) (by decide) h hz (hp := 17) (by decide)]
  have k2 : sm_ge (sm_fx C 279 17 [.ref X, .int v1, .int v2, .int v3, .int v4, .ref (X + 89), sm_junk] [.ref a] D1) (sm_fx C 279 20 [.ref X, .int v1, .int v2, .int v3, .int v4, .ref (X + 89), .ref a] [.int (ni 1)] D1) := sx_p q279 11 2 rfl (sm_ge.refl _)
  exact k2 _ (sx_ri q279 13 rfl rfl _ rfl)
set_option maxRecDepth 8000 in
theorem l279_er2 {C : sm_K} {X a : Nat} {D D1 : sm_D} {v1 v2 v3 v4 : Int32} (hX : sm_Lay C X) (h : sm_fe C 24 [.ref X, .int v1, .int v2, .int v3, .int v4] D = some (.inr a, D1)) (hz : D1.2.2.1 a = some (2 * 2 + 1)) : sm_fe C 279 [.ref X, .int v1, .int v2, .int v3, .int v4, .ref (X + 89)] D = some (.inl (some (.int (ni 2))), D1) := by
  rw [sx_fe (m := 7) rfl rfl]
  have key : sm_ge (sm_fx C 279 0 [.ref X, .int v1, .int v2, .int v3, .int v4, .ref (X + 89), sm_junk] [] D) (sm_fx C 279 9 [.ref X, .int v1, .int v2, .int v3, .int v4, .ref (X + 89), sm_junk] [.int v4, .int v3, .int v2, .int v1, .ref X, .int (ni 0), .ref (X + 89)] D) := sx_p q279 0 7 rfl (sm_ge.refl _)
  refine key _ ?_
  rw [sx_hc (cb279 hX) (by decide) h hz (hp := 21) (by decide)]
  have k2 : sm_ge (sm_fx C 279 21 [.ref X, .int v1, .int v2, .int v3, .int v4, .ref (X + 89), sm_junk] [.ref a] D1) (sm_fx C 279 24 [.ref X, .int v1, .int v2, .int v3, .int v4, .ref (X + 89), .ref a] [.int (ni 2)] D1) := sx_p q279 14 2 rfl (sm_ge.refl _)
  exact k2 _ (sx_ri q279 16 rfl rfl _ rfl)
theorem q280 : sm_q 280 14 sm_i280 10 := ⟨rfl, rfl, rfl⟩
theorem lk_14_61 : sm_lk 14 61 25 = true := by decide +kernel
theorem vk_25' : ((sm_m 25).2.1.2.2 = false ∧ ¬ (sm_m 25).1.1.name = "<init>") ∧ (sm_m 25).2.1.1 < 14 := by decide +kernel
theorem na_25' : sm_na 25 = 0 := by decide +kernel
theorem cb280 {C : sm_K} {X : Nat} (hX : sm_Lay C X) : sm_cb C 280 3 25 [.ref X, .ref (X + 89), sm_junk] [.ref X, .int (ni 0), .ref (X + 89)] [.ref X] [.int (ni 0), .ref (X + 89)] := sx_V q280 3 rfl lk_14_61 vk_25' na_25' rfl rfl rfl rfl (hX.s 0 rfl)
set_option maxRecDepth 8000 in
theorem l280_ok {C : sm_K} {X : Nat} {D D1 : sm_D} {x : Int32} (hX : sm_Lay C X) (h : sm_fe C 25 [.ref X] D = some (.inl (some (.int x)), D1)) : sm_fe C 280 [.ref X, .ref (X + 89)] D = some (.inl (some (.int (ni 0))), sm_dJ D1 (X + 89) 0 (x.toInt64)) := by
  have t0 : (ni 0).toNatClampNeg = 0 := by decide
  have i0 : sm_in_b (ni 0) 1 = true := by decide
  rw [sx_fe (m := 3) rfl rfl]
  have key : sm_ge (sm_fx C 280 0 [.ref X, .ref (X + 89), sm_junk] [] D) (sm_fx C 280 3 [.ref X, .ref (X + 89), sm_junk] [.ref X, .int (ni 0), .ref (X + 89)] D) := sx_p q280 0 3 rfl (sm_ge.refl _)
  refine key _ ?_
  rw [sx_hv (cb280 hX) (by decide) h]
  have k1 : sm_ge (sm_fx C 280 6 [.ref X, .ref (X + 89), sm_junk] (.int x :: [.int (ni 0), .ref (X + 89)]) D1) (sm_fx C 280 7 [.ref X, .ref (X + 89), sm_junk] (.long x.toInt64 :: [.int (ni 0), .ref (X + 89)]) D1) := sx_p q280 4 1 rfl (sm_ge.refl _)
  refine k1 _ ?_
  have k2 : sm_ge (sm_fx C 280 7 [.ref X, .ref (X + 89), sm_junk] (.long x.toInt64 :: [.int (ni 0), .ref (X + 89)]) D1) (sm_gu (sm_in_b (ni 0) 1) (sm_fx C 280 8 [.ref X, .ref (X + 89), sm_junk] [] (sm_dJ D1 (X + 89) (ni 0).toNatClampNeg (x.toInt64)))) := sx_ls q280 5 rfl (hX.s 89 rfl) (hX.b 89) (sm_ge.refl _)
  refine k2 _ ?_
  rw [i0, t0]
  have k3 : sm_ge (sm_fx C 280 8 [.ref X, .ref (X + 89), sm_junk] [] (sm_dJ D1 (X + 89) 0 (x.toInt64))) (sm_fx C 280 15 [.ref X, .ref (X + 89), sm_junk] [.int (ni 0)] (sm_dJ D1 (X + 89) 0 (x.toInt64))) := sx_p q280 6 1 rfl (sx_p q280 10 1 rfl (sm_ge.refl _))
  exact k3 _ (sx_ri q280 11 rfl rfl _ rfl)
set_option maxRecDepth 8000 in
theorem l280_er {C : sm_K} {X a : Nat} {D D1 : sm_D} (hX : sm_Lay C X) (h : sm_fe C 25 [.ref X] D = some (.inr a, D1)) (hz : D1.2.2.1 a = some (2 * 0 + 1)) : sm_fe C 280 [.ref X, .ref (X + 89)] D = some (.inl (some (.int (ni 1))), D1) := by
  rw [sx_fe (m := 3) rfl rfl]
  have key : sm_ge (sm_fx C 280 0 [.ref X, .ref (X + 89), sm_junk] [] D) (sm_fx C 280 3 [.ref X, .ref (X + 89), sm_junk] [.ref X, .int (ni 0), .ref (X + 89)] D) := sx_p q280 0 3 rfl (sm_ge.refl _)
  refine key _ ?_
  rw [sx_hc (cb280 hX) (by decide) h hz (hp := 11) (by decide)]
  have k2 : sm_ge (sm_fx C 280 11 [.ref X, .ref (X + 89), sm_junk] [.ref a] D1) (sm_fx C 280 13 [.ref X, .ref (X + 89), .ref a] [.int (ni 1)] D1) := sx_p q280 7 2 rfl (sm_ge.refl _)
  exact k2 _ (sx_ri q280 9 rfl rfl _ rfl)
theorem q281 : sm_q 281 14 sm_i281 8 := ⟨rfl, rfl, rfl⟩
theorem lk_14_65 : sm_lk 14 65 26 = true := by decide +kernel
theorem vk_26' : ((sm_m 26).2.1.2.2 = false ∧ ¬ (sm_m 26).1.1.name = "<init>") ∧ (sm_m 26).2.1.1 < 14 := by decide +kernel
theorem na_26' : sm_na 26 = 1 := by decide +kernel
theorem cb281 {C : sm_K} {X : Nat} {v1 : Int32} (hX : sm_Lay C X) : sm_cb C 281 4 26 [.ref X, .int v1, .ref (X + 89), sm_junk] [.int v1, .ref X, .int (ni 0), .ref (X + 89)] [.ref X, .int v1] [.int (ni 0), .ref (X + 89)] := sx_V q281 4 rfl lk_14_65 vk_26' na_26' rfl rfl rfl rfl (hX.s 0 rfl)
set_option maxRecDepth 8000 in
theorem l281_ok {C : sm_K} {X : Nat} {D D1 : sm_D} {v1 : Int32} {x : Int32} (hX : sm_Lay C X) (h : sm_fe C 26 [.ref X, .int v1] D = some (.inl (some (.int x)), D1)) : sm_fe C 281 [.ref X, .int v1, .ref (X + 89)] D = some (.inl (some (.int (ni 0))), sm_dJ D1 (X + 89) 0 (x.toInt64)) := by
  have t0 : (ni 0).toNatClampNeg = 0 := by decide
  have i0 : sm_in_b (ni 0) 1 = true := by decide
  rw [sx_fe (m := 4) rfl rfl]
  have key : sm_ge (sm_fx C 281 0 [.ref X, .int v1, .ref (X + 89), sm_junk] [] D) (sm_fx C 281 4 [.ref X, .int v1, .ref (X + 89), sm_junk] [.int v1, .ref X, .int (ni 0), .ref (X + 89)] D) := sx_p q281 0 4 rfl (sm_ge.refl _)
  refine key _ ?_
  rw [sx_hv (cb281 hX) (by decide) h]
  have k1 : sm_ge (sm_fx C 281 7 [.ref X, .int v1, .ref (X + 89), sm_junk] (.int x :: [.int (ni 0), .ref (X + 89)]) D1) (sm_fx C 281 8 [.ref X, .int v1, .ref (X + 89), sm_junk] (.long x.toInt64 :: [.int (ni 0), .ref (X + 89)]) D1) := sx_p q281 5 1 rfl (sm_ge.refl _)
  refine k1 _ ?_
  have k2 : sm_ge (sm_fx C 281 8 [.ref X, .int v1, .ref (X + 89), sm_junk] (.long x.toInt64 :: [.int (ni 0), .ref (X + 89)]) D1) (sm_gu (sm_in_b (ni 0) 1) (sm_fx C 281 9 [.ref X, .int v1, .ref (X + 89), sm_junk] [] (sm_dJ D1 (X + 89) (ni 0).toNatClampNeg (x.toInt64)))) := sx_ls q281 6 rfl (hX.s 89 rfl) (hX.b 89) (sm_ge.refl _)
  refine k2 _ ?_
  rw [i0, t0]
  have k3 : sm_ge (sm_fx C 281 9 [.ref X, .int v1, .ref (X + 89), sm_junk] [] (sm_dJ D1 (X + 89) 0 (x.toInt64))) (sm_fx C 281 16 [.ref X, .int v1, .ref (X + 89), sm_junk] [.int (ni 0)] (sm_dJ D1 (X + 89) 0 (x.toInt64))) := sx_p q281 7 1 rfl (sx_p q281 11 1 rfl (sm_ge.refl _))
  exact k3 _ (sx_ri q281 12 rfl rfl _ rfl)
set_option maxRecDepth 8000 in
theorem l281_er {C : sm_K} {X a : Nat} {D D1 : sm_D} {v1 : Int32} (hX : sm_Lay C X) (h : sm_fe C 26 [.ref X, .int v1] D = some (.inr a, D1)) (hz : D1.2.2.1 a = some (2 * 2 + 1)) : sm_fe C 281 [.ref X, .int v1, .ref (X + 89)] D = some (.inl (some (.int (ni 1))), D1) := by
  rw [sx_fe (m := 4) rfl rfl]
  have key : sm_ge (sm_fx C 281 0 [.ref X, .int v1, .ref (X + 89), sm_junk] [] D) (sm_fx C 281 4 [.ref X, .int v1, .ref (X + 89), sm_junk] [.int v1, .ref X, .int (ni 0), .ref (X + 89)] D) := sx_p q281 0 4 rfl (sm_ge.refl _)
  refine key _ ?_
  rw [sx_hc (cb281 hX) (by decide) h hz (hp := 12) (by decide)]
  have k2 : sm_ge (sm_fx C 281 12 [.ref X, .int v1, .ref (X + 89), sm_junk] [.ref a] D1) (sm_fx C 281 14 [.ref X, .int v1, .ref (X + 89), .ref a] [.int (ni 1)] D1) := sx_p q281 8 2 rfl (sm_ge.refl _)
  exact k2 _ (sx_ri q281 10 rfl rfl _ rfl)
theorem q282 : sm_q 282 14 sm_i282 7 := ⟨rfl, rfl, rfl⟩
theorem lk_14_68 : sm_lk 14 68 27 = true := by decide +kernel
theorem vk_27' : ((sm_m 27).2.1.2.2 = false ∧ ¬ (sm_m 27).1.1.name = "<init>") ∧ (sm_m 27).2.1.1 < 14 := by decide +kernel
theorem na_27' : sm_na 27 = 0 := by decide +kernel
theorem cb282 {C : sm_K} {X : Nat} (hX : sm_Lay C X) : sm_cb C 282 3 27 [.ref X, .ref (X + 89), sm_junk] [.ref X, .int (ni 0), .ref (X + 89)] [.ref X] [.int (ni 0), .ref (X + 89)] := sx_V q282 3 rfl lk_14_68 vk_27' na_27' rfl rfl rfl rfl (hX.s 0 rfl)
set_option maxRecDepth 8000 in
theorem l282_ok {C : sm_K} {X : Nat} {D D1 : sm_D} {x : Int32} (hX : sm_Lay C X) (h : sm_fe C 27 [.ref X] D = some (.inl (some (.int x)), D1)) : sm_fe C 282 [.ref X, .ref (X + 89)] D = some (.inl (some (.int (ni 0))), sm_dJ D1 (X + 89) 0 (x.toInt64)) := by
  have t0 : (ni 0).toNatClampNeg = 0 := by decide
  have i0 : sm_in_b (ni 0) 1 = true := by decide
  rw [sx_fe (m := 3) rfl rfl]
  have key : sm_ge (sm_fx C 282 0 [.ref X, .ref (X + 89), sm_junk] [] D) (sm_fx C 282 3 [.ref X, .ref (X + 89), sm_junk] [.ref X, .int (ni 0), .ref (X + 89)] D) := sx_p q282 0 3 rfl (sm_ge.refl _)
  refine key _ ?_
  rw [sx_hv (cb282 hX) (by decide) h]
  have k1 : sm_ge (sm_fx C 282 6 [.ref X, .ref (X + 89), sm_junk] (.int x :: [.int (ni 0), .ref (X + 89)]) D1) (sm_fx C 282 7 [.ref X, .ref (X + 89), sm_junk] (.long x.toInt64 :: [.int (ni 0), .ref (X + 89)]) D1) := sx_p q282 4 1 rfl (sm_ge.refl _)
  refine k1 _ ?_
  have k2 : sm_ge (sm_fx C 282 7 [.ref X, .ref (X + 89), sm_junk] (.long x.toInt64 :: [.int (ni 0), .ref (X + 89)]) D1) (sm_gu (sm_in_b (ni 0) 1) (sm_fx C 282 8 [.ref X, .ref (X + 89), sm_junk] [] (sm_dJ D1 (X + 89) (ni 0).toNatClampNeg (x.toInt64)))) := sx_ls q282 5 rfl (hX.s 89 rfl) (hX.b 89) (sm_ge.refl _)
  refine k2 _ ?_
  rw [i0, t0]
  have k3 : sm_ge (sm_fx C 282 8 [.ref X, .ref (X + 89), sm_junk] [] (sm_dJ D1 (X + 89) 0 (x.toInt64))) (sm_fx C 282 15 [.ref X, .ref (X + 89), sm_junk] [.int (ni 0)] (sm_dJ D1 (X + 89) 0 (x.toInt64))) := sx_p q282 6 1 rfl (sx_p q282 10 1 rfl (sm_ge.refl _))
  exact k3 _ (sx_ri q282 11 rfl rfl _ rfl)
set_option maxRecDepth 8000 in
theorem l282_er {C : sm_K} {X a : Nat} {D D1 : sm_D} (hX : sm_Lay C X) (h : sm_fe C 27 [.ref X] D = some (.inr a, D1)) (hz : D1.2.2.1 a = some (2 * 0 + 1)) : sm_fe C 282 [.ref X, .ref (X + 89)] D = some (.inl (some (.int (ni 1))), D1) := by
  rw [sx_fe (m := 3) rfl rfl]
  have key : sm_ge (sm_fx C 282 0 [.ref X, .ref (X + 89), sm_junk] [] D) (sm_fx C 282 3 [.ref X, .ref (X + 89), sm_junk] [.ref X, .int (ni 0), .ref (X + 89)] D) := sx_p q282 0 3 rfl (sm_ge.refl _)
  refine key _ ?_
  rw [sx_hc (cb282 hX) (by decide) h hz (hp := 11) (by decide)]
  have k2 : sm_ge (sm_fx C 282 11 [.ref X, .ref (X + 89), sm_junk] [.ref a] D1) (sm_fx C 282 13 [.ref X, .ref (X + 89), .ref a] [.int (ni 1)] D1) := sx_p q282 7 2 rfl (sm_ge.refl _)
  exact k2 _ (sx_ri q282 9 rfl rfl _ rfl)
