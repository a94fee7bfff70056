/-! ===== the law's helpers ===== -/
theorem q268 : sm_q 268 14 sm_i268 7 := ⟨rfl, rfl, rfl⟩
theorem lk_14_15 : sm_lk 14 15 8 = true := by decide +kernel
theorem vk_8' : ((sm_m 8).2.1.2.2 = false ∧ ¬ (sm_m 8).1.1.name = "<init>") ∧ (sm_m 8).2.1.1 < 14 := by decide +kernel
theorem na_8' : sm_na 8 = 1 := by decide +kernel
section LWH
variable {C : sm_K} {X : Nat} {D D1 : sm_D} {v : Int32} {a : Nat}
theorem cb268 (hX : sm_Lay C X) : sm_cb C 268 2 8 [.ref X, .int v, sm_junk] [.int v, .ref X] [.ref X, .int v] [] := sx_V q268 2 rfl lk_14_15 vk_8' na_8' rfl rfl rfl rfl (hX.s 0 rfl)
theorem l268_ok (hX : sm_Lay C X) (h : sm_fe C 8 [.ref X, .int v] D = some (.inl none, D1)) : sm_fe C 268 [.ref X, .int v] D = some (.inl (some (.int (ni 0))), D1) := by
  rw [sx_fe (m := 3) rfl rfl]
  have key : sm_ge (sm_fx C 268 0 [.ref X, .int v, sm_junk] [] D) (sm_fx C 268 2 [.ref X, .int v, sm_junk] [.int v, .ref X] D) := sx_p q268 0 2 rfl (sm_ge.refl _)
  refine key _ ?_
  rw [sx_hv (cb268 hX) (by decide) h]
  have k2 : sm_ge (sm_fx C 268 5 [.ref X, .int v, sm_junk] [] D1) (sm_fx C 268 12 [.ref X, .int v, sm_junk] [.int (ni 0)] D1) := sx_p q268 3 1 rfl (sx_p q268 7 1 rfl (sm_ge.refl _))
  refine k2 _ ?_
  exact sx_ri q268 8 rfl rfl _ rfl
theorem l268_er (hX : sm_Lay C X) (h : sm_fe C 8 [.ref X, .int v] D = some (.inr a, D1)) (hz : D1.2.2.1 a = some (2 * 1 + 1)) : sm_fe C 268 [.ref X, .int v] D = some (.inl (some (.int (ni 1))), D1) := by
  rw [sx_fe (m := 3) rfl rfl]
  have key : sm_ge (sm_fx C 268 0 [.ref X, .int v, sm_junk] [] D) (sm_fx C 268 2 [.ref X, .int v, sm_junk] [.int v, .ref X] D) := sx_p q268 0 2 rfl (sm_ge.refl _)
  refine key _ ?_
  rw [sx_hc (cb268 hX) (by decide) h hz (hp := 8) (by decide)]
  have k2 : sm_ge (sm_fx C 268 8 [.ref X, .int v, sm_junk] [.ref a] D1) (sm_fx C 268 10 [.ref X, .int v, .ref a] [.int (ni 1)] D1) := sx_p q268 4 2 rfl (sm_ge.refl _)
  refine k2 _ ?_
  exact sx_ri q268 6 rfl rfl _ rfl
end LWH
