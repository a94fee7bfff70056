/-! ===== read of the class ===== -/
theorem q1 : sm_q 1 0 sm_i1 13 := ⟨rfl, rfl, rfl⟩
theorem fk1_21 : sm_fk 0 21 0 1 = true := by decide +kernel
theorem fk1_39 : sm_fk 0 39 0 4 = true := by decide +kernel
theorem fk1_72 : sm_fk 0 72 1 1 = true := by decide +kernel
theorem pk1_46 : sm_pk 0 46 2 1 = true := by decide +kernel
theorem lk1_68 : sm_lk 0 68 48 = true := by decide +kernel
theorem vk1_48 : ((sm_m 48).2.1.2.2 = false ∧ ¬ (sm_m 48).1.1.name = "<init>") ∧ (sm_m 48).2.1.1 < 14 := by decide +kernel
theorem na1_48 : sm_na 48 = 1 := by decide +kernel
section CRD
variable {C : sm_K} {X t a : Nat} {D D1 : sm_D}
theorem cb1 (hX : sm_Lay C X) : sm_cb C 1 8 48 [.ref X, sm_junk] [.ref t, .ref (X + 4)] [.ref (X + 4), .ref t] [] := sx_V q1 4 rfl lk1_68 vk1_48 na1_48 rfl rfl rfl rfl (hX.s 4 rfl)
theorem r1_pre (hX : sm_Lay C X) (hs : C.2.2.1.2 X 4 = .ref t) : sm_ge (sm_fx C 1 0 [.ref X, sm_junk] [] D) (sm_fx C 1 8 [.ref X, sm_junk] [.ref t, .ref (X + 4)] D) :=
  sx_p (pc' := 1) (lv' := [.ref X, sm_junk]) (st' := [.ref X]) q1 0 1 rfl (sx_gR q1 1 rfl fk1_21 (fun _ _ => rfl) (hX.s 0 rfl) (hX.r 0 1 rfl) (sx_p (pc' := 5) (lv' := [.ref X, sm_junk]) (st' := [.ref X, .ref (X + 4)]) q1 2 1 rfl (sx_gR q1 3 rfl fk1_39 (fun _ _ => rfl) (hX.s 0 rfl) hs (sm_ge.refl _))))
set_option maxRecDepth 8000 in
theorem k1_er (hX : sm_Lay C X) (hs : C.2.2.1.2 X 4 = .ref t) (h : sm_fe C 48 [.ref (X + 4), .ref t] D = some (.inr a, D1)) (hz : D1.2.2.1 a = some (2 * 0 + 1)) : sm_fe C 1 [.ref X] D = some (.inl (some (.int (sm_k (-1) - D1.1 (X + 1) 1))), sm_dI D1 (X + 2) 1 (ni 0)) := by
  rw [sx_fe (m := 2) rfl rfl]
  refine r1_pre hX hs _ ?_
  rw [sx_hc (cb1 hX) (by decide) h hz (hp := 14) (by decide)]
  have e1 : (sm_dI D1 (X + 2) 1 (ni 0)).1 (X + 1) 1 = D1.1 (X + 1) 1 := dI_ne (by omega)
  have k2 : sm_ge (sm_fx C 1 14 [.ref X, sm_junk] [.ref a] D1) (sm_fx C 1 35 [.ref X, .ref a] [.int (sm_k (-1) - (sm_dI D1 (X + 2) 1 (ni 0)).1 (X + 1) 1)] (sm_dI D1 (X + 2) 1 (ni 0))) :=
    sx_p (pc' := 16) (lv' := [.ref X, .ref a]) (st' := [.ref X]) q1 6 2 rfl (sx_gR q1 8 rfl fk_0_12 (fun _ _ => rfl) (hX.s 0 rfl) (hX.r 0 0 rfl) (sx_gR q1 9 rfl fk_0_42 (fun _ _ => rfl) (hX.s 1 rfl) (hX.r 1 0 rfl) (sx_p (pc' := 23) (lv' := [.ref X, .ref a]) (st' := [.int (ni 0), .ref (X + 2)]) q1 10 1 rfl (sx_pI q1 11 rfl pk1_46 rfl (hX.s 2 rfl) (hX.b 2) (sx_p (pc' := 28) (lv' := [.ref X, .ref a]) (st' := [.ref X, .int (sm_k (-1))]) q1 12 2 rfl (sx_gR q1 14 rfl fk_0_12 (fun _ _ => rfl) (hX.s 0 rfl) (hX.r 0 0 rfl) (sx_gI q1 15 rfl fk1_72 rfl (hX.s 1 rfl) (hX.b 1) (sx_p q1 16 1 rfl (sm_ge.refl _)))))))))
  rw [e1] at k2
  exact k2 _ (sx_ri q1 17 rfl rfl _ rfl)
end CRD
