/-! ===== read of the class at its good end: the trees change places ===== -/
theorem pk1_35 : sm_pk 0 35 0 3 = true := by decide +kernel
theorem pk1_39 : sm_pk 0 39 0 4 = true := by decide +kernel
/-- the two trees of a class have changed places -/
def sm_swz (Z : sm_Z) (X t t' : Nat) : sm_Z := (Z.1, sm_up (sm_up Z.2 X 3 (.ref t)) X 4 (.ref t'))
section CRG
variable {C : sm_K} {X t t' d : Nat} {D D1 : sm_D}
set_option maxRecDepth 8000 in
theorem k1_ok (hX : sm_Lay C X) (ht : t = X + 23 ∨ t = X + 36) (hl : C.2.2.1.2 X 3 = .ref t') (hs : C.2.2.1.2 X 4 = .ref t) (h : sm_fe C 48 [.ref (X + 4), .ref t] D = some (.inl none, D1)) (hlow : ∀ a, a < C.2.1 → D.1 a = C.2.2.2 a) (hd : 13 ≤ d) :
    sm_ev C.1 C.2.1 false d 1 [.ref X] (C.2.2.1, D) = some (.inl (some (.int (D1.1 t 11))), (sm_swz C.2.2.1 X t t', sm_dI D1 (X + 2) 1 (ni 0))) := by
  obtain ⟨e, rfl⟩ : ∃ e, d = e + 1 := ⟨d - 1, by omega⟩
  have tr := (sm_tree_of hX ht).1
  have h0 : C.2.2.1.1 X = some (.inl 0) := hX.s 0 rfl
  have b0 : C.2.1 ≤ X := hX.b 0
  have ht0 : C.2.2.1.1 t = some (.inl 11) := tr.s 0 rfl
  have hcall := (sm_fe_ev (S := (C.2.2.1, D)) (q := false) (d := e) rfl hlow (by show 12 ≤ e; omega) h).1
  rw [nx_fe (m := 2) rfl rfl]
  show sm_ex C.1 C.2.1 false (e + 1) 1 0 [.ref X, sm_junk] [] (C.2.2.1, D) = _
  rw [nx_p (pc' := 1) (lv' := [.ref X, sm_junk]) (st' := [.ref X]) q1 0 1 rfl]
  rw [nx_get q1 1 rfl fk1_21 h0]
  have v1 : sm_val (sm_ty 0 1) (C.2.2.1, D) X 1 = .ref (X + 4) := hX.r 0 1 rfl
  rw [v1, nx_p (pc' := 5) (lv' := [.ref X, sm_junk]) (st' := [.ref X, .ref (X + 4)]) q1 2 1 rfl, nx_get q1 3 rfl fk1_39 h0]
  have v2 : sm_val (sm_ty 0 4) (C.2.2.1, D) X 4 = .ref t := hs
  rw [v2, nx_V (w := none) q1 4 rfl lk1_68 vk1_48 na1_48 rfl rfl rfl rfl (hX.s 4 rfl) rfl hcall]
  show sm_ex C.1 C.2.1 false (e + 1) 1 11 [.ref X, sm_junk] [] (C.2.2.1, D1) = _
  rw [nx_p (pc' := 36) (lv' := [.ref X, sm_junk]) (st' := []) q1 5 1 rfl, nx_p (pc' := 37) (lv' := [.ref X, sm_junk]) (st' := [.ref X]) q1 18 1 rfl, nx_get q1 19 rfl fk_0_12 h0]
  have v3 : sm_val (sm_ty 0 0) (C.2.2.1, D1) X 0 = .ref (X + 1) := hX.r 0 0 rfl
  rw [v3, nx_get q1 20 rfl fk_0_42 (hX.s 1 rfl)]
  have v4 : sm_val (sm_ty 1 0) (C.2.2.1, D1) (X + 1) 0 = .ref (X + 2) := hX.r 1 0 rfl
  rw [v4, nx_p (pc' := 44) (lv' := [.ref X, sm_junk]) (st' := [.int (ni 0), .ref (X + 2)]) q1 21 1 rfl]
  rw [nx_put (S' := (C.2.2.1, sm_dI D1 (X + 2) 1 (ni 0))) q1 22 rfl pk1_46 (hX.s 2 rfl) (hX.b 2) rfl]
  rw [nx_p (pc' := 48) (lv' := [.ref X, sm_junk]) (st' := [.ref X]) q1 23 1 rfl, nx_get q1 24 rfl fk_0_35 h0]
  have v5 : sm_val (sm_ty 0 3) (C.2.2.1, sm_dI D1 (X + 2) 1 (ni 0)) X 3 = .ref t' := hl
  rw [v5, nx_p (pc' := 54) (lv' := [.ref X, .ref t']) (st' := [.ref X, .ref X]) q1 25 3 rfl, nx_get q1 28 rfl fk1_39 h0]
  have v6 : sm_val (sm_ty 0 4) (C.2.2.1, sm_dI D1 (X + 2) 1 (ni 0)) X 4 = .ref t := hs
  rw [v6, nx_put (S' := ((C.2.2.1.1, sm_up C.2.2.1.2 X 3 (.ref t)), sm_dI D1 (X + 2) 1 (ni 0))) q1 29 rfl pk1_35 h0 b0 rfl]
  rw [nx_p (pc' := 62) (lv' := [.ref X, .ref t']) (st' := [.ref t', .ref X]) q1 30 2 rfl]
  rw [nx_put (S' := (sm_swz C.2.2.1 X t t', sm_dI D1 (X + 2) 1 (ni 0))) q1 32 rfl pk1_39 h0 b0 rfl]
  rw [nx_p (pc' := 66) (lv' := [.ref X, .ref t']) (st' := [.ref X]) q1 33 1 rfl, nx_get q1 34 rfl fk_0_35 h0]
  have v7 : sm_val (sm_ty 0 3) (sm_swz C.2.2.1 X t t', sm_dI D1 (X + 2) 1 (ni 0)) X 3 = .ref t := by
    show sm_up (sm_up C.2.2.1.2 X 3 (.ref t)) X 4 (.ref t') X 3 = .ref t
    rw [up_ne (by omega), up_eq]
  rw [v7, nx_get q1 35 rfl fk_0_75 ht0]
  have v8 : sm_val (sm_ty 11 11) (sm_swz C.2.2.1 X t t', sm_dI D1 (X + 2) 1 (ni 0)) t 11 = .int (D1.1 t 11) := by
    show Value.int ((sm_dI D1 (X + 2) 1 (ni 0)).1 t 11) = _
    rw [dI_ne (by omega)]
  rw [v8, nx_ri q1 36 rfl rfl]
  rfl
end CRG
