/-! ===== the law's beginning: both objects are made; then its loop ===== -/
def lx_a : List (Nat × Instr × Nat) := [(0, .new 8, 3), (3, .dup, 1), (4, .invokespecial 71, 3), (7, .astore_n 1, 1), (8, .new 72, 3), (11, .dup, 1), (12, .invokespecial 74, 3), (15, .astore_n 2, 1), (16, .iconst 1, 1), (17, .newarray .long, 2), (19, .astore_n 3, 1), (20, .iconst 0, 1), (21, .istore 4, 2)]
theorem lx_za : lx_in lx_a := lx_in_of (by decide +kernel)
theorem lxk_71 : sm_lk 14 71 0 = true := by decide +kernel
theorem lxk_74 : sm_lk 14 74 152 = true := by decide +kernel
theorem lxi_0 : (sm_m 0).2.1.2.2 = false ∧ (sm_m 0).1.1.name = "<init>" := by decide +kernel
theorem lxi_152 : (sm_m 152).2.1.2.2 = false ∧ (sm_m 152).1.1.name = "<init>" := by decide +kernel
theorem lxn_0 : sm_na 0 = 0 := by decide +kernel
theorem lxn_152 : sm_na 152 = 0 := by decide +kernel
theorem lxN_8 : sm_look sm_N (14 * 65536 + 8) = some (0, 5) := by decide +kernel
theorem lxN_72 : sm_look sm_N (14 * 65536 + 72) = some (12, 69) := by decide +kernel
theorem cb_lrf_c : ∀ i, i < 89 → ∀ f, f < 70 → (match (sm_lrf.getD i []).getD f none with | some j => decide (cb_at i f = some j) | none => true) = true := by decide +kernel
theorem cb_lrf_l : sm_lrf.all (fun r => decide (r.length ≤ 70)) = true := by decide +kernel
theorem cb_lrf_n : sm_lrf.length ≤ 90 ∧ sm_lrf.getD 89 [] = [] := by decide +kernel
theorem cb_lrf {i f j : Nat} (h : (sm_lrf.getD i []).getD f none = some j) : i < 89 ∧ f < 70 ∧ cb_at i f = some j := by
  have hi : i < 89 := by
    rcases Nat.lt_or_ge i 89 with h1 | h1
    · exact h1
    · exfalso
      have e : sm_lrf.getD i [] = [] := by
        by_cases e : i = 89
        · rw [e]; exact cb_lrf_n.2
        · rw [List.getD_eq_getElem?_getD, List.getElem?_eq_none (by have := cb_lrf_n.1; omega)]
          rfl
      rw [e] at h
      cases h
  have hf : f < 70 := by
    rcases Nat.lt_or_ge f 70 with h1 | h1
    · exact h1
    · exfalso
      have hm : sm_lrf.getD i [] ∈ sm_lrf ∨ sm_lrf.getD i [] = [] := by
        rw [List.getD_eq_getElem?_getD]
        cases hg : sm_lrf[i]? with
        | none => exact Or.inr rfl
        | some r => exact Or.inl (List.mem_of_getElem? hg)
      have hl : (sm_lrf.getD i []).length ≤ 70 := by
        rcases hm with hm | hm
        · exact of_decide_eq_true (List.all_eq_true.mp cb_lrf_l _ hm)
        · rw [hm]; exact Nat.zero_le _
      rw [List.getD_eq_getElem?_getD, List.getElem?_eq_none (by omega)] at h
      cases h
  refine ⟨hi, hf, ?_⟩
  have g := cb_lrf_c i hi f hf
  rw [h] at g
  exact of_decide_eq_true g
theorem cb_all_i {R : List (Nat × Nat × Nat)} (h : cb_all 0 89 R = true) {i f j : Nat} (hi : i < 89) (hf : f < 70) (hj : cb_at i f = some j) : (i, f, j) ∈ R := by
  unfold cb_all at h
  have h1 := List.all_eq_true.mp h i (List.mem_range.mpr hi)
  have h2 := List.all_eq_true.mp h1 f (List.mem_range.mpr hf)
  rw [Nat.zero_add, hj] at h2
  exact of_decide_eq_true h2
section LXB
variable {E : sm_E} {S0 S : sm_S} {X b L : Nat} {A : cb_A}
theorem cb_Lay (h : cb_B X S0 A S) (hA : A.1 = 90) (hc : cb_all 0 89 A.2.2 = true) : sm_Lay (E, X, S.1, S0.2.1) X := by
  refine ⟨Nat.le_refl _, fun i sh hi => ?_, fun i f j hj => ?_⟩
  · have hl : i < 90 := by
      rcases Nat.lt_or_ge i 90 with h1 | h1
      · exact h1
      · exfalso
        rw [List.getElem?_eq_none (by have : sm_lsh.length = 90 := by decide
                                      omega)] at hi
        cases hi
    exact (h.2.2.1 i (by omega)).trans hi
  · obtain ⟨h1, h2, h3⟩ := cb_lrf hj
    exact (h.2.2.2.1 _ (cb_all_i hc h1 h2 h3)).2.1
theorem cb_tx (h : cb_B X S0 A S) (hx : tx (E, X, S0.1, S0.2.1)) : tx (E, X, S.1, S0.2.1) := by
  refine ⟨fun j hj => ?_, hx.2⟩
  obtain ⟨w, ⟨h1, h2, h3, h4, h5, h6⟩, h7⟩ := hx.1 j hj
  refine ⟨w, ⟨?_, ?_, ?_, h4, h5, h6⟩, h7⟩
  · exact (h.2.2.2.2.1 _ h4).1.trans h1
  · exact (congrFun (h.2.2.2.2.1 _ h4).2.1 0).trans h2
  · exact (h.2.2.2.2.1 _ h5).1.trans h3
theorem cb_mv (h : cb_B X S0 A S) (hx : sm_mv (E, X, S0.1, S0.2.1)) : sm_mv (E, X, S.1, S0.2.1) := by
  obtain ⟨⟨h1, h2⟩, h3⟩ := hx
  exact ⟨⟨(h.2.2.2.2.1 _ h2).1.trans h1, h2⟩, h3⟩
/-- the new objects hold nothing -/
theorem cb_JK (h : cb_B X S0 A S) (hA : A.1 = 90) (hc : cb_all 0 89 A.2.2 = true) (hx : tx (E, X, S0.1, S0.2.1)) (hm : sm_mv (E, X, S0.1, S0.2.1)) : JK (E, X, S.1, S0.2.1) X (X + 23) (X + 36) S.2 := by
  have z : ∀ i j, i < 90 → S.2.1 (X + i) j = ni 0 := fun i j hi => (h.2.2.2.2.2.1 i j (by omega)).1
  have zl : ∀ i j, i < 90 → S.2.2.1 (X + i) j = Int64.ofInt 0 := fun i j hi => (h.2.2.2.2.2.1 i j (by omega)).2
  have hL := cb_Lay (E := E) h hA hc
  have hT := cb_tx h hx
  have z2 : ∀ (_ k j : Nat), k ≤ 12 → S.2.1 (X + 23 + k) j = ni 0 := fun _ k j hk => by
    rw [show X + 23 + k = X + (23 + k) from by omega]
    exact z _ _ (by omega)
  refine ⟨[], fun _ => ni 0, 0, md_0, [], ⟨hL, hT, cb_mv h hm, Or.inl ⟨rfl, rfl⟩, (h.2.2.2.1 _ (cb_all_i hc (i := 0) (f := 3) (j := 23) (by omega) (by omega) (by decide))).2.1, (h.2.2.2.1 _ (cb_all_i hc (i := 0) (f := 4) (j := 36) (by omega) (by omega) (by decide))).2.1⟩, ⟨CB_nil (z 2 1 (by omega)), ?_, ⟨z 21 1 (by omega), Nat.zero_le _, fun i hi => (nomatch hi)⟩⟩, ⟨⟨z 49 2 (by omega), Nat.zero_le _, fun i hi => (nomatch hi), fun x hx => (nomatch hx)⟩, ⟨hL, hT, Or.inl ⟨rfl, z 49 9 (by omega), z 49 36 (by omega), zl 49 38 (by omega), z 49 39 (by omega), z 77 0 (by omega), z 77 1 (by omega)⟩⟩, Or.inl ⟨rfl, z 49 7 (by omega), z 49 6 (by omega)⟩, ⟨z 49 43 (by omega), Nat.zero_le _, fun i hi => (nomatch hi)⟩, z 49 54 (by omega)⟩, fun x hx => (nomatch hx), fun a ha => (h.2.2.2.2.1 a ha).2.2⟩
  refine ⟨[], fun _ => [], z2 0 1 1 (by omega), Nat.zero_le _, fun i hi => (nomatch hi), fun k hk => ⟨z2 0 4 k (by omega), Nat.zero_le _, Or.inl rfl⟩, ?_⟩
  refine ⟨z2 0 0 11 (by omega), z2 0 0 12 (by omega), Nat.zero_le _, Nat.zero_le _, (fun j u hj => (nomatch hj)), rfl, ⟨zl 23 13 (by omega), z2 0 0 14 (by omega)⟩, ⟨z2 0 12 0 (by omega), Nat.zero_le _, (fun n a hn => (nomatch hn)), fun _ n hn => rfl⟩, ⟨z2 0 12 1 (by omega), Nat.zero_le _, (fun n a hn => (nomatch hn)), fun _ n hn => rfl⟩, fun j h1 h2 => rfl⟩
set_option maxRecDepth 20000 in
theorem lx_start (hn : S0.2.2.2.2.1 = X) (hb : b < X) (hsh : S0.1.1 b = some (.inr (.int, L))) (hL : L ≤ 3072) (hx : tx (E, X, S0.1, S0.2.1)) (hm : sm_mv (E, X, S0.1, S0.2.1)) : ∃ S', lx_ex (sm_ev E X false 16) 0 (sm_entry 8 [.ref b]) [] S0 = some (.inl (some (.int 1)), S') ∧ sm_n S' ≤ X + 700 ∧ sm_u S' ≤ S0.2.2.2.2.2 + 1010000 := by
  obtain ⟨A0, A1, c0, c1, a0, a1, au, hc⟩ := cb_two
  have b0 : cb_B X S0 (0, 0, []) S0 := ⟨hn, rfl, fun i hi => absurd hi (Nat.not_lt_zero i), fun r hr => (nomatch hr), fun a _ => ⟨rfl, rfl, rfl⟩, fun i j hi => absurd hi (Nat.not_lt_zero i), rfl⟩
  obtain ⟨b1, -⟩ := b0.new (sh := .inl 0) (sl := 5) (by decide)
  obtain ⟨S2, g2, b2⟩ := cb_s (E := E) (B := X) (Nat.le_refl X) _ _ _ _ _ _ _ _ _ c0 b1
  obtain ⟨b3, n3⟩ := b2.new (sh := .inl 12) (sl := 69) (by rw [a0]; decide)
  obtain ⟨S4, g4, b4⟩ := cb_s (E := E) (B := X) (Nat.le_refl X) _ _ _ _ _ _ _ _ _ c1 b3
  obtain ⟨b5, n5⟩ := b4.new (sh := .inr (.long, 1)) (sl := 1) (by rw [a1]; decide)
  rw [a0] at n3
  rw [a1] at n5
  have e2 : sm_ev E X false 16 0 [.ref X] (sm_new S0 (.inl 0) 5) = some (.inl none, S2) := by
    rw [nx_fe (m := 1) rfl rfl]
    exact g2
  have e4 : sm_ev E X false 16 152 [.ref (X + 49)] (sm_new S2 (.inl 12) 69) = some (.inl none, S4) := by
    rw [nx_fe (m := 1) rfl rfl]
    exact g4
  have hA : (A1.1 + 1, A1.2.1 + 1, A1.2.2).1 = 90 := by show A1.1 + 1 = 90; omega
  have hj := cb_JK (E := E) b5 hA hc hx hm
  have lh : LH (E, X, (sm_new S4 (.inr (.long, 1)) 1).1, S0.2.1) X b L (sm_new S4 (.inr (.long, 1)) 1).2 := ⟨hj.low.1, hj.low.2, hb, (b5.2.2.2.2.1 b hb).1.trans hsh, hL⟩
  obtain ⟨S', s1, s2, s3⟩ := lx_loop 512 0 _ _ _ _ sm_junk sm_junk sm_junk lh hj (Nat.zero_le _) (by omega)
  have u1 : (sm_new S4 (.inr (.long, 1)) 1).2.2.2.2.1 = X + 90 := by rw [b5.1]; show X + (A1.1 + 1) = _; omega
  have u2 : (sm_new S4 (.inr (.long, 1)) 1).2.2.2.2.2 = S0.2.2.2.2.2 + (A1.2.1 + 1) := b5.2.1
  refine ⟨S', ?_, by omega, by omega⟩
  refine Eq.trans (lx_N lx_za 0 rfl (by decide) lxN_8 (by decide)) ?_
  rw [hn]
  refine Eq.trans (lx_p (pc' := 4) (lv' := [.ref b, sm_junk, sm_junk, sm_junk, sm_junk, sm_junk, sm_junk, sm_junk]) (st' := [.ref X, .ref X]) lx_za 1 1 rfl) ?_
  refine Eq.trans (lx_I lx_za 2 rfl lxk_71 lxi_0 lxn_0 rfl rfl rfl rfl e2) ?_
  refine Eq.trans (lx_p (pc' := 8) (lv' := [.ref b, .ref X, sm_junk, sm_junk, sm_junk, sm_junk, sm_junk, sm_junk]) (st' := []) lx_za 3 1 rfl) ?_
  refine Eq.trans (lx_N lx_za 4 rfl (by decide) lxN_72 (by decide)) ?_
  rw [n3]
  refine Eq.trans (lx_p (pc' := 12) (lv' := [.ref b, .ref X, sm_junk, sm_junk, sm_junk, sm_junk, sm_junk, sm_junk]) (st' := [.ref (X + 49), .ref (X + 49)]) lx_za 5 1 rfl) ?_
  refine Eq.trans (lx_I lx_za 6 rfl lxk_74 lxi_152 lxn_152 rfl rfl rfl rfl e4) ?_
  refine Eq.trans (lx_p (pc' := 17) (lv' := [.ref b, .ref X, .ref (X + 49), sm_junk, sm_junk, sm_junk, sm_junk, sm_junk]) (st' := [.int (ni 1)]) lx_za 7 2 rfl) ?_
  refine Eq.trans (lx_NA lx_za 9 rfl (by decide) (by decide)) ?_
  rw [n5, show (ni 1).toNatClampNeg = 1 from by decide]
  refine Eq.trans (lx_p (pc' := 23) (lv' := lw_v b X 0 sm_junk sm_junk sm_junk) (st' := []) lx_za 10 3 rfl) ?_
  exact s1
end LXB
