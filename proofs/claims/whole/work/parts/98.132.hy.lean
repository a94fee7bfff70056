/-! ===== the class: its tape and what it wrote ===== -/
def CB (X : Nat) (F : List Int32) (D : sm_D) : Prop := D.1 (X + 2) 1 = ni F.length ∧ F.length ≤ 8000 ∧ (∀ i, i < F.length → D.1 (X + 3) i = md_nth F i) ∧ mB F
def CWr (X : Nat) (W : List Int32) (D : sm_D) : Prop := D.1 (X + 21) 1 = ni W.length ∧ W.length ≤ 20000 ∧ ∀ i, i < W.length → D.1 (X + 22) i = md_nth W i
def sCB (X c j : Nat) : Prop := (c = X + 2 ∧ j = 1) ∨ c = X + 3
section CSM
variable {C : sm_K} {X t N : Nat} {T : Nat → Int32} {D E : sm_D} {Q : (Option Value ⊕ Nat) → sm_D → Prop} {m : md_M} {F : List Int32}
theorem row_t (hX : sm_Lay C X) : sm_row C (X + 2) 8000 := sm_row_of hX 2 rfl rfl rfl
theorem k44 (hX : sm_Lay C X) (hF : CB X F D) {c : Int32} (hc : ∃ n, n < 256 ∧ c = ni n) (hl : F.length < 8000) (hq : ∀ E, fr (sCB X) D E → CB X (F ++ [c]) E → Q (.inl none) E) : sw (sm_fe C 44 [.ref (X + 2), .int c] D) Q := by
  obtain ⟨f1, f2, f3, f4⟩ := hF
  refine sw_ge (f44 (row_t hX)) ?_
  have e2 : X + 2 + 1 = X + 3 := rfl
  have e3 : sm_up D.1 (X + 3) F.length c (X + 2) 1 = ni F.length := by rw [up_ne (by omega), f1]
  simp (disch := omega) only [sw_ite, sw_some, sw_gu, f1, e2, ni_lt, ni_le, ni_in, ni_nat, e3, ni_add]
  rw [if_neg (by omega), if_neg (by omega)]
  refine ⟨decide_eq_true hl, ?_⟩
  have hlen : (F ++ [c]).length = F.length + 1 := by rw [List.length_append]; rfl
  refine hq (sm_dI (sm_dI D (X + 3) F.length c) (X + 2) 1 (ni (F.length + 1))) ((fr.refl.dI (by unfold sCB; omega)).dI (by unfold sCB; omega)) ⟨by rw [dI_eq, hlen], by rw [hlen]; omega, fun i hi => ?_, f4.app (mB_one hc)⟩
  rw [hlen] at hi
  rw [dI_ne (by omega)]
  by_cases hi2 : i = F.length
  · subst hi2
    rw [dI_eq, md_nth_app3 (Nat.le_refl _), Nat.sub_self]
    rfl
  · rw [dI_ne (by omega), md_nth_app1 (by omega)]
    exact f3 i (by omega)
def md_b4 (v : Int32) : List Int32 := [md_oy v 24, md_oy v 16, md_oy v 8, md_oy v 0]
theorem md_b20_4 {v1 v2 v3 v4 v5 : Int32} : md_b20 v1 v2 v3 v4 v5 = md_b4 v1 ++ (md_b4 v2 ++ (md_b4 v3 ++ (md_b4 v4 ++ md_b4 v5))) := rfl
theorem k40 (hX : sm_Lay C X) (hF : CB X F D) {v : Int32} (hl : F.length + 4 ≤ 8000) (hq : ∀ E, fr (sCB X) D E → CB X (F ++ md_b4 v) E → Q (.inl none) E) : sw (sm_fe C 40 [.ref (X + 1), .int v] D) Q := by
  have l1 : ∀ (c : Int32) (F : List Int32), (F ++ [c]).length = F.length + 1 := fun c F => by rw [List.length_append]; rfl
  have step : ∀ (k : Nat) (D : sm_D) (F : List Int32), k < 100 → CB X F D → F.length < 8000 → (∀ E, fr (sCB X) D E → CB X (F ++ [md_oy v k]) E → sw (sm_fx C 40 3 [.ref (X + 1), .int v, .int (ni k - ni 8)] [] E) Q) → sw (sm_fx C 40 3 [.ref (X + 1), .int v, .int (ni k)] [] D) Q := by
    intro k D F hk hF hl hq
    refine sw_ge (n40_3 hX) ?_
    simp (disch := omega) only [sw_ite, ni_lt, sw_bv]
    rw [if_neg (by omega)]
    refine k44 hX hF (md_oy_B v k) hl (fun E hf hc => ?_)
    simp only [sb_v]
    exact hq E hf hc
  refine sw_ge (f40 hX) ?_
  refine step 24 D F (by omega) hF (by omega) (fun E1 f1 c1 => ?_)
  rw [ni_sub (by omega)]
  refine step 16 E1 _ (by omega) c1 (by rw [l1]; omega) (fun E2 f2 c2 => ?_)
  rw [ni_sub (by omega)]
  refine step 8 E2 _ (by omega) c2 (by rw [l1, l1]; omega) (fun E3 f3 c3 => ?_)
  rw [ni_sub (by omega)]
  refine step 0 E3 _ (by omega) c3 (by rw [l1, l1, l1]; omega) (fun E4 f4 c4 => ?_)
  refine sw_ge (n40_3 hX) ?_
  rw [sw_ite, if_pos (by decide), sw_some]
  refine hq E4 (((f1.trans f2).trans f3).trans f4) ?_
  simp only [List.append_assoc] at c4
  exact c4
theorem k7 (hX : sm_Lay C X) (hF : CB X F D) {v1 v2 v3 v4 v5 : Int32}
    (hok : F.length + 20 ≤ 8000 → ∀ E, fr (sCB X) D E → CB X (F ++ md_b20 v1 v2 v3 v4 v5) E → Q (.inl (some (.int (ni (F.length + 20))))) E)
    (her : ¬ F.length + 20 ≤ 8000 → Q (.inr D.2.2.2.1) (sm_thr D 0)) :
    sw (sm_fe C 7 [.ref X, .int v1, .int v2, .int v3, .int v4, .int v5] D) Q := by
  have h2 := hF.2.1
  refine sw_ge (f7 hX) ?_
  simp (disch := omega) only [sw_ite, hF.1, ni_add, ni_le, sw_some, sw_bv]
  have l4 : ∀ (v : Int32) (F : List Int32), (F ++ md_b4 v).length = F.length + 4 := fun v F => by rw [List.length_append]; rfl
  by_cases h8 : F.length + 20 ≤ 8000
  · rw [if_pos h8]
    refine k40 hX hF (by omega) (fun E1 f1 c1 => ?_)
    simp only [sb_v, sw_bv]
    refine k40 hX c1 (by rw [l4]; omega) (fun E2 f2 c2 => ?_)
    simp only [sb_v, sw_bv]
    refine k40 hX c2 (by rw [l4, l4]; omega) (fun E3 f3 c3 => ?_)
    simp only [sb_v, sw_bv]
    refine k40 hX c3 (by rw [l4, l4, l4]; omega) (fun E4 f4 c4 => ?_)
    simp only [sb_v, sw_bv]
    refine k40 hX c4 (by rw [l4, l4, l4, l4]; omega) (fun E5 f5 c5 => ?_)
    simp only [sb_v, sw_some]
    have hc : CB X (F ++ md_b20 v1 v2 v3 v4 v5) E5 := by
      rw [md_b20_4]
      simp only [List.append_assoc] at c5
      exact c5
    have e : E5.1 (X + 2) 1 = ni (F.length + 20) := by rw [hc.1, List.length_append, md_b20_len]
    rw [e]
    exact hok h8 E5 ((((f1.trans f2).trans f3).trans f4).trans f5) hc
  · rw [if_neg h8]
    exact her h8
theorem CB.take (h : CB X F D) {k : Nat} (hk : k ≤ F.length) : CB X (F.take k) (sm_dI D (X + 2) 1 (ni k)) := by
  obtain ⟨f1, f2, f3, f4⟩ := h
  have hl : (F.take k).length = k := by rw [List.length_take]; omega
  refine ⟨by rw [hl, dI_eq], by omega, fun i hi => ?_, fun x hx => f4 x (List.mem_of_mem_take hx)⟩
  rw [hl] at hi
  rw [dI_ne (by omega), f3 i (by omega)]
  unfold md_nth
  rw [List.getD_eq_getElem?_getD, List.getD_eq_getElem?_getD, List.getElem?_take_of_lt hi]
theorem k8 (hX : sm_Lay C X) (hF : CB X F D) {v : Int32}
    (hok : ∀ k, ac_in v (F.length + 1) = some k → ∀ E, fr (sCB X) D E → CB X (F.take k) E → Q (.inl none) E)
    (her : ac_in v (F.length + 1) = none → Q (.inr D.2.2.2.1) (sm_thr D 1)) :
    sw (sm_fe C 8 [.ref X, .int v] D) Q := by
  have h2 := hF.2.1
  have bad : ac_in v (F.length + 1) = none → sw (sm_fx C 8 18 [sm_junk, sm_junk] [] D) Q := by
    intro hn
    refine sw_ge (n8_18 hX) ?_
    rw [sw_some]
    exact her hn
  refine sw_ge (f8 hX) ?_
  cases h1 : ac_in v (F.length + 1) with
  | none =>
    have := ac_in_none h1
    rw [sw_ite]
    by_cases h0 : v < ni 0
    · rw [if_pos h0]; exact bad h1
    · rw [if_neg h0, sw_ite, hF.1, if_neg (fun z => by
        rw [Int32.lt_iff_toInt_lt, ni_toInt (by omega)] at h0
        rw [Int32.le_iff_toInt_le, ni_toInt (by omega)] at z
        omega)]
      exact bad h1
  | some k =>
    obtain ⟨hk, rfl⟩ := ac_in_some h1
    simp (disch := omega) only [sw_ite, ni_lt, hF.1, ni_le, sw_some]
    rw [if_neg (by omega), if_pos (by omega)]
    exact hok k h1 _ (fr.refl.dI (by unfold sCB; omega)) (hF.take (by omega))
theorem k26 (hX : sm_Lay C X) {W : List Int32} (hW : CWr X W D) {v : Int32} : sm_fe C 26 [.ref X, .int v] D = rI D (ac_out W v) := by
  obtain ⟨w1, w2, w3⟩ := hW
  have go : ∀ o : sm_o, sw (sm_fe C 26 [.ref X, .int v] D) (fun w E => (w, E) = o) → sm_fe C 26 [.ref X, .int v] D = some o := fun o ho => by
    obtain ⟨w, E, h1, h2⟩ := ho
    rw [h1, h2]
  unfold ac_out rI
  cases h1 : ac_in v W.length with
  | none =>
    apply go
    refine sw_ge (f26 hX) ?_
    rw [sw_bv, w1, c11 hX (by omega), h1]
    dsimp only
    rw [sw_some]
    exact ⟨sm_tw_thr D 2, rfl⟩
  | some k =>
    obtain ⟨hk, rfl⟩ := ac_in_some h1
    apply go
    refine sw_ge (f26 hX) ?_
    rw [sw_bv, w1, c11 hX (by omega), h1]
    dsimp only
    rw [sw_some]
    simp only [sb_v, sw_bi]
    refine sw_ge (f42 (row_w hX)) ?_
    have e1 : X + 21 + 1 = X + 22 := rfl
    simp (disch := omega) only [sw_ite, ni_lt, w1, ni_le, sw_gu, ni_in, ni_nat, sw_some, e1, w3 k hk]
    rw [if_neg (by omega), if_neg (by omega), if_neg (by omega)]
    refine ⟨decide_eq_true (by omega), ?_⟩
    simp only [sb_i, sw_some]
theorem k27 (hX : sm_Lay C X) {W : List Int32} (hW : CWr X W D) (hB : mB W)
    (hok : W.length ≤ 8000 → ∀ E, fr (sCB X) D E → CB X W E → Q (.inl (some (.int (ni W.length)))) E)
    (her : ¬ W.length ≤ 8000 → Q (.inr D.2.2.2.1) (sm_thr D 0)) :
    sw (sm_fe C 27 [.ref X] D) Q := by
  obtain ⟨w1, w2, w3⟩ := hW
  refine sw_ge (f27 hX) ?_
  simp (disch := omega) only [sw_ite, w1, ni_le, sw_some, sw_bv]
  by_cases h8 : W.length ≤ 8000
  · rw [if_pos h8]
    refine sw_ge (f46 (row_t hX) (row_w hX)) ?_
    rw [sw_bi, w1]
    refine sw_ge f284 ?_
    simp (disch := omega) only [sw_ite, ni_lt, sw_some]
    rw [if_neg (by omega)]
    simp only [sb_i]
    rw [sw_cpy (by omega) (by omega) (by decide) (by decide), sw_some]
    simp only [sb_v, sw_some]
    have e2 : X + 2 + 1 = X + 3 := rfl
    have e22 : X + 21 + 1 = X + 22 := rfl
    rw [e2, e22, up_eq]
    refine hok h8 _ ⟨rfl, fun c j hc => ?_⟩ ⟨up_eq, h8, fun i hi => ?_, hB⟩
    · rw [dI_ne (fun z => hc (by unfold sCB; omega))]
      exact if_neg (fun z => hc (by unfold sCB; omega))
    · rw [dI_ne (by omega)]
      show (if X + 3 = X + 3 ∧ 0 ≤ i ∧ i < 0 + W.length then D.1 (X + 22) (0 + (i - 0)) else _) = _
      rw [if_pos ⟨rfl, Nat.zero_le _, by omega⟩, Nat.zero_add, Nat.sub_zero]
      exact w3 i hi
  · rw [if_neg h8]
    exact her h8
end CSM
