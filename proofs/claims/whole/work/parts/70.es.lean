section CMH
variable {C : sm_K} {X t N : Nat} {T : Nat → Int32} {Q : (Option Value ⊕ Nat) → sm_D → Prop}
/-- what was there of earlier entities is there -/
def OLD (t i tot : Nat) (D E : sm_D) (σ σ' : Nat → List Int32) : Prop := (∀ a j, t + 5 ≤ a → a ≤ t + 10 → j < i → E.1 a j = D.1 a j) ∧ (∀ k, k < tot → E.1 (t + 11) k = D.1 (t + 11) k) ∧ ∀ k, k < 2 * tot ∨ (400 ≤ k ∧ k < 400 + 2 * i) ∨ (480 ≤ k ∧ k < 480 + 12 * i) ∨ (1020 ≤ k ∧ k < 1020 + i) → σ' k = σ k
theorem EN_old {i tot j tb : Nat} {D E : sm_D} {σ σ' : Nat → List Int32} {u : md_E} (h : EN T t D σ j tb u) (hj : j < i) (htb : tb + u.2.1.length ≤ tot) (ho : OLD t i tot D E σ σ') : EN T t E σ' j tb u := by
  obtain ⟨o1, o2, o3⟩ := ho
  obtain ⟨a1, ⟨b1, b2, b3, b4, b5⟩, ⟨c1, c2, c3, c4, c5, c6⟩, d1, d2⟩ := h
  have lt : ∀ {m : Nat} {h : md_F}, u.2.1[m]? = some h → m < u.2.1.length := fun {m h} hm => by
    rcases Nat.lt_or_ge m u.2.1.length with z | z
    · exact z
    · rw [List.getElem?_eq_none z] at hm; cases hm
  refine ⟨(o1 _ _ (by omega) (by omega) hj).trans a1, ⟨(o1 _ _ (by omega) (by omega) hj).trans b1, (o1 _ _ (by omega) (by omega) hj).trans b2, b3, fun m h hm => ?_, fun m h hm => ?_⟩, ⟨(o3 _ (by omega)).trans c1, (o3 _ (by omega)).trans c2, fun m q hm => ?_, c4, (o1 _ _ (by omega) (by omega) hj).trans c5, (o1 _ _ (by omega) (by omega) hj).trans c6⟩, (o1 _ _ (by omega) (by omega) hj).trans d1, (o3 _ (by omega)).trans d2⟩
  · have := lt hm
    rw [o2 _ (by omega)]
    exact b4 m h hm
  · have := lt hm
    rw [o3 _ (by omega), o3 _ (by omega)]
    exact b5 m h hm
  · have hm6 : m < 6 := by
      rcases Nat.lt_or_ge m u.2.2.1.2.2.length with z | z
      · omega
      · rw [List.getElem?_eq_none z] at hm; cases hm
    obtain ⟨p1, p2, p3, p4⟩ := c3 m q hm
    exact ⟨(o3 _ (by omega)).trans p1, (o3 _ (by omega)).trans p2, p3, p4⟩
theorem MG_new {m : md_M} {D E : sm_D} {σ σ' : Nat → List Int32} {u : md_E} {r : List Int32 × (Int × Int) × md_A} (h : MG T t D σ m) (hi : m.1.length < 40) (ho : OLD t m.1.length m.tot D E σ σ') (hu : EN T t E σ' m.1.length m.tot u) (h11 : E.1 t 11 = ni (m.1.length + 1)) (h12 : E.1 t 12 = ni (m.tot + u.2.1.length)) (htot : m.tot + u.2.1.length ≤ 200) (hs : σ' 1060 = r.1) (hd : E.2.1 t 13 = Int64.ofInt r.2.1.1 ∧ E.1 t 14 = Int32.ofInt r.2.1.2) (h5 : TXa t 5 E σ' (r.2.2 false)) (h6 : TXa t 6 E σ' (r.2.2 true)) (hf : ∀ j, m.1.length + 1 ≤ j → j < 40 → σ' (1020 + j) = []) : MG T t E σ' (m.1 ++ [u], r) := by
  have hlen : (m.1 ++ [u]).length = m.1.length + 1 := by rw [List.length_append]; rfl
  have htt : md_M.tot ((m.1 ++ [u], r) : md_M) = m.tot + u.2.1.length := by
    unfold md_M.tot
    rw [List.map_append, List.sum_append]
    simp
  refine ⟨by rw [hlen]; exact h11, by rw [htt]; exact h12, by rw [hlen]; omega, by rw [htt]; exact htot, fun j v hj => ?_, hs, hd, h5, h6, fun j hj => hf j (by rw [hlen] at hj; exact hj)⟩
  dsimp only at hj ⊢
  rcases Nat.lt_or_ge j m.1.length with hlt | hge
  · rw [List.getElem?_append_left hlt] at hj
    have e1 : md_tb (m.1 ++ [u]) j = md_tb m.1 j := by
      unfold md_tb; rw [List.take_append_of_le_length (by omega)]
    rw [e1]
    exact EN_old (h.2.2.2.2.1 j v hj) hlt (md_tb_get hj) ho
  · rw [List.getElem?_append_right hge] at hj
    have h0 : j - m.1.length = 0 := by
      rcases Nat.eq_zero_or_pos (j - m.1.length) with h0 | h0
      · exact h0
      · rw [List.getElem?_eq_none (by rw [List.length_singleton]; omega)] at hj; cases hj
    rw [h0] at hj
    cases hj
    have en : j = m.1.length := by omega
    subst en
    have e1 : md_tb (m.1 ++ [u]) m.1.length = m.tot := by
      unfold md_tb md_M.tot
      rw [List.take_append_of_le_length (Nat.le_refl _), List.take_length]
    rw [e1]
    exact hu
/-- the heap behind a new entity -/
def D126 (t i tot : Nat) (par : Int32) (D : sm_D) : sm_D := sm_dI (sm_dI (sm_dI (sm_dI (sm_dI (sm_dI (sm_dI D (t + 5) i par) (t + 6) i (ni tot)) (t + 7) i (ni 0)) (t + 8) i (ni 0)) (t + 9) i (ni 0)) (t + 10) i (md_b false)) t 11 (ni (i + 1))
theorem c126 {D : sm_D} (ht : t = X + 23 ∨ t = X + 36) (tr : sm_tree C t) {i tot : Nat} {par : Int32} {f g : Nat → Int32} {T0 : Nat → Int32} {e p : Nat} {pl : List Int32} (hi : i < 40) (h11 : D.1 t 11 = ni i) (h12 : D.1 t 12 = ni tot) : sm_fe C 126 [.ref t, .int par] (cs X t T0 e (ts t D f g) p pl) = some (.inl none, cs X t T0 e (ts t (D126 t i tot par D) f g) p pl) := by
  have r11 : (cs X t T0 e (ts t D f g) p pl).1 t 11 = ni i := by rw [cs_o (by omega) (by omega) (by omega), ts_o (by omega) (by omega), h11]
  have r12 : (cs X t T0 e (ts t D f g) p pl).1 t 12 = ni tot := by rw [cs_o (by omega) (by omega) (by omega), ts_o (by omega) (by omega), h12]
  apply sw_eq
  refine sw_ge (f126 tr) ?_
  have u12 : ∀ (v : Int32), sm_up (cs X t T0 e (ts t D f g) p pl).1 (t + 5) i v t 12 = ni tot := fun v => by rw [up_ne (by omega), r12]
  simp (disch := omega) only [sw_ite, r11, ni_lt, sw_some, sw_gu, ni_in, ni_nat, u12, nar_b0]
  rw [if_neg (by omega), if_pos hi]
  have e11 : sm_up (sm_up (sm_up (sm_up (sm_up (sm_up (cs X t T0 e (ts t D f g) p pl).1 (t + 5) i par) (t + 6) i (ni tot)) (t + 7) i (ni 0)) (t + 8) i (ni 0)) (t + 9) i (ni 0)) (t + 10) i (ni 0) t 11 = ni i := by
    rw [up_ne (by omega), up_ne (by omega), up_ne (by omega), up_ne (by omega), up_ne (by omega), up_ne (by omega), r11]
  refine ⟨decide_eq_true hi, decide_eq_true hi, decide_eq_true hi, decide_eq_true hi, decide_eq_true hi, decide_eq_true hi, ?_⟩
  rw [e11, ni_add]
  rw [dI_cs (by omega) (by omega) (by omega), dI_ts (by omega) (by omega), dI_cs (by omega) (by omega) (by omega), dI_ts (by omega) (by omega), dI_cs (by omega) (by omega) (by omega), dI_ts (by omega) (by omega), dI_cs (by omega) (by omega) (by omega), dI_ts (by omega) (by omega), dI_cs (by omega) (by omega) (by omega), dI_ts (by omega) (by omega), dI_cs (by omega) (by omega) (by omega), dI_ts (by omega) (by omega), dI_cs (by omega) (by omega) (by omega), dI_ts (by omega) (by omega)]
  rfl
theorem D126_o {D : sm_D} {i tot a j : Nat} {par : Int32} (h1 : ¬ (t + 5 ≤ a ∧ a ≤ t + 10 ∧ j = i)) (h2 : ¬ (a = t ∧ j = 11)) : (D126 t i tot par D).1 a j = D.1 a j := by
  unfold D126
  rw [dI_ne (by omega), dI_ne (by omega), dI_ne (by omega), dI_ne (by omega), dI_ne (by omega), dI_ne (by omega), dI_ne (by omega)]
theorem D126_cF {D : sm_D} {i tot : Nat} {par : Int32} : cF X t D (D126 t i tot par D) := by
  refine ⟨rfl, fun a ha => ?_, fun _ _ => rfl⟩
  funext j
  unfold cR at ha
  exact D126_o (by omega) (by omega)
theorem D126_cH {D : sm_D} {i tot : Nat} {par : Int32} (h : cH C X t T N D) : cH C X t T N (D126 t i tot par D) := by
  obtain ⟨h1, h2, h3, h4, h5, h6, h7⟩ := h
  exact ⟨h1, h2, h3, h4, by rw [D126_o (by omega) (by omega)]; exact h5, fun i hi => by rw [D126_o (by omega) (by omega)]; exact h6 i hi, h7⟩
end CMH
