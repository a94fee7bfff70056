/-! ===== behind the change of places ===== -/
def sm_swC (C : sm_K) (X t t' : Nat) : sm_K := (C.1, C.2.1, sm_swz C.2.2.1 X t t', C.2.2.2)
section SWC
variable {C : sm_K} {X t t' : Nat}
theorem sm_Lay_sw (h : sm_Lay C X) : sm_Lay (sm_swC C X t t') X := by
  obtain ⟨h1, h2, h3⟩ := h
  refine ⟨h1, h2, fun i f j hj => ?_⟩
  show sm_up (sm_up C.2.2.1.2 X 3 (.ref t)) X 4 (.ref t') (X + i) f = .ref (X + j)
  have g : ∀ k, (k = 3 ∨ k = 4) → ¬ (X + i = X ∧ f = k) := by
    rintro k hk ⟨e1, e2⟩
    have e3 : i = 0 := by omega
    subst e3 e2
    rcases hk with rfl | rfl
    · have e4 : (sm_lrf.getD 0 []).getD 3 none = none := by decide
      rw [e4] at hj; cases hj
    · have e4 : (sm_lrf.getD 0 []).getD 4 none = none := by decide
      rw [e4] at hj; cases hj
  rw [up_ne (g 4 (Or.inr rfl)), up_ne (g 3 (Or.inl rfl))]
  exact h3 i f j hj
theorem sm_sr_sw {s w n : Nat} (hX : C.2.1 ≤ X) (h : sm_sr C s w n) : sm_sr (sm_swC C X t t') s w n := by
  obtain ⟨h1, h2, h3, h4, h5, h6⟩ := h
  refine ⟨h1, ?_, h3, h4, h5, h6⟩
  show sm_up (sm_up C.2.2.1.2 X 3 (.ref t)) X 4 (.ref t') s 0 = .ref w
  rw [up_ne (by omega), up_ne (by omega)]
  exact h2
theorem tx_sw (hX : sm_Lay C X) (h : tx C) : tx (sm_swC C X t t') := by
  refine ⟨fun j hj => ?_, h.2⟩
  obtain ⟨w, h1, h2⟩ := h.1 j hj
  exact ⟨w, sm_sr_sw hX.1 h1, h2⟩
theorem sw_3 : (sm_swC C X t t').2.2.1.2 X 3 = .ref t := by
  show sm_up (sm_up C.2.2.1.2 X 3 (.ref t)) X 4 (.ref t') X 3 = .ref t
  rw [up_ne (by omega), up_eq]
theorem sw_4 : (sm_swC C X t t').2.2.1.2 X 4 = .ref t' := up_eq
end SWC
