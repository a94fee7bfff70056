section CSN
variable {C : sm_K} {X t N : Nat} {T : Nat → Int32} {D E : sm_D} {Q : (Option Value ⊕ Nat) → sm_D → Prop} {m : md_M} {F : List Int32}
theorem cH_of (hX : sm_Lay C X) (ht : t = X + 23 ∨ t = X + 36) (hx : tx C) (hF : CB X F D) : cH C X t (md_nth F) F.length D := ⟨hX, ht, hx, hF.2.1, hF.1, hF.2.2.1, fun i hi => hF.2.2.2.nth hi⟩
theorem k25 (hX : sm_Lay C X) (ht : t = X + 23 ∨ t = X + 36) (hx : tx C) (hl : C.2.2.1.2 X 3 = .ref t) (hF : CB X F D) (hT : TR T t D m) (hB : 1 ≤ m.1.length → md_pk m.1 ∧ (md_write T m).length ≤ 20000)
    (hok : 1 ≤ m.1.length → Q (.inl (some (.int (ni (md_write T m).length)))) (ws X D (md_write T m)))
    (her : m.1.length = 0 → Q (.inr D.2.2.2.1) (sm_thr D 0)) :
    sw (sm_fe C 25 [.ref X] D) Q := by
  obtain ⟨pl, σ, p1, p2, p3, p4, p5⟩ := hT
  have tr := (sm_tree_of hX ht).1
  have h40 := p5.2.2.1
  refine sw_ge (f25 hX tr hl) ?_
  rw [sw_ite, p5.1]
  rcases Nat.eq_zero_or_pos m.1.length with z | z
  · rw [if_pos (by rw [z]), sw_some]
    exact her z
  · obtain ⟨b1, b2⟩ := hB z
    rw [if_neg (by rw [ni_inj (by omega) (by omega)]; omega), sw_bv, w110 ⟨cH_of hX ht hx hF, p1, p2, p3, p4, p5⟩ b1 b2, sw_some]
    simp only [sb_v, sw_some]
    have e : (ws X D (md_write T m)).1 (X + 21) 1 = ni (md_write T m).length := by unfold ws; dsimp only; rw [if_pos rfl, if_pos rfl]
    rw [e]
    exact hok z
theorem CWr_ws {o : List Int32} (h : o.length ≤ 20000) : CWr X o (ws X D o) := by
  refine ⟨by unfold ws; dsimp only; rw [if_pos rfl, if_pos rfl], h, fun i hi => ?_⟩
  unfold ws
  dsimp only
  rw [if_neg (by omega), if_pos rfl, if_pos hi]
end CSN
