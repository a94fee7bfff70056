/-! ===== a message read by the class, as a relation ===== -/
section CRL
variable {C : sm_K} {X t : Nat} {D : sm_D} {Q : (Option Value ⊕ Nat) → sm_D → Prop} {F : List Int32}
theorem k48 (hM : sm_mv C) (hX : sm_Lay C X) (ht : t = X + 23 ∨ t = X + 36) (hx : tx C) (hF : CB X F D)
    (hok : ∀ m, md_read (md_nth F) F.length = .ok m → ∀ E, cF X t D E → TR (md_nth F) t E m → 1 ≤ m.1.length → Q (.inl none) E)
    (her : ∀ x z D', md_read (md_nth F) F.length = .error x → cT X t D x z D' → Q (.inr z) D') :
    sw (sm_fe C 48 [.ref (X + 4), .ref t] D) Q := by
  refine c48 hM (cH_of hX ht hx hF) (fun m hm D' f' g' pl' σ' T0' e' p' h1 h2 h3 h4 h5 h6 => ?_) her
  have e1 : ∀ a i, a ≠ X + 1 → a ≠ t + 1 → a ≠ t + 2 → a ≠ t + 3 → a ≠ t + 4 → (cs X t T0' e' (ts t D' f' g') p' pl').1 a i = D'.1 a i := fun a i q1 q2 q3 q4 q5 => by rw [cs_o q1 q2 q3, ts_o q4 q5]
  have hcF : cF X t D (cs X t T0' e' (ts t D' f' g') p' pl') := by
    refine ⟨h1.1, fun a ha => ?_, h1.2.2⟩
    rw [← h1.2.1 a ha]
    funext i
    unfold cR at ha
    exact e1 a i (by omega) (by omega) (by omega) (by omega) (by omega)
  refine hok m hm _ hcF ⟨pl', σ', ?_, h5, fun i hi => ?_, ?_, ?_⟩ h6
  · unfold cs; dsimp only; rw [if_neg (by omega), if_pos rfl, if_pos rfl]
  · unfold cs; dsimp only; rw [if_neg (by omega), if_neg (by omega), if_pos rfl, if_pos hi]
  · have a3 : (cs X t T0' e' (ts t D' f' g') p' pl').1 (t + 3) = f' := by
      funext i
      rw [cs_o (by omega) (by omega) (by omega)]
      unfold ts
      dsimp only
      rw [if_pos rfl]
    have a4 : (cs X t T0' e' (ts t D' f' g') p' pl').1 (t + 4) = g' := by
      funext i
      rw [cs_o (by omega) (by omega) (by omega)]
      unfold ts
      dsimp only
      rw [if_neg (by omega), if_pos rfl]
    rw [a3, a4]
    exact h4
  · obtain ⟨b1, b2, b3, b4, b5, b6, b7, b8, b9, b10⟩ := h3
    refine ⟨by rw [e1 _ _ (by omega) (by omega) (by omega) (by omega) (by omega)]; exact b1, by rw [e1 _ _ (by omega) (by omega) (by omega) (by omega) (by omega)]; exact b2, b3, b4, fun j u hj => ?_, b6, ⟨b7.1, by rw [e1 _ _ (by omega) (by omega) (by omega) (by omega) (by omega)]; exact b7.2⟩, TXa_fr (Or.inl rfl) b8 (e1 _ _ (by omega) (by omega) (by omega) (by omega) (by omega)) (fun _ _ _ => rfl), TXa_fr (Or.inr rfl) b9 (e1 _ _ (by omega) (by omega) (by omega) (by omega) (by omega)) (fun _ _ _ => rfl), b10⟩
    obtain ⟨a1, ⟨c1, c2, c3, c4, c5⟩, ⟨d1, d2, d3, d4, d5, d6⟩, f1, f2⟩ := b5 j u hj
    have r : ∀ a i, t + 5 ≤ a → (cs X t T0' e' (ts t D' f' g') p' pl').1 a i = D'.1 a i := fun a i ha => e1 a i (by omega) (by omega) (by omega) (by omega) (by omega)
    exact ⟨by rw [r _ _ (by omega)]; exact a1, ⟨by rw [r _ _ (by omega)]; exact c1, by rw [r _ _ (by omega)]; exact c2, c3, fun q h hq => by rw [r _ _ (by omega)]; exact c4 q h hq, c5⟩, ⟨d1, d2, d3, d4, by rw [r _ _ (by omega)]; exact d5, by rw [r _ _ (by omega)]; exact d6⟩, by rw [r _ _ (by omega)]; exact f1, f2⟩
end CRL
