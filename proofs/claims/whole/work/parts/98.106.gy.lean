/-! ===== the reference: the texts of an entity's fields ===== -/
/-- what a field's text must be -/
def FZ (T : Nat → Int32) (N : Nat) (h : md_F) : Prop := h.2.2.1 < h.2.2.2 ∧ h.2.2.2 ≤ N ∧ (∀ p, h.2.2.1 + 1 ≤ p → p < h.2.2.2 → T p = ni 13 → p + 2 < h.2.2.2 ∧ md_bl (T (p + 2)) = true) ∧ (∀ k, h.2.2.1 + 1 ≤ k → k < h.2.2.2 → ∃ n, n < 128 ∧ T k = ni n) ∧ ∀ x ∈ md_chs T h.2.2.2 (md_go T h.2.2.2 (h.2.2.1 + 1)), md_in x 32 126 = true ∨ x = ni 9
def RTy (X i : Nat) (l : List Int32) (W : Bool) (D : sm_D) : Option md_Ty → Prop
  | none => D.1 (X + 61) i = ni 0 ∧ D.1 (X + 56) i = ni 0 ∧ (W = true → SLT l (D.1 (X + 64) (2 * i)) (D.1 (X + 65) (2 * i)) (md_w "text") ∧ SLT l (D.1 (X + 64) (2 * i + 1)) (D.1 (X + 65) (2 * i + 1)) (md_w "plain"))
  | some τ => SLT l (D.1 (X + 64) (2 * i)) (D.1 (X + 65) (2 * i)) τ.1 ∧ SLT l (D.1 (X + 64) (2 * i + 1)) (D.1 (X + 65) (2 * i + 1)) τ.2.1 ∧ RP X i τ.2.2 l D ∧ D.1 (X + 56) i = md_b (md_Ty.multi τ)
def RTX (X i : Nat) (l : List Int32) (W : Bool) (D : sm_D) (x : md_X) : Prop := RTy X i l W D x.1 ∧ (D.1 (X + 57) i = ni x.2.1.1 ∧ x.2.1.1 ≤ 4 ∧ (2 < x.2.1.1 → D.1 (X + 58) i = ni x.2.1.2 ∧ x.2.1.2 ≤ 8000)) ∧ (D.2.1 (X + 49) 38 = Int64.ofInt x.2.2.2.1.1 ∧ D.1 (X + 49) 39 = Int32.ofInt x.2.2.2.1.2) ∧ RA X 0 (x.2.2.2.2 false) l D ∧ RA X 1 (x.2.2.2.2 true) l D
def sTX (X i c j : Nat) : Prop := rsc X c j ∨ (c = X + 49 ∧ (j = 47 ∨ j = 51 ∨ j = 39 ∨ j = 53)) ∨ c = X + 81 ∨ rO X i c j ∨ c = X + 77 ∨ c = X + 78 ∨ c = X + 79
def frT (X i : Nat) (D E : sm_D) : Prop := E.2.2 = D.2.2 ∧ (∀ c j, ¬ sTX X i c j → E.1 c j = D.1 c j) ∧ ∀ c j, ¬ (c = X + 49 ∧ j = 38) → E.2.1 c j = D.2.1 c j
theorem sTy_TX {X i c j : Nat} (h : sTy X i c j) : sTX X i c j := by
  rcases h with h | h | h | h | h
  · exact Or.inl h
  · exact Or.inr (Or.inl ⟨h.1, Or.inl h.2⟩)
  · exact Or.inr (Or.inr (Or.inr (Or.inl (Or.inl h))))
  · exact Or.inr (Or.inr (Or.inr (Or.inl (Or.inr (Or.inl h)))))
  · exact Or.inr (Or.inr (Or.inr (Or.inl (Or.inr (Or.inr ⟨h.1.elim Or.inl (fun g => Or.inr (Or.inr (Or.inr g))), h.2⟩)))))
theorem sCo_TX {X i c j : Nat} (h : sCo X i c j) : sTX X i c j := by
  rcases h with h | h | h
  · exact Or.inl h
  · exact Or.inr (Or.inl ⟨h.1, Or.inl h.2⟩)
  · exact Or.inr (Or.inr (Or.inr (Or.inl (Or.inr (Or.inr ⟨h.1.elim (fun g => Or.inr (Or.inl g)) (fun g => Or.inr (Or.inr (Or.inl g))), h.2⟩)))))
theorem sDa_TX {X i c j : Nat} (h : sDa X c j) : sTX X i c j := by
  rcases h with h | h | h
  · exact Or.inl h
  · exact Or.inr (Or.inl ⟨h.1, h.2.elim Or.inl (fun g => g.elim (fun g => Or.inr (Or.inl g)) (fun g => Or.inr (Or.inr (Or.inl g))))⟩)
  · exact Or.inr (Or.inr (Or.inl h))
theorem sAd_TX {X i wh c j : Nat} (h : sAd X wh c j) : sTX X i c j := by
  rcases h with h | h | h | h | h
  · exact Or.inl h
  · exact Or.inr (Or.inl ⟨h.1, Or.inl h.2⟩)
  · exact Or.inr (Or.inl ⟨h.1, Or.inr (Or.inr (Or.inr h.2))⟩)
  · exact Or.inr (Or.inr (Or.inr (Or.inr (Or.inl h.1))))
  · exact Or.inr (Or.inr (Or.inr (Or.inr (Or.inr h.1))))
section RGZ
variable {C : sm_K} {X N i : Nat} {T : Nat → Int32} {D E F : sm_D} {Q : (Option Value ⊕ Nat) → sm_D → Prop} {l : List Int32} {W : Bool}
theorem frT.refl : frT X i D D := ⟨rfl, fun _ _ _ => rfl, fun _ _ _ => rfl⟩
theorem frT.trans (h : frT X i D E) (g : frT X i E F) : frT X i D F := ⟨g.1.trans h.1, fun c j hc => (g.2.1 c j hc).trans (h.2.1 c j hc), fun c j hc => (g.2.2 c j hc).trans (h.2.2 c j hc)⟩
theorem frT.of {S : Nat → Nat → Prop} (h : fr S D E) (g : ∀ c j, S c j → sTX X i c j) : frT X i D E := ⟨by rw [h.1], fun c j hc => h.2 c j (fun z => hc (g c j z)), fun c j _ => by rw [h.1]⟩
theorem frT.toF (h : frT X i D E) : rF X D E := ⟨h.1, fun c j hc => h.2.1 c j (fun g => hc (by unfold sTX rsc rO at g; unfold rRR; omega)), h.2.2⟩
theorem frT.H (h : frT X i D E) (g : rH C X T N D) : rH C X T N E := ⟨g.1, g.2.1, g.2.2.1, fun k hk => by rw [h.2.1 _ _ (by unfold sTX rsc rO; omega)]; exact g.2.2.2.1 k hk, g.2.2.2.2⟩
theorem RTy.mono {m : List Int32} {o : Option md_Ty} (h : RTy X i l W D o) : RTy X i (l ++ m) W D o := by
  cases o with
  | none => exact ⟨h.1, h.2.1, fun w => ⟨(h.2.2 w).1.mono, (h.2.2 w).2.mono⟩⟩
  | some τ => exact ⟨h.1.mono, h.2.1.mono, h.2.2.1.mono, h.2.2.2⟩
theorem RTy.fr {S : Nat → Nat → Prop} {o : Option md_Ty} (h : RTy X i l W D o) (g : fr S D E) (hS : ∀ c j, S c j → ¬ (((c = X + 61 ∨ c = X + 56) ∧ j = i) ∨ c = X + 64 ∨ c = X + 65 ∨ (X + 66 ≤ c ∧ c ≤ X + 69))) : RTy X i l W E o := by
  have r : ∀ c j, (((c = X + 61 ∨ c = X + 56) ∧ j = i) ∨ c = X + 64 ∨ c = X + 65 ∨ (X + 66 ≤ c ∧ c ≤ X + 69)) → E.1 c j = D.1 c j := fun c j hc => g.2 c j (fun z => hS c j z hc)
  cases o with
  | none => exact ⟨by rw [r _ _ (by omega)]; exact h.1, by rw [r _ _ (by omega)]; exact h.2.1, fun w => ⟨by rw [r _ _ (by omega), r _ _ (by omega)]; exact (h.2.2 w).1, by rw [r _ _ (by omega), r _ _ (by omega)]; exact (h.2.2 w).2⟩⟩
  | some τ =>
    refine ⟨by rw [r _ _ (by omega), r _ _ (by omega)]; exact h.1, by rw [r _ _ (by omega), r _ _ (by omega)]; exact h.2.1, ⟨by rw [r _ _ (by omega)]; exact h.2.2.1.1, h.2.2.1.2.1, fun n w hw => ?_⟩, by rw [r _ _ (by omega)]; exact h.2.2.2⟩
    rw [r _ _ (by omega), r _ _ (by omega), r _ _ (by omega), r _ _ (by omega)]
    exact h.2.2.1.2.2 n w hw
theorem RA.fr {S : Nat → Nat → Prop} {wh : Nat} {as : List (List Int32 × List Int32 × List Int32)} (h : RA X wh as l D) (g : fr S D E) (hS : ∀ c j, S c j → ¬ ((c = X + 77 ∧ j = wh) ∨ ((c = X + 78 ∨ c = X + 79) ∧ 30 * wh ≤ j ∧ j < 30 * wh + 30))) : RA X wh as l E :=
  h.of (fun c j hc => g.2 c j (fun z => hS c j z (by have := h.2.1; omega)))
theorem nTy_A {wh c j : Nat} (h : sTy X i c j) : ¬ ((c = X + 77 ∧ j = wh) ∨ ((c = X + 78 ∨ c = X + 79) ∧ 30 * wh ≤ j ∧ j < 30 * wh + 30)) := by unfold sTy rsc at h; omega
theorem nCo_A {wh c j : Nat} (h : sCo X i c j) : ¬ ((c = X + 77 ∧ j = wh) ∨ ((c = X + 78 ∨ c = X + 79) ∧ 30 * wh ≤ j ∧ j < 30 * wh + 30)) := by unfold sCo rsc at h; omega
theorem nDa_A {wh c j : Nat} (h : sDa X c j) : ¬ ((c = X + 77 ∧ j = wh) ∨ ((c = X + 78 ∨ c = X + 79) ∧ 30 * wh ≤ j ∧ j < 30 * wh + 30)) := by unfold sDa rsc at h; omega
theorem nA0_A1 {c j : Nat} (h : sAd X 0 c j) : ¬ ((c = X + 77 ∧ j = 1) ∨ ((c = X + 78 ∨ c = X + 79) ∧ 30 * 1 ≤ j ∧ j < 30 * 1 + 30)) := by unfold sAd sAb rsc at h; omega
theorem nA1_A0 {c j : Nat} (h : sAd X 1 c j) : ¬ ((c = X + 77 ∧ j = 0) ∨ ((c = X + 78 ∨ c = X + 79) ∧ 30 * 0 ≤ j ∧ j < 30 * 0 + 30)) := by unfold sAd sAb rsc at h; omega
theorem nCo_T {c j : Nat} (h : sCo X i c j) : ¬ (((c = X + 61 ∨ c = X + 56) ∧ j = i) ∨ c = X + 64 ∨ c = X + 65 ∨ (X + 66 ≤ c ∧ c ≤ X + 69)) := by unfold sCo rsc at h; omega
theorem nDa_T {c j : Nat} (h : sDa X c j) : ¬ (((c = X + 61 ∨ c = X + 56) ∧ j = i) ∨ c = X + 64 ∨ c = X + 65 ∨ (X + 66 ≤ c ∧ c ≤ X + 69)) := by unfold sDa rsc at h; omega
theorem nAd_T {wh c j : Nat} (h : sAd X wh c j) : ¬ (((c = X + 61 ∨ c = X + 56) ∧ j = i) ∨ c = X + 64 ∨ c = X + 65 ∨ (X + 66 ≤ c ∧ c ≤ X + 69)) := by unfold sAd sAb rsc at h; omega
theorem nTy_57 : ¬ sTy X i (X + 57) i := by unfold sTy rsc; omega
theorem nTy_58 : ¬ sTy X i (X + 58) i := by unfold sTy rsc; omega
theorem nTy_39 : ¬ sTy X i (X + 49) 39 := by unfold sTy rsc; omega
theorem nCo_39 : ¬ sCo X i (X + 49) 39 := by unfold sCo rsc; omega
theorem nDa_57 : ¬ sDa X (X + 57) i := by unfold sDa rsc; omega
theorem nDa_58 : ¬ sDa X (X + 58) i := by unfold sDa rsc; omega
theorem nAd_57 {wh : Nat} : ¬ sAd X wh (X + 57) i := by unfold sAd sAb rsc; omega
theorem nAd_58 {wh : Nat} : ¬ sAd X wh (X + 58) i := by unfold sAd sAb rsc; omega
theorem nAd_39 {wh : Nat} : ¬ sAd X wh (X + 49) 39 := by unfold sAd sAb rsc; omega
/-- one field's text -/
theorem r174_1 {tot j dep : Nat} {hd : md_F} {x : md_X} {K : sm_D → Option sm_o} (h : rH C X T N D) (h8 : D.1 (X + 49) 8 = sm_k (-1)) (h54 : D.1 (X + 49) 54 = ni 0) (hT : RT X l D) (hi : i < 40) (hR1 : RF1 X (tot + j) hd D) (hg : tot + j < 200) (hz : FZ T N hd) (hk : hd.1 ≤ 6) (hdep : D.1 (X + 62) i = ni dep) (hdl : dep < 1000) (hX : RTX X i l W D x) (h1 : hd.1 = 1 → x.1 = none) (h5 : hd.1 = 5 → x.2.2.2.2 false = []) (h6 : hd.1 = 6 → x.2.2.2.2 true = []) (hl : l.length + 2 * (hd.2.2.2 - hd.2.2.1) ≤ 24000)
    (hok : ∀ y, md_txt1 T dep hd x = .ok y → ∀ E' m, frT X i D E' → RT X (l ++ m) E' → RTX X i (l ++ m) W E' y → (l ++ m).length ≤ l.length + 2 * (hd.2.2.2 - hd.2.2.1) → sw (K E') Q)
    (her : ∀ f, md_txt1 T dep hd x = .error f → ∀ E', rE X D f E' → sw (K E') Q) :
    sw (sm_sw (ni hd.1) 1 [(sm_bv (sm_fe C 175 [.ref (X + 49), .int (ni i), .int (ni (tot + j))] D) K), (sm_bv (sm_fe C 195 [.ref (X + 49), .int (ni i), .int (ni (tot + j))] D) K), (K D), (sm_bv (sm_fe C 196 [.ref (X + 49), .int (ni (tot + j))] D) K), (sm_gu (sm_in_b (ni (tot + j)) 200) (sm_bv (sm_fe C 205 [.ref (X + 49), .int ((ni hd.1) - (ni 5)), .int (ni (tot + j))] D) K)), (sm_gu (sm_in_b (ni (tot + j)) 200) (sm_bv (sm_fe C 205 [.ref (X + 49), .int ((ni hd.1) - (ni 5)), .int (ni (tot + j))] D) K))] (K D)) Q := by
  obtain ⟨z1, z2, z3, z4, z5⟩ := hz
  obtain ⟨r1, r2, r3, r4, r5⟩ := hR1
  obtain ⟨x1, x2, x3, x4, x5⟩ := hX
  have hF : FT X T N (tot + j) hd.2.2.1 hd.2.2.2 D := ⟨hg, r4, r5, z1, z2, z3, z4⟩
  have e0 : ∀ {E' : sm_D}, l ++ ([] : List Int32) = l := List.append_nil _
  unfold md_txt1 at hok her
  simp (disch := omega) only [sm_sw, ni_inj, sw_ite, ni_in, sw_gu, sw_bv]
  by_cases k1 : hd.1 = 1
  · rw [if_pos k1]
    rw [if_pos k1] at hok her
    have hn := h1 k1
    rw [hn] at x1
    refine r175 h h8 hT hF hi x1.1 hdep hdl (by omega) (fun t ht E' m hfr hRT s1 s2 hRP hmu hlen => ?_) (fun f hf E' hE => ?_)
    · simp only [sb_v]
      refine hok (some t, x.2) (by rw [ht]; rfl) E' m (frT.of hfr (fun c j hc => sTy_TX hc)) hRT ⟨⟨s1, s2, hRP, hmu⟩, ⟨by rw [hfr.2 _ _ nTy_57]; exact x2.1, x2.2.1, fun g => by rw [hfr.2 _ _ nTy_58]; exact x2.2.2 g⟩, ⟨by rw [hfr.1]; exact x3.1, by rw [hfr.2 _ _ nTy_39]; exact x3.2⟩, (x4.fr hfr (fun c j hc => nTy_A hc)).mono, (x5.fr hfr (fun c j hc => nTy_A hc)).mono⟩ (by omega)
    · simp only [sb_v]
      exact her f (by rw [hf]; rfl) E' hE
  rw [if_neg k1]
  rw [if_neg k1] at hok her
  by_cases k2 : hd.1 = 2
  · rw [if_pos k2]
    rw [if_pos k2] at hok her
    refine r195 h h8 hT hF hi (by omega) (fun k p1 ht E' hfr hRT e57 e58 hk4 hp1 => ?_) (fun f hf E' hE => ?_)
    · simp only [sb_v]
      refine hok (x.1, (k, p1), x.2.2) (by rw [ht]; rfl) E' [] (frT.of hfr (fun c j hc => sCo_TX hc)) (by rw [List.append_nil]; exact hRT) ?_ (by rw [List.append_nil]; omega)
      rw [List.append_nil]
      have hN := h.2.2.1
      exact ⟨x1.fr hfr (fun c j hc => nCo_T hc), ⟨e57, hk4, fun _ => ⟨e58, by dsimp only; omega⟩⟩, ⟨by rw [hfr.1]; exact x3.1, by rw [hfr.2 _ _ nCo_39]; exact x3.2⟩, x4.fr hfr (fun c j hc => nCo_A hc), x5.fr hfr (fun c j hc => nCo_A hc)⟩
    · simp only [sb_v]
      exact her f (by rw [hf]; rfl) E' hE
  rw [if_neg k2]
  rw [if_neg k2] at hok her
  by_cases k3 : hd.1 = 3
  · rw [if_pos k3]
    rw [if_pos k3] at hok
    exact hok _ rfl D [] frT.refl (by rw [List.append_nil]; exact hT) (by rw [List.append_nil]; exact ⟨x1, x2, x3, x4, x5⟩) (by rw [List.append_nil]; omega)
  rw [if_neg k3]
  rw [if_neg k3] at hok her
  by_cases k4 : hd.1 = 4
  · rw [if_pos k4]
    rw [if_pos k4] at hok her
    refine r196 h h8 hT hF (fun s v ht E' hfr hRT e38 e39 => ?_) (fun f hf E' hE => ?_)
    · simp only [sb_v]
      have hfr' : fr (sDa X) D (E'.1, D.2) := ⟨rfl, hfr.2.2⟩
      refine hok (x.1, x.2.1, x.2.2.1, (s, v), x.2.2.2.2) (by rw [ht]; rfl) E' [] ⟨hfr.1, fun c j hc => hfr.2.2 c j (fun g => hc (sDa_TX g)), hfr.2.1⟩ (by rw [List.append_nil]; exact hRT) ?_ (by rw [List.append_nil]; omega)
      rw [List.append_nil]
      have a1 : RTy X i l W (E'.1, D.2) x.1 := x1.fr hfr' (fun c j hc => nDa_T hc)
      have a4 : RA X 0 (x.2.2.2.2 false) l (E'.1, D.2) := x4.fr hfr' (fun c j hc => nDa_A hc)
      have a5 : RA X 1 (x.2.2.2.2 true) l (E'.1, D.2) := x5.fr hfr' (fun c j hc => nDa_A hc)
      refine ⟨?_, ⟨by rw [hfr.2.2 _ _ nDa_57]; exact x2.1, x2.2.1, fun g => by rw [hfr.2.2 _ _ nDa_58]; exact x2.2.2 g⟩, ⟨e38, e39⟩, a4, a5⟩
      dsimp only
      revert a1
      cases x.1 <;> exact id
    · simp only [sb_v]
      exact her f (by rw [hf]; rfl) E' hE
  rw [if_neg k4]
  rw [if_neg k4] at hok her
  by_cases k5 : hd.1 = 5
  · rw [if_pos k5]
    rw [if_pos (Or.inl k5)] at hok her
    refine ⟨decide_eq_true hg, ?_⟩
    have e5 : ni hd.1 - ni 5 = ni 0 := by rw [k5]; rfl
    rw [e5]
    have hn := h5 k5
    rw [hn] at x4
    refine r205 h h8 h54 hT hF (wh := 0) (by omega) (by rw [x4.1]; rfl) hl (fun as ht E' m hfr hRT hA hlen => ?_) (fun f hf E' hE => ?_)
    · simp only [sb_v]
      refine hok (x.1, x.2.1, x.2.2.1, x.2.2.2.1, fun b => if b = decide (hd.1 = 6) then as else x.2.2.2.2 b) (by rw [ht]; rfl) E' m (frT.of hfr (fun c j hc => sAd_TX hc)) hRT ⟨(x1.fr hfr (fun c j hc => nAd_T hc)).mono, ⟨by rw [hfr.2 _ _ nAd_57]; exact x2.1, x2.2.1, fun g => by rw [hfr.2 _ _ nAd_58]; exact x2.2.2 g⟩, ⟨by rw [hfr.1]; exact x3.1, by rw [hfr.2 _ _ nAd_39]; exact x3.2⟩, ?_, ?_⟩ (by omega)
      · dsimp only
        rw [if_pos (by rw [k5]; rfl)]
        exact hA
      · dsimp only
        rw [if_neg (by rw [k5]; decide)]
        exact (x5.fr hfr (fun c j hc => nA0_A1 hc)).mono
    · simp only [sb_v]
      exact her f (by rw [hf]; rfl) E' hE
  rw [if_neg k5]
  by_cases k6 : hd.1 = 6
  · rw [if_pos k6]
    rw [if_pos (Or.inr k6)] at hok her
    refine ⟨decide_eq_true hg, ?_⟩
    have e5 : ni hd.1 - ni 5 = ni 1 := by rw [k6]; rfl
    rw [e5]
    have hn := h6 k6
    rw [hn] at x5
    refine r205 h h8 h54 hT hF (wh := 1) (by omega) (by rw [x5.1]; rfl) hl (fun as ht E' m hfr hRT hA hlen => ?_) (fun f hf E' hE => ?_)
    · simp only [sb_v]
      refine hok (x.1, x.2.1, x.2.2.1, x.2.2.2.1, fun b => if b = decide (hd.1 = 6) then as else x.2.2.2.2 b) (by rw [ht]; rfl) E' m (frT.of hfr (fun c j hc => sAd_TX hc)) hRT ⟨(x1.fr hfr (fun c j hc => nAd_T hc)).mono, ⟨by rw [hfr.2 _ _ nAd_57]; exact x2.1, x2.2.1, fun g => by rw [hfr.2 _ _ nAd_58]; exact x2.2.2 g⟩, ⟨by rw [hfr.1]; exact x3.1, by rw [hfr.2 _ _ nAd_39]; exact x3.2⟩, ?_, ?_⟩ (by omega)
      · dsimp only
        rw [if_neg (by rw [k6]; decide)]
        exact (x4.fr hfr (fun c j hc => nA1_A0 hc)).mono
      · dsimp only
        rw [if_pos (by rw [k6]; rfl)]
        exact hA
    · simp only [sb_v]
      exact her f (by rw [hf]; rfl) E' hE
  · rw [if_neg k6]
    rw [if_neg (fun g => g.elim k5 k6)] at hok
    exact hok _ rfl D [] frT.refl (by rw [List.append_nil]; exact hT) (by rw [List.append_nil]; exact ⟨x1, x2, x3, x4, x5⟩) (by rw [List.append_nil]; omega)
end RGZ
