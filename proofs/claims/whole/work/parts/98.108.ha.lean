def frS (X i : Nat) (D E : sm_D) : Prop := E.2.2 = D.2.2 ∧ (∀ c j, ¬ (sTX X i c j ∨ sSx X c j) → E.1 c j = D.1 c j) ∧ ∀ c j, ¬ (c = X + 49 ∧ j = 38) → E.2.1 c j = D.2.1 c j
def sPp (X i c j : Nat) : Prop := rsc X c j ∨ ((c = X + 64 ∨ c = X + 65) ∧ (j = 2 * i ∨ j = 2 * i + 1))
section RHB
variable {C : sm_K} {X N i tot dep : Nat} {T : Nat → Int32} {D E D0 : sm_D} {Q : (Option Value ⊕ Nat) → sm_D → Prop} {l : List Int32} {W : Bool} {fs : List md_F}
theorem frT.toS (h : frT X i D E) : frS X i D E := ⟨h.1, fun c j hc => h.2.1 c j (fun g => hc (Or.inl g)), h.2.2⟩
theorem sSx_RR {c j : Nat} (h : sSx X c j) : rRR X c j := by unfold sSx sPT sSu sEn sSb rsc at h; unfold rRR; omega
theorem sTX_RR {c j : Nat} (h : sTX X i c j) : rRR X c j := by unfold sTX rsc rO at h; unfold rRR; omega
theorem frS.toF (h : frS X i D E) : rF X D E := ⟨h.1, fun c j hc => h.2.1 c j (fun g => hc (g.elim sTX_RR sSx_RR)), h.2.2⟩
theorem nSx_T {c j : Nat} (h : sSx X c j) : ¬ (((c = X + 61 ∨ c = X + 56) ∧ j = i) ∨ c = X + 64 ∨ c = X + 65 ∨ (X + 66 ≤ c ∧ c ≤ X + 69)) := by unfold sSx sPT sSu sEn sSb rsc at h; omega
theorem nSx_A {wh c j : Nat} (h : sSx X c j) : ¬ ((c = X + 77 ∧ j = wh) ∨ ((c = X + 78 ∨ c = X + 79) ∧ 30 * wh ≤ j ∧ j < 30 * wh + 30)) := by unfold sSx sPT sSu sEn sSb rsc at h; omega
theorem nSx_57 : ¬ sSx X (X + 57) i := by unfold sSx sPT sSu sEn sSb rsc; omega
theorem nSx_58 : ¬ sSx X (X + 58) i := by unfold sSx sPT sSu sEn sSb rsc; omega
theorem nSx_R {j : Nat} (hj : j = 8 ∨ j = 39 ∨ j = 54 ∨ j = 28 ∨ j = 34 ∨ j = 9 ∨ j = 60) : ¬ sSx X (X + 49) j := by unfold sSx sPT sSu sEn sSb rsc; omega
theorem RTX.sx {x : md_X} (h : RTX X i l W D x) (g : fr (sSx X) D E) : RTX X i l W E x := by
  obtain ⟨x1, x2, x3, x4, x5⟩ := h
  exact ⟨x1.fr g (fun c j hc => nSx_T hc), ⟨by rw [g.2 _ _ nSx_57]; exact x2.1, x2.2.1, fun k => by rw [g.2 _ _ nSx_58]; exact x2.2.2 k⟩, ⟨by rw [g.1]; exact x3.1, by rw [g.2 _ _ (nSx_R (by omega))]; exact x3.2⟩, x4.fr g (fun c j hc => nSx_A hc), x5.fr g (fun c j hc => nSx_A hc)⟩
theorem nTX_76 {j : Nat} : ¬ sTX X i (X + 76) j := by unfold sTX rsc rO; omega
theorem r174 (h : rH C X T N D) (h8 : D.1 (X + 49) 8 = sm_k (-1)) (h54 : D.1 (X + 49) 54 = ni 0) (hT : RT X l D) {x : md_X} (hx : RTX X i l W D x) (hi : i < 40) (hF : RFS X i tot fs D) (hZ : ∀ h ∈ fs, FZ T N h) (hdep : D.1 (X + 62) i = ni dep) (hdl : dep < 1000) (hK : KD fs) (c1 : ∀ h ∈ fs, h.1 = 1 → x.1 = none) (c5 : ∀ h ∈ fs, h.1 = 5 → x.2.2.2.2 false = []) (c6 : ∀ h ∈ fs, h.1 = 6 → x.2.2.2.2 true = []) (hS : SUB X x.2.2.1 D) (c3 : (∃ h ∈ fs, h.1 = 3) → x.2.2.1 = []) (hl : l.length + 2 * md_W fs ≤ 24000)
    (hok : ∀ y, md_txts T dep fs x = .ok y → ¬ (md_mu y.1 = true ∧ 2 < y.2.1.1) → ∀ E' m, frS X i D E' → RT X (l ++ m) E' → RTX X i (l ++ m) W E' y → SUB X y.2.2.1 E' → E'.1 (X + 49) 8 = sm_k (-1) → (l ++ m).length ≤ l.length + 2 * md_W fs → Q (.inl none) E')
    (her : ∀ f, (md_txts T dep fs x = .error f ∨ ∃ y, md_txts T dep fs x = .ok y ∧ md_mu y.1 = true ∧ 2 < y.2.1.1 ∧ f = y.2.1.2) → ∀ E', rE X D f E' → Q (.inl none) E') :
    sw (sm_fe C 174 [.ref (X + 49), .int (ni i)] D) Q := by
  have hX := h.1
  obtain ⟨f1, f2, f3, f4, f5, f6⟩ := id hF
  refine sw_ge (f174 hX) ?_
  simp (disch := omega) only [sw_gu, ni_in, ni_nat, f1]
  refine ⟨decide_eq_true hi, ?_⟩
  have := r174_7 (C := C) (Q := Q) hX hi hF hZ hdep hdl h8 h54 h fs 0 x l D rfl (Nat.zero_le _) frT.refl hT hx hK c1 c5 c6 hl (fun y hy E' m hfr hT' hx' hlen => ?_) (fun f hf E' hE' => her f (Or.inl hf) E' hE')
  · rw [Nat.add_zero] at this; exact this
  have e8 : E'.1 (X + 49) 8 = sm_k (-1) := by rw [hfr.2.1 _ _ (nTX_R (by omega)), h8]
  have r : ∀ c j, (X + 70 ≤ c ∧ c ≤ X + 76) → E'.1 c j = D.1 c j := fun c j hc => hfr.2.1 c j (nTX_7 hc)
  have g54 : E'.1 (X + 54) i = ni tot := by rw [hfr.2.1 _ _ nTX_54, f1]
  have g55 : E'.1 (X + 55) i = ni fs.length := by rw [hfr.2.1 _ _ nTX_55, f2]
  have hS' : SUB X x.2.2.1 E' := ⟨by rw [hfr.2.1 _ _ (nTX_R (by omega))]; exact hS.1, fun k hk => by rw [hfr.2.1 _ _ nTX_76]; exact hS.2 k hk⟩
  have hsub := md_txts_sub fs hy
  have hmu := hx'.1.mu
  have h57 := hx'.2.1
  have n161 : ¬ (md_mu y.1 = true ∧ 2 < y.2.1.1) → sw (sm_fx C 174 161 [.ref (X + 49), .int (ni i), sm_junk] [] E') Q := by
    intro hno
    refine sw_ge (n174_161 hX) ?_
    rw [sw_bi, r169 hX hi (k := 3) (by omega) g54 g55 f4 (fun j h hj => ⟨by rw [r _ _ (by omega)]; exact (f6 j h hj).1.1, (f6 j h hj).2⟩), sw_some]
    simp only [sb_i, sw_ite, e8, if_true, sw_some, sw_bv]
    by_cases h3 : ∃ h ∈ fs, h.1 = 3
    · obtain ⟨m3, hd, k1, k2, k3⟩ := md_fx_some (k := 3) (tot := tot) fs 0 (sm_k (-1)) h3
      rw [k3]
      have hm3 : m3 < fs.length := by
        rcases Nat.lt_or_ge m3 fs.length with g | g
        · exact g
        · rw [List.getElem?_eq_none g] at k1; cases k1
      rw [if_neg (by rw [ni_ne_k (by omega)]; exact id), Nat.add_zero]
      have hz := hZ hd (List.mem_of_getElem? k1)
      obtain ⟨z1, z2, z3, z4, z5⟩ := hz
      obtain ⟨⟨q1, q2, q3, q4, q5⟩, -⟩ := f6 m3 hd k1
      have hFT : FT X T N (tot + m3) hd.2.2.1 hd.2.2.2 E' := ⟨by omega, by rw [r _ _ (by omega), q4], by rw [r _ _ (by omega), q5], z1, z2, z3, z4⟩
      have hs0 := c3 h3
      rw [hs0] at hS'
      refine r211 (hfr.H h) e8 hT' (by rw [hS'.1]; rfl) hFT z5 (fun E2 fr2 T2 S2 => ?_)
      simp only [sb_v, sw_some]
      rw [md_sbj_some fs hK k1 k2] at hsub
      refine hok y hy hno E2 m ⟨by rw [fr2.1]; exact hfr.1, fun c j hc => by rw [fr2.2 c j (fun g => hc (Or.inr g)), hfr.2.1 c j (fun g => hc (Or.inl g))], fun c j hc => by rw [fr2.1]; exact hfr.2.2 c j hc⟩ T2 (hx'.sx fr2) (by rw [hsub]; exact S2) (by rw [fr2.2 _ _ (nSx_R (by omega)), e8]) hlen
    · rw [md_fx_none fs 0 _ (fun h hh hk => h3 ⟨h, hh, hk⟩), if_pos rfl]
      rw [md_sbj_none fs (fun h hh hk => h3 ⟨h, hh, hk⟩)] at hsub
      exact hok y hy hno E' m hfr.toS hT' hx' (by rw [hsub]; exact hS') e8 hlen
  refine sw_ge (n174_124 hX) ?_
  simp (disch := omega) only [sw_ite, e8, if_true, sw_gu, ni_in, ni_nat, hmu, md_b_0, h57.1, ni_le, sw_bv]
  refine ⟨decide_eq_true hi, ?_⟩
  by_cases hm : md_mu y.1 = true
  · rw [if_neg (by rw [hm]; exact fun g => nomatch g)]
    refine ⟨decide_eq_true hi, ?_⟩
    by_cases h2 : y.2.1.1 ≤ 2
    · rw [if_pos h2]
      exact n161 (fun g => by omega)
    · rw [if_neg h2]
      refine ⟨decide_eq_true hi, ?_⟩
      obtain ⟨q1, q2⟩ := h57.2.2 (by omega)
      rw [q1, r162 hX e8, sw_some]
      simp only [sb_v]
      have hrE : rE X D y.2.1.2 (sm_dI E' (X + 49) 8 (ni y.2.1.2)) := ⟨q2, dI_eq, hfr.toF.dI (Or.inl (by omega))⟩
      refine sw_ge (n174_161 hX) ?_
      have r' : ∀ c j, (c = X + 54 ∨ c = X + 55 ∨ c = X + 70) → (sm_dI E' (X + 49) 8 (ni y.2.1.2)).1 c j = E'.1 c j := fun c j hc => dI_ne (by omega)
      rw [sw_bi, r169 hX hi (k := 3) (by omega) (by rw [r' _ _ (by omega), g54]) (by rw [r' _ _ (by omega), g55]) f4 (fun j h hj => ⟨by rw [r' _ _ (by omega), r _ _ (by omega)]; exact (f6 j h hj).1.1, (f6 j h hj).2⟩), sw_some]
      simp only [sb_i, sw_ite, hrE.ne, if_false, sw_some]
      exact her _ (Or.inr ⟨y, hy, hm, by omega, rfl⟩) _ hrE
  · rw [if_pos (by cases hq : md_mu y.1 <;> first | rfl | exact absurd hq hm)]
    exact n161 (fun g => hm g.1)
theorem RS_any (hT : RT X l D) : ∃ q, RS X D q l (D.1 (X + 49) 50) (D.1 (X + 49) 48) (D.1 (X + 49) 49) D := by
  obtain ⟨q, hq⟩ := ni_any (D.1 (X + 49) 46)
  exact ⟨q, rfl, hq, hT.1, hT.2, ⟨rfl, rfl, rfl⟩, fun _ _ _ => rfl⟩
theorem r171 (hX : sm_Lay C X) (hx : tx C) (hi : i < 40) (hT : RT X l D) (hl : l.length + 9 ≤ 24000) (hq : ∀ E' m, fr (sPp X i) D E' → RT X (l ++ m) E' → SLT (l ++ m) (E'.1 (X + 64) (2 * i)) (E'.1 (X + 65) (2 * i)) (md_w "text") → SLT (l ++ m) (E'.1 (X + 64) (2 * i + 1)) (E'.1 (X + 65) (2 * i + 1)) (md_w "plain") → m.length = 9 → Q (.inl none) E') : sw (sm_fe C 171 [.ref (X + 49), .int (ni i)] D) Q := by
  obtain ⟨q, hs⟩ := RS_any hT
  have l4 : (md_w "text").length = 4 := by decide
  have l5 : (md_w "plain").length = 5 := by decide
  refine sw_ge (f171 hX) ?_
  simp (disch := omega) only [sw_gu, ni_mul, ni_add, ni_in, ni_nat, sw_bv, hT.1]
  refine ⟨decide_eq_true (by omega), decide_eq_true (by omega), ?_⟩
  have hs1 := (hs.dI (c := X + 64) (j := 2 * i) (ni l.length) (by unfold rsc; omega)).dI (c := X + 65) (j := 2 * i) (ni 4) (by unfold rsc; omega)
  have hf1 : fr (sPp X i) D (sm_dI (sm_dI D (X + 64) (2 * i) (ni l.length)) (X + 65) (2 * i) (ni 4)) := (fr.refl.dI (by unfold sPp; omega)).dI (by unfold sPp; omega)
  have d64 : (sm_dI (sm_dI D (X + 64) (2 * i) (ni l.length)) (X + 65) (2 * i) (ni 4)).1 (X + 64) (2 * i) = ni l.length := by rw [dI_ne (by omega), dI_eq]
  have d65 : (sm_dI (sm_dI D (X + 64) (2 * i) (ni l.length)) (X + 65) (2 * i) (ni 4)).1 (X + 65) (2 * i) = ni 4 := dI_eq
  generalize sm_dI (sm_dI D (X + 64) (2 * i) (ni l.length)) (X + 65) (2 * i) (ni 4) = D1 at hs1 hf1 d64 d65 ⊢
  refine r172 hX (w := md_w "text") (st_tx hx 50 (s := "text") rfl rfl (by decide) (by decide)) hs1 (by rw [l4]; omega) (fun E2 hE2 => ?_)
  simp (disch := omega) only [sb_v, sw_gu, ni_in, ni_nat, sw_bv, hE2.2.2.1]
  refine ⟨decide_eq_true (by omega), decide_eq_true (by omega), ?_⟩
  have hs3 := (hE2.dI (c := X + 64) (j := 2 * i + 1) (ni (l ++ md_w "text").length) (by unfold rsc; omega)).dI (c := X + 65) (j := 2 * i + 1) (ni 5) (by unfold rsc; omega)
  have hf3 : fr (sPp X i) D (sm_dI (sm_dI D1 (X + 64) (2 * i + 1) (ni (l ++ md_w "text").length)) (X + 65) (2 * i + 1) (ni 5)) := (hf1.dI (by unfold sPp; omega)).dI (by unfold sPp; omega)
  have g64 : (sm_dI (sm_dI D1 (X + 64) (2 * i + 1) (ni (l ++ md_w "text").length)) (X + 65) (2 * i + 1) (ni 5)).1 (X + 64) (2 * i) = ni l.length := by rw [dI_ne (by omega), dI_ne (by omega), d64]
  have g65 : (sm_dI (sm_dI D1 (X + 64) (2 * i + 1) (ni (l ++ md_w "text").length)) (X + 65) (2 * i + 1) (ni 5)).1 (X + 65) (2 * i) = ni 4 := by rw [dI_ne (by omega), dI_ne (by omega), d65]
  have k64 : (sm_dI (sm_dI D1 (X + 64) (2 * i + 1) (ni (l ++ md_w "text").length)) (X + 65) (2 * i + 1) (ni 5)).1 (X + 64) (2 * i + 1) = ni (l ++ md_w "text").length := by rw [dI_ne (by omega), dI_eq]
  have k65 : (sm_dI (sm_dI D1 (X + 64) (2 * i + 1) (ni (l ++ md_w "text").length)) (X + 65) (2 * i + 1) (ni 5)).1 (X + 65) (2 * i + 1) = ni 5 := dI_eq
  generalize sm_dI (sm_dI D1 (X + 64) (2 * i + 1) (ni (l ++ md_w "text").length)) (X + 65) (2 * i + 1) (ni 5) = D3 at hs3 hf3 g64 g65 k64 k65
  refine r172 hX (w := md_w "plain") (st_tx hx 51 (s := "plain") rfl rfl (by decide) (by decide)) hs3 (by rw [List.length_append, l4, l5]; omega) (fun E4 hE4 => ?_)
  simp only [sb_v, sw_some]
  have o : ∀ c j, (c = X + 64 ∨ c = X + 65) → E4.1 c j = D3.1 c j := fun c j hc => hE4.o (by unfold rsc; omega)
  refine hq E4 (md_w "text" ++ md_w "plain") (hf3.trans (hE4.fr (fun c j hc => Or.inl hc))) (by rw [← List.append_assoc]; exact hE4.RT) ?_ ?_ (by rw [List.length_append, l4, l5])
  · rw [o _ _ (by omega), o _ _ (by omega), g64, g65, ← List.append_assoc]
    have := (SLT.new (l := l) (xs := md_w "text")).mono (m := md_w "plain")
    rw [l4] at this
    exact this
  · rw [o _ _ (by omega), o _ _ (by omega), k64, k65, ← List.append_assoc]
    have := SLT.new (l := l ++ md_w "text") (xs := md_w "plain")
    rw [l5] at this
    exact this
end RHB
