/-! ===== the reference: a date ===== -/
theorem md_space_id {T : Nat → Int32} {e : Nat} : ∀ (m d q p : Nat), e - q ≤ m → md_space T e d q = .ok p → md_space T e 0 p = .ok p := by
  intro m
  induction m with
  | zero =>
    intro d q p hm h
    rw [md_space, dif_neg (by omega)] at h
    split at h
    · cases h
      rw [md_space, dif_neg (by omega), if_pos rfl]
    · cases h
  | succ m ih =>
    intro d q p hm h
    rw [md_space] at h
    split at h
    · next g =>
      have hlt := md_nx_lt (T := T) g
      split at h
      · split at h
        · cases h
        · exact ih _ _ _ (by omega) h
      · next g40 =>
        split at h
        · split at h
          · exact ih _ _ _ (by omega) h
          · next gb =>
            cases h
            rw [md_space, dif_pos g, if_neg g40, if_pos rfl, if_neg gb]
        · split at h
          · exact ih _ _ _ (by omega) h
          · split at h
            · split at h
              · next g2 =>
                have hlt2 := md_nx_lt (T := T) g2
                exact ih _ _ _ (by omega) h
              · cases h
            · exact ih _ _ _ (by omega) h
    · next g =>
      split at h
      · cases h
        rw [md_space, dif_neg g, if_pos rfl]
      · cases h
def md_wv : Option Nat → Int32
  | some w => ni w
  | none => sm_k (-1)
def sDa (X c j : Nat) : Prop := rsc X c j ∨ (c = X + 49 ∧ (j = 47 ∨ j = 51 ∨ j = 39)) ∨ c = X + 81
/-- as fr, but for the seconds -/
def frD (X : Nat) (D E : sm_D) : Prop := E.2.2 = D.2.2 ∧ (∀ c j, ¬ (c = X + 49 ∧ j = 38) → E.2.1 c j = D.2.1 c j) ∧ ∀ c j, ¬ sDa X c j → E.1 c j = D.1 c j
theorem tm7 {z : Int} (h1 : -4000000000000000000 < z) (h2 : z < 4000000000000000000) : (Int64.ofInt z - Int64.ofInt z / 7 * 7).toInt32 = Int32.ofInt (z - z.tdiv 7 * 7) := by
  have tz : (Int64.ofInt z).toInt = z := Int64.toInt_ofInt_of_le (by omega) (by omega)
  have hdiv : Int64.ofInt z / 7 = Int64.ofInt (z.tdiv 7) := by
    rw [← Int64.toInt_inj, Int64.toInt_div_of_ne_right _ _ (by decide), tz]
    have b : -(4000000000000000000) ≤ z.tdiv 7 ∧ z.tdiv 7 ≤ 4000000000000000000 := by
      rcases Classical.em (z < 0) with g | g
      · have : z = -(-z) := by omega
        rw [this, Int.neg_tdiv, Int.tdiv_eq_ediv_of_nonneg (by omega)]
        omega
      · rw [Int.tdiv_eq_ediv_of_nonneg (by omega)]; omega
    rw [Int64.toInt_ofInt_of_le (by omega) (by omega)]
    rfl
  have hm : Int64.ofInt z - Int64.ofInt z / 7 * 7 = Int64.ofInt (z - z.tdiv 7 * 7) := by
    rw [hdiv, Int64.ofInt_sub, Int64.ofInt_mul]; rfl
  rw [hm]
  exact Int64.toInt32_ofInt
theorem tm7b (z : Int) : (0 ≤ z - z.tdiv 7 * 7 → z - z.tdiv 7 * 7 = z % 7) ∧ (z - z.tdiv 7 * 7 < 0 → z - z.tdiv 7 * 7 + 7 = z % 7) ∧ -7 < z - z.tdiv 7 * 7 ∧ z - z.tdiv 7 * 7 < 7 := by
  rcases Classical.em (z < 0) with g | g
  · have e1 : z.tdiv 7 = -((-z) / 7) := by
      have : z = -(-z) := by omega
      conv => lhs; rw [this]
      rw [Int.neg_tdiv, Int.tdiv_eq_ediv_of_nonneg (by omega)]
    rw [e1]
    omega
  · rw [Int.tdiv_eq_ediv_of_nonneg (by omega)]
    omega
section RGJ
variable {C : sm_K} {X N e q : Nat} {T : Nat → Int32} {D E : sm_D} {Q : (Option Value ⊕ Nat) → sm_D → Prop} {l : List Int32} {b a z : Int32}
theorem r199k (h : rW C X T N e D) (hs : RS X D q l b a z E) (hq : md_ok T e q)
    (hok : ∀ p, md_space T e 0 q = .ok p → ∀ E', md_ok T e p → q ≤ p → RS X D p l b a z E' → Q (.inl none) E') (her : ∀ f, md_space T e 0 q = .error f → ∀ E', rS X D f E' → Q (.inl none) E') : sw (sm_fe C 199 [.ref (X + 49)] E) Q :=
  r199 h hs hq (fun p hp E' hE => hok p hp E' (md_space_ok hq hp).1 (md_space_ok hq hp).2 hE) her
theorem md_two_er {most f : Nat} (h : md_num T e 2 0 q = .error f) : md_two T e most q = .error f := by unfold md_two; rw [h]; rfl
theorem md_two_no {most v p : Nat} (h : md_num T e 2 0 q = .ok (v, p)) (hc : ¬ (0 ≤ v ∧ v ≤ most)) : md_two T e most q = .error q := by
  unfold md_two; rw [h]; simp only [bind, Except.bind]; rw [if_pos (by omega)]
theorem md_two_ye {most v p : Nat} (h : md_num T e 2 0 q = .ok (v, p)) (hc : 0 ≤ v ∧ v ≤ most) : md_two T e most q = .ok (v, p) := by
  unfold md_two; rw [h]; simp only [bind, Except.bind]; rw [if_neg (by omega)]
theorem md_dmy_nb {d p3 : Nat} (hd : md_nb T e 1 2 0 0 q = .ok (d, p3)) : md_dmy T e q = md_dmy2 T e q d p3 := by
  unfold md_dmy
  rw [md_nb_12] at hd
  cases h4 : md_num T e 1 0 q with
  | error x => rw [h4] at hd; cases hd
  | ok r =>
    obtain ⟨d0, p2⟩ := r
    rw [h4] at hd
    simp only [bind, Except.bind]
    dsimp only at hd
    by_cases h5 : p2 < e ∧ md_dg (T p2) = true
    · rw [if_pos h5] at hd ⊢
      rw [hd]
    · rw [if_neg h5] at hd ⊢
      cases hd
      rfl
theorem md_dmy_er {f : Nat} (hd : md_nb T e 1 2 0 0 q = .error f) : md_dmy T e q = .error f := by
  unfold md_dmy
  rw [md_nb_12] at hd
  cases h4 : md_num T e 1 0 q with
  | error x => rw [h4] at hd; cases hd; rfl
  | ok r =>
    obtain ⟨d0, p2⟩ := r
    rw [h4] at hd
    simp only [bind, Except.bind]
    dsimp only at hd
    by_cases h5 : p2 < e ∧ md_dg (T p2) = true
    · rw [if_pos h5] at hd ⊢
      rw [hd]
    · rw [if_neg h5] at hd
      cases hd
theorem md_nb2 {p : Nat} : md_nb T e 2 2 0 0 p = md_num T e 2 0 p := md_nb_num 2 0 0 p
theorem r196 (h : rH C X T N D) (h8 : D.1 (X + 49) 8 = sm_k (-1)) (hT : RT X l D) {f c y : Nat} (hf : FT X T N f c y D)
    (hok : ∀ s v, md_date T y (md_go T y (c + 1)) = .ok (s, v) → ∀ E', frD X D E' → RT X l E' → E'.2.1 (X + 49) 38 = Int64.ofInt s → E'.1 (X + 49) 39 = Int32.ofInt v → Q (.inl none) E')
    (her : ∀ f, md_date T y (md_go T y (c + 1)) = .error f → ∀ E', rE X D f E' → Q (.inl none) E') :
    sw (sm_fe C 196 [.ref (X + 49), .int (ni f)] D) Q := by
  have hX := h.1
  have hx := h.2.1
  have hN := h.2.2.1
  have hyN := hf.2.2.2.2.1
  have hro := hf.ro
  -- with a fault
  have x452 : ∀ {E : sm_D} {f : Nat} {v2 v3 v4 v6 v7 v8 v9 v10 v11 v12 v13 : Int32}, rX X D f E → (∀ E', rX X D f E' → Q (.inl none) E') → sw (sm_fx C 196 452 [.ref (X + 49), sm_junk, .int v2, .int v3, .int v4, sm_junk, .int v6, .int v7, .int v8, .int v9, .int v10, .int v11, .int v12, .int v13, sm_junk, sm_junk, sm_junk] [] E) Q := by
    intro E f v2 v3 v4 v6 v7 v8 v9 v10 v11 v12 v13 hE hQ
    refine sw_ge (n196_452 hX) ?_
    simp only [sw_bv, r199x hX hE.ne, sw_some, sb_v, r191x hX hE.ne, sw_ite, hE.ne, if_false]
    exact hQ E hE
  have x423 : ∀ {E : sm_D} {f : Nat} {v2 v3 v4 v6 v7 v8 v9 v10 v11 v12 v13 : Int32}, rX X D f E → (∀ E', rX X D f E' → Q (.inl none) E') → sw (sm_fx C 196 423 [.ref (X + 49), sm_junk, .int v2, .int v3, .int v4, sm_junk, .int v6, .int v7, .int v8, .int v9, .int v10, .int v11, .int v12, .int v13, sm_junk, sm_junk, sm_junk] [] E) Q := by
    intro E f v2 v3 v4 v6 v7 v8 v9 v10 v11 v12 v13 hE hQ
    refine sw_ge (n196_423 hX) ?_
    simp only [sw_ite, hE.ne, if_false]
    exact x452 hE hQ
  have x384 : ∀ {E : sm_D} {f : Nat} {v2 v3 v4 v6 v7 v8 v9 v10 v11 : Int32}, rX X D f E → (∀ E', rX X D f E' → Q (.inl none) E') → sw (sm_fx C 196 384 [.ref (X + 49), sm_junk, .int v2, .int v3, .int v4, sm_junk, .int v6, .int v7, .int v8, .int v9, .int v10, .int v11, sm_junk, sm_junk, sm_junk, sm_junk, sm_junk] [] E) Q := by
    intro E f v2 v3 v4 v6 v7 v8 v9 v10 v11 hE hQ
    refine sw_ge (n196_384 hX) ?_
    simp only [sw_ite, hE.ne, if_false]
    exact x423 hE hQ
  have x342 : ∀ {E : sm_D} {f : Nat} {v2 v3 v4 v6 v7 v8 v9 v10 : Int32}, rX X D f E → (∀ E', rX X D f E' → Q (.inl none) E') → sw (sm_fx C 196 342 [.ref (X + 49), sm_junk, .int v2, .int v3, .int v4, sm_junk, .int v6, .int v7, .int v8, .int v9, .int v10, sm_junk, sm_junk, sm_junk, sm_junk, sm_junk, sm_junk] [] E) Q := by
    intro E f v2 v3 v4 v6 v7 v8 v9 v10 hE hQ
    have x356 : ∀ s : Int32, sw (sm_fx C 196 356 [.ref (X + 49), sm_junk, .int v2, .int v3, .int v4, sm_junk, .int v6, .int v7, .int v8, .int v9, .int v10, sm_junk, sm_junk, sm_junk, sm_junk, sm_junk, sm_junk] [.int s] E) Q := by
      intro s
      refine sw_ge (n196_356 hX) ?_
      simp only [sw_ite, hE.ne, if_false]
      exact x384 hE hQ
    refine sw_ge (n196_342 hX) ?_
    simp only [sw_bi]
    refine r179x hX hE (fun x => ?_)
    simp only [sb_i, sw_ite]
    split <;> exact x356 _
  have x323 : ∀ {E : sm_D} {f : Nat} {v2 v3 v4 v6 v7 v8 v9 s : Int32}, rX X D f E → (∀ E', rX X D f E' → Q (.inl none) E') → sw (sm_fx C 196 323 [.ref (X + 49), sm_junk, .int v2, .int v3, .int v4, sm_junk, .int v6, .int v7, .int v8, .int v9, sm_junk, sm_junk, sm_junk, sm_junk, sm_junk, sm_junk, sm_junk] [.int s] E) Q := by
    intro E f v2 v3 v4 v6 v7 v8 v9 s hE hQ
    refine sw_ge (n196_323 hX) ?_
    simp only [sw_bv, r201x hX hE.ne, sw_some, sb_v, r199x hX hE.ne]
    exact x342 hE hQ
  have x258 : ∀ {E : sm_D} {f : Nat} {v2 v3 v4 v6 v7 v8 s : Int32}, rX X D f E → (∀ E', rX X D f E' → Q (.inl none) E') → sw (sm_fx C 196 258 [.ref (X + 49), sm_junk, .int v2, .int v3, .int v4, sm_junk, .int v6, .int v7, .int v8, sm_junk, sm_junk, sm_junk, sm_junk, sm_junk, sm_junk, sm_junk, sm_junk] [.int s] E) Q := by
    intro E f v2 v3 v4 v6 v7 v8 s hE hQ
    refine sw_ge (n196_258 hX) ?_
    simp only [sw_bv, r201x hX hE.ne, sw_some, sb_v, r199x hX hE.ne, sw_ite, hE.ne, if_false]
    exact x342 hE hQ
  have x211 : ∀ {E : sm_D} {f : Nat} {v2 v3 v4 v6 v7 s : Int32}, rX X D f E → (∀ E', rX X D f E' → Q (.inl none) E') → sw (sm_fx C 196 211 [.ref (X + 49), sm_junk, .int v2, .int v3, .int v4, sm_junk, .int v6, .int v7, sm_junk, sm_junk, sm_junk, sm_junk, sm_junk, sm_junk, sm_junk, sm_junk, sm_junk] [.int s] E) Q := by
    intro E f v2 v3 v4 v6 v7 s hE hQ
    refine sw_ge (n196_211 hX) ?_
    simp only [sw_bv, r201x hX hE.ne, sw_some, sb_v, r199x hX hE.ne, r187x hX hE.ne, sw_ite, hE.ne, if_false]
    exact x258 hE hQ
  have x189 : ∀ {E : sm_D} {f : Nat} {v2 v3 v4 v6 v7 : Int32}, rX X D f E → (∀ E', rX X D f E' → Q (.inl none) E') → sw (sm_fx C 196 189 [.ref (X + 49), sm_junk, .int v2, .int v3, .int v4, sm_junk, .int v6, .int v7, sm_junk, sm_junk, sm_junk, sm_junk, sm_junk, sm_junk, sm_junk, sm_junk, sm_junk] [] E) Q := by
    intro E f v2 v3 v4 v6 v7 hE hQ
    refine sw_ge (n196_189 hX) ?_
    simp only [sw_bv, r199x hX hE.ne, sw_some, sb_v, sw_ite, hE.ne, if_false]
    exact x211 hE hQ
  have x147 : ∀ {E : sm_D} {f : Nat} {v2 v3 v4 v5 v6 s : Int32}, rX X D f E → (∀ E', rX X D f E' → Q (.inl none) E') → sw (sm_fx C 196 147 [.ref (X + 49), sm_junk, .int v2, .int v3, .int v4, .int v5, .int v6, sm_junk, sm_junk, sm_junk, sm_junk, sm_junk, sm_junk, sm_junk, sm_junk, sm_junk, sm_junk] [.int s] E) Q := by
    intro E f v2 v3 v4 v5 v6 s hE hQ
    refine sw_ge (n196_147 hX) ?_
    simp only [sw_bv, r201x hX hE.ne, sw_some, sb_v, sw_ite, hE.ne, if_false]
    exact x189 hE hQ
  have x123 : ∀ {E : sm_D} {f : Nat} {v2 v3 v4 v5 s : Int32}, rX X D f E → (∀ E', rX X D f E' → Q (.inl none) E') → sw (sm_fx C 196 123 [.ref (X + 49), sm_junk, .int v2, .int v3, .int v4, .int v5, sm_junk, sm_junk, sm_junk, sm_junk, sm_junk, sm_junk, sm_junk, sm_junk, sm_junk, sm_junk, sm_junk] [.int s] E) Q := by
    intro E f v2 v3 v4 v5 s hE hQ
    refine sw_ge (n196_123 hX) ?_
    simp only [sw_bv, r199x hX hE.ne, sw_some, sb_v, sw_ite, hE.ne, if_false]
    exact x147 hE hQ
  have x104 : ∀ {E : sm_D} {f : Nat} {v2 v3 v4 v5 : Int32}, rX X D f E → (∀ E', rX X D f E' → Q (.inl none) E') → sw (sm_fx C 196 104 [.ref (X + 49), sm_junk, .int v2, .int v3, .int v4, .int v5, sm_junk, sm_junk, sm_junk, sm_junk, sm_junk, sm_junk, sm_junk, sm_junk, sm_junk, sm_junk, sm_junk] [] E) Q := by
    intro E f v2 v3 v4 v5 hE hQ
    refine sw_ge (n196_104 hX) ?_
    simp only [sw_ite, hE.ne, if_false]
    exact x123 hE hQ
  have x80 : ∀ {E : sm_D} {f : Nat} {v2 v3 s : Int32}, rX X D f E → (∀ E', rX X D f E' → Q (.inl none) E') → sw (sm_fx C 196 80 [.ref (X + 49), sm_junk, .int v2, .int v3, sm_junk, sm_junk, sm_junk, sm_junk, sm_junk, sm_junk, sm_junk, sm_junk, sm_junk, sm_junk, sm_junk, sm_junk, sm_junk] [.int s] E) Q := by
    intro E f v2 v3 s hE hQ
    refine sw_ge (n196_80 hX) ?_
    simp only [sw_bv, r199x hX hE.ne, sw_some, sb_v, sw_ite, hE.ne, if_false]
    exact x104 hE hQ
  have x62 : ∀ {E : sm_D} {f : Nat} {v2 v3 : Int32}, rX X D f E → (∀ E', rX X D f E' → Q (.inl none) E') → sw (sm_fx C 196 62 [.ref (X + 49), sm_junk, .int v2, .int v3, sm_junk, sm_junk, sm_junk, sm_junk, sm_junk, sm_junk, sm_junk, sm_junk, sm_junk, sm_junk, sm_junk, sm_junk, sm_junk] [] E) Q := by
    intro E f v2 v3 hE hQ
    refine sw_ge (n196_62 hX) ?_
    simp only [sw_ite, hE.ne, if_false]
    exact x80 hE hQ
  have subL : ∀ c j, sLt X c j → rRR X c j := by intro c j; unfold sLt rRR; omega
  have herx : ∀ {f : Nat}, md_date T y (md_go T y (c + 1)) = .error f → ∀ E', rX X D f E' → Q (.inl none) E' := fun hf E' hE => her _ hf E' hE.1
  unfold md_date at hok herx
  refine sw_ge (f196 hX) ?_
  simp only [sw_bv]
  refine r176' h h8 hT hf (fun E1 hW hE1 => ?_)
  have hF1 : rF X D (sm_dI D (X + 49) 47 (ni y)) := rF.refl.dI (Or.inl (by omega))
  generalize hD1 : sm_dI D (X + 49) 47 (ni y) = D1 at hW hE1 hF1
  simp only [sb_v, sw_bv]
  refine r178 hW hE1 hro.1 (fun p h1 E2 hE2 => ?_) (fun f h1 E2 hE2 => ?_)
  rotate_left
  · simp only [sb_v, sw_ite, hE2.ne, if_false]
    exact x62 (hE2.of hF1) (herx (by rw [h1]; rfl))
  obtain ⟨o1, l1⟩ := md_space_ok hro.1 h1
  have o1e := o1.1
  simp only [h1, bind, Except.bind] at hok herx
  simp only [sb_v, sw_ite, (hE2.W hW).2.2.2, if_true, sw_bi, hE2.cur hW o1e, sw_some, sb_i, r185, md_b_0]
  -- behind the weekday
  have n62 : ∀ (wd : Option Nat) (p1 : Nat) (A B : sm_D) (b a z v3 : Int32), md_wkd T y p = .ok (wd, p1) → (∀ w, wd = some w → w < 7 ∧ v3 = ni p) → rW C X T N y A → fr (sLt X) D1 A → md_ok T y p1 → RS X A p1 l b a z B → sw (sm_fx C 196 62 [.ref (X + 49), sm_junk, .int (md_wv wd), .int v3, sm_junk, sm_junk, sm_junk, sm_junk, sm_junk, sm_junk, sm_junk, sm_junk, sm_junk, sm_junk, sm_junk, sm_junk, sm_junk] [] B) Q := by
    intro wd p1 A B b a z v3 h2 hwd hA hfA o2 hB
    have o2e := o2.1
    have hFA : rF X D A := hF1.trans (hfA.Fr subL)
    simp only [h2] at hok herx
    refine sw_ge (n196_62 hX) ?_
    simp only [sw_ite, (hB.W hA).2.2.2, if_true, sw_bi]
    refine r200 hA (by omega) (by omega) hB o2 (fun d p3 h3 E3 hE3 hd o3 l3 => ?_) (fun f h3 x E3 hE3 => ?_)
    rotate_left
    · simp only [sb_i]
      exact x80 (hE3.of hFA) (herx (by rw [md_dmy_er h3]))
    rw [md_dmy_nb h3] at hok herx
    simp only [sb_i]
    refine sw_ge (n196_80 hX) ?_
    simp only [sw_bv, hE3.2.2.2.2.1.1]
    unfold md_dmy2 at hok herx
    refine r199k hA hE3 o3 (fun p4 h4 E4 o4 l4 hE4 => ?_) (fun f h4 E4 hE4 => ?_)
    rotate_left
    · simp only [sb_v, sw_ite, hE4.ne, if_false]
      exact x104 (hE4.of hFA) (herx (by simp only [h4, bind, Except.bind]))
    have o4e := o4.1
    simp only [h4, bind, Except.bind] at hok herx
    simp only [sb_v, sw_ite, (hE4.W hA).2.2.2, if_true, sw_bv]
    unfold md_wd at hok herx
    have hs12 : st C (C.1.1 60) (md_w "janfebmaraprmayjunjulaugsepoctnovdec") := st_tx hx 60 rfl rfl (by decide) (by decide)
    refine r197 hA hE4 o4 (fun hne A5 E5 hfA5 hE5 hL5 => ?_) (fun hnil E5 hE5 => ?_)
    rotate_left
    · simp only [sb_v]
      exact x104 (hE5.of hFA) (herx (by rw [hnil]; rfl))
    have hA5 := sLt_W hfA5 hA
    have hFA5 : rF X D A5 := hFA.trans (hfA5.Fr subL)
    have hfr5 : fr (sLt X) D1 A5 := hfA.trans hfA5
    obtain ⟨o5, l5, -, -⟩ := md_lets_ok o4
    have o5e := o5.1
    simp only [sb_v]
    refine sw_ge (n196_104 hX) ?_
    simp only [sw_ite, (hE5.W hA5).2.2.2, if_true, sw_bi]
    have hL5' : LT X (md_lets T y p4).1 E5 := ⟨by rw [hE5.o (by unfold rsc; omega)]; exact hL5.1, fun j hj => by rw [hE5.o (by unfold rsc; omega)]; exact hL5.2 j hj⟩
    refine r198 hA5 (M := 12) hs12 (by decide) hE5 o5e hL5' (p := p4) rfl (by omega) (fun m h5 hm => ?_) (fun h5 x E6 hE6 => ?_)
    rotate_left
    · simp only [sb_i]
      exact x123 (hE6.of hFA5) (herx (by rw [h5]))
    simp only [h5] at hok herx
    simp only [sb_i]
    refine sw_ge (n196_123 hX) ?_
    simp only [sw_bv]
    refine r199k hA5 hE5 o5 (fun p6 h6 E6 o6 l6 hE6 => ?_) (fun f h6 E6 hE6 => ?_)
    rotate_left
    · simp only [sb_v, sw_ite, hE6.ne, if_false]
      exact x147 (hE6.of hFA5) (herx (by rw [h6]))
    have o6e := o6.1
    simp only [h6] at hok herx
    simp only [sb_v, sw_ite, (hE6.W hA5).2.2.2, if_true, sw_bi]
    have hnn : md_nb T y 4 4 0 0 p6 = md_num T y 4 0 p6 := md_nb_num 4 0 0 p6
    refine r200 hA5 (by omega) (by omega) hE6 o6 (fun yr p7 h7 E7 hE7 hyr o7 l7 => ?_) (fun f h7 x E7 hE7 => ?_)
    rotate_left
    · rw [hnn] at h7
      simp only [sb_i]
      exact x147 (hE7.of hFA5) (herx (by rw [h7]))
    rw [hnn] at h7
    have o7e := o7.1
    simp only [h7] at hok herx
    simp only [sb_i]
    refine sw_ge (n196_147 hX) ?_
    simp only [sw_bv, hE7.2.2.2.2.1.1]
    refine r201 hA5 (by omega) (by omega) (by omega) hE7 o7e o6e (fun hc => ?_) (fun hc E8 hE8 => ?_)
    rotate_left
    · simp only [sb_v, sw_ite, hE8.ne, if_false]
      exact x189 (hE8.of hFA5) (herx (by rw [if_pos (by omega)]))
    rw [if_neg (show ¬ yr < 1600 by omega)] at hok herx
    have hdl := md_dom_le m yr
    simp only [sb_v, sw_ite, (hE7.W hA5).2.2.2, if_true, sw_bi, r202 (show m < 2147483648 by omega) hyr, sw_some, sb_i, sw_bv]
    refine r201 hA5 (by omega) (by omega) (by omega) hE7 o7e o2e (fun hc2 => ?_) (fun hc2 E8 hE8 => ?_)
    rotate_left
    · simp only [sb_v]
      exact x189 (hE8.of hFA5) (herx (by rw [if_pos (by omega)]))
    rw [if_neg (by omega)] at hok herx
    dsimp only at hok herx
    simp only [sb_v]
    have hdb := md_days_b hyr hm (show d ≤ 31 by omega)
    refine sw_ge (n196_189 hX) ?_
    simp only [sw_bv]
    refine r199k hA5 hE7 o7 (fun p8 h8' E8 o8 l8 hE8 => ?_) (fun f h8' E8 hE8 => ?_)
    rotate_left
    · simp only [sb_v, sw_ite, hE8.ne, if_false]
      exact x211 (hE8.of hFA5) (herx (by rw [h8']))
    simp only [h8'] at hok herx
    simp only [sb_v, sw_ite, (hE8.W hA5).2.2.2, if_true, sw_bi]
    have o8e := o8.1
    -- the zone and what stands behind it
    have n342 : ∀ (hh mm ss p4 p5 : Nat) (B : sm_D) (b a z : Int32), hh ≤ 23 → mm ≤ 59 → ss ≤ 59 → md_time T y p8 = .ok (hh * 3600 + mm * 60 + ss, p4) → md_space T y 0 p4 = .ok p5 → md_ok T y p5 → RS X A5 p5 l b a z B → sw (sm_fx C 196 342 [.ref (X + 49), sm_junk, .int (md_wv wd), .int v3, .int (ni d), sm_junk, .int (ni m), .int (ni yr), .int (ni hh), .int (ni mm), .int (ni ss), sm_junk, sm_junk, sm_junk, sm_junk, sm_junk, sm_junk] [] B) Q := by
      intro hh mm ss p4 p5 B b a z hhh hmm hss k1 k2 op5 hB
      have op5e := op5.1
      simp only [k1, k2] at hok herx
      unfold md_zone at hok herx
      have n384 : ∀ (mi : Bool), p5 < y → (T p5 = ni 43 ∨ T p5 = ni 45) → mi = decide (T p5 = ni 45) → sw (sm_fx C 196 384 [.ref (X + 49), sm_junk, .int (md_wv wd), .int v3, .int (ni d), sm_junk, .int (ni m), .int (ni yr), .int (ni hh), .int (ni mm), .int (ni ss), .int (md_b mi), sm_junk, sm_junk, sm_junk, sm_junk, sm_junk] [] B) Q := by
        intro mi hp5 hsg hmi
        rw [if_pos ⟨hp5, hsg⟩] at hok herx
        refine sw_ge (n196_384 hX) ?_
        simp only [sw_ite, (hB.W hA5).2.2.2, if_true, sw_bv]
        refine r181 hA5 hB op5 hp5 (fun B1 hB1 => ?_)
        simp only [sb_v, sw_bi]
        have onx := op5.nx
        have onxe := onx.1
        refine r200 hA5 (by omega) (by omega) hB1 onx (fun zh q1 g1 B2 hB2 hzh oq1 lq1 => ?_) (fun f g1 x B2 hB2 => ?_)
        rotate_left
        · rw [md_nb2] at g1
          simp only [sb_i, sw_bv, r201x hX hB2.ne, sw_some, sb_v]
          exact x423 (hB2.of hFA5) (herx (by simp only [md_two_er g1, bind, Except.bind]))
        rw [md_nb2] at g1
        have oq1e := oq1.1
        simp only [sb_i, sw_bv, hB2.2.2.2.2.1.1]
        refine r201 hA5 (by omega) (by omega) (by omega) hB2 oq1e onxe (fun hc => ?_) (fun hc B3 hB3 => ?_)
        rotate_left
        · simp only [sb_v]
          exact x423 (hB3.of hFA5) (herx (by simp only [md_two_no g1 hc, bind, Except.bind]))
        simp only [md_two_ye g1 hc, bind, Except.bind] at hok herx
        simp only [sb_v]
        refine sw_ge (n196_423 hX) ?_
        simp only [sw_ite, (hB2.W hA5).2.2.2, if_true, sw_bi]
        refine r200 hA5 (by omega) (by omega) hB2 oq1 (fun zm q2 g2 B3 hB3 hzm oq2 lq2 => ?_) (fun f g2 x B3 hB3 => ?_)
        rotate_left
        · rw [md_nb2] at g2
          simp only [sb_i, sw_bv, r201x hX hB3.ne, sw_some, sb_v]
          exact x452 (hB3.of hFA5) (herx (by simp only [md_two_er g2]))
        rw [md_nb2] at g2
        have oq2e := oq2.1
        simp only [sb_i, sw_bv, hB3.2.2.2.2.1.1]
        refine r201 hA5 (by omega) (by omega) (by omega) hB3 oq2e oq1e (fun hc2 => ?_) (fun hc2 B4 hB4 => ?_)
        rotate_left
        · simp only [sb_v]
          exact x452 (hB4.of hFA5) (herx (by simp only [md_two_no g2 hc2]))
        simp only [md_two_ye g2 hc2] at hok herx
        simp only [sb_v]
        refine sw_ge (n196_452 hX) ?_
        simp only [sw_bv]
        refine r199k hA5 hB3 oq2 (fun q3 g3 B4 oq3 lq3 hB4 => ?_) (fun f g3 B4 hB4 => ?_)
        rotate_left
        · simp only [sb_v, sw_bv, r191x hX hB4.ne, sw_some, sw_ite, hB4.ne, if_false]
          exact herx (by rw [g3]) B4 (hB4.of hFA5)
        simp only [g3] at hok herx
        simp only [sb_v, sw_bv]
        refine r191 hA5 hB4 oq3 (fun g4 => ?_) (fun f g4 B5 hB5 => ?_)
        rotate_left
        · simp only [sb_v, sw_ite, hB5.ne, if_false, sw_some]
          exact herx (by rw [g4]) B5 (hB5.of hFA5)
        simp only [g4] at hok herx
        simp only [sb_v, sw_ite, (hB4.W hA5).2.2.2, if_true, sw_bj, r204 (show 1 ≤ yr by omega) hyr hm (show d < 1000 by omega), sw_some, sb_j]
        rw [show (3 : Int64) = Int64.ofInt 3 from rfl, ← Int64.ofInt_add, tm7 (by omega) (by omega)]
        obtain ⟨t1, t2, t3, t4⟩ := tm7b (md_days yr m d + 3)
        -- written down
        have fin : ¬ (wd.any (fun (w : Nat) => (w : Int) != (md_days yr m d + 3) % 7) = true) → sw (sm_fx C 196 527 [.ref (X + 49), sm_junk, sm_junk, sm_junk, sm_junk, sm_junk, sm_junk, sm_junk, .int (ni hh), .int (ni mm), .int (ni ss), .int (md_b mi), .int (ni zh), .int (ni zm), .long (Int64.ofInt (md_days yr m d)), sm_junk, sm_junk] [] B4) Q := by
          intro hno
          rw [if_neg hno] at hok
          have n538 : ∀ (s1 : Int32) (v : Int), s1 * ni (60 * zh + zm) = Int32.ofInt v → -1440 < v → v < 1440 → (v = if T p5 = ni 45 then -((zh * 60 + zm : Nat) : Int) else ((zh * 60 + zm : Nat) : Int)) → sw (sm_fx C 196 538 [.ref (X + 49), sm_junk, sm_junk, sm_junk, sm_junk, sm_junk, sm_junk, sm_junk, .int (ni hh), .int (ni mm), .int (ni ss), sm_junk, .int (ni zh), .int (ni zm), .long (Int64.ofInt (md_days yr m d)), sm_junk, sm_junk] [.int s1, .ref (X + 49)] B4) Q := by
            intro s1 v hs1 hv1 hv2 hv
            refine sw_ge (n196_538 hX) ?_
            rw [ni_mul, ni_add, hs1, sw_some]
            have e39 : (sm_dI B4 (X + 49) 39 (Int32.ofInt v)).1 (X + 49) 39 = Int32.ofInt v := dI_eq
            rw [e39]
            have e1 : (86400 : Int64) * Int64.ofInt (md_days yr m d) + 3600 * (ni hh).toInt64 + 60 * (ni mm).toInt64 + (ni ss).toInt64 - 60 * (Int32.ofInt v).toInt64 = Int64.ofInt (86400 * md_days yr m d + ((hh * 3600 + mm * 60 + ss : Nat) : Int) - 60 * v) := by
              have e2 : (Int32.ofInt v).toInt64 = Int64.ofInt v := by
                rw [← Int64.ofInt_int32ToInt, Int32.toInt_ofInt_of_le (by omega) (by omega)]
              rw [e2, ni_64 (by omega), ni_64 (by omega), ni_64 (by omega), show (86400 : Int64) = Int64.ofInt 86400 from rfl, show (3600 : Int64) = Int64.ofInt 3600 from rfl, show (60 : Int64) = Int64.ofInt 60 from rfl, ← Int64.ofInt_mul, ← Int64.ofInt_mul, ← Int64.ofInt_mul, ← Int64.ofInt_mul, ← Int64.ofInt_add, ← Int64.ofInt_add, ← Int64.ofInt_add, ← Int64.ofInt_sub]
              exact congrArg Int64.ofInt (by omega)
            rw [e1]
            rw [← hv] at hok
            refine hok _ v rfl _ ⟨?_, fun c j hc => ?_, fun c j hc => ?_⟩ ⟨?_, fun k hk => ?_⟩ ?_ ?_
            · show B4.2.2 = D.2.2
              rw [hB4.1, hfr5.1, ← hD1]
            · show sm_up B4.2.1 (X + 49) 38 _ c j = _
              rw [up_ne hc, hB4.1, hfr5.1, ← hD1]
            · show sm_up B4.1 (X + 49) 39 _ c j = _
              rw [up_ne (fun g => hc (by unfold sDa; omega)), hB4.o (fun g => hc (Or.inl g)), hfr5.2 c j (fun g => hc (by unfold sLt at g; unfold sDa; omega)), ← hD1, dI_ne (fun g => hc (by unfold sDa; omega))]
            · show sm_up B4.1 (X + 49) 39 _ (X + 49) 20 = _
              rw [up_ne (by omega)]; exact hB4.2.2.1
            · show sm_up B4.1 (X + 49) 39 _ (X + 63) k = _
              rw [up_ne (by omega)]; exact hB4.2.2.2.1 k hk
            · show sm_up B4.2.1 (X + 49) 38 _ (X + 49) 38 = _
              rw [up_eq]
            · show sm_up B4.1 (X + 49) 39 _ (X + 49) 39 = _
              rw [up_eq]
          refine sw_ge (n196_527 hX) ?_
          simp only [sw_ite, md_b_0]
          by_cases h45 : T p5 = ni 45
          · rw [hmi, decide_eq_true h45, if_neg (fun z => nomatch z)]
            refine n538 _ (-((zh * 60 + zm : Nat) : Int)) ?_ (by omega) (by omega) (by rw [if_pos h45])
            rw [show sm_k (-1) = Int32.ofInt (-1) from rfl, ni_ofInt, ← Int32.ofInt_mul]
            exact congrArg Int32.ofInt (by omega)
          · rw [hmi, decide_eq_false h45, if_pos rfl]
            refine n538 _ ((zh * 60 + zm : Nat) : Int) ?_ (by omega) (by omega) (by rw [if_neg h45])
            rw [ni_mul, ni_ofInt]
            exact congrArg Int32.ofInt (by omega)
        have n508 : ∀ s0 : Int32, s0 = Int32.ofInt ((md_days yr m d + 3) % 7) → sw (sm_fx C 196 508 [.ref (X + 49), sm_junk, .int (md_wv wd), .int v3, sm_junk, sm_junk, sm_junk, sm_junk, .int (ni hh), .int (ni mm), .int (ni ss), .int (md_b mi), .int (ni zh), .int (ni zm), .long (Int64.ofInt (md_days yr m d)), sm_junk, sm_junk] [.int s0] B4) Q := by
          intro s0 hs0
          refine sw_ge (n196_508 hX) ?_
          simp only [sw_ite, sw_bv]
          cases hwd2 : wd with
          | none =>
            rw [if_pos (show md_wv none = sm_k (-1) from rfl)]
            exact fin (by rw [hwd2]; simp)
          | some w =>
            obtain ⟨hw7, hv3⟩ := hwd w hwd2
            rw [if_neg (show ¬ (md_wv (some w) = sm_k (-1)) by show ¬ (ni w = sm_k (-1)); rw [ni_ne_k (by omega)]; exact id)]
            have hiff : ni w = s0 ↔ (w : Int) = (md_days yr m d + 3) % 7 := by
              rw [hs0, ni_ofInt, ← Int32.toInt_inj, Int32.toInt_ofInt_of_le (by omega) (by omega), Int32.toInt_ofInt_of_le (by omega) (by omega)]
            by_cases hc9 : (w : Int) = (md_days yr m d + 3) % 7
            · rw [if_pos (show md_wv (some w) = s0 from hiff.mpr hc9)]
              exact fin (by rw [hwd2]; simp [hc9])
            · rw [if_neg (show ¬ md_wv (some w) = s0 from fun g => hc9 (hiff.mp g)), hv3, r162 hX (hB4.W hA5).2.2.2, sw_some]
              simp only [sb_v, sw_some]
              rw [hwd2, if_pos (by simp [hc9])] at herx
              exact herx rfl _ ((hB4.bad hA5 oq3.1 (by omega)).of hFA5)
        have hi0 : (ni 0 ≤ Int32.ofInt (md_days yr m d + 3 - (md_days yr m d + 3).tdiv 7 * 7)) = (0 ≤ md_days yr m d + 3 - (md_days yr m d + 3).tdiv 7 * 7) := by
          rw [Int32.le_iff_toInt_le, Int32.toInt_ofInt_of_le (by omega) (by omega), ni_toInt (by omega)]; rfl
        split
        · next g => rw [hi0] at g; exact n508 _ (by rw [t1 g])
        · next g =>
          rw [hi0] at g
          refine n508 _ ?_
          rw [ni_ofInt, ← Int32.ofInt_add]
          exact congrArg Int32.ofInt (by have := t2 (by omega); omega)
      have n356 : ∀ mi : Bool, mi = decide (p5 < y ∧ T p5 = ni 45) → sw (sm_fx C 196 356 [.ref (X + 49), sm_junk, .int (md_wv wd), .int v3, .int (ni d), sm_junk, .int (ni m), .int (ni yr), .int (ni hh), .int (ni mm), .int (ni ss), sm_junk, sm_junk, sm_junk, sm_junk, sm_junk, sm_junk] [.int (md_b mi)] B) Q := by
        intro mi hmi
        refine sw_ge (n196_356 hX) ?_
        simp only [sw_ite, (hB.W hA5).2.2.2, if_true, sw_bi, hB.cur hA5 op5e, sw_some, sb_i, md_cu_is (show 43 < 2147483648 by omega), md_b_0, sw_bv]
        by_cases h43 : p5 < y ∧ T p5 = ni 43
        · rw [if_pos h43]
          have hne : ¬ T p5 = ni 45 := by rw [h43.2]; decide
          rw [decide_eq_false (fun g => hne g.2)] at hmi
          exact n384 mi h43.1 (Or.inl h43.2) (by rw [hmi, decide_eq_false hne])
        · rw [if_neg h43]
          by_cases h45 : p5 < y ∧ T p5 = ni 45
          · rw [decide_eq_true h45] at hmi
            rw [if_neg (by rw [hmi]; exact fun g => nomatch g)]
            exact n384 mi h45.1 (Or.inr h45.2) (by rw [hmi, decide_eq_true h45.2])
          · rw [decide_eq_false h45] at hmi
            rw [if_pos hmi]
            rw [if_neg (fun g => g.2.elim (fun k => h43 ⟨g.1, k⟩) (fun k => h45 ⟨g.1, k⟩))] at herx
            refine r180b hA5 hB op5e (fun B1 hB1 => ?_)
            simp only [sb_v]
            exact x384 (hB1.of hFA5) (herx rfl)
      refine sw_ge (n196_342 hX) ?_
      simp only [sw_bi, hB.cur hA5 op5e, sw_some, sb_i, sw_ite, md_cu_is (show 45 < 2147483648 by omega)]
      by_cases h45 : p5 < y ∧ T p5 = ni 45
      · rw [if_pos h45]; exact n356 true (by rw [decide_eq_true h45])
      · rw [if_neg h45]; exact n356 false (by rw [decide_eq_false h45])
    -- the time
    have htm : ∀ {f : Nat}, md_time T y p8 = .error f → ∀ E', rX X D f E' → Q (.inl none) E' := fun g => herx (by rw [g])
    have hsp : ∀ {s p4 f : Nat}, md_time T y p8 = .ok (s, p4) → md_space T y 0 p4 = .error f → ∀ E', rX X D f E' → Q (.inl none) E' := fun g g' => herx (by simp only [g, g'])
    clear hok herx
    unfold md_time at htm n342 hsp
    refine r200 hA5 (by omega) (by omega) hE8 o8 (fun hh q1 g1 E9 hE9 hhb oq1 lq1 => ?_) (fun f g1 x E9 hE9 => ?_)
    rotate_left
    · rw [md_nb2] at g1
      simp only [sb_i]
      exact x211 (hE9.of hFA5) (htm (by simp only [md_two_er g1, bind, Except.bind]))
    rw [md_nb2] at g1
    have oq1e := oq1.1
    simp only [sb_i]
    refine sw_ge (n196_211 hX) ?_
    simp only [sw_bv, hE9.2.2.2.2.1.1]
    refine r201 hA5 (by omega) (by omega) (by omega) hE9 oq1e o8e (fun hc => ?_) (fun hc Ea hEa => ?_)
    rotate_left
    · simp only [sb_v, sw_bv, r199x hX hEa.ne, sw_some, r187x hX hEa.ne, sw_ite, hEa.ne, if_false]
      exact x258 (hEa.of hFA5) (htm (by simp only [md_two_no g1 hc, bind, Except.bind]))
    simp only [md_two_ye g1 hc, bind, Except.bind] at htm n342 hsp
    simp only [sb_v, sw_bv]
    refine r199k hA5 hE9 oq1 (fun q2 g2 Ea oq2 lq2 hEa => ?_) (fun f g2 Ea hEa => ?_)
    rotate_left
    · simp only [sb_v, sw_bv, r187x hX hEa.ne, sw_some, r199x hX hEa.ne, sw_ite, hEa.ne, if_false]
      exact x258 (hEa.of hFA5) (htm (by rw [g2]))
    simp only [g2] at htm n342 hsp
    simp only [sb_v, sw_bv]
    refine r187 hA5 hEa oq2 (by omega) (fun q3 g3 Eb hEb => ?_) (fun f g3 Eb hEb => ?_)
    rotate_left
    · simp only [sb_v, sw_bv, r199x hX hEb.ne, sw_some, sw_ite, hEb.ne, if_false]
      exact x258 (hEb.of hFA5) (htm (by rw [g3]))
    obtain ⟨oq3, lq3⟩ := md_eat_ok oq2 g3
    simp only [g3] at htm n342 hsp
    simp only [sb_v, sw_bv]
    refine r199k hA5 hEb oq3 (fun q4 g4 Ec oq4 lq4 hEc => ?_) (fun f g4 Ec hEc => ?_)
    rotate_left
    · simp only [sb_v, sw_ite, hEc.ne, if_false]
      exact x258 (hEc.of hFA5) (htm (by rw [g4]))
    simp only [g4] at htm n342 hsp
    have oq4e := oq4.1
    simp only [sb_v, sw_ite, (hEc.W hA5).2.2.2, if_true, sw_bi]
    refine r200 hA5 (by omega) (by omega) hEc oq4 (fun mm q5 g5 Ed hEd hmb oq5 lq5 => ?_) (fun f g5 x Ed hEd => ?_)
    rotate_left
    · rw [md_nb2] at g5
      simp only [sb_i]
      exact x258 (hEd.of hFA5) (htm (by simp only [md_two_er g5]))
    rw [md_nb2] at g5
    have oq5e := oq5.1
    simp only [sb_i]
    refine sw_ge (n196_258 hX) ?_
    simp only [sw_bv, hEd.2.2.2.2.1.1]
    refine r201 hA5 (by omega) (by omega) (by omega) hEd oq5e oq4e (fun hc5 => ?_) (fun hc5 Ee hEe => ?_)
    rotate_left
    · simp only [sb_v, sw_bv, r199x hX hEe.ne, sw_some, sw_ite, hEe.ne, if_false]
      exact x342 (hEe.of hFA5) (htm (by simp only [md_two_no g5 hc5]))
    simp only [md_two_ye g5 hc5] at htm n342 hsp
    simp only [sb_v, sw_bv]
    refine r199k hA5 hEd oq5 (fun q6 g6 Ee oq6 lq6 hEe => ?_) (fun f g6 Ee hEe => ?_)
    rotate_left
    · simp only [sb_v, sw_ite, hEe.ne, if_false]
      exact x342 (hEe.of hFA5) (htm (by rw [g6]))
    simp only [g6] at htm n342 hsp
    have oq6e := oq6.1
    simp only [sb_v, sw_ite, (hEe.W hA5).2.2.2, if_true, sw_bi, hEe.cur hA5 oq6e, sw_some, sb_i, md_cu_is (show 58 < 2147483648 by omega), sw_bv]
    by_cases h58 : q6 < y ∧ T q6 = ni 58
    · rw [if_pos h58]
      simp only [if_pos h58] at htm n342 hsp
      refine r181 hA5 hEe oq6 h58.1 (fun Ef hEf => ?_)
      simp only [sb_v, sw_bv]
      refine r199k hA5 hEf oq6.nx (fun q7 g7 Eg oq7 lq7 hEg => ?_) (fun f g7 Eg hEg => ?_)
      rotate_left
      · simp only [sb_v, sw_ite, hEg.ne, if_false]
        exact x323 (hEg.of hFA5) (htm (by rw [g7]))
      simp only [g7] at htm n342 hsp
      have oq7e := oq7.1
      simp only [sb_v, sw_ite, (hEg.W hA5).2.2.2, if_true, sw_bi]
      refine r200 hA5 (by omega) (by omega) hEg oq7 (fun ss q8 g8 Eh hEh hsb oq8 lq8 => ?_) (fun f g8 x Eh hEh => ?_)
      rotate_left
      · rw [md_nb2] at g8
        simp only [sb_i]
        exact x323 (hEh.of hFA5) (htm (by simp only [md_two_er g8]))
      rw [md_nb2] at g8
      have oq8e := oq8.1
      simp only [sb_i]
      refine sw_ge (n196_323 hX) ?_
      simp only [sw_bv, hEh.2.2.2.2.1.1]
      refine r201 hA5 (by omega) (by omega) (by omega) hEh oq8e oq7e (fun hc8 => ?_) (fun hc8 Ei hEi => ?_)
      rotate_left
      · simp only [sb_v, sw_bv, r199x hX hEi.ne, sw_some]
        exact x342 (hEi.of hFA5) (htm (by simp only [md_two_no g8 hc8]))
      simp only [md_two_ye g8 hc8] at htm n342 hsp
      simp only [sb_v, sw_bv]
      refine r199k hA5 hEh oq8 (fun q9 g9 Ei oq9 lq9 hEi => ?_) (fun f g9 Ei hEi => ?_)
      · simp only [sb_v]
        exact n342 hh mm ss q8 q9 Ei _ _ _ hc.2 hc5.2 hc8.2 rfl g9 oq9 hEi
      · simp only [sb_v]
        exact x342 (hEi.of hFA5) (hsp rfl g9)
    · rw [if_neg h58]
      simp only [if_neg h58] at htm n342 hsp
      have := n342 hh mm 0 q6 q6 Ee _ _ _ hc.2 hc5.2 (by omega) (by rw [Nat.add_zero]) (md_space_id y 0 q5 q6 (by omega) g6) oq6 hEe
      exact this
  by_cases hlt : p < y ∧ md_lt (T p) = true
  · rw [md_cu_lt hlt.1, hlt.2, if_neg (fun g => nomatch g)]
    have hwk : md_wkd T y p = (do
        let (w, q1) ← md_wd T y "montuewedthufrisatsun" p
        let q2 ← md_space T y 0 q1
        let q3 ← md_eat T y (ni 44) q2
        let q4 ← md_space T y 0 q3
        .ok (some w, q4)) := by unfold md_wkd; rw [if_pos hlt]
    unfold md_wd at hwk
    have hs7 : st C (C.1.1 59) (md_w "montuewedthufrisatsun") := st_tx hx 59 rfl rfl (by decide) (by decide)
    rw [sw_bv]
    refine r197 hW hE2 o1 (fun hne A5 E5 hfA5 hE5 hL5 => ?_) (fun hnil E5 hE5 => ?_)
    rotate_left
    · exfalso
      rw [md_lets, dif_pos hlt] at hnil
      cases hnil
    have hA5 := sLt_W hfA5 hW
    have hFA5 : rF X D A5 := hF1.trans (hfA5.Fr subL)
    obtain ⟨o5, l5, -, -⟩ := md_lets_ok o1
    have o5e := o5.1
    simp only [sb_v, sw_bi, hE5.2.2.2.2.1.1]
    have hL5' : LT X (md_lets T y p).1 E5 := ⟨by rw [hE5.o (by unfold rsc; omega)]; exact hL5.1, fun j hj => by rw [hE5.o (by unfold rsc; omega)]; exact hL5.2 j hj⟩
    refine r198 hA5 (M := 7) hs7 (by decide) hE5 o5e hL5' (p := p) rfl (by omega) (fun w h5 hw => ?_) (fun h5 x E6 hE6 => ?_)
    rotate_left
    · simp only [sb_i, sw_bv, r199x hX hE6.ne, sw_some, sb_v, r187x hX hE6.ne]
      exact x62 (hE6.of hFA5) (herx (by rw [hwk, h5]; rfl))
    simp only [h5, bind, Except.bind] at hwk
    simp only [sb_i, sw_bv]
    refine r199k hA5 hE5 o5 (fun q2 g2 E6 oq2 lq2 hE6 => ?_) (fun f g2 E6 hE6 => ?_)
    rotate_left
    · simp only [sb_v, sw_bv, r187x hX hE6.ne, sw_some, r199x hX hE6.ne]
      exact x62 (hE6.of hFA5) (herx (by rw [hwk, g2]))
    simp only [g2] at hwk
    simp only [sb_v, sw_bv]
    refine r187 hA5 hE6 oq2 (by omega) (fun q3 g3 E7 hE7 => ?_) (fun f g3 E7 hE7 => ?_)
    rotate_left
    · simp only [sb_v, sw_bv, r199x hX hE7.ne, sw_some]
      exact x62 (hE7.of hFA5) (herx (by rw [hwk, g3]))
    obtain ⟨oq3, lq3⟩ := md_eat_ok oq2 g3
    simp only [g3] at hwk
    simp only [sb_v, sw_bv]
    refine r199k hA5 hE7 oq3 (fun q4 g4 E8 oq4 lq4 hE8 => ?_) (fun f g4 E8 hE8 => ?_)
    · simp only [g4] at hwk
      simp only [sb_v]
      exact n62 (some w) q4 A5 E8 _ _ _ (ni p) hwk (fun w' hw' => by cases hw'; exact ⟨hw, rfl⟩) hA5 hfA5 oq4 hE8
    · simp only [sb_v]
      exact x62 (hE8.of hFA5) (herx (by rw [hwk, g4]))
  · have hfl : md_lt (md_cu T y p) = false := by
      by_cases hqe : p < y
      · rw [md_cu_lt hqe]
        cases hb : md_lt (T p)
        · rfl
        · exact absurd ⟨hqe, hb⟩ hlt
      · rw [md_cu_ge hqe]; exact md_lt_k
    rw [if_pos hfl]
    exact n62 none p D1 E2 _ _ _ (sm_k (-1)) (by unfold md_wkd; rw [if_neg hlt]) (fun w hw => by cases hw) hW fr.refl o1 hE2
end RGJ
