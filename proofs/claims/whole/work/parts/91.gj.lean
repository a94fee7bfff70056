/-! ===== the reference: a date ===== -/
theorem md_space_id {T : Nat → Int32} {e : Nat} : ∀ (m d q p : Nat), e - q ≤ m → md_space T e d q = .ok p → md_space T e 0 p = .ok p := by
  intro m
  induction m with
  | zero =>
    intro d q p hm h
    rw [md_space, dif_neg (by omega)] at h
    split at h
    · cases h
      rw [md_space, dif_neg (by omega), if_pos rfl]
    · cases h
  | succ m ih =>
    intro d q p hm h
    rw [md_space] at h
    split at h
    · next g =>
      have hlt := md_nx_lt (T := T) g
      split at h
      · split at h
        · cases h
        · exact ih _ _ _ (by omega) h
      · next g40 =>
        split at h
        · split at h
          · exact ih _ _ _ (by omega) h
          · next gb =>
            cases h
            rw [md_space, dif_pos g, if_neg g40, if_pos rfl, if_neg gb]
        · split at h
          · exact ih _ _ _ (by omega) h
          · split at h
            · split at h
              · next g2 =>
                have hlt2 := md_nx_lt (T := T) g2
                exact ih _ _ _ (by omega) h
              · cases h
            · exact ih _ _ _ (by omega) h
    · next g =>
      split at h
      · cases h
        rw [md_space, dif_neg g, if_pos rfl]
      · cases h
def sDa (X c j : Nat) : Prop := rsc X c j ∨ (c = X + 49 ∧ (j = 47 ∨ j = 51 ∨ j = 39)) ∨ c = X + 81
/-- as fr, but for the seconds -/
def frD (X : Nat) (D E : sm_D) : Prop := E.2.2 = D.2.2 ∧ (∀ c j, ¬ (c = X + 49 ∧ j = 38) → E.2.1 c j = D.2.1 c j) ∧ ∀ c j, ¬ sDa X c j → E.1 c j = D.1 c j
theorem tm7 {z : Int} (h1 : -4000000000000000000 < z) (h2 : z < 4000000000000000000) : (Int64.ofInt z - Int64.ofInt z / 7 * 7).toInt32 = Int32.ofInt (z - z.tdiv 7 * 7) := by
  have tz : (Int64.ofInt z).toInt = z := Int64.toInt_ofInt_of_le (by omega) (by omega)
  have hdiv : Int64.ofInt z / 7 = Int64.ofInt (z.tdiv 7) := by
    rw [← Int64.toInt_inj, Int64.toInt_div_of_ne_right _ _ (by decide), tz]
    have b : -(4000000000000000000) ≤ z.tdiv 7 ∧ z.tdiv 7 ≤ 4000000000000000000 := by
      rcases Classical.em (z < 0) with g | g
      · have : z = -(-z) := by omega
        rw [this, Int.neg_tdiv, Int.tdiv_eq_ediv_of_nonneg (by omega)]
        omega
      · rw [Int.tdiv_eq_ediv_of_nonneg (by omega)]; omega
    rw [Int64.toInt_ofInt_of_le (by omega) (by omega)]
    rfl
  have hm : Int64.ofInt z - Int64.ofInt z / 7 * 7 = Int64.ofInt (z - z.tdiv 7 * 7) := by
    rw [hdiv, Int64.ofInt_sub, Int64.ofInt_mul]; rfl
  rw [hm]
  exact Int64.toInt32_ofInt _
theorem tm7b (z : Int) : (0 ≤ z - z.tdiv 7 * 7 → z - z.tdiv 7 * 7 = z % 7) ∧ (z - z.tdiv 7 * 7 < 0 → z - z.tdiv 7 * 7 + 7 = z % 7) ∧ -7 < z - z.tdiv 7 * 7 ∧ z - z.tdiv 7 * 7 < 7 := by
  rcases Classical.em (z < 0) with g | g
  · have e1 : z.tdiv 7 = -((-z) / 7) := by
      have : z = -(-z) := by omega
      conv => lhs; rw [this]
      rw [Int.neg_tdiv, Int.tdiv_eq_ediv_of_nonneg (by omega)]
    rw [e1]
    omega
  · rw [Int.tdiv_eq_ediv_of_nonneg (by omega)]
    omega
section RGJ
variable {C : sm_K} {X N e q : Nat} {T : Nat → Int32} {D E : sm_D} {Q : (Option Value ⊕ Nat) → sm_D → Prop} {l : List Int32} {b a z : Int32}
theorem r199k (h : rW C X T N e D) (hs : RS X D q l b a z E) (hq : md_ok T e q)
    (hok : ∀ p, md_space T e 0 q = .ok p → ∀ E', md_ok T e p → q ≤ p → RS X D p l b a z E' → Q (.inl none) E') (her : ∀ f, md_space T e 0 q = .error f → ∀ E', rX X D f E' → Q (.inl none) E') : sw (sm_fe C 199 [.ref (X + 49)] E) Q :=
  r199 h hs hq (fun p hp E' hE => hok p hp E' (md_space_ok hq hp).1 (md_space_ok hq hp).2 hE) her
/-- two digits within a bound -/
theorem r2d (h : rW C X T N e D) {most : Nat} (hm : most < 100) (hs : RS X D q l b a z E) (hq : md_ok T e q) {K : Int32 → sm_D → Option sm_o}
    (hok : ∀ v p, md_two T e most q = .ok (v, p) → v ≤ most → md_ok T e p → q ≤ p → ∀ E', RS X D p l (ni q) a z E' → sw (K (ni v) E') Q) (her : ∀ f, md_two T e most q = .error f → ∀ x E', rX X D f E' → sw (K x E') Q) :
    sw (sm_fe C 200 [.ref (X + 49), .int (ni 2), .int (ni 2)] E) (fun v E1 => sb_i (fun x E2 => sm_bv (sm_fe C 201 [.ref (X + 49), .int x, .int (ni 0), .int (ni most), .int (E2.1 (X + 49) 50)] E2) (fun E3 => K x E3)) Q v E1) := by
  have hX := h.1.1
  have hqe := hq.1
  unfold md_two at hok her
  have hnn : md_nb T e 2 2 0 0 q = md_num T e 2 0 q := md_nb_num 2 0 0 q
  refine r200 h (by omega) (by omega) hs hq (fun v p h1 E1 hE1 hv op lp => ?_) (fun f h1 x E1 hE1 => ?_)
  · rw [hnn] at h1
    simp only [h1, bind, Except.bind] at hok her
    simp only [sb_i, sw_bv, hE1.2.2.2.2.1.1]
    refine r201 h (by omega) (by omega) (by omega) hE1 op.1 hqe (fun hc => ?_) (fun hc E2 hE2 => ?_)
    · simp only [sb_v]
      rw [if_neg (by omega)] at hok
      exact hok v p rfl hc.2 op lp E1 hE1
    · simp only [sb_v]
      rw [if_pos (by omega)] at her
      exact her q rfl _ E2 hE2
  · rw [hnn] at h1
    simp only [h1, bind, Except.bind] at her
    simp only [sb_i, sw_bv, r201x hX hE1.ne, sw_some, sb_v]
    exact her f rfl x E1 hE1
theorem r196 (h : rH C X T N D) (h8 : D.1 (X + 49) 8 = sm_k (-1)) (hT : RT X l D) {f c y : Nat} (hf : FT X T N f c y D)
    (hok : ∀ s v, md_date T y (md_go T y (c + 1)) = .ok (s, v) → ∀ E', frD X D E' → RT X l E' → E'.2.1 (X + 49) 38 = Int64.ofInt s → E'.1 (X + 49) 39 = Int32.ofInt v → Q (.inl none) E')
    (her : ∀ f, md_date T y (md_go T y (c + 1)) = .error f → ∀ E', rE X D f E' → Q (.inl none) E') :
    sw (sm_fe C 196 [.ref (X + 49), .int (ni f)] D) Q := by
  have hX := h.1
  have hx := h.2.1
  have hN := h.2.2.1
  have hyN := hf.2.2.2.2.1
  have hro := hf.ro
  -- with a fault
  have x452 : ∀ {E : sm_D} {f : Nat} {v2 v3 v4 v6 v7 v8 v9 v10 v11 v12 v13 : Int32}, rX X D f E → (∀ E', rX X D f E' → Q (.inl none) E') → sw (sm_fx C 196 452 [.ref (X + 49), sm_junk, .int v2, .int v3, .int v4, sm_junk, .int v6, .int v7, .int v8, .int v9, .int v10, .int v11, .int v12, .int v13, sm_junk, sm_junk, sm_junk] [] E) Q := by
    intro E f v2 v3 v4 v6 v7 v8 v9 v10 v11 v12 v13 hE hQ
    refine sw_ge (n196_452 hX) ?_
    simp only [sw_bv, r199x hX hE.ne, sw_some, sb_v, r191x hX hE.ne, sw_ite, hE.ne, if_false]
    exact hQ E hE
  have x423 : ∀ {E : sm_D} {f : Nat} {v2 v3 v4 v6 v7 v8 v9 v10 v11 v12 v13 : Int32}, rX X D f E → (∀ E', rX X D f E' → Q (.inl none) E') → sw (sm_fx C 196 423 [.ref (X + 49), sm_junk, .int v2, .int v3, .int v4, sm_junk, .int v6, .int v7, .int v8, .int v9, .int v10, .int v11, .int v12, .int v13, sm_junk, sm_junk, sm_junk] [] E) Q := by
    intro E f v2 v3 v4 v6 v7 v8 v9 v10 v11 v12 v13 hE hQ
    refine sw_ge (n196_423 hX) ?_
    simp only [sw_ite, hE.ne, if_false]
    exact x452 hE hQ
  have x384 : ∀ {E : sm_D} {f : Nat} {v2 v3 v4 v6 v7 v8 v9 v10 v11 : Int32}, rX X D f E → (∀ E', rX X D f E' → Q (.inl none) E') → sw (sm_fx C 196 384 [.ref (X + 49), sm_junk, .int v2, .int v3, .int v4, sm_junk, .int v6, .int v7, .int v8, .int v9, .int v10, .int v11, sm_junk, sm_junk, sm_junk, sm_junk, sm_junk] [] E) Q := by
    intro E f v2 v3 v4 v6 v7 v8 v9 v10 v11 hE hQ
    refine sw_ge (n196_384 hX) ?_
    simp only [sw_ite, hE.ne, if_false]
    exact x423 hE hQ
  have x342 : ∀ {E : sm_D} {f : Nat} {v2 v3 v4 v6 v7 v8 v9 v10 : Int32}, rX X D f E → (∀ E', rX X D f E' → Q (.inl none) E') → sw (sm_fx C 196 342 [.ref (X + 49), sm_junk, .int v2, .int v3, .int v4, sm_junk, .int v6, .int v7, .int v8, .int v9, .int v10, sm_junk, sm_junk, sm_junk, sm_junk, sm_junk, sm_junk] [] E) Q := by
    intro E f v2 v3 v4 v6 v7 v8 v9 v10 hE hQ
    have x356 : ∀ s : Int32, sw (sm_fx C 196 356 [.ref (X + 49), sm_junk, .int v2, .int v3, .int v4, sm_junk, .int v6, .int v7, .int v8, .int v9, .int v10, sm_junk, sm_junk, sm_junk, sm_junk, sm_junk, sm_junk] [.int s] E) Q := by
      intro s
      refine sw_ge (n196_356 hX) ?_
      simp only [sw_ite, hE.ne, if_false]
      exact x384 hE hQ
    refine sw_ge (n196_342 hX) ?_
    simp only [sw_bi]
    refine r179x hX hE (fun x => ?_)
    simp only [sb_i, sw_ite]
    split <;> exact x356 _
  have x323 : ∀ {E : sm_D} {f : Nat} {v2 v3 v4 v6 v7 v8 v9 s : Int32}, rX X D f E → (∀ E', rX X D f E' → Q (.inl none) E') → sw (sm_fx C 196 323 [.ref (X + 49), sm_junk, .int v2, .int v3, .int v4, sm_junk, .int v6, .int v7, .int v8, .int v9, sm_junk, sm_junk, sm_junk, sm_junk, sm_junk, sm_junk, sm_junk] [.int s] E) Q := by
    intro E f v2 v3 v4 v6 v7 v8 v9 s hE hQ
    refine sw_ge (n196_323 hX) ?_
    simp only [sw_bv, r201x hX hE.ne, sw_some, sb_v, r199x hX hE.ne]
    exact x342 hE hQ
  have x258 : ∀ {E : sm_D} {f : Nat} {v2 v3 v4 v6 v7 v8 s : Int32}, rX X D f E → (∀ E', rX X D f E' → Q (.inl none) E') → sw (sm_fx C 196 258 [.ref (X + 49), sm_junk, .int v2, .int v3, .int v4, sm_junk, .int v6, .int v7, .int v8, sm_junk, sm_junk, sm_junk, sm_junk, sm_junk, sm_junk, sm_junk, sm_junk] [.int s] E) Q := by
    intro E f v2 v3 v4 v6 v7 v8 s hE hQ
    refine sw_ge (n196_258 hX) ?_
    simp only [sw_bv, r201x hX hE.ne, sw_some, sb_v, r199x hX hE.ne, sw_ite, hE.ne, if_false]
    exact x342 hE hQ
  have x211 : ∀ {E : sm_D} {f : Nat} {v2 v3 v4 v6 v7 s : Int32}, rX X D f E → (∀ E', rX X D f E' → Q (.inl none) E') → sw (sm_fx C 196 211 [.ref (X + 49), sm_junk, .int v2, .int v3, .int v4, sm_junk, .int v6, .int v7, sm_junk, sm_junk, sm_junk, sm_junk, sm_junk, sm_junk, sm_junk, sm_junk, sm_junk] [.int s] E) Q := by
    intro E f v2 v3 v4 v6 v7 s hE hQ
    refine sw_ge (n196_211 hX) ?_
    simp only [sw_bv, r201x hX hE.ne, sw_some, sb_v, r199x hX hE.ne, r187x hX hE.ne, sw_ite, hE.ne, if_false]
    exact x258 hE hQ
  have x189 : ∀ {E : sm_D} {f : Nat} {v2 v3 v4 v6 v7 : Int32}, rX X D f E → (∀ E', rX X D f E' → Q (.inl none) E') → sw (sm_fx C 196 189 [.ref (X + 49), sm_junk, .int v2, .int v3, .int v4, sm_junk, .int v6, .int v7, sm_junk, sm_junk, sm_junk, sm_junk, sm_junk, sm_junk, sm_junk, sm_junk, sm_junk] [] E) Q := by
    intro E f v2 v3 v4 v6 v7 hE hQ
    refine sw_ge (n196_189 hX) ?_
    simp only [sw_bv, r199x hX hE.ne, sw_some, sb_v, sw_ite, hE.ne, if_false]
    exact x211 hE hQ
  have x147 : ∀ {E : sm_D} {f : Nat} {v2 v3 v4 v5 v6 s : Int32}, rX X D f E → (∀ E', rX X D f E' → Q (.inl none) E') → sw (sm_fx C 196 147 [.ref (X + 49), sm_junk, .int v2, .int v3, .int v4, .int v5, .int v6, sm_junk, sm_junk, sm_junk, sm_junk, sm_junk, sm_junk, sm_junk, sm_junk, sm_junk, sm_junk] [.int s] E) Q := by
    intro E f v2 v3 v4 v5 v6 s hE hQ
    refine sw_ge (n196_147 hX) ?_
    simp only [sw_bv, r201x hX hE.ne, sw_some, sb_v, sw_ite, hE.ne, if_false]
    exact x189 hE hQ
  have x123 : ∀ {E : sm_D} {f : Nat} {v2 v3 v4 v5 s : Int32}, rX X D f E → (∀ E', rX X D f E' → Q (.inl none) E') → sw (sm_fx C 196 123 [.ref (X + 49), sm_junk, .int v2, .int v3, .int v4, .int v5, sm_junk, sm_junk, sm_junk, sm_junk, sm_junk, sm_junk, sm_junk, sm_junk, sm_junk, sm_junk, sm_junk] [.int s] E) Q := by
    intro E f v2 v3 v4 v5 s hE hQ
    refine sw_ge (n196_123 hX) ?_
    simp only [sw_bv, r199x hX hE.ne, sw_some, sb_v, sw_ite, hE.ne, if_false]
    exact x147 hE hQ
  have x104 : ∀ {E : sm_D} {f : Nat} {v2 v3 v4 v5 : Int32}, rX X D f E → (∀ E', rX X D f E' → Q (.inl none) E') → sw (sm_fx C 196 104 [.ref (X + 49), sm_junk, .int v2, .int v3, .int v4, .int v5, sm_junk, sm_junk, sm_junk, sm_junk, sm_junk, sm_junk, sm_junk, sm_junk, sm_junk, sm_junk, sm_junk] [] E) Q := by
    intro E f v2 v3 v4 v5 hE hQ
    refine sw_ge (n196_104 hX) ?_
    simp only [sw_ite, hE.ne, if_false]
    exact x123 hE hQ
  have x80 : ∀ {E : sm_D} {f : Nat} {v2 v3 s : Int32}, rX X D f E → (∀ E', rX X D f E' → Q (.inl none) E') → sw (sm_fx C 196 80 [.ref (X + 49), sm_junk, .int v2, .int v3, sm_junk, sm_junk, sm_junk, sm_junk, sm_junk, sm_junk, sm_junk, sm_junk, sm_junk, sm_junk, sm_junk, sm_junk, sm_junk] [.int s] E) Q := by
    intro E f v2 v3 s hE hQ
    refine sw_ge (n196_80 hX) ?_
    simp only [sw_bv, r199x hX hE.ne, sw_some, sb_v, sw_ite, hE.ne, if_false]
    exact x104 hE hQ
  have x62 : ∀ {E : sm_D} {f : Nat} {v2 v3 : Int32}, rX X D f E → (∀ E', rX X D f E' → Q (.inl none) E') → sw (sm_fx C 196 62 [.ref (X + 49), sm_junk, .int v2, .int v3, sm_junk, sm_junk, sm_junk, sm_junk, sm_junk, sm_junk, sm_junk, sm_junk, sm_junk, sm_junk, sm_junk, sm_junk, sm_junk] [] E) Q := by
    intro E f v2 v3 hE hQ
    refine sw_ge (n196_62 hX) ?_
    simp only [sw_ite, hE.ne, if_false]
    exact x80 hE hQ
  have subL : ∀ c j, sLt X c j → rRR X c j := by intro c j; unfold sLt rRR; omega
  have herx : ∀ {f : Nat}, md_date T y (md_go T y (c + 1)) = .error f → ∀ E', rX X D f E' → Q (.inl none) E' := fun hf E' hE => her _ hf E' hE.1
  unfold md_date at hok herx
  refine sw_ge (f196 hX) ?_
  simp only [sw_bv]
  refine r176' h h8 hT hf (fun E1 hW hE1 => ?_)
  have hF1 : rF X D (sm_dI D (X + 49) 47 (ni y)) := rF.refl.dI (Or.inl (by omega))
  generalize hD1 : sm_dI D (X + 49) 47 (ni y) = D1 at hW hE1 hF1
  simp only [sb_v, sw_bv]
  refine r178 hW hE1 hro.1 (fun p h1 E2 hE2 => ?_) (fun f h1 E2 hE2 => ?_)
  rotate_left
  · simp only [sb_v, sw_ite, hE2.ne, if_false]
    exact x62 (hE2.of hF1) (herx (by rw [h1]; rfl))
  obtain ⟨o1, l1⟩ := md_space_ok hro.1 h1
  have o1e := o1.1
  simp only [h1, bind, Except.bind] at hok herx
  simp only [sb_v, sw_ite, (hE2.W hW).2.2.2, if_true, sw_bi, hE2.cur hW o1e, sw_some, sb_i, r185, md_b_0]
  -- behind the weekday
  have n62 : ∀ (wd : Option Nat) (p1 : Nat) (A B : sm_D) (b a z v3 : Int32), md_wkd T y p = .ok (wd, p1) → (∀ w, wd = some w → w < 7 ∧ v3 = ni p) → rW C X T N y A → fr (sLt X) D1 A → md_ok T y p1 → RS X A p1 l b a z B → sw (sm_fx C 196 62 [.ref (X + 49), sm_junk, .int (match wd with | some w => ni w | none => sm_k (-1)), .int v3, sm_junk, sm_junk, sm_junk, sm_junk, sm_junk, sm_junk, sm_junk, sm_junk, sm_junk, sm_junk, sm_junk, sm_junk, sm_junk] [] B) Q := by
    intro wd p1 A B b a z v3 h2 hwd hA hfA o2 hB
    have o2e := o2.1
    have hFA : rF X D A := hF1.trans (hfA.Fr subL)
    simp only [h2] at hok herx
    unfold md_dmy at hok herx
    refine sw_ge (n196_62 hX) ?_
    simp only [sw_ite, (hB.W hA).2.2.2, if_true, sw_bi]
    have hnb := md_nb_12 (T := T) (e := y) (p := p1)
    -- a day that stands
    have day : ∀ (d p3 : Nat), md_nb T y 1 2 0 0 p1 = .ok (d, p3) → (do let (d0, p2) ← md_num T y 1 0 p1; let (d, p3) ← (if p2 < y ∧ md_dg (T p2) = true then md_num T y 1 d0 p2 else .ok (d0, p2)); md_dmy2 T y p1 d p3) = md_dmy2 T y p1 d p3 := by
      intro d p3 hd
      rw [hnb] at hd
      cases h4 : md_num T y 1 0 p1 with
      | error x => rw [h4] at hd; cases hd
      | ok r =>
        obtain ⟨d0, p2⟩ := r
        rw [h4] at hd
        simp only [bind, Except.bind]
        dsimp only at hd
        rw [hd]
    have dayE : ∀ (f : Nat), md_nb T y 1 2 0 0 p1 = .error f → (do let (d0, p2) ← md_num T y 1 0 p1; let (d, p3) ← (if p2 < y ∧ md_dg (T p2) = true then md_num T y 1 d0 p2 else .ok (d0, p2)); md_dmy2 T y p1 d p3) = .error f := by
      intro f hd
      rw [hnb] at hd
      cases h4 : md_num T y 1 0 p1 with
      | error x => rw [h4] at hd; cases hd; rfl
      | ok r =>
        obtain ⟨d0, p2⟩ := r
        rw [h4] at hd
        simp only [bind, Except.bind]
        dsimp only at hd
        rw [hd]
    refine r200 hA (by omega) (by omega) hB o2 (fun d p3 h3 E3 hE3 hd o3 l3 => ?_) (fun f h3 x E3 hE3 => ?_)
    rotate_left
    · simp only [sb_i]
      refine x80 (hE3.of hFA) (herx ?_)
      have := dayE f h3
      simp only [bind, Except.bind] at this
      rw [this]
    have hday := day d p3 h3
    simp only [bind, Except.bind] at hday
    rw [hday] at hok herx
    simp only [sb_i]
    refine sw_ge (n196_80 hX) ?_
    simp only [sw_bv, hE3.2.2.2.2.1.1]
    unfold md_dmy2 at hok herx
    refine r199k hA hE3 o3 (fun p4 h4 E4 o4 l4 hE4 => ?_) (fun f h4 E4 hE4 => ?_)
    rotate_left
    · simp only [sb_v, sw_ite, hE4.ne, if_false]
      exact x104 (hE4.of hFA) (herx (by simp only [h4, bind, Except.bind]))
    have o4e := o4.1
    simp only [h4, bind, Except.bind] at hok herx
    simp only [sb_v, sw_ite, (hE4.W hA).2.2.2, if_true, sw_bv]
    unfold md_wd at hok herx
    have hs12 : st C (C.1.1 60) (md_w "janfebmaraprmayjunjulaugsepoctnovdec") := st_tx hx 60 rfl rfl (by decide) (by decide)
    refine r197 hA hE4 o4 (fun hne A5 E5 hfA5 hE5 hL5 => ?_) (fun hnil E5 hE5 => ?_)
    rotate_left
    · simp only [sb_v]
      exact x104 (hE5.of hFA) (herx (by rw [hnil]; rfl))
    have hA5 := sLt_W hfA5 hA
    have hFA5 : rF X D A5 := hFA.trans (hfA5.Fr subL)
    have hfr5 : fr (sLt X) D1 A5 := hfA.trans hfA5
    obtain ⟨o5, l5, -, -⟩ := md_lets_ok o4
    have o5e := o5.1
    simp only [sb_v]
    refine sw_ge (n196_104 hX) ?_
    simp only [sw_ite, (hE5.W hA5).2.2.2, if_true, sw_bi]
    have hL5' : LT X (md_lets T y p4).1 E5 := ⟨by rw [hE5.o (by unfold rsc; omega)]; exact hL5.1, fun j hj => by rw [hE5.o (by unfold rsc; omega)]; exact hL5.2 j hj⟩
    refine r198 hA5 (M := 12) hs12 (by decide) hE5 o5e hL5' (p := p4) rfl (by omega) (fun m h5 hm => ?_) (fun h5 x E6 hE6 => ?_)
    rotate_left
    · simp only [sb_i]
      exact x123 (hE6.of hFA5) (herx (by rw [h5]))
    simp only [h5] at hok herx
    simp only [sb_i]
    refine sw_ge (n196_123 hX) ?_
    simp only [sw_bv]
    refine r199k hA5 hE5 o5 (fun p6 h6 E6 o6 l6 hE6 => ?_) (fun f h6 E6 hE6 => ?_)
    rotate_left
    · simp only [sb_v, sw_ite, hE6.ne, if_false]
      exact x147 (hE6.of hFA5) (herx (by rw [h6]))
    have o6e := o6.1
    simp only [h6] at hok herx
    simp only [sb_v, sw_ite, (hE6.W hA5).2.2.2, if_true, sw_bi]
    have hnn : md_nb T y 4 4 0 0 p6 = md_num T y 4 0 p6 := md_nb_num 4 0 0 p6
    refine r200 hA5 (by omega) (by omega) hE6 o6 (fun yr p7 h7 E7 hE7 hyr o7 l7 => ?_) (fun f h7 x E7 hE7 => ?_)
    rotate_left
    · rw [hnn] at h7
      simp only [sb_i]
      exact x147 (hE7.of hFA5) (herx (by rw [h7]))
    rw [hnn] at h7
    have o7e := o7.1
    simp only [h7] at hok herx
    simp only [sb_i]
    refine sw_ge (n196_147 hX) ?_
    simp only [sw_bv, hE7.2.2.2.2.1.1]
    refine r201 hA5 (by omega) (by omega) (by omega) hE7 o7e o6e (fun hc => ?_) (fun hc E8 hE8 => ?_)
    rotate_left
    · simp only [sb_v, sw_ite, hE8.ne, if_false]
      exact x189 (hE8.of hFA5) (herx (by rw [if_pos (by omega)]))
    rw [if_neg (show ¬ yr < 1600 by omega)] at hok herx
    have hdl := md_dom_le m yr
    simp only [sb_v, sw_ite, (hE7.W hA5).2.2.2, if_true, sw_bi, r202 (show m < 2147483648 by omega) hyr, sw_some, sb_i, sw_bv]
    refine r201 hA5 (by omega) (by omega) (by omega) hE7 o7e o2e (fun hc2 => ?_) (fun hc2 E8 hE8 => ?_)
    rotate_left
    · simp only [sb_v]
      exact x189 (hE8.of hFA5) (herx (by rw [if_pos (by omega)]))
    rw [if_neg (by omega)] at hok herx
    simp only [sb_v]
    have hdb := md_days_b hyr hm (show d ≤ 31 by omega)
    refine sw_ge (n196_189 hX) ?_
    simp only [sw_bv]
    refine r199k hA5 hE7 o7 (fun p8 h8' E8 o8 l8 hE8 => ?_) (fun f h8' E8 hE8 => ?_)
    rotate_left
    · simp only [sb_v, sw_ite, hE8.ne, if_false]
      exact x211 (hE8.of hFA5) (herx (by rw [h8']))
    simp only [h8'] at hok herx
    simp only [sb_v, sw_ite, (hE8.W hA5).2.2.2, if_true, sw_bi]
    unfold md_time at hok herx
    have o8e := o8.1
    -- the hour
    refine sw_imp (R := fun v E1 => sb_i (fun x E2 => sm_bv (sm_fe C 201 [.ref (X + 49), .int x, .int (ni 0), .int (ni 23), .int (E2.1 (X + 49) 50)] E2) (fun D1 => sm_bv (sm_fe C 199 [.ref (X + 49)] D1) (fun D2 => sm_bv (sm_fe C 187 [.ref (X + 49), .int (ni 58)] D2) (fun D3 => sm_bv (sm_fe C 199 [.ref (X + 49)] D3) (fun D4 => if (D4.1 (X + 49) 8) = (sm_k (-1)) then sm_bi (sm_fe C 200 [.ref (X + 49), .int (ni 2), .int (ni 2)] D4) (fun x0 D5 => sm_fx C 196 258 [.ref (X + 49), sm_junk, .int (match wd with | some w => ni w | none => sm_k (-1)), .int v3, .int (ni d), sm_junk, .int (ni m), .int (ni yr), .int x, sm_junk, sm_junk, sm_junk, sm_junk, sm_junk, sm_junk, sm_junk, sm_junk] [.int x0] D5) else sm_fx C 196 258 [.ref (X + 49), sm_junk, .int (match wd with | some w => ni w | none => sm_k (-1)), .int v3, .int (ni d), sm_junk, .int (ni m), .int (ni yr), .int x, sm_junk, sm_junk, sm_junk, sm_junk, sm_junk, sm_junk, sm_junk, sm_junk] [.int (ni 0)] D4))))) Q v E1) ?_ (fun v E1 hv => ?_)
    rotate_left
    · unfold sb_i at hv ⊢
      split
      · next x =>
        have hv' : sw (sm_bv (sm_fe C 201 [.ref (X + 49), .int x, .int (ni 0), .int (ni 23), .int (E1.1 (X + 49) 50)] E1) _) Q := hv
        exact sw_ge (n196_211 hX) hv'
      · exact hv
      · next g1 g2 => split at hv <;> first | exact hv | exact absurd rfl (g1 _) | exact absurd rfl (g2 _)
    refine r2d hA5 (by omega) hE8 o8 (fun hh q1 g1 hh23 oq1 lq1 E9 hE9 => ?_) (fun f g1 x E9 hE9 => ?_)
    rotate_left
    · simp only [sw_bv, r199x hX hE9.ne, sw_some, sb_v, r187x hX hE9.ne, sw_ite, hE9.ne, if_false]
      exact x258 (hE9.of hFA5) (herx (by simp only [g1, bind, Except.bind]))
    simp only [g1, bind, Except.bind] at hok herx
    simp only [sw_bv]
    refine r199k hA5 hE9 oq1 (fun q2 g2 Ea oq2 lq2 hEa => ?_) (fun f g2 Ea hEa => ?_)
    rotate_left
    · simp only [sb_v, sw_bv, r187x hX hEa.ne, sw_some, r199x hX hEa.ne, sw_ite, hEa.ne, if_false]
      exact x258 (hEa.of hFA5) (herx (by rw [g2]))
    simp only [g2] at hok herx
    simp only [sb_v, sw_bv]
    refine r187 hA5 hEa oq2 (by omega) (fun q3 g3 Eb hEb => ?_) (fun f g3 Eb hEb => ?_)
    rotate_left
    · simp only [sb_v, sw_bv, r199x hX hEb.ne, sw_some, sw_ite, hEb.ne, if_false]
      exact x258 (hEb.of hFA5) (herx (by rw [g3]))
    obtain ⟨oq3, lq3⟩ := md_eat_ok oq2 g3
    simp only [g3] at hok herx
    simp only [sb_v, sw_bv]
    refine r199k hA5 hEb oq3 (fun q4 g4 Ec oq4 lq4 hEc => ?_) (fun f g4 Ec hEc => ?_)
    rotate_left
    · simp only [sb_v, sw_ite, hEc.ne, if_false]
      exact x258 (hEc.of hFA5) (herx (by rw [g4]))
    simp only [g4] at hok herx
    simp only [sb_v, sw_ite, (hEc.W hA5).2.2.2, if_true, sw_bi]
    sorry
  sorry
end RGJ
