section RGD
variable {C : sm_K} {X N e q : Nat} {T : Nat → Int32} {D E F : sm_D} {Q : (Option Value ⊕ Nat) → sm_D → Prop} {l : List Int32} {b a z : Int32}
theorem r179x (hX : sm_Lay C X) {f : Nat} (h : rX X D f E) (hq : ∀ x, Q (.inl (some (.int x))) E) : sw (sm_fe C 179 [.ref (X + 49)] E) Q := by
  obtain ⟨h1, p, e', a1, a2, a3, a4⟩ := h
  refine sw_ge (f179 hX) ?_
  simp (disch := omega) only [sw_ite, sw_some, sw_bi, a3, a4, ni_le]
  split
  · exact hq _
  · next g =>
    refine sw_ge (f161 hX) ?_
    simp (disch := omega) only [sw_gu, ni_in, ni_nat, sw_some, sb_i]
    exact ⟨decide_eq_true (by omega), hq _⟩
theorem rS.mv {f p : Nat} (h : rS X D f E) (hp : p ≤ 9000) : rS X D f (sm_dI E (X + 49) 46 (ni p)) := by
  obtain ⟨h1, h2, ⟨p', e', a1, a2, a3, a4⟩, h4, h5⟩ := h
  exact ⟨h1, by rw [dI_ne (by omega)]; exact h2, ⟨p, e', hp, a2, dI_eq, by rw [dI_ne (by omega)]; exact a4⟩, h4, fun c' j' hc' hj' => by rw [dI_ne (fun z => hc' (by unfold rsc; omega))]; exact h5 c' j' hc' hj'⟩
theorem r177x (hX : sm_Lay C X) {f e' : Nat} (he : e' ≤ 8000) : ∀ (m p : Nat) (E : sm_D), e' - p ≤ m → p ≤ 8900 → rS X D f E → E.1 (X + 49) 46 = ni p → E.1 (X + 49) 47 = ni e' → (∀ E', rS X D f E' → Q (.inl none) E') → sw (sm_fx C 177 0 [.ref (X + 49)] [] E) Q := by
  intro m
  induction m with
  | zero =>
    intro p E hm hp hE h46 h47 hq
    refine sw_ge (n177_0 hX) ?_
    simp (disch := omega) only [sw_ite, sw_some, h46, h47, ni_le]
    rw [if_pos (by omega)]
    exact hq E hE
  | succ m ih =>
    intro p E hm hp hE h46 h47 hq
    refine sw_ge (n177_0 hX) ?_
    simp (disch := omega) only [sw_ite, sw_some, h46, h47, ni_le, sw_bi]
    by_cases h1 : e' ≤ p
    · rw [if_pos h1]
      exact hq E hE
    · rw [if_neg h1]
      refine sw_ge (f161 hX) ?_
      simp (disch := omega) only [sw_gu, ni_in, ni_nat, sw_some, sb_i, sw_ite]
      refine ⟨decide_eq_true (by omega), ?_⟩
      split
      · rw [h46, ni_add]
        exact ih (p + 2) _ (by omega) (by omega) (hE.mv (by omega)) dI_eq (by rw [dI_ne (by omega)]; exact h47) hq
      · exact hq E hE
theorem r181x (hX : sm_Lay C X) {f p e' : Nat} (he : e' ≤ 8000) (hp : p ≤ 8800) (h : rS X D f E) (h46 : E.1 (X + 49) 46 = ni p) (h47 : E.1 (X + 49) 47 = ni e') (hq : ∀ E', rS X D f E' → Q (.inl none) E') : sw (sm_fe C 181 [.ref (X + 49)] E) Q := by
  refine sw_ge (f181 hX) ?_
  simp only [sw_bv, h46, ni_add]
  refine sw_ge (f177 hX) ?_
  refine r177x hX he e' (p + 1) _ (by omega) (by omega) (h.mv (by omega)) dI_eq (by rw [dI_ne (by omega)]; exact h47) (fun E' hE => ?_)
  simp only [sb_v, sw_some]
  exact hq E' hE
/-! quoted -/
theorem r190_22 (h : rW C X T N e D) {lim : Nat} (hlim : lim ≤ 8000) : ∀ (m n q : Nat) (l : List Int32) (E : sm_D), e - q ≤ m → n ≤ lim → l.length + (e - q) ≤ 24000 → ro T e q → RS X D q l b a z E →
    (∀ xs p, md_quo T e lim n q = .ok (xs, p) → ∀ E', RS X D p (l ++ xs) b a (ni (n + xs.length)) E' → Q (.inl none) E') → (∀ f, md_quo T e lim n q = .error f → ∀ E', rS X D f E' → Q (.inl none) E') →
    sw (sm_fx C 190 22 [.ref (X + 49), .int (ni lim), .int (ni n)] [] E) Q := by
  have hX := h.1.1
  have hN := h.1.2.2.1
  have he := h.2.1
  have flt : ∀ {q : Nat} {l : List Int32} {E : sm_D} {v1 v2 : Int32}, q ≤ e → RS X D q l b a z E → (∀ E', rS X D q E' → Q (.inl none) E') → sw (sm_fe C 180 [.ref (X + 49)] E) (sb_v (fun D1 => sm_fx C 190 22 [.ref (X + 49), .int v1, .int v2] [] D1) Q) := by
    intro q l E v1 v2 hqe hs hQ
    refine r180 h hs hqe ?_
    have hb := hs.bad h hqe (f := q) (by omega)
    simp only [sb_v]
    refine sw_ge (n190_22 hX) ?_
    simp only [sw_ite, hb.ne, if_false]
    refine sw_ge (n190_105 hX) ?_
    simp only [sw_bv]
    refine r181x hX (p := q) (e' := e) (by omega) (by omega) hb (by rw [dI_ne (by omega)]; exact hs.2.1) (by rw [dI_ne (by omega)]; exact (hs.W h).2.2.1) (fun E' hE => ?_)
    simp only [sb_v, sw_some]
    exact hQ _ (hE.dI (Or.inl (by omega)) (by omega))
  have ends : ∀ {n q : Nat} {l : List Int32} {E : sm_D}, ro T e q → ¬ q < e → RS X D q l b a z E → (∀ f, md_quo T e lim n q = .error f → ∀ E', rS X D f E' → Q (.inl none) E') → sw (sm_fx C 190 22 [.ref (X + 49), .int (ni lim), .int (ni n)] [] E) Q := by
    intro n q l E hq hqe hs her
    rw [md_quo, dif_neg hqe] at her
    refine sw_ge (n190_22 hX) ?_
    simp only [sw_ite, (hs.W h).2.2.2, if_true, sw_bi, hs.cur h hq.1.1, sw_some, sb_i, md_cu_ge hqe, k_ne_ni (show 34 < 2147483648 by omega), if_false]
    refine sw_ge (n190_52 hX) ?_
    simp only [sw_bv]
    exact flt hq.1.1 hs (her q rfl)
  intro m
  induction m with
  | zero =>
    intro n q l E hm hn hl hq hs hok her
    exact ends hq (by omega) hs her
  | succ m ih =>
    intro n q l E hm hn hl hq hs hok her
    by_cases hqe : q < e
    · have hlt := md_nx_lt (T := T) hqe
      obtain ⟨k, hk, hT⟩ := hq.2 q (Nat.le_refl _) hqe
      have hTk : (T q = sm_k (-1)) = False := by rw [hT]; exact ni_ne_k (by omega)
      rw [md_quo, dif_pos hqe] at hok her
      refine sw_ge (n190_22 hX) ?_
      simp (disch := omega) only [sw_ite, (hs.W h).2.2.2, if_true, sw_bi, hs.cur h hq.1.1, sw_some, sb_i, md_cu_lt hqe, hTk, if_false, ni_inj, sw_bv]
      by_cases h34 : T q = ni 34
      · rw [if_pos h34]
        rw [if_pos h34] at hok
        refine sw_ge (n190_105 hX) ?_
        simp only [sw_bv]
        refine r181 h hs hq.1 hqe (fun E' hE => ?_)
        simp only [sb_v, sw_some]
        refine hok [] _ rfl _ ?_
        rw [List.append_nil]
        exact hE.wz _
      · rw [if_neg h34]
        rw [if_neg h34] at hok her
        by_cases hnl : n = lim
        · rw [if_pos hnl]
          rw [if_pos hnl] at her
          refine sw_ge (n190_52 hX) ?_
          simp only [sw_bv]
          exact flt hq.1.1 hs (her q rfl)
        · rw [if_neg hnl]
          rw [if_neg hnl] at hok her
          have n72 : ∀ {q' : Nat} {E' : sm_D}, q < q' ∨ q = q' → ro T e q' → q' < e → RS X D q' l b a z E' → (∀ xs p, md_quo T e lim (n + 1) (md_nx T e q') = .ok (xs, p) → ∀ E', RS X D p (l ++ (T q' :: xs)) b a (ni (n + (xs.length + 1))) E' → Q (.inl none) E') → (∀ f, md_quo T e lim (n + 1) (md_nx T e q') = .error f → ∀ E', rS X D f E' → Q (.inl none) E') → sw (sm_fx C 190 72 [.ref (X + 49), .int (ni lim), .int (ni n)] [] E') Q := by
            intro q' E1 hqq hq' hqe' hs1 hok1 her1
            have hlt' := md_nx_lt (T := T) hqe'
            obtain ⟨k', hk', hT'⟩ := hq'.2 q' (Nat.le_refl _) hqe'
            have hTk' : (T q' = sm_k (-1)) = False := by rw [hT']; exact ni_ne_k (by omega)
            refine sw_ge (n190_72 hX) ?_
            simp only [sw_bi, hs1.cur h hq'.1.1, sw_some, sb_i, md_cu_lt hqe', sw_ite, hTk', if_false, sw_bv]
            refine r173 hX hs1 ⟨k', hk', hT'⟩ (by omega) (fun E2 hE2 => ?_)
            simp only [sb_v, sw_bv]
            refine r181 h hE2 hq'.1 hqe' (fun E3 hE3 => ?_)
            simp only [sb_v, ni_add]
            refine ih (n + 1) _ _ E3 (by omega) (by omega) (by rw [List.length_append, List.length_singleton]; omega) hq'.nx hE3 (fun xs p hw E' hE => ?_) her1
            refine hok1 xs p hw E' ?_
            rw [List.append_assoc, List.singleton_append, show n + 1 + xs.length = n + (xs.length + 1) from by omega] at hE
            exact hE
          by_cases h92 : T q = ni 92
          · rw [if_pos h92]
            rw [if_pos h92] at hok her
            refine r181 h hs hq.1 hqe (fun E1 hE1 => ?_)
            simp only [sb_v]
            by_cases hn2 : md_nx T e q < e
            · rw [dif_pos hn2] at hok her
              exact n72 (Or.inl hlt) hq.nx hn2 hE1 (fun xs p hw E' hE => hok _ p (by rw [hw]) E' hE) (fun f hf E' hE => her f (by rw [hf]) E' hE)
            · rw [dif_neg hn2] at her
              refine sw_ge (n190_72 hX) ?_
              simp only [sw_bi, hE1.cur h hq.nx.1.1, sw_some, sb_i, md_cu_ge hn2, sw_ite, if_true, sw_bv]
              exact flt hq.nx.1.1 hE1 (her _ rfl)
          · rw [if_neg h92]
            rw [if_neg h92] at hok her
            exact n72 (Or.inr rfl) hq hqe hs (fun xs p hw E' hE => hok _ p (by rw [hw]) E' hE) (fun f hf E' hE => her f (by rw [hf]) E' hE)
    · exact ends hq hqe hs her
theorem r190 (h : rW C X T N e D) {lim : Nat} (hlim : lim ≤ 8000) (hs : RS X D q l b a z E) (hq : ro T e q) (hqe : q < e) (hl : l.length + (e - q) ≤ 24000)
    (hok : ∀ xs p, md_quo T e lim 0 (md_nx T e q) = .ok (xs, p) → ∀ E', RS X D p (l ++ xs) (ni q) (ni l.length) (ni xs.length) E' → Q (.inl none) E') (her : ∀ f, md_quo T e lim 0 (md_nx T e q) = .error f → ∀ E', rS X D f E' → Q (.inl none) E') :
    sw (sm_fe C 190 [.ref (X + 49), .int (ni lim)] E) Q := by
  have hlt := md_nx_lt (T := T) hqe
  refine sw_ge (f190 h.1.1) ?_
  simp only [hs.2.1, sw_bv]
  rw [up_ne (by omega), hs.2.2.1]
  refine r181 h ((hs.wb (ni q)).wa (ni l.length)) hq.1 hqe (fun E1 hE1 => ?_)
  simp only [sb_v]
  refine r190_22 h hlim e 0 _ l _ (by omega) (by omega) (by omega) hq.nx hE1 (fun xs p hw E' hE => ?_) her
  rw [Nat.zero_add] at hE
  exact hok xs p hw E' hE
/-! the beginning of a text -/
def RT (X : Nat) (l : List Int32) (D : sm_D) : Prop := D.1 (X + 49) 20 = ni l.length ∧ ∀ i, i < l.length → D.1 (X + 63) i = md_nth l i
theorem RS.RT (h : RS X D q l b a z E) : RT X l E := ⟨h.2.2.1, h.2.2.2.1⟩
theorem r176 (h : rH C X T N D) (h8 : D.1 (X + 49) 8 = sm_k (-1)) (hT : RT X l D) {f c y : Nat} (hf : f < 200) (h73 : D.1 (X + 73) f = ni (c + 1)) (h74 : D.1 (X + 74) f = ni y) (hc : c < y) (hy : y ≤ N) (hk : ∀ p, c + 1 ≤ p → p < y → T p = ni 13 → p + 2 < y ∧ md_bl (T (p + 2)) = true)
    (hq : ∀ E', RS X (sm_dI D (X + 49) 47 (ni y)) (md_go T y (c + 1)) l (D.1 (X + 49) 50) (D.1 (X + 49) 48) (D.1 (X + 49) 49) E' → Q (.inl none) E') : sw (sm_fe C 176 [.ref (X + 49), .int (ni f)] D) Q := by
  have hN := h.2.2.1
  refine sw_ge (f176 h.1) ?_
  simp (disch := omega) only [sw_gu, ni_in, ni_nat, sw_bv]
  refine ⟨decide_eq_true hf, decide_eq_true hf, ?_⟩
  rw [h73, up_ne (by omega), h74]
  have hW : rW C X T N y (sm_dI D (X + 49) 47 (ni y)) := ⟨⟨h.1, h.2.1, h.2.2.1, fun i hi => by rw [dI_ne (by omega)]; exact h.2.2.2.1 i hi, h.2.2.2.2⟩, hy, dI_eq, by rw [dI_ne (by omega)]; exact h8⟩
  have hS : RS X (sm_dI D (X + 49) 47 (ni y)) (c + 1) l (D.1 (X + 49) 50) (D.1 (X + 49) 48) (D.1 (X + 49) 49) (sm_dI (sm_dI D (X + 49) 46 (ni (c + 1))) (X + 49) 47 (ni y)) := by
    refine ⟨rfl, by rw [dI_ne (by omega), dI_eq], by rw [dI_ne (by omega), dI_ne (by omega)]; exact hT.1, fun i hi => by rw [dI_ne (by omega), dI_ne (by omega)]; exact hT.2 i hi, ⟨by rw [dI_ne (by omega), dI_ne (by omega)], by rw [dI_ne (by omega), dI_ne (by omega)], by rw [dI_ne (by omega), dI_ne (by omega)]⟩, fun c j hc => ?_⟩
    by_cases h1 : c = X + 49 ∧ j = 47
    · rw [h1.1, h1.2, dI_eq, dI_eq]
    · rw [dI_ne h1, dI_ne h1, dI_ne (fun z => hc (by unfold rsc; omega))]
  refine r177 hW hS (by omega) (fun g1 g2 => ?_) (fun E' hE => ?_)
  · obtain ⟨a1, a2⟩ := hk (c + 1) (by omega) g1 g2
    exact ⟨by omega, fun _ => md_bl_13 a2⟩
  · simp only [sb_v, sw_some]
    exact hq E' hE
/-! told words -/
theorem r192 (hX : sm_Lay C X) {s c n : Nat} {w xs : List Int32} (hs : st C s w) (hn : xs.length = n) (hc : c + n ≤ 24000) (hP : ∀ j, j < n → E.1 (X + 63) (c + j) = md_nth xs j) : sm_fe C 192 [.ref (X + 49), .int (ni c), .int (ni n), .ref s] E = some (.inl (some (.int (md_b (decide (xs.map md_sm = w))))), E) := by
  obtain ⟨u, h1, -, -, h4, -⟩ := id hs
  have loop : ∀ (m k : Nat) (fl : Bool), k + m = n → n = w.length → sm_fx C 192 18 [.ref (X + 49), .int (ni c), .int (ni n), .ref s, .int (md_b fl), .int (ni k)] [] E = some (.inl (some (.int (md_b (fl && md_at (md_nth xs) k (w.drop k))))), E) := by
    intro m
    induction m with
    | zero =>
      intro k fl hk hw
      apply sw_eq
      refine sw_ge (n192_18 hX h1) ?_
      simp (disch := omega) only [sw_ite, sw_some, ni_le]
      rw [if_pos (by omega), List.drop_of_length_le (by omega), nar_bb, md_at, Bool.and_true]
    | succ m ih =>
      intro k fl hk hw
      have hk2 : k < w.length := by omega
      have hk3 : k < n := by omega
      apply sw_eq
      refine sw_ge (n192_18 hX h1) ?_
      simp (disch := omega) only [sw_ite, sw_some, ni_le, ni_add, sw_gu, ni_in, ni_nat, sw_bi, r168, sb_i, s262 hs hk2, hP k hk3]
      rw [if_neg (by omega)]
      cases fl
      · rw [if_pos (show md_b false = ni 0 from rfl), nar_bb, Bool.false_and]
      · rw [if_neg (by decide)]
        refine ⟨decide_eq_true (by omega), ?_⟩
        have e1 := ih (k + 1) true (by omega) hw
        have e0 := ih (k + 1) false (by omega) hw
        rw [show md_b true = ni 1 from rfl] at e1
        rw [show md_b false = ni 0 from rfl] at e0
        simp only [e1, e0, sw_some]
        rw [List.drop_eq_getElem_cons hk2, md_at_cons, Bool.true_and, ← md_nth_get hk2]
        split
        · next g => rw [decide_eq_true g, Bool.true_and, Bool.true_and]
        · next g => rw [decide_eq_false g, Bool.false_and]; rfl
  apply sw_eq
  refine sw_ge (f192 hX h1) ?_
  simp (disch := omega) only [sw_bi, s260 h1, sw_some, sb_i, sw_ite, ni_inj]
  by_cases hw : n = w.length
  · rw [if_pos hw]
    refine sw_ge (n192_13 hX h1) ?_
    have := loop n 0 true (by omega) hw
    rw [show md_b true = ni 1 from rfl] at this
    rw [this, sw_some, Bool.true_and, List.drop_zero, md_at_iff (xs := xs) (by omega) (fun j _ => by rw [Nat.zero_add])]
  · rw [if_neg hw]
    refine sw_ge (n192_13 hX h1) ?_
    refine sw_ge (n192_18 hX h1) ?_
    simp (disch := omega) only [sw_ite, sw_some, ni_le, if_true]
    rw [decide_eq_false (fun z => hw (by rw [← z, List.length_map, hn])), show ni 0 = md_b false from rfl, nar_bb]
    split <;> trivial
theorem r189 (hX : sm_Lay C X) {c d n : Nat} {xs ys : List Int32} (hx : xs.length = n) (hy : ys.length = n) (hc : c + n ≤ 24000) (hd : d + n ≤ 24000) (hP : ∀ j, j < n → E.1 (X + 63) (c + j) = md_nth xs j) (hR : ∀ j, j < n → E.1 (X + 63) (d + j) = md_nth ys j) : sm_fe C 189 [.ref (X + 49), .int (ni c), .int (ni d), .int (ni n)] E = some (.inl (some (.int (md_b (decide (xs = ys))))), E) := by
  have loop : ∀ (m k : Nat) (fl : Bool), k + m = n → sm_fx C 189 6 [.ref (X + 49), .int (ni c), .int (ni d), .int (ni n), .int (md_b fl), .int (ni k)] [] E = some (.inl (some (.int (md_b (fl && decide (xs.drop k = ys.drop k))))), E) := by
    intro m
    induction m with
    | zero =>
      intro k fl hk
      apply sw_eq
      refine sw_ge (n189_6 hX) ?_
      simp (disch := omega) only [sw_ite, sw_some, ni_le]
      rw [if_pos (by omega), List.drop_of_length_le (by omega), List.drop_of_length_le (by omega), nar_bb, decide_eq_true rfl, Bool.and_true]
    | succ m ih =>
      intro k fl hk
      have hk3 : k < n := by omega
      have kx : k < xs.length := by omega
      have ky : k < ys.length := by omega
      apply sw_eq
      refine sw_ge (n189_6 hX) ?_
      simp (disch := omega) only [sw_ite, sw_some, ni_le, ni_add, sw_gu, ni_in, ni_nat, hP k hk3, hR k hk3]
      rw [if_neg (by omega)]
      cases fl
      · rw [if_pos (show md_b false = ni 0 from rfl), nar_bb, Bool.false_and]
      · rw [if_neg (by decide)]
        refine ⟨decide_eq_true (by omega), decide_eq_true (by omega), ?_⟩
        have e1 := ih (k + 1) true (by omega)
        have e0 := ih (k + 1) false (by omega)
        rw [show md_b true = ni 1 from rfl] at e1
        rw [show md_b false = ni 0 from rfl] at e0
        simp only [e1, e0, sw_some]
        rw [List.drop_eq_getElem_cons kx, List.drop_eq_getElem_cons ky, md_nth_get kx, md_nth_get ky, Bool.true_and, Bool.true_and]
        split
        · next g => rw [g]; simp only [List.cons.injEq, true_and]
        · next g => rw [decide_eq_false (fun z => g (List.cons.inj z).1), Bool.false_and]
  apply sw_eq
  refine sw_ge (f189 hX) ?_
  have := loop n 0 true (by omega)
  rw [show md_b true = ni 1 from rfl] at this
  rw [this, sw_some, Bool.true_and, List.drop_zero, List.drop_zero]
theorem r172 (hX : sm_Lay C X) {s : Nat} {w : List Int32} (hw : st C s w) (hs : RS X D q l b a z E) (hl : l.length + w.length ≤ 24000) (hq : ∀ E', RS X D q (l ++ w) b a z E' → Q (.inl none) E') : sw (sm_fe C 172 [.ref (X + 49), .ref s] E) Q := by
  obtain ⟨u, h1, -, h3, h4, -⟩ := id hw
  have loop : ∀ (m k : Nat) (E : sm_D), k + m = w.length → RS X D q (l ++ w.take k) b a z E → sw (sm_fx C 172 2 [.ref (X + 49), .ref s, .int (ni k)] [] E) Q := by
    intro m
    induction m with
    | zero =>
      intro k E hk hs
      refine sw_ge (n172_2 hX h1) ?_
      simp (disch := omega) only [sw_bi, s260 h1, sw_some, sb_i, sw_ite, ni_le]
      rw [if_pos (by omega)]
      rw [List.take_of_length_le (by omega)] at hs
      exact hq E hs
    | succ m ih =>
      intro k E hk hs
      have hk2 : k < w.length := by omega
      refine sw_ge (n172_2 hX h1) ?_
      simp (disch := omega) only [sw_bi, s260 h1, sw_some, sb_i, sw_ite, ni_le, s262 hw hk2, sw_bv, ni_add]
      rw [if_neg (by omega)]
      refine r173 hX hs (md_nth_as h3 hk2) (by rw [List.length_append, List.length_take]; omega) (fun E' hE => ?_)
      simp only [sb_v]
      refine ih (k + 1) E' (by omega) ?_
      rw [List.append_assoc, md_nth_get hk2, List.take_append_getElem] at hE
      exact hE
  refine sw_ge (f172 hX h1) ?_
  exact loop w.length 0 E (by omega) (by rw [List.take_zero, List.append_nil]; exact hs)
end RGD
