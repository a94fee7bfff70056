/-! ===== the reference: its answers ===== -/
def md_0 : md_M := ([], [], (0, 0), fun _ => [])
/-- the reference holds a message, or none -/
def RV (C : sm_K) (X : Nat) (T : Nat → Int32) (N : Nat) (m : md_M) (D : sm_D) : Prop := sm_Lay C X ∧ tx C ∧ ((m = md_0 ∧ D.1 (X + 49) 9 = ni 0 ∧ D.1 (X + 49) 36 = ni 0 ∧ D.2.1 (X + 49) 38 = Int64.ofInt 0 ∧ D.1 (X + 49) 39 = ni 0 ∧ D.1 (X + 77) 0 = ni 0 ∧ D.1 (X + 77) 1 = ni 0) ∨ (1 ≤ m.1.length ∧ rH C X T N D ∧ D.1 (X + 49) 8 = sm_k (-1) ∧ ∃ l, RM X T N D m l ∧ l.length ≤ 16400))
def s0 (X c j : Nat) : Prop := c = X + 49 ∧ j = 0
def a_c {α : Type} (r : Except Nat α) : Int32 := match r with | .ok _ => ni 0 | .error _ => ni 1
def a_v (r : Except Nat Int32) : Int32 := match r with | .ok v => v | .error _ => ni 0
section RHJ
variable {C : sm_K} {X N : Nat} {T : Nat → Int32} {D E : sm_D} {Q : (Option Value ⊕ Nat) → sm_D → Prop} {m : md_M}
theorem RV.b (h : RV C X T N m D) : D.1 (X + 49) 9 = ni m.1.length ∧ m.1.length ≤ 40 := by
  obtain ⟨-, -, ⟨rfl, h9, -⟩ | ⟨-, -, -, l, hM, -⟩⟩ := h
  · exact ⟨h9, by decide⟩
  · exact ⟨hM.1, hM.2.2.1⟩
theorem RV.s (h : RV C X T N m D) : SUB X m.2.1 D := by
  obtain ⟨-, -, ⟨rfl, -, h36, -⟩ | ⟨-, -, -, l, hM, -⟩⟩ := h
  · exact ⟨h36, fun i hi => by cases hi⟩
  · exact hM.2.2.2.2.2.2.2.1
theorem RV.d (h : RV C X T N m D) : D.2.1 (X + 49) 38 = Int64.ofInt m.2.2.1.1 ∧ D.1 (X + 49) 39 = Int32.ofInt m.2.2.1.2 := by
  obtain ⟨-, -, ⟨rfl, -, -, h38, h39, -⟩ | ⟨-, -, -, l, hM, -⟩⟩ := h
  · exact ⟨h38, h39⟩
  · exact hM.2.2.2.2.2.2.2.2.1
theorem RV.a (h : RV C X T N m D) : ∃ l, l.length ≤ 16400 ∧ (∀ i, i < l.length → D.1 (X + 63) i = md_nth l i) ∧ RA X 0 (m.2.2.2 false) l D ∧ RA X 1 (m.2.2.2 true) l D := by
  obtain ⟨-, -, ⟨rfl, -, -, -, -, h0, h1⟩ | ⟨-, -, -, l, hM, hl⟩⟩ := h
  · exact ⟨[], by decide, (fun i hi => by cases hi), ⟨h0, by decide, fun n w hw => by cases hw⟩, ⟨h1, by decide, fun n w hw => by cases hw⟩⟩
  · exact ⟨l, hl, hM.2.2.2.2.1.2, hM.2.2.2.2.2.2.2.2.2.1, hM.2.2.2.2.2.2.2.2.2.2⟩
/-- with an entity, it holds a message -/
theorem RV.e (h : RV C X T N m D) {j : Nat} {u : md_E} (hj : m.1[j]? = some u) : j < m.1.length ∧ rH C X T N D ∧ D.1 (X + 49) 8 = sm_k (-1) ∧ ∃ l, RM X T N D m l ∧ l.length ≤ 16400 ∧ REN X T N D l j (md_tb m.1 j) (md_of m.1 j) u := by
  have hl : j < m.1.length := by
    rcases Nat.lt_or_ge j m.1.length with z | z
    · exact z
    · rw [List.getElem?_eq_none z] at hj; cases hj
  obtain ⟨-, -, ⟨rfl, -⟩ | ⟨-, hH, h8, l, hM, h16⟩⟩ := h
  · cases hj
  · exact ⟨hl, hH, h8, l, hM, h16, hM.2.2.2.2.2.2.1 j u hj⟩
theorem RV.of (h : RV C X T N m D) (g : ∀ c j, rmc X c j ∨ c = X + 51 ∨ (c = X + 49 ∧ j = 8) → E.1 c j = D.1 c j) (g2 : E.2 = D.2) : RV C X T N m E := by
  obtain ⟨hX, hx, ⟨h1, h2, h3, h4, h5, h6, h7⟩ | ⟨h1, hH, h8, l, hM, h16⟩⟩ := h
  · exact ⟨hX, hx, Or.inl ⟨h1, by rw [g _ _ (by unfold rmc; omega)]; exact h2, by rw [g _ _ (by unfold rmc; omega)]; exact h3, by rw [g2]; exact h4, by rw [g _ _ (by unfold rmc; omega)]; exact h5, by rw [g _ _ (by unfold rmc; omega)]; exact h6, by rw [g _ _ (by unfold rmc; omega)]; exact h7⟩⟩
  · exact ⟨hX, hx, Or.inr ⟨h1, ⟨hH.1, hH.2.1, hH.2.2.1, fun k hk => by rw [g _ _ (by omega)]; exact hH.2.2.2.1 k hk, hH.2.2.2.2⟩, by rw [g _ _ (by omega)]; exact h8, l, hM.of (fun c j hc => g c j (Or.inl hc)) g2, h16⟩⟩
theorem r153 (hX : sm_Lay C X) : sm_fe C 153 [.ref (X + 49)] D = some (.inl (some (.int (D.1 (X + 49) 0))), D) := by
  apply sw_eq
  refine sw_ge (f153 hX) ?_
  rw [sw_some]
theorem r155 (hX : sm_Lay C X) {b : Bool} : sm_fe C 155 [.ref (X + 49), .int (md_b b)] D = some (.inl (some (.int (md_b b))), sm_dI D (X + 49) 0 (md_b (!b))) := by
  apply sw_eq
  refine sw_ge (f155 hX) ?_
  simp only [sw_ite, sw_some, nar_bb, md_b_0]
  cases b <;> rfl
theorem r155q (hX : sm_Lay C X) {b : Bool} {x : Int32} (hx : x = md_b b) {K : Int32 → sm_D → Option sm_o} (hq : ∀ E, fr (s0 X) D E → E.1 (X + 49) 0 = md_b (!b) → sw (K (md_b b) E) Q) : sw (sm_bi (sm_fe C 155 [.ref (X + 49), .int x] D) K) Q := by
  rw [hx, sw_bi, r155 hX, sw_some]
  exact hq _ (fr.refl.dI ⟨rfl, rfl⟩) dI_eq
theorem RV.f (h : RV C X T N m D) (hf : fr (s0 X) D E) : RV C X T N m E := h.of (fun c j hc => hf.2 _ _ (by unfold s0; unfold rmc at hc; omega)) hf.1
theorem r157a {v : Int32} {n : Nat} (hn : n < 2147483648) : sm_fe C 157 [.int v, .int (ni 0), .int (ni n - ni 1)] D = some (.inl (some (.int (md_b (ac_in v n).isSome))), D) := by
  apply sw_eq
  refine sw_ge f157 ?_
  simp only [sw_ite, sw_some, nar_b0, nar_b1]
  have e0 : (v < ni 0) = (v.toInt < 0) := by rw [Int32.lt_iff_toInt_lt]; rfl
  have e1 : ((ni n - ni 1) < v) = ((n : Int) ≤ v.toInt ∧ 0 < n ∨ (n = 0 ∧ 0 ≤ v.toInt)) := by
    rcases Nat.eq_zero_or_pos n with z | z
    · subst z
      rw [Int32.lt_iff_toInt_lt, show (ni 0 - ni 1).toInt = -1 from by decide]
      apply propext
      omega
    · rw [ni_sub (by omega), Int32.lt_iff_toInt_lt, ni_toInt (by omega)]
      apply propext
      omega
  unfold ac_in
  by_cases h0 : v.toInt < 0
  · rw [if_pos (e0.mpr h0), if_neg (by omega)]; rfl
  · rw [if_neg (fun z => h0 (e0.mp z))]
    by_cases h1 : v.toInt < n
    · rw [if_neg (fun z => by have := e1.mp z; omega), if_pos ⟨by omega, h1⟩]; rfl
    · rw [if_pos (e1.mpr (by omega)), if_neg (by omega)]; rfl
theorem r157n {v : Int32} {n : Nat} (hn : n + 1 < 2147483648) : sm_fe C 157 [.int v, .int (ni 0), .int (ni n)] D = some (.inl (some (.int (md_b (ac_in v (n + 1)).isSome))), D) := by
  have := r157a (C := C) (D := D) (v := v) hn
  rw [ni_sub (by omega), Nat.add_sub_cancel] at this
  exact this
theorem r232 (h : RV C X T N m D) {v : Int32} : sm_fe C 232 [.ref (X + 49), .int v] D = some (.inl (some (.int (md_b (ac_in v m.1.length).isSome))), D) := by
  apply sw_eq
  refine sw_ge (f232 h.1) ?_
  rw [sw_bi, h.b.1, r157a (by have := h.b.2; omega), sw_some]
  simp only [sb_i, sw_some, nar_bb]
theorem ac_ent_some {i : Int32} {j : Nat} (h : ac_in i m.1.length = some j) : ∃ u, m.1[j]? = some u ∧ i = ni j ∧ ac_ent m i = .ok (j, u) := by
  obtain ⟨h1, h2⟩ := ac_in_some h
  refine ⟨m.1[j], List.getElem?_eq_getElem h1, h2, ?_⟩
  unfold ac_ent
  rw [h]
  dsimp only
  rw [List.getElem?_eq_getElem h1]
theorem ac_ent_none {i : Int32} (h : ac_in i m.1.length = none) : ac_ent m i = .error 2 := by
  unfold ac_ent
  rw [h]
theorem r233 (h : RV C X T N m D) {v : Int32} : sm_fe C 233 [.ref (X + 49), .int v] D = some (.inl (some (.int (ni (ac_pc m.1 v)))), D) := by
  have hX := h.1
  have hb := h.b
  have loop : ∀ (k j s : Nat), j + k = m.1.length → sm_fx C 233 4 [.ref (X + 49), .int v, .int (ni s), .int (ni j)] [] D = some (.inl (some (.int (ni (s + ac_pc (m.1.drop j) v)))), D) := by
    intro k
    induction k with
    | zero =>
      intro j s hj
      apply sw_eq
      refine sw_ge (n233_4 hX) ?_
      simp (disch := omega) only [sw_ite, sw_some, hb.1, ni_le]
      rw [if_pos (by omega), List.drop_eq_nil_of_le (by omega)]
      rfl
    | succ k ih =>
      intro j s hj
      apply sw_eq
      refine sw_ge (n233_4 hX) ?_
      have hj2 : j < m.1.length := by omega
      obtain ⟨-, -, -, l, -, -, he⟩ := h.e (List.getElem?_eq_getElem hj2)
      simp (disch := omega) only [sw_ite, sw_gu, hb.1, ni_le, ni_in, ni_nat, he.1, ni_add]
      rw [if_neg (by omega), List.drop_eq_getElem_cons hj2]
      refine ⟨decide_eq_true (by omega), ?_⟩
      unfold ac_pc
      rw [List.filter_cons]
      by_cases hv : (m.1[j]).1 = v
      · rw [if_pos hv, ih (j + 1) (s + 1) (by omega), sw_some, if_pos (beq_iff_eq.mpr hv), List.length_cons]
        unfold ac_pc
        rw [show s + 1 + (List.filter (fun u => u.1 == v) (m.1.drop (j + 1))).length = s + ((List.filter (fun u => u.1 == v) (m.1.drop (j + 1))).length + 1) from by omega]
      · rw [if_neg hv, ih (j + 1) s (by omega), sw_some, if_neg (by rw [beq_false_of_ne hv]; exact Bool.false_ne_true)]
        rfl
  apply sw_eq
  refine sw_ge (f233 hX) ?_
  rw [loop m.1.length 0 0 (by omega), sw_some, List.drop_zero, Nat.zero_add]
theorem r231 (h : RV C X T N m D) {v1 v2 : Int32} (hq : ∀ E, fr (s0 X) D E → E.1 (X + 49) 0 = a_c (ac_entity m v1 v2) → Q (.inl (some (.int (a_v (ac_entity m v1 v2))))) E) : sw (sm_fe C 231 [.ref (X + 49), .int v1, .int v2] D) Q := by
  have hX := h.1
  have hb := h.b
  have bad : ac_entity m v1 v2 = .error 2 → sw (sm_fx C 231 23 [.ref (X + 49), .int v1, .int v2] [.ref (X + 49)] D) Q := by
    intro e
    rw [e] at hq
    refine sw_ge (n231_23 hX) ?_
    refine sw_ge (n231_24 hX) ?_
    refine r155q hX (b := false) rfl (fun E hf h0 => ?_)
    rw [if_pos (show md_b false = ni 0 from rfl), sw_some]
    exact hq _ hf h0
  refine sw_ge (f231 hX) ?_
  rw [sw_bi, r232 h, sw_some]
  simp only [sb_i, sw_ite, sw_bi, md_b_0]
  cases h1 : ac_in v1 m.1.length with
  | none =>
    rw [if_pos (show Option.isSome (none : Option Nat) = false from rfl)]
    exact bad (by unfold ac_entity; rw [ac_ent_none h1]; rfl)
  | some j =>
    obtain ⟨u, hu, hv, he⟩ := ac_ent_some h1
    rw [if_neg (show ¬ (Option.isSome (some j) = false) by exact Bool.noConfusion), r157n (by omega), sw_some]
    simp only [sb_i, sw_ite, md_b_0]
    cases h2 : ac_in v2 7 with
    | none =>
      rw [if_pos (show Option.isSome (none : Option Nat) = false from rfl)]
      exact bad (by unfold ac_entity; rw [he]; simp only [bind, Except.bind, h2])
    | some w =>
      obtain ⟨hw, hv2⟩ := ac_in_some h2
      rw [if_neg (show ¬ (Option.isSome (some w) = false) by exact Bool.noConfusion)]
      refine sw_ge (n231_24 hX) ?_
      refine r155q hX (b := true) rfl (fun E hf h0 => ?_)
      rw [if_neg (show ¬ (md_b true = ni 0) by decide)]
      have hV := h.f hf
      obtain ⟨hj, -, -, l, -, -, e1, ⟨-, e2, -⟩, ⟨e3, e4, -⟩, ⟨-, e5⟩, -, -, e6⟩ := hV.e hu
      have hq := hq E hf
      unfold ac_entity at hq
      rw [he] at hq
      simp only [bind, Except.bind, h2] at hq
      rw [hv2, hv]
      have h40 : sm_in_b (ni j) 40 = true := by rw [ni_in (by omega)]; exact decide_eq_true (by omega)
      have hnn : (ni j).toNatClampNeg = j := ni_nat (by omega)
      have hw' : w = 0 ∨ w = 1 ∨ w = 2 ∨ w = 3 ∨ w = 4 ∨ w = 5 ∨ w = 6 := by omega
      rcases hw' with rfl | rfl | rfl | rfl | rfl | rfl | rfl
      · simp (disch := omega) only [sm_sw, ni_inj, Nat.reduceAdd, sw_ite, sw_gu, sw_some, h40, hnn, e1, Nat.reduceEqDiff, if_true, if_false, true_and]
        exact hq h0
      · rw [hv] at hq
        simp (disch := omega) only [sm_sw, ni_inj, Nat.reduceAdd, sw_ite, sw_bi, r233 hV, sb_i, sw_some, Nat.reduceEqDiff, if_true, if_false]
        exact hq h0
      · simp (disch := omega) only [sm_sw, ni_inj, Nat.reduceAdd, sw_ite, sw_gu, sw_some, h40, hnn, e2, Nat.reduceEqDiff, if_true, if_false, true_and]
        exact hq h0
      · simp (disch := omega) only [sm_sw, ni_inj, Nat.reduceAdd, sw_ite, sw_gu, sw_some, h40, hnn, e5, Nat.reduceEqDiff, if_true, if_false, true_and]
        exact hq h0
      · simp (disch := omega) only [sm_sw, ni_inj, Nat.reduceAdd, sw_ite, sw_gu, sw_some, h40, hnn, e4, Nat.reduceEqDiff, if_true, if_false, true_and]
        exact hq h0
      · simp (disch := omega) only [sm_sw, ni_inj, Nat.reduceAdd, sw_ite, sw_gu, sw_some, h40, hnn, e6.1, Nat.reduceEqDiff, if_true, if_false, true_and]
        exact hq h0
      · simp (disch := omega) only [sm_sw, ni_inj, Nat.reduceAdd, sw_ite, sw_gu, sw_some, h40, hnn, e3, Nat.reduceEqDiff, if_true, if_false, true_and, md_b_0]
        have hq := hq h0
        cases hmu : u.2.2.2.2.1
        · rw [hmu] at hq; exact hq
        · rw [hmu] at hq; exact hq
theorem r234 (h : RV C X T N m D) {v1 v2 : Int32} (hq : ∀ E, fr (s0 X) D E → E.1 (X + 49) 0 = a_c (ac_part m v1 v2) → Q (.inl (some (.int (a_v (ac_part m v1 v2))))) E) : sw (sm_fe C 234 [.ref (X + 49), .int v1, .int v2] D) Q := by
  have hX := h.1
  have hb := h.b
  have loop : ∀ {E : sm_D}, RV C X T N m E → ∀ (k j s : Nat), j + k = m.1.length → sm_fx C 234 19 [.ref (X + 49), .int v1, .int v2, .int (ni s), .int (ni j)] [] E = some (.inl (some (.int (ac_pn v1 v2 (m.1.drop j) s j))), E) := by
    intro E hV k
    induction k with
    | zero =>
      intro j s hj
      apply sw_eq
      refine sw_ge (n234_19 hX) ?_
      simp (disch := omega) only [sw_ite, sw_some, hV.b.1, ni_le]
      rw [if_pos (by omega), List.drop_eq_nil_of_le (by omega)]
      rfl
    | succ k ih =>
      intro j s hj
      apply sw_eq
      refine sw_ge (n234_19 hX) ?_
      have hj2 : j < m.1.length := by omega
      obtain ⟨-, -, -, l, -, -, he⟩ := hV.e (List.getElem?_eq_getElem hj2)
      simp (disch := omega) only [sw_ite, sw_gu, sw_some, hV.b.1, ni_le, ni_in, ni_nat, he.1, ni_add]
      rw [if_neg (by omega), List.drop_eq_getElem_cons hj2, ac_pn]
      refine ⟨decide_eq_true (by omega), ?_⟩
      by_cases hv : (m.1[j]).1 = v1
      · rw [if_pos hv, if_pos hv]
        by_cases hs : ni s = v2
        · rw [if_pos hs, if_pos hs]
        · rw [if_neg hs, if_neg hs, ih (j + 1) (s + 1) (by omega), sw_some]
      · rw [if_neg hv, if_neg hv, ih (j + 1) s (by omega), sw_some]
  refine sw_ge (f234 hX) ?_
  rw [sw_bi, r232 h, sw_some]
  show sw (sm_bi _ _) Q
  refine r155q hX rfl (fun E hf h0 => ?_)
  rw [sw_ite]
  simp only [md_b_0]
  cases h1 : ac_in v1 m.1.length with
  | none =>
    rw [if_pos (show Option.isSome (none : Option Nat) = false from rfl), sw_some]
    have e : ac_part m v1 v2 = .error 2 := by unfold ac_part; rw [ac_ent_none h1]; rfl
    rw [h1] at h0
    rw [e] at hq
    exact hq _ hf h0
  | some j =>
    obtain ⟨u, hu, hv, he⟩ := ac_ent_some h1
    rw [if_neg (show ¬ (Option.isSome (some j) = false) by exact Bool.noConfusion)]
    have e : ac_part m v1 v2 = .ok (ac_pn v1 v2 m.1 0 0) := by unfold ac_part; rw [he]; rfl
    rw [h1] at h0
    rw [e] at hq
    rw [loop (h.f hf) m.1.length 0 0 (by omega), sw_some, List.drop_zero]
    exact hq _ hf h0
theorem RV.oc (h : RV C X T N m D) {j k : Nat} {u : md_E} (hj : m.1[j]? = some u) (hk : k < u.2.2.2.2.2.length) (h8 : (md_oc m.1).length ≤ 8000) : md_of m.1 j + k < 8000 ∧ D.1 (X + 75) (md_of m.1 j + k) &&& ni 255 = md_nth u.2.2.2.2.2 k := by
  obtain ⟨hl, -, -, l, hM, -, -⟩ := h.e hj
  have e1 : md_oc m.1 = md_oc (m.1.take j) ++ (u.2.2.2.2.2 ++ md_oc (m.1.drop (j + 1))) := by
    unfold md_oc
    conv => lhs; rw [← List.take_append_drop j m.1]
    rw [List.drop_eq_getElem_cons hl, List.map_append, List.flatten_append, List.map_cons, List.flatten_cons]
    rw [List.getElem?_eq_getElem hl] at hj
    cases hj
    rfl
  have e2 : (md_oc m.1).length = md_of m.1 j + (u.2.2.2.2.2.length + (md_oc (m.1.drop (j + 1))).length) := by
    rw [e1, List.length_append, List.length_append]
    rfl
  refine ⟨by omega, ?_⟩
  rw [hM.2.2.2.2.2.1.2 _ (by omega), e1]
  have : md_of m.1 j = (md_oc (m.1.take j)).length := rfl
  rw [this]
  unfold md_nth
  rw [List.getD_eq_getElem?_getD, List.getD_eq_getElem?_getD, List.getElem?_append_right (by omega), Nat.add_sub_cancel_left, List.getElem?_append_left hk]
theorem r235 (h : RV C X T N m D) (h8 : (md_oc m.1).length ≤ 8000) {v1 v2 : Int32} (hq : ∀ E, fr (s0 X) D E → E.1 (X + 49) 0 = a_c (ac_octet m v1 v2) → Q (.inl (some (.int (a_v (ac_octet m v1 v2))))) E) : sw (sm_fe C 235 [.ref (X + 49), .int v1, .int v2] D) Q := by
  have hX := h.1
  have hb := h.b
  have bad : ac_octet m v1 v2 = .error 2 → sw (sm_fx C 235 29 [.ref (X + 49), .int v1, .int v2] [.ref (X + 49)] D) Q := by
    intro e
    rw [e] at hq
    refine sw_ge (n235_29 hX) ?_
    refine sw_ge (n235_30 hX) ?_
    refine r155q hX (b := false) rfl (fun E hf h0 => ?_)
    rw [if_pos (show md_b false = ni 0 from rfl), sw_some]
    exact hq _ hf h0
  refine sw_ge (f235 hX) ?_
  rw [sw_bi, r232 h, sw_some]
  simp only [sb_i, sw_ite, sw_gu, sw_bi, md_b_0]
  cases h1 : ac_in v1 m.1.length with
  | none =>
    rw [if_pos (show Option.isSome (none : Option Nat) = false from rfl)]
    exact bad (by unfold ac_octet; rw [ac_ent_none h1]; rfl)
  | some j =>
    obtain ⟨u, hu, hv, he⟩ := ac_ent_some h1
    subst hv
    obtain ⟨hj, -, -, l, hM, hl16, -, -, -, ⟨e4, e5⟩, -⟩ := h.e hu
    rw [if_neg (show ¬ (Option.isSome (some j) = false) by exact Bool.noConfusion)]
    have hul : u.2.2.2.2.2.length < 2147483648 := by
      rcases Nat.eq_zero_or_pos u.2.2.2.2.2.length with z | z
      · omega
      · have := (h.oc hu (k := u.2.2.2.2.2.length - 1) (by omega) h8).1; omega
    simp (disch := omega) only [ni_in, ni_nat, e5]
    refine ⟨decide_eq_true (by omega), ?_⟩
    rw [r157a hul, sw_some]
    simp only [sb_i, sw_ite, md_b_0]
    cases h2 : ac_in v2 u.2.2.2.2.2.length with
    | none =>
      rw [if_pos (show Option.isSome (none : Option Nat) = false from rfl)]
      exact bad (by unfold ac_octet; rw [he]; simp only [bind, Except.bind, h2])
    | some w =>
      obtain ⟨hw, hv2⟩ := ac_in_some h2
      subst hv2
      rw [if_neg (show ¬ (Option.isSome (some w) = false) by exact Bool.noConfusion)]
      refine sw_ge (n235_30 hX) ?_
      refine r155q hX (b := true) rfl (fun E hf h0 => ?_)
      rw [if_neg (show ¬ (md_b true = ni 0) by decide)]
      have ho := (h.f hf).oc hu hw h8
      have e59 : E.1 (X + 59) j = ni (md_of m.1 j) := by rw [hf.2 _ _ (by unfold s0; omega)]; exact e4
      have e75 := ho.2
      simp (disch := omega) only [sw_gu, sw_some, ni_in, ni_nat, e59, ni_add, e75]
      refine ⟨decide_eq_true (by omega), decide_eq_true ho.1, ?_⟩
      have e : ac_octet m (ni j) (ni w) = .ok (md_nth u.2.2.2.2.2 w) := by unfold ac_octet; rw [he]; simp only [bind, Except.bind, h2]
      rw [e] at hq
      exact hq E hf h0
end RHJ
