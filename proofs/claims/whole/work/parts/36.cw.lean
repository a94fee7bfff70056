/-! ===== the class's walk over a text ===== -/
def md_ok (T : Nat → Int32) (e p : Nat) : Prop := p ≤ e ∧ (p < e → T p ≠ ni 13) ∧ ∀ q, p ≤ q → q < e → T q = ni 13 → q + 2 < e ∧ md_bl (T (q + 2)) = true
section MDW
variable {T : Nat → Int32} {e lim : Nat} {f : Int32 → Bool}
theorem md_go_ok {q : Nat} (hq : q ≤ e) (h : ∀ r, q ≤ r → r < e → T r = ni 13 → r + 2 < e ∧ md_bl (T (r + 2)) = true) : md_ok T e (md_go T e q) := by
  unfold md_go
  split
  · next g =>
    obtain ⟨h1, h2⟩ := h q (Nat.le_refl q) g.1 g.2
    exact ⟨by omega, fun _ z => by rw [z] at h2; revert h2; decide, fun r hr => h r (by omega)⟩
  · next g => exact ⟨hq, fun h1 h2 => g ⟨h1, h2⟩, h⟩
theorem md_ok.nx {p : Nat} (h : md_ok T e p) : md_ok T e (md_nx T e p) := by
  unfold md_nx
  split
  · next g => exact md_go_ok (by omega) (fun r hr => h.2.2 r (by omega))
  · exact h
theorem md_nx_le (p : Nat) : p ≤ md_nx T e p := by
  unfold md_nx md_go
  split
  · split <;> omega
  · exact Nat.le_refl p
theorem md_nx_lt {p : Nat} (h : p < e) : p < md_nx T e p := by
  unfold md_nx md_go
  rw [if_pos h]
  split <;> omega
theorem md_space_ok {d p : Nat} {r : Nat} (h : md_ok T e p) (hr : md_space T e d p = .ok r) : md_ok T e r ∧ p ≤ r := by
  rw [md_space] at hr
  split at hr
  · next g =>
    have a1 := md_nx_lt (T := T) g
    split at hr
    · split at hr
      · cases hr
      · have := md_space_ok h.nx hr
        exact ⟨this.1, by omega⟩
    · split at hr
      · split at hr
        · have := md_space_ok h.nx hr
          exact ⟨this.1, by omega⟩
        · cases hr; exact ⟨h, Nat.le_refl _⟩
      · split at hr
        · have := md_space_ok h.nx hr
          exact ⟨this.1, by omega⟩
        · split at hr
          · split at hr
            · next g2 =>
              have a2 := md_nx_lt (T := T) g2
              have := md_space_ok h.nx.nx hr
              exact ⟨this.1, by omega⟩
            · cases hr
          · have := md_space_ok h.nx hr
            exact ⟨this.1, by omega⟩
  · split at hr
    · cases hr; exact ⟨h, Nat.le_refl _⟩
    · cases hr
termination_by e - p
decreasing_by
  all_goals have := md_nx_lt (T := T) (by assumption : p < e)
  all_goals first
    | (have h9 := md_nx_lt (T := T) (by assumption : md_nx T e p < e); omega)
    | omega
theorem md_word_ok {n p : Nat} {r : Nat} {xs : List Int32} (h : md_ok T e p) (hr : md_word T e f n p = .ok (xs, r)) : md_ok T e r ∧ p + xs.length ≤ r := by
  rw [md_word] at hr
  split at hr
  · next g =>
    have a1 := md_nx_lt (T := T) g.1
    split at hr
    · cases hr
    · split at hr
      · cases hr
      · next ys r' e1 =>
        cases hr
        have := md_word_ok h.nx e1
        rw [List.length_cons]
        exact ⟨this.1, by omega⟩
  · split at hr
    · cases hr
    · cases hr; exact ⟨h, Nat.le_refl _⟩
termination_by e - p
decreasing_by omega
theorem md_quo_ok {n p : Nat} {r : Nat} {xs : List Int32} (h : md_ok T e p) (hr : md_quo T e lim n p = .ok (xs, r)) : md_ok T e r ∧ p + xs.length < r := by
  rw [md_quo] at hr
  split at hr
  · next g =>
    have a1 := md_nx_lt (T := T) g
    split at hr
    · cases hr; exact ⟨h.nx, by rw [List.length_nil]; omega⟩
    · split at hr
      · cases hr
      · split at hr
        · split at hr
          · next g2 =>
            have a2 := md_nx_lt (T := T) g2
            split at hr
            · cases hr
            · next ys r' e1 =>
              cases hr
              have := md_quo_ok h.nx.nx e1
              rw [List.length_cons]
              exact ⟨this.1, by omega⟩
          · cases hr
        · split at hr
          · cases hr
          · next ys r' e1 =>
            cases hr
            have := md_quo_ok h.nx e1
            rw [List.length_cons]
            exact ⟨this.1, by omega⟩
  · cases hr
termination_by e - p
decreasing_by
  all_goals omega
theorem md_eat_ok {p : Nat} {r : Nat} {c : Int32} (h : md_ok T e p) (hr : md_eat T e c p = .ok r) : md_ok T e r ∧ p ≤ r := by
  unfold md_eat at hr
  split at hr
  · cases hr; exact ⟨h.nx, md_nx_le p⟩
  · cases hr
theorem md_dots_ok {n p : Nat} {r : Nat} {xs : List Int32} (h : md_ok T e p) (hr : md_dots T e n p = .ok (xs, r)) : md_ok T e r ∧ p + xs.length ≤ r := by
  induction n generalizing p xs with
  | zero => unfold md_dots at hr; cases hr; exact ⟨h, Nat.le_refl _⟩
  | succ n ih =>
    unfold md_dots at hr
    split at hr
    · next g =>
      have a1 := md_nx_lt (T := T) g.1
      cases e1 : md_word T e md_atm 0 (md_nx T e p) with
      | error x => rw [e1] at hr; cases hr
      | ok a =>
        rw [e1] at hr
        obtain ⟨ys, p1⟩ := a
        obtain ⟨o1, l1⟩ := md_word_ok h.nx e1
        cases e2 : md_dots T e n p1 with
        | error x => simp only [bind, Except.bind, e2] at hr; cases hr
        | ok b =>
          obtain ⟨zs, p2⟩ := b
          simp only [bind, Except.bind, e2] at hr
          cases hr
          obtain ⟨o2, l2⟩ := ih o1 e2
          simp only [List.length_cons, List.length_append]
          exact ⟨o2, by omega⟩
    · cases hr; exact ⟨h, Nat.le_refl _⟩
theorem md_dotted_ok {p : Nat} {r : Nat} {b : Bool} {xs : List Int32} (h : md_ok T e p) (hr : md_dotted T e p = .ok (xs, b, r)) : md_ok T e r ∧ p + xs.length ≤ r := by
  unfold md_dotted at hr
  cases e1 : md_word T e md_atm 0 p with
  | error x => rw [e1] at hr; cases hr
  | ok a =>
    rw [e1] at hr
    obtain ⟨ys, p1⟩ := a
    obtain ⟨o1, l1⟩ := md_word_ok h e1
    cases e2 : md_dots T e e p1 with
    | error x => simp only [bind, Except.bind, e2] at hr; cases hr
    | ok b =>
      obtain ⟨zs, p2⟩ := b
      simp only [bind, Except.bind, e2] at hr
      cases hr
      obtain ⟨o2, l2⟩ := md_dots_ok o1 e2
      simp only [List.length_append]
      exact ⟨o2, by omega⟩
theorem md_num_ok {n p : Nat} {v r w : Nat} (h : md_ok T e p) (hr : md_num T e n v p = .ok (w, r)) : md_ok T e r ∧ p ≤ r := by
  induction n generalizing p v with
  | zero => unfold md_num at hr; cases hr; exact ⟨h, Nat.le_refl _⟩
  | succ n ih =>
    unfold md_num at hr
    split at hr
    · next g =>
      have a1 := md_nx_lt (T := T) g.1
      have := ih h.nx hr
      exact ⟨this.1, by omega⟩
    · cases hr
end MDW
/-! the class's heap while it walks: a base, the place, what stands in the pool -/
def cR (X t a : Nat) : Prop := (X < a ∧ a < X + 20 ∧ a ≠ X + 2 ∧ a ≠ X + 3) ∨ (t ≤ a ∧ a < t + 13)
def cF (X t : Nat) (D E : sm_D) : Prop := E.2.2 = D.2.2 ∧ (∀ a, ¬ cR X t a → E.1 a = D.1 a) ∧ (∀ a, a ≠ t → E.2.1 a = D.2.1 a)
/-- a throw with a fault's place -/
def cT (X t : Nat) (D : sm_D) (f z : Nat) (D' : sm_D) : Prop := ∃ E, D' = sm_thr E 0 ∧ z = E.2.2.2.1 ∧ E.1 (X + 1) 1 = ni f ∧ cF X t D E
def cs (X t : Nat) (T : Nat → Int32) (e : Nat) (D : sm_D) (p : Nat) (pl : List Int32) : sm_D :=
  (fun a i => if a = X + 1 then (if i = 2 then ni p else if i = 4 then md_cu T e p else D.1 a i)
    else if a = t + 1 then (if i = 1 then ni pl.length else D.1 a i)
    else if a = t + 2 then (if i < pl.length then md_nth pl i else D.1 a i) else D.1 a i, D.2)
def cH (C : sm_K) (X t : Nat) (T : Nat → Int32) (N : Nat) (D : sm_D) : Prop := sm_Lay C X ∧ (t = X + 23 ∨ t = X + 36) ∧ tx C ∧ N ≤ 8000 ∧ D.1 (X + 2) 1 = ni N ∧ (∀ i, i < N → D.1 (X + 3) i = T i) ∧ (∀ i, i < N → ∃ n, n < 256 ∧ T i = ni n)
def cW (C : sm_K) (X t : Nat) (T : Nat → Int32) (N e : Nat) (D : sm_D) : Prop := cH C X t T N D ∧ e ≤ N ∧ D.1 (X + 1) 3 = ni e
theorem cF.refl (X t : Nat) (D : sm_D) : cF X t D D := ⟨rfl, fun _ _ => rfl, fun _ _ => rfl⟩
theorem cF.trans {X t : Nat} {D E F : sm_D} (h : cF X t D E) (g : cF X t E F) : cF X t D F := ⟨g.1.trans h.1, fun a ha => (g.2.1 a ha).trans (h.2.1 a ha), fun a ha => (g.2.2 a ha).trans (h.2.2 a ha)⟩
theorem cT.tw {X t f z : Nat} {D D' : sm_D} (h : cT X t D f z D') : sm_tw D' z = true := by
  obtain ⟨E, rfl, rfl, -⟩ := h
  exact sm_tw_thr E 0
theorem cT.of {X t f z : Nat} {D0 D D' : sm_D} (g : cF X t D0 D) (h : cT X t D f z D') : cT X t D0 f z D' := by
  obtain ⟨E, a, b, c, d⟩ := h
  exact ⟨E, a, b, c, g.trans d⟩
theorem cF_dI {X t a i : Nat} {v : Int32} {D E : sm_D} (ha : cR X t a) (h : cF X t D E) : cF X t D (sm_dI E a i v) := by
  refine ⟨h.1, fun b hb => ?_, h.2.2⟩
  rw [← h.2.1 b hb]
  funext j
  exact if_neg (fun z : b = a ∧ j = i => hb (by rw [z.1]; exact ha))
theorem cF_cs {X t e p : Nat} {T : Nat → Int32} {D : sm_D} {pl : List Int32} : cF X t D (cs X t T e D p pl) := by
  refine ⟨rfl, fun b hb => ?_, fun _ _ => rfl⟩
  funext j
  unfold cs cR at *
  dsimp only
  rw [if_neg (fun z => hb (Or.inl ⟨by omega, by omega, by omega, by omega⟩)), if_neg (fun z => hb (Or.inr (by omega))), if_neg (fun z => hb (Or.inr (by omega)))]
theorem sm_tree_of {C : sm_K} {X t : Nat} (h : sm_Lay C X) (ht : t = X + 23 ∨ t = X + 36) : sm_tree C t ∧ sm_row C (t + 1) 16400 := by
  rcases ht with rfl | rfl
  · refine ⟨⟨Nat.le_trans h.1 (Nat.le_add_right _ _), fun i sh hi => ?_, fun i f j hi => ?_⟩, sm_row_of h 24 rfl rfl rfl⟩
    · rw [Nat.add_assoc]
      refine h.2.1 (23 + i) sh ?_
      rw [← hi]
      match i with
      | 0 | 1 | 2 | 3 | 4 | 5 | 6 | 7 | 8 | 9 | 10 | 11 | 12 => rfl
      | i + 13 => cases hi
    · rw [Nat.add_assoc, Nat.add_assoc]
      refine h.2.2 (23 + i) f (23 + j) ?_
      match i, hi with
      | 0, hi =>
        match f, hi with
        | 0, hi | 1, hi | 2, hi | 3, hi | 4, hi | 5, hi | 6, hi | 7, hi | 8, hi | 9, hi | 10, hi => cases hi; rfl
        | 11, hi | 12, hi | 13, hi | 14, hi => cases hi
        | f + 15, hi => cases hi
      | 1, hi =>
        match f, hi with
        | 0, hi => cases hi; rfl
        | 1, hi => cases hi
        | f + 2, hi => cases hi
      | i + 2, hi => exact absurd hi (by match i with
        | 0 | 1 | 2 | 3 | 4 | 5 | 6 | 7 | 8 | 9 | 10 => simp [sm_trf]
        | i + 11 => simp [sm_trf])
  · refine ⟨⟨Nat.le_trans h.1 (Nat.le_add_right _ _), fun i sh hi => ?_, fun i f j hi => ?_⟩, sm_row_of h 37 rfl rfl rfl⟩
    · rw [Nat.add_assoc]
      refine h.2.1 (36 + i) sh ?_
      rw [← hi]
      match i with
      | 0 | 1 | 2 | 3 | 4 | 5 | 6 | 7 | 8 | 9 | 10 | 11 | 12 => rfl
      | i + 13 => cases hi
    · rw [Nat.add_assoc, Nat.add_assoc]
      refine h.2.2 (36 + i) f (36 + j) ?_
      match i, hi with
      | 0, hi =>
        match f, hi with
        | 0, hi | 1, hi | 2, hi | 3, hi | 4, hi | 5, hi | 6, hi | 7, hi | 8, hi | 9, hi | 10, hi => cases hi; rfl
        | 11, hi | 12, hi | 13, hi | 14, hi => cases hi
        | f + 15, hi => cases hi
      | 1, hi =>
        match f, hi with
        | 0, hi => cases hi; rfl
        | 1, hi => cases hi
        | f + 2, hi => cases hi
      | i + 2, hi => exact absurd hi (by match i with
        | 0 | 1 | 2 | 3 | 4 | 5 | 6 | 7 | 8 | 9 | 10 => simp [sm_trf]
        | i + 11 => simp [sm_trf])
section CWK
variable {C : sm_K} {X t N e p : Nat} {T : Nat → Int32} {D : sm_D} {pl : List Int32} {T0 : Nat → Int32} {Q : (Option Value ⊕ Nat) → sm_D → Prop}
theorem cs_2 : (cs X t T e D p pl).1 (X + 1) 2 = ni p := by unfold cs; simp
theorem cs_3 : (cs X t T e D p pl).1 (X + 1) 3 = D.1 (X + 1) 3 := by unfold cs; simp
theorem cs_4 : (cs X t T e D p pl).1 (X + 1) 4 = md_cu T e p := by unfold cs; simp
theorem cs_o {a i : Nat} (h1 : a ≠ X + 1) (h2 : a ≠ t + 1) (h3 : a ≠ t + 2) : (cs X t T e D p pl).1 a i = D.1 a i := by
  unfold cs; dsimp only; rw [if_neg h1, if_neg h2, if_neg h3]
theorem cs_p (ht : t = X + 23 ∨ t = X + 36) : (cs X t T e D p pl).1 (t + 1) 1 = ni pl.length := by
  unfold cs; dsimp only; rw [if_neg (by omega), if_pos rfl, if_pos rfl]
theorem cs_i (ht : t = X + 23 ∨ t = X + 36) {i : Nat} (hi : i < pl.length) : (cs X t T e D p pl).1 (t + 2) i = md_nth pl i := by
  unfold cs; dsimp only; rw [if_neg (by omega), if_neg (by omega), if_pos rfl, if_pos hi]
theorem cs_N (h : cH C X t T N D) : (cs X t T0 e D p pl).1 (X + 2) 1 = ni N := by
  rw [cs_o (by omega) (by have := h.2.1; omega) (by have := h.2.1; omega)]; exact h.2.2.2.2.1
theorem cs_T (h : cH C X t T N D) {i : Nat} (hi : i < N) : (cs X t T0 e D p pl).1 (X + 3) i = T i := by
  rw [cs_o (by omega) (by have := h.2.1; omega) (by have := h.2.1; omega)]; exact h.2.2.2.2.2.1 i hi
theorem md_cu_lt (hp : p < e) : md_cu T e p = T p := if_pos hp
theorem md_cu_ge (hp : ¬ p < e) : md_cu T e p = sm_k (-1) := if_neg hp
theorem cW.byte (h : cW C X t T N e D) (hp : p < e) : ∃ n, n < 256 ∧ T p = ni n := h.1.2.2.2.2.2.2 p (by have := h.2.1; omega)
theorem md_cu_none (h : cW C X t T N e D) : (md_cu T e p = sm_k (-1)) = ¬ (p < e) := by
  unfold md_cu
  split
  · next g =>
    obtain ⟨n, hn, h1⟩ := h.byte g
    rw [h1, ni_ne_k (by omega)]
    simp [g]
  · next g => simp [g]
theorem md_cu_is {k : Nat} (hk : k < 2147483648) : (md_cu T e p = ni k) = (p < e ∧ T p = ni k) := by
  unfold md_cu
  split
  · next g => simp [g]
  · next g =>
    rw [k_ne_ni hk]
    simp [g]
/-- a heap as cs has it, but for the walk's place and letter -/
def cZ (X t : Nat) (T : Nat → Int32) (e : Nat) (D : sm_D) (pl : List Int32) (q : Nat) (E : sm_D) : Prop := E.2 = D.2 ∧ E.1 (X + 1) 2 = ni q ∧ ∀ a i, ¬ (a = X + 1 ∧ (i = 2 ∨ i = 4)) → E.1 a i = (cs X t T e D 0 pl).1 a i
theorem cZ_cs : cZ X t T e D pl p (cs X t T e D p pl) := by
  refine ⟨rfl, cs_2, fun a i hai => ?_⟩
  unfold cs
  dsimp only
  by_cases ha : a = X + 1
  · rw [if_pos ha, if_pos ha, if_neg (fun z => hai ⟨ha, Or.inl z⟩), if_neg (fun z => hai ⟨ha, Or.inr z⟩), if_neg (fun z => hai ⟨ha, Or.inl z⟩), if_neg (fun z => hai ⟨ha, Or.inr z⟩)]
  · rw [if_neg ha, if_neg ha]
theorem cZ.set {q q' : Nat} {E : sm_D} (h : cZ X t T e D pl q E) : cZ X t T e D pl q' (sm_dI E (X + 1) 2 (ni q')) := by
  refine ⟨h.1, by simp [sm_up], fun a i hai => ?_⟩
  rw [← h.2.2 a i hai]
  exact if_neg (fun z : a = X + 1 ∧ i = 2 => hai ⟨z.1, Or.inl z.2⟩)
theorem cZ.end {q : Nat} {E : sm_D} {v : Int32} (h : cZ X t T e D pl q E) (hv : v = md_cu T e q) : sm_dI E (X + 1) 4 v = cs X t T e D q pl := by
  subst hv
  refine Prod.ext ?_ h.1
  funext a i
  show (if a = X + 1 ∧ i = 4 then md_cu T e q else E.1 a i) = _
  by_cases h4 : a = X + 1 ∧ i = 4
  · rw [if_pos h4, h4.1, h4.2, cs_4]
  · rw [if_neg h4]
    by_cases h2 : a = X + 1 ∧ i = 2
    · rw [h2.1, h2.2, h.2.1, cs_2]
    · have h5 : ¬ (a = X + 1 ∧ (i = 2 ∨ i = 4)) := fun z => z.2.elim (fun y => h2 ⟨z.1, y⟩) (fun y => h4 ⟨z.1, y⟩)
      rw [h.2.2 a i h5]
      exact ((cZ_cs (p := q)).2.2 a i h5).symm
/-- the walk's step, from a place where its letter may be stale -/
theorem c31g (h : cW C X t T N e D) (hpe : p ≤ e) (h13 : p + 1 < e → T (p + 1) = ni 13 → p + 3 ≤ e) {E : sm_D} (hE : cZ X t T e D pl p E) : sm_fe C 31 [.ref (X + 1)] E = some (.inl none, cs X t T e D (md_nx T e p) pl) := by
  obtain ⟨⟨hX, ht, -, hN, hn, hT, hB⟩, he, h3⟩ := h
  have r3 : ∀ {q : Nat} {E : sm_D}, cZ X t T e D pl q E → E.1 (X + 1) 3 = ni e := fun z => by
    rw [z.2.2 _ _ (by omega), cs_3, h3]
  have rT : ∀ {q : Nat} {E : sm_D}, cZ X t T e D pl q E → ∀ i, i < N → E.1 (X + 3) i = T i := fun z i hi => by
    rw [z.2.2 _ _ (by omega), cs_o (by omega) (by omega) (by omega), hT i hi]
  have fin : ∀ (q : Nat) (E : sm_D), q ≤ e → cZ X t T e D pl q E → sw (sm_fx C 31 61 [.ref (X + 1), .ref (X + 3)] [] E) (fun w F => (w, F) = (.inl none, cs X t T e D q pl)) := by
    intro q E hq hE
    refine sw_ge (n31_61 hX) ?_
    simp (disch := omega) only [sw_ite, sw_some, sw_gu, hE.2.1, r3 hE, ni_le, ni_in, ni_nat]
    by_cases hqe : q < e
    · rw [if_neg (by omega)]
      exact ⟨decide_eq_true (by omega), by rw [hE.end (by rw [rT hE q (by omega), md_cu_lt hqe])]⟩
    · rw [if_pos (by omega), hE.end (by rw [md_cu_ge hqe])]
  have mid : ∀ (q : Nat) (E : sm_D), q ≤ e → cZ X t T e D pl q E → (q < e → T q = ni 13 → q + 2 ≤ e) → sw (sm_fx C 31 29 [.ref (X + 1), .ref (X + 3)] [] E) (fun w F => (w, F) = (.inl none, cs X t T e D (md_go T e q) pl)) := by
    intro q E hq hE h13
    refine sw_ge (n31_29 hX) ?_
    simp (disch := omega) only [sw_ite, sw_gu, hE.2.1, r3 hE, ni_le, ni_in, ni_nat]
    by_cases hqe : q < e
    · rw [if_neg (by omega), rT hE q (by omega)]
      refine ⟨decide_eq_true (by omega), ?_⟩
      by_cases hc : T q = ni 13
      · rw [if_pos hc, md_go, if_pos ⟨hqe, hc⟩, ni_add]
        exact fin (q + 2) _ (h13 hqe hc) hE.set
      · rw [if_neg hc, md_go, if_neg (fun z => hc z.2)]
        exact fin q E hq hE
    · rw [if_pos (by omega), md_go, if_neg (fun z => hqe z.1)]
      exact fin q E hq hE
  apply sw_eq
  refine sw_ge (f31 hX) ?_
  simp (disch := omega) only [sw_ite, hE.2.1, r3 hE, ni_le]
  unfold md_nx
  by_cases hpe2 : p < e
  · rw [if_neg (by omega), if_pos hpe2, ni_add]
    exact mid (p + 1) _ (by omega) hE.set h13
  · rw [if_pos (by omega), if_neg hpe2]
    have := mid p E (by omega) hE (fun h1 => absurd h1 hpe2)
    rw [md_go, if_neg (fun z => hpe2 z.1)] at this
    exact this
theorem c31 (h : cW C X t T N e D) (hp : md_ok T e p) : sm_fe C 31 [.ref (X + 1)] (cs X t T e D p pl) = some (.inl none, cs X t T e D (md_nx T e p) pl) :=
  c31g h hp.1 (fun h1 h2 => by have := hp.2.2 (p + 1) (by omega) h1 h2; omega) cZ_cs
/-- a fault is told -/
theorem c29 (hX : sm_Lay C X) {f : Nat} {E : sm_D} (hE : cF X t D E) (h : ∀ z D', cT X t D f z D' → Q (.inr z) D') : sw (sm_fe C 29 [.ref (X + 1), .int (ni f)] E) Q := by
  refine sw_ge (f29 hX) ?_
  simp only [sw_some]
  refine h _ _ ⟨_, rfl, rfl, ?_, cF_dI (Or.inl ⟨by omega, by omega, by omega, by omega⟩) hE⟩
  simp [sm_up]
/-- an item behind the pool's -/
theorem c44 (h : cH C X t T N D) {c : Int32} (hl : pl.length < 16400) : sm_fe C 44 [.ref (t + 1), .int c] (cs X t T0 e D p pl) = some (.inl none, cs X t T0 e D p (pl ++ [c])) := by
  obtain ⟨hX, ht, -⟩ := h
  apply sw_eq
  refine sw_ge (f44 (sm_tree_of hX ht).2) ?_
  have e2 : t + 1 + 1 = t + 2 := rfl
  simp (disch := omega) only [sw_ite, sw_some, sw_gu, cs_p ht, e2, ni_lt, ni_le, ni_in, ni_nat]
  rw [if_neg (by omega), if_neg (by omega)]
  refine ⟨decide_eq_true hl, ?_⟩
  refine congrArg (Prod.mk _) (Prod.ext ?_ rfl)
  funext a i
  have hn : ∀ k, k < pl.length → md_nth (pl ++ [c]) k = md_nth pl k := fun k hk => by
    unfold md_nth
    rw [List.getD_eq_getElem?_getD, List.getD_eq_getElem?_getD, List.getElem?_append_left hk]
  have hc : md_nth (pl ++ [c]) pl.length = c := by
    unfold md_nth
    rw [List.getD_eq_getElem?_getD, List.getElem?_append_right (Nat.le_refl _), Nat.sub_self]
    rfl
  have hlen : (pl ++ [c]).length = pl.length + 1 := by rw [List.length_append]; rfl
  simp only [sm_up, cs, hlen]
  by_cases h1 : a = t + 1
  · have : ¬ (t + 1 = X + 1) := by omega
    have h3 : ¬ (t + 1 = t + 2) := by omega
    subst h1
    by_cases hi : i = 1
    · subst hi
      simp only [this, h3, if_true, if_false, and_true, and_self, false_and, if_neg, true_and]
      simp [this, h3, ← ni_add]
    · simp [this, h3, hi]
  · by_cases h2 : a = t + 2
    · have : ¬ (t + 2 = X + 1) := by omega
      have h3 : ¬ (t + 2 = t + 1) := by omega
      subst h2
      by_cases hi : i = pl.length
      · subst hi
        simp [this, h3, hc]
      · by_cases hj : i < pl.length
        · simp [this, h3, hi, hj, hn i hj, show i < pl.length + 1 from by omega]
        · simp [this, h3, hi, hj, show ¬ i < pl.length + 1 from by omega]
    · simp [h1, h2]
end CWK
