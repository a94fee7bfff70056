/-! ===== the tree's texts: the pool and its slots ===== -/
def up1 {α : Type} (f : Nat → α) (k : Nat) (v : α) : Nat → α := fun j => if j = k then v else f j
def ts (t : Nat) (D : sm_D) (f g : Nat → Int32) : sm_D := (fun a i => if a = t + 3 then f i else if a = t + 4 then g i else D.1 a i, D.2)
/-- what the slots hold -/
def SL (f g : Nat → Int32) (pl : List Int32) (σ : Nat → List Int32) : Prop := ∀ k, k < 1061 → g k = ni (σ k).length ∧ (σ k).length ≤ pl.length ∧ (σ k = [] ∨ ∃ a, f k = ni a ∧ a + (σ k).length ≤ pl.length ∧ ∀ j, j < (σ k).length → md_nth pl (a + j) = md_nth (σ k) j)
theorem md_nth_app {l m : List Int32} {k : Nat} (h : k < l.length) : md_nth (l ++ m) k = md_nth l k := by
  unfold md_nth
  rw [List.getD_eq_getElem?_getD, List.getD_eq_getElem?_getD, List.getElem?_append_left h]
theorem md_nth_app2 {l m : List Int32} {k : Nat} : md_nth (l ++ m) (l.length + k) = md_nth m k := by
  unfold md_nth
  rw [List.getD_eq_getElem?_getD, List.getD_eq_getElem?_getD, List.getElem?_append_right (by omega)]
  congr 2
  omega
theorem md_nth_ge {l : List Int32} {k : Nat} (h : l.length ≤ k) : md_nth l k = sm_k (-1) := by
  unfold md_nth
  rw [List.getD_eq_getElem?_getD, List.getElem?_eq_none h]
  rfl
theorem md_ext {l m : List Int32} (h : l.length = m.length) (g : ∀ k, k < l.length → md_nth l k = md_nth m k) : l = m := by
  refine List.ext_getElem h (fun k h1 h2 => ?_)
  have := g k h1
  rw [md_nth_get h1, md_nth_get h2] at this
  exact this
theorem SL.mono {f g : Nat → Int32} {pl ys : List Int32} {σ : Nat → List Int32} (h : SL f g pl σ) : SL f g (pl ++ ys) σ := by
  intro k hk
  obtain ⟨h1, h0, h2⟩ := h k hk
  rw [List.length_append]
  refine ⟨h1, by omega, h2.imp id (fun ⟨a, h3, h4, h5⟩ => ⟨a, h3, by omega, fun j hj => ?_⟩)⟩
  rw [md_nth_app (by omega)]
  exact h5 j hj
theorem SL.set {f g : Nat → Int32} {pl ys : List Int32} {σ : Nat → List Int32} (h : SL f g pl σ) (k : Nat) : SL (up1 f k (ni pl.length)) (up1 g k (ni ys.length)) (pl ++ ys) (up1 σ k ys) := by
  intro j hj
  unfold up1
  by_cases hjk : j = k
  · rw [if_pos hjk, if_pos hjk, if_pos hjk, List.length_append]
    exact ⟨rfl, by omega, Or.inr ⟨pl.length, rfl, by omega, fun i _ => md_nth_app2⟩⟩
  · rw [if_neg hjk, if_neg hjk, if_neg hjk]
    exact h.mono j hj
theorem up_ne {α : Type} {F : Nat → Nat → α} {a i b j : Nat} {v : α} (h : ¬ (b = a ∧ j = i)) : sm_up F a i v b j = F b j := if_neg h
theorem up_eq {α : Type} {F : Nat → Nat → α} {a i : Nat} {v : α} : sm_up F a i v a i = v := if_pos ⟨rfl, rfl⟩
theorem md_at_cons {P : Nat → Int32} {a : Nat} {c : Int32} {w : List Int32} : md_at P a (c :: w) = (decide (md_sm (P a) = c) && md_at P (a + 1) w) := rfl
section CTR
variable {C : sm_K} {X t N e p : Nat} {T : Nat → Int32} {D : sm_D} {pl : List Int32} {T0 : Nat → Int32} {f g : Nat → Int32} {σ : Nat → List Int32} {Q : (Option Value ⊕ Nat) → sm_D → Prop}
theorem ts_3 {k : Nat} : (ts t D f g).1 (t + 3) k = f k := by unfold ts; simp
theorem ts_4 {k : Nat} : (ts t D f g).1 (t + 4) k = g k := by unfold ts; simp
theorem ts_o {a i : Nat} (h3 : a ≠ t + 3) (h4 : a ≠ t + 4) : (ts t D f g).1 a i = D.1 a i := by
  unfold ts; dsimp only; rw [if_neg h3, if_neg h4]
theorem cF_ts : cF X t D (ts t D f g) := by
  refine ⟨rfl, fun b hb => ?_, fun _ _ => rfl⟩
  funext j
  unfold cR at hb
  exact ts_o (by omega) (by omega)
theorem cH_ts (h : cH C X t T N D) : cH C X t T N (ts t D f g) := by
  obtain ⟨h1, h2, h3, h4, h5, h6, h7⟩ := h
  exact ⟨h1, h2, h3, h4, by rw [ts_o (by omega) (by omega)]; exact h5, fun i hi => by rw [ts_o (by omega) (by omega)]; exact h6 i hi, h7⟩
theorem cW_ts (h : cW C X t T N e D) : cW C X t T N e (ts t D f g) := by
  have h2 := h.1.2.1
  exact ⟨cH_ts h.1, h.2.1, by rw [ts_o (by omega) (by omega)]; exact h.2.2⟩
theorem cH_dI (h : cH C X t T N D) {a i : Nat} {v : Int32} (ha : cR X t a) : cH C X t T N (sm_dI D a i v) := by
  obtain ⟨h1, h2, h3, h4, h5, h6, h7⟩ := h
  unfold cR at ha
  refine ⟨h1, h2, h3, h4, ?_, fun i' hi => ?_, h7⟩
  · rw [← h5]; exact if_neg (fun z => by omega)
  · rw [← h6 i' hi]; exact if_neg (fun z => by omega)
theorem cW_dI (h : cW C X t T N e D) {a i : Nat} {v : Int32} (ha : cR X t a) (h1 : ¬ (a = X + 1 ∧ i = 3)) : cW C X t T N e (sm_dI D a i v) := by
  refine ⟨cH_dI h.1 ha, h.2.1, ?_⟩
  rw [← h.2.2]
  exact if_neg (fun z => h1 ⟨z.1.symm, z.2.symm⟩)
theorem cF_dI' {a i : Nat} {v : Int32} (ha : cR X t a) : cF X t D (sm_dI D a i v) := cF_dI ha (cF.refl X t D)
/-- writes that the walk and the slots do not see -/
theorem dI_cs {a i : Nat} {v : Int32} (h1 : ¬ (a = X + 1 ∧ (i = 2 ∨ i = 4))) (h2 : ¬ (a = t + 1 ∧ i = 1)) (h3 : a ≠ t + 2) : sm_dI (cs X t T e D p pl) a i v = cs X t T e (sm_dI D a i v) p pl := by
  refine Prod.ext ?_ rfl
  funext b j
  simp only [sm_up, cs]
  by_cases hb : b = a ∧ j = i
  · obtain ⟨rfl, rfl⟩ := hb
    simp only [and_self, if_true]
    by_cases hx : b = X + 1
    · rw [if_pos hx, if_neg (fun z => h1 ⟨hx, Or.inl z⟩), if_neg (fun z => h1 ⟨hx, Or.inr z⟩)]
    · rw [if_neg hx]
      by_cases ht : b = t + 1
      · rw [if_pos ht, if_neg (fun z => h2 ⟨ht, z⟩)]
      · rw [if_neg ht, if_neg h3]
  · simp only [hb, if_false]
theorem dI_ts {a i : Nat} {v : Int32} (h3 : a ≠ t + 3) (h4 : a ≠ t + 4) : sm_dI (ts t D f g) a i v = ts t (sm_dI D a i v) f g := by
  refine Prod.ext ?_ rfl
  funext b j
  simp only [sm_up, ts]
  by_cases hb : b = a ∧ j = i
  · obtain ⟨rfl, rfl⟩ := hb
    rw [if_pos ⟨rfl, rfl⟩, if_neg h3, if_neg h4, if_pos ⟨rfl, rfl⟩]
  · simp only [hb, if_false]
theorem dI_ts3 {k : Nat} {v : Int32} : sm_dI (ts t D f g) (t + 3) k v = ts t D (up1 f k v) g := by
  refine Prod.ext ?_ rfl
  funext b j
  simp only [sm_up, ts, up1]
  by_cases hb : b = t + 3
  · by_cases hj : j = k <;> simp [hb, hj]
  · simp [hb]
theorem dI_ts4 {k : Nat} {v : Int32} : sm_dI (ts t D f g) (t + 4) k v = ts t D f (up1 g k v) := by
  refine Prod.ext ?_ rfl
  funext b j
  simp only [sm_up, ts, up1]
  by_cases hb : b = t + 4
  · by_cases hj : j = k <;> simp [hb, hj]
  · simp [hb]
theorem c42 (h : cH C X t T N D) {i : Nat} (hl : pl.length ≤ 16400) (hi : i < 2147483648) : sm_fe C 42 [.ref (t + 1), .int (ni i)] (cs X t T0 e D p pl) = some (.inl (some (.int (md_nth pl i))), cs X t T0 e D p pl) := by
  have ht := h.2.1
  apply sw_eq
  refine sw_ge (f42 (sm_tree_of h.1 ht).2) ?_
  have e2 : t + 1 + 1 = t + 2 := rfl
  simp (disch := omega) only [sw_ite, sw_some, sw_gu, cs_p ht, e2, ni_lt, ni_le, ni_in, ni_nat]
  rw [if_neg (by omega)]
  by_cases hi2 : i < pl.length
  · rw [if_neg (by omega), if_neg (by omega), cs_i ht hi2]
    exact ⟨decide_eq_true (by omega), rfl⟩
  · rw [if_pos (by omega), md_nth_ge (by omega)]
theorem c42t (h : cH C X t T N D) {i : Nat} (hi : i < 2147483648) : sm_fe C 42 [.ref (X + 2), .int (ni i)] (cs X t T0 e D p pl) = some (.inl (some (.int (if i < N then T i else sm_k (-1)))), cs X t T0 e D p pl) := by
  have hr : sm_row C (X + 2) 8000 := sm_row_of h.1 2 rfl rfl rfl
  have hN := h.2.2.2.1
  apply sw_eq
  refine sw_ge (f42 hr) ?_
  have e2 : X + 2 + 1 = X + 3 := rfl
  simp (disch := omega) only [sw_ite, sw_some, sw_gu, cs_N h, e2, ni_lt, ni_le, ni_in, ni_nat]
  rw [if_neg (by omega)]
  by_cases hi2 : i < N
  · rw [if_neg (by omega), if_neg (by omega), if_pos hi2, cs_T h hi2]
    exact ⟨decide_eq_true (by omega), rfl⟩
  · rw [if_pos (by omega), if_neg hi2]
theorem c131 (h : cH C X t T N D) {k a : Nat} (hk : k < 1061) (ha : a ≤ pl.length) : sm_fe C 131 [.ref t, .int (ni k), .int (ni a)] (cs X t T0 e (ts t D f g) p pl) = some (.inl none, cs X t T0 e (ts t D (up1 f k (ni a)) (up1 g k (ni (pl.length - a)))) p pl) := by
  have ht := h.2.1
  apply sw_eq
  refine sw_ge (f131 (sm_tree_of h.1 ht).1) ?_
  simp (disch := omega) only [sw_ite, sw_some, sw_gu, ni_lt, ni_le, ni_in, ni_nat]
  rw [if_neg (by omega), if_neg (by omega)]
  refine ⟨decide_eq_true hk, decide_eq_true hk, ?_⟩
  rw [dI_cs (by omega) (by omega) (by omega), dI_ts3, dI_cs (by omega) (by omega) (by omega), up_ne (by omega), cs_p ht, ni_sub ha, dI_ts4]
theorem c138 (h : cH C X t T N D) {k : Nat} (hk : k < 1061) (hs : SL f g pl σ) : sm_fe C 138 [.ref t, .int (ni k)] (cs X t T0 e (ts t D f g) p pl) = some (.inl (some (.int (ni (σ k).length))), cs X t T0 e (ts t D f g) p pl) := by
  have ht := h.2.1
  apply sw_eq
  refine sw_ge (f138 (sm_tree_of h.1 ht).1) ?_
  simp (disch := omega) only [sw_ite, sw_some, sw_gu, ni_lt, ni_le, ni_in, ni_nat]
  rw [if_neg (by omega), if_neg (by omega), cs_o (by omega) (by omega) (by omega), ts_4, (hs k hk).1]
  exact ⟨decide_eq_true hk, rfl⟩
theorem c140 (h : cH C X t T N D) {k : Nat} (hk : k < 1061) : sm_fe C 140 [.ref t, .int (ni k)] (cs X t T0 e (ts t D f g) p pl) = some (.inl (some (.int (f k))), cs X t T0 e (ts t D f g) p pl) := by
  have ht := h.2.1
  apply sw_eq
  refine sw_ge (f140 (sm_tree_of h.1 ht).1) ?_
  simp (disch := omega) only [sw_ite, sw_some, sw_gu, ni_lt, ni_le, ni_in, ni_nat]
  rw [if_neg (by omega), if_neg (by omega), cs_o (by omega) (by omega) (by omega), ts_3]
  exact ⟨decide_eq_true hk, rfl⟩
theorem c139 (h : cH C X t T N D) {k j : Nat} (hk : k < 1061) (hs : SL f g pl σ) (hl : pl.length ≤ 16400) (hj : j < (σ k).length) : sm_fe C 139 [.ref t, .int (ni k), .int (ni j)] (cs X t T0 e (ts t D f g) p pl) = some (.inl (some (.int (md_nth (σ k) j))), cs X t T0 e (ts t D f g) p pl) := by
  have ht := h.2.1
  obtain ⟨h1, h0, h2 | ⟨a, h3, h4, h5⟩⟩ := hs k hk
  · rw [h2] at hj; exact absurd hj (Nat.not_lt_zero _)
  · apply sw_eq
    refine sw_ge (f139 (sm_tree_of h.1 ht).1) ?_
    simp only [sw_bi, c140 h hk, sw_some, sb_i, h3, ni_add, c42 (cH_ts h) hl (show a + j < 2147483648 by omega), h5 j hj]
/-- a word among the pool's items -/
theorem c43g {r nr : Nat} {P : Nat → Int32} {s : Nat} {l : List Int32} {E : sm_D} {b : Nat} (hr : sm_row C r nr) (hs : st C s l) (hP : ∀ i, i < b → sm_fe C 42 [.ref r, .int (ni i)] E = some (.inl (some (.int (P i))), E)) {a n : Nat} (hn : n = l.length → a + n ≤ b) (hb : b < 2147483648) (hn2 : n < 2147483648) :
    sm_fe C 43 [.ref r, .int (ni a), .int (ni n), .ref s] E = some (.inl (some (.int (md_b (decide (n = l.length) && md_at P a l)))), E) := by
  obtain ⟨w, h1, -, h3, h4, -⟩ := id hs
  have loop : ∀ (m k : Nat), k + m = l.length → n = l.length → sm_fx C 43 13 [.ref r, .int (ni a), .int (ni n), .ref s, .int (ni k)] [] E = some (.inl (some (.int (md_b (md_at P (a + k) (l.drop k))))), E) := by
    intro m
    induction m with
    | zero =>
      intro k hk hnl
      apply sw_eq
      refine sw_ge (n43_13 hr h1) ?_
      simp (disch := omega) only [sw_ite, sw_some, ni_le]
      rw [if_pos (by omega), List.drop_of_length_le (by omega), nar_b1]
      rfl
    | succ m ih =>
      intro k hk hnl
      have := hn hnl
      have hk2 : k < l.length := by omega
      apply sw_eq
      refine sw_ge (n43_13 hr h1) ?_
      simp (disch := omega) only [sw_ite, sw_some, ni_le, ni_add, sw_bi, hP (a + k) (by omega), sb_i, c2, s262 hs hk2, ih (k + 1) (by omega) hnl]
      rw [if_neg (by omega), List.drop_eq_getElem_cons hk2, md_nth_get hk2, nar_b0]
      rw [md_at_cons]
      by_cases hc : md_sm (P (a + k)) = l[k]
      · rw [if_pos hc, decide_eq_true hc, Bool.true_and]; rfl
      · rw [if_neg hc, decide_eq_false hc, Bool.false_and]; rfl
  apply sw_eq
  refine sw_ge (f43 hr h1) ?_
  simp (disch := omega) only [sw_bi, s260 h1, sw_some, sb_i, sw_ite, ni_inj]
  by_cases hc : n = l.length
  · rw [if_pos hc, loop l.length 0 (by omega) hc, sw_some, decide_eq_true hc, Bool.true_and, List.drop_zero]
    rfl
  · rw [if_neg hc, decide_eq_false hc, Bool.false_and, nar_b0]
    rfl
end CTR
