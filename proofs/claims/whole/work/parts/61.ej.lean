/-! ===== subjects ===== -/
def cM (X : Nat) (D E : sm_D) : Prop := E.2 = D.2 ∧ ∀ a j, a ≠ X + 10 → a ≠ X + 12 → a ≠ X + 13 → E.1 a j = D.1 a j
def MT (X : Nat) (D : sm_D) (m : List Int32) : Prop := D.1 (X + 12) 1 = ni m.length ∧ m.length ≤ 75 ∧ ∀ i, i < m.length → D.1 (X + 13) i = md_nth m i
def ms (X : Nat) (D : sm_D) (m : List Int32) : sm_D := (fun a i => if a = X + 12 then (if i = 1 then ni m.length else D.1 a i) else if a = X + 13 then (if i < m.length then md_nth m i else D.1 a i) else D.1 a i, D.2)
section CSJ
variable {C : sm_K} {X t N e p : Nat} {T T0 : Nat → Int32} {D : sm_D} {pl : List Int32} {Q : (Option Value ⊕ Nat) → sm_D → Prop}
theorem cM.refl (D : sm_D) : cM X D D := ⟨rfl, fun _ _ _ _ _ => rfl⟩
theorem cM.trans {E F : sm_D} (h : cM X D E) (g : cM X E F) : cM X D F := ⟨g.1.trans h.1, fun a j h1 h2 h3 => (g.2 a j h1 h2 h3).trans (h.2 a j h1 h2 h3)⟩
theorem cM.kst {v h q : Int32} {E : sm_D} (g : cM X D E) : cM X D (kst X E v h q) := ⟨g.1, fun a j h1 h2 h3 => by rw [kst_o h1]; exact g.2 a j h1 h2 h3⟩
theorem ms_o {m : List Int32} {a i : Nat} (h1 : a ≠ X + 12) (h2 : a ≠ X + 13) : (ms X D m).1 a i = D.1 a i := by unfold ms; dsimp only; rw [if_neg h1, if_neg h2]
theorem cM.ms {m : List Int32} {E : sm_D} (g : cM X D E) : cM X D (ms X E m) := ⟨g.1, fun a j h1 h2 h3 => by rw [ms_o h2 h3]; exact g.2 a j h1 h2 h3⟩
theorem cM.cH {E : sm_D} (h : cM X D E) (g : cH C X t T N D) : cH C X t T N E := by
  obtain ⟨h1, h2, h3, h4, h5, h6, h7⟩ := g
  exact ⟨h1, h2, h3, h4, by rw [h.2 _ _ (by omega) (by omega) (by omega)]; exact h5, fun i hi => by rw [h.2 _ _ (by omega) (by omega) (by omega)]; exact h6 i hi, h7⟩
theorem cM.cF {E : sm_D} (h : cM X D E) : cF X t D E := by
  refine ⟨by rw [h.1], fun a ha => ?_, fun a _ => by rw [h.1]⟩
  funext j
  unfold cR at ha
  exact h.2 a j (by omega) (by omega) (by omega)
theorem MT_ms {m : List Int32} (hm : m.length ≤ 75) : MT X (ms X D m) m := by
  refine ⟨?_, hm, fun i hi => ?_⟩
  · unfold ms; dsimp only; rw [if_pos rfl, if_pos rfl]
  · unfold ms; dsimp only; rw [if_neg (by omega), if_pos rfl, if_pos hi]
theorem ms_nil : ms X D [] = sm_dI D (X + 12) 1 (ni 0) := by
  refine Prod.ext ?_ rfl
  funext a i
  simp only [ms, sm_up]
  by_cases ha : a = X + 12
  · by_cases hi : i = 1 <;> simp [ha, hi]
  · by_cases hb : a = X + 13 <;> simp [ha, hb]
theorem dI_ms {m : List Int32} {i : Nat} {v : Int32} : sm_dI (ms X D m) (X + 10) i v = ms X (sm_dI D (X + 10) i v) m := by
  refine Prod.ext ?_ rfl
  funext a j
  simp only [ms, sm_up]
  by_cases ha : a = X + 12
  · simp [ha]
  · by_cases hb : a = X + 13
    · simp [hb]
    · simp [ha, hb]
theorem row_m (hX : sm_Lay C X) : sm_row C (X + 12) 75 := sm_row_of hX 12 rfl rfl rfl
theorem c44m (h : cH C X t T N D) {m : List Int32} {c : Int32} (hm : m.length < 75) : sm_fe C 44 [.ref (X + 12), .int c] (cs X t T0 e (ms X D m) p pl) = some (.inl none, cs X t T0 e (ms X D (m ++ [c])) p pl) := by
  have ht := h.2.1
  have hM := MT_ms (X := X) (D := D) (Nat.le_of_lt hm)
  apply sw_eq
  refine sw_ge (f44 (row_m h.1)) ?_
  have e1 : (cs X t T0 e (ms X D m) p pl).1 (X + 12) 1 = ni m.length := by rw [cs_o (by omega) (by omega) (by omega), hM.1]
  have e2 : X + 12 + 1 = X + 13 := rfl
  have e3 : sm_up (cs X t T0 e (ms X D m) p pl).1 (X + 13) m.length c (X + 12) 1 = ni m.length := by rw [up_ne (by omega), e1]
  simp (disch := omega) only [sw_ite, sw_some, sw_gu, e1, e2, ni_lt, ni_le, ni_in, ni_nat, e3, ni_add]
  rw [if_neg (by omega), if_neg (by omega)]
  refine ⟨decide_eq_true hm, ?_⟩
  rw [dI_cs (by omega) (by omega) (by omega), dI_cs (by omega) (by omega) (by omega)]
  have : sm_dI (sm_dI (ms X D m) (X + 13) m.length c) (X + 12) 1 (ni (m.length + 1)) = ms X D (m ++ [c]) := by
    refine Prod.ext ?_ rfl
    funext a i
    have hlen : (m ++ [c]).length = m.length + 1 := by rw [List.length_append]; rfl
    simp only [sm_up, ms, hlen]
    by_cases ha : a = X + 12
    · by_cases hi : i = 1 <;> simp [ha, hi]
    · by_cases hb : a = X + 13
      · subst hb
        by_cases hi : i = m.length
        · subst hi
          have := md_nth_app2 (l := m) (m := [c]) (k := 0)
          rw [Nat.add_zero] at this
          simp [this, md_nth]
        · by_cases hj : i < m.length
          · simp [hi, hj, md_nth_app hj, show i < m.length + 1 from by omega]
          · simp [hi, hj, show ¬ i < m.length + 1 from by omega]
      · simp [ha, hb]
  rw [this]
theorem c42m (h : cH C X t T N D) {m : List Int32} (hM : MT X D m) {i : Nat} (hi : i < 2147483648) : sm_fe C 42 [.ref (X + 12), .int (ni i)] (cs X t T0 e D p pl) = some (.inl (some (.int (md_nth m i))), cs X t T0 e D p pl) := by
  have ht := h.2.1
  have hm := hM.2.1
  apply sw_eq
  refine sw_ge (f42 (row_m h.1)) ?_
  have e1 : (cs X t T0 e D p pl).1 (X + 12) 1 = ni m.length := by rw [cs_o (by omega) (by omega) (by omega), hM.1]
  have e2 : X + 12 + 1 = X + 13 := rfl
  simp (disch := omega) only [sw_ite, sw_some, sw_gu, e1, e2, ni_lt, ni_le, ni_in, ni_nat]
  rw [if_neg (by omega)]
  by_cases hi2 : i < m.length
  · rw [if_neg (by omega), if_neg (by omega), cs_o (by omega) (by omega) (by omega), hM.2.2 i hi2]
    exact ⟨decide_eq_true (by omega), rfl⟩
  · rw [if_pos (by omega), md_nth_ge (by omega)]
theorem rowA_m (h : cH C X t T N D) : rowA C X (X + 12) 75 (fun xs D => cs X t T0 e (ms X D xs) p pl) (cH C X t T N) := by
  have ht := h.2.1
  exact ⟨row_m h.1, by omega, fun xs D i v => by rw [dI_cs (by omega) (by omega) (by omega), dI_ms], fun xs D i => by rw [cs_o (by omega) (by omega) (by omega), ms_o (by omega) (by omega)], fun xs D c hD hl => c44m hD hl, fun D v h q hD => cH_kst hD⟩
theorem md_run_le {P : Nat → Int32} {bl : Bool} {n k : Nat} (h : k ≤ n) : k ≤ md_run P bl n k ∧ md_run P bl n k ≤ n := by
  unfold md_run
  split
  · next g =>
    have := md_run_le (P := P) (bl := bl) (n := n) (k := k + 1) g.1
    omega
  · omega
termination_by n - k
theorem md_mark_le {P : Nat → Int32} {n k : Nat} : k ≤ md_mark P n k ∧ (k ≤ n → md_mark P n k ≤ n) ∧ (n < k → md_mark P n k = k) := by
  unfold md_mark
  split
  · next g =>
    have := md_mark_le (P := P) (n := n) (k := k + 1)
    omega
  · omega
termination_by n - k
theorem c45 (h : cH C X t T N D) (hl : pl.length ≤ 16400) {b : Nat} (hb : b < 100000) {bl : Bool} : ∀ (m a : Nat), b - a ≤ m → a < 100000 → sm_fx C 45 3 [.ref (t + 1), sm_junk, .int (ni b), .int (md_b bl), .int (ni a)] [] (cs X t T0 e D p pl) = some (.inl (some (.int (ni (md_run (md_nth pl) bl b a)))), cs X t T0 e D p pl) := by
  have hr := (sm_tree_of h.1 h.2.1).2
  have hbb : ∀ x : Bool, (md_b x = md_b bl) = (x = bl) := fun x => by cases x <;> cases bl <;> decide
  intro m
  induction m with
  | zero =>
    intro a hm ha
    apply sw_eq
    refine sw_ge (n45_3 hr) ?_
    simp (disch := omega) only [sw_ite, ni_le, sw_some]
    rw [if_pos (by omega), md_run, if_neg (fun z => by omega)]
  | succ m ih =>
    intro a hm ha
    apply sw_eq
    refine sw_ge (n45_3 hr) ?_
    by_cases hab : a < b
    · simp (disch := omega) only [sw_ite, ni_le, sw_some, sw_bi, c42 h hl (show a < 2147483648 by omega), sb_i, c3, hbb, ni_add, ih (a + 1) (by omega) (by omega)]
      rw [if_neg (by omega)]
      by_cases hc : md_bl (md_nth pl a) = bl
      · have e1 : md_run (md_nth pl) bl b a = md_run (md_nth pl) bl b (a + 1) := by
          conv => lhs; rw [md_run]
          rw [if_pos ⟨hab, hc⟩]
        rw [if_pos hc, e1]
      · rw [if_neg hc, md_run, if_neg (fun z => hc z.2)]
    · simp (disch := omega) only [sw_ite, ni_le, sw_some]
      rw [if_pos (by omega), md_run, if_neg (fun z => hab z.1)]
theorem c45' (h : cH C X t T N D) (hl : pl.length ≤ 16400) {a b : Nat} (hb : b < 100000) (ha : a < 100000) {bl : Bool} : sm_fe C 45 [.ref (t + 1), .int (ni a), .int (ni b), .int (md_b bl)] (cs X t T0 e D p pl) = some (.inl (some (.int (ni (md_run (md_nth pl) bl b a)))), cs X t T0 e D p pl) := by
  have hr := (sm_tree_of h.1 h.2.1).2
  apply sw_eq
  refine sw_ge (f45 hr) ?_
  rw [c45 h hl hb _ a (Nat.le_refl _) ha, sw_some]
theorem c93 (h : cH C X t T N D) (hl : pl.length ≤ 16400) {b : Nat} (hb : b < 100000) : ∀ (m a : Nat), b - a ≤ m → a < 100000 → sm_fx C 93 2 [.ref (t + 1), sm_junk, .int (ni b), .int (ni a)] [] (cs X t T0 e D p pl) = some (.inl (some (.int (ni (md_mark (md_nth pl) b a)))), cs X t T0 e D p pl) := by
  have hr := (sm_tree_of h.1 h.2.1).2
  intro m
  induction m with
  | zero =>
    intro a hm ha
    apply sw_eq
    refine sw_ge (n93_2 hr) ?_
    simp (disch := omega) only [sw_ite, ni_le, sw_some]
    rw [if_pos (by omega), md_mark, if_neg (fun z => by omega)]
  | succ m ih =>
    intro a hm ha
    apply sw_eq
    refine sw_ge (n93_2 hr) ?_
    by_cases hab : a < b
    · simp (disch := omega) only [sw_ite, ni_le, sw_some, sw_bi, c42 h hl (show a < 2147483648 by omega), sb_i, ni_add, ih (a + 1) (by omega) (by omega)]
      rw [if_neg (by omega)]
      by_cases hc : md_nth pl a = ni 63
      · rw [if_pos hc, md_mark, if_neg (fun z => z.2 hc)]
      · have e1 : md_mark (md_nth pl) b a = md_mark (md_nth pl) b (a + 1) := by
          conv => lhs; rw [md_mark]
          rw [if_pos ⟨hab, hc⟩]
        rw [if_neg hc, e1]
    · simp (disch := omega) only [sw_ite, ni_le, sw_some]
      rw [if_pos (by omega), md_mark, if_neg (fun z => hab z.1)]
theorem c93' (h : cH C X t T N D) (hl : pl.length ≤ 16400) {a b : Nat} (hb : b < 100000) (ha : a < 100000) : sm_fe C 93 [.ref (t + 1), .int (ni a), .int (ni b)] (cs X t T0 e D p pl) = some (.inl (some (.int (ni (md_mark (md_nth pl) b a)))), cs X t T0 e D p pl) := by
  have hr := (sm_tree_of h.1 h.2.1).2
  apply sw_eq
  refine sw_ge (f93 hr) ?_
  rw [c93 h hl hb _ a (Nat.le_refl _) ha, sw_some]
/-- what an encoded word means by base64 -/
theorem c95 (h : cH C X t T N D) (hl : pl.length ≤ 16400) {z a : Nat} (haz : a ≤ z) (hz : z ≤ a + 70) (ha : a < 90000) (hby : ∀ j, a ≤ j → j < z → ∃ n, n < 256 ∧ md_nth pl j = ni n)
    (hok : ∀ l, md_mB (md_nth pl) z (ni 0) 0 0 a = some l → ∀ D', cM X D D' → MT X D' l → Q (.inl (some (.int (md_b true)))) (cs X t T0 e D' p pl)) (hno : md_mB (md_nth pl) z (ni 0) 0 0 a = none → ∀ D', cM X D D' → Q (.inl (some (.int (md_b false)))) (cs X t T0 e D' p pl)) :
    sw (sm_fe C 95 [.ref (X + 11), .ref (t + 1), .int (ni a), .int (ni z)] (cs X t T0 e D p pl)) Q := by
  have hX := h.1
  have ht := h.2.1
  have hr := (sm_tree_of hX ht).2
  have loop : ∀ (m k : Nat) (v : Int32) (g pd : Nat) (xs : List Int32), z - k ≤ m → a ≤ k → k ≤ z → md_J g pd → xs.length + g ≤ k - a → (∀ l, md_mB (md_nth pl) z v g pd k = some l → ∀ D', cM X D D' → MT X D' (xs ++ l) → Q (.inl (some (.int (md_b true)))) (cs X t T0 e D' p pl)) → (md_mB (md_nth pl) z v g pd k = none → ∀ D', cM X D D' → Q (.inl (some (.int (md_b false)))) (cs X t T0 e D' p pl)) → sw (sm_fx C 95 18 [.ref (X + 11), .ref (t + 1), sm_junk, .int (ni z), .int (ni k)] [] (cs X t T0 e (ms X (kst X D v (ni g) (ni pd)) xs) p pl)) Q := by
    intro m
    induction m with
    | zero =>
      intro k v g pd xs hm hk1 hk2 hJ hxs hok hno
      have hg := hJ.1
      rw [md_mB, if_neg (by omega)] at hok hno
      refine sw_ge (n95_18 hX hr) ?_
      have e2 : (cs X t T0 e (ms X (kst X D v (ni g) (ni pd)) xs) p pl).1 (X + 10) 2 = ni g := by rw [cs_o (by omega) (by omega) (by omega), ms_o (by omega) (by omega), kst_2]
      simp (disch := omega) only [sw_ite, ni_le, sw_some, e2, ni_inj, nar_b0, nar_b1]
      rw [if_pos (by omega)]
      by_cases hg0 : g = 0
      · rw [if_pos hg0]
        rw [if_pos hg0] at hok
        exact hok [] rfl _ (cM.refl D).kst.ms (by rw [List.append_nil]; exact MT_ms (by omega))
      · rw [if_neg hg0]
        rw [if_neg hg0] at hno
        exact hno rfl _ (cM.refl D).kst.ms
    | succ m ih =>
      intro k v g pd xs hm hk1 hk2 hJ hxs hok hno
      have hg := hJ.1
      have hpd : pd ≤ 2 := by have := hJ.2; omega
      by_cases hkz : k < z
      · rw [md_mB, if_pos hkz] at hok hno
        obtain ⟨n, hn, en⟩ := hby k hk1 hkz
        have hH : cH C X t T N (ms X (kst X D v (ni g) (ni pd)) xs) := (cM.refl D).kst.ms.cH h
        refine sw_ge (n95_18 hX hr) ?_
        simp (disch := omega) only [sw_ite, ni_le, sw_bi, c42 hH hl (show k < 2147483648 by omega), sw_some, sb_i]
        rw [if_neg (by omega)]
        have hts := c83 (v := v) (h := g) (pd := pd) (n := n) (xs := xs) hX h.2.2.1 (rowA_m (T0 := T0) (e := e) (p := p) (pl := pl) h) h hg hpd hn (by omega)
        rw [← en] at hts
        rw [hts]
        cases htk : md_tk v g pd (md_nth pl k) with
        | error bb =>
          rw [htk] at hno
          simp only [sw_some, sb_i, sw_ite, nar_b0]
          rw [if_neg (by cases bb <;> decide)]
          exact hno rfl _ (cM.refl D).kst.ms
        | ok w =>
          obtain ⟨v', g', pd', ys⟩ := w
          obtain ⟨t1, t2⟩ := md_tk_J hJ htk
          rw [htk] at hok hno
          dsimp only at hok hno
          simp only [sw_some, sb_i, sw_ite, if_true, ni_add]
          refine ih (k + 1) v' g' pd' (xs ++ ys) (by omega) (by omega) (by omega) t1 (by rw [List.length_append]; omega) (fun l hl2 D' hD hM => ?_) (fun hl2 => ?_)
          · rw [hl2] at hok
            exact hok _ rfl D' hD (by rw [← List.append_assoc]; exact hM)
          · rw [hl2] at hno
            exact hno rfl
      · rw [md_mB, if_neg hkz] at hok hno
        refine sw_ge (n95_18 hX hr) ?_
        have e2 : (cs X t T0 e (ms X (kst X D v (ni g) (ni pd)) xs) p pl).1 (X + 10) 2 = ni g := by rw [cs_o (by omega) (by omega) (by omega), ms_o (by omega) (by omega), kst_2]
        simp (disch := omega) only [sw_ite, ni_le, sw_some, e2, ni_inj, nar_b0, nar_b1]
        rw [if_pos (by omega)]
        by_cases hg0 : g = 0
        · rw [if_pos hg0]
          rw [if_pos hg0] at hok
          exact hok [] rfl _ (cM.refl D).kst.ms (by rw [List.append_nil]; exact MT_ms (by omega))
        · rw [if_neg hg0]
          rw [if_neg hg0] at hno
          exact hno rfl _ (cM.refl D).kst.ms
  refine sw_ge (f95 hX hr) ?_
  simp only [sw_bv]
  rw [dI_cs (by omega) (by omega) (by omega), ← ms_nil]
  obtain ⟨v1, w1, q1, e1, e2⟩ := c82 (C := C) (X := X) (D := cs X t T0 e (ms X D []) p pl) hX
  have e3 : kst X (cs X t T0 e (ms X D []) p pl) (ni 0) (ni 0) (ni 0) = cs X t T0 e (ms X (kst X D (ni 0) (ni 0) (ni 0)) []) p pl := by
    refine Prod.ext ?_ rfl
    funext a i
    unfold kst cs ms
    dsimp only
    by_cases ha : a = X + 10
    · subst ha
      have a1 : ¬ (X + 10 = t + 1) := by omega
      have a2 : ¬ (X + 10 = t + 2) := by omega
      have a3 : ¬ (X + 10 = X + 1) := by omega
      have a4 : ¬ (X + 10 = X + 12) := by omega
      have a5 : ¬ (X + 10 = X + 13) := by omega
      simp only [a1, a2, a3, a4, a5, if_true, if_false]
    · rw [if_neg ha, if_neg ha]
  rw [e2, sw_some]
  simp only [sb_v]
  rw [e3]
  exact loop _ a (ni 0) 0 0 [] (Nat.le_refl _) (Nat.le_refl _) haz ⟨by omega, by omega⟩ (by rw [List.length_nil]; omega) (fun l hl2 D' hD hM => hok l hl2 D' hD hM) hno
theorem c96 (h : cH C X t T N D) (hl : pl.length ≤ 16400) {z a : Nat} (haz : a ≤ z) (hz : z ≤ a + 70) (ha : a < 90000) (hby : ∀ j, a ≤ j → j < z → ∃ n, n < 256 ∧ md_nth pl j = ni n)
    (hok : ∀ l, md_mQ (md_nth pl) z a = some l → ∀ D', cM X D D' → MT X D' l → Q (.inl (some (.int (md_b true)))) (cs X t T0 e D' p pl)) (hno : md_mQ (md_nth pl) z a = none → ∀ D', cM X D D' → Q (.inl (some (.int (md_b false)))) (cs X t T0 e D' p pl)) :
    sw (sm_fe C 96 [.ref (X + 11), .ref (t + 1), .int (ni a), .int (ni z)] (cs X t T0 e D p pl)) Q := by
  have hX := h.1
  have ht := h.2.1
  have hr := (sm_tree_of hX ht).2
  have loop : ∀ (m k : Nat) (xs : List Int32), z - k ≤ m → a ≤ k → k ≤ z → xs.length ≤ k - a → (∀ l, md_mQ (md_nth pl) z k = some l → ∀ D', cM X D D' → MT X D' (xs ++ l) → Q (.inl (some (.int (md_b true)))) (cs X t T0 e D' p pl)) → (md_mQ (md_nth pl) z k = none → ∀ D', cM X D D' → Q (.inl (some (.int (md_b false)))) (cs X t T0 e D' p pl)) → sw (sm_fx C 96 11 [.ref (X + 11), .ref (t + 1), sm_junk, .int (ni z), .int (ni k), sm_junk, sm_junk] [] (cs X t T0 e (ms X D xs) p pl)) Q := by
    intro m
    induction m with
    | zero =>
      intro k xs hm hk1 hk2 hxs hok hno
      rw [md_mQ, if_neg (by omega)] at hok
      refine sw_ge (n96_11 hX hr) ?_
      simp (disch := omega) only [sw_ite, ni_le, sw_some, nar_b1]
      rw [if_pos (by omega)]
      exact hok [] rfl _ (cM.refl D).ms (by rw [List.append_nil]; exact MT_ms (by omega))
    | succ m ih =>
      intro k xs hm hk1 hk2 hxs hok hno
      by_cases hkz : k < z
      · rw [md_mQ, if_pos hkz] at hok hno
        have hH : cH C X t T N (ms X D xs) := (cM.refl D).ms.cH h
        refine sw_ge (n96_11 hX hr) ?_
        simp (disch := omega) only [sw_ite, ni_le, sw_bi, c42 hH hl (show k < 2147483648 by omega), c42 hH hl (show k + 1 < 2147483648 by omega), c42 hH hl (show k + 2 < 2147483648 by omega), sw_some, sb_i, ni_add]
        rw [if_neg (by omega)]
        by_cases h61 : md_nth pl k = ni 61
        · rw [if_pos h61]
          rw [if_pos h61] at hok hno
          have h63 : ∀ s : Int32, s = (if k + 2 < z then md_hx (md_nth pl (k + 1)) (md_nth pl (k + 2)) else sm_k (-1)) → sw (sm_fx C 96 63 [.ref (X + 11), .ref (t + 1), sm_junk, .int (ni z), .int (ni k), sm_junk, sm_junk] [.int s] (cs X t T0 e (ms X D xs) p pl)) Q := by
            intro s hs
            refine sw_ge (n96_63 hX hr) ?_
            simp only [sw_ite, sw_some, nar_b0, sw_bv, c44m h (show xs.length < 75 by omega), sb_v, ni_add]
            by_cases hc : k + 2 < z ∧ md_hx (md_nth pl (k + 1)) (md_nth pl (k + 2)) ≠ sm_k (-1)
            · rw [if_pos hc.1] at hs
              rw [if_neg (by rw [hs]; exact hc.2)]
              rw [if_pos hc] at hok hno
              refine ih (k + 3) (xs ++ [s]) (by omega) (by omega) (by omega) (by rw [List.length_append, List.length_singleton]; omega) (fun l hl2 D' hD hM => ?_) (fun hl2 => ?_)
              · rw [hl2] at hok
                rw [hs] at hM
                exact hok _ rfl D' hD (by rw [List.append_assoc] at hM; exact hM)
              · rw [hl2] at hno
                exact hno rfl
            · have hsn : s = sm_k (-1) := by
                rw [hs]
                by_cases h2 : k + 2 < z
                · rw [if_pos h2]
                  by_cases hx : md_hx (md_nth pl (k + 1)) (md_nth pl (k + 2)) = sm_k (-1)
                  · exact hx
                  · exact absurd ⟨h2, hx⟩ hc
                · rw [if_neg h2]
              rw [if_pos hsn]
              rw [if_neg hc] at hno
              exact hno rfl _ (cM.refl D).ms
          by_cases h2 : k + 2 < z
          · rw [if_neg (by omega)]
            obtain ⟨n1, hn1, en1⟩ := hby (k + 1) (by omega) (by omega)
            obtain ⟨n2, hn2, en2⟩ := hby (k + 2) (by omega) (by omega)
            rw [en1, en2, c84 h.2.2.1 hn1 hn2, sw_some]
            simp only [sb_i]
            exact h63 _ (by rw [if_pos h2, en1, en2])
          · rw [if_pos (by omega)]
            exact h63 _ (by rw [if_neg h2])
        · rw [if_neg h61]
          rw [if_neg h61] at hok hno
          have h106 : ∀ s : Int32, s = (if md_nth pl k = ni 95 then ni 32 else md_nth pl k) → sw (sm_fx C 96 106 [.ref (X + 11), .ref (t + 1), sm_junk, .int (ni z), .int (ni k), sm_junk, sm_junk] [.int s, .ref (X + 12)] (cs X t T0 e (ms X D xs) p pl)) Q := by
            intro s hs
            refine sw_ge (n96_106 hX hr) ?_
            simp only [sw_bv, c44m h (show xs.length < 75 by omega), sw_some, sb_v, ni_add]
            refine ih (k + 1) (xs ++ [s]) (by omega) (by omega) (by omega) (by rw [List.length_append, List.length_singleton]; omega) (fun l hl2 D' hD hM => ?_) (fun hl2 => ?_)
            · rw [hl2] at hok
              rw [hs] at hM
              exact hok _ rfl D' hD (by rw [List.append_assoc] at hM; exact hM)
            · rw [hl2] at hno
              exact hno rfl
          by_cases h95 : md_nth pl k = ni 95
          · rw [if_pos h95]; exact h106 _ (by rw [if_pos h95])
          · rw [if_neg h95]; exact h106 _ (by rw [if_neg h95])
      · rw [md_mQ, if_neg hkz] at hok
        refine sw_ge (n96_11 hX hr) ?_
        simp (disch := omega) only [sw_ite, ni_le, sw_some, nar_b1]
        rw [if_pos (by omega)]
        exact hok [] rfl _ (cM.refl D).ms (by rw [List.append_nil]; exact MT_ms (by omega))
  refine sw_ge (f96 hX hr) ?_
  rw [dI_cs (by omega) (by omega) (by omega), ← ms_nil]
  exact loop _ a [] (Nat.le_refl _) (Nat.le_refl _) haz (Nat.zero_le _) (fun l hl2 D' hD hM => hok l hl2 D' hD hM) hno
end CSJ
