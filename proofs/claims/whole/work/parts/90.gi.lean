/-! ===== the reference: dates ===== -/
def md_nb (T : Nat → Int32) (e least : Nat) : Nat → Nat → Nat → Nat → Except Nat (Nat × Nat)
  | 0, k, v, p => if k < least then .error p else .ok (v, p)
  | m + 1, k, v, p => if p < e ∧ md_dg (T p) = true then md_nb T e least m (k + 1) (v * 10 + ((T p).toInt.toNat - 48)) (md_nx T e p) else if k < least then .error p else .ok (v, p)
theorem md_nb_num {T : Nat → Int32} {e : Nat} : ∀ (m k v p : Nat), md_nb T e (k + m) m k v p = md_num T e m v p := by
  intro m
  induction m with
  | zero => intro k v p; rw [md_nb, md_num, if_neg (by omega)]
  | succ m ih =>
    intro k v p
    rw [md_nb, md_num, show k + (m + 1) = (k + 1) + m from by omega, ih, if_pos (show k < k + 1 + m by omega)]
theorem md_nb_12 {T : Nat → Int32} {e p : Nat} : md_nb T e 1 2 0 0 p = (match md_num T e 1 0 p with | .error x => .error x | .ok (d0, p2) => if p2 < e ∧ md_dg (T p2) = true then md_num T e 1 d0 p2 else .ok (d0, p2)) := by
  unfold md_nb
  by_cases h : p < e ∧ md_dg (T p) = true
  · have e1 : md_num T e 1 0 p = .ok (0 * 10 + ((T p).toInt.toNat - 48), md_nx T e p) := by
      unfold md_num; rw [if_pos h]; rfl
    rw [if_pos h, e1]
    show md_nb T e 1 1 _ _ _ = if md_nx T e p < e ∧ md_dg (T (md_nx T e p)) = true then md_num T e 1 _ _ else _
    unfold md_nb
    by_cases h2 : md_nx T e p < e ∧ md_dg (T (md_nx T e p)) = true
    · rw [if_pos h2, if_pos h2]
      unfold md_num
      rw [if_pos h2]
      unfold md_nb md_num
      rw [if_neg (by omega)]
    · rw [if_neg h2, if_neg h2, if_neg (by omega)]
  · have e1 : md_num T e 1 0 p = .error p := by
      unfold md_num; rw [if_neg h]
    rw [if_neg h, e1, if_pos (by omega)]
theorem md_dg_ni {c : Int32} (h : md_dg c = true) : ∃ n, 48 ≤ n ∧ n ≤ 57 ∧ c = ni n := (md_in_iff (by omega) (by omega)).mp h
theorem md_dg_k : md_dg (sm_k (-1)) = false := by decide
theorem md_lt_k : md_lt (sm_k (-1)) = false := by decide
section RGI
variable {C : sm_K} {X N e q : Nat} {T : Nat → Int32} {D E F : sm_D} {Q : (Option Value ⊕ Nat) → sm_D → Prop} {l : List Int32} {b a z : Int32}
theorem r200 (h : rW C X T N e D) {least most : Nat} (hm : most ≤ 4) (hl : least ≤ most) (hs : RS X D q l b a z E) (hq : md_ok T e q)
    (hok : ∀ v p, md_nb T e least most 0 0 q = .ok (v, p) → ∀ E', RS X D p l (ni q) a z E' → v < 10000 → md_ok T e p → q ≤ p → Q (.inl (some (.int (ni v)))) E') (her : ∀ f, md_nb T e least most 0 0 q = .error f → ∀ x E', rS X D f E' → Q (.inl (some (.int x))) E') :
    sw (sm_fe C 200 [.ref (X + 49), .int (ni least), .int (ni most)] E) Q := by
  have hX := h.1.1
  have n52 : ∀ {k v p : Nat} {E : sm_D}, k ≤ 4 → v < 10 ^ k → md_ok T e p → q ≤ p → RS X D p l (ni q) a z E → (∀ w p', (if k < least then (.error p : Except Nat (Nat × Nat)) else .ok (v, p)) = .ok (w, p') → ∀ E', RS X D p' l (ni q) a z E' → w < 10000 → md_ok T e p' → q ≤ p' → Q (.inl (some (.int (ni w)))) E') → (∀ f, (if k < least then (.error p : Except Nat (Nat × Nat)) else .ok (v, p)) = .error f → ∀ x E', rS X D f E' → Q (.inl (some (.int x))) E') → sw (sm_fx C 200 52 [.ref (X + 49), .int (ni least), sm_junk, .int (ni v), .int (ni k)] [] E) Q := by
    intro k v p E hk hv hp hqp hs hok her
    have hv4 : v < 10000 := Nat.lt_of_lt_of_le hv (Nat.pow_le_pow_right (by omega) hk)
    refine sw_ge (n200_52 hX) ?_
    simp (disch := omega) only [sw_ite, ni_le, sw_some, sw_bv]
    by_cases hkl : k < least
    · rw [if_neg (by omega)]
      rw [if_pos hkl] at her
      refine r180b h hs hp.1 (fun E' hE => ?_)
      simp only [sb_v, sw_some]
      exact her p rfl _ E' hE
    · rw [if_pos (by omega)]
      rw [if_neg hkl] at hok
      exact hok v p rfl E hs hv4 hp hqp
  have loop : ∀ (m k v p : Nat) (E : sm_D), k + m = most → v < 10 ^ k → md_ok T e p → q ≤ p → RS X D p l (ni q) a z E → (∀ w p', md_nb T e least m k v p = .ok (w, p') → ∀ E', RS X D p' l (ni q) a z E' → w < 10000 → md_ok T e p' → q ≤ p' → Q (.inl (some (.int (ni w)))) E') → (∀ f, md_nb T e least m k v p = .error f → ∀ x E', rS X D f E' → Q (.inl (some (.int x))) E') → sw (sm_fx C 200 13 [.ref (X + 49), .int (ni least), .int (ni most), .int (ni v), .int (ni k)] [] E) Q := by
    intro m
    induction m with
    | zero =>
      intro k v p E hk hv hp hqp hs hok her
      refine sw_ge (n200_13 hX) ?_
      simp (disch := omega) only [sw_ite, ni_le]
      rw [if_pos (by omega)]
      exact n52 (by omega) hv hp hqp hs hok her
    | succ m ih =>
      intro k v p E hk hv hp hqp hs hok her
      refine sw_ge (n200_13 hX) ?_
      simp (disch := omega) only [sw_ite, ni_le, sw_bi, hs.cur h hp.1, sw_some, sb_i, r186, md_b_0, sw_bv]
      rw [if_neg (by omega)]
      unfold md_nb at hok her
      by_cases hd : p < e ∧ md_dg (T p) = true
      · rw [if_pos hd] at hok her
        obtain ⟨n, n1, n2, hT⟩ := md_dg_ni hd.2
        rw [md_cu_lt hd.1, if_neg (by rw [hd.2]; exact fun z => nomatch z)]
        refine r181 h hs hp hd.1 (fun E' hE => ?_)
        have hlt := md_nx_lt (T := T) hd.1
        have e1 : (T p).toInt.toNat = n := by rw [hT, ni_toInt (by omega)]; rfl
        rw [e1] at hok her
        simp only [sb_v]
        rw [hT, ni_mul, ni_add, ni_sub (by omega), ni_add, show 10 * v + n - 48 = v * 10 + (n - 48) from by omega]
        exact ih (k + 1) _ _ E' (by omega) (by rw [Nat.pow_succ]; omega) hp.nx (by omega) hE hok her
      · rw [if_neg hd] at hok her
        have hf : md_dg (md_cu T e p) = false := by
          by_cases hqe : p < e
          · rw [md_cu_lt hqe]
            cases hb : md_dg (T p)
            · rfl
            · exact absurd ⟨hqe, hb⟩ hd
          · rw [md_cu_ge hqe]; exact md_dg_k
        rw [if_pos hf]
        exact n52 (by omega) hv hp hqp hs hok her
  refine sw_ge (f200 hX) ?_
  simp only [hs.2.1]
  exact loop most 0 0 q _ (by omega) (by decide) hq (Nat.le_refl _) (hs.wb (ni q)) hok her
theorem r201x (hX : sm_Lay C X) {v1 v2 v3 v4 : Int32} (h8 : (E.1 (X + 49) 8 = sm_k (-1)) = False) : sm_fe C 201 [.ref (X + 49), .int v1, .int v2, .int v3, .int v4] E = some (.inl none, E) := by
  apply sw_eq
  refine sw_ge (f201 hX) ?_
  simp only [sw_ite, sw_some, h8, if_false]
theorem r201 (h : rW C X T N e D) {v lo hi p : Nat} (hv : v < 2147483648) (hlo : lo < 2147483648) (hhi : hi < 2147483648) (hs : RS X D q l b a z E) (hq : q ≤ e) (hp : p ≤ e) (hok : lo ≤ v ∧ v ≤ hi → Q (.inl none) E) (her : ¬ (lo ≤ v ∧ v ≤ hi) → ∀ E', rS X D p E' → Q (.inl none) E') :
    sw (sm_fe C 201 [.ref (X + 49), .int (ni v), .int (ni lo), .int (ni hi), .int (ni p)] E) Q := by
  have hN := h.1.2.2.1
  have he := h.2.1
  refine sw_ge (f201 h.1.1) ?_
  simp only [sw_ite, (hs.W h).2.2.2, if_true, sw_bi, r157, sw_some, sb_i, md_b_0, md_in_ni hv hhi hlo, sw_bv, r162 h.1.1 (hs.W h).2.2.2, sb_v]
  by_cases hc : lo ≤ v ∧ v ≤ hi
  · rw [if_neg (by rw [decide_eq_true hc.1, decide_eq_true hc.2]; exact fun z => nomatch z)]
    exact hok hc
  · rw [if_pos (by
      cases h1 : (decide (lo ≤ v) && decide (v ≤ hi))
      · rfl
      · rw [Bool.and_eq_true, decide_eq_true_eq, decide_eq_true_eq] at h1; exact absurd h1 hc)]
    exact her hc _ (hs.bad h hq (by omega))
theorem r203 {y : Nat} (hy : y < 10000) : sm_fe C 203 [.int (ni y)] D = some (.inl (some (.int (md_b (md_leap y)))), D) := by
  apply sw_eq
  refine sw_ge f203 ?_
  simp (disch := omega) only [sw_ite, sw_some, ni_rem, ni_inj, nar_b0, nar_b1]
  unfold md_leap
  by_cases h4 : y % 4 = 0
  · by_cases h100 : y % 100 = 0
    · by_cases h400 : y % 400 = 0
      · simp [h4, h100, h400, md_b]
      · simp [h4, h100, h400, md_b]
    · simp [h4, h100, md_b]
  · simp [h4, md_b]
theorem r202 {m y : Nat} (hm : m < 2147483648) (hy : y < 10000) : sm_fe C 202 [.int (ni m), .int (ni y)] D = some (.inl (some (.int (ni (md_dom m y)))), D) := by
  apply sw_eq
  refine sw_ge f202 ?_
  simp (disch := omega) only [sw_ite, sw_some, ni_inj, sw_bi, r203 hy, sb_i, md_b_0]
  unfold md_dom
  by_cases h1 : m = 1
  · rw [if_pos h1, if_pos h1]
    cases md_leap y <;> rfl
  · rw [if_neg h1, if_neg h1]
    by_cases h3 : m = 3
    · rw [if_pos h3, if_pos (by omega)]
    rw [if_neg h3]
    by_cases h5 : m = 5
    · rw [if_pos h5, if_pos (by omega)]
    rw [if_neg h5]
    by_cases h8 : m = 8
    · rw [if_pos h8, if_pos (by omega)]
    rw [if_neg h8]
    by_cases h10 : m = 10
    · rw [if_pos h10, if_pos (by omega)]
    rw [if_neg h10, if_neg (by omega)]
theorem r204 {y m d : Nat} (h1 : 1 ≤ y) (h2 : y < 10000) (hm : m < 12) (hd : d < 1000) : sm_fe C 204 [.int (ni y), .int (ni m), .int (ni d)] D = some (.inl (some (.long (Int64.ofInt (md_days y m d)))), D) := by
  have loop : ∀ (n k : Nat), k + n = m → ∀ v : Int, v = 365 * ((y : Int) - 1) + ((y - 1) / 4 : Nat) - ((y - 1) / 100 : Nat) + ((y - 1) / 400 : Nat) + md_dbm y k → sm_fx C 204 36 [.int (ni y), .int (ni m), .int (ni d), .long (Int64.ofInt v), sm_junk, .int (ni k)] [] D = some (.inl (some (.long (Int64.ofInt (md_days y m d)))), D) := by
    intro n
    induction n with
    | zero =>
      intro k hk v hv
      apply sw_eq
      refine sw_ge n204_36 ?_
      simp (disch := omega) only [sw_ite, ni_le, sw_some, ni_64]
      rw [if_pos (by omega)]
      have hkm : k = m := by omega
      subst hkm
      rw [show Int64.ofNat 1 = Int64.ofInt 1 from rfl, show (719162 : Int64) = Int64.ofInt 719162 from rfl, ← Int64.ofInt_add, ← Int64.ofInt_sub, ← Int64.ofInt_sub]
      exact congrArg (fun v => ((Sum.inl (some (Value.long (Int64.ofInt v))), D) : sm_o)) (by unfold md_days; omega)
    | succ n ih =>
      intro k hk v hv
      apply sw_eq
      refine sw_ge n204_36 ?_
      have hdl2 := md_dom_le k y
      simp (disch := omega) only [sw_ite, ni_le, sw_bi, r202 (show k < 2147483648 by omega) h2, sw_some, sb_i, ni_add, ni_64]
      rw [if_neg (by omega), ← Int64.ofInt_add, ih (k + 1) (by omega) _ (by rw [hv]; show _ = _ + ((md_dbm y k + md_dom k y : Nat) : Int); omega), sw_some]
  apply sw_eq
  refine sw_ge f204 ?_
  simp (disch := omega) only [ni_sub h1, ni_div, ni_64]
  rw [show (365 : Int64) = Int64.ofInt 365 from rfl, ← Int64.ofInt_mul, ← Int64.ofInt_add, ← Int64.ofInt_sub, ← Int64.ofInt_add]
  have e0 : ((y - 1 : Nat) : Int) = (y : Int) - 1 := by omega
  rw [loop m 0 (by omega) _ (by show _ = _ + ((0 : Nat) : Int); omega), sw_some]
/-! letters -/
def sLt (X c j : Nat) : Prop := (c = X + 49 ∧ j = 51) ∨ c = X + 81
def LT (X : Nat) (ks : List Int32) (D : sm_D) : Prop := D.1 (X + 49) 51 = ni (min ks.length 4) ∧ ∀ j, j < min ks.length 4 → D.1 (X + 81) j = md_sm (md_nth ks j)
theorem fr.W {S : Nat → Nat → Prop} (h : fr S D E) (g : rW C X T N e D) (hS : ∀ c j, S c j → ¬ (c = X + 51 ∨ (c = X + 49 ∧ (j = 47 ∨ j = 8)))) : rW C X T N e E :=
  ⟨⟨g.1.1, g.1.2.1, g.1.2.2.1, fun k hk => by rw [h.2 _ _ (fun z => hS _ _ z (Or.inl rfl))]; exact g.1.2.2.2.1 k hk, g.1.2.2.2.2⟩, g.2.1, by rw [h.2 _ _ (fun z => hS _ _ z (Or.inr ⟨rfl, Or.inl rfl⟩))]; exact g.2.2.1, by rw [h.2 _ _ (fun z => hS _ _ z (Or.inr ⟨rfl, Or.inr rfl⟩))]; exact g.2.2.2⟩
theorem sLt_W (h : fr (sLt X) D E) (g : rW C X T N e D) : rW C X T N e E := h.W g (fun c j hc => by unfold sLt at hc; omega)
theorem r197_13 (h : rW C X T N e D) : ∀ (m q : Nat) (ks : List Int32) (D' E : sm_D), e - q ≤ m → md_ok T e q → fr (sLt X) D D' → RS X D' q l b a z E → LT X ks D' →
    (ks ++ (md_lets T e q).1 ≠ [] → ∀ D2 E2, fr (sLt X) D D2 → RS X D2 (md_lets T e q).2 l b a z E2 → LT X (ks ++ (md_lets T e q).1) D2 → Q (.inl none) E2) →
    (ks ++ (md_lets T e q).1 = [] → ∀ E2, rX X D q E2 → Q (.inl none) E2) →
    sw (sm_fx C 197 13 [.ref (X + 49)] [] E) Q := by
  have hX := h.1.1
  have fin : ∀ {q : Nat} {ks : List Int32} {D' E : sm_D}, md_ok T e q → ¬ (q < e ∧ md_lt (T q) = true) → fr (sLt X) D D' → RS X D' q l b a z E → LT X ks D' → (ks ≠ [] → Q (.inl none) E) → (ks = [] → ∀ E2, rX X D q E2 → Q (.inl none) E2) → sw (sm_fx C 197 13 [.ref (X + 49)] [] E) Q := by
    intro q ks D' E hq hn hfr hs hL hok her
    have hW := sLt_W hfr h
    have hf : md_lt (md_cu T e q) = false := by
      by_cases hqe : q < e
      · rw [md_cu_lt hqe]
        cases hb : md_lt (T q)
        · rfl
        · exact absurd ⟨hqe, hb⟩ hn
      · rw [md_cu_ge hqe]; exact md_lt_k
    have e51 : E.1 (X + 49) 51 = ni (min ks.length 4) := by rw [hs.o (by unfold rsc; omega)]; exact hL.1
    refine sw_ge (n197_13 hX) ?_
    simp (disch := omega) only [sw_bi, hs.cur hW hq.1, sw_some, sb_i, r185, hf, md_b_0, sw_ite, if_true, e51, ni_inj, sw_bv]
    by_cases hk : ks = []
    · rw [if_pos (by rw [hk]; rfl)]
      refine r180b hW hs hq.1 (fun E' hE => ?_)
      simp only [sb_v, sw_some]
      exact her hk E' (hE.of (hfr.Fr (fun c j hc => by unfold sLt at hc; unfold rRR; omega)))
    · have : 0 < ks.length := List.length_pos_iff.mpr hk
      rw [if_neg (by omega)]
      exact hok hk
  intro m
  induction m with
  | zero =>
    intro q ks D' E hm hq hfr hs hL hok her
    have hn : ¬ (q < e ∧ md_lt (T q) = true) := fun z => by omega
    rw [md_lets, dif_neg hn, List.append_nil] at hok her
    exact fin hq hn hfr hs hL (fun hk => hok hk D' E hfr hs hL) her
  | succ m ih =>
    intro q ks D' E hm hq hfr hs hL hok her
    by_cases hn : q < e ∧ md_lt (T q) = true
    · have hW := sLt_W hfr h
      have hlt := md_nx_lt (T := T) hn.1
      have e51 : E.1 (X + 49) 51 = ni (min ks.length 4) := by rw [hs.o (by unfold rsc; omega)]; exact hL.1
      rw [md_lets, dif_pos hn] at hok her
      have ee : ks ++ ((T q) :: (md_lets T e (md_nx T e q)).1) = (ks ++ [T q]) ++ (md_lets T e (md_nx T e q)).1 := by simp
      dsimp only at hok her
      rw [ee] at hok
      -- the letter is kept, the count goes on
      have n66 : ∀ (D1 E1 : sm_D), fr (sLt X) D D1 → RS X D1 q l b a z E1 → (∀ j, j < min (ks.length + 1) 4 → D1.1 (X + 81) j = md_sm (md_nth (ks ++ [T q]) j)) → sw (sm_fx C 197 66 [.ref (X + 49)] [.int (ni (min (ks.length + 1) 4)), .ref (X + 49)] E1) Q := by
        intro D1 E1 hfr1 hs1 hk1
        refine sw_ge (n197_66 hX) ?_
        have hfr2 : fr (sLt X) D (sm_dI D1 (X + 49) 51 (ni (min (ks.length + 1) 4))) := hfr1.dI (Or.inl ⟨rfl, rfl⟩)
        have hs2 := hs1.dI (c := X + 49) (j := 51) (ni (min (ks.length + 1) 4)) (by unfold rsc; omega)
        simp only [sw_bv]
        refine r181 (sLt_W hfr2 h) hs2 hq hn.1 (fun E3 hE3 => ?_)
        simp only [sb_v]
        refine ih _ (ks ++ [T q]) _ E3 (by omega) hq.nx hfr2 hE3 ⟨by rw [dI_eq, List.length_append]; rfl, fun j hj => ?_⟩ hok (fun z => by simp at z)
        rw [List.length_append, List.length_singleton] at hj
        rw [dI_ne (by omega)]
        exact hk1 j hj
      refine sw_ge (n197_13 hX) ?_
      have hmin : min ks.length 4 < 2147483648 := by omega
      simp (disch := omega) only [sw_bi, hs.cur hW hq.1, sw_some, sb_i, r185, md_cu_lt hn.1, hn.2, md_b_0, sw_ite, e51, ni_le, r168, sw_gu, ni_in, ni_nat]
      rw [if_neg (fun z => nomatch z)]
      by_cases h4 : 4 ≤ ks.length
      · rw [if_pos (by omega)]
        refine sw_ge (n197_47 hX) ?_
        simp (disch := omega) only [sw_ite, e51, ni_le]
        rw [if_pos (by omega)]
        have := n66 D' E hfr hs (fun j hj => by
          rw [hL.2 j (by omega)]
          rw [md_nth_app (by omega)])
        rw [show min (ks.length + 1) 4 = 4 from by omega] at this
        exact this
      · rw [if_neg (by omega)]
        refine ⟨decide_eq_true (by omega), ?_⟩
        refine sw_ge (n197_47 hX) ?_
        have e51' : sm_up E.1 (X + 81) (min ks.length 4) (md_sm (T q)) (X + 49) 51 = ni (min ks.length 4) := by rw [up_ne (by omega)]; exact e51
        simp (disch := omega) only [sw_ite, e51', ni_le, ni_add]
        rw [if_neg (by omega)]
        have hs1 := hs.dI (c := X + 81) (j := min ks.length 4) (md_sm (T q)) (by unfold rsc; omega)
        have := n66 _ _ (hfr.dI (Or.inr rfl)) hs1 (fun j hj => by
          by_cases hj2 : j = min ks.length 4
          · rw [hj2, dI_eq, show min ks.length 4 = ks.length from by omega, md_nth_sn (by omega), if_pos rfl]
          · rw [dI_ne (fun z => hj2 z.2), hL.2 j (by omega), md_nth_app (by omega)])
        rw [show min (ks.length + 1) 4 = min ks.length 4 + 1 from by omega] at this
        exact this
    · rw [md_lets, dif_neg hn, List.append_nil] at hok her
      exact fin hq hn hfr hs hL (fun hk => hok hk D' E hfr hs hL) her
theorem r197 (h : rW C X T N e D) (hs : RS X D q l b a z E) (hq : md_ok T e q)
    (hok : (md_lets T e q).1 ≠ [] → ∀ D2 E2, fr (sLt X) D D2 → RS X D2 (md_lets T e q).2 l (ni q) a z E2 → LT X (md_lets T e q).1 D2 → Q (.inl none) E2)
    (her : (md_lets T e q).1 = [] → ∀ E2, rX X D q E2 → Q (.inl none) E2) : sw (sm_fe C 197 [.ref (X + 49)] E) Q := by
  refine sw_ge (f197 h.1.1) ?_
  simp only [hs.2.1]
  refine r197_13 h e q [] (sm_dI D (X + 49) 51 (ni 0)) _ (by omega) hq (fr.refl.dI (Or.inl ⟨rfl, rfl⟩)) ((hs.wb (ni q)).dI (c := X + 49) (j := 51) (ni 0) (by unfold rsc; omega)) ⟨by rw [dI_eq]; rfl, fun j hj => by simp at hj⟩ hok her
/-- a word of three letters by its number -/
theorem md_idx_lt {xs : List Int32} : ∀ (m k : Nat) (w : List Int32) {r : Nat}, w.length = 3 * m → md_idx xs k w = some r → r < k + m := by
  intro m
  induction m with
  | zero => intro k w r hw h; have : w = [] := List.length_eq_zero_iff.mp (by omega); subst this; cases h
  | succ m ih =>
    intro k w r hw h
    match w, hw, h with
    | x :: y :: v :: w, hw, h =>
      unfold md_idx at h
      split at h
      · cases h; omega
      · have := ih (k + 1) w (by simp only [List.length_cons] at hw; omega) h
        omega
theorem r198 (h : rW C X T N e D) {s M : Nat} {w xs : List Int32} (hw : st C s w) (hwl : w.length = 3 * M) (hs : RS X D q l b a z E) (hqe : q ≤ e) (hL : LT X xs E) {p : Nat} (hb : b = ni p) (hp : p ≤ 8000)
    (hok : ∀ k, md_idx (xs.map md_sm) 0 w = some k → k < M → Q (.inl (some (.int (ni k)))) E) (her : md_idx (xs.map md_sm) 0 w = none → ∀ x E', rS X D p E' → Q (.inl (some (.int x))) E') :
    sw (sm_fe C 198 [.ref (X + 49), .ref s] E) Q := by
  have hX := h.1.1
  obtain ⟨u, h1, -, -, h4, -⟩ := id hw
  have loop : ∀ (m i : Nat), i + m = M → (∀ k, md_idx (xs.map md_sm) i (w.drop (3 * i)) = some k → Q (.inl (some (.int (ni k)))) E) → (md_idx (xs.map md_sm) i (w.drop (3 * i)) = none → ∀ x E', rS X D p E' → Q (.inl (some (.int x))) E') → sw (sm_fx C 198 2 [.ref (X + 49), .ref s, .int (ni i)] [] E) Q := by
    intro m
    induction m with
    | zero =>
      intro i hi hok her
      refine sw_ge (n198_2 hX h1) ?_
      simp (disch := omega) only [sw_bi, s260 h1, sw_some, sb_i, sw_ite, ni_mul, ni_le, sw_bv, hs.2.2.2.2.1.1, hb, r162 hX (hs.W h).2.2.2, sb_v]
      rw [if_pos (by omega)]
      rw [List.drop_of_length_le (by omega)] at her
      exact her rfl _ _ (hs.bad h hqe hp)
    | succ m ih =>
      intro i hi hok her
      have k0 : 3 * i < w.length := by omega
      have k1 : 3 * i + 1 < w.length := by omega
      have k2 : 3 * i + 2 < w.length := by omega
      have ed : w.drop (3 * i) = md_nth w (3 * i) :: md_nth w (3 * i + 1) :: md_nth w (3 * i + 2) :: w.drop (3 * (i + 1)) := by
        rw [List.drop_eq_getElem_cons k0, List.drop_eq_getElem_cons k1, List.drop_eq_getElem_cons k2, md_nth_get k0, md_nth_get k1, md_nth_get k2, show 3 * (i + 1) = 3 * i + 2 + 1 from by omega]
      rw [ed, md_idx] at hok her
      have next : xs.map md_sm ≠ [md_nth w (3 * i), md_nth w (3 * i + 1), md_nth w (3 * i + 2)] → sw (sm_fx C 198 2 [.ref (X + 49), .ref s, .int (ni (i + 1))] [] E) Q := by
        intro hne
        rw [if_neg hne] at hok her
        exact ih (i + 1) (by omega) hok her
      refine sw_ge (n198_2 hX h1) ?_
      have hmin : min xs.length 4 < 2147483648 := by omega
      simp (disch := omega) only [sw_bi, s260 h1, sw_some, sb_i, sw_ite, ni_mul, ni_add, ni_le, hL.1, ni_inj, sw_gu, ni_in, ni_nat, s262 hw k0, s262 hw k1, s262 hw k2]
      rw [if_neg (by omega)]
      by_cases h3 : min xs.length 4 = 3
      · have hx3 : xs.length = 3 := by omega
        rw [if_pos h3]
        refine ⟨by decide, ?_⟩
        have ex : xs.map md_sm = [md_sm (md_nth xs 0), md_sm (md_nth xs 1), md_sm (md_nth xs 2)] := by
          match xs, hx3 with
          | [x, y, v], _ => rfl
        rw [hL.2 0 (by omega), hL.2 1 (by omega), hL.2 2 (by omega)]
        rw [ex] at next hok
        by_cases g0 : md_sm (md_nth xs 0) = md_nth w (3 * i)
        · rw [if_pos g0]
          refine ⟨by decide, ?_⟩
          by_cases g1 : md_sm (md_nth xs 1) = md_nth w (3 * i + 1)
          · rw [if_pos g1]
            refine ⟨by decide, ?_⟩
            by_cases g2 : md_sm (md_nth xs 2) = md_nth w (3 * i + 2)
            · rw [if_pos g2]
              rw [if_pos (by rw [g0, g1, g2])] at hok
              exact hok i rfl
            · rw [if_neg g2]
              exact next (fun z => g2 (by injection z with _ z; injection z with _ z; injection z))
          · rw [if_neg g1]
            exact next (fun z => g1 (by injection z with _ z; injection z))
        · rw [if_neg g0]
          exact next (fun z => g0 (by injection z))
      · rw [if_neg h3]
        exact next (fun z => by
          have : (xs.map md_sm).length = 3 := by rw [z]; rfl
          rw [List.length_map] at this
          omega)
  refine sw_ge (f198 hX h1) ?_
  exact loop M 0 (by omega) (fun k hk => hok k hk (by have := md_idx_lt M 0 w hwl hk; omega)) her
end RGI
