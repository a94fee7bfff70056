section CCF
variable {C : sm_K} {X t N e p : Nat} {T T0 : Nat → Int32} {D : sm_D} {Q : (Option Value ⊕ Nat) → sm_D → Prop}
def md_J (k pd : Nat) : Prop := k ≤ 3 ∧ (pd = 0 ∨ (pd = 1 ∧ (k = 3 ∨ k = 0)) ∨ (pd = 2 ∧ k = 0))
theorem md_tk_J {v : Int32} {k pd : Nat} {c : Int32} {v' : Int32} {k' pd' : Nat} {ys : List Int32} (hJ : md_J k pd) (hk : md_tk v k pd c = .ok (v', k', pd', ys)) : md_J k' pd' ∧ ys.length + k' ≤ k + 1 := by
  unfold md_tk at hk
  unfold md_J at *
  split at hk
  · cases hk
  · next g1 =>
    split at hk
    · cases hk
    · dsimp only at hk
      have g2 : (c = ni 61 → 2 ≤ k) ∧ (c ≠ ni 61 → pd = 0) := ⟨fun hc => Nat.le_of_not_lt (fun z => g1 (Or.inl ⟨hc, z⟩)), fun hc => by
        rcases Nat.eq_zero_or_pos pd with z | z
        · exact z
        · exact absurd (Or.inr ⟨hc, Or.inr z⟩) g1⟩
      by_cases hc : c = ni 61
      · have h2 := g2.1 hc
        simp only [if_pos hc] at hk
        split at hk
        · cases hk
          refine ⟨by omega, ?_⟩
          rw [List.length_take]
          simp only [List.length_cons, List.length_nil]
          omega
        · cases hk
          exact ⟨by omega, by rw [List.length_nil]; omega⟩
      · have h2 := g2.2 hc
        simp only [if_neg hc] at hk
        split at hk
        · cases hk
          refine ⟨by omega, ?_⟩
          rw [List.length_take]
          simp only [List.length_cons, List.length_nil]
          omega
        · cases hk
          exact ⟨by omega, by rw [List.length_nil]; omega⟩
theorem rowA_pool (h : cH C X t T N D) : rowA C X (t + 1) 16400 (fun xs D => cs X t T0 e D p xs) (cH C X t T N) := by
  have ht := h.2.1
  exact ⟨(sm_tree_of h.1 ht).2, by omega, fun xs D i v => dI_cs (by omega) (by omega) (by omega), fun xs D i => cs_o (by omega) (by omega) (by omega), fun xs D c hD hl => c44 hD hl, fun D v h q hD => cH_kst hD⟩
theorem c86_10 (h : cH C X t T N D) {b : Nat} (hb : b ≤ N) : ∀ (m a last : Nat) (v : Int32) (k pd : Nat) (pl : List Int32), b - a ≤ m → a ≤ N → md_J k pd → last ≤ N → pl.length + k + (b - a) + 3 ≤ 16400 →
    (∀ ys, md_b64 T b v k pd last a = .ok ys → ∀ v' h' q', Q (.inl none) (cs X t T0 e (kst X D v' h' q') p (pl ++ ys))) → (∀ x z D', md_b64 T b v k pd last a = .error x → cT X t D x z D' → Q (.inr z) D') →
    sw (sm_fx C 86 10 [.ref (X + 10), .ref (t + 1), sm_junk, .int (ni b), .int (ni last), .int (ni a), sm_junk, sm_junk] [] (cs X t T0 e (kst X D v (ni k) (ni pd)) p pl)) Q := by
  have hX := h.1
  have ht := h.2.1
  have hr := (sm_tree_of hX ht).2
  have hN := h.2.2.2.1
  intro m
  induction m with
  | zero =>
    intro a last v k pd pl hm ha hJ hlast hpl hok her
    have hk := hJ.1
    have hpd : pd ≤ 2 := by have := hJ.2; omega
    rw [md_b64, if_neg (by omega)] at hok her
    refine sw_ge (n86_10 hX hr) ?_
    have e2 : (cs X t T0 e (kst X D v (ni k) (ni pd)) p pl).1 (X + 10) 2 = ni k := by rw [cs_o (by omega) (by omega) (by omega), kst_2]
    simp (disch := omega) only [sw_ite, ni_le, sw_some, e2, ni_inj, sw_bv]
    rw [if_pos (by omega)]
    by_cases hk0 : k = 0
    · rw [if_pos hk0]
      rw [if_pos hk0] at hok
      have := hok [] rfl v (ni k) (ni pd)
      rw [List.append_nil] at this
      exact this
    · rw [if_neg hk0]
      rw [if_neg hk0] at her
      exact c29 hX (cF_kst.trans cF_cs) (fun z D' hT => ⟨hT.tw, her b z D' rfl hT⟩)
  | succ m ih =>
    intro a last v k pd pl hm ha hJ hlast hpl hok her
    have hk := hJ.1
    have hpd : pd ≤ 2 := by have := hJ.2; omega
    have e2 : (cs X t T0 e (kst X D v (ni k) (ni pd)) p pl).1 (X + 10) 2 = ni k := by rw [cs_o (by omega) (by omega) (by omega), kst_2]
    by_cases hab : a < b
    · rw [md_b64, if_pos hab] at hok her
      obtain ⟨n, hn, eT⟩ := h.2.2.2.2.2.2 a (by omega)
      refine sw_ge (n86_10 hX hr) ?_
      simp (disch := omega) only [sw_ite, ni_le, sw_bi, c42b (cH_kst h) (show a < N by omega), sw_some, sb_i, ni_add]
      rw [if_neg (by omega)]
      by_cases h13 : T a = ni 13
      · rw [if_pos h13]
        rw [if_pos (Or.inl h13)] at hok her
        exact ih (a + 1) last v k pd pl (by omega) (by omega) hJ hlast (by omega) hok her
      · rw [if_neg h13]
        by_cases h10 : T a = ni 10
        · rw [if_pos h10]
          rw [if_pos (Or.inr h10)] at hok her
          exact ih (a + 1) last v k pd pl (by omega) (by omega) hJ hlast (by omega) hok her
        · rw [if_neg h10]
          rw [if_neg (fun z => z.elim h13 h10)] at hok her
          have hts := c83 (v := v) (h := k) (pd := pd) (n := n) (xs := pl) hX h.2.2.1 (rowA_pool (T0 := T0) (e := e) (p := p) h) h hk hpd hn (by omega)
          rw [← eT] at hts
          rw [hts]
          cases htk : md_tk v k pd (T a) with
          | error bb =>
            rw [htk] at her
            simp only [sw_some, sb_i, sw_ite]
            cases bb
            · dsimp only at her
              rw [if_neg (by decide), if_neg (by decide)]
              refine sw_ge (n86_78 hX hr) ?_
              simp only [sw_bv]
              exact c29 hX (cF_kst.trans cF_cs) (fun z D' hT => ⟨hT.tw, her a z D' rfl hT⟩)
            · dsimp only at her
              rw [if_neg (by decide), if_pos (by decide)]
              refine sw_ge (n86_78 hX hr) ?_
              simp only [sw_bv]
              exact c29 hX (cF_kst.trans cF_cs) (fun z D' hT => ⟨hT.tw, her last z D' rfl hT⟩)
          | ok w =>
            obtain ⟨v', k', pd', ys⟩ := w
            obtain ⟨t1, t2⟩ := md_tk_J hJ htk
            rw [htk] at hok her
            dsimp only at hok her
            simp only [sw_some, sb_i, sw_ite, if_true]
            refine sw_ge (n86_81 hX hr) ?_
            simp only [sw_ite, ni_add]
            have hgo : ∀ l2, l2 ≤ N → l2 = (if T a = ni 61 then last else a) → sw (sm_fx C 86 10 [.ref (X + 10), .ref (t + 1), sm_junk, .int (ni b), .int (ni l2), .int (ni (a + 1)), sm_junk, sm_junk] [] (cs X t T0 e (kst X D v' (ni k') (ni pd')) p (pl ++ ys))) Q := by
              intro l2 hl2 hl2e
              rw [← hl2e] at hok her
              refine ih (a + 1) l2 v' k' pd' _ (by omega) (by omega) t1 hl2 ?_ (fun zs hz w1 w2 w3 => ?_) (fun x z D' hz hT => ?_)
              · rw [List.length_append]; omega
              · rw [hz] at hok
                rw [List.append_assoc]
                exact hok _ rfl w1 w2 w3
              · rw [hz] at her
                exact her x z D' rfl hT
            by_cases h61 : T a = ni 61
            · rw [if_pos h61]
              exact hgo last hlast (by rw [if_pos h61])
            · rw [if_neg h61]
              exact hgo a ha (by rw [if_neg h61])
    · rw [md_b64, if_neg (by omega)] at hok her
      refine sw_ge (n86_10 hX hr) ?_
      simp (disch := omega) only [sw_ite, ni_le, sw_some, e2, ni_inj, sw_bv]
      rw [if_pos (by omega)]
      by_cases hk0 : k = 0
      · rw [if_pos hk0]
        rw [if_pos hk0] at hok
        have := hok [] rfl v (ni k) (ni pd)
        rw [List.append_nil] at this
        exact this
      · rw [if_neg hk0]
        rw [if_neg hk0] at her
        exact c29 hX (cF_kst.trans cF_cs) (fun z D' hT => ⟨hT.tw, her b z D' rfl hT⟩)
theorem kst_self : ∃ v h q, D = kst X D v h q := by
  refine ⟨D.1 (X + 10) 1, D.1 (X + 10) 2, D.1 (X + 10) 3, Prod.ext ?_ rfl⟩
  funext a i
  unfold kst
  dsimp only
  by_cases ha : a = X + 10
  · subst ha
    rw [if_pos rfl]
    by_cases h1 : i = 1
    · rw [if_pos h1, h1]
    · rw [if_neg h1]
      by_cases h2 : i = 2
      · rw [if_pos h2, h2]
      · rw [if_neg h2]
        by_cases h3 : i = 3
        · rw [if_pos h3, h3]
        · rw [if_neg h3]
  · rw [if_neg ha]
theorem kst_ts {f g : Nat → Int32} {v h q : Int32} (ht : t = X + 23 ∨ t = X + 36) : kst X (ts t D f g) v h q = ts t (kst X D v h q) f g := by
  refine Prod.ext ?_ rfl
  funext a i
  unfold kst ts
  dsimp only
  by_cases ha : a = X + 10
  · subst ha
    have a1 : ¬ (X + 10 = t + 3) := by omega
    have a2 : ¬ (X + 10 = t + 4) := by omega
    simp only [a1, a2, if_true, if_false]
  · rw [if_neg ha, if_neg ha]
theorem c82 (hX : sm_Lay C X) : ∃ v h q, D = kst X D v h q ∧ sm_fe C 82 [.ref (X + 10)] D = some (.inl none, kst X D (ni 0) (ni 0) (ni 0)) := by
  obtain ⟨v, h, q, e⟩ := kst_self (X := X) (D := D)
  refine ⟨v, h, q, e, ?_⟩
  apply sw_eq
  refine sw_ge (f82 hX) ?_
  rw [sw_some]
  conv => lhs; rw [e]
  rw [kst_s1, kst_s2, kst_s3]
theorem c85 (h : cH C X t T N D) {f g : Nat → Int32} {σ : Nat → List Int32} {i n code a b : Nat} {pl : List Int32} (hn : D.1 t 11 = ni n) (hn40 : n ≤ 40) (hi : i < n) (h9 : D.1 (t + 9) i = ni code) (hc : code ≤ 4) (hb : b ≤ N) (ha : a ≤ b) (hS : SL f g pl σ) (hpl : pl.length + (b - a) + 3 ≤ 16400)
    (hok : ∀ ys, md_leaf T code a b = .ok ys → ∀ v' h' q' f' g', SL f' g' (pl ++ ys) (up1 σ (1020 + i) ys) → Q (.inl none) (cs X t T0 e (ts t (kst X D v' h' q') f' g') p (pl ++ ys))) (her : ∀ x z D', md_leaf T code a b = .error x → cT X t D x z D' → Q (.inr z) D') :
    sw (sm_fe C 85 [.ref (X + 10), .ref t, .int (ni i), .int (ni a), .int (ni b)] (cs X t T0 e (ts t D f g) p pl)) Q := by
  have hX := h.1
  have ht := h.2.1
  have tr := (sm_tree_of hX ht).1
  have hr := (sm_tree_of hX ht).2
  have hN := h.2.2.2.1
  have r : ∀ a j, a ≠ X + 1 → a ≠ t + 1 → a ≠ t + 2 → a ≠ t + 3 → a ≠ t + 4 → (cs X t T0 e (ts t D f g) p pl).1 a j = D.1 a j := fun a j h1 h2 h3 h4 h5 => by
    rw [cs_o h1 h2 h3, ts_o h4 h5]
  have hn' : (cs X t T0 e (ts t D f g) p pl).1 t 11 = ni n := by rw [r _ _ (by omega) (by omega) (by omega) (by omega) (by omega), hn]
  have h9' : (cs X t T0 e (ts t D f g) p pl).1 (t + 9) i = ni code := by rw [r _ _ (by omega) (by omega) (by omega) (by omega) (by omega), h9]
  have h82 : ∀ (ys : List Int32) (v' h' q' : Int32), md_leaf T code a b = .ok ys → sw (sm_fx C 85 82 [sm_junk, .ref t, .int (ni i), sm_junk, sm_junk, .int (ni pl.length), sm_junk] [] (cs X t T0 e (ts t (kst X D v' h' q') f g) p (pl ++ ys))) Q := by
    intro ys v' h' q' hy
    refine sw_ge (n85_82 hX tr) ?_
    simp only [sw_bi, c147, sw_some, sb_i, sw_bv]
    rw [c131 (cH_kst h) (by omega) (by rw [List.length_append]; omega), sw_some, List.length_append, Nat.add_sub_cancel_left]
    simp only [sb_v, sw_some]
    exact hok ys hy v' h' q' _ _ (hS.set (ys := ys) _)
  refine sw_ge (f85 hX tr) ?_
  simp (disch := omega) only [sw_bi, c128 tr hn' hn40 (show i < 2147483648 by omega), sw_some, sb_i, sw_ite, md_b_0, sw_gu, ni_in, ni_nat, h9', cs_p ht]
  rw [decide_eq_true hi, if_neg (fun z => nomatch z)]
  refine ⟨decide_eq_true (by omega), ?_⟩
  refine sw_ge (n85_27 hX tr) ?_
  simp (disch := omega) only [sw_ite, ni_inj, sw_bv]
  unfold md_leaf at h82 her
  obtain ⟨v0, h0, q0, e0⟩ := kst_self (X := X) (D := D)
  by_cases h3 : code = 3
  · rw [if_pos h3]
    rw [if_pos h3] at h82 her
    refine sw_ge (f86 hX hr) ?_
    obtain ⟨v1, w1, q1, e1, e2⟩ := c82 (C := C) (X := X) (D := cs X t T0 e (ts t D f g) p pl) hX
    have e3 : kst X (cs X t T0 e (ts t D f g) p pl) (ni 0) (ni 0) (ni 0) = cs X t T0 e (kst X (ts t D f g) (ni 0) (ni 0) (ni 0)) p pl := by
      refine Prod.ext ?_ rfl
      funext a i
      unfold kst cs
      dsimp only
      by_cases ha : a = X + 10
      · subst ha
        have a1 : ¬ (X + 10 = t + 1) := by omega
        have a2 : ¬ (X + 10 = t + 2) := by omega
        have a3 : ¬ (X + 10 = X + 1) := by omega
        simp only [a1, a2, a3, if_true, if_false]
      · rw [if_neg ha, if_neg ha]
    rw [sw_bv, e2, sw_some]
    simp only [sb_v]
    rw [e3]
    refine c86_10 (cH_ts h) hb _ a a (ni 0) 0 0 pl (Nat.le_refl _) (by omega) ⟨by omega, by omega⟩ (by omega) (by omega) (fun ys hy w1 w2 w3 => ?_) (fun x z D' hy hT => ⟨hT.tw, her x z D' hy (hT.of cF_ts)⟩)
    simp only [sb_v]
    rw [kst_ts ht]
    exact h82 ys w1 w2 w3 hy
  · rw [if_neg h3]
    rw [if_neg h3] at h82 her
    by_cases h4 : code = 4
    · rw [if_pos h4]
      rw [if_pos h4] at h82 her
      refine sw_ge (f87 hX hr) ?_
      refine c87 (cH_ts h) hb _ a pl (Nat.le_refl _) (by omega) (by omega) (fun ys hy => ?_) (fun x z D' hy hT => ⟨hT.tw, her x z D' hy (hT.of cF_ts)⟩)
      simp only [sb_v]
      have := h82 ys v0 h0 q0 hy
      rw [← e0] at this
      exact this
    · rw [if_neg h4]
      rw [if_neg h4] at h82 her
      refine sw_ge (f89 hX hr) ?_
      refine c89 (cH_ts h) hc hb (b - a) a pl (by omega) (by omega) (by omega) (fun ys hy => ?_) (fun x z D' hy hT => ⟨hT.tw, her x z D' hy (hT.of cF_ts)⟩)
      simp only [sb_v]
      have := h82 ys v0 h0 q0 hy
      rw [← e0] at this
      exact this
end CCF
