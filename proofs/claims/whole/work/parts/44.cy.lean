theorem dI_ne {D : sm_D} {a i b j : Nat} {v : Int32} (h : ¬ (b = a ∧ j = i)) : (sm_dI D a i v).1 b j = D.1 b j := if_neg h
theorem dI_eq {D : sm_D} {a i : Nat} {v : Int32} : (sm_dI D a i v).1 a i = v := if_pos ⟨rfl, rfl⟩
section CTZ
variable {C : sm_K} {X t N e : Nat} {T : Nat → Int32} {D : sm_D} {Q : (Option Value ⊕ Nat) → sm_D → Prop}
theorem c59_69 (h : cW C X t T N e D) {i : Nat} (hi : i < 40) {v3 v4 : Int32} : ∀ (n p : Nat) (ps : List (List Int32 × List Int32)) (f g : Nat → Int32) (σ : Nat → List Int32) (pl : List Int32), ps.length + n = 6 → SL f g pl σ → PS i ps σ → pl.length + (e - p) ≤ 16400 → md_ok T e p →
    (∀ ps' r, md_pars T e n ps p = .ok (ps', r) → ∀ f' g' pl' σ', SL f' g' pl' σ' → PS i ps' σ' → ps'.length ≤ 6 → (∀ k, ¬ (480 + 12 * i ≤ k ∧ k < 492 + 12 * i) → σ' k = σ k) → md_ok T e r → pl'.length + (e - r) ≤ pl.length + (e - p) → sw (sm_fx C 59 116 [.ref (X + 7), .ref t, .int (ni i), .int v3, .int v4, .int (ni ps'.length), sm_junk] [] (cs X t T e (ts t D f' g') r pl')) Q) →
    (∀ x z D', md_pars T e n ps p = .error x → cT X t D x z D' → Q (.inr z) D') →
    sw (sm_fx C 59 69 [.ref (X + 7), .ref t, .int (ni i), .int v3, .int v4, .int (ni ps.length), sm_junk] [] (cs X t T e (ts t D f g) p pl)) Q := by
  have hX := h.1.1
  have ht := h.1.2.1
  have tr := (sm_tree_of hX ht).1
  intro n
  induction n with
  | zero =>
    intro p ps f g σ pl h6 hS hP hpl hp hok her
    refine sw_ge (n59_69 hX tr) ?_
    simp (disch := omega) only [sw_ite, ni_le]
    rw [if_pos (by omega)]
    exact hok ps p rfl f g pl σ hS hP (by omega) (fun _ _ => rfl) hp (Nat.le_refl _)
  | succ n ih =>
    intro p ps f g σ pl h6 hS hP hpl hp hok her
    refine sw_ge (n59_69 hX tr) ?_
    simp (disch := omega) only [sw_ite, ni_le, cs_4, md_cu_is, sw_bv]
    rw [if_neg (by omega)]
    unfold md_pars at hok her
    by_cases hc : p < e ∧ T p = ni 59
    · rw [if_pos hc] at hok her
      rw [if_pos hc, c31 (cW_ts h) hp, sw_some]
      have hlt := md_nx_lt (T := T) hc.1
      simp only [sb_v, sw_bv]
      refine c61 h hi (by omega) hS hP (by omega) hp.nx (fun q r h1 f1 g1 pl1 σ1 hS1 hP1 ho1 o1 l1 b1 => ?_) (fun x z D' h1 hT => ⟨hT.tw, her x z D' (by rw [h1]; rfl) hT⟩)
      have oe1 := o1.1
      simp only [h1, bind, Except.bind] at hok her
      simp only [sb_v, sw_bv]
      refine c32 (cW_ts h) o1 (fun p2 h2 => ?_) (fun x z D' h2 hT => ⟨hT.tw, her x z D' (by rw [h2]) (hT.of cF_ts)⟩)
      obtain ⟨o2, l2⟩ := md_space_ok o1 h2
      have oe2 := o2.1
      simp only [h2] at hok her
      simp only [sb_v, ni_add]
      have := ih p2 (ps ++ [q]) f1 g1 σ1 pl1 (by rw [List.length_append, List.length_singleton]; omega) hS1 hP1 (by omega) o2 (fun ps' r' h3 f' g' pl' σ' a1 a2 a3 a4 a5 a6 => hok ps' r' h3 f' g' pl' σ' a1 a2 a3 (fun k hk => (a4 k hk).trans (ho1 k (by omega) (by omega))) a5 (by omega)) her
      rw [List.length_append, List.length_singleton] at this
      exact this
    · rw [if_neg hc] at hok
      rw [if_neg hc]
      exact hok ps p rfl f g pl σ hS hP (by omega) (fun _ _ => rfl) hp (Nat.le_refl _)
theorem md_bv_bsl {i : Nat} {ps : List (List Int32 × List Int32)} {σ : Nat → List Int32} (hP : PS i ps σ) : (∃ k, k < 480 + 12 * i + 2 * ps.length ∧ md_bsl i ps = ni k ∧ md_bv ps = some (σ k) ∧ md_by (σ k) ∧ 480 + 12 * i ≤ k) ∨ (md_bsl i ps = sm_k (-1) ∧ md_bv ps = none) := by
  unfold md_bsl md_bv
  cases h : ps.findIdx? (fun q => q.1 == md_w "boundary") with
  | none =>
    refine Or.inr ⟨rfl, ?_⟩
    rw [List.findIdx?_eq_none_iff] at h
    rw [List.find?_eq_none.mpr (fun q hq => by rw [h q hq]; exact Bool.false_ne_true)]
    rfl
  | some n =>
    rw [List.findIdx?_eq_some_iff_getElem] at h
    obtain ⟨h1, h2, h3⟩ := h
    obtain ⟨g1, g2, g3, g4⟩ := hP n ps[n] (List.getElem?_eq_getElem h1)
    refine Or.inl ⟨480 + 2 * (6 * i + n) + 1, by omega, rfl, ?_, by rw [g2]; exact g4, by omega⟩
    have : ps.find? (fun q => q.1 == md_w "boundary") = some ps[n] := by
      rw [List.find?_eq_some_iff_getElem]
      exact ⟨h2, n, h1, rfl, fun j hj => by have := h3 j hj; simpa using this⟩
    rw [this, g2]
    rfl
def md_off (i : Nat) (σ σ' : Nat → List Int32) : Prop := ∀ k, ¬ (k = 400 + 2 * i ∨ k = 400 + 2 * i + 1 ∨ (480 + 12 * i ≤ k ∧ k < 492 + 12 * i)) → σ' k = σ k
theorem st_mul (h : tx C) : st C (C.1.1 26) (md_w "multipart") := st_tx h 26 rfl rfl (by decide) (by decide)
theorem c59 (h : cW C X t T N e D) {f g : Nat → Int32} {σ : Nat → List Int32} {p i n dep : Nat} {pl : List Int32} (hn : D.1 t 11 = ni n) (hn40 : n ≤ 40) (hi : i < n) (hd : dep < 2147483648) (hS : SL f g pl σ) (hpl : pl.length + (e - p) ≤ 16400) (hp : md_ok T e p)
    (hok : ∀ τ, md_type T e dep p = .ok τ → ∀ f' g' pl' σ' r, SL f' g' pl' σ' → σ' (400 + 2 * i) = τ.1 → σ' (400 + 2 * i + 1) = τ.2.1 → PS i τ.2.2 σ' → τ.2.2.length ≤ 6 → md_off i σ σ' → md_ok T e r → pl'.length + (e - r) ≤ pl.length + (e - p) → Q (.inl none) (cs X t T e (ts t (sm_dI (sm_dI D (t + 8) i (ni τ.2.2.length)) (t + 10) i (md_b (md_Ty.multi τ))) f' g') r pl'))
    (her : ∀ x z D', md_type T e dep p = .error x → cT X t D x z D' → Q (.inr z) D') :
    sw (sm_fe C 59 [.ref (X + 7), .ref t, .int (ni i), .int (ni dep)] (cs X t T e (ts t D f g) p pl)) Q := by
  have hX := h.1.1
  have ht := h.1.2.1
  have tr := (sm_tree_of hX ht).1
  unfold md_type at hok her
  refine sw_ge (f59 hX tr) ?_
  simp only [sw_bv]
  refine c32 (cW_ts h) hp (fun p1 h1 => ?_) (fun x z D' h1 hT => ⟨hT.tw, her x z D' (by rw [h1]; rfl) (hT.of cF_ts)⟩)
  obtain ⟨o1, l1⟩ := md_space_ok hp h1
  have oe1 := o1.1
  simp only [h1, bind, Except.bind] at hok her
  simp only [sb_v, sw_bi, c133, sw_some, sb_i, Nat.add_zero, sw_bv, cs_2]
  refine c60 h (by omega) (by omega) o1 (fun xs p2 h2 => ?_) (fun x z D' h2 hT => ⟨hT.tw, her x z D' (by rw [h2]) hT⟩)
  obtain ⟨o2, l2⟩ := md_word_ok o1 h2
  have oe2 := o2.1
  have hS1 := hS.set (ys := xs.map md_sm) (400 + 2 * i)
  have hlen1 : (pl ++ xs.map md_sm).length = pl.length + xs.length := by rw [List.length_append, List.length_map]
  simp only [h2] at hok her
  simp only [sb_v, sw_bv]
  refine c32 (cW_ts h) o2 (fun p3 h3 => ?_) (fun x z D' h3 hT => ⟨hT.tw, her x z D' (by rw [h3]) (hT.of cF_ts)⟩)
  obtain ⟨o3, l3⟩ := md_space_ok o2 h3
  have oe3 := o3.1
  simp only [h3] at hok her
  simp only [sb_v, sw_bv]
  refine c35 (cW_ts h) (by omega) o3 (fun p4 h4 => ?_) (fun x z D' h4 hT => ⟨hT.tw, her x z D' (by rw [h4]) (hT.of cF_ts)⟩)
  obtain ⟨o4, l4⟩ := md_eat_ok o3 h4
  have oe4 := o4.1
  simp only [h4] at hok her
  simp only [sb_v, sw_bv]
  refine c32 (cW_ts h) o4 (fun p5 h5 => ?_) (fun x z D' h5 hT => ⟨hT.tw, her x z D' (by rw [h5]) (hT.of cF_ts)⟩)
  obtain ⟨o5, l5⟩ := md_space_ok o4 h5
  have oe5 := o5.1
  simp only [h5] at hok her
  simp only [sb_v, sw_bi, c133, sw_some, sb_i, sw_bv]
  refine c60 h (by omega) (by rw [hlen1]; omega) o5 (fun ys p6 h6 => ?_) (fun x z D' h6 hT => ⟨hT.tw, her x z D' (by rw [h6]) hT⟩)
  obtain ⟨o6, l6⟩ := md_word_ok o5 h6
  have oe6 := o6.1
  have hS2 := hS1.set (ys := ys.map md_sm) (400 + 2 * i + 1)
  have hlen2 : ((pl ++ xs.map md_sm) ++ ys.map md_sm).length = pl.length + xs.length + ys.length := by rw [List.length_append, hlen1, List.length_map]
  simp only [h6] at hok her
  simp only [sb_v, sw_bv]
  refine c32 (cW_ts h) o6 (fun p7 h7 => ?_) (fun x z D' h7 hT => ⟨hT.tw, her x z D' (by rw [h7]) (hT.of cF_ts)⟩)
  obtain ⟨o7, l7⟩ := md_space_ok o6 h7
  have oe7 := o7.1
  simp only [h7] at hok her
  simp only [sb_v]
  refine c59_69 h (by omega) 6 p7 [] _ _ _ _ rfl hS2 (fun n q hq => by cases hq) (by rw [hlen2]; omega) o7 (fun ps r h8 f' g' pl' σ' hS3 hP3 h63 ho3 o8 b8 => ?_) (fun x z D' h8 hT => her x z D' (by rw [h8]) hT)
  have oe8 := o8.1
  rw [hlen2] at b8
  simp only [h8] at hok her
  have ha : σ' (400 + 2 * i) = xs.map md_sm := by
    rw [ho3 _ (by omega)]; unfold up1; rw [if_neg (by omega), if_pos rfl]
  have hb : σ' (400 + 2 * i + 1) = ys.map md_sm := by
    rw [ho3 _ (by omega)]; unfold up1; rw [if_pos rfl]
  have hoff : md_off i σ σ' := fun k hk => by
    rw [ho3 k (by omega)]; unfold up1; rw [if_neg (by omega), if_neg (by omega)]
  refine sw_ge (n59_116 hX tr) ?_
  simp only [sw_bv]
  refine c37 (cW_ts h) (fun h9 => ?_) (fun x z D' h9 hT => ⟨hT.tw, her x z D' (by rw [h9]) (hT.of cF_ts)⟩)
  simp only [h9] at hok her
  have e11 : (cs X t T e (ts t D f' g') r pl').1 t 11 = ni n := by rw [cs_o (by omega) (by omega) (by omega), ts_o (by omega) (by omega), hn]
  simp (disch := omega) only [sb_v, sw_bi, c128 tr e11 hn40 (show i < 2147483648 by omega), sw_some, sb_i, sw_ite, md_b_0, sw_gu, ni_in, ni_nat]
  rw [decide_eq_true hi, if_neg (fun z => nomatch z)]
  refine ⟨decide_eq_true (by omega), ?_⟩
  rw [dI_cs (by omega) (by omega) (by omega), dI_ts (by omega) (by omega), c133, sw_some]
  have hW3 : cW C X t T N e (sm_dI D (t + 8) i (ni ps.length)) := cW_dI h (Or.inr (by omega)) (by omega)
  have hF3 : cF X t D (sm_dI D (t + 8) i (ni ps.length)) := cF_dI' (Or.inr (by omega))
  simp only [sb_i, sw_bi, Nat.add_zero, c141 hW3.1 (show 400 + 2 * i < 1061 by omega) (st_mul h.1.2.2.1) hS3 (show pl'.length ≤ 16400 by omega) (by decide), sw_some, sw_gu, ni_in (show i < 2147483648 by omega), ni_nat (show i < 2147483648 by omega), nar_md]
  refine ⟨decide_eq_true (by omega), ?_⟩
  have hsm2 : (xs.map md_sm).map md_sm = xs.map md_sm := by rw [List.map_map]; exact List.map_congr_left (fun c _ => md_sm_sm c)
  rw [dI_cs (by omega) (by omega) (by omega), dI_ts (by omega) (by omega), ha, hsm2]
  have hW4 : cW C X t T N e (sm_dI (sm_dI D (t + 8) i (ni ps.length)) (t + 10) i (md_b (decide (xs.map md_sm = md_w "multipart")))) := cW_dI hW3 (Or.inr (by omega)) (by omega)
  have hF4 : cF X t D (sm_dI (sm_dI D (t + 8) i (ni ps.length)) (t + 10) i (md_b (decide (xs.map md_sm = md_w "multipart")))) := hF3.trans (cF_dI' (Or.inr (by omega)))
  have hmu : md_Ty.multi (xs.map md_sm, ys.map md_sm, ps) = decide (xs.map md_sm = md_w "multipart") := by
    unfold md_Ty.multi
    by_cases hc : xs.map md_sm = md_w "multipart"
    · rw [decide_eq_true hc]; exact beq_iff_eq.mpr hc
    · rw [decide_eq_false hc]; exact beq_false_of_ne hc
  have h180 : ∀ b : Bool, b = (decide (dep < 6) && (md_bv ps).any md_rb) → sw (sm_fx C 59 180 [.ref (X + 7), .ref t, .int (ni i), sm_junk, .int (ni p1), sm_junk, sm_junk] [.int (md_b b)] (cs X t T e (ts t (sm_dI (sm_dI D (t + 8) i (ni ps.length)) (t + 10) i (md_b (decide (xs.map md_sm = md_w "multipart")))) f' g') r pl')) Q := by
    intro b hb2
    have e10 : (cs X t T e (ts t (sm_dI (sm_dI D (t + 8) i (ni ps.length)) (t + 10) i (md_b (decide (xs.map md_sm = md_w "multipart")))) f' g') r pl').1 (t + 10) i = md_b (decide (xs.map md_sm = md_w "multipart")) := by
      rw [cs_o (by omega) (by omega) (by omega), ts_o (by omega) (by omega)]; exact up_eq
    refine sw_ge (n59_180 hX tr) ?_
    simp (disch := omega) only [sw_gu, ni_in, ni_nat, e10, sw_ite, sw_some, md_b_0, sw_bv]
    refine ⟨decide_eq_true (by omega), ?_⟩
    have fin : ¬ (xs.map md_sm = md_w "multipart" ∧ ¬ (dep < 6 ∧ (md_bv ps).any md_rb = true)) → Q (.inl none) (cs X t T e (ts t (sm_dI (sm_dI D (t + 8) i (ni ps.length)) (t + 10) i (md_b (decide (xs.map md_sm = md_w "multipart")))) f' g') r pl') := by
      intro hnot
      have := hok _ (if_neg hnot) f' g' pl' σ' r hS3 ha hb hP3 h63 hoff o8 (by omega)
      rw [hmu] at this
      exact this
    by_cases hm : xs.map md_sm = md_w "multipart"
    · rw [decide_eq_true hm, if_neg (fun z => nomatch z)]
      rw [decide_eq_true hm] at fin
      by_cases hr : dep < 6 ∧ (md_bv ps).any md_rb = true
      · rw [hb2, decide_eq_true hr.1, hr.2, if_neg (by simp)]
        exact fin (fun z => z.2 hr)
      · have hb3 : b = false := by
          rw [hb2]
          by_cases h5 : dep < 6
          · rw [decide_eq_true h5, Bool.true_and]
            cases hv : (md_bv ps).any md_rb
            · rfl
            · exact absurd ⟨h5, hv⟩ hr
          · rw [decide_eq_false h5, Bool.false_and]
        rw [if_pos hb3]
        rw [if_pos ⟨hm, hr⟩] at her
        exact c29 hX ((hF4.trans cF_ts).trans (by rw [← decide_eq_true hm]; exact cF_cs)) (fun z D' hT => ⟨hT.tw, her p1 z D' rfl hT⟩)
    · rw [decide_eq_false hm, if_pos rfl]
      rw [decide_eq_false hm] at fin
      exact fin (fun z => hm z.1)
  have h179 : (decide (dep < 6) && (md_bv ps).any md_rb) = false → sw (sm_fx C 59 179 [.ref (X + 7), .ref t, .int (ni i), sm_junk, .int (ni p1), sm_junk, sm_junk] [] (cs X t T e (ts t (sm_dI (sm_dI D (t + 8) i (ni ps.length)) (t + 10) i (md_b (decide (xs.map md_sm = md_w "multipart")))) f' g') r pl')) Q := by
    intro hb
    refine sw_ge (n59_179 hX tr) ?_
    exact h180 false hb.symm
  rw [sw_ite]
  by_cases hd6 : dep < 6
  · rw [if_neg (by rw [ni_le (by omega) hd]; omega)]
    have hn2 : (sm_dI (sm_dI D (t + 8) i (ni ps.length)) (t + 10) i (md_b (decide (xs.map md_sm = md_w "multipart")))).1 t 11 = ni n := by
      rw [dI_ne (by omega), dI_ne (by omega), hn]
    have h82 : (sm_dI (sm_dI D (t + 8) i (ni ps.length)) (t + 10) i (md_b (decide (xs.map md_sm = md_w "multipart")))).1 (t + 8) i = ni ps.length := by
      rw [dI_ne (by omega)]; exact dI_eq
    rw [sw_bi, c142 hW4.1 hn2 hn40 hi hS3 (by omega) hP3 h63 h82, sw_some]
    simp only [sb_i, sw_bi]
    rcases md_bv_bsl hP3 with ⟨k, hk, e1, e2, e3, -⟩ | ⟨e1, e2⟩
    · rw [e1, c62 hW4.1 (by omega) hS3 (by omega) e3, sw_some]
      simp only [sb_i, sw_ite, md_b_0]
      cases hv : md_rb (σ' k)
      · rw [if_pos rfl]
        exact h179 (by rw [e2, Option.any_some, hv, Bool.and_false])
      · rw [if_neg (fun z => nomatch z)]
        exact h180 true (by rw [e2, Option.any_some, hv, decide_eq_true hd6]; rfl)
    · rw [e1, c62n hW4.1, sw_some]
      simp only [sb_i, sw_ite, md_b_0]
      rw [if_pos trivial]
      exact h179 (by rw [e2, Option.any_none, Bool.and_false])
  · rw [if_pos (by rw [ni_le (by omega) hd]; omega)]
    exact h179 (by rw [decide_eq_false hd6, Bool.false_and])
end CTZ
