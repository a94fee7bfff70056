/-! ===== the reference: a subject ===== -/
theorem md_sub_sh {P P' : Nat → Int32} {s n : Nat} (H : ∀ j, j < n → P (s + j) = P' j) : ∀ (m k : Nat) (was : Bool), k ≤ n → md_sub P (s + n) m (s + k) was = md_sub P' n m k was := by
  intro m
  induction m with
  | zero => intro k was _; rfl
  | succ m ih =>
    intro k was hk
    unfold md_sub
    by_cases hkn : k < n
    · rw [if_pos (by omega), if_pos hkn]
      have e1 : md_run P true (s + n) (s + k) = s + md_run P' true n k := md_run_sh H
      have h1 := md_run_le (P := P') (bl := true) (show k ≤ n by omega)
      dsimp only
      rw [e1]
      generalize md_run P' true n k = w at h1
      have e2 : md_run P false (s + n) (s + w) = s + md_run P' false n w := md_run_sh H
      have h2 := md_run_le (P := P') (bl := false) (show w ≤ n by omega)
      rw [e2]
      generalize md_run P' false n w = z at h2
      have e3 : md_enc P (s + w) (s + z) = md_enc P' w z := md_enc_sh (fun j hj => H j (by omega))
      have e4 : md_sl P (s + k) (s + w) = md_sl P' k w := md_sl_sh (fun j hj => H j (by omega))
      have e5 : md_sl P (s + w) (s + z) = md_sl P' w z := md_sl_sh (fun j hj => H j (by omega))
      rw [e3, e4, e5, ih z true (by omega), ih z false (by omega)]
      by_cases hwz : w < z
      · rw [if_pos hwz, if_pos (by omega)]
      · rw [if_neg hwz, if_neg (by omega)]
    · rw [if_neg (by omega), if_neg hkn]
theorem md_rt_last {P : Nat → Int32} : ∀ b, 0 < md_rt P 0 b → md_bl (P (md_rt P 0 b - 1)) = false := by
  intro b
  induction b with
  | zero => intro h; unfold md_rt at h; omega
  | succ b ih =>
    intro h
    unfold md_rt at h ⊢
    by_cases hc : 0 < b + 1 ∧ md_bl (P b) = true
    · rw [if_pos hc] at h ⊢
      exact ih h
    · rw [if_neg hc]
      cases hb : md_bl (P (b + 1 - 1))
      · rfl
      · exact absurd ⟨by omega, hb⟩ hc
theorem md_run_cut {P : Nat → Int32} {t n : Nat} (ht : t ≤ n) (h0 : 0 < t) (hl : md_bl (P (t - 1)) = false) : ∀ k, k < t → md_run P true n k = md_run P true t k := by
  intro k hk
  have e1 : md_run P true n k = if k < n ∧ md_bl (P k) = true then md_run P true n (k + 1) else k := by rw [md_run]
  have e2 : md_run P true t k = if k < t ∧ md_bl (P k) = true then md_run P true t (k + 1) else k := by rw [md_run]
  rw [e1, e2]
  by_cases hb : md_bl (P k) = true
  · rw [if_pos ⟨by omega, hb⟩, if_pos ⟨hk, hb⟩]
    have : k + 1 < t := by
      rcases Nat.lt_or_ge (k + 1) t with g | g
      · exact g
      · have : k = t - 1 := by omega
        rw [this, hl] at hb; cases hb
    exact md_run_cut ht h0 hl (k + 1) this
  · rw [if_neg (fun g => hb g.2), if_neg (fun g => hb g.2)]
termination_by k => t - k
theorem md_sub_z {P : Nat → Int32} {m k : Nat} {was : Bool} {n : Nat} (h : n ≤ k) : md_sub P n m k was = [] := by
  cases m with
  | zero => rfl
  | succ m => unfold md_sub; rw [if_neg (by omega)]
theorem md_sub_fuel {P : Nat → Int32} {n : Nat} : ∀ (m m' k : Nat) (was : Bool), n - k ≤ m → n - k ≤ m' → k ≤ n → md_sub P n m k was = md_sub P n m' k was := by
  intro m
  induction m with
  | zero => intro m' k was h1 h2 hk; rw [md_sub_z (by omega), md_sub_z (by omega)]
  | succ m ih =>
    intro m' k was h1 h2 hk
    cases m' with
    | zero => rw [md_sub_z (by omega), md_sub_z (by omega)]
    | succ m' =>
      unfold md_sub
      by_cases hkn : k < n
      · rw [if_pos hkn, if_pos hkn]
        have h3 := md_run_le (P := P) (bl := true) (show k ≤ n by omega)
        dsimp only
        have hz : k < md_run P false n (md_run P true n k) := by
          by_cases hb : md_bl (P k) = true
          · have : k < md_run P true n k := by
              rw [md_run, if_pos ⟨hkn, hb⟩]
              exact (md_run_le (P := P) (bl := true) (show k + 1 ≤ n by omega)).1
            have := (md_run_le (P := P) (bl := false) (show md_run P true n k ≤ n from h3.2)).1
            omega
          · have e1 : md_run P true n k = k := by rw [md_run, if_neg (fun g => hb g.2)]
            rw [e1, md_run, if_pos ⟨hkn, by cases h9 : md_bl (P k) <;> first | rfl | exact absurd h9 hb⟩]
            exact (md_run_le (P := P) (bl := false) (show k + 1 ≤ n by omega)).1
        have hzn := (md_run_le (P := P) (bl := false) (show md_run P true n k ≤ n from h3.2)).2
        generalize md_run P false n (md_run P true n k) = z at hz hzn
        rw [ih m' z true (by omega) (by omega) hzn, ih m' z false (by omega) (by omega) hzn]
      · rw [if_neg hkn, if_neg hkn]
theorem md_subj_tr {L : List Int32} : md_subj L = md_sub (md_nth (md_tr L)) (md_tr L).length (md_tr L).length 0 false := by
  unfold md_subj
  have htl : md_tl L ≤ L.length := md_rt_le _
  have hlen : (md_tr L).length = md_tl L - md_ld L := md_sl_len
  have hld := md_run_le (P := md_nth L) (bl := true) (Nat.zero_le (md_tl L))
  by_cases h0 : 0 < md_tl L
  · have e1 : md_run (md_nth L) true L.length 0 = md_ld L := md_run_cut htl h0 (md_rt_last L.length h0) 0 h0
    have e2 : md_tl L = md_ld L + (md_tl L - md_ld L) := by unfold md_ld; omega
    rw [e1]
    show md_sub (md_nth L) (md_tl L) L.length (md_ld L) false = _
    have e3 := md_sub_sh (P := md_nth L) (P' := md_nth (md_tr L)) (s := md_ld L) (n := md_tl L - md_ld L) (fun j hj => by unfold md_tr; rw [md_sl_nth hj]) L.length 0 false (by omega)
    rw [← e2, Nat.add_zero] at e3
    rw [e3, hlen]
    exact md_sub_fuel _ _ _ _ (by omega) (by omega) (by omega)
  · have e0 : md_tl L = 0 := by omega
    show md_sub (md_nth L) (md_tl L) L.length _ false = _
    rw [e0, md_sub_z (by omega), hlen, e0, md_sub_z (by omega)]
section RGU
variable {C : sm_K} {X N : Nat} {T : Nat → Int32} {D E : sm_D} {Q : (Option Value ⊕ Nat) → sm_D → Prop} {xs l : List Int32}
def sSu (X c j : Nat) : Prop := sEn X c j ∨ sSb X c j
theorem SUB.fr {S : Nat → Nat → Prop} {pts : List Int32} (h : SUB X pts D) (g : fr S D E) (hS : ∀ c j, S c j → ¬ (c = X + 76 ∨ (c = X + 49 ∧ j = 36))) : SUB X pts E := ⟨by rw [g.2 _ _ (fun z => hS _ _ z (Or.inr ⟨rfl, rfl⟩))]; exact h.1, fun i hi => by rw [g.2 _ _ (fun z => hS _ _ z (Or.inl rfl))]; exact h.2 i hi⟩
theorem fr.mono {S S' : Nat → Nat → Prop} (h : fr S D E) (g : ∀ c j, S c j → S' c j) : fr S' D E := ⟨h.1, fun c j hc => h.2 c j (fun z => hc (g c j z))⟩
/-- points of a stretch -/
theorem r211_157 (hX : sm_Lay C X) (hL : xs.length ≤ 8000) {z : Nat} (hz : z ≤ xs.length) {v6 : Int32} {D0 : sm_D} : ∀ (m k : Nat) (pts : List Int32) (E : sm_D), k + m = z → PLN X xs E → SUB X pts E → pts.length + (z - k) ≤ 8000 → fr (sSb X) D0 E →
    (∀ E', fr (sSb X) D0 E' → SUB X (pts ++ md_sl (md_nth xs) k z) E' → sw (sm_fx C 211 181 [.ref (X + 49), sm_junk, sm_junk, sm_junk, sm_junk, .int (ni z), .int v6, sm_junk] [] E') Q) →
    sw (sm_fx C 211 157 [.ref (X + 49), sm_junk, sm_junk, sm_junk, sm_junk, .int (ni z), .int v6, .int (ni k)] [] E) Q := by
  intro m
  induction m with
  | zero =>
    intro k pts E hk hP hS hb hfr hok
    refine sw_ge (n211_157 hX) ?_
    simp (disch := omega) only [sw_ite, ni_le]
    rw [if_pos (by omega)]
    refine hok E hfr ?_
    have : md_sl (md_nth xs) k z = [] := by unfold md_sl; rw [show z - k = 0 from by omega]; rfl
    rw [this, List.append_nil]; exact hS
  | succ m ih =>
    intro k pts E hk hP hS hb hfr hok
    refine sw_ge (n211_157 hX) ?_
    simp (disch := omega) only [sw_ite, ni_le, sw_gu, ni_in, ni_nat, hP.2 k (by omega), sw_bv, ni_add]
    rw [if_neg (by omega)]
    refine ⟨decide_eq_true (by omega), ?_⟩
    refine r221 hX hS (by omega) (fun E2 fr2 S2 => ?_)
    simp only [sb_v]
    refine ih (k + 1) _ E2 (by omega) (hP.fr fr2 (fun c j h => by unfold sSb at h; omega)) S2 (by rw [List.length_append, List.length_singleton]; omega) (hfr.trans fr2) (fun E' hE' hS' => hok E' hE' ?_)
    have e1 : md_sl (md_nth xs) k z = md_nth xs k :: md_sl (md_nth xs) (k + 1) z := by
      unfold md_sl
      rw [show z - k = (z - (k + 1)) + 1 from by omega, List.range_succ_eq_map, List.map_cons, List.map_map]
      congr 1
      exact List.map_congr_left (fun j _ => by show md_nth xs (k + (j + 1)) = md_nth xs (k + 1 + j); congr 1; omega)
    rw [e1]
    rw [List.append_assoc, List.singleton_append] at hS'
    exact hS'
theorem r211_108 (hX : sm_Lay C X) (hL : xs.length ≤ 8000) {w : Nat} (hw : w ≤ xs.length) {z v3 v6 : Bool} {v5 : Int32} {D0 : sm_D} : ∀ (m k : Nat) (pts : List Int32) (E : sm_D), k + m = w → PLN X xs E → SUB X pts E → pts.length + (w - k) ≤ 8000 → fr (sSb X) D0 E →
    (∀ E', fr (sSb X) D0 E' → SUB X (pts ++ (if v6 && v3 then [] else md_sl (md_nth xs) k w)) E' → sw (sm_fx C 211 141 [.ref (X + 49), sm_junk, sm_junk, sm_junk, .int (ni w), .int v5, .int (md_b v6), sm_junk] [] E') Q) →
    sw (sm_fx C 211 108 [.ref (X + 49), sm_junk, sm_junk, .int (md_b v3), .int (ni w), .int v5, .int (md_b v6), .int (ni k)] [] E) Q := by
  intro m
  induction m with
  | zero =>
    intro k pts E hk hP hS hb hfr hok
    refine sw_ge (n211_108 hX) ?_
    simp (disch := omega) only [sw_ite, ni_le]
    rw [if_pos (by omega)]
    refine hok E hfr ?_
    have : md_sl (md_nth xs) k w = [] := by unfold md_sl; rw [show w - k = 0 from by omega]; rfl
    rw [this, show (if (v6 && v3) = true then ([] : List Int32) else []) = [] by split <;> rfl, List.append_nil]; exact hS
  | succ m ih =>
    intro k pts E hk hP hS hb hfr hok
    have n124 : (v6 && v3) = false → sw (sm_fx C 211 124 [.ref (X + 49), sm_junk, sm_junk, .int (md_b v3), .int (ni w), .int v5, .int (md_b v6), .int (ni k)] [] E) Q := by
      intro hv
      rw [hv, if_neg (fun g => nomatch g)] at hok
      refine sw_ge (n211_124 hX) ?_
      simp (disch := omega) only [sw_gu, ni_in, ni_nat, hP.2 k (by omega), sw_bv, ni_add]
      refine ⟨decide_eq_true (by omega), ?_⟩
      refine r221 hX hS (by omega) (fun E2 fr2 S2 => ?_)
      simp only [sb_v]
      refine ih (k + 1) _ E2 (by omega) (hP.fr fr2 (fun c j h => by unfold sSb at h; omega)) S2 (by rw [List.length_append, List.length_singleton]; omega) (hfr.trans fr2) (fun E' hE' hS' => hok E' hE' ?_)
      have e1 : md_sl (md_nth xs) k w = md_nth xs k :: md_sl (md_nth xs) (k + 1) w := by
        unfold md_sl
        rw [show w - k = (w - (k + 1)) + 1 from by omega, List.range_succ_eq_map, List.map_cons, List.map_map]
        congr 1
        exact List.map_congr_left (fun j _ => by show md_nth xs (k + (j + 1)) = md_nth xs (k + 1 + j); congr 1; omega)
      rw [e1]
      rw [hv, if_neg (fun g => nomatch g), List.append_assoc, List.singleton_append] at hS'
      exact hS'
    refine sw_ge (n211_108 hX) ?_
    simp (disch := omega) only [sw_ite, ni_le, md_b_0]
    rw [if_neg (by omega)]
    cases v6
    · rw [if_pos rfl]; exact n124 rfl
    · rw [if_neg (fun g => nomatch g)]
      cases v3
      · rw [if_pos rfl]; exact n124 rfl
      · rw [if_neg (fun g => nomatch g)]
        exact hok E hfr (by rw [Bool.true_and, if_pos rfl, List.append_nil]; exact hS)
theorem md_run_in {P : Nat → Int32} {bl : Bool} {n k : Nat} : ∀ j, k ≤ j → j < md_run P bl n k → md_bl (P j) = bl := by
  rw [md_run]
  split
  · next h =>
    intro j hj hj2
    by_cases hjk : j = k
    · rw [hjk]; exact h.2
    · exact md_run_in j (by omega) hj2
  · next h => intro j hj hj2; omega
termination_by n - k
theorem r211_9 (hX : sm_Lay C X) (hx : tx C) (hL : xs.length ≤ 8000) (hpr : ∀ j, j < xs.length → md_bl (md_nth xs j) = false → md_in (md_nth xs j) 33 126 = true) {D0 : sm_D} : ∀ (m k : Nat) (was : Bool) (pts : List Int32) (E : sm_D), xs.length - k ≤ m → k ≤ xs.length → PLN X xs E → SUB X pts E → pts.length + (xs.length - k) ≤ 8000 → fr (sSu X) D0 E →
    (∀ E', fr (sSu X) D0 E' → SUB X (pts ++ md_sub (md_nth xs) xs.length m k was) E' → Q (.inl none) E') →
    sw (sm_fx C 211 9 [.ref (X + 49), sm_junk, .int (ni k), .int (md_b was), sm_junk, sm_junk, sm_junk, sm_junk] [] E) Q := by
  intro m
  induction m with
  | zero =>
    intro k was pts E hm hk hP hS hb hfr hok
    refine sw_ge (n211_9 hX) ?_
    simp (disch := omega) only [sw_ite, hP.1, ni_le, sw_some]
    rw [if_pos (by omega)]
    exact hok E hfr (by unfold md_sub; rw [List.append_nil]; exact hS)
  | succ m ih =>
    intro k was pts E hm hk hP hS hb hfr hok
    refine sw_ge (n211_9 hX) ?_
    simp (disch := omega) only [sw_ite, hP.1, ni_le, sw_some]
    by_cases hkn : k < xs.length
    · rw [if_neg (by omega)]
      unfold md_sub at hok
      rw [if_pos hkn] at hok
      dsimp only at hok
      have hw := md_run_le (P := md_nth xs) (bl := true) (show k ≤ xs.length by omega)
      have hwz : k < md_run (md_nth xs) false xs.length (md_run (md_nth xs) true xs.length k) := by
        by_cases hbk : md_bl (md_nth xs k) = true
        · have : k < md_run (md_nth xs) true xs.length k := by
            rw [md_run, if_pos ⟨hkn, hbk⟩]
            exact (md_run_le (P := md_nth xs) (bl := true) (show k + 1 ≤ xs.length by omega)).1
          have := (md_run_le (P := md_nth xs) (bl := false) (show md_run (md_nth xs) true xs.length k ≤ xs.length from hw.2)).1
          omega
        · have e1 : md_run (md_nth xs) true xs.length k = k := by rw [md_run, if_neg (fun g => hbk g.2)]
          rw [e1, md_run, if_pos ⟨hkn, by cases h9 : md_bl (md_nth xs k) <;> first | rfl | exact absurd h9 hbk⟩]
          exact (md_run_le (P := md_nth xs) (bl := false) (show k + 1 ≤ xs.length by omega)).1
      have hin := md_run_in (P := md_nth xs) (bl := false) (n := xs.length) (k := md_run (md_nth xs) true xs.length k)
      have hzz := md_run_le (P := md_nth xs) (bl := false) (show md_run (md_nth xs) true xs.length k ≤ xs.length from hw.2)
      -- the word's end is found
      have n52 : ∀ (mm j : Nat), xs.length - j ≤ mm → j ≤ xs.length → md_run (md_nth xs) false xs.length j = md_run (md_nth xs) false xs.length (md_run (md_nth xs) true xs.length k) → sw (sm_fx C 211 80 [.ref (X + 49), sm_junk, .int (ni k), .int (md_b was), .int (ni (md_run (md_nth xs) true xs.length k)), .int (ni (md_run (md_nth xs) false xs.length (md_run (md_nth xs) true xs.length k))), sm_junk, sm_junk] [] E) Q → sw (sm_fx C 211 52 [.ref (X + 49), sm_junk, .int (ni k), .int (md_b was), .int (ni (md_run (md_nth xs) true xs.length k)), .int (ni j), sm_junk, sm_junk] [] E) Q := by
        intro mm
        induction mm with
        | zero =>
          intro j hj1 hj2 he hQ
          refine sw_ge (n211_52 hX) ?_
          simp (disch := omega) only [sw_ite, hP.1, ni_le]
          rw [if_pos (by omega)]
          have em : md_run (md_nth xs) false xs.length j = j := by rw [md_run, if_neg (fun g => by omega)]
          rw [← he, em] at hQ
          exact hQ
        | succ mm ih2 =>
          intro j hj1 hj2 he hQ
          refine sw_ge (n211_52 hX) ?_
          simp (disch := omega) only [sw_ite, hP.1, ni_le, sw_gu, ni_in, ni_nat, sw_bi, r170, sw_some, sb_i, md_b_0, ni_add]
          by_cases hjn : j < xs.length
          · rw [if_neg (by omega), hP.2 j hjn]
            refine ⟨decide_eq_true (by omega), ?_⟩
            rw [md_run] at he
            cases hb9 : md_bl (md_nth xs j)
            · rw [if_pos rfl]
              rw [if_pos ⟨hjn, hb9⟩] at he
              exact ih2 (j + 1) (by omega) (by omega) he hQ
            · rw [if_neg (fun g => nomatch g)]
              rw [if_neg (fun g => by rw [hb9] at g; exact nomatch g.2)] at he
              rw [← he] at hQ
              exact hQ
          · rw [if_pos (by omega)]
            have em : md_run (md_nth xs) false xs.length j = j := by rw [md_run, if_neg (fun g => hjn g.1)]
            rw [← he, em] at hQ
            exact hQ
      have n20 : ∀ (mm j : Nat), xs.length - j ≤ mm → j ≤ xs.length → md_run (md_nth xs) true xs.length j = md_run (md_nth xs) true xs.length k → sw (sm_fx C 211 48 [.ref (X + 49), sm_junk, .int (ni k), .int (md_b was), .int (ni (md_run (md_nth xs) true xs.length k)), sm_junk, sm_junk, sm_junk] [] E) Q → sw (sm_fx C 211 20 [.ref (X + 49), sm_junk, .int (ni k), .int (md_b was), .int (ni j), sm_junk, sm_junk, sm_junk] [] E) Q := by
        intro mm
        induction mm with
        | zero =>
          intro j hj1 hj2 he hQ
          refine sw_ge (n211_20 hX) ?_
          simp (disch := omega) only [sw_ite, hP.1, ni_le]
          rw [if_pos (by omega)]
          have em : md_run (md_nth xs) true xs.length j = j := by rw [md_run, if_neg (fun g => by omega)]
          rw [← he, em] at hQ
          exact hQ
        | succ mm ih2 =>
          intro j hj1 hj2 he hQ
          refine sw_ge (n211_20 hX) ?_
          simp (disch := omega) only [sw_ite, hP.1, ni_le, sw_gu, ni_in, ni_nat, sw_bi, r170, sw_some, sb_i, md_b_0, ni_add]
          by_cases hjn : j < xs.length
          · rw [if_neg (by omega), hP.2 j hjn]
            refine ⟨decide_eq_true (by omega), ?_⟩
            rw [md_run] at he
            cases hb9 : md_bl (md_nth xs j)
            · rw [if_pos rfl]
              rw [if_neg (fun g => by rw [hb9] at g; exact nomatch g.2)] at he
              rw [← he] at hQ
              exact hQ
            · rw [if_neg (fun g => nomatch g)]
              rw [if_pos ⟨hjn, hb9⟩] at he
              exact ih2 (j + 1) (by omega) (by omega) he hQ
          · rw [if_pos (by omega)]
            have em : md_run (md_nth xs) true xs.length j = j := by rw [md_run, if_neg (fun g => hjn g.1)]
            rw [← he, em] at hQ
            exact hQ
      refine n20 xs.length k (by omega) hk rfl ?_
      refine sw_ge (n211_48 hX) ?_
      refine n52 xs.length _ (by omega) hw.2 rfl ?_
      generalize md_run (md_nth xs) true xs.length k = w at hw hwz hin hzz hok ⊢
      generalize md_run (md_nth xs) false xs.length w = z at hwz hin hzz hok ⊢
      clear n20 n52
      -- no encoded word
      have plainw : (if w < z then md_enc (md_nth xs) w z else none) = none → ∀ E', fr (sSu X) D0 E' → PLN X xs E' → SUB X pts E' → sw (sm_fx C 211 103 [.ref (X + 49), sm_junk, .int (ni k), .int (md_b was), .int (ni w), .int (ni z), sm_junk, sm_junk] [.int (ni 0)] E') Q := by
        intro hnone E' hE' hP' hS'
        rw [hnone] at hok
        dsimp only at hok
        refine sw_ge (n211_103 hX) ?_
        refine r211_108 hX hL hw.2 (z := true) (v3 := was) (v6 := false) (D0 := E') (w - k) k pts E' (by omega) hP' hS' (by omega) fr.refl (fun E2 fr2 S2 => ?_)
        rw [Bool.false_and, if_neg (fun g => nomatch g)] at S2
        refine sw_ge (n211_141 hX) ?_
        simp only [sw_ite, show md_b false = ni 0 from rfl, if_true]
        have hP2 := hP'.fr fr2 (fun c j h => by unfold sSb at h; omega)
        refine r211_157 hX hL hzz.2 (D0 := E2) (z - w) w _ E2 (by omega) hP2 S2 (by rw [List.length_append, md_sl_len]; omega) fr.refl (fun E3 fr3 S3 => ?_)
        refine sw_ge (n211_181 hX) ?_
        refine ih z false _ E3 (by omega) hzz.2 (hP2.fr fr3 (fun c j h => by unfold sSb at h; omega)) S3 (by rw [List.length_append, List.length_append, md_sl_len, md_sl_len]; omega) ((hE'.trans (fr2.mono (fun c j h => Or.inr h))).trans (fr3.mono (fun c j h => Or.inr h))) (fun E4 hE4 hS4 => hok E4 hE4 ?_)
        simp only [List.append_assoc] at hS4 ⊢
        exact hS4
      refine sw_ge (n211_80 hX) ?_
      simp (disch := omega) only [sw_ite, ni_le, sw_bi]
      by_cases hwz2 : w < z
      · rw [if_neg (by omega)]
        rw [if_pos hwz2] at plainw hok
        refine r213 hX hx hP hL hwz2 hzz.2 (fun j hj1 hj2 => hpr j (by omega) (hin j hj1 hj2)) (fun cs lb henc E' hE' hWB h59 => ?_) (fun hnone E' hE' => ?_)
        · simp only [sb_i, sw_ite, ni_10, if_false]
          rw [henc] at hok
          dsimp only at hok
          obtain ⟨le1, le2, le3⟩ := md_enc_len (fun j hj1 hj2 => by
            obtain ⟨n, -, n2, n3⟩ := (md_in_iff (by omega) (by omega)).mp (hpr j (by omega) (hin j hj1 hj2))
            exact ⟨n, by omega, n3⟩) henc
          have hP' := hP.fr hE' sEn_P
          have hS' : SUB X pts E' := hS.fr hE' (fun c j h => by unfold sEn at h; omega)
          refine sw_ge (n211_103 hX) ?_
          refine r211_108 hX hL hw.2 (z := true) (v3 := was) (v6 := true) (D0 := E') (w - k) k pts E' (by omega) hP' hS' (by omega) fr.refl (fun E2 fr2 S2 => ?_)
          rw [Bool.true_and] at S2
          refine sw_ge (n211_141 hX) ?_
          simp only [sw_ite, show md_b true = ni 1 from rfl, ni_10, if_false, sw_bv]
          have hP2 := hP'.fr fr2 (fun c j h => by unfold sSb at h; omega)
          have hWB2 := hWB.fr fr2 sSb_W
          have hb2 : (pts ++ (if was then [] else md_sl (md_nth xs) k w)).length + lb.length ≤ pts.length + (z - k) := by
            rw [List.length_append]
            cases was
            · rw [if_neg (fun g => nomatch g), md_sl_len]; omega
            · rw [if_pos rfl, List.length_nil]; omega
          have hlb : lb.length ≤ 75 := by
            have h75 : z ≤ w + 75 := by
              unfold md_enc at henc
              dsimp only at henc
              split at henc
              · next g => exact g.1
              · cases henc
            omega
          refine sw_ge (f222 hX) ?_
          refine r222_2 hX hlb le2 le3 (D0 := E2) lb.length 0 _ E2 (by omega) (by omega) hWB2 (by rw [fr2.2 _ _ (by unfold sSb; omega), h59]) S2 (by omega) fr.refl (fun E3 fr3 S3 => ?_)
          simp only [sb_v]
          refine sw_ge (n211_181 hX) ?_
          have hpl := md_pts_len (ch := cs) (l := lb) lb.length 0
          have hzz2 := hzz.2
          have := ih z true _ E3 (by omega) hzz.2 (hP2.fr fr3 (fun c j h => by unfold sSb at h; omega)) S3 (by rw [List.length_append]; omega) (((hfr.trans (hE'.mono (fun c j h => Or.inl h))).trans (fr2.mono (fun c j h => Or.inr h))).trans (fr3.mono (fun c j h => Or.inr h))) (fun E4 hE4 hS4 => hok E4 hE4 (by
            simp only [List.append_assoc] at hS4 ⊢
            exact hS4))
          exact this
        · simp only [sb_i, sw_ite, if_true]
          refine sw_ge (n211_102 hX) ?_
          exact plainw hnone E' (hfr.trans (hE'.mono (fun c j h => Or.inl h))) (hP.fr hE' sEn_P) (hS.fr hE' (fun c j h => by unfold sEn at h; omega))
      · rw [if_pos (by omega)]
        refine sw_ge (n211_102 hX) ?_
        exact plainw (by rw [if_neg hwz2]) E hfr hP hS
    · rw [if_pos (by omega)]
      exact hok E hfr (by rw [md_sub_z (by omega), List.append_nil]; exact hS)
def sSx (X c j : Nat) : Prop := sPT X c j ∨ sSu X c j
theorem r211 (h : rH C X T N D) (h8 : D.1 (X + 49) 8 = sm_k (-1)) (hT : RT X l D) (h36 : D.1 (X + 49) 36 = ni 0) {f c y : Nat} (hf : FT X T N f c y D) (hpr : ∀ x ∈ md_chs T y (md_go T y (c + 1)), md_in x 32 126 = true ∨ x = ni 9)
    (hq : ∀ E', fr (sSx X) D E' → RT X l E' → SUB X (md_subj (md_chs T y (md_go T y (c + 1)))) E' → Q (.inl none) E') : sw (sm_fe C 211 [.ref (X + 49), .int (ni f)] D) Q := by
  have hX := h.1
  have hN := h.2.2.1
  have hyN := hf.2.2.2.2.1
  refine sw_ge (f211 hX) ?_
  simp only [sw_bv]
  refine r212 h h8 hT hf (fun E1 hfr1 hT1 hP1 => ?_)
  simp only [sb_v]
  have hlen := md_chs_len (T := T) (z := y) (q := md_go T y (c + 1))
  generalize md_chs T y (md_go T y (c + 1)) = L at hpr hP1 hlen hq
  have htl : md_tl L ≤ L.length := md_rt_le _
  have htr : (md_tr L).length = md_tl L - md_ld L := md_sl_len
  have hpr2 : ∀ j, j < (md_tr L).length → md_bl (md_nth (md_tr L) j) = false → md_in (md_nth (md_tr L) j) 33 126 = true := by
    intro j hj hb
    rw [htr] at hj
    unfold md_tr at hb ⊢
    rw [md_sl_nth hj] at hb ⊢
    have hlt : md_ld L + j < L.length := by omega
    rw [md_nth_get hlt] at hb ⊢
    rcases hpr _ (List.getElem_mem hlt) with g | g
    · obtain ⟨n, n1, n2, n3⟩ := (md_in_iff (by omega) (by omega)).mp g
      rw [n3] at hb ⊢
      refine (md_in_iff (by omega) (by omega)).mpr ⟨n, ?_, n2, rfl⟩
      rcases Nat.lt_or_ge 32 n with g2 | g2
      · exact g2
      · have : n = 32 := by omega
        subst this
        exact absurd hb (by decide)
    · rw [g] at hb; exact absurd hb (by decide)
  have hS1 : SUB X [] E1 := ⟨by rw [hfr1.2 _ _ (by unfold sPT rsc; omega), h36]; rfl, fun i hi => by cases hi⟩
  refine r211_9 hX h.2.1 (by omega) hpr2 (D0 := E1) (md_tr L).length 0 false [] E1 (by omega) (by omega) hP1 hS1 (by rw [List.length_nil]; omega) fr.refl (fun E2 hfr2 hS2 => ?_)
  rw [List.nil_append, ← md_subj_tr] at hS2
  refine hq E2 ((hfr1.mono (fun c j g => Or.inl g)).trans (hfr2.mono (fun c j g => Or.inr g))) ⟨?_, fun i hi => ?_⟩ hS2
  · rw [hfr2.2 _ _ (by unfold sSu sEn sSb; omega)]; exact hT1.1
  · rw [hfr2.2 _ _ (by unfold sSu sEn sSb; omega)]; exact hT1.2 i hi
end RGU
