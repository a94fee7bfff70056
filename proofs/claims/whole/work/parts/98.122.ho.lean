/-! ===== the reference: a field is written ===== -/
def sWr (X c j : Nat) : Prop := sPT X c j ∨ (c = X + 49 ∧ j = 43) ∨ c = X + 80
section RHQ
variable {C : sm_K} {X N : Nat} {T : Nat → Int32} {D E : sm_D} {Q : (Option Value ⊕ Nat) → sm_D → Prop} {m : md_M} {o xs : List Int32}
theorem md_sl_she {P P' : Nat → Int32} {d n i e : Nat} (H : ∀ j, j < n → P (d + j) = P' j) (he : e ≤ n) : md_sl P (d + i) (d + e) = md_sl P' i e := by
  unfold md_sl
  rw [show d + e - (d + i) = e - i from by omega]
  apply List.map_congr_left
  intro k hk
  have := List.mem_range.mp hk
  rw [Nat.add_assoc]
  exact H _ (by omega)
theorem md_fo_sh {P P' : Nat → Int32} {d n : Nat} (H : ∀ j, j < n → P (d + j) = P' j) : ∀ (m w i : Nat), md_fo P (d + n) d m w (d + i) = md_fo P' n 0 m w i := by
  intro m
  induction m with
  | zero => intro w i; rfl
  | succ m ih =>
    intro w i
    unfold md_fo
    by_cases hi : i < n
    · rw [if_pos (by omega), if_pos hi, md_run_sh H, md_run_sh H]
      have hw := md_wd_gt (P := P') hi
      rw [md_sl_she H hw.2, ih, ih, show d + md_run P' false n (md_run P' true n i) - (d + i) = md_run P' false n (md_run P' true n i) - i from by omega]
      by_cases hc : 0 < i ∧ 78 < w + (md_run P' false n (md_run P' true n i) - i)
      · rw [if_pos ⟨by omega, hc.2⟩, if_pos hc]
      · rw [if_neg (fun z => hc ⟨by omega, z.2⟩), if_neg hc]
    · rw [if_neg (by omega), if_neg hi]
theorem md_fo_0 {P : Nat → Int32} {s m w k : Nat} : md_fo P 0 s m w k = [] := by
  cases m with
  | zero => rfl
  | succ m => unfold md_fo; rw [if_neg (by omega)]
theorem md_fold_tr {L : List Int32} {w : Nat} : md_fold L w = md_fo (md_nth (md_tr L)) (md_tr L).length 0 L.length w 0 := by
  unfold md_fold
  have hlen : (md_tr L).length = md_tl L - md_ld L := md_sl_len
  rcases Nat.eq_zero_or_pos (md_tl L) with z | z
  · have e1 : md_rt (md_nth L) 0 L.length = 0 := z
    rw [hlen, z, e1, Nat.zero_sub, md_fo_0, md_fo_0]
  · have hlast : md_bl (md_nth L (md_tl L - 1)) = false := md_rt_last L.length z
    have htn : md_tl L ≤ L.length := md_rt_le L.length
    have e1 : md_run (md_nth L) true L.length 0 = md_ld L := md_run_cut htn z hlast 0 z
    have hle := md_run_le (P := md_nth L) (bl := true) (n := md_tl L) (k := 0) (by omega)
    have hd : md_ld L ≤ md_tl L := hle.2
    rw [e1, hlen]
    have e2 : md_rt (md_nth L) 0 L.length = md_ld L + (md_tl L - md_ld L) := by
      show md_tl L = _
      omega
    rw [e2]
    exact md_fo_sh (fun j hj => by
      have : md_nth (md_tr L) j = md_nth L (md_ld L + j) := md_sl_nth hj
      exact this.symm) L.length w 0
theorem os_self (h43 : E.1 (X + 49) 43 = ni o.length) (h80 : ∀ i, i < o.length → E.1 (X + 80) i = (md_nth o i).toInt8.toInt32) : E = os X E o := by
  refine Prod.ext ?_ rfl
  funext a i
  by_cases h1 : a = X + 49 ∧ i = 43
  · obtain ⟨rfl, rfl⟩ := h1
    rw [os_l, h43]
  · by_cases h2 : a = X + 80
    · subst h2
      by_cases hi : i < o.length
      · rw [os_r hi, h80 i hi]
      · rw [os_g hi]
    · rw [os_o h1 h2]
theorem rH_os (h : rH C X T N D) : rH C X T N (os X D o) := ⟨h.1, h.2.1, h.2.2.1, fun i hi => by rw [os_o (by omega) (by omega)]; exact h.2.2.2.1 i hi, h.2.2.2.2⟩
theorem md_sl_cons {P : Nat → Int32} {a b : Nat} (h : a < b) : md_sl P a b = P a :: md_sl P (a + 1) b := by
  unfold md_sl
  rw [show b - a = (b - (a + 1)) + 1 from by omega, List.range_succ_eq_map, List.map_cons, List.map_map]
  congr 1
  apply List.map_congr_left
  intro k _
  show P (a + (k + 1)) = P (a + 1 + k)
  congr 1
  omega
theorem md_sl_nil {P : Nat → Int32} {a b : Nat} (h : ¬ a < b) : md_sl P a b = [] := by
  unfold md_sl
  rw [show b - a = 0 from by omega]
  rfl
theorem md_run_go {P : Nat → Int32} {bl : Bool} {n k : Nat} (h : k < n ∧ md_bl (P k) = bl) : md_run P bl n k = md_run P bl n (k + 1) := by conv => lhs; rw [md_run, if_pos h]
theorem md_run_at {P : Nat → Int32} {bl : Bool} {n k : Nat} (h : ¬ (k < n ∧ md_bl (P k) = bl)) : md_run P bl n k = k := by rw [md_run, if_neg h]
/-- lines of words -/
theorem r254_60 (hX : sm_Lay C X) (hP : PLN X xs D) (hn : xs.length ≤ 8000) : ∀ (f i w : Nat) (o : List Int32), xs.length - i ≤ f → i ≤ xs.length → w ≤ 9000 + i → o.length + (md_fo (md_nth xs) xs.length 0 f w i).length + 2 ≤ 60000 → Q (.inl none) (os X D (o ++ (md_fo (md_nth xs) xs.length 0 f w i ++ md_cr))) → sw (sm_fx C 254 60 [.ref (X + 49), sm_junk, .int (ni w), .int (ni i), .int (md_b (decide (0 < i))), sm_junk, sm_junk] [] (os X D o)) Q := by
  have e55 : ∀ o : List Int32, (os X D o).1 (X + 49) 55 = ni xs.length := fun o => by rw [os_o (by omega) (by omega)]; exact hP.1
  have e82 : ∀ (o : List Int32) (i : Nat), i < xs.length → (os X D o).1 (X + 82) i = md_nth xs i := fun o i hi => by rw [os_o (by omega) (by omega)]; exact hP.2 i hi
  have stop : ∀ (i : Nat) (o : List Int32) (w : Nat) (v4 : Int32), xs.length ≤ i → i ≤ 8000 → o.length + 2 ≤ 60000 → Q (.inl none) (os X D (o ++ md_cr)) → sw (sm_fx C 254 60 [.ref (X + 49), sm_junk, .int (ni w), .int (ni i), .int v4, sm_junk, sm_junk] [] (os X D o)) Q := by
    intro i o w v4 hi hi2 ho hq
    refine sw_ge (n254_60 hX) ?_
    simp (disch := omega) only [sw_ite, e55, ni_le, sw_bv]
    rw [if_pos hi, r252 hX ho, sw_some, sb_v, sw_some]
    exact hq
  have n152 : ∀ (r k : Nat) (o : List Int32) (i e w : Nat), k + r = e → e ≤ xs.length → i ≤ k → w ≤ 60000 → o.length + r ≤ 60000 → sw (sm_fx C 254 60 [.ref (X + 49), sm_junk, .int (ni (w + e - i)), .int (ni e), .int (ni 1), sm_junk, sm_junk] [] (os X D (o ++ md_sl (md_nth xs) k e))) Q → sw (sm_fx C 254 152 [.ref (X + 49), sm_junk, .int (ni w), .int (ni i), sm_junk, .int (ni e), .int (ni k)] [] (os X D o)) Q := by
    intro r
    induction r with
    | zero =>
      intro k o i e w hk he hi hw ho hq
      refine sw_ge (n254_152 hX) ?_
      simp (disch := omega) only [sw_ite, ni_le, ni_add, ni_sub]
      rw [if_pos (by omega)]
      rw [md_sl_nil (by omega), List.append_nil] at hq
      exact hq
    | succ r ih =>
      intro k o i e w hk he hi hw ho hq
      refine sw_ge (n254_152 hX) ?_
      simp (disch := omega) only [sw_ite, ni_le, ni_add, sw_gu, ni_in, ni_nat, sw_bv, e82 o k (by omega)]
      rw [if_neg (by omega), r250 hX (by omega), sw_some, sb_v]
      refine ⟨decide_eq_true (by omega), ih (k + 1) _ i e w (by omega) he (by omega) hw (by rw [List.length_append]; show o.length + 1 + r ≤ 60000; omega) ?_⟩
      rw [md_sl_cons (by omega)] at hq
      rw [List.append_assoc]
      exact hq
  have n99 : ∀ (r k : Nat) (o : List Int32) (i w : Nat) (v4 : Int32), xs.length - k ≤ r → k ≤ xs.length → sw (sm_fx C 254 127 [.ref (X + 49), sm_junk, .int (ni w), .int (ni i), .int v4, .int (ni (md_run (md_nth xs) false xs.length k)), sm_junk] [] (os X D o)) Q → sw (sm_fx C 254 99 [.ref (X + 49), sm_junk, .int (ni w), .int (ni i), .int v4, .int (ni k), sm_junk] [] (os X D o)) Q := by
    intro r
    induction r with
    | zero =>
      intro k o i w v4 hr hk hq
      refine sw_ge (n254_99 hX) ?_
      simp (disch := omega) only [sw_ite, e55, ni_le]
      rw [if_pos (by omega)]
      rw [md_run_at (by omega)] at hq
      exact hq
    | succ r ih =>
      intro k o i w v4 hr hk hq
      refine sw_ge (n254_99 hX) ?_
      by_cases hkn : k < xs.length
      · simp (disch := omega) only [sw_ite, e55, ni_le, sw_gu, ni_in, ni_nat, e82 o k hkn, sw_bi, r170, sw_some, sb_i, ni_add, md_b_0]
        rw [if_neg (by omega)]
        refine ⟨decide_eq_true (by omega), ?_⟩
        cases hb : md_bl (md_nth xs k)
        · rw [if_pos rfl]
          rw [md_run_go ⟨hkn, hb⟩] at hq
          exact ih (k + 1) o i w v4 (by omega) (by omega) hq
        · rw [if_neg (show ¬ (true = false) from Bool.noConfusion)]
          rw [md_run_at (fun z => by rw [hb] at z; exact nomatch z.2)] at hq
          exact hq
      · simp (disch := omega) only [sw_ite, e55, ni_le]
        rw [if_pos (by omega)]
        rw [md_run_at (by omega)] at hq
        exact hq
  have n71 : ∀ (r k : Nat) (o : List Int32) (i w : Nat) (v4 : Int32), xs.length - k ≤ r → k ≤ xs.length → sw (sm_fx C 254 99 [.ref (X + 49), sm_junk, .int (ni w), .int (ni i), .int v4, .int (ni (md_run (md_nth xs) true xs.length k)), sm_junk] [] (os X D o)) Q → sw (sm_fx C 254 71 [.ref (X + 49), sm_junk, .int (ni w), .int (ni i), .int v4, .int (ni k), sm_junk] [] (os X D o)) Q := by
    intro r
    induction r with
    | zero =>
      intro k o i w v4 hr hk hq
      refine sw_ge (n254_71 hX) ?_
      simp (disch := omega) only [sw_ite, e55, ni_le]
      rw [if_pos (by omega)]
      rw [md_run_at (by omega)] at hq
      exact hq
    | succ r ih =>
      intro k o i w v4 hr hk hq
      refine sw_ge (n254_71 hX) ?_
      by_cases hkn : k < xs.length
      · simp (disch := omega) only [sw_ite, e55, ni_le, sw_gu, ni_in, ni_nat, e82 o k hkn, sw_bi, r170, sw_some, sb_i, ni_add, md_b_0]
        rw [if_neg (by omega)]
        refine ⟨decide_eq_true (by omega), ?_⟩
        cases hb : md_bl (md_nth xs k)
        · rw [if_pos rfl]
          rw [md_run_at (fun z => by rw [hb] at z; exact nomatch z.2)] at hq
          exact hq
        · rw [if_neg (show ¬ (true = false) from Bool.noConfusion)]
          rw [md_run_go ⟨hkn, hb⟩] at hq
          exact ih (k + 1) o i w v4 (by omega) (by omega) hq
      · simp (disch := omega) only [sw_ite, e55, ni_le]
        rw [if_pos (by omega)]
        rw [md_run_at (by omega)] at hq
        exact hq
  intro f
  induction f with
  | zero =>
    intro i w o hf hi hw ho hq
    unfold md_fo at hq ho
    exact stop i o w _ (by omega) (by omega) (by simpa using ho) hq
  | succ f ih =>
    intro i w o hf hi hw ho hq
    by_cases hin : i < xs.length
    · unfold md_fo at hq ho
      rw [if_pos hin] at hq ho
      have hwd := md_wd_gt (P := md_nth xs) hin
      have hr1 := md_run_le (P := md_nth xs) (bl := true) (n := xs.length) (k := i) hi
      refine sw_ge (n254_60 hX) ?_
      simp (disch := omega) only [sw_ite, e55, ni_le]
      rw [if_neg (by omega)]
      refine n71 xs.length i o i w _ (by omega) hi ?_
      refine n99 xs.length _ o i w _ (by omega) hr1.2 ?_
      generalize md_run (md_nth xs) false xs.length (md_run (md_nth xs) true xs.length i) = e at hq ho hwd ⊢
      have hel : (md_sl (md_nth xs) i e).length = e - i := md_sl_len
      have d1 : decide (0 < e) = true := decide_eq_true (by omega)
      -- no new line
      have keep : ∀ (w2 : Nat) (o2 : List Int32), w2 ≤ 9000 + i → o2.length + (e - i) + (md_fo (md_nth xs) xs.length 0 f (w2 + e - i) e).length + 2 ≤ 60000 → Q (.inl none) (os X D (o2 ++ (md_sl (md_nth xs) i e ++ (md_fo (md_nth xs) xs.length 0 f (w2 + e - i) e ++ md_cr)))) → sw (sm_fx C 254 149 [.ref (X + 49), sm_junk, .int (ni w2), .int (ni i), sm_junk, .int (ni e), sm_junk] [] (os X D o2)) Q := by
        intro w2 o2 hw2 ho2 hq2
        refine sw_ge (n254_149 hX) ?_
        refine n152 (e - i) i o2 i e w2 (by omega) hwd.2 (Nat.le_refl _) (by omega) (by omega) ?_
        have := ih e (w2 + e - i) (o2 ++ md_sl (md_nth xs) i e) (by omega) hwd.2 (by omega) (by rw [List.length_append, hel]; exact ho2) (by rw [List.append_assoc]; exact hq2)
        rw [d1] at this
        exact this
      refine sw_ge (n254_127 hX) ?_
      simp (disch := omega) only [sw_ite, md_b_0, ni_add, ni_sub, ni_le, sw_bv]
      by_cases hc : 0 < i ∧ 78 < w + (e - i)
      · rw [if_pos hc] at hq ho
        rw [if_neg (by rw [decide_eq_true hc.1]; exact Bool.noConfusion), if_neg (by omega)]
        simp only [List.length_append, hel, show md_cr.length = 2 from rfl] at ho
        rw [r252 hX (by omega), sw_some, sb_v]
        refine keep 0 (o ++ md_cr) (by omega) (by rw [List.length_append, show md_cr.length = 2 from rfl, Nat.zero_add]; omega) ?_
        rw [Nat.zero_add]
        simp only [List.append_assoc] at hq ⊢
        exact hq
      · rw [if_neg hc] at hq ho
        simp only [List.length_append, hel] at ho
        have e1 : w + e - i = w + (e - i) := by omega
        have k1 := keep w o hw (by rw [e1]; omega) (by rw [e1]; simp only [List.append_assoc] at hq; exact hq)
        by_cases h0 : 0 < i
        · rw [if_neg (by rw [decide_eq_true h0]; exact Bool.noConfusion), if_pos (by omega)]
          exact k1
        · rw [if_pos (decide_eq_false h0)]
          exact k1
    · have e0 : md_fo (md_nth xs) xs.length 0 (f + 1) w i = [] := by unfold md_fo; rw [if_neg hin]
      rw [e0] at hq ho
      exact stop i o w _ (by omega) (by omega) (by simpa using ho) hq
end RHQ
