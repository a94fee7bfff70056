section CWF
variable {C : sm_K} {X t N : Nat} {T T' : Nat → Int32} {D : sm_D} {m : md_M} {pl : List Int32} {σ : Nat → List Int32} {o : List Int32}
theorem ni_z (x : Int32) : x + ni 0 = x := Int32.add_zero x
theorem x45 (hH : cH C X t T' N D) (h0 : D.1 (t + 1) 1 = ni pl.length) (hl : pl.length ≤ 16400) (hi : ∀ i, i < pl.length → D.1 (t + 2) i = md_nth pl i) {a b : Nat} (hb : b < 100000) (ha : a < 100000) {bl : Bool} : sm_fe C 45 [.ref (t + 1), .int (ni a), .int (ni b), .int (md_b bl)] D = some (.inl (some (.int (ni (md_run (md_nth pl) bl b a)))), D) := by
  obtain ⟨T0, e, p, eD⟩ := cs_tr (X := X) hH.2.1 h0 hi
  have hH' : cH C X t T' N (ts t D (D.1 (t + 3)) (D.1 (t + 4))) := cH_ts hH
  have := c45' (T0 := T0) (e := e) (p := p) hH' hl hb ha (bl := bl)
  rw [← eD] at this
  exact this
theorem x42 (hH : cH C X t T' N D) (h0 : D.1 (t + 1) 1 = ni pl.length) (hl : pl.length ≤ 16400) (hi : ∀ i, i < pl.length → D.1 (t + 2) i = md_nth pl i) {a : Nat} (ha : a < 2147483648) : sm_fe C 42 [.ref (t + 1), .int (ni a)] D = some (.inl (some (.int (md_nth pl a))), D) := by
  obtain ⟨T0, e, p, eD⟩ := cs_tr (X := X) hH.2.1 h0 hi
  have hH' : cH C X t T' N (ts t D (D.1 (t + 3)) (D.1 (t + 4))) := cH_ts hH
  have := c42 (T0 := T0) (e := e) (p := p) hH' hl ha
  rw [← eD] at this
  exact this
theorem x140 (hH : cH C X t T' N D) {k : Nat} (hk : k < 1061) : sm_fe C 140 [.ref t, .int (ni k)] D = some (.inl (some (.int (D.1 (t + 3) k))), D) := by
  have tr := (sm_tree_of hH.1 hH.2.1).1
  apply sw_eq
  refine sw_ge (f140 tr) ?_
  simp (disch := omega) only [sw_ite, sw_some, sw_gu, ni_lt, ni_le, ni_in, ni_nat]
  rw [if_neg (by omega), if_neg (by omega)]
  exact ⟨decide_eq_true hk, trivial⟩
theorem x143 (h : WT C X t T' N T m pl σ D) {k : Nat} (hk : k < 1061) : sm_fe C 143 [.ref t, .int (ni k)] D = some (.inl (some (.int (D.1 (t + 3) k + ni (md_run (md_nth (σ k)) true (σ k).length 0)))), D) := by
  obtain ⟨hH, p1, p2, p3, p4, hG⟩ := h
  have tr := (sm_tree_of hH.1 hH.2.1).1
  have hr := (sm_tree_of hH.1 hH.2.1).2
  obtain ⟨s1, s0, s2⟩ := p4 k hk
  apply sw_eq
  refine sw_ge (f143 tr) ?_
  simp only [sw_bi, x140 hH hk, a138 hH p1 p3 p4 hk, sw_some, sb_i]
  rcases s2 with s2 | ⟨a, s3, s4, s5⟩
  · rw [s2, List.length_nil, ni_z]
    refine sw_ge (f45 hr) ?_
    refine sw_ge (n45_3 hr) ?_
    rw [sw_ite, if_pos (Int32.le_refl _), sw_some, sb_i, sw_some, md_run, if_neg (fun z => by omega), ni_z]
  · rw [s3, ni_add]
    have := x45 hH p1 p2 p3 (a := a) (b := a + (σ k).length) (by omega) (by omega) (bl := true)
    rw [show md_b true = ni 1 from rfl] at this
    have e1 := md_run_sh (P := md_nth pl) (P' := md_nth (σ k)) (s := a) (n := (σ k).length) (bl := true) s5 (k := 0)
    rw [Nat.add_zero] at e1
    rw [this, sw_some, sb_i, sw_some, e1, ni_add]
theorem x144 (h : WT C X t T' N T m pl σ D) {k : Nat} (hk : k < 1061) : sm_fe C 144 [.ref t, .int (ni k)] D = some (.inl (some (.int (D.1 (t + 3) k + ni (md_rt (md_nth (σ k)) 0 (σ k).length)))), D) := by
  obtain ⟨hH, p1, p2, p3, p4, hG⟩ := h
  have tr := (sm_tree_of hH.1 hH.2.1).1
  have hr := (sm_tree_of hH.1 hH.2.1).2
  obtain ⟨s1, s0, s2⟩ := p4 k hk
  apply sw_eq
  refine sw_ge (f144 tr) ?_
  simp only [sw_bi, x140 hH hk, a138 hH p1 p3 p4 hk, sw_some, sb_i]
  rcases s2 with s2 | ⟨a, s3, s4, s5⟩
  · rw [s2, List.length_nil, ni_z]
    refine sw_ge (n144_14 tr) ?_
    rw [sw_ite, if_pos (Int32.le_refl _), sw_some, show md_rt (md_nth []) 0 0 = 0 from rfl, ni_z]
  · rw [s3, ni_add]
    generalize hl : σ k = l at *
    have loop : ∀ b, b ≤ l.length → sm_fx C 144 14 [.ref t, sm_junk, .int (ni a), .int (ni (a + b))] [] D = some (.inl (some (.int (ni (a + md_rt (md_nth l) 0 b)))), D) := by
      intro b
      induction b with
      | zero =>
        intro hb
        apply sw_eq
        refine sw_ge (n144_14 tr) ?_
        rw [Nat.add_zero, sw_ite, if_pos (Int32.le_refl _), sw_some]
        rfl
      | succ b ih =>
        intro hb
        apply sw_eq
        refine sw_ge (n144_14 tr) ?_
        simp (disch := omega) only [sw_ite, ni_le, sw_some, sw_bi, ni_sub (show 1 ≤ a + (b + 1) by omega), show a + (b + 1) - 1 = a + b from by omega, x42 hH p1 p2 p3 (show a + b < 2147483648 by omega), sb_i, c3, md_b_0, s5 b (show b < l.length by omega)]
        have ert : md_rt (md_nth l) 0 (b + 1) = if 0 < b + 1 ∧ md_bl (md_nth l b) = true then md_rt (md_nth l) 0 b else b + 1 := rfl
        rw [if_neg (by omega), ih (by omega), ert]
        cases hbl : md_bl (md_nth l b)
        · rw [if_pos rfl, if_neg (fun z => nomatch z.2)]
        · rw [if_neg (fun z => nomatch z), if_pos ⟨by omega, rfl⟩, sw_some]
    rw [loop l.length (Nat.le_refl _), sw_some, ni_add]
theorem w117c (h : WT C X t T' N T m pl σ D) {a : Nat} {l : List Int32} (hal : a + l.length ≤ pl.length) (s5 : ∀ j, j < l.length → md_nth pl (a + j) = md_nth l j) {v4 v5 v6 v7 : Int32} {b : Nat} (hb : b ≤ l.length) : ∀ (n q : Nat) (o : List Int32), q + n = b → o.length + n ≤ 20000 → ∀ R, sm_bi (sm_fe C 283 [.int (ni (a + b)), .int (v7 + ni 1)] (ws X D (o ++ md_sl (md_nth l) q b))) (fun x0 D1 => sm_fx C 117 21 [.ref (X + 20), .ref t, sm_junk, sm_junk, .int v4, .int v5, .int (v6 + (ni (a + b) - v7)), .int x0, sm_junk, sm_junk] [] D1) = some R → sm_fx C 117 83 [.ref (X + 20), .ref t, sm_junk, sm_junk, .int v4, .int v5, .int v6, .int v7, .int (ni (a + b)), .int (ni (a + q))] [] (ws X D o) = some R := by
  have hX := h.1.1
  have tr := (sm_tree_of h.1.1 h.1.2.1).1
  have hp := h.2.2.1
  intro n
  induction n with
  | zero =>
    intro q o hq ho R hR
    have e0 : md_sl (md_nth l) q b = [] := by unfold md_sl; rw [show b - q = 0 by omega]; rfl
    rw [e0, List.append_nil] at hR
    have : sw (sm_fx C 117 83 [.ref (X + 20), .ref t, sm_junk, sm_junk, .int v4, .int v5, .int v6, .int v7, .int (ni (a + b)), .int (ni (a + q))] [] (ws X D o)) (fun w E => (w, E) = R) := by
      refine sw_ge (n117_83 hX tr) ?_
      rw [if_pos (by rw [show q = b by omega]; exact Int32.le_refl _), hR]
      exact (sw_some (Q := _)).mpr rfl
    obtain ⟨w, E, h1, h2⟩ := this
    rw [h1, h2]
  | succ n ih =>
    intro q o hq ho R hR
    have ⟨hH, p1, p2, p3, p4, hG⟩ := WT_ws (o := o) h
    have es : md_sl (md_nth l) q b = [md_nth l q] ++ md_sl (md_nth l) (q + 1) b := by
      unfold md_sl
      rw [show b - q = (b - (q + 1)) + 1 by omega, List.range_succ_eq_map, List.map_cons, List.map_map]
      refine congrArg (_ :: ·) (List.map_congr_left (fun j _ => ?_))
      show md_nth l (q + (j + 1)) = _
      rw [show q + (j + 1) = q + 1 + j by omega]
    rw [es, ← List.append_assoc] at hR
    have := ih (q + 1) (o ++ [md_nth l q]) (by omega) (by rw [len1]; omega) R hR
    have : sw (sm_fx C 117 83 [.ref (X + 20), .ref t, sm_junk, sm_junk, .int v4, .int v5, .int v6, .int v7, .int (ni (a + b)), .int (ni (a + q))] [] (ws X D o)) (fun w E => (w, E) = R) := by
      refine sw_ge (n117_83 hX tr) ?_
      rw [sw_ite, if_neg (by rw [ni_le (by omega) (by omega)]; omega), sw_bi, x42 hH p1 p2 p3 (by omega), sw_some, sb_i, s5 q (by omega), sw_bv, w44 hX (by omega), sw_some, sb_v, ni_add, Nat.add_assoc, this, sw_some]
    obtain ⟨w, E, h1, h2⟩ := this
    rw [h1, h2]
theorem md_wd_gt {P : Nat → Int32} {n q : Nat} (h : q < n) : q < md_run P false n (md_run P true n q) ∧ md_run P false n (md_run P true n q) ≤ n := by
  have h1 := md_run_le (P := P) (bl := true) (n := n) (k := q) (by omega)
  have h2 := md_run_le (P := P) (bl := false) (n := n) (k := md_run P true n q) (by omega)
  refine ⟨?_, h2.2⟩
  rcases Nat.lt_or_ge q (md_run P true n q) with z | z
  · omega
  · have e : md_run P true n q = q := by omega
    rw [e]
    by_cases hb : md_bl (P q) = true
    · exfalso
      rw [md_run, if_pos ⟨h, hb⟩] at e
      have := md_run_le (P := P) (bl := true) (n := n) (k := q + 1) (by omega)
      omega
    · rw [md_run, if_pos ⟨h, by cases hh : md_bl (P q) <;> simp_all⟩]
      have := md_run_le (P := P) (bl := false) (n := n) (k := q + 1) (by omega)
      omega
theorem w117 (h : WT C X t T' N T m pl σ D) {k w : Nat} (hk : k < 1061) (hw : w ≤ 20000) (hl : o.length + (md_fold (σ k) w).length ≤ 20000) : sm_fe C 117 [.ref (X + 20), .ref t, .int (ni k), .int (ni w)] (ws X D o) = some (.inl none, ws X D (o ++ md_fold (σ k) w)) := by
  have hX := h.1.1
  have ht := h.1.2.1
  have tr := (sm_tree_of h.1.1 h.1.2.1).1
  have hp := h.2.2.1
  obtain ⟨s1, s0, s2⟩ := h.2.2.2.2.1 k hk
  have e3 : (ws X D o).1 (t + 3) k = D.1 (t + 3) k := ws_o (by omega) (by omega)
  apply sw_eq
  refine sw_ge (f117 hX tr) ?_
  simp only [sw_bi, x143 (WT_ws h) hk, x144 (WT_ws h) hk, sw_some, sb_i, e3]
  rcases s2 with s2 | ⟨a, s3, s4, s5⟩
  · rw [s2, List.length_nil]
    refine sw_ge (n117_21 hX tr) ?_
    rw [show md_run (md_nth []) true 0 0 = 0 from by rw [md_run, if_neg (fun z => by omega)], show md_rt (md_nth []) 0 0 = 0 from rfl, sw_ite, if_pos (Int32.le_refl _), sw_some]
    show _ = (Sum.inl none, ws X D (o ++ []))
    rw [List.append_nil]
  · rw [s3]
    unfold md_fold at hl ⊢
    generalize σ k = l at *
    have hrt := md_rt_le (P := md_nth l) (a := 0) l.length
    have hrl := md_run_le (P := md_nth l) (bl := true) (n := l.length) (k := 0) (by omega)
    generalize md_rt (md_nth l) 0 l.length = n at *
    generalize md_run (md_nth l) true l.length 0 = s at *
    rw [ni_add, ni_add]
    have s6 : ∀ j, j < n → md_nth pl (a + j) = md_nth l j := fun j hj => s5 j (by omega)
    have loop : ∀ (f q w : Nat) (o : List Int32), n - q ≤ f → q ≤ l.length → w + (l.length - q) ≤ 40000 → o.length + (md_fo (md_nth l) n s f w q).length ≤ 20000 → sm_fx C 117 21 [.ref (X + 20), .ref t, sm_junk, sm_junk, .int (ni (a + s)), .int (ni (a + n)), .int (ni w), .int (ni (a + q)), sm_junk, sm_junk] [] (ws X D o) = some (.inl none, ws X D (o ++ md_fo (md_nth l) n s f w q)) := by
      intro f
      induction f with
      | zero =>
        intro q w o hq hql hw ho
        apply sw_eq
        refine sw_ge (n117_21 hX tr) ?_
        rw [sw_ite, if_pos (by rw [ni_le (by omega) (by omega)]; omega), sw_some]
        unfold md_fo
        rw [List.append_nil]
      | succ f ih =>
        intro q w o hq hql hw ho
        by_cases hqn : q < n
        · have ⟨hH, p1, p2, p3, p4, hG⟩ := WT_ws (o := o) h
          obtain ⟨hb1, hb2⟩ := md_wd_gt (P := md_nth l) hqn
          have r1 := md_run_sh (P := md_nth pl) (P' := md_nth l) (s := a) (n := n) (bl := true) s6 (k := q)
          have r2 := md_run_sh (P := md_nth pl) (P' := md_nth l) (s := a) (n := n) (bl := false) s6 (k := md_run (md_nth l) true n q)
          have hr1 := md_run_le (P := md_nth l) (bl := true) (n := n) (k := q) (by omega)
          have x1 := x45 hH p1 p2 p3 (a := a + q) (b := a + n) (by omega) (by omega) (bl := true)
          have x2 := x45 hH p1 p2 p3 (a := a + md_run (md_nth l) true n q) (b := a + n) (by omega) (by omega) (bl := false)
          rw [r1] at x1
          rw [r2] at x2
          unfold md_fo at ho ⊢
          rw [if_pos hqn] at ho ⊢
          generalize md_run (md_nth l) false n (md_run (md_nth l) true n q) = b at *
          have e79 : ∀ (w : Nat) (o : List Int32), w + (l.length - q) ≤ 40000 → o.length + (md_sl (md_nth l) q b ++ md_fo (md_nth l) n s f (w + (b - q)) b).length ≤ 20000 → sm_fx C 117 79 [.ref (X + 20), .ref t, sm_junk, sm_junk, .int (ni (a + s)), .int (ni (a + n)), .int (ni w), .int (ni (a + q)), .int (ni (a + b)), sm_junk] [] (ws X D o) = some (.inl none, ws X D (o ++ (md_sl (md_nth l) q b ++ md_fo (md_nth l) n s f (w + (b - q)) b))) := by
            intro w o hw ho
            rw [List.length_append, md_sl_len] at ho
            apply sw_eq
            refine sw_ge (n117_79 hX tr) ?_
            rw [w117c h s4 s5 (b := b) (by omega) (b - q) q o (by omega) (by omega) _ (R := (.inl none, ws X D (o ++ (md_sl (md_nth l) q b ++ md_fo (md_nth l) n s f (w + (b - q)) b)))), sw_some]
            apply sw_eq
            rw [ni_add, sw_bi, c283 (by omega) (by omega), sw_some, sb_i, ni_sub (by omega), ni_add, show a + b - (a + q) = b - q by omega, Nat.max_eq_left (by omega), ih b _ _ (by omega) (by omega) (by omega) (by rw [List.length_append, md_sl_len]; omega), sw_some, List.append_assoc]
          apply sw_eq
          refine sw_ge (n117_21 hX tr) ?_
          rw [show ni 1 = md_b true from rfl, show ni 0 = md_b false from rfl]
          rw [sw_ite, if_neg (by rw [ni_le (by omega) (by omega)]; omega), sw_bi, x1, sw_some, sb_i, sw_bi, x2, sw_some, sb_i, ni_add, ni_sub (by omega), show w + (a + b) - (a + q) = w + (b - q) by omega, sw_ite, sw_ite]
          have l1 : (ni (a + q) ≤ ni (a + s)) = (a + q ≤ a + s) := ni_le (by omega) (by omega)
          have l2 : (ni (w + (b - q)) ≤ ni 78) = (w + (b - q) ≤ 78) := ni_le (by omega) (by omega)
          simp only [l1, l2]
          by_cases hc : s < q ∧ 78 < w + (b - q)
          · rw [if_pos hc] at ho ⊢
            rw [List.length_append] at ho
            have h2 : md_cr.length = 2 := rfl
            rw [if_neg (by omega), if_neg (by omega), sw_bv, w114 hX (by omega), sw_some, sb_v]
            have := e79 0 (o ++ md_cr) (by omega) (by rw [Nat.zero_add, List.length_append]; omega)
            rw [show md_b false = ni 0 from rfl, this, sw_some, Nat.zero_add, List.append_assoc]
          · rw [if_neg hc] at ho ⊢
            have := e79 w o hw ho
            by_cases h1 : a + q ≤ a + s
            · rw [if_pos h1, this, sw_some]
            · rw [if_neg h1, if_pos (by omega), this, sw_some]
        · apply sw_eq
          refine sw_ge (n117_21 hX tr) ?_
          rw [sw_ite, if_pos (by rw [ni_le (by omega) (by omega)]; omega), sw_some]
          unfold md_fo
          rw [if_neg hqn, List.append_nil]
    rw [loop l.length s w o (by omega) (by omega) (by omega) hl, sw_some]
end CWF
