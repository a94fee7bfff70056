section CSO
variable {C : sm_K} {X t N e p : Nat} {T T0 : Nat → Int32} {Q : (Option Value ⊕ Nat) → sm_D → Prop}
theorem md_rt_le {P : Nat → Int32} {a : Nat} : ∀ b, md_rt P a b ≤ b := by
  intro b
  induction b with
  | zero => exact Nat.le_refl _
  | succ b ih =>
    unfold md_rt
    split
    · omega
    · exact Nat.le_refl _
theorem md_run_end {P : Nat → Int32} {bl : Bool} {n k : Nat} (h : md_run P bl n k < n) (hk : k ≤ n) : md_bl (P (md_run P bl n k)) ≠ bl := by
  rw [md_run] at h ⊢
  split
  · next g =>
    rw [if_pos g] at h
    exact md_run_end h g.1
  · next g =>
    rw [if_neg g] at h
    exact fun z => g ⟨h, z⟩
termination_by n - k
theorem md_sub_len {P : Nat → Int32} {n : Nat} (hby : ∀ j, j < n → ∃ n, n < 256 ∧ P j = ni n) : ∀ (m k : Nat) (was : Bool), (md_sub P n m k was).length ≤ n - k := by
  intro m
  induction m with
  | zero => intro k was; exact Nat.zero_le _
  | succ m ih =>
    intro k was
    unfold md_sub
    by_cases hk : k < n
    · rw [if_pos hk]
      dsimp only
      have r1 := md_run_le (P := P) (bl := true) (n := n) (k := k) (by omega)
      have r2 := md_run_le (P := P) (bl := false) (n := n) (k := md_run P true n k) r1.2
      generalize md_run P true n k = w at *
      generalize md_run P false n w = z at *
      cases he : (if w < z then md_enc P w z else none) with
      | none =>
        dsimp only
        rw [List.length_append, List.length_append, md_sl_len, md_sl_len]
        have := ih z false
        omega
      | some cl =>
        obtain ⟨ch, l⟩ := cl
        dsimp only
        by_cases hwz : w < z
        · rw [if_pos hwz] at he
          obtain ⟨e1, -, -⟩ := md_enc_len (fun j h1 h2 => hby j (by omega)) he
          rw [List.length_append, List.length_append]
          have i1 := ih z true
          have i2 := md_pts_len (ch := ch) (l := l) l.length 0
          have i3 : (if was = true then ([] : List Int32) else md_sl P k w).length ≤ w - k := by
            split
            · exact Nat.zero_le _
            · rw [md_sl_len]; omega
          omega
        · rw [if_neg hwz] at he; cases he
    · rw [if_neg hk]; exact Nat.zero_le _
theorem c91 {D : sm_D} (h : cH C X t T N D) {f g : Nat → Int32} {σ : Nat → List Int32} {k : Nat} {pl : List Int32} (hk : k < 1061) (hS : SL f g pl σ) (hby : md_by (σ k)) (hpl : pl.length + (σ k).length ≤ 16400)
    (hok : ∀ D' f' g', cM X D D' → SL f' g' (pl ++ md_subj (σ k)) (up1 σ 1060 (md_subj (σ k))) → Q (.inl none) (cs X t T0 e (ts t D' f' g') p (pl ++ md_subj (σ k)))) :
    sw (sm_fe C 91 [.ref (X + 11), .ref t, .int (ni k)] (cs X t T0 e (ts t D f g) p pl)) Q := by
  have hX := h.1
  have ht := h.2.1
  have tr := (sm_tree_of hX ht).1
  have hr := (sm_tree_of hX ht).2
  obtain ⟨s1, s0, s2⟩ := hS k hk
  have fin : ∀ (D' : sm_D) (ys : List Int32), cM X D D' → ys = md_subj (σ k) → sw (sm_bv (sm_fe C 131 [.ref t, .int (ni 1060), .int (ni pl.length)] (cs X t T0 e (ts t D' f g) p (pl ++ ys))) (fun D1 => some (.inl none, D1))) Q := by
    intro D' ys hD hys
    rw [sw_bv, c131 (hD.cH h) (by omega) (by rw [List.length_append]; omega), sw_some, List.length_append, Nat.add_sub_cancel_left]
    simp only [sb_v, sw_some]
    rw [hys]
    exact hok D' _ _ hD (hS.set (ys := md_subj (σ k)) 1060)
  rcases s2 with s2 | ⟨a, s3, s4, s5⟩
  · -- an empty text
    have e0 : md_subj (σ k) = [] := by rw [s2]; rfl
    have x0 : ∀ x : Int32, x + ni 0 = x := fun x => Int32.add_zero x
    refine sw_ge (f91 hX tr) ?_
    have h143 : sm_fe C 143 [.ref t, .int (ni k)] (cs X t T0 e (ts t D f g) p pl) = some (.inl (some (.int (f k))), cs X t T0 e (ts t D f g) p pl) := by
      apply sw_eq
      refine sw_ge (f143 tr) ?_
      simp only [sw_bi, c140 h hk, c138 h hk hS, sw_some, sb_i, s2, List.length_nil, x0]
      refine sw_ge (f45 hr) ?_
      refine sw_ge (n45_3 hr) ?_
      rw [sw_ite, if_pos (Int32.le_refl _), sw_some]
      simp only [sb_i, sw_some]
    have h144 : sm_fe C 144 [.ref t, .int (ni k)] (cs X t T0 e (ts t D f g) p pl) = some (.inl (some (.int (f k))), cs X t T0 e (ts t D f g) p pl) := by
      apply sw_eq
      refine sw_ge (f144 tr) ?_
      simp only [sw_bi, c140 h hk, c138 h hk hS, sw_some, sb_i, s2, List.length_nil, x0]
      refine sw_ge (n144_14 tr) ?_
      rw [sw_ite, if_pos (Int32.le_refl _), sw_some]
    simp only [sw_bi, h143, h144, sw_some, sb_i, cs_p ht]
    refine sw_ge (n91_28 hX tr) ?_
    rw [sw_ite, if_pos (Int32.le_refl _)]
    have := fin D [] (cM.refl D) e0.symm
    rw [List.append_nil] at this
    exact this
  · have hlen := hpl
    generalize hl : σ k = l at *
    have hN16 : pl.length ≤ 16400 := by omega
    have PP : ∀ (ys : List Int32) (j : Nat), j < l.length → md_nth (pl ++ ys) (a + j) = md_nth l j := fun ys j hj => by
      rw [md_nth_app (by omega)]; exact s5 j hj
    have P0 : ∀ (j : Nat), j < l.length → md_nth pl (a + j) = md_nth l j := fun j hj => s5 j hj
    have hbyl : ∀ j, j < l.length → ∃ n, n < 256 ∧ md_nth l j = ni n := fun j hj => by
      rw [md_nth_get hj]; exact hby _ (List.getElem_mem hj)
    have h143 : sm_fe C 143 [.ref t, .int (ni k)] (cs X t T0 e (ts t D f g) p pl) = some (.inl (some (.int (ni (a + md_run (md_nth l) true l.length 0)))), cs X t T0 e (ts t D f g) p pl) := by
      apply sw_eq
      refine sw_ge (f143 tr) ?_
      simp only [sw_bi, c140 h hk, c138 h hk hS, sw_some, sb_i, s3, hl, ni_add]
      have := c45' (T0 := T0) (e := e) (p := p) (cH_ts (f := f) (g := g) h) hN16 (a := a) (b := a + l.length) (by omega) (by omega) (bl := true)
      rw [show md_b true = ni 1 from rfl] at this
      rw [this, sw_some]
      simp only [sb_i, sw_some]
      have e1 := md_run_sh (P := md_nth pl) (P' := md_nth l) (s := a) (n := l.length) (bl := true) P0 (k := 0)
      rw [Nat.add_zero] at e1
      rw [e1]
    have h144 : sm_fe C 144 [.ref t, .int (ni k)] (cs X t T0 e (ts t D f g) p pl) = some (.inl (some (.int (ni (a + md_rt (md_nth l) 0 l.length)))), cs X t T0 e (ts t D f g) p pl) := by
      have loop : ∀ b, b ≤ l.length → sm_fx C 144 14 [.ref t, sm_junk, .int (ni a), .int (ni (a + b))] [] (cs X t T0 e (ts t D f g) p pl) = some (.inl (some (.int (ni (a + md_rt (md_nth l) 0 b)))), cs X t T0 e (ts t D f g) p pl) := by
        intro b
        induction b with
        | zero =>
          intro hb
          apply sw_eq
          refine sw_ge (n144_14 tr) ?_
          rw [Nat.add_zero, sw_ite, if_pos (Int32.le_refl _), sw_some]
          rfl
        | succ b ih =>
          intro hb
          apply sw_eq
          refine sw_ge (n144_14 tr) ?_
          simp (disch := omega) only [sw_ite, ni_le, sw_some, sw_bi, ni_sub (show 1 ≤ a + (b + 1) by omega), show a + (b + 1) - 1 = a + b from by omega, c42 (cH_ts (f := f) (g := g) h) hN16 (show a + b < 2147483648 by omega), sb_i, c3, md_b_0, P0 b (show b < l.length by omega)]
          have ert : md_rt (md_nth l) 0 (b + 1) = if 0 < b + 1 ∧ md_bl (md_nth l b) = true then md_rt (md_nth l) 0 b else b + 1 := rfl
          rw [if_neg (by omega), ih (by omega), ert]
          cases hbl : md_bl (md_nth l b)
          · rw [if_pos rfl, if_neg (fun z => nomatch z.2)]
          · rw [if_neg (fun z => nomatch z), if_pos ⟨by omega, rfl⟩, sw_some]
      apply sw_eq
      refine sw_ge (f144 tr) ?_
      simp only [sw_bi, c140 h hk, c138 h hk hS, sw_some, sb_i, s3, hl, ni_add]
      rw [loop l.length (Nat.le_refl _), sw_some]
    have hto := md_rt_le (P := md_nth l) (a := 0) l.length
    have loop : ∀ (m q : Nat) (was : Bool) (D' : sm_D) (ys : List Int32), cM X D D' → l.length - q ≤ m → q ≤ l.length → ys ++ md_sub (md_nth l) (md_rt (md_nth l) 0 l.length) m q was = md_subj l → pl.length + ys.length + (l.length - q) ≤ 16400 → sw (sm_fx C 91 28 [.ref (X + 11), .ref t, sm_junk, .ref (t + 1), .int (ni (a + q)), .int (ni (a + md_rt (md_nth l) 0 l.length)), .int (ni pl.length), .int (md_b was), sm_junk, sm_junk, sm_junk, sm_junk] [] (cs X t T0 e (ts t D' f g) p (pl ++ ys))) Q := by
      generalize md_rt (md_nth l) 0 l.length = to at *
      intro m
      induction m with
      | zero =>
        intro q was D' ys hD hm hq heq hb
        refine sw_ge (n91_28 hX tr) ?_
        rw [sw_ite, if_pos (by rw [ni_le (by omega) (by omega)]; omega)]
        exact fin D' ys hD (by rw [← heq]; unfold md_sub; rw [List.append_nil])
      | succ m ih =>
        intro q was D' ys hD hm hq heq hb
        have hH := hD.cH h
        refine sw_ge (n91_28 hX tr) ?_
        by_cases hqt : q < to
        · have hpl1 : (pl ++ ys).length ≤ 16400 := by rw [List.length_append]; omega
          have PT : ∀ (zs : List Int32) (j : Nat), j < to → md_nth (pl ++ zs) (a + j) = md_nth l j := fun zs j hj => PP zs j (by omega)
          have r1 := md_run_le (P := md_nth l) (bl := true) (n := to) (k := q) (by omega)
          have r2 := md_run_le (P := md_nth l) (bl := false) (n := to) (k := md_run (md_nth l) true to q) r1.2
          have w1 : md_run (md_nth (pl ++ ys)) true (a + to) (a + q) = a + md_run (md_nth l) true to q := md_run_sh (PT ys)
          have w2 : md_run (md_nth (pl ++ ys)) false (a + to) (a + md_run (md_nth l) true to q) = a + md_run (md_nth l) false to (md_run (md_nth l) true to q) := md_run_sh (PT ys)
          have hzq : q < md_run (md_nth l) false to (md_run (md_nth l) true to q) := by
            rcases Nat.lt_or_ge q (md_run (md_nth l) true to q) with g1 | g1
            · omega
            · have g2 : md_run (md_nth l) true to q = q := by omega
              have g3 := md_run_end (P := md_nth l) (bl := true) (n := to) (k := q) (by omega) (by omega)
              rw [g2] at g3 ⊢
              rw [md_run, if_pos ⟨hqt, by cases hx : md_bl (md_nth l q); rfl; exact absurd hx g3⟩]
              have := md_run_le (P := md_nth l) (bl := false) (n := to) (k := q + 1) (by omega)
              omega
          unfold md_sub at heq
          rw [if_pos hqt] at heq
          dsimp only at heq
          rw [sw_ite, if_neg (by rw [ni_le (by omega) (by omega)]; omega), show ni 1 = md_b true from rfl, sw_bi, c45' (cH_ts hH) hpl1 (by omega) (by omega), w1, sw_some]
          show sw (sm_bi _ _) Q
          rw [show ni 0 = md_b false from rfl, sw_bi, c45' (cH_ts hH) hpl1 (by omega) (by omega), w2, sw_some]
          show sw (sm_bi _ _) Q
          generalize md_run (md_nth l) true to q = w at *
          generalize md_run (md_nth l) false to w = z at *
          have HE : md_enc (md_nth (pl ++ ys)) (a + w) (a + z) = md_enc (md_nth l) w z := md_enc_sh (fun j hj => PT ys j (by omega))
          -- behind the word
          have h122 : ∀ (b : Bool) (D2 : sm_D) (zs : List Int32), cM X D D2 → (ys ++ zs) ++ md_sub (md_nth l) to m z b = md_subj l → zs.length ≤ z - q → sw (sm_fx C 91 122 [.ref (X + 11), .ref t, sm_junk, .ref (t + 1), .int (ni (a + q)), .int (ni (a + to)), .int (ni pl.length), sm_junk, sm_junk, .int (ni (a + z)), sm_junk, .int (md_b b)] [] (cs X t T0 e (ts t D2 f g) p (pl ++ (ys ++ zs)))) Q := by
            intro b D2 zs hD2 heq2 hlz
            refine sw_ge (n91_122 hX tr) ?_
            simp (disch := omega) only [sw_bi, ni_add, c283, sw_some, sb_i]
            rw [show max (a + z) (a + q + 1) = a + z from by omega]
            exact ih z b D2 (ys ++ zs) hD2 (by omega) (by omega) heq2 (by rw [List.length_append]; omega)
          have h99 : ∀ (b : Bool) (ch : Int32) (D2 : sm_D) (us : List Int32), cM X D D2 → us.length ≤ w - q → (b = false → (ys ++ (us ++ md_sl (md_nth l) w z)) ++ md_sub (md_nth l) to m z false = md_subj l) → (b = true → ∃ c l2, ch = ni c ∧ c < 3 ∧ MT X D2 l2 ∧ md_by l2 ∧ l2.length ≤ z - w ∧ (ys ++ (us ++ md_pts c l2 l2.length 0)) ++ md_sub (md_nth l) to m z true = md_subj l) → sw (sm_fx C 91 99 [.ref (X + 11), .ref t, sm_junk, .ref (t + 1), .int (ni (a + q)), .int (ni (a + to)), .int (ni pl.length), sm_junk, .int (ni (a + w)), .int (ni (a + z)), .int ch, .int (md_b b)] [] (cs X t T0 e (ts t D2 f g) p (pl ++ (ys ++ us)))) Q := by
            intro b ch D2 us hD2 hul hbf hbt
            have hH2 := hD2.cH h
            have hul2 : (pl ++ (ys ++ us)).length = pl.length + (ys.length + us.length) := by rw [List.length_append, List.length_append]
            refine sw_ge (n91_99 hX tr) ?_
            simp only [sw_ite, md_b_0, sw_bv]
            cases b
            · rw [if_pos rfl, c97' (cH_ts hH2) (by rw [hul2]; omega) (by rw [hul2]; omega) (by omega), sw_some]
              simp only [sb_v]
              rw [md_sl_sh (fun j hj => PT (ys ++ us) j (by omega))]
              have := h122 false D2 (us ++ md_sl (md_nth l) w z) hD2 (hbf rfl) (by rw [List.length_append, md_sl_len]; omega)
              rw [show pl ++ (ys ++ (us ++ md_sl (md_nth l) w z)) = pl ++ (ys ++ us) ++ md_sl (md_nth l) w z from by simp] at this
              exact this
            · rw [if_neg (fun z => nomatch z)]
              obtain ⟨c, l2, hc, hc3, hM2, hby2, hl2, heq2⟩ := hbt rfl
              rw [hc]
              refine sw_ge (f98 hX hr) ?_
              have hM3 : MT X (ts t D2 f g) l2 := ⟨by rw [ts_o (by omega) (by omega)]; exact hM2.1, hM2.2.1, fun i hi => by rw [ts_o (by omega) (by omega)]; exact hM2.2.2 i hi⟩
              rw [c98 (cH_ts hH2) hM3 hby2 hc3 l2.length 0 _ (by omega) (by omega) (by rw [hul2]; omega), sw_some]
              simp only [sb_v]
              have hpl3 := md_pts_len (ch := c) (l := l2) l2.length 0
              have := h122 true D2 (us ++ md_pts c l2 l2.length 0) hD2 heq2 (by rw [List.length_append]; omega)
              rw [show pl ++ (ys ++ (us ++ md_pts c l2 l2.length 0)) = pl ++ (ys ++ us) ++ md_pts c l2 l2.length 0 from by simp] at this
              exact this
          have h91 : ∀ (b : Bool) (ch : Int32) (D2 : sm_D), cM X D D2 → (b = false → (ys ++ (md_sl (md_nth l) q w ++ md_sl (md_nth l) w z)) ++ md_sub (md_nth l) to m z false = md_subj l) → (b = true → ∃ c l2, ch = ni c ∧ c < 3 ∧ MT X D2 l2 ∧ md_by l2 ∧ l2.length ≤ z - w ∧ (ys ++ (md_sl (md_nth l) q w ++ md_pts c l2 l2.length 0)) ++ md_sub (md_nth l) to m z true = md_subj l) → sw (sm_fx C 91 91 [.ref (X + 11), .ref t, sm_junk, .ref (t + 1), .int (ni (a + q)), .int (ni (a + to)), .int (ni pl.length), sm_junk, .int (ni (a + w)), .int (ni (a + z)), .int ch, .int (md_b b)] [] (cs X t T0 e (ts t D2 f g) p (pl ++ ys))) Q := by
            intro b ch D2 hD2 hbf hbt
            refine sw_ge (n91_91 hX tr) ?_
            rw [sw_bv, c97' (cH_ts (hD2.cH h)) (by rw [List.length_append]; omega) (by rw [List.length_append]; omega) (by omega), sw_some]
            simp only [sb_v]
            rw [md_sl_sh (fun j hj => PT ys j (by omega)), List.append_assoc]
            exact h99 b ch D2 (md_sl (md_nth l) q w) hD2 (by rw [md_sl_len]; omega) hbf hbt
          rw [sw_bi]
          refine c92 (cH_ts hH) hpl1 (by omega) (by omega) (fun j h1 h2 => ?_) (fun ch l2 he D2 hD2 hM2 => ?_) (fun he D2 hD2 => ?_)
          · obtain ⟨j', rfl⟩ : ∃ j', j = a + j' := ⟨j - a, by omega⟩
            rw [PT ys j' (by omega)]
            exact hbyl j' (by omega)
          · -- an encoded word
            have e2 : ∃ D3, cM X D' D3 ∧ D2 = ts t D3 f g := by
              refine ⟨(fun a j => if a = X + 10 ∨ a = X + 12 ∨ a = X + 13 then D2.1 a j else D'.1 a j, D2.2), ⟨hD2.1, fun a j h1 h2 h3 => if_neg (fun z => by omega)⟩, ?_⟩
              refine Prod.ext ?_ rfl
              funext b j
              unfold ts
              dsimp only
              by_cases hb3 : b = t + 3
              · rw [if_pos hb3, hD2.2 b j (by omega) (by omega) (by omega), hb3, ts_3]
              · rw [if_neg hb3]
                by_cases hb4 : b = t + 4
                · rw [if_pos hb4, hD2.2 b j (by omega) (by omega) (by omega), hb4, ts_4]
                · rw [if_neg hb4]
                  by_cases hb : b = X + 10 ∨ b = X + 12 ∨ b = X + 13
                  · rw [if_pos hb]
                  · rw [if_neg hb, hD2.2 b j (by omega) (by omega) (by omega), ts_o hb3 hb4]
            obtain ⟨D3, hD3, rfl⟩ := e2
            have hMT : MT X D3 l2 := ⟨by have := hM2.1; rw [ts_o (by omega) (by omega)] at this; exact this, hM2.2.1, fun i hi => by have := hM2.2.2 i hi; rw [ts_o (by omega) (by omega)] at this; exact this⟩
            rw [HE] at he
            obtain ⟨l3, b3, c3⟩ := md_enc_len (fun j h1 h2 => hbyl j (by omega)) he
            have hwz : w < z := by omega
            rw [if_pos hwz, he] at heq
            dsimp only at heq
            have hDD := hD.trans hD3
            simp only [sb_i, sw_ite]
            rw [if_neg (by rw [ni_ne_k (by omega)]; exact id)]
            refine sw_ge (n91_79 hX tr) ?_
            simp only [sw_ite, ni_10, if_false, md_b_0]
            cases was
            · rw [if_pos rfl]
              refine h91 true (ni ch) D3 hDD (fun z => nomatch z) (fun _ => ⟨ch, l2, rfl, c3, hMT, b3, by omega, ?_⟩)
              rw [← heq]
              simp
            · rw [if_neg (fun z => nomatch z)]
              have := h99 true (ni ch) D3 [] hDD (Nat.zero_le _) (fun z => nomatch z) (fun _ => ⟨ch, l2, rfl, c3, hMT, b3, by omega, by rw [← heq]; simp⟩)
              rw [List.append_nil] at this
              exact this
          · have e2 : ∃ D3, cM X D' D3 ∧ D2 = ts t D3 f g := by
              refine ⟨(fun a j => if a = X + 10 ∨ a = X + 12 ∨ a = X + 13 then D2.1 a j else D'.1 a j, D2.2), ⟨hD2.1, fun a j h1 h2 h3 => if_neg (fun z => by omega)⟩, ?_⟩
              refine Prod.ext ?_ rfl
              funext b j
              unfold ts
              dsimp only
              by_cases hb3 : b = t + 3
              · rw [if_pos hb3, hD2.2 b j (by omega) (by omega) (by omega), hb3, ts_3]
              · rw [if_neg hb3]
                by_cases hb4 : b = t + 4
                · rw [if_pos hb4, hD2.2 b j (by omega) (by omega) (by omega), hb4, ts_4]
                · rw [if_neg hb4]
                  by_cases hb : b = X + 10 ∨ b = X + 12 ∨ b = X + 13
                  · rw [if_pos hb]
                  · rw [if_neg hb, hD2.2 b j (by omega) (by omega) (by omega), ts_o hb3 hb4]
            obtain ⟨D3, hD3, rfl⟩ := e2
            have hDD := hD.trans hD3
            rw [HE] at he
            have he2 : (if w < z then md_enc (md_nth l) w z else none) = none := by split; exact he; rfl
            rw [he2] at heq
            dsimp only at heq
            simp only [sb_i, sw_ite, if_true]
            refine sw_ge (n91_79 hX tr) ?_
            simp only [sw_ite, if_true]
            refine h91 false (sm_k (-1)) D3 hDD (fun _ => ?_) (fun z => nomatch z)
            rw [← heq]
            simp
        · rw [sw_ite, if_pos (by rw [ni_le (by omega) (by omega)]; omega)]
          exact fin D' ys hD (by rw [← heq]; unfold md_sub; rw [if_neg hqt, List.append_nil])
    refine sw_ge (f91 hX tr) ?_
    simp only [sw_bi, h143, h144, sw_some, sb_i, cs_p ht]
    have r0 := md_run_le (P := md_nth l) (bl := true) (n := l.length) (k := 0) (Nat.zero_le _)
    have := loop l.length (md_run (md_nth l) true l.length 0) false D [] (cM.refl D) (by omega) r0.2 (by rw [List.nil_append]; rfl) (by rw [List.length_nil]; omega)
    rw [List.append_nil] at this
    exact this
end CSO
