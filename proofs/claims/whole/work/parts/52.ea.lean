/-! ===== codes ===== -/
def md_B64 : String := "ABCDEFGHIJKLMNOPQRSTUVWXYZabcdefghijklmnopqrstuvwxyz0123456789+/"
def md_HEX : String := "0123456789ABCDEF"
theorem md_six_ix : ∀ n, n < 256 → md_ix (md_w md_B64) (ni n) = md_six (ni n) := by decide +kernel
theorem md_hex_ix : ∀ n, n < 256 → md_ix (md_w md_HEX) (ni n) = md_hex (ni n) := by decide +kernel
theorem md_hex_in : ∀ n, n < 256 → ((md_w md_HEX).contains (ni n)) = decide (md_hex (ni n) ≠ sm_k (-1)) := by decide +kernel
theorem md_six_neg : ∀ n, n < 256 → (md_six (ni n) < ni 0 ↔ md_six (ni n) = sm_k (-1)) := by decide +kernel
/-- the state of the decoder of base64 -/
def kst (X : Nat) (D : sm_D) (v h q : Int32) : sm_D := (fun a i => if a = X + 10 then (if i = 1 then v else if i = 2 then h else if i = 3 then q else D.1 a i) else D.1 a i, D.2)
section CCD
variable {C : sm_K} {X t N e : Nat} {T : Nat → Int32} {D : sm_D} {Q : (Option Value ⊕ Nat) → sm_D → Prop}
theorem kst_1 {v h q : Int32} : (kst X D v h q).1 (X + 10) 1 = v := by unfold kst; simp
theorem kst_2 {v h q : Int32} : (kst X D v h q).1 (X + 10) 2 = h := by unfold kst; simp
theorem kst_3 {v h q : Int32} : (kst X D v h q).1 (X + 10) 3 = q := by unfold kst; simp
theorem kst_o {v h q : Int32} {a i : Nat} (ha : a ≠ X + 10) : (kst X D v h q).1 a i = D.1 a i := by unfold kst; dsimp only; rw [if_neg ha]
theorem kst_s1 {v h q w : Int32} : sm_dI (kst X D v h q) (X + 10) 1 w = kst X D w h q := by
  refine Prod.ext ?_ rfl
  funext a i
  simp only [sm_up, kst]
  by_cases ha : a = X + 10
  · by_cases h1 : i = 1 <;> simp [ha, h1]
  · simp [ha]
theorem kst_s2 {v h q w : Int32} : sm_dI (kst X D v h q) (X + 10) 2 w = kst X D v w q := by
  refine Prod.ext ?_ rfl
  funext a i
  simp only [sm_up, kst]
  by_cases ha : a = X + 10
  · by_cases h1 : i = 2 <;> simp [ha, h1]
  · simp [ha]
theorem kst_s3 {v h q w : Int32} : sm_dI (kst X D v h q) (X + 10) 3 w = kst X D v h w := by
  refine Prod.ext ?_ rfl
  funext a i
  simp only [sm_up, kst]
  by_cases ha : a = X + 10
  · by_cases h1 : i = 3 <;> simp [ha, h1]
  · simp [ha]
theorem cF_kst {v h q : Int32} : cF X t D (kst X D v h q) := by
  refine ⟨rfl, fun b hb => ?_, fun _ _ => rfl⟩
  funext j
  unfold cR at hb
  exact kst_o (by omega)
theorem cH_kst {v h q : Int32} (g : cH C X t T N D) : cH C X t T N (kst X D v h q) := by
  obtain ⟨h1, h2, h3, h4, h5, h6, h7⟩ := g
  exact ⟨h1, h2, h3, h4, by rw [kst_o (by omega)]; exact h5, fun i hi => by rw [kst_o (by omega)]; exact h6 i hi, h7⟩
theorem kst_kst {v h q v' h' q' : Int32} : kst X (kst X D v h q) v' h' q' = kst X D v' h' q' := by
  refine Prod.ext ?_ rfl
  funext a i
  simp only [kst]
  by_cases ha : a = X + 10
  · simp only [ha, if_true]
    by_cases h1 : i = 1
    · simp [h1]
    · by_cases h2 : i = 2
      · simp [h2]
      · by_cases h3 : i = 3
        · simp [h3]
        · simp [h1, h2, h3]
  · simp [ha]
/-- a row that items are added to, apart from the decoder's state -/
def rowA (C : sm_K) (X r nr : Nat) (A : List Int32 → sm_D → sm_D) (P : sm_D → Prop) : Prop :=
  sm_row C r nr ∧ nr < 2147483648 ∧ (∀ xs D i v, sm_dI (A xs D) (X + 10) i v = A xs (sm_dI D (X + 10) i v)) ∧ (∀ xs D i, (A xs D).1 (X + 10) i = D.1 (X + 10) i) ∧ (∀ xs D c, P D → xs.length < nr → sm_fe C 44 [.ref r, .int c] (A xs D) = some (.inl none, A (xs ++ [c]) D)) ∧ (∀ D v h q, P D → P (kst X D v h q))
theorem md_tk_len {v : Int32} {h pd : Nat} {c : Int32} {v' : Int32} {h' pd' : Nat} {ys : List Int32} (hh : h ≤ 3) (hk : md_tk v h pd c = .ok (v', h', pd', ys)) : h' ≤ 3 ∧ (pd' = pd ∨ (pd' = pd + 1 ∧ 2 ≤ h)) ∧ ys.length ≤ 3 ∧ (ys ≠ [] → h = 3 ∧ h' = 0) ∧ (pd' ≠ pd → c = ni 61) ∧ (ys = [] → h' = h + 1 ∨ 3 ≤ pd') := by
  unfold md_tk at hk
  split at hk
  · cases hk
  · next g1 =>
    split at hk
    · cases hk
    · dsimp only at hk
      have hc2 : (if c = ni 61 then pd + 1 else pd) = pd ∨ ((if c = ni 61 then pd + 1 else pd) = pd + 1 ∧ 2 ≤ h) := by
        by_cases hc : c = ni 61
        · rw [if_pos hc]
          exact Or.inr ⟨rfl, Nat.le_of_not_lt (fun z => g1 (Or.inl ⟨hc, z⟩))⟩
        · rw [if_neg hc]; exact Or.inl rfl
      have hc3 : (if c = ni 61 then pd + 1 else pd) ≠ pd → c = ni 61 := by
        intro z
        by_cases hc : c = ni 61
        · exact hc
        · rw [if_neg hc] at z; exact absurd rfl z
      split at hk
      · next h3 =>
        cases hk
        refine ⟨by omega, hc2, by rw [List.length_take]; simp only [List.length_cons, List.length_nil]; omega, fun _ => ⟨h3, rfl⟩, hc3, fun z => ?_⟩
        right
        have hl := congrArg List.length z
        rw [List.length_take] at hl
        simp only [List.length_cons, List.length_nil] at hl
        omega
      · next h3 =>
        cases hk
        exact ⟨by omega, hc2, by simp, fun z => absurd rfl z, hc3, fun _ => Or.inl rfl⟩
theorem st_b64 (h : tx C) : st C (C.1.1 8) (md_w md_B64) := st_tx h 8 rfl rfl (by decide) (by decide)
theorem st_hex (h : tx C) : st C (C.1.1 9) (md_w md_HEX) := st_tx h 9 rfl rfl (by decide) (by decide)
theorem k6 : (ni 6 &&& 31 : Int32) = ni 6 := by decide
theorem c83 {r nr : Nat} {A : List Int32 → sm_D → sm_D} {P : sm_D → Prop} (hX : sm_Lay C X) (hx : tx C) (hA : rowA C X r nr A P) (hP : P D) {v : Int32} {h pd n : Nat} {xs : List Int32} (hh : h ≤ 3) (hpd : pd ≤ 2) (hn : n < 256) (hl : xs.length + 3 ≤ nr) :
    sm_fe C 83 [.ref (X + 10), .int (ni n), .ref r] (A xs (kst X D v (ni h) (ni pd))) = (match md_tk v h pd (ni n) with
      | .ok (v', h', pd', ys) => some (.inl (some (.int (ni 0))), A (xs ++ ys) (kst X D v' (ni h') (ni pd')))
      | .error b => some (.inl (some (.int (ni (if b then 2 else 1)))), A xs (kst X D v (ni h) (ni pd)))) := by
  obtain ⟨hr, hnr, A1, A2, A3, A4⟩ := hA
  have hs := st_b64 hx
  have e16 := md_c16' n hn
  -- from the place where the sign may stand
  have h94 : ∀ (pad : Bool), pad = decide (ni n = ni 61) → ∀ Q : (Option Value ⊕ Nat) → sm_D → Prop,
      (let v' := (v <<< ni 6) ||| (if ni n = ni 61 then ni 0 else md_six (ni n))
       let pd' := if ni n = ni 61 then pd + 1 else pd
       if h = 3 then Q (.inl (some (.int (ni 0)))) (A (xs ++ [(v' >>> ni 16) &&& ni 255, (v' >>> ni 8) &&& ni 255, v' &&& ni 255].take (3 - pd')) (kst X D (ni 0) (ni 0) (ni pd')))
       else Q (.inl (some (.int (ni 0)))) (A xs (kst X D v' (ni (h + 1)) (ni pd')))) →
      sw (sm_fx C 83 94 [.ref (X + 10), sm_junk, .ref r, .int (md_b pad), .int (md_six (ni n)), sm_junk, sm_junk] [] (A xs (kst X D v (ni h) (ni pd)))) Q := by
    intro pad hpad Q hQ
    dsimp only at hQ
    have h155 : ∀ (w : Int32) (q : Nat), q ≤ 3 → h = 3 → Q (.inl (some (.int (ni 0)))) (A (xs ++ [(w >>> ni 16) &&& ni 255, (w >>> ni 8) &&& ni 255, w &&& ni 255].take (3 - q)) (kst X D (ni 0) (ni 0) (ni q))) → sw (sm_fx C 83 155 [.ref (X + 10), sm_junk, .ref r, sm_junk, sm_junk, sm_junk, .int (ni 0)] [] (A xs (kst X D w (ni 4) (ni q)))) Q := by
      intro w q hq h3 hQ
      have key : ∀ (m k : Nat), k + m = 3 - q → ∀ ys, ys = ([(w >>> ni 16) &&& ni 255, (w >>> ni 8) &&& ni 255, w &&& ni 255].take k) → sw (sm_fx C 83 155 [.ref (X + 10), sm_junk, .ref r, sm_junk, sm_junk, sm_junk, .int (ni k)] [] (A (xs ++ ys) (kst X D w (ni 4) (ni q)))) Q := by
        intro m
        induction m with
        | zero =>
          intro k hk ys hys
          refine sw_ge (n83_155 hX hr hx.1) ?_
          simp (disch := omega) only [sw_ite, A2, kst_3, ni_sub hq, ni_le, sw_some]
          rw [if_pos (by omega), A1, kst_s1, A1, kst_s2, hys, show k = 3 - q from by omega]
          exact hQ
        | succ m ih =>
          intro k hk ys hys
          have hyl : ys.length ≤ k := by rw [hys, List.length_take]; omega
          refine sw_ge (n83_155 hX hr hx.1) ?_
          simp (disch := omega) only [sw_ite, A2, kst_3, kst_1, ni_sub hq, ni_le, ni_add, sw_bv]
          rw [if_neg (by omega), A3 _ _ _ (A4 _ _ _ _ hP) (by rw [List.length_append]; omega), sw_some]
          simp only [sb_v, List.append_assoc]
          refine ih (k + 1) (by omega) _ ?_
          rw [hys]
          match k, (show k < 3 by omega) with
          | 0, _ => rfl
          | 1, _ => rfl
          | 2, _ =>
            show _ = [(w >>> ni 16) &&& ni 255, (w >>> ni 8) &&& ni 255, w &&& ni 255]
            have : ((ni 16 - ni 8 * ni 2) &&& 31 : Int32) = 0 := by decide
            rw [this, Int32.shiftRight_zero]
            rfl
      have := key (3 - q) 0 (by omega) [] rfl
      rw [List.append_nil] at this
      exact this
    have h112 : ∀ (u : Int32) (q : Nat), q = (if ni n = ni 61 then pd + 1 else pd) → u = (if ni n = ni 61 then ni 0 else md_six (ni n)) → sw (sm_fx C 83 112 [.ref (X + 10), sm_junk, .ref r, .int (md_b pad), sm_junk, sm_junk, sm_junk] [.int u, .int (v <<< ni 6), .ref (X + 10)] (A xs (kst X D v (ni h) (ni pd)))) Q := by
      intro u q hq hu
      rw [← hu, ← hq] at hQ
      have hq3 : q ≤ 3 := by rw [hq]; split <;> omega
      have h130 : ∀ s2 : Int32, ni pd + s2 = ni q → sw (sm_fx C 83 130 [.ref (X + 10), sm_junk, .ref r, sm_junk, sm_junk, sm_junk, sm_junk] [.int s2, .int (ni pd), .ref (X + 10)] (A xs (kst X D (v <<< ni 6 ||| u) (ni h) (ni pd)))) Q := by
        intro s2 hs2
        refine sw_ge (n83_130 hX hr hx.1) ?_
        have u23 : ∀ (F : Nat → Nat → Int32) (w : Int32), sm_up F (X + 10) 3 w (X + 10) 2 = F (X + 10) 2 := fun F w => up_ne (by omega)
        simp only [sw_ite, sw_some, up_eq, u23, A2, kst_2, ni_add, hs2]
        rw [A1, kst_s3, A1, kst_s2]
        by_cases h3 : h = 3
        · rw [if_pos (by rw [h3])]
          rw [if_pos h3] at hQ
          subst h3
          exact h155 _ q hq3 rfl hQ
        · rw [if_neg (by rw [ni_inj (by omega) (by omega)]; omega)]
          rw [if_neg h3] at hQ
          exact hQ
      refine sw_ge (n83_112 hX hr hx.1) ?_
      have u13 : ∀ (F : Nat → Nat → Int32) (w : Int32), sm_up F (X + 10) 1 w (X + 10) 3 = F (X + 10) 3 := fun F w => up_ne (by omega)
      simp only [sw_ite, md_b_0, u13, A2, kst_3]
      rw [A1, kst_s1]
      by_cases hc : ni n = ni 61
      · rw [decide_eq_true hc] at hpad
        rw [hpad, if_neg (fun z => nomatch z)]
        rw [if_pos hc] at hq
        exact h130 (ni 1) (by rw [ni_add, hq])
      · rw [decide_eq_false hc] at hpad
        rw [hpad, if_pos rfl]
        rw [if_neg hc] at hq
        exact h130 (ni 0) (by rw [ni_add, hq]; rfl)
    refine sw_ge (n83_94 hX hr hx.1) ?_
    simp only [sw_ite, md_b_0, A2, kst_1, k6]
    by_cases hc : ni n = ni 61
    · rw [decide_eq_true hc] at hpad
      subst hpad
      rw [if_neg (fun z => nomatch z)]
      exact h112 (ni 0) _ rfl (by rw [if_pos hc])
    · rw [decide_eq_false hc] at hpad
      subst hpad
      rw [if_pos rfl]
      exact h112 _ _ rfl (by rw [if_neg hc])
  have h94' : ∀ (pad : Bool), pad = decide (ni n = ni 61) → ¬ ((ni n = ni 61 ∧ h < 2) ∨ (ni n ≠ ni 61 ∧ (md_six (ni n) = sm_k (-1) ∨ 0 < pd))) → ¬ (ni n = ni 61 ∧ pd = 0 ∧ md_lo v h ≠ ni 0) → sw (sm_fx C 83 94 [.ref (X + 10), sm_junk, .ref r, .int (md_b pad), .int (md_six (ni n)), sm_junk, sm_junk] [] (A xs (kst X D v (ni h) (ni pd)))) (fun w F => some (w, F) = (match md_tk v h pd (ni n) with
      | .ok (v', h', pd', ys) => some (.inl (some (.int (ni 0))), A (xs ++ ys) (kst X D v' (ni h') (ni pd')))
      | .error b => some (.inl (some (.int (ni (if b then 2 else 1)))), A xs (kst X D v (ni h) (ni pd))))) := by
    intro pad hpad g1 g2
    refine h94 pad hpad _ ?_
    dsimp only
    unfold md_tk
    rw [if_neg g1, if_neg g2]
    dsimp only
    by_cases h3 : h = 3
    · rw [if_pos h3, if_pos h3]
    · rw [if_neg h3, if_neg h3]
      dsimp only
      rw [List.append_nil]
  have h50 : ∀ (pad : Bool), pad = decide (ni n = ni 61) → ¬ ((ni n = ni 61 ∧ h < 2) ∨ (ni n ≠ ni 61 ∧ (md_six (ni n) = sm_k (-1) ∨ 0 < pd))) → sw (sm_fx C 83 50 [.ref (X + 10), sm_junk, .ref r, .int (md_b pad), .int (md_six (ni n)), sm_junk, sm_junk] [] (A xs (kst X D v (ni h) (ni pd)))) (fun w F => some (w, F) = (match md_tk v h pd (ni n) with
      | .ok (v', h', pd', ys) => some (.inl (some (.int (ni 0))), A (xs ++ ys) (kst X D v' (ni h') (ni pd')))
      | .error b => some (.inl (some (.int (ni (if b then 2 else 1)))), A xs (kst X D v (ni h) (ni pd))))) := by
    intro pad hpad g1
    have h74 : sw (sm_fx C 83 74 [.ref (X + 10), sm_junk, .ref r, .int (md_b pad), .int (md_six (ni n)), sm_junk, sm_junk] [.int (md_lo v h)] (A xs (kst X D v (ni h) (ni pd)))) (fun w F => some (w, F) = (match md_tk v h pd (ni n) with
      | .ok (v', h', pd', ys) => some (.inl (some (.int (ni 0))), A (xs ++ ys) (kst X D v' (ni h') (ni pd')))
      | .error b => some (.inl (some (.int (ni (if b then 2 else 1)))), A xs (kst X D v (ni h) (ni pd))))) := by
      refine sw_ge (n83_74 hX hr hx.1) ?_
      simp (disch := omega) only [sw_ite, md_b_0, A2, kst_3, ni_inj, sw_some]
      by_cases hc : ni n = ni 61
      · have hp2 : pad = true := by rw [hpad, decide_eq_true hc]
        rw [hp2, if_neg (fun z => nomatch z)]
        by_cases hp0 : pd = 0
        · rw [if_pos hp0]
          by_cases hl0 : md_lo v h = ni 0
          · rw [if_pos hl0]
            exact h94' true (by rw [decide_eq_true hc]) g1 (fun z => z.2.2 hl0)
          · rw [if_neg hl0]
            unfold md_tk
            rw [if_neg g1, if_pos ⟨hc, hp0, hl0⟩]
            rfl
        · rw [if_neg hp0]
          exact h94' true (by rw [decide_eq_true hc]) g1 (fun z => hp0 z.2.1)
      · have hp2 : pad = false := by rw [hpad, decide_eq_false hc]
        rw [hp2, if_pos rfl]
        exact h94' false (by rw [decide_eq_false hc]) g1 (fun z => hc z.1)
    refine sw_ge (n83_50 hX hr hx.1) ?_
    simp (disch := omega) only [sw_ite, A2, kst_2, kst_1, ni_inj]
    unfold md_lo at h74
    by_cases h2 : h = 2
    · rw [if_pos h2]; rw [if_pos h2] at h74; exact h74
    · rw [if_neg h2]; rw [if_neg h2] at h74; exact h74
  have main : sw (sm_fe C 83 [.ref (X + 10), .int (ni n), .ref r] (A xs (kst X D v (ni h) (ni pd)))) (fun w F => some (w, F) = (match md_tk v h pd (ni n) with
      | .ok (v', h', pd', ys) => some (.inl (some (.int (ni 0))), A (xs ++ ys) (kst X D v' (ni h') (ni pd')))
      | .error b => some (.inl (some (.int (ni (if b then 2 else 1)))), A xs (kst X D v (ni h) (ni pd))))) := by
    refine sw_ge (f83 hX hr hx.1) ?_
    simp only [sw_ite]
    by_cases hc : ni n = ni 61
    · rw [if_pos hc]
      refine sw_ge (n83_11 hX hr hx.1) ?_
      simp (disch := omega) only [sw_bi, e16, s265 hs, sw_some, sb_i, sw_ite, md_six_ix n hn, ni_10, if_false, A2, kst_2, ni_le]
      by_cases h2 : 2 ≤ h
      · rw [if_pos h2]
        exact h50 true (by rw [decide_eq_true hc]) (fun z => z.elim (fun y => absurd y.2 (by omega)) (fun y => y.1 hc))
      · rw [if_neg h2]
        unfold md_tk
        rw [if_pos (Or.inl ⟨hc, by omega⟩)]
        rfl
    · rw [if_neg hc]
      refine sw_ge (n83_11 hX hr hx.1) ?_
      simp (disch := omega) only [sw_bi, e16, s265 hs, sw_some, sb_i, sw_ite, md_six_ix n hn, if_true, A2, kst_3, ni_le, md_six_neg n hn]
      by_cases h6 : md_six (ni n) = sm_k (-1)
      · rw [if_pos h6]
        unfold md_tk
        rw [if_pos (Or.inr ⟨hc, Or.inl h6⟩)]
        rfl
      · rw [if_neg h6]
        by_cases hp0 : pd ≤ 0
        · rw [if_pos hp0]
          exact h50 false (by rw [decide_eq_false hc]) (fun z => z.elim (fun y => hc y.1) (fun y => y.2.elim h6 (fun w => by omega)))
        · rw [if_neg hp0]
          unfold md_tk
          rw [if_pos (Or.inr ⟨hc, Or.inr (by omega)⟩)]
          rfl
  obtain ⟨w, F, h1, h2⟩ := main
  rw [h1, h2]
end CCD
