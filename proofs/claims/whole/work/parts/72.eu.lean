section CMJ
variable {C : sm_K} {X t N : Nat} {T : Nat → Int32} {Q : (Option Value ⊕ Nat) → sm_D → Prop}
theorem md_msg_eq {n : Nat} {par : Int32} {a b : Nat} {m : md_M} {st : List md_O} : md_msg T n par a b m st = (match md_ent T st.length par a b m with
    | .error x => .error x
    | .ok (m1, body) => match md_st1 T m1 body b st with
      | .error x => .error x
      | .ok st1 => match st1.dropWhile (fun o => o.2.2.2.2) with
        | [] => .ok m1
        | o :: r => match n with
          | 0 => .error o.2.2.1
          | n + 1 => match md_del T (md_bnd m1 o.1) o.2.1 o.2.2.2.1 with
            | none => .error o.2.1
            | some d => md_msg T n (ni o.1) o.2.2.2.1 (max o.2.2.2.1 (d.1 - 2)) m1 ((o.1, o.2.1, d) :: r)) := by
  conv => lhs; unfold md_msg
  cases h1 : md_ent T st.length par a b m with
  | error x => rfl
  | ok w =>
    obtain ⟨m1, body⟩ := w
    simp only [bind, Except.bind]
    unfold md_st1
    by_cases hl : md_last m1 = true
    · rw [if_pos hl, if_pos hl]
      cases h2 : md_open T m1 body b with
      | error x => rfl
      | ok o => rfl
    · rw [if_neg hl, if_neg hl]
      rfl
theorem c48_17 (hM : sm_mv C) (hL : LN T N) {D0 : sm_D} : ∀ (n : Nat) (m : md_M) (st : List md_O) (par : Int32) (a b : Nat) (D : sm_D) (f g : Nat → Int32) (σ : Nat → List Int32) (pl : List Int32) (T0 : Nat → Int32) (e p : Nat), m.1.length + n = 39 → INV C X t T N D0 m st par a b D f g σ pl →
    (∀ m', md_msg T n par a b m st = .ok m' → ∀ D' f' g' pl' σ' T0' e' p', cF X t D0 D' → cH C X t T N D' → MG T t D' σ' m' → SL f' g' pl' σ' → pl'.length ≤ 16400 → 1 ≤ m'.1.length → Q (.inl none) (cs X t T0' e' (ts t D' f' g') p' pl')) →
    (∀ x z D', md_msg T n par a b m st = .error x → cT X t D0 x z D' → Q (.inr z) D') →
    sw (sm_fx C 48 17 [.ref (X + 4), .ref t, .int (ni m.1.length), sm_junk] [] (cs X t T0 e (ts t D f g) p pl)) Q := by
  intro n
  induction n with
  | zero =>
    intro m st par a b D f g σ pl T0 e p hn hI hok her
    rw [md_msg_eq] at hok her
    refine c48_it hM hL (by omega) hI (fun m1 body st1 h1 h2 h3 => ?_) (fun m1 body st1 o r d h1 h2 h3 h4 h5 => by omega) (fun x z D' hx hT => her x z D' ?_ hT)
    · simp only [h1, h2, h3] at hok
      exact hok m1 rfl
    · rcases hx with hx | ⟨m1, body, h1, hx | ⟨st1, o, r, h2, h3, h4, ⟨h5, rfl⟩ | ⟨h5, h6, rfl⟩⟩⟩
      · rw [hx]
      · simp only [h1, hx]
      · simp only [h1, h2, h3]
      · omega
  | succ n ih =>
    intro m st par a b D f g σ pl T0 e p hn hI hok her
    rw [md_msg_eq] at hok her
    refine c48_it hM hL (by omega) hI (fun m1 body st1 h1 h2 h3 => ?_) (fun m1 body st1 o r d h1 h2 h3 h4 h5 h6 D' f' g' pl' σ' T0' e' p' hI' => ?_) (fun x z D' hx hT => her x z D' ?_ hT)
    · simp only [h1, h2, h3] at hok
      exact hok m1 rfl
    · simp only [h1, h2, h3, h6] at hok her
      rw [← h4]
      exact ih m1 _ _ _ _ D' f' g' σ' pl' T0' e' p' (by omega) hI' hok her
    · rcases hx with hx | ⟨m1, body, h1, hx | ⟨st1, o, r, h2, h3, h4, ⟨h5, rfl⟩ | ⟨h5, h6, rfl⟩⟩⟩
      · rw [hx]
      · simp only [h1, hx]
      · omega
      · simp only [h1, h2, h3, h6]
theorem cs_any (ht : t = X + 23 ∨ t = X + 36) (D : sm_D) : ∃ T0 e p pl, D = cs X t T0 e D p pl := by
  obtain ⟨p, hp⟩ := ni_any (D.1 (X + 1) 2)
  obtain ⟨k, hk⟩ := ni_any (D.1 (t + 1) 1)
  refine ⟨fun _ => D.1 (X + 1) 4, p + 1, p, (List.range k).map (D.1 (t + 2)), ?_⟩
  have hlen : ((List.range k).map (D.1 (t + 2))).length = k := by rw [List.length_map, List.length_range]
  refine Prod.ext ?_ rfl
  funext a i
  unfold cs
  dsimp only
  rw [hlen]
  by_cases h1 : a = X + 1
  · subst h1
    rw [if_pos rfl]
    by_cases h2 : i = 2
    · rw [if_pos h2, h2, hp]
    · rw [if_neg h2]
      by_cases h4 : i = 4
      · rw [if_pos h4, h4]
        unfold md_cu
        rw [if_pos (Nat.lt_succ_self _)]
      · rw [if_neg h4]
  · rw [if_neg h1]
    by_cases h2 : a = t + 1
    · subst h2
      rw [if_pos rfl]
      by_cases h3 : i = 1
      · rw [if_pos h3, h3, hk]
      · rw [if_neg h3]
    · rw [if_neg h2]
      by_cases h3 : a = t + 2
      · subst h3
        rw [if_pos rfl]
        by_cases h4 : i < k
        · rw [if_pos h4, md_nth_get (by rw [hlen]; exact h4), List.getElem_map, List.getElem_range]
        · rw [if_neg h4]
      · rw [if_neg h3]
theorem cs_any0 (ht : t = X + 23 ∨ t = X + 36) (D : sm_D) (h0 : D.1 (t + 1) 1 = ni 0) : ∃ T0 e p, D = cs X t T0 e (ts t D (D.1 (t + 3)) (D.1 (t + 4))) p [] := by
  obtain ⟨p, hp⟩ := ni_any (D.1 (X + 1) 2)
  refine ⟨fun _ => D.1 (X + 1) 4, p + 1, p, Prod.ext ?_ rfl⟩
  funext a i
  unfold cs ts
  dsimp only
  by_cases h1 : a = X + 1
  · subst h1
    rw [if_pos rfl]
    by_cases h2 : i = 2
    · rw [if_pos h2, h2, hp]
    · rw [if_neg h2]
      by_cases h4 : i = 4
      · rw [if_pos h4, h4]
        unfold md_cu
        rw [if_pos (Nat.lt_succ_self _)]
      · rw [if_neg h4, if_neg (by omega), if_neg (by omega)]
  · rw [if_neg h1]
    by_cases h2 : a = t + 1
    · subst h2
      rw [if_pos rfl]
      by_cases h3 : i = 1
      · rw [if_pos h3, h3, h0]; rfl
      · rw [if_neg h3, if_neg (by omega), if_neg (by omega)]
    · rw [if_neg h2]
      by_cases h3 : a = t + 2
      · rw [if_pos h3, if_neg (show ¬ i < ([] : List Int32).length from Nat.not_lt_zero _), if_neg (by omega), if_neg (by omega)]
      · rw [if_neg h3]
        by_cases h5 : a = t + 3
        · rw [if_pos h5, h5]
        · rw [if_neg h5]
          by_cases h6 : a = t + 4
          · rw [if_pos h6, h6]
          · rw [if_neg h6]
/-- the heap behind clear -/
def D125 (t : Nat) (D : sm_D) : sm_D := (fun a j => if a = t + 1 ∧ j = 1 then ni 0 else if a = t + 4 ∧ j < 1061 then ni 0 else if a = t + 12 ∧ j < 2 then ni 0 else if a = t ∧ (j = 11 ∨ j = 12 ∨ j = 14) then ni 0 else D.1 a j, sm_up D.2.1 t 13 (Int64.ofNat 0), D.2.2)
theorem c125 (tr : sm_tree C t) {D : sm_D} : sm_fe C 125 [.ref t] D = some (.inl none, D125 t D) := by
  have a4 : sm_ar C (t + 4) 1061 := ⟨tr.s 4 rfl, tr.b 4⟩
  have a12 : sm_ar C (t + 12) 2 := ⟨tr.s 12 rfl, tr.b 12⟩
  apply sw_eq
  refine sw_ge (f125 tr) ?_
  simp only [sw_bv, c291 a4 (show 1061 < 2147483648 by omega), c291 a12 (show 2 < 2147483648 by omega), sw_some, sb_v]
  refine congrArg (Prod.mk _) (Prod.ext ?_ rfl)
  funext a j
  unfold D125
  simp only [sm_up]
  by_cases h0 : a = t
  · subst h0
    by_cases j11 : j = 11
    · simp [j11]
    · by_cases j12 : j = 12
      · simp [j12]
      · by_cases j14 : j = 14
        · simp [j14]
        · simp [j11, j12, j14]
  · by_cases h1 : a = t + 1
    · subst h1
      by_cases j1 : j = 1 <;> simp [j1]
    · by_cases h4 : a = t + 4
      · subst h4
        by_cases j4 : j < 1061 <;> simp [j4]
      · by_cases h12 : a = t + 12
        · subst h12
          by_cases j2 : j < 2 <;> simp [j2]
        · simp [h0, h1, h4, h12]
theorem D125_o {D : sm_D} {a j : Nat} (h : ¬ (t ≤ a ∧ a ≤ t + 12)) : (D125 t D).1 a j = D.1 a j := by
  unfold D125
  dsimp only
  rw [if_neg (by omega), if_neg (by omega), if_neg (by omega), if_neg (by omega)]
/-- a message is read -/
theorem c48 (hM : sm_mv C) {D : sm_D} (hH : cH C X t T N D)
    (hok : ∀ m, md_read T N = .ok m → ∀ D' f' g' pl' σ' T0' e' p', cF X t D D' → cH C X t T N D' → MG T t D' σ' m → SL f' g' pl' σ' → pl'.length ≤ 16400 → 1 ≤ m.1.length → Q (.inl none) (cs X t T0' e' (ts t D' f' g') p' pl'))
    (her : ∀ x z D', md_read T N = .error x → cT X t D x z D' → Q (.inr z) D') :
    sw (sm_fe C 48 [.ref (X + 4), .ref t] D) Q := by
  have hX := hH.1
  have ht := hH.2.1
  have hN := hH.2.2.2.1
  have tr := (sm_tree_of hX ht).1
  refine sw_ge (f48 hX tr) ?_
  rw [sw_bv]
  obtain ⟨T0, e, p, pl, eD⟩ := cs_any (X := X) ht D
  rw [eD]
  unfold md_read at hok her
  refine c49 hH (fun h0 => ?_) (fun x z D' hx hT => ⟨hT.tw, her x z D' (by rw [hx]) hT⟩)
  rw [← eD]
  rw [h0] at hok her
  dsimp only at hok her
  have hL : LN T N := fun i hi h13 => md_lns_LN h0 i (Nat.zero_le _) hi h13
  simp only [sb_v, sw_bv, c125 tr, sw_some]
  refine sw_ge (f102 hX) ?_
  have e2 : sm_up (sm_up (sm_up (D125 t D).1 (X + 14) 6 (ni 0)) (X + 14) 7 (sm_k (-1))) (X + 14) 8 (ni 0) (X + 2) 1 = ni N := by
    rw [up_ne (by omega), up_ne (by omega), up_ne (by omega), D125_o (by omega)]; exact hH.2.2.2.2.1
  simp only [sw_some, sb_v, e2]
  have q : cQ X (D125 t D) (sm_dI (sm_dI (sm_dI (sm_dI (D125 t D) (X + 14) 6 (ni 0)) (X + 14) 7 (sm_k (-1))) (X + 14) 8 (ni 0)) (X + 14) 9 (ni N)) := ((((cQ.refl X _).dI (by omega)).dI (by omega)).dI (by omega)).dI (by omega)
  have k6 : (sm_dI (sm_dI (sm_dI (sm_dI (D125 t D) (X + 14) 6 (ni 0)) (X + 14) 7 (sm_k (-1))) (X + 14) 8 (ni 0)) (X + 14) 9 (ni N)).1 (X + 14) 6 = ni 0 := by rw [dI_ne (by omega), dI_ne (by omega), dI_ne (by omega), dI_eq]
  have k7 : (sm_dI (sm_dI (sm_dI (sm_dI (D125 t D) (X + 14) 6 (ni 0)) (X + 14) 7 (sm_k (-1))) (X + 14) 8 (ni 0)) (X + 14) 9 (ni N)).1 (X + 14) 7 = sm_k (-1) := by rw [dI_ne (by omega), dI_ne (by omega), dI_eq]
  have k8 : (sm_dI (sm_dI (sm_dI (sm_dI (D125 t D) (X + 14) 6 (ni 0)) (X + 14) 7 (sm_k (-1))) (X + 14) 8 (ni 0)) (X + 14) 9 (ni N)).1 (X + 14) 8 = ni 0 := by rw [dI_ne (by omega), dI_eq]
  have k9 : (sm_dI (sm_dI (sm_dI (sm_dI (D125 t D) (X + 14) 6 (ni 0)) (X + 14) 7 (sm_k (-1))) (X + 14) 8 (ni 0)) (X + 14) 9 (ni N)).1 (X + 14) 9 = ni N := dI_eq
  have hH1 : cH C X t T N (D125 t D) := by
    obtain ⟨h1, h2, h3, h4, h5, h6, h7⟩ := hH
    exact ⟨h1, h2, h3, h4, by rw [D125_o (by omega)]; exact h5, fun i hi => by rw [D125_o (by omega)]; exact h6 i hi, h7⟩
  have hF1 : cF X t D (D125 t D) := by
    refine ⟨rfl, fun a ha => ?_, fun a ha => ?_⟩
    · funext j
      unfold cR at ha
      exact D125_o (by omega)
    · funext j
      exact if_neg (fun z => ha z.1)
  generalize hE : sm_dI (sm_dI (sm_dI (sm_dI (D125 t D) (X + 14) 6 (ni 0)) (X + 14) 7 (sm_k (-1))) (X + 14) 8 (ni 0)) (X + 14) 9 (ni N) = E at *
  have c1 : E.1 (t + 1) 1 = ni 0 := by rw [q.2 _ _ (by omega)]; unfold D125; dsimp only; rw [if_pos ⟨rfl, rfl⟩]
  have c4 : ∀ k, k < 1061 → E.1 (t + 4) k = ni 0 := fun k hk => by rw [q.2 _ _ (by omega)]; unfold D125; dsimp only; rw [if_neg (by omega), if_pos ⟨rfl, hk⟩]
  have c12 : ∀ k, k < 2 → E.1 (t + 12) k = ni 0 := fun k hk => by rw [q.2 _ _ (by omega)]; unfold D125; dsimp only; rw [if_neg (by omega), if_neg (by omega), if_pos ⟨rfl, hk⟩]
  have ct : ∀ j, (j = 11 ∨ j = 12 ∨ j = 14) → E.1 t j = ni 0 := fun j hj => by rw [q.2 _ _ (by omega)]; unfold D125; dsimp only; rw [if_neg (by omega), if_neg (by omega), if_neg (by omega), if_pos ⟨rfl, hj⟩]
  have cJ : E.2.1 t 13 = Int64.ofInt 0 := by rw [q.1]; unfold D125; dsimp only; rw [up_eq]; rfl
  obtain ⟨T1, e1, p1, eE⟩ := cs_any0 (X := X) ht E c1
  rw [eE]
  have hS : SL (E.1 (t + 3)) (E.1 (t + 4)) [] (fun _ => []) := fun k hk => ⟨c4 k hk, Nat.le_refl _, Or.inl rfl⟩
  have hTXa : ∀ kd, (kd = 5 ∨ kd = 6) → TXa t kd E (fun _ => []) [] := fun kd hk => ⟨c12 _ (by omega), by decide, (fun n a hn => by cases hn), fun _ _ _ => rfl⟩
  have hMG : MG T t E (fun _ => []) ([], [], (0, 0), fun _ => []) := ⟨ct 11 (by omega), ct 12 (by omega), by decide, by decide, (fun j u hj => by cases hj), rfl, ⟨cJ, ct 14 (by omega)⟩, hTXa 5 (Or.inl rfl), hTXa 6 (Or.inr rfl), fun _ _ _ => rfl⟩
  exact c48_17 hM hL (D0 := D) 39 ([], [], (0, 0), fun _ => []) [] (sm_k (-1)) 0 N E _ _ (fun _ => []) [] T1 e1 p1 rfl ⟨q.cH hH1, hF1.trans q.cF, hMG, ⟨k6, (fun j o hj => by cases hj)⟩, ⟨by decide, (fun o ho => by cases ho), List.Pairwise.nil⟩, hS, ⟨k7, k8, k9⟩, ⟨Nat.zero_le _, Nat.le_refl _, fun _ hlt => absurd hlt (Nat.lt_irrefl _)⟩, Nat.zero_le _, fun _ _ => rfl⟩ hok her
end CMJ
