def md_mu (o : Option md_Ty) : Bool := md_Ty.multi (o.getD md_plain)
def md_sbj (T : Nat → Int32) (fs : List md_F) (s : List Int32) : List Int32 := fs.foldl (fun s h => if h.1 = 3 then md_subj (md_chs T h.2.2.2 (md_go T h.2.2.2 (h.2.2.1 + 1))) else s) s
theorem md_txt1_sub {T : Nat → Int32} {dep : Nat} {h : md_F} {x y : md_X} (hy : md_txt1 T dep h x = .ok y) : y.2.2.1 = if h.1 = 3 then md_subj (md_chs T h.2.2.2 (md_go T h.2.2.2 (h.2.2.1 + 1))) else x.2.2.1 := by
  unfold md_txt1 at hy
  by_cases k1 : h.1 = 1
  · rw [if_pos k1] at hy
    rw [if_neg (by omega)]
    cases ht : md_type T h.2.2.2 dep (md_go T h.2.2.2 (h.2.2.1 + 1)) with
    | error f => rw [ht] at hy; cases hy
    | ok t => rw [ht] at hy; cases hy; rfl
  rw [if_neg k1] at hy
  by_cases k2 : h.1 = 2
  · rw [if_pos k2] at hy
    rw [if_neg (by omega)]
    cases ht : md_code T h.2.2.2 (md_go T h.2.2.2 (h.2.2.1 + 1)) with
    | error f => rw [ht] at hy; cases hy
    | ok t => rw [ht] at hy; cases hy; rfl
  rw [if_neg k2] at hy
  by_cases k3 : h.1 = 3
  · rw [if_pos k3] at hy
    rw [if_pos k3]
    cases hy; rfl
  rw [if_neg k3] at hy
  rw [if_neg k3]
  by_cases k4 : h.1 = 4
  · rw [if_pos k4] at hy
    cases ht : md_date T h.2.2.2 (md_go T h.2.2.2 (h.2.2.1 + 1)) with
    | error f => rw [ht] at hy; cases hy
    | ok t => rw [ht] at hy; cases hy; rfl
  rw [if_neg k4] at hy
  by_cases k5 : h.1 = 5 ∨ h.1 = 6
  · rw [if_pos k5] at hy
    cases ht : md_adrs T h.2.2.2 10 [] (md_go T h.2.2.2 (h.2.2.1 + 1)) with
    | error f => rw [ht] at hy; cases hy
    | ok t => rw [ht] at hy; cases hy; rfl
  · rw [if_neg k5] at hy
    cases hy; rfl
theorem md_txts_sub {T : Nat → Int32} {dep : Nat} : ∀ (fs : List md_F) {x y : md_X}, md_txts T dep fs x = .ok y → y.2.2.1 = md_sbj T fs x.2.2.1 := by
  intro fs
  induction fs with
  | nil => intro x y h; cases h; rfl
  | cons f fs ih =>
    intro x y h
    unfold md_txts at h
    cases h1 : md_txt1 T dep f x with
    | error e => rw [h1] at h; cases h
    | ok w =>
      simp only [h1, bind, Except.bind] at h
      rw [ih h, md_txt1_sub h1]
      rfl
theorem md_sbj_none {T : Nat → Int32} : ∀ (fs : List md_F) {s : List Int32}, (∀ h ∈ fs, h.1 ≠ 3) → md_sbj T fs s = s := by
  intro fs
  induction fs with
  | nil => intro s _; rfl
  | cons f fs ih =>
    intro s h
    unfold md_sbj
    rw [List.foldl_cons, if_neg (h f List.mem_cons_self)]
    exact ih (fun g hg => h g (List.mem_cons_of_mem _ hg))
theorem md_sbj_some {T : Nat → Int32} : ∀ (fs : List md_F) {s : List Int32} {m : Nat} {h : md_F}, KD fs → fs[m]? = some h → h.1 = 3 → md_sbj T fs s = md_subj (md_chs T h.2.2.2 (md_go T h.2.2.2 (h.2.2.1 + 1))) := by
  intro fs
  induction fs with
  | nil => intro s m h _ hm; cases hm
  | cons f fs ih =>
    intro s m h hK hm h3
    obtain ⟨k1, k2⟩ := List.pairwise_cons.mp hK
    unfold md_sbj
    rw [List.foldl_cons]
    cases m with
    | zero =>
      cases hm
      rw [if_pos h3]
      exact md_sbj_none fs (fun g hg g3 => by have := k1 g hg (by rw [h3, g3]); omega)
    | succ m =>
      rw [List.getElem?_cons_succ] at hm
      exact ih k2 hm h3
theorem md_txt1_ty {T : Nat → Int32} {dep : Nat} {h : md_F} {x y : md_X} (hy : md_txt1 T dep h x = .ok y) (hk : h.1 ≠ 1) : y.1 = x.1 := by
  unfold md_txt1 at hy
  rw [if_neg hk] at hy
  by_cases k2 : h.1 = 2
  · rw [if_pos k2] at hy
    cases ht : md_code T h.2.2.2 (md_go T h.2.2.2 (h.2.2.1 + 1)) with
    | error f => rw [ht] at hy; cases hy
    | ok t => rw [ht] at hy; cases hy; rfl
  rw [if_neg k2] at hy
  by_cases k3 : h.1 = 3
  · rw [if_pos k3] at hy
    cases hy; rfl
  rw [if_neg k3] at hy
  by_cases k4 : h.1 = 4
  · rw [if_pos k4] at hy
    cases ht : md_date T h.2.2.2 (md_go T h.2.2.2 (h.2.2.1 + 1)) with
    | error f => rw [ht] at hy; cases hy
    | ok t => rw [ht] at hy; cases hy; rfl
  rw [if_neg k4] at hy
  by_cases k5 : h.1 = 5 ∨ h.1 = 6
  · rw [if_pos k5] at hy
    cases ht : md_adrs T h.2.2.2 10 [] (md_go T h.2.2.2 (h.2.2.1 + 1)) with
    | error f => rw [ht] at hy; cases hy
    | ok t => rw [ht] at hy; cases hy; rfl
  · rw [if_neg k5] at hy
    cases hy; rfl
theorem md_txt1_a {T : Nat → Int32} {dep : Nat} {h : md_F} {x y : md_X} (hy : md_txt1 T dep h x = .ok y) (b : Bool) (hk : ¬ ((h.1 = 5 ∨ h.1 = 6) ∧ b = decide (h.1 = 6))) : y.2.2.2.2 b = x.2.2.2.2 b := by
  unfold md_txt1 at hy
  by_cases k1 : h.1 = 1
  · rw [if_pos k1] at hy
    cases ht : md_type T h.2.2.2 dep (md_go T h.2.2.2 (h.2.2.1 + 1)) with
    | error f => rw [ht] at hy; cases hy
    | ok t => rw [ht] at hy; cases hy; rfl
  rw [if_neg k1] at hy
  by_cases k2 : h.1 = 2
  · rw [if_pos k2] at hy
    cases ht : md_code T h.2.2.2 (md_go T h.2.2.2 (h.2.2.1 + 1)) with
    | error f => rw [ht] at hy; cases hy
    | ok t => rw [ht] at hy; cases hy; rfl
  rw [if_neg k2] at hy
  by_cases k3 : h.1 = 3
  · rw [if_pos k3] at hy
    cases hy; rfl
  rw [if_neg k3] at hy
  by_cases k4 : h.1 = 4
  · rw [if_pos k4] at hy
    cases ht : md_date T h.2.2.2 (md_go T h.2.2.2 (h.2.2.1 + 1)) with
    | error f => rw [ht] at hy; cases hy
    | ok t => rw [ht] at hy; cases hy; rfl
  rw [if_neg k4] at hy
  by_cases k5 : h.1 = 5 ∨ h.1 = 6
  · rw [if_pos k5] at hy
    cases ht : md_adrs T h.2.2.2 10 [] (md_go T h.2.2.2 (h.2.2.1 + 1)) with
    | error f => rw [ht] at hy; cases hy
    | ok t =>
      rw [ht] at hy
      cases hy
      dsimp only
      rw [if_neg (fun g => hk ⟨k5, g⟩)]
  · rw [if_neg k5] at hy
    cases hy; rfl
theorem md_txt1_a5 {T : Nat → Int32} {dep : Nat} {h : md_F} {x y : md_X} (hy : md_txt1 T dep h x = .ok y) (hk : h.1 ≠ 5) : y.2.2.2.2 false = x.2.2.2.2 false := md_txt1_a hy false (fun g => by
  rcases g.1 with g1 | g1
  · exact hk g1
  · have := g.2; rw [decide_eq_true g1] at this; cases this)
theorem md_txt1_a6 {T : Nat → Int32} {dep : Nat} {h : md_F} {x y : md_X} (hy : md_txt1 T dep h x = .ok y) (hk : h.1 ≠ 6) : y.2.2.2.2 true = x.2.2.2.2 true := md_txt1_a hy true (fun g => by
  have := g.2
  rw [decide_eq_false hk] at this; cases this)
section RHA
variable {C : sm_K} {X N i tot dep : Nat} {T : Nat → Int32} {D E D0 : sm_D} {Q : (Option Value ⊕ Nat) → sm_D → Prop} {l : List Int32} {W : Bool} {fs : List md_F}
theorem RTy.mu {o : Option md_Ty} (h : RTy X i l W D o) : D.1 (X + 56) i = md_b (md_mu o) := by
  cases o with
  | none => exact h.2.1
  | some τ => exact h.2.2.2
theorem nTX_54 : ¬ sTX X i (X + 54) i := by unfold sTX rsc rO; omega
theorem nTX_55 : ¬ sTX X i (X + 55) i := by unfold sTX rsc rO; omega
theorem nTX_62 : ¬ sTX X i (X + 62) i := by unfold sTX rsc rO; omega
theorem nTX_7 {c g : Nat} (hc : X + 70 ≤ c ∧ c ≤ X + 76) : ¬ sTX X i c g := by unfold sTX rsc rO; omega
theorem nTX_R {j : Nat} (hj : j = 8 ∨ j = 54 ∨ j = 36 ∨ j = 28 ∨ j = 34 ∨ j = 9 ∨ j = 60) : ¬ sTX X i (X + 49) j := by unfold sTX rsc rO; omega
/-- what stays of the fields in a fault -/
theorem r174_x (hX : sm_Lay C X) (hi : i < 40) (hF : RFS X i tot fs D0) {f : Nat} (hE : rE X D0 f E) (hQ : Q (.inl none) E) : sw (sm_fx C 174 124 [.ref (X + 49), .int (ni i), sm_junk] [] E) Q := by
  obtain ⟨f1, f2, f3, f4, f5, f6⟩ := hF
  refine sw_ge (n174_124 hX) ?_
  simp only [sw_ite, hE.ne, if_false]
  refine sw_ge (n174_161 hX) ?_
  have r : ∀ c j, (c = X + 54 ∨ c = X + 55 ∨ c = X + 70) → E.1 c j = D0.1 c j := fun c j hc => hE.2.2.2.1 c j (by unfold rRR; omega)
  rw [sw_bi, r169 hX hi (k := 3) (by omega) (by rw [r _ _ (by omega), f1]) (by rw [r _ _ (by omega), f2]) f4 (fun j h hj => ⟨by rw [r _ _ (by omega)]; exact (f6 j h hj).1.1, (f6 j h hj).2⟩), sw_some]
  simp only [sb_i, sw_ite, hE.ne, if_false, sw_some]
  exact hQ
theorem r174_7 (hX : sm_Lay C X) (hi : i < 40) (hF : RFS X i tot fs D0) (hZ : ∀ h ∈ fs, FZ T N h) (hdep : D0.1 (X + 62) i = ni dep) (hdl : dep < 1000) (h8 : D0.1 (X + 49) 8 = sm_k (-1)) (h54 : D0.1 (X + 49) 54 = ni 0) (h0 : rH C X T N D0)
    :
    ∀ (rest : List md_F) (j : Nat) (x : md_X) (l : List Int32) (D : sm_D), rest = fs.drop j → j ≤ fs.length → frT X i D0 D → RT X l D → RTX X i l W D x → KD rest → (∀ h ∈ rest, h.1 = 1 → x.1 = none) → (∀ h ∈ rest, h.1 = 5 → x.2.2.2.2 false = []) → (∀ h ∈ rest, h.1 = 6 → x.2.2.2.2 true = []) → l.length + 2 * md_W rest ≤ 24000 →
    (∀ y, md_txts T dep rest x = .ok y → ∀ E' m, frT X i D0 E' → RT X (l ++ m) E' → RTX X i (l ++ m) W E' y → (l ++ m).length ≤ l.length + 2 * md_W rest → sw (sm_fx C 174 124 [.ref (X + 49), .int (ni i), sm_junk] [] E') Q) →
    (∀ f, md_txts T dep rest x = .error f → ∀ E', rE X D0 f E' → Q (.inl none) E') →
    sw (sm_fx C 174 7 [.ref (X + 49), .int (ni i), .int (ni (tot + j))] [] D) Q := by
  obtain ⟨f1, f2, f3, f4, f5, f6⟩ := id hF
  intro rest
  induction rest with
  | nil =>
    intro j x l D hr hj hfr hT hx hK c1 c5 c6 hl hok her
    have hjn : fs.length ≤ j := by
      rcases Nat.lt_or_ge j fs.length with g | g
      · rw [List.drop_eq_getElem_cons g] at hr; cases hr
      · exact g
    have e54 : D.1 (X + 54) i = ni tot := by rw [hfr.2.1 _ _ nTX_54, f1]
    have e55 : D.1 (X + 55) i = ni fs.length := by rw [hfr.2.1 _ _ nTX_55, f2]
    refine sw_ge (n174_7 hX) ?_
    simp (maxSteps := 2000000) (disch := omega) only [sw_gu, ni_in, ni_nat, e54, e55, ni_add, ni_le, sw_ite]
    rw [if_pos (by omega)]
    refine ⟨decide_eq_true hi, decide_eq_true hi, hok x rfl D [] hfr (by rw [List.append_nil]; exact hT) (by rw [List.append_nil]; exact hx) (by rw [List.append_nil]; omega)⟩
  | cons hd rest ih =>
    intro j x l D hr hj hfr hT hx hK c1 c5 c6 hl hok her
    have hjn : j < fs.length := by
      rcases Nat.lt_or_ge j fs.length with g | g
      · exact g
      · rw [List.drop_of_length_le g] at hr; cases hr
    rw [List.drop_eq_getElem_cons hjn] at hr
    obtain ⟨hr1, hr2⟩ := List.cons.inj hr
    have hget : fs[j]? = some hd := by rw [List.getElem?_eq_getElem hjn, hr1]
    obtain ⟨k1, k2⟩ := f6 j hd hget
    obtain ⟨p1, p2⟩ := List.pairwise_cons.mp hK
    have e54 : D.1 (X + 54) i = ni tot := by rw [hfr.2.1 _ _ nTX_54, f1]
    have e55 : D.1 (X + 55) i = ni fs.length := by rw [hfr.2.1 _ _ nTX_55, f2]
    have e8 : D.1 (X + 49) 8 = sm_k (-1) := by rw [hfr.2.1 _ _ (nTX_R (by omega)), h8]
    have e70 : D.1 (X + 70) (tot + j) = ni hd.1 := by rw [hfr.2.1 _ _ (nTX_7 (by omega)), k1.1]
    have hR1 : RF1 X (tot + j) hd D := by
      obtain ⟨q1, q2, q3, q4, q5⟩ := k1
      refine ⟨?_, ?_, ?_, ?_, ?_⟩ <;> rw [hfr.2.1 _ _ (nTX_7 (by omega))] <;> assumption
    have hW1 : md_W (hd :: rest) = (hd.2.2.2 - hd.2.2.1) + md_W rest := by unfold md_W; rw [List.map_cons, List.sum_cons]
    rw [hW1] at hl hok
    have hmem : hd ∈ fs := List.mem_of_getElem? hget
    refine sw_ge (n174_7 hX) ?_
    simp (disch := omega) only [sw_gu, ni_in, ni_nat, e54, e55, ni_add, ni_le, sw_ite, e8, if_true, e70]
    rw [if_neg (by omega)]
    refine ⟨decide_eq_true hi, decide_eq_true hi, decide_eq_true (by omega), ?_⟩
    unfold md_txts at hok her
    have hzz := (hZ hd hmem)
    have := r174_1 (C := C) (K := fun D' => sm_fx C 174 7 [.ref (X + 49), .int (ni i), .int (ni (tot + j + 1))] [] D') (Q := Q) (hfr.H h0) e8 (by rw [hfr.2.1 _ _ (nTX_R (by omega)), h54]) hT hi hR1 (by omega) hzz k2 (by rw [hfr.2.1 _ _ nTX_62, hdep]) hdl hx (c1 hd List.mem_cons_self) (c5 hd List.mem_cons_self) (c6 hd List.mem_cons_self) (by omega)
      (fun y hy E' m hfr' hT' hx' hlen => by
        simp only [hy, bind, Except.bind] at hok her
        refine ih (j + 1) y (l ++ m) E' hr2 (by omega) (hfr.trans hfr') hT' hx' p2 (fun g hg g1 => ?_) (fun g hg g5 => ?_) (fun g hg g6 => ?_) (by omega) (fun z hz E'' m' h1 h2 h3 h4 => ?_) her
        · -- no second type
          have hne : hd.1 ≠ 1 := fun e => by have := p1 g hg (by omega); omega
          have hx0 := c1 g (List.mem_cons_of_mem _ hg) g1
          rw [md_txt1_ty hy hne, hx0]
        · have hne : hd.1 ≠ 5 := fun e => by have := p1 g hg (by omega); omega
          rw [md_txt1_a5 hy hne]
          exact c5 g (List.mem_cons_of_mem _ hg) g5
        · have hne : hd.1 ≠ 6 := fun e => by have := p1 g hg (by omega); omega
          rw [md_txt1_a6 hy hne]
          exact c6 g (List.mem_cons_of_mem _ hg) g6
        · rw [List.append_assoc] at h2 h3 h4
          exact hok z hz E'' (m ++ m') h1 h2 h3 (by omega))
      (fun f hf E' hE' => by
        have hE0 : rE X D0 f E' := hE'.of hfr.toF
        have r : ∀ c k, (c = X + 54 ∨ c = X + 55 ∨ c = X + 70) → E'.1 c k = D0.1 c k := fun c k hc => hE0.2.2.2.1 c k (by unfold rRR; omega)
        have x54 : E'.1 (X + 54) i = ni tot := by rw [r _ _ (by omega), f1]
        have x55 : E'.1 (X + 55) i = ni fs.length := by rw [r _ _ (by omega), f2]
        have n124 := r174_x hX hi hF hE0 (her f (by simp only [hf, bind, Except.bind]) E' hE0)
        refine sw_ge (n174_7 hX) ?_
        simp (maxSteps := 2000000) (disch := omega) only [sw_gu, ni_in, ni_nat, x54, x55, ni_add, ni_le, sw_ite, hE0.ne, if_false]
        refine ⟨decide_eq_true hi, decide_eq_true hi, ?_⟩
        split <;> exact n124)
    simp (disch := omega) only [ni_in] at this
    exact this
end RHA
