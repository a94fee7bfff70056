/-! ===== the reference: types ===== -/
/-- a told text in its slot -/
def SLT (l : List Int32) (a z : Int32) (xs : List Int32) : Prop := ∃ c, a = ni c ∧ z = ni xs.length ∧ c + xs.length ≤ l.length ∧ ∀ j, j < xs.length → md_nth l (c + j) = md_nth xs j
theorem SLT.mono {l m xs : List Int32} {a z : Int32} (h : SLT l a z xs) : SLT (l ++ m) a z xs := by
  obtain ⟨c, h1, h2, h3, h4⟩ := h
  exact ⟨c, h1, h2, by rw [List.length_append]; omega, fun j hj => by rw [md_nth_app (by omega), h4 j hj]⟩
theorem SLT.new {l xs : List Int32} : SLT (l ++ xs) (ni l.length) (ni xs.length) xs := ⟨l.length, rfl, rfl, by rw [List.length_append]; omega, fun j _ => md_nth_app2⟩
/-- the parameters of an entity -/
def RP (X i : Nat) (ps : List (List Int32 × List Int32)) (l : List Int32) (D : sm_D) : Prop := D.1 (X + 61) i = ni ps.length ∧ ps.length ≤ 6 ∧ ∀ n w, ps[n]? = some w → SLT l (D.1 (X + 66) (6 * i + n)) (D.1 (X + 67) (6 * i + n)) w.1 ∧ SLT l (D.1 (X + 68) (6 * i + n)) (D.1 (X + 69) (6 * i + n)) w.2 ∧ w.1.map md_sm = w.1
/-- an entity's own cells -/
def rO (X i c j : Nat) : Prop := ((c = X + 64 ∨ c = X + 65) ∧ (j = 2 * i ∨ j = 2 * i + 1)) ∨ (X + 66 ≤ c ∧ c ≤ X + 69 ∧ 6 * i ≤ j ∧ j < 6 * i + 6) ∨ ((c = X + 56 ∨ c = X + 57 ∨ c = X + 58 ∨ c = X + 61) ∧ j = i)
def rP (X i : Nat) (D E : sm_D) : Prop := E.2 = D.2 ∧ ∀ c j, ¬ rO X i c j → E.1 c j = D.1 c j
section RGE
variable {C : sm_K} {X N e q i : Nat} {T : Nat → Int32} {D E F : sm_D} {Q : (Option Value ⊕ Nat) → sm_D → Prop} {l : List Int32} {b a z : Int32} {ps : List (List Int32 × List Int32)}
theorem rP.refl : rP X i D D := ⟨rfl, fun _ _ _ => rfl⟩
theorem rP.trans (h : rP X i D E) (g : rP X i E F) : rP X i D F := ⟨g.1.trans h.1, fun c j hc => (g.2 c j hc).trans (h.2 c j hc)⟩
theorem rP.dI {c j : Nat} {v : Int32} (h : rP X i D E) (hc : rO X i c j) : rP X i D (sm_dI E c j v) := ⟨h.1, fun c' j' hc' => by rw [dI_ne (fun z => hc' (by rw [z.1, z.2]; exact hc))]; exact h.2 c' j' hc'⟩
theorem rO_RR {c j : Nat} (h : rO X i c j) : rRR X c j := by unfold rO at h; unfold rRR; omega
theorem rP.Fr (h : rP X i D E) : rF X D E := ⟨by rw [h.1], fun c j hc => h.2 c j (fun g => hc (rO_RR g)), fun c j _ => by rw [h.1]⟩
theorem rP.H (h : rP X i D E) (g : rH C X T N D) : rH C X T N E := ⟨g.1, g.2.1, g.2.2.1, fun k hk => by rw [h.2 _ _ (by unfold rO; omega)]; exact g.2.2.2.1 k hk, g.2.2.2.2⟩
theorem rP.W (h : rP X i D E) (g : rW C X T N e D) : rW C X T N e E := ⟨h.H g.1, g.2.1, by rw [h.2 _ _ (by unfold rO; omega)]; exact g.2.2.1, by rw [h.2 _ _ (by unfold rO; omega)]; exact g.2.2.2⟩
theorem RS.dI (h : RS X D q l b a z E) {c j : Nat} (v : Int32) (hc : ¬ rsc X c j) : RS X (sm_dI D c j v) q l b a z (sm_dI E c j v) := by
  obtain ⟨h1, h2, h3, h4, ⟨h5, h6, h7⟩, h8⟩ := h
  have n1 : ∀ {k : Nat}, (k = 20 ∨ k = 46 ∨ k = 48 ∨ k = 49 ∨ k = 50) → (sm_dI E c j v).1 (X + 49) k = E.1 (X + 49) k := fun hk => dI_ne (fun z => hc (Or.inl ⟨z.1.symm, by omega⟩))
  refine ⟨h1, by rw [n1 (by omega), h2], by rw [n1 (by omega), h3], fun k hk => by rw [dI_ne (fun z => hc (Or.inr z.1.symm)), h4 k hk], ⟨by rw [n1 (by omega), h5], by rw [n1 (by omega), h6], by rw [n1 (by omega), h7]⟩, fun c' j' hc' => ?_⟩
  by_cases g : c' = c ∧ j' = j
  · rw [g.1, g.2, dI_eq, dI_eq]
  · rw [dI_ne g, dI_ne g, h8 c' j' hc']
theorem rX_of_P {f : Nat} (h : rP X i D E) (g : rS X E f F) : rX X D f F := g.of h.Fr
theorem r162y (hX : sm_Lay C X) {v : Int32} (h8 : (E.1 (X + 49) 8 = sm_k (-1)) = False) : sm_fe C 162 [.ref (X + 49), .int v] E = some (.inl none, E) := by
  apply sw_eq
  refine sw_ge (f162 hX) ?_
  simp only [sw_ite, sw_some, h8, if_false]
  refine congrArg (Prod.mk _) (Prod.ext ?_ rfl)
  funext c j
  show (if c = X + 49 ∧ j = 8 then E.1 (X + 49) 8 else E.1 c j) = E.1 c j
  split
  · next g => rw [g.1, g.2]
  · rfl
theorem SLT.at (h : ∀ k, k < l.length → E.1 (X + 63) k = md_nth l k) {u v : Int32} {xs : List Int32} (g : SLT l u v xs) : ∃ c, u = ni c ∧ v = ni xs.length ∧ c + xs.length ≤ l.length ∧ ∀ j, j < xs.length → E.1 (X + 63) (c + j) = md_nth xs j := by
  obtain ⟨c, h1, h2, h3, h4⟩ := g
  exact ⟨c, h1, h2, h3, fun j hj => by rw [h _ (by omega), h4 j hj]⟩
/-! the boundary -/
def md_bo : Nat → List (List Int32 × List Int32) → Int32
  | _, [] => sm_k (-1)
  | k, w :: ps => if w.1 = md_w "boundary" then (if md_rb w.2 = true then ni k else sm_k (-1)) else md_bo (k + 1) ps
theorem md_bo_iff : ∀ {k : Nat} {ps : List (List Int32 × List Int32)}, k + ps.length < 2147483648 → ((md_bo k ps = sm_k (-1)) = ¬ ((md_bv ps).any md_rb = true)) := by
  intro k ps
  induction ps generalizing k with
  | nil => intro _; simp [md_bo, md_bv]
  | cons w ps ih =>
    intro hk
    rw [List.length_cons] at hk
    unfold md_bo
    by_cases h : w.1 = md_w "boundary"
    · rw [if_pos h]
      have e1 : md_bv (w :: ps) = some w.2 := by
        unfold md_bv
        rw [List.find?_cons, beq_iff_eq.mpr h]
        rfl
      rw [e1]
      by_cases h2 : md_rb w.2 = true
      · rw [if_pos h2, ni_ne_k (by omega)]; simp [h2]
      · rw [if_neg h2]; simp [h2]
    · rw [if_neg h, ih (by omega)]
      have e1 : md_bv (w :: ps) = md_bv ps := by
        unfold md_bv
        rw [List.find?_cons, beq_false_of_ne h]
      rw [e1]
theorem st_b53 (h : tx C) : st C (C.1.1 53) (md_w "boundary") := st_tx h 53 rfl rfl (by decide) (by decide)
theorem md_all_and {v : List Int32} {c : Nat} (hc : c < v.length) : (md_bs (md_nth v c) && (v.drop (c + 1)).all md_bs) = (v.drop c).all md_bs := by
  rw [List.drop_eq_getElem_cons hc, List.all_cons, md_nth_get hc]
theorem r193 (hX : sm_Lay C X) (hx : tx C) (hi : i < 40) (hT : RT X l E) (hl : l.length ≤ 24000) (hP : RP X i ps l E) : sm_fe C 193 [.ref (X + 49), .int (ni i)] E = some (.inl (some (.int (md_bo (6 * i) ps))), E) := by
  obtain ⟨p1, p2, p3⟩ := hP
  have hval : ∀ {n : Nat} {w : List Int32 × List Int32}, ps[n]? = some w → n < 6 → ∀ (m k : Nat) (fl : Bool), k + m = w.2.length → (fl = true → 0 < w.2.length) → sm_fx C 193 61 [.ref (X + 49), sm_junk, .int (ni (6 * i + n)), .int (ni w.2.length), .int (md_b fl), .int (ni k)] [] E = some (.inl (some (.int (if (fl && (w.2.drop k).all md_bs) = true ∧ 0 < w.2.length ∧ md_nth w.2 (w.2.length - 1) ≠ ni 32 then ni (6 * i + n) else sm_k (-1)))), E) := by
    intro n w hw hn6 m
    obtain ⟨c, v1, v2, v3, v4⟩ := (p3 n w hw).2.1.at hT.2
    have n97 : ∀ fl : Bool, (fl = true → 0 < w.2.length) → sm_fx C 193 97 [.ref (X + 49), sm_junk, .int (ni (6 * i + n)), .int (ni w.2.length), .int (md_b fl), sm_junk] [] E = some (.inl (some (.int (if fl = true ∧ 0 < w.2.length ∧ md_nth w.2 (w.2.length - 1) ≠ ni 32 then ni (6 * i + n) else sm_k (-1)))), E) := by
      intro fl hfl
      apply sw_eq
      refine sw_ge (n193_97 hX) ?_
      cases fl
      · simp only [sw_ite, sw_some, md_b_0, if_true]
        rw [if_neg (fun z => nomatch z.1)]
      · have h0 := hfl rfl
        have e1 : ni c + ni w.2.length - ni 1 = ni (c + (w.2.length - 1)) := by rw [ni_add, ni_sub (by omega)]; congr 1; omega
        simp (disch := omega) only [sw_ite, sw_some, md_b_0, sw_gu, ni_in, ni_nat, v1, e1, v4 (w.2.length - 1) (by omega)]
        rw [if_neg (fun z => nomatch z)]
        refine ⟨decide_eq_true (by omega), decide_eq_true (by omega), ?_⟩
        by_cases h32 : md_nth w.2 (w.2.length - 1) = ni 32
        · rw [if_pos h32, if_neg (fun z => z.2.2 h32)]
        · rw [if_neg h32, if_pos ⟨trivial, h0, h32⟩]
    induction m with
    | zero =>
      intro k fl hk h0
      apply sw_eq
      refine sw_ge (n193_61 hX) ?_
      simp (disch := omega) only [sw_ite, sw_some, ni_le]
      rw [if_pos (by omega), n97 fl h0, sw_some, List.drop_of_length_le (by omega), List.all_nil, Bool.and_true]
    | succ m ih =>
      intro k fl hk h0
      have hk2 : k < w.2.length := by omega
      apply sw_eq
      refine sw_ge (n193_61 hX) ?_
      simp (disch := omega) only [sw_ite, sw_some, ni_le, md_b_0, sw_gu, ni_in, ni_nat, v1, ni_add, v4 k hk2, sw_bi, r194, sb_i]
      rw [if_neg (by omega)]
      cases fl
      · rw [if_pos rfl]
        have := n97 false (fun z => nomatch z)
        rw [this, sw_some, Bool.false_and, if_neg (fun z => nomatch z.1)]
      · rw [if_neg (fun z => nomatch z)]
        refine ⟨decide_eq_true (by omega), decide_eq_true (by omega), ?_⟩
        rw [ih (k + 1) (md_bs (md_nth w.2 k)) (by omega) (fun _ => by omega), sw_some, md_all_and hk2, Bool.true_and]
  have loop : ∀ (m n : Nat), n + m = ps.length → sm_fx C 193 5 [.ref (X + 49), .int (ni i), .int (ni (6 * i + n)), sm_junk, sm_junk, sm_junk] [] E = some (.inl (some (.int (md_bo (6 * i + n) (ps.drop n)))), E) := by
    intro m
    induction m with
    | zero =>
      intro n hn
      apply sw_eq
      refine sw_ge (n193_5 hX) ?_
      simp (disch := omega) only [sw_ite, sw_some, sw_gu, ni_in, ni_nat, p1, ni_mul, ni_add, ni_le]
      rw [if_pos (by omega), List.drop_of_length_le (by omega)]
      exact ⟨decide_eq_true hi, rfl⟩
    | succ m ih =>
      intro n hn
      have hn2 : n < ps.length := by omega
      have hw : ps[n]? = some ps[n] := List.getElem?_eq_getElem hn2
      obtain ⟨s1, s2, s3⟩ := p3 n _ hw
      obtain ⟨c, v1, v2, v3, v4⟩ := s1.at hT.2
      obtain ⟨c', y1, y2, y3, y4⟩ := s2.at hT.2
      apply sw_eq
      refine sw_ge (n193_5 hX) ?_
      simp (disch := omega) only [sw_ite, sw_some, sw_gu, ni_in, ni_nat, p1, ni_mul, ni_add, ni_le, v1, v2, y2, sw_bi, r192 hX (st_b53 hx) rfl (show c + ps[n].1.length ≤ 24000 by omega) v4, sb_i, md_b_0, r157]
      rw [if_neg (by omega), List.drop_eq_getElem_cons hn2, s3, md_bo]
      refine ⟨decide_eq_true hi, decide_eq_true (by omega), decide_eq_true (by omega), ?_⟩
      by_cases hbw : ps[n].1 = md_w "boundary"
      · rw [if_neg (by rw [decide_eq_true hbw]; exact fun z => nomatch z), if_pos hbw]
        refine ⟨decide_eq_true (by omega), ?_⟩
        have g0 : md_in (ni ps[n].2.length) 1 70 = true → 0 < ps[n].2.length := fun z => by
          rw [md_in_ni (by omega) (by omega) (by omega), Bool.and_eq_true, decide_eq_true_eq] at z; omega
        rw [hval hw (by omega) ps[n].2.length 0 (md_in (ni ps[n].2.length) 1 70) (by omega) g0, sw_some, List.drop_zero, md_in_ni (by omega) (by omega) (by omega)]
        have key : ((decide (1 ≤ ps[n].2.length) && decide (ps[n].2.length ≤ 70) && ps[n].2.all md_bs) = true ∧ 0 < ps[n].2.length ∧ md_nth ps[n].2 (ps[n].2.length - 1) ≠ ni 32) ↔ md_rb ps[n].2 = true := by
          unfold md_rb
          by_cases hz : 0 < ps[n].2.length
          · have e1 : ps[n].2.getLast? = some (md_nth ps[n].2 (ps[n].2.length - 1)) := by
              rw [List.getLast?_eq_getElem?, md_nth_get (by omega), List.getElem?_eq_getElem (by omega)]
            rw [e1]
            simp [hz]
          · have e1 : ps[n].2.length = 0 := by omega
            rw [e1]; simp
        by_cases hr : md_rb ps[n].2 = true
        · rw [if_pos (key.mpr hr), if_pos hr]
        · rw [if_neg (fun z => hr (key.mp z)), if_neg hr]
      · rw [if_pos (by rw [decide_eq_false hbw]), if_neg hbw, ← show 6 * i + (n + 1) = 6 * i + n + 1 from rfl, ih (n + 1) (by omega), sw_some]
  apply sw_eq
  refine sw_ge (f193 hX) ?_
  have := loop ps.length 0 (by omega)
  rw [ni_mul, ← Nat.add_zero (6 * i), this, sw_some, List.drop_zero]
end RGE
