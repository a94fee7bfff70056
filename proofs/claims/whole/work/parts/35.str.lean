/-! ===== texts and small things ===== -/
def md_ix (l : List Int32) (c : Int32) : Int32 := if c ∈ l then ni (l.idxOf c) else sm_k (-1)
def md_as (l : List Int32) : Prop := ∀ x ∈ l, ∃ n, n < 128 ∧ x = ni n
def rn (v : Value) : Prop := v = .null ∨ ∃ b, v = .ref b
/-- the text constants, and the object that an index's check is handed -/
def tx (C : sm_K) : Prop := sm_tx_ok C ∧ rn C.1.2
def st (C : sm_K) (s : Nat) (l : List Int32) : Prop := ∃ w, sm_sr C s w l.length ∧ (∀ i, i < l.length → C.2.2.2 w i = md_nth l i) ∧ md_as l ∧ l.length < 1000 ∧ rn C.1.2
theorem st_tx {C : sm_K} (h : tx C) (j : Nat) {s : String} (hj : sm_tx.getD j "" = s) (h1 : (j.blt 71) = true) (h2 : (s.toList.all (fun c => c.toNat.blt 128)) = true) (h3 : s.toList.length < 1000) : st C (C.1.1 j) (md_w s) := by
  obtain ⟨w, a, b⟩ := h.1 j (Nat.le_of_ble_eq_true h1)
  rw [hj] at a b
  have e : (md_w s).length = s.length := by unfold md_w; rw [List.length_map]; rfl
  refine ⟨w, by rw [e]; exact a, fun i hi => ?_, fun x hx => ?_, by rw [e]; exact h3, h.2⟩
  · have hl : i < s.toList.length := by rw [e] at hi; exact hi
    rw [b i s.toList[i] (List.getElem?_eq_getElem hl)]
    unfold md_nth md_w
    rw [List.getD_eq_getElem?_getD, List.getElem?_map, List.getElem?_eq_getElem hl]
    rfl
  · unfold md_w at hx
    rw [List.mem_map] at hx
    obtain ⟨c, hc, rfl⟩ := hx
    exact ⟨c.toNat, Nat.le_of_ble_eq_true (List.all_eq_true.mp h2 c hc), rfl⟩
theorem md_in_iff {c : Int32} {a b : Nat} (hb : b < 2147483648) (ha : a < 2147483648) : md_in c a b = true ↔ ∃ n, a ≤ n ∧ n ≤ b ∧ c = ni n := by
  unfold md_in
  rw [Bool.and_eq_true, decide_eq_true_eq, decide_eq_true_eq]
  constructor
  · intro h
    have h0 : ni 0 ≤ c := by
      have h1 := h.1
      rw [Int32.le_iff_toInt_le, ni_toInt (by omega)] at *
      omega
    obtain ⟨n, hn, rfl⟩ := ni_of h0
    rw [ni_le (by omega) (by omega), ni_le (by omega) (by omega)] at h
    exact ⟨n, h.1, h.2, rfl⟩
  · rintro ⟨n, h1, h2, rfl⟩
    rw [ni_le (by omega) (by omega), ni_le (by omega) (by omega)]
    exact ⟨h1, h2⟩
theorem md_in_ni {n a b : Nat} (hn : n < 2147483648) (hb : b < 2147483648) (ha : a < 2147483648) : md_in (ni n) a b = (decide (a ≤ n) && decide (n ≤ b)) := by
  rw [Bool.eq_iff_iff, md_in_iff hb ha, Bool.and_eq_true, decide_eq_true_eq, decide_eq_true_eq]
  constructor
  · rintro ⟨m, h1, h2, h3⟩
    rw [ni_inj hn (by omega)] at h3
    subst h3
    exact ⟨h1, h2⟩
  · rintro ⟨h1, h2⟩
    exact ⟨n, h1, h2, rfl⟩
section STR
variable {C : sm_K} {s w b nb : Nat} {l : List Int32} {D : sm_D}
theorem md_nth_get {k : Nat} (h : k < l.length) : md_nth l k = l[k] := by
  unfold md_nth
  rw [List.getD_eq_getElem?_getD, List.getElem?_eq_getElem h]
  rfl
theorem md_nth_as (ha : md_as l) {k : Nat} (h : k < l.length) : ∃ n, n < 128 ∧ md_nth l k = ni n := by
  rw [md_nth_get h]
  exact ha _ (List.getElem_mem h)
theorem s261 (h : sm_sr C s w nb) : sm_fe C 261 [.ref s] D = some (.inl (some (.int (ni 0))), D) := by
  apply sw_eq
  refine sw_ge (f261 h) ?_
  have : (ni 1 = ni 0) = False := by rw [ni_inj (by omega) (by omega)]; simp
  simp only [sw_ite, sw_some, this, if_false, h.2.2.2.2.2]
  rw [show (0 : Int32) = ni 0 from rfl, nar_y0]
theorem s260 (h : sm_sr C s w nb) : sm_fe C 260 [.ref s] D = some (.inl (some (.int (ni nb))), D) := by
  apply sw_eq
  refine sw_ge (f260 h) ?_
  simp only [sw_bi, s261 h, sw_some, sb_i]
  rw [show (ni 0 &&& 31 : Int32) = 0 from rfl, Int32.shiftRight_zero]
theorem s263 (h : sm_sr C s w nb) : sm_fe C 263 [.ref s] D = some (.inl (some (.int (ni 1))), D) := by
  apply sw_eq
  refine sw_ge (f263 h) ?_
  have : (ni 1 = ni 0) = False := by rw [ni_inj (by omega) (by omega)]; simp
  simp only [sw_ite, sw_some, this, if_false, h.2.2.2.2.2]
  rw [if_pos (show (0 : Int32) = ni 0 from rfl), nar_b1]
theorem s290 {i n b : Nat} (h : i < n) (hn : n < 2147483648) : sm_fe C 290 [.int (ni i), .int (ni n), .ref b] D = some (.inl (some (.int (ni i))), D) := by
  apply sw_eq
  refine sw_ge f290 ?_
  simp only [sw_ite, sw_some]
  rw [if_neg (by rw [ni_lt (by omega) (by omega)]; omega), if_pos (by rw [ni_lt (by omega) (by omega)]; omega)]
  trivial
theorem s290n {i n : Nat} (h : i < n) (hn : n < 2147483648) : sm_fe C 290 [.int (ni i), .int (ni n), .null] D = some (.inl (some (.int (ni i))), D) := by
  apply sw_eq
  rw [sx_fe (m := 3) rfl rfl]
  refine sw_ge (b := if ni i < ni 0 then sm_fx C 290 9 [.int (ni i), .int (ni n), .null] [] D else if ni i < ni n then some (.inl (some (.int (ni i))), D) else sm_fx C 290 9 [.int (ni i), .int (ni n), .null] [] D) (show sm_ge (sm_fx C 290 0 [.int (ni i), .int (ni n), .null] [] D) _ from (sx_p (pc' := 1) (lv' := [.int (ni i), .int (ni n), .null]) (st' := [.int (ni i)]) q290 0 1 rfl (sx_if_lt q290 1 rfl rfl (sm_ge.refl _) (sx_p (pc' := 6) (lv' := [.int (ni i), .int (ni n), .null]) (st' := [.int (ni n), .int (ni i)]) q290 2 2 rfl (sx_icmp_lt q290 4 rfl rfl (sx_p (pc' := 17) (lv' := [.int (ni i), .int (ni n), .null]) (st' := [.int (ni i)]) q290 10 1 rfl (sx_ri (ty := .int) q290 11 rfl rfl)) (sm_ge.refl _)))))) ?_
  simp only [sw_ite, sw_some]
  rw [if_neg (by rw [ni_lt (by omega) (by omega)]; omega), if_pos (by rw [ni_lt (by omega) (by omega)]; omega)]
  trivial
theorem s264 {i n : Nat} (hv : rn C.1.2) (h : i < n) (hn : n < 2147483648) : sm_fe C 264 [.int (ni i), .int (ni n)] D = some (.inl none, D) := by
  apply sw_eq
  refine sw_ge f264 ?_
  rcases hv with hv | ⟨b, hv⟩
  · rw [hv]
    simp only [sw_bi, s290n h hn, sw_some, sb_i]
  · rw [hv]
    simp only [sw_bi, s290 h hn, sw_some, sb_i]
theorem md_c16 : ∀ n, n < 128 → (((ni n &&& ni 255).toUInt32 % 65536).toInt32) = ni n := by decide
theorem s286 {i n : Nat} (hv : rn C.1.2) (h : i < nb) (hn : nb < 1000) (hw : sm_lw C w nb) (h1 : C.2.2.2 w i = ni n) (h2 : n < 128) : sm_fe C 286 [.ref w, .int (ni i)] D = some (.inl (some (.int (ni n))), D) := by
  apply sw_eq
  refine sw_ge (f286 hw) ?_
  simp only [sw_bv, s264 hv h (by omega : nb < 2147483648), sw_some, sb_v, sw_gu]
  rw [ni_nat (by omega), h1, ni_in (by omega)]
  refine ⟨decide_eq_true h, ?_⟩
  rw [md_c16 n h2, nar_c (by omega)]
theorem s262 (h : st C s l) {k : Nat} (hk : k < l.length) : sm_fe C 262 [.ref s, .int (ni k)] D = some (.inl (some (.int (md_nth l k))), D) := by
  obtain ⟨w, h1, h2, h3, h4, hv⟩ := h
  obtain ⟨n, hn, e⟩ := md_nth_as h3 hk
  apply sw_eq
  refine sw_ge (f262 h1) ?_
  have hw : sm_lw C w l.length := ⟨h1.2.2.1, h1.2.2.2.2.1⟩
  have : (ni 1 = ni 0) = False := by rw [ni_inj (by omega) (by omega)]; simp
  simp only [sw_bi, s263 h1, sw_some, sb_i, sw_ite, this, if_false, s286 hv hk h4 hw ((h2 k hk).trans e) hn]
  rw [nar_c (by omega), e]
theorem md_ix_lt {l : List Int32} {c : Int32} (h : l.length < 2147483648) : (md_ix l c < ni 0) = ¬ (c ∈ l) := by
  unfold md_ix
  split
  · next g =>
    have : l.idxOf c < l.length := List.idxOf_lt_length_of_mem g
    rw [ni_lt (by omega) (by omega)]
    simp [g]
  · next g =>
    have : (sm_k (-1) < ni 0) = True := by decide
    rw [this]
    simp [g]
theorem s288 {c : Int32} : sm_fe C 288 [.int c] D = some (.inl (some (.int (md_b (md_in c 0 255)))), D) := by
  apply sw_eq
  refine sw_ge f288 ?_
  simp only [sw_ite, sw_some]
  unfold md_b md_in
  by_cases h1 : c < ni 0
  · rw [if_pos h1, nar_b0, decide_eq_false (Int32.not_le.mpr h1)]; rfl
  · rw [if_neg h1, decide_eq_true (Int32.not_lt.mp h1)]
    by_cases h2 : ni 255 < c
    · rw [if_pos h2, nar_b0, decide_eq_false (Int32.not_le.mpr h2)]; rfl
    · rw [if_neg h2, nar_b1, decide_eq_true (Int32.not_lt.mp h2)]; rfl
theorem s289 (hw : sm_lw C w l.length) (h2 : ∀ i, i < l.length → C.2.2.2 w i = md_nth l i) (hl : l.length < 1000) {c : Int32} : ∀ (n k : Nat), l.length - k = n → k ≤ l.length →
    sm_fx C 289 7 [.ref w, sm_junk, sm_junk, .int (ni l.length), .int c, .int (ni k)] [] D = some (.inl (some (.int (if c ∈ l.drop k then ni (k + (l.drop k).idxOf c) else sm_k (-1)))), D) := by
  intro n
  induction n with
  | zero =>
    intro k hn hk
    apply sw_eq
    refine sw_ge (n289_7 hw) ?_
    simp only [sw_ite, sw_some]
    rw [if_pos (by rw [ni_le (by omega) (by omega)]; omega), List.drop_of_length_le (by omega)]
    simp
  | succ n ih =>
    intro k hn hk
    apply sw_eq
    refine sw_ge (n289_7 hw) ?_
    have hk2 : k < l.length := by omega
    simp only [sw_ite, sw_some, sw_gu]
    rw [if_neg (by rw [ni_le (by omega) (by omega)]; omega), ni_in (by omega), ni_nat (by omega), h2 k hk2, md_nth_get hk2]
    refine ⟨decide_eq_true hk2, ?_⟩
    have e : l.drop k = l[k] :: l.drop (k + 1) := List.drop_eq_getElem_cons hk2
    by_cases hc : l[k] = c
    · rw [if_pos hc, e, if_pos (by rw [hc]; exact List.mem_cons_self), hc, List.idxOf_cons_self]
      rfl
    · rw [if_neg hc, ni_add, ih (k + 1) (by omega) (by omega), sw_some, e]
      have hc' : ¬ c = l[k] := fun h => hc h.symm
      by_cases hm : c ∈ l.drop (k + 1)
      · rw [if_pos hm, if_pos (List.mem_cons_of_mem _ hm), List.idxOf_cons, beq_false_of_ne hc]
        rw [show k + 1 + (l.drop (k + 1)).idxOf c = k + ((l.drop (k + 1)).idxOf c + 1) from by omega]
        rfl
      · rw [if_neg hm, if_neg (by rw [List.mem_cons]; exact fun h => h.elim hc' hm)]
theorem md_i8 : ∀ n, n < 128 → (ni n).toInt8.toInt32 = ni n := by decide
set_option maxRecDepth 4000 in
theorem md_i8' : ∀ n, n < 256 → 128 ≤ n → (ni n).toInt8.toInt32 < ni 0 := by decide
theorem s266 (h : st C s l) {c : Int32} : sm_fe C 266 [.ref s, .int c, .int (ni 0)] D = some (.inl (some (.int (md_ix l c))), D) := by
  obtain ⟨w, h1, h2, h3, h4, -⟩ := h
  have hw : sm_lw C w l.length := ⟨h1.2.2.1, h1.2.2.2.2.1⟩
  have t1 : (ni 1 = ni 0) = False := by rw [ni_inj (by omega) (by omega)]; simp
  have m1 : sm_fe C 283 [.int (ni 0), .int (ni 0)] D = some (.inl (some (.int (ni 0))), D) := by
    apply sw_eq
    refine sw_ge f283 ?_
    simp only [sw_ite, sw_some]
    split <;> trivial
  have m2 : sm_fe C 284 [.int (ni l.length), .int (ni l.length)] D = some (.inl (some (.int (ni l.length))), D) := by
    apply sw_eq
    refine sw_ge f284 ?_
    simp only [sw_ite, sw_some]
    split <;> trivial
  have hm : ∀ x ∈ l, md_in x 0 255 = true := fun x hx => by
    obtain ⟨n, hn, rfl⟩ := h3 x hx
    exact (md_in_iff (by omega) (by omega)).mpr ⟨n, by omega, by omega, rfl⟩
  apply sw_eq
  refine sw_ge (f266 h1) ?_
  simp only [sw_bi, s263 h1, sw_some, sb_i, sw_ite, t1, if_false, s260 h1]
  refine sw_ge (f287 hw) ?_
  simp only [sw_bi, s288, sw_some, sb_i, sw_ite]
  by_cases hc : md_in c 0 255 = true
  · rw [hc, show md_b true = ni 1 from rfl, if_neg (by rw [t1]; exact id), m1, sw_some]
    simp only [sb_i, sw_bi, m2, sw_some, sw_ite]
    obtain ⟨n, -, hn, rfl⟩ := (md_in_iff (by omega) (by omega)).mp hc
    have key : sm_fx C 289 7 [.ref w, sm_junk, sm_junk, .int (ni l.length), .int ((ni n).toInt8.toInt32), .int (ni 0)] [] D = some (.inl (some (.int (md_ix l (ni n)))), D) := by
      rw [s289 hw h2 h4 _ 0 rfl (by omega), List.drop_zero, Nat.zero_add]
      unfold md_ix
      by_cases hn2 : n < 128
      · rw [md_i8 n hn2]
      · rw [if_neg, if_neg]
        · intro hx
          obtain ⟨m, hm1, hm2⟩ := h3 _ hx
          rw [ni_inj (by omega) (by omega)] at hm2
          omega
        · intro hx
          obtain ⟨m, hm1, hm2⟩ := h3 _ hx
          have := md_i8' n (by omega) (by omega)
          rw [hm2, ni_lt (by omega) (by omega)] at this
          omega
    by_cases hl : 0 < l.length
    · rw [if_pos (by rw [ni_lt (by omega) (by omega)]; exact hl)]
      refine sw_ge (f289 hw) ?_
      rw [key]
      simp only [sw_some, sb_i]
    · rw [if_neg (by rw [ni_lt (by omega) (by omega)]; exact hl)]
      have : l = [] := List.length_eq_zero_iff.mp (by omega)
      subst this
      rfl
  · rw [Bool.not_eq_true] at hc
    rw [hc, if_pos (show md_b false = ni 0 from rfl), md_ix, if_neg (fun hx => by rw [hm c hx] at hc; cases hc)]
theorem s265 (h : st C s l) {c : Int32} : sm_fe C 265 [.ref s, .int c] D = some (.inl (some (.int (md_ix l c))), D) := by
  have h0 := h
  obtain ⟨w, h1, h2, h3, h4, -⟩ := h
  apply sw_eq
  refine sw_ge (f265 h1) ?_
  simp only [sw_bi, s266 h0, sw_some, sb_i]
end STR
