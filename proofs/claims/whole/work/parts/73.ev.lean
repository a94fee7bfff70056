/-! ===== what calls answer of a message ===== -/
/-- a number below a bound -/
def ac_in (v : Int32) (n : Nat) : Option Nat := if 0 ≤ v.toInt ∧ v.toInt < n then some v.toInt.toNat else none
theorem ac_in_some {v : Int32} {n k : Nat} (h : ac_in v n = some k) : k < n ∧ v = ni k := by
  unfold ac_in at h
  split at h
  · next g =>
    cases h
    refine ⟨by omega, ?_⟩
    rw [← Int32.toInt_inj, ni_toInt (by have := Int32.toInt_lt v; omega)]
    omega
  · cases h
theorem ac_in_ni {n k : Nat} (h : k < n) (hn : n < 2147483648) : ac_in (ni k) n = some k := by
  unfold ac_in
  rw [ni_toInt (by omega), if_pos (by omega)]
  rfl
theorem ac_in_none {v : Int32} {n : Nat} (h : ac_in v n = none) : v.toInt < 0 ∨ (n : Int) ≤ v.toInt := by
  unfold ac_in at h
  split at h
  · cases h
  · next g => omega
/-- a letter of a text, or how many it has -/
def ac_item (l : List Int32) (k : Int32) : Except Nat Int32 := if k = sm_k (-1) then .ok (ni l.length) else match ac_in k l.length with
  | some j => .ok (md_nth l j)
  | none => .error 2
def ac_pc (es : List md_E) (v : Int32) : Nat := (es.filter (fun u => u.1 == v)).length
/-- the number of the k-th part from a place on -/
def ac_pn (v k : Int32) : List md_E → Nat → Nat → Int32
  | [], _, _ => sm_k (-1)
  | u :: es, seen, j => if u.1 = v then (if ni seen = k then ni j else ac_pn v k es (seen + 1) (j + 1)) else ac_pn v k es seen (j + 1)
def ac_ent (m : md_M) (i : Int32) : Except Nat (Nat × md_E) := match ac_in i m.1.length with
  | none => .error 2
  | some j => match m.1[j]? with
    | none => .error 2
    | some u => .ok (j, u)
def ac_entity (m : md_M) (i what : Int32) : Except Nat Int32 := do
  let (_, u) ← ac_ent m i
  match ac_in what 7 with
  | some 0 => .ok u.1
  | some 1 => .ok (ni (ac_pc m.1 i))
  | some 2 => .ok (ni u.2.1.length)
  | some 3 => .ok (ni u.2.2.2.2.2.length)
  | some 4 => .ok (ni u.2.2.2.1)
  | some 5 => .ok (ni u.2.2.1.2.2.length)
  | some _ => .ok (md_b u.2.2.2.2.1)
  | none => .error 2
def ac_part (m : md_M) (i k : Int32) : Except Nat Int32 := do
  let _ ← ac_ent m i
  .ok (ac_pn i k m.1 0 0)
def ac_octet (m : md_M) (i k : Int32) : Except Nat Int32 := do
  let (_, u) ← ac_ent m i
  match ac_in k u.2.2.2.2.2.length with
  | some j => .ok (md_nth u.2.2.2.2.2 j)
  | none => .error 2
def ac_fld (m : md_M) (i f : Int32) : Except Nat md_F := do
  let (_, u) ← ac_ent m i
  match ac_in f u.2.1.length with
  | none => .error 2
  | some j => match u.2.1[j]? with
    | none => .error 2
    | some h => .ok h
def ac_kind (m : md_M) (i f : Int32) : Except Nat Int32 := do
  let h ← ac_fld m i f
  .ok (ni h.1)
def ac_letter (T : Nat → Int32) (m : md_M) (i f w k : Int32) : Except Nat Int32 := do
  let h ← ac_fld m i f
  match ac_in w 2 with
  | none => .error 2
  | some 0 => ac_item (md_sl T h.2.1 h.2.2.1) k
  | some _ => ac_item (md_chs T h.2.2.2 (md_go T h.2.2.2 (h.2.2.1 + 1))) k
def ac_type (m : md_M) (i w k : Int32) : Except Nat Int32 := do
  let (_, u) ← ac_ent m i
  match ac_in w 2 with
  | none => .error 2
  | some 0 => ac_item u.2.2.1.1 k
  | some _ => ac_item u.2.2.1.2.1 k
def ac_param (m : md_M) (i n w k : Int32) : Except Nat Int32 := do
  let (_, u) ← ac_ent m i
  match ac_in n u.2.2.1.2.2.length with
  | none => .error 2
  | some j => match ac_in w 2 with
    | none => .error 2
    | some 0 => ac_item ((u.2.2.1.2.2[j]?).getD ([], [])).1 k
    | some _ => ac_item ((u.2.2.1.2.2[j]?).getD ([], [])).2 k
def ac_date (m : md_M) (w : Int32) : Except Nat Int64 := match ac_in w 2 with
  | none => .error 2
  | some 0 => .ok (Int64.ofInt m.2.2.1.1)
  | some _ => .ok (Int32.ofInt m.2.2.1.2).toInt64
def ac_addrs (m : md_M) (kd : Int32) : Except Nat Int32 := if kd = ni 5 then .ok (ni (m.2.2.2 false).length) else if kd = ni 6 then .ok (ni (m.2.2.2 true).length) else .error 1
def ac_addr (m : md_M) (kd n w k : Int32) : Except Nat Int32 :=
  if kd = ni 5 ∨ kd = ni 6 then
    match ac_in n (m.2.2.2 (decide (kd = ni 6))).length with
    | none => .error 2
    | some j => match ac_in w 3 with
      | none => .error 2
      | some 0 => ac_item (((m.2.2.2 (decide (kd = ni 6)))[j]?).getD ([], [], [])).1 k
      | some 1 => ac_item (((m.2.2.2 (decide (kd = ni 6)))[j]?).getD ([], [], [])).2.1 k
      | some _ => ac_item (((m.2.2.2 (decide (kd = ni 6)))[j]?).getD ([], [], [])).2.2 k
  else .error 1
/-- a call's answer that changes nothing -/
def rI (D : sm_D) (r : Except Nat Int32) : Option sm_o := match r with
  | .ok v => some (.inl (some (.int v)), D)
  | .error z => some (.inr D.2.2.2.1, sm_thr D z)
/-- a tree that holds a message, in a heap -/
def TR (T : Nat → Int32) (t : Nat) (D : sm_D) (m : md_M) : Prop := ∃ pl σ, D.1 (t + 1) 1 = ni pl.length ∧ pl.length ≤ 16400 ∧ (∀ i, i < pl.length → D.1 (t + 2) i = md_nth pl i) ∧ SL (D.1 (t + 3)) (D.1 (t + 4)) pl σ ∧ MG T t D σ m
section CAC
variable {C : sm_K} {X t N : Nat} {T T' : Nat → Int32} {D : sm_D}
theorem c11 (hX : sm_Lay C X) {v : Int32} {n : Nat} (hn : n < 2147483648) : sm_fe C 11 [.ref X, .int v, .int (ni n)] D = (match ac_in v n with | some _ => some (.inl none, D) | none => some (.inr D.2.2.2.1, sm_thr D 2)) := by
  have h9 : sm_fx C 11 9 [sm_junk, sm_junk, sm_junk] [] D = some (.inr D.2.2.2.1, sm_thr D 2) := by
    apply sw_eq
    refine sw_ge (n11_9 hX) ?_
    rw [sw_some]
  have go : ∀ o : sm_o, sw (sm_fe C 11 [.ref X, .int v, .int (ni n)] D) (fun w E => (w, E) = o) → sm_fe C 11 [.ref X, .int v, .int (ni n)] D = some o := fun o ho => by
    obtain ⟨w, E, h1, h2⟩ := ho
    rw [h1, h2]
  cases hv : ac_in v n with
  | some k =>
    obtain ⟨hk, rfl⟩ := ac_in_some hv
    apply go
    refine sw_ge (f11 hX) ?_
    simp (disch := omega) only [sw_ite, ni_lt, sw_some]
    rw [if_neg (by omega), if_pos hk]
    trivial
  | none =>
    have := ac_in_none hv
    apply go
    refine sw_ge (f11 hX) ?_
    simp only [sw_ite, h9, sw_some]
    by_cases h1 : v < ni 0
    · rw [if_pos h1]
      trivial
    · rw [if_neg h1, if_neg (fun z => by
        rw [Int32.lt_iff_toInt_lt, ni_toInt (by omega)] at h1
        rw [Int32.lt_iff_toInt_lt, ni_toInt hn] at z
        omega)]
      trivial
theorem cs_tr (ht : t = X + 23 ∨ t = X + 36) {pl : List Int32} (h0 : D.1 (t + 1) 1 = ni pl.length) (hi : ∀ i, i < pl.length → D.1 (t + 2) i = md_nth pl i) : ∃ T0 e p, D = cs X t T0 e (ts t D (D.1 (t + 3)) (D.1 (t + 4))) p pl := by
  obtain ⟨p, hp⟩ := ni_any (D.1 (X + 1) 2)
  refine ⟨fun _ => D.1 (X + 1) 4, p + 1, p, Prod.ext ?_ rfl⟩
  funext a i
  unfold cs ts
  dsimp only
  by_cases h1 : a = X + 1
  · subst h1
    rw [if_pos rfl]
    by_cases h2 : i = 2
    · rw [if_pos h2, h2, hp]
    · rw [if_neg h2]
      by_cases h4 : i = 4
      · rw [if_pos h4, h4]
        unfold md_cu
        rw [if_pos (Nat.lt_succ_self _)]
      · rw [if_neg h4, if_neg (by omega), if_neg (by omega)]
  · rw [if_neg h1]
    by_cases h2 : a = t + 1
    · subst h2
      rw [if_pos rfl]
      by_cases h3 : i = 1
      · rw [if_pos h3, h3, h0]
      · rw [if_neg h3, if_neg (by omega), if_neg (by omega)]
    · rw [if_neg h2]
      by_cases h3 : a = t + 2
      · subst h3
        rw [if_pos rfl]
        by_cases h4 : i < pl.length
        · rw [if_pos h4, hi i h4]
        · rw [if_neg h4, if_neg (by omega), if_neg (by omega)]
      · rw [if_neg h3]
        by_cases h5 : a = t + 3
        · rw [if_pos h5, h5]
        · rw [if_neg h5]
          by_cases h6 : a = t + 4
          · rw [if_pos h6, h6]
          · rw [if_neg h6]
theorem a138 (hH : cH C X t T' N D) {pl : List Int32} {σ : Nat → List Int32} (h0 : D.1 (t + 1) 1 = ni pl.length) (hi : ∀ i, i < pl.length → D.1 (t + 2) i = md_nth pl i) (hS : SL (D.1 (t + 3)) (D.1 (t + 4)) pl σ) {k : Nat} (hk : k < 1061) : sm_fe C 138 [.ref t, .int (ni k)] D = some (.inl (some (.int (ni (σ k).length))), D) := by
  obtain ⟨T0, e, p, eD⟩ := cs_tr (X := X) hH.2.1 h0 hi
  have := c138 (T0 := T0) (e := e) (p := p) hH hk hS
  rw [← eD] at this
  exact this
theorem a139 (hH : cH C X t T' N D) {pl : List Int32} {σ : Nat → List Int32} (h0 : D.1 (t + 1) 1 = ni pl.length) (hl : pl.length ≤ 16400) (hi : ∀ i, i < pl.length → D.1 (t + 2) i = md_nth pl i) (hS : SL (D.1 (t + 3)) (D.1 (t + 4)) pl σ) {k j : Nat} (hk : k < 1061) (hj : j < (σ k).length) : sm_fe C 139 [.ref t, .int (ni k), .int (ni j)] D = some (.inl (some (.int (md_nth (σ k) j))), D) := by
  obtain ⟨T0, e, p, eD⟩ := cs_tr (X := X) hH.2.1 h0 hi
  have := c139 (T0 := T0) (e := e) (p := p) hH hk hS hl hj
  rw [← eD] at this
  exact this
theorem a17 (hH : cH C X t T' N D) (hl : C.2.2.1.2 X 3 = .ref t) {pl : List Int32} {σ : Nat → List Int32} (h0 : D.1 (t + 1) 1 = ni pl.length) (hpl : pl.length ≤ 16400) (hi : ∀ i, i < pl.length → D.1 (t + 2) i = md_nth pl i) (hS : SL (D.1 (t + 3)) (D.1 (t + 4)) pl σ) {k : Nat} (hk : k < 1061) {v : Int32} : sm_fe C 17 [.ref X, .int (ni k), .int v] D = rI D (ac_item (σ k) v) := by
  have hX := hH.1
  have tr := (sm_tree_of hX hH.2.1).1
  have hlen := (hS k hk).2.1
  have go : ∀ o : sm_o, sw (sm_fe C 17 [.ref X, .int (ni k), .int v] D) (fun w E => (w, E) = o) → sm_fe C 17 [.ref X, .int (ni k), .int v] D = some o := fun o ho => by
    obtain ⟨w, E, h1, h2⟩ := ho
    rw [h1, h2]
  unfold ac_item
  by_cases hv : v = sm_k (-1)
  · rw [if_pos hv]
    apply go
    refine sw_ge (f17 hX tr hl) ?_
    simp only [sw_bi, a138 hH h0 hi hS hk, sw_some, sb_i, sw_ite]
    rw [if_pos hv]
    trivial
  · rw [if_neg hv]
    cases ha : ac_in v (σ k).length with
    | some j =>
      obtain ⟨hj, rfl⟩ := ac_in_some ha
      apply go
      refine sw_ge (f17 hX tr hl) ?_
      simp only [sw_bi, a138 hH h0 hi hS hk, sw_some, sb_i, sw_ite, sw_bv, c11 hX (show (σ k).length < 2147483648 by omega), ha, sb_v, a139 hH h0 hpl hi hS hk hj]
      rw [if_neg hv]
      trivial
    | none =>
      apply go
      refine sw_ge (f17 hX tr hl) ?_
      simp only [sw_bi, a138 hH h0 hi hS hk, sw_some, sb_i, sw_ite, sw_bv, c11 hX (show (σ k).length < 2147483648 by omega), ha, sb_v]
      rw [if_neg hv]
      exact ⟨sm_tw_thr D 2, trivial⟩
end CAC
