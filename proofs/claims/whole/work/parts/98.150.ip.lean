/-! ===== rules of the law's own runs ===== -/
noncomputable def lx_ex (call : sm_F') (pc : Nat) (lv st : List Value) (S : sm_S) : sm_R := sm_lim (lx_step call) (pc, lv, st, S)
def lx_in (l : List (Nat × Instr × Nat)) : Prop := ∀ r ∈ l, sm_look lx_i r.1 = some (r.2.1, r.2.2)
theorem lx_in_of {l : List (Nat × Instr × Nat)} (h : l.all (fun r => decide (sm_look lx_i r.1 = some (r.2.1, r.2.2))) = true) : lx_in l := fun r hr => of_decide_eq_true (List.all_eq_true.mp h r hr)
section LXR
variable {call : sm_F'} {pc pc' x y n b len t : Nat} {l : List (Nat × Instr × Nat)} {lv lv' st st' as rest : List Value} {S S' : sm_S}
theorem lx_go (hs : lx_step call (pc, lv, st, S) = some (.inl (pc', lv', st', S'))) : lx_ex call pc lv st S = lx_ex call pc' lv' st' S' := sm_lim_go hs
theorem lx_at (q : lx_in l) (j : Nat) {i : Instr} (hr : l[j]? = some (pc, i, len)) : sm_look lx_i pc = some (i, len) := q _ (List.mem_of_getElem? hr)
theorem lx_pu {i : Instr} (hat : sm_look lx_i pc = some (i, len)) (h : sm_pu i len pc lv st = some (pc', lv', st')) : lx_step call (pc, lv, st, S) = some (.inl (pc', lv', st', S)) := by
  unfold lx_step
  rw [hat]
  dsimp only
  rw [h]
theorem lx_o {i : Instr} (hat : sm_look lx_i pc = some (i, len)) (h : sm_pu i len pc lv st = none) : lx_step call (pc, lv, st, S) = lx_op call i len pc lv st S := by
  unfold lx_step
  rw [hat]
  dsimp only
  rw [h]
theorem lx_pl : ∀ (rs : List (Nat × Instr × Nat)) (pc : Nat) (lv st : List Value), lx_in rs → sm_pl rs (pc, lv, st) = some (pc', lv', st') → lx_ex call pc lv st S = lx_ex call pc' lv' st' S := by
  intro rs
  induction rs with
  | nil => intro pc lv st _ h; cases h; rfl
  | cons r rs ih =>
    intro pc lv st hm h
    unfold sm_pl at h
    split at h
    · next he =>
      split at h
      · next c' hc =>
        obtain ⟨pc1, lv1, st1⟩ := c'
        have hat := hm r List.mem_cons_self
        rw [he] at hat
        rw [lx_go (lx_pu hat (sm_pv_pu hc))]
        exact ih pc1 lv1 st1 (fun s hs => hm s (List.mem_cons_of_mem _ hs)) h
      · cases h
    · cases h
theorem lx_p (q : lx_in l) (j n : Nat) (h : sm_pl ((l.drop j).take n) (pc, lv, st) = some (pc', lv', st')) : lx_ex call pc lv st S = lx_ex call pc' lv' st' S :=
  lx_pl ((l.drop j).take n) pc lv st (fun r hr => q r (List.mem_of_mem_drop (List.mem_of_mem_take hr))) h
theorem lx_al (q : lx_in l) (j : Nat) (hr : l[j]? = some (pc, .iaload, 1)) {v : Int32} {L : Nat} (hs : S.1.1 b = some (.inr (.int, L))) (hi : sm_in_b v L = true) : lx_ex call pc lv (.int v :: .ref b :: st) S = lx_ex call (pc + 1) lv (.int (S.2.1 b v.toNatClampNeg) :: st) S := by
  refine lx_go ?_
  rw [lx_o (lx_at q j hr) rfl]
  show sm_ald [.int] 1 pc lv (.int v :: .ref b :: st) S = _
  unfold sm_ald
  dsimp only
  rw [hs]
  exact if_pos ⟨rfl, List.mem_singleton.mpr rfl, hi⟩
theorem lx_ll (q : lx_in l) (j : Nat) (hr : l[j]? = some (pc, .laload, 1)) {v : Int32} {L : Nat} (hs : S.1.1 b = some (.inr (.long, L))) (hi : sm_in_b v L = true) : lx_ex call pc lv (.int v :: .ref b :: st) S = lx_ex call (pc + 1) lv (.long (S.2.2.1 b v.toNatClampNeg) :: st) S := by
  refine lx_go ?_
  rw [lx_o (lx_at q j hr) rfl]
  show sm_ald [.long] 1 pc lv (.int v :: .ref b :: st) S = _
  unfold sm_ald
  dsimp only
  rw [hs]
  exact if_pos ⟨rfl, List.mem_singleton.mpr rfl, hi⟩
theorem lx_len (q : lx_in l) (j : Nat) (hr : l[j]? = some (pc, .arraylength, 1)) {ty : FieldType} {L : Nat} (hs : S.1.1 b = some (.inr (ty, L))) : lx_ex call pc lv (.ref b :: st) S = lx_ex call (pc + 1) lv (.int (ni L) :: st) S := by
  refine lx_go ?_
  rw [lx_o (lx_at q j hr) rfl]
  show sm_alen 1 pc lv (.ref b :: st) S = _
  unfold sm_alen
  dsimp only
  rw [hs]
  rfl
theorem lx_if (q : lx_in l) (j : Nat) {c : ClassFile.Cond} {off : Int} (hr : l[j]? = some (pc, .ifCond c off, 3)) (ht : sm_tg pc off = some t) {v : Int32} : lx_ex call pc lv (.int v :: st) S = lx_ex call (if sm_cmp c v 0 then t else pc + 3) lv st S := by
  refine lx_go (lx_pu (lx_at q j hr) ?_)
  show sp_if c off 3 pc lv (.int v :: st) = _
  unfold sp_if
  rw [ht]
  rfl
theorem lx_ic (q : lx_in l) (j : Nat) {c : ClassFile.Cond} {off : Int} (hr : l[j]? = some (pc, .if_icmp c off, 3)) (ht : sm_tg pc off = some t) {v w : Int32} : lx_ex call pc lv (.int v :: .int w :: st) S = lx_ex call (if sm_cmp c w v then t else pc + 3) lv st S := by
  refine lx_go (lx_pu (lx_at q j hr) ?_)
  show sp_icmp c off 3 pc lv (.int v :: .int w :: st) = _
  unfold sp_icmp
  rw [ht]
  rfl
theorem lx_cl_of {w : Option Value} (h : call y as S = some (.inl w, S')) : lx_cl call y as S = some (.inl w, S') := by
  unfold lx_cl
  rw [h]
/-- keys of the law's own class -/
theorem lx_lk (h : sm_lk 14 x y = true) : x < 65536 ∧ ∃ nb, sm_look sm_L (sm_key 267 x) = some (y, nb) := sm_lk_i (k := 267) h rfl
theorem lx_S {w : Option Value} (q : lx_in l) (j : Nat) (hr : l[j]? = some (pc, .invokestatic x, 3)) (hl : sm_lk 14 x y = true) (hs : (sm_m y).2.1.2.2 = true) (hna : sm_na y = n) (h1 : (n.ble st.length) = true) (h2 : (st.take n).reverse = as) (h3 : st.drop n = rest) (h4 : ((sm_w rest).ble 8) = true) (hc : call y as S = some (.inl w, S')) : lx_ex call pc lv st S = lx_ex call (pc + 3) lv (w.toList ++ rest) S' := by
  obtain ⟨g1, nb, g2⟩ := lx_lk hl
  subst hna h2 h3
  refine lx_go ?_
  rw [lx_o (lx_at q j hr) rfl]
  show sm_gd x (sm_calls (lx_cl call) 267 x 3 pc lv st S) = _
  unfold sm_gd sm_calls
  rw [if_pos g1, g2]
  dsimp only
  rw [if_pos ⟨rfl, hs, Nat.le_of_ble_eq_true h1, Nat.le_of_ble_eq_true h4⟩, lx_cl_of hc]
  rfl
theorem lx_V {w : Option Value} (q : lx_in l) (j : Nat) (hr : l[j]? = some (pc, .invokevirtual x, 3)) (hl : sm_lk 14 x y = true) (hs : ((sm_m y).2.1.2.2 = false ∧ ¬ (sm_m y).1.1.name = "<init>") ∧ (sm_m y).2.1.1 < 14) (hna : sm_na y = n) (h1 : (n.ble st.length) = true) (h2 : (st.take n).reverse = as) (h3 : st.drop n = .ref b :: rest) (h4 : ((sm_w rest).ble 8) = true) (hb : S.1.1 b = some (.inl (sm_m y).2.1.1)) (hc : call y (.ref b :: as) S = some (.inl w, S')) : lx_ex call pc lv st S = lx_ex call (pc + 3) lv (w.toList ++ rest) S' := by
  obtain ⟨g1, nb, g2⟩ := lx_lk hl
  subst hna h2
  refine lx_go ?_
  rw [lx_o (lx_at q j hr) rfl]
  show sm_gd x (sm_callv (lx_cl call) 267 x 3 pc lv st S) = _
  unfold sm_gd sm_callv
  rw [if_pos g1, g2]
  dsimp only
  rw [h3]
  dsimp only
  rw [if_pos ⟨rfl, hs.1.1, hs.1.2, Nat.le_of_ble_eq_true h1, Nat.le_of_ble_eq_true h4, hs.2, hb⟩, lx_cl_of hc]
  rfl
theorem lx_I {w : Option Value} (q : lx_in l) (j : Nat) (hr : l[j]? = some (pc, .invokespecial x, 3)) (hl : sm_lk 14 x y = true) (hs : (sm_m y).2.1.2.2 = false ∧ (sm_m y).1.1.name = "<init>") (hna : sm_na y = n) (h1 : (n.ble st.length) = true) (h2 : (st.take n).reverse = as) (h3 : st.drop n = .ref b :: rest) (h4 : ((sm_w rest).ble 8) = true) (hc : call y (.ref b :: as) S = some (.inl w, S')) : lx_ex call pc lv st S = lx_ex call (pc + 3) lv (w.toList ++ rest) S' := by
  obtain ⟨g1, nb, g2⟩ := lx_lk hl
  subst hna h2
  refine lx_go ?_
  rw [lx_o (lx_at q j hr) rfl]
  show sm_gd x (lx_calli (lx_cl call) x 3 pc lv st S) = _
  unfold sm_gd lx_calli
  rw [if_pos g1, g2]
  dsimp only
  rw [h3]
  dsimp only
  rw [if_pos ⟨rfl, hs.1, hs.2, Nat.le_of_ble_eq_true h1, Nat.le_of_ble_eq_true h4⟩, lx_cl_of hc]
  rfl
theorem lx_N (q : lx_in l) (j : Nat) (hr : l[j]? = some (pc, .new x, 3)) {c sl : Nat} (hx : x < 65536) (hl : sm_look sm_N (14 * 65536 + x) = some (c, sl)) (hc : c < 13) : lx_ex call pc lv st S = lx_ex call (pc + 3) lv (.ref S.2.2.2.2.1 :: st) (sm_new S (.inl c) sl) := by
  refine lx_go ?_
  rw [lx_o (lx_at q j hr) rfl]
  show sm_gd x (sm_newo false 267 x 3 pc lv st S) = _
  unfold sm_gd sm_newo
  rw [if_pos hx, show sm_key 267 x = 14 * 65536 + x from rfl, hl]
  exact if_pos ⟨rfl, rfl, hc⟩
theorem lx_NA (q : lx_in l) (j : Nat) (hr : l[j]? = some (pc, .newarray .long, 2)) {v : Int32} (h1 : ¬ v < 0) (h2 : v.toNatClampNeg ≤ 60000) : lx_ex call pc lv (.int v :: st) S = lx_ex call (pc + 2) lv (.ref S.2.2.2.2.1 :: st) (sm_new S (.inr (.long, v.toNatClampNeg)) v.toNatClampNeg) := by
  refine lx_go ?_
  rw [lx_o (lx_at q j hr) rfl]
  show sm_newa false .long 2 pc lv (.int v :: st) S = _
  unfold sm_newa
  dsimp only
  exact if_pos ⟨rfl, rfl, Or.inr (Or.inr (Or.inr rfl)), h1, h2⟩
theorem lx_R (q : lx_in l) (j : Nat) (hr : l[j]? = some (pc, .ireturn, 1)) {v : Int32} : lx_ex call pc lv [.int v] S = some (.inl (some (.int v)), S) := by
  unfold lx_ex
  refine sm_lim_end ?_
  rw [lx_o (lx_at q j hr) rfl]
  rfl
end LXR
theorem lx_eq (x : Int32) : sm_cmp .eq x x = true := decide_eq_true rfl
theorem lx_bd {I k L : Nat} (h : I + k < L) (hL : L ≤ 3072) : sm_in_b (ni I + ni k) L = true := by
  rw [ni_add, ni_in (by omega)]
  exact decide_eq_true h
/-- an argument out of the script -/
def lb_g (C : sm_K) (b I k : Nat) : Int32 := C.2.2.2 b (ni I + ni k).toNatClampNeg
def LB (C : sm_K) (X b L I : Nat) (D : sm_D) : Prop := sm_Lay C X ∧ (∀ a, a < C.2.1 → D.1 a = C.2.2.2 a) ∧ b < C.2.1 ∧ C.2.2.1.1 b = some (.inr (.int, L)) ∧ I + 6 ≤ L ∧ L ≤ 3072
theorem lx_ar {call : sm_F'} {C : sm_K} {D : sm_D} {pc b I L : Nat} {l : List (Nat × Instr × Nat)} {lv st : List Value} (q : lx_in l) (j k : Nat) (hr : l[j]? = some (pc, .iaload, 1)) (hs : C.2.2.1.1 b = some (.inr (.int, L))) (hi : I + k < L) (hL : L ≤ 3072) (hD : D.1 b = C.2.2.2 b) : lx_ex call pc lv (.int (ni I + ni k) :: .ref b :: st) (C.2.2.1, D) = lx_ex call (pc + 1) lv (.int (lb_g C b I k) :: st) (C.2.2.1, D) := by
  rw [lx_al (S := (C.2.2.1, D)) q j hr hs (lx_bd hi hL)]
  show lx_ex call (pc + 1) lv (.int (D.1 b (ni I + ni k).toNatClampNeg) :: st) (C.2.2.1, D) = _
  rw [hD]
  rfl
