/-! ===== where the objects lie; switches, copies ===== -/
def sm_lsh : List sm_Sh := [.inl 0, .inl 1, .inl 2, .inr (.int, 8000), .inl 3, .inr (.int, 20), .inr (.int, 20), .inl 4, .inl 5, .inl 6, .inl 7, .inl 8, .inl 2, .inr (.int, 75), .inl 9, .inr (.int, 6), .inr (.int, 6), .inr (.int, 6), .inr (.int, 6), .inr (.boolean, 6), .inl 10, .inl 2, .inr (.int, 20000), .inl 11, .inl 2, .inr (.int, 16400), .inr (.int, 1061), .inr (.int, 1061), .inr (.int, 40), .inr (.int, 40), .inr (.int, 40), .inr (.int, 40), .inr (.int, 40), .inr (.boolean, 40), .inr (.int, 200), .inr (.int, 2), .inl 11, .inl 2, .inr (.int, 16400), .inr (.int, 1061), .inr (.int, 1061), .inr (.int, 40), .inr (.int, 40), .inr (.int, 40), .inr (.int, 40), .inr (.int, 40), .inr (.boolean, 40), .inr (.int, 200), .inr (.int, 2), .inl 12, .inr (.byte, 8000), .inr (.byte, 8000), .inr (.byte, 8000), .inr (.int, 40), .inr (.int, 40), .inr (.int, 40), .inr (.boolean, 40), .inr (.int, 40), .inr (.int, 40), .inr (.int, 40), .inr (.int, 40), .inr (.int, 40), .inr (.int, 40), .inr (.byte, 24000), .inr (.int, 80), .inr (.int, 80), .inr (.int, 240), .inr (.int, 240), .inr (.int, 240), .inr (.int, 240), .inr (.int, 200), .inr (.int, 200), .inr (.int, 200), .inr (.int, 200), .inr (.int, 200), .inr (.byte, 8000), .inr (.int, 8000), .inr (.int, 2), .inr (.int, 60), .inr (.int, 60), .inr (.byte, 60000), .inr (.int, 4), .inr (.int, 8000), .inr (.int, 80), .inr (.int, 8), .inr (.int, 8), .inr (.int, 8), .inr (.int, 8), .inr (.int, 8), .inr (.long, 1)]
def sm_lrf : List (List (Option Nat)) := [[some 1, some 4, some 20, none, none], [some 2, none, none, none, none], [some 3, none], [], [some 1, some 5, some 6, some 7, some 8, some 9, some 11, some 10, some 14], [], [], [some 1, none], [some 1], [some 1], [some 1, none, none, none], [some 10, some 12], [some 13, none], [], [some 1, some 15, some 16, some 17, some 18, some 19, none, none, none, none], [], [], [], [], [], [some 21], [some 22, none], [], [some 24, some 26, some 27, some 28, some 29, some 30, some 31, some 32, some 33, some 34, some 35, none, none, none, none], [some 25, none], [], [], [], [], [], [], [], [], [], [], [], [some 37, some 39, some 40, some 41, some 42, some 43, some 44, some 45, some 46, some 47, some 48, none, none, none, none], [some 38, none], [], [], [], [], [], [], [], [], [], [], [], [none, some 50, none, some 51, none, some 52, none, none, none, none, some 53, some 54, some 55, some 56, some 57, some 58, some 59, some 60, some 61, some 62, none, some 63, some 64, some 65, some 66, some 67, some 68, some 69, none, some 70, some 71, some 72, some 73, some 74, none, some 75, none, some 76, none, none, some 77, some 78, some 79, none, some 80, none, none, none, none, none, none, none, some 81, none, none, none, some 82, none, some 83, none, none, some 84, some 85, some 86, some 87, none, none, none, some 88], [], [], [], [], [], [], [], [], [], [], [], [], [], [], [], [], [], [], [], [], [], [], [], [], [], [], [], [], [], [], [], [], [], [], [], [], [], [], [], []]
def sm_tsh : List sm_Sh := [.inl 11, .inl 2, .inr (.int, 16400), .inr (.int, 1061), .inr (.int, 1061), .inr (.int, 40), .inr (.int, 40), .inr (.int, 40), .inr (.int, 40), .inr (.int, 40), .inr (.boolean, 40), .inr (.int, 200), .inr (.int, 2)]
def sm_trf : List (List (Option Nat)) := [[some 1, some 3, some 4, some 5, some 6, some 7, some 8, some 9, some 10, some 11, some 12, none, none, none, none], [some 2, none], [], [], [], [], [], [], [], [], [], [], []]
/-- a row of cells from an address on: their shapes, and what their fields point to -/
def sm_reg (C : sm_K) (a : Nat) (shs : List sm_Sh) (rfs : List (List (Option Nat))) : Prop :=
  C.2.1 ≤ a ∧ (∀ i sh, shs[i]? = some sh → C.2.2.1.1 (a + i) = some sh) ∧ (∀ i f j, (rfs.getD i []).getD f none = some j → C.2.2.1.2 (a + i) f = .ref (a + j))
def sm_Lay (C : sm_K) (X : Nat) : Prop := sm_reg C X sm_lsh sm_lrf
def sm_row (C : sm_K) (r n : Nat) : Prop := sm_reg C r [.inl 2, .inr (.int, n)] [[some 1]]
def sm_tree (C : sm_K) (t : Nat) : Prop := sm_reg C t sm_tsh sm_trf
section SLY
variable {C : sm_K} {X rr n tt : Nat}
theorem sm_Lay.s (h : sm_Lay C X) (i : Nat) {sh : sm_Sh} (hi : sm_lsh[i]? = some sh) : C.2.2.1.1 (X + i) = some sh := h.2.1 i sh hi
theorem sm_Lay.b (h : sm_Lay C X) (i : Nat) : C.2.1 ≤ X + i := Nat.le_trans h.1 (Nat.le_add_right _ _)
theorem sm_Lay.r (h : sm_Lay C X) (i f : Nat) {j : Nat} (hi : (sm_lrf.getD i []).getD f none = some j) : C.2.2.1.2 (X + i) f = .ref (X + j) := h.2.2 i f j hi
theorem sm_row.s (h : sm_row C rr n) (i : Nat) {sh : sm_Sh} (hi : ([.inl 2, .inr (.int, n)] : List sm_Sh)[i]? = some sh) : C.2.2.1.1 (rr + i) = some sh := h.2.1 i sh hi
theorem sm_row.b (h : sm_row C rr n) (i : Nat) : C.2.1 ≤ rr + i := Nat.le_trans h.1 (Nat.le_add_right _ _)
theorem sm_row.r (h : sm_row C rr n) (i f : Nat) {j : Nat} (hi : (([[some 1]] : List (List (Option Nat))).getD i []).getD f none = some j) : C.2.2.1.2 (rr + i) f = .ref (rr + j) := h.2.2 i f j hi
theorem sm_tree.s (h : sm_tree C tt) (i : Nat) {sh : sm_Sh} (hi : sm_tsh[i]? = some sh) : C.2.2.1.1 (tt + i) = some sh := h.2.1 i sh hi
theorem sm_tree.b (h : sm_tree C tt) (i : Nat) : C.2.1 ≤ tt + i := Nat.le_trans h.1 (Nat.le_add_right _ _)
theorem sm_tree.r (h : sm_tree C tt) (i f : Nat) {j : Nat} (hi : (sm_trf.getD i []).getD f none = some j) : C.2.2.1.2 (tt + i) f = .ref (tt + j) := h.2.2 i f j hi
theorem sm_row_of {a : Nat} {shs : List sm_Sh} {rfs : List (List (Option Nat))} (h : sm_reg C a shs rfs) (i : Nat) (h0 : shs[i]? = some (.inl 2)) (h1 : shs[i + 1]? = some (.inr (.int, n))) (h2 : (rfs.getD i []).getD 0 none = some (i + 1)) : sm_row C (a + i) n := by
  refine ⟨Nat.le_trans h.1 (Nat.le_add_right _ _), fun j sh hj => ?_, fun j f k hj => ?_⟩
  · match j, hj with
    | 0, hj => cases hj; exact h.2.1 i _ h0
    | 1, hj => cases hj; exact h.2.1 (i + 1) _ h1
  · match j, f, hj with
    | 0, 0, hj => cases hj; exact h.2.2 i 0 (i + 1) h2
    | 0, f + 1, hj => cases hj
    | j + 1, f, hj =>
      have : ([] : List (Option Nat)).getD f none = some k := hj
      simp at this
end SLY
/-- a text below: where its bytes stand, how many -/
def sm_sr (C : sm_K) (s w n : Nat) : Prop := C.2.2.1.1 s = some (.inl 13) ∧ C.2.2.1.2 s 0 = .ref w ∧ C.2.2.1.1 w = some (.inr (.byte, n)) ∧ s < C.2.1 ∧ w < C.2.1 ∧ C.2.2.2 s 1 = 0
def sm_lw (C : sm_K) (b n : Nat) : Prop := C.2.2.1.1 b = some (.inr (.byte, n)) ∧ b < C.2.1
def sm_ar (C : sm_K) (a n : Nat) : Prop := C.2.2.1.1 a = some (.inr (.int, n)) ∧ C.2.1 ≤ a
def sm_md (C : sm_K) : Prop := C.2.2.1.1 (C.1.1 71) = some (.inr (.int, 12)) ∧ C.1.1 71 < C.2.1
/-- the text constants: each is a text with these bytes -/
def sm_tx_ok (C : sm_K) : Prop := ∀ j, j < 71 → ∃ w, sm_sr C (C.1.1 j) w (sm_tx.getD j "").length ∧ ∀ i c, (sm_tx.getD j "").toList[i]? = some c → C.2.2.2 w i = ni c.toNat
theorem sm_tx_ok.s {C : sm_K} (h : sm_tx_ok C) (j : Nat) (hj : (j.blt 71) = true := by rfl) : C.2.2.1.1 (C.1.1 j) = some (.inl 13) := (h j (Nat.le_of_ble_eq_true hj)).choose_spec.1.1
theorem sm_ge.none (a : Option sm_o) : sm_ge a none := fun _ h => nomatch h
def sm_ordl : List Value → List Value → Prop
  | [], [] => True
  | v :: l, w :: l' => (v = sm_junk ∨ v = w) ∧ sm_ordl l l'
  | _, _ => False
theorem sm_ordl.ord : ∀ {l l' : List Value}, sm_ordl l l' → sm_ord l l'
  | [], [], _ => sm_ord.refl _
  | v :: l, w :: l', h => by
    have ih := sm_ordl.ord h.2
    refine ⟨by rw [List.length_cons, List.length_cons, ih.1], fun j => ?_⟩
    cases j with
    | zero =>
      rcases h.1 with h1 | h1
      · exact Or.inr (by rw [h1]; rfl)
      · exact Or.inl (by rw [h1]; rfl)
    | succ j => exact ih.2 j
  | [], _ :: _, h => h.elim
  | _ :: _, [], h => h.elim
/-! switches -/
def sm_sw (x : Int32) : Nat → List (Option sm_o) → Option sm_o → Option sm_o
  | _, [], d => d
  | lo, r :: rs, d => if x = ni lo then r else sm_sw x (lo + 1) rs d
def sm_swp (C : sm_K) (k pc : Nat) (lv st : List Value) (D : sm_D) : List Int → List (Option sm_o) → Prop
  | [], [] => True
  | off :: os, r :: rs => (∃ t, sm_tg pc off = some t ∧ sm_ge (sm_fx C k t lv st D) r) ∧ sm_swp C k pc lv st D os rs
  | _, _ => False
theorem ni_toInt {n : Nat} (h : n < 2147483648) : (ni n).toInt = n := by
  unfold ni
  rw [Int32.toInt_ofNat_of_lt h]
theorem sm_sw_at {C : sm_K} {k pc : Nat} {lv st : List Value} {D : sm_D} {x : Int32} {d : Option sm_o} : ∀ (os : List Int) (rs : List (Option sm_o)) (lo : Nat), lo + os.length < 2147483648 → sm_swp C k pc lv st D os rs →
    ((x.toInt < lo ∨ lo + os.length ≤ x.toInt) → sm_sw x lo rs d = d) ∧ (∀ (i : Nat) (off : Int), os[i]? = some off → x.toInt = lo + i → ∃ t, sm_tg pc off = some t ∧ sm_ge (sm_fx C k t lv st D) (sm_sw x lo rs d)) := by
  intro os
  induction os with
  | nil =>
    intro rs lo _ h
    cases rs with
    | nil => exact ⟨fun _ => rfl, fun i off hi => by cases hi⟩
    | cons r rs => exact h.elim
  | cons o os ih =>
    intro rs lo hl h
    cases rs with
    | nil => exact h.elim
    | cons r rs =>
      rw [List.length_cons] at hl
      obtain ⟨h1, h2⟩ := ih rs (lo + 1) (by omega) h.2
      have e : x = ni lo ↔ x.toInt = lo := by
        rw [← Int32.toInt_inj, ni_toInt (by omega)]
      refine ⟨fun hx => ?_, fun i off hi hx => ?_⟩
      · rw [List.length_cons] at hx
        unfold sm_sw
        rw [if_neg (by rw [e]; omega)]
        exact h1 (by omega)
      · unfold sm_sw
        cases i with
        | zero =>
          cases hi
          rw [if_pos (e.mpr (by omega))]
          exact h.1
        | succ i =>
          rw [if_neg (by rw [e]; omega)]
          exact h2 i off hi (by omega)
theorem sx_ts {C : sm_K} {k cls nd pc len dd lo : Nat} {l : List (Nat × Instr × Nat)} {lv st : List Value} {D : sm_D} {x : Int32} {d hi : Int} {os : List Int} {Rd : Option sm_o} {Rs : List (Option sm_o)} (q : sm_q k cls l nd) (j : Nat) (hr : l[j]? = some (pc, .tableswitch d lo hi os.toArray, len)) (hd : sm_tg pc d = some dd) (hh : hi + 1 = lo + os.length) (hlo : lo + os.length < 2147483648) (cd : sm_ge (sm_fx C k dd lv st D) Rd) (cs : sm_swp C k pc lv st D os Rs) :
    sm_ge (sm_fx C k pc lv (.int x :: st) D) (sm_sw x lo Rs Rd) := by
  obtain ⟨h1, h2⟩ := sm_sw_at (x := x) (d := Rd) os Rs lo hlo cs
  have hat := q.at hr
  by_cases hx : x.toInt < lo ∨ hi < x.toInt
  · rw [h1 (by omega), sf_step (sf_pu hat (pc' := dd) (lv' := lv) (st' := st) ?_) (fun _ _ => rfl)]
    · exact cd
    · show sp_tsw d lo hi os.toArray pc lv (.int x :: st) = _
      unfold sp_tsw
      dsimp only
      rw [if_pos hx, hd]
      rfl
  · have hi2 : (x.toInt - lo).toNat < os.length := by omega
    obtain ⟨off, hoff⟩ : ∃ off, os[(x.toInt - lo).toNat]? = some off := ⟨_, List.getElem?_eq_getElem hi2⟩
    obtain ⟨tt, t1, t2⟩ := h2 _ off hoff (by omega)
    rw [sf_step (sf_pu hat (pc' := tt) (lv' := lv) (st' := st) ?_) (fun _ _ => rfl)]
    · exact t2
    · show sp_tsw d lo hi os.toArray pc lv (.int x :: st) = _
      unfold sp_tsw
      dsimp only
      rw [if_neg hx]
      have e : os.toArray[(x.toInt - lo).toNat]? = some off := by rw [List.getElem?_toArray]; exact hoff
      rw [e]
      dsimp only
      rw [t1]
      rfl
/-! System.arraycopy -/
def sm_cpy (nb na b : Nat) (sp : Int32) (a : Nat) (dp n : Int32) (D : sm_D) (F : sm_D → Option sm_o) : Option sm_o :=
  if ¬ sp < 0 ∧ ¬ dp < 0 ∧ ¬ n < 0 ∧ sp.toNatClampNeg + n.toNatClampNeg ≤ nb ∧ dp.toNatClampNeg + n.toNatClampNeg ≤ na then
    F ((fun c j => if c = a ∧ dp.toNatClampNeg ≤ j ∧ j < dp.toNatClampNeg + n.toNatClampNeg then D.1 b (sp.toNatClampNeg + (j - dp.toNatClampNeg)) else D.1 c j), D.2) else none
theorem sx_cp {C : sm_K} {k cls nd pc x a b na nb : Nat} {l : List (Nat × Instr × Nat)} {lv st : List Value} {D : sm_D} {sp dp n : Int32} {F : sm_D → Option sm_o} (q : sm_q k cls l nd) (j : Nat) (hr : l[j]? = some (pc, .invokestatic x, 3)) (hv : (decide (x < 65536) && decide (sm_look sm_L (cls * 65536 + x) = none) && decide (sm_look sm_LX (cls * 65536 + x) = some (1, 0))) = true)
    (hd : 1 ≤ sm_nd k) (hw : ((sm_w st).ble 8) = true) (hb : C.2.2.1.1 b = some (.inr (.int, nb))) (ha : C.2.2.1.1 a = some (.inr (.int, na))) (hB : C.2.1 ≤ b) (hA : C.2.1 ≤ a) (cc : ∀ D, sm_ge (sm_fx C k (pc + 3) lv st D) (F D)) :
    sm_ge (sm_fx C k pc lv (.int n :: .int dp :: .ref a :: .int sp :: .ref b :: st) D) (sm_cpy nb na b sp a dp n D F) := by
  simp only [Bool.and_eq_true, decide_eq_true_eq] at hv
  intro o ho
  unfold sm_cpy at ho
  split at ho
  · next hg =>
    rw [← cc _ o ho]
    refine sf_step ?_ (fun c hc => ?_)
    · rw [sf_op (q.at hr) rfl]
      show sm_gd x (sm_stat _ _ (sm_nd k) k x 3 pc lv _ _) = _
      unfold sm_gd sm_stat sm_copy sm_key
      rw [if_pos hv.1.1, q.1, hv.1.2]
      simp only [hv.2, hb, ha]
      rw [if_pos ⟨trivial, hd, hA, hB, Nat.le_of_ble_eq_true hw, hg⟩]
      refine congrArg (fun z : Nat → Nat → Int32 => some (Sum.inl (pc + 3, lv, st, (C.2.2.1, z, D.2)))) ?_
      funext c j
      show (if c = a ∧ _ then (sm_mg C D).1 b _ else (sm_mg C D).1 c j) = if c < C.2.1 then C.2.2.2 c j else _
      by_cases hc : c < C.2.1
      · rw [if_neg (fun z => by omega), if_pos hc, sm_mg_lo hc]
      · rw [if_neg hc, sm_mg_hi hB, sm_mg_hi (by omega)]
    · funext j
      exact if_neg (fun z => by omega)
  · cases ho
