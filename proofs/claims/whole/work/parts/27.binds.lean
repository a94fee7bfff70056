/-! ===== rules of runs: calls and ends ===== -/
def sm_tw (D : sm_D) (a : Nat) : Bool := match D.2.2.1 a with
  | some y => decide (y % 2 = 1)
  | none => false
def sm_bi (r : Option sm_o) (f : Int32 → sm_D → Option sm_o) : Option sm_o := match r with
  | some (.inl (some (.int x)), D) => f x D
  | some (.inr a, D) => if sm_tw D a then some (.inr a, D) else none
  | _ => none
def sm_bj (r : Option sm_o) (f : Int64 → sm_D → Option sm_o) : Option sm_o := match r with
  | some (.inl (some (.long x)), D) => f x D
  | some (.inr a, D) => if sm_tw D a then some (.inr a, D) else none
  | _ => none
def sm_bv (r : Option sm_o) (f : sm_D → Option sm_o) : Option sm_o := match r with
  | some (.inl none, D) => f D
  | some (.inr a, D) => if sm_tw D a then some (.inr a, D) else none
  | _ => none
theorem sm_fe_some {C : sm_K} {y d : Nat} {as : List Value} {D D1 : sm_D} {v : Option Value ⊕ Nat} (hd : sm_nd y ≤ d) (h : sm_fe C y as D = some (v, D1)) : sm_ev C.1 C.2.1 true d y as (C.2.2.1, sm_mg C D) = some (v, (C.2.2.1, sm_mg C D1)) ∧ ∀ a, a < C.2.1 → D1.1 a = D.1 a := by
  unfold sm_fe at h
  cases hr : sm_ev C.1 C.2.1 true (sm_nd y) y as (C.2.2.1, sm_mg C D) with
  | none => rw [hr] at h; cases h
  | some o =>
    obtain ⟨w, S'⟩ := o
    rw [hr] at h
    obtain ⟨h1, h2⟩ := sq_ev (q' := true) _ d y as _ _ hd hr
    cases h
    refine ⟨?_, fun a ha => ?_⟩
    · rw [h1]
      have e : S' = (C.2.2.1, sm_mg C ((fun a j => if a < C.2.1 then D.1 a j else S'.2.1 a j, S'.2.2) : sm_D)) := by
        refine Prod.ext h2.1 (Prod.ext ?_ rfl)
        funext a j
        show S'.2.1 a j = if a < C.2.1 then C.2.2.2 a j else (if a < C.2.1 then D.1 a j else S'.2.1 a j)
        by_cases ha : a < C.2.1
        · rw [if_pos ha, h2.2 a ha]
          exact if_pos ha
        · rw [if_neg ha, if_neg ha]
      rw [← e]
    · funext j
      exact if_pos ha
section SFC
variable {C : sm_K} {k cls nd pc x y n b : Nat} {l : List (Nat × Instr × Nat)} {lv st as rest : List Value} {D : sm_D} {R : Option sm_o}
/-- no row of the method's table covers the place -/
def sm_nh (k pc : Nat) : Prop := (sm_m k).2.1.2.1.all (fun r => !(decide (r.1 ≤ pc) && decide (pc < r.2.1))) = true
theorem sm_find_nh {hh : List (Nat × Nat × Nat × Nat × Nat)} {pc x : Nat} (h : hh.all (fun r => !(decide (r.1 ≤ pc) && decide (pc < r.2.1))) = true) : sm_find hh pc x = none := by
  induction hh with
  | nil => rfl
  | cons q r ih =>
    rw [List.all_cons, Bool.and_eq_true] at h
    unfold sm_find
    rw [if_neg, ih h.2]
    rintro ⟨h1, h2, -⟩
    have h3 := h.1
    rw [decide_eq_true h1, decide_eq_true h2] at h3
    cases h3
theorem sm_throw_nh {a : Nat} (h : sm_nh k pc) (ht : sm_tw D a = true) : sm_throw k pc lv a (C.2.2.1, sm_mg C D) = some (.inr (.inr a, (C.2.2.1, sm_mg C D))) := by
  unfold sm_tw at ht
  unfold sm_throw
  show (match D.2.2.1 a with | some y => _ | none => _) = _
  split at ht
  · next y hy =>
    rw [if_pos (of_decide_eq_true ht), sm_find_nh h]
    exact if_pos h
  · cases ht
/-- the call itself, as the rules below take it: all that is seen of it is what comes back -/
def sm_cb (C : sm_K) (k pc y : Nat) (lv st as rest : List Value) : Prop :=
  ∀ (D : sm_D), sm_step C.1 C.2.1 (sm_nd k) true (sm_cl C.1 C.2.1 true (sm_nd k)) k (pc, lv, st, (C.2.2.1, sm_mg C D)) = sm_back k pc lv rest (sm_cl C.1 C.2.1 true (sm_nd k) y as (C.2.2.1, sm_mg C D))
theorem sx_cl (hc : sm_cb C k pc y lv st as rest) (hd : sm_nd y + 1 ≤ sm_nd k) (hn : sm_nh k pc) {v : Option Value ⊕ Nat} {D1 : sm_D} (h : sm_fe C y as D = some (v, D1)) :
    (∀ w, v = .inl w → sm_fx C k pc lv st D = sm_fx C k (pc + 3) lv (w.toList ++ rest) D1) ∧ (∀ a, v = .inr a → sm_tw D1 a = true → sm_fx C k pc lv st D = some (.inr a, D1)) := by
  obtain ⟨e, he⟩ : ∃ e, sm_nd k = e + 1 := ⟨sm_nd k - 1, by omega⟩
  obtain ⟨h1, h2⟩ := sm_fe_some (d := e) (by omega) h
  have hs := hc D
  have hcl : sm_cl C.1 C.2.1 true (sm_nd k) y as (C.2.2.1, sm_mg C D) = some (v, (C.2.2.1, sm_mg C D1)) := by
    rw [he]
    exact h1
  rw [hcl] at hs
  refine ⟨fun w hw => ?_, fun a ha ht => ?_⟩
  · subst hw
    exact sf_step hs h2
  · subst ha
    have hs2 : sm_step C.1 C.2.1 (sm_nd k) true (sm_cl C.1 C.2.1 true (sm_nd k)) k (pc, lv, st, (C.2.2.1, sm_mg C D)) = some (.inr (.inr a, (C.2.2.1, sm_mg C D1))) := hs.trans (sm_throw_nh hn ht)
    unfold sm_fx sm_ex
    rw [sm_lim_end hs2, sm_um_eq h2]
    exact sm_um_mg
theorem sx_ki (hc : sm_cb C k pc y lv st as rest) (hd : sm_nd y + 1 ≤ sm_nd k) (hn : sm_nh k pc) {F : Int32 → sm_D → Option sm_o} (cc : ∀ x D, sm_ge (sm_fx C k (pc + 3) lv (.int x :: rest) D) (F x D)) : sm_ge (sm_fx C k pc lv st D) (sm_bi (sm_fe C y as D) F) := by
  intro o ho
  unfold sm_bi at ho
  split at ho
  · next x D1 h1 =>
    rw [(sx_cl hc hd hn h1).1 _ rfl]
    exact cc x D1 o ho
  · next a D1 h1 =>
    split at ho
    · next ht =>
      cases ho
      exact (sx_cl hc hd hn h1).2 a rfl ht
    · cases ho
  · cases ho
theorem sx_kj (hc : sm_cb C k pc y lv st as rest) (hd : sm_nd y + 1 ≤ sm_nd k) (hn : sm_nh k pc) {F : Int64 → sm_D → Option sm_o} (cc : ∀ x D, sm_ge (sm_fx C k (pc + 3) lv (.long x :: rest) D) (F x D)) : sm_ge (sm_fx C k pc lv st D) (sm_bj (sm_fe C y as D) F) := by
  intro o ho
  unfold sm_bj at ho
  split at ho
  · next x D1 h1 =>
    rw [(sx_cl hc hd hn h1).1 _ rfl]
    exact cc x D1 o ho
  · next a D1 h1 =>
    split at ho
    · next ht =>
      cases ho
      exact (sx_cl hc hd hn h1).2 a rfl ht
    · cases ho
  · cases ho
theorem sx_kv (hc : sm_cb C k pc y lv st as rest) (hd : sm_nd y + 1 ≤ sm_nd k) (hn : sm_nh k pc) {F : sm_D → Option sm_o} (cc : ∀ D, sm_ge (sm_fx C k (pc + 3) lv rest D) (F D)) : sm_ge (sm_fx C k pc lv st D) (sm_bv (sm_fe C y as D) F) := by
  intro o ho
  unfold sm_bv at ho
  split at ho
  · next D1 h1 =>
    rw [(sx_cl hc hd hn h1).1 _ rfl]
    exact cc D1 o ho
  · next a D1 h1 =>
    split at ho
    · next ht =>
      cases ho
      exact (sx_cl hc hd hn h1).2 a rfl ht
    · cases ho
  · cases ho
def sm_lk (cls x y : Nat) : Bool := decide (x < 65536) && decide ((sm_look sm_L (cls * 65536 + x)).map (·.1) = some y)
theorem sm_lk_i (h : sm_lk cls x y = true) (hk : (sm_m k).2.1.1 = cls) : x < 65536 ∧ ∃ nb, sm_look sm_L (sm_key k x) = some (y, nb) := by
  unfold sm_lk at h
  simp only [Bool.and_eq_true, decide_eq_true_eq] at h
  refine ⟨h.1, ?_⟩
  unfold sm_key
  rw [hk]
  cases hl : sm_look sm_L (cls * 65536 + x) with
  | none => rw [hl] at h; cases h.2
  | some z =>
    rw [hl] at h
    have : z.1 = y := Option.some.inj h.2
    exact ⟨z.2, by rw [← this]⟩
theorem sx_S (q : sm_q k cls l nd) (j : Nat) (hr : l[j]? = some (pc, .invokestatic x, 3)) (hl : sm_lk cls x y = true) (hs : (sm_m y).2.1.2.2 = true) (hna : sm_na y = n) (h1 : (n.ble st.length) = true) (h2 : (st.take n).reverse = as) (h3 : st.drop n = rest) (h4 : ((sm_w rest).ble 8) = true) : sm_cb C k pc y lv st as rest := by
  intro D
  obtain ⟨g1, nb, g2⟩ := sm_lk_i hl q.1
  subst hna h2 h3
  rw [sf_op (q.at hr) rfl]
  show sm_gd x (sm_stat _ _ _ k x 3 pc lv st _) = _
  unfold sm_gd sm_stat sm_calls
  rw [if_pos g1, g2]
  exact if_pos ⟨rfl, hs, Nat.le_of_ble_eq_true h1, Nat.le_of_ble_eq_true h4⟩
theorem sx_V (q : sm_q k cls l nd) (j : Nat) (hr : l[j]? = some (pc, .invokevirtual x, 3)) (hl : sm_lk cls x y = true) (hs : ((sm_m y).2.1.2.2 = false ∧ ¬ (sm_m y).1.1.name = "<init>") ∧ (sm_m y).2.1.1 < 14) (hna : sm_na y = n) (h1 : (n.ble st.length) = true) (h2 : (st.take n).reverse = as) (h3 : st.drop n = .ref b :: rest) (h4 : ((sm_w rest).ble 8) = true) (hb : C.2.2.1.1 b = some (.inl (sm_m y).2.1.1)) : sm_cb C k pc y lv st (.ref b :: as) rest := by
  intro D
  obtain ⟨g1, nb, g2⟩ := sm_lk_i hl q.1
  subst hna h2
  rw [sf_op (q.at hr) rfl]
  show sm_gd x (sm_callv _ k x 3 pc lv st _) = _
  unfold sm_gd sm_callv
  rw [if_pos g1, g2]
  dsimp only
  rw [h3]
  exact if_pos ⟨rfl, hs.1.1, hs.1.2, Nat.le_of_ble_eq_true h1, Nat.le_of_ble_eq_true h4, hs.2, hb⟩
/-! ends -/
theorem sx_ri {v : Int32} {ty : FieldType} (q : sm_q k cls l nd) (j : Nat) (hr : l[j]? = some (pc, .ireturn, 1)) (ht : (sm_m k).1.2.2.2 = some ty) : sm_ge (sm_fx C k pc lv [.int v] D) (some (.inl (some (narrow ty (.int v))), D)) := by
  rw [sf_end (v := .inl (some (narrow ty (.int v))))]
  · exact sm_ge.refl _
  · rw [sf_op (q.at hr) rfl]
    show sm_reti k 1 [.int v] _ = _
    unfold sm_reti
    rw [ht]
    exact if_pos rfl
theorem sx_rj {v : Int64} (q : sm_q k cls l nd) (j : Nat) (hr : l[j]? = some (pc, .lreturn, 1)) (ht : (sm_m k).1.2.2.2 = some .long) : sm_ge (sm_fx C k pc lv [.long v] D) (some (.inl (some (.long v)), D)) := by
  rw [sf_end (v := .inl (some (.long v)))]
  · exact sm_ge.refl _
  · rw [sf_op (q.at hr) rfl]
    show sm_retj k 1 [.long v] _ = _
    unfold sm_retj
    rw [ht]
    exact if_pos rfl
theorem sx_rv (q : sm_q k cls l nd) (j : Nat) (hr : l[j]? = some (pc, .return_, 1)) (ht : (sm_m k).1.2.2.2 = none) : sm_ge (sm_fx C k pc lv [] D) (some (.inl none, D)) := by
  rw [sf_end (v := .inl none)]
  · exact sm_ge.refl _
  · rw [sf_op (q.at hr) rfl]
    show sm_retv k 1 [] _ = _
    unfold sm_retv
    rw [ht]
    exact if_pos rfl
/-- the state behind a throw of an object of class z that was made for it -/
def sm_thr (D : sm_D) (z : Nat) : sm_D := (D.1, D.2.1, (fun b => if b = D.2.2.2.1 then some (2 * z + 1) else D.2.2.1 b), D.2.2.2.1 + 1, D.2.2.2.2 + 6)
theorem sm_tw_thr (D : sm_D) (z : Nat) : sm_tw (sm_thr D z) D.2.2.2.1 = true := by
  unfold sm_tw sm_thr
  dsimp only
  rw [if_pos rfl]
  exact decide_eq_true (by omega)
/-- new, dup, ldc, invokespecial, athrow -/
theorem sx_T {x1 x2 x3 z s : Nat} (q : sm_q k cls l nd) (j : Nat) (r1 : l[j]? = some (pc, .new x1, 3)) (r2 : l[j + 1]? = some (pc + 3, .dup, 1)) (r3 : l[j + 2]? = some (pc + 4, .ldc x2, 2)) (r4 : l[j + 3]? = some (pc + 6, .invokespecial x3, 3)) (r5 : l[j + 4]? = some (pc + 9, .athrow, 1))
    (hv : (decide (x1 < 65536) && decide (x2 < 65536) && decide (x3 < 65536) && decide (sm_look sm_N (cls * 65536 + x1) = none) && decide (sm_look sm_NX (cls * 65536 + x1) = some (z, 6)) && decide (sm_look sm_CI (cls * 65536 + x2) = none) && decide (sm_look sm_CS (cls * 65536 + x2) = some s) && decide (sm_look sm_L (cls * 65536 + x3) = none) && decide (sm_look sm_LX (cls * 65536 + x3) = some (2, z))) = true)
    (hd : 6 ≤ sm_nd k) (hn : sm_nh k (pc + 9)) (hw : ((sm_w st).ble 7) = true) : sm_ge (sm_fx C k pc lv st D) (some (.inr D.2.2.2.1, sm_thr D z)) := by
  simp only [Bool.and_eq_true, decide_eq_true_eq] at hv
  obtain ⟨⟨⟨⟨⟨⟨⟨⟨v1, v2⟩, v3⟩, v4⟩, v5⟩, v6⟩, v7⟩, v8⟩, v9⟩ := hv
  have a1 : sm_fx C k pc lv st D = sm_fx C k (pc + 3) lv (.ref D.2.2.2.1 :: st) (D.1, D.2.1, (fun b => if b = D.2.2.2.1 then some (2 * z) else D.2.2.1 b), D.2.2.2.1 + 1, D.2.2.2.2 + 6) := by
    refine sf_step ?_ (fun _ _ => rfl)
    rw [sf_op (q.at r1) rfl]
    show sm_gd x1 (sm_newo true k x1 3 pc lv st _) = _
    unfold sm_gd sm_newo sm_key
    rw [if_pos v1, q.1, v4]
    dsimp only
    rw [v5]
    exact if_pos rfl
  have a2 : ∀ D2 : sm_D, sm_fx C k (pc + 3) lv (.ref D.2.2.2.1 :: st) D2 = sm_fx C k (pc + 4) lv (.ref D.2.2.2.1 :: .ref D.2.2.2.1 :: st) D2 := fun D2 => sf_step (sf_pu (q.at r2) rfl) (fun _ _ => rfl)
  have a3 : ∀ D2 : sm_D, sm_fx C k (pc + 4) lv (.ref D.2.2.2.1 :: .ref D.2.2.2.1 :: st) D2 = sm_fx C k (pc + 6) lv (.ref (C.1.1 s) :: .ref D.2.2.2.1 :: .ref D.2.2.2.1 :: st) D2 := by
    intro D2
    refine sf_step ?_ (fun _ _ => rfl)
    rw [sf_op (q.at r3) rfl]
    show sm_gd x2 (sm_ldc C.1 k x2 2 2 (pc + 4) lv _ _) = _
    unfold sm_gd sm_ldc sm_key
    rw [if_pos v2, q.1, v6]
    dsimp only
    rw [v7]
    exact if_pos rfl
  have a4 : sm_fx C k (pc + 6) lv (.ref (C.1.1 s) :: .ref D.2.2.2.1 :: .ref D.2.2.2.1 :: st) (D.1, D.2.1, (fun b => if b = D.2.2.2.1 then some (2 * z) else D.2.2.1 b), D.2.2.2.1 + 1, D.2.2.2.2 + 6) = sm_fx C k (pc + 9) lv (.ref D.2.2.2.1 :: st) (sm_thr D z) := by
    refine sf_step ?_ (fun _ _ => rfl)
    rw [sf_op (q.at r4) rfl]
    show sm_gd x3 (sm_calli _ (sm_nd k) k x3 3 (pc + 6) lv _ _) = _
    unfold sm_gd sm_calli sm_key
    rw [if_pos v3, q.1, v8]
    dsimp only
    rw [v9]
    have hw2 : sm_w (.ref D.2.2.2.1 :: st) ≤ 8 := by
      have := Nat.le_of_ble_eq_true hw
      have e : sm_w (.ref D.2.2.2.1 :: st) = 1 + sm_w st := by
        unfold sm_w
        rw [List.map_cons, List.sum_cons]
        rfl
      omega
    refine (if_pos ⟨rfl, hd, hw2, if_pos rfl⟩).trans ?_
    have e : (fun b => if b = D.2.2.2.1 then some (2 * z + 1) else (if b = D.2.2.2.1 then some (2 * z) else D.2.2.1 b)) = (fun b => if b = D.2.2.2.1 then some (2 * z + 1) else D.2.2.1 b) := by
      funext b
      split <;> rfl
    show some (Sum.inl (pc + 6 + 3, lv, Value.ref D.2.2.2.1 :: st, (C.2.2.1, (sm_mg C D).1, D.2.1, (fun b => if b = D.2.2.2.1 then some (2 * z + 1) else (if b = D.2.2.2.1 then some (2 * z) else D.2.2.1 b)), D.2.2.2.1 + 1, D.2.2.2.2 + 6))) = _
    rw [e]
    rfl
  rw [a1, a2, a3, a4, sf_end (v := .inr D.2.2.2.1)]
  · exact sm_ge.refl _
  · rw [sf_op (q.at r5) rfl]
    have e9 : sm_op C.1 C.2.1 (sm_nd k) true (sm_cl C.1 C.2.1 true (sm_nd k)) k .athrow 1 (pc + 9) lv (.ref D.2.2.2.1 :: st) (C.2.2.1, sm_mg C (sm_thr D z)) = sm_athrow k 1 (pc + 9) lv (.ref D.2.2.2.1 :: st) (C.2.2.1, sm_mg C (sm_thr D z)) := rfl
    rw [e9]
    unfold sm_athrow
    dsimp only
    rw [if_pos rfl]
    exact sm_throw_nh hn (sm_tw_thr D z)
theorem sx_fe {m : Nat} (hm : (sm_m k).1.2.2.1 = m) (h : ((sm_args as).length.ble m) = true) : sm_fe C k as D = sm_fx C k 0 (sm_entry m as) [] D := by
  subst hm
  unfold sm_fe sm_fx sm_ex
  rw [sm_ev_eq, if_pos (Nat.le_of_ble_eq_true h)]
end SFC
