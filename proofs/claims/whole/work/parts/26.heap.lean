/-! ===== rules of runs: cells, calls, ends ===== -/
abbrev sm_dI (D : sm_D) (a i : Nat) (x : Int32) : sm_D := (sm_up D.1 a i x, D.2)
abbrev sm_dJ (D : sm_D) (a i : Nat) (x : Int64) : sm_D := (D.1, sm_up D.2.1 a i x, D.2.2)
def sm_gu (b : Bool) (r : Option sm_o) : Option sm_o := if b then r else none
def sm_fk (cls x c f : Nat) : Bool := decide (x < 65536) && decide (sm_look sm_F (cls * 65536 + x) = some (c, f)) && decide (c < 14) && decide (f < sm_nf c)
def sm_pk (cls x c f : Nat) : Bool := decide (x < 65536) && decide (sm_look sm_F (cls * 65536 + x) = some (c, f)) && decide (c < 13) && decide (f < sm_nf c) && !(sm_T c f).2.2.2
def sm_tI : FieldType → Bool
  | .int => true
  | .boolean => true
  | .byte => true
  | _ => false
theorem sm_ge_gu {b : Bool} {a r : Option sm_o} (h : b = true → sm_ge a r) : sm_ge a (sm_gu b r) := by
  intro o ho
  unfold sm_gu at ho
  split at ho
  · next hb => exact h hb o ho
  · cases ho
theorem sm_val_i {ty : FieldType} (h : sm_tI ty = true) (S : sm_S) (a i : Nat) : sm_val ty S a i = .int (S.2.1 a i) := by
  cases ty <;> first | rfl | cases h
theorem sm_mg_hi {C : sm_K} {D : sm_D} {a : Nat} (h : C.2.1 ≤ a) (j : Nat) : (sm_mg C D).1 a j = D.1 a j := if_neg (by omega)
theorem sm_mg_lo {C : sm_K} {D : sm_D} {a : Nat} (h : a < C.2.1) (j : Nat) : (sm_mg C D).1 a j = C.2.2.2 a j := if_pos h
theorem sm_mg_putI {C : sm_K} {D : sm_D} {a i : Nat} {x : Int32} (h : C.2.1 ≤ a) : sm_putI (C.2.2.1, sm_mg C D) a i x = (C.2.2.1, sm_mg C (sm_dI D a i x)) := by
  show (C.2.2.1, (sm_up (sm_mg C D).1 a i x, D.2)) = (C.2.2.1, ((fun b j => if b < C.2.1 then C.2.2.2 b j else sm_up D.1 a i x b j), D.2))
  have e : sm_up (sm_mg C D).1 a i x = (fun b j => if b < C.2.1 then C.2.2.2 b j else sm_up D.1 a i x b j) := by
    funext b j
    unfold sm_up
    by_cases hb : b < C.2.1
    · rw [if_pos hb, if_neg (fun q => by omega)]
      exact if_pos hb
    · rw [if_neg hb]
      split
      · rfl
      · exact if_neg hb
  rw [e]
section SFY
variable {C : sm_K} {k cls nd pc pc' len j x c f a b n : Nat} {l : List (Nat × Instr × Nat)} {lv lv' st st' : List Value} {D D' : sm_D} {R R2 : Option sm_o}
theorem sm_fk_i (h : sm_fk cls x c f = true) (hk : (sm_m k).2.1.1 = cls) : x < 65536 ∧ sm_look sm_F (sm_key k x) = some (c, f) ∧ c < 14 ∧ f < sm_nf c := by
  unfold sm_fk at h
  simp only [Bool.and_eq_true, decide_eq_true_eq] at h
  obtain ⟨⟨⟨h1, h2⟩, h3⟩, h4⟩ := h
  refine ⟨h1, ?_, h3, h4⟩
  unfold sm_key
  rw [hk]
  exact h2
theorem sm_pk_i (h : sm_pk cls x c f = true) (hk : (sm_m k).2.1.1 = cls) : x < 65536 ∧ sm_look sm_F (sm_key k x) = some (c, f) ∧ c < 13 ∧ f < sm_nf c ∧ (sm_T c f).2.2.2 = false := by
  unfold sm_pk at h
  simp only [Bool.and_eq_true, decide_eq_true_eq, Bool.not_eq_true'] at h
  obtain ⟨⟨⟨⟨h1, h2⟩, h3⟩, h4⟩, h5⟩ := h
  refine ⟨h1, ?_, h3, h4, h5⟩
  unfold sm_key
  rw [hk]
  exact h2
theorem sx_get (q : sm_q k cls l nd) (hr : l[j]? = some (pc, .getfield x, 3)) (hf : sm_fk cls x c f = true) (hs : C.2.2.1.1 a = some (.inl c)) : sm_fx C k pc lv (.ref a :: st) D = sm_fx C k (pc + 3) lv (sm_val (sm_ty c f) (C.2.2.1, sm_mg C D) a f :: st) D := by
  obtain ⟨h1, h2, h3, h4⟩ := sm_fk_i hf q.1
  refine sf_step ?_ (fun _ _ => rfl)
  rw [sf_op (q.at hr) rfl]
  show sm_gd x (sm_getf k x 3 pc lv (.ref a :: st) (C.2.2.1, sm_mg C D)) = _
  unfold sm_gd sm_getf
  rw [if_pos h1, h2]
  exact if_pos ⟨rfl, h3, h4, hs⟩
theorem sx_gI (q : sm_q k cls l nd) (j : Nat) (hr : l[j]? = some (pc, .getfield x, 3)) (hf : sm_fk cls x c f = true) (ht : sm_tI (sm_ty c f) = true) (hs : C.2.2.1.1 a = some (.inl c)) (hB : C.2.1 ≤ a) (cc : sm_ge (sm_fx C k (pc + 3) lv (.int (D.1 a f) :: st) D) R) : sm_ge (sm_fx C k pc lv (.ref a :: st) D) R := by
  rw [sx_get q hr hf hs, sm_val_i ht, sm_mg_hi hB]
  exact cc
theorem sx_gIlo (q : sm_q k cls l nd) (j : Nat) (hr : l[j]? = some (pc, .getfield x, 3)) (hf : sm_fk cls x c f = true) (ht : sm_tI (sm_ty c f) = true) (hs : C.2.2.1.1 a = some (.inl c)) (hB : a < C.2.1) (cc : sm_ge (sm_fx C k (pc + 3) lv (.int (C.2.2.2 a f) :: st) D) R) : sm_ge (sm_fx C k pc lv (.ref a :: st) D) R := by
  rw [sx_get q hr hf hs, sm_val_i ht, sm_mg_lo hB]
  exact cc
theorem sx_gJ (q : sm_q k cls l nd) (j : Nat) (hr : l[j]? = some (pc, .getfield x, 3)) (hf : sm_fk cls x c f = true) (ht : sm_ty c f = .long) (hs : C.2.2.1.1 a = some (.inl c)) (cc : sm_ge (sm_fx C k (pc + 3) lv (.long (D.2.1 a f) :: st) D) R) : sm_ge (sm_fx C k pc lv (.ref a :: st) D) R := by
  rw [sx_get q hr hf hs, ht]
  exact cc
theorem sx_gR (q : sm_q k cls l nd) (j : Nat) (hr : l[j]? = some (pc, .getfield x, 3)) (hf : sm_fk cls x c f = true) (ht : ∀ S i, sm_val (sm_ty c f) S a i = S.1.2 a i) (hs : C.2.2.1.1 a = some (.inl c)) (hv : C.2.2.1.2 a f = .ref b) (cc : sm_ge (sm_fx C k (pc + 3) lv (.ref b :: st) D) R) : sm_ge (sm_fx C k pc lv (.ref a :: st) D) R := by
  rw [sx_get q hr hf hs, ht]
  show sm_ge (sm_fx C k (pc + 3) lv (C.2.2.1.2 a f :: st) D) R
  rw [hv]
  exact cc
theorem sx_put {v : Value} (q : sm_q k cls l nd) (hr : l[j]? = some (pc, .putfield x, 3)) (hf : sm_pk cls x c f = true) (hs : C.2.2.1.1 a = some (.inl c)) (hB : C.2.1 ≤ a) (hv : sm_lay true (sm_ty c f) (C.2.2.1, sm_mg C D) a f v = some (C.2.2.1, sm_mg C D')) (hl : ∀ a, a < C.2.1 → D'.1 a = D.1 a) : sm_fx C k pc lv (v :: .ref a :: st) D = sm_fx C k (pc + 3) lv st D' := by
  obtain ⟨h1, h2, h3, h4, h5⟩ := sm_pk_i hf q.1
  refine sf_step ?_ hl
  rw [sf_op (q.at hr) rfl]
  show sm_gd x (sm_putf C.2.1 true k x 3 pc lv (v :: .ref a :: st) (C.2.2.1, sm_mg C D)) = _
  unfold sm_gd sm_putf
  rw [if_pos h1, h2]
  dsimp only
  rw [if_pos ⟨rfl, h3, h4, hB, hs, Or.inl h5⟩, hv]
theorem sx_pI {y : Int32} (q : sm_q k cls l nd) (j : Nat) (hr : l[j]? = some (pc, .putfield x, 3)) (hf : sm_pk cls x c f = true) (ht : sm_ty c f = .int) (hs : C.2.2.1.1 a = some (.inl c)) (hB : C.2.1 ≤ a) (cc : sm_ge (sm_fx C k (pc + 3) lv st (sm_dI D a f y)) R) : sm_ge (sm_fx C k pc lv (.int y :: .ref a :: st) D) R := by
  rw [sx_put (D' := sm_dI D a f y) q hr hf hs hB (by rw [ht, ← sm_mg_putI hB]; rfl) (sm_ky_up hB)]
  exact cc
theorem sx_pZ {y : Int32} (q : sm_q k cls l nd) (j : Nat) (hr : l[j]? = some (pc, .putfield x, 3)) (hf : sm_pk cls x c f = true) (ht : sm_ty c f = .boolean) (hs : C.2.2.1.1 a = some (.inl c)) (hB : C.2.1 ≤ a) (cc : sm_ge (sm_fx C k (pc + 3) lv st (sm_dI D a f y)) R) : sm_ge (sm_fx C k pc lv (.int y :: .ref a :: st) D) (sm_gu (decide (y = 0 ∨ y = 1)) R) := by
  refine sm_ge_gu fun hy => ?_
  rw [sx_put (D' := sm_dI D a f y) q hr hf hs hB (by rw [ht, ← sm_mg_putI hB]; exact if_pos (of_decide_eq_true hy)) (sm_ky_up hB)]
  exact cc
theorem sx_pJ {y : Int64} (q : sm_q k cls l nd) (j : Nat) (hr : l[j]? = some (pc, .putfield x, 3)) (hf : sm_pk cls x c f = true) (ht : sm_ty c f = .long) (hs : C.2.2.1.1 a = some (.inl c)) (hB : C.2.1 ≤ a) (cc : sm_ge (sm_fx C k (pc + 3) lv st (sm_dJ D a f y)) R) : sm_ge (sm_fx C k pc lv (.long y :: .ref a :: st) D) R := by
  rw [sx_put (D := D) (v := .long y) (D' := sm_dJ D a f y) q hr hf hs hB (by rw [ht]; rfl) (fun _ _ => rfl)]
  exact cc
/-! arrays -/
theorem sx_ald {i : Instr} {tys : List FieldType} {ty : FieldType} {y : Int32} (q : sm_q k cls l nd) (hr : l[j]? = some (pc, i, 1)) (hp : ∀ lv st, sm_pu i 1 pc lv st = none) (ho : ∀ E B d b call lv st S, sm_op E B d b call k i 1 pc lv st S = sm_ald tys 1 pc lv st S) (hty : ty ∈ tys) (hs : C.2.2.1.1 a = some (.inr (ty, n))) (hi : sm_in_b y n = true) :
    sm_fx C k pc lv (.int y :: .ref a :: st) D = sm_fx C k (pc + 1) lv (sm_val ty (C.2.2.1, sm_mg C D) a y.toNatClampNeg :: st) D := by
  refine sf_step ?_ (fun _ _ => rfl)
  rw [sf_op (q.at hr) (hp _ _), ho]
  unfold sm_ald
  dsimp only
  rw [hs]
  exact if_pos ⟨rfl, hty, hi⟩
theorem sx_ia {y : Int32} (q : sm_q k cls l nd) (j : Nat) (hr : l[j]? = some (pc, .iaload, 1)) (hs : C.2.2.1.1 a = some (.inr (.int, n))) (hB : C.2.1 ≤ a) (cc : sm_ge (sm_fx C k (pc + 1) lv (.int (D.1 a y.toNatClampNeg) :: st) D) R) : sm_ge (sm_fx C k pc lv (.int y :: .ref a :: st) D) (sm_gu (sm_in_b y n) R) := by
  refine sm_ge_gu fun hy => ?_
  rw [sx_ald (tys := [.int]) q hr (fun _ _ => rfl) (fun _ _ _ _ _ _ _ _ => rfl) List.mem_cons_self hs hy, sm_val_i rfl, sm_mg_hi hB]
  exact cc
theorem sx_ialo {y : Int32} (q : sm_q k cls l nd) (j : Nat) (hr : l[j]? = some (pc, .iaload, 1)) (hs : C.2.2.1.1 a = some (.inr (.int, n))) (hB : a < C.2.1) (cc : sm_ge (sm_fx C k (pc + 1) lv (.int (C.2.2.2 a y.toNatClampNeg) :: st) D) R) : sm_ge (sm_fx C k pc lv (.int y :: .ref a :: st) D) (sm_gu (sm_in_b y n) R) := by
  refine sm_ge_gu fun hy => ?_
  rw [sx_ald (tys := [.int]) q hr (fun _ _ => rfl) (fun _ _ _ _ _ _ _ _ => rfl) List.mem_cons_self hs hy, sm_val_i rfl, sm_mg_lo hB]
  exact cc
theorem sx_ba {y : Int32} {ty : FieldType} (q : sm_q k cls l nd) (j : Nat) (hr : l[j]? = some (pc, .baload, 1)) (hs : C.2.2.1.1 a = some (.inr (ty, n))) (hty : ty ∈ [FieldType.byte, .boolean]) (hB : C.2.1 ≤ a) (cc : sm_ge (sm_fx C k (pc + 1) lv (.int (D.1 a y.toNatClampNeg) :: st) D) R) : sm_ge (sm_fx C k pc lv (.int y :: .ref a :: st) D) (sm_gu (sm_in_b y n) R) := by
  refine sm_ge_gu fun hy => ?_
  have ht : sm_tI ty = true := by
    rcases List.mem_cons.mp hty with rfl | h
    · rfl
    · rcases List.mem_cons.mp h with rfl | h
      · rfl
      · cases h
  rw [sx_ald (tys := [.byte, .boolean]) q hr (fun _ _ => rfl) (fun _ _ _ _ _ _ _ _ => rfl) hty hs hy, sm_val_i ht, sm_mg_hi hB]
  exact cc
theorem sx_balo {y : Int32} {ty : FieldType} (q : sm_q k cls l nd) (j : Nat) (hr : l[j]? = some (pc, .baload, 1)) (hs : C.2.2.1.1 a = some (.inr (ty, n))) (hty : ty ∈ [FieldType.byte, .boolean]) (hB : a < C.2.1) (cc : sm_ge (sm_fx C k (pc + 1) lv (.int (C.2.2.2 a y.toNatClampNeg) :: st) D) R) : sm_ge (sm_fx C k pc lv (.int y :: .ref a :: st) D) (sm_gu (sm_in_b y n) R) := by
  refine sm_ge_gu fun hy => ?_
  have ht : sm_tI ty = true := by
    rcases List.mem_cons.mp hty with rfl | h
    · rfl
    · rcases List.mem_cons.mp h with rfl | h
      · rfl
      · cases h
  rw [sx_ald (tys := [.byte, .boolean]) q hr (fun _ _ => rfl) (fun _ _ _ _ _ _ _ _ => rfl) hty hs hy, sm_val_i ht, sm_mg_lo hB]
  exact cc
theorem sx_la {y : Int32} (q : sm_q k cls l nd) (j : Nat) (hr : l[j]? = some (pc, .laload, 1)) (hs : C.2.2.1.1 a = some (.inr (.long, n))) (cc : sm_ge (sm_fx C k (pc + 1) lv (.long (D.2.1 a y.toNatClampNeg) :: st) D) R) : sm_ge (sm_fx C k pc lv (.int y :: .ref a :: st) D) (sm_gu (sm_in_b y n) R) := by
  refine sm_ge_gu fun hy => ?_
  rw [sx_ald (tys := [.long]) q hr (fun _ _ => rfl) (fun _ _ _ _ _ _ _ _ => rfl) List.mem_cons_self hs hy]
  exact cc
theorem sx_ast {i : Instr} {tys : List FieldType} {ty : FieldType} {y v : Int32} (q : sm_q k cls l nd) (hr : l[j]? = some (pc, i, 1)) (hp : ∀ lv st, sm_pu i 1 pc lv st = none) (ho : ∀ E B d b call lv st S, sm_op E B d b call k i 1 pc lv st S = sm_asti B tys 1 pc lv st S) (hty : ty ∈ tys) (hs : C.2.2.1.1 a = some (.inr (ty, n))) (hB : C.2.1 ≤ a) (hi : sm_in_b y n = true) :
    sm_fx C k pc lv (.int v :: .int y :: .ref a :: st) D = sm_fx C k (pc + 1) lv st (sm_dI D a y.toNatClampNeg (sm_nar ty v)) := by
  refine sf_step ?_ (sm_ky_up hB)
  rw [sf_op (q.at hr) (hp _ _), ho]
  unfold sm_asti
  dsimp only
  rw [hs, ← sm_mg_putI hB]
  exact if_pos ⟨rfl, hty, hB, hi⟩
theorem sx_is {y v : Int32} (q : sm_q k cls l nd) (j : Nat) (hr : l[j]? = some (pc, .iastore, 1)) (hs : C.2.2.1.1 a = some (.inr (.int, n))) (hB : C.2.1 ≤ a) (cc : sm_ge (sm_fx C k (pc + 1) lv st (sm_dI D a y.toNatClampNeg v)) R) : sm_ge (sm_fx C k pc lv (.int v :: .int y :: .ref a :: st) D) (sm_gu (sm_in_b y n) R) := by
  refine sm_ge_gu fun hy => ?_
  rw [sx_ast (tys := [.int]) q hr (fun _ _ => rfl) (fun _ _ _ _ _ _ _ _ => rfl) List.mem_cons_self hs hB hy]
  exact cc
theorem sx_bs {y v : Int32} {ty : FieldType} (q : sm_q k cls l nd) (j : Nat) (hr : l[j]? = some (pc, .bastore, 1)) (hs : C.2.2.1.1 a = some (.inr (ty, n))) (hty : ty ∈ [FieldType.byte, .boolean]) (hB : C.2.1 ≤ a) (cc : sm_ge (sm_fx C k (pc + 1) lv st (sm_dI D a y.toNatClampNeg (sm_nar ty v))) R) : sm_ge (sm_fx C k pc lv (.int v :: .int y :: .ref a :: st) D) (sm_gu (sm_in_b y n) R) := by
  refine sm_ge_gu fun hy => ?_
  rw [sx_ast (tys := [.byte, .boolean]) q hr (fun _ _ => rfl) (fun _ _ _ _ _ _ _ _ => rfl) hty hs hB hy]
  exact cc
theorem sx_ls {y : Int32} {v : Int64} (q : sm_q k cls l nd) (j : Nat) (hr : l[j]? = some (pc, .lastore, 1)) (hs : C.2.2.1.1 a = some (.inr (.long, n))) (hB : C.2.1 ≤ a) (cc : sm_ge (sm_fx C k (pc + 1) lv st (sm_dJ D a y.toNatClampNeg v)) R) : sm_ge (sm_fx C k pc lv (.long v :: .int y :: .ref a :: st) D) (sm_gu (sm_in_b y n) R) := by
  refine sm_ge_gu fun hy => ?_
  have e : sm_fx C k pc lv (.long v :: .int y :: .ref a :: st) D = sm_fx C k (pc + 1) lv st (sm_dJ D a y.toNatClampNeg v) := by
    refine sf_step ?_ (fun _ _ => rfl)
    rw [sf_op (q.at hr) rfl]
    show sm_astj C.2.1 1 pc lv (.long v :: .int y :: .ref a :: st) (C.2.2.1, sm_mg C D) = _
    unfold sm_astj
    dsimp only
    rw [hs]
    exact if_pos ⟨rfl, rfl, hB, hy⟩
  rw [e]
  exact cc
theorem sx_al {ty : FieldType} (q : sm_q k cls l nd) (j : Nat) (hr : l[j]? = some (pc, .arraylength, 1)) (hs : C.2.2.1.1 a = some (.inr (ty, n))) (cc : sm_ge (sm_fx C k (pc + 1) lv (.int (ni n) :: st) D) R) : sm_ge (sm_fx C k pc lv (.ref a :: st) D) R := by
  have e : sm_fx C k pc lv (.ref a :: st) D = sm_fx C k (pc + 1) lv (.int (ni n) :: st) D := by
    refine sf_step ?_ (fun _ _ => rfl)
    rw [sf_op (q.at hr) rfl]
    show sm_alen 1 pc lv (.ref a :: st) (C.2.2.1, sm_mg C D) = _
    unfold sm_alen
    dsimp only
    rw [hs]
    exact if_pos rfl
  rw [e]
  exact cc
/-! constants -/
theorem sx_ci {i : Instr} {v : Int32} (q : sm_q k cls l nd) (j : Nat) (hr : l[j]? = some (pc, i, n)) (hi : (i = .ldc x ∧ n = 2) ∨ (i = .ldc_w x ∧ n = 3)) (hv : (decide (x < 65536) && decide (sm_look sm_CI (cls * 65536 + x) = some v)) = true) (cc : sm_ge (sm_fx C k (pc + n) lv (.int v :: st) D) R) : sm_ge (sm_fx C k pc lv st D) R := by
  rw [Bool.and_eq_true, decide_eq_true_eq, decide_eq_true_eq] at hv
  have e : sm_fx C k pc lv st D = sm_fx C k (pc + n) lv (.int v :: st) D := by
    refine sf_step ?_ (fun _ _ => rfl)
    rcases hi with ⟨rfl, rfl⟩ | ⟨rfl, rfl⟩
    · rw [sf_op (q.at hr) rfl]
      show sm_gd x (sm_ldc C.1 k x 2 2 pc lv st _) = _
      unfold sm_gd sm_ldc sm_key
      rw [if_pos hv.1, q.1, hv.2]
      exact if_pos rfl
    · rw [sf_op (q.at hr) rfl]
      show sm_gd x (sm_ldc C.1 k x 3 3 pc lv st _) = _
      unfold sm_gd sm_ldc sm_key
      rw [if_pos hv.1, q.1, hv.2]
      exact if_pos rfl
  rw [e]
  exact cc
theorem sx_cs {i : Instr} {s : Nat} (q : sm_q k cls l nd) (j : Nat) (hr : l[j]? = some (pc, i, n)) (hi : (i = .ldc x ∧ n = 2) ∨ (i = .ldc_w x ∧ n = 3)) (hv : (decide (x < 65536) && decide (sm_look sm_CI (cls * 65536 + x) = none) && decide (sm_look sm_CS (cls * 65536 + x) = some s)) = true) (cc : sm_ge (sm_fx C k (pc + n) lv (.ref (C.1.1 s) :: st) D) R) : sm_ge (sm_fx C k pc lv st D) R := by
  rw [Bool.and_eq_true, Bool.and_eq_true, decide_eq_true_eq, decide_eq_true_eq, decide_eq_true_eq] at hv
  have e : sm_fx C k pc lv st D = sm_fx C k (pc + n) lv (.ref (C.1.1 s) :: st) D := by
    refine sf_step ?_ (fun _ _ => rfl)
    rcases hi with ⟨rfl, rfl⟩ | ⟨rfl, rfl⟩
    · rw [sf_op (q.at hr) rfl]
      show sm_gd x (sm_ldc C.1 k x 2 2 pc lv st _) = _
      unfold sm_gd sm_ldc sm_key
      rw [if_pos hv.1.1, q.1, hv.1.2]
      dsimp only
      rw [hv.2]
      exact if_pos rfl
    · rw [sf_op (q.at hr) rfl]
      show sm_gd x (sm_ldc C.1 k x 3 3 pc lv st _) = _
      unfold sm_gd sm_ldc sm_key
      rw [if_pos hv.1.1, q.1, hv.1.2]
      dsimp only
      rw [hv.2]
      exact if_pos rfl
  rw [e]
  exact cc
theorem sx_cj {v : Int64} (q : sm_q k cls l nd) (j : Nat) (hr : l[j]? = some (pc, .ldc2_w x, 3)) (hv : (decide (x < 65536) && decide (sm_look sm_CJ (cls * 65536 + x) = some v)) = true) (cc : sm_ge (sm_fx C k (pc + 3) lv (.long v :: st) D) R) : sm_ge (sm_fx C k pc lv st D) R := by
  rw [Bool.and_eq_true, decide_eq_true_eq, decide_eq_true_eq] at hv
  have e : sm_fx C k pc lv st D = sm_fx C k (pc + 3) lv (.long v :: st) D := by
    refine sf_step ?_ (fun _ _ => rfl)
    rw [sf_op (q.at hr) rfl]
    show sm_gd x (sm_ldc2 k x 3 pc lv st _) = _
    unfold sm_gd sm_ldc2 sm_key
    rw [if_pos hv.1, q.1, hv.2]
    exact if_pos rfl
  rw [e]
  exact cc
/-- statics: what they hold -/
def sm_sv (C : sm_K) : Nat → Value
  | 0 => .int (ni 1)
  | 1 => C.1.2
  | _ => .ref (C.1.1 71)
theorem sx_gs {s : Nat} (q : sm_q k cls l nd) (j : Nat) (hr : l[j]? = some (pc, .getstatic x, 3)) (hv : (decide (x < 65536) && decide (sm_look sm_GS (cls * 65536 + x) = some s) && decide (s < 3)) = true) (cc : sm_ge (sm_fx C k (pc + 3) lv (sm_sv C s :: st) D) R) : sm_ge (sm_fx C k pc lv st D) R := by
  rw [Bool.and_eq_true, Bool.and_eq_true, decide_eq_true_eq, decide_eq_true_eq, decide_eq_true_eq] at hv
  have e : sm_fx C k pc lv st D = sm_fx C k (pc + 3) lv (sm_sv C s :: st) D := by
    refine sf_step ?_ (fun _ _ => rfl)
    rw [sf_op (q.at hr) rfl]
    show sm_gd x (sm_gets C.1 k x 3 pc lv st _) = _
    unfold sm_gd sm_gets sm_key
    rw [if_pos hv.1.1, q.1, hv.1.2]
    match s, hv.2 with
    | 0, _ => rfl
    | 1, _ => rfl
    | 2, _ => rfl
  rw [e]
  exact cc
end SFY
