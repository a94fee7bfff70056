/-! ===== the small machine over the changing half of the state: rules of its runs ===== -/
/-- addresses of constants; the first free address; shapes; what stands in the cells below -/
abbrev sm_K : Type := sm_E × Nat × sm_Z × (Nat → Nat → Int32)
abbrev sm_o : Type := (Option Value ⊕ Nat) × sm_D
def sm_mg (C : sm_K) (D : sm_D) : sm_D := (fun a j => if a < C.2.1 then C.2.2.2 a j else D.1 a j, D.2)
def sm_um (C : sm_K) (D : sm_D) (r : sm_R) : Option sm_o := match r with
  | some (v, S) => some (v, (fun a j => if a < C.2.1 then D.1 a j else S.2.1 a j, S.2.2))
  | none => none
/-- frames that a method needs below it -/
def sm_nds : List Nat := [4, 13, 0, 0, 4, 0, 0, 6, 6, 8, 7, 6, 8, 8, 9, 8, 9, 7, 8, 8, 8, 7, 7, 6, 8, 9, 7, 6, 2, 6, 1, 0, 8, 7, 7, 7, 8, 7, 7, 8, 1, 1, 0, 4, 0, 1, 1, 3, 12, 7, 8, 7, 0, 7, 5, 7, 11, 1, 5, 10, 8, 9, 5, 9, 5, 7, 1, 10, 9, 7, 9, 0, 0, 9, 8, 9, 1, 10, 9, 9, 9, 1, 0, 4, 5, 9, 7, 8, 7, 7, 2, 8, 7, 1, 5, 5, 6, 1, 3, 2, 1, 1, 0, 8, 7, 2, 1, 1, 8, 2, 8, 6, 4, 5, 1, 5, 2, 3, 7, 2, 6, 5, 4, 7, 2, 1, 0, 2, 0, 1, 0, 0, 1, 0, 4, 1, 0, 2, 0, 1, 0, 5, 6, 2, 1, 0, 0, 0, 2, 1, 2, 0, 1, 0, 1, 0, 1, 0, 12, 11, 1, 0, 0, 9, 7, 6, 5, 4, 1, 0, 0, 5, 4, 0, 8, 6, 2, 1, 3, 1, 1, 2, 3, 1, 2, 1, 1, 3, 4, 0, 3, 2, 4, 5, 2, 5, 5, 3, 4, 4, 3, 1, 1, 0, 2, 7, 6, 0, 5, 4, 5, 6, 3, 5, 0, 4, 3, 2, 0, 3, 2, 0, 2, 1, 0, 4, 0, 3, 3, 6, 10, 2, 1, 0, 2, 2, 3, 2, 3, 1, 2, 2, 1, 1, 1, 2, 7, 6, 5, 4, 0, 1, 1, 6, 5, 1, 2, 0, 1, 1, 1, 0, 3, 0, 1, 3, 2, 7, 7, 9, 9, 9, 10, 10, 9, 9, 9, 8, 8, 9, 10, 8, 7, 0, 0, 0, 2, 1, 0, 0, 0, 0]
def sm_nd (k : Nat) : Nat := sm_nds.getD k 0
noncomputable def sm_fe (C : sm_K) (k : Nat) (as : List Value) (D : sm_D) : Option sm_o := sm_um C D (sm_ev C.1 C.2.1 true (sm_nd k) k as (C.2.2.1, sm_mg C D))
noncomputable def sm_fx (C : sm_K) (k pc : Nat) (lv st : List Value) (D : sm_D) : Option sm_o := sm_um C D (sm_ex C.1 C.2.1 true (sm_nd k) k pc lv st (C.2.2.1, sm_mg C D))
def sm_ge (a b : Option sm_o) : Prop := ∀ o, b = some o → a = some o
theorem sm_ge.refl (a : Option sm_o) : sm_ge a a := fun _ h => h
theorem sm_ge.trans {a b c : Option sm_o} (h : sm_ge a b) (h2 : sm_ge b c) : sm_ge a c := fun o ho => h o (h2 o ho)
theorem sm_mg_low {C : sm_K} {S : sm_S} (h : ∀ a, a < C.2.1 → S.2.1 a = C.2.2.2 a) : sm_mg C S.2 = S.2 := by
  unfold sm_mg
  refine Prod.ext ?_ rfl
  funext a j
  show (if a < C.2.1 then C.2.2.2 a j else S.2.1 a j) = S.2.1 a j
  split
  · next ha => rw [h a ha]
  · rfl
/-- what is found so is what the whole small machine finds -/
theorem sm_fe_ev {C : sm_K} {k d : Nat} {as : List Value} {S : sm_S} {v : Option Value ⊕ Nat} {D' : sm_D} {q : Bool} (hZ : S.1 = C.2.2.1) (hl : ∀ a, a < C.2.1 → S.2.1 a = C.2.2.2 a) (hd : sm_nd k ≤ d) (h : sm_fe C k as S.2 = some (v, D')) :
    sm_ev C.1 C.2.1 q d k as S = some (v, (S.1, D')) ∧ ∀ a, a < C.2.1 → D'.1 a = C.2.2.2 a := by
  unfold sm_fe at h
  rw [sm_mg_low hl] at h
  have hS : (C.2.2.1, S.2) = S := by rw [← hZ]
  rw [hS] at h
  cases hr : sm_ev C.1 C.2.1 true (sm_nd k) k as S with
  | none => rw [hr] at h; cases h
  | some o =>
    obtain ⟨w, S'⟩ := o
    rw [hr] at h
    obtain ⟨h1, h2⟩ := sq_ev (q' := q) _ d k as S _ hd hr
    cases h
    have e : ((fun a j => if a < C.2.1 then S.2.1 a j else S'.2.1 a j, S'.2.2) : sm_D) = S'.2 := by
      refine Prod.ext ?_ rfl
      funext a j
      show (if a < C.2.1 then S.2.1 a j else S'.2.1 a j) = S'.2.1 a j
      split
      · next ha => rw [h2.2 a ha]
      · rfl
    refine ⟨?_, fun a ha => ?_⟩
    · rw [e, h1, ← h2.1]
    · funext j
      show (if a < C.2.1 then S.2.1 a j else S'.2.1 a j) = _
      rw [if_pos ha, hl a ha]
def ni (n : Nat) : Int32 := Int32.ofNat n
def sm_k (n : Int) : Int32 := match n with
  | .ofNat m => ni m
  | .negSucc m => Int32.ofInt (.negSucc m)
theorem sm_k_eq (n : Int) : sm_k n = Int32.ofInt n := by
  cases n with
  | ofNat m => rfl
  | negSucc m => rfl
/-- pure instructions once more, their constants told in one way -/
def sm_pv (i : Instr) (len pc : Nat) (lv st : List Value) : sm_P := match i with
  | .iconst n => sp_push len 1 pc lv st (.int (sm_k n))
  | .bipush n => if -128 ≤ n ∧ n < 128 then sp_push len 2 pc lv st (.int (sm_k n)) else none
  | .sipush n => if -32768 ≤ n ∧ n < 32768 then sp_push len 3 pc lv st (.int (sm_k n)) else none
  | .iinc k c => match lv[k]? with
    | some (.int x) => if len = 3 ∧ k < lv.length then some (pc + 3, sm_st1 lv k (.int (match c with | .ofNat m => x + ni m | .negSucc m => x - ni (m + 1))), st) else none
    | _ => none
  | i => sm_pu i len pc lv st
theorem sm_ib (n : Int) (h : -128 ≤ n ∧ n < 128) : (Int8.ofInt n).toInt32 = Int32.ofInt n := by
  rw [← Int32.toInt_inj, Int8.toInt_toInt32, Int8.toInt_ofInt_of_le (by simpa using h.1) (by have := h.2; simpa using this), Int32.toInt_ofInt_of_le (by have := h.1; have := h.2; omega) (by have := h.2; omega)]
theorem sm_is (n : Int) (h : -32768 ≤ n ∧ n < 32768) : (Int16.ofInt n).toInt32 = Int32.ofInt n := by
  rw [← Int32.toInt_inj, Int16.toInt_toInt32, Int16.toInt_ofInt_of_le (by simpa using h.1) (by have := h.2; simpa using this), Int32.toInt_ofInt_of_le (by have := h.1; have := h.2; omega) (by have := h.2; omega)]
theorem sm_inc_eq (x : Int32) (c : Int) : (match c with | .ofNat m => x + ni m | .negSucc m => x - ni (m + 1)) = x + Int32.ofInt c := by
  cases c with
  | ofNat m => rfl
  | negSucc m =>
    show x - Int32.ofNat (m + 1) = x + Int32.ofInt (Int.negSucc m)
    rw [Int.negSucc_eq, Int32.ofInt_neg, Int32.sub_eq_add_neg]
    rfl
theorem sm_pv_pu {i : Instr} {len pc : Nat} {lv st : List Value} {c : Nat × List Value × List Value} (h : sm_pv i len pc lv st = some c) : sm_pu i len pc lv st = some c := by
  unfold sm_pv at h
  split at h
  · rw [sm_k_eq] at h; exact h
  · split at h
    · next n hn =>
      rw [sm_k_eq, ← sm_ib _ hn] at h
      exact h
    · cases h
  · split at h
    · next n hn =>
      rw [sm_k_eq, ← sm_is _ hn] at h
      exact h
    · cases h
  · next k cc =>
    show sp_inc len pc k cc lv st = some c
    unfold sp_inc
    split at h
    · next x hx =>
      rw [sm_inc_eq] at h
      rw [hx]
      exact h
    · cases h
  · exact h
def sm_pl : List (Nat × Instr × Nat) → Nat × List Value × List Value → sm_P
  | [], c => some c
  | r :: l, c => if r.1 = c.1 then (match sm_pv r.2.1 r.2.2 c.1 c.2.1 c.2.2 with
    | some c' => sm_pl l c'
    | none => none) else none
/-- rows stand in the order of their places -/
def sm_srt : List (Nat × Instr × Nat) → Bool
  | [] => true
  | r :: l => (match l with
    | [] => true
    | s :: _ => decide (r.1 < s.1)) && sm_srt l
theorem sm_srt_lt {r : Nat × Instr × Nat} {l : List (Nat × Instr × Nat)} (h : sm_srt (r :: l) = true) : ∀ s ∈ l, r.1 < s.1 := by
  induction l generalizing r with
  | nil => intro s hs; cases hs
  | cons t l ih =>
    intro s hs
    unfold sm_srt at h
    rw [Bool.and_eq_true] at h
    have h1 : r.1 < t.1 := of_decide_eq_true h.1
    rcases List.mem_cons.mp hs with rfl | hs
    · exact h1
    · exact Nat.lt_trans h1 (ih h.2 s hs)
theorem sm_srt_tail {r : Nat × Instr × Nat} {l : List (Nat × Instr × Nat)} (h : sm_srt (r :: l) = true) : sm_srt l = true := by
  unfold sm_srt at h
  rw [Bool.and_eq_true] at h
  exact h.2
theorem sm_look_srt : ∀ (l : List (Nat × Instr × Nat)), sm_srt l = true → ∀ r ∈ l, sm_look l r.1 = some r.2 := by
  intro l
  induction l with
  | nil => intro _ r hr; cases hr
  | cons t l ih =>
    intro h r hr
    unfold sm_look
    rcases List.mem_cons.mp hr with rfl | hr
    · rw [if_pos rfl]
    · rw [if_neg (by have := sm_srt_lt h r hr; omega)]
      exact ih (sm_srt_tail h) r hr
theorem sm_srts : sm_ms.all (fun m => sm_srt m.2.2) = true := by decide +kernel
theorem sm_at_mem {k : Nat} {r : Nat × Instr × Nat} (h : r ∈ (sm_m k).2.2) : sm_at k r.1 = some r.2 :=
  sm_look_srt _ (List.all_eq_true.mp sm_srts _ (sm_m_mem k)) r h
/-- of a method: its class, its rows, the frames that it needs below it -/
def sm_q (k cls : Nat) (l : List (Nat × Instr × Nat)) (nd : Nat) : Prop := (sm_m k).2.1.1 = cls ∧ (sm_m k).2.2 = l ∧ sm_nd k = nd
theorem sm_q.at {k cls nd : Nat} {l : List (Nat × Instr × Nat)} (q : sm_q k cls l nd) {j pc len : Nat} {i : Instr} (h : l[j]? = some (pc, i, len)) : sm_at k pc = some (i, len) := by
  have : (pc, i, len) ∈ (sm_m k).2.2 := by
    rw [q.2.1]
    exact List.mem_of_getElem? h
  exact sm_at_mem this
section SFX
variable {C : sm_K} {k cls nd pc pc' len : Nat} {l : List (Nat × Instr × Nat)} {lv lv' st st' : List Value} {D D' : sm_D} {R R2 : Option sm_o}
theorem sm_um_eq {r : sm_R} (hl : ∀ a, a < C.2.1 → D'.1 a = D.1 a) : sm_um C D r = sm_um C D' r := by
  unfold sm_um
  split
  · next v S =>
    have e : (fun a j => if a < C.2.1 then D.1 a j else S.2.1 a j) = (fun a j => if a < C.2.1 then D'.1 a j else S.2.1 a j) := by
      funext a j
      split
      · next ha => rw [hl a ha]
      · rfl
    rw [e]
  · rfl
theorem sf_step (hs : sm_step C.1 C.2.1 (sm_nd k) true (sm_cl C.1 C.2.1 true (sm_nd k)) k (pc, lv, st, (C.2.2.1, sm_mg C D)) = some (.inl (pc', lv', st', (C.2.2.1, sm_mg C D')))) (hl : ∀ a, a < C.2.1 → D'.1 a = D.1 a) : sm_fx C k pc lv st D = sm_fx C k pc' lv' st' D' := by
  unfold sm_fx sm_ex
  rw [sm_lim_go hs]
  exact sm_um_eq hl
theorem sm_um_mg {v : Option Value ⊕ Nat} : sm_um C D (some (v, (C.2.2.1, sm_mg C D))) = some (v, D) := by
  unfold sm_um sm_mg
  have e : (fun a j => if a < C.2.1 then D.1 a j else if a < C.2.1 then C.2.2.2 a j else D.1 a j) = D.1 := by
    funext a j
    split <;> rfl
  show some (v, ((fun a j => if a < C.2.1 then D.1 a j else if a < C.2.1 then C.2.2.2 a j else D.1 a j), D.2)) = some (v, D)
  rw [e]
theorem sf_end {v : Option Value ⊕ Nat} (hs : sm_step C.1 C.2.1 (sm_nd k) true (sm_cl C.1 C.2.1 true (sm_nd k)) k (pc, lv, st, (C.2.2.1, sm_mg C D)) = some (.inr (v, (C.2.2.1, sm_mg C D)))) : sm_fx C k pc lv st D = some (v, D) := by
  unfold sm_fx sm_ex
  rw [sm_lim_end hs]
  exact sm_um_mg
theorem sf_pu {i : Instr} {E : sm_E} {B d : Nat} {b : Bool} {call : sm_F'} {S : sm_S} (hat : sm_at k pc = some (i, len)) (h : sm_pu i len pc lv st = some (pc', lv', st')) : sm_step E B d b call k (pc, lv, st, S) = some (.inl (pc', lv', st', S)) := by
  unfold sm_step
  rw [hat]
  dsimp only
  rw [h]
theorem sf_op {i : Instr} {E : sm_E} {B d : Nat} {b : Bool} {call : sm_F'} {S : sm_S} (hat : sm_at k pc = some (i, len)) (h : sm_pu i len pc lv st = none) : sm_step E B d b call k (pc, lv, st, S) = sm_op E B d b call k i len pc lv st S := by
  unfold sm_step
  rw [hat]
  dsimp only
  rw [h]
/-- pure instructions in a row -/
theorem sx_pl : ∀ (rs : List (Nat × Instr × Nat)) (pc : Nat) (lv st : List Value), (∀ r ∈ rs, r ∈ (sm_m k).2.2) → sm_pl rs (pc, lv, st) = some (pc', lv', st') → sm_fx C k pc lv st D = sm_fx C k pc' lv' st' D := by
  intro rs
  induction rs with
  | nil => intro pc lv st _ h; cases h; rfl
  | cons r rs ih =>
    intro pc lv st hm h
    unfold sm_pl at h
    split at h
    · next he =>
      split at h
      · next c' hc =>
        obtain ⟨pc1, lv1, st1⟩ := c'
        have hat := sm_at_mem (hm r List.mem_cons_self)
        rw [he] at hat
        rw [sf_step (sf_pu hat (sm_pv_pu hc)) (fun _ _ => rfl)]
        exact ih pc1 lv1 st1 (fun s hs => hm s (List.mem_cons_of_mem _ hs)) h
      · cases h
    · cases h
theorem sx_p (q : sm_q k cls l nd) (j n : Nat) (h : sm_pl ((l.drop j).take n) (pc, lv, st) = some (pc', lv', st')) (c : sm_ge (sm_fx C k pc' lv' st' D) R) : sm_ge (sm_fx C k pc lv st D) R := by
  rw [sx_pl ((l.drop j).take n) pc lv st (fun r hr => by rw [q.2.1]; exact List.mem_of_mem_drop (List.mem_of_mem_take hr)) h]
  exact c
theorem sx_w (h : sm_ord lv' lv) : sm_ge (sm_fx C k pc lv st D) (sm_fx C k pc lv' st D) := by
  intro o ho
  unfold sm_fx at ho ⊢
  cases hr : sm_ex C.1 C.2.1 true (sm_nd k) k pc lv' st (C.2.2.1, sm_mg C D) with
  | none => rw [hr] at ho; cases ho
  | some x =>
    rw [(sq_ex (q' := true) (Nat.le_refl _) h hr).1, ← hr]
    exact ho
/-! branches -/
theorem sm_ge_ite {p : Prop} [Decidable p] {a b a' b' : Option sm_o} (h1 : sm_ge a a') (h2 : sm_ge b b') : sm_ge (if p then a else b) (if p then a' else b') := by
  split
  · exact h1
  · exact h2
theorem sx_icmp {cd : ClassFile.Cond} {x y : Int32} {off : Int} {t : Nat} (hat : sm_at k pc = some (.if_icmp cd off, 3)) (ht : sm_tg pc off = some t) : sm_fx C k pc lv (.int y :: .int x :: st) D = if sm_cmp cd x y = true then sm_fx C k t lv st D else sm_fx C k (pc + 3) lv st D := by
  have h : sm_pu (.if_icmp cd off) 3 pc lv (.int y :: .int x :: st) = some (if sm_cmp cd x y then t else pc + 3, lv, st) := by
    show sp_icmp cd off 3 pc lv (.int y :: .int x :: st) = _
    unfold sp_icmp
    rw [ht]
    exact if_pos rfl
  rw [sf_step (sf_pu hat h) (fun _ _ => rfl)]
  split <;> rfl
theorem sx_if {cd : ClassFile.Cond} {x : Int32} {off : Int} {t : Nat} (hat : sm_at k pc = some (.ifCond cd off, 3)) (ht : sm_tg pc off = some t) : sm_fx C k pc lv (.int x :: st) D = if sm_cmp cd x (ni 0) = true then sm_fx C k t lv st D else sm_fx C k (pc + 3) lv st D := by
  have h : sm_pu (.ifCond cd off) 3 pc lv (.int x :: st) = some (if sm_cmp cd x (ni 0) then t else pc + 3, lv, st) := by
    show sp_if cd off 3 pc lv (.int x :: st) = _
    unfold sp_if
    rw [ht]
    exact if_pos rfl
  rw [sf_step (sf_pu hat h) (fun _ _ => rfl)]
  split <;> rfl
section SXB
variable {x y : Int32} {off : Int} {t j : Nat}
theorem sx_icmp_eq (q : sm_q k cls l nd) (j : Nat) (hr : l[j]? = some (pc, .if_icmp .eq off, 3)) (ht : sm_tg pc off = some t) (c1 : sm_ge (sm_fx C k t lv st D) R) (c2 : sm_ge (sm_fx C k (pc + 3) lv st D) R2) : sm_ge (sm_fx C k pc lv (.int y :: .int x :: st) D) (if x = y then R else R2) := by
  rw [sx_icmp (q.at hr) ht]
  simp only [sm_cmp, decide_eq_true_eq]
  exact sm_ge_ite c1 c2
theorem sx_icmp_ne (q : sm_q k cls l nd) (j : Nat) (hr : l[j]? = some (pc, .if_icmp .ne off, 3)) (ht : sm_tg pc off = some t) (c1 : sm_ge (sm_fx C k t lv st D) R) (c2 : sm_ge (sm_fx C k (pc + 3) lv st D) R2) : sm_ge (sm_fx C k pc lv (.int y :: .int x :: st) D) (if x = y then R2 else R) := by
  rw [sx_icmp (q.at hr) ht]
  simp only [sm_cmp, decide_eq_true_eq, ite_not]
  exact sm_ge_ite c2 c1
theorem sx_icmp_lt (q : sm_q k cls l nd) (j : Nat) (hr : l[j]? = some (pc, .if_icmp .lt off, 3)) (ht : sm_tg pc off = some t) (c1 : sm_ge (sm_fx C k t lv st D) R) (c2 : sm_ge (sm_fx C k (pc + 3) lv st D) R2) : sm_ge (sm_fx C k pc lv (.int y :: .int x :: st) D) (if x < y then R else R2) := by
  rw [sx_icmp (q.at hr) ht]
  simp only [sm_cmp, decide_eq_true_eq]
  exact sm_ge_ite c1 c2
theorem sx_icmp_ge (q : sm_q k cls l nd) (j : Nat) (hr : l[j]? = some (pc, .if_icmp .ge off, 3)) (ht : sm_tg pc off = some t) (c1 : sm_ge (sm_fx C k t lv st D) R) (c2 : sm_ge (sm_fx C k (pc + 3) lv st D) R2) : sm_ge (sm_fx C k pc lv (.int y :: .int x :: st) D) (if y ≤ x then R else R2) := by
  rw [sx_icmp (q.at hr) ht]
  simp only [sm_cmp, decide_eq_true_eq]
  exact sm_ge_ite c1 c2
theorem sx_icmp_gt (q : sm_q k cls l nd) (j : Nat) (hr : l[j]? = some (pc, .if_icmp .gt off, 3)) (ht : sm_tg pc off = some t) (c1 : sm_ge (sm_fx C k t lv st D) R) (c2 : sm_ge (sm_fx C k (pc + 3) lv st D) R2) : sm_ge (sm_fx C k pc lv (.int y :: .int x :: st) D) (if y < x then R else R2) := by
  rw [sx_icmp (q.at hr) ht]
  simp only [sm_cmp, decide_eq_true_eq]
  exact sm_ge_ite c1 c2
theorem sx_icmp_le (q : sm_q k cls l nd) (j : Nat) (hr : l[j]? = some (pc, .if_icmp .le off, 3)) (ht : sm_tg pc off = some t) (c1 : sm_ge (sm_fx C k t lv st D) R) (c2 : sm_ge (sm_fx C k (pc + 3) lv st D) R2) : sm_ge (sm_fx C k pc lv (.int y :: .int x :: st) D) (if x ≤ y then R else R2) := by
  rw [sx_icmp (q.at hr) ht]
  simp only [sm_cmp, decide_eq_true_eq]
  exact sm_ge_ite c1 c2
theorem sx_if_eq (q : sm_q k cls l nd) (j : Nat) (hr : l[j]? = some (pc, .ifCond .eq off, 3)) (ht : sm_tg pc off = some t) (c1 : sm_ge (sm_fx C k t lv st D) R) (c2 : sm_ge (sm_fx C k (pc + 3) lv st D) R2) : sm_ge (sm_fx C k pc lv (.int x :: st) D) (if x = ni 0 then R else R2) := by
  rw [sx_if (q.at hr) ht]
  simp only [sm_cmp, decide_eq_true_eq]
  exact sm_ge_ite c1 c2
theorem sx_if_ne (q : sm_q k cls l nd) (j : Nat) (hr : l[j]? = some (pc, .ifCond .ne off, 3)) (ht : sm_tg pc off = some t) (c1 : sm_ge (sm_fx C k t lv st D) R) (c2 : sm_ge (sm_fx C k (pc + 3) lv st D) R2) : sm_ge (sm_fx C k pc lv (.int x :: st) D) (if x = ni 0 then R2 else R) := by
  rw [sx_if (q.at hr) ht]
  simp only [sm_cmp, decide_eq_true_eq, ite_not]
  exact sm_ge_ite c2 c1
theorem sx_if_lt (q : sm_q k cls l nd) (j : Nat) (hr : l[j]? = some (pc, .ifCond .lt off, 3)) (ht : sm_tg pc off = some t) (c1 : sm_ge (sm_fx C k t lv st D) R) (c2 : sm_ge (sm_fx C k (pc + 3) lv st D) R2) : sm_ge (sm_fx C k pc lv (.int x :: st) D) (if x < ni 0 then R else R2) := by
  rw [sx_if (q.at hr) ht]
  simp only [sm_cmp, decide_eq_true_eq]
  exact sm_ge_ite c1 c2
theorem sx_if_ge (q : sm_q k cls l nd) (j : Nat) (hr : l[j]? = some (pc, .ifCond .ge off, 3)) (ht : sm_tg pc off = some t) (c1 : sm_ge (sm_fx C k t lv st D) R) (c2 : sm_ge (sm_fx C k (pc + 3) lv st D) R2) : sm_ge (sm_fx C k pc lv (.int x :: st) D) (if ni 0 ≤ x then R else R2) := by
  rw [sx_if (q.at hr) ht]
  simp only [sm_cmp, decide_eq_true_eq]
  exact sm_ge_ite c1 c2
theorem sx_if_gt (q : sm_q k cls l nd) (j : Nat) (hr : l[j]? = some (pc, .ifCond .gt off, 3)) (ht : sm_tg pc off = some t) (c1 : sm_ge (sm_fx C k t lv st D) R) (c2 : sm_ge (sm_fx C k (pc + 3) lv st D) R2) : sm_ge (sm_fx C k pc lv (.int x :: st) D) (if ni 0 < x then R else R2) := by
  rw [sx_if (q.at hr) ht]
  simp only [sm_cmp, decide_eq_true_eq]
  exact sm_ge_ite c1 c2
theorem sx_if_le (q : sm_q k cls l nd) (j : Nat) (hr : l[j]? = some (pc, .ifCond .le off, 3)) (ht : sm_tg pc off = some t) (c1 : sm_ge (sm_fx C k t lv st D) R) (c2 : sm_ge (sm_fx C k (pc + 3) lv st D) R2) : sm_ge (sm_fx C k pc lv (.int x :: st) D) (if x ≤ ni 0 then R else R2) := by
  rw [sx_if (q.at hr) ht]
  simp only [sm_cmp, decide_eq_true_eq]
  exact sm_ge_ite c1 c2
end SXB
end SFX
