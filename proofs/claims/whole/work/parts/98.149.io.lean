/-! ===== constructors: their runs, reckoned over places counted from the first new cell ===== -/
def cb_sh (X : Nat) : Value → Value
  | .ref o => .ref (X + o)
  | v => v
/-- what the references of new cells are to be -/
def cb_tb : List (List (Option Nat)) := [some 1, some 4, some 20, some 23, some 36] :: sm_lrf.drop 1
def cb_at (i f : Nat) : Option Nat := (cb_tb.getD i []).getD f none
def cb_R : FieldType → Bool
  | .object _ => true
  | .array _ => true
  | _ => false
/-- cells made; slots used; references laid -/
abbrev cb_A : Type := Nat × Nat × List (Nat × Nat × Nat)
def cb_fd (a f : Nat) : List (Nat × Nat × Nat) → Option Nat
  | [] => none
  | q :: r => if q.1 = a ∧ q.2.1 = f then some q.2.2 else cb_fd a f r
def cb : Nat → Nat → Nat → Nat → List Value → List Value → cb_A → Option cb_A
  | 0, _, _, _, _, _, _ => none
  | n + 1, d, k, pc, lv, st, A => match sm_at k pc with
    | some (.aload_n j, len) => match lv[j.val]? with
      | some (.ref o) => if len = 1 then cb n d k (pc + 1) lv (.ref o :: st) A else none
      | _ => none
    | some (.iload_n j, len) => match lv[j.val]? with
      | some (.int x) => if len = 1 then cb n d k (pc + 1) lv (.int x :: st) A else none
      | _ => none
    | some (.iconst v, len) => if len = 1 then cb n d k (pc + 1) lv (.int (Int32.ofInt v) :: st) A else none
    | some (.bipush v, len) => if len = 2 then cb n d k (pc + 2) lv (.int (Int8.ofInt v).toInt32 :: st) A else none
    | some (.sipush v, len) => if len = 3 then cb n d k (pc + 3) lv (.int (Int16.ofInt v).toInt32 :: st) A else none
    | some (.dup, len) => match st with
      | .ref o :: r => if len = 1 then cb n d k (pc + 1) lv (.ref o :: .ref o :: r) A else none
      | _ => none
    | some (.ldc x, len) => match sm_look sm_CI (sm_key k x) with
      | some v => if len = 2 ∧ x < 65536 then cb n d k (pc + 2) lv (.int v :: st) A else none
      | none => none
    | some (.new x, len) => match sm_look sm_N (sm_key k x) with
      | some (c, sl) => if len = 3 ∧ x < 65536 ∧ c < 13 ∧ sm_lsh[A.1]? = some (.inl c) then cb n d k (pc + 3) lv (.ref A.1 :: st) (A.1 + 1, A.2.1 + sl, A.2.2) else none
      | none => none
    | some (.newarray ty, len) => match st with
      | .int v :: r => if len = 2 ∧ (ty = .int ∨ ty = .boolean ∨ ty = .byte ∨ ty = .long) ∧ ¬ v < 0 ∧ v.toNatClampNeg ≤ 60000 ∧ sm_lsh[A.1]? = some (.inr (newarray.typeOf ty, v.toNatClampNeg)) then cb n d k (pc + 2) lv (.ref A.1 :: r) (A.1 + 1, A.2.1 + v.toNatClampNeg, A.2.2) else none
      | _ => none
    | some (.getfield x, len) => match st with
      | .ref a :: r => match sm_look sm_F (sm_key k x) with
        | some (c, f) => match cb_fd a f A.2.2 with
          | some o => if len = 3 ∧ x < 65536 ∧ c < 14 ∧ f < sm_nf c ∧ a < A.1 ∧ sm_lsh[a]? = some (.inl c) ∧ cb_R (sm_ty c f) = true then cb n d k (pc + 3) lv (.ref o :: r) A else none
          | none => none
        | none => none
      | _ => none
    | some (.putfield x, len) => match st with
      | .ref o :: .ref a :: r => match sm_look sm_F (sm_key k x) with
        | some (c, f) => if len = 3 ∧ x < 65536 ∧ c < 13 ∧ f < sm_nf c ∧ a < A.1 ∧ sm_lsh[a]? = some (.inl c) ∧ ((sm_T c f).2.2.2 = false ∨ ((sm_m k).2.1.1 = c ∧ (sm_m k).1.1.name = "<init>")) ∧ cb_R (sm_ty c f) = true ∧ cb_at a f = some o then cb n d k (pc + 3) lv r (A.1, A.2.1, (a, f, o) :: A.2.2) else none
        | none => none
      | _ => none
    | some (.invokestatic x, len) => match st with
      | .int z :: .int v :: r => match sm_look sm_L (sm_key k x) with
        | some (y, _) => if len = 3 ∧ x < 65536 ∧ y = 283 ∧ 1 ≤ d ∧ z = ni 0 ∧ v = ni v.toNatClampNeg ∧ v.toNatClampNeg < 60001 ∧ sm_w r ≤ 8 then cb n d k (pc + 3) lv (.int v :: r) A else none
        | none => none
      | _ => none
    | some (.invokespecial x, len) => match sm_look sm_L (sm_key k x) with
      | some (y, _) => match st.drop (sm_na y) with
        | .ref b :: rest => if len = 3 ∧ x < 65536 ∧ 1 ≤ d ∧ (sm_m y).2.1.2.2 = false ∧ (sm_m y).1.1.name = "<init>" ∧ sm_na y ≤ st.length ∧ sm_w rest ≤ 8 ∧ (sm_args (.ref b :: (st.take (sm_na y)).reverse)).length ≤ (sm_m y).1.2.2.1 then
            match cb n (d - 1) y 0 (sm_entry (sm_m y).1.2.2.1 (.ref b :: (st.take (sm_na y)).reverse)) [] A with
            | some A' => cb n d k (pc + 3) lv rest A'
            | none => none
          else none
        | _ => none
      | none => match sm_look sm_LX (sm_key k x) with
        | some (z, _) => match st with
          | .ref _ :: rest => if len = 3 ∧ x < 65536 ∧ z = 0 ∧ 1 ≤ d ∧ sm_w rest ≤ 8 then cb n d k (pc + 3) lv rest A else none
          | _ => none
        | none => none
    | some (.return_, len) => if len = 1 ∧ st = [] ∧ (sm_m k).1.2.2.2 = none then some A else none
    | _ => none
/-- the state behind some of the constructors' work -/
def cb_B (X : Nat) (S0 : sm_S) (A : cb_A) (S : sm_S) : Prop :=
  S.2.2.2.2.1 = X + A.1 ∧ S.2.2.2.2.2 = S0.2.2.2.2.2 + A.2.1 ∧ (∀ i, i < A.1 → S.1.1 (X + i) = sm_lsh[i]?) ∧
  (∀ r ∈ A.2.2, r.1 < A.1 ∧ S.1.2 (X + r.1) r.2.1 = .ref (X + r.2.2) ∧ cb_at r.1 r.2.1 = some r.2.2) ∧
  (∀ a, a < X → S.1.1 a = S0.1.1 a ∧ S.1.2 a = S0.1.2 a ∧ S.2.1 a = S0.2.1 a) ∧ (∀ i j, i < A.1 → S.2.1 (X + i) j = 0 ∧ S.2.2.1 (X + i) j = 0) ∧ S.2.2.2.1 = S0.2.2.2.1
section CBS
variable {E : sm_E} {B X n d k pc : Nat} {lv st : List Value} {A A' : cb_A} {S0 S : sm_S}
theorem cb_B.new (h : cb_B X S0 A S) {sh : sm_Sh} {sl : Nat} (hs : sm_lsh[A.1]? = some sh) : cb_B X S0 (A.1 + 1, A.2.1 + sl, A.2.2) (sm_new S sh sl) ∧ S.2.2.2.2.1 = X + A.1 := by
  obtain ⟨h1, h2, h3, h4, h5, h6, h7⟩ := h
  refine ⟨⟨?_, ?_, fun i hi => ?_, fun r hr => ⟨?_, ?_, (h4 r hr).2.2⟩, fun a ha => ?_, fun i j hi => ?_, h7⟩, h1⟩
  · show S.2.2.2.2.1 + 1 = X + (A.1 + 1)
    omega
  · show S.2.2.2.2.2 + sl = _
    rw [h2]
    show _ = S0.2.2.2.2.2 + (A.2.1 + sl)
    omega
  · show (if X + i = S.2.2.2.2.1 then some sh else S.1.1 (X + i)) = _
    by_cases e : i = A.1
    · rw [if_pos (by omega), e]; exact hs.symm
    · rw [if_neg (by omega)]; exact h3 i (by have : i < A.1 + 1 := hi; omega)
  · have := (h4 r hr).1
    show r.1 < A.1 + 1
    omega
  · have h8 := (h4 r hr).1
    show (if X + r.1 = S.2.2.2.2.1 then Value.null else S.1.2 (X + r.1) r.2.1) = _
    rw [if_neg (by omega)]
    exact (h4 r hr).2.1
  · show (if a = S.2.2.2.2.1 then some sh else S.1.1 a) = _ ∧ (fun j => if a = S.2.2.2.2.1 then Value.null else S.1.2 a j) = _ ∧ (fun j => if a = S.2.2.2.2.1 then (0 : Int32) else S.2.1 a j) = _
    have e : ¬ a = S.2.2.2.2.1 := by omega
    simp only [if_neg e]
    exact h5 a ha
  · show (if X + i = S.2.2.2.2.1 then (0 : Int32) else S.2.1 (X + i) j) = 0 ∧ (if X + i = S.2.2.2.2.1 then (0 : Int64) else S.2.2.1 (X + i) j) = 0
    by_cases e : X + i = S.2.2.2.2.1
    · rw [if_pos e, if_pos e]; exact ⟨rfl, rfl⟩
    · rw [if_neg e, if_neg e]; exact h6 i j (by have : i < A.1 + 1 := hi; omega)
theorem cb_B.put (h : cb_B X S0 A S) {a f o : Nat} (ha : a < A.1) (ht : cb_at a f = some o) : cb_B X S0 (A.1, A.2.1, (a, f, o) :: A.2.2) (sm_putR S (X + a) f (.ref (X + o))) := by
  obtain ⟨h1, h2, h3, h4, h5, h6, h7⟩ := h
  refine ⟨h1, h2, h3, fun r hr => ?_, fun b hb => ⟨(h5 b hb).1, ?_, (h5 b hb).2.2⟩, h6, h7⟩
  · rcases List.mem_cons.mp hr with rfl | hr
    · exact ⟨ha, up_eq, ht⟩
    · refine ⟨(h4 r hr).1, ?_, (h4 r hr).2.2⟩
      show sm_up S.1.2 (X + a) f (.ref (X + o)) (X + r.1) r.2.1 = _
      by_cases e : X + r.1 = X + a ∧ r.2.1 = f
      · have e1 : r.1 = a := by omega
        have e2 := (h4 r hr).2.2
        rw [e1, e.2, ht] at e2
        rw [e.1, e.2, up_eq]
        cases e2
        rfl
      · rw [up_ne e]
        exact (h4 r hr).2.1
  · refine Eq.trans ?_ (h5 b hb).2.1
    funext j
    exact up_ne (by omega)
theorem cb_fd_mem {a f o : Nat} : ∀ {R : List (Nat × Nat × Nat)}, cb_fd a f R = some o → (a, f, o) ∈ R := by
  intro R
  induction R with
  | nil => intro h; cases h
  | cons q R ih =>
    intro h
    unfold cb_fd at h
    split at h
    · next hc =>
      cases h
      obtain ⟨q1, q2, q3⟩ := q
      obtain ⟨rfl, rfl⟩ := hc
      exact List.mem_cons_self
    · exact List.mem_cons_of_mem _ (ih h)
theorem cb_cat (v : Value) : (cb_sh X v).category = v.category := by cases v <;> rfl
theorem cb_w (l : List Value) : sm_w (l.map (cb_sh X)) = sm_w l := by
  unfold sm_w
  rw [List.map_map]
  congr 1
  exact List.map_congr_left (fun v _ => cb_cat v)
theorem cb_args : ∀ (l : List Value), sm_args (l.map (cb_sh X)) = (sm_args l).map (cb_sh X) := by
  intro l
  induction l with
  | nil => rfl
  | cons v l ih =>
    show (if (cb_sh X v).category = 2 then cb_sh X v :: sm_junk :: sm_args (l.map (cb_sh X)) else cb_sh X v :: sm_args (l.map (cb_sh X))) = ((if v.category = 2 then v :: sm_junk :: sm_args l else v :: sm_args l)).map (cb_sh X)
    rw [cb_cat, ih]
    split <;> rfl
theorem cb_entry (m : Nat) (l : List Value) : sm_entry m (l.map (cb_sh X)) = (sm_entry m l).map (cb_sh X) := by
  unfold sm_entry
  rw [cb_args, List.map_append, List.map_replicate, List.length_map]
  rfl
theorem cb_val {ty : FieldType} (h : cb_R ty = true) {a i : Nat} : sm_val ty S a i = S.1.2 a i := by
  cases ty <;> first | rfl | cases h
theorem cb_lay {ty : FieldType} (h : cb_R ty = true) {a i b : Nat} : sm_lay false ty S a i (.ref b) = some (sm_putR S a i (.ref b)) := by
  cases ty <;> first | rfl | cases h
theorem cb_st283 : (sm_m 283).2.1.2.2 = true := by decide +kernel
theorem cb_na283 : sm_na 283 = 2 := by decide +kernel
set_option maxHeartbeats 2000000 in
theorem cb_s (hB : B ≤ X) : ∀ (n d k pc : Nat) (lv st : List Value) (A A' : cb_A) (S : sm_S), cb n d k pc lv st A = some A' → cb_B X S0 A S → ∃ S', sm_ex E B false d k pc (lv.map (cb_sh X)) (st.map (cb_sh X)) S = some (.inl none, S') ∧ cb_B X S0 A' S' := by
  intro n
  induction n with
  | zero => intro d k pc lv st A A' S h; cases h
  | succ n ih =>
    intro d k pc lv st A A' S h hb
    unfold cb at h
    split at h
    · next j len hat =>
      split at h
      · next o hlv =>
        split at h
        · next hc =>
          obtain ⟨S', g1, g2⟩ := ih _ _ _ _ _ _ _ S h hb
          refine ⟨S', Eq.trans (nx_go (sf_pu hat ?_)) g1, g2⟩
          show sp_lda len 1 pc j.val _ _ = _
          unfold sp_lda
          rw [List.getElem?_map, hlv]
          exact if_pos hc
        · cases h
      · cases h
    · next j len hat =>
      split at h
      · next o hlv =>
        split at h
        · next hc =>
          obtain ⟨S', g1, g2⟩ := ih _ _ _ _ _ _ _ S h hb
          refine ⟨S', Eq.trans (nx_go (sf_pu hat ?_)) g1, g2⟩
          show sp_ldi len 1 pc j.val _ _ = _
          unfold sp_ldi
          rw [List.getElem?_map, hlv]
          exact if_pos hc
        · cases h
      · cases h
    · next v len hat =>
      split at h
      · next hc =>
        obtain ⟨S', g1, g2⟩ := ih _ _ _ _ _ _ _ S h hb
        exact ⟨S', Eq.trans (nx_go (sf_pu hat (if_pos hc))) g1, g2⟩
      · cases h
    · next v len hat =>
      split at h
      · next hc =>
        obtain ⟨S', g1, g2⟩ := ih _ _ _ _ _ _ _ S h hb
        exact ⟨S', Eq.trans (nx_go (sf_pu hat (if_pos hc))) g1, g2⟩
      · cases h
    · next v len hat =>
      split at h
      · next hc =>
        obtain ⟨S', g1, g2⟩ := ih _ _ _ _ _ _ _ S h hb
        exact ⟨S', Eq.trans (nx_go (sf_pu hat (if_pos hc))) g1, g2⟩
      · cases h
    · next len hat =>
      split at h
      · next o r =>
        split at h
        · next hc =>
          obtain ⟨S', g1, g2⟩ := ih _ _ _ _ _ _ _ S h hb
          exact ⟨S', Eq.trans (nx_go (sf_pu hat (if_pos ⟨hc, rfl⟩))) g1, g2⟩
        · cases h
      · cases h
    · next x len hat =>
      split at h
      · next v hl =>
        split at h
        · next hc =>
          obtain ⟨S', g1, g2⟩ := ih _ _ _ _ _ _ _ S h hb
          refine ⟨S', Eq.trans (nx_go ?_) g1, g2⟩
          rw [sf_op hat rfl]
          show sm_gd x (sm_ldc E k x 2 len pc _ _ S) = _
          unfold sm_gd sm_ldc
          rw [if_pos hc.2, hl]
          exact if_pos hc.1
        · cases h
      · cases h
    · next x len hat =>
      split at h
      · next c sl hl =>
        split at h
        · next hc =>
          obtain ⟨b1, b2⟩ := hb.new (sl := sl) hc.2.2.2
          obtain ⟨S', g1, g2⟩ := ih _ _ _ _ _ _ _ _ h b1
          refine ⟨S', Eq.trans (nx_go ?_) g1, g2⟩
          rw [sf_op hat rfl]
          show sm_gd x (sm_newo false k x len pc _ _ S) = _
          unfold sm_gd sm_newo
          rw [if_pos hc.2.1, hl]
          dsimp only
          rw [if_pos ⟨rfl, hc.1, hc.2.2.1⟩, b2]
          rfl
        · cases h
      · cases h
    · next ty len hat =>
      split at h
      · next v r =>
        split at h
        · next hc =>
          obtain ⟨b1, b2⟩ := hb.new (sl := v.toNatClampNeg) hc.2.2.2.2
          obtain ⟨S', g1, g2⟩ := ih _ _ _ _ _ _ _ _ h b1
          refine ⟨S', Eq.trans (nx_go ?_) g1, g2⟩
          rw [sf_op hat rfl]
          show sm_newa false ty len pc _ (.int v :: r.map (cb_sh X)) S = _
          unfold sm_newa
          dsimp only
          rw [if_pos ⟨rfl, hc.1, hc.2.1, hc.2.2.1, hc.2.2.2.1⟩, b2]
          rfl
        · cases h
      · cases h
    · next x len hat =>
      split at h
      · next a r =>
        split at h
        · next c f hl =>
          split at h
          · next o hfd =>
            split at h
            · next hc =>
              obtain ⟨c1, c2, c3, c4, c5, c6, c7⟩ := hc
              obtain ⟨S', g1, g2⟩ := ih _ _ _ _ _ _ _ S h hb
              refine ⟨S', Eq.trans (nx_go ?_) g1, g2⟩
              rw [sf_op hat rfl]
              show sm_gd x (sm_getf k x len pc _ (.ref (X + a) :: r.map (cb_sh X)) S) = _
              unfold sm_gd sm_getf
              rw [if_pos c2, hl]
              dsimp only
              rw [if_pos ⟨c1, c3, c4, (hb.2.2.1 a c5).trans c6⟩, cb_val c7, (hb.2.2.2.1 _ (cb_fd_mem hfd)).2.1]
              rfl
            · cases h
          · cases h
        · cases h
      · cases h
    · next x len hat =>
      split at h
      · next o a r =>
        split at h
        · next c f hl =>
          split at h
          · next hc =>
            obtain ⟨c1, c2, c3, c4, c5, c6, c7, c8, c9⟩ := hc
            obtain ⟨S', g1, g2⟩ := ih _ _ _ _ _ _ _ _ h (hb.put c5 c9)
            refine ⟨S', Eq.trans (nx_go ?_) g1, g2⟩
            rw [sf_op hat rfl]
            show sm_gd x (sm_putf B false k x len pc _ (.ref (X + o) :: .ref (X + a) :: r.map (cb_sh X)) S) = _
            unfold sm_gd sm_putf
            rw [if_pos c2, hl]
            dsimp only
            rw [if_pos ⟨c1, c3, c4, by omega, (hb.2.2.1 a c5).trans c6, c7⟩, cb_lay c8]
          · cases h
        · cases h
      · cases h
    · next x len hat =>
      split at h
      · next z v r =>
        split at h
        · next y nb hl =>
          split at h
          · next hc =>
            obtain ⟨c1, c2, rfl, c4, rfl, c6, c7, c8⟩ := hc
            obtain ⟨S', g1, g2⟩ := ih _ _ _ _ _ _ _ S h hb
            refine ⟨S', Eq.trans (nx_go ?_) g1, g2⟩
            obtain ⟨e, rfl⟩ : ∃ e, d = e + 1 := ⟨d - 1, by omega⟩
            have hfe := c283 (C := (E, B, S.1, S.2.1)) (D := S.2) (a := v.toNatClampNeg) (b := 0) (by omega) (by omega)
            rw [Nat.max_eq_left (Nat.zero_le _), ← c6] at hfe
            have hev := (sm_fe_ev (C := (E, B, S.1, S.2.1)) (S := S) (q := false) (d := e) rfl (fun _ _ => rfl) (Nat.zero_le _) hfe).1
            rw [sf_op hat rfl]
            show sm_gd x (sm_stat (sm_ev E B false e) B (e + 1) k x len pc _ (.int (ni 0) :: .int v :: r.map (cb_sh X)) S) = _
            unfold sm_gd sm_stat
            rw [if_pos c2, hl]
            dsimp only
            unfold sm_calls
            rw [hl]
            dsimp only
            rw [cb_na283]
            rw [if_pos ⟨c1, cb_st283, Nat.le_add_left _ _, by show sm_w (r.map (cb_sh X)) ≤ 8; rw [cb_w]; exact c8⟩]
            show sm_back k pc _ (r.map (cb_sh X)) (sm_ev E B false e 283 [.int v, .int (ni 0)] S) = _
            rw [hev]
            rfl
          · cases h
        · cases h
      · cases h
    · next x len hat =>
      split at h
      · next y nb hl =>
        split at h
        · next b rest hdr =>
          split at h
          · next hc =>
            obtain ⟨c1, c2, c3, c4, c5, c6, c7, c8⟩ := hc
            split at h
            · next A1 hA1 =>
              obtain ⟨S1, g1, g2⟩ := ih _ _ _ _ _ _ _ _ hA1 hb
              obtain ⟨S', g3, g4⟩ := ih _ _ _ _ _ _ _ _ h g2
              refine ⟨S', Eq.trans (nx_go ?_) g3, g4⟩
              obtain ⟨e, rfl⟩ : ∃ e, d = e + 1 := ⟨d - 1, by omega⟩
              have hev : sm_ev E B false e y (.ref (X + b) :: ((st.map (cb_sh X)).take (sm_na y)).reverse) S = some (.inl none, S1) := by
                have ea : (Value.ref (X + b) :: ((st.map (cb_sh X)).take (sm_na y)).reverse) = (Value.ref b :: (st.take (sm_na y)).reverse).map (cb_sh X) := by
                  rw [← List.map_take, ← List.map_reverse]
                  rfl
                rw [ea, sm_ev_eq, if_pos (by rw [cb_args, List.length_map]; exact c8), cb_entry]
                exact g1
              have hdr2 : (st.map (cb_sh X)).drop (sm_na y) = .ref (X + b) :: rest.map (cb_sh X) := by
                rw [← List.map_drop, hdr]
                rfl
              rw [sf_op hat rfl]
              show sm_gd x (sm_calli (sm_ev E B false e) (e + 1) k x len pc _ (st.map (cb_sh X)) S) = _
              unfold sm_gd sm_calli
              rw [if_pos c2, hl]
              dsimp only
              rw [hdr2]
              dsimp only
              rw [if_pos ⟨c1, c4, c5, by rw [List.length_map]; exact c6, by rw [cb_w]; exact c7⟩, hev]
              rfl
            · cases h
          · cases h
        · cases h
      · next hl =>
        split at h
        · next z z2 hlx =>
          split at h
          · next o rest =>
            split at h
            · next hc =>
              obtain ⟨c1, c2, rfl, c4, c5⟩ := hc
              obtain ⟨S', g1, g2⟩ := ih _ _ _ _ _ _ _ S h hb
              refine ⟨S', Eq.trans (nx_go ?_) g1, g2⟩
              rw [sf_op hat rfl]
              show sm_gd x (sm_calli (sm_cl E B false d) d k x len pc _ (.ref (X + o) :: rest.map (cb_sh X)) S) = _
              unfold sm_gd sm_calli
              rw [if_pos c2, hl]
              dsimp only
              rw [hlx]
              exact (if_pos (c := len = 3 ∧ 1 ≤ d ∧ sm_w (rest.map (cb_sh X)) ≤ 8) ⟨c1, c4, by rw [cb_w]; exact c5⟩)
            · cases h
          · cases h
        · cases h
    · next len hat =>
      split at h
      · next hc =>
        cases h
        obtain ⟨c1, rfl, c3⟩ := hc
        refine ⟨S, ?_, hb⟩
        unfold sm_ex
        refine sm_lim_end ?_
        rw [sf_op hat rfl]
        show sm_retv k len [] S = _
        unfold sm_retv
        rw [c3]
        exact if_pos c1
      · cases h
    · cases h
end CBS
/-- what is checked of the reckoning: how many cells, how many slots, all references laid -/
def cb_all (lo hi : Nat) (R : List (Nat × Nat × Nat)) : Bool := (List.range (hi - lo)).all (fun i => (List.range 70).all (fun f => match cb_at (lo + i) f with | some j => decide ((lo + i, f, j) ∈ R) | none => true))
def cb_chk : Bool := match cb 400 16 0 0 (sm_entry 1 [.ref 0]) [] (1, 5, []) with
  | some A0 => match cb 400 16 152 0 (sm_entry 1 [.ref 49]) [] (A0.1 + 1, A0.2.1 + 69, A0.2.2) with
    | some A1 => decide (A0.1 = 49) && decide (A1.1 = 89) && decide (A1.2.1 ≤ 1000000) && cb_all 0 89 A1.2.2
    | none => false
  | none => false
set_option maxRecDepth 100000 in
theorem cb_chk_ok : cb_chk = true := by decide +kernel
theorem cb_two : ∃ A0 A1, cb 400 16 0 0 (sm_entry 1 [.ref 0]) [] (1, 5, []) = some A0 ∧ cb 400 16 152 0 (sm_entry 1 [.ref 49]) [] (A0.1 + 1, A0.2.1 + 69, A0.2.2) = some A1 ∧ A0.1 = 49 ∧ A1.1 = 89 ∧ A1.2.1 ≤ 1000000 ∧ cb_all 0 89 A1.2.2 = true := by
  have h := cb_chk_ok
  unfold cb_chk at h
  split at h
  · next A0 h0 =>
    split at h
    · next A1 h1 =>
      simp only [Bool.and_eq_true, decide_eq_true_eq] at h
      exact ⟨A0, A1, h0, h1, h.1.1.1, h.1.1.2, h.1.2, h.2⟩
    · cases h
  · cases h
