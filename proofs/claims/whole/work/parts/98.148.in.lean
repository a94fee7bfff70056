theorem lx_dec {pc len : Nat} {i : Instr} (h : sm_look lx_i pc = some (i, len)) : decode code pc = .ok (i, len) := by
  have h1 : (pc, i, len) ∈ lx_i := sm_look_mem h
  have h0 := lx_ok (pc, i, len) h1
  exact h0
/-- a callee's throw is not looked at: none comes to the law -/
def lx_cl (call : sm_F') : sm_F' := fun y as S => match call y as S with
  | some (.inl v, S') => some (.inl v, S')
  | _ => none
def lx_calli (call : sm_F') (idx len pc : Nat) (lv st : List Value) (S : sm_S) : sm_N' := match sm_look sm_L (sm_key 267 idx) with
  | some (y, _) => match st.drop (sm_na y) with
    | .ref b :: rest => if len = 3 ∧ (sm_m y).2.1.2.2 = false ∧ (sm_m y).1.1.name = "<init>" ∧ sm_na y ≤ st.length ∧ sm_w rest ≤ 8 then
        sm_back 267 pc lv rest (call y (.ref b :: (st.take (sm_na y)).reverse) S) else none
    | _ => none
  | none => none
def lx_ret (len : Nat) (st : List Value) (S : sm_S) : sm_N' := match st with
  | [.int x] => if len = 1 then some (.inr (.inl (some (.int x)), S)) else none
  | _ => none
def lx_op (call : sm_F') (i : Instr) (len pc : Nat) (lv st : List Value) (S : sm_S) : sm_N' := match i with
  | .iaload => sm_ald [.int] len pc lv st S
  | .laload => sm_ald [.long] len pc lv st S
  | .arraylength => sm_alen len pc lv st S
  | .newarray ty => sm_newa false ty len pc lv st S
  | .new x => sm_gd x (sm_newo false 267 x len pc lv st S)
  | .invokestatic x => sm_gd x (sm_calls (lx_cl call) 267 x len pc lv st S)
  | .invokevirtual x => sm_gd x (sm_callv (lx_cl call) 267 x len pc lv st S)
  | .invokespecial x => sm_gd x (lx_calli (lx_cl call) x len pc lv st S)
  | .ireturn => lx_ret len st S
  | _ => none
def lx_step (call : sm_F') (c : sm_C) : sm_N' := match sm_look lx_i c.1 with
  | some (i, len) => match sm_pu i len c.1 c.2.1 c.2.2.1 with
    | some (pc', lv', st') => some (.inl (pc', lv', st', c.2.2.2))
    | none => lx_op call i len c.1 c.2.1 c.2.2.1 c.2.2.2
  | none => none
theorem lx_step_i {call : sm_F'} {c : sm_C} {r : sm_C ⊕ sm_O} (h : lx_step call c = some r) : ∃ i len, sm_look lx_i c.1 = some (i, len) ∧
    ((∃ pc' lv' st', sm_pu i len c.1 c.2.1 c.2.2.1 = some (pc', lv', st') ∧ r = .inl (pc', lv', st', c.2.2.2)) ∨ lx_op call i len c.1 c.2.1 c.2.2.1 c.2.2.2 = some r) := by
  unfold lx_step at h
  split at h
  · next i len hat =>
    refine ⟨i, len, hat, ?_⟩
    split at h
    · next pc' lv' st' hpu =>
      cases h
      exact Or.inl ⟨pc', lv', st', hpu, rfl⟩
    · exact Or.inr h
  · cases h
section LXS
variable {p : Program} {l : Launch} {e : Env} {R : Room} {s : State} {m : MethodId} {args : Array Value} {below : List Frame} {meth : Method} {c : Code} {H : Heap} {locs : List Loc} {cells slots : Nat} {Q : State → Prop}
variable {E : sm_E} {G : va_G} {B : Nat} {Hb : Heap} {S S' : sm_S} {d idx len pc pc' n0 u0 : Nat} {lv st lv' st' : List Value} {ls : Array Slot} {call : sm_F'}
theorem lx_cl_i {y : Nat} {as : List Value} {o : sm_O} (h : lx_cl call y as S = some o) : call y as S = some o ∧ ∃ v, o.1 = .inl v := by
  unfold lx_cl at h
  split at h
  · next v S1 hc => cases h; exact ⟨hc, v, rfl⟩
  · cases h
def lx_Ctx (E : sm_E) (G : va_G) (B : Nat) (Hb : Heap) (p : Program) (R : Room) (s : State) (m : MethodId) (c : Code) (d : Nat) : Prop :=
  p.tables.exec = Jvm.exec ∧ c.code = code ∧ c.maxLocals = 8 ∧ s.vm.findClass (sm_cn (sm_m 267).2.1.1) = some m.cls ∧ sm_Fix E G B Hb s ∧ d ≤ R.frames ∧ 40 * d + 32 ≤ R.locals
/-- a call that comes back to the law -/
theorem lx_call (hX : lx_Ctx E G B Hb p R s m c d) (hC : sm_CallOk l E G B Hb d call) {y : Nat} {as rest : List Value} (hR : sm_Rep G B Hb s S H) (hlo : ∀ x ∈ locs, B ≤ x.base) (hls : ls.size = c.maxLocals) (hw : sm_w rest ≤ 8)
    {ig : Instr} (hdg : decode c.code pc = .ok (ig, 3))
    (hinv : ∀ T : State, T.heap = H → Stand p l e R s m args below meth c T locs cells slots → sm_Inv p l e R s m args below meth c T locs cells slots (F0 m pc ls st) rest (sm_m y).1.1 as.toArray)
    {v : Option Value} {S1 : sm_S} (ho : call y as S = some (.inl v, S1)) (hcells : cells + (sm_n S1 - sm_n S) ≤ R.cells) (hslots : slots + (sm_u S1 - sm_u S) ≤ R.slots)
    (kr : ∀ (H' : Heap) (locs' : List Loc), sm_Rep G B Hb s S1 H' → (∀ x ∈ locs', B ≤ x.base) → W p l e R s m args below meth c H' locs' (cells + (sm_n S1 - sm_n S)) (slots + (sm_u S1 - sm_u S)) Q (F0 m (pc + 3) ls (v.toList ++ rest))) :
    W p l e R s m args below meth c H locs cells slots Q (F0 m pc ls st) := by
  obtain ⟨hx, hb, hml, hown, hF, hfr, hlc⟩ := hX
  intro T hT X
  obtain ⟨vm₁, mk, X₁, hn, hst⟩ := hinv T hT X
  obtain ⟨d', hd', hn1, hu1, hM⟩ := hC y as S _ ho
  have hW : s.WarmedH vm₁ := X₁.warmed
  have hF₁ : sm_Fix E G B Hb (T.setVm vm₁) := hF.warm (U := T.setVm vm₁) hW
  have hR₁ : sm_Rep G B Hb (T.setVm vm₁) S (T.setVm vm₁).heap := by
    show sm_Rep G B Hb (T.setVm vm₁) S T.heap
    rw [hT]
    exact hR.moved hW.alike
  have hmx := (sm_m_ok y).2.2.2.2
  obtain ⟨oc, t, T', L, X', hL, e1, e2, ⟨hq1, hq2⟩, hcase⟩ := sm_callX X₁ hM (g := F0 m pc ls rest) rfl hls hdg hn (a := as.toArray) (sm_mw_cw hF₁ y) (sm_mw_ini hF₁ y) (by show d' + 1 ≤ R.frames; omega)
    (by show 2 * 0 + sm_w rest + ((sm_m y).1.2.2.1 + 11) + (40 * d' + 32) ≤ R.locals; omega) hcells hslots ⟨rfl, hF₁.warm (s := T.setVm vm₁) (State.WarmedH.refl (T.setVm vm₁)), hR₁.moved (Vm.Alike.refl _)⟩
  have hR' : sm_Rep G B Hb s S1 T'.heap := by
    rw [e1]
    exact hq2.moved hW.alike.symm
  have hlo' : ∀ x ∈ locs ++ L, B ≤ x.base := fun x hx => (List.mem_append.mp hx).elim (hlo x) (hL x)
  rcases hcase with ⟨v', rfl, hsteps⟩ | ⟨x, rfl, hsteps⟩
  · cases hq1
    obtain ⟨t2, a1, b1⟩ := kr T'.heap _ hR' hlo' T' rfl X'
    exact ⟨t2, hst _ (hsteps.trans a1), b1⟩
  · cases hq1
theorem lx_back (hX : lx_Ctx E G B Hb p R s m c d) (hC : sm_CallOk l E G B Hb d call) {y : Nat} {as rest : List Value} (hR : sm_Rep G B Hb s S H) (hlo : ∀ x ∈ locs, B ≤ x.base) (hl : sm_lv ls lv) (hlen : lv.length = c.maxLocals) (hw : sm_w rest ≤ 8) {ig : Instr} (hdg : decode c.code pc = .ok (ig, 3))
    (hn : n0 ≤ sm_n S) (hu : u0 ≤ sm_u S) (hcells : sm_n S' - n0 ≤ R.cells) (hslots : sm_u S' - u0 ≤ R.slots)
    (hinv : ∀ T : State, T.heap = H → Stand p l e R s m args below meth c T locs (sm_n S - n0) (sm_u S - u0) → sm_Inv p l e R s m args below meth c T locs (sm_n S - n0) (sm_u S - u0) (F0 m pc ls st) rest (sm_m y).1.1 as.toArray)
    (h : sm_back 267 pc lv rest (lx_cl call y as S) = some (.inl (pc', lv', st', S')))
    (kk : ∀ (H' : Heap) (locs' : List Loc) (ls' : Array Slot), sm_lv ls' lv' → lv'.length = c.maxLocals → sm_Rep G B Hb s S' H' → (∀ x ∈ locs', B ≤ x.base) → W p l e R s m args below meth c H' locs' (sm_n S' - n0) (sm_u S' - u0) Q (F0 m pc' ls' st')) :
    W p l e R s m args below meth c H locs (sm_n S - n0) (sm_u S - u0) Q (F0 m pc ls st) := by
  cases ho : lx_cl call y as S with
  | none => rw [ho] at h; cases h
  | some o =>
    rw [ho] at h
    obtain ⟨hc, v, hv⟩ := lx_cl_i ho
    obtain ⟨o1, S1⟩ := o
    have hv' : o1 = .inl v := hv
    subst hv'
    obtain ⟨d', -, hn1, hu1, -⟩ := hC y as S _ hc
    cases h
    have e1 : sm_n S - n0 + (sm_n S' - sm_n S) = sm_n S' - n0 := by
      have : sm_n S ≤ sm_n S' := hn1
      omega
    have e2 : sm_u S - u0 + (sm_u S' - sm_u S) = sm_u S' - u0 := by
      have : sm_u S ≤ sm_u S' := hu1
      omega
    refine lx_call hX hC hR hlo (hl.1.trans hlen) hw hdg hinv hc (by rw [e1]; exact hcells) (by rw [e2]; exact hslots) (fun H' locs' hR' hlo' => ?_)
    rw [e1, e2]
    exact kk H' locs' ls hl hlen hR' hlo'
theorem lx_calli_m (hc : ∀ y as S o, call y as S = some o → sm_n S ≤ sm_n o.2 ∧ sm_u S ≤ sm_u o.2) {r : sm_C ⊕ sm_O} (h : lx_calli call idx len pc lv st S = some r) : sm_le S r := by
  unfold lx_calli at h
  split at h
  · split at h
    · split at h
      · exact sm_back_m (hc _ _ _) h
      · cases h
    · cases h
  · cases h
theorem lx_ret_m {r : sm_C ⊕ sm_O} (h : lx_ret len st S = some r) : sm_le S r := by
  unfold lx_ret at h
  split at h
  · split at h
    · cases h; exact ⟨Nat.le_refl _, Nat.le_refl _⟩
    · cases h
  · cases h
theorem lx_step_m (hc : ∀ y as S o, call y as S = some o → sm_n S ≤ sm_n o.2 ∧ sm_u S ≤ sm_u o.2) {cc : sm_C} {r : sm_C ⊕ sm_O} (h : lx_step call cc = some r) : sm_le cc.2.2.2 r := by
  have hc' : ∀ y as S o, lx_cl call y as S = some o → sm_n S ≤ sm_n o.2 ∧ sm_u S ≤ sm_u o.2 := fun y as S o h => hc y as S o (lx_cl_i h).1
  obtain ⟨i, len, -, ⟨pc', lv', st', -, rfl⟩ | h2⟩ := lx_step_i h
  · exact ⟨Nat.le_refl _, Nat.le_refl _⟩
  · cases i
    case iaload => exact sm_ald_m h2
    case laload => exact sm_ald_m h2
    case arraylength => exact sm_alen_m h2
    case newarray ty => exact sm_newa_m h2
    case new x => exact sm_newo_m (sm_gd_i h2).2
    case invokestatic x => exact sm_calls_m hc' (sm_gd_i h2).2
    case invokevirtual x => exact sm_callv_m hc' (sm_gd_i h2).2
    case invokespecial x => exact lx_calli_m hc' (sm_gd_i h2).2
    case ireturn => exact lx_ret_m h2
    all_goals (exact absurd h2 (by intro z; cases z))
theorem lx_run_m (hc : ∀ y as S o, call y as S = some o → sm_n S ≤ sm_n o.2 ∧ sm_u S ≤ sm_u o.2) : ∀ (n : Nat) (c : sm_C) (o : sm_O), sm_run (lx_step call) n c = some o → sm_n c.2.2.2 ≤ sm_n o.2 ∧ sm_u c.2.2.2 ≤ sm_u o.2 := by
  intro n
  induction n with
  | zero => intro c o h; cases h
  | succ n ih =>
    intro c o h
    unfold sm_run at h
    split at h
    · next c' hs =>
      have h1 : sm_n c.2.2.2 ≤ sm_n c'.2.2.2 ∧ sm_u c.2.2.2 ≤ sm_u c'.2.2.2 := lx_step_m hc hs
      have h2 := ih c' o h
      omega
    · next o' hs =>
      cases h
      exact lx_step_m hc hs
    · cases h
set_option maxHeartbeats 1000000 in
theorem lx_sd (hX : lx_Ctx E G B Hb p R s m c d) (hC : sm_CallOk l E G B Hb d call) (h : lx_step call (pc, lv, st, S) = some (.inl (pc', lv', st', S'))) (hl : sm_lv ls lv) (hlen : lv.length = c.maxLocals) (hR : sm_Rep G B Hb s S H) (hlo : ∀ x ∈ locs, B ≤ x.base)
    (hn : n0 ≤ sm_n S) (hu : u0 ≤ sm_u S) (hcells : sm_n S' - n0 ≤ R.cells) (hslots : sm_u S' - u0 ≤ R.slots)
    (kk : ∀ (H' : Heap) (locs' : List Loc) (ls' : Array Slot), sm_lv ls' lv' → lv'.length = c.maxLocals → sm_Rep G B Hb s S' H' → (∀ x ∈ locs', B ≤ x.base) → W p l e R s m args below meth c H' locs' (sm_n S' - n0) (sm_u S' - u0) Q (F0 m pc' ls' st')) :
    W p l e R s m args below meth c H locs (sm_n S - n0) (sm_u S - u0) Q (F0 m pc ls st) := by
  have hm : sm_n S ≤ sm_n S' ∧ sm_u S ≤ sm_u S' := lx_step_m (fun y as S o ho => ⟨(hC y as S o ho).choose_spec.2.1, (hC y as S o ho).choose_spec.2.2.1⟩) h
  have hX' := hX
  obtain ⟨hx, hb, hml, hown, hF, hfr, hlc⟩ := hX'
  obtain ⟨i, len, hat, ⟨pc1, lv1, st1, hpu, hr⟩ | hop⟩ := lx_step_i h
  all_goals replace hat : sm_look lx_i pc = some (i, len) := hat
  · have hd : decode code pc = .ok (i, len) := lx_dec hat
    cases hr
    exact sd_pu hx hb hd hpu hl (fun ls' hl' => kk H locs ls' hl' ((sm_pu_len hpu).trans hlen) hR hlo)
  · replace hop : lx_op call i len pc lv st S = some (.inl (pc', lv', st', S')) := hop
    have hd : decode code pc = .ok (i, len) := lx_dec hat
    have hdc : decode c.code pc = .ok (i, len) := by rw [hb]; exact hd
    have same : ∀ {H' : Heap} {locs' : List Loc}, S'.2.2.2 = S.2.2.2 → lv' = lv → sm_Rep G B Hb s S' H' → (∀ x ∈ locs', B ≤ x.base) → W p l e R s m args below meth c H' locs' (sm_n S - n0) (sm_u S - u0) Q (F0 m pc' ls st') := by
      intro H' locs' e3 e1 hR' hlo'
      have k2 := kk H' locs' ls (by rw [e1]; exact hl) (by rw [e1]; exact hlen) hR' hlo'
      have a1 : sm_n S' = sm_n S := by
        show S'.2.2.2.2.1 = S.2.2.2.2.1
        rw [e3]
      have a2 : sm_u S' = sm_u S := by
        show S'.2.2.2.2.2 = S.2.2.2.2.2
        rw [e3]
      rw [a1, a2] at k2
      exact k2
    have grow : ∀ {H' : Heap}, lv' = lv → sm_Rep G B Hb s S' H' → W p l e R s m args below meth c H' locs (sm_n S - n0 + (sm_n S' - sm_n S)) (sm_u S - u0 + (sm_u S' - sm_u S)) Q (F0 m pc' ls st') := by
      intro H' e1 hR'
      exact W.cs (by omega) (by omega) (kk H' locs ls (by rw [e1]; exact hl) (by rw [e1]; exact hlen) hR' hlo)
    cases i
    case iaload => exact sd_ald hx hb hR (Or.inl ⟨rfl, rfl⟩) hd hop (fun e1 e2 => same (by rw [e2]) e1 (by rw [e2]; exact hR) hlo)
    case laload => exact sd_ald hx hb hR (Or.inr (Or.inr ⟨rfl, rfl⟩)) hd hop (fun e1 e2 => same (by rw [e2]) e1 (by rw [e2]; exact hR) hlo)
    case arraylength => exact sd_alen hx hb hR hd hop (fun e1 e2 => same (by rw [e2]) e1 (by rw [e2]; exact hR) hlo)
    case newarray ty => exact sd_newa hx hb hF hR hd hop (by show sm_n S - n0 + (sm_n S' - sm_n S) ≤ R.cells; omega) (by show sm_u S - u0 + (sm_u S' - sm_u S) ≤ R.slots; omega) (fun H' e1 hR' => grow e1 hR')
    case new x => obtain ⟨hi, h2⟩ := sm_gd_i hop; exact sd_newo hx hb hown hF hR hi hd h2 (by show sm_n S - n0 + (sm_n S' - sm_n S) ≤ R.cells; omega) (by show sm_u S - u0 + (sm_u S' - sm_u S) ≤ R.slots; omega) (fun H' e1 hR' => grow e1 hR')
    case invokestatic x =>
      obtain ⟨hi, h2⟩ := sm_gd_i hop
      unfold sm_calls at h2
      split at h2
      · next y nb hlk2 =>
        split at h2
        · next hc =>
          obtain ⟨rfl, c1, c2, c3⟩ := hc
          exact lx_back hX hC hR hlo hl hlen c3 hdc hn hu hcells hslots (fun T hT X => sm_invS X hx hown hF hi hlk2 c1 rfl rfl c2 hdc) h2 kk
        · cases h2
      · cases h2
    case invokevirtual x =>
      obtain ⟨hi, h2⟩ := sm_gd_i hop
      unfold sm_callv at h2
      split at h2
      · next y nb hlk2 =>
        split at h2
        · next b rest hdr =>
          split at h2
          · next hc =>
            obtain ⟨rfl, c1, c2, c3, c4, c5, c6⟩ := hc
            obtain ⟨cellB, r1, r2, r3⟩ := sm_recv hF hR c5 c6
            exact lx_back hX hC hR hlo hl hlen c4 hdc hn hu hcells hslots (fun T hT X => sm_invV X hx hown hF hi hlk2 c1 c2 rfl rfl c3 hdr hdc (by rw [hT]; exact r1) r2 r3) h2 kk
          · cases h2
        · cases h2
      · cases h2
    case invokespecial x =>
      obtain ⟨hi, h2⟩ := sm_gd_i hop
      unfold lx_calli at h2
      split at h2
      · next y nb hlk2 =>
        split at h2
        · next b rest hdr =>
          split at h2
          · next hc =>
            obtain ⟨rfl, c1, c2, c3, c4⟩ := hc
            exact lx_back hX hC hR hlo hl hlen c4 hdc hn hu hcells hslots (fun T hT X => sm_invI X hx hown hF hi hlk2 c1 c2 (sm_initok_of y c2) rfl rfl c3 hdr hdc) h2 kk
          · cases h2
        · cases h2
      · cases h2
    case ireturn =>
      have h2 : lx_ret len st S = some (.inl (pc', lv', st', S')) := hop
      unfold lx_ret at h2
      split at h2
      · split at h2 <;> cases h2
      · cases h2
    all_goals (exact absurd hop (by intro z; cases z))
theorem lx_back_r {y : Nat} {as rest : List Value} {o : sm_O} (h : sm_back 267 pc lv rest (lx_cl call y as S) = some (.inr o)) : False := by
  cases ho : lx_cl call y as S with
  | none => rw [ho] at h; cases h
  | some o1 =>
    obtain ⟨-, v, hv⟩ := lx_cl_i ho
    obtain ⟨w, S1⟩ := o1
    have hv' : w = .inl v := hv
    subst hv'
    rw [ho] at h
    cases h
theorem lx_ald_r {tys : List FieldType} {o : sm_O} (h : sm_ald tys len pc lv st S = some (.inr o)) : False := by
  unfold sm_ald at h
  split at h
  · split at h
    · split at h <;> cases h
    · cases h
  · cases h
theorem lx_op_r {i : Instr} {o : sm_O} (h : lx_op call i len pc lv st S = some (.inr o)) : i = .ireturn := by
  cases i
  case ireturn => rfl
  case iaload => exact (lx_ald_r h).elim
  case laload => exact (lx_ald_r h).elim
  case arraylength =>
    exfalso
    have h2 : sm_alen len pc lv st S = some (.inr o) := h
    unfold sm_alen at h2
    split at h2
    · split at h2
      · split at h2 <;> cases h2
      · cases h2
    · cases h2
  case newarray ty =>
    exfalso
    have h2 : sm_newa false ty len pc lv st S = some (.inr o) := h
    unfold sm_newa at h2
    split at h2
    · split at h2 <;> cases h2
    · cases h2
  case new x =>
    exfalso
    have h2 := (sm_gd_i h).2
    unfold sm_newo at h2
    split at h2
    · split at h2 <;> cases h2
    · split at h2
      · split at h2 <;> cases h2
      · cases h2
  case invokestatic x =>
    exfalso
    have h2 := (sm_gd_i h).2
    unfold sm_calls at h2
    split at h2
    · split at h2
      · exact lx_back_r h2
      · cases h2
    · cases h2
  case invokevirtual x =>
    exfalso
    have h2 := (sm_gd_i h).2
    unfold sm_callv at h2
    split at h2
    · split at h2
      · split at h2
        · exact lx_back_r h2
        · cases h2
      · cases h2
    · cases h2
  case invokespecial x =>
    exfalso
    have h2 := (sm_gd_i h).2
    unfold lx_calli at h2
    split at h2
    · split at h2
      · split at h2
        · exact lx_back_r h2
        · cases h2
      · cases h2
    · cases h2
  all_goals (exact absurd h (by intro z; cases z))
/-- a run of the law's body that ends with 1 is one of the machine -/
theorem lx_run {b : Nat} (hX : lx_Ctx E G B Hb p room_1 s m c d) (hr : meth.sig.returnType = ret) (hlocks : meth.locks = false) (hB : s.heap.size ≤ B) (hC : sm_CallOk l E G B Hb d call) (hcells : sm_n S' - n0 ≤ 601024) (hslots : sm_u S' - u0 ≤ 7293034) :
    ∀ (n : Nat) (pc : Nat) (lv st : List Value) (S : sm_S), sm_run (lx_step call) n (pc, lv, st, S) = some (.inl (some (.int 1)), S') → ∀ (H : Heap) (locs : List Loc) (ls : Array Slot), sm_lv ls lv → lv.length = c.maxLocals → sm_Rep G B Hb s S H → (∀ x ∈ locs, B ≤ x.base) → n0 ≤ sm_n S → u0 ≤ sm_u S →
      W p l e room_1 s m #[Value.ref b] below meth c H locs (sm_n S - n0) (sm_u S - u0) (lw_Z below #[Value.ref b] s) (F0 m pc ls st) := by
  have hm : ∀ y as S o, call y as S = some o → sm_n S ≤ sm_n o.2 ∧ sm_u S ≤ sm_u o.2 := fun y as S o ho => ⟨(hC y as S o ho).choose_spec.2.1, (hC y as S o ho).choose_spec.2.2.1⟩
  intro n
  induction n with
  | zero => intro pc lv st S h; cases h
  | succ n ih =>
    intro pc lv st S h H locs ls hl hlen hR hlo hn hu
    unfold sm_run at h
    split at h
    · next c' hs =>
      obtain ⟨pc', lv', st', S1⟩ := c'
      have h1 : sm_n S ≤ sm_n S1 ∧ sm_u S ≤ sm_u S1 := lx_step_m hm hs
      have h2 : sm_n S1 ≤ sm_n S' ∧ sm_u S1 ≤ sm_u S' := lx_run_m hm n (pc', lv', st', S1) _ h
      exact lx_sd hX hC hs hl hlen hR hlo hn hu (by show _ ≤ 601024; omega) (by show _ ≤ 7293034; omega) (fun H' locs' ls' a1 a2 a3 a4 => ih pc' lv' st' S1 h H' locs' ls' a1 a2 a3 a4 (by omega) (by omega))
    · next o' hs =>
      cases h
      obtain ⟨i, len, hat, ⟨pc1, lv1, st1, hpu, hr2⟩ | hop⟩ := lx_step_i hs
      all_goals replace hat : sm_look lx_i pc = some (i, len) := hat
      · cases hr2
      · replace hop : lx_op call i len pc lv st S = some (.inr (.inl (some (.int 1)), S')) := hop
        have hd : decode code pc = .ok (i, len) := lx_dec hat
        have hle : sm_n S ≤ sm_n S' ∧ sm_u S ≤ sm_u S' := lx_step_m hm hs
        cases i
        case ireturn =>
          have h2 : lx_ret len st S = some (.inr (.inl (some (.int 1)), S')) := hop
          unfold lx_ret at h2
          split at h2
          · split at h2
            · next hln =>
              cases h2
              subst hln
              refine va_forget (fun q hq => Nat.le_trans hB (hlo q hq)) ?_
              refine W.widen (k := 601024) (n := 7293034) (by omega) (by omega) ?_
              exact lw_ret hX.1 hX.2.1 hr hlocks hd
            · cases h2
          · cases h2
        all_goals (exact absurd (lx_op_r hop) (by intro z; cases z))
    · cases h
end LXS
