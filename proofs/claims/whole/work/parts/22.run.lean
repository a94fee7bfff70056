/-! ===== steps and runs of the small machine are the machine's ===== -/
theorem sm_at_dec {k pc : Nat} {i : Instr} {len : Nat} (h : sm_at k pc = some (i, len)) : decode (sm_m k).1.2.1 pc = .ok (i, len) := by
  have h1 : (pc, i, len) ∈ (sm_m k).2.2 := sm_look_mem h
  have h0 := (sm_m_ok k).1
  generalize sm_m k = m at h1 h0 ⊢
  exact h0 (pc, i, len) h1
section SRU
variable {p : Program} {l : Launch} {e : Env} {R : Room} {s : State} {m : MethodId} {args : Array Value} {below : List Frame} {meth : Method} {c : Code} {H : Heap} {locs : List Loc} {Q : State → Prop}
variable {E : sm_E} {G : va_G} {B : Nat} {Hb : Heap} {S S' : sm_S} {k d idx len pc pc' n0 u0 : Nat} {lv st lv' st' : List Value} {ls : Array Slot} {call : sm_F'} {q : Bool}
/-- a call whose end leaves the frame going on -/
theorem sd_backL (hX : sm_Ctx E G B Hb p e R s m meth c k d) (hC : sm_CallOk l E G B Hb d call) {y : Nat} {as rest : List Value} (hR : sm_Rep G B Hb s S H) (hlo : ∀ x ∈ locs, B ≤ x.base) (hl : sm_lv ls lv) (hlen : lv.length = c.maxLocals) (hw : sm_w rest ≤ 8) {ig : Instr} (hdg : decode c.code pc = .ok (ig, 3))
    (hn : n0 ≤ sm_n S) (hu : u0 ≤ sm_u S) (hcells : sm_n S' - n0 ≤ R.cells) (hslots : sm_u S' - u0 ≤ R.slots)
    (hinv : ∀ T : State, T.heap = H → Stand p l e R s m args below meth c T locs (sm_n S - n0) (sm_u S - u0) → sm_Inv p l e R s m args below meth c T locs (sm_n S - n0) (sm_u S - u0) (F0 m pc ls st) rest (sm_m y).1.1 as.toArray)
    (h : sm_back k pc lv rest (call y as S) = some (.inl (pc', lv', st', S')))
    (kk : ∀ (H' : Heap) (locs' : List Loc) (ls' : Array Slot), sm_lv ls' lv' → lv'.length = c.maxLocals → sm_Rep G B Hb s S' H' → (∀ x ∈ locs', B ≤ x.base) → W p l e R s m args below meth c H' locs' (sm_n S' - n0) (sm_u S' - u0) Q (F0 m pc' ls' st')) :
    W p l e R s m args below meth c H locs (sm_n S - n0) (sm_u S - u0) Q (F0 m pc ls st) := by
  cases ho : call y as S with
  | none => rw [ho] at h; cases h
  | some o =>
    rw [ho] at h
    obtain ⟨d', -, hn1, hu1, -⟩ := hC y as S o ho
    obtain ⟨o1, S1⟩ := o
    cases o1 with
    | inl v =>
      cases h
      have e1 : sm_n S - n0 + (sm_n S' - sm_n S) = sm_n S' - n0 := by
        have : sm_n S ≤ sm_n S' := hn1
        omega
      have e2 : sm_u S - u0 + (sm_u S' - sm_u S) = sm_u S' - u0 := by
        have : sm_u S ≤ sm_u S' := hu1
        omega
      refine sd_call hX hC hR hlo (hl.1.trans hlen) hw hdg hinv ho (by rw [e1]; exact hcells) (by rw [e2]; exact hslots) (fun v' hv' H' locs' hR' hlo' => ?_) (fun x hx' => by cases hx')
      cases hv'
      rw [e1, e2]
      exact kk H' locs' ls hl hlen hR' hlo'
    | inr x =>
      have h' : sm_throw k pc lv x S1 = some (.inl (pc', lv', st', S')) := h
      unfold sm_throw at h'
      split at h'
      · next y9 hex =>
        split at h'
        · split at h'
          · next hp hf =>
            cases h'
            have e1 : sm_n S - n0 + (sm_n S' - sm_n S) = sm_n S' - n0 := by
              have : sm_n S ≤ sm_n S' := hn1
              omega
            have e2 : sm_u S - u0 + (sm_u S' - sm_u S) = sm_u S' - u0 := by
              have : sm_u S ≤ sm_u S' := hu1
              omega
            refine sd_call hX hC hR hlo (hl.1.trans hlen) hw hdg hinv ho (by rw [e1]; exact hcells) (by rw [e2]; exact hslots) (fun v' hv' => by cases hv') (fun x' hx' locs' T' hR' hlo' X' => ?_)
            cases hx'
            refine sd_catch hX hR' X' hex hf ?_
            rw [e1, e2]
            exact kk T'.heap locs' ls hl hlen hR' hlo'
          · split at h' <;> cases h'
        · cases h'
      · cases h'
/-- a call whose throw leaves the method -/
theorem sd_backR (hX : sm_Ctx E G B Hb p e R s m meth c k d) (hC : sm_CallOk l E G B Hb d call) {y : Nat} {as rest : List Value} (hR : sm_Rep G B Hb s S H) (hlo : ∀ x ∈ locs, B ≤ x.base) (hl : sm_lv ls lv) (hlen : lv.length = c.maxLocals) (hw : sm_w rest ≤ 8) {ig : Instr} (hdg : decode c.code pc = .ok (ig, 3)) {o : sm_O}
    (hn : n0 ≤ sm_n S) (hu : u0 ≤ sm_u S) (hcells : sm_n o.2 - n0 ≤ R.cells) (hslots : sm_u o.2 - u0 ≤ R.slots)
    (hinv : ∀ T : State, T.heap = H → Stand p l e R s m args below meth c T locs (sm_n S - n0) (sm_u S - u0) → sm_Inv p l e R s m args below meth c T locs (sm_n S - n0) (sm_u S - u0) (F0 m pc ls st) rest (sm_m y).1.1 as.toArray)
    (h : sm_back k pc lv rest (call y as S) = some (.inr o)) :
    W p l e R s m args below meth c H locs (sm_n S - n0) (sm_u S - u0) (sm_Q below G B Hb s (sm_n o.2 - n0) (sm_u o.2 - u0) o) (F0 m pc ls st) := by
  cases ho : call y as S with
  | none => rw [ho] at h; cases h
  | some o' =>
    rw [ho] at h
    obtain ⟨d', -, hn1, hu1, -⟩ := hC y as S o' ho
    obtain ⟨o1, S1⟩ := o'
    cases o1 with
    | inl v => cases h
    | inr x =>
      have h' : sm_throw k pc lv x S1 = some (.inr o) := h
      unfold sm_throw at h'
      split at h'
      · next y9 hex =>
        split at h'
        · split at h'
          · cases h'
          · split at h'
            · next hall =>
              cases h'
              have e1 : sm_n S - n0 + (sm_n S1 - sm_n S) = sm_n S1 - n0 := by
                have : sm_n S ≤ sm_n S1 := hn1
                omega
              have e2 : sm_u S - u0 + (sm_u S1 - sm_u S) = sm_u S1 - u0 := by
                have : sm_u S ≤ sm_u S1 := hu1
                omega
              refine sd_call hX hC hR hlo (hl.1.trans hlen) hw hdg hinv ho (by rw [e1]; exact hcells) (by rw [e2]; exact hslots) (fun v' hv' => by cases hv') (fun x' hx' locs' T' hR' hlo' X' => ?_)
              cases hx'
              rw [e1, e2] at X'
              exact sd_out hX hR' hlo' X' hall
            · cases h'
        · cases h'
      · cases h'
/-- the receiver of a call of an instance's method -/
theorem sm_recv (hF : sm_Fix E G B Hb s) (hR : sm_Rep G B Hb s S H) {b y : Nat} (hy : (sm_m y).2.1.1 < 14) (hsh : S.1.1 b = some (.inl (sm_m y).2.1.1)) : ∃ cell : Cell, H[b]? = some cell ∧ cell.vm.isStatics = false ∧ s.vm.findClass (sm_m y).1.1.cls = some cell.cls := by
  obtain ⟨-, cell, q1, q2, q3, -⟩ := hR.2.2.2.2.1 b _ hsh
  refine ⟨cell, q1, q3, ?_⟩
  rw [(sm_m_ok y).2.2.1, q2]
  exact (hF.2.1.1 _ _ (sm_vc_at hy)).2.1
theorem sm_initok : sm_ms.all (fun m => decide (m.1.1.name = "<init>" → m.2.1.2.1 = [] ∧ m.1.2.2.2 = none)) = true := by decide +kernel
theorem sm_initok_of (y : Nat) (h : (sm_m y).1.1.name = "<init>") : (sm_m y).2.1.2.1 = [] ∧ (sm_m y).1.2.2.2 = none := of_decide_eq_true (List.all_eq_true.mp sm_initok (sm_m y) (sm_m_mem y)) h
set_option maxHeartbeats 1000000 in
theorem sd_step (hX : sm_Ctx E G B Hb p e R s m meth c k d) (hC : sm_CallOk l E G B Hb d call) (h : sm_step E B d q call k (pc, lv, st, S) = some (.inl (pc', lv', st', S'))) (hl : sm_lv ls lv) (hlen : lv.length = c.maxLocals) (hR : sm_Rep G B Hb s S H) (hlo : ∀ x ∈ locs, B ≤ x.base)
    (hn : n0 ≤ sm_n S) (hu : u0 ≤ sm_u S) (hcells : sm_n S' - n0 ≤ R.cells) (hslots : sm_u S' - u0 ≤ R.slots)
    (kk : ∀ (H' : Heap) (locs' : List Loc) (ls' : Array Slot), sm_lv ls' lv' → lv'.length = c.maxLocals → sm_Rep G B Hb s S' H' → (∀ x ∈ locs', B ≤ x.base) → W p l e R s m args below meth c H' locs' (sm_n S' - n0) (sm_u S' - u0) Q (F0 m pc' ls' st')) :
    W p l e R s m args below meth c H locs (sm_n S - n0) (sm_u S - u0) Q (F0 m pc ls st) := by
  have hm : sm_n S ≤ sm_n S' ∧ sm_u S ≤ sm_u S' := sm_step_m (fun y as S o ho => ⟨(hC y as S o ho).choose_spec.2.1, (hC y as S o ho).choose_spec.2.2.1⟩) h
  have hX' := hX
  obtain ⟨hx, hb, hml, hown, hnm, hret, hlk, hF, hhh, hfr, hlc, htr, hsb, hmx⟩ := hX'
  obtain ⟨i, len, hat, ⟨pc1, lv1, st1, hpu, hr⟩ | hop⟩ := sm_step_i h
  · have hd := sm_at_dec hat
    cases hr
    exact sd_pu hx hb hd hpu hl (fun ls' hl' => kk H locs ls' hl' ((sm_pu_len hpu).trans hlen) hR hlo)
  · replace hop : sm_op E B d q call k i len pc lv st S = some (.inl (pc', lv', st', S')) := hop
    have hd : decode (sm_m k).1.2.1 pc = .ok (i, len) := sm_at_dec hat
    have hdc : decode c.code pc = .ok (i, len) := by rw [hb]; exact hd
    have same : ∀ {H' : Heap} {locs' : List Loc}, S'.2.2.2 = S.2.2.2 → lv' = lv → sm_Rep G B Hb s S' H' → (∀ x ∈ locs', B ≤ x.base) → W p l e R s m args below meth c H' locs' (sm_n S - n0) (sm_u S - u0) Q (F0 m pc' ls st') := by
      intro H' locs' e3 e1 hR' hlo'
      have k2 := kk H' locs' ls (by rw [e1]; exact hl) (by rw [e1]; exact hlen) hR' hlo'
      have a1 : sm_n S' = sm_n S := by
        show S'.2.2.2.2.1 = S.2.2.2.2.1
        rw [e3]
      have a2 : sm_u S' = sm_u S := by
        show S'.2.2.2.2.2 = S.2.2.2.2.2
        rw [e3]
      rw [a1, a2] at k2
      exact k2
    have grow : ∀ {H' : Heap}, lv' = lv → sm_Rep G B Hb s S' H' → W p l e R s m args below meth c H' locs (sm_n S - n0 + (sm_n S' - sm_n S)) (sm_u S - u0 + (sm_u S' - sm_u S)) Q (F0 m pc' ls st') := by
      intro H' e1 hR'
      exact W.cs (by omega) (by omega) (kk H' locs ls (by rw [e1]; exact hl) (by rw [e1]; exact hlen) hR' hlo)
    cases i
    case getfield x => obtain ⟨hi, h2⟩ := sm_gd_i hop; exact sd_getf hx hb hown hF hR hi hd h2 (fun e1 e2 => same (by rw [e2]) e1 (by rw [e2]; exact hR) hlo)
    case putfield x => obtain ⟨hi, h2⟩ := sm_gd_i hop; exact sd_putf hx hb hown hnm hF hR hlo hi hd h2 (fun H' locs' e1 hR' hlo' e3 => same e3 e1 hR' hlo')
    case getstatic x => obtain ⟨hi, h2⟩ := sm_gd_i hop; exact sd_gets hx hb hown hF hR hi hd h2 (fun e1 e2 => same (by rw [e2]) e1 (by rw [e2]; exact hR) hlo)
    case iaload => exact sd_ald hx hb hR (Or.inl ⟨rfl, rfl⟩) hd hop (fun e1 e2 => same (by rw [e2]) e1 (by rw [e2]; exact hR) hlo)
    case baload => exact sd_ald hx hb hR (Or.inr (Or.inl ⟨rfl, rfl⟩)) hd hop (fun e1 e2 => same (by rw [e2]) e1 (by rw [e2]; exact hR) hlo)
    case laload => exact sd_ald hx hb hR (Or.inr (Or.inr ⟨rfl, rfl⟩)) hd hop (fun e1 e2 => same (by rw [e2]) e1 (by rw [e2]; exact hR) hlo)
    case iastore => exact sd_asti hx hb hR hlo (Or.inl ⟨rfl, rfl⟩) hd hop (fun H' locs' e1 hR' hlo' e3 => same e3 e1 hR' hlo')
    case bastore => exact sd_asti hx hb hR hlo (Or.inr ⟨rfl, rfl⟩) hd hop (fun H' locs' e1 hR' hlo' e3 => same e3 e1 hR' hlo')
    case lastore => exact sd_astj hx hb hR hlo hd hop (fun H' locs' e1 hR' hlo' e3 => same e3 e1 hR' hlo')
    case arraylength => exact sd_alen hx hb hR hd hop (fun e1 e2 => same (by rw [e2]) e1 (by rw [e2]; exact hR) hlo)
    case newarray ty => exact sd_newa hx hb hF hR hd hop (by show sm_n S - n0 + (sm_n S' - sm_n S) ≤ R.cells; omega) (by show sm_u S - u0 + (sm_u S' - sm_u S) ≤ R.slots; omega) (fun H' e1 hR' => grow e1 hR')
    case new x => obtain ⟨hi, h2⟩ := sm_gd_i hop; exact sd_newo hx hb hown hF hR hi hd h2 (by show sm_n S - n0 + (sm_n S' - sm_n S) ≤ R.cells; omega) (by show sm_u S - u0 + (sm_u S' - sm_u S) ≤ R.slots; omega) (fun H' e1 hR' => grow e1 hR')
    case ldc x => obtain ⟨hi, h2⟩ := sm_gd_i hop; exact sd_ldc hx hb hown hF hi (Or.inl ⟨rfl, rfl⟩) hd h2 (fun e1 e2 => same (by rw [e2]) e1 (by rw [e2]; exact hR) hlo)
    case ldc_w x => obtain ⟨hi, h2⟩ := sm_gd_i hop; exact sd_ldc hx hb hown hF hi (Or.inr ⟨rfl, rfl⟩) hd h2 (fun e1 e2 => same (by rw [e2]) e1 (by rw [e2]; exact hR) hlo)
    case ldc2_w x => obtain ⟨hi, h2⟩ := sm_gd_i hop; exact sd_ldc2 hx hb hown hF hi hd h2 (fun e1 e2 => same (by rw [e2]) e1 (by rw [e2]; exact hR) hlo)
    case invokestatic x =>
      obtain ⟨hi, h2⟩ := sm_gd_i hop
      unfold sm_stat at h2
      split at h2
      · unfold sm_calls at h2
        split at h2
        · next y nb hlk2 =>
          split at h2
          · next hc =>
            obtain ⟨rfl, c1, c2, c3⟩ := hc
            exact sd_backL hX hC hR hlo hl hlen c3 hdc hn hu hcells hslots (fun T hT X => sm_invS X hx hown hF hi hlk2 c1 rfl rfl c2 hdc) h2 kk
          · cases h2
        · cases h2
      · exact sd_copy hX hR hlo hi (hl.1.trans hlen) hdc h2 (fun H' locs' e1 hR' hlo' e3 => same e3 e1 hR' hlo')
    case invokevirtual x =>
      obtain ⟨hi, h2⟩ := sm_gd_i hop
      unfold sm_callv at h2
      split at h2
      · next y nb hlk2 =>
        split at h2
        · next b rest hdr =>
          split at h2
          · next hc =>
            obtain ⟨rfl, c1, c2, c3, c4, c5, c6⟩ := hc
            obtain ⟨cellB, r1, r2, r3⟩ := sm_recv hF hR c5 c6
            exact sd_backL hX hC hR hlo hl hlen c4 hdc hn hu hcells hslots (fun T hT X => sm_invV X hx hown hF hi hlk2 c1 c2 rfl rfl c3 hdr hdc (by rw [hT]; exact r1) r2 r3) h2 kk
          · cases h2
        · cases h2
      · cases h2
    case invokespecial x =>
      obtain ⟨hi, h2⟩ := sm_gd_i hop
      unfold sm_calli at h2
      split at h2
      · next y nb hlk2 =>
        split at h2
        · next b rest hdr =>
          split at h2
          · next hc =>
            obtain ⟨rfl, c1, c2, c3, c4⟩ := hc
            exact sd_backL hX hC hR hlo hl hlen c4 hdc hn hu hcells hslots (fun T hT X => sm_invI X hx hown hF hi hlk2 c1 c2 (sm_initok_of y c2) rfl rfl c3 hdr hdc) h2 kk
          · cases h2
        · cases h2
      · split at h2
        · next b9 a9 rest9 hlk2 =>
          split at h2
          · next hc =>
            obtain ⟨rfl, c1, c2⟩ := hc
            cases h2
            exact sd_oinit hX hi hlk2 (hl.1.trans hlen) c1 c2 hdc (same rfl rfl hR hlo)
          · cases h2
        · next x9 t9 a9 rest9 hlk2 =>
          split at h2
          · next hc =>
            obtain ⟨rfl, c1, c2, c3⟩ := hc
            cases h2
            exact sd_xinit hX hR hlo hi hlk2 (hl.1.trans hlen) c1 c2 c3 hdc (fun H' locs' hR' hlo' => kk H' locs' ls hl hlen hR' hlo')
          · cases h2
        · cases h2
    case ireturn =>
      have h2 : sm_reti k len st S = some (.inl (pc', lv', st', S')) := hop
      unfold sm_reti at h2
      split at h2
      · split at h2 <;> cases h2
      · cases h2
    case lreturn =>
      have h2 : sm_retj k len st S = some (.inl (pc', lv', st', S')) := hop
      unfold sm_retj at h2
      split at h2
      · split at h2 <;> cases h2
      · cases h2
    case return_ =>
      have h2 : sm_retv k len st S = some (.inl (pc', lv', st', S')) := hop
      unfold sm_retv at h2
      split at h2
      · split at h2 <;> cases h2
      · cases h2
    case athrow =>
      have h2 : sm_athrow k len pc lv st S = some (.inl (pc', lv', st', S')) := hop
      unfold sm_athrow at h2
      split at h2
      · next a9 r9 =>
        split at h2
        · next hc =>
          subst hc
          unfold sm_throw at h2
          split at h2
          · next y9 hex =>
            split at h2
            · split at h2
              · next hp hf =>
                cases h2
                exact sd_athrow hx hdc (fun T hT X => sd_catch hX (by rw [hT]; exact hR) X hex hf (by rw [hT]; exact kk H locs ls hl hlen hR hlo))
              · split at h2 <;> cases h2
            · cases h2
          · cases h2
        · cases h2
      · cases h2
    all_goals (exact absurd hop (by intro z; cases z))
end SRU
