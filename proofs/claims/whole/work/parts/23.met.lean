/-! ===== a method's value in the small machine is its contract ===== -/
section SME
variable {p : Program} {l : Launch} {e : Env} {R : Room} {s : State} {m : MethodId} {args : Array Value} {below : List Frame} {meth : Method} {c : Code} {H : Heap} {locs : List Loc} {Q : State → Prop}
variable {E : sm_E} {G : va_G} {B : Nat} {Hb : Heap} {S S' : sm_S} {k d idx len pc pc' n0 u0 : Nat} {lv st lv' st' : List Value} {ls : Array Slot} {call : sm_F'} {q : Bool}
theorem sd_end (hX : sm_Ctx E G B Hb p e R s m meth c k d) (hC : sm_CallOk l E G B Hb d call) {o : sm_O} (h : sm_step E B d q call k (pc, lv, st, S) = some (.inr o)) (hl : sm_lv ls lv) (hlen : lv.length = c.maxLocals) (hR : sm_Rep G B Hb s S H) (hlo : ∀ x ∈ locs, B ≤ x.base)
    (hn : n0 ≤ sm_n S) (hu : u0 ≤ sm_u S) (hcells : sm_n o.2 - n0 ≤ R.cells) (hslots : sm_u o.2 - u0 ≤ R.slots) :
    W p l e R s m args below meth c H locs (sm_n S - n0) (sm_u S - u0) (sm_Q below G B Hb s (sm_n o.2 - n0) (sm_u o.2 - u0) o) (F0 m pc ls st) := by
  have hX' := hX
  obtain ⟨hx, hb, hml, hown, hnm, hret, hlk, hF, hhh, hfr, hlc, htr, hsb, hmx⟩ := hX'
  obtain ⟨i, len, hat, ⟨pc1, lv1, st1, hpu, hr⟩ | hop⟩ := sm_step_i h
  · cases hr
  · replace hop : sm_op E B d q call k i len pc lv st S = some (.inr o) := hop
    have hd : decode (sm_m k).1.2.1 pc = .ok (i, len) := sm_at_dec hat
    have hdc : decode c.code pc = .ok (i, len) := by rw [hb]; exact hd
    cases i
    case getfield x =>
      obtain ⟨hi, h2⟩ := sm_gd_i hop
      unfold sm_getf at h2
      split at h2
      · split at h2 <;> cases h2
      · cases h2
    case putfield x =>
      obtain ⟨hi, h2⟩ := sm_gd_i hop
      unfold sm_putf at h2
      split at h2
      · split at h2
        · split at h2 <;> cases h2
        · cases h2
      · cases h2
    case getstatic x =>
      obtain ⟨hi, h2⟩ := sm_gd_i hop
      unfold sm_gets at h2
      split at h2
      · split at h2 <;> cases h2
      · split at h2 <;> cases h2
      · split at h2 <;> cases h2
      · cases h2
    case iaload =>
      have h2 : sm_ald [.int] len pc lv st S = some (.inr o) := hop
      unfold sm_ald at h2
      split at h2
      · split at h2
        · split at h2 <;> cases h2
        · cases h2
      · cases h2
    case baload =>
      have h2 : sm_ald [.byte, .boolean] len pc lv st S = some (.inr o) := hop
      unfold sm_ald at h2
      split at h2
      · split at h2
        · split at h2 <;> cases h2
        · cases h2
      · cases h2
    case laload =>
      have h2 : sm_ald [.long] len pc lv st S = some (.inr o) := hop
      unfold sm_ald at h2
      split at h2
      · split at h2
        · split at h2 <;> cases h2
        · cases h2
      · cases h2
    case iastore =>
      have h2 : sm_asti B [.int] len pc lv st S = some (.inr o) := hop
      unfold sm_asti at h2
      split at h2
      · split at h2
        · split at h2 <;> cases h2
        · cases h2
      · cases h2
    case bastore =>
      have h2 : sm_asti B [.byte, .boolean] len pc lv st S = some (.inr o) := hop
      unfold sm_asti at h2
      split at h2
      · split at h2
        · split at h2 <;> cases h2
        · cases h2
      · cases h2
    case lastore =>
      have h2 : sm_astj B len pc lv st S = some (.inr o) := hop
      unfold sm_astj at h2
      split at h2
      · split at h2
        · split at h2 <;> cases h2
        · cases h2
      · cases h2
    case arraylength =>
      have h2 : sm_alen len pc lv st S = some (.inr o) := hop
      unfold sm_alen at h2
      split at h2
      · split at h2
        · split at h2 <;> cases h2
        · cases h2
      · cases h2
    case newarray ty =>
      have h2 : sm_newa q ty len pc lv st S = some (.inr o) := hop
      unfold sm_newa at h2
      split at h2
      · split at h2 <;> cases h2
      · cases h2
    case new x =>
      obtain ⟨hi, h2⟩ := sm_gd_i hop
      unfold sm_newo at h2
      split at h2
      · split at h2 <;> cases h2
      · split at h2
        · split at h2 <;> cases h2
        · cases h2
    case ldc x =>
      obtain ⟨hi, h2⟩ := sm_gd_i hop
      unfold sm_ldc at h2
      split at h2
      · split at h2 <;> cases h2
      · split at h2
        · split at h2 <;> cases h2
        · cases h2
    case ldc_w x =>
      obtain ⟨hi, h2⟩ := sm_gd_i hop
      unfold sm_ldc at h2
      split at h2
      · split at h2 <;> cases h2
      · split at h2
        · split at h2 <;> cases h2
        · cases h2
    case ldc2_w x =>
      obtain ⟨hi, h2⟩ := sm_gd_i hop
      unfold sm_ldc2 at h2
      split at h2
      · split at h2 <;> cases h2
      · cases h2
    case invokestatic x =>
      obtain ⟨hi, h2⟩ := sm_gd_i hop
      unfold sm_stat at h2
      split at h2
      · unfold sm_calls at h2
        split at h2
        · next y nb hlk2 =>
          split at h2
          · next hc =>
            obtain ⟨rfl, c1, c2, c3⟩ := hc
            exact sd_backR hX hC hR hlo hl hlen c3 hdc hn hu hcells hslots (fun T hT X => sm_invS X hx hown hF hi hlk2 c1 rfl rfl c2 hdc) h2
          · cases h2
        · cases h2
      · unfold sm_copy at h2
        split at h2
        · split at h2
          · split at h2 <;> cases h2
          · cases h2
        · cases h2
    case invokevirtual x =>
      obtain ⟨hi, h2⟩ := sm_gd_i hop
      unfold sm_callv at h2
      split at h2
      · next y nb hlk2 =>
        split at h2
        · next b rest hdr =>
          split at h2
          · next hc =>
            obtain ⟨rfl, c1, c2, c3, c4, c5, c6⟩ := hc
            obtain ⟨cellB, r1, r2, r3⟩ := sm_recv hF hR c5 c6
            exact sd_backR hX hC hR hlo hl hlen c4 hdc hn hu hcells hslots (fun T hT X => sm_invV X hx hown hF hi hlk2 c1 c2 rfl rfl c3 hdr hdc (by rw [hT]; exact r1) r2 r3) h2
          · cases h2
        · cases h2
      · cases h2
    case invokespecial x =>
      obtain ⟨hi, h2⟩ := sm_gd_i hop
      unfold sm_calli at h2
      split at h2
      · next y nb hlk2 =>
        split at h2
        · next b rest hdr =>
          split at h2
          · next hc =>
            obtain ⟨rfl, c1, c2, c3, c4⟩ := hc
            exact sd_backR hX hC hR hlo hl hlen c4 hdc hn hu hcells hslots (fun T hT X => sm_invI X hx hown hF hi hlk2 c1 c2 (sm_initok_of y c2) rfl rfl c3 hdr hdc) h2
          · cases h2
        · cases h2
      · split at h2
        · split at h2 <;> cases h2
        · split at h2 <;> cases h2
        · cases h2
    case ireturn =>
      have h2 : sm_reti k len st S = some (.inr o) := hop
      have e1 : o.2 = S := by
        unfold sm_reti at h2
        split at h2
        · split at h2
          · cases h2; rfl
          · cases h2
        · cases h2
      rw [e1]
      exact sd_reti hX hR hlo hdc h2
    case lreturn =>
      have h2 : sm_retj k len st S = some (.inr o) := hop
      have e1 : o.2 = S := by
        unfold sm_retj at h2
        split at h2
        · split at h2
          · cases h2; rfl
          · cases h2
        · cases h2
      rw [e1]
      exact sd_retj hX hR hlo hdc h2
    case return_ =>
      have h2 : sm_retv k len st S = some (.inr o) := hop
      have e1 : o.2 = S := by
        unfold sm_retv at h2
        split at h2
        · split at h2
          · cases h2; rfl
          · cases h2
        · cases h2
      rw [e1]
      exact sd_retv hX hR hlo hdc h2
    case athrow =>
      have h2 : sm_athrow k len pc lv st S = some (.inr o) := hop
      unfold sm_athrow at h2
      split at h2
      · next a9 r9 =>
        split at h2
        · next hc =>
          subst hc
          unfold sm_throw at h2
          split at h2
          · split at h2
            · split at h2
              · cases h2
              · split at h2
                · next hall =>
                  cases h2
                  exact sd_athrow hx hdc (fun T hT X => sd_out hX (by rw [hT]; exact hR) hlo X hall)
                · cases h2
            · cases h2
          · cases h2
        · cases h2
      · cases h2
    all_goals (exact absurd hop (by intro z; cases z))
theorem sd_run (hX : sm_Ctx E G B Hb p e R s m meth c k d) (hC : sm_CallOk l E G B Hb d call) {o : sm_O} (hcells : sm_n o.2 - n0 ≤ R.cells) (hslots : sm_u o.2 - u0 ≤ R.slots) :
    ∀ (n : Nat) (pc : Nat) (lv st : List Value) (S : sm_S), sm_run (sm_step E B d q call k) n (pc, lv, st, S) = some o → ∀ (H : Heap) (locs : List Loc) (ls : Array Slot), sm_lv ls lv → lv.length = c.maxLocals → sm_Rep G B Hb s S H → (∀ x ∈ locs, B ≤ x.base) → n0 ≤ sm_n S → u0 ≤ sm_u S →
      W p l e R s m args below meth c H locs (sm_n S - n0) (sm_u S - u0) (sm_Q below G B Hb s (sm_n o.2 - n0) (sm_u o.2 - u0) o) (F0 m pc ls st) := by
  have hm : ∀ y as S o, call y as S = some o → sm_n S ≤ sm_n o.2 ∧ sm_u S ≤ sm_u o.2 := fun y as S o ho => ⟨(hC y as S o ho).choose_spec.2.1, (hC y as S o ho).choose_spec.2.2.1⟩
  intro n
  induction n with
  | zero => intro pc lv st S h; cases h
  | succ n ih =>
    intro pc lv st S h H locs ls hl hlen hR hlo hn hu
    unfold sm_run at h
    split at h
    · next c' hs =>
      obtain ⟨pc', lv', st', S'⟩ := c'
      have h1 : sm_n S ≤ sm_n S' ∧ sm_u S ≤ sm_u S' := sm_step_m hm hs
      have h2 : sm_n S' ≤ sm_n o.2 ∧ sm_u S' ≤ sm_u o.2 := sm_run_m hm n (pc', lv', st', S') o h
      exact sd_step hX hC hs hl hlen hR hlo hn hu (by omega) (by omega) (fun H' locs' ls' a1 a2 a3 a4 => ih pc' lv' st' S' h H' locs' ls' a1 a2 a3 a4 (by omega) (by omega))
    · next o' hs =>
      cases h
      exact sd_end hX hC hs hl hlen hR hlo hn hu hcells hslots
    · cases h
end SME
theorem sm_args_len (vs : List Value) : (sm_args vs).length = (lg_sl vs).length := by
  induction vs with
  | nil => rfl
  | cons v vs ih =>
    unfold sm_args
    by_cases hc : v.category = 2
    · rw [if_pos hc]
      simp [lg_sl, hc] at ih ⊢
      exact ih
    · rw [if_neg hc]
      simp [lg_sl, hc] at ih ⊢
      exact ih
theorem sm_args_get (vs : List Value) : ∀ (i j : Nat) (v : Value), (sm_args vs)[j]? = some v → v ≠ sm_junk → (i + j, v) ∈ lv_args i vs := by
  induction vs with
  | nil => intro i j v h; cases h
  | cons w vs ih =>
    intro i j v h hv
    unfold sm_args at h
    unfold lv_args
    by_cases hc : w.category = 2
    · rw [if_pos hc] at h ⊢
      match j, h with
      | 0, h =>
        cases h
        exact List.mem_cons_self
      | 1, h =>
        cases h
        exact absurd rfl hv
      | j + 2, h =>
        have := ih (i + 2) j v h hv
        rw [show i + (j + 2) = i + 2 + j by omega]
        exact List.mem_cons_of_mem _ this
    · rw [if_neg hc] at h ⊢
      match j, h with
      | 0, h =>
        cases h
        exact List.mem_cons_self
      | j + 1, h =>
        have := ih (i + 1) j v h hv
        rw [show i + (j + 1) = i + 1 + j by omega]
        exact List.mem_cons_of_mem _ this
/-- the locals with which a method begins -/
theorem sm_lv_entry (vs : List Value) {n : Nat} (h : (sm_args vs).length ≤ n) : sm_lv ((lg_sl vs ++ List.replicate (n - (lg_sl vs).length) Slot.unset).toArray) (sm_entry n vs) ∧ (sm_entry n vs).length = n := by
  have h' : (lg_sl vs).length ≤ n := by rw [← sm_args_len]; exact h
  obtain ⟨h1, h2, h3⟩ := lv_entry vs h'
  have hl : (sm_entry n vs).length = n := by
    unfold sm_entry
    rw [List.length_append, List.length_replicate]
    omega
  refine ⟨⟨h1.trans hl.symm, h2, fun i v hi hv => ?_⟩, hl⟩
  unfold sm_entry at hi
  by_cases hi2 : i < (sm_args vs).length
  · rw [List.getElem?_append_left hi2] at hi
    have := sm_args_get vs 0 i v hi hv
    rw [Nat.zero_add] at this
    exact h3 (i, v) this
  · rw [List.getElem?_append_right (by omega)] at hi
    have h4 := List.mem_of_getElem? hi
    exact absurd (List.eq_of_mem_replicate h4) hv
section SMT
variable {l : Launch} {E : sm_E} {G : va_G} {B : Nat} {Hb : Heap} {q : Bool}
theorem sd_met1 (hl : ∀ e, l.admits e → e.platform.stackTraces = false) {d k : Nat} {as : List Value} {S : sm_S} {o : sm_O} {call : sm_F'} (hC : sm_CallOk l E G B Hb d call) (hlen : (sm_args as).length ≤ (sm_m k).1.2.2.1)
    (h : sm_lim (sm_step E B d q call k) (0, sm_entry (sm_m k).1.2.2.1 as, [], S) = some o) : sm_n S ≤ sm_n o.2 ∧ sm_u S ≤ sm_u o.2 ∧ sm_Met l E G B Hb d k as S o := by
  have hm : ∀ y as S o, call y as S = some o → sm_n S ≤ sm_n o.2 ∧ sm_u S ≤ sm_u o.2 := fun y as S o ho => ⟨(hC y as S o ho).choose_spec.2.1, (hC y as S o ho).choose_spec.2.2.1⟩
  obtain ⟨n, hn⟩ := sm_lim_some h
  have hmo : sm_n S ≤ sm_n o.2 ∧ sm_u S ≤ sm_u o.2 := sm_run_m hm n (0, sm_entry (sm_m k).1.2.2.1 as, [], S) o hn
  refine ⟨hmo.1, hmo.2, ?_⟩
  unfold sm_Met sm_MetX
  refine MetFree.of_bodySF (code := (sm_m k).1.2.1) (maxLocals := (sm_m k).1.2.2.1) (ret := (sm_m k).1.2.2.2) (sm_m_ok k).2.2.2.1 ?_ ?_
  · intro args s m hh hnm
    obtain ⟨meth, c, h1, h2, h3, h4, h5, h6, -, -⟩ := sm_cw_spec (m := sm_m k) hnm (atoms_spec (ws := [sm_cw (sm_m k)]) hh _ (List.mem_cons_self ..))
    exact ⟨meth, c, h1, h2, h3, h4, h5, h6⟩
  · intro p e s m args below meth c s₁ Bd hml hP _
    obtain ⟨rfl, hF, hR⟩ := hP
    have X := Stand.of_body Bd
    obtain ⟨meth', c', h1, h2, h3, h4, h5, h6, h7, h8⟩ := sm_cw_spec (m := sm_m k) Bd.named (atoms_spec (ws := [sm_cw (sm_m k)]) Bd.pre _ (List.mem_cons_self ..))
    cases Bd.method.symm.trans h1
    cases X.code.symm.trans h2
    have hown : s.vm.findClass (sm_cn (sm_m k).2.1.1) = some m.cls := by
      rw [← (sm_m_ok k).2.2.1]
      exact findClass_of_methodNamed Bd.named
    have hheap : s₁.heap = s.heap := by rw [Bd.state]; rfl
    have hX : sm_Ctx E G B Hb p e (sm_rm d (sm_n o.2 - sm_n S) (sm_u o.2 - sm_u S)) s m meth c k d :=
      ⟨Bd.exec, h3, h4, hown, (name_of_methodNamed Bd.named Bd.method).1, h5, h6, hF, h7, Nat.le_refl _, Nat.le_refl _, hl e Bd.admits, hR.2.2.2.1, (sm_m_ok k).2.2.2.2⟩
    obtain ⟨hlv, hlvl⟩ := sm_lv_entry as hlen
    have hw := sd_run (args := as.toArray) (below := below) (n0 := sm_n S) (u0 := sm_u S) hX hC (q := q) (o := o) (Nat.le_refl _) (Nat.le_refl _) n 0 _ [] S hn s.heap [] _ hlv (by rw [hlvl, h4]) hR (fun x hx => nomatch hx) (Nat.le_refl _) (Nat.le_refl _)
    rw [Nat.sub_self, Nat.sub_self] at hw
    obtain ⟨t, a1, oc, b1, b2, b3, L, b4, b5⟩ := hw s₁ hheap X
    rw [lg_entry_eq]
    exact ⟨t, oc, a1, b1, b2, b3, L, b4, b5⟩
theorem sd_met (hl : ∀ e, l.admits e → e.platform.stackTraces = false) : ∀ (d k : Nat) (as : List Value) (S : sm_S) (o : sm_O), sm_ev E B q d k as S = some o → sm_n S ≤ sm_n o.2 ∧ sm_u S ≤ sm_u o.2 ∧ sm_Met l E G B Hb d k as S o := by
  intro d
  induction d with
  | zero =>
    intro k as S o h
    rw [sm_ev_eq] at h
    split at h
    · next hc => exact sd_met1 hl (fun y as S o ho => absurd (show (none : sm_R) = some o from ho) (by intro z; cases z)) hc h
    · cases h
  | succ d ih =>
    intro k as S o h
    rw [sm_ev_eq] at h
    split at h
    · next hc => exact sd_met1 hl (fun y as S o ho => ⟨d, Nat.le_refl _, (ih y as S o ho).1, (ih y as S o ho).2.1, (ih y as S o ho).2.2⟩) hc h
    · cases h
end SMT
