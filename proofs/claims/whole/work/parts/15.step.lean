/-! ===== a step of the small machine is a step of the machine ===== -/
theorem sm_pu_len {i : Instr} {len pc pc' : Nat} {lv st lv' st' : List Value} (h : sm_pu i len pc lv st = some (pc', lv', st')) : lv'.length = lv.length := by
  cases i
  case iconst n => obtain ⟨-, -, rfl, -⟩ := sp_push_i h; rfl
  case bipush n => obtain ⟨-, -, rfl, -⟩ := sp_push_i h; rfl
  case sipush n => obtain ⟨-, -, rfl, -⟩ := sp_push_i h; rfl
  case lconst n => obtain ⟨-, -, rfl, -⟩ := sp_push_i h; rfl
  case iload_n q => obtain ⟨x, -, -, -, rfl, -⟩ := sp_ldi_i h; rfl
  case iload q => obtain ⟨x, -, -, -, rfl, -⟩ := sp_ldi_i h; rfl
  case lload_n q => obtain ⟨x, -, -, -, rfl, -⟩ := sp_ldl_i h; rfl
  case lload q => obtain ⟨x, -, -, -, rfl, -⟩ := sp_ldl_i h; rfl
  case aload_n q => rcases sp_lda_i h with ⟨x, -, -, -, rfl, -⟩ | ⟨-, -, -, rfl, -⟩ <;> rfl
  case aload q => rcases sp_lda_i h with ⟨x, -, -, -, rfl, -⟩ | ⟨-, -, -, rfl, -⟩ <;> rfl
  case istore_n q => obtain ⟨x, -, -, -, -, rfl⟩ := sp_sti_i h; exact sm_st1_len _ _ _
  case istore q => obtain ⟨x, -, -, -, -, rfl⟩ := sp_sti_i h; exact sm_st1_len _ _ _
  case lstore_n q => obtain ⟨x, -, -, -, -, rfl⟩ := sp_stl_i h; exact sm_st2_len _ _ _
  case lstore q => obtain ⟨x, -, -, -, -, rfl⟩ := sp_stl_i h; exact sm_st2_len _ _ _
  case astore_n q => obtain ⟨x, -, -, -, -, rfl⟩ := sp_sta_i h; exact sm_st1_len _ _ _
  case astore q => obtain ⟨x, -, -, -, -, rfl⟩ := sp_sta_i h; exact sm_st1_len _ _ _
  case iinc q n => obtain ⟨x, -, -, -, -, rfl, -⟩ := sp_inc_i h; exact sm_st1_len _ _ _
  case iadd => obtain ⟨x, y, r, -, -, -, rfl, -⟩ := sp_ii_i h; rfl
  case isub => obtain ⟨x, y, r, -, -, -, rfl, -⟩ := sp_ii_i h; rfl
  case imul => obtain ⟨x, y, r, -, -, -, rfl, -⟩ := sp_ii_i h; rfl
  case iand => obtain ⟨x, y, r, -, -, -, rfl, -⟩ := sp_ii_i h; rfl
  case ior => obtain ⟨x, y, r, -, -, -, rfl, -⟩ := sp_ii_i h; rfl
  case ishl => obtain ⟨x, y, r, -, -, -, rfl, -⟩ := sp_ii_i h; rfl
  case ishr => obtain ⟨x, y, r, -, -, -, rfl, -⟩ := sp_ii_i h; rfl
  case iushr => obtain ⟨x, y, r, -, -, -, rfl, -⟩ := sp_ii_i h; rfl
  case idiv => obtain ⟨x, y, r, -, -, -, -, rfl, -⟩ := sp_dv_i h; rfl
  case irem => obtain ⟨x, y, r, -, -, -, -, rfl, -⟩ := sp_dv_i h; rfl
  case ineg => obtain ⟨x, r, -, -, -, rfl, -⟩ := sp_i1_i h; rfl
  case ladd => obtain ⟨x, y, r, -, -, -, rfl, -⟩ := sp_ll_i h; rfl
  case lsub => obtain ⟨x, y, r, -, -, -, rfl, -⟩ := sp_ll_i h; rfl
  case lmul => obtain ⟨x, y, r, -, -, -, rfl, -⟩ := sp_ll_i h; rfl
  case lxor => obtain ⟨x, y, r, -, -, -, rfl, -⟩ := sp_ll_i h; rfl
  case lrem => obtain ⟨x, y, r, -, -, -, -, rfl, -⟩ := sp_dl_i h; rfl
  case lcmp => obtain ⟨x, y, r, -, -, -, rfl, -⟩ := sp_lcmp_i h; rfl
  case i2l => obtain ⟨x, r, -, -, -, rfl, -⟩ := sp_i1_i h; rfl
  case l2i => obtain ⟨x, r, -, -, -, rfl, -⟩ := sp_l1_i h; rfl
  case i2b => obtain ⟨x, r, -, -, -, rfl, -⟩ := sp_i1_i h; rfl
  case i2c => obtain ⟨x, r, -, -, -, rfl, -⟩ := sp_i1_i h; rfl
  case dup => obtain ⟨v, r, -, -, -, -, rfl, -⟩ := sp_dup_i h; rfl
  case dup2 => obtain ⟨v, w, r, -, -, -, -, -, rfl, -⟩ := sp_dup2_i h; rfl
  case pop => obtain ⟨v, -, -, -, -, rfl⟩ := sp_pop_i h; rfl
  case ifCond cd off => obtain ⟨x, t, -, -, -, -, rfl⟩ := sp_if_i h; rfl
  case if_icmp cd off => obtain ⟨x, y, t, -, -, -, -, rfl⟩ := sp_icmp_i h; rfl
  case goto off => obtain ⟨-, -, rfl, -⟩ := sp_goto_i h; rfl
  case tableswitch d lo hi offs => obtain ⟨x, -, rfl, -⟩ := sp_tsw_i h; rfl
  all_goals (exact absurd h (by intro q; cases q))
abbrev sm_n (S : sm_S) : Nat := S.2.2.2.2.1
abbrev sm_u (S : sm_S) : Nat := S.2.2.2.2.2
def sm_rm (d mc ms : Nat) : Room := { frames := d, cells := mc, slots := ms, locals := 40 * d + 32 }
def sm_oc : (Option Value ⊕ Nat) → Outcome
  | .inl v => .returned v
  | .inr a => .threw a
def sm_Met (l : Launch) (E : sm_E) (G : va_G) (B : Nat) (Hb : Heap) (d k : Nat) (as : List Value) (S : sm_S) (o : sm_O) : Prop :=
  sm_MetX l (sm_m k).1.1 [sm_cw (sm_m k)] (sm_rm d (sm_n o.2 - sm_n S) (sm_u o.2 - sm_u S)) (fun a U => a = as.toArray ∧ sm_Fix E G B Hb U ∧ sm_Rep G B Hb U S U.heap)
    (fun _ st oc t => oc = sm_oc o.1 ∧ sm_Rep G B Hb st o.2 t.heap) (sm_n o.2 - sm_n S) (sm_u o.2 - sm_u S) (fun a => B ≤ a)
/-- what a caller with d frames left may rest on of the methods that it calls -/
def sm_CallOk (l : Launch) (E : sm_E) (G : va_G) (B : Nat) (Hb : Heap) (d : Nat) (call : sm_F') : Prop :=
  ∀ y as S o, call y as S = some o → ∃ d', d' + 1 ≤ d ∧ sm_n S ≤ sm_n o.2 ∧ sm_u S ≤ sm_u o.2 ∧ sm_Met l E G B Hb d' y as S o
def sm_Ctx (E : sm_E) (G : va_G) (B : Nat) (Hb : Heap) (p : Program) (e : Env) (R : Room) (s : State) (m : MethodId) (meth : Method) (c : Code) (k d : Nat) : Prop :=
  p.tables.exec = Jvm.exec ∧ c.code = (sm_m k).1.2.1 ∧ c.maxLocals = (sm_m k).1.2.2.1 ∧ s.vm.findClass (sm_cn (sm_m k).2.1.1) = some m.cls ∧ meth.name = (sm_m k).1.1.name ∧ meth.sig.returnType = (sm_m k).1.2.2.2 ∧ meth.locks = false ∧ sm_Fix E G B Hb s ∧
  c.exceptionTable.toList.map (fun h => (h.startPc, h.endPc, h.handlerPc, h.catchType)) = sm_hh (sm_m k) ∧ d ≤ R.frames ∧ 40 * d + 32 ≤ R.locals ∧ e.platform.stackTraces = false ∧ (∀ q, q < B → s.heap[q]? = Hb[q]?) ∧ (sm_m k).1.2.2.1 ≤ 21
section SST
variable {p : Program} {l : Launch} {e : Env} {R : Room} {s : State} {m : MethodId} {args : Array Value} {below : List Frame} {meth : Method} {c : Code} {H : Heap} {locs : List Loc} {cells slots : Nat} {Q : State → Prop}
variable {E : sm_E} {G : va_G} {B : Nat} {Hb : Heap} {S S' : sm_S} {k d idx len pc pc' : Nat} {lv st lv' st' : List Value} {ls : Array Slot} {call : sm_F'}
theorem sd_call (hX : sm_Ctx E G B Hb p e R s m meth c k d) (hC : sm_CallOk l E G B Hb d call) {y : Nat} {as rest : List Value} (hR : sm_Rep G B Hb s S H) (hlo : ∀ x ∈ locs, B ≤ x.base) (hls : ls.size = c.maxLocals) (hw : sm_w rest ≤ 8)
    {ig : Instr} (hdg : decode c.code pc = .ok (ig, 3))
    (hinv : ∀ T : State, T.heap = H → Stand p l e R s m args below meth c T locs cells slots → sm_Inv p l e R s m args below meth c T locs cells slots (F0 m pc ls st) rest (sm_m y).1.1 as.toArray)
    {o : sm_O} (ho : call y as S = some o) (hcells : cells + (sm_n o.2 - sm_n S) ≤ R.cells) (hslots : slots + (sm_u o.2 - sm_u S) ≤ R.slots)
    (kr : ∀ v, o.1 = .inl v → ∀ (H' : Heap) (locs' : List Loc), sm_Rep G B Hb s o.2 H' → (∀ x ∈ locs', B ≤ x.base) → W p l e R s m args below meth c H' locs' (cells + (sm_n o.2 - sm_n S)) (slots + (sm_u o.2 - sm_u S)) Q (F0 m (pc + 3) ls (v.toList ++ rest)))
    (kt : ∀ x, o.1 = .inr x → ∀ (locs' : List Loc) (T' : State), sm_Rep G B Hb s o.2 T'.heap → (∀ x ∈ locs', B ≤ x.base) → Stand p l e R s m args below meth c T' locs' (cells + (sm_n o.2 - sm_n S)) (slots + (sm_u o.2 - sm_u S)) →
      ∃ t, Steps p.tables e below ((T'.setTop (F0 m pc ls rest)).pushFrame (.throwing x)) t ∧ Q t) :
    W p l e R s m args below meth c H locs cells slots Q (F0 m pc ls st) := by
  obtain ⟨hx, hb, hml, hown, hnm, hret, hlk, hF, hhh, hfr, hlc, -, -, -⟩ := hX
  intro T hT X
  obtain ⟨vm₁, mk, X₁, hn, hst⟩ := hinv T hT X
  obtain ⟨d', hd', hn1, hu1, hM⟩ := hC y as S o ho
  have hW : s.WarmedH vm₁ := X₁.warmed
  have hF₁ : sm_Fix E G B Hb (T.setVm vm₁) := hF.warm (U := T.setVm vm₁) hW
  have hR₁ : sm_Rep G B Hb (T.setVm vm₁) S (T.setVm vm₁).heap := by
    show sm_Rep G B Hb (T.setVm vm₁) S T.heap
    rw [hT]
    exact hR.moved hW.alike
  have hmx := (sm_m_ok y).2.2.2.2
  obtain ⟨oc, t, T', L, X', hL, e1, e2, ⟨hq1, hq2⟩, hcase⟩ := sm_callX X₁ hM (g := F0 m pc ls rest) rfl hls hdg hn (a := as.toArray) (sm_mw_cw hF₁ y) (sm_mw_ini hF₁ y) (by show d' + 1 ≤ R.frames; omega)
    (by show 2 * 0 + sm_w rest + ((sm_m y).1.2.2.1 + 11) + (40 * d' + 32) ≤ R.locals; omega) hcells hslots ⟨rfl, hF₁.warm (s := T.setVm vm₁) (State.WarmedH.refl (T.setVm vm₁)), hR₁.moved (Vm.Alike.refl _)⟩
  have hR' : sm_Rep G B Hb s o.2 T'.heap := by
    rw [e1]
    exact hq2.moved hW.alike.symm
  have hlo' : ∀ x ∈ locs ++ L, B ≤ x.base := fun x hx => (List.mem_append.mp hx).elim (hlo x) (hL x)
  rcases hcase with ⟨v, rfl, hsteps⟩ | ⟨x, rfl, hsteps⟩
  · have ho1 : o.1 = .inl v := by
      cases h1 : o.1 with
      | inl w => rw [h1] at hq1; cases hq1; rfl
      | inr w => rw [h1] at hq1; cases hq1
    obtain ⟨t2, a1, b1⟩ := kr v ho1 T'.heap _ hR' hlo' T' rfl X'
    exact ⟨t2, hst _ (hsteps.trans a1), b1⟩
  · have ho1 : o.1 = .inr x := by
      cases h1 : o.1 with
      | inr w => rw [h1] at hq1; cases hq1; rfl
      | inl w => rw [h1] at hq1; cases hq1
    obtain ⟨t2, a1, b1⟩ := kt x ho1 _ T' hR' hlo' X'
    exact ⟨t2, hst _ (hsteps.trans a1), b1⟩
end SST
