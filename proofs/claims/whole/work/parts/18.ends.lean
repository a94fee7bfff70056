/-! ===== throws that come to a frame; ends ===== -/
theorem sm_hc : sm_ms.all (fun m => m.2.1.2.1.all (fun q => decide (q.2.2.2.1 ≠ 0 ∧ q.2.2.2.1 < 65536 ∧ q.2.2.2.2 < 3 ∧ sm_look sm_NX (m.2.1.1 * 65536 + q.2.2.2.1) = some (q.2.2.2.2, 6)))) = true := by decide +kernel
theorem sm_hc_of (k : Nat) : ∀ q ∈ (sm_m k).2.1.2.1, q.2.2.2.1 ≠ 0 ∧ q.2.2.2.1 < 65536 ∧ q.2.2.2.2 < 3 ∧ sm_look sm_NX (sm_key k q.2.2.2.1) = some (q.2.2.2.2, 6) :=
  fun q hq => of_decide_eq_true (List.all_eq_true.mp (List.all_eq_true.mp sm_hc (sm_m k) (sm_m_mem k)) q hq)
theorem sm_find_mem {hh : List (Nat × Nat × Nat × Nat × Nat)} {pc x h : Nat} (hf : sm_find hh pc x = some h) : ∃ q ∈ hh, q.2.2.2.2 = x := by
  induction hh with
  | nil => cases hf
  | cons q r ih =>
    unfold sm_find at hf
    split at hf
    · next hc => exact ⟨q, List.mem_cons_self, hc.2.2⟩
    · obtain ⟨q', h1, h2⟩ := ih hf
      exact ⟨q', List.mem_cons_of_mem _ h1, h2⟩
section SEN
variable {p : Program} {l : Launch} {e : Env} {R : Room} {s : State} {m : MethodId} {args : Array Value} {below : List Frame} {meth : Method} {c : Code} {H : Heap} {locs : List Loc} {cells slots : Nat} {Q : State → Prop}
variable {E : sm_E} {G : va_G} {B : Nat} {Hb : Heap} {S S' : sm_S} {k d idx len pc pc' : Nat} {lv st lv' st' : List Value} {ls : Array Slot} {call : sm_F'}
theorem sd_catch (hX : sm_Ctx E G B Hb p e R s m meth c k d) {T : State} (hR : sm_Rep G B Hb s S T.heap) (X : Stand p l e R s m args below meth c T locs cells slots) {x y h : Nat} (hex : S.2.2.2.1 x = some y) (hf : sm_find (sm_m k).2.1.2.1 pc (y / 2) = some h) {rest : List Value}
    (kk : W p l e R s m args below meth c T.heap locs cells slots Q (F0 m h ls [.ref x])) : ∃ t, Steps p.tables e below ((T.setTop (F0 m pc ls rest)).pushFrame (.throwing x)) t ∧ Q t := by
  obtain ⟨hx, hb, hml, hown, hnm, hret, hlk, hF, hhh, hfr, hlc, -, -, -⟩ := hX
  have hpl : e.platform.magicAccessors = ({} : Platform).magicAccessors := by rw [X.admits.platform]
  obtain ⟨-, -, cell, kC, q1, q2, q3, q4, -⟩ := hR.2.2.2.2.2.2 x y hex
  have hy3 : y / 2 < 3 := by
    obtain ⟨q, hq1, hq2⟩ := sm_find_mem hf
    rw [← hq2]
    exact (sm_hc_of k q hq1).2.2.1
  have hall : ∀ q ∈ (sm_m k).2.1.2.1, q.2.2.2.1 ≠ 0 ∧ q.2.2.2.2 < 3 ∧ (Cond.classLink (sm_cn (sm_m k).2.1.1) q.2.2.2.1 (sm_xs.getD q.2.2.2.2 "")).before #[] s = true := by
    intro q hq
    obtain ⟨h1, h2, h3, h4⟩ := sm_hc_of k q hq
    obtain ⟨hm, e1, e2⟩ := sm_own_of h2 h4
    have hws := sm_NX_ok _ hm
    unfold sm_NX_w at hws
    simp only [e1, e2] at hws
    exact ⟨h1, h3, sm_word (args := #[]) hF (hws _ List.mem_cons_self) rfl rfl⟩
  have hheap : ((T.setTop (F0 m pc ls rest)).pushFrame (.throwing x)).heap = T.heap := Stand.throwing_heap T _ x
  have hvm : ((T.setTop (F0 m pc ls rest)).pushFrame (.throwing x)).vm = T.vm := Stand.throwing_vm T _ x
  obtain ⟨vm', hw, hgo⟩ := sm_go (e := e) (f := F0 m pc ls rest) hF hpl hown (a := x) hy3 q2 ⟨kC, q3⟩ q4 c.exceptionTable.toList (sm_m k).2.1.2.1 hhh hall hf ((T.setTop (F0 m pc ls rest)).pushFrame (.throwing x)) (by rw [hvm]; exact X.warmed) (by rw [hheap]; exact q1)
  obtain ⟨t, a1, b1⟩ := kk (T.setVm vm') rfl (X.noted hw)
  refine ⟨t, sm_caught (g := F0 m pc ls rest) X.here (vm' := vm') (fun Q' E' d acts => ?_) a1, b1⟩
  rw [Jvm.W.findHandler_eq (meth := meth) (code := c) (by rw [hvm]; exact X.method') X.code]
  exact hgo Q' E' d acts
/-- how a method ends, in the words of the small machine -/
def sm_Q (below : List Frame) (G : va_G) (B : Nat) (Hb : Heap) (s : State) (mc ms : Nat) (o : sm_O) : State → Prop := fun t =>
  ∃ oc, t.status = .running ∧ Ended t below oc ∧ (oc = sm_oc o.1 ∧ sm_Rep G B Hb s o.2 t.heap) ∧ ∃ L, (s.WarmedH t.vm ∧ s.sameButNew ({ t with vm := s.vm } : State) L mc ms) ∧ ∀ q ∈ L, B ≤ q.base
theorem sm_outs (hhh : c.exceptionTable.toList.map (fun h => (h.startPc, h.endPc, h.handlerPc, h.catchType)) = sm_hh (sm_m k)) (h : (sm_m k).2.1.2.1.all (fun r => !(decide (r.1 ≤ pc) && decide (pc < r.2.1))) = true) : ∀ x ∈ c.exceptionTable.toList, covers x pc = false := by
  intro x hx
  have h1 : (x.startPc, x.endPc, x.handlerPc, x.catchType) ∈ sm_hh (sm_m k) := by
    rw [← hhh]
    exact List.mem_map.mpr ⟨x, hx, rfl⟩
  unfold sm_hh at h1
  obtain ⟨q, hq, he⟩ := List.mem_map.mp h1
  have h2 := List.all_eq_true.mp h q hq
  have e1 : q.1 = x.startPc := congrArg (·.1) he
  have e2 : q.2.1 = x.endPc := congrArg (·.2.1) he
  rw [e1, e2] at h2
  cases hcv : covers x pc with
  | false => rfl
  | true =>
    rw [show (decide (x.startPc ≤ pc) && decide (pc < x.endPc)) = true from hcv] at h2
    cases h2
/-- thrown out of the method -/
theorem sd_out (hX : sm_Ctx E G B Hb p e R s m meth c k d) {T : State} (hR : sm_Rep G B Hb s S T.heap) (hlo : ∀ x ∈ locs, B ≤ x.base) (X : Stand p l e R s m args below meth c T locs cells slots) {x : Nat} {rest : List Value}
    (h : (sm_m k).2.1.2.1.all (fun r => !(decide (r.1 ≤ pc) && decide (pc < r.2.1))) = true) : ∃ t, Steps p.tables e below ((T.setTop (F0 m pc ls rest)).pushFrame (.throwing x)) t ∧ sm_Q below G B Hb s cells slots (.inr x, S) t := by
  obtain ⟨hx, hb, hml, hown, hnm, hret, hlk, hF, hhh, hfr, hlc, -, -, -⟩ := hX
  obtain ⟨g1, g2, g3, g4, g5⟩ := X.leaveThrown x (g := F0 m pc ls rest) rfl rfl rfl (sm_outs hhh h) hlk
  exact ⟨_, g1, .threw x, g2, g3, ⟨rfl, hR⟩, locs, ⟨g4, g5⟩, hlo⟩
theorem sd_reti (hX : sm_Ctx E G B Hb p e R s m meth c k d) (hR : sm_Rep G B Hb s S H) (hlo : ∀ x ∈ locs, B ≤ x.base) {o : sm_O} (hd : decode c.code pc = .ok (.ireturn, len)) (h : sm_reti k len st S = some (.inr o)) :
    W p l e R s m args below meth c H locs cells slots (sm_Q below G B Hb s cells slots o) (F0 m pc ls st) := by
  obtain ⟨hx, hb, hml, hown, hnm, hret, hlk, hF, hhh, hfr, hlc, -, -, -⟩ := hX
  unfold sm_reti at h
  split at h
  · next x ty hty =>
    split at h
    · next hl =>
      subst hl
      cases h
      intro T hT X
      obtain ⟨fs, hret', hrun, hended, hW, hframe⟩ := X.leave (v := some (narrow ty (.int x))) (hlocks := hlk) (fun h => by rw [hret, hty] at h; cases h)
      have hmeth' : T.vm.method? m = some meth := X.method'
      have hr2 : meth.sig.returnType = some ty := by rw [hret, hty]
      refine ⟨T.setFrames fs, ?_, .returned (some (narrow ty (.int x))), hrun, hended, ⟨rfl, ?_⟩, locs, ⟨hW, hframe⟩, hlo⟩
      · jvm_step X.here [X.here.top, hx, hd, hmeth', hr2]
        (try refine ⟨rfl, ?_⟩); (try refine ⟨rfl, ?_⟩)
        first | (intro acts; rw [hret' _ acts rfl rfl rfl]) | rw [hret' _ _ rfl rfl rfl]
        exact Steps.refl _
      · show sm_Rep G B Hb s S T.heap
        rw [hT]
        exact hR
    · cases h
  · cases h
theorem sd_retj (hX : sm_Ctx E G B Hb p e R s m meth c k d) (hR : sm_Rep G B Hb s S H) (hlo : ∀ x ∈ locs, B ≤ x.base) {o : sm_O} (hd : decode c.code pc = .ok (.lreturn, len)) (h : sm_retj k len st S = some (.inr o)) :
    W p l e R s m args below meth c H locs cells slots (sm_Q below G B Hb s cells slots o) (F0 m pc ls st) := by
  obtain ⟨hx, hb, hml, hown, hnm, hret, hlk, hF, hhh, hfr, hlc, -, -, -⟩ := hX
  unfold sm_retj at h
  split at h
  · next x hty =>
    split at h
    · next hl =>
      subst hl
      cases h
      intro T hT X
      obtain ⟨fs, hret', hrun, hended, hW, hframe⟩ := X.leave (v := some (.long x)) (hlocks := hlk) (fun h => by rw [hret, hty] at h; cases h)
      have hmeth' : T.vm.method? m = some meth := X.method'
      have hr2 : meth.sig.returnType = some .long := by rw [hret, hty]
      refine ⟨T.setFrames fs, ?_, .returned (some (.long x)), hrun, hended, ⟨rfl, ?_⟩, locs, ⟨hW, hframe⟩, hlo⟩
      · jvm_step X.here [X.here.top, hx, hd, hmeth', hr2]
        (try refine ⟨rfl, ?_⟩); (try refine ⟨rfl, ?_⟩)
        first | (intro acts; rw [hret' _ acts rfl rfl rfl]) | rw [hret' _ _ rfl rfl rfl]
        exact Steps.refl _
      · show sm_Rep G B Hb s S T.heap
        rw [hT]
        exact hR
    · cases h
  · cases h
theorem sd_retv (hX : sm_Ctx E G B Hb p e R s m meth c k d) (hR : sm_Rep G B Hb s S H) (hlo : ∀ x ∈ locs, B ≤ x.base) {o : sm_O} (hd : decode c.code pc = .ok (.return_, len)) (h : sm_retv k len st S = some (.inr o)) :
    W p l e R s m args below meth c H locs cells slots (sm_Q below G B Hb s cells slots o) (F0 m pc ls st) := by
  obtain ⟨hx, hb, hml, hown, hnm, hret, hlk, hF, hhh, hfr, hlc, -, -, -⟩ := hX
  unfold sm_retv at h
  split at h
  · next hty =>
    split at h
    · next hl =>
      subst hl
      cases h
      intro T hT X
      obtain ⟨fs, hret', hrun, hended, hW, hframe⟩ := X.leave (v := none) (hlocks := hlk) (fun _ => rfl)
      have hmeth' : T.vm.method? m = some meth := X.method'
      have hr2 : meth.sig.returnType = none := by rw [hret, hty]
      refine ⟨T.setFrames fs, ?_, .returned none, hrun, hended, ⟨rfl, ?_⟩, locs, ⟨hW, hframe⟩, hlo⟩
      · jvm_step X.here [X.here.top, hx, hd, hmeth', hr2]
        (try refine ⟨rfl, ?_⟩); (try refine ⟨rfl, ?_⟩)
        first | (intro acts; rw [hret' _ acts rfl rfl rfl]) | rw [hret' _ _ rfl rfl rfl]
        exact Steps.refl _
      · show sm_Rep G B Hb s S T.heap
        rw [hT]
        exact hR
    · cases h
  · cases h
theorem sd_athrow (hx : p.tables.exec = Jvm.exec) {x : Nat} {rest : List Value} (hd : decode c.code pc = .ok (.athrow, 1)) (kk : ∀ T : State, T.heap = H → Stand p l e R s m args below meth c T locs cells slots → ∃ t, Steps p.tables e below ((T.setTop (F0 m pc ls rest)).pushFrame (.throwing x)) t ∧ Q t) :
    W p l e R s m args below meth c H locs cells slots Q (F0 m pc ls (.ref x :: rest)) := by
  intro T hT X
  obtain ⟨t, a1, b1⟩ := kk T hT X
  refine ⟨t, ?_, b1⟩
  jvm_step X.here [hx, hd, athrow.wp_sem]
  exact a1
end SEN
