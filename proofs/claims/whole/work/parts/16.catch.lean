/-! ===== an exception that comes to a frame: caught by a row of its table, resolved or not yet ===== -/
section SCT
variable {E' : CtlPost} {e : Env} {d : Bool} {acts : List Action} {s : State} {f : JFrame} {a : Addr} {Q' : Handler → Pre}
theorem sm_go_cold {x : ExceptionTableEntry} {t : List ExceptionTableEntry} {c : ClassId} {cell : Cell} {vm' : Vm} (hx : covers x f.pc = true) (h0 : x.catchType ≠ 0)
    (hg : (Jvm.resolveClass f.method.cls x.catchType).Gives e.toSetting s.vm (.ok c) vm') (hsz : vm'.classes.size ≤ s.vm.classes.size) (hcell : s.heap[a]? = some cell) (hobj : ∀ k, cell.vm ≠ .statics k)
    (hk : ∃ k, vm'.classes[cell.cls]? = some k) (hc : ∃ k, vm'.classes[c]? = some k) :
    Sem.wp (findHandler.go f a (x :: t)) Q' E' e d acts s ↔
      if vm'.assignable cell.cls c = true then Q' (.found x.handlerPc) d acts (s.setVm vm') else Sem.wp (findHandler.go f a t) Q' E' e d acts (s.setVm vm') := by
  simp only [covers] at hx
  obtain ⟨ha, ht⟩ := hg.op (op := VmOp.resolveClass f.method.cls x.catchType) rfl
  cases hfit : vm'.assignable cell.cls c <;>
    simp [findHandler.go, hx, h0, ha, ht, hsz, hcell, hobj, hk, hc, hfit, VmOp.dirties, VmOp.acts]
end SCT
theorem sm_asg_alike {vm vm' : Vm} (h : vm.Alike vm') (c t : ClassId) : vm'.assignable c t = vm.assignable c t := h.assignable c t
section SGO
variable {e : Env} {s : State} {E : sm_E} {G : va_G} {B : Nat} {Hb : Heap}
theorem sm_go (hF : sm_Fix E G B Hb s) (hpl : e.platform.magicAccessors = ({} : Platform).magicAccessors) {f : JFrame} {own : String} (hown : s.vm.findClass own = some f.method.cls) {a : Addr} {cell : Cell} {x : Nat} (hx3 : x < 3)
    (hcl : s.vm.findClass (sm_xs.getD x "") = some cell.cls) (hkc : ∃ k, s.vm.classes[cell.cls]? = some k) (hvm : cell.vm = .none) {h : Nat} :
    ∀ (hs : List ExceptionTableEntry) (hh : List (Nat × Nat × Nat × Nat × Nat)), hs.map (fun h => (h.startPc, h.endPc, h.handlerPc, h.catchType)) = hh.map (fun q => (q.1, q.2.1, q.2.2.1, q.2.2.2.1)) →
      (∀ q ∈ hh, q.2.2.2.1 ≠ 0 ∧ q.2.2.2.2 < 3 ∧ (Cond.classLink own q.2.2.2.1 (sm_xs.getD q.2.2.2.2 "")).before #[] s = true) → sm_find hh f.pc x = some h →
      ∀ st : State, s.WarmedH st.vm → st.heap[a]? = some cell → ∃ vm', s.WarmedH vm' ∧ ∀ (Q' : Handler → Pre) (E' : CtlPost) (d : Bool) (acts : List Action), Sem.wp (findHandler.go f a hs) Q' E' e d acts st ↔ Q' (.found h) d acts (st.setVm vm') := by
  intro hs
  induction hs with
  | nil =>
    intro hh hm _ hf
    cases hh with
    | nil => cases hf
    | cons q r => cases hm
  | cons y t ih =>
    intro hh hm hall hf st hW hcell
    cases hh with
    | nil => cases hm
    | cons q r =>
      rw [List.map_cons, List.map_cons] at hm
      obtain ⟨hm1, hm2⟩ := List.cons.inj hm
      have e1 : y.startPc = q.1 := congrArg (·.1) hm1
      have e2 : y.endPc = q.2.1 := congrArg (·.2.1) hm1
      have e3 : y.handlerPc = q.2.2.1 := congrArg (·.2.2.1) hm1
      have e4 : y.catchType = q.2.2.2.1 := congrArg (·.2.2.2) hm1
      obtain ⟨h0, h3, hlk⟩ := hall q List.mem_cons_self
      obtain ⟨cc, hfcc, hl⟩ := Cond.classLink_spec hown hlk e.platform hpl
      obtain ⟨hg, hw, -⟩ := State.classEntry (e := e) hW hl
      have hobj : ∀ k, cell.vm ≠ .statics k := fun k z => by rw [hvm] at z; cases z
      have hal := hw.alike
      have hsz : (st.vm.noted f.method.cls q.2.2.2.1 (.cls cc)).classes.size ≤ st.vm.classes.size := by
        rw [hal.2.1, hW.alike.2.1]
        exact Nat.le_refl _
      have hk1 : ∃ k, (st.vm.noted f.method.cls q.2.2.2.1 (.cls cc)).classes[cell.cls]? = some k := by
        obtain ⟨k, hk⟩ := hkc
        obtain ⟨k', hk', -⟩ := hal.2.2 _ _ hk
        exact ⟨k', hk'⟩
      have hk2 : ∃ k, (st.vm.noted f.method.cls q.2.2.2.1 (.cls cc)).classes[cc]? = some k := by
        obtain ⟨k, hk⟩ := Vm.classAt_of_findClass hfcc
        obtain ⟨k', hk', -⟩ := hal.2.2 _ _ hk
        exact ⟨k', hk'⟩
      unfold sm_find at hf
      split at hf
      · next hc =>
        cases hf
        obtain ⟨c1, c2, c3⟩ := hc
        have hcov : covers y f.pc = true := by
          simp only [covers, Bool.and_eq_true, decide_eq_true_eq]
          exact ⟨by rw [e1]; exact c1, by rw [e2]; exact c2⟩
        rw [c3] at hfcc
        cases hfcc.symm.trans hcl
        refine ⟨_, hw, fun Q' E' d acts => ?_⟩
        rw [sm_go_cold hcov (by rw [e4]; exact h0) (by rw [e4]; exact hg) hsz hcell hobj hk1 hk2, if_pos (va_asg _ _), e3]
      · next hc =>
        by_cases hcov : covers y f.pc = true
        · have hcov2 := hcov
          simp only [covers, Bool.and_eq_true, decide_eq_true_eq] at hcov2
          have hne : q.2.2.2.2 ≠ x := fun z => hc ⟨by rw [← e1]; exact hcov2.1, by rw [← e2]; exact hcov2.2, z⟩
          obtain ⟨c9, t9, n1, n2, n3⟩ := hF.2.2.2.2.2.2.2.1 x q.2.2.2.2 hx3 h3 (fun z => hne z.symm)
          cases hcl.symm.trans n1
          cases hfcc.symm.trans n2
          obtain ⟨vm', hw', hrest⟩ := ih r hm2 (fun q' hq' => hall q' (List.mem_cons_of_mem _ hq')) hf (st.setVm (st.vm.noted f.method.cls q.2.2.2.1 (.cls cc))) hw hcell
          refine ⟨vm', hw', fun Q' E' d acts => ?_⟩
          rw [sm_go_cold hcov (by rw [e4]; exact h0) (by rw [e4]; exact hg) hsz hcell hobj hk1 hk2, if_neg (by rw [sm_asg_alike hal, n3]; decide), hrest]
          rfl
        · have hcov' : covers y f.pc = false := by simpa using hcov
          obtain ⟨vm', hw', hrest⟩ := ih r hm2 (fun q' hq' => hall q' (List.mem_cons_of_mem _ hq')) hf st hW hcell
          refine ⟨vm', hw', fun Q' E' d acts => ?_⟩
          rw [Jvm.W.findHandler_go_skip hcov', hrest]
end SGO
/-- a handler is found, at tables that the search has warmed: the frame goes on there -/
theorem sm_stepCatch {e : Env} {s : State} {a : Addr} {f : JFrame} {r : List Frame} {pc : Nat} {vm' : Vm} (hfind : ∀ (Q' : Handler → Pre) (E' : CtlPost) (d : Bool) (acts : List Action), Sem.wp (findHandler f a) Q' E' e d acts s ↔ Q' (.found pc) d acts (s.setVm vm')) :
    (stepThrowing e s a (.java f :: r)).Is ((s.setVm vm').setFrames (.java { f with pc := pc, stack := [.ref a] } :: r)) [] := by
  simp only [stepThrowing, searchFrame, vmDo]
  generalize hr : Sem.go _ e false [] s = res
  obtain ⟨as, rfl, ha⟩ := Sem.eq_ok_of hr (a := Handler.found pc) (s' := s.setVm vm') (acts' := []) (by simp [hfind _ _ _ _])
  exact ⟨rfl, ha⟩
theorem sm_caught {tb : Tables} {e : Env} {s target : State} {g : JFrame} {c : Code} {below : List Frame} {a : Addr} (h : At s g.method c below) {pc : Nat} {vm' : Vm}
    (hfind : ∀ (Q' : Handler → Pre) (E' : CtlPost) (d : Bool) (acts : List Action), Sem.wp (findHandler g a) Q' E' e d acts ((s.setTop g).pushFrame (.throwing a)) ↔ Q' (.found pc) d acts (((s.setTop g).pushFrame (.throwing a)).setVm vm'))
    (hrest : Steps tb e below ((s.setVm vm').setTop { g with pc := pc, stack := [.ref a] }) target) :
    Steps tb e below ((s.setTop g).pushFrame (.throwing a)) target := by
  obtain ⟨hgo, hw⟩ := h.throwing a
  refine Steps.head hgo hw ?_
  rw [stepThread_throwing (frames_entered h.top _), (sm_stepCatch (s := (s.setTop g).pushFrame (.throwing a)) hfind).1]
  obtain ⟨g₀, hg⟩ := Option.isSome_iff_exists.mp h.top
  obtain ⟨r, hr⟩ := State.topJava?_eq_some.mp hg
  have hr' : (s.setVm vm').frames = .java g₀ :: r := hr
  rw [State.setTop_of_frames _ hr'] at hrest
  have e1 : ((((s.setTop g).pushFrame (.throwing a)).setVm vm').setFrames (.java { g with pc := pc, stack := [.ref a] } :: s.frames.tail)) = (s.setVm vm').setFrames (.java { g with pc := pc, stack := [.ref a] } :: r) := by
    rw [hr, State.setTop_of_frames _ hr]
    show ((((s.setFrames (.java g :: r)).pushFrame (.throwing a)).setFrames (.java { g with pc := pc, stack := [.ref a] } :: r)).setVm vm') = ((s.setFrames (.java { g with pc := pc, stack := [.ref a] } :: r)).setVm vm')
    rw [State.pushFrame, State.setFrames_setFrames, State.setFrames_setFrames]
  rw [e1]
  exact hrest
