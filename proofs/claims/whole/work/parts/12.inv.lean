/-! ===== an invoking instruction: the method is resolved and entered ===== -/
theorem sm_cn_ne (o : Nat) : sm_cn o ≠ "java/lang/invoke/MethodHandle" ∧ sm_cn o ≠ "java/lang/invoke/VarHandle" := by
  have h : ∀ x ∈ sm_cns, x ≠ "java/lang/invoke/MethodHandle" ∧ x ≠ "java/lang/invoke/VarHandle" := by decide +kernel
  unfold sm_cn
  rw [List.getD_eq_getElem?_getD]
  cases hq : sm_cns[o]? with
  | none => exact ⟨by decide, by decide⟩
  | some x => exact h x (List.mem_of_getElem? hq)
theorem sm_na_eq {y : Nat} {sig : MethodDescriptor} (h : parseMethodDescriptor (sm_m y).1.1.desc = some sig) : sm_na y = sig.parameters.length := by
  unfold sm_na
  rw [h]
  rfl
theorem sm_take_rev (n : Nat) (st : List Value) (h : n ≤ st.length) : (st.take n).reverse.length = n := by
  rw [List.length_reverse, List.length_take]
  omega
section SIV
variable {p : Program} {l : Launch} {e : Env} {R : Room} {s : State} {m : MethodId} {args : Array Value} {below : List Frame} {meth : Method} {c : Code} {T : State} {locs : List Loc} {cells slots : Nat}
variable {E : sm_E} {G : va_G} {B : Nat} {Hb : Heap} {k idx : Nat}
def sm_Inv (p : Program) (l : Launch) (e : Env) (R : Room) (s : State) (m : MethodId) (args : Array Value) (below : List Frame) (meth : Method) (c : Code) (T : State) (locs : List Loc) (cells slots : Nat) (g : JFrame) (rest : List Value) (y : MethodName) (a : Array Value) : Prop :=
  ∃ (vm₁ : Vm) (mk : MethodId), Stand p l e R s m args below meth c (T.setVm vm₁) locs cells slots ∧ (T.setVm vm₁).methodNamed? y = some mk ∧
    ∀ target, Steps p.tables e below (doInvoke e ((T.setVm vm₁).setTop { g with stack := rest }) [] mk a).1 target → Steps p.tables e below (T.setTop g) target
/-- the words of a method of the table -/
theorem sm_mw (hF : sm_Fix E G B Hb s) (y : Nat) {w : Cond} (hw : w ∈ sm_wM (sm_m y)) (hg : sm_good w = true) (ho : w.onTables = true) : w.before args s = true :=
  sm_word hF ((sm_m_ok y).2.1 w hw) hg ho
theorem sm_mw_cw (hF : sm_Fix E G B Hb s) (y : Nat) : (sm_cw (sm_m y)).before args s = true := by
  have h : sm_good (sm_cw (sm_m y)) = true ∧ (sm_cw (sm_m y)).onTables = true := by
    unfold sm_cw
    split
    · exact ⟨rfl, rfl⟩
    · exact ⟨rfl, rfl⟩
  exact sm_mw hF y List.mem_cons_self h.1 h.2
theorem sm_mw_ini (hF : sm_Fix E G B Hb s) (y : Nat) : (Cond.initialized (sm_m y).1.1.cls).before args s = true :=
  sm_mw hF y (List.mem_cons_of_mem _ List.mem_cons_self) rfl rfl
theorem sm_mw_stat (hF : sm_Fix E G B Hb s) (y : Nat) (hs : (sm_m y).2.1.2.2 = true) : (Cond.static (sm_m y).1.1).before args s = true :=
  sm_mw hF y (List.mem_cons_of_mem _ (List.mem_cons_of_mem _ (by rw [hs]; exact List.mem_cons_self))) rfl rfl
theorem sm_mw_inst (hF : sm_Fix E G B Hb s) (y : Nat) (hs : (sm_m y).2.1.2.2 = false) : (Cond.instanceMethod (sm_m y).1.1).before args s = true := by
  refine sm_mw hF y (List.mem_cons_of_mem _ (List.mem_cons_of_mem _ ?_)) rfl rfl
  rw [hs, if_neg (by decide)]
  split
  · exact List.mem_cons_self
  · exact List.mem_cons_self
theorem sm_mw_sel (hF : sm_Fix E G B Hb s) (y : Nat) (hs : (sm_m y).2.1.2.2 = false) (hn : ¬ (sm_m y).1.1.name = "<init>") : (Cond.selects (sm_m y).1.1.cls (sm_m y).1.1 (sm_m y).1.1).before args s = true := by
  refine sm_mw hF y (List.mem_cons_of_mem _ (List.mem_cons_of_mem _ ?_)) rfl rfl
  rw [hs, if_neg (by decide), if_neg hn]
  exact List.mem_cons_of_mem _ List.mem_cons_self
theorem sm_link (hF : sm_Fix E G B Hb s) (hi : idx < 65536) {y : Nat} {nb : Bool} (hlk : sm_look sm_L (sm_key k idx) = some (y, nb)) :
    (nb = false ∧ (Cond.methodLink (sm_cn (sm_m k).2.1.1) idx (sm_m y).1.1).before args s = true) ∨ (nb = true ∧ (Cond.methodLinkNest (sm_cn (sm_m k).2.1.1) idx (sm_m y).1.1 "MessageTree").before args s = true) := by
  obtain ⟨hm, e1, e2⟩ := sm_own_of hi hlk
  have hw := sm_L_ok _ hm
  unfold sm_L_w at hw
  simp only [e1, e2] at hw
  cases nb with
  | false => exact Or.inl ⟨rfl, sm_word hF hw rfl rfl⟩
  | true => exact Or.inr ⟨rfl, sm_word hF hw rfl rfl⟩
theorem sm_hy (y : Nat) : (sm_m y).1.1.cls ≠ "java/lang/invoke/MethodHandle" ∧ (sm_m y).1.1.cls ≠ "java/lang/invoke/VarHandle" := by
  rw [(sm_m_ok y).2.2.1]
  exact sm_cn_ne _
theorem sm_invS (X : Stand p l e R s m args below meth c T locs cells slots) (hexec : p.tables.exec = Jvm.exec) (hown : s.vm.findClass (sm_cn (sm_m k).2.1.1) = some m.cls) (hF : sm_Fix E G B Hb s) (hi : idx < 65536) {y : Nat} {nb : Bool} (hlk : sm_look sm_L (sm_key k idx) = some (y, nb))
    (hst : (sm_m y).2.1.2.2 = true) {g : JFrame} (hg : g.method = m) {st : List Value} (hstack : g.stack = st) (hn : sm_na y ≤ st.length) (hdg : decode c.code g.pc = .ok (.invokestatic idx, 3)) :
    sm_Inv p l e R s m args below meth c T locs cells slots g (st.drop (sm_na y)) (sm_m y).1.1 (st.take (sm_na y)).reverse.toArray := by
  obtain ⟨mk, hnamed⟩ := sm_cw_named (sm_mw_cw (args := args) hF y)
  obtain ⟨methM, cM, hmethM, -, -, -, -, -, -, hsigM⟩ := sm_cw_spec hnamed (sm_mw_cw (args := args) hF y)
  have hstatic : methM.isStatic = true := Cond.static_spec hnamed hmethM (sm_mw_stat (args := args) hF y hst)
  obtain ⟨kP, hkP, -⟩ := className_of_methodNamed hnamed
  have hinitP : kP.init = .initialized := Cond.initialized_spec (findClass_of_methodNamed hnamed) hkP (sm_mw_ini (args := args) hF y)
  have hs2 : g.stack = (st.take (sm_na y)).reverse.reverse ++ st.drop (sm_na y) := by rw [hstack, List.reverse_reverse, List.take_append_drop]
  have hl2 : (st.take (sm_na y)).reverse.length = methM.sig.parameters.length := by rw [sm_take_rev _ _ hn]; exact sm_na_eq hsigM
  rcases sm_link (args := args) hF hi hlk with ⟨-, hlink⟩ | ⟨-, hlink⟩
  · obtain ⟨vm₁, X₁, hstep₁⟩ := X.invokestatic hexec hown hlink hnamed hmethM hstatic hkP hinitP (sm_hy y) (g := g) hg (argsL := (st.take (sm_na y)).reverse) (rest := st.drop (sm_na y)) hl2 hs2 hdg
    exact ⟨vm₁, mk, X₁, X₁.named hnamed, fun target h => hstep₁ _ fun acts => by rw [doInvoke_state]; exact h⟩
  · obtain ⟨vm₁, X₁, hstep₁⟩ := X.invokestaticNest hexec hown hlink hnamed hmethM hstatic hkP hinitP (sm_hy y) (g := g) hg (argsL := (st.take (sm_na y)).reverse) (rest := st.drop (sm_na y)) hl2 hs2 hdg
    exact ⟨vm₁, mk, X₁, X₁.named hnamed, fun target h => hstep₁ _ fun acts => by rw [doInvoke_state]; exact h⟩
theorem sm_invV (X : Stand p l e R s m args below meth c T locs cells slots) (hexec : p.tables.exec = Jvm.exec) (hown : s.vm.findClass (sm_cn (sm_m k).2.1.1) = some m.cls) (hF : sm_Fix E G B Hb s) (hi : idx < 65536) {y : Nat} {nb : Bool} (hlk : sm_look sm_L (sm_key k idx) = some (y, nb))
    (hst : (sm_m y).2.1.2.2 = false) (hnm : ¬ (sm_m y).1.1.name = "<init>") {g : JFrame} (hg : g.method = m) {st rest : List Value} {b : Nat} (hstack : g.stack = st) (hn : sm_na y ≤ st.length) (hdr : st.drop (sm_na y) = .ref b :: rest) (hdg : decode c.code g.pc = .ok (.invokevirtual idx, 3))
    {cellB : Cell} (hcell : T.heap[b]? = some cellB) (hobj : cellB.vm.isStatics = false) (hcls : s.vm.findClass (sm_m y).1.1.cls = some cellB.cls) :
    sm_Inv p l e R s m args below meth c T locs cells slots g rest (sm_m y).1.1 (Value.ref b :: (st.take (sm_na y)).reverse).toArray := by
  obtain ⟨mk, methM, hnamed, hmethM, hstM, habM⟩ := Cond.instanceMethod_spec (sm_mw_inst (args := args) hF y hst)
  obtain ⟨methM', cM, hmethM', -, -, -, -, -, -, hsigM⟩ := sm_cw_spec hnamed (sm_mw_cw (args := args) hF y)
  cases hmethM.symm.trans hmethM'
  obtain ⟨c2, r2, m2, q1, q2, q3, q4, kP, hkP, hkPi⟩ := Cond.selects_spec (sm_mw_sel (args := args) hF y hst hnm)
  cases hcls.symm.trans q1
  cases (State.methodFound?_of_named hnamed (sm_hy y)).symm.trans q2
  cases hnamed.symm.trans q3
  have hselP : selectMethod e.platform s.vm cellB.cls mk = .method mk := by rw [Launch.admits_selectMethod X.admits]; exact q4
  have hs2 : g.stack = (st.take (sm_na y)).reverse.reverse ++ .ref b :: rest := by rw [hstack, List.reverse_reverse, ← hdr, List.take_append_drop]
  have hl2 : (st.take (sm_na y)).reverse.length = methM.sig.parameters.length := by rw [sm_take_rev _ _ hn]; exact sm_na_eq hsigM
  rcases sm_link (args := args) hF hi hlk with ⟨-, hlink⟩ | ⟨-, hlink⟩
  · obtain ⟨vm₁, X₁, hstep₁⟩ := X.invokevirtual hexec hown hlink hnamed hmethM hstM hkP hkPi (sm_hy y) (a := b) (cell := cellB) hcell
      (fun z h => by rw [h] at hobj; cases hobj) hselP hmethM habM hkP hkPi (g := g) hg (argsL := (st.take (sm_na y)).reverse) (rest := rest) hl2 hs2 hdg
    exact ⟨vm₁, mk, X₁, X₁.named hnamed, fun target h => hstep₁ _ fun acts => by rw [doInvoke_state]; exact h⟩
  · obtain ⟨vm₁, X₁, hstep₁⟩ := X.invokevirtualNest hexec hown hlink hnamed hmethM hstM hkP hkPi (sm_hy y) (a := b) (cell := cellB) hcell
      (fun z h => by rw [h] at hobj; cases hobj) hselP hmethM habM hkP hkPi (g := g) hg (argsL := (st.take (sm_na y)).reverse) (rest := rest) hl2 hs2 hdg
    exact ⟨vm₁, mk, X₁, X₁.named hnamed, fun target h => hstep₁ _ fun acts => by rw [doInvoke_state]; exact h⟩
theorem sm_invI (X : Stand p l e R s m args below meth c T locs cells slots) (hexec : p.tables.exec = Jvm.exec) (hown : s.vm.findClass (sm_cn (sm_m k).2.1.1) = some m.cls) (hF : sm_Fix E G B Hb s) (hi : idx < 65536) {y : Nat} {nb : Bool} (hlk : sm_look sm_L (sm_key k idx) = some (y, nb))
    (hst : (sm_m y).2.1.2.2 = false) (hnm : (sm_m y).1.1.name = "<init>") (hre : (sm_m y).2.1.2.1 = [] ∧ (sm_m y).1.2.2.2 = none) {g : JFrame} (hg : g.method = m) {st rest : List Value} {b : Nat} (hstack : g.stack = st) (hn : sm_na y ≤ st.length) (hdr : st.drop (sm_na y) = .ref b :: rest) (hdg : decode c.code g.pc = .ok (.invokespecial idx, 3)) :
    sm_Inv p l e R s m args below meth c T locs cells slots g rest (sm_m y).1.1 (Value.ref b :: (st.take (sm_na y)).reverse).toArray := by
  subst hg
  have hpl : e.platform.magicAccessors = ({} : Platform).magicAccessors := by rw [X.admits.platform]
  have hcode : (Cond.code (sm_m y).1.1 (sm_m y).1.2.1 (sm_m y).1.2.2.1 none).before args s = true := by
    have h := sm_mw_cw (args := args) hF y
    unfold sm_cw at h
    rw [hre.1, hre.2] at h
    exact h
  have hs2 : g.stack = (st.take (sm_na y)).reverse.reverse ++ .ref b :: rest := by rw [hstack, List.reverse_reverse, ← hdr, List.take_append_drop]
  have hl2 : ∀ sig, parseMethodDescriptor (sm_m y).1.1.desc = some sig → (st.take (sm_na y)).reverse.length = sig.parameters.length := fun sig h => by rw [sm_take_rev _ _ hn]; exact sm_na_eq h
  rcases sm_link (args := args) hF hi hlk with ⟨-, hlink⟩ | ⟨-, hlink⟩
  · obtain ⟨mk, methM, cM, kP, vm₁, hnamed, hmethM, hcodeM, -, hlocalsM, -, hkP, -, hW₁, hstep₁⟩ := Steps.initColdArgs (e := e) X.here hexec X.warmed hpl hown hnm (sm_hy y) hlink (sm_mw_inst (args := args) hF y hst) hcode (f := g) rfl hl2 hs2 hdg
    have X₁ := X.noted hW₁
    exact ⟨vm₁, mk, X₁, X₁.named hnamed, fun target h => hstep₁ _ fun acts => by rw [doInvoke_state]; exact h⟩
  · obtain ⟨mk, methM, cM, kP, vm₁, hnamed, hmethM, hcodeM, -, hlocalsM, -, hkP, -, hW₁, hstep₁⟩ := Steps.initColdArgsNest (e := e) X.here hexec X.warmed hpl hown hnm (sm_hy y) hlink (sm_mw_inst (args := args) hF y hst) hcode (f := g) rfl hl2 hs2 hdg
    have X₁ := X.noted hW₁
    exact ⟨vm₁, mk, X₁, X₁.named hnamed, fun target h => hstep₁ _ fun acts => by rw [doInvoke_state]; exact h⟩
end SIV
