/-! ===== an exception's constructor ===== -/
def sm_xn : List String := ["java/lang/RuntimeException", "java/lang/Exception"]
/-- the words on which an exception's constructor rests, but for its link -/
def sm_xA (X : String) : List Cond := Bundle.throwableAtoms ++ Bundle.throwableSAtoms ++ Bundle.chainSAtoms X sm_xn ++
  [.instantiable X 6, .castable X X, .selects X Bundle.tFill0 Bundle.tFill0, .selects X Bundle.tFill Bundle.tFill, .lays X Bundle.tN "cause" "Ljava/lang/Throwable;", .lays X Bundle.tN "stackTrace" Bundle.steD, .lays X Bundle.tN "suppressedExceptions" Bundle.listD, .lays X Bundle.tN "detailMessage" "Ljava/lang/String;",
   .fieldLink Bundle.tN 198 Bundle.tN "backtrace" "Ljava/lang/Object;", .lays Bundle.tN Bundle.tN "backtrace" "Ljava/lang/Object;", .lays X Bundle.tN "backtrace" "Ljava/lang/Object;"]
set_option maxRecDepth 100000 in
theorem sm_xa0 : sm_in (sm_xA (sm_xs.getD 0 "")) := sm_in_ch [(1, 15), (2, 161), (2, 170), (2, 174), (2, 177), (2, 179), (2, 162), (2, 163), (1, 34), (1, 35), (2, 164), (2, 169), (2, 175), (2, 195), (2, 151), (2, 196), (2, 153), (2, 197), (2, 155), (2, 165), (2, 166), (2, 167), (2, 168), (2, 157), (2, 191), (2, 192), (2, 194), (2, 157), (2, 182), (2, 183), (2, 184), (2, 185), (2, 143), (2, 185), (2, 186), (2, 187), (2, 188), (2, 145), (2, 188), (2, 189), (2, 190), (2, 191), (2, 147), (2, 140), (2, 141), (2, 148), (2, 149), (2, 150), (2, 152), (2, 154), (2, 156), (2, 193), (2, 159), (2, 158)] rfl
set_option maxRecDepth 100000 in
theorem sm_xa1 : sm_in (sm_xA (sm_xs.getD 1 "")) := sm_in_ch [(1, 15), (2, 161), (2, 170), (2, 174), (2, 177), (2, 179), (2, 162), (2, 163), (1, 34), (1, 35), (2, 164), (2, 169), (2, 175), (2, 195), (2, 151), (2, 196), (2, 153), (2, 197), (2, 155), (2, 165), (2, 166), (2, 167), (2, 168), (2, 157), (2, 191), (2, 192), (2, 194), (2, 157), (5, 100), (5, 101), (5, 102), (2, 185), (2, 143), (2, 185), (2, 186), (2, 187), (2, 188), (2, 145), (2, 188), (2, 189), (2, 190), (2, 191), (2, 147), (5, 90), (5, 91), (5, 92), (2, 172), (5, 93), (5, 94), (5, 95), (5, 96), (2, 193), (2, 159), (5, 97)] rfl
set_option maxRecDepth 100000 in
theorem sm_xa2 : sm_in (sm_xA (sm_xs.getD 2 "")) := sm_in_ch [(1, 15), (2, 161), (2, 170), (2, 174), (2, 177), (2, 179), (2, 162), (2, 163), (1, 34), (1, 35), (2, 164), (2, 169), (2, 175), (2, 195), (2, 151), (2, 196), (2, 153), (2, 197), (2, 155), (2, 165), (2, 166), (2, 167), (2, 168), (2, 157), (2, 191), (2, 192), (2, 194), (2, 157), (5, 132), (5, 133), (5, 134), (2, 185), (2, 143), (2, 185), (2, 186), (2, 187), (2, 188), (2, 145), (2, 188), (2, 189), (2, 190), (2, 191), (2, 147), (5, 122), (5, 123), (5, 124), (2, 173), (5, 125), (5, 126), (5, 127), (5, 128), (2, 193), (2, 159), (5, 129)] rfl
def sm_xok (w : Cond) : Bool := (sm_good w && w.onTables) || match w with
  | .laysStatic o f d => decide ((o = "java/lang/Throwable" ∧ f = "UNASSIGNED_STACK" ∧ d = "[Ljava/lang/StackTraceElement;") ∨ (o = "java/lang/Throwable" ∧ f = "SUPPRESSED_SENTINEL" ∧ d = "Ljava/util/List;"))
  | _ => false
theorem sm_xa_good (x : Nat) (hx : x < 3) : ∀ w ∈ sm_xA (sm_xs.getD x ""), sm_xok w = true := by
  intro w hw
  have h : (sm_xA (sm_xs.getD x "")).all sm_xok = true := by
    match x, hx with
    | 0, _ => decide +kernel
    | 1, _ => decide +kernel
    | 2, _ => decide +kernel
  exact List.all_eq_true.mp h w hw
theorem sm_xw {E : sm_E} {G : va_G} {B : Nat} {Hb : Heap} {s : State} {args : Array Value} (hF : sm_Fix E G B Hb s) (hsb : ∀ q, q < B → s.heap[q]? = Hb[q]?) {x : Nat} (hx : x < 3) : ∀ w ∈ sm_xA (sm_xs.getD x ""), w.before args s = true := by
  intro w hw
  have h1 := sm_xa_good x hx w hw
  unfold sm_xok at h1
  rcases Bool.or_eq_true_iff.mp h1 with h2 | h2
  · have h3 := Bool.and_eq_true_iff.mp h2
    refine sm_word hF ?_ h3.1 h3.2
    match x, hx with
    | 0, _ => exact sm_xa0 w hw
    | 1, _ => exact sm_xa1 w hw
    | 2, _ => exact sm_xa2 w hw
  · split at h2
    · next o f d =>
      rcases of_decide_eq_true h2 with ⟨rfl, rfl, rfl⟩ | ⟨rfl, rfl, rfl⟩
      · exact hF.2.2.2.2.2.2.2.2.2.2.1.word hsb
      · exact hF.2.2.2.2.2.2.2.2.2.2.2.word hsb
    · cases h2
section SEX
variable {p : Program} {l : Launch} {e : Env} {R : Room} {s : State} {m₀ : MethodId} {args : Array Value} {below : List Frame} {meth : Method} {c : Code} {W : State} {locs : List Loc} {cells slots : Nat}
variable {E : sm_E} {G : va_G} {B : Nat} {Hb : Heap} {S : sm_S}
theorem sm_Zv {C n d : String} {v : Value} (hR : sm_Rep G B Hb s S W.heap) (hZ : va_Z C n d v (fun a => B ≤ a) s Hb) {cf : ClassId} {kf : Class} {fi : Nat} {f : Field} {aS : Nat} (h1 : s.fieldFound? C n d = some (cf, kf, fi, f)) (h2 : kf.statics = some aS) : aS < B ∧ ∃ cell, W.heap[aS]? = some cell ∧ cell.vm ≠ .unknown ∧ cell.slots[f.slot]? = some v := by
  obtain ⟨cf', kf', fi', f', a, cell, g1, g2, g3, g4, g5, g6, g7, g8⟩ := hZ
  cases h1.symm.trans g1
  cases h2.symm.trans g4
  have h9 : ¬ B ≤ aS := g8
  exact ⟨by omega, cell, (by rw [hR.2.2.2.1 aS (by omega)]; exact g5), (fun e => by rw [e] at g6; cases g6), g7⟩
set_option maxHeartbeats 2000000 in
theorem sm_exCtor (X : Stand p l e R s m₀ args below meth c W locs cells slots) (hexec : p.tables.exec = Jvm.exec) (htr : e.platform.stackTraces = false) (hF : sm_Fix E G B Hb s) (hsb : ∀ q, q < B → s.heap[q]? = Hb[q]?) (hR : sm_Rep G B Hb s S W.heap) {own : String} {ic x : Nat} (hx : x < 3)
    (hown : s.vm.findClass own = some m₀.cls) (hlink : (Cond.methodLink own ic ⟨sm_xs.getD x "", "<init>", "(Ljava/lang/String;)V"⟩).before args s = true)
    {a : Addr} {cX : ClassId} {kX : Class} (hfoundX : s.vm.findClass (sm_xs.getD x "") = some cX) (hkX : s.vm.classes[cX]? = some kX) (hcell : W.heap[a]? = some (freshCell cX kX)) (hnew : B ≤ a) {msg : Value} (hmsg : msg.isRef = true)
    {g : JFrame} (hg : g.method = m₀) (hsize : g.locals.size = c.maxLocals) {rest : List Value} (hstack : g.stack = msg :: .ref a :: rest) (hd6 : decode c.code g.pc = .ok (.invokespecial ic, 3))
    (hRframes : 5 < R.frames) (hRlocals : 2 * g.monitorRoom + (rest.map fun v => v.category).sum + 81 ≤ R.locals) :
    ∃ (vm' : Vm) (cell' : Cell) (L : List Loc), Stand p l e R s m₀ args below meth c ((W.setVm vm').setCell a cell') (locs ++ L) cells slots ∧ (∀ y ∈ L, y.base = a) ∧ cell'.cls = cX ∧ cell'.vm = .none ∧
      ∀ target, Steps p.tables e below (((W.setVm vm').setCell a cell').setTop { g with pc := g.pc + 3, stack := rest }) target → Steps p.tables e below (W.setTop g) target := by
  have hw := sm_xw (args := args) hF hsb hx
  generalize hcls : sm_xs.getD x "" = cls at hw hlink hfoundX
  have hfit : Bundle.fit cls = true := by
    rw [← hcls]
    match x, hx with
    | 0, _ => decide +kernel
    | 1, _ => decide +kernel
    | 2, _ => decide +kernel
  have howns : e.platform.frameOwnsMonitors = true := by rw [X.admits.platform]
  have hfin : e.platform.finalization = false := by rw [X.admits.platform]
  have hpl : e.platform.magicAccessors = ({} : Platform).magicAccessors := by rw [X.admits.platform]
  have a' : ∀ y, y ∈ sm_xA cls → y.holds args s none s [] = true := fun y hy => hw y hy
  obtain ⟨T, Z0, L, -, Y⟩ := ThrowableC.of_atoms (args := args) howns hfin hpl (fun y hy => hw y (by simp only [sm_xA, List.mem_append]; exact Or.inl (Or.inl (Or.inl hy))))
  obtain ⟨Z, M, LZ, LM, hnZ⟩ := Init0T.ofS_atoms (args := args) hpl L Y (fun y hy => hw y (by simp only [sm_xA, List.mem_append]; exact Or.inl (Or.inl (Or.inr hy))))
  obtain ⟨P1, Ps, hlen, L1, hL, hP1m, hlink1, hlink'⟩ := Bundle.chainS (args := args) hpl hnZ sm_xn cls hfit (by decide +kernel) (fun y hy => hw y (by simp only [sm_xA, List.mem_append]; exact Or.inl (Or.inr hy)))
  have hown' : ∀ y ∈ ([.instantiable cls 6, .castable cls cls, .selects cls Bundle.tFill0 Bundle.tFill0, .selects cls Bundle.tFill Bundle.tFill, .lays cls Bundle.tN "cause" "Ljava/lang/Throwable;", .lays cls Bundle.tN "stackTrace" Bundle.steD, .lays cls Bundle.tN "suppressedExceptions" Bundle.listD, .lays cls Bundle.tN "detailMessage" "Ljava/lang/String;",
   .fieldLink Bundle.tN 198 Bundle.tN "backtrace" "Ljava/lang/Object;", .lays Bundle.tN Bundle.tN "backtrace" "Ljava/lang/Object;", .lays cls Bundle.tN "backtrace" "Ljava/lang/Object;"] : List Cond), y.holds args s none s [] = true := fun y hy => a' y (by simp only [sm_xA, List.mem_append]; exact Or.inr hy)
  have hfound : s.vm.findClass cls = some P1.m.cls := findClass_of_methodNamed hP1m
  cases Option.some.inj (hfoundX.symm.trans hfound)
  obtain ⟨c1, kX', hc1, hk, hord, -, -, hn6⟩ := Cond.instantiable_spec (hown' (.instantiable cls 6) (by simp))
  cases Option.some.inj (hc1.symm.trans hfound)
  cases Option.some.inj (hkX.symm.trans hk)
  have hsel0 : selectMethod e.platform s.vm P1.m.cls T.fill0 = .method T.fill0 := by
    obtain ⟨c2, r2, m2, q1, q2, q3, q4, -⟩ := Cond.selects_spec (hown' (.selects cls Bundle.tFill0 Bundle.tFill0) (by simp))
    cases Option.some.inj (q1.symm.trans hfound)
    cases Option.some.inj (q2.symm.trans (State.methodFound?_of_named Y.fill0 (by decide)))
    cases Option.some.inj (q3.symm.trans Y.fill0)
    rw [Launch.admits_selectMethod X.admits]; exact q4
  have hselF : selectMethod e.platform s.vm P1.m.cls T.fill = .method T.fill := by
    obtain ⟨c2, r2, m2, q1, q2, q3, q4, -⟩ := Cond.selects_spec (hown' (.selects cls Bundle.tFill Bundle.tFill) (by simp))
    cases Option.some.inj (q1.symm.trans hfound)
    cases Option.some.inj (q2.symm.trans (State.methodFound?_of_named Y.fill (by decide)))
    cases Option.some.inj (q3.symm.trans Y.fill)
    rw [Launch.admits_selectMethod X.admits]; exact q4
  obtain ⟨vU, hvU, hZU⟩ := hF.2.2.2.2.2.2.2.2.1
  obtain ⟨vN, hvN, hZN⟩ := hF.2.2.2.2.2.2.2.2.2.1
  obtain ⟨hlt, cellS, hcellS, hknownS, hu0⟩ := sm_Zv hR hZU Y.unassigned L.statics
  obtain ⟨-, cellS', hcellS', -, hsen⟩ := sm_Zv hR hZN Y.sentinel L.statics
  cases hcellS.symm.trans hcellS'
  have hneS : T.aS ≠ a := Nat.ne_of_lt (Nat.lt_of_lt_of_le hlt hnew)
  obtain ⟨ci198, i198, fB, hk198, hg198, ha198, hsB, -, hnB, htB, hffB⟩ := Cond.ownField (t := .object "java/lang/Object") Y.found L.cls (by decide +kernel) (hown' (.fieldLink Bundle.tN 198 Bundle.tN "backtrace" "Ljava/lang/Object;") (by simp)) (hown' (.lays Bundle.tN Bundle.tN "backtrace" "Ljava/lang/Object;") (by simp)) e.platform hpl
  obtain ⟨iM, hffM⟩ := Y.msg
  obtain ⟨tyC, dC, hdC, hdnC⟩ := Cond.laysAt hfound hk Y.cause (hown' (.lays cls Bundle.tN "cause" "Ljava/lang/Throwable;") (by simp))
  obtain ⟨tyS, dS, hdS, hdnS⟩ := Cond.laysAt hfound hk Y.stack (hown' (.lays cls Bundle.tN "stackTrace" Bundle.steD) (by simp))
  obtain ⟨tyP, dP, hdP, hdnP⟩ := Cond.laysAt hfound hk Y.supp (hown' (.lays cls Bundle.tN "suppressedExceptions" Bundle.listD) (by simp))
  obtain ⟨tyM, dM, hdM, hdnM⟩ := Cond.laysAt hfound hk hffM (hown' (.lays cls Bundle.tN "detailMessage" "Ljava/lang/String;") (by simp))
  obtain ⟨tyB, dB, hdB, hdnB⟩ := Cond.laysAt hfound hk hffB (hown' (.lays cls Bundle.tN "backtrace" "Ljava/lang/Object;") (by simp))
  have bC := Cond.laysApart hdB hdC hdnB hdnC (by rw [hnB, Y.causeName]; decide)
  have bS := Cond.laysApart hdB hdS hdnB hdnS (by rw [hnB, Y.stackName]; decide)
  have bP := Cond.laysApart hdB hdP hdnB hdnP (by rw [hnB, Y.suppName]; decide)
  have hskip : SkipFacts T e.platform s (fun u => u) ⟨vU, hvU⟩ ((preparedCellV T.toThrowableT (freshCell P1.m.cls kX) a ⟨vU, hvU⟩ ⟨vN, hvN⟩).withEntry W.cur) :=
    ⟨{ ci198 := ci198, i198 := i198, fBack := fB }, ⟨hk198, hg198, ha198, hsB⟩, by
      have := fresh_default (c := P1.m.cls) tyB
      rw [htB] at this
      simpa [preparedCellV, Cell.setSlot, Cell.withEntry, Array.getElem?_setIfInBounds, bC, bS, bP, bC.symm, bS.symm, bP.symm, defaultValue] using this, fun _ _ => rfl⟩
  obtain ⟨tm, methC, cdC, kC, vm₁, hnC, -, -, -, -, -, -, -, hW₁, st1⟩ := Steps.initColdS (tb := p.tables) (e := e) (below := below) (s := s) (U := W) X.here hexec X.warmed hpl hown (t := Bundle.initS cls) rfl rfl (Bundle.fit_spec hfit).2
    hlink (hw (.instanceMethod (Bundle.initS cls)) (by simp [sm_xA, sm_xn, Bundle.chainSAtoms, Bundle.passSAtoms])) (bytes := Bundle.six) (maxL := 2) (hw (.code (Bundle.initS cls) Bundle.six 2 none) (by simp [sm_xA, sm_xn, Bundle.chainSAtoms, Bundle.passSAtoms]))
    (f := g) hg (a := a) (msg := msg) (rest := rest) hstack hd6
  cases Option.some.inj (hnC.symm.trans hP1m)
  have X₁ := X.noted hW₁
  have hl3 : (P1 :: Ps).length = 3 := by rw [List.length_cons, hlen]; rfl
  obtain ⟨vm₂, X₂, st2⟩ := X₁.ctorMessageOffV hexec (g := { g with stack := rest }) hg hsize T L Z LZ M LM (P1 :: Ps)
    (fun P hP => by rcases List.mem_cons.mp hP with rfl | hP; exact L1; exact hL P hP) ⟨hlink1, hlink'⟩ (u0 := ⟨vU, hvU⟩) (sen := ⟨vN, hvN⟩) (self := a) hmsg (cell := freshCell P1.m.cls kX) (cellS := cellS)
    hcell (fun _ => by simp) (by simp) rfl rfl hsel0 hselF hcellS hneS hknownS hu0 hsen
    (Takes.of_laid hk hord tyC (by rw [Y.causeType]; rfl)) (Takes.of_laid hk hord tyS (by rw [Y.stackType]; exact fits_refV_array _ ⟨vU, hvU⟩)) (Takes.of_laid hk hord tyP (by rw [Y.suppType]; exact fits_refV_object _ ⟨vN, hvN⟩))
    (Takes.of_laid hk hord tyM (by rw [Y.msgType]; exact fits_refV_object _ ⟨msg, hmsg⟩)) Y.objLocals hskip htr [] hd6
    (by rw [hl3]; exact hRframes) (by rw [hl3]; exact hRlocals)
  refine ⟨vm₂, _, _, X₂, fun y hy => ?_, rfl, rfl, fun target hrest => st1 _ (fun acts => ?_)⟩
  · simp only [List.mem_cons, List.not_mem_nil, or_false] at hy
    rcases hy with rfl | rfl | rfl | rfl | rfl <;> rfl
  · rw [doInvoke_state]
    exact st2 _ hrest
end SEX
