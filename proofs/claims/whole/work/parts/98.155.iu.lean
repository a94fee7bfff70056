/-! ===== the start: the heap as the law finds it ===== -/
/-- an array of numbers -/
def oB (s : State) (ty : FieldType) (a n : Nat) : Prop := ∃ cell : Cell, s.heap[a]? = some cell ∧ s.isArrayOf cell ty ∧ cell.vm ≠ .unknown ∧ n ≤ cell.slots.size ∧ cell.slots.size.toInt32 = Int32.ofNat n ∧ n < 2147483648 ∧ ∀ j, j < n → ∃ x : Int32, cell.slots[j]? = some (.int x)
/-- a text -/
def oS (s : State) (G : va_G) (a : Nat) : Prop := ∃ cell : Cell, s.heap[a]? = some cell ∧ cell.cls = G.1 13 ∧ cell.vm.isStatics = false ∧ cell.vm ≠ .unknown ∧ (∃ v, cell.slots[G.2 13 0]? = some v) ∧ ∃ x : Int32, cell.slots[G.2 13 1]? = some (.int x)
def i_in (s : State) (G : va_G) (a j : Nat) : Int32 := match s.heap[a]? with
  | some ce => match ce.slots[if ce.cls = G.1 13 then G.2 13 j else j]? with
    | some (.int x) => x
    | _ => 0
  | none => 0
def i_rf (s : State) (G : va_G) (a f : Nat) : Value := match s.heap[a]? with
  | some ce => (ce.slots[G.2 13 f]?).getD .null
  | none => .null
def i_or (s : State) (G : va_G) : Prop := ∃ k : Class, s.vm.classes[G.1 13]? = some k ∧ k.kind = .ordinary
def i_P (s : State) (G : va_G) (a : Nat) (sh : Option sm_Sh) : Prop := (∀ ty n, (ty = .byte ∨ ty = .int) → oB s ty a n → sh = some (.inr (ty, n))) ∧ (oS s G a → sh = some (.inl 13)) ∧ ∀ x, sh = some x → (x = .inl 13 ∧ oS s G a) ∨ ∃ ty n, (ty = .byte ∨ ty = .int) ∧ x = .inr (ty, n) ∧ oB s ty a n
def i_S (s : State) (G : va_G) (sh : Nat → Option sm_Sh) : sm_S := ((sh, i_rf s G), i_in s G, fun _ _ => 0, fun _ => none, s.heap.size, 0)
section STA
variable {s : State} {G : va_G} {a n n' : Nat} {ty ty' : FieldType} {sh : Nat → Option sm_Sh}
theorem oB_u (h : oB s ty a n) (h' : oB s ty' a n') : ty = ty' ∧ n = n' := by
  obtain ⟨cell, h1, ⟨-, k, hk, comp, hkind⟩, -, -, h5, h6, -⟩ := h
  obtain ⟨cell', g1, ⟨-, k', gk, comp', gkind⟩, -, -, g5, g6, -⟩ := h'
  rw [h1] at g1
  cases g1
  rw [hk] at gk
  cases gk
  rw [hkind] at gkind
  cases gkind
  rw [h5] at g5
  refine ⟨rfl, ?_⟩
  have e : ni n = ni n' := g5
  rw [ni_inj h6 g6] at e
  exact e
theorem oB_c (ho : i_or s G) (h : oB s ty a n) : ∀ cell, s.heap[a]? = some cell → cell.cls ≠ G.1 13 := by
  obtain ⟨cell, h1, ⟨-, k, hk, comp, hkind⟩, -⟩ := h
  intro cell' hc e
  rw [h1] at hc
  cases hc
  obtain ⟨k', gk, gkind⟩ := ho
  rw [e, gk] at hk
  cases hk
  rw [gkind] at hkind
  cases hkind
theorem i_P_ex (ho : i_or s G) (a : Nat) : ∃ sh, i_P s G a sh := by
  by_cases h : ∃ ty n, (ty = .byte ∨ ty = .int) ∧ oB s ty a n
  · obtain ⟨ty, n, ht, hb⟩ := h
    refine ⟨some (.inr (ty, n)), fun ty' n' ht' hb' => ?_, fun hs => ?_, fun x hx => ?_⟩
    · obtain ⟨rfl, rfl⟩ := oB_u hb hb'
      rfl
    · obtain ⟨cell, h1, h2, -⟩ := hs
      exact absurd h2 (oB_c ho hb cell h1)
    · cases hx
      exact Or.inr ⟨ty, n, ht, rfl, hb⟩
  · by_cases hs : oS s G a
    · refine ⟨some (.inl 13), fun ty n ht hb => absurd ⟨ty, n, ht, hb⟩ h, fun _ => rfl, fun x hx => ?_⟩
      cases hx
      exact Or.inl ⟨rfl, hs⟩
    · exact ⟨none, fun ty n ht hb => absurd ⟨ty, n, ht, hb⟩ h, fun z => absurd z hs, fun x hx => by cases hx⟩
theorem i_in_a (ho : i_or s G) (h : oB s ty a n) {cell : Cell} (hc : s.heap[a]? = some cell) {j : Nat} {x : Int32} (hx : cell.slots[j]? = some (.int x)) : i_in s G a j = x := by
  unfold i_in
  rw [hc]
  dsimp only
  rw [if_neg (oB_c ho h cell hc), hx]
theorem i_rep (ho : i_or s G) (hP : ∀ a, i_P s G a (sh a)) : sm_Rep G s.heap.size s.heap s (i_S s G sh) s.heap := by
  refine ⟨rfl, Nat.le_refl _, rfl, fun _ _ => rfl, fun a c h => ?_, fun a ty n h => ?_, fun a y h => by cases h⟩
  · rcases (hP a).2.2 _ h with ⟨e, cell, h1, h2, h3, h4, ⟨v, h5⟩, x, h6⟩ | ⟨ty, n, -, e, -⟩
    · cases e
      refine ⟨by omega, cell, h1, h2, h3, h4, fun hb => absurd (Array.getElem?_eq_some_iff.mp h1).1 (by omega), fun k hk => ?_⟩
      have hk2 : k < 2 := hk
      rcases (show k = 0 ∨ k = 1 by omega) with rfl | rfl
      · show cell.slots[G.2 13 0]? = some (i_rf s G a 0)
        unfold i_rf
        rw [h1]
        dsimp only
        rw [h5]
        rfl
      · show cell.slots[G.2 13 1]? = some (.int (i_in s G a 1))
        unfold i_in
        rw [h1]
        dsimp only
        rw [if_pos h2, h6]
    · cases e
  · rcases (hP a).2.2 _ h with ⟨e, -⟩ | ⟨ty', n', ht, e, hb⟩
    · cases e
    · cases e
      have hb' := hb
      obtain ⟨cell, h1, h2, h3, h4, h5, h6, h7⟩ := hb'
      refine ⟨cell, h1, h2, h3, h4, h5, fun hb => absurd (Array.getElem?_eq_some_iff.mp h1).1 (by omega), fun j hj => ?_⟩
      obtain ⟨x, hx⟩ := h7 j hj
      have e : sm_val ty (i_S s G sh) a j = .int (i_in s G a j) := by rcases ht with rfl | rfl <;> rfl
      rw [e, hx, i_in_a ho hb h1 hx]
theorem oB_T {t N : Nat} {f : Nat → Int32} {A : Nat → Prop} (hN : N < 2147483648) (h : va_T ty t N (fun i => .int (f i)) A s s.heap) : oB s ty t N ∧ t < s.heap.size ∧ ∀ j, j < N → ∀ {G : va_G}, i_or s G → i_in s G t j = f j := by
  obtain ⟨cell, h1, h2, h3, h4, h5, h6, h7⟩ := h
  have hb : oB s ty t N := ⟨cell, h1, h2, h3, h4, h5, hN, fun j hj => ⟨_, h6 j hj⟩⟩
  exact ⟨hb, (Array.getElem?_eq_some_iff.mp h1).1, fun j hj G ho => i_in_a ho hb h1 (h6 j hj)⟩
theorem i_fit (hf : heapFits s = true) {cell : Cell} {i : Nat} {v : Value} (hc : s.heap[a]? = some cell) (hv : cell.slots[i]? = some v) : s.fitsSlot cell.cls cell.vm i v = true := by
  obtain ⟨ha, rfl⟩ := Array.getElem?_eq_some_iff.mp hc
  have h1 := (Array.all_eq_true_iff_forall_mem.mp hf) _ (Array.getElem_mem ha)
  have hi : i < (s.heap[a]).slots.size := (Array.getElem?_eq_some_iff.mp hv).1
  have h2 := (List.all_eq_true.mp h1) i (List.mem_range.mpr hi)
  simpa [hv] using h2
theorem i_np {vm : Vm} {name : String} {c : ClassId} {k : Class} (h : vm.findClass name = some c) (hk : vm.classes[c]? = some k) {ch : Char} : k.kind ≠ .primitive ch := by
  obtain ⟨hlt, hp, -⟩ := Array.findIdx?_eq_some_iff_getElem.mp h
  have e : vm.classes[c] = k := by simpa [hlt] using hk
  rw [e] at hp
  intro hq
  simp [hq] at hp
theorem i_st {s : State} {cls : ClassId} {d : VmData} {i : Nat} {k : Class} {comp : ClassId} {t : FieldType} (hd : d.isStatics = false) (hk : s.vm.classes[cls]? = some k) (hkind : k.kind = .array comp t) : s.slotType? cls d i = some t := by
  unfold State.slotType?
  rw [hk]
  cases d <;> first | (cases hd; done) | (simp [hkind])
/-- the class of texts is an ordinary one: its fields hold a reference and a number -/
theorem i_ord (hf : heapFits s = true) {w : Nat} {A : Nat → Prop} (hO : va_O "java/lang/String" a A s s.heap) (hc : va_OF "java/lang/String" "coder" "B" (.int 0) a A s s.heap) (hv : va_OF "java/lang/String" "value" "[B" (.ref w) a A s s.heap) : ∃ c k, s.vm.findClass "java/lang/String" = some c ∧ s.vm.classes[c]? = some k ∧ k.kind = .ordinary := by
  obtain ⟨cell, h1, h2, h3, -⟩ := hO
  obtain ⟨cf, k1, i1, f1, cell1, g1, g2, g3, g4, g5, -⟩ := hc
  obtain ⟨cf2, k2, i2, f2, cell2, e1, e2, e3, e4, e5, -⟩ := hv
  rw [h1] at g3 e3
  cases g3
  cases e3
  have q1 := i_fit hf h1 g5
  have q2 := i_fit hf h1 e5
  obtain ⟨k, hk, -⟩ := Vm.findClass_spec h3
  refine ⟨cell.cls, k, h3, hk, ?_⟩
  cases hkind : k.kind with
  | ordinary => rfl
  | primitive ch => exact absurd hkind (i_np h3 hk)
  | array comp t =>
    exfalso
    unfold State.fitsSlot at q1 q2
    rw [i_st h2 hk hkind] at q1 q2
    dsimp only at q1 q2
    cases t <;> first | (cases q2; done) | (cases q1; done)
end STA
