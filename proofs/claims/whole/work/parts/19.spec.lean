/-! ===== constructors of Object and of exceptions; System.arraycopy ===== -/
set_option maxRecDepth 100000 in
theorem sm_oi_c : sm_in [.instanceMethod Lib.objectInit, .code Lib.objectInit ⟨#[0xb1]⟩ 1 none] := sm_in_ch [(1, 34), (1, 35)] rfl
set_option maxRecDepth 100000 in
theorem sm_ac_c : sm_in [.native arraycopyName, .static arraycopyName, .initialized "java/lang/System"] := sm_in_ch [(6, 119), (6, 118), (1, 27)] rfl
theorem sm_pairs (at_ : Nat) : ∀ (xs : List Value) (i : Nat) (cd : Cell), at_ + i + xs.length ≤ cd.slots.size → ∀ k, (cd.storePairs at_ (xs.zipIdx i)).slots[k]? = if at_ + i ≤ k ∧ k < at_ + i + xs.length then xs[k - (at_ + i)]? else cd.slots[k]?
  | [], i, cd, _, k => by
    rw [if_neg (by simp only [List.length_nil]; omega)]
    rfl
  | x :: xs, i, cd, h, k => by
    rw [List.length_cons] at h
    rw [List.zipIdx_cons]
    show ((cd.setSlot (at_ + i) x).storePairs at_ (xs.zipIdx (i + 1))).slots[k]? = _
    rw [sm_pairs at_ xs (i + 1) (cd.setSlot (at_ + i) x) (by rw [k2_slotsz]; omega) k]
    by_cases hk : k = at_ + i
    · subst hk
      rw [if_neg (by omega), if_pos (by simp only [List.length_cons]; omega), sm_slot cd x _ (by omega), if_pos rfl]
      simp
    · by_cases h2 : at_ + (i + 1) ≤ k ∧ k < at_ + (i + 1) + xs.length
      · rw [if_pos h2, if_pos (by simp only [List.length_cons]; omega)]
        have e : k - (at_ + i) = (k - (at_ + (i + 1))) + 1 := by omega
        rw [e, List.getElem?_cons_succ]
      · rw [if_neg h2, if_neg (by simp only [List.length_cons]; omega), sm_slot cd x k (by omega), if_neg hk]
section SSP
variable {p : Program} {l : Launch} {e : Env} {R : Room} {s : State} {m : MethodId} {args : Array Value} {below : List Frame} {meth : Method} {c : Code} {H : Heap} {locs : List Loc} {cells slots : Nat} {Q : State → Prop}
variable {E : sm_E} {G : va_G} {B : Nat} {Hb : Heap} {S S' : sm_S} {k d idx len pc pc' : Nat} {lv st lv' st' : List Value} {ls : Array Slot} {call : sm_F'}
theorem sm_lx (hF : sm_Fix E G B Hb s) (hi : idx < 65536) {a b : Nat} (hlk : sm_look sm_LX (sm_key k idx) = some (a, b)) : (Cond.methodLink (sm_cn (sm_m k).2.1.1) idx (sm_LX_y (sm_key k idx, a, b))).before args s = true := by
  obtain ⟨hm, e1, e2⟩ := sm_own_of hi hlk
  have hw := sm_word (args := args) hF (sm_LX_ok _ hm) rfl rfl
  unfold sm_LX_w at hw
  simp only [e1, e2] at hw
  exact hw
theorem sd_oinit (hX : sm_Ctx E G B Hb p e R s m meth c k d) (hi : idx < 65536) {a b : Nat} {rest : List Value} (hlk : sm_look sm_LX (sm_key k idx) = some (0, b)) (hls : ls.size = c.maxLocals) (hd1 : 1 ≤ d) (hw : sm_w rest ≤ 8) (hd : decode c.code pc = .ok (.invokespecial idx, 3))
    (kk : W p l e R s m args below meth c H locs cells slots Q (F0 m (pc + 3) ls rest)) : W p l e R s m args below meth c H locs cells slots Q (F0 m pc ls (.ref a :: rest)) := by
  obtain ⟨hx, hb, hml, hown, hnm, hret, hlk2, hF, hhh, hfr, hlc, -, -, -⟩ := hX
  have w1 := sm_lx (args := args) hF hi hlk
  have w2 := sm_word (args := args) hF (sm_oi_c _ List.mem_cons_self) rfl rfl
  have w3 := sm_word (args := args) hF (sm_oi_c _ (List.mem_cons_of_mem _ List.mem_cons_self)) rfl rfl
  exact W.objInit hx rfl hown w1 w2 w3 rfl hls rfl hd (by omega) (by show 2 * 0 + sm_w rest + 12 ≤ R.locals; omega) kk
/-- a thrown object's constructor has run -/
theorem sm_Rep.inited (hR : sm_Rep G B Hb s S H) {a x : Nat} {cell' : Cell} {H' : Heap} (hex : S.2.2.2.1 a = some (2 * x)) (h1 : H'[a]? = some cell') (h2 : H'.size = H.size) (h3 : ∀ q, q ≠ a → H'[q]? = H[q]?) (hc : ∃ cell, H[a]? = some cell ∧ cell'.cls = cell.cls) (hv : cell'.vm = .none) :
    sm_Rep G B Hb s (S.1, S.2.1, S.2.2.1, (fun b => if b = a then some (2 * x + 1) else S.2.2.2.1 b), S.2.2.2.2) H' := by
  obtain ⟨g1, g2, g3, g4, g5, g6, g7⟩ := hR
  obtain ⟨hB, hsh, cell, kC, q1, q2, q3, q4, -⟩ := g7 a _ hex
  obtain ⟨cell0, hc1, hc2⟩ := hc
  cases q1.symm.trans hc1
  refine ⟨by rw [h2]; exact g1, by rw [h2]; exact g2, g3, fun q hq => by rw [h3 q (by omega)]; exact g4 q hq, fun b o hb => ?_, fun b ty n hb => ?_, fun b y hb => ?_⟩
  · have e : b ≠ a := fun z => by subst z; rw [hsh] at hb; cases hb
    obtain ⟨r0, cl, r1, r2⟩ := g5 b o hb
    exact ⟨r0, cl, by rw [h3 b e]; exact r1, r2⟩
  · have e : b ≠ a := fun z => by subst z; rw [hsh] at hb; cases hb
    obtain ⟨cl, r1, r2⟩ := g6 b ty n hb
    exact ⟨cl, by rw [h3 b e]; exact r1, r2⟩
  · by_cases e : b = a
    · subst e
      have e1 : (if b = b then some (2 * x + 1) else S.2.2.2.1 b) = some y := hb
      rw [if_pos rfl] at e1
      cases e1
      have d1 : (2 * x + 1) / 2 = x := by omega
      have d2 : 2 * x / 2 = x := by omega
      rw [d2] at q2
      exact ⟨hB, hsh, cell', kC, h1, by rw [d1, hc2]; exact q2, by rw [hc2]; exact q3, hv, fun z => by omega⟩
    · have e1 : (if b = a then some (2 * x + 1) else S.2.2.2.1 b) = some y := hb
      rw [if_neg e] at e1
      obtain ⟨r1, r2, cl, kc, r3, r4⟩ := g7 b y e1
      exact ⟨r1, r2, cl, kc, by rw [h3 b e]; exact r3, r4⟩
theorem sd_xinit (hX : sm_Ctx E G B Hb p e R s m meth c k d) (hR : sm_Rep G B Hb s S H) (hlo : ∀ x ∈ locs, B ≤ x.base) (hi : idx < 65536) {a t x : Nat} {rest : List Value} (hlk : sm_look sm_LX (sm_key k idx) = some (2, x)) (hls : ls.size = c.maxLocals) (hd6 : 6 ≤ d) (hw : sm_w rest ≤ 8) (hex : S.2.2.2.1 a = some (2 * x)) (hd : decode c.code pc = .ok (.invokespecial idx, 3))
    (kk : ∀ (H' : Heap) (locs' : List Loc), sm_Rep G B Hb s (S.1, S.2.1, S.2.2.1, (fun b => if b = a then some (2 * x + 1) else S.2.2.2.1 b), S.2.2.2.2) H' → (∀ y ∈ locs', B ≤ y.base) → W p l e R s m args below meth c H' locs' cells slots Q (F0 m (pc + 3) ls rest)) :
    W p l e R s m args below meth c H locs cells slots Q (F0 m pc ls (.ref t :: .ref a :: rest)) := by
  obtain ⟨hx, hb, hml, hown, hnm, hret, hlk2, hF, hhh, hfr, hlc, htr, hsb, -⟩ := hX
  have hx3 : x < 3 := by
    have h1 : ∀ q ∈ sm_LX, q.2.1 = 2 → q.2.2 < 3 := by decide +kernel
    exact h1 _ (sm_look_mem hlk) rfl
  have w1 : (Cond.methodLink (sm_cn (sm_m k).2.1.1) idx ⟨sm_xs.getD x "", "<init>", "(Ljava/lang/String;)V"⟩).before args s = true := sm_lx (args := args) hF hi hlk
  intro T hT X
  have hRT : sm_Rep G B Hb s S T.heap := by rw [hT]; exact hR
  obtain ⟨hB, hsh, cell, kC, q1, q2, q3, q4, q5⟩ := hRT.2.2.2.2.2.2 a _ hex
  have d2 : 2 * x / 2 = x := by omega
  rw [d2] at q2
  have hbl := q5 (by omega)
  have hcell : T.heap[a]? = some (freshCell cell.cls kC) := by
    rw [q1, hbl]
    rfl
  obtain ⟨vm', cell', L, X', hL, hc1, hc2, hst⟩ := sm_exCtor X hx htr hF hsb hRT hx3 hown w1 q2 q3 hcell hB (msg := .ref t) rfl (g := F0 m pc ls (.ref t :: .ref a :: rest)) rfl hls (rest := rest) rfl hd (by omega) (by show 2 * 0 + sm_w rest + 81 ≤ R.locals; omega)
  have hlt : a < T.heap.size := (Array.getElem?_eq_some_iff.mp q1).1
  have hheap : ((T.setVm vm').setCell a cell').heap[a]? = some cell' := heapAt_setCell_self (s := T.setVm vm') cell' hlt
  obtain ⟨t2, a1, b1⟩ := kk ((T.setVm vm').setCell a cell').heap _ (hRT.inited hex hheap (by rw [size_setCell]; rfl) (fun z hz => heapAt_setCell_ne (s := T.setVm vm') cell' (Ne.symm hz)) ⟨cell, q1, hc1⟩ hc2)
    (fun y hy => (List.mem_append.mp hy).elim (hlo y) (fun h => by rw [hL y h]; exact hB)) _ rfl X'
  exact ⟨t2, hst _ a1, b1⟩
end SSP
