/-! ===== System.arraycopy ===== -/
theorem sm_Rep.upA {G : va_G} {B : Nat} {Hb : Heap} {U : State} {S S' : sm_S} {H H' : Heap} {a : Nat} (hR : sm_Rep G B Hb U S H) (hB : B ≤ a) (hsh : S'.1.1 = S.1.1) (hex : S'.2.2.2 = S.2.2.2)
    (hval : ∀ ty b j, b ≠ a → sm_val ty S' b j = sm_val ty S b j) (hsz : H'.size = H.size) (hot : ∀ q, q ≠ a → H'[q]? = H[q]?)
    (hO : ∀ c, S.1.1 a = some (.inl c) → sm_cO G B S' a c H') (hA : ∀ ty n, S.1.1 a = some (.inr (ty, n)) → sm_cA U B S' a ty n H') (hne : S.1.1 a ≠ none) : sm_Rep G B Hb U S' H' := by
  obtain ⟨h1, h2, h3, h4, h5, h6, h7⟩ := hR
  refine ⟨by rw [hsz, hex]; exact h1, by rw [hsz]; exact h2, h3, fun q hq => by rw [hot q (by omega)]; exact h4 q hq, fun b c hb => ?_, fun b ty n hb => ?_, fun b y hb => ?_⟩
  · rw [hsh] at hb
    by_cases e : b = a
    · subst e
      exact ⟨(h5 b c hb).1, hO c hb⟩
    · obtain ⟨g1, cell, g2, g3, g4, g5, g6, g7⟩ := h5 b c hb
      exact ⟨g1, cell, by rw [hot b e]; exact g2, g3, g4, g5, g6, fun k hk => by rw [hval _ b k e]; exact g7 k hk⟩
  · rw [hsh] at hb
    by_cases e : b = a
    · subst e
      exact hA ty n hb
    · obtain ⟨cell, g2, g3, g4, g5, g6, g7, g8⟩ := h6 b ty n hb
      exact ⟨cell, by rw [hot b e]; exact g2, g3, g4, g5, g6, g7, fun k hk => by rw [hval _ b k e]; exact g8 k hk⟩
  · rw [hex] at hb
    obtain ⟨g1, g2, cell, kC, g3, g4⟩ := h7 b y hb
    have e : b ≠ a := fun q => hne (q ▸ g2)
    exact ⟨g1, by rw [hsh]; exact g2, cell, kC, by rw [hot b e]; exact g3, g4⟩
theorem sm_toI {z : Int32} (hz : ¬ z < 0) : z.toInt = (z.toNatClampNeg : Int) := by
  have hz0 : (0 : Int) ≤ z.toInt := by
    have := Int32.not_lt.mp hz
    simpa using Int32.le_iff_toInt_le.mp this
  show z.toInt = ((z.toInt.toNat : Nat) : Int)
  omega
section SCP
variable {p : Program} {l : Launch} {e : Env} {R : Room} {s : State} {m : MethodId} {args : Array Value} {below : List Frame} {meth : Method} {c : Code} {H : Heap} {locs : List Loc} {cells slots : Nat} {Q : State → Prop}
variable {E : sm_E} {G : va_G} {B : Nat} {Hb : Heap} {S S' : sm_S} {k d idx len pc pc' : Nat} {lv st lv' st' : List Value} {ls : Array Slot}
theorem sd_copy (hX : sm_Ctx E G B Hb p e R s m meth c k d) (hR : sm_Rep G B Hb s S H) (hlo : ∀ x ∈ locs, B ≤ x.base) (hi : idx < 65536) (hls : ls.size = c.maxLocals) (hd : decode c.code pc = .ok (.invokestatic idx, len))
    (h : sm_copy B d k idx len pc lv st S = some (.inl (pc', lv', st', S'))) (kk : ∀ (H' : Heap) (locs' : List Loc), lv' = lv → sm_Rep G B Hb s S' H' → (∀ x ∈ locs', B ≤ x.base) → S'.2.2.2 = S.2.2.2 → W p l e R s m args below meth c H' locs' cells slots Q (F0 m pc' ls st')) :
    W p l e R s m args below meth c H locs cells slots Q (F0 m pc ls st) := by
  obtain ⟨hx, hb, hml, hown, hnm, hret, hlk2, hF, hhh, hfr, hlc, htr, hsb, -⟩ := hX
  unfold sm_copy at h
  split at h
  · next z n dp a sp b rest hlk =>
    split at h
    · next nb na hshb hsha =>
      split at h
      · next hc =>
        obtain ⟨rfl, hd1, hBa, hBb, hw, h1, h2, h3, h4, h5⟩ := hc
        cases h
        have w1 : (Cond.methodLink (sm_cn (sm_m k).2.1.1) idx arraycopyName).before args s = true := sm_lx (args := args) hF hi hlk
        have w2 := sm_word (args := args) hF (sm_ac_c _ List.mem_cons_self) rfl rfl
        have w3 := sm_word (args := args) hF (sm_ac_c _ (List.mem_cons_of_mem _ List.mem_cons_self)) rfl rfl
        have w4 := sm_word (args := args) hF (sm_ac_c _ (List.mem_cons_of_mem _ (List.mem_cons_of_mem _ List.mem_cons_self))) rfl rfl
        obtain ⟨cs, p1, p2, p3, p4, p5, p6, p7⟩ := hR.2.2.2.2.2.1 b .int nb hshb
        obtain ⟨cd, q1, q2, q3, q4, q5, q6, q7⟩ := hR.2.2.2.2.2.1 a .int na hsha
        obtain ⟨p8, ks, p9, scm, p10⟩ := id p2
        obtain ⟨q8, kd, q9, dcm, q10⟩ := id q2
        intro T hT X
        have hget : ∀ i, i < n.toNatClampNeg → cs.slots.getD (sp.toNatClampNeg + i) .null = .int (S.2.1 b (sp.toNatClampNeg + i)) := by
          intro i hi
          rw [Array.getD_eq_getD_getElem?, p7 _ (by omega)]
          rfl
        obtain ⟨vm', X', step⟩ := X.arraycopy hx hown w1 w2 w3 w4 (src := b) (dst := a) (cs := cs) (cd := cd) (srcPos := sp) (destPos := dp) (n := n) (by rw [hT]; exact p1) (by rw [hT]; exact q1)
          p8 q8 p3 q3 p9 q9 p10 q10 (by simp [refKind]) h1 h2 h3
          (by rw [sm_toI h1, sm_toI h3]; omega) (by rw [sm_toI h2, sm_toI h3]; omega)
          (fun vm₁ _ i hi => by
            rw [hget i hi]
            exact ⟨rfl, trivial⟩)
          (g := F0 m pc ls (.int n :: .int dp :: .ref a :: .int sp :: .ref b :: st')) rfl hls (rest := st') rfl hd (by omega) (by
            show 2 * 0 + sm_w st' + (7 + 11) ≤ R.locals
            omega)
        have hlt : a < T.heap.size := by rw [hT]; exact (Array.getElem?_eq_some_iff.mp q1).1
        have hheap : ((T.setVm vm').setCell a (copied cs cd sp dp n)).heap[a]? = some (copied cs cd sp dp n) := heapAt_setCell_self (s := T.setVm vm') _ hlt
        have hfacts := Cell.storePairs_facts cd dp.toNatClampNeg (cs.stretch sp.toNatClampNeg n.toNatClampNeg).zipIdx
        have hslen : (cs.stretch sp.toNatClampNeg n.toNatClampNeg).length = n.toNatClampNeg := by simp [Cell.stretch]
        have hcells : ∀ j, (copied cs cd sp dp n).slots[j]? = if dp.toNatClampNeg ≤ j ∧ j < dp.toNatClampNeg + n.toNatClampNeg then (cs.stretch sp.toNatClampNeg n.toNatClampNeg)[j - dp.toNatClampNeg]? else cd.slots[j]? := by
          intro j
          have := sm_pairs dp.toNatClampNeg (cs.stretch sp.toNatClampNeg n.toNatClampNeg) 0 cd (by rw [hslen]; omega) j
          rw [hslen] at this
          exact this
        obtain ⟨t, a1, b1⟩ := kk _ _ rfl (hR.upA (a := a) (H' := ((T.setVm vm').setCell a (copied cs cd sp dp n)).heap) hBa rfl rfl (fun ty b' j hne => by
            unfold sm_val
            cases ty <;> simp [hne]) (by rw [size_setCell]; show T.heap.size = H.size; rw [hT]) (fun z hz => by rw [heapAt_setCell_ne (s := T.setVm vm') _ (Ne.symm hz)]; show T.heap[z]? = H[z]?; rw [hT])
            (fun o ho => by rw [hsha] at ho; cases ho) (fun ty n' ht => by
              rw [hsha] at ht
              cases ht
              refine ⟨copied cs cd sp dp n, hheap, ⟨fun k' => by rw [show (copied cs cd sp dp n).vm = cd.vm from hfacts.2.1]; exact q8 k', kd, by rw [show (copied cs cd sp dp n).cls = cd.cls from hfacts.1]; exact q9, dcm, q10⟩, by rw [show (copied cs cd sp dp n).vm = cd.vm from hfacts.2.1]; exact q3,
                by rw [show (copied cs cd sp dp n).slots.size = cd.slots.size from hfacts.2.2.1]; exact q4, by rw [show (copied cs cd sp dp n).slots.size = cd.slots.size from hfacts.2.2.1]; exact q5, fun hb' => by rw [show (copied cs cd sp dp n).slots.size = cd.slots.size from hfacts.2.2.1]; exact q6 hb', fun j hj => ?_⟩
              rw [hcells j]
              by_cases hj2 : dp.toNatClampNeg ≤ j ∧ j < dp.toNatClampNeg + n.toNatClampNeg
              · rw [if_pos hj2]
                have hlt2 : j - dp.toNatClampNeg < n.toNatClampNeg := by omega
                rw [show (cs.stretch sp.toNatClampNeg n.toNatClampNeg)[j - dp.toNatClampNeg]? = some (cs.slots.getD (sp.toNatClampNeg + (j - dp.toNatClampNeg)) .null) by
                  unfold Cell.stretch
                  rw [List.getElem?_map, List.getElem?_range hlt2]
                  rfl]
                rw [hget _ hlt2]
                simp [sm_val, hj2]
              · rw [if_neg hj2]
                rw [q7 j hj]
                simp [sm_val, hj2]) (by rw [hsha]; exact fun z => by cases z)) (fun y hy => (List.mem_append.mp hy).elim (hlo y) (fun hz => by
              obtain ⟨z, -, hz'⟩ := List.mem_map.mp hz
              rw [← hz']
              exact hBa)) rfl _ rfl X'
        exact ⟨t, step t a1, b1⟩
      · cases h
    · cases h
  · cases h
end SCP
