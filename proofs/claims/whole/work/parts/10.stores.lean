/-! ===== soundness of stores and of what makes cells ===== -/
theorem sm_slot (cell : Cell) {i : Nat} (v : Value) (j : Nat) (hi : i < cell.slots.size) : (cell.setSlot i v).slots[j]? = if j = i then some v else cell.slots[j]? := by
  by_cases h : j = i
  · subst h
    rw [if_pos rfl]
    simp [Cell.setSlot, Array.getElem?_setIfInBounds, hi]
  · rw [if_neg h]
    exact slot_ne cell v (fun q => h q.symm)
theorem sm_in_lt {cell : Cell} {j : Int32} {n : Nat} (h1 : n ≤ cell.slots.size) (h2 : ¬ (j < 0 ∨ n ≤ j.toNatClampNeg)) : j.toNatClampNeg < n := Nat.lt_of_not_le fun w => h2 (Or.inr w)
section SDS
variable {p : Program} {l : Launch} {e : Env} {R : Room} {s : State} {m : MethodId} {args : Array Value} {below : List Frame} {meth : Method} {c : Code} {H : Heap} {locs : List Loc} {cells slots : Nat} {Q : State → Prop} {cc : ByteArray}
variable {E : sm_E} {G : va_G} {B : Nat} {Hb : Heap} {S S' : sm_S} {k idx len pc pc' : Nat} {lv st lv' st' : List Value} {ls : Array Slot}
theorem sm_locs (hlo : ∀ x ∈ locs, B ≤ x.base) {a i : Nat} (ha : B ≤ a) : ∀ x ∈ locs ++ [⟨a, i⟩], B ≤ x.base := by
  intro x hx
  rcases List.mem_append.mp hx with h | h
  · exact hlo x h
  · rw [List.mem_singleton] at h
    subst h
    exact ha
/-- an element of an array of ints, bytes or booleans is written -/
theorem sm_Rep.elemI (hR : sm_Rep G B Hb s S H) {a n i : Nat} {ty : FieldType} {y : Int32} {H' : Heap} {cell : Cell} (hB : B ≤ a) (hsh : S.1.1 a = some (.inr (ty, n))) (hty : ty = .int ∨ ty = .byte ∨ ty = .boolean) (hi : i < n) (hc : H[a]? = some cell)
    (h1 : H'[a]? = some (cell.setSlot i (.int y))) (h2 : H'.size = H.size) (h3 : ∀ q, q ≠ a → H'[q]? = H[q]?) : sm_Rep G B Hb s (sm_putI S a i y) H' := by
  refine hR.put (i := i) hB rfl rfl (fun t b j hne => sm_val_putI t S a i y b j hne) h2 h3 (fun o ho => by rw [hsh] at ho; cases ho) (fun t n' ht => ?_) (by rw [hsh]; exact fun z => by cases z)
  rw [hsh] at ht
  cases ht
  obtain ⟨cell', q1, q2, q3, q4, q5, q6, q7⟩ := hR.2.2.2.2.2.1 a ty n hsh
  cases hc.symm.trans q1
  refine ⟨cell.setSlot i (.int y), h1, q2, q3, by rw [k2_slotsz]; exact q4, by rw [k2_slotsz]; exact q5, fun hb => by rw [k2_slotsz]; exact q6 hb, fun j hj => ?_⟩
  rw [sm_slot cell _ _ (Nat.lt_of_lt_of_le hi q4)]
  by_cases hj2 : j = i
  · subst hj2
    rw [if_pos rfl]
    rcases hty with rfl | rfl | rfl <;> simp [sm_val, sm_putI, sm_up_self]
  · rw [if_neg hj2, sm_val_putI ty S a i y a j (fun z => hj2 z.2)]
    exact q7 j hj
theorem sm_Rep.elemJ (hR : sm_Rep G B Hb s S H) {a n i : Nat} {y : Int64} {H' : Heap} {cell : Cell} (hB : B ≤ a) (hsh : S.1.1 a = some (.inr (.long, n))) (hi : i < n) (hc : H[a]? = some cell)
    (h1 : H'[a]? = some (cell.setSlot i (.long y))) (h2 : H'.size = H.size) (h3 : ∀ q, q ≠ a → H'[q]? = H[q]?) : sm_Rep G B Hb s (sm_putJ S a i y) H' := by
  refine hR.put (i := i) hB rfl rfl (fun t b j hne => sm_val_putJ t S a i y b j hne) h2 h3 (fun o ho => by rw [hsh] at ho; cases ho) (fun t n' ht => ?_) (by rw [hsh]; exact fun z => by cases z)
  rw [hsh] at ht
  cases ht
  obtain ⟨cell', q1, q2, q3, q4, q5, q6, q7⟩ := hR.2.2.2.2.2.1 a .long n hsh
  cases hc.symm.trans q1
  refine ⟨cell.setSlot i (.long y), h1, q2, q3, by rw [k2_slotsz]; exact q4, by rw [k2_slotsz]; exact q5, fun hb => by rw [k2_slotsz]; exact q6 hb, fun j hj => ?_⟩
  rw [sm_slot cell _ _ (Nat.lt_of_lt_of_le hi q4)]
  by_cases hj2 : j = i
  · subst hj2
    rw [if_pos rfl]
    simp [sm_val, sm_putJ, sm_up_self]
  · rw [if_neg hj2, sm_val_putJ .long S a i y a j (fun z => hj2 z.2)]
    exact q7 j hj
theorem sd_asti (hx : p.tables.exec = Jvm.exec) (hb : c.code = cc) (hR : sm_Rep G B Hb s S H) (hlo : ∀ x ∈ locs, B ≤ x.base) {tys : List FieldType} {i : Instr} (hi : (i = .iastore ∧ tys = [.int]) ∨ (i = .bastore ∧ tys = [.byte, .boolean])) (hd : decode cc pc = .ok (i, len))
    (h : sm_asti B tys len pc lv st S = some (.inl (pc', lv', st', S'))) (kk : ∀ (H' : Heap) (locs' : List Loc), lv' = lv → sm_Rep G B Hb s S' H' → (∀ x ∈ locs', B ≤ x.base) → S'.2.2.2 = S.2.2.2 → W p l e R s m args below meth c H' locs' cells slots Q (F0 m pc' ls st')) :
    W p l e R s m args below meth c H locs cells slots Q (F0 m pc ls st) := by
  unfold sm_asti at h
  split at h
  · next x j a r =>
    split at h
    · next ty n hsh =>
      split at h
      · next hc =>
        obtain ⟨rfl, hty, hB, hin⟩ := hc
        cases h
        have hin := sm_in_b_of hin
        obtain ⟨cell, q1, q2, q3, q4, q5, q6, q7⟩ := hR.2.2.2.2.2.1 a ty n hsh
        have hin2 : ¬ (j < 0 ∨ cell.slots.size ≤ j.toNatClampNeg) := fun z => hin (z.imp id (fun w => Nat.le_trans q4 w))
        have hj := sm_in_lt q4 hin
        rcases hi with ⟨rfl, rfl⟩ | ⟨rfl, rfl⟩
        · obtain rfl := List.mem_singleton.mp hty
          exact W.iast hx hb q1 q2 q3 hin2 rfl rfl hd (fun H' g1 g2 g3 => kk H' _ rfl (hR.elemI hB hsh (Or.inl rfl) hj q1 g1 g2 g3) (sm_locs hlo hB) rfl)
        · rcases List.mem_cons.mp hty with rfl | hty
          · exact W.bast hx hb q1 q2 q3 hin2 rfl rfl hd (fun H' g1 g2 g3 => kk H' _ rfl (hR.elemI hB hsh (Or.inr (Or.inl rfl)) hj q1 g1 g2 g3) (sm_locs hlo hB) rfl)
          · obtain rfl := List.mem_singleton.mp hty
            exact W.zast hx hb q1 q2 q3 hin2 rfl rfl hd (fun H' g1 g2 g3 => kk H' _ rfl (hR.elemI hB hsh (Or.inr (Or.inr rfl)) hj q1 g1 g2 g3) (sm_locs hlo hB) rfl)
      · cases h
    · cases h
  · cases h
theorem sd_astj (hx : p.tables.exec = Jvm.exec) (hb : c.code = cc) (hR : sm_Rep G B Hb s S H) (hlo : ∀ x ∈ locs, B ≤ x.base) (hd : decode cc pc = .ok (.lastore, len))
    (h : sm_astj B len pc lv st S = some (.inl (pc', lv', st', S'))) (kk : ∀ (H' : Heap) (locs' : List Loc), lv' = lv → sm_Rep G B Hb s S' H' → (∀ x ∈ locs', B ≤ x.base) → S'.2.2.2 = S.2.2.2 → W p l e R s m args below meth c H' locs' cells slots Q (F0 m pc' ls st')) :
    W p l e R s m args below meth c H locs cells slots Q (F0 m pc ls st) := by
  unfold sm_astj at h
  split at h
  · next x j a r =>
    split at h
    · next ty n hsh =>
      split at h
      · next hc =>
        obtain ⟨rfl, rfl, hB, hin⟩ := hc
        cases h
        have hin := sm_in_b_of hin
        obtain ⟨cell, q1, q2, q3, q4, q5, q6, q7⟩ := hR.2.2.2.2.2.1 a .long n hsh
        have hin2 : ¬ (j < 0 ∨ cell.slots.size ≤ j.toNatClampNeg) := fun z => hin (z.imp id (fun w => Nat.le_trans q4 w))
        exact W.last hx hb q1 q2 q3 hin2 rfl rfl hd (fun H' g1 g2 g3 => kk H' _ rfl (hR.elemJ hB hsh (sm_in_lt q4 hin) q1 g1 g2 g3) (sm_locs hlo hB) rfl)
      · cases h
    · cases h
  · cases h
/-- a field of an object is written -/
theorem sm_Rep.fieldW (hR : sm_Rep G B Hb s S H) (hF : sm_Fix E G B Hb s) {a o f : Nat} {v : Value} {H' : Heap} {cell : Cell} (hB : B ≤ a) (ho : o < 13) (hf : f < sm_nf o) (hsh : S.1.1 a = some (.inl o)) (hc : H[a]? = some cell)
    (e1 : S'.1.1 = S.1.1) (e2 : S'.2.2.2 = S.2.2.2) (e3 : ∀ ty b j, ¬ (b = a ∧ j = f) → sm_val ty S' b j = sm_val ty S b j) (e4 : sm_val (sm_ty o f) S' a f = v)
    (h1 : H'[a]? = some (cell.setSlot (G.2 o f) v)) (h2 : H'.size = H.size) (h3 : ∀ q, q ≠ a → H'[q]? = H[q]?) : sm_Rep G B Hb s S' H' := by
  refine hR.put (i := f) hB e1 e2 e3 h2 h3 (fun o' ho' => ?_) (fun t n' ht => by rw [hsh] at ht; cases ht) (by rw [hsh]; exact fun z => by cases z)
  rw [hsh] at ho'
  cases ho'
  have hap := va_apart (own := "") (sm_uts (args := #[]) hF ho) (fun _ h => h) (sm_ty o) (sm_tyok o (by omega)) (sm_nmok o ho) hF.2.1 (sm_vc_at (c := o) (by omega))
  obtain ⟨-, cell', q1, q2, q3, q4, q5, q6⟩ := hR.2.2.2.2.1 a o hsh
  cases hc.symm.trans q1
  refine ⟨cell.setSlot (G.2 o f) v, h1, q2, q3, q4, q5, fun j hj => ?_⟩
  have hlt : G.2 o f < cell.slots.size := k2_hasslot (q6 f hf)
  rw [sm_slot cell _ _ hlt]
  by_cases hj2 : j = f
  · subst hj2
    rw [if_pos rfl, e4]
  · rw [if_neg (hap j f hj hf hj2), e3 _ a j (fun z => hj2 z.2)]
    exact q6 j hj
theorem sm_lay_i {q : Bool} {ty : FieldType} {f a : Nat} {v : Value} (h : sm_lay q ty S a f v = some S') :
    narrow ty v = v ∧ fits ty v = true ∧ S'.1.1 = S.1.1 ∧ S'.2.2.2 = S.2.2.2 ∧ (∀ ty b j, ¬ (b = a ∧ j = f) → sm_val ty S' b j = sm_val ty S b j) ∧ sm_val ty S' a f = v := by
  unfold sm_lay at h
  split at h
  · next x =>
    cases h
    exact ⟨rfl, rfl, rfl, rfl, fun ty b j hne => sm_val_putI ty S a f x b j hne, by simp [sm_val, sm_putI, sm_up_self]⟩
  · next x =>
    split at h
    · next hx =>
      cases h
      refine ⟨?_, ?_, rfl, rfl, fun ty b j hne => sm_val_putI ty S a f x b j hne, by simp [sm_val, sm_putI, sm_up_self]⟩
      · rcases hx with rfl | rfl <;> rfl
      · rcases hx with rfl | rfl <;> rfl
    · cases h
  · next x =>
    cases h
    exact ⟨rfl, rfl, rfl, rfl, fun ty b j hne => sm_val_putJ ty S a f x b j hne, by simp [sm_val, sm_putJ, sm_up_self]⟩
  · split at h
    · cases h
    · cases h
      exact ⟨rfl, rfl, rfl, rfl, fun ty b j hne => sm_val_putR ty S a f _ b j hne, by simp [sm_val, sm_putR, sm_up_self]⟩
  · split at h
    · cases h
    · cases h
      exact ⟨rfl, rfl, rfl, rfl, fun ty b j hne => sm_val_putR ty S a f _ b j hne, by simp [sm_val, sm_putR, sm_up_self]⟩
  · cases h
theorem sd_putf {q : Bool} (hx : p.tables.exec = Jvm.exec) (hb : c.code = cc) (hown : s.vm.findClass (sm_cn (sm_m k).2.1.1) = some m.cls) (hnm : meth.name = (sm_m k).1.1.name) (hF : sm_Fix E G B Hb s) (hR : sm_Rep G B Hb s S H) (hlo : ∀ x ∈ locs, B ≤ x.base) (hi : idx < 65536) (hd : decode cc pc = .ok (.putfield idx, len))
    (h : sm_putf B q k idx len pc lv st S = some (.inl (pc', lv', st', S'))) (kk : ∀ (H' : Heap) (locs' : List Loc), lv' = lv → sm_Rep G B Hb s S' H' → (∀ x ∈ locs', B ≤ x.base) → S'.2.2.2 = S.2.2.2 → W p l e R s m args below meth c H' locs' cells slots Q (F0 m pc' ls st')) :
    W p l e R s m args below meth c H locs cells slots Q (F0 m pc ls st) := by
  unfold sm_putf at h
  split at h
  · next v a r o f hlk =>
    split at h
    · next hc =>
      obtain ⟨rfl, ho, hf, hB, hsh, hfin⟩ := hc
      split at h
      · next S1 hS1 =>
        cases h
        obtain ⟨n1, n2, n3, n4, n5, n6⟩ := sm_lay_i hS1
        obtain ⟨hm, e1, e2⟩ := sm_own_of hi hlk
        have hw := sm_word (args := args) hF (sm_F_ok _ hm) rfl rfl
        unfold sm_F_w at hw
        simp only [e1, e2] at hw
        obtain ⟨cf, kf, fi, fd, g1, g2, g3⟩ := sm_fd hF (by omega) hf
        have hT1 := sm_T1 o (by omega) f hf
        obtain ⟨hfc, kC, hkC, hkind⟩ := (hF.2.1.1 o _ (sm_vc_at (c := o) (by omega))).2
        have hlays := u_lays (sm_uts (args := args) hF ho) (fun _ h => h) hf
        have hty := sm_tyok o (by omega) f hf
        have g1' : s.fieldFound? (sm_T o f).1 (sm_T o f).2.1 (sm_T o f).2.2.1 = some (cf, kf, fi, fd) := by rw [hT1]; exact g1
        obtain ⟨f1, f2⟩ := u_fits hfc hkC hkind hlays g1' hty n1 n2
        obtain ⟨-, cell, q1, q2, q3, q4, q5, q6⟩ := hR.2.2.2.2.1 a o hsh
        have hvm := q5 hB
        have hfin' : hasFlag fd.accessFlags Acc.final = false ∨ (m.cls = cf ∧ meth.name = "<init>") := by
          rcases hfin with hz | ⟨hz1, hz2⟩
          · have hlay := sm_uts (args := args) hF ho _ (u_in_lay hf)
            unfold u_lay at hlay
            rw [if_neg (by rw [hz]; decide)] at hlay
            exact Or.inl (u_store hfc hkC hkind hlay g1' hty n1 n2).1
          · by_cases hz : (sm_T o f).2.2.2 = true
            · have hlay := sm_uts (args := args) hF ho _ (u_in_lay hf)
              unfold u_lay at hlay
              rw [if_pos hz, hT1] at hlay
              refine Or.inr ⟨?_, by rw [hnm]; exact hz2⟩
              rw [← hz1] at hlay g1
              exact laid_decl hown hlay g1
            · have hlay := sm_uts (args := args) hF ho _ (u_in_lay hf)
              unfold u_lay at hlay
              rw [if_neg hz] at hlay
              exact Or.inl (u_store hfc hkC hkind hlay g1' hty n1 n2).1
        have ha : a < H.size := (Array.getElem?_eq_some_iff.mp q1).1
        refine W.putf hx hb hown hw g1 g3 hfin' q1 q4 (by rw [g2]; exact k2_hasslot (q6 f hf)) f1 (by rw [hvm, q2]; exact f2) rfl rfl hd ?_
        refine kk _ _ rfl (hR.fieldW hF (v := v) (cell := cell) hB ho hf hsh q1 n3 n4 n5 n6 ?_ ?_ ?_) (sm_locs hlo hB) n4
        · rw [g2]
          simp [Array.getElem?_setIfInBounds, ha]
        · simp
        · intro z hz
          simp [Array.getElem?_setIfInBounds, Ne.symm hz]
      · cases h
    · cases h
  · cases h
end SDS
