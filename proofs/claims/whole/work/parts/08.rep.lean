/-! ===== the small machine's state beside the real heap ===== -/
/-- words that warmer tables keep -/
def sm_good (w : Cond) : Bool := goodWord w || match w with
  | .methodLinkNest .. => true
  | .fieldLinkNest .. => true
  | .castable .. => true
  | .declares .. => true
  | _ => false
def sm_vc : List vw_C := (List.range 14).map (fun c => (sm_cn c, sm_T c, sm_nf c))
theorem sm_vc_at {c : Nat} (hc : c < 14) : sm_vc[c]? = some (sm_cn c, sm_T c, sm_nf c) := by
  unfold sm_vc
  rw [List.getElem?_map, List.getElem?_range hc]
  rfl
/-- a field that is no static one -/
def sm_NS (C f d : String) (U : State) : Prop := ∃ cf kf fi fd, U.fieldFound? C f d = some (cf, kf, fi, fd) ∧ fd.isStatic = false
theorem sm_NS.moved {u U : State} {C f d : String} (hvm : u.vm.Alike U.vm) (h : sm_NS C f d u) : sm_NS C f d U := by
  obtain ⟨cf, kf, fi, fd, hi, hs⟩ := h
  obtain ⟨kf', hi', -⟩ := State.fieldFound?_setVm (s := u) hvm hi
  exact ⟨cf, kf', fi, fd, by simpa only [State.fieldFound?, State.vm_setVm] using hi', hs⟩
/-- a static that holds a reference or null -/
def sm_Zq (C n d : String) (B : Nat) (U : State) (Hb : Heap) : Prop := ∃ v : Value, v.isRef = true ∧ va_Z C n d v (fun a => B ≤ a) U Hb
theorem sm_Zq.moved {C n d : String} {B : Nat} {u U : State} {Hb : Heap} (hvm : u.vm.Alike U.vm) (h : sm_Zq C n d B u Hb) : sm_Zq C n d B U Hb := by
  obtain ⟨v, h1, h2⟩ := h
  exact ⟨v, h1, h2.moved hvm⟩
/-- what 'laysStatic' says, of the heap that stays -/
def sm_LS (O f d : String) (B : Nat) (U : State) (Hb : Heap) : Prop := ∃ (c : ClassId) (k : Class) (i : Nat) (fd : Field) (a : Nat) (cell : Cell), U.vm.findClass O = some c ∧ U.fieldFound? O f d = some (c, k, i, fd) ∧ fd.isStatic = true ∧ k.statics = some a ∧ Hb[a]? = some cell ∧ cell.vm.isStatics = true ∧ cell.cls = c ∧ fd.slot < cell.slots.size ∧ k.staticTypes[fd.slot]? = some fd.type ∧ a < B
theorem sm_LS.moved {O f d : String} {B : Nat} {u U : State} {Hb : Heap} (hvm : u.vm.Alike U.vm) (h : sm_LS O f d B u Hb) : sm_LS O f d B U Hb := by
  obtain ⟨c, k, i, fd, a, cell, h1, h2, h3, h4, h5, h6, h7, h8, h9, h10⟩ := h
  obtain ⟨k', hi', he⟩ := State.fieldFound?_setVm (s := u) hvm h2
  refine ⟨c, k', i, fd, a, cell, by rw [hvm.findClass]; exact h1, by simpa only [State.fieldFound?, State.vm_setVm] using hi', h3, by rw [he]; exact h4, h5, h6, h7, h8, by rw [he]; exact h9, h10⟩
theorem sm_LS.word {O f d : String} {B : Nat} {U : State} {Hb : Heap} {A : Array Value} (h : sm_LS O f d B U Hb) (hb : ∀ q, q < B → U.heap[q]? = Hb[q]?) : (Cond.laysStatic O f d).before A U = true := by
  obtain ⟨c, k, i, fd, a, cell, h1, h2, h3, h4, h5, h6, h7, h8, h9, h10⟩ := h
  have h5' : U.heap[a]? = some cell := by rw [hb a h10]; exact h5
  simp [Cond.before, Cond.holds, Cond.value, h1, h2, h3, h4, h5', h6, h7, h8, h9]
/-- what the tables say, and what the heap with which the law began holds for good -/
def sm_Fix (E : sm_E) (G : va_G) (B : Nat) (Hb : Heap) (U : State) : Prop :=
  (∀ w ∈ lw_tbl, sm_good w = true → w.before #[] U = true) ∧ va_K G sm_vc [] U ∧
  (∀ q ∈ sm_CS, vk_R (sm_own q.1) (q.1 % 65536) (sm_tx.getD q.2 "") (E.1 q.2) U) ∧
  va_Z "java/lang/String" "COMPACT_STRINGS" "Z" (.int 1) (fun a => B ≤ a) U Hb ∧
  va_Z "jdk/internal/util/Preconditions" "SIOOBE_FORMATTER" "Ljava/util/function/BiFunction;" E.2 (fun a => B ≤ a) U Hb ∧
  va_Z "MessageTree" "MONTH_DAYS" "[I" (.ref (E.1 71)) (fun a => B ≤ a) U Hb ∧
  (∀ k, k < 2 → sm_NS (sm_T 13 k).1 (sm_T 13 k).2.1 (sm_T 13 k).2.2.1 U) ∧
  (∀ x y, x < 3 → y < 3 → x ≠ y → va_Nc (sm_xs.getD x "") (sm_xs.getD y "") U) ∧
  sm_Zq "java/lang/Throwable" "UNASSIGNED_STACK" "[Ljava/lang/StackTraceElement;" B U Hb ∧ sm_Zq "java/lang/Throwable" "SUPPRESSED_SENTINEL" "Ljava/util/List;" B U Hb ∧
  sm_LS "java/lang/Throwable" "UNASSIGNED_STACK" "[Ljava/lang/StackTraceElement;" B U Hb ∧ sm_LS "java/lang/Throwable" "SUPPRESSED_SENTINEL" "Ljava/util/List;" B U Hb
def sm_cO (G : va_G) (B : Nat) (S : sm_S) (a c : Nat) (H : Heap) : Prop :=
  ∃ cell : Cell, H[a]? = some cell ∧ cell.cls = G.1 c ∧ cell.vm.isStatics = false ∧ cell.vm ≠ .unknown ∧ (B ≤ a → cell.vm = .none) ∧ ∀ k, k < sm_nf c → cell.slots[G.2 c k]? = some (sm_val (sm_ty c k) S a k)
def sm_cA (U : State) (B : Nat) (S : sm_S) (a : Nat) (ty : FieldType) (n : Nat) (H : Heap) : Prop :=
  ∃ cell : Cell, H[a]? = some cell ∧ U.isArrayOf cell ty ∧ cell.vm ≠ .unknown ∧ n ≤ cell.slots.size ∧ cell.slots.size.toInt32 = Int32.ofNat n ∧ (B ≤ a → cell.slots.size = n) ∧ ∀ j, j < n → cell.slots[j]? = some (sm_val ty S a j)
def sm_cX (U : State) (y : Nat) (a : Nat) (H : Heap) : Prop :=
  ∃ (cell : Cell) (kC : Class), H[a]? = some cell ∧ U.vm.findClass (sm_xs.getD (y / 2) "") = some cell.cls ∧ U.vm.classes[cell.cls]? = some kC ∧ cell.vm = .none ∧ (y % 2 = 0 → cell = blank cell.cls kC)
def sm_Rep (G : va_G) (B : Nat) (Hb : Heap) (U : State) (S : sm_S) (H : Heap) : Prop :=
  H.size = S.2.2.2.2.1 ∧ B ≤ H.size ∧ Hb.size = B ∧ (∀ q, q < B → H[q]? = Hb[q]?) ∧ (∀ a c, S.1.1 a = some (.inl c) → c < 14 ∧ sm_cO G B S a c H) ∧ (∀ a ty n, S.1.1 a = some (.inr (ty, n)) → sm_cA U B S a ty n H) ∧
  (∀ a y, S.2.2.2.1 a = some y → B ≤ a ∧ S.1.1 a = none ∧ sm_cX U y a H)
theorem sm_cA.moved {u U : State} {B : Nat} {S : sm_S} {a : Nat} {ty : FieldType} {n : Nat} {H : Heap} (hv : u.vm.Alike U.vm) (h : sm_cA u B S a ty n H) : sm_cA U B S a ty n H := by
  obtain ⟨cell, h1, h2, h3⟩ := h
  exact ⟨cell, h1, State.isArrayOf_alike hv h2, h3⟩
theorem sm_cX.moved {u U : State} {y a : Nat} {H : Heap} (hv : u.vm.Alike U.vm) (h : sm_cX u y a H) : sm_cX U y a H := by
  obtain ⟨cell, kC, h1, h2, h3, h4, h5⟩ := h
  obtain ⟨k', hk', he⟩ := hv.2.2 _ _ h3
  refine ⟨cell, k', h1, by rw [hv.findClass]; exact h2, hk', h4, fun hy => ?_⟩
  have e1 : blank cell.cls k' = blank cell.cls kC := by
    unfold blank
    rw [he]
  rw [e1]
  exact h5 hy
theorem sm_Rep.moved {G : va_G} {B : Nat} {Hb : Heap} {u U : State} {S : sm_S} {H : Heap} (hv : u.vm.Alike U.vm) (h : sm_Rep G B Hb u S H) : sm_Rep G B Hb U S H := by
  obtain ⟨h1, h2, h3, h4, h5, h6, h7⟩ := h
  exact ⟨h1, h2, h3, h4, h5, fun a ty n q => (h6 a ty n q).moved hv, fun a y q => ⟨(h7 a y q).1, (h7 a y q).2.1, (h7 a y q).2.2.moved hv⟩⟩
theorem sm_good_warm {s U : State} (hW : s.WarmedH U.vm) {w : Cond} (hg : sm_good w = true) (h : w.before #[] s = true) : w.before #[] U = true := by
  unfold sm_good at hg
  rcases Bool.or_eq_true_iff.mp hg with h1 | h1
  · exact word_at hW (good_of_word h1) h
  · split at h1
    · exact va_Nw.warmM hW h
    · exact va_Nw.warmF hW h
    · exact va_Nw.warmC hW h
    · exact va_Nw.warmD hW h
    · cases h1
theorem sm_Fix.warm {E : sm_E} {G : va_G} {B : Nat} {Hb : Heap} {s U : State} (hW : s.WarmedH U.vm) (h : sm_Fix E G B Hb s) : sm_Fix E G B Hb U := by
  obtain ⟨h1, h2, h3, h4, h5, h6, h7, h8, h9, h10, h11, h12⟩ := h
  exact ⟨fun w hw hg => sm_good_warm hW hg (h1 w hw hg), va_K.moved hW.alike h2, fun q hq => (h3 q hq).warm hW, h4.moved hW.alike, h5.moved hW.alike, h6.moved hW.alike, fun k hk => (h7 k hk).moved hW.alike, fun x y hx hy hn => (h8 x y hx hy hn).moved hW.alike, h9.moved hW.alike, h10.moved hW.alike, h11.moved hW.alike, h12.moved hW.alike⟩
theorem sm_word {E : sm_E} {G : va_G} {B : Nat} {Hb : Heap} {s : State} {args : Array Value} (hF : sm_Fix E G B Hb s) {w : Cond} (hw : w ∈ lw_tbl) (hg : sm_good w = true) (ho : w.onTables = true) : w.before args s = true :=
  va_tabs ho rfl (hF.1 w hw hg)
theorem sm_look_mem {α : Type} {l : List (Nat × α)} {key : Nat} {v : α} (h : sm_look l key = some v) : (key, v) ∈ l := by
  induction l with
  | nil => cases h
  | cons q r ih =>
    unfold sm_look at h
    split at h
    · next e =>
      cases h
      subst e
      exact List.mem_cons_self
    · exact List.mem_cons_of_mem _ (ih h)
theorem sm_key_own (k idx : Nat) (hi : idx < 65536) : sm_own (sm_key k idx) = sm_cn (sm_m k).2.1.1 ∧ sm_key k idx % 65536 = idx := by
  unfold sm_own sm_key
  constructor
  · congr 1
    omega
  · omega
theorem sm_in_b_of {j : Int32} {n : Nat} (h : sm_in_b j n = true) : ¬ (j < 0 ∨ n ≤ j.toNatClampNeg) := of_decide_eq_true h
theorem sm_up_self {α : Type} (f : Nat → Nat → α) (a i : Nat) (x : α) : sm_up f a i x a i = x := by simp [sm_up]
theorem sm_up_ne {α : Type} (f : Nat → Nat → α) {a i b j : Nat} (x : α) (h : ¬ (b = a ∧ j = i)) : sm_up f a i x b j = f b j := by
  unfold sm_up
  rw [if_neg h]
/-- a write into one place of one cell: what must hold of the new state, of the cell and of the rest -/
theorem sm_Rep.put {G : va_G} {B : Nat} {Hb : Heap} {U : State} {S S' : sm_S} {H H' : Heap} {a i : Nat} (hR : sm_Rep G B Hb U S H) (hB : B ≤ a) (hsh : S'.1.1 = S.1.1) (hex : S'.2.2.2 = S.2.2.2)
    (hval : ∀ ty b j, ¬ (b = a ∧ j = i) → sm_val ty S' b j = sm_val ty S b j) (hsz : H'.size = H.size) (hot : ∀ q, q ≠ a → H'[q]? = H[q]?)
    (hO : ∀ c, S.1.1 a = some (.inl c) → sm_cO G B S' a c H') (hA : ∀ ty n, S.1.1 a = some (.inr (ty, n)) → sm_cA U B S' a ty n H') (hne : S.1.1 a ≠ none) : sm_Rep G B Hb U S' H' := by
  obtain ⟨h1, h2, h3, h4, h5, h6, h7⟩ := hR
  refine ⟨by rw [hsz, hex]; exact h1, by rw [hsz]; exact h2, h3, fun q hq => by rw [hot q (by omega)]; exact h4 q hq, fun b c hb => ?_, fun b ty n hb => ?_, fun b y hb => ?_⟩
  · rw [hsh] at hb
    by_cases e : b = a
    · subst e
      exact ⟨(h5 b c hb).1, hO c hb⟩
    · obtain ⟨g1, cell, g2, g3, g4, g5, g6, g7⟩ := h5 b c hb
      exact ⟨g1, cell, by rw [hot b e]; exact g2, g3, g4, g5, g6, fun k hk => by rw [hval _ b k (fun q => e q.1)]; exact g7 k hk⟩
  · rw [hsh] at hb
    by_cases e : b = a
    · subst e
      exact hA ty n hb
    · obtain ⟨cell, g2, g3, g4, g5, g6, g7, g8⟩ := h6 b ty n hb
      exact ⟨cell, by rw [hot b e]; exact g2, g3, g4, g5, g6, g7, fun k hk => by rw [hval _ b k (fun q => e q.1)]; exact g8 k hk⟩
  · rw [hex] at hb
    obtain ⟨g1, g2, cell, kC, g3, g4⟩ := h7 b y hb
    have e : b ≠ a := fun q => hne (q ▸ g2)
    exact ⟨g1, by rw [hsh]; exact g2, cell, kC, by rw [hot b e]; exact g3, g4⟩
theorem sm_val_putI (ty : FieldType) (S : sm_S) (a i : Nat) (x : Int32) (b j : Nat) (h : ¬ (b = a ∧ j = i)) : sm_val ty (sm_putI S a i x) b j = sm_val ty S b j := by
  unfold sm_val sm_putI
  cases ty <;> simp only [sm_up_ne _ _ h]
theorem sm_val_putJ (ty : FieldType) (S : sm_S) (a i : Nat) (x : Int64) (b j : Nat) (h : ¬ (b = a ∧ j = i)) : sm_val ty (sm_putJ S a i x) b j = sm_val ty S b j := by
  unfold sm_val sm_putJ
  cases ty <;> simp only [sm_up_ne _ _ h]
theorem sm_val_putR (ty : FieldType) (S : sm_S) (a i : Nat) (x : Value) (b j : Nat) (h : ¬ (b = a ∧ j = i)) : sm_val ty (sm_putR S a i x) b j = sm_val ty S b j := by
  unfold sm_val sm_putR
  cases ty <;> simp only [sm_up_ne _ _ h]
