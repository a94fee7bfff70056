/-! ===== what holds behind a run ===== -/
def sw (o : Option sm_o) (Q : (Option Value ⊕ Nat) → sm_D → Prop) : Prop := ∃ v D, o = some (v, D) ∧ Q v D
def sb_v (f : sm_D → Option sm_o) (Q : (Option Value ⊕ Nat) → sm_D → Prop) (v : Option Value ⊕ Nat) (D : sm_D) : Prop := match v with
  | .inl none => sw (f D) Q
  | .inr a => sm_tw D a = true ∧ Q (.inr a) D
  | _ => False
def sb_i (f : Int32 → sm_D → Option sm_o) (Q : (Option Value ⊕ Nat) → sm_D → Prop) (v : Option Value ⊕ Nat) (D : sm_D) : Prop := match v with
  | .inl (some (.int x)) => sw (f x D) Q
  | .inr a => sm_tw D a = true ∧ Q (.inr a) D
  | _ => False
def sb_j (f : Int64 → sm_D → Option sm_o) (Q : (Option Value ⊕ Nat) → sm_D → Prop) (v : Option Value ⊕ Nat) (D : sm_D) : Prop := match v with
  | .inl (some (.long x)) => sw (f x D) Q
  | .inr a => sm_tw D a = true ∧ Q (.inr a) D
  | _ => False
section SWP
variable {Q R : (Option Value ⊕ Nat) → sm_D → Prop} {a b : Option sm_o} {v : Option Value ⊕ Nat} {D : sm_D}
theorem sw_ge (h : sm_ge a b) (hb : sw b Q) : sw a Q := by
  obtain ⟨v, D, h1, h2⟩ := hb
  exact ⟨v, D, h _ h1, h2⟩
theorem sw_imp (h : sw a R) (hi : ∀ v D, R v D → Q v D) : sw a Q := by
  obtain ⟨v, D, h1, h2⟩ := h
  exact ⟨v, D, h1, hi v D h2⟩
theorem sw_some : sw (some (v, D)) Q = Q v D := propext ⟨fun ⟨_, _, h1, h2⟩ => by cases h1; exact h2, fun h => ⟨v, D, rfl, h⟩⟩
theorem sw_eq (h : sw a (fun w E => (w, E) = (v, D))) : a = some (v, D) := by
  obtain ⟨w, E, h1, h2⟩ := h
  rw [h1, h2]
theorem sw_ite {c : Prop} {dc : Decidable c} : sw (if c then a else b) Q = if c then sw a Q else sw b Q := by
  split <;> rfl
theorem sw_if {c : Prop} {dc : Decidable c} (h1 : c → sw a Q) (h2 : ¬ c → sw b Q) : sw (if c then a else b) Q := by
  split
  · next h => exact h1 h
  · next h => exact h2 h
theorem sw_gu {g : Bool} : sw (sm_gu g a) Q = (g = true ∧ sw a Q) := by
  unfold sm_gu
  cases g
  · exact propext ⟨fun ⟨_, _, h, _⟩ => (nomatch h), fun h => (nomatch h.1)⟩
  · exact propext ⟨fun h => ⟨rfl, h⟩, fun h => h.2⟩
theorem sw_none : sw none Q = False := propext ⟨fun ⟨_, _, h, _⟩ => (nomatch h), fun h => h.elim⟩
theorem sw_tw {z : Nat} : sw (if sm_tw D z = true then some (.inr z, D) else none) Q = (sm_tw D z = true ∧ Q (.inr z) D) := by
  split
  · next h => rw [sw_some]; exact propext ⟨fun g => ⟨h, g⟩, fun g => g.2⟩
  · next h => rw [sw_none]; exact propext ⟨fun g => g.elim, fun g => h g.1⟩
theorem sw_bv {f : sm_D → Option sm_o} : sw (sm_bv a f) Q = sw a (sb_v f Q) := by
  unfold sm_bv
  split
  · rw [sw_some]; rfl
  · rw [sw_some, sw_tw]; rfl
  · next h1 h2 =>
    rw [sw_none]
    refine propext ⟨fun g => g.elim, fun ⟨v, D, e, g⟩ => ?_⟩
    subst e
    match v, g with
    | .inl none, _ => exact h1 D rfl
    | .inr z, _ => exact h2 z D rfl
theorem sw_bi {f : Int32 → sm_D → Option sm_o} : sw (sm_bi a f) Q = sw a (sb_i f Q) := by
  unfold sm_bi
  split
  · rw [sw_some]; rfl
  · rw [sw_some, sw_tw]; rfl
  · next h1 h2 =>
    rw [sw_none]
    refine propext ⟨fun g => g.elim, fun ⟨v, D, e, g⟩ => ?_⟩
    subst e
    match v, g with
    | .inl (some (.int x)), _ => exact h1 x D rfl
    | .inr z, _ => exact h2 z D rfl
theorem sw_bj {f : Int64 → sm_D → Option sm_o} : sw (sm_bj a f) Q = sw a (sb_j f Q) := by
  unfold sm_bj
  split
  · rw [sw_some]; rfl
  · rw [sw_some, sw_tw]; rfl
  · next h1 h2 =>
    rw [sw_none]
    refine propext ⟨fun g => g.elim, fun ⟨v, D, e, g⟩ => ?_⟩
    subst e
    match v, g with
    | .inl (some (.long x)), _ => exact h1 x D rfl
    | .inr z, _ => exact h2 z D rfl
theorem sw_cpy {nb na y x : Nat} {F : sm_D → Option sm_o} {s d n : Nat} (hs : s + n ≤ nb) (hd : d + n ≤ na) (h1 : nb < 2147483648) (h2 : na < 2147483648) : sw (sm_cpy nb na y (ni s) x (ni d) (ni n) D F) Q = sw (F ((fun c j => if c = x ∧ d ≤ j ∧ j < d + n then D.1 y (s + (j - d)) else D.1 c j), D.2)) Q := by
  unfold sm_cpy
  have z : ∀ k, k < 2147483648 → ¬ ni k < 0 := fun k hk => by
    rw [show (0 : Int32) = ni 0 from rfl, ni_lt hk (by omega)]; omega
  rw [if_pos ⟨z s (by omega), z d (by omega), z n (by omega), by rw [ni_nat (by omega), ni_nat (by omega)]; exact hs, by rw [ni_nat (by omega), ni_nat (by omega)]; exact hd⟩, ni_nat (by omega), ni_nat (by omega), ni_nat (by omega)]
end SWP
