/-! ===== both sides at once: the calls that only ask ===== -/
/-- the heap behind a helper of the law -/
def hE (X : Nat) (D : sm_D) (r : Except Nat Int64) : sm_D := match r with | .ok v => sm_dJ D (X + 89) 0 v | .error z => sm_thr D z
def a_l (r : Except Nat Int32) : Except Nat Int64 := match r with | .ok v => .ok v.toInt64 | .error z => .error z
/-- a call on both sides: the same is thrown, the same is answered -/
def ST (C : sm_K) (X t t' hk rk : Nat) (as : List Value) (D : sm_D) : Prop := ∃ k D1 b D2, sm_fe C hk (.ref X :: (as ++ [.ref (X + 89)])) D = some (.inl (some (.int k)), D1) ∧ sm_fe C rk (.ref (X + 49) :: as) D1 = some (.inl (some (.int b)), D2) ∧ D2.1 (X + 49) 0 = k ∧ (k = ni 0 → D2.2.1 (X + 89) 0 = b.toInt64) ∧ JK C X t t' D2 ∧ gr D D2
def STd (C : sm_K) (X t t' hk rk : Nat) (as : List Value) (D : sm_D) : Prop := ∃ k D1 b D2, sm_fe C hk (.ref X :: (as ++ [.ref (X + 89)])) D = some (.inl (some (.int k)), D1) ∧ sm_fe C rk (.ref (X + 49) :: as) D1 = some (.inl (some (.long b)), D2) ∧ D2.1 (X + 49) 0 = k ∧ (k = ni 0 → D2.2.1 (X + 89) 0 = b) ∧ JK C X t t' D2 ∧ gr D D2
section JAC
variable {C : sm_K} {X N t t' : Nat} {T : Nat → Int32} {D E : sm_D} {m : md_M} {F W : List Int32}
theorem hE_c {r : Except Nat Int64} : cfr X D (hE X D r) := by
  cases r with
  | ok v => exact ⟨fun _ _ => rfl, funext fun j => up_ne (by omega)⟩
  | error z => exact ⟨fun _ _ => rfl, rfl⟩
theorem hE_r {r : Except Nat Int64} (ht : t = X + 23 ∨ t = X + 36) : rfr X t D (hE X D r) := by
  cases r with
  | ok v => exact ⟨fun _ _ => rfl, funext fun j => up_ne (by omega)⟩
  | error z => exact ⟨fun _ _ => rfl, rfl⟩
theorem hE_g {r : Except Nat Int64} : gr D (hE X D r) := by
  cases r with
  | ok v => exact ⟨Nat.le_add_right _ _, Nat.le_add_right _ _⟩
  | error z => exact ⟨Nat.le_refl _, Nat.le_refl _⟩
theorem hE_v {v : Int64} : (hE X D (.ok v)).2.1 (X + 89) 0 = v := up_eq
theorem st_end (h : JR C X t t' F T N m W D) {r : Except Nat Int64} (hf : fr (sLe X) (hE X D r) E) (hv : RV C X T N m E) : JK C X t t' E ∧ gr D E := by
  have ht := h.1.la
  refine ⟨⟨F, T, N, m, W, h.1, ((h.2.1).rf ht (hE_r ht)).rf ht (hf.r sLe_r), (h.2.2.1.cf hE_c).le hf hv, h.2.2.2.1, ?_⟩, ?_⟩
  · exact h.low (fun a ha => ((hf.r (t := t) sLe_r).1 a (by omega)).trans (hE_c.1 a (Or.inl ha)))
  · exact hE_g.tr (by rw [hf.1])
theorem st_acc {hk rk : Nat} {as : List Value} (h : JR C X t t' F T N m W D) {r : Except Nat Int32} {k : Int32} (hk0 : k = ni 0 → ∃ v, r = .ok v)
    (hc : sm_fe C hk (.ref X :: (as ++ [.ref (X + 89)])) D = some (.inl (some (.int k)), hE X D (a_l r)))
    (hr : ∀ D1, RV C X T N m D1 → sw (sm_fe C rk (.ref (X + 49) :: as) D1) (fun w E => fr (sLe X) D1 E ∧ RV C X T N m E ∧ E.1 (X + 49) 0 = k ∧ w = .inl (some (.int (a_v r))))) : ST C X t t' hk rk as D := by
  obtain ⟨w, E, h1, hf, hv, h0, rfl⟩ := hr _ (h.2.2.1.cf (hE_c (r := a_l r))).2.1
  refine ⟨k, _, a_v r, E, hc, h1, h0, fun hz => ?_, st_end h hf hv⟩
  obtain ⟨v, rfl⟩ := hk0 hz
  rw [hf.1]
  exact hE_v
theorem ac_0 {r : Except Nat Int32} (h : a_c r = ni 0) : ∃ v, r = .ok v := by
  cases r with
  | ok v => exact ⟨v, rfl⟩
  | error z => exact absurd h (by show ¬ ni 1 = ni 0; decide)
theorem e_ent {i : Int32} {z : Nat} (h : ac_ent m i = .error z) : z = 2 := by
  unfold ac_ent at h
  split at h
  · cases h; rfl
  · split at h
    · cases h; rfl
    · cases h
theorem e_item {l : List Int32} {k : Int32} {z : Nat} (h : ac_item l k = .error z) : z = 2 := by
  unfold ac_item at h
  split at h
  · cases h
  · split at h
    · cases h
    · cases h; rfl
theorem e_fld {i f : Int32} {z : Nat} (h : ac_fld m i f = .error z) : z = 2 := by
  unfold ac_fld at h
  cases hx : ac_ent m i with
  | error y => rw [hx] at h; cases h; exact e_ent hx
  | ok p =>
    rw [hx] at h
    dsimp only [bind, Except.bind] at h
    split at h
    · cases h; rfl
    · split at h
      · cases h; rfl
      · cases h
theorem e_entity {i k : Int32} {z : Nat} (h : ac_entity m i k = .error z) : z = 2 := by
  unfold ac_entity at h
  cases hx : ac_ent m i with
  | error y => rw [hx] at h; cases h; exact e_ent hx
  | ok p =>
    rw [hx] at h
    dsimp only [bind, Except.bind] at h
    split at h <;> cases h
    rfl
theorem e_part {i k : Int32} {z : Nat} (h : ac_part m i k = .error z) : z = 2 := by
  unfold ac_part at h
  cases hx : ac_ent m i with
  | error y => rw [hx] at h; cases h; exact e_ent hx
  | ok p =>
    rw [hx] at h
    dsimp only [bind, Except.bind] at h
    cases h
theorem e_octet {i k : Int32} {z : Nat} (h : ac_octet m i k = .error z) : z = 2 := by
  unfold ac_octet at h
  cases hx : ac_ent m i with
  | error y => rw [hx] at h; cases h; exact e_ent hx
  | ok p =>
    rw [hx] at h
    dsimp only [bind, Except.bind] at h
    split at h <;> cases h
    rfl
theorem e_kind {i f : Int32} {z : Nat} (h : ac_kind m i f = .error z) : z = 2 := by
  unfold ac_kind at h
  cases hx : ac_fld m i f with
  | error y => rw [hx] at h; cases h; exact e_fld hx
  | ok p =>
    rw [hx] at h
    dsimp only [bind, Except.bind] at h
    cases h
theorem e_letter {i f w k : Int32} {z : Nat} (h : ac_letter T m i f w k = .error z) : z = 2 := by
  unfold ac_letter at h
  cases hx : ac_fld m i f with
  | error y => rw [hx] at h; cases h; exact e_fld hx
  | ok p =>
    rw [hx] at h
    dsimp only [bind, Except.bind] at h
    split at h
    · cases h; rfl
    · exact e_item h
    · exact e_item h
theorem e_type {i w k : Int32} {z : Nat} (h : ac_type m i w k = .error z) : z = 2 := by
  unfold ac_type at h
  cases hx : ac_ent m i with
  | error y => rw [hx] at h; cases h; exact e_ent hx
  | ok p =>
    rw [hx] at h
    dsimp only [bind, Except.bind] at h
    split at h
    · cases h; rfl
    · exact e_item h
    · exact e_item h
theorem e_param {i n w k : Int32} {z : Nat} (h : ac_param m i n w k = .error z) : z = 2 := by
  unfold ac_param at h
  cases hx : ac_ent m i with
  | error y => rw [hx] at h; cases h; exact e_ent hx
  | ok p =>
    rw [hx] at h
    dsimp only [bind, Except.bind] at h
    split at h
    · cases h; rfl
    · split at h
      · cases h; rfl
      · exact e_item h
      · exact e_item h
theorem e_date {w : Int32} {z : Nat} (h : ac_date m w = .error z) : z = 2 := by
  unfold ac_date at h
  split at h <;> cases h
  rfl
theorem e_addrs {w : Int32} {z : Nat} (h : ac_addrs m w = .error z) : z = 1 := by
  unfold ac_addrs at h
  split at h
  · cases h
  · split at h
    · cases h
    · cases h; rfl
theorem e_addr {i n w k : Int32} {z : Nat} (h : ac_addr m i n w k = .error z) : z = 1 ∨ z = 2 := by
  unfold ac_addr at h
  split at h
  · split at h
    · cases h; exact Or.inr rfl
    · split at h
      · cases h; exact Or.inr rfl
      · exact Or.inr (e_item h)
      · exact Or.inr (e_item h)
      · exact Or.inr (e_item h)
  · cases h; exact Or.inl rfl
theorem e_out {w : Int32} {z : Nat} (h : ac_out W w = .error z) : z = 2 := by
  unfold ac_out at h
  split at h <;> cases h
  rfl
theorem st_entity (h : JR C X t t' F T N m W D) {v1 v2 : Int32} : ST C X t t' 269 231 [.int v1, .int v2] D := by
  refine st_acc h (r := ac_entity m v1 v2) ac_0 ?_ (fun D1 hv => r231 hv (fun E hf h0 => ⟨hf.mono s0_le, hv.f hf, h0, rfl⟩))
  have ha := a9 h.H h.1.2.2.2.2.1 h.2.1.2.1 (i := v1) (k := v2)
  cases hr : ac_entity m v1 v2 with
  | ok v => rw [hr] at ha; exact l269_ok h.1.1 ha
  | error z => rw [hr] at ha; cases e_entity hr; exact l269_er h.1.1 ha (sm_thr_at D 2)
theorem st_part (h : JR C X t t' F T N m W D) {v1 v2 : Int32} : ST C X t t' 270 234 [.int v1, .int v2] D := by
  refine st_acc h (r := ac_part m v1 v2) ac_0 ?_ (fun D1 hv => r234 hv (fun E hf h0 => ⟨hf.mono s0_le, hv.f hf, h0, rfl⟩))
  have ha := a12 h.H h.1.2.2.2.2.1 h.2.1.2.1 (i := v1) (k := v2)
  cases hr : ac_part m v1 v2 with
  | ok v => rw [hr] at ha; exact l270_ok h.1.1 ha
  | error z => rw [hr] at ha; cases e_part hr; exact l270_er h.1.1 ha (sm_thr_at D 2)
theorem st_octet (h : JR C X t t' F T N m W D) {v1 v2 : Int32} : ST C X t t' 271 235 [.int v1, .int v2] D := by
  refine st_acc h (r := ac_octet m v1 v2) ac_0 ?_ (fun D1 hv => r235 hv h.2.2.1.2.2.1.i.2.1 (fun E hf h0 => ⟨hf.mono s0_le, hv.f hf, h0, rfl⟩))
  have ha := a13 h.H h.1.2.2.2.2.1 h.2.1.2.1 (i := v1) (k := v2)
  cases hr : ac_octet m v1 v2 with
  | ok v => rw [hr] at ha; exact l271_ok h.1.1 ha
  | error z => rw [hr] at ha; cases e_octet hr; exact l271_er h.1.1 ha (sm_thr_at D 2)
theorem st_kind (h : JR C X t t' F T N m W D) {v1 v2 : Int32} : ST C X t t' 272 236 [.int v1, .int v2] D := by
  refine st_acc h (r := ac_kind m v1 v2) ac_0 ?_ (fun D1 hv => r236 hv (fun E hf h0 => ⟨hf.mono s0_le, hv.f hf, h0, rfl⟩))
  have ha := a14 h.H h.1.2.2.2.2.1 h.2.1.2.1 (i := v1) (f := v2)
  cases hr : ac_kind m v1 v2 with
  | ok v => rw [hr] at ha; exact l272_ok h.1.1 ha
  | error z => rw [hr] at ha; cases e_kind hr; exact l272_er h.1.1 ha (sm_thr_at D 2)
theorem st_letter (h : JR C X t t' F T N m W D) {v1 v2 v3 v4 : Int32} : ST C X t t' 273 238 [.int v1, .int v2, .int v3, .int v4] D := by
  refine st_acc h (r := ac_letter T m v1 v2 v3 v4) ac_0 ?_ (fun D1 hv => r238 hv (fun E hf hv2 h0 => ⟨hf, hv2, h0, rfl⟩))
  have ha := a16 h.H h.1.2.2.2.2.1 h.2.1.2.1 (i := v1) (f := v2) (w := v3) (k := v4)
  cases hr : ac_letter T m v1 v2 v3 v4 with
  | ok v => rw [hr] at ha; exact l273_ok h.1.1 ha
  | error z => rw [hr] at ha; cases e_letter hr; exact l273_er h.1.1 ha (sm_thr_at D 2)
theorem st_type (h : JR C X t t' F T N m W D) {v1 v2 v3 : Int32} : ST C X t t' 274 240 [.int v1, .int v2, .int v3] D := by
  refine st_acc h (r := ac_type m v1 v2 v3) ac_0 ?_ (fun D1 hv => r240 hv h.2.2.1.2.2.1.i.1 (fun E hf h0 => ⟨hf.mono s0_le, hv.f hf, h0, rfl⟩))
  have ha := a18 h.H h.1.2.2.2.2.1 h.2.1.2.1 (i := v1) (w := v2) (k := v3)
  cases hr : ac_type m v1 v2 v3 with
  | ok v => rw [hr] at ha; exact l274_ok h.1.1 ha
  | error z => rw [hr] at ha; cases e_type hr; exact l274_er h.1.1 ha (sm_thr_at D 2)
theorem st_param (h : JR C X t t' F T N m W D) {v1 v2 v3 v4 : Int32} : ST C X t t' 275 241 [.int v1, .int v2, .int v3, .int v4] D := by
  refine st_acc h (r := ac_param m v1 v2 v3 v4) ac_0 ?_ (fun D1 hv => r241 hv h.2.2.1.2.2.1.i.1 (fun E hf h0 => ⟨hf.mono s0_le, hv.f hf, h0, rfl⟩))
  have ha := a19 h.H h.1.2.2.2.2.1 h.2.1.2.1 (i := v1) (n := v2) (w := v3) (k := v4)
  cases hr : ac_param m v1 v2 v3 v4 with
  | ok v => rw [hr] at ha; exact l275_ok h.1.1 ha
  | error z => rw [hr] at ha; cases e_param hr; exact l275_er h.1.1 ha (sm_thr_at D 2)
theorem st_subject (h : JR C X t t' F T N m W D) {v1 : Int32} : ST C X t t' 276 242 [.int v1] D := by
  refine st_acc h (r := ac_item m.2.1 v1) ac_0 ?_ (fun D1 hv => r242 hv h.2.2.1.2.2.1.i.2.2 (fun E hf h0 => ⟨hf.mono s0_le, hv.f hf, h0, rfl⟩))
  have ha := a20 h.H h.1.2.2.2.2.1 h.2.1.2.1 (k := v1)
  cases hr : ac_item m.2.1 v1 with
  | ok v => rw [hr] at ha; exact l276_ok h.1.1 ha
  | error z => rw [hr] at ha; cases e_item hr; exact l276_er h.1.1 ha (sm_thr_at D 2)
theorem st_addrs (h : JR C X t t' F T N m W D) {v1 : Int32} : ST C X t t' 278 244 [.int v1] D := by
  refine st_acc h (r := ac_addrs m v1) ac_0 ?_ (fun D1 hv => r244 hv (fun E hf h0 => ⟨hf.mono s0_le, hv.f hf, h0, rfl⟩))
  have ha := a22 h.H h.1.2.2.2.2.1 h.2.1.2.1 (k := v1)
  cases hr : ac_addrs m v1 with
  | ok v => rw [hr] at ha; exact l278_ok h.1.1 ha
  | error z => rw [hr] at ha; cases e_addrs hr; exact l278_er h.1.1 ha (sm_thr_at D 1)
theorem st_out (h : JR C X t t' F T N m W D) {v1 : Int32} : ST C X t t' 281 258 [.int v1] D := by
  have hc : sm_fe C 281 (.ref X :: ([.int v1] ++ [.ref (X + 89)])) D = some (.inl (some (.int (a_c (ac_out W v1)))), hE X D (a_l (ac_out W v1))) := by
    have ha := k26 h.1.1 h.2.1.2.2 (v := v1)
    cases hr : ac_out W v1 with
    | ok v => rw [hr] at ha; exact l281_ok h.1.1 ha
    | error z => rw [hr] at ha; cases e_out hr; exact l281_er h.1.1 ha (sm_thr_at D 2)
  have hR := h.2.2.1.cf (hE_c (r := a_l (ac_out W v1)))
  have hq : sw (sm_fe C 258 [.ref (X + 49), .int v1] (hE X D (a_l (ac_out W v1)))) (fun w E => fr (s0 X) (hE X D (a_l (ac_out W v1))) E ∧ E.1 (X + 49) 0 = a_c (ac_out W v1) ∧ w = .inl (some (.int (a_v (ac_out W v1))))) := r258 h.1.1 hR.2.2.2.1 h.2.2.2.1 (fun E hf h0 => ⟨hf, h0, rfl⟩)
  obtain ⟨w, E, h1, hf, h0, rfl⟩ := hq
  refine ⟨_, _, a_v (ac_out W v1), E, hc, h1, h0, fun hz => ?_, st_end h (hf.mono s0_le) (hR.2.1.f hf)⟩
  obtain ⟨v, hv⟩ := ac_0 hz
  rw [hv, hf.1, hv]
  exact hE_v
theorem st_addr (h : JR C X t t' F T N m W D) {v1 v2 v3 v4 : Int32} : ST C X t t' 279 245 [.int v1, .int v2, .int v3, .int v4] D := by
  refine st_acc h (r := ac_addr m v1 v2 v3 v4) (k := a_c2 (ac_addr m v1 v2 v3 v4)) ?_ ?_ (fun D1 hv => r245 hv h.2.2.1.2.2.1.i.1 (fun E hf h0 => ⟨hf.mono s0_le, hv.f hf, h0, rfl⟩))
  · intro hz
    cases hr : ac_addr m v1 v2 v3 v4 with
    | ok v => exact ⟨v, rfl⟩
    | error z =>
      rw [hr] at hz
      rcases e_addr hr with rfl | rfl
      · exact absurd hz (by show ¬ ni 1 = ni 0; decide)
      · exact absurd hz (by show ¬ ni 2 = ni 0; decide)
  · have ha := a24 h.H h.1.2.2.2.2.1 h.2.1.2.1 (kv := v1) (n := v2) (w := v3) (k := v4)
    cases hr : ac_addr m v1 v2 v3 v4 with
    | ok v => rw [hr] at ha; exact l279_ok h.1.1 ha
    | error z =>
      rw [hr] at ha
      rcases e_addr hr with rfl | rfl
      · exact l279_er1 h.1.1 ha (sm_thr_at D 1)
      · exact l279_er2 h.1.1 ha (sm_thr_at D 2)
theorem st_date (h : JR C X t t' F T N m W D) {v1 : Int32} : STd C X t t' 277 243 [.int v1] D := by
  have hc : sm_fe C 277 (.ref X :: ([.int v1] ++ [.ref (X + 89)])) D = some (.inl (some (.int (a_c (ac_date m v1)))), hE X D (ac_date m v1)) := by
    have ha := a21 h.H h.1.2.2.2.2.1 h.2.1.2.1 (k := v1)
    cases hr : ac_date m v1 with
    | ok v => rw [hr] at ha; exact l277_ok h.1.1 ha
    | error z => rw [hr] at ha; cases e_date hr; exact l277_er h.1.1 ha (sm_thr_at D 2)
  have hR := h.2.2.1.cf (hE_c (r := ac_date m v1))
  have hq : sw (sm_fe C 243 [.ref (X + 49), .int v1] (hE X D (ac_date m v1))) (fun w E => fr (s0 X) (hE X D (ac_date m v1)) E ∧ E.1 (X + 49) 0 = a_c (ac_date m v1) ∧ w = .inl (some (.long (match ac_date m v1 with | .ok w => w | .error _ => Int64.ofNat 0)))) := r243 hR.2.1 (fun E hf h0 => ⟨hf, h0, rfl⟩)
  obtain ⟨w, E, h1, hf, h0, rfl⟩ := hq
  refine ⟨_, _, _, E, hc, h1, h0, fun hz => ?_, st_end h (hf.mono s0_le) (hR.2.1.f hf)⟩
  cases hr : ac_date m v1 with
  | ok v =>
    rw [hr] at hf
    rw [hf.1]
    exact hE_v
  | error z => rw [hr] at hz; exact absurd hz (by show ¬ ni 1 = ni 0; decide)
end JAC
