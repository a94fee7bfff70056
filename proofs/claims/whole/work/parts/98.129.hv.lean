/-! ===== what a read message is: one entity more ===== -/
def DPc (es : List md_E) : Nat → Nat → Prop
  | 0, j => j = 0
  | d + 1, j => ∃ u p, es[j]? = some u ∧ u.1 = ni p ∧ p < j ∧ DPc es d p
def md_cs (T : Nat → Int32) : Nat → List md_E → Nat
  | _, [] => 0
  | i, u :: r => md_c1 T i u + md_cs T (i + 1) r
def SI (m : md_M) : Prop := MB m ∧ HBm m ∧ md_pk m.1 ∧ (∀ j u, m.1[j]? = some u → u.2.2.2.2.1 = true → j + 1 < m.1.length → ∃ u', m.1[j + 1]? = some u' ∧ u'.1 = ni j) ∧ m.2.1.length ≤ 8000 ∧ ∀ j, j < m.1.length → ∃ d, d ≤ 6 ∧ DPc m.1 d j
section ZID
variable {T : Nat → Int32} {N : Nat} {m : md_M}
theorem get_app {es : List md_E} {u w : md_E} {j : Nat} (h : es[j]? = some w) : (es ++ [u])[j]? = some w := by
  have hj : j < es.length := by
    rcases Nat.lt_or_ge j es.length with z | z
    · exact z
    · rw [List.getElem?_eq_none z] at h; cases h
  rw [List.getElem?_append_left hj]; exact h
theorem get_new {es : List md_E} {u : md_E} : (es ++ [u])[es.length]? = some u := by
  rw [List.getElem?_append_right (Nat.le_refl _), Nat.sub_self]; rfl
theorem DPc.app {es : List md_E} {u : md_E} : ∀ {d j : Nat}, DPc es d j → DPc (es ++ [u]) d j := by
  intro d
  induction d with
  | zero => intro j h; exact h
  | succ d ih =>
    intro j h
    obtain ⟨w, p, h1, h2, h3, h4⟩ := h
    exact ⟨w, p, get_app h1, h2, h3, ih h4⟩
theorem md_cs_app {u : md_E} : ∀ (es : List md_E) (i : Nat), md_cs T i (es ++ [u]) = md_cs T i es + md_c1 T (i + es.length) u := by
  intro es
  induction es with
  | nil => intro i; show md_c1 T i u + 0 = 0 + md_c1 T i u; omega
  | cons w es ih =>
    intro i
    show md_c1 T i w + md_cs T (i + 1) (es ++ [u]) = md_c1 T i w + md_cs T (i + 1) es + md_c1 T (i + (es.length + 1)) u
    rw [ih (i + 1), show i + 1 + es.length = i + (es.length + 1) from by omega]
    omega
theorem SI_app {u : md_E} {r : List Int32 × (Int × Int) × md_A} {dep : Nat} (h : SI m) (h40 : m.1.length < 40) (hu7 : m7 u.2.2.1.1 ∧ m7 u.2.2.1.2.1 ∧ ∀ w ∈ u.2.2.1.2.2, m7 w.1 ∧ m7 w.2) (hr : ∀ b, ∀ a ∈ r.2.2 b, m7 a.1 ∧ m7 a.2.1 ∧ m7 a.2.2) (hs : r.1.length ≤ 8000) (hb : u.2.2.2.2.1 = true → ∃ v, md_bv u.2.2.1.2.2 = some v ∧ md_rb v = true) (hdep : dep ≤ 6) (hpar : (m.1.length = 0 ∧ u.1 = sm_k (-1) ∧ dep = 0) ∨ ∃ p, u.1 = ni p ∧ p < m.1.length ∧ 1 ≤ dep ∧ DPc m.1 (dep - 1) p) (hlast : md_last m = true → u.1 = ni (m.1.length - 1)) : SI (m.1 ++ [u], r) ∧ DPc (m.1 ++ [u]) dep m.1.length := by
  obtain ⟨a1, a2, a3, a4, a5, a6⟩ := h
  have hlen : (m.1 ++ [u]).length = m.1.length + 1 := by rw [List.length_append]; rfl
  have hD : DPc (m.1 ++ [u]) dep m.1.length := by
    rcases hpar with ⟨h0, -, hd⟩ | ⟨p, h1, h2, h3, h4⟩
    · rw [hd, h0]; rfl
    · obtain ⟨d, rfl⟩ : ∃ d, dep = d + 1 := ⟨dep - 1, by omega⟩
      exact ⟨u, p, get_new, h1, h2, DPc.app h4⟩
  have cs : ∀ {j : Nat} {w : md_E}, (m.1 ++ [u])[j]? = some w → (j < m.1.length ∧ m.1[j]? = some w) ∨ (j = m.1.length ∧ w = u) := by
    intro j w hw
    rcases Nat.lt_trichotomy j m.1.length with z | z | z
    · rw [List.getElem?_append_left z] at hw; exact Or.inl ⟨z, hw⟩
    · subst z; rw [get_new] at hw; cases hw; exact Or.inr ⟨rfl, rfl⟩
    · rw [List.getElem?_eq_none (by rw [hlen]; omega)] at hw; cases hw
  refine ⟨⟨⟨fun w hw => ?_, hr⟩, fun w hw => ?_, fun j w hw => ?_, fun j w hw hmu hj => ?_, hs, fun j hj => ?_⟩, hD⟩
  · rcases List.mem_append.mp hw with hw | hw
    · exact a1.1 w hw
    · rw [List.mem_singleton.mp hw]; exact hu7
  · rcases List.mem_append.mp hw with hw | hw
    · exact a2 w hw
    · rw [List.mem_singleton.mp hw]; exact hb
  · rcases cs hw with ⟨z, hw⟩ | ⟨z, rfl⟩
    · exact a3 j w hw
    · rcases hpar with ⟨h0, h1, -⟩ | ⟨p, h1, h2, -⟩
      · exact ⟨fun _ => h1, fun q => by omega⟩
      · exact ⟨fun q => by omega, fun _ => ⟨p, by omega, h1⟩⟩
  · dsimp only at hj
    rw [hlen] at hj
    rcases cs hw with ⟨z, hw⟩ | ⟨z, -⟩
    · rcases Nat.lt_or_ge (j + 1) m.1.length with g | g
      · obtain ⟨u', b1, b2⟩ := a4 j w hw hmu g
        exact ⟨u', get_app b1, b2⟩
      · have hj1 : j + 1 = m.1.length := by omega
        have hl : md_last m = true := by
          unfold md_last
          rw [List.getLast?_eq_getElem?, show m.1.length - 1 = j from by omega, hw]
          exact hmu
        refine ⟨u, ?_, ?_⟩
        · dsimp only; rw [hj1]; exact get_new
        · rw [hlast hl, show m.1.length - 1 = j from by omega]
    · omega
  · dsimp only at hj ⊢
    rw [hlen] at hj
    rcases Nat.lt_or_ge j m.1.length with g | g
    · obtain ⟨d, d1, d2⟩ := a6 j g
      exact ⟨d, d1, DPc.app d2⟩
    · rw [show j = m.1.length from by omega]
      exact ⟨dep, hdep, hD⟩
/-- an entity that was read -/
theorem z_ent {dep a b body : Nat} {par : Int32} {m1 : md_M} (hL : LN T N) (hb : b ≤ N) (hN : N ≤ 8000) (hB : BB T a b) (h : SI m) (h40 : m.1.length < 40) (hdep : dep ≤ 6) (hpar : (m.1.length = 0 ∧ par = sm_k (-1) ∧ dep = 0) ∨ ∃ p, par = ni p ∧ p < m.1.length ∧ 1 ≤ dep ∧ DPc m.1 (dep - 1) p) (hlast : md_last m = true → par = ni (m.1.length - 1)) (hent : md_ent T dep par a b m = .ok (m1, body)) :
    SI m1 ∧ (∃ u, m1.1 = m.1 ++ [u]) ∧ DPc m1.1 dep m.1.length ∧ a + 2 ≤ body ∧ body ≤ b ∧ (md_last m1 = true → dep < 6 ∧ (md_oc m1.1).length = (md_oc m.1).length ∧ 5 * md_cs T 0 m1.1 + 7 * a ≤ 5 * md_cs T 0 m.1 + 7 * body + 630) ∧ (md_last m1 = false → (md_oc m1.1).length ≤ (md_oc m.1).length + (b - body) ∧ 5 * md_cs T 0 m1.1 + 7 * a ≤ 5 * md_cs T 0 m.1 + 7 * b + 630) := by
  unfold md_ent at hent
  obtain ⟨⟨fs, bd⟩, hfs, hent⟩ := bind_ok hent
  dsimp only at hent
  obtain ⟨y, hy, hent⟩ := bind_ok hent
  obtain ⟨w1, w2, w3, w4, w5, w6⟩ := md_fs_ok hL hb hfs
  have hZ := md_fs_FZ hL hb 20 [] a (by decide) hfs (fun g hg => by cases hg)
  have hPX := z_txts hN fs (fun f hf => (hZ f hf).1) (x := (none, (0, 0), m.2)) ⟨(fun τ hτ => nomatch hτ), h.1.2, h.2.2.2.2.1⟩ hy
  have hbd : bd ≤ b := by
    rcases Nat.lt_or_ge b bd with z | z
    · exfalso
      have hb1 : bd = b + 1 := by omega
      have := hB (b - 1) (by omega) (by omega) (by rw [← w3]; congr 1; omega)
      omega
    · exact z
  have hty : m7 (y.1.getD md_plain).1 ∧ m7 (y.1.getD md_plain).2.1 ∧ ∀ w ∈ (y.1.getD md_plain).2.2, m7 w.1 ∧ m7 w.2 := by
    cases hy1 : y.1 with
    | none =>
      refine ⟨fun x hx => ?_, fun x hx => ?_, fun w hw => by cases hw⟩
      · have : x ∈ md_w "text" := hx
        have e : md_w "text" = [ni 116, ni 101, ni 120, ni 116] := by decide
        rw [e] at this
        simp only [List.mem_cons, List.not_mem_nil, or_false] at this
        rcases this with rfl | rfl | rfl | rfl
        · exact ⟨116, by decide, rfl⟩
        · exact ⟨101, by decide, rfl⟩
        · exact ⟨120, by decide, rfl⟩
        · exact ⟨116, by decide, rfl⟩
      · have : x ∈ md_w "plain" := hx
        have e : md_w "plain" = [ni 112, ni 108, ni 97, ni 105, ni 110] := by decide
        rw [e] at this
        simp only [List.mem_cons, List.not_mem_nil, or_false] at this
        rcases this with rfl | rfl | rfl | rfl | rfl
        · exact ⟨112, by decide, rfl⟩
        · exact ⟨108, by decide, rfl⟩
        · exact ⟨97, by decide, rfl⟩
        · exact ⟨105, by decide, rfl⟩
        · exact ⟨110, by decide, rfl⟩
    | some τ => exact hPX.1 τ hy1
  have hrb : md_Ty.multi (y.1.getD md_plain) = true → dep < 6 ∧ ∃ v, md_bv (y.1.getD md_plain).2.2 = some v ∧ md_rb v = true := by
    intro hmu
    cases hy1 : y.1 with
    | none => rw [hy1] at hmu; exact absurd hmu (by decide)
    | some τ =>
      rw [hy1] at hmu
      have g1 := md_txts_ty hy rfl τ hy1 hmu
      have g2 := md_txts_rb fs hy (fun τ hτ => nomatch hτ) τ hy1 hmu
      obtain ⟨v, hv⟩ := g1.2
      rw [hv] at g2
      exact ⟨g1.1, v, hv, g2⟩
  have fin : ∀ (mu : Bool) (o : List Int32), (mu = true → md_Ty.multi (y.1.getD md_plain) = true) → SI (m.1 ++ [(par, fs, y.1.getD md_plain, y.2.1.1, mu, o)], y.2.2) ∧ DPc (m.1 ++ [(par, fs, y.1.getD md_plain, y.2.1.1, mu, o)]) dep m.1.length := by
    intro mu o hmu
    exact SI_app h h40 hty hPX.2.1 hPX.2.2 (fun g => (hrb (hmu g)).2) hdep hpar hlast
  have cst : ∀ (mu : Bool) (o : List Int32), 5 * md_cs T 0 (m.1 ++ [(par, fs, y.1.getD md_plain, y.2.1.1, mu, o)]) + 7 * a ≤ 5 * md_cs T 0 m.1 + 7 * bd + 7 * o.length + 630 := by
    intro mu o
    have := z_c1 (u := (par, fs, y.1.getD md_plain, y.2.1.1, mu, o)) hL hb hfs hy rfl rfl rfl (0 + m.1.length)
    dsimp only at this
    rw [md_cs_app]
    omega
  split at hent
  · next hmu =>
    split at hent
    · cases hent
    · cases hent
      obtain ⟨s1, s2⟩ := fin true [] (fun _ => hmu)
      refine ⟨s1, ⟨_, rfl⟩, s2, w1, hbd, fun _ => ⟨(hrb hmu).1, ?_, ?_⟩, fun hl => ?_⟩
      · dsimp only; rw [md_oc_app]; dsimp only; rw [List.append_nil]
      · have := cst true []; rw [List.length_nil] at this; dsimp only; omega
      · rw [md_last_app] at hl; exact nomatch hl
  · next hmu =>
    obtain ⟨o, ho, hent⟩ := bind_ok hent
    cases hent
    have hol := md_leaf_len ho
    obtain ⟨s1, s2⟩ := fin false o (fun g => nomatch g)
    refine ⟨s1, ⟨_, rfl⟩, s2, w1, hbd, fun hl => ?_, fun _ => ⟨?_, ?_⟩⟩
    · rw [md_last_app] at hl; exact nomatch hl
    · dsimp only; rw [md_oc_app, List.length_append]; dsimp only; omega
    · have := cst false o; dsimp only; omega
end ZID
