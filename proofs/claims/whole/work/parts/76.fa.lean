/-! ===== a message written ===== -/
def md_cr : List Int32 := [ni 13, ni 10]
/-- a text in lines of words -/
def md_fo (P : Nat → Int32) (n s : Nat) : Nat → Nat → Nat → List Int32
  | 0, _, _ => []
  | m + 1, w, k => if k < n then
      (if s < k ∧ 78 < w + (md_run P false n (md_run P true n k) - k) then md_cr ++ (md_sl P k (md_run P false n (md_run P true n k)) ++ md_fo P n s m (md_run P false n (md_run P true n k) - k) (md_run P false n (md_run P true n k)))
      else md_sl P k (md_run P false n (md_run P true n k)) ++ md_fo P n s m (w + (md_run P false n (md_run P true n k) - k)) (md_run P false n (md_run P true n k)))
    else []
def md_fold (l : List Int32) (w : Nat) : List Int32 := md_fo (md_nth l) (md_rt (md_nth l) 0 l.length) (md_run (md_nth l) true l.length 0) l.length w (md_run (md_nth l) true l.length 0)
def md_nu (v : Int32) : List Int32 := (if v < ni 10 then [] else [ni 48 + v / ni 10]) ++ [ni 48 + (v - v / ni 10 * ni 10)]
def md_pn (v : Int32) : List Int32 := md_w "part" ++ md_nu v
def md_dl (v : Int32) : List Int32 := md_w "--" ++ md_pn v
def md_nM (T : Nat → Int32) (h : md_F) : List Int32 := md_sl T h.2.1 h.2.2.1
def md_vl (T : Nat → Int32) (h : md_F) : List Int32 := md_chs T h.2.2.2 (md_go T h.2.2.2 (h.2.2.1 + 1))
def md_wf (T : Nat → Int32) (h : md_F) : List Int32 := if h.1 = 1 ∨ h.1 = 2 then [] else md_nM T h ++ (md_w ": " ++ (md_fold (md_vl T h) ((md_nM T h).length + 2) ++ md_cr))
def md_wfs (T : Nat → Int32) : List md_F → List Int32
  | [] => []
  | h :: fs => md_wf T h ++ md_wfs T fs
def md_es : List Int32 → List Int32
  | [] => []
  | c :: l => (if c = ni 34 ∨ c = ni 92 then [ni 92, c] else [c]) ++ md_es l
def md_wp (i : Nat) (bx : Option Nat) : Nat → List (List Int32 × List Int32) → List Int32
  | _, [] => []
  | n, q :: ps => md_w ";\r\n " ++ (q.1 ++ (md_w "=\"" ++ ((if bx = some n then md_pn (ni i) else md_es q.2) ++ (md_w "\"" ++ md_wp i bx (n + 1) ps))))
def md_bx (u : md_E) : Option Nat := if u.2.2.2.2.1 then u.2.2.1.2.2.findIdx? (fun q => q.1 == md_w "boundary") else none
def md_wt (i : Nat) (u : md_E) : List Int32 := md_w "content-type: " ++ (u.2.2.1.1 ++ (md_w "/" ++ (u.2.2.1.2.1 ++ (md_wp i (md_bx u) 0 u.2.2.1.2.2 ++ md_cr))))
def md_sg (v : Int32) : Int32 := md_nth (md_w "ABCDEFGHIJKLMNOPQRSTUVWXYZabcdefghijklmnopqrstuvwxyz0123456789+/") (v &&& ni 63).toNatClampNeg
def md_f4 (n : Nat) (v : Int32) : List Int32 := [md_sg (v >>> ((ni 18) &&& 31)), md_sg (v >>> ((ni 12) &&& 31)), if n ≤ 1 then ni 61 else md_sg (v >>> ((ni 6) &&& 31)), if n ≤ 2 then ni 61 else md_sg v]
def md_bt (l : List Int32) (k : Nat) : Int32 :=
  if l.length - k ≤ 1 then md_nth l k <<< ((ni 16) &&& 31)
  else if l.length - k ≤ 2 then (md_nth l k <<< ((ni 16) &&& 31)) ||| (md_nth l (k + 1) <<< ((ni 8) &&& 31))
  else ((md_nth l k <<< ((ni 16) &&& 31)) ||| (md_nth l (k + 1) <<< ((ni 8) &&& 31))) ||| md_nth l (k + 2)
def md_co (l : List Int32) : Nat → Nat → Nat → List Int32
  | 0, _, _ => []
  | m + 1, w, k => if k < l.length then (if w = 76 then md_cr else []) ++ (md_f4 (l.length - k) (md_bt l k) ++ md_co l m ((if w = 76 then 0 else w) + 4) (k + 3)) else []
def md_par (es : List md_E) (v : Int32) : Int32 := match ac_in v es.length with
  | some j => match es[j]? with
    | some u => u.1
    | none => sm_k (-1)
  | none => sm_k (-1)
def md_cl (es : List md_E) (go : Int32) : Nat → Int32 → List Int32
  | 0, _ => []
  | n + 1, v => if v ≤ ni 0 then [] else md_cr ++ (if md_par es v = go then [] else md_dl (md_par es v) ++ (md_w "--" ++ md_cl es go n (md_par es v)))
def md_we (T : Nat → Int32) (es : List md_E) (i : Nat) (u : md_E) : List Int32 :=
  (if i = 0 then [] else md_dl u.1 ++ md_cr) ++ (md_wfs T u.2.1 ++ (md_wt i u ++ (if u.2.2.2.2.1 then md_cr else md_w "content-transfer-encoding: base64\r\n\r\n" ++ (md_co u.2.2.2.2.2 u.2.2.2.2.2.length 0 0 ++ md_cl es (md_par es (ni (i + 1))) 40 (ni i)))))
def md_wr (T : Nat → Int32) (es : List md_E) : Nat → List md_E → List Int32
  | _, [] => []
  | i, u :: r => md_we T es i u ++ md_wr T es (i + 1) r
def md_write (T : Nat → Int32) (m : md_M) : List Int32 := md_wr T m.1 0 m.1
/-- the written row -/
def ws (X : Nat) (D : sm_D) (o : List Int32) : sm_D := (fun a i => if a = X + 21 then (if i = 1 then ni o.length else D.1 a i) else if a = X + 22 then (if i < o.length then md_nth o i else D.1 a i) else D.1 a i, D.2)
def WT (C : sm_K) (X t : Nat) (T' : Nat → Int32) (N : Nat) (T : Nat → Int32) (m : md_M) (pl : List Int32) (σ : Nat → List Int32) (D : sm_D) : Prop := cH C X t T' N D ∧ D.1 (t + 1) 1 = ni pl.length ∧ pl.length ≤ 16400 ∧ (∀ i, i < pl.length → D.1 (t + 2) i = md_nth pl i) ∧ SL (D.1 (t + 3)) (D.1 (t + 4)) pl σ ∧ MG T t D σ m
section CWR
variable {C : sm_K} {X t N : Nat} {T T' : Nat → Int32} {D : sm_D} {m : md_M} {pl : List Int32} {σ : Nat → List Int32} {o : List Int32}
theorem ws_o {a i : Nat} (h1 : a ≠ X + 21) (h2 : a ≠ X + 22) : (ws X D o).1 a i = D.1 a i := by unfold ws; dsimp only; rw [if_neg h1, if_neg h2]
theorem ws_f {a : Nat} (h1 : a ≠ X + 21) (h2 : a ≠ X + 22) : (ws X D o).1 a = D.1 a := by funext i; exact ws_o h1 h2
theorem MG_eq {E : sm_D} (h : MG T t D σ m) (h1 : ∀ a, t ≤ a → a ≤ t + 12 → E.1 a = D.1 a) (h2 : E.2.1 = D.2.1) : MG T t E σ m := by
  unfold MG EN TXa at h ⊢
  rw [h2, h1 t (by omega) (by omega), h1 (t + 12) (by omega) (by omega)]
  refine ⟨h.1, h.2.1, h.2.2.1, h.2.2.2.1, fun j u hu => ?_, h.2.2.2.2.2⟩
  rw [h1 (t + 5) (by omega) (by omega), h1 (t + 6) (by omega) (by omega), h1 (t + 7) (by omega) (by omega), h1 (t + 8) (by omega) (by omega), h1 (t + 9) (by omega) (by omega), h1 (t + 10) (by omega) (by omega), h1 (t + 11) (by omega) (by omega)]
  exact h.2.2.2.2.1 j u hu
theorem WT_ws (h : WT C X t T' N T m pl σ D) : WT C X t T' N T m pl σ (ws X D o) := by
  obtain ⟨⟨h1, h2, h3, h4, h5, h6, h7⟩, p1, p2, p3, p4, hG⟩ := h
  refine ⟨⟨h1, h2, h3, h4, by rw [ws_o (by omega) (by omega)]; exact h5, fun i hi => by rw [ws_o (by omega) (by omega)]; exact h6 i hi, h7⟩, by rw [ws_o (by omega) (by omega)]; exact p1, p2, fun i hi => by rw [ws_o (by omega) (by omega)]; exact p3 i hi, by rw [ws_f (by omega) (by omega), ws_f (by omega) (by omega)]; exact p4, MG_eq hG (fun a _ _ => ws_f (by omega) (by omega)) rfl⟩
theorem row_w (hX : sm_Lay C X) : sm_row C (X + 21) 20000 := sm_row_of hX 21 rfl rfl rfl
theorem w44 (hX : sm_Lay C X) {c : Int32} (hm : o.length < 20000) : sm_fe C 44 [.ref (X + 21), .int c] (ws X D o) = some (.inl none, ws X D (o ++ [c])) := by
  apply sw_eq
  refine sw_ge (f44 (row_w hX)) ?_
  have e1 : (ws X D o).1 (X + 21) 1 = ni o.length := by unfold ws; dsimp only; rw [if_pos rfl, if_pos rfl]
  have e2 : X + 21 + 1 = X + 22 := rfl
  have e3 : sm_up (ws X D o).1 (X + 22) o.length c (X + 21) 1 = ni o.length := by rw [up_ne (by omega), e1]
  simp (disch := omega) only [sw_ite, sw_some, sw_gu, e1, e2, ni_lt, ni_le, ni_in, ni_nat, e3, ni_add]
  rw [if_neg (by omega), if_neg (by omega)]
  refine ⟨decide_eq_true hm, ?_⟩
  have : sm_dI (sm_dI (ws X D o) (X + 22) o.length c) (X + 21) 1 (ni (o.length + 1)) = ws X D (o ++ [c]) := by
    refine Prod.ext ?_ rfl
    funext a i
    have hlen : (o ++ [c]).length = o.length + 1 := by rw [List.length_append]; rfl
    simp only [sm_up, ws, hlen]
    by_cases ha : a = X + 21
    · by_cases hi : i = 1 <;> simp [ha, hi]
    · by_cases hb : a = X + 22
      · subst hb
        by_cases hi : i = o.length
        · subst hi
          have := md_nth_app2 (l := o) (m := [c]) (k := 0)
          rw [Nat.add_zero] at this
          simp [this, md_nth]
        · by_cases hj : i < o.length
          · simp [hi, hj, md_nth_app hj, show i < o.length + 1 from by omega]
          · simp [hi, hj, show ¬ i < o.length + 1 from by omega]
      · simp [ha, hb]
  rw [this]
theorem drop_c {l : List Int32} {k : Nat} (h : k < l.length) : l.drop k = md_nth l k :: l.drop (k + 1) := by
  rw [List.drop_eq_getElem_cons h]
  unfold md_nth
  rw [List.getD_eq_getElem?_getD, List.getElem?_eq_getElem h]
  rfl
theorem w112 (hX : sm_Lay C X) {s : Nat} {l : List Int32} (hs : st C s l) (hl : o.length + l.length ≤ 20000) : sm_fe C 112 [.ref (X + 20), .ref s] (ws X D o) = some (.inl none, ws X D (o ++ l)) := by
  obtain ⟨w, hw, -⟩ := id hs
  have hl2 := hs
  have h1000 : l.length < 1000 := by obtain ⟨_, _, _, _, z, _⟩ := hs; exact z
  have loop : ∀ (n k : Nat) (o : List Int32), k + n = l.length → o.length + n ≤ 20000 → sm_fx C 112 2 [.ref (X + 20), .ref s, .int (ni k)] [] (ws X D o) = some (.inl none, ws X D (o ++ l.drop k)) := by
    intro n
    induction n with
    | zero =>
      intro k o hk ho
      apply sw_eq
      refine sw_ge (n112_2 hX hw) ?_
      simp (disch := omega) only [sw_bi, s260 hw, sw_some, sb_i, sw_ite, ni_le]
      rw [if_pos (by omega), List.drop_of_length_le (by omega), List.append_nil]
    | succ n ih =>
      intro k o hk ho
      have hkl : k < l.length := by omega
      apply sw_eq
      refine sw_ge (n112_2 hX hw) ?_
      simp (disch := omega) only [sw_bi, s260 hw, sw_some, sb_i, sw_ite, ni_le, s262 hs hkl, sw_bv, w44 hX (show o.length < 20000 by omega), sb_v, ni_add]
      rw [if_neg (by omega), ih (k + 1) _ (by omega) (by rw [List.length_append]; show o.length + 1 + n ≤ 20000; omega), sw_some, drop_c hkl, List.append_assoc]
      rfl
  apply sw_eq
  refine sw_ge (f112 hX hw) ?_
  rw [loop l.length 0 o (by omega) hl, sw_some, List.drop_zero]
theorem w114 (hX : sm_Lay C X) (hl : o.length + 2 ≤ 20000) : sm_fe C 114 [.ref (X + 20)] (ws X D o) = some (.inl none, ws X D (o ++ md_cr)) := by
  apply sw_eq
  refine sw_ge (f114 hX) ?_
  rw [sw_bv, w44 hX (by omega), sw_some, sb_v, sw_bv, w44 hX (by rw [List.length_append]; show o.length + 1 < 20000; omega), sw_some, sb_v, sw_some, List.append_assoc]
  rfl
end CWR
