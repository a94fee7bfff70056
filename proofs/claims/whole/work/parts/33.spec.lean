/-! ===== what is asked of a reading and of a writing: places are Nat, letters are Int32; an error is a place ===== -/
def md_w (s : String) : List Int32 := s.toList.map (fun c => ni c.toNat)
def md_b (b : Bool) : Int32 := if b then ni 1 else ni 0
def md_in (c : Int32) (a b : Nat) : Bool := decide (ni a ≤ c) && decide (c ≤ ni b)
def md_bl (c : Int32) : Bool := decide (c = ni 32) || decide (c = ni 9)
def md_dg (c : Int32) : Bool := md_in c 48 57
def md_lt (c : Int32) : Bool := md_in c 97 122 || md_in c 65 90
def md_sm (c : Int32) : Int32 := if md_in c 65 90 then c + ni 32 else c
def md_tok (c : Int32) : Bool := md_in c 33 126 && !((md_w "()<>@,;:\\\"/[]?=").contains c)
def md_atm (c : Int32) : Bool := md_lt c || md_dg c || (md_w "!#$%&'*+-/=?^_`{|}~").contains c
def md_bs (c : Int32) : Bool := md_lt c || md_dg c || (md_w " '()+,-./_:=?").contains c
def md_six (c : Int32) : Int32 := if md_in c 65 90 then c - ni 65 else if md_in c 97 122 then c - ni 97 + ni 26 else if md_dg c then c - ni 48 + ni 52 else if c = ni 43 then ni 62 else if c = ni 47 then ni 63 else sm_k (-1)
def md_hex (c : Int32) : Int32 := if md_dg c then c - ni 48 else if md_in c 65 70 then c - ni 65 + ni 10 else sm_k (-1)
def md_hx (a b : Int32) : Int32 := if md_hex a = sm_k (-1) ∨ md_hex b = sm_k (-1) then sm_k (-1) else ni 16 * md_hex a + md_hex b
def md_nth (l : List Int32) (k : Nat) : Int32 := l.getD k (sm_k (-1))
/-- the word, in small letters, stands from a place on -/
def md_at (T : Nat → Int32) : Nat → List Int32 → Bool
  | _, [] => true
  | a, c :: w => decide (md_sm (T a) = c) && md_at T (a + 1) w
def md_is (T : Nat → Int32) (a n : Nat) (w : String) : Bool := decide (n = (md_w w).length) && md_at T a (md_w w)
/-! the tape's lines -/
def md_lns (T : Nat → Int32) (N i l : Nat) : Option Nat :=
  if i < N then
    if T i = ni 13 ∧ i + 1 < N ∧ T (i + 1) = ni 10 then md_lns T N (i + 2) 0
    else if T i = ni 13 ∨ T i = ni 10 ∨ 998 ≤ l then some i
    else md_lns T N (i + 1) (l + 1)
  else none
termination_by N - i
/-! fields -/
/-- a field: its kind, where its name begins, its colon, the line end that ends its text -/
abbrev md_F : Type := Nat × Nat × Nat × Nat
abbrev md_F.kind (f : md_F) : Nat := f.1
abbrev md_F.a (f : md_F) : Nat := f.2.1
abbrev md_F.c (f : md_F) : Nat := f.2.2.1
abbrev md_F.z (f : md_F) : Nat := f.2.2.2
def md_kd (T : Nat → Int32) (i a n : Nat) : Nat :=
  if md_is T a n "content-type" then 1 else if md_is T a n "content-transfer-encoding" then 2 else if 0 < i then 0
  else if md_is T a n "subject" then 3 else if md_is T a n "date" then 4 else if md_is T a n "from" then 5 else if md_is T a n "to" then 6 else 0
def md_nm (T : Nat → Int32) (b a p : Nat) : Except Nat Nat :=
  if p < b then
    if T p = ni 58 then (if p = a then .error p else .ok p)
    else if md_in (T p) 33 126 = false ∨ p = a + 40 then .error p
    else md_nm T b a (p + 1)
  else .error b
termination_by b - p
def md_tx (T : Nat → Int32) (b p : Nat) : Except Nat Nat :=
  if p < b then
    if T p = ni 13 then (if p + 2 < b ∧ md_bl (T (p + 2)) = true then md_tx T b (p + 2) else .ok p)
    else if md_in (T p) 32 126 = true ∨ T p = ni 9 then md_tx T b (p + 1)
    else .error p
  else .error b
termination_by b - p
def md_fs (T : Nat → Int32) (i b tot : Nat) (fs : List md_F) (p : Nat) : Except Nat (List md_F × Nat) :=
  if p < b then
    if T p = ni 13 then .ok (fs, p + 2)
    else if h : 20 ≤ fs.length ∨ 200 ≤ tot + fs.length then .error p
    else match md_nm T b p p with
      | .error f => .error f
      | .ok c =>
        if 0 < md_kd T i p (c - p) ∧ fs.any (fun g => g.kind == md_kd T i p (c - p)) = true then .error p
        else match md_tx T b (c + 1) with
          | .error f => .error f
          | .ok z => md_fs T i b tot (fs ++ [(md_kd T i p (c - p), p, c, z)]) (z + 2)
  else .error b
termination_by 20 - fs.length
decreasing_by rw [List.length_append, List.length_singleton]; omega
/-! the walk over a text that ends at e -/
def md_go (T : Nat → Int32) (e q : Nat) : Nat := if q < e ∧ T q = ni 13 then q + 2 else q
def md_nx (T : Nat → Int32) (e p : Nat) : Nat := if p < e then md_go T e (p + 1) else p
theorem md_nx_gt {T : Nat → Int32} {e p : Nat} (h : p < e) : e - md_nx T e p < e - p := by
  unfold md_nx md_go
  rw [if_pos h]
  split <;> omega
def md_cu (T : Nat → Int32) (e p : Nat) : Int32 := if p < e then T p else sm_k (-1)
def md_chs (T : Nat → Int32) (e p : Nat) : List Int32 := if h : p < e then T p :: md_chs T e (md_nx T e p) else []
termination_by e - p
decreasing_by exact md_nx_gt h
def md_space (T : Nat → Int32) (e d p : Nat) : Except Nat Nat :=
  if h : p < e then
    if T p = ni 40 then (if d = 10 then .error p else md_space T e (d + 1) (md_nx T e p))
    else if d = 0 then (if md_bl (T p) = true then md_space T e 0 (md_nx T e p) else .ok p)
    else if T p = ni 41 then md_space T e (d - 1) (md_nx T e p)
    else if T p = ni 92 then (if h2 : md_nx T e p < e then md_space T e d (md_nx T e (md_nx T e p)) else .error (md_nx T e p))
    else md_space T e d (md_nx T e p)
  else if d = 0 then .ok p else .error p
termination_by e - p
decreasing_by
  all_goals first
    | exact md_nx_gt h
    | exact Nat.lt_trans (md_nx_gt h2) (md_nx_gt h)
def md_word (T : Nat → Int32) (e : Nat) (f : Int32 → Bool) (n p : Nat) : Except Nat (List Int32 × Nat) :=
  if h : p < e ∧ f (T p) = true then
    if n = 60 then .error p
    else match md_word T e f (n + 1) (md_nx T e p) with
      | .error x => .error x
      | .ok (xs, p') => .ok (T p :: xs, p')
  else if n = 0 then .error p else .ok ([], p)
termination_by e - p
decreasing_by exact md_nx_gt h.1
def md_quo (T : Nat → Int32) (e lim n p : Nat) : Except Nat (List Int32 × Nat) :=
  if h : p < e then
    if T p = ni 34 then .ok ([], md_nx T e p)
    else if n = lim then .error p
    else if T p = ni 92 then
      if h2 : md_nx T e p < e then
        match md_quo T e lim (n + 1) (md_nx T e (md_nx T e p)) with
        | .error x => .error x
        | .ok (xs, p') => .ok (T (md_nx T e p) :: xs, p')
      else .error (md_nx T e p)
    else match md_quo T e lim (n + 1) (md_nx T e p) with
      | .error x => .error x
      | .ok (xs, p') => .ok (T p :: xs, p')
  else .error p
termination_by e - p
decreasing_by
  all_goals first
    | exact Nat.lt_trans (md_nx_gt h2) (md_nx_gt h)
    | exact md_nx_gt h
def md_eat (T : Nat → Int32) (e : Nat) (c : Int32) (p : Nat) : Except Nat Nat := if p < e ∧ T p = c then .ok (md_nx T e p) else .error p
def md_end (e p : Nat) : Except Nat Unit := if p < e then .error p else .ok ()
def md_dots (T : Nat → Int32) (e n p : Nat) : Except Nat (List Int32 × Nat) := match n with
  | 0 => .ok ([], p)
  | n + 1 =>
    if p < e ∧ T p = ni 46 then do
      let (xs, p1) ← md_word T e md_atm 0 (md_nx T e p)
      let (ys, p2) ← md_dots T e n p1
      .ok (ni 46 :: (xs ++ ys), p2)
    else .ok ([], p)
def md_dotted (T : Nat → Int32) (e p : Nat) : Except Nat (List Int32 × Bool × Nat) := do
  let (xs, p1) ← md_word T e md_atm 0 p
  let (ys, p2) ← md_dots T e e p1
  .ok (xs ++ ys, !ys.isEmpty, p2)
/-! types and codes -/
/-- one parameter, behind its semicolon -/
def md_par1 (T : Nat → Int32) (e : Nat) (ps : List (List Int32 × List Int32)) (p : Nat) : Except Nat ((List Int32 × List Int32) × Nat) := do
  let p1 ← md_space T e 0 p
  let (a, p2) ← md_word T e md_tok 0 p1
  if ps.any (fun q => q.1 == a.map md_sm) = true then .error p1 else do
    let p3 ← md_space T e 0 p2
    let p4 ← md_eat T e (ni 61) p3
    let p5 ← md_space T e 0 p4
    let (v, p6) ← if p5 < e ∧ T p5 = ni 34 then md_quo T e 100 0 (md_nx T e p5) else md_word T e md_tok 0 p5
    .ok ((a.map md_sm, v), p6)
def md_pars (T : Nat → Int32) (e n : Nat) (ps : List (List Int32 × List Int32)) (p : Nat) : Except Nat (List (List Int32 × List Int32) × Nat) := match n with
  | 0 => .ok (ps, p)
  | n + 1 =>
    if p < e ∧ T p = ni 59 then do
      let (q, p6) ← md_par1 T e ps (md_nx T e p)
      let p7 ← md_space T e 0 p6
      md_pars T e n (ps ++ [q]) p7
    else .ok (ps, p)
def md_bv (ps : List (List Int32 × List Int32)) : Option (List Int32) := (ps.find? (fun q => q.1 == md_w "boundary")).map (·.2)
def md_rb (v : List Int32) : Bool := decide (1 ≤ v.length) && decide (v.length ≤ 70) && v.all md_bs && !(v.getLast? == some (ni 32))
/-- a type: type, subtype, parameters -/
abbrev md_Ty : Type := List Int32 × List Int32 × List (List Int32 × List Int32)
def md_Ty.multi (t : md_Ty) : Bool := t.1 == md_w "multipart"
def md_type (T : Nat → Int32) (e dep p : Nat) : Except Nat md_Ty := do
  let p1 ← md_space T e 0 p
  let (a, p2) ← md_word T e md_tok 0 p1
  let p3 ← md_space T e 0 p2
  let p4 ← md_eat T e (ni 47) p3
  let p5 ← md_space T e 0 p4
  let (b, p6) ← md_word T e md_tok 0 p5
  let p7 ← md_space T e 0 p6
  let (ps, p8) ← md_pars T e 6 [] p7
  md_end e p8
  if a.map md_sm = md_w "multipart" ∧ ¬ (dep < 6 ∧ (md_bv ps).any md_rb = true) then .error p1
  else .ok (a.map md_sm, b.map md_sm, ps)
def md_codeOf (a : List Int32) : Option Nat :=
  if a = md_w "7bit" then some 0 else if a = md_w "8bit" then some 1 else if a = md_w "binary" then some 2 else if a = md_w "base64" then some 3 else if a = md_w "quoted-printable" then some 4 else none
def md_code (T : Nat → Int32) (e p : Nat) : Except Nat (Nat × Nat) := do
  let p1 ← md_space T e 0 p
  let (a, p2) ← md_word T e md_tok 0 p1
  match md_codeOf (a.map md_sm) with
  | none => .error p1
  | some k => do
    let p3 ← md_space T e 0 p2
    md_end e p3
    .ok (k, p1)
/-! dates -/
def md_lets (T : Nat → Int32) (e p : Nat) : List Int32 × Nat :=
  if h : p < e ∧ md_lt (T p) = true then
    ((T p) :: (md_lets T e (md_nx T e p)).1, (md_lets T e (md_nx T e p)).2)
  else ([], p)
termination_by e - p
decreasing_by all_goals exact md_nx_gt h.1
/-- the number of a word of three among words of three -/
def md_idx (a : List Int32) : Nat → List Int32 → Option Nat
  | k, x :: y :: z :: ws => if a = [x, y, z] then some k else md_idx a (k + 1) ws
  | _, _ => none
def md_wd (T : Nat → Int32) (e : Nat) (ws : String) (p : Nat) : Except Nat (Nat × Nat) :=
  match md_idx ((md_lets T e p).1.map md_sm) 0 (md_w ws) with
  | none => .error p
  | some k => .ok (k, (md_lets T e p).2)
/-- n digits -/
def md_num (T : Nat → Int32) (e : Nat) : Nat → Nat → Nat → Except Nat (Nat × Nat)
  | 0, v, p => .ok (v, p)
  | n + 1, v, p => if p < e ∧ md_dg (T p) = true then md_num T e n (v * 10 + ((T p).toInt.toNat - 48)) (md_nx T e p) else .error p
def md_two (T : Nat → Int32) (e most p : Nat) : Except Nat (Nat × Nat) := do
  let (v, p1) ← md_num T e 2 0 p
  if most < v then .error p else .ok (v, p1)
def md_leap (y : Nat) : Bool := decide (y % 4 = 0) && (decide (y % 100 ≠ 0) || decide (y % 400 = 0))
def md_dom (m y : Nat) : Nat := if m = 1 then (if md_leap y then 29 else 28) else if m = 3 ∨ m = 5 ∨ m = 8 ∨ m = 10 then 30 else 31
def md_dbm (y : Nat) : Nat → Nat
  | 0 => 0
  | m + 1 => md_dbm y m + md_dom m y
def md_days (y m d : Nat) : Int := 365 * ((y : Int) - 1) + ((y - 1) / 4 : Nat) - ((y - 1) / 100 : Nat) + ((y - 1) / 400 : Nat) + (md_dbm y m : Int) + (d : Int) - 1 - 719162
/-- the weekday, if there is one -/
def md_wkd (T : Nat → Int32) (e p : Nat) : Except Nat (Option Nat × Nat) :=
  if p < e ∧ md_lt (T p) = true then do
    let (w, q1) ← md_wd T e "montuewedthufrisatsun" p
    let q2 ← md_space T e 0 q1
    let q3 ← md_eat T e (ni 44) q2
    let q4 ← md_space T e 0 q3
    .ok (some w, q4)
  else .ok (none, p)
/-- month and year behind a day that stands at a place -/
def md_dmy2 (T : Nat → Int32) (e p d p3 : Nat) : Except Nat ((Nat × Nat × Nat) × Nat) := do
  let p4 ← md_space T e 0 p3
  let (m, p5) ← md_wd T e "janfebmaraprmayjunjulaugsepoctnovdec" p4
  let p6 ← md_space T e 0 p5
  let (y, p7) ← md_num T e 4 0 p6
  if y < 1600 then .error p6
  else if d < 1 ∨ md_dom m y < d then .error p
  else .ok ((y, m, d), p7)
/-- day, month and year -/
def md_dmy (T : Nat → Int32) (e p : Nat) : Except Nat ((Nat × Nat × Nat) × Nat) := do
  let (d0, p2) ← md_num T e 1 0 p
  let (d, p3) ← if p2 < e ∧ md_dg (T p2) = true then md_num T e 1 d0 p2 else .ok (d0, p2)
  md_dmy2 T e p d p3
def md_time (T : Nat → Int32) (e p : Nat) : Except Nat (Nat × Nat) := do
  let (hh, p1) ← md_two T e 23 p
  let p2 ← md_space T e 0 p1
  let p3 ← md_eat T e (ni 58) p2
  let p4 ← md_space T e 0 p3
  let (mm, p5) ← md_two T e 59 p4
  let p6 ← md_space T e 0 p5
  if p6 < e ∧ T p6 = ni 58 then do
    let q1 ← md_space T e 0 (md_nx T e p6)
    let (s, q2) ← md_two T e 59 q1
    .ok (hh * 3600 + mm * 60 + s, q2)
  else .ok (hh * 3600 + mm * 60, p6)
def md_zone (T : Nat → Int32) (e p : Nat) : Except Nat (Int × Nat) :=
  if p < e ∧ (T p = ni 43 ∨ T p = ni 45) then do
    let (zh, p1) ← md_two T e 23 (md_nx T e p)
    let (zm, p2) ← md_two T e 59 p1
    .ok (if T p = ni 45 then -((zh * 60 + zm : Nat) : Int) else ((zh * 60 + zm : Nat) : Int), p2)
  else .error p
def md_date (T : Nat → Int32) (e p0 : Nat) : Except Nat (Int × Int) := do
  let p ← md_space T e 0 p0
  let (wd, p1) ← md_wkd T e p
  let (ymd, p2) ← md_dmy T e p1
  let p3 ← md_space T e 0 p2
  let (s, p4) ← md_time T e p3
  let p5 ← md_space T e 0 p4
  let (z, p6) ← md_zone T e p5
  let p7 ← md_space T e 0 p6
  md_end e p7
  if wd.any (fun (w : Nat) => (w : Int) != (md_days ymd.1 ymd.2.1 ymd.2.2 + 3) % 7) = true then .error p
  else .ok (86400 * md_days ymd.1 ymd.2.1 ymd.2.2 + s - 60 * z, z)
/-! addresses: name, local part, domain -/
def md_dm (T : Nat → Int32) (e p : Nat) : Except Nat (List Int32 × Nat) := do
  let p2 ← md_space T e 0 p
  let (xs, _, p3) ← md_dotted T e p2
  let p4 ← md_space T e 0 p3
  .ok (xs.map md_sm, p4)
def md_sp1 (T : Nat → Int32) (e : Nat) (lo : List Int32) (p2 : Nat) : Except Nat (List Int32 × Nat) := do
  let p3 ← md_space T e 0 p2
  .ok (lo, p3)
def md_loc (T : Nat → Int32) (e p : Nat) : Except Nat (List Int32 × Nat) := do
  let p1 ← md_space T e 0 p
  let (lo, p2) ← if p1 < e ∧ T p1 = ni 34 then md_quo T e 8000 0 (md_nx T e p1) else (md_dotted T e p1).map (fun a => (a.1, a.2.2))
  md_sp1 T e lo p2
/-- the words behind the first, up to < -/
def md_wds (T : Nat → Int32) (e n p : Nat) : Except Nat (List Int32 × Nat) := match n with
  | 0 => .error p
  | n + 1 =>
    if p < e ∧ T p = ni 60 then .ok ([], p)
    else do
      let (xs, p1) ← if p < e ∧ T p = ni 34 then md_quo T e 8000 0 (md_nx T e p) else md_word T e md_atm 0 p
      let p2 ← md_space T e 0 p1
      let (ys, p3) ← md_wds T e n p2
      .ok (ni 32 :: (xs ++ ys), p3)
/-- how an address begins: whether < follows, the words before it or the local part -/
def md_beg (T : Nat → Int32) (e p : Nat) : Except Nat ((Bool × List Int32) × Nat) :=
  if p < e ∧ T p = ni 60 then .ok ((true, []), p)
  else do
    let (xs, dt, p1) ← if p < e ∧ T p = ni 34 then (md_quo T e 8000 0 (md_nx T e p)).map (fun a => (a.1, false, a.2)) else md_dotted T e p
    let p2 ← md_space T e 0 p1
    if dt = true ∨ (p2 < e ∧ T p2 = ni 64) then .ok ((false, xs), p2)
    else do
      let (ys, p3) ← md_wds T e (e + 1) p2
      .ok ((true, xs ++ ys), p3)
def md_adr (T : Nat → Int32) (e p : Nat) : Except Nat ((List Int32 × List Int32 × List Int32) × Nat) := do
  let (b, p1) ← md_beg T e p
  if b.1 = true then do
    let (lo, p3) ← md_loc T e (md_nx T e p1)
    let p4 ← md_eat T e (ni 64) p3
    let (dm, p5) ← md_dm T e p4
    let p6 ← md_eat T e (ni 62) p5
    let p7 ← md_space T e 0 p6
    .ok ((b.2, lo, dm), p7)
  else do
    let p4 ← md_eat T e (ni 64) p1
    let (dm, p5) ← md_dm T e p4
    .ok (([], b.2, dm), p5)
def md_adrs (T : Nat → Int32) (e n : Nat) (l : List (List Int32 × List Int32 × List Int32)) (p : Nat) : Except Nat (List (List Int32 × List Int32 × List Int32)) := do
  let p1 ← md_space T e 0 p
  match n with
  | 0 => .error p1
  | n + 1 => do
    let (a, p2) ← md_adr T e p1
    if p2 < e then do
      let p3 ← md_eat T e (ni 44) p2
      md_adrs T e n (l ++ [a]) p3
    else .ok (l ++ [a])
/-! base64 -/
/-- the bits that a pad leaves over -/
def md_lo (v : Int32) (h : Nat) : Int32 := if h = 2 then v &&& ni 15 else v &&& ni 3
def md_tk (v : Int32) (h pd : Nat) (c : Int32) : Except Bool (Int32 × Nat × Nat × List Int32) :=
  if (c = ni 61 ∧ h < 2) ∨ (c ≠ ni 61 ∧ (md_six c = sm_k (-1) ∨ 0 < pd)) then .error false
  else if c = ni 61 ∧ pd = 0 ∧ md_lo v h ≠ ni 0 then .error true
  else
    let v' := (v <<< ni 6) ||| (if c = ni 61 then ni 0 else md_six c)
    let pd' := if c = ni 61 then pd + 1 else pd
    if h = 3 then .ok (ni 0, 0, pd', [(v' >>> ni 16) &&& ni 255, (v' >>> ni 8) &&& ni 255, v' &&& ni 255].take (3 - pd'))
    else .ok (v', h + 1, pd', [])
def md_b64 (T : Nat → Int32) (b : Nat) (v : Int32) (h pd last p : Nat) : Except Nat (List Int32) :=
  if p < b then
    if T p = ni 13 ∨ T p = ni 10 then md_b64 T b v h pd last (p + 1)
    else match md_tk v h pd (T p) with
      | .error true => .error last
      | .error false => .error p
      | .ok (v', h', pd', xs) => match md_b64 T b v' h' pd' (if T p = ni 61 then last else p) (p + 1) with
        | .error f => .error f
        | .ok ys => .ok (xs ++ ys)
  else if h = 0 then .ok [] else .error b
termination_by b - p
/-! bodies -/
def md_pln (T : Nat → Int32) (b code p : Nat) : Except Nat (List Int32) :=
  if p < b then
    if (T p = ni 0 ∧ code ≠ 2) ∨ (ni 127 < T p ∧ code = 0) then .error p
    else match md_pln T b code (p + 1) with
      | .error f => .error f
      | .ok ys => .ok (T p :: ys)
  else .ok []
termination_by b - p
def md_qp (T : Nat → Int32) (b p : Nat) : Except Nat (List Int32) :=
  if p < b then
    if T p = ni 61 then
      if b ≤ p + 1 ∨ T (p + 1) = ni 13 then md_qp T b (p + 3)
      else if p + 2 < b ∧ md_hx (T (p + 1)) (T (p + 2)) ≠ sm_k (-1) then
        match md_qp T b (p + 3) with
        | .error f => .error f
        | .ok ys => .ok (md_hx (T (p + 1)) (T (p + 2)) :: ys)
      else .error p
    else if md_in (T p) 33 126 = true ∨ (md_bl (T p) = true ∧ ¬ (b ≤ p + 1 ∨ T (p + 1) = ni 13)) ∨ T p = ni 13 ∨ T p = ni 10 then
      match md_qp T b (p + 1) with
      | .error f => .error f
      | .ok ys => .ok (T p :: ys)
    else .error p
  else .ok []
termination_by b - p
def md_leaf (T : Nat → Int32) (code a b : Nat) : Except Nat (List Int32) :=
  if code = 3 then md_b64 T b (ni 0) 0 0 a a else if code = 4 then md_qp T b a else md_pln T b code a
/-! subjects: P is a text's letters by number, n how many -/
def md_run (P : Nat → Int32) (bl : Bool) (n k : Nat) : Nat := if k < n ∧ md_bl (P k) = bl then md_run P bl n (k + 1) else k
termination_by n - k
def md_mark (P : Nat → Int32) (n k : Nat) : Nat := if k < n ∧ P k ≠ ni 63 then md_mark P n (k + 1) else k
termination_by n - k
def md_mB (P : Nat → Int32) (n : Nat) (v : Int32) (h pd k : Nat) : Option (List Int32) :=
  if k < n then match md_tk v h pd (P k) with
    | .error _ => none
    | .ok (v', h', pd', xs) => (md_mB P n v' h' pd' (k + 1)).map (fun ys => xs ++ ys)
  else if h = 0 then some [] else none
termination_by n - k
def md_mQ (P : Nat → Int32) (n k : Nat) : Option (List Int32) :=
  if k < n then
    if P k = ni 61 then
      if k + 2 < n ∧ md_hx (P (k + 1)) (P (k + 2)) ≠ sm_k (-1) then (md_mQ P n (k + 3)).map (fun ys => md_hx (P (k + 1)) (P (k + 2)) :: ys) else none
    else (md_mQ P n (k + 1)).map (fun ys => (if P k = ni 95 then ni 32 else P k) :: ys)
  else some []
termination_by n - k
def md_chset (P : Nat → Int32) (a n : Nat) : Option Nat := if md_is P a n "us-ascii" then some 0 else if md_is P a n "iso-8859-1" then some 1 else if md_is P a n "utf-8" then some 2 else none
/-- an encoded word's charset and bytes -/
def md_enc (P : Nat → Int32) (a n : Nat) : Option (Nat × List Int32) :=
  let m := md_mark P n (a + 2)
  let z := md_mark P n (m + 3)
  if n ≤ a + 75 ∧ m + 3 < z ∧ z + 2 = n ∧ P a = ni 61 ∧ P (a + 1) = ni 63 ∧ P (m + 2) = ni 63 ∧ P (n - 1) = ni 61 then
    match md_chset P (a + 2) (m - (a + 2)) with
    | none => none
    | some cs =>
      if md_sm (P (m + 1)) = ni 98 then (md_mB P z (ni 0) 0 0 (m + 3)).map (fun l => (cs, l))
      else if md_sm (P (m + 1)) = ni 113 then (md_mQ P z (m + 3)).map (fun l => (cs, l))
      else none
  else none
def md_mr (c : Int32) : Bool := md_in c 128 191
def md_nat (c : Int32) : Nat := c.toInt.toNat
/-- one point of bytes in utf-8, and how many bytes are behind the first -/
def md_u8 (b x y z : Int32) : Int32 × Nat :=
  if b < ni 128 then (b, 0)
  else if md_in b 194 223 && md_mr x then (ni (md_nat b % 32 * 64 + md_nat x % 64), 1)
  else if md_in b 224 239 && md_mr x && md_mr y then
    let w := (md_nat b % 16 * 64 + md_nat x % 64) * 64 + md_nat y % 64
    if 2048 ≤ w ∧ ¬ (55296 ≤ w ∧ w ≤ 57343) then (ni w, 2) else (ni 65533, 0)
  else if md_in b 240 244 && md_mr x && md_mr y && md_mr z then
    let w := ((md_nat b % 8 * 64 + md_nat x % 64) * 64 + md_nat y % 64) * 64 + md_nat z % 64
    if 65536 ≤ w ∧ w ≤ 1114111 then (ni w, 3) else (ni 65533, 0)
  else (ni 65533, 0)
/-- the points of bytes from a place on -/
def md_pts (cs : Nat) (l : List Int32) : Nat → Nat → List Int32
  | 0, _ => []
  | n + 1, i =>
    if i < l.length then
      if cs = 2 then (md_u8 (md_nth l i) (md_nth l (i + 1)) (md_nth l (i + 2)) (md_nth l (i + 3))).1 :: md_pts cs l n (i + 1 + (md_u8 (md_nth l i) (md_nth l (i + 1)) (md_nth l (i + 2)) (md_nth l (i + 3))).2)
      else (if cs = 0 ∧ ni 127 < md_nth l i then ni 65533 else md_nth l i) :: md_pts cs l n (i + 1)
    else []
def md_sl (P : Nat → Int32) (a b : Nat) : List Int32 := (List.range (b - a)).map (fun k => P (a + k))
def md_sub (P : Nat → Int32) (n m k : Nat) (was : Bool) : List Int32 := match m with
  | 0 => []
  | m + 1 =>
    if k < n then
      let w := md_run P true n k
      let z := md_run P false n w
      match (if w < z then md_enc P w z else none) with
      | some (cs, l) => (if was then [] else md_sl P k w) ++ md_pts cs l l.length 0 ++ md_sub P n m z true
      | none => md_sl P k w ++ md_sl P w z ++ md_sub P n m z false
    else []
/-- the end without blanks -/
def md_rt (P : Nat → Int32) (a : Nat) : Nat → Nat
  | 0 => 0
  | b + 1 => if a < b + 1 ∧ md_bl (P b) = true then md_rt P a b else b + 1
def md_subj (l : List Int32) : List Int32 := md_sub (md_nth l) (md_rt (md_nth l) 0 l.length) l.length (md_run (md_nth l) true l.length 0) false
/-! parts -/
/-- a delimiter: its place, the next line's place, whether it closes -/
abbrev md_D : Type := Nat × Nat × Bool
def md_eol (T : Nat → Int32) (b p : Nat) : Nat := if p < b ∧ T p ≠ ni 13 then md_eol T b (p + 1) else p
termination_by b - p
def md_eqs (T : Nat → Int32) : Nat → List Int32 → Bool
  | _, [] => true
  | a, c :: w => decide (T a = c) && md_eqs T (a + 1) w
def md_dash (T : Nat → Int32) (p z : Nat) : Bool := decide (p + 2 ≤ z) && decide (T p = ni 45) && decide (T (p + 1) = ni 45)
def md_bls (T : Nat → Int32) (z p : Nat) : Bool := if p < z then md_bl (T p) && md_bls T z (p + 1) else true
termination_by z - p
theorem md_eol_ge (T : Nat → Int32) (b p : Nat) : p ≤ md_eol T b p := by
  unfold md_eol
  split
  · exact Nat.le_trans (Nat.le_succ p) (md_eol_ge T b (p + 1))
  · exact Nat.le_refl p
termination_by b - p
def md_del (T : Nat → Int32) (v : List Int32) (b p : Nat) : Option md_D :=
  if p < b then
    let z := md_eol T b p
    let k := p + 2 + v.length
    if k ≤ z ∧ md_dash T p z = true ∧ md_eqs T (p + 2) v = true ∧ md_bls T z (if md_dash T k z then k + 2 else k) = true then
      some (p, min (z + 2) b, md_dash T k z)
    else md_del T v b (z + 2)
  else none
termination_by b - p
decreasing_by
  have := md_eol_ge T b p
  omega
/-- an entity: parent, fields, type, code, whether it is a multipart, octets -/
abbrev md_E : Type := Int32 × List md_F × md_Ty × Nat × Bool × List Int32
abbrev md_E.par (e : md_E) : Int32 := e.1
abbrev md_E.fs (e : md_E) : List md_F := e.2.1
abbrev md_E.ty (e : md_E) : md_Ty := e.2.2.1
abbrev md_E.code (e : md_E) : Nat := e.2.2.2.1
abbrev md_E.multi (e : md_E) : Bool := e.2.2.2.2.1
abbrev md_E.oct (e : md_E) : List Int32 := e.2.2.2.2.2
abbrev md_A : Type := Bool → List (List Int32 × List Int32 × List Int32)
/-- a message: entities, subject, seconds, zone, addresses -/
abbrev md_M : Type := List md_E × List Int32 × (Int × Int) × md_A
def md_M.tot (m : md_M) : Nat := (m.1.map (fun e => e.2.1.length)).sum
/-- what the texts of an entity's fields tell -/
abbrev md_X : Type := Option md_Ty × (Nat × Nat) × List Int32 × (Int × Int) × md_A
def md_txt1 (T : Nat → Int32) (dep : Nat) (f : md_F) (x : md_X) : Except Nat md_X :=
  if f.1 = 1 then do
    let t ← md_type T f.2.2.2 dep (md_go T f.2.2.2 (f.2.2.1 + 1))
    .ok (some t, x.2)
  else if f.1 = 2 then do
    let k ← md_code T f.2.2.2 (md_go T f.2.2.2 (f.2.2.1 + 1))
    .ok (x.1, k, x.2.2)
  else if f.1 = 3 then .ok (x.1, x.2.1, md_subj (md_chs T f.2.2.2 (md_go T f.2.2.2 (f.2.2.1 + 1))), x.2.2.2)
  else if f.1 = 4 then do
    let s ← md_date T f.2.2.2 (md_go T f.2.2.2 (f.2.2.1 + 1))
    .ok (x.1, x.2.1, x.2.2.1, s, x.2.2.2.2)
  else if f.1 = 5 ∨ f.1 = 6 then do
    let l ← md_adrs T f.2.2.2 10 [] (md_go T f.2.2.2 (f.2.2.1 + 1))
    .ok (x.1, x.2.1, x.2.2.1, x.2.2.2.1, fun b => if b = decide (f.1 = 6) then l else x.2.2.2.2 b)
  else .ok x
def md_txts (T : Nat → Int32) (dep : Nat) : List md_F → md_X → Except Nat md_X
  | [], x => .ok x
  | f :: fs, x => do
    let y ← md_txt1 T dep f x
    md_txts T dep fs y
def md_plain : md_Ty := (md_w "text", md_w "plain", [])
/-- an open multipart: its number, its end, the delimiter found last -/
abbrev md_O : Type := Nat × Nat × md_D
/-- an entity from a to b: the message with it, its body's place -/
def md_ent (T : Nat → Int32) (dep : Nat) (par : Int32) (a b : Nat) (m : md_M) : Except Nat (md_M × Nat) := do
  let (fs, body) ← md_fs T m.1.length b m.tot [] a
  let x ← md_txts T dep fs (none, (0, 0), m.2)
  let t := x.1.getD md_plain
  if t.multi = true then
    if 2 < x.2.1.1 then .error x.2.1.2
    else .ok ((m.1 ++ [(par, fs, t, x.2.1.1, true, [])], x.2.2), body)
  else do
    let o ← md_leaf T x.2.1.1 body b
    .ok ((m.1 ++ [(par, fs, t, x.2.1.1, false, o)], x.2.2), body)
def md_bnd (m : md_M) (i : Nat) : List Int32 := match m.1[i]? with
  | some e => (md_bv e.2.2.1.2.2).getD []
  | none => []
/-- a new multipart, the latest entity, is opened -/
def md_open (T : Nat → Int32) (m : md_M) (body b : Nat) : Except Nat md_O :=
  match md_del T (md_bnd m (m.1.length - 1)) b body with
  | none => .error b
  | some d => if d.2.2 then .error d.1 else .ok (m.1.length - 1, b, d)
def md_last (m : md_M) : Bool := (m.1.getLast?.map (fun e => e.2.2.2.2.1)).getD false
/-- the open multiparts, the innermost first -/
def md_msg (T : Nat → Int32) (n : Nat) (par : Int32) (a b : Nat) (m : md_M) (st : List md_O) : Except Nat md_M := do
  let (m1, body) ← md_ent T st.length par a b m
  let st1 ← if md_last m1 then (md_open T m1 body b).map (fun o => o :: st) else .ok st
  match st1.dropWhile (fun o => o.2.2.2.2) with
  | [] => .ok m1
  | o :: r => match n with
    | 0 => .error o.2.2.1
    | n + 1 => match md_del T (md_bnd m1 o.1) o.2.1 o.2.2.2.1 with
      | none => .error o.2.1
      | some d => md_msg T n (ni o.1) o.2.2.2.1 (max o.2.2.2.1 (d.1 - 2)) m1 ((o.1, o.2.1, d) :: r)
def md_read (T : Nat → Int32) (N : Nat) : Except Nat md_M := match md_lns T N 0 0 with
  | some f => .error f
  | none => md_msg T 39 (sm_k (-1)) 0 N ([], [], (0, 0), fun _ => []) []
