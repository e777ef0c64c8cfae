/-! THE PARSER, pure: a fault (0: none), where it stands, what came to the code -/
abbrev PR : Type := Int × Nat × List (Int × Int)
def pBind (r : PR) (h : Nat → PR) : PR := if r.1 = 0 then ((h r.2.1).1, (h r.2.1).2.1, r.2.2 ++ (h r.2.1).2.2) else (r.1, r.2.1, [])
def pOne (op : Int) (c : Nat) : PR := (0, c, [(op, 0)])
def isNm (lw : Bool) (k : Int) : Bool := if lw = true then decide (262 ≤ k ∧ k ≤ 270) else decide (262 < k ∧ k ≤ 273 ∧ k ≠ 268 ∧ k ≠ 270)
def askOf (k : Int) : Int := if k = 271 then 11 else if k = 272 then 9 else if k = 273 then 10 else k - 262
def opOf (k : Int) : Int := if k = 43 then 2 else if k = 45 then 3 else if k = 42 then 4 else if k = 47 then 5 else if k = 60 then 6 else if k = 61 then 7 else 8
def chkL (okn : Int → Bool) : List (Int × Int) → List Nat → Option (List Nat)
  | [], ts => some ts
  | c :: r, ts => match stepT okn c.1 c.2 ts with
    | none => none
    | some ts' => chkL okn r ts'
theorem chkL_app {okn : Int → Bool} : ∀ {A B : List (Int × Int)} {ts ts' : List Nat}, chkL okn A ts = some ts' → chkL okn (A ++ B) ts = chkL okn B ts' := by
  intro A
  induction A with
  | nil => intro B ts ts' h; cases h; rfl
  | cons a A ih =>
    intro B ts ts' h
    show (match stepT okn a.1 a.2 ts with
      | none => none
      | some ts' => chkL okn (A ++ B) ts') = _
    unfold chkL at h
    cases hs : stepT okn a.1 a.2 ts with
    | none => rw [hs] at h; cases h
    | some t2 =>
      rw [hs] at h
      exact ih h
section PPARSE
variable (lw : Bool) (K V : Nat → Int)
def pUnit (c : Nat) : PR := if K c = 1 then (0, c + 1, [(0, V c)]) else if isNm lw (K c) = true then (0, c + 1, [(1, askOf (K c))]) else (1, c, [])
def pProdL : Nat → Nat → PR
  | 0, c => (0, c, [])
  | n + 1, c => if K c = 42 ∨ K c = 47 then (if K c = 47 ∧ K (c + 1) ≠ 1 then (1, c + 1, []) else if K c = 47 ∧ V (c + 1) = 0 then (2, c + 1, []) else pBind (pUnit lw K V (c + 1)) fun j => pBind (pOne (opOf (K c)) j) (pProdL n)) else (0, c, [])
def pProd (c : Nat) : PR := pBind (pUnit lw K V c) (pProdL lw K V 500)
def pSumL : Nat → Nat → PR
  | 0, c => (0, c, [])
  | n + 1, c => if K c = 43 ∨ K c = 45 then pBind (pProd lw K V (c + 1)) fun j => pBind (pOne (opOf (K c)) j) (pSumL n) else (0, c, [])
def pSum (c : Nat) : PR := pBind (pProd lw K V c) (pSumL lw K V 500)
def pCmp (c : Nat) : PR := pBind (pSum lw K V c) fun j => if K j = 60 ∨ K j = 61 ∨ K j = 62 then pBind (pSum lw K V (j + 1)) fun i => pOne (opOf (K j)) i else (1, j, [])
variable (C : Nat → PR)
def pAndL : Nat → Nat → PR
  | 0, c => (0, c, [])
  | n + 1, c => if K c = 259 then pBind (C (c + 1)) fun j => pBind (pOne 10 j) (pAndL n) else (0, c, [])
def pAnd (c : Nat) : PR := pBind (C c) (pAndL K C 500)
def pOrL : Nat → Nat → PR
  | 0, c => (0, c, [])
  | n + 1, c => if K c = 260 then pBind (pAnd K C (c + 1)) fun j => pBind (pOne 11 j) (pOrL n) else (0, c, [])
def pOr (c : Nat) : PR := pBind (pAnd K C c) (pOrL K C 500)
def pEnd (k : Int) (c : Nat) : PR := if K c = k then (0, c + 1, []) else (1, c, [])
end PPARSE
def pCl (lw : Bool) (K V : Nat → Int) : Nat → Nat → PR
  | 0, c => if K c = 261 ∨ K c = 40 then (3, c, []) else pCmp lw K V c
  | m + 1, c => if K c = 40 then pBind (pOr K (pCl lw K V m) (c + 1)) (pEnd K 41) else if K c = 261 then pBind (pCl lw K V m (c + 1)) (pOne 9) else pCmp lw K V c
theorem pProdL_succ (lw : Bool) (K V : Nat → Int) (n c : Nat) : pProdL lw K V (n + 1) c = if K c = 42 ∨ K c = 47 then (if K c = 47 ∧ K (c + 1) ≠ 1 then (1, c + 1, []) else if K c = 47 ∧ V (c + 1) = 0 then (2, c + 1, []) else pBind (pUnit lw K V (c + 1)) fun j => pBind (pOne (opOf (K c)) j) (pProdL lw K V n)) else (0, c, []) := rfl
theorem pSumL_succ (lw : Bool) (K V : Nat → Int) (n c : Nat) : pSumL lw K V (n + 1) c = if K c = 43 ∨ K c = 45 then pBind (pProd lw K V (c + 1)) fun j => pBind (pOne (opOf (K c)) j) (pSumL lw K V n) else (0, c, []) := rfl
theorem pAndL_succ (K : Nat → Int) (C : Nat → PR) (n c : Nat) : pAndL K C (n + 1) c = if K c = 259 then pBind (C (c + 1)) fun j => pBind (pOne 10 j) (pAndL K C n) else (0, c, []) := rfl
theorem pOrL_succ (K : Nat → Int) (C : Nat → PR) (n c : Nat) : pOrL K C (n + 1) c = if K c = 260 then pBind (pAnd K C (c + 1)) fun j => pBind (pOne 11 j) (pOrL K C n) else (0, c, []) := rfl
theorem pCl_zero (lw : Bool) (K V : Nat → Int) (c : Nat) : pCl lw K V 0 c = if K c = 261 ∨ K c = 40 then (3, c, []) else pCmp lw K V c := rfl
theorem pCl_succ (lw : Bool) (K V : Nat → Int) (m c : Nat) : pCl lw K V (m + 1) c = if K c = 40 then pBind (pOr K (pCl lw K V m) (c + 1)) (pEnd K 41) else if K c = 261 then pBind (pCl lw K V m (c + 1)) (pOne 9) else pCmp lw K V c := rfl
/-- how far it goes on, how much code comes, b more than tokens -/
def PrG (cnt c b : Nat) (r : PR) : Prop := (r.1 = 0 → c ≤ r.2.1 ∧ r.2.1 ≤ cnt ∧ r.2.2.length + c ≤ r.2.1 + b) ∧ (r.1 ≠ 0 → r.2.1 ≤ cnt)
def PrS (cnt c : Nat) (r : PR) : Prop := PrG cnt c 0 r ∧ (r.1 = 0 → c < r.2.1)
theorem pBind_ok {r : PR} {h : Nat → PR} (e : r.1 = 0) : pBind r h = ((h r.2.1).1, (h r.2.1).2.1, r.2.2 ++ (h r.2.1).2.2) := if_pos e
theorem pBind_no {r : PR} {h : Nat → PR} (e : r.1 ≠ 0) : pBind r h = (r.1, r.2.1, []) := if_neg e
theorem PrG.bind {cnt c b b' : Nat} {r : PR} {h : Nat → PR} (hr : PrG cnt c b r) (hh : ∀ j, c ≤ j → j ≤ cnt → PrG cnt j b' (h j)) : PrG cnt c (b + b') (pBind r h) := by
  by_cases e : r.1 = 0
  · rw [pBind_ok e]
    obtain ⟨a1, a2, a3⟩ := hr.1 e
    obtain ⟨c1, c2⟩ := hh _ a1 a2
    refine ⟨fun q => ?_, fun q => c2 q⟩
    obtain ⟨d1, d2, d3⟩ := c1 q
    refine ⟨by show c ≤ (h r.2.1).2.1; omega, d2, ?_⟩
    show (r.2.2 ++ (h r.2.1).2.2).length + c ≤ (h r.2.1).2.1 + (b + b')
    rw [List.length_append]
    omega
  · rw [pBind_no e]
    exact ⟨fun q => absurd q e, fun _ => hr.2 e⟩
theorem PrS.bind {cnt c : Nat} {r : PR} {h : Nat → PR} (hr : PrS cnt c r) (hh : ∀ j, c < j → j ≤ cnt → PrG cnt j 0 (h j)) : PrS cnt c (pBind r h) := by
  by_cases e : r.1 = 0
  · obtain ⟨a1, a2, a3⟩ := hr.1.1 e
    have a4 := hr.2 e
    have hj := hh _ a4 a2
    rw [pBind_ok e]
    refine ⟨⟨fun q => ?_, fun q => hj.2 q⟩, fun q => ?_⟩
    · obtain ⟨d1, d2, d3⟩ := hj.1 q
      refine ⟨by show c ≤ (h r.2.1).2.1; omega, d2, ?_⟩
      show (r.2.2 ++ (h r.2.1).2.2).length + c ≤ (h r.2.1).2.1 + 0
      rw [List.length_append]
      omega
    · obtain ⟨d1, d2, d3⟩ := hj.1 q
      show c < (h r.2.1).2.1
      omega
  · rw [pBind_no e]
    exact ⟨⟨fun q => absurd q e, fun _ => hr.1.2 e⟩, fun q => absurd q e⟩
theorem PrG.one {cnt c : Nat} {op : Int} (h : c ≤ cnt) : PrG cnt c 1 (pOne op c) := ⟨fun _ => ⟨Nat.le_refl c, h, by show 1 + c ≤ c + 1; omega⟩, fun q => absurd rfl q⟩
theorem PrG.nil {cnt c : Nat} (h : c ≤ cnt) : PrG cnt c 0 (0, c, []) := ⟨fun _ => ⟨Nat.le_refl c, h, by show 0 + c ≤ c + 0; omega⟩, fun q => absurd rfl q⟩
theorem PrG.flt {cnt c j : Nat} {b : Nat} {k : Int} (hk : k ≠ 0) (h : j ≤ cnt) : PrG cnt c b (k, j, []) := ⟨fun q => absurd q hk, fun _ => h⟩
theorem PrS.flt {cnt c j : Nat} {k : Int} (hk : k ≠ 0) (h : j ≤ cnt) : PrS cnt c (k, j, []) := ⟨PrG.flt hk h, fun q => absurd q hk⟩
/-- a token is taken, one more comes to the code -/
theorem PrG.tok {cnt c : Nat} {r : PR} (h : PrG cnt (c + 1) 1 r) : PrG cnt c 0 r := ⟨fun q => by
  obtain ⟨a, b, d⟩ := h.1 q
  exact ⟨by omega, b, by omega⟩, h.2⟩
/-- the end is where no token is any more -/
def KEnd (cnt : Nat) (K : Nat → Int) : Prop := ∀ c, c ≤ cnt → K c ≠ 0 → c < cnt
section PPROG
variable {cnt : Nat} {lw : Bool} {K V : Nat → Int}
theorem isNm_ne {k : Int} (h : isNm lw k = true) : 262 ≤ k ∧ k ≤ 273 := by
  unfold isNm at h
  split at h
  · have := of_decide_eq_true h; omega
  · have := of_decide_eq_true h; omega
theorem g_unit (hK : KEnd cnt K) {c : Nat} (hc : c ≤ cnt) : PrS cnt c (pUnit lw K V c) := by
  unfold pUnit
  split
  · rename_i h
    have := hK c hc (by omega)
    exact ⟨⟨fun _ => ⟨by show c ≤ c + 1; omega, by show c + 1 ≤ cnt; omega, by show 1 + c ≤ c + 1 + 0; omega⟩, fun q => absurd rfl q⟩, fun _ => by show c < c + 1; omega⟩
  split
  · rename_i h
    have := isNm_ne h
    have := hK c hc (by omega)
    exact ⟨⟨fun _ => ⟨by show c ≤ c + 1; omega, by show c + 1 ≤ cnt; omega, by show 1 + c ≤ c + 1 + 0; omega⟩, fun q => absurd rfl q⟩, fun _ => by show c < c + 1; omega⟩
  · exact PrS.flt (by decide) hc
theorem g_prodL (hK : KEnd cnt K) : ∀ (n c : Nat), c ≤ cnt → PrG cnt c 0 (pProdL lw K V n c) := by
  intro n
  induction n with
  | zero => intro c hc; exact PrG.nil hc
  | succ n ih =>
    intro c hc
    rw [pProdL_succ]
    split
    · rename_i h
      have h1 := hK c hc (by omega)
      split
      · exact PrG.flt (by decide) (by omega)
      split
      · exact PrG.flt (by decide) (by omega)
      · exact PrG.tok ((g_unit hK (by omega)).1.bind (b' := 1) fun j _ hj => (PrG.one hj).bind (b' := 0) fun i _ hi => ih i hi)
    · exact PrG.nil hc
theorem g_prod (hK : KEnd cnt K) {c : Nat} (hc : c ≤ cnt) : PrS cnt c (pProd lw K V c) := (g_unit hK hc).bind fun j _ hj => g_prodL hK 500 j hj
theorem g_sumL (hK : KEnd cnt K) : ∀ (n c : Nat), c ≤ cnt → PrG cnt c 0 (pSumL lw K V n c) := by
  intro n
  induction n with
  | zero => intro c hc; exact PrG.nil hc
  | succ n ih =>
    intro c hc
    rw [pSumL_succ]
    split
    · rename_i h
      have h1 := hK c hc (by omega)
      exact PrG.tok ((g_prod hK (by omega)).1.bind (b' := 1) fun j _ hj => (PrG.one hj).bind (b' := 0) fun i _ hi => ih i hi)
    · exact PrG.nil hc
theorem g_sum (hK : KEnd cnt K) {c : Nat} (hc : c ≤ cnt) : PrS cnt c (pSum lw K V c) := (g_prod hK hc).bind fun j _ hj => g_sumL hK 500 j hj
theorem g_cmp (hK : KEnd cnt K) {c : Nat} (hc : c ≤ cnt) : PrS cnt c (pCmp lw K V c) := (g_sum hK hc).bind fun j _ hj => by
  split
  · rename_i h
    have h1 := hK j hj (by omega)
    exact PrG.tok ((g_sum hK (by omega)).1.bind (b' := 1) fun i _ hi => PrG.one hi)
  · exact PrG.flt (by decide) hj
theorem g_andL {C : Nat → PR} (hK : KEnd cnt K) (hC : ∀ c, c ≤ cnt → PrS cnt c (C c)) : ∀ (n c : Nat), c ≤ cnt → PrG cnt c 0 (pAndL K C n c) := by
  intro n
  induction n with
  | zero => intro c hc; exact PrG.nil hc
  | succ n ih =>
    intro c hc
    rw [pAndL_succ]
    split
    · rename_i h
      have h1 := hK c hc (by omega)
      exact PrG.tok ((hC (c + 1) (by omega)).1.bind (b' := 1) fun j _ hj => (PrG.one hj).bind (b' := 0) fun i _ hi => ih i hi)
    · exact PrG.nil hc
theorem g_and {C : Nat → PR} (hK : KEnd cnt K) (hC : ∀ c, c ≤ cnt → PrS cnt c (C c)) {c : Nat} (hc : c ≤ cnt) : PrS cnt c (pAnd K C c) := (hC c hc).bind fun j _ hj => g_andL hK hC 500 j hj
theorem g_orL {C : Nat → PR} (hK : KEnd cnt K) (hC : ∀ c, c ≤ cnt → PrS cnt c (C c)) : ∀ (n c : Nat), c ≤ cnt → PrG cnt c 0 (pOrL K C n c) := by
  intro n
  induction n with
  | zero => intro c hc; exact PrG.nil hc
  | succ n ih =>
    intro c hc
    rw [pOrL_succ]
    split
    · rename_i h
      have h1 := hK c hc (by omega)
      exact PrG.tok ((g_and hK hC (by omega)).1.bind (b' := 1) fun j _ hj => (PrG.one hj).bind (b' := 0) fun i _ hi => ih i hi)
    · exact PrG.nil hc
theorem g_or {C : Nat → PR} (hK : KEnd cnt K) (hC : ∀ c, c ≤ cnt → PrS cnt c (C c)) {c : Nat} (hc : c ≤ cnt) : PrS cnt c (pOr K C c) := (g_and hK hC hc).bind fun j _ hj => g_orL hK hC 500 j hj
theorem g_cl (hK : KEnd cnt K) : ∀ (m c : Nat), c ≤ cnt → PrS cnt c (pCl lw K V m c) := by
  intro m
  induction m with
  | zero =>
    intro c hc
    rw [pCl_zero]
    split
    · exact PrS.flt (by decide) hc
    · exact g_cmp hK hc
  | succ m ih =>
    intro c hc
    rw [pCl_succ]
    split
    · rename_i h
      have h1 := hK c hc (by omega)
      have hb : PrS cnt (c + 1) (pBind (pOr K (pCl lw K V m) (c + 1)) (pEnd K 41)) := (g_or hK ih (by omega)).bind fun j _ hj => by
        unfold pEnd
        split
        · rename_i h2
          have := hK j hj (by omega)
          exact ⟨fun _ => ⟨by show j ≤ j + 1; omega, by show j + 1 ≤ cnt; omega, by show 0 + j ≤ j + 1 + 0; omega⟩, fun q => absurd rfl q⟩
        · exact PrG.flt (by decide) hj
      refine ⟨PrG.tok ⟨fun q => ?_, hb.1.2⟩, fun q => ?_⟩
      · obtain ⟨a, b, d⟩ := hb.1.1 q
        exact ⟨a, b, by omega⟩
      · have := hb.2 q; omega
    split
    · rename_i h
      have h1 := hK c hc (by omega)
      refine ⟨PrG.tok ((ih (c + 1) (by omega)).1.bind (b' := 1) fun j _ hj => PrG.one hj), fun q => ?_⟩
      have hb : PrG cnt (c + 1) 1 (pBind (pCl lw K V m (c + 1)) (pOne 9)) := (ih (c + 1) (by omega)).1.bind (b' := 1) fun j _ hj => PrG.one hj
      have := (hb.1 q).1
      omega
    · exact g_cmp hK hc
end PPROG
/-! what comes is good code -/
def GoE (okn : Int → Bool) (n : Nat) (r : PR) : Prop := r.1 = 0 → ∀ ts : List Nat, ts.length ≤ n → ∃ t, chkL okn r.2.2 ts = some (t :: ts)
def GoL (okn : Int → Bool) (n : Nat) (r : PR) : Prop := r.1 = 0 → ∀ (t : Nat) (ts : List Nat), ts.length ≤ n → ∃ t', chkL okn r.2.2 (t :: ts) = some (t' :: ts)
def GoB (okn : Int → Bool) (n : Nat) (r : PR) : Prop := r.1 = 0 → ∀ ts : List Nat, ts.length ≤ n → chkL okn r.2.2 ts = some (1 :: ts)
def GoM (okn : Int → Bool) (n : Nat) (r : PR) : Prop := r.1 = 0 → ∀ ts : List Nat, ts.length ≤ n → chkL okn r.2.2 (1 :: ts) = some (1 :: ts)
def oknW (lw : Bool) : Int → Bool := if lw = true then oknL else oknR
section PGOOD
variable {lw : Bool} {K V : Nat → Int}
theorem st_two {okn : Int → Bool} {op : Int} {a b : Nat} {ts : List Nat} (ho : op = 2 ∨ op = 3 ∨ op = 4) (h : ts.length ≤ 57) : stepT okn op 0 (a :: b :: ts) = some (0 :: ts) := by
  unfold stepT
  have hl : ¬ 60 ≤ (a :: b :: ts).length := by simp only [List.length_cons]; omega
  rw [if_neg hl, if_neg (by omega), if_neg (by omega), if_neg (by omega), if_neg (by omega), if_pos ho]
theorem st_cmp {okn : Int → Bool} {op : Int} {a b : Nat} {ts : List Nat} (ho : op = 6 ∨ op = 7 ∨ op = 8) (h : ts.length ≤ 57) : stepT okn op 0 (a :: b :: ts) = some (1 :: ts) := by
  unfold stepT
  have hl : ¬ 60 ≤ (a :: b :: ts).length := by simp only [List.length_cons]; omega
  rw [if_neg hl, if_neg (by omega), if_neg (by omega), if_neg (by omega), if_neg (by omega), if_neg (by omega), if_pos ho]
theorem st_log {okn : Int → Bool} {op : Int} {ts : List Nat} (ho : op = 10 ∨ op = 11) (h : ts.length ≤ 57) : stepT okn op 0 (1 :: 1 :: ts) = some (1 :: ts) := by
  unfold stepT
  have hl : ¬ 60 ≤ (1 :: 1 :: ts).length := by simp only [List.length_cons]; omega
  rw [if_neg hl, if_neg (by omega), if_neg (by omega), if_neg (by omega), if_neg (by omega), if_neg (by omega), if_neg (by omega), if_pos ho]
  first | rfl | simp
theorem st_not {okn : Int → Bool} {ts : List Nat} (h : ts.length ≤ 57) : stepT okn 9 0 (1 :: ts) = some (1 :: ts) := by
  unfold stepT
  have hl : ¬ 60 ≤ (1 :: ts).length := by simp only [List.length_cons]; omega
  rw [if_neg hl, if_neg (by decide), if_neg (by decide), if_pos rfl]
  first | rfl | simp
theorem st_div {okn : Int → Bool} {b : Nat} {ts : List Nat} (h : ts.length ≤ 57) : stepT okn 5 0 (2 :: b :: ts) = some (0 :: ts) := by
  unfold stepT
  have hl : ¬ 60 ≤ (2 :: b :: ts).length := by simp only [List.length_cons]; omega
  rw [if_neg hl, if_neg (by decide), if_neg (by decide), if_neg (by decide), if_pos rfl]
  first | rfl | simp
theorem st_num {okn : Int → Bool} {v : Int} {ts : List Nat} (h0 : 0 ≤ v) (h1 : v ≤ 9999) (h : ts.length ≤ 59) : stepT okn 0 v ts = some ((if v = 0 then 0 else 2) :: ts) := by
  unfold stepT
  rw [if_neg (show ¬ 60 ≤ ts.length by omega), if_pos rfl, if_pos ⟨h0, h1⟩]
theorem st_ask {okn : Int → Bool} {v : Int} {ts : List Nat} (h0 : okn v = true ∧ 0 ≤ v ∧ v < 12) (h : ts.length ≤ 59) : stepT okn 1 v ts = some (0 :: ts) := by
  unfold stepT
  rw [if_neg (show ¬ 60 ≤ ts.length by omega), if_neg (by decide), if_pos rfl, if_pos h0]
theorem chk_one {okn : Int → Bool} {op ar : Int} {ts ts' : List Nat} (h : stepT okn op ar ts = some ts') : chkL okn [(op, ar)] ts = some ts' := by
  unfold chkL
  simp only [h]
  rfl
theorem ask_in : ∀ k : Nat, k < 12 → (isNm true (262 + k) = true → oknL (askOf (262 + k)) = true ∧ 0 ≤ askOf (262 + k) ∧ askOf (262 + k) < 12) ∧ (isNm false (262 + k) = true → oknR (askOf (262 + k)) = true ∧ 0 ≤ askOf (262 + k) ∧ askOf (262 + k) < 12) := by decide
theorem c_ask {k : Int} (h : isNm lw k = true) : oknW lw (askOf k) = true ∧ 0 ≤ askOf k ∧ askOf k < 12 := by
  have hk := isNm_ne h
  have h1 := ask_in (k - 262).toNat (by omega)
  rw [show (262 : Int) + (((k - 262).toNat : Nat) : Int) = k by omega] at h1
  cases lw with
  | true => exact h1.1 h
  | false => exact h1.2 h
def NumOk (K V : Nat → Int) : Prop := ∀ i, K i = 1 → 0 ≤ V i ∧ V i ≤ 9999
theorem GoE.bind {okn : Int → Bool} {n : Nat} {r : PR} {h : Nat → PR} (hr : GoE okn n r) (hh : ∀ j, GoL okn n (h j)) : GoE okn n (pBind r h) := by
  intro e ts hts
  by_cases e0 : r.1 = 0
  · rw [pBind_ok e0] at e ⊢
    obtain ⟨t, ht⟩ := hr e0 ts hts
    obtain ⟨t', ht'⟩ := hh r.2.1 e t ts hts
    refine ⟨t', ?_⟩
    show chkL okn (r.2.2 ++ (h r.2.1).2.2) ts = _
    rw [chkL_app ht]
    exact ht'
  · rw [pBind_no e0] at e
    exact absurd e e0
theorem GoB.bind {okn : Int → Bool} {n : Nat} {r : PR} {h : Nat → PR} (hr : GoB okn n r) (hh : ∀ j, GoM okn n (h j)) : GoB okn n (pBind r h) := by
  intro e ts hts
  by_cases e0 : r.1 = 0
  · rw [pBind_ok e0] at e ⊢
    have ht := hr e0 ts hts
    have ht' := hh r.2.1 e ts hts
    show chkL okn (r.2.2 ++ (h r.2.1).2.2) ts = _
    rw [chkL_app ht]
    exact ht'
  · rw [pBind_no e0] at e
    exact absurd e e0
theorem GoL.nil {okn : Int → Bool} {n c : Nat} : GoL okn n (0, c, []) := fun _ t ts _ => ⟨t, rfl⟩
theorem GoM.nil {okn : Int → Bool} {n c : Nat} : GoM okn n (0, c, []) := fun _ ts _ => rfl
theorem c_unit (hV : NumOk K V) {c : Nat} : GoE (oknW lw) 59 (pUnit lw K V c) := by
  intro e ts hts
  unfold pUnit at e ⊢
  split
  · rename_i h
    obtain ⟨v1, v2⟩ := hV c h
    refine ⟨if V c = 0 then 0 else 2, ?_⟩
    exact chk_one (st_num v1 v2 hts)
  split
  · rename_i h1 h2
    obtain ⟨a1, a2, a3⟩ := c_ask h2
    refine ⟨0, ?_⟩
    exact chk_one (st_ask ⟨a1, a2, a3⟩ hts)
  · rename_i h1 h2
    rw [if_neg h1, if_neg h2] at e
    exact absurd e (show ¬ (1 : Int) = 0 by decide)
theorem c_prodL (hV : NumOk K V) : ∀ (n c : Nat), GoL (oknW lw) 57 (pProdL lw K V n c) := by
  intro n
  induction n with
  | zero => intro c; exact GoL.nil
  | succ n ih =>
    intro c
    rw [pProdL_succ]
    split
    · rename_i h
      split
      · intro e; exact absurd e (by show ¬ (1 : Int) = 0; decide)
      split
      · intro e; exact absurd e (by show ¬ (2 : Int) = 0; decide)
      · rename_i h1 h2
        intro e t ts hts
        by_cases e0 : (pUnit lw K V (c + 1)).1 = 0
        · rw [pBind_ok e0] at e ⊢
          have e1 : (pOne (opOf (K c)) (pUnit lw K V (c + 1)).2.1).1 = 0 := rfl
          rw [pBind_ok e1] at e ⊢
          have key : ∃ t', chkL (oknW lw) ((pUnit lw K V (c + 1)).2.2 ++ [(opOf (K c), 0)]) (t :: ts) = some (t' :: ts) := by
            by_cases hk : K c = 47
            · have hk1 : K (c + 1) = 1 := Classical.byContradiction fun q => h1 ⟨hk, q⟩
              have hv1 : V (c + 1) ≠ 0 := fun q => h2 ⟨hk, q⟩
              obtain ⟨v1, v2⟩ := hV (c + 1) hk1
              refine ⟨0, ?_⟩
              have eu : chkL (oknW lw) (pUnit lw K V (c + 1)).2.2 (t :: ts) = some (2 :: t :: ts) := by
                unfold pUnit
                rw [if_pos hk1]
                have h9 := chk_one (st_num (okn := oknW lw) (ts := t :: ts) v1 v2 (by simp only [List.length_cons]; omega))
                rw [if_neg hv1] at h9
                exact h9
              rw [chkL_app eu, hk]
              exact chk_one (st_div hts)
            · obtain ⟨t1, ht1⟩ := c_unit (lw := lw) hV (c := c + 1) e0 (t :: ts) (by simp only [List.length_cons]; omega)
              refine ⟨0, ?_⟩
              rw [chkL_app ht1]
              have : opOf (K c) = 4 := by
                have : K c = 42 := by omega
                rw [this]; rfl
              exact chk_one (st_two (by omega) hts)
          obtain ⟨t', ht'⟩ := key
          obtain ⟨t2, ht2⟩ := ih _ e t' ts hts
          refine ⟨t2, ?_⟩
          show chkL (oknW lw) ((pUnit lw K V (c + 1)).2.2 ++ ([(opOf (K c), 0)] ++ (pProdL lw K V n (pUnit lw K V (c + 1)).2.1).2.2)) (t :: ts) = _
          rw [← List.append_assoc, chkL_app ht']
          exact ht2
        · rw [pBind_no e0] at e
          exact absurd e e0
    · exact GoL.nil
theorem c_prod (hV : NumOk K V) {c : Nat} : GoE (oknW lw) 57 (pProd lw K V c) := by
  refine GoE.bind (fun e ts hts => c_unit hV e ts (by omega)) fun j => c_prodL hV 500 j
/-- a sum's or a whole's further part: another expression, then what is done with both -/
theorem GoL.step {okn : Int → Bool} {n : Nat} {op : Int} {r : PR} {h : Nat → PR} (hr : GoE okn (n + 1) r) (ho : op = 2 ∨ op = 3 ∨ op = 4) (hn : n ≤ 57) (hh : ∀ j, GoL okn n (h j)) : GoL okn n (pBind r fun j => pBind (pOne op j) h) := by
  intro e t ts hts
  by_cases e0 : r.1 = 0
  · rw [pBind_ok e0] at e ⊢
    have e1 : (pOne op r.2.1).1 = 0 := rfl
    rw [pBind_ok e1] at e ⊢
    obtain ⟨t1, ht1⟩ := hr e0 (t :: ts) (by simp only [List.length_cons]; omega)
    obtain ⟨t2, ht2⟩ := hh _ e 0 ts hts
    refine ⟨t2, ?_⟩
    show chkL okn (r.2.2 ++ ([(op, 0)] ++ (h r.2.1).2.2)) (t :: ts) = _
    rw [chkL_app ht1, chkL_app (chk_one (st_two ho (by omega)))]
    exact ht2
  · rw [pBind_no e0] at e
    exact absurd e e0
theorem c_sumL (hV : NumOk K V) : ∀ (n c : Nat), GoL (oknW lw) 56 (pSumL lw K V n c) := by
  intro n
  induction n with
  | zero => intro c; exact GoL.nil
  | succ n ih =>
    intro c
    rw [pSumL_succ]
    split
    · rename_i h
      refine GoL.step (c_prod hV) ?_ (by decide) fun j => ih j
      rcases h with q | q <;> rw [q] <;> decide
    · exact GoL.nil
theorem c_sum (hV : NumOk K V) {c : Nat} : GoE (oknW lw) 56 (pSum lw K V c) := by
  refine GoE.bind (fun e ts hts => c_prod hV e ts (by omega)) fun j => c_sumL hV 500 j
theorem c_cmp (hV : NumOk K V) {c : Nat} : GoB (oknW lw) 55 (pCmp lw K V c) := by
  intro e ts hts
  unfold pCmp at e ⊢
  by_cases e0 : (pSum lw K V c).1 = 0
  · rw [pBind_ok e0] at e ⊢
    simp only at e ⊢
    obtain ⟨t1, ht1⟩ := c_sum (lw := lw) hV e0 ts (by omega)
    by_cases hk : K (pSum lw K V c).2.1 = 60 ∨ K (pSum lw K V c).2.1 = 61 ∨ K (pSum lw K V c).2.1 = 62
    · rw [if_pos hk] at e ⊢
      by_cases e1 : (pSum lw K V ((pSum lw K V c).2.1 + 1)).1 = 0
      · rw [pBind_ok e1] at e ⊢
        obtain ⟨t2, ht2⟩ := c_sum (lw := lw) hV e1 (t1 :: ts) (by simp only [List.length_cons]; omega)
        show chkL (oknW lw) ((pSum lw K V c).2.2 ++ ((pSum lw K V ((pSum lw K V c).2.1 + 1)).2.2 ++ [(opOf (K (pSum lw K V c).2.1), 0)])) ts = _
        rw [chkL_app ht1, chkL_app ht2]
        refine chk_one (st_cmp ?_ (by omega))
        rcases hk with q | q | q <;> rw [q] <;> decide
      · rw [pBind_no e1] at e
        exact absurd e e1
    · rw [if_neg hk] at e
      exact absurd e (show ¬ (1 : Int) = 0 by decide)
  · rw [pBind_no e0] at e
    exact absurd e e0
theorem GoM.step {okn : Int → Bool} {n : Nat} {op : Int} {r : PR} {h : Nat → PR} (hr : GoB okn (n + 1) r) (ho : op = 10 ∨ op = 11) (hn : n ≤ 57) (hh : ∀ j, GoM okn n (h j)) : GoM okn n (pBind r fun j => pBind (pOne op j) h) := by
  intro e ts hts
  by_cases e0 : r.1 = 0
  · rw [pBind_ok e0] at e ⊢
    have e1 : (pOne op r.2.1).1 = 0 := rfl
    rw [pBind_ok e1] at e ⊢
    have ht1 := hr e0 (1 :: ts) (by simp only [List.length_cons]; omega)
    have ht2 := hh _ e ts hts
    show chkL okn (r.2.2 ++ ([(op, 0)] ++ (h r.2.1).2.2)) (1 :: ts) = _
    rw [chkL_app ht1, chkL_app (chk_one (st_log ho (by omega)))]
    exact ht2
  · rw [pBind_no e0] at e
    exact absurd e e0
theorem c_andL {C : Nat → PR} {okn : Int → Bool} {b : Nat} (hb : b ≤ 57) (hC : ∀ c, GoB okn (b + 1) (C c)) : ∀ (n c : Nat), GoM okn b (pAndL K C n c) := by
  intro n
  induction n with
  | zero => intro c; exact GoM.nil
  | succ n ih =>
    intro c
    rw [pAndL_succ]
    split
    · exact GoM.step (hC _) (by decide) hb fun j => ih j
    · exact GoM.nil
theorem c_and {C : Nat → PR} {okn : Int → Bool} {b : Nat} (hb : b ≤ 57) (hC : ∀ c, GoB okn (b + 1) (C c)) (c : Nat) : GoB okn b (pAnd K C c) :=
  GoB.bind (fun e ts hts => hC c e ts (by omega)) fun j => c_andL hb hC 500 j
theorem c_orL {C : Nat → PR} {okn : Int → Bool} {b : Nat} (hb : b ≤ 55) (hC : ∀ c, GoB okn (b + 1 + 1) (C c)) : ∀ (n c : Nat), GoM okn b (pOrL K C n c) := by
  intro n
  induction n with
  | zero => intro c; exact GoM.nil
  | succ n ih =>
    intro c
    rw [pOrL_succ]
    split
    · exact GoM.step (c_and (by omega) hC _) (by decide) (by omega) fun j => ih j
    · exact GoM.nil
theorem c_or {C : Nat → PR} {okn : Int → Bool} {b : Nat} (hb : b ≤ 55) (hC : ∀ c, GoB okn (b + 1 + 1) (C c)) (c : Nat) : GoB okn b (pOr K C c) :=
  GoB.bind (fun e ts hts => c_and (b := b + 1) (by omega) hC c e ts (by omega)) fun j => c_orL hb hC 500 j
theorem GoB.less {okn : Int → Bool} {n m : Nat} {r : PR} (h : GoB okn n r) (hm : m ≤ n) : GoB okn m r := fun e ts hts => h e ts (by omega)
theorem c_cl (hV : NumOk K V) : ∀ (m : Nat), m ≤ 8 → ∀ c, GoB (oknW lw) (55 - 2 * m) (pCl lw K V m c) := by
  intro m
  induction m with
  | zero =>
    intro _ c
    rw [pCl_zero]
    split
    · intro e; exact absurd e (by show ¬ (3 : Int) = 0; decide)
    · exact c_cmp hV
  | succ m ih =>
    intro hm c
    rw [pCl_succ]
    have hC : ∀ c, GoB (oknW lw) (55 - 2 * (m + 1) + 1 + 1) (pCl lw K V m c) := fun c => (ih (by omega) c).less (by omega)
    split
    · intro e ts hts
      by_cases e0 : (pOr K (pCl lw K V m) (c + 1)).1 = 0
      · rw [pBind_ok e0] at e ⊢
        have ht := c_or (K := K) (by omega) hC (c + 1) e0 ts hts
        show chkL (oknW lw) ((pOr K (pCl lw K V m) (c + 1)).2.2 ++ (pEnd K 41 (pOr K (pCl lw K V m) (c + 1)).2.1).2.2) ts = _
        rw [chkL_app ht]
        unfold pEnd
        split <;> rfl
      · rw [pBind_no e0] at e
        exact absurd e e0
    split
    · intro e ts hts
      by_cases e0 : (pCl lw K V m (c + 1)).1 = 0
      · rw [pBind_ok e0] at e ⊢
        have ht := hC (c + 1) e0 ts (by omega)
        show chkL (oknW lw) ((pCl lw K V m (c + 1)).2.2 ++ [(9, 0)]) ts = _
        rw [chkL_app ht]
        exact chk_one (st_not (by omega))
      · rw [pBind_no e0] at e
        exact absurd e e0
    · exact (c_cmp hV).less (by omega)
end PGOOD
