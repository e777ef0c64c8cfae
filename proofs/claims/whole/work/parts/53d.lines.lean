/-! THE PARSER: lines, pure -/
def goK (lw : Bool) : Int := if lw = true then 256 else 257
def pWhen (lw : Bool) (K V : Nat → Int) (c : Nat) : PR := if K c = 258 then pOr K (pCl lw K V 8) (c + 1) else (0, c, [])
abbrev LR : Type := Int × Nat × List (Int × Int) × List (Int × Int × Int)
def mrk (L S W : List (Int × Int)) : Int × Int × Int := (L.length, (L ++ S).length, (L ++ S ++ W).length)
def pLinesR (lw : Bool) (K V : Nat → Int) : Nat → Nat → List (Int × Int) → List (Int × Int × Int) → LR
  | 0, c, L, M => (1, c, L, M)
  | n + 1, c, L, M => if K c = 0 then (0, c, L, M) else if K c ≠ goK lw then (1, c, L, M) else if 16 ≤ M.length then (3, c, L, M) else
    if (pSum lw K V (c + 1)).1 ≠ 0 then ((pSum lw K V (c + 1)).1, (pSum lw K V (c + 1)).2.1, L, M) else
    if (pWhen lw K V (pSum lw K V (c + 1)).2.1).1 ≠ 0 then ((pWhen lw K V (pSum lw K V (c + 1)).2.1).1, (pWhen lw K V (pSum lw K V (c + 1)).2.1).2.1, L, M) else
    if K (pWhen lw K V (pSum lw K V (c + 1)).2.1).2.1 ≠ 59 then (1, (pWhen lw K V (pSum lw K V (c + 1)).2.1).2.1, L, M) else
    pLinesR lw K V n ((pWhen lw K V (pSum lw K V (c + 1)).2.1).2.1 + 1) (L ++ (pSum lw K V (c + 1)).2.2 ++ (pWhen lw K V (pSum lw K V (c + 1)).2.1).2.2) (M ++ [mrk L (pSum lw K V (c + 1)).2.2 (pWhen lw K V (pSum lw K V (c + 1)).2.1).2.2])
theorem pLinesR_succ (lw : Bool) (K V : Nat → Int) (n c : Nat) (L : List (Int × Int)) (M : List (Int × Int × Int)) : pLinesR lw K V (n + 1) c L M = if K c = 0 then (0, c, L, M) else if K c ≠ goK lw then (1, c, L, M) else if 16 ≤ M.length then (3, c, L, M) else
    if (pSum lw K V (c + 1)).1 ≠ 0 then ((pSum lw K V (c + 1)).1, (pSum lw K V (c + 1)).2.1, L, M) else
    if (pWhen lw K V (pSum lw K V (c + 1)).2.1).1 ≠ 0 then ((pWhen lw K V (pSum lw K V (c + 1)).2.1).1, (pWhen lw K V (pSum lw K V (c + 1)).2.1).2.1, L, M) else
    if K (pWhen lw K V (pSum lw K V (c + 1)).2.1).2.1 ≠ 59 then (1, (pWhen lw K V (pSum lw K V (c + 1)).2.1).2.1, L, M) else
    pLinesR lw K V n ((pWhen lw K V (pSum lw K V (c + 1)).2.1).2.1 + 1) (L ++ (pSum lw K V (c + 1)).2.2 ++ (pWhen lw K V (pSum lw K V (c + 1)).2.1).2.2) (M ++ [mrk L (pSum lw K V (c + 1)).2.2 (pWhen lw K V (pSum lw K V (c + 1)).2.1).2.2]) := rfl
/-- the text that they are -/
def txtT (L : List (Int × Int)) (M : List (Int × Int × Int)) : PS := fun a j => if a = 0 then (if j = 0 then (M.length : Int) else (L.length : Int)) else if a = 1 then (M.getD j.toNat (0, 0, 0)).1 else if a = 2 then (M.getD j.toNat (0, 0, 0)).2.1 else if a = 3 then (M.getD j.toNat (0, 0, 0)).2.2 else if a = 4 then (L.getD j.toNat (0, 0)).1 else (L.getD j.toNat (0, 0)).2
theorem getD_l {α : Type} {A B : List α} {i : Nat} {x : α} (h : i < A.length) : (A ++ B).getD i x = A.getD i x := by
  rw [List.getD_eq_getElem?_getD, List.getD_eq_getElem?_getD, List.getElem?_append_left h]
theorem getD_r {α : Type} {A B : List α} {i : Nat} {x : α} : (A ++ B).getD (A.length + i) x = B.getD i x := by
  rw [List.getD_eq_getElem?_getD, List.getD_eq_getElem?_getD, List.getElem?_append_right (by omega)]
  congr 2
  omega
theorem getD_e {α : Type} {A : List α} {a x : α} : (A ++ [a]).getD A.length x = a := by
  have := getD_r (A := A) (B := [a]) (i := 0) (x := x)
  rw [Nat.add_zero] at this
  exact this
theorem chkR_L {okn : Int → Bool} {op ar : Int → Int} : ∀ (S : List (Int × Int)) (i : Int) (ts : List Nat), (∀ j : Nat, j < S.length → op (i + j) = (S.getD j (0, 0)).1 ∧ ar (i + j) = (S.getD j (0, 0)).2) → chkR okn op ar S.length i ts = chkL okn S ts := by
  intro S
  induction S with
  | nil => intro i ts _; rfl
  | cons s S ih =>
    intro i ts h
    obtain ⟨e1, e2⟩ := h 0 (by simp)
    have e3 : i + ((0 : Nat) : Int) = i := by omega
    rw [e3] at e1 e2
    show (match stepT okn (op i) (ar i) ts with
      | none => none
      | some ts' => chkR okn op ar S.length (i + 1) ts') = match stepT okn s.1 s.2 ts with
      | none => none
      | some ts' => chkL okn S ts'
    rw [e1, e2]
    show (match stepT okn s.1 s.2 ts with
      | none => none
      | some ts' => chkR okn op ar S.length (i + 1) ts') = _
    cases stepT okn s.1 s.2 ts with
    | none => rfl
    | some t =>
      refine ih (i + 1) t fun j hj => ?_
      have := h (j + 1) (by rw [List.length_cons]; omega)
      rw [show i + 1 + (j : Int) = i + ((j + 1 : Nat) : Int) by omega]
      exact this
/-- the text so far is good, and its last line ends where the code does -/
def TxtOK' (okn : Int → Bool) (L : List (Int × Int)) (M : List (Int × Int × Int)) : Prop := TxtOK okn (txtT L M) ∧ (M = [] → L = []) ∧ (M ≠ [] → (M.getD (M.length - 1) (0, 0, 0)).2.2 = L.length)
theorem txt_nil {okn : Int → Bool} : TxtOK' okn [] [] := by
  refine ⟨⟨⟨by decide, by decide⟩, ⟨by decide, by decide⟩, fun l h0 h1 => ?_, fun l h0 h1 => ?_, fun l h0 h1 => ?_, fun h => ?_, fun l h0 h1 => ?_⟩, fun _ => rfl, fun h => absurd rfl h⟩
  all_goals (exfalso; simp [txtT] at *; try omega)
theorem txt_add {okn : Int → Bool} {L S W : List (Int × Int)} {M : List (Int × Int × Int)} (h : TxtOK' okn L M) (hM : M.length < 16) (hL : (L ++ S ++ W).length ≤ 500) (hS : ∃ t, chkL okn S [] = some [t]) (hW : W ≠ [] → ∃ t, chkL okn W [] = some [t]) : TxtOK' okn (L ++ S ++ W) (M ++ [mrk L S W]) := by
  obtain ⟨ok, hn, hl⟩ := h
  have o1 : ∀ a l : Int, 0 ≤ l → l < M.length → (a = 1 ∨ a = 2 ∨ a = 3) → txtT (L ++ S ++ W) (M ++ [mrk L S W]) a l = txtT L M a l := fun a l h0 h1 ha => by
    have e := getD_l (A := M) (B := [mrk L S W]) (i := l.toNat) (x := (0, 0, 0)) (by omega)
    unfold txtT
    rw [e]
    rcases ha with rfl | rfl | rfl <;> rfl
  have o2 : ∀ a i : Int, 0 ≤ i → i < L.length → (a = 4 ∨ a = 5) → txtT (L ++ S ++ W) (M ++ [mrk L S W]) a i = txtT L M a i := fun a i h0 h1 ha => by
    have e := getD_l (A := L) (B := S ++ W) (i := i.toNat) (x := (0, 0)) (by omega)
    rw [← List.append_assoc] at e
    unfold txtT
    rw [e]
    rcases ha with rfl | rfl <;> rfl
  have el : (((M ++ [mrk L S W]).length : Nat) : Int) = M.length + 1 := by rw [List.length_append, List.length_singleton]; omega
  have n1 : ∀ a, (a = 1 ∨ a = 2 ∨ a = 3) → txtT (L ++ S ++ W) (M ++ [mrk L S W]) a M.length = if a = 1 then (L.length : Int) else if a = 2 then ((L ++ S).length : Int) else ((L ++ S ++ W).length : Int) := fun a ha => by
    have e := getD_e (A := M) (a := mrk L S W) (x := (0, 0, 0))
    unfold txtT
    rw [Int.toNat_natCast, e]
    rcases ha with rfl | rfl | rfl <;> rfl
  have p1 := n1 1 (by omega)
  have p2 := n1 2 (by omega)
  have p3 := n1 3 (by omega)
  rw [if_pos rfl] at p1
  rw [if_neg (by decide), if_pos rfl] at p2
  rw [if_neg (by decide), if_neg (by decide)] at p3
  have t0 : txtT L M 0 0 = M.length := rfl
  have t1 : txtT L M 0 1 = L.length := rfl
  have u0 : txtT (L ++ S ++ W) (M ++ [mrk L S W]) 0 0 = M.length + 1 := by rw [← el]; rfl
  have u1 : txtT (L ++ S ++ W) (M ++ [mrk L S W]) 0 1 = (L ++ S ++ W).length := rfl
  have lsw : (L ++ S ++ W).length = L.length + S.length + W.length := by rw [List.length_append, List.length_append]
  have ls : (L ++ S).length = L.length + S.length := List.length_append
  have old : ∀ a b : Int, 0 ≤ a → a ≤ b → b ≤ L.length → chkT okn (txtT L M) a b → chkT okn (txtT (L ++ S ++ W) (M ++ [mrk L S W])) a b := by
    rintro a b h0 h1 h2 ⟨t, ht⟩
    refine ⟨t, ?_⟩
    rw [← ht]
    exact chkR_congr fun j j0 j1 => ⟨o2 4 j (by omega) (by omega) (by omega), o2 5 j (by omega) (by omega) (by omega)⟩
  have newS : chkT okn (txtT (L ++ S ++ W) (M ++ [mrk L S W])) L.length ((L ++ S).length) := by
    obtain ⟨t, ht⟩ := hS
    refine ⟨t, ?_⟩
    rw [← ht, show (((L ++ S).length : Int) - (L.length : Int)).toNat = S.length by omega]
    refine chkR_L S _ _ fun j hj => ?_
    have e : (L ++ S ++ W).getD (L.length + j) (0, 0) = S.getD j (0, 0) := by
      rw [List.append_assoc, getD_r, getD_l hj]
    unfold txtT
    rw [show ((L.length : Int) + (j : Int)).toNat = L.length + j by omega, e]
    exact ⟨rfl, rfl⟩
  have newW : W ≠ [] → chkT okn (txtT (L ++ S ++ W) (M ++ [mrk L S W])) ((L ++ S).length) ((L ++ S ++ W).length) := fun hw => by
    obtain ⟨t, ht⟩ := hW hw
    refine ⟨t, ?_⟩
    rw [← ht, show (((L ++ S ++ W).length : Int) - ((L ++ S).length : Int)).toNat = W.length by omega]
    refine chkR_L W _ _ fun j hj => ?_
    have e : (L ++ S ++ W).getD ((L ++ S).length + j) (0, 0) = W.getD j (0, 0) := getD_r
    unfold txtT
    rw [show (((L ++ S).length : Int) + (j : Int)).toNat = (L ++ S).length + j by omega, e]
    exact ⟨rfl, rfl⟩
  have ln := ok.ln
  rw [t0, t1] at ln
  refine ⟨⟨⟨by rw [u0]; omega, by rw [u0]; omega⟩, ⟨by rw [u1]; omega, by rw [u1]; omega⟩, fun l h0 h1 => ?_, fun l h0 h1 => ?_, fun l h0 h1 h2 => ?_, fun h => ?_, fun l h0 h1 => ?_⟩, fun q => ?_, fun q => ?_⟩
  · rw [u0] at h1
    rw [u1]
    by_cases e : l = M.length
    · rw [e, p1, p2, p3]; omega
    · rw [o1 1 l h0 (by omega) (by omega), o1 2 l h0 (by omega) (by omega), o1 3 l h0 (by omega) (by omega)]
      have := ln l h0 (by omega)
      omega
  · rw [u0] at h1
    by_cases e : l = M.length
    · rw [e, p1, p2]; exact newS
    · rw [o1 1 l h0 (by omega) (by omega), o1 2 l h0 (by omega) (by omega)]
      have := ln l h0 (by omega)
      exact old _ _ (by omega) (by omega) (by omega) (ok.c1 l h0 (by rw [t0]; omega))
  · rw [u0] at h1
    by_cases e : l = M.length
    · rw [e, p2, p3] at h2 ⊢
      exact newW fun z => h2 (by rw [z, List.append_nil])
    · rw [o1 2 l h0 (by omega) (by omega), o1 3 l h0 (by omega) (by omega)] at h2 ⊢
      have := ln l h0 (by omega)
      exact old _ _ (by omega) (by omega) (by omega) (ok.c2 l h0 (by rw [t0]; omega) h2)
  · by_cases e : M.length = 0
    · have e2 : M = [] := List.eq_nil_of_length_eq_zero e
      have e3 := hn e2
      rw [e, show ((0 : Nat) : Int) = 0 from rfl] at p1
      rw [p1, e3]
      rfl
    · rw [o1 1 0 (by decide) (by omega) (by omega)]
      exact ok.f0 (by rw [t0]; omega)
  · rw [u0] at h1
    rw [o1 3 l h0 (by omega) (by omega)]
    by_cases e : l + 1 = M.length
    · rw [e, p1]
      have hne : M ≠ [] := fun z => by rw [z] at e; simp at e; omega
      have := hl hne
      unfold txtT
      rw [show l.toNat = M.length - 1 by omega]
      exact this.symm
    · rw [o1 1 (l + 1) (by omega) (by omega) (by omega)]
      exact ok.fs l h0 (by rw [t0]; omega)
  · exfalso
    have := congrArg List.length q
    simp at this
  · rw [List.length_append, List.length_singleton, Nat.add_sub_cancel, getD_e]
    rfl
section PLINES
variable {cnt : Nat} {lw : Bool} {K V : Nat → Int}
theorem g_when (hK : KEnd cnt K) {c : Nat} (hc : c ≤ cnt) : PrG cnt c 0 (pWhen lw K V c) := by
  unfold pWhen
  split
  · rename_i h
    have := hK c hc (by omega)
    have h1 := (g_or (K := K) (C := pCl lw K V 8) hK (fun c hc => g_cl hK 8 c hc) (c := c + 1) (by omega)).1
    refine ⟨fun q => ?_, h1.2⟩
    obtain ⟨a, b, d⟩ := h1.1 q
    exact ⟨by omega, b, by omega⟩
  · exact PrG.nil hc
theorem c_when (hV : NumOk K V) {c : Nat} (e : (pWhen lw K V c).1 = 0) (hne : (pWhen lw K V c).2.2 ≠ []) : ∃ t, chkL (oknW lw) (pWhen lw K V c).2.2 [] = some [t] := by
  unfold pWhen at e hne ⊢
  split
  · rename_i h
    rw [if_pos h] at e
    exact ⟨1, c_or (K := K) (b := 37) (by decide) (fun c => (c_cl (lw := lw) hV 8 (by decide) c).less (by decide)) (c + 1) e [] (by decide)⟩
  · rename_i h
    rw [if_neg h] at hne
    exact absurd rfl hne
/-- what the lines are, when they are read without a fault -/
theorem lines_ok (hK : KEnd cnt K) (hV : NumOk K V) (h5 : cnt ≤ 500) : ∀ (n c : Nat) (L : List (Int × Int)) (M : List (Int × Int × Int)), c ≤ cnt → L.length ≤ c → TxtOK' (oknW lw) L M → (pLinesR lw K V n c L M).1 = 0 → TxtOK' (oknW lw) (pLinesR lw K V n c L M).2.2.1 (pLinesR lw K V n c L M).2.2.2 := by
  intro n
  induction n with
  | zero => intro c L M _ _ h e; exact absurd e (show ¬ (1 : Int) = 0 by decide)
  | succ n ih =>
    intro c L M hc hL h e
    rw [pLinesR_succ] at e ⊢
    by_cases e1 : K c = 0
    · rw [if_pos e1]; exact h
    rw [if_neg e1] at e ⊢
    by_cases e2 : K c ≠ goK lw
    · rw [if_pos e2] at e; exact absurd e (show ¬ (1 : Int) = 0 by decide)
    rw [if_neg e2] at e ⊢
    by_cases e3 : 16 ≤ M.length
    · rw [if_pos e3] at e; exact absurd e (show ¬ (3 : Int) = 0 by decide)
    rw [if_neg e3] at e ⊢
    have hlt := hK c hc e1
    have g1 := g_sum (lw := lw) (V := V) hK (c := c + 1) (by omega)
    by_cases e4 : (pSum lw K V (c + 1)).1 ≠ 0
    · rw [if_pos e4] at e; exact absurd e e4
    rw [if_neg e4] at e ⊢
    have e4' : (pSum lw K V (c + 1)).1 = 0 := Classical.byContradiction fun q => e4 q
    have b1 := bdP hL g1.1 e4'
    have c1 := c_sum (lw := lw) hV e4' [] (by decide)
    have g2 := g_when (lw := lw) (V := V) hK b1.2
    by_cases e5 : (pWhen lw K V (pSum lw K V (c + 1)).2.1).1 ≠ 0
    · rw [if_pos e5] at e; exact absurd e e5
    rw [if_neg e5] at e ⊢
    have e5' : (pWhen lw K V (pSum lw K V (c + 1)).2.1).1 = 0 := Classical.byContradiction fun q => e5 q
    have b2 := bdL (L := L ++ (pSum lw K V (c + 1)).2.2) (by omega) g2 e5'
    have c2 := c_when (lw := lw) hV e5'
    by_cases e6 : K (pWhen lw K V (pSum lw K V (c + 1)).2.1).2.1 ≠ 59
    · rw [if_pos e6] at e; exact absurd e (show ¬ (1 : Int) = 0 by decide)
    rw [if_neg e6] at e ⊢
    have hlt2 := hK _ b2.2 (fun q => e6 (by rw [q]; decide))
    exact ih _ _ _ (by omega) (by omega) (txt_add h (by omega) (by omega) c1 c2) e
end PLINES
