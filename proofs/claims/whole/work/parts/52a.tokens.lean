/-! TOKENS, pure -/
def isLt (c : Int) : Bool := decide ((97 ≤ c ∧ c ≤ 122) ∨ (65 ≤ c ∧ c ≤ 90))
def isDg (c : Int) : Bool := decide (48 ≤ c ∧ c ≤ 57)
def isBl (c : Int) : Bool := decide (c = 32 ∨ c = 10)
def isSy (c : Int) : Bool := decide (c = 59 ∨ c = 43 ∨ c = 45 ∨ c = 42 ∨ c = 47 ∨ c = 40 ∨ c = 41 ∨ c = 60 ∨ c = 61 ∨ c = 62)
theorem isLt_iff {c : Int} : isLt c = true ↔ (97 ≤ c ∧ c ≤ 122) ∨ (65 ≤ c ∧ c ≤ 90) := decide_eq_true_iff
theorem isDg_iff {c : Int} : isDg c = true ↔ 48 ≤ c ∧ c ≤ 57 := decide_eq_true_iff
theorem isBl_iff {c : Int} : isBl c = true ↔ c = 32 ∨ c = 10 := decide_eq_true_iff
theorem isSy_iff {c : Int} : isSy c = true ↔ c = 59 ∨ c = 43 ∨ c = 45 ∨ c = 42 ∨ c = 47 ∨ c = 40 ∨ c = 41 ∨ c = 60 ∨ c = 61 ∨ c = 62 := decide_eq_true_iff
def runB (p : Int → Bool) (f : Int → Int) : Nat → Int → Int
  | 0, x => x
  | n + 1, x => if p (f x) = true then runB p f n (x + 1) else x
/-- the first place from x on that isn't so, or the end -/
def rnB (p : Int → Bool) (f : Int → Int) (ln x : Int) : Int := runB p f (ln - x).toNat x
theorem rnB_step {p : Int → Bool} {f : Int → Int} {ln x : Int} : rnB p f ln x = if x < ln ∧ p (f x) = true then rnB p f ln (x + 1) else x := by
  unfold rnB
  by_cases h : x < ln
  · rw [show (ln - x).toNat = (ln - (x + 1)).toNat + 1 by omega]
    show (if p (f x) = true then runB p f (ln - (x + 1)).toNat (x + 1) else x) = _
    by_cases h2 : p (f x) = true
    · rw [if_pos h2, if_pos ⟨h, h2⟩]
    · rw [if_neg h2, if_neg (fun z => h2 z.2)]
  · rw [show (ln - x).toNat = 0 by omega, if_neg (fun z => h z.1)]
    rfl
theorem rnB_in {p : Int → Bool} {f : Int → Int} {ln : Int} : ∀ (n : Nat) (x : Int), (ln - x).toNat = n → x ≤ ln → x ≤ rnB p f ln x ∧ rnB p f ln x ≤ ln ∧ (rnB p f ln x < ln → p (f (rnB p f ln x)) = false) ∧ ∀ y, x ≤ y → y < rnB p f ln x → p (f y) = true := by
  intro n
  induction n with
  | zero =>
    intro x hn hx
    have e : rnB p f ln x = x := by rw [rnB_step, if_neg (by omega)]
    rw [e]
    exact ⟨Int.le_refl x, hx, fun h => by omega, fun y h1 h2 => by omega⟩
  | succ n ih =>
    intro x hn hx
    rw [rnB_step]
    by_cases h2 : p (f x) = true
    · rw [if_pos ⟨by omega, h2⟩]
      obtain ⟨a1, a2, a3, a4⟩ := ih (x + 1) (by omega) (by omega)
      refine ⟨by omega, a2, a3, fun y y0 y1 => ?_⟩
      by_cases e : y = x
      · rw [e]; exact h2
      · exact a4 y (by omega) y1
    · rw [if_neg (fun z => h2 z.2)]
      refine ⟨Int.le_refl x, hx, fun _ => ?_, fun y h1 h2 => by omega⟩
      cases h : p (f x) with
      | true => exact absurd h h2
      | false => rfl
theorem rnB_ge {p : Int → Bool} {f : Int → Int} {ln x : Int} (h : ln ≤ x) : rnB p f ln x = x := by rw [rnB_step, if_neg (by omega)]
theorem rnB_bd {p : Int → Bool} {f : Int → Int} {ln x : Int} (h : x ≤ ln) : x ≤ rnB p f ln x ∧ rnB p f ln x ≤ ln := ⟨(rnB_in _ x rfl h).1, (rnB_in _ x rfl h).2.1⟩
def skB (f : Int → Int) (ln x : Int) : Int := rnB isBl f ln x
def tkE (f : Int → Int) (ln x : Int) : Int := if isLt (f x) = true then rnB isLt f ln (x + 1) else if isDg (f x) = true then rnB isDg f ln (x + 1) else x + 1
theorem tkE_bd {f : Int → Int} {ln x : Int} (h : x < ln) : x + 1 ≤ tkE f ln x ∧ tkE f ln x ≤ ln := by
  unfold tkE
  split
  · exact rnB_bd (by omega)
  split
  · exact rnB_bd (by omega)
  · omega
def blS (f : Int → Int) : Nat → Int → List Int
  | 0, _ => []
  | n + 1, x => f x :: blS f n (x + 1)
def fiW (l : List Int) : List (List Int) → Int → Int
  | [], _ => -1
  | w :: r, k => if w = l then k else fiW l r (k + 1)
def codesS (s : String) : List Int := s.toList.map fun c => (c.toNat : Int)
def cwL : List (List Int) := ["go", "change", "when", "and", "or", "not", "weak", "age", "sort", "beside", "place", "size", "load", "day", "mid", "gone", "phase", "since", "side", "any", "in", "shape", "there", "all"].map codesS
def mwL : List (List Int) := ["go", "change", "side", "any", "in", "shape", "gone", "there", "all", "when", "or", "and", "not", "weak", "age", "sort", "beside", "place", "size", "load", "day", "mid", "phase", "since"].map codesS
def wmL : List Int := [256, 257, 274, 275, 276, 277, 271, 278, 279, 258, 260, 259, 261, 262, 263, 264, 265, 266, 267, 268, 269, 270, 272, 273]
def wmap (v : Int) : Int := wmL.getD v.toNat 0
def wbL (f : Int → Int) (x e : Int) : List Int := blS f (e - x).toNat x
def tkW (f : Int → Int) (x e : Int) : Int := if fiW (wbL f x e) cwL 256 = -1 then 2 else fiW (wbL f x e) cwL 256
def tkK (f : Int → Int) (ln x : Int) : Int := if isLt (f x) = true then tkW f x (tkE f ln x) else if isDg (f x) = true then (if tkE f ln x - x ≤ 4 then 1 else 2) else if isSy (f x) = true then f x else 2
def valN (f : Int → Int) : Nat → Int → Int → Int
  | 0, _, v => v
  | n + 1, x, v => valN f n (x + 1) (10 * v + f x - 48)
theorem valN_succ (f : Int → Int) (n : Nat) (x v : Int) : valN f (n + 1) x v = valN f n (x + 1) (10 * v + f x - 48) := rfl
def tkV (f : Int → Int) (ln x : Int) : Int := if tkK f ln x = 1 then valN f (tkE f ln x - x).toNat x 0 else 0
/-- the tokens' starts -/
def stP (f : Int → Int) (ln : Int) : Nat → Int
  | 0 => skB f ln 0
  | i + 1 => if stP f ln i < ln then skB f ln (tkE f ln (stP f ln i)) else stP f ln i
theorem stP_succ (f : Int → Int) (ln : Int) (i : Nat) : stP f ln (i + 1) = if stP f ln i < ln then skB f ln (tkE f ln (stP f ln i)) else stP f ln i := rfl
def kdP (f : Int → Int) (ln : Int) (i : Nat) : Int := if stP f ln i < ln then tkK f ln (stP f ln i) else 0
def nmP (f : Int → Int) (ln : Int) (i : Nat) : Int := if stP f ln i < ln then tkV f ln (stP f ln i) else 0
theorem stP_bd {f : Int → Int} {ln : Int} (h : 0 ≤ ln) : ∀ i : Nat, 0 ≤ stP f ln i ∧ stP f ln i ≤ ln := by
  intro i
  induction i with
  | zero => exact rnB_bd h
  | succ i ih =>
    rw [stP_succ]
    split
    · rename_i hlt
      have a := tkE_bd (f := f) hlt
      have b := rnB_bd (p := isBl) (f := f) (x := tkE f ln (stP f ln i)) (ln := ln) (by omega)
      unfold skB
      omega
    · exact ih
theorem stP_up {f : Int → Int} {ln : Int} (h : 0 ≤ ln) : ∀ i : Nat, (i : Int) ≤ stP f ln i ∨ stP f ln i = ln := by
  intro i
  induction i with
  | zero => exact Or.inl (stP_bd h 0).1
  | succ i ih =>
    have hb := stP_bd (f := f) h i
    rw [stP_succ]
    split
    · rename_i hlt
      have a := tkE_bd (f := f) hlt
      have b := rnB_bd (p := isBl) (f := f) (x := tkE f ln (stP f ln i)) (ln := ln) (by omega)
      unfold skB
      omega
    · right; omega
theorem fiW_none {l : List Int} : ∀ {ws : List (List Int)} {k : Int}, (∀ w ∈ ws, w ≠ l) → fiW l ws k = -1 := by
  intro ws
  induction ws with
  | nil => intro k _; rfl
  | cons w r ih =>
    intro k h
    show (if w = l then k else fiW l r (k + 1)) = -1
    rw [if_neg (h w List.mem_cons_self)]
    exact ih fun v hv => h v (List.mem_cons_of_mem _ hv)
theorem wrd_in : ∀ w ∈ mwL, 0 ≤ fiW w mwL 0 ∧ fiW w mwL 0 < 24 ∧ fiW w cwL 256 = wmap (fiW w mwL 0) := by decide +kernel
theorem wrd_cm : ∀ w ∈ cwL, w ∈ mwL := by decide +kernel
theorem wrd_rel (l : List Int) : (fiW l mwL 0 = -1 ∧ fiW l cwL 256 = -1) ∨ (0 ≤ fiW l mwL 0 ∧ fiW l mwL 0 < 24 ∧ fiW l cwL 256 = wmap (fiW l mwL 0)) := by
  by_cases h : l ∈ mwL
  · exact Or.inr (wrd_in l h)
  · exact Or.inl ⟨fiW_none fun w hw e => h (e ▸ hw), fiW_none fun w hw e => h (e ▸ wrd_cm w hw)⟩
theorem wmap_in : ∀ v : Nat, v < 24 → 256 ≤ wmap v ∧ wmap v ≤ 279 := by decide +kernel
theorem wmap_inj : ∀ v : Nat, v < 24 → ∀ u : Nat, u < 24 → wmap v = wmap u → v = u := by decide +kernel
/-- a token as the model holds it -/
def TokM (k n tk vl : Int) : Prop := (k = 0 ∧ tk = 0) ∨ (k = 1 ∧ tk = 3 ∧ vl = n) ∨ (k = 2 ∧ tk = 1) ∨ (isSy k = true ∧ tk = 4 ∧ vl = k) ∨ (tk = 2 ∧ 0 ≤ vl ∧ vl < 24 ∧ k = wmap vl)
theorem TokM.word {k n tk vl : Int} (h : TokM k n tk vl) {v : Int} (h0 : 0 ≤ v) (h1 : v < 24) : (tk = 2 ∧ vl = v) ↔ k = wmap v := by
  have hw := wmap_in v.toNat (by omega)
  rw [show ((v.toNat : Nat) : Int) = v by omega] at hw
  rcases h with z | z | z | z | z
  · omega
  · omega
  · omega
  · have := isSy_iff.mp z.1; omega
  · obtain ⟨z1, z2, z3, z4⟩ := z
    constructor
    · rintro ⟨-, e⟩; rw [z4, e]
    · intro e
      refine ⟨z1, ?_⟩
      have := wmap_inj vl.toNat (by omega) v.toNat (by omega) (by rw [show ((vl.toNat : Nat) : Int) = vl by omega, show ((v.toNat : Nat) : Int) = v by omega, ← z4]; exact e)
      omega
theorem TokM.sign {k n tk vl : Int} (h : TokM k n tk vl) {c : Int} (hc : isSy c = true) : (tk = 4 ∧ vl = c) ↔ k = c := by
  have hc' := isSy_iff.mp hc
  rcases h with z | z | z | z | z
  · omega
  · omega
  · omega
  · omega
  · have hw := wmap_in vl.toNat (by omega)
    rw [show ((vl.toNat : Nat) : Int) = vl by omega] at hw
    omega
theorem TokM.num {k n tk vl : Int} (h : TokM k n tk vl) : (tk = 3 ↔ k = 1) ∧ (k = 1 → vl = n) := by
  rcases h with z | z | z | z | z
  · omega
  · omega
  · omega
  · have := isSy_iff.mp z.1; omega
  · have hw := wmap_in vl.toNat (by omega)
    rw [show ((vl.toNat : Nat) : Int) = vl by omega] at hw
    omega
theorem TokM.fin {k n tk vl : Int} (h : TokM k n tk vl) : tk = 0 ↔ k = 0 := by
  rcases h with z | z | z | z | z
  · omega
  · omega
  · omega
  · have := isSy_iff.mp z.1; omega
  · have hw := wmap_in vl.toNat (by omega)
    rw [show ((vl.toNat : Nat) : Int) = vl by omega] at hw
    omega
theorem tkK_ne {f : Int → Int} {ln x : Int} : tkK f ln x ≠ 0 := by
  unfold tkK
  split
  · unfold tkW
    rcases wrd_rel (wbL f x (tkE f ln x)) with z | z
    · rw [if_pos z.2]; decide
    · have hw := wmap_in (fiW (wbL f x (tkE f ln x)) mwL 0).toNat (by omega)
      rw [show (((fiW (wbL f x (tkE f ln x)) mwL 0).toNat : Nat) : Int) = fiW (wbL f x (tkE f ln x)) mwL 0 by omega, ← z.2.2] at hw
      split <;> omega
  split
  · split <;> decide
  split
  · rename_i h
    have := isSy_iff.mp h
    omega
  · decide
