/-! THE TEXTS' CODE: a pure stack machine; the class's and the model's say the same -/
def eqx (L : List Int) (σ σ' : PS) : Prop := ∀ a, a ∉ L → ∀ j, σ' a j = σ a j
theorem eqx.rf {L : List Int} {σ : PS} : eqx L σ σ := fun _ _ _ => rfl
theorem eqx.tr {L : List Int} {σ σ' σ'' : PS} (h : eqx L σ σ') (h2 : eqx L σ' σ'') : eqx L σ σ'' := fun a ha j => (h2 a ha j).trans (h a ha j)
theorem eqx.mono {L L' : List Int} {σ σ' : PS} (h : eqx L σ σ') (hs : ∀ a ∈ L, a ∈ L') : eqx L' σ σ' := fun a ha j => h a (fun z => ha (hs a z)) j
theorem eqx.su {L : List Int} {σ σ' : PS} {a j v : Int} (h : eqx L σ σ') (ha : a ∈ L) : eqx L σ (su σ' a j v) := fun b hb i => by
  rw [su_ne (Or.inl (fun e => hb (by rw [e]; exact ha)))]
  exact h b hb i
def nmap (k : Int) : Int := if k = 9 then 10 else if k = 10 then 11 else if k = 11 then 9 else k
def partOf (op ar : Int) : Int := if op = 0 then ar else if op = 1 then -(262 + nmap ar) else if op = 2 then -43 else if op = 3 then -45 else if op = 4 then -42 else if op = 5 then -47 else if op = 6 then -60 else if op = 7 then -61 else if op = 8 then -62 else if op = 9 then -261 else if op = 10 then -259 else -260
def twoF (op x y : Int) : Int := if op = 2 then w32 (x + y) else if op = 3 then w32 (x - y) else if op = 4 then w32 (x * y) else if op = 5 then idiv x y else if op = 6 then (if x < y then 1 else 0) else if op = 7 then (if x = y then 1 else 0) else if op = 8 then (if y < x then 1 else 0) else if op = 10 then w32 (x * y) else (if 0 < w32 (x + y) then 1 else 0)
def stepE (nm : Int → Int) (op ar : Int) (vs : List Int) : List Int :=
  if op = 0 then ar :: vs else if op = 1 then nm ar :: vs else if op = 9 then (match vs with
    | x :: r => w32 (1 - x) :: r
    | [] => []) else match vs with
    | y :: x :: r => twoF op x y :: r
    | r => r
/-- types: 0 a number, 1 so or not, 2 a number that stands there and isn't 0 -/
def stepT (okn : Int → Bool) (op ar : Int) (ts : List Nat) : Option (List Nat) :=
  if 60 ≤ ts.length then none
  else if op = 0 then (if 0 ≤ ar ∧ ar ≤ 9999 then some ((if ar = 0 then 0 else 2) :: ts) else none)
  else if op = 1 then (if okn ar = true ∧ 0 ≤ ar ∧ ar < 12 then some (0 :: ts) else none)
  else if op = 9 then (match ts with
    | 1 :: r => some (1 :: r)
    | _ => none)
  else if op = 5 then (match ts with
    | 2 :: _ :: r => some (0 :: r)
    | _ => none)
  else if op = 2 ∨ op = 3 ∨ op = 4 then (match ts with
    | _ :: _ :: r => some (0 :: r)
    | _ => none)
  else if op = 6 ∨ op = 7 ∨ op = 8 then (match ts with
    | _ :: _ :: r => some (1 :: r)
    | _ => none)
  else if op = 10 ∨ op = 11 then (match ts with
    | 1 :: 1 :: r => some (1 :: r)
    | _ => none)
  else none
def chkR (okn : Int → Bool) (op ar : Int → Int) : Nat → Int → List Nat → Option (List Nat)
  | 0, _, ts => some ts
  | n + 1, i, ts => match stepT okn (op i) (ar i) ts with
    | none => none
    | some ts' => chkR okn op ar n (i + 1) ts'
def evR (nm : Int → Int) (op ar : Int → Int) : Nat → Int → List Int → List Int
  | 0, _, vs => vs
  | n + 1, i, vs => evR nm op ar n (i + 1) (stepE nm (op i) (ar i) vs)
def tyv (t : Nat) (v : Int) : Prop := (t = 1 → v = 0 ∨ v = 1) ∧ (t = 2 → v ≠ 0)
def tyl : List Nat → List Int → Prop
  | [], [] => True
  | t :: ts, v :: vs => tyv t v ∧ tyl ts vs
  | _, _ => False
theorem tyl_len : ∀ {ts : List Nat} {vs : List Int}, tyl ts vs → ts.length = vs.length := by
  intro ts
  induction ts with
  | nil => intro vs h; cases vs with
    | nil => rfl
    | cons v r => exact h.elim
  | cons t r ih => intro vs h; cases vs with
    | nil => exact h.elim
    | cons v r2 => simp [ih h.2]
theorem tyv0 (v : Int) : tyv 0 v := ⟨fun h => (by cases h), fun h => (by cases h)⟩
theorem tyv1 {v : Int} (h : v = 0 ∨ v = 1) : tyv 1 v := ⟨fun _ => h, fun h => (by cases h)⟩
theorem ite01 (p : Prop) [Decidable p] : (if p then (1 : Int) else 0) = 0 ∨ (if p then (1 : Int) else 0) = 1 := by split <;> simp
/-- what a good step does -/
def goodStep (okn : Int → Bool) (nm : Int → Int) (op ar : Int) (ts : List Nat) (vs : List Int) (ts' : List Nat) : Prop :=
  vs.length < 60 ∧ tyl ts' (stepE nm op ar vs) ∧
  ((op = 0 ∧ 0 ≤ ar ∧ ar ≤ 9999 ∧ stepE nm op ar vs = ar :: vs) ∨ (op = 1 ∧ okn ar = true ∧ 0 ≤ ar ∧ ar < 12 ∧ stepE nm op ar vs = nm ar :: vs) ∨
   (op = 9 ∧ ∃ x r, vs = x :: r ∧ stepE nm op ar vs = w32 (1 - x) :: r) ∨
   ((op = 2 ∨ op = 3 ∨ op = 4 ∨ op = 5 ∨ op = 6 ∨ op = 7 ∨ op = 8 ∨ op = 10 ∨ op = 11) ∧ ∃ y x r, vs = y :: x :: r ∧ stepE nm op ar vs = twoF op x y :: r ∧ (op = 5 → y ≠ 0) ∧ ((op = 10 ∨ op = 11) → (y = 0 ∨ y = 1) ∧ (x = 0 ∨ x = 1))))
theorem step_good {okn : Int → Bool} {nm : Int → Int} {op ar : Int} {ts ts' : List Nat} {vs : List Int} (h : stepT okn op ar ts = some ts') (hv : tyl ts vs) : goodStep okn nm op ar ts vs ts' := by
  have hl := tyl_len hv
  unfold stepT at h
  split at h
  · cases h
  rename_i h60
  split at h
  · rename_i h0
    subst h0
    split at h
    · rename_i hr
      cases h
      have e : stepE nm 0 ar vs = ar :: vs := by simp [stepE]
      refine ⟨by omega, ?_, Or.inl ⟨rfl, hr.1, hr.2, e⟩⟩
      rw [e]
      refine ⟨?_, hv⟩
      split
      · exact tyv0 _
      · rename_i hne; exact ⟨fun h => (by cases h), fun _ => hne⟩
    · cases h
  rename_i n0
  split at h
  · rename_i h1
    subst h1
    split at h
    · rename_i hr
      cases h
      have e : stepE nm 1 ar vs = nm ar :: vs := by simp [stepE]
      exact ⟨by omega, by rw [e]; exact ⟨tyv0 _, hv⟩, Or.inr (Or.inl ⟨rfl, hr.1, hr.2.1, hr.2.2, e⟩)⟩
    · cases h
  rename_i n1
  split at h
  · rename_i h9
    subst h9
    split at h
    · rename_i r
      cases h
      cases vs with
      | nil => exact hv.elim
      | cons x r2 =>
        have e : stepE nm 9 ar (x :: r2) = w32 (1 - x) :: r2 := by simp [stepE]
        refine ⟨by omega, ?_, Or.inr (Or.inr (Or.inl ⟨rfl, x, r2, rfl, e⟩))⟩
        rw [e]
        refine ⟨tyv1 ?_, hv.2⟩
        rcases hv.1.1 rfl with rfl | rfl
        · exact Or.inr (by decide)
        · exact Or.inl (by decide)
    · cases h
  rename_i n9
  have two : ∀ {a b : Nat} {r : List Nat}, ts = a :: b :: r → ∃ y x r2, vs = y :: x :: r2 ∧ tyv a y ∧ tyv b x ∧ tyl r r2 ∧ stepE nm op ar vs = twoF op x y :: r2 := by
    intro a b r hts
    subst hts
    cases vs with
    | nil => exact hv.elim
    | cons y v2 =>
      cases v2 with
      | nil => exact hv.2.elim
      | cons x r2 => exact ⟨y, x, r2, rfl, hv.1, hv.2.1, hv.2.2, by simp [stepE, n0, n1, n9]⟩
  split at h
  · rename_i h5
    split at h
    · rename_i b r
      cases h
      obtain ⟨y, x, r2, e1, t1, t2, t3, e2⟩ := two rfl
      refine ⟨by omega, by rw [e2]; exact ⟨tyv0 _, t3⟩, Or.inr (Or.inr (Or.inr ⟨by omega, y, x, r2, e1, e2, fun _ => t1.2 rfl, fun h => by omega⟩))⟩
    · cases h
  rename_i n5
  split at h
  · rename_i h5
    split at h
    · rename_i a b r
      cases h
      obtain ⟨y, x, r2, e1, t1, t2, t3, e2⟩ := two rfl
      refine ⟨by omega, by rw [e2]; exact ⟨tyv0 _, t3⟩, Or.inr (Or.inr (Or.inr ⟨by omega, y, x, r2, e1, e2, fun h => by omega, fun h => by omega⟩))⟩
    · cases h
  split at h
  · rename_i h5
    split at h
    · rename_i a b r
      cases h
      obtain ⟨y, x, r2, e1, t1, t2, t3, e2⟩ := two rfl
      refine ⟨by omega, ?_, Or.inr (Or.inr (Or.inr ⟨by omega, y, x, r2, e1, e2, fun h => by omega, fun h => by omega⟩))⟩
      rw [e2]
      refine ⟨tyv1 ?_, t3⟩
      rcases h5 with rfl | rfl | rfl <;> (simp only [twoF, Int.reduceEq, if_false, if_true]; exact ite01 _)
    · cases h
  split at h
  · rename_i h5
    split at h
    · rename_i r
      cases h
      obtain ⟨y, x, r2, e1, t1, t2, t3, e2⟩ := two rfl
      have y01 := t1.1 rfl
      have x01 := t2.1 rfl
      refine ⟨by omega, ?_, Or.inr (Or.inr (Or.inr ⟨by omega, y, x, r2, e1, e2, fun h => by omega, fun _ => ⟨y01, x01⟩⟩))⟩
      rw [e2]
      refine ⟨tyv1 ?_, t3⟩
      rcases h5 with rfl | rfl <;> rcases y01 with rfl | rfl <;> rcases x01 with rfl | rfl <;> decide
    · cases h
  cases h
/-- a stack in an array -/
def stk (f : Int → Int) : List Int → Prop
  | [] => True
  | v :: r => f r.length = v ∧ stk f r
theorem stk_congr {f f' : Int → Int} : ∀ {r : List Int}, (∀ j : Int, 0 ≤ j → j < r.length → f' j = f j) → stk f r → stk f' r := by
  intro r
  induction r with
  | nil => intro _ _; trivial
  | cons v r ih =>
    intro h hs
    refine ⟨by rw [h _ (by omega) (by simp only [List.length_cons]; omega)]; exact hs.1, ih (fun j h0 h1 => h j h0 (by simp only [List.length_cons]; omega)) hs.2⟩
theorem stk_push {σ : PS} {c v : Int} {r : List Int} (h : stk (σ c) r) : stk ((su σ c r.length v) c) (v :: r) :=
  ⟨su_eq, stk_congr (fun j h0 h1 => su_ne (Or.inr (by omega))) h⟩
def hdI (l : List Int) : Int := l.headD 0

theorem idiv_in (x y : Int) : in32 (idiv x y) := toInt_in32 _
theorem iand01 {x y : Int} (hx : x = 0 ∨ x = 1) (hy : y = 0 ∨ y = 1) : iand x y = twoF 10 x y ∧ ior x y = twoF 11 x y := by
  rcases hx with rfl | rfl <;> rcases hy with rfl | rfl <;> decide
theorem chkR_cons {okn : Int → Bool} {op ar : Int → Int} {n : Nat} {i : Int} {ts r : List Nat} (h : chkR okn op ar (n + 1) i ts = some r) : ∃ ts', stepT okn (op i) (ar i) ts = some ts' ∧ chkR okn op ar n (i + 1) ts' = some r := by
  unfold chkR at h
  split at h
  · cases h
  · rename_i ts' e; exact ⟨ts', e, h⟩
