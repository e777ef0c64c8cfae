/-! THE PURE PICTURE: values are a tag and an integer (0 int, 1 long, 2 reference as a cell's number, 9 nothing known), a store is a function of cell and place -/
abbrev PV : Type := Nat × Int
abbrev PS : Type := Int → Int → Int
/-- base of the own cells; classes; array classes; addresses of what was there before; the script -/
abbrev PG : Type := Nat × va_G × (Nat → ClassId) × (Nat → Option Nat) × Nat × (Nat → Int32)
/-- a method: own class, name, bytes, locals, answer -/
abbrev PM : Type := String × MethodName × ByteArray × Nat × Option FieldType
def w32 (x : Int) : Int := (x + 2147483648) % 4294967296 - 2147483648
def w64 (x : Int) : Int := (x + 9223372036854775808) % 18446744073709551616 - 9223372036854775808
def su (σ : PS) (k j v : Int) : PS := fun a b => if a = k ∧ b = j then v else σ a b
def in32 (x : Int) : Prop := -2147483648 ≤ x ∧ x ≤ 2147483647
def in64 (x : Int) : Prop := -9223372036854775808 ≤ x ∧ x ≤ 9223372036854775807
theorem w32_in (x : Int) : in32 (w32 x) := by unfold in32 w32; omega
theorem w64_in (x : Int) : in64 (w64 x) := by unfold in64 w64; omega
theorem w32_id {x : Int} (h : in32 x) : w32 x = x := by unfold in32 at h; unfold w32; omega
theorem w64_id {x : Int} (h : in64 x) : w64 x = x := by unfold in64 at h; unfold w64; omega
theorem ofInt_toInt32 {x : Int} (h : in32 x) : (Int32.ofInt x).toInt = x := by
  unfold in32 at h
  rw [Int32.toInt_ofInt]
  simp only [Int.bmod_def, Int32.size, Int64.size]
  omega
theorem ofInt_toInt64 {x : Int} (h : in64 x) : (Int64.ofInt x).toInt = x := by
  unfold in64 at h
  rw [Int64.toInt_ofInt]
  simp only [Int.bmod_def, Int32.size, Int64.size]
  omega
theorem toInt_in32 (x : Int32) : in32 x.toInt := by
  have h1 := Int32.le_toInt x
  have h2 := Int32.toInt_lt x
  unfold in32; omega
theorem toInt_in64 (x : Int64) : in64 x.toInt := by
  have h1 := Int64.le_toInt x
  have h2 := Int64.toInt_lt x
  unfold in64; omega
theorem ofInt_w32 (x : Int) : Int32.ofInt (w32 x) = Int32.ofInt x := by
  apply Int32.toInt_inj.mp
  rw [Int32.toInt_ofInt, Int32.toInt_ofInt]
  simp only [Int.bmod_def, Int32.size, w32]
  omega
theorem ofInt_w64 (x : Int) : Int64.ofInt (w64 x) = Int64.ofInt x := by
  apply Int64.toInt_inj.mp
  rw [Int64.toInt_ofInt, Int64.toInt_ofInt]
  simp only [Int.bmod_def, Int64.size, w64]
  omega
/-- bits and the like are taken over from the machine's ints -/
def iand (x y : Int) : Int := (Int32.ofInt x &&& Int32.ofInt y).toInt
def ior (x y : Int) : Int := (Int32.ofInt x ||| Int32.ofInt y).toInt
def ixor (x y : Int) : Int := (Int32.ofInt x ^^^ Int32.ofInt y).toInt
def ishl (x y : Int) : Int := (Int32.ofInt x <<< (Int32.ofInt y &&& 31)).toInt
def ishr (x y : Int) : Int := (Int32.ofInt x >>> (Int32.ofInt y &&& 31)).toInt
def iushr (x y : Int) : Int := ((Int32.ofInt x).toUInt32 >>> ((Int32.ofInt y).toUInt32 &&& Int32.toUInt32 31)).toInt32.toInt
def idiv (x y : Int) : Int := (Int32.ofInt x / Int32.ofInt y).toInt
def irem (x y : Int) : Int := (Int32.ofInt x - Int32.ofInt x / Int32.ofInt y * Int32.ofInt y).toInt
def ib8 (x : Int) : Int := (Int32.ofInt x).toInt8.toInt32.toInt
def ic16 (x : Int) : Int := ((Int32.ofInt x).toUInt32 % 65536).toInt32.toInt
def land (x y : Int) : Int := (Int64.ofInt x &&& Int64.ofInt y).toInt
def lor (x y : Int) : Int := (Int64.ofInt x ||| Int64.ofInt y).toInt
def lxor (x y : Int) : Int := (Int64.ofInt x ^^^ Int64.ofInt y).toInt
def ldiv (x y : Int) : Int := (Int64.ofInt x / Int64.ofInt y).toInt
def lshl (x y : Int) : Int := (Int64.ofInt x <<< ((Int32.ofInt y).toInt64 &&& 63)).toInt
def lushr (x y : Int) : Int := ((Int64.ofInt x).toUInt64 >>> ((Int32.ofInt y).toInt64.toUInt64 &&& Int64.toUInt64 63)).toInt64.toInt
def l2i (x : Int) : Int := (Int64.ofInt x).toInt32.toInt
def lcmpI (x y : Int) : Int := if x < y then -1 else if x = y then 0 else 1
def prf (g : PG) (x : Int) : Option Nat := if x < 0 then none else if x < 100000 then some (g.1 + x.toNat) else g.2.2.2.1 (x.toNat - 100000)
def tv (g : PG) (v : PV) : Value := match v.1 with
  | 0 => .int (Int32.ofInt v.2)
  | 1 => .long (Int64.ofInt v.2)
  | 2 => va_rf (prf g v.2)
  | _ => .int 0
def okv (v : PV) : Prop := (v.1 = 0 → in32 v.2) ∧ (v.1 = 1 → in64 v.2)
def okl (l : List PV) : Prop := ∀ v ∈ l, okv v
theorem okl_c {v : PV} {l : List PV} (h : okl (v :: l)) : okv v ∧ okl l := ⟨h v List.mem_cons_self, fun w hw => h w (List.mem_cons_of_mem _ hw)⟩
theorem okl_k {v : PV} {l : List PV} (h : okv v) (h2 : okl l) : okl (v :: l) := fun w hw => by
  rcases List.mem_cons.mp hw with e | e
  · rw [e]; exact h
  · exact h2 w e
theorem okl_app {a b : List PV} (h : okl a) (h2 : okl b) : okl (a ++ b) := fun w hw => (List.mem_append.mp hw).elim (h w) (h2 w)
theorem okv0 {x : Int} (h : in32 x) : okv (0, x) := ⟨fun _ => h, fun h => (by cases h)⟩
theorem okv1 {x : Int} (h : in64 x) : okv (1, x) := ⟨fun h => (by cases h), fun _ => h⟩
theorem okv2 (x : Int) : okv (2, x) := ⟨fun h => (by cases h), fun h => (by cases h)⟩
theorem okv9 (x : Int) : okv (9, x) := ⟨fun h => (by cases h), fun h => (by cases h)⟩
theorem tv_cat1 (g : PG) (v : PV) (h : v.1 ≠ 1) : (tv g v).category = 1 := by
  obtain ⟨t, x⟩ := v
  match t with
  | 0 => rfl
  | 1 => exact absurd rfl h
  | 2 => show (va_rf (prf g x)).category = 1; cases prf g x <;> rfl
  | n + 3 => rfl
theorem tv_cat2 (g : PG) (x : Int) : (tv g (1, x)).category = 2 := rfl
/-- the locals that are known, by place -/
def asl (g : PG) : Nat → List PV → List (Nat × Value)
  | _, [] => []
  | i, v :: r => if v.1 = 9 then asl g (i + 1) r else (i, tv g v) :: asl g (i + 1) r
theorem mem_asl {g : PG} {q : Nat × Value} : ∀ (ls : List PV) (i : Nat), q ∈ asl g i ls ↔ ∃ (k : Nat) (v : PV), ls[k]? = some v ∧ v.1 ≠ 9 ∧ q = (i + k, tv g v) := by
  intro ls
  induction ls with
  | nil => intro i; simp [asl]
  | cons a r ih =>
    intro i
    have key : (∃ (k : Nat) (v : PV), (a :: r)[k]? = some v ∧ v.1 ≠ 9 ∧ q = (i + k, tv g v)) ↔ ((a.1 ≠ 9 ∧ q = (i, tv g a)) ∨ ∃ (k : Nat) (v : PV), r[k]? = some v ∧ v.1 ≠ 9 ∧ q = (i + 1 + k, tv g v)) := by
      constructor
      · rintro ⟨k, v, h1, h2, h3⟩
        cases k with
        | zero => simp at h1; subst h1; exact Or.inl ⟨h2, h3⟩
        | succ k => exact Or.inr ⟨k, v, by simpa using h1, h2, by rw [h3]; congr 1; omega⟩
      · rintro (⟨h1, h2⟩ | ⟨k, v, h1, h2, h3⟩)
        · exact ⟨0, a, by simp, h1, h2⟩
        · exact ⟨k + 1, v, by simpa using h1, h2, by rw [h3]; congr 1; omega⟩
    rw [key]
    unfold asl
    by_cases h9 : a.1 = 9
    · rw [if_pos h9, ih]
      simp [h9]
    · rw [if_neg h9, List.mem_cons, ih]
      simp [h9]
theorem mem_asl0 {g : PG} {q : Nat × Value} {ls : List PV} : q ∈ asl g 0 ls ↔ ∃ v : PV, ls[q.1]? = some v ∧ v.1 ≠ 9 ∧ q.2 = tv g v := by
  rw [mem_asl]
  constructor
  · rintro ⟨k, v, h1, h2, h3⟩
    rw [h3]
    exact ⟨v, by simpa using h1, h2, rfl⟩
  · rintro ⟨v, h1, h2, h3⟩
    exact ⟨q.1, v, h1, h2, by rw [← h3]; simp⟩
def stI (ls : List PV) (j : Nat) (v : PV) : List PV := match j with
  | 0 => ls.set 0 v
  | i + 1 => match ls[i]? with
    | some (1, _) => (ls.set i (9, 0)).set (i + 1) v
    | _ => ls.set (i + 1) v
def stL (ls : List PV) (j : Nat) (v : PV) : List PV := (stI ls j v).set (j + 1) (9, 0)
def fg (ls : List PV) (ks : List Nat) : List PV := ks.foldl (fun l k => l.set k (9, 0)) ls
theorem stI_get {ls : List PV} {j : Nat} {v : PV} {k : Nat} {w : PV} (h : (stI ls j v)[k]? = some w) (h9 : w.1 ≠ 9) : (k = j ∧ w = v) ∨ (k ≠ j ∧ ls[k]? = some w ∧ (k + 1 = j → w.1 ≠ 1)) := by
  by_cases hk : k = j
  · subst hk
    left
    refine ⟨rfl, ?_⟩
    have hs : (stI ls k v)[k]? = some w → v = w := by
      intro h
      unfold stI at h
      cases k with
      | zero =>
        simp only [List.getElem?_set, if_true] at h
        split at h
        · exact Option.some.inj h
        · cases h
      | succ i =>
        simp only at h
        split at h
        all_goals
          simp only [List.getElem?_set, if_true] at h
          split at h
          · exact Option.some.inj h
          · cases h
    exact (hs h).symm
  · right
    refine ⟨hk, ?_⟩
    unfold stI at h
    cases j with
    | zero =>
      simp only [List.getElem?_set] at h
      rw [if_neg (fun e => hk e.symm)] at h
      exact ⟨h, fun e => by omega⟩
    | succ i =>
      simp only at h
      split at h
      · rename_i x he
        rw [List.getElem?_set, if_neg (fun e => hk e.symm), List.getElem?_set] at h
        split at h
        · split at h
          · cases h; exact absurd rfl h9
          · cases h
        · exact ⟨h, fun e => by omega⟩
      · rename_i hne
        rw [List.getElem?_set, if_neg (fun e => hk e.symm)] at h
        refine ⟨h, fun e e1 => ?_⟩
        have : k = i := by omega
        subst this
        obtain ⟨t, x⟩ := w
        simp only at e1
        subst e1
        exact hne x h
theorem stI_ok {ls : List PV} {j : Nat} {v : PV} (h : okl ls) (hv : okv v) : okl (stI ls j v) := by
  intro w hw
  obtain ⟨k, hk⟩ := List.getElem?_of_mem hw
  by_cases h9 : w.1 = 9
  · exact ⟨fun e => (by rw [h9] at e; cases e), fun e => (by rw [h9] at e; cases e)⟩
  · rcases stI_get hk h9 with ⟨-, e⟩ | ⟨-, e, -⟩
    · rw [e]; exact hv
    · exact h w (List.mem_of_getElem? e)
theorem set9_ok {ls : List PV} {j : Nat} (h : okl ls) : okl (ls.set j (9, 0)) := by
  intro w hw
  rcases List.mem_or_eq_of_mem_set hw with e | e
  · exact h w e
  · rw [e]; exact okv9 0
theorem fg_ok {ks : List Nat} : ∀ {ls : List PV}, okl ls → okl (fg ls ks) := by
  induction ks with
  | nil => intro ls h; exact h
  | cons k r ih => intro ls h; exact ih (set9_ok h)
theorem fg_get {ks : List Nat} : ∀ {ls : List PV} {i : Nat} {w : PV}, (fg ls ks)[i]? = some w → w.1 ≠ 9 → ls[i]? = some w := by
  induction ks with
  | nil => intro ls i w h _; exact h
  | cons k r ih =>
    intro ls i w h h9
    have h1 := ih h h9
    rw [List.getElem?_set] at h1
    split at h1
    · split at h1
      · cases h1; exact absurd rfl h9
      · cases h1
    · exact h1
def LRl (g : PG) (rls : Array Slot) (n : Nat) (ls : List PV) : Prop := lv_has rls n (asl g 0 ls)
theorem LRl.at {g : PG} {rls : Array Slot} {n : Nat} {ls : List PV} (h : LRl g rls n ls) {j : Nat} {v : PV} (hj : ls[j]? = some v) (h9 : v.1 ≠ 9) : rls[j]? = some (.val (tv g v)) :=
  h.2.2 (j, tv g v) (mem_asl0.mpr ⟨v, hj, h9, rfl⟩)
theorem LRl.less {g : PG} {rls : Array Slot} {n : Nat} {ls ls' : List PV} (h : LRl g rls n ls) (hs : ∀ (i : Nat) (w : PV), ls'[i]? = some w → w.1 ≠ 9 → ls[i]? = some w) : LRl g rls n ls' :=
  ⟨h.1, h.2.1, fun q hq => by
    obtain ⟨v, h1, h2, h3⟩ := mem_asl0.mp hq
    exact h.2.2 q (mem_asl0.mpr ⟨v, hs _ _ h1 h2, h2, h3⟩)⟩
theorem LRl.st1 {g : PG} {rls : Array Slot} {n : Nat} {ls : List PV} (h : LRl g rls n ls) {j : Nat} {v : PV} (hv : v.1 ≠ 1) {l : List (Nat × Value)} (hl : (j, tv g v) :: (asl g 0 ls).filter (fun q => !(q.1 == j) && !(q.1 + 1 == j && q.2.category == 2)) = l) {rls' : Array Slot} (h' : lv_has rls' n l) : LRl g rls' n (stI ls j v) := by
  subst hl
  refine ⟨h'.1, h'.2.1, fun q hq => h'.2.2 q ?_⟩
  obtain ⟨w, h1, h2, h3⟩ := mem_asl0.mp hq
  obtain ⟨i, val⟩ := q
  simp only at h1 h3
  rcases stI_get h1 h2 with ⟨e1, e2⟩ | ⟨e1, e2, e3⟩
  · rw [h3, e1, e2]; exact List.mem_cons_self
  · refine List.mem_cons_of_mem _ (List.mem_filter.mpr ⟨mem_asl0.mpr ⟨w, e2, h2, h3⟩, ?_⟩)
    have : ¬ (i + 1 = j ∧ val.category = 2) := by
      rintro ⟨a, b⟩
      rw [h3, tv_cat1 g w (e3 a)] at b
      cases b
    simp [e1]
    exact Classical.not_and_iff_not_or_not.mp this
theorem LRl.st2 {g : PG} {rls : Array Slot} {n : Nat} {ls : List PV} (h : LRl g rls n ls) {j : Nat} {v : PV} {l : List (Nat × Value)} (hl : (j, tv g v) :: (asl g 0 ls).filter (fun q => !(q.1 == j) && (!(q.1 == j + 1) && !(q.1 + 1 == j && q.2.category == 2))) = l) {rls' : Array Slot} (h' : lv_has rls' n l) : LRl g rls' n (stL ls j v) := by
  subst hl
  refine ⟨h'.1, h'.2.1, fun q hq => h'.2.2 q ?_⟩
  obtain ⟨w, h1, h2, h3⟩ := mem_asl0.mp hq
  obtain ⟨i, val⟩ := q
  simp only at h1 h3
  unfold stL at h1
  rw [List.getElem?_set] at h1
  split at h1
  · split at h1
    · cases h1; exact absurd rfl h2
    · cases h1
  · rename_i hne
    rcases stI_get h1 h2 with ⟨e1, e2⟩ | ⟨e1, e2, e3⟩
    · rw [h3, e1, e2]; exact List.mem_cons_self
    · refine List.mem_cons_of_mem _ (List.mem_filter.mpr ⟨mem_asl0.mpr ⟨w, e2, h2, h3⟩, ?_⟩)
      have : ¬ (i + 1 = j ∧ val.category = 2) := by
        rintro ⟨a, b⟩
        rw [h3, tv_cat1 g w (e3 a)] at b
        cases b
      simp [e1]
      exact ⟨fun e => hne e.symm, Classical.not_and_iff_not_or_not.mp this⟩
