/-! WHAT FAILS, told: pure -/
abbrev FL : Type := Int × Int × Int × List Int
def isShp (k : Int) : Bool := decide (k = 271 ∨ k = 278 ∨ k = 279)
def sgnOf (k : Int) : Int := if k = 271 then 6 else if k = 278 then 7 else 8
theorem isShp_iff {k : Int} : isShp k = true ↔ k = 271 ∨ k = 278 ∨ k = 279 := decide_eq_true_iff
def pShp (K : Nat → Int) : Nat → Nat → List Int → Int × Nat × List Int
  | 0, c, A => (1, c, A)
  | n + 1, c, A => if isShp (K c) = true then (if 8 ≤ A.length then (3, c, A) else pShp K n (c + 1) (A ++ [sgnOf (K c)])) else if A.length = 0 then (1, c, A) else (0, c, A)
theorem pShp_succ (K : Nat → Int) (n c : Nat) (A : List Int) : pShp K (n + 1) c A = if isShp (K c) = true then (if 8 ≤ A.length then (3, c, A) else pShp K n (c + 1) (A ++ [sgnOf (K c)])) else if A.length = 0 then (1, c, A) else (0, c, A) := rfl
def pNum (K V : Nat → Int) (least : Int) (c : Nat) : Int × Nat := if K c ≠ 1 then (1, c) else if V c < least ∨ 8 < V c then (2, c) else (0, c + 1)
def pBrk (K V : Nat → Int) (c : Nat) : Int × Nat × FL :=
  if K c = 277 then (if (pShp K 9 (c + 1) []).1 ≠ 0 then ((pShp K 9 (c + 1) []).1, (pShp K 9 (c + 1) []).2.1, (0, 0, 0, [])) else (0, (pShp K 9 (c + 1) []).2.1, (5, ((pShp K 9 (c + 1) []).2.2.length : Int), 0, (pShp K 9 (c + 1) []).2.2)))
  else if (pNum K V 1 (c + 1)).1 ≠ 0 then ((pNum K V 1 (c + 1)).1, (pNum K V 1 (c + 1)).2, (0, 0, 0, []))
  else if K c = 274 then (0, c + 2, (2, V (c + 1), 0, []))
  else if K (c + 2) ≠ 276 then (1, c + 2, (0, 0, 0, []))
  else if (pNum K V (V (c + 1)) (c + 3)).1 ≠ 0 then ((pNum K V (V (c + 1)) (c + 3)).1, (pNum K V (V (c + 1)) (c + 3)).2, (0, 0, 0, []))
  else (0, c + 4, (3, V (c + 1), V (c + 3), []))
def isBrk (k : Int) : Bool := decide (k = 274 ∨ k = 275 ∨ k = 277)
theorem isBrk_iff {k : Int} : isBrk k = true ↔ k = 274 ∨ k = 275 ∨ k = 277 := decide_eq_true_iff
def pBrksR (K V : Nat → Int) : Nat → Nat → List FL → Int × Nat × List FL
  | 0, c, Fs => (1, c, Fs)
  | n + 1, c, Fs => if K c = 0 then (0, c, Fs) else if ¬ isBrk (K c) = true then (1, c, Fs) else if 8 ≤ Fs.length then (3, c, Fs) else
    if (pBrk K V c).1 ≠ 0 then ((pBrk K V c).1, (pBrk K V c).2.1, Fs) else if K (pBrk K V c).2.1 ≠ 59 then (1, (pBrk K V c).2.1, Fs) else
    pBrksR K V n ((pBrk K V c).2.1 + 1) (Fs ++ [(pBrk K V c).2.2])
theorem pBrksR_succ (K V : Nat → Int) (n c : Nat) (Fs : List FL) : pBrksR K V (n + 1) c Fs = if K c = 0 then (0, c, Fs) else if ¬ isBrk (K c) = true then (1, c, Fs) else if 8 ≤ Fs.length then (3, c, Fs) else
    if (pBrk K V c).1 ≠ 0 then ((pBrk K V c).1, (pBrk K V c).2.1, Fs) else if K (pBrk K V c).2.1 ≠ 59 then (1, (pBrk K V c).2.1, Fs) else
    pBrksR K V n ((pBrk K V c).2.1 + 1) (Fs ++ [(pBrk K V c).2.2]) := rfl
/-! what a line does to the table -/
def tolL (A : List Int) : Nat := A.foldl (fun a s => 2 * a + (if s = 8 then 0 else 1)) 0
def gonL (A : List Int) : Nat := A.foldl (fun a s => 2 * a + (if s = 6 then 1 else 0)) 0
theorem tolL_snoc (A : List Int) (s : Int) : tolL (A ++ [s]) = 2 * tolL A + (if s = 8 then 0 else 1) := by unfold tolL; rw [List.foldl_append]; rfl
theorem gonL_snoc (A : List Int) (s : Int) : gonL (A ++ [s]) = 2 * gonL A + (if s = 6 then 1 else 0) := by unfold gonL; rw [List.foldl_append]; rfl
def anyW (s : Nat) (many : Int) : Nat → Int → Int → Int
  | 0, _, e => e
  | n + 1, w, e => if w < e then (if many ≤ pcN (s % 2 ^ w.toNat) then anyW s many n (w + 1) w else anyW s many n (w + 1) e) else e
theorem anyW_succ (s : Nat) (many : Int) (n : Nat) (w e : Int) : anyW s many (n + 1) w e = if w < e then (if many ≤ pcN (s % 2 ^ w.toNat) then anyW s many n (w + 1) w else anyW s many n (w + 1) e) else e := rfl
theorem anyW_stop {s : Nat} {many : Int} {n : Nat} {w e : Int} (h : e ≤ w) : anyW s many n w e = e := by
  cases n with
  | zero => rfl
  | succ n => rw [anyW_succ, if_neg (by omega)]
theorem anyW_iff {s : Nat} {many X : Int} : ∀ (n : Nat) (w e : Int), anyW s many n w e ≤ X ↔ e ≤ X ∨ ∃ t, w ≤ t ∧ t < w + n ∧ t ≤ X ∧ many ≤ pcN (s % 2 ^ t.toNat) := by
  intro n
  induction n with
  | zero =>
    intro w e
    constructor
    · intro h; exact Or.inl h
    · rintro (h | ⟨t, h1, h2, -⟩)
      · exact h
      · omega
  | succ n ih =>
    intro w e
    rw [anyW_succ]
    split
    · rename_i hw
      split
      · rename_i hc
        rw [anyW_stop (by omega)]
        constructor
        · intro h; exact Or.inr ⟨w, by omega, by omega, h, hc⟩
        · rintro (h | ⟨t, h1, h2, h3, -⟩) <;> omega
      · rename_i hc
        rw [ih]
        constructor
        · rintro (h | ⟨t, h1, h2, h3, h4⟩)
          · exact Or.inl h
          · exact Or.inr ⟨t, by omega, by omega, h3, h4⟩
        · rintro (h | ⟨t, h1, h2, h3, h4⟩)
          · exact Or.inl h
          · refine Or.inr ⟨t, ?_, by omega, h3, h4⟩
            rcases Int.lt_or_eq_of_le h1 with z | z
            · omega
            · rw [← z] at h4; exact absurd h4 hc
    · constructor
      · intro h; exact Or.inl h
      · rintro (h | ⟨t, h1, h2, h3, -⟩) <;> omega
def addS (E : Int → Int) (F : FL) : Int → Int := fun s => if F.1 = 5 then (if s.toNat &&& tolL F.2.2.2 = gonL F.2.2.2 ∧ F.2.1 < E s then F.2.1 else E s) else anyW s.toNat F.2.1 ((if F.1 = 2 then F.2.1 else F.2.2.1) - F.2.1 + 1).toNat F.2.1 (E s)
def metF (F : FL) (bits : Nat) (known : Int) : Prop := lmet F.1 F.2.1 F.2.2.1 (fun k => F.2.2.2.getD k 0) bits known
def okF (F : FL) : Prop := (F.1 = 2 ∨ F.1 = 3 ∨ F.1 = 5) ∧ (1 ≤ F.2.1 ∧ F.2.1 ≤ 8) ∧ (F.1 = 3 → F.2.1 ≤ F.2.2.1 ∧ F.2.2.1 ≤ 8) ∧ (F.1 = 5 → F.2.1 = F.2.2.2.length ∧ ∀ s ∈ F.2.2.2, s = 6 ∨ s = 7 ∨ s = 8)
theorem pcN_full : ∀ (k x : Nat), x < 2 ^ k → (pcN x = k ↔ x = 2 ^ k - 1) := by
  intro k
  induction k with
  | zero =>
    intro x hx
    have : x = 0 := by omega
    subst this
    rw [pcN_0]
    try simp
  | succ k ih =>
    intro x hx
    have hp := Nat.two_pow_pos k
    rw [Nat.pow_succ] at hx ⊢
    have h1 := ih (x / 2) (by omega)
    have h2 := pcN_le k (x / 2) (by omega)
    rw [pcN_step]
    omega
theorem and_bit (b x t : Nat) (ht : t < 2) : b &&& (2 * x + t) = 2 * (b / 2 &&& x) + (b % 2) * t := by
  have e : b = 2 * (b / 2) + b % 2 := by omega
  have h2 : b % 2 < 2 := Nat.mod_lt _ (by decide)
  apply Nat.eq_of_testBit_eq
  intro i
  rw [Nat.testBit_and]
  cases i with
  | zero =>
    simp only [Nat.testBit_zero]
    rcases (show b % 2 = 0 ∨ b % 2 = 1 by omega) with q | q <;> rcases (show t = 0 ∨ t = 1 by omega) with r | r <;> subst r <;> simp [q] <;> omega
  | succ i =>
    rw [Nat.testBit_succ, Nat.testBit_succ, Nat.testBit_succ, show (2 * x + t) / 2 = x by omega, show (2 * (b / 2 &&& x) + b % 2 * t) / 2 = b / 2 &&& x by
      have : b % 2 * t < 2 := by rcases (show t = 0 ∨ t = 1 by omega) with r | r <;> subst r <;> omega
      omega, Nat.testBit_and]
theorem shp_iff : ∀ (n : Nat) (A : List Int) (b : Nat), A.length = n → (∀ s ∈ A, s = 6 ∨ s = 7 ∨ s = 8) → (b &&& tolL A = gonL A ↔ shAll (fun k => A.getD k 0) b n) := by
  intro n
  induction n with
  | zero =>
    intro A b hA _
    have : A = [] := List.eq_nil_of_length_eq_zero hA
    subst this
    constructor
    · intro _ k hk; omega
    · intro _; exact Nat.and_zero b
  | succ n ih =>
    intro A b hA hs
    rcases List.eq_nil_or_concat A with e | ⟨A', s, e⟩
    · rw [e] at hA; simp at hA
    · rw [List.concat_eq_append] at e
      subst e
      rw [List.length_append, List.length_singleton] at hA
      have hA' : A'.length = n := by omega
      have h1 := ih A' (b / 2) hA' fun q hq => hs q (List.mem_append_left _ hq)
      have hs1 := hs s (List.mem_append_right _ (List.mem_singleton.mpr rfl))
      rw [tolL_snoc, gonL_snoc, and_bit _ _ _ (by split <;> omega)]
      have hb2 : b % 2 = 0 ∨ b % 2 = 1 := by omega
      have b0 : bitN b 0 = ((b % 2 : Nat) : Int) := by rw [bitN_div, Nat.pow_zero, Nat.div_one]
      have bs : ∀ j : Nat, bitN b (j + 1) = bitN (b / 2) j := fun j => by unfold bitN; rw [Nat.testBit_succ]
      have key : shAll (fun k => (A' ++ [s]).getD k 0) b (n + 1) ↔ shAll (fun k => A'.getD k 0) (b / 2) n ∧ (¬ (s = 6 ∧ bitN b 0 = 0) ∧ ¬ (s = 7 ∧ bitN b 0 = 1)) := by
        constructor
        · intro h
          refine ⟨fun k hk => ?_, ?_⟩
          · have := h k (by omega)
            unfold shOk at this ⊢
            simp only at this ⊢
            rw [getD_l (by omega), show n + 1 - 1 - k = (n - 1 - k) + 1 by omega, bs] at this
            exact this
          · have := h n (by omega)
            unfold shOk at this
            simp only at this
            rw [← hA', getD_e, show A'.length + 1 - 1 - A'.length = 0 by omega] at this
            exact this
        · rintro ⟨h, h2⟩ k hk
          unfold shOk
          simp only
          by_cases z : k = n
          · rw [z, ← hA', getD_e, show A'.length + 1 - 1 - A'.length = 0 by omega]
            exact h2
          · have := h k (by omega)
            unfold shOk at this
            simp only at this
            rw [getD_l (by omega), show n + 1 - 1 - k = (n - 1 - k) + 1 by omega, bs]
            exact this
      rw [key, ← h1, b0]
      rcases hs1 with rfl | rfl | rfl <;> rcases hb2 with q | q <;> simp only [q] <;> simp <;> omega
theorem add_rel {E : Int → Int} {F : FL} (hF : okF F) {bits : Nat} {known : Int} (h1 : bits < 256) (h2 : 1 ≤ known) (h3 : bits < 2 ^ known.toNat) : addS E F bits ≤ imin known 8 ↔ E bits ≤ imin known 8 ∨ metF F bits known := by
  obtain ⟨f1, f2, f3, f4⟩ := hF
  have hi : (imin known 8 = known ∧ known ≤ 8) ∨ (imin known 8 = 8 ∧ 8 < known) := by unfold imin; split <;> omega
  unfold addS metF lmet
  rw [Int.toNat_natCast]
  rcases f1 with e | e | e
  · rw [if_neg (by omega), if_pos e, anyW_iff, show (F.2.1 - F.2.1 + 1).toNat = 1 by omega]
    have hm : bits % 2 ^ F.2.1.toNat < 2 ^ F.2.1.toNat := Nat.mod_lt _ (Nat.two_pow_pos _)
    have hfull := pcN_full F.2.1.toNat (bits % 2 ^ F.2.1.toNat) hm
    have hle := pcN_le F.2.1.toNat (bits % 2 ^ F.2.1.toNat) hm
    constructor
    · rintro (h | ⟨t, t1, t2, t3, t4⟩)
      · exact Or.inl h
      · have et : t = F.2.1 := by omega
        subst et
        exact Or.inr (Or.inl ⟨e, by omega, hfull.mp (by omega)⟩)
    · rintro (h | h | h | h)
      · exact Or.inl h
      · refine Or.inr ⟨F.2.1, by omega, by omega, by omega, ?_⟩
        have := hfull.mpr h.2.2
        omega
      · omega
      · omega
  · rw [if_neg (by omega), if_neg (by omega), anyW_iff]
    obtain ⟨g1, g2⟩ := f3 e
    rw [show (((F.2.2.1 - F.2.1 + 1).toNat : Nat) : Int) = F.2.2.1 - F.2.1 + 1 by omega]
    constructor
    · rintro (h | ⟨t, t1, t2, t3, t4⟩)
      · exact Or.inl h
      · refine Or.inr (Or.inr (Or.inl ⟨e, ?_⟩))
        have := metN_mono bits (F.2.2.1.toNat - t.toNat) t.toNat
        rw [metN_pc, metN_pc, show t.toNat + (F.2.2.1.toNat - t.toNat) = F.2.2.1.toNat by omega] at this
        omega
    · rintro (h | h | h | h)
      · exact Or.inl h
      · omega
      · by_cases hk : F.2.2.1 ≤ imin known 8
        · exact Or.inr ⟨F.2.2.1, g1, by omega, hk, h.2⟩
        · have hkn : known < F.2.2.1 := by omega
          have hpw : 2 ^ known.toNat ≤ 2 ^ F.2.2.1.toNat := Nat.pow_le_pow_right (by decide) (by omega)
          have e1 : bits % 2 ^ F.2.2.1.toNat = bits := Nat.mod_eq_of_lt (by omega)
          have e2 : bits % 2 ^ known.toNat = bits := Nat.mod_eq_of_lt h3
          have h5 := h.2
          rw [e1] at h5
          have := pcN_le known.toNat bits h3
          exact Or.inr ⟨known, by omega, by omega, by omega, by rw [e2]; exact h5⟩
      · omega
  · rw [if_pos e]
    obtain ⟨g1, g2⟩ := f4 e
    have hsh := shp_iff F.2.2.2.length F.2.2.2 bits rfl g2
    have hsh' : bits &&& tolL F.2.2.2 = gonL F.2.2.2 ↔ shAll (fun k => F.2.2.2.getD k 0) bits F.2.1.toNat := by rw [g1, Int.toNat_natCast]; exact hsh
    constructor
    · intro h
      split at h
      · rename_i q
        exact Or.inr (Or.inr (Or.inr ⟨e, by omega, hsh'.mp q.1⟩))
      · exact Or.inl h
    · rintro (h | h | h | h)
      · split <;> omega
      · omega
      · omega
      · split
        · omega
        · rename_i q
          have : ¬ F.2.1 < E bits := fun q2 => q ⟨hsh'.mpr h.2.2, q2⟩
          omega
def brkE (Fs : List FL) : Int → Int := Fs.foldl addS (fun _ => 9)
theorem brkE_snoc (Fs : List FL) (F : FL) : brkE (Fs ++ [F]) = addS (brkE Fs) F := by unfold brkE; rw [List.foldl_append]; rfl
def BrkS (Fs : List FL) : Prop := (∀ F ∈ Fs, okF F) ∧ Fs.length ≤ 8 ∧ ∀ (bits : Nat) (known : Int), bits < 256 → 1 ≤ known → bits < 2 ^ known.toNat → (brkE Fs bits ≤ imin known 8 ↔ ∃ F ∈ Fs, metF F bits known)
theorem brkS_nil : BrkS [] := by
  refine ⟨fun F h => by simp at h, by decide, fun bits known _ _ _ => ?_⟩
  have : ¬ (9 : Int) ≤ imin known 8 := by unfold imin; split <;> omega
  constructor
  · intro h; exact absurd h this
  · rintro ⟨F, hF, -⟩; simp at hF
theorem brkS_add {Fs : List FL} {F : FL} (h : BrkS Fs) (hl : Fs.length < 8) (hF : okF F) : BrkS (Fs ++ [F]) := by
  obtain ⟨a1, a2, a3⟩ := h
  refine ⟨fun G hG => ?_, by rw [List.length_append, List.length_singleton]; omega, fun bits known h1 h2 h3 => ?_⟩
  · rcases List.mem_append.mp hG with z | z
    · exact a1 G z
    · rw [List.mem_singleton.mp z]; exact hF
  · rw [brkE_snoc, add_rel hF h1 h2 h3, a3 bits known h1 h2 h3]
    constructor
    · rintro (⟨G, hG, hm⟩ | hm)
      · exact ⟨G, List.mem_append_left _ hG, hm⟩
      · exact ⟨F, List.mem_append_right _ (List.mem_singleton.mpr rfl), hm⟩
    · rintro ⟨G, hG, hm⟩
      rcases List.mem_append.mp hG with z | z
      · exact Or.inl ⟨G, z, hm⟩
      · rw [List.mem_singleton.mp z] at hm; exact Or.inr hm
abbrev dFL : FL := (0, 0, 0, [])
theorem brkS_rel {Fs : List FL} (h : BrkS Fs) : BrkRel (brkE Fs) Fs.length (fun l => (Fs.getD l.toNat dFL).1) (fun l => (Fs.getD l.toNat dFL).2.1) (fun l => (Fs.getD l.toNat dFL).2.2.1) (fun l k => (Fs.getD l.toNat dFL).2.2.2.getD k 0) := by
  obtain ⟨a1, a2, a3⟩ := h
  have hmem : ∀ l : Nat, l < Fs.length → Fs.getD l dFL ∈ Fs := fun l hl => by
    rw [List.getD_eq_getElem?_getD, List.getElem?_eq_getElem hl]
    exact List.getElem_mem hl
  refine ⟨⟨by omega, by omega, fun l l0 l1 => ?_⟩, fun bits known h1 h2 h3 => ?_⟩
  · obtain ⟨f1, f2, f3, f4⟩ := a1 _ (hmem l.toNat (by omega))
    exact ⟨f1, f2.1, f2.2, f3⟩
  · rw [a3 bits known h1 h2 h3]
    constructor
    · rintro ⟨F, hF, hm⟩
      obtain ⟨i, hi, e⟩ := List.getElem_of_mem hF
      have e2 : Fs.getD i dFL = F := by rw [List.getD_eq_getElem?_getD, List.getElem?_eq_getElem hi, e]; rfl
      refine ⟨(i : Int), by omega, by omega, ?_⟩
      simp only
      rw [Int.toNat_natCast, e2]
      exact hm
    · rintro ⟨i, i0, i1, hm⟩
      exact ⟨_, hmem i.toNat (by omega), hm⟩
section PBRK
variable {cnt : Nat} {K V : Nat → Int}
theorem g_shp (hK : KEnd cnt K) : ∀ (n c : Nat) (A : List Int), A.length + n = 9 → A.length ≤ 8 → c ≤ cnt → (∀ s ∈ A, s = 6 ∨ s = 7 ∨ s = 8) → ((pShp K n c A).1 = 0 → (pShp K n c A).2.1 ≤ cnt ∧ (1 ≤ (pShp K n c A).2.2.length ∧ (pShp K n c A).2.2.length ≤ 8) ∧ ∀ s ∈ (pShp K n c A).2.2, s = 6 ∨ s = 7 ∨ s = 8) := by
  intro n
  induction n with
  | zero => intro c A hA h8 hc hs; omega
  | succ n ih =>
    intro c A hA h8 hc hs e
    rw [pShp_succ] at e ⊢
    by_cases h1 : isShp (K c) = true
    · rw [if_pos h1] at e ⊢
      by_cases h2 : 8 ≤ A.length
      · rw [if_pos h2] at e; exact absurd e (show ¬ (3 : Int) = 0 by decide)
      · rw [if_neg h2] at e ⊢
        have hk := isShp_iff.mp h1
        have hlt := hK c hc (by omega)
        refine ih (c + 1) _ (by rw [List.length_append, List.length_singleton]; omega) (by rw [List.length_append, List.length_singleton]; omega) (by omega) (fun s hs' => ?_) e
        rcases List.mem_append.mp hs' with z | z
        · exact hs s z
        · rw [List.mem_singleton.mp z]; unfold sgnOf; split
          · exact Or.inl rfl
          split
          · exact Or.inr (Or.inl rfl)
          · exact Or.inr (Or.inr rfl)
    · rw [if_neg h1] at e ⊢
      by_cases h2 : A.length = 0
      · rw [if_pos h2] at e; exact absurd e (show ¬ (1 : Int) = 0 by decide)
      · rw [if_neg h2]
        exact ⟨hc, ⟨by show 1 ≤ A.length; omega, h8⟩, hs⟩
theorem pNum_ok {least : Int} {c : Nat} (h : (pNum K V least c).1 = 0) : K c = 1 ∧ least ≤ V c ∧ V c ≤ 8 ∧ (pNum K V least c).2 = c + 1 := by
  unfold pNum at h ⊢
  by_cases h1 : K c ≠ 1
  · rw [if_pos h1] at h; exact absurd h (show ¬ (1 : Int) = 0 by decide)
  · rw [if_neg h1] at h ⊢
    by_cases h2 : V c < least ∨ 8 < V c
    · rw [if_pos h2] at h; exact absurd h (show ¬ (2 : Int) = 0 by decide)
    · rw [if_neg h2]
      exact ⟨by omega, by omega, by omega, rfl⟩
theorem pBrk_ok (hK : KEnd cnt K) {c : Nat} (hc : c < cnt) (hk : isBrk (K c) = true) (e : (pBrk K V c).1 = 0) : (pBrk K V c).2.1 ≤ cnt ∧ okF (pBrk K V c).2.2 := by
  unfold pBrk at e ⊢
  by_cases h1 : K c = 277
  · rw [if_pos h1] at e ⊢
    by_cases h2 : (pShp K 9 (c + 1) []).1 ≠ 0
    · rw [if_pos h2] at e; exact absurd e h2
    · rw [if_neg h2]
      have g := g_shp hK 9 (c + 1) [] (by decide) (by decide) (by omega) (fun s hs => by simp at hs) (Classical.byContradiction fun q => h2 q)
      exact ⟨g.1, Or.inr (Or.inr rfl), ⟨by show (1 : Int) ≤ ((pShp K 9 (c + 1) []).2.2.length : Int); omega, by show ((pShp K 9 (c + 1) []).2.2.length : Int) ≤ 8; omega⟩, fun q => absurd q (show ¬ (5 : Int) = 3 by decide), fun _ => ⟨rfl, g.2.2⟩⟩
  · rw [if_neg h1] at e ⊢
    by_cases h2 : (pNum K V 1 (c + 1)).1 ≠ 0
    · rw [if_pos h2] at e; exact absurd e h2
    · rw [if_neg h2] at e ⊢
      obtain ⟨n1, n2, n3, n4⟩ := pNum_ok (Classical.byContradiction fun q => h2 q)
      have hlt1 := hK (c + 1) (by omega) (by omega)
      by_cases h3 : K c = 274
      · rw [if_pos h3]
        exact ⟨by show c + 2 ≤ cnt; omega, Or.inl rfl, ⟨n2, n3⟩, fun q => absurd q (show ¬ (2 : Int) = 3 by decide), fun q => absurd q (show ¬ (2 : Int) = 5 by decide)⟩
      · rw [if_neg h3] at e ⊢
        by_cases h4 : K (c + 2) ≠ 276
        · rw [if_pos h4] at e; exact absurd e (show ¬ (1 : Int) = 0 by decide)
        · rw [if_neg h4] at e ⊢
          have hlt2 := hK (c + 2) (by omega) (by omega)
          by_cases h5 : (pNum K V (V (c + 1)) (c + 3)).1 ≠ 0
          · rw [if_pos h5] at e; exact absurd e h5
          · rw [if_neg h5]
            obtain ⟨m1, m2, m3, m4⟩ := pNum_ok (Classical.byContradiction fun q => h5 q)
            have hlt3 := hK (c + 3) (by omega) (by omega)
            exact ⟨by show c + 4 ≤ cnt; omega, Or.inr (Or.inl rfl), ⟨n2, n3⟩, fun _ => ⟨m2, m3⟩, fun q => absurd q (show ¬ (3 : Int) = 5 by decide)⟩
theorem brks_ok (hK : KEnd cnt K) : ∀ (n c : Nat) (Fs : List FL), c ≤ cnt → BrkS Fs → (pBrksR K V n c Fs).1 = 0 → BrkS (pBrksR K V n c Fs).2.2 := by
  intro n
  induction n with
  | zero => intro c Fs _ _ e; exact absurd e (show ¬ (1 : Int) = 0 by decide)
  | succ n ih =>
    intro c Fs hc h e
    rw [pBrksR_succ] at e ⊢
    by_cases e1 : K c = 0
    · rw [if_pos e1]; exact h
    rw [if_neg e1] at e ⊢
    by_cases e2 : ¬ isBrk (K c) = true
    · rw [if_pos e2] at e; exact absurd e (show ¬ (1 : Int) = 0 by decide)
    rw [if_neg e2] at e ⊢
    by_cases e3 : 8 ≤ Fs.length
    · rw [if_pos e3] at e; exact absurd e (show ¬ (3 : Int) = 0 by decide)
    rw [if_neg e3] at e ⊢
    have hlt := hK c hc e1
    by_cases e4 : (pBrk K V c).1 ≠ 0
    · rw [if_pos e4] at e; exact absurd e e4
    rw [if_neg e4] at e ⊢
    obtain ⟨b1, b2⟩ := pBrk_ok hK hlt (Classical.byContradiction fun q => e2 q) (Classical.byContradiction fun q => e4 q)
    by_cases e5 : K (pBrk K V c).2.1 ≠ 59
    · rw [if_pos e5] at e; exact absurd e (show ¬ (1 : Int) = 0 by decide)
    rw [if_neg e5] at e ⊢
    have hlt2 := hK _ b1 (fun q => e5 (by rw [q]; decide))
    exact ih _ _ (by omega) (brkS_add h (by omega) b2) e
end PBRK
def pFails (f : Int → Int) (ln : Int) : Int × Nat × List FL := pBrksR (kdP f ln) (nmP f ln) 9 0 []
