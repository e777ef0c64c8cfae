/-! the row changes -/
theorem su_fn {σ : PS} {a b j v : Int} (h : b ≠ a) : su σ a j v b = σ b := funext fun _ => su_ne (Or.inl h)
theorem BitsC.congr {v : Int} {f f' : Int → Int} (h : BitsC v f) (e : ∀ p, 0 ≤ p → p < 60 → f' p = f p) : BitsC v f' := by
  obtain ⟨N, e1, hN, hb⟩ := h
  exact ⟨N, e1, hN, fun p hp => (e p (by omega) (by omega)).trans (hb p hp)⟩
theorem BitsC.zero {f : Int → Int} (e : ∀ p, 0 ≤ p → p < 60 → f p = 0) : BitsC 0 f := ⟨0, rfl, by decide, fun p hp => by rw [e p (by omega) (by omega), bitN_zero]⟩
theorem BitsC.set {v p : Int} {f f' : Int → Int} (h : BitsC v f) (h0 : 0 ≤ p) (h1 : p < 60) (e : ∀ q, 0 ≤ q → q < 60 → f' q = if q = p then 1 else f q) : BitsC (lor v (lshl 1 p)) f' := by
  obtain ⟨N, e1, hN, hb⟩ := h
  obtain ⟨k, rfl⟩ : ∃ k : Nat, p = (k : Int) := ⟨p.toNat, by omega⟩
  have hk : 2 ^ k < 2 ^ 60 := Nat.pow_lt_pow_right (by decide) (by omega)
  refine ⟨N ||| 2 ^ k, ?_, set_lt hN (by omega), fun q hq => ?_⟩
  · rw [e1, lshl1_nat (by omega), lor_nat (by omega) (by omega)]
  · rw [e q (by omega) (by omega), bitN_set, hb q hq]
    by_cases z : q = k
    · rw [if_pos (by omega), if_pos z]
    · rw [if_neg (by omega), if_neg z]
theorem BitsC.clr {v p : Int} {f f' : Int → Int} (h : BitsC v f) (h0 : 0 ≤ p) (h1 : p < 60) (e : ∀ q, 0 ≤ q → q < 60 → f' q = if q = p then 0 else f q) : BitsC (land v (lxor (lshl 1 p) (-1))) f' := by
  obtain ⟨N, e1, hN, hb⟩ := h
  obtain ⟨k, rfl⟩ : ∃ k : Nat, p = (k : Int) := ⟨p.toNat, by omega⟩
  have hk : 2 ^ k < 2 ^ 60 := Nat.pow_lt_pow_right (by decide) (by omega)
  refine ⟨N &&& (2 ^ 64 - 1 - 2 ^ k), ?_, Nat.lt_of_le_of_lt (clr_le _ _) hN, fun q hq => ?_⟩
  · rw [e1, lshl1_nat (by omega), landn_nat (by omega) (by omega)]
  · rw [e q (by omega) (by omega), bitN_clr (by omega) (by omega), hb q hq]
    by_cases z : q = k
    · rw [if_pos (by omega), if_pos z]
    · rw [if_neg (by omega), if_neg z]
theorem bitN_and (a b q : Nat) : bitN (a &&& b) q = if bitN a q = 1 ∧ bitN b q = 1 then 1 else 0 := by
  unfold bitN
  rw [Nat.testBit_and]
  cases a.testBit q <;> cases b.testBit q <;> simp
theorem bitN_or (a b q : Nat) : bitN (a ||| b) q = if bitN a q = 1 ∨ bitN b q = 1 then 1 else 0 := by
  unfold bitN
  rw [Nat.testBit_or]
  cases a.testBit q <;> cases b.testBit q <;> simp
theorem bitN_two (k q : Nat) : bitN (2 ^ k) q = if q = k then 1 else 0 := by
  unfold bitN
  rw [Nat.testBit_two_pow]
  by_cases h : q = k
  · subst h; simp
  · have : ¬ k = q := fun z => h z.symm
    simp [h, this]
theorem BitsC.cpy {v v5 p : Int} {f f5 f' : Int → Int} (h : BitsC v f) (h5 : BitsC v5 f5) (h0 : 0 ≤ p) (h1 : p < 60) (e : ∀ q, 0 ≤ q → q < 60 → f' q = if q = p then f5 p else f q) : BitsC (lor (land v (lxor (lshl 1 p) (-1))) (land v5 (lshl 1 p))) f' := by
  obtain ⟨N, e1, hN, hb⟩ := h
  obtain ⟨N5, e5, hN5, hb5⟩ := h5
  obtain ⟨k, rfl⟩ : ∃ k : Nat, p = (k : Int) := ⟨p.toNat, by omega⟩
  have hk : 2 ^ k < 2 ^ 60 := Nat.pow_lt_pow_right (by decide) (by omega)
  have l1 := Nat.lt_of_le_of_lt (clr_le N (2 ^ 64 - 1 - 2 ^ k)) hN
  have l2 : N5 &&& 2 ^ k < 2 ^ 60 := Nat.lt_of_le_of_lt Nat.and_le_left hN5
  refine ⟨(N &&& (2 ^ 64 - 1 - 2 ^ k)) ||| (N5 &&& 2 ^ k), ?_, Nat.or_lt_two_pow l1 l2, fun q hq => ?_⟩
  · rw [e1, e5, lshl1_nat (by omega), landn_nat (by omega) (by omega), land_nat (by omega) (by omega), lor_nat (by omega) (by omega)]
  · rw [e q (by omega) (by omega), bitN_or, bitN_clr (by omega) (by omega), bitN_and, bitN_two, hb q hq]
    have hq01 := bitN_01 N q
    have hk01 := bitN_01 N5 k
    by_cases z : q = k
    · subst z
      rw [if_pos rfl, hb5 q hq]
      simp only [if_true, and_true]
      rcases hk01 with h | h <;> simp [h]
    · rw [if_neg (by omega), if_neg z, if_neg z]
      rcases hq01 with h | h <;> simp [h]
section
variable {r : Int} {R σ : PS}
theorem RowC.sc {k v j : Int} (h : RowC r R σ) (hk : (k = 0 ∧ j = 0) ∨ (k = 1 ∧ j = 10) ∨ (k = 2 ∧ j = 11) ∨ (k = 3 ∧ j = 12) ∨ (k = 4 ∧ j = 13) ∨ (k = 5 ∧ j = 14) ∨ (k = 6 ∧ j = 15) ∨ (k = 7 ∧ j = 16)) : RowC r (su R 0 k v) (su σ r j v) := by
  obtain ⟨a1, a2, a3, a4, a5, a6⟩ := h
  refine ⟨?_, fun p h0 h1 => ?_, ?_, ?_, fun k h0 h1 => ?_, fun k h0 h1 => ?_⟩
  · rcases hk with ⟨rfl, rfl⟩ | ⟨rfl, rfl⟩ | ⟨rfl, rfl⟩ | ⟨rfl, rfl⟩ | ⟨rfl, rfl⟩ | ⟨rfl, rfl⟩ | ⟨rfl, rfl⟩ | ⟨rfl, rfl⟩ <;> simp [su, a1]
  · have := a2 p h0 h1; simp only [su_fn (show r + 1 ≠ r by omega), su_fn (show r + 2 ≠ r by omega), su_fn (show r + 3 ≠ r by omega), su_fn (show r + 4 ≠ r by omega), su_fn (show (1 : Int) ≠ 0 by decide), su_fn (show (2 : Int) ≠ 0 by decide), su_fn (show (4 : Int) ≠ 0 by decide), su_fn (show (6 : Int) ≠ 0 by decide)]; exact this
  · rw [su_fn (show (3 : Int) ≠ 0 by decide), su_ne (Or.inr (by omega))]; exact a3
  · rw [su_fn (show (5 : Int) ≠ 0 by decide), su_ne (Or.inr (by omega))]; exact a4
  · have := a5 k h0 h1; simp only [su_fn (show r + 5 ≠ r by omega), su_fn (show r + 6 ≠ r by omega), su_fn (show (7 : Int) ≠ 0 by decide), su_fn (show (8 : Int) ≠ 0 by decide)]; exact this
  · have := a6 k h0 h1; simp only [su_fn (show r + 7 ≠ r by omega), su_fn (show (9 : Int) ≠ 0 by decide)]; exact this
theorem RowC.ar {k v p o : Int} (h : RowC r R σ) (hk : (k = 1 ∧ o = 1) ∨ (k = 2 ∧ o = 2) ∨ (k = 4 ∧ o = 3) ∨ (k = 6 ∧ o = 4) ∨ (k = 7 ∧ o = 5) ∨ (k = 8 ∧ o = 6) ∨ (k = 9 ∧ o = 7)) : RowC r (su R k p v) (su σ (r + o) p v) := by
  obtain ⟨a1, a2, a3, a4, a5, a6⟩ := h
  have k0 : (0 : Int) ≠ k := by omega
  have k3 : (3 : Int) ≠ k := by omega
  have k5 : (5 : Int) ≠ k := by omega
  have r0 : r ≠ r + o := by omega
  refine ⟨?_, fun q h0 h1 => ?_, ?_, ?_, fun q h0 h1 => ?_, fun q h0 h1 => ?_⟩
  · simp only [su_fn k0, su_fn r0]; exact a1
  · have := a2 q h0 h1
    unfold su
    clear a1 a2 a3 a4 a5 a6 k0 k3 k5
    rcases hk with ⟨rfl, rfl⟩ | ⟨rfl, rfl⟩ | ⟨rfl, rfl⟩ | ⟨rfl, rfl⟩ | ⟨rfl, rfl⟩ | ⟨rfl, rfl⟩ | ⟨rfl, rfl⟩ <;> grind
  · rw [su_fn k3, su_fn r0]; exact a3
  · rw [su_fn k5, su_fn r0]; exact a4
  · have := a5 q h0 h1
    unfold su
    grind
  · have := a6 q h0 h1
    unfold su
    grind
theorem RowC.gone {v : Int} {f : Int → Int} (h : RowC r R σ) (hb : BitsC v f) : RowC r (fun a j => if a = 3 then f j else R a j) (su σ r 5 v) := by
  obtain ⟨a1, a2, a3, a4, a5, a6⟩ := h
  refine ⟨?_, fun p h0 h1 => ?_, ?_, ?_, fun k h0 h1 => ?_, fun k h0 h1 => ?_⟩
  · simp [su, a1]
  · have := a2 p h0 h1; simp only [su_fn (show r + 1 ≠ r by omega), su_fn (show r + 2 ≠ r by omega), su_fn (show r + 3 ≠ r by omega), su_fn (show r + 4 ≠ r by omega)]; simp; exact this
  · rw [su_eq]; simp; exact hb
  · rw [su_ne (Or.inr (by decide))]; simp; exact a4
  · have := a5 k h0 h1; simp only [su_fn (show r + 5 ≠ r by omega), su_fn (show r + 6 ≠ r by omega)]; simp; exact this
  · have := a6 k h0 h1; simp only [su_fn (show r + 7 ≠ r by omega)]; simp; exact this
theorem RowC.was {v : Int} {f : Int → Int} (h : RowC r R σ) (hb : BitsC v f) : RowC r (fun a j => if a = 5 then f j else R a j) (su σ r 6 v) := by
  obtain ⟨a1, a2, a3, a4, a5, a6⟩ := h
  refine ⟨?_, fun p h0 h1 => ?_, ?_, ?_, fun k h0 h1 => ?_, fun k h0 h1 => ?_⟩
  · simp [su, a1]
  · have := a2 p h0 h1; simp only [su_fn (show r + 1 ≠ r by omega), su_fn (show r + 2 ≠ r by omega), su_fn (show r + 3 ≠ r by omega), su_fn (show r + 4 ≠ r by omega)]; simp; exact this
  · rw [su_ne (Or.inr (by decide))]; simp; exact a3
  · rw [su_eq]; simp; exact hb
  · have := a5 k h0 h1; simp only [su_fn (show r + 5 ≠ r by omega), su_fn (show r + 6 ≠ r by omega)]; simp; exact this
  · have := a6 k h0 h1; simp only [su_fn (show r + 7 ≠ r by omega)]; simp; exact this
/-- rows alike where it matters -/
def RSeq (R R' : PS) : Prop := (∀ k, 0 ≤ k → k < 8 → R' 0 k = R 0 k) ∧ (∀ f p, 1 ≤ f → f ≤ 6 → 0 ≤ p → p < 60 → R' f p = R f p) ∧ (∀ k, 0 ≤ k → k < 6 → R' 7 k = R 7 k ∧ R' 8 k = R 8 k) ∧ (∀ k, 0 ≤ k → k < 8 → R' 9 k = R 9 k)
theorem RowC.eq {R' : PS} (h : RowC r R σ) (e : RSeq R R') : RowC r R' σ := by
  obtain ⟨a1, a2, a3, a4, a5, a6⟩ := h
  obtain ⟨e1, e2, e3, e4⟩ := e
  refine ⟨?_, fun p h0 h1 => ?_, a3.congr fun p h0 h1 => e2 3 p (by decide) (by decide) h0 h1, a4.congr fun p h0 h1 => e2 5 p (by decide) (by decide) h0 h1, fun k h0 h1 => ?_, fun k h0 h1 => ?_⟩
  · rw [e1 0 (by decide) (by decide), e1 1 (by decide) (by decide), e1 2 (by decide) (by decide), e1 3 (by decide) (by decide), e1 4 (by decide) (by decide), e1 5 (by decide) (by decide), e1 6 (by decide) (by decide), e1 7 (by decide) (by decide)]; exact a1
  · rw [e2 1 p (by decide) (by decide) h0 h1, e2 2 p (by decide) (by decide) h0 h1, e2 4 p (by decide) (by decide) h0 h1, e2 6 p (by decide) (by decide) h0 h1]; exact a2 p h0 h1
  · rw [(e3 k h0 h1).1, (e3 k h0 h1).2]; exact a5 k h0 h1
  · rw [e4 k h0 h1]; exact a6 k h0 h1
theorem RowMx.eq {R' : PS} (h : RowMx R σ) (e : RSeq R R') : RowMx R' σ := by
  obtain ⟨a1, a2, a5, a6⟩ := h
  obtain ⟨e1, e2, e3, e4⟩ := e
  refine ⟨?_, fun p h0 h1 => ?_, fun k h0 h1 => ?_, fun k h0 h1 h3 => ?_⟩
  · rw [e1 0 (by decide) (by decide), e1 1 (by decide) (by decide), e1 2 (by decide) (by decide), e1 3 (by decide) (by decide), e1 4 (by decide) (by decide), e1 5 (by decide) (by decide), e1 6 (by decide) (by decide), e1 7 (by decide) (by decide)]; exact a1
  · rw [e2 1 p (by decide) (by decide) h0 h1, e2 2 p (by decide) (by decide) h0 h1, e2 3 p (by decide) (by decide) h0 h1, e2 4 p (by decide) (by decide) h0 h1, e2 5 p (by decide) (by decide) h0 h1, e2 6 p (by decide) (by decide) h0 h1]; exact a2 p h0 h1
  · rw [(e3 k h0 h1).1, (e3 k h0 h1).2]; exact a5 k h0 h1
  · rw [e4 k h0 h1]; exact a6 k h0 h1 h3
theorem RowMx.sc {k v j : Int} (h : RowMx R σ) (hk : (k = 0 ∧ j = 2) ∨ (k = 1 ∧ j = 1) ∨ (k = 2 ∧ j = 12) ∨ (k = 3 ∧ j = 13) ∨ (k = 4 ∧ j = 14) ∨ (k = 5 ∧ j = 15) ∨ (k = 6 ∧ j = 16) ∨ (k = 7 ∧ j = 17)) : RowMx (su R 0 k v) (su σ 88 j v) := by
  obtain ⟨a1, a2, a5, a6⟩ := h
  refine ⟨?_, fun p h0 h1 => ?_, fun k h0 h1 => ?_, fun k h0 h1 h3 => ?_⟩
  · rcases hk with ⟨rfl, rfl⟩ | ⟨rfl, rfl⟩ | ⟨rfl, rfl⟩ | ⟨rfl, rfl⟩ | ⟨rfl, rfl⟩ | ⟨rfl, rfl⟩ | ⟨rfl, rfl⟩ | ⟨rfl, rfl⟩ <;> simp [su, a1]
  · have := a2 p h0 h1; simp [su]; exact this
  · have := a5 k h0 h1; simp [su]; exact this
  · have := a6 k h0 h1 h3; simp [su]; exact this
theorem RowMx.ar {k v v' p c : Int} (h : RowMx R σ) (hk : (k = 1 ∧ c = 89 ∧ v' = v) ∨ (k = 2 ∧ c = 90 ∧ v' = v) ∨ (k = 3 ∧ c = 91 ∧ v' = v) ∨ (k = 4 ∧ c = 92 ∧ v' = v + 1) ∨ (k = 5 ∧ c = 93 ∧ v' = v) ∨ (k = 6 ∧ c = 94 ∧ v' = v) ∨ (k = 7 ∧ c = 95 ∧ v' = v) ∨ (k = 8 ∧ c = 96 ∧ v' = v) ∨ (k = 9 ∧ c = 97 ∧ v' = v)) : RowMx (su R k p v) (su σ c p v') := by
  obtain ⟨a1, a2, a5, a6⟩ := h
  refine ⟨?_, fun q h0 h1 => ?_, fun q h0 h1 => ?_, fun q h0 h1 h3 => ?_⟩
  · simp only [su_fn (show (0 : Int) ≠ k by omega), su_fn (show (88 : Int) ≠ c by omega)]; exact a1
  · have := a2 q h0 h1
    unfold su
    clear a1 a2 a5 a6
    rcases hk with ⟨rfl, rfl, rfl⟩ | ⟨rfl, rfl, rfl⟩ | ⟨rfl, rfl, rfl⟩ | ⟨rfl, rfl, rfl⟩ | ⟨rfl, rfl, rfl⟩ | ⟨rfl, rfl, rfl⟩ | ⟨rfl, rfl, rfl⟩ | ⟨rfl, rfl, rfl⟩ | ⟨rfl, rfl, rfl⟩ <;> grind
  · have := a5 q h0 h1
    unfold su
    grind
  · have := a6 q h0 h1 h3
    unfold su
    grind
end
