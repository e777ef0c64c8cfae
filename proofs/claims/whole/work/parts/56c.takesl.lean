/-! TEXT, the model: lines taken over -/
theorem wk1 {a : Int} {i : Nat} (ha : 0 ≤ a ∧ a ≤ 2000) (h : i < 500) : w32 (a + (i : Int)) = a + i := w32_of (by omega) (by omega)
theorem wk2 {a k : Int} {i : Nat} (ha : 0 ≤ a ∧ a ≤ 500) (hk : 0 ≤ k ∧ k ≤ 8) (h : i < 500) : w32 ((w32 (a * k)) + (i : Int)) = a * k + i := by
  have h1 : 0 ≤ a * k := Int.mul_nonneg ha.1 hk.1
  have h2 : a * k ≤ 500 * 8 := Int.mul_le_mul ha.2 hk.2 hk.1 (by decide)
  generalize a * k = x at *
  rw [w32_of (x := x) (by omega) (by omega), w32_of (by omega) (by omega)]
theorem wk3 {i : Nat} (h : i < 500) : w32 ((i : Int) + 1) = ((i + 1 : Nat) : Int) := by rw [w32_of (by omega) (by omega)]; omega
section PTAKES
variable {g : PG} {d : Nat} {Q : Int → PS → Prop} {σ : PS} {k : Int} {L : List (Int × Int)} {M : List (Int × Int × Int)}
theorem s_takes2 (hk : 0 ≤ k ∧ k ≤ 2) (hL : CodeM L σ) (h5 : L.length ≤ 500) (w : ∀ σ', eqK k σ σ' → TxtM k (txtT L M) σ' → Q 0 σ') : ∀ (n i : Nat) (σ1 : PS), i + n = L.length → eqK k σ σ1 → CpyM k M.length M σ1 → CpyC k i L σ1 → XX g true d P_X12_takes 75 [(2, 88), (0, k), (0, (M.length : Int)), (0, (i : Int))] [] 136 σ1 136 Q := by
  intro n
  induction n with
  | zero =>
    intro i σ1 hi hx h1 h2
    have e32 : σ1 88 32 = L.length := (hx 88 32 (by omega) (by omega) (by omega)).trans hL.1
    refine B_X12_takes_75 ⟨fun _ => ⟨by omega, ?_⟩, fun z => by rw [e32] at z; omega⟩
    refine w _ (hx.su (by omega)) (cpy_txt su_eq (fun l hl => ?_) fun j hj => ?_)
    · rw [su_ne (Or.inl (by decide)), su_ne (Or.inl (by decide)), su_ne (Or.inl (by decide))]; exact h1 l hl
    · rw [su_ne (Or.inl (by decide)), su_ne (Or.inl (by decide))]; exact h2 j (by omega)
  | succ n ih =>
    intro i σ1 hi hx h1 h2
    have e32 : σ1 88 32 = L.length := (hx 88 32 (by omega) (by omega) (by omega)).trans hL.1
    have hl := hL.2 i (by omega)
    have hi5 : i < 500 := by omega
    have hk8 : 0 ≤ k ∧ k ≤ 8 := by omega
    have g1 : σ1 104 (1500 + i) = (L.getD i (0, 0)).1 := (hx 104 _ (by omega) (by omega) (by omega)).trans hl.1
    have g2 : σ1 105 (1500 + i) = (L.getD i (0, 0)).2 := (hx 105 _ (by omega) (by omega) (by omega)).trans hl.2
    refine B_X12_takes_75 ⟨fun z => by rw [e32] at z; omega, fun _ => ⟨by rw [wk1 (by decide) hi5]; omega, by rw [wk2 (by decide) hk8 hi5]; omega, ?_⟩⟩
    rw [wk2 (a := 500) (by decide) hk8 hi5, wk1 (a := 1500) (by decide) hi5, wk3 hi5, g1, g2]
    clear g1 g2 hl
    refine ih (i + 1) _ (by omega) ((hx.su (by omega)).su (by omega)) (fun l hl => ?_) fun j hj => ?_
    · rw [su_ne (Or.inl (by decide)), su_ne (Or.inl (by decide)), su_ne (Or.inl (by decide)), su_ne (Or.inl (by decide)), su_ne (Or.inl (by decide)), su_ne (Or.inl (by decide))]; exact h1 l hl
    · by_cases z : j = i
      · subst z
        exact ⟨by rw [su_ne (Or.inl (by decide)), su_eq], su_eq⟩
      · rw [su_ne (Or.inl (by decide)), su_ne (Or.inr (by omega)), su_ne (Or.inr (by omega)), su_ne (Or.inl (by decide))]
        exact h2 j (by omega)
theorem s_takes1 (hk : 0 ≤ k ∧ k ≤ 2) (hL : CodeM L σ) (hM : MrkM M σ) (h5 : L.length ≤ 500) (h16 : M.length ≤ 16) (w : ∀ σ', eqK k σ σ' → TxtM k (txtT L M) σ' → Q 0 σ') : ∀ (n l : Nat) (σ1 : PS), l + n = M.length → eqK k σ σ1 → CpyM k l M σ1 → XX g true d P_X12_takes 2 [(2, 88), (0, k), (0, (M.length : Int)), (0, (l : Int))] [] 136 σ1 136 Q := by
  intro n
  induction n with
  | zero =>
    intro l σ1 hl hx h1
    have e : l = M.length := by omega
    refine B_X12_takes_2 ⟨fun _ => ?_, fun z => by omega⟩
    rw [show ((0 : Int)) = ((0 : Nat) : Int) from rfl]
    exact s_takes2 hk hL h5 w L.length 0 σ1 (by omega) hx (e ▸ h1) fun j hj => by omega
  | succ n ih =>
    intro l σ1 hl hx h1
    have hm := hM l (by omega)
    have hi5 : l < 500 := by omega
    have hk8 : 0 ≤ k ∧ k ≤ 8 := by omega
    have g1 : σ1 101 (48 + l) = (M.getD l (0, 0, 0)).1 := (hx 101 _ (by omega) (by omega) (by omega)).trans hm.1
    have g2 : σ1 102 (48 + l) = (M.getD l (0, 0, 0)).2.1 := (hx 102 _ (by omega) (by omega) (by omega)).trans hm.2.1
    have g3 : σ1 103 (48 + l) = (M.getD l (0, 0, 0)).2.2 := (hx 103 _ (by omega) (by omega) (by omega)).trans hm.2.2
    refine B_X12_takes_2 ⟨fun z => by omega, fun _ => ⟨by rw [wk1 (by decide) hi5]; omega, by rw [wk2 (by decide) hk8 hi5]; omega, ?_⟩⟩
    rw [wk2 (a := 16) (by decide) hk8 hi5, wk1 (a := 48) (by decide) hi5, wk3 hi5, g1, g2, g3]
    clear g1 g2 g3 hm
    refine ih (l + 1) _ (by omega) (((hx.su (by omega)).su (by omega)).su (by omega)) fun j hj => ?_
    by_cases z : j = l
    · subst z
      exact ⟨by rw [su_ne (Or.inl (by decide)), su_ne (Or.inl (by decide)), su_eq], by rw [su_ne (Or.inl (by decide)), su_eq], su_eq⟩
    · rw [su_ne (Or.inl (by decide)), su_ne (Or.inl (by decide)), su_ne (Or.inr (by omega)), su_ne (Or.inl (by decide)), su_ne (Or.inr (by omega)), su_ne (Or.inl (by decide)), su_ne (Or.inr (by omega)), su_ne (Or.inl (by decide)), su_ne (Or.inl (by decide))]
      exact h1 j (by omega)
theorem s_takes (hk : 0 ≤ k ∧ k ≤ 2) (hL : CodeM L σ) (hM : MrkM M σ) (h5 : L.length ≤ 500) (h16 : M.length ≤ 16) (w : ∀ σ', eqK k σ σ' → TxtM k (txtT L M) σ' → Q 0 σ') : XX g true d P_X12_takes 0 [(2, 88), (0, k), (0, (M.length : Int)), (9, 0)] [] 136 σ 136 Q :=
  B_X12_takes_0 (s_takes1 hk hL hM h5 h16 w M.length 0 σ (by omega) eqK.rf fun l hl => by omega)
end PTAKES
