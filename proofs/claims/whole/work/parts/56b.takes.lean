/-! TEXT, the model: what was read is taken over -/
def eqK (k : Int) (σ σ' : PS) : Prop := ∀ a j : Int, ¬ (a = 100 ∧ j = k) → ¬ (101 ≤ a ∧ a ≤ 103 ∧ 16 * k ≤ j ∧ j < 16 * k + 16) → ¬ (104 ≤ a ∧ a ≤ 105 ∧ 500 * k ≤ j ∧ j < 500 * k + 500) → σ' a j = σ a j
theorem eqK.rf {k : Int} {σ : PS} : eqK k σ σ := fun _ _ _ _ _ => rfl
theorem eqK.su {k : Int} {σ σ' : PS} {a j v : Int} (h : eqK k σ σ') (ha : (a = 100 ∧ j = k) ∨ (101 ≤ a ∧ a ≤ 103 ∧ 16 * k ≤ j ∧ j < 16 * k + 16) ∨ (104 ≤ a ∧ a ≤ 105 ∧ 500 * k ≤ j ∧ j < 500 * k + 500)) : eqK k σ (su σ' a j v) := fun b i h1 h2 h3 => by
  rw [su_ne (by omega)]
  exact h b i h1 h2 h3
theorem TxtM.fr {k : Int} {T σ σ' : PS} (h : TxtM k T σ) (hn : (0 ≤ T 0 0 ∧ T 0 0 ≤ 16) ∧ 0 ≤ T 0 1 ∧ T 0 1 ≤ 500) (e0 : σ' 100 k = σ 100 k) (e1 : ∀ j, 16 * k ≤ j → j < 16 * k + 16 → σ' 101 j = σ 101 j ∧ σ' 102 j = σ 102 j ∧ σ' 103 j = σ 103 j) (e2 : ∀ j, 500 * k ≤ j → j < 500 * k + 500 → σ' 104 j = σ 104 j ∧ σ' 105 j = σ 105 j) : TxtM k T σ' := by
  obtain ⟨a1, a2, a3⟩ := h
  refine ⟨by rw [e0]; exact a1, fun l l0 l1 => ?_, fun i i0 i1 => ?_⟩
  · obtain ⟨b1, b2, b3⟩ := e1 (16 * k + l) (by omega) (by omega)
    simp only
    rw [b1, b2, b3]
    exact a2 l l0 l1
  · obtain ⟨b1, b2⟩ := e2 (500 * k + i) (by omega) (by omega)
    simp only
    rw [b1, b2]
    exact a3 i i0 i1
theorem TxtM.k {k k' : Int} {T σ σ' : PS} (h : TxtM k' T σ) (hn : (0 ≤ T 0 0 ∧ T 0 0 ≤ 16) ∧ 0 ≤ T 0 1 ∧ T 0 1 ≤ 500) (hx : eqK k σ σ') (hk : k' ≠ k) : TxtM k' T σ' :=
  h.fr hn (hx 100 k' (by omega) (by omega) (by omega)) (fun j j0 j1 => ⟨hx 101 j (by omega) (by omega) (by omega), hx 102 j (by omega) (by omega) (by omega), hx 103 j (by omega) (by omega) (by omega)⟩) fun j j0 j1 => ⟨hx 104 j (by omega) (by omega) (by omega), hx 105 j (by omega) (by omega) (by omega)⟩
def CpyM (k : Int) (m : Nat) (M : List (Int × Int × Int)) (σ : PS) : Prop := ∀ l : Nat, l < m → σ 101 (16 * k + l) = (M.getD l (0, 0, 0)).1 ∧ σ 102 (16 * k + l) = (M.getD l (0, 0, 0)).2.1 ∧ σ 103 (16 * k + l) = (M.getD l (0, 0, 0)).2.2
def CpyC (k : Int) (m : Nat) (L : List (Int × Int)) (σ : PS) : Prop := ∀ i : Nat, i < m → σ 104 (500 * k + i) = (L.getD i (0, 0)).1 ∧ σ 105 (500 * k + i) = (L.getD i (0, 0)).2
theorem cpy_txt {k : Int} {L : List (Int × Int)} {M : List (Int × Int × Int)} {σ : PS} (h0 : σ 100 k = M.length) (h1 : CpyM k M.length M σ) (h2 : CpyC k L.length L σ) : TxtM k (txtT L M) σ := by
  have t0 : txtT L M 0 0 = M.length := rfl
  have t1 : txtT L M 0 1 = L.length := rfl
  refine ⟨h0, fun l l0 l1 => ?_, fun i i0 i1 => ?_⟩
  · rw [t0] at l1
    have := h1 l.toNat (by omega)
    rw [show ((l.toNat : Nat) : Int) = l by omega] at this
    exact this
  · rw [t1] at i1
    have := h2 i.toNat (by omega)
    rw [show ((i.toNat : Nat) : Int) = i by omega] at this
    exact this
