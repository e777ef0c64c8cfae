/-! TEXT, the model: what fails, taken over -/
/-- what fails is taken over -/
def eqB (σ σ' : PS) : Prop := ∀ a j : Int, ¬ (a = 88 ∧ j = 40) → ¬ (107 ≤ a ∧ a ≤ 109 ∧ 0 ≤ j ∧ j < 8) → ¬ (a = 110 ∧ 0 ≤ j ∧ j < 64) → σ' a j = σ a j
theorem eqB.rf {σ : PS} : eqB σ σ := fun _ _ _ _ _ => rfl
theorem eqB.su {σ σ' : PS} {a j v : Int} (h : eqB σ σ') (ha : (a = 88 ∧ j = 40) ∨ (107 ≤ a ∧ a ≤ 109 ∧ 0 ≤ j ∧ j < 8) ∨ (a = 110 ∧ 0 ≤ j ∧ j < 64)) : eqB σ (su σ' a j v) := fun b i h1 h2 h3 => by
  rw [su_ne (by omega)]
  exact h b i h1 h2 h3
def LineK (l : Nat) (F : FL) (σ : PS) : Prop := σ 107 l = F.1 ∧ σ 108 l = F.2.1 ∧ (F.1 = 3 → σ 109 l = F.2.2.1) ∧ (F.1 = 5 → ∀ k : Nat, k < F.2.2.2.length → k < 8 → σ 110 (8 * l + k) = F.2.2.2.getD k 0)
def CpyB (m : Nat) (Fs : List FL) (σ : PS) : Prop := ∀ l : Nat, l < m → LineK l (Fs.getD l dFL) σ
theorem lmet_congr2 {so on tw tw' : Int} {sh sh' : Nat → Int} {bits : Nat} {known : Int} (h3 : so = 3 → tw = tw') (h5 : so = 5 → ∀ k : Nat, (k : Int) < on → sh k = sh' k) : lmet so on tw sh bits known → lmet so on tw' sh' bits known := by
  rintro (z | z | z)
  · exact Or.inl z
  · rw [h3 z.1] at z
    exact Or.inr (Or.inl z)
  · refine Or.inr (Or.inr ⟨z.1, z.2.1, fun k hk => ?_⟩)
    have := z.2.2 k hk
    unfold shOk at this ⊢
    rw [← h5 z.1 k (by omega)]
    exact this
theorem BrkRel.congr2 {E : Int → Int} {many many' : Int} {so on tw so' on' tw' : Int → Int} {sh sh' : Int → Nat → Int} (h : BrkRel E many so on tw sh) (hm : many' = many) (hl : ∀ l, 0 ≤ l → l < many → so' l = so l ∧ on' l = on l ∧ (so l = 3 → tw' l = tw l)) (hs : ∀ l (k : Nat), 0 ≤ l → l < many → so l = 5 → (k : Int) < on l → sh' l k = sh l k) : BrkRel E many' so' on' tw' sh' := by
  subst hm
  obtain ⟨⟨a1, a2, a3⟩, b⟩ := h
  refine ⟨⟨a1, a2, fun l l0 l1 => ?_⟩, fun bits known h1 h2 h3 => ?_⟩
  · obtain ⟨e1, e2, e3⟩ := hl l l0 l1
    rw [e1, e2]
    obtain ⟨b1, b2, b3, b4⟩ := a3 l l0 l1
    exact ⟨b1, b2, b3, fun q => by rw [e3 q]; exact b4 q⟩
  · rw [b bits known h1 h2 h3]
    constructor
    · rintro ⟨i, i0, i1, hm⟩
      obtain ⟨e1, e2, e3⟩ := hl i i0 i1
      refine ⟨i, i0, i1, ?_⟩
      rw [e1, e2]
      exact lmet_congr2 (fun q => (e3 q).symm) (fun q k hk => (hs i k i0 i1 q hk).symm) hm
    · rintro ⟨i, i0, i1, hm⟩
      obtain ⟨e1, e2, e3⟩ := hl i i0 i1
      refine ⟨i, i0, i1, ?_⟩
      rw [e1, e2] at hm
      exact lmet_congr2 e3 (fun q k hk => hs i k i0 i1 q hk) hm
theorem cpy_brk {Fs : List FL} {σ : PS} (hF : BrkS Fs) (h0 : σ 88 40 = Fs.length) (h1 : CpyB Fs.length Fs σ) : BrkM (brkE Fs) σ := by
  have h := brkS_rel hF
  have hk : ∀ l : Int, 0 ≤ l → l < Fs.length → LineK l.toNat (Fs.getD l.toNat dFL) σ ∧ okF (Fs.getD l.toNat dFL) := fun l l0 l1 => by
    refine ⟨h1 l.toNat (by omega), hF.1 _ ?_⟩
    rw [List.getD_eq_getElem?_getD, List.getElem?_eq_getElem (show l.toNat < Fs.length by omega)]
    exact List.getElem_mem _
  refine h.congr2 h0 (fun l l0 l1 => ?_) fun l k l0 l1 q hk2 => ?_
  · obtain ⟨⟨b1, b2, b3, b4⟩, -⟩ := hk l l0 l1
    rw [show ((l.toNat : Nat) : Int) = l by omega] at b1 b2 b3
    exact ⟨b1, b2, b3⟩
  · obtain ⟨⟨b1, b2, b3, b4⟩, f1, f2, f3, f4⟩ := hk l l0 l1
    rw [show ((l.toNat : Nat) : Int) = l by omega] at b4
    have f5 := (f4 q).1
    have hk3 : (k : Int) < (Fs.getD l.toNat dFL).2.1 := hk2
    exact b4 q k (by omega) (by omega)
