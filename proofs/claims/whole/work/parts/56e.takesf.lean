/-! TEXT, the model: what fails, taken over, by the model -/
theorem wb1 {l k : Nat} (hl : l < 8) (hk : k < 8) : w32 ((w32 (8 * (w32 (8 + (l : Int))))) + (k : Int)) = 64 + 8 * l + k := by
  rw [w32_of (x := 8 + (l : Int)) (by omega) (by omega), w32_of (x := 8 * (8 + (l : Int))) (by omega) (by omega), w32_of (by omega) (by omega)]; omega
theorem wb2 {l k : Nat} (hl : l < 8) (hk : k < 8) : w32 ((w32 (8 * (l : Int))) + (k : Int)) = 8 * l + k := by
  rw [w32_of (x := 8 * (l : Int)) (by omega) (by omega), w32_of (by omega) (by omega)]
section PTAKES
variable {g : PG} {d : Nat} {Q : Int → PS → Prop} {σ : PS} {k : Int} {L : List (Int × Int)} {M : List (Int × Int × Int)}
theorem s_takesF1 {Fs : List FL} (hD : DrfB Fs σ) (h8 : Fs.length ≤ 8) {l : Nat} (hl : l < Fs.length) : ∀ (n k : Nat) (σ1 : PS), k + n = 8 → eqB σ σ1 → CpyB l Fs σ1 → (σ1 107 l = (Fs.getD l dFL).1 ∧ σ1 108 l = (Fs.getD l dFL).2.1 ∧ ((Fs.getD l dFL).1 = 3 → σ1 109 l = (Fs.getD l dFL).2.2.1) ∧ ((Fs.getD l dFL).1 = 5 → ∀ j : Nat, j < (Fs.getD l dFL).2.2.2.length → j < k → σ1 110 (8 * l + j) = (Fs.getD l dFL).2.2.2.getD j 0)) → (∀ σ2, eqB σ σ2 → CpyB (l + 1) Fs σ2 → XX g true d P_X12_takesFails 2 [(2, 88), (0, (Fs.length : Int)), (0, ((l + 1 : Nat) : Int)), (9, 0)] [] 136 σ2 136 Q) → XX g true d P_X12_takesFails 54 [(2, 88), (0, (Fs.length : Int)), (0, (l : Int)), (0, (k : Int))] [] 136 σ1 136 Q := by
  intro n
  have l5 : l < 500 := by omega
  induction n with
  | zero =>
    intro k σ1 hk hx h1 h2 w
    refine B_X12_takesFails_54 ⟨fun _ => ?_, fun z => by omega⟩
    rw [wk3 l5]
    refine w σ1 hx fun j hj => ?_
    by_cases z : j = l
    · subst z
      exact ⟨h2.1, h2.2.1, h2.2.2.1, fun q i i1 i2 => h2.2.2.2 q i i1 (by omega)⟩
    · exact h1 j (by omega)
  | succ n ih =>
    intro k σ1 hk hx h1 h2 w
    have hd := hD l hl
    have l8 : l < 8 := by omega
    have k8 : k < 8 := by omega
    refine B_X12_takesFails_54 ⟨fun z => by omega, fun _ => ⟨by rw [wb1 l8 k8]; omega, by rw [wb2 l8 k8]; omega, ?_⟩⟩
    rw [wb1 l8 k8, wb2 l8 k8, wk3 (show k < 500 by omega), hx 110 (64 + 8 * l + k) (by omega) (by omega) (by omega)]
    refine ih (k + 1) _ (by omega) (hx.su (by omega)) (fun j hj => ?_) ⟨by rw [su_ne (Or.inl (by decide))]; exact h2.1, by rw [su_ne (Or.inl (by decide))]; exact h2.2.1, fun q => by rw [su_ne (Or.inl (by decide))]; exact h2.2.2.1 q, fun q j j1 j2 => ?_⟩ w
    · obtain ⟨b1, b2, b3, b4⟩ := h1 j hj
      exact ⟨by rw [su_ne (Or.inl (by decide))]; exact b1, by rw [su_ne (Or.inl (by decide))]; exact b2, fun q => by rw [su_ne (Or.inl (by decide))]; exact b3 q, fun q i i1 i2 => by rw [su_ne (Or.inr (by omega))]; exact b4 q i i1 i2⟩
    · by_cases z : j = k
      · subst z
        rw [su_eq]
        exact hd.2.2.2 q j j1 (by omega)
      · rw [su_ne (Or.inr (by omega))]
        exact h2.2.2.2 q j j1 (by omega)
theorem s_takesF0 {Fs : List FL} (hF : BrkS Fs) (hD : DrfB Fs σ) (w : ∀ σ', eqB σ σ' → BrkM (brkE Fs) σ' → Q 0 σ') : ∀ (n l : Nat) (σ1 : PS), l + n = Fs.length → eqB σ σ1 → CpyB l Fs σ1 → XX g true d P_X12_takesFails 2 [(2, 88), (0, (Fs.length : Int)), (0, (l : Int)), (9, 0)] [] 136 σ1 136 Q := by
  intro n
  have h8 := hF.2.1
  induction n with
  | zero =>
    intro l σ1 hl hx h1
    have e : l = Fs.length := by omega
    refine B_X12_takesFails_2 ⟨fun _ => w _ (hx.su (by omega)) (cpy_brk hF su_eq fun j hj => ?_), fun z => by omega⟩
    obtain ⟨b1, b2, b3, b4⟩ := h1 j (by omega)
    exact ⟨by rw [su_ne (Or.inl (by decide))]; exact b1, by rw [su_ne (Or.inl (by decide))]; exact b2, fun q => by rw [su_ne (Or.inl (by decide))]; exact b3 q, fun q i i1 i2 => by rw [su_ne (Or.inl (by decide))]; exact b4 q i i1 i2⟩
  | succ n ih =>
    intro l σ1 hl hx h1
    obtain ⟨d1, d2, d3, d4⟩ := hD l (by omega)
    have l5 : l < 500 := by omega
    have g1 : σ1 107 (8 + l) = (Fs.getD l dFL).1 := (hx 107 _ (by omega) (by omega) (by omega)).trans d1
    have g2 : σ1 108 (8 + l) = (Fs.getD l dFL).2.1 := (hx 108 _ (by omega) (by omega) (by omega)).trans d2
    refine B_X12_takesFails_2 ⟨fun z => by omega, fun _ => ⟨by rw [wk1 (by decide) l5]; omega, by omega, ?_⟩⟩
    rw [wk1 (a := 8) (by decide) l5, g1, g2]
    clear g1 g2
    refine s_takesF1 hD h8 (by omega) 8 0 _ (by omega) (((hx.su (by omega)).su (by omega)).su (by omega)) (fun j hj => ?_) ⟨by rw [su_ne (Or.inl (by decide)), su_ne (Or.inl (by decide)), su_eq], by rw [su_ne (Or.inl (by decide)), su_eq], fun q => ?_, fun q j j1 j2 => by omega⟩ fun σ2 hx2 h2 => ih (l + 1) σ2 (by omega) hx2 h2
    · obtain ⟨b1, b2, b3, b4⟩ := h1 j hj
      exact ⟨by rw [su_ne (Or.inl (by decide)), su_ne (Or.inl (by decide)), su_ne (Or.inr (by omega))]; exact b1, by rw [su_ne (Or.inl (by decide)), su_ne (Or.inr (by omega)), su_ne (Or.inl (by decide))]; exact b2, fun q => by rw [su_ne (Or.inr (by omega)), su_ne (Or.inl (by decide)), su_ne (Or.inl (by decide))]; exact b3 q, fun q i i1 i2 => by rw [su_ne (Or.inl (by decide)), su_ne (Or.inl (by decide)), su_ne (Or.inl (by decide))]; exact b4 q i i1 i2⟩
    · rw [su_eq, hx 109 _ (by omega) (by omega) (by omega)]
      exact d3 q
theorem s_takesFails {Fs : List FL} (hF : BrkS Fs) (hD : DrfB Fs σ) (w : ∀ σ', eqB σ σ' → BrkM (brkE Fs) σ' → Q 0 σ') : XX g true d P_X12_takesFails 0 [(2, 88), (0, (Fs.length : Int)), (9, 0), (9, 0)] [] 136 σ 136 Q :=
  B_X12_takesFails_0 (s_takesF0 hF hD w Fs.length 0 σ (by omega) eqB.rf fun l hl => by omega)
end PTAKES
