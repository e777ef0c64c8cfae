section PEVAL
variable {g : PG} {d : Nat} {Q : Int → PS → Prop}
theorem s_twoOf {op x y : Int} {σ : PS} (hop : op = 2 ∨ op = 3 ∨ op = 4 ∨ op = 5 ∨ op = 6 ∨ op = 7 ∨ op = 8 ∨ op = 10 ∨ op = 11) (h5 : op = 5 → y ≠ 0) (w : Q (twoF op x y) σ) : XX g true d P_X12_twoOf 0 [(2, 88), (0, op), (0, x), (0, y)] [] 136 σ 136 Q := by
  refine B_X12_twoOf_0 ?_
  unfold twoF at w
  grind
/-- the model's stack machine, over its own arrays -/
theorem s_worth_loop {k b : Int} {n0 : Nat} {σ0 : PS} {okn : Int → Bool} {nm : Int → Int} {t : Nat} (hk : 0 ≤ k ∧ k < 4) (hb : 0 ≤ b ∧ b ≤ 500) (hnm : ∀ a, okn a = true → 0 ≤ a → a < 12 → σ0 111 a = nm a) :
    ∀ (n : Nat) (i : Int) (vs : List Int) (ts : List Nat) (σ : PS), 0 ≤ i → i + n = b → eqx [112] σ0 σ → stk (σ 112) vs → tyl ts vs → chkR okn (fun j => σ0 104 (500 * k + j)) (fun j => σ0 105 (500 * k + j)) n i ts = some [t] →
      (∀ σ', eqx [112] σ0 σ' → Q (hdI (evR nm (fun j => σ0 104 (500 * k + j)) (fun j => σ0 105 (500 * k + j)) n i vs)) σ') → XX g true (d + 1) P_X12_worth 12 [(2, 88), (0, k), (9, 0), (0, b), (0, (vs.length : Int)), (0, 500 * k + i)] [] 136 σ 136 Q := by
  intro n
  induction n with
  | zero =>
    intro i vs ts σ h0 hi he hs ht hc w
    have e1 : w32 ((w32 (500 * k)) + b) = 500 * k + b := by rw [w32_of (x := 500 * k) (by omega) (by omega), w32_of (by omega) (by omega)]
    refine B_X12_worth_12 ⟨fun h => ?_, fun h => by rw [e1] at h; omega⟩
    have h1 := w σ he
    have hl := tyl_len ht
    unfold chkR at hc
    cases hc
    match vs, hl with
    | [v], _ =>
      have : σ 112 0 = v := hs.1
      rw [this]
      exact h1
  | succ n ih =>
    intro i vs ts σ h0 hi he hs ht hc w
    have e1 : w32 ((w32 (500 * k)) + b) = 500 * k + b := by rw [w32_of (x := 500 * k) (by omega) (by omega), w32_of (by omega) (by omega)]
    have e2 : w32 (500 * k + i + 1) = 500 * k + (i + 1) := by rw [w32_of (by omega) (by omega)]; omega
    obtain ⟨ts', hc1, hc2⟩ := chkR_cons hc
    obtain ⟨hl60, hty, hcase⟩ := step_good (nm := nm) hc1 ht
    have o1 : σ 104 (500 * k + i) = σ0 104 (500 * k + i) := he 104 (by decide) _
    have o2 : σ 105 (500 * k + i) = σ0 105 (500 * k + i) := he 105 (by decide) _
    have go : ∀ (σ' : PS), eqx [112] σ0 σ' → stk (σ' 112) (stepE nm (σ0 104 (500 * k + i)) (σ0 105 (500 * k + i)) vs) → XX g true (d + 1) P_X12_worth 12 [(2, 88), (0, k), (9, 0), (0, b), (0, ((stepE nm (σ0 104 (500 * k + i)) (σ0 105 (500 * k + i)) vs).length : Int)), (0, 500 * k + (i + 1))] [] 136 σ' 136 Q := fun σ' h1 h2 => ih (i + 1) _ ts' σ' (by omega) (by omega) h1 h2 hty hc2 w
    refine B_X12_worth_12 ⟨fun h => by rw [e1] at h; omega, fun h => ⟨by omega, ?_⟩⟩
    rw [o1, o2, e2]
    generalize σ0 104 (500 * k + i) = op at *
    generalize σ0 105 (500 * k + i) = ar at *
    clear ih hc hc1 hc2 o1 o2 w e1 hty
    rcases hcase with ⟨c1, c2, c3, c4⟩ | ⟨c1, c2, c3, c4, c5⟩ | ⟨c1, x, r, c2, c3⟩ | ⟨c1, y, x, r, c2, c3, c4, c5⟩
    · subst c1
      rw [c4] at go
      refine ⟨fun _ => ⟨fun z => absurd rfl z, fun _ => ⟨by omega, fun y6 h6 => ?_⟩⟩, fun z => absurd rfl z⟩
      rw [h6, w32_of (by omega) (by omega)]
      exact go _ (he.su (by decide)) (stk_push hs)
    · subst c1
      rw [c5] at go
      refine ⟨fun z => by omega, fun _ => ⟨fun z => absurd rfl z, fun _ => ⟨fun _ => ⟨by omega, by omega, fun y15 h15 => ?_⟩, fun z => by omega⟩⟩⟩
      rw [h15, w32_of (by omega) (by omega), he 111 (by decide), hnm ar c2 c3 c4]
      exact go _ (he.su (by decide)) (stk_push hs)
    · subst c1
      subst c2
      rw [c3] at go
      have el : w32 (((x :: r).length : Int) - 1) = r.length := by rw [w32_of (by simp only [List.length_cons]; omega) (by simp only [List.length_cons] at hl60 ⊢; omega)]; simp only [List.length_cons]; omega
      refine ⟨fun z => by omega, fun _ => ⟨fun _ => ⟨fun z => absurd rfl z, fun _ => ?_⟩, fun z => by omega⟩⟩
      rw [el, hs.1]
      simp only [List.length_cons] at hl60 go ⊢
      exact ⟨by omega, go _ (he.su (by decide)) (stk_push hs.2)⟩
    · subst c2
      rw [c3] at go
      simp only [List.length_cons] at hl60 go ⊢
      have hs2 := hs.2
      have hs1 := hs.1
      simp only [List.length_cons] at hs1
      have n0 : op ≠ 0 := by omega
      have n1 : op ≠ 1 := by omega
      have n9 : op ≠ 9 := by omega
      have e3 : w32 (((r.length + 1 + 1 : Nat) : Int) - 1) = ((r.length + 1 : Nat) : Int) := by rw [w32_of (by omega) (by omega)]; omega
      have e4 : w32 (((r.length + 1 : Nat) : Int) - 1) = (r.length : Int) := by rw [w32_of (by omega) (by omega)]; omega
      refine ⟨fun z => absurd z n0, fun _ => ⟨fun _ => ⟨fun _ => fun y7 h7 => ?_, fun z => absurd z n9⟩, fun z => absurd z n1⟩⟩
      rw [e3] at h7
      subst h7
      rw [e4, hs1, hs2.1]
      refine ⟨by omega, by omega, s_twoOf c1 c4 ?_⟩
      exact go _ (he.su (by decide)) (stk_push hs2.2)
theorem s_worth {k a b : Int} {σ : PS} {okn : Int → Bool} {nm : Int → Int} {t : Nat} (hk : 0 ≤ k ∧ k < 4) (ha : 0 ≤ a) (hab : a ≤ b) (hb : b ≤ 500) (hnm : ∀ a, okn a = true → 0 ≤ a → a < 12 → σ 111 a = nm a) (hc : chkR okn (fun j => σ 104 (500 * k + j)) (fun j => σ 105 (500 * k + j)) (b - a).toNat a [] = some [t])
    (w : ∀ σ', eqx [112] σ σ' → Q (hdI (evR nm (fun j => σ 104 (500 * k + j)) (fun j => σ 105 (500 * k + j)) (b - a).toNat a [])) σ') : XX g true (d + 1) P_X12_worth 0 [(2, 88), (0, k), (0, a), (0, b), (9, 0), (9, 0)] [] 136 σ 136 Q := by
  refine B_X12_worth_0 fun y1 h1 => ?_
  rw [w32_of (x := 500 * k) (by omega) (by omega), w32_of (by omega) (by omega)] at h1
  subst h1
  exact s_worth_loop (n0 := 0) (b := b) hk ⟨by omega, hb⟩ hnm (b - a).toNat a [] [] σ ha (by omega) eqx.rf trivial trivial hc w

end PEVAL

