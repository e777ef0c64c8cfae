/-! A DAY -/
def updF (u : Int → Int) (p v : Int) : Int → Int := fun q => if q = p then v else u q
def wearS (u : Int → Int) (p : Int) (R : PS) : PS :=
  if R 3 p = 1 then R else
  if irem (iushr (w32 (w32 (1664525 * R 0 1) + 1013904223)) 8) 1000 < u p then su (su R 0 1 (w32 (w32 (1664525 * R 0 1) + 1013904223))) 3 p 1
  else if R 0 6 < w32 (R 2 p + 1) then su (su (su (su R 0 1 (w32 (w32 (1664525 * R 0 1) + 1013904223))) 2 p (w32 (R 2 p + 1))) 0 6 (w32 (R 2 p + 1))) 0 7 p
  else su (su R 0 1 (w32 (w32 (1664525 * R 0 1) + 1013904223))) 2 p (w32 (R 2 p + 1))
def wears (u : Int → Int) : Nat → Int → PS → PS
  | 0, _, R => R
  | n + 1, p, R => wears u n (p + 1) (wearS u p R)
def looks (k : Int) (R : PS) : PS := fun f p => if f = 4 ∧ 0 ≤ p ∧ p < k then R 0 2 else if f = 5 ∧ 0 ≤ p ∧ p < k then R 3 p else R f p
def bestS (u : Int → Int) : Nat → Int
  | 0 => -1
  | k + 1 => if (if bestS u k = -1 then 0 else u (bestS u k)) < u k then k else bestS u k
abbrev fromLeft (R : PS) (p : Int) : Prop := 0 < R 9 6 ∧ (p + 1 ≤ R 0 0 - p ∨ R 9 7 ≤ 0)
def payS (R : PS) (p : Int) : PS :=
  if fromLeft R p then su (su R 9 6 (R 9 6 - 1)) 0 4 (w32 (R 0 4 + w32 (R 8 (R 1 p) + w32 (R 9 4 * (p + 1)))))
  else su (su R 9 7 (R 9 7 - 1)) 0 4 (w32 (R 0 4 + w32 (R 8 (R 1 p) + w32 (R 9 4 * (R 0 0 - p)))))
def chgS (R : PS) (p : Int) : PS := su (su (su (su (su (su (payS R p) 0 5 (w32 (R 0 5 + 1))) 6 p (w32 (R 6 p + 1))) 2 p 0) 3 p 0) 5 p 0) 4 p (R 0 2)
def chgs : Nat → (Int → Int) → PS → PS
  | 0, _, R => R
  | k + 1, u, R => if R 9 6 + R 9 7 ≤ 0 then R else if bestS u (R 0 0).toNat = -1 then R else chgs k (updF u (bestS u (R 0 0).toNat) 0) (chgS R (bestS u (R 0 0).toNat))
def comeS (T R : PS) : PS := chgs (R 9 2).toNat (fun p => urgeS T R p) (looks (R 0 0) R)
def failS (W : Int → Int) (R : PS) : Prop := failsB W (fun p => R 3 p) (R 0 0).toNat
noncomputable def harmS (W : Int → Int) (R : PS) : PS := by
  classical exact if failS W R then su (su R 0 3 (w32 (R 0 3 + 1))) 0 4 (w32 (R 0 4 + R 9 5)) else R
def nextDay (R : PS) : PS := su R 0 2 (w32 (R 0 2 + 1))
noncomputable def wornS (T : PS) (W : Int → Int) (R : PS) : PS := harmS W (nextDay (wears (fun p => goesS T R p (besS R p) 0) (R 0 0).toNat 0 R))
noncomputable def dayS (T Tr : PS) (W : Int → Int) (R : PS) : PS := if irem (wornS T W R 0 2) (wornS T W R 9 3) = 0 then comeS Tr (wornS T W R) else wornS T W R
/-- what a row keeps while it wears -/
theorem wearS_ok {u : Int → Int} {p : Int} {R : PS} (ok : RSok R) (h0 : 0 ≤ p) (h1 : p < R 0 0) : RSok (wearS u p R) ∧ wearS u p R 0 0 = R 0 0 ∧ wearS u p R 0 2 = R 0 2 := by
  obtain ⟨k1, k2, k3, k4, k5, k6, k7, k8⟩ := ok
  unfold wearS
  split
  · exact ⟨⟨k1, k2, k3, k4, k5, k6, k7, k8⟩, rfl, rfl⟩
  split
  · refine ⟨⟨by simp [su]; omega, by simp [su]; omega, fun q a b => ?_, fun q a b => ?_, by simp [su]; omega, by simp [su]; omega, by simp [su]; omega, by simp [su]; omega⟩, by simp [su], by simp [su]⟩
    · have := k3 q a b
      simp [su]
      grind
    · simp [su] at a ⊢
      have := k4 q a b
      grind
  split
  · refine ⟨⟨by simp [su]; omega, by simp [su]; omega, fun q a b => ?_, fun q a b => ?_, by simp [su]; omega, by simp [su]; omega, by simp [su]; omega, by simp [su]; omega⟩, by simp [su], by simp [su]⟩
    · have := k3 q a b
      simp [su]
      grind
    · simp [su] at a ⊢
      have := k4 q a b
      grind
  · refine ⟨⟨by simp [su]; omega, by simp [su]; omega, fun q a b => ?_, fun q a b => ?_, by simp [su]; omega, by simp [su]; omega, by simp [su]; omega, by simp [su]; omega⟩, by simp [su], by simp [su]⟩
    · have := k3 q a b
      simp [su]
      grind
    · simp [su] at a ⊢
      have := k4 q a b
      grind
theorem wears_ok {u : Int → Int} : ∀ {n : Nat} {p : Int} {R : PS}, RSok R → 0 ≤ p → p + n ≤ R 0 0 → RSok (wears u n p R) ∧ wears u n p R 0 0 = R 0 0 ∧ wears u n p R 0 2 = R 0 2 := by
  intro n
  induction n with
  | zero => intro p R ok _ _; exact ⟨ok, rfl, rfl⟩
  | succ n ih =>
    intro p R ok h0 h1
    obtain ⟨a1, a2, a3⟩ := wearS_ok (u := u) ok h0 (by omega)
    obtain ⟨b1, b2, b3⟩ := ih (p := p + 1) a1 (by omega) (by omega)
    exact ⟨b1, b2.trans a2, b3.trans a3⟩
theorem looks_ok {k : Int} {R : PS} (ok : RSok R) : RSok (looks k R) := by
  obtain ⟨k1, k2, k3, k4, k5, k6, k7, k8⟩ := ok
  refine ⟨by simp [looks]; omega, by simp [looks]; omega, fun q a b => ?_, fun q a b => ?_, by simp [looks]; omega, by simp [looks]; omega, by simp [looks]; omega, by simp [looks]; omega⟩
  · have := k3 q a b
    simp [looks]
    grind
  · simp [looks] at a ⊢
    exact k4 q a b
theorem bestS_succ (u : Int → Int) (k : Nat) : bestS u (k + 1) = if (if bestS u k = -1 then 0 else u (bestS u k)) < u k then (k : Int) else bestS u k := rfl
theorem bestS_lt {u : Int → Int} : ∀ {k : Nat}, bestS u k < k ∧ -1 ≤ bestS u k ∧ (bestS u k ≠ -1 → 0 < u (bestS u k)) := by
  intro k
  induction k with
  | zero => exact ⟨(by decide : (-1 : Int) < 0), (by decide : (-1 : Int) ≤ -1), fun h => absurd rfl h⟩
  | succ k ih =>
    obtain ⟨a1, a2, a3⟩ := ih
    rw [bestS_succ]
    generalize bestS u k = b at *
    by_cases h : (if b = -1 then 0 else u b) < u k
    · rw [if_pos h]
      refine ⟨by omega, by omega, fun _ => ?_⟩
      by_cases hb : b = -1
      · rw [if_pos hb] at h; exact h
      · rw [if_neg hb] at h; have := a3 hb; omega
    · rw [if_neg h]
      exact ⟨by omega, a2, a3⟩
theorem chgS_ok {R : PS} {p : Int} (ok : RSok R) (h0 : 0 ≤ p) (h1 : p < R 0 0) (h2 : 0 < R 9 6 + R 9 7) : RSok (chgS R p) ∧ chgS R p 0 0 = R 0 0 ∧ chgS R p 0 2 = R 0 2 ∧ chgS R p 9 2 = R 9 2 := by
  obtain ⟨k1, k2, k3, k4, k5, k6, k7, k8⟩ := ok
  unfold chgS payS
  split
  · rename_i hl
    unfold fromLeft at hl
    refine ⟨⟨by simp [su]; omega, by simp [su]; omega, fun q a b => ?_, fun q a b => ?_, by simp [su]; omega, by simp [su]; omega, by simp [su]; omega, by simp [su]; omega⟩, by simp [su], by simp [su], by simp [su]⟩
    · have := k3 q a b
      simp [su]
      grind
    · simp [su] at a ⊢
      have := k4 q a b
      grind
  · rename_i hl
    unfold fromLeft at hl
    refine ⟨⟨by simp [su]; omega, by simp [su]; omega, fun q a b => ?_, fun q a b => ?_, by simp [su]; omega, by simp [su]; omega, by simp [su]; omega, by simp [su]; omega⟩, by simp [su], by simp [su], by simp [su]⟩
    · have := k3 q a b
      simp [su]
      grind
    · simp [su] at a ⊢
      have := k4 q a b
      grind
theorem chgs_ok : ∀ {k : Nat} {u : Int → Int} {R : PS}, RSok R → RSok (chgs k u R) ∧ chgs k u R 0 0 = R 0 0 ∧ chgs k u R 0 2 = R 0 2 := by
  intro k
  induction k with
  | zero => intro u R ok; exact ⟨ok, rfl, rfl⟩
  | succ k ih =>
    intro u R ok
    unfold chgs
    split
    · exact ⟨ok, rfl, rfl⟩
    split
    · exact ⟨ok, rfl, rfl⟩
    rename_i h1 h2
    have hb := bestS_lt (u := u) (k := (R 0 0).toNat)
    have k1 := ok.1
    obtain ⟨a1, a2, a3, a4⟩ := chgS_ok (p := bestS u (R 0 0).toNat) ok (by omega) (by omega) (by omega)
    obtain ⟨b1, b2, b3⟩ := ih (u := updF u (bestS u (R 0 0).toNat) 0) a1
    exact ⟨b1, b2.trans a2, b3.trans a3⟩
theorem comeS_ok {T R : PS} (ok : RSok R) : RSok (comeS T R) ∧ comeS T R 0 0 = R 0 0 ∧ comeS T R 0 2 = R 0 2 := by
  obtain ⟨a1, a2, a3⟩ := chgs_ok (k := (R 9 2).toNat) (u := fun p => urgeS T R p) (looks_ok (k := R 0 0) ok)
  exact ⟨a1, a2, a3⟩
theorem harmS_ok {W : Int → Int} {R : PS} (ok : RSok R) : RSok (harmS W R) ∧ harmS W R 0 0 = R 0 0 ∧ harmS W R 0 2 = R 0 2 := by
  unfold harmS
  split
  · obtain ⟨k1, k2, k3, k4, k5, k6, k7, k8⟩ := ok
    refine ⟨⟨by simp [su]; omega, by simp [su]; omega, fun q a b => ?_, fun q a b => ?_, by simp [su]; omega, by simp [su]; omega, by simp [su]; omega, by simp [su]; omega⟩, by simp [su], by simp [su]⟩
    · have := k3 q a b
      simp [su]
      omega
    · simp [su] at a ⊢
      exact k4 q a b
  · exact ⟨ok, rfl, rfl⟩
theorem nextDay_ok {R : PS} (ok : RSok R) (hd : R 0 2 < 20000) : RSok (nextDay R) ∧ nextDay R 0 0 = R 0 0 ∧ nextDay R 0 2 = R 0 2 + 1 := by
  obtain ⟨k1, k2, k3, k4, k5, k6, k7, k8⟩ := ok
  have e : w32 (R 0 2 + 1) = R 0 2 + 1 := w32_of (by omega) (by omega)
  unfold nextDay
  rw [e]
  refine ⟨⟨by simp [su]; omega, by simp [su]; omega, fun q a b => ?_, fun q a b => ?_, by simp [su]; omega, by simp [su]; omega, by simp [su]; omega, by simp [su]; omega⟩, by simp [su], by simp [su]⟩
  · have := k3 q a b
    simp [su]
    omega
  · simp [su] at a ⊢
    exact k4 q a b
theorem wornS_ok {T : PS} {W : Int → Int} {R : PS} (ok : RSok R) (hd : R 0 2 < 20000) : RSok (wornS T W R) ∧ wornS T W R 0 0 = R 0 0 ∧ wornS T W R 0 2 = R 0 2 + 1 := by
  have k1 := ok.1
  obtain ⟨a1, a2, a3⟩ := wears_ok (u := fun p => goesS T R p (besS R p) 0) (n := (R 0 0).toNat) (p := 0) ok (by decide) (by omega)
  obtain ⟨b1, b2, b3⟩ := nextDay_ok a1 (by omega)
  obtain ⟨c1, c2, c3⟩ := harmS_ok (W := W) b1
  exact ⟨c1, c2.trans (b2.trans a2), by unfold wornS; rw [c3, b3, a3]⟩
theorem dayS_ok {T Tr : PS} {W : Int → Int} {R : PS} (ok : RSok R) (hd : R 0 2 < 20000) : RSok (dayS T Tr W R) ∧ dayS T Tr W R 0 0 = R 0 0 ∧ dayS T Tr W R 0 2 = R 0 2 + 1 := by
  obtain ⟨a1, a2, a3⟩ := wornS_ok (T := T) (W := W) ok hd
  unfold dayS
  split
  · obtain ⟨b1, b2, b3⟩ := comeS_ok (T := Tr) a1
    exact ⟨b1, b2.trans a2, b3.trans a3⟩
  · exact ⟨a1, a2, a3⟩
