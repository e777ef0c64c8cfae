/-! A DAY, the class -/
def rowL (r : Int) : List Int := [r, r + 1, r + 2, r + 3, r + 4, r + 5, r + 6, r + 7]
theorem mem_rowL {r a : Int} : a ∈ rowL r ↔ r ≤ a ∧ a ≤ r + 7 := by
  unfold rowL
  simp only [List.mem_cons, List.not_mem_nil, or_false]
  omega
theorem su_cm {σ : PS} {a i v b j w : Int} (h : a ≠ b ∨ i ≠ j) : su (su σ a i v) b j w = su (su σ b j w) a i v := by
  funext c k
  unfold su
  grind
theorem su_id {σ : PS} {a i v : Int} (h : σ a i = v) : su σ a i v = σ := by
  funext c k
  unfold su
  grind
section
variable {r : Int} {R σ : PS}
theorem RowC.setg {p : Int} (h : RowC r R σ) (h0 : 0 ≤ p) (h1 : p < 60) : RowC r (su R 3 p 1) (su σ r 5 (lor (σ r 5) (lshl 1 p))) := by
  have h2 := h.gone (f := fun q => if q = p then 1 else R 3 q) (h.2.2.1.set h0 h1 fun q _ _ => rfl)
  have e : su R 3 p 1 = fun a j => if a = 3 then (if j = p then 1 else R 3 j) else R a j := by
    funext a j
    unfold su
    grind
  rw [e]
  exact h2
theorem RowC.clrg {p : Int} (h : RowC r R σ) (h0 : 0 ≤ p) (h1 : p < 60) : RowC r (su R 3 p 0) (su σ r 5 (land (σ r 5) (lxor (lshl 1 p) (-1)))) := by
  have h2 := h.gone (f := fun q => if q = p then 0 else R 3 q) (h.2.2.1.clr h0 h1 fun q _ _ => rfl)
  have e : su R 3 p 0 = fun a j => if a = 3 then (if j = p then 0 else R 3 j) else R a j := by
    funext a j
    unfold su
    grind
  rw [e]
  exact h2
theorem RowC.look {p : Int} (h : RowC r R σ) (h0 : 0 ≤ p) (h1 : p < 60) : RowC r (su (su R 4 p (R 0 2)) 5 p (R 3 p)) (su (su σ (r + 3) p (σ r 11)) r 6 (lor (land (σ r 6) (lxor (lshl 1 p) (-1))) (land (σ r 5) (lshl 1 p)))) := by
  have e11 : σ r 11 = R 0 2 := h.1.2.2.1
  rw [e11]
  have h3 := h.ar (k := 4) (o := 3) (v := R 0 2) (p := p) (by omega)
  have q6 : su σ (r + 3) p (R 0 2) r 6 = σ r 6 := su_ne (Or.inl (by omega))
  have q5 : su σ (r + 3) p (R 0 2) r 5 = σ r 5 := su_ne (Or.inl (by omega))
  have h4 := h3.was (v := lor (land (σ r 6) (lxor (lshl 1 p) (-1))) (land (σ r 5) (lshl 1 p))) (f := fun q => if q = p then R 3 p else R 5 q) (by
    rw [← q6, ← q5]
    refine h3.2.2.2.1.cpy h3.2.2.1 h0 h1 fun q _ _ => ?_
    unfold su
    grind)
  have e : su (su R 4 p (R 0 2)) 5 p (R 3 p) = fun a j => if a = 5 then (if j = p then R 3 p else R 5 j) else (su R 4 p (R 0 2)) a j := by
    funext a j
    unfold su
    grind
  rw [e]
  exact h4
end
theorem looks_0 (R : PS) : looks 0 R = R := by
  funext f p
  unfold looks
  grind
theorem looks_succ {k : Int} (hk : 0 ≤ k) (R : PS) : su (su (looks k R) 4 k (looks k R 0 2)) 5 k (looks k R 3 k) = looks (k + 1) R := by
  funext f p
  unfold looks su
  grind
section PDAYC
variable {g : PG} {d : Nat} {Q : Int → PS → Prop}
theorem s_wear {r p : Int} {R σ : PS} {u : Int → Int} (hr : RowAt r) (hR : RowC r R σ) (ok : RSok R) (h0 : 0 ≤ p) (h1 : p < R 0 0) (hg : R 3 p = 0) (hu : σ 84 p = u p) (w : ∀ σ', eqx (rowL r) σ σ' → RowC r (wearS u p R) σ' → Q 0 σ') : XX g true (d + 1) P_X2_wear 0 [(2, 83), (2, r), (0, p)] [] 136 σ 136 Q := by
  have k1 := ok.1
  have hr3 : r = 43 ∨ r = 51 ∨ r = 59 := hr
  have e10 : σ r 10 = R 0 1 := hR.1.2.1
  have hm : ∀ a, r ≤ a → a ≤ r + 7 → a ∈ rowL r := fun a a1 a2 => mem_rowL.mpr ⟨a1, a2⟩
  refine B_X2_wear_0 hr (B_X7_draw_0 hr ⟨fun h => by omega, fun _ => ⟨by decide, ⟨h0, by omega⟩, ?_⟩⟩)
  rw [e10]
  unfold wearS at w
  rw [if_neg (by omega)] at w
  generalize w32 ((w32 (1664525 * (R 0 1))) + 1013904223) = v at *
  have hR1 : RowC r (su R 0 1 v) (su σ r 10 v) := hR.sc (by omega)
  have hx1 : eqx (rowL r) σ (su σ r 10 v) := eqx.rf.su (hm _ (by omega) (by omega))
  have e84 : su σ r 10 v 84 p = u p := by rw [su_ne (Or.inl (by omega))]; exact hu
  have e2 : su σ r 10 v (r + 2) p = R 2 p := by rw [su_ne (Or.inl (by omega))]; exact (hR.2.1 p h0 (by omega)).2.1
  have e15 : su σ r 10 v r 15 = R 0 6 := by rw [su_ne (Or.inr (by omega))]; exact hR.1.2.2.2.2.2.2.1
  rw [e84, e2, e15]
  have hR2 : RowC r (su (su R 0 1 v) 2 p (w32 (R 2 p + 1))) (su (su σ r 10 v) (r + 2) p (w32 (R 2 p + 1))) := hR1.ar (by omega)
  have hx2 : eqx (rowL r) σ (su (su σ r 10 v) (r + 2) p (w32 (R 2 p + 1))) := hx1.su (hm _ (by omega) (by omega))
  refine ⟨fun h => ⟨fun h2 => ?_, fun h2 => ?_⟩, fun h => ?_⟩
  · rw [if_neg (by omega), if_neg (by omega)] at w
    exact w _ hx2 hR2
  · rw [if_neg (by omega), if_pos h2] at w
    refine w _ ((hx2.su (hm _ (by omega) (by omega))).su (hm _ (by omega) (by omega))) ?_
    exact (hR2.sc (k := 6) (j := 15) (by omega)).sc (by omega)
  · rw [if_pos h] at w
    exact w _ (hx1.su (hm _ (by omega) (by omega))) (hR1.setg h0 (by omega))
theorem s_mostUrgent {n : Nat} {x1 : Int} {u : Int → Int} {σ : PS} (hx1 : x1 = (n : Int)) (hn : n ≤ 60) (hu : ∀ p : Int, 0 ≤ p → p < n → σ 85 p = u p) (w : Q (bestS u n) σ) : XX g true d P_X2_mostUrgent 0 [(2, 83), (0, x1), (9, 0), (9, 0), (9, 0)] [] 136 σ 136 Q := by
  subst hx1
  have key : ∀ (m k : Nat), k + m = n → XX g true d P_X2_mostUrgent 7 [(2, 83), (0, (n : Int)), (0, bestS u k), (0, if bestS u k = -1 then 0 else u (bestS u k)), (0, (k : Int))] [] 136 σ 136 Q := by
    intro m
    induction m with
    | zero =>
      intro k hk
      have e : k = n := by omega
      subst e
      exact B_X2_mostUrgent_7 ⟨fun _ => w, fun h => by omega⟩
    | succ m ih =>
      intro k hk
      have h1 := ih (k + 1) (by omega)
      rw [bestS_succ] at h1
      refine B_X2_mostUrgent_7 ⟨fun h => by omega, fun h => ⟨by omega, ?_⟩⟩
      rw [hu k (by omega) (by omega), w32_of (x := (k : Int) + 1) (by omega) (by omega)]
      refine ⟨fun h2 => ?_, fun h2 y2 e2 => ?_⟩
      · rw [if_neg (by omega)] at h1
        exact h1
      · rw [if_pos h2, if_neg (show ¬ (k : Int) = -1 by omega)] at h1
        rw [e2]
        exact h1
  exact B_X2_mostUrgent_0 (key n 0 (by omega))
theorem s_lookAt {r p : Int} {R σ : PS} (hr : RowAt r) (hR : RowC r R σ) (h0 : 0 ≤ p) (h1 : p < 60) (w : ∀ σ', eqx (rowL r) σ σ' → RowC r (su (su R 4 p (R 0 2)) 5 p (R 3 p)) σ' → Q 0 σ') : XX g true d P_X7_lookAt 0 [(2, r), (0, p)] [] 136 σ 136 Q :=
  B_X7_lookAt_0 hr ⟨⟨h0, h1⟩, w _ ((eqx.rf.su (mem_rowL.mpr (by omega))).su (mem_rowL.mpr (by omega))) (hR.look h0 h1)⟩
theorem s_change {r p : Int} {R σ : PS} (hr : RowAt r) (hR : RowC r R σ) (ok : RSok R) (h0 : 0 ≤ p) (h1 : p < R 0 0) (h2 : 0 < R 9 6 + R 9 7) (w : ∀ σ', eqx (rowL r) σ σ' → RowC r (chgS R p) σ' → Q 0 σ') : XX g true (d + 1) P_X2_change 0 [(2, r), (0, p), (9, 0), (9, 0), (9, 0)] [] 136 σ 136 Q := by
  have k1 := ok.1
  obtain ⟨-, -, k3, -, -, -, k7, k8⟩ := ok
  have hm : ∀ a, r ≤ a → a ≤ r + 7 → a ∈ rowL r := fun a a1 a2 => mem_rowL.mpr ⟨a1, a2⟩
  have es := (hR.2.1 p h0 (by omega)).1
  have hs := (k3 p h0 (by omega)).1
  have t6 : σ (r + 7) 6 = R 9 6 := hR.2.2.2.2.2 6 (by omega) (by omega)
  have t7 : σ (r + 7) 7 = R 9 7 := hR.2.2.2.2.2 7 (by omega) (by omega)
  have t4 : σ (r + 7) 4 = R 9 4 := hR.2.2.2.2.2 4 (by omega) (by omega)
  have e8 : σ (r + 6) (R 1 p) = R 8 (R 1 p) := (hR.2.2.2.2.1 (R 1 p) (by omega) (by omega)).2
  -- behind the paying
  have fin : ∀ σ1, eqx (rowL r) σ σ1 → RowC r (payS R p) σ1 → XX g true (d + 1) P_X2_change 102 [(2, r), (0, p), (9, 0), (9, 0), (9, 0)] [] 136 σ1 136 Q := by
    intro σ1 hx1 hR1
    have p5 : σ1 r 14 = R 0 5 := by
      rw [hR1.1.2.2.2.2.2.1]
      unfold payS
      split <;> simp [su]
    have p6 : σ1 (r + 4) p = R 6 p := by
      rw [(hR1.2.1 p h0 (by omega)).2.2.2]
      unfold payS
      split <;> simp [su]
    have p2 : payS R p 0 2 = R 0 2 := by
      unfold payS
      split <;> simp [su]
    refine B_X2_change_102 hr ⟨⟨h0, by omega⟩, ?_⟩
    rw [p5, p6]
    have hR2 := (((hR1.sc (k := 5) (j := 14) (v := w32 (R 0 5 + 1)) (by omega)).ar (k := 6) (o := 4) (v := w32 (R 6 p + 1)) (p := p) (by omega)).ar (k := 2) (o := 2) (v := 0) (p := p) (by omega)).clrg h0 (by omega)
    have q5 : su (su (su σ1 r 14 (w32 (R 0 5 + 1))) (r + 4) p (w32 (R 6 p + 1))) (r + 2) p 0 r 5 = σ1 r 5 := by
      rw [su_ne (Or.inl (by omega)), su_ne (Or.inl (by omega)), su_ne (Or.inr (by omega))]
    rw [q5] at hR2
    refine s_lookAt hr hR2 h0 (by omega) fun σ2 hx2 hR3 => ?_
    refine w σ2 (((((hx1.su (hm _ (by omega) (by omega))).su (hm _ (by omega) (by omega))).su (hm _ (by omega) (by omega))).su (hm _ (by omega) (by omega))).tr hx2) ?_
    have e : chgS R p = su (su (su (su (su (su (payS R p) 0 5 (w32 (R 0 5 + 1))) 6 p (w32 (R 6 p + 1))) 2 p 0) 3 p 0) 4 p (R 0 2)) 5 p 0 := by
      unfold chgS
      rw [su_cm (Or.inl (by decide))]
    have a1 : (su (su (su (su (payS R p) 0 5 (w32 (R 0 5 + 1))) 6 p (w32 (R 6 p + 1))) 2 p 0) 3 p 0) 0 2 = R 0 2 := by
      simp only [su_ne, ne_eq, reduceCtorEq, not_false_eq_true, Int.reduceEq, true_or, or_true]
      exact p2
    have a2 : (su (su (su (su (payS R p) 0 5 (w32 (R 0 5 + 1))) 6 p (w32 (R 6 p + 1))) 2 p 0) 3 p 0) 3 p = 0 := su_eq
    rw [a1, a2] at hR3
    rw [e]
    exact hR3
  have e1 : w32 (p + 1) = p + 1 := w32_of (by omega) (by omega)
  have e2 : w32 (R 0 0 - p) = R 0 0 - p := w32_of (by omega) (by omega)
  have lft : fromLeft R p → XX g true (d + 1) P_X2_change 43 [(2, r), (0, p), (0, p + 1), (0, R 0 0 - p), (0, 1)] [] 136 σ 136 Q := by
    intro hl
    refine B_X2_change_43 hr ⟨fun h => by omega, fun _ => ?_⟩
    rw [t6, w32_of (x := R 9 6 - 1) (by have := hl.1; omega) (by omega)]
    have hR1 := hR.ar (k := 9) (o := 7) (p := 6) (v := R 9 6 - 1) (by omega)
    have q1 : su σ (r + 7) 6 (R 9 6 - 1) (r + 1) p = R 1 p := by rw [su_ne (Or.inl (by omega))]; exact es
    have q2 : su σ (r + 7) 6 (R 9 6 - 1) r 13 = R 0 4 := by rw [su_ne (Or.inl (by omega))]; exact hR.1.2.2.2.2.1
    have q3 : su σ (r + 7) 6 (R 9 6 - 1) (r + 6) (R 1 p) = R 8 (R 1 p) := by rw [su_ne (Or.inl (by omega))]; exact e8
    have q4 : su σ (r + 7) 6 (R 9 6 - 1) (r + 7) 4 = R 9 4 := by rw [su_ne (Or.inr (by omega))]; exact t4
    refine B_X2_change_64 hr ⟨⟨h0, by omega⟩, by rw [q1]; omega, fun h => by omega, fun _ => ?_⟩
    rw [q1, q2, q3, q4]
    refine fin _ ((eqx.rf.su (hm _ (by omega) (by omega))).su (hm _ (by omega) (by omega))) ?_
    unfold payS
    rw [if_pos hl]
    exact hR1.sc (k := 4) (j := 13) (by omega)
  have rgt : ¬ fromLeft R p → XX g true (d + 1) P_X2_change 43 [(2, r), (0, p), (0, p + 1), (0, R 0 0 - p), (0, 0)] [] 136 σ 136 Q := by
    intro hl
    have h7 : 1 ≤ R 9 7 := by
      unfold fromLeft at hl
      omega
    refine B_X2_change_43 hr ⟨fun _ => ?_, fun h => absurd rfl h⟩
    rw [t7, w32_of (x := R 9 7 - 1) (by omega) (by omega)]
    have hR1 := hR.ar (k := 9) (o := 7) (p := 7) (v := R 9 7 - 1) (by omega)
    have q1 : su σ (r + 7) 7 (R 9 7 - 1) (r + 1) p = R 1 p := by rw [su_ne (Or.inl (by omega))]; exact es
    have q2 : su σ (r + 7) 7 (R 9 7 - 1) r 13 = R 0 4 := by rw [su_ne (Or.inl (by omega))]; exact hR.1.2.2.2.2.1
    have q3 : su σ (r + 7) 7 (R 9 7 - 1) (r + 6) (R 1 p) = R 8 (R 1 p) := by rw [su_ne (Or.inl (by omega))]; exact e8
    have q4 : su σ (r + 7) 7 (R 9 7 - 1) (r + 7) 4 = R 9 4 := by rw [su_ne (Or.inr (by omega))]; exact t4
    refine B_X2_change_64 hr ⟨⟨h0, by omega⟩, by rw [q1]; omega, fun _ => ?_, fun h => absurd rfl h⟩
    rw [q1, q2, q3, q4]
    refine fin _ ((eqx.rf.su (hm _ (by omega) (by omega))).su (hm _ (by omega) (by omega))) ?_
    unfold payS
    rw [if_neg hl]
    exact hR1.sc (k := 4) (j := 13) (by omega)
  have e0 : σ r 0 = R 0 0 := hR.1.1
  refine B_X2_change_0 hr fun y1 h3 y2 h4 => ?_
  rw [e1] at h3
  rw [e0, e2] at h4
  subst h3 h4
  rw [t6, t7]
  unfold fromLeft at lft rgt
  refine ⟨fun h => B_X2_change_40 hr (rgt (by omega)), fun h => ⟨fun h3 => B_X2_change_36 hr (lft (by omega)), fun h3 => ⟨fun h4 => B_X2_change_40 hr (rgt (by omega)), fun h4 => B_X2_change_36 hr (lft (by omega))⟩⟩⟩
theorem chgs_succ (k : Nat) (u : Int → Int) (R : PS) : chgs (k + 1) u R = if R 9 6 + R 9 7 ≤ 0 then R else if bestS u (R 0 0).toNat = -1 then R else chgs k (updF u (bestS u (R 0 0).toNat) 0) (chgS R (bestS u (R 0 0).toNat)) := rfl
theorem s_come {r q : Int} {R T σ : PS} {okn : Int → Bool} (hr : RowAt r) (hR : RowC r R σ) (ok : RSok R) (hq : LinAt q) (hT : TxtC q T σ) (okT : TxtOK okn T) (w : ∀ σ', eqx (rowL r ++ [68, 69, 85]) σ σ' → RowC r (comeS T R) σ' → Q 0 σ') : XX g true (d + 3) P_X2_come 0 [(2, 83), (2, r), (2, q), (9, 0), (9, 0)] [] 136 σ 136 Q := by
  have k1 := ok.1
  have hr3 : r = 43 ∨ r = 51 ∨ r = 59 := hr
  have hq3 : q + 3 < 43 := by have := hq; unfold LinAt at this; omega
  have hmr : ∀ {σ1 σ2 : PS}, eqx (rowL r) σ1 σ2 → eqx (rowL r ++ [68, 69, 85]) σ1 σ2 := fun h => h.mono fun a ha => List.mem_append_left _ ha
  have hms : ∀ {σ1 σ2 : PS}, eqx [68, 69, 85] σ1 σ2 → eqx (rowL r ++ [68, 69, 85]) σ1 σ2 := fun h => h.mono fun a ha => List.mem_append_right _ ha
  -- the changes
  have third : ∀ (n : Nat) (x : Int) (u : Int → Int) (R1 σ1 : PS), (R1 9 2 - x).toNat = n → 0 ≤ x → RSok R1 → R1 0 0 = R 0 0 → RowC r R1 σ1 → eqx (rowL r ++ [68, 69, 85]) σ σ1 → (∀ p : Int, 0 ≤ p → p < R 0 0 → σ1 85 p = u p) → (∀ σ', eqx (rowL r ++ [68, 69, 85]) σ σ' → RowC r (chgs n u R1) σ' → Q 0 σ') → XX g true (d + 3) P_X2_come 55 [(2, 83), (2, r), (9, 0), (0, x), (9, 0)] [] 136 σ1 136 Q := by
    intro n
    induction n with
    | zero =>
      intro x u R1 σ1 hn hx0 ok1 hn1 hR1 hx hu w
      have t2 : σ1 (r + 7) 2 = R1 9 2 := hR1.2.2.2.2.2 2 (by omega) (by omega)
      exact B_X2_come_55 hr hq ⟨fun _ => w _ hx hR1, fun h => by rw [t2] at h; omega⟩
    | succ n ih =>
      intro x u R1 σ1 hn hx0 ok1 hn1 hR1 hx hu w
      have t2 : σ1 (r + 7) 2 = R1 9 2 := hR1.2.2.2.2.2 2 (by omega) (by omega)
      have t6 : σ1 (r + 7) 6 = R1 9 6 := hR1.2.2.2.2.2 6 (by omega) (by omega)
      have t7 : σ1 (r + 7) 7 = R1 9 7 := hR1.2.2.2.2.2 7 (by omega) (by omega)
      have s6 := ok1.2.2.2.2.2.2.1
      have s7 := ok1.2.2.2.2.2.2.2
      rw [chgs_succ] at w
      refine E_okS fun hok => ?_
      have h32 := ar32 hok (RowF7 hr) (j := 2) (by omega)
      rw [t2] at h32
      refine B_X2_come_55 hr hq ⟨fun h => by rw [t2] at h; omega, fun h => ?_⟩
      rw [t6, t7, w32_of (x := R1 9 6 + R1 9 7) (by omega) (by omega), hR1.1.1]
      refine ⟨fun h2 => ?_, fun h2 => ?_⟩
      · rw [if_pos h2] at w
        exact w _ hx hR1
      rw [if_neg (by omega)] at w
      have hb := bestS_lt (u := u) (k := (R1 0 0).toNat)
      refine s_mostUrgent (n := (R1 0 0).toNat) (u := u) (by omega) (by omega) (fun p h0 h1 => hu p h0 (by omega)) ⟨fun h3 => ⟨by omega, ?_⟩, fun h3 => ?_⟩
      · rw [if_neg h3] at w
        generalize hbb : bestS u (R1 0 0).toNat = b at *
        have hx1 : eqx (rowL r ++ [68, 69, 85]) σ (su σ1 85 b 0) := hx.su (List.mem_append_right _ (by decide))
        have hR2 : RowC r R1 (su σ1 85 b 0) := hR1.same fun a a1 a2 j => su_ne (Or.inl (by omega))
        obtain ⟨c1, c2, c3, c4⟩ := chgS_ok (p := b) ok1 (by omega) (by omega) h2
        refine s_change hr hR2 ok1 (by omega) (by omega) h2 fun σ2 hx2 hR3 => ?_
        rw [w32_of (x := x + 1) (by omega) (by have := h32.2; omega)]
        refine ih (x + 1) (updF u b 0) (chgS R1 b) σ2 (by rw [c4]; omega) (by omega) c1 (c2.trans hn1) hR3 (hx1.tr (hmr hx2)) (fun p h0 h1 => ?_) w
        rw [hx2 85 (fun z => by have := mem_rowL.mp z; omega)]
        unfold su updF
        have := hu p h0 h1
        grind
      · rw [if_pos h3] at w
        exact w _ hx hR1
  -- he looks
  have second : ∀ (u : Int → Int) (n : Nat) (k : Int) (σ1 : PS), 0 ≤ k → k + n = R 0 0 → RowC r (looks k R) σ1 → eqx (rowL r ++ [68, 69, 85]) σ σ1 → (∀ p : Int, 0 ≤ p → p < R 0 0 → σ1 85 p = u p) → (∀ σ', eqx (rowL r ++ [68, 69, 85]) σ σ' → RowC r (chgs (R 9 2).toNat u (looks (R 0 0) R)) σ' → Q 0 σ') → XX g true (d + 3) P_X2_come 34 [(2, 83), (2, r), (9, 0), (0, k), (9, 0)] [] 136 σ1 136 Q := by
    intro u n
    induction n with
    | zero =>
      intro k σ1 h0 hk hR1 hx hu w
      have e : k = R 0 0 := by omega
      subst e
      refine B_X2_come_34 hr hq ⟨fun _ => ?_, fun h => by rw [hR1.1.1] at h; unfold looks at h; simp at h⟩
      exact third (R 9 2).toNat 0 u (looks (R 0 0) R) σ1 (by simp [looks]) (by omega) (looks_ok ok) (by simp [looks]) hR1 hx hu w
    | succ n ih =>
      intro k σ1 h0 hk hR1 hx hu w
      have e0 : σ1 r 0 = R 0 0 := by rw [hR1.1.1]; simp [looks]
      refine B_X2_come_34 hr hq ⟨fun h => by rw [e0] at h; omega, fun h => ?_⟩
      refine s_lookAt hr hR1 h0 (by omega) fun σ2 hx2 hR2 => ?_
      rw [looks_succ h0] at hR2
      rw [w32_of (by omega) (by omega)]
      refine ih (k + 1) σ2 (by omega) (by omega) hR2 (hx.tr (hmr hx2)) (fun p p0 p1 => ?_) w
      rw [hx2 85 (fun z => by have := mem_rowL.mp z; omega)]
      exact hu p p0 p1
  -- what urges
  have first : ∀ (n : Nat) (k : Int) (σ1 : PS), 0 ≤ k → k + n = R 0 0 → eqx [68, 69, 85] σ σ1 → (∀ p : Int, 0 ≤ p → p < k → σ1 85 p = urgeS T R p) → XX g true (d + 3) P_X2_come 2 [(2, 83), (2, r), (2, q), (0, k), (9, 0)] [] 136 σ1 136 Q := by
    intro n
    induction n with
    | zero =>
      intro k σ1 h0 hk hx hu
      have hR1 : RowC r R σ1 := hR.same fun a a1 a2 j => hx a (by simp only [List.mem_cons, List.not_mem_nil, or_false]; omega) j
      have e : k = R 0 0 := by omega
      subst e
      refine B_X2_come_2 hr hq ⟨fun _ => ?_, fun h => by rw [hR1.1.1] at h; omega⟩
      exact second (fun p => urgeS T R p) (R 0 0).toNat 0 σ1 (by omega) (by omega) (by rw [looks_0]; exact hR1) (hms hx) hu w
    | succ n ih =>
      intro k σ1 h0 hk hx hu
      have hR1 : RowC r R σ1 := hR.same fun a a1 a2 j => hx a (by simp only [List.mem_cons, List.not_mem_nil, or_false]; omega) j
      have hT1 : TxtC q T σ1 := hT.same fun a a1 a2 j => hx a (by simp only [List.mem_cons, List.not_mem_nil, or_false]; omega) j
      refine B_X2_come_2 hr hq ⟨fun h => by rw [hR1.1.1] at h; omega, fun h => ?_⟩
      refine s_urge hr hR1 ok hq hT1 okT h0 (by omega) fun σ2 hx2 => ⟨by omega, ?_⟩
      rw [w32_of (by omega) (by omega)]
      refine ih (k + 1) _ (by omega) (by omega) ((hx.tr (hx2.mono (by decide))).su (by decide)) fun p p0 p1 => ?_
      by_cases e : p = k
      · subst e; exact su_eq
      · rw [su_ne (Or.inr e), hx2 85 (by decide)]
        exact hu p p0 (by omega)
  exact B_X2_come_0 hr hq (first (R 0 0).toNat 0 σ (by omega) (by omega) eqx.rf fun p p0 p1 => by omega)
end PDAYC
