/-! the model asks -/
theorem guessR_0 {u : Int} (hu : 0 ≤ u ∧ u ≤ 1000) : ∀ (n : Nat), guessR u n 0 = 0 := by
  intro n
  induction n with
  | zero => rfl
  | succ n ih =>
    rw [guessR_succ, Int.zero_mul, show idiv (w32 0) 1000 = 0 by decide]
    exact ih
theorem guessR_u0 {x : Int} (hx : 0 ≤ x ∧ x ≤ 1000) : ∀ (n : Nat), guessR 0 n x = x := by
  intro n
  induction n with
  | zero => rfl
  | succ n ih =>
    rw [guessR_succ, show w32 (1000 - 0) = 1000 by decide, w32_of (by omega) (by omega), idiv_nn (by omega) (by omega) (by decide) (by decide), show x * 1000 / 1000 = x by omega]
    exact ih
theorem guess_in {u x : Int} (hu : 0 ≤ u ∧ u ≤ 1000) (hx : 0 ≤ x ∧ x ≤ 1000) : 0 ≤ idiv (w32 (x * w32 (1000 - u))) 1000 ∧ idiv (w32 (x * w32 (1000 - u))) 1000 ≤ 1000 := by
  have h1 : 0 ≤ x * (1000 - u) := Int.mul_nonneg hx.1 (by omega)
  have h2 : x * (1000 - u) ≤ 1000 * 1000 := by
    have a1 := Int.mul_le_mul_of_nonneg_right hx.2 (show 0 ≤ 1000 - u by omega)
    have a2 := Int.mul_le_mul_of_nonneg_left (show 1000 - u ≤ 1000 by omega) (show (0 : Int) ≤ 1000 by decide)
    omega
  rw [w32_of (x := 1000 - u) (by omega) (by omega), w32_of (by omega) (by omega), idiv_nn h1 (by omega) (by decide) (by decide)]
  omega
section PASKS
variable {g : PG} {d : Nat} {Q : Int → PS → Prop}
theorem s_besM {R σ : PS} {p : Int} (hR : RowMx R σ) (ok : RSok R) (h0 : 0 ≤ p) (h1 : p < R 0 0) (w : Q (besS R p) σ) : XX g true d P_X12_besideOf 0 [(2, 88), (0, p)] [] 136 σ 136 Q := by
  obtain ⟨k1, k2, k3, k4, -⟩ := ok
  have hb : ∀ j, 0 ≤ j → j < 60 → σ 91 j = R 3 j := fun j a b => (hR.2.1 j a b).2.2.1
  have a1 : 0 < p → σ 91 (p - 1) = R 3 (p - 1) ∧ (R 3 (p - 1) = 0 ∨ R 3 (p - 1) = 1) := fun h => ⟨hb _ (by omega) (by omega), (k3 (p - 1) (by omega) (by omega)).2.1⟩
  have a2 : p < R 0 0 - 1 → σ 91 (p + 1) = R 3 (p + 1) ∧ (R 3 (p + 1) = 0 ∨ R 3 (p + 1) = 1) := fun h => ⟨hb _ (by omega) (by omega), (k3 (p + 1) (by omega) (by omega)).2.1⟩
  have e0 : σ 88 2 = R 0 0 := hR.1.1
  unfold besS at w
  refine B_X12_besideOf_0 ?_
  rw [e0, w32_of (x := R 0 0 - 1) (by omega) (by omega), w32_of (x := p + 1) (by omega) (by omega)]
  refine ⟨fun h => ⟨fun h2 => ?_, fun h2 => ⟨by omega, ?_⟩⟩, fun h => ⟨?_, ?_⟩⟩
  · rw [if_neg (by omega), if_neg (by omega)] at w
    exact w
  · obtain ⟨b1, b2⟩ := a2 h2
    rw [if_neg (by omega), if_pos h2] at w
    rw [b1, w32_of (by omega) (by omega)]
    exact w
  · rw [w32_of (by omega) (by omega)]; omega
  · obtain ⟨b1, b2⟩ := a1 h
    rw [w32_of (x := p - 1) (by omega) (by omega), b1]
    refine ⟨fun h2 => ?_, fun h2 => ⟨by omega, ?_⟩⟩
    · rw [if_pos h, if_neg (by omega)] at w
      rw [w32_of (by omega) (by omega)]
      exact w
    · obtain ⟨b3, b4⟩ := a2 h2
      rw [if_pos h, if_pos h2] at w
      rw [b3, w32_of (by omega) (by omega)]
      exact w
theorem RowMx.x {R σ σ' : PS} {L : List Int} (h : RowMx R σ) (hx : eqx L σ σ') (hL : ∀ a, 88 ≤ a → a ≤ 97 → a ∉ L) : RowMx R σ' := h.same (fun j _ _ => hx 88 (hL 88 (by omega) (by omega)) j) (fun a a1 a2 j => hx a (hL a (by omega) a2) j)
theorem TxtM.x {k : Int} {T σ σ' : PS} {L : List Int} (h : TxtM k T σ) (hx : eqx L σ σ') (hL : ∀ a, 100 ≤ a → a ≤ 105 → a ∉ L) : TxtM k T σ' := h.same fun a a1 a2 j => hx a (hL a a1 a2) j
theorem s_goesOf {p b e ag dy : Int} {R T σ : PS} (hR : RowMx R σ) (ok : RSok R) (hT : TxtM 0 T σ) (okT : TxtOK oknL T) (h0 : 0 ≤ p) (h1 : p < R 0 0) (hag : ag = w32 (R 2 p + e)) (hdy : dy = w32 (R 0 2 + e)) (w : ∀ σ', eqx [111, 112] σ σ' → Q (goesS T R p b e) σ') : XX g true (d + 3) P_X12_goesOf 0 [(2, 88), (0, R 1 p), (0, ag), (0, b), (0, p), (0, dy), (9, 0)] [] 136 σ 136 Q := by
  obtain ⟨k1, k2, k3, k4, k5, -⟩ := ok
  have hs := (k3 p h0 (by omega)).1
  have q0 : σ 95 (R 1 p) = R 7 (R 1 p) := (hR.2.2.1 (R 1 p) (by omega) (by omega)).1
  have q6 : σ 97 0 = R 9 0 := hR.2.2.2 0 (by omega) (by omega) (by omega)
  refine B_X12_goesOf_0 ⟨by omega, ?_⟩
  rw [q0, q6, hR.1.1]
  have fin : XX g true (d + 2) P_X12_tells 0 [(2, 88), (0, 0), (9, 0)] [] 136 (su (su (su (su (su (su (su (su (su σ 111 0 (R 7 (R 1 p))) 111 1 ag) 111 2 (R 1 p)) 111 3 b) 111 4 p) 111 5 (R 0 0)) 111 6 (R 9 0)) 111 7 dy) 111 8 (iabs (w32 (w32 (w32 (2 * p) + 1) - R 0 0)))) 136 (fun r5 σ4 => ((0 ≤ r5 → ((r5 ≤ 1000 → Q r5 σ4) ∧ (1000 < r5 → Q 1000 σ4))) ∧ (r5 < 0 → Q 0 σ4))) := by
    have hx : eqx [111, 112] σ (su (su (su (su (su (su (su (su (su σ 111 0 (R 7 (R 1 p))) 111 1 ag) 111 2 (R 1 p)) 111 3 b) 111 4 p) 111 5 (R 0 0)) 111 6 (R 9 0)) 111 7 dy) 111 8 (iabs (w32 (w32 (w32 (2 * p) + 1) - R 0 0)))) := by
      repeat' refine eqx.su ?_ (by decide)
      exact eqx.rf
    have hn : ∀ a, oknL a = true → 0 ≤ a → a < 12 → (su (su (su (su (su (su (su (su (su σ 111 0 (R 7 (R 1 p))) 111 1 ag) 111 2 (R 1 p)) 111 3 b) 111 4 p) 111 5 (R 0 0)) 111 6 (R 9 0)) 111 7 dy) 111 8 (iabs (w32 (w32 (w32 (2 * p) + 1) - R 0 0)))) 111 a = nameS R p b e a := by
      intro a ha a0 a1
      have ha2 : 0 ≤ a ∧ a ≤ 8 := by unfold oknL at ha; exact of_decide_eq_true ha
      have : a = 0 ∨ a = 1 ∨ a = 2 ∨ a = 3 ∨ a = 4 ∨ a = 5 ∨ a = 6 ∨ a = 7 ∨ a = 8 := by omega
      rcases this with rfl | rfl | rfl | rfl | rfl | rfl | rfl | rfl | rfl <;> simp [su, nameS, hag, hdy]
    refine s_tells ⟨by decide, by decide⟩ (hT.x hx fun a a1 a2 => by simp only [List.mem_cons, List.not_mem_nil, or_false]; omega) okT hn fun σ' hx' => ?_
    have h9 := w σ' (hx.tr (hx'.mono (by decide)))
    unfold goesS imax imin at h9
    generalize tellsS T (nameS R p b e) = v at h9
    refine ⟨fun z => ⟨fun z2 => ?_, fun z2 => ?_⟩, fun z => ?_⟩ <;> grind
  refine B_X12_size_0 ⟨fun z => ?_, fun z => ?_⟩
  · unfold iabs at fin
    rw [if_pos z] at fin
    exact fin
  · unfold iabs at fin
    rw [if_neg (by omega), show ∀ x : Int, 0 - x = -x from fun x => by omega] at fin
    exact fin
theorem s_goesNow {p : Int} {R T σ : PS} (hR : RowMx R σ) (ok : RSok R) (hT : TxtM 0 T σ) (okT : TxtOK oknL T) (h0 : 0 ≤ p) (h1 : p < R 0 0) (w : ∀ σ', eqx [111, 112] σ σ' → Q (goesS T R p (besS R p) 0) σ') : XX g true (d + 4) P_X12_goesNow 0 [(2, 88), (0, p)] [] 136 σ 136 Q := by
  have k1 := ok.1
  have k2 := ok.2.1
  obtain ⟨m1, m2, -⟩ := hR.2.1 p h0 (by omega)
  refine E_okS fun hok => ?_
  have hi := ar32 hok (a := 90) (n := 60) ⟨by decide, by decide, by decide, rfl⟩ h0
  rw [m2] at hi
  refine B_X12_goesNow_0 ⟨by omega, s_besM hR ok h0 h1 ?_⟩
  rw [m1, m2, hR.1.2.2.1]
  exact s_goesOf hR ok hT okT h0 h1 (by rw [Int.add_zero, w32_id hi]) (by rw [Int.add_zero, w32_of (by omega) (by omega)]) w
theorem s_urgeOf {k p : Int} {R T σ : PS} (hk : 1 ≤ k ∧ k < 3) (hR : RowMx R σ) (ok : RSok R) (hT : TxtM k T σ) (okT : TxtOK oknR T) (h0 : 0 ≤ p) (h1 : p < R 0 0) (w : ∀ σ', eqx [111, 112] σ σ' → Q (urgeS T R p) σ') : XX g true (d + 3) P_X12_urgeOf 0 [(2, 88), (0, k), (0, p)] [] 136 σ 136 Q := by
  have k1 := ok.1
  have k2 := ok.2.1
  have k5 := ok.2.2.2.2.1
  obtain ⟨m1, m2, m3, m4, m5, m6⟩ := hR.2.1 p h0 (by omega)
  refine E_okS fun hok => ?_
  have hi := ar32 hok (a := 90) (n := 60) ⟨by decide, by decide, by decide, rfl⟩ h0
  have hi2 := ar32 hok (a := 92) (n := 60) ⟨by decide, by decide, by decide, rfl⟩ h0
  rw [m2] at hi
  rw [m4] at hi2
  refine B_X12_urgeOf_0 ⟨by omega, ?_⟩
  rw [m1, m2]
  have hxa : eqx [111, 112] σ (su (su σ 111 1 (R 2 p)) 111 2 (R 1 p)) := (eqx.rf.su (by decide)).su (by decide)
  have hq : ∀ a : Int, a ≠ 111 → ∀ j, (su (su σ 111 1 (R 2 p)) 111 2 (R 1 p)) a j = σ a j := fun a ha j => by rw [su_ne (Or.inl ha), su_ne (Or.inl ha)]
  refine s_besM (hR.x hxa fun a a1 a2 => by simp only [List.mem_cons, List.not_mem_nil, or_false]; omega) ok h0 h1 ?_
  simp only [hq 97 (by decide), hq 92 (by decide), hq 88 (by decide), hq 91 (by decide)]
  rw [hR.2.2.2 1 (by omega) (by omega) (by omega), hR.1.1, hR.1.2.2.1, m3, m4]
  have fin : ∀ v : Int, v = (if R 4 p = -1 then w32 (R 0 2 + 1) else w32 (R 0 2 - R 4 p)) → XX g true (d + 2) P_X12_tells 0 [(2, 88), (0, k), (9, 0)] [] 136 (su (su (su (su (su (su (su (su (su σ 111 1 (R 2 p)) 111 2 (R 1 p)) 111 3 (besS R p)) 111 4 p) 111 5 (R 0 0)) 111 7 (R 0 2)) 111 9 (irem (w32 (p + R 0 2)) (R 9 1))) 111 10 v) 111 11 (R 3 p)) 136 Q := by
    intro v hv
    have hx : eqx [111, 112] σ (su (su (su (su (su (su (su (su (su σ 111 1 (R 2 p)) 111 2 (R 1 p)) 111 3 (besS R p)) 111 4 p) 111 5 (R 0 0)) 111 7 (R 0 2)) 111 9 (irem (w32 (p + R 0 2)) (R 9 1))) 111 10 v) 111 11 (R 3 p)) := by
      repeat' refine eqx.su ?_ (by decide)
      exact eqx.rf
    refine s_tells ⟨by omega, by omega⟩ (hT.x hx fun a a1 a2 => by simp only [List.mem_cons, List.not_mem_nil, or_false]; omega) okT (nm := nameS R p (besS R p) 0) (fun a ha a0 a1 => ?_) fun σ' hx' => w σ' (hx.tr (hx'.mono (by decide)))
    have ha2 : (1 ≤ a ∧ a ≤ 5) ∨ a = 7 ∨ (9 ≤ a ∧ a ≤ 11) := by unfold oknR at ha; exact of_decide_eq_true ha
    have e1 : w32 (R 2 p) = R 2 p := w32_id hi
    have e2 : w32 (R 0 2) = R 0 2 := w32_of (by omega) (by omega)
    have : a = 1 ∨ a = 2 ∨ a = 3 ∨ a = 4 ∨ a = 5 ∨ a = 7 ∨ a = 9 ∨ a = 10 ∨ a = 11 := by omega
    rcases this with rfl | rfl | rfl | rfl | rfl | rfl | rfl | rfl | rfl <;> simp [su, nameS, e1, e2, hv]
  refine ⟨by omega, fun h => fin _ ?_, fun h => fin _ ?_⟩
  · rw [if_neg (by omega), w32_of (x := R 0 2 + 1) (by omega) (by omega), show R 0 2 + 1 - (R 4 p + 1) = R 0 2 - R 4 p by omega]
  · rw [if_pos (by omega)]
theorem s_guessOf {p : Int} {R T σ : PS} (hR : RowMx R σ) (ok : RSok R) (hT : TxtM 0 T σ) (okT : TxtOK oknL T) (h0 : 0 ≤ p) (h1 : p < R 0 0) (w : ∀ σ', eqx [111, 112] σ σ' → Q (guessS T R p) σ') : XX g true (d + 4) P_X12_guessOf 0 [(2, 88), (0, p), (9, 0), (9, 0), (9, 0)] [] 136 σ 136 Q := by
  have k1 := ok.1
  have k2 := ok.2.1
  obtain ⟨m1, m2, m3, m4, m5, m6⟩ := hR.2.1 p h0 (by omega)
  refine E_okS fun hok => ?_
  have hi := ar32 hok (a := 90) (n := 60) ⟨by decide, by decide, by decide, rfl⟩ h0
  have hi2 := ar32 hok (a := 92) (n := 60) ⟨by decide, by decide, by decide, rfl⟩ h0
  rw [m2] at hi
  rw [m4] at hi2
  unfold guessS at w
  refine B_X12_guessOf_0 ⟨by omega, fun h => ⟨fun h2 => ?_, fun h2 => ?_⟩, fun h => ?_⟩
  · rw [m1, m2, hR.1.2.2.1]
    refine s_goesOf hR ok hT okT h0 h1 (e := 0) (by rw [Int.add_zero, w32_id hi]) (by rw [Int.add_zero, w32_of (by omega) (by omega)]) fun σ1 hx y4 e4 => ?_
    have hR1 : RowMx R σ1 := hR.x hx fun a a1 a2 => by simp only [List.mem_cons, List.not_mem_nil, or_false]; omega
    have hu := goesS_01 T R p 0 0
    have h9 := w σ1 hx
    rw [if_neg (by omega), if_neg (by omega)] at h9
    rw [(hR1.2.1 p h0 (by omega)).2.2.2.1] at e4
    generalize goesS T R p 0 0 = u at *
    have h4 := (ok.2.2.1 p h0 (by omega)).2.2.2
    have ed : σ1 88 12 = R 0 2 := hR1.1.2.2.1
    have key : ∀ (n : Nat) (x y : Int), (R 0 2 - y).toNat = n → (0 ≤ x ∧ x ≤ 1000) → Q (w32 (1000 - guessR u n x)) σ1 → -1 ≤ y → XX g true (d + 4) P_X12_guessOf 64 [(2, 88), (9, 0), (0, x), (0, u), (0, y)] [] 136 σ1 136 Q := by
      intro n
      induction n with
      | zero =>
        intro x y hn hx w hy
        exact B_X12_guessOf_64 ⟨fun _ => w, fun z => by rw [ed] at z; omega⟩
      | succ n ih =>
        intro x y hn hx w hy
        refine B_X12_guessOf_64 ⟨fun z => by rw [ed] at z; omega, fun z => ⟨fun z2 => ?_, fun z2 => ⟨fun z3 => ?_, fun z3 y1 e1 => ?_⟩⟩⟩
        · have : x = 0 := by omega
          subst this
          rw [guessR_0 hu] at w
          exact w
        · have : u = 0 := by omega
          subst this
          rw [guessR_u0 hx] at w
          exact w
        · rw [e1, w32_of (x := y + 1) (by omega) (by omega)]
          exact ih _ (y + 1) (by omega) (guess_in hu hx) w (by omega)
    rw [e4, show R 4 p + 1 - 1 = R 4 p by omega, w32_of (by omega) (by have := hi2.2; omega)]
    exact key (R 0 2 - R 4 p).toNat 1000 (R 4 p) rfl ⟨by decide, by decide⟩ h9 h4
  · have h9 := w σ eqx.rf
    rw [if_neg (by omega), if_pos (by omega)] at h9
    exact h9
  · have h9 := w σ eqx.rf
    rw [if_pos (by omega)] at h9
    exact h9
end PASKS
