/-! a day of the model once more: EVERY as it was told stays -/
def eqd (σ σ' : PS) : Prop := eqm dayL dayJ σ σ' ∧ σ' 97 3 = σ 97 3
theorem eqd.rf {σ : PS} : eqd σ σ := ⟨eqm.rf, rfl⟩
theorem eqd.tr {σ σ' σ'' : PS} (h : eqd σ σ') (h2 : eqd σ' σ'') : eqd σ σ'' := ⟨h.1.tr h2.1, h2.2.trans h.2⟩
theorem eqd.x {L' : List Int} {σ σ' σ'' : PS} (h : eqd σ σ') (h2 : eqx L' σ' σ'') (hs : ∀ a ∈ L', a ∈ dayL) (h88 : (88 : Int) ∉ L') (h97 : (97 : Int) ∉ L') : eqd σ σ'' := ⟨h.1.x h2 hs h88, (h2 97 h97 3).trans h.2⟩
theorem eqd.sa {σ σ' : PS} {a j v : Int} (h : eqd σ σ') (ha : a ∈ dayL) (hb : a ≠ 88) (hc : a ≠ 97 ∨ j ≠ 3) : eqd σ (su σ' a j v) := ⟨h.1.sa ha hb, by rw [su_ne (by omega)]; exact h.2⟩
theorem eqd.s8 {σ σ' : PS} {j v : Int} (h : eqd σ σ') (hj : j ∈ dayJ) : eqd σ (su σ' 88 j v) := ⟨h.1.s8 hj, by rw [su_ne (Or.inl (by decide))]; exact h.2⟩
section PDAYX
variable {g : PG} {d : Nat} {Q : Int → PS → Prop}
theorem s_changesE {p : Int} {R σ : PS} (hR : RowMx R σ) (ok : RSok R) (h0 : 0 ≤ p) (h1 : p < R 0 0) (hl : R 4 p = R 0 2) (w0 : R 9 6 + R 9 7 ≤ 0 → Q 0 σ) (w : 0 < R 9 6 + R 9 7 → ∀ σ', eqd σ σ' → RowMx (chgS R p) σ' → (∀ q, σ' 115 q = updF (σ 115) p 0 q) → Q 1 σ') : XX g true d P_X12_changes 0 [(2, 88), (0, p), (9, 0), (9, 0)] [] 136 σ 136 Q := by
  have k1 := ok.1
  obtain ⟨-, -, k3, -, -, -, k7, k8⟩ := ok
  have es : σ 89 p = R 1 p := (hR.2.1 p h0 (by omega)).1
  have hs := (k3 p h0 (by omega)).1
  have t6 : σ 97 6 = R 9 6 := hR.2.2.2 6 (by omega) (by omega) (by omega)
  have t7 : σ 97 7 = R 9 7 := hR.2.2.2 7 (by omega) (by omega) (by omega)
  have t4 : σ 97 4 = R 9 4 := hR.2.2.2 4 (by omega) (by omega) (by omega)
  have e8 : σ 96 (R 1 p) = R 8 (R 1 p) := (hR.2.2.1 (R 1 p) (by omega) (by omega)).2
  have e4 : σ 88 14 = R 0 4 := hR.1.2.2.2.2.1
  have e0 : σ 88 2 = R 0 0 := hR.1.1
  have fin : 0 < R 9 6 + R 9 7 → ∀ σ1, eqd σ σ1 → (∀ q, σ1 115 q = σ 115 q) → RowMx (payS R p) σ1 → XX g true d P_X12_changes 142 [(2, 88), (0, p), (9, 0), (9, 0)] [] 136 σ1 136 Q := by
    intro hpos σ1 hx1 h115 hR1
    have p5 : σ1 88 15 = R 0 5 := by
      rw [hR1.1.2.2.2.2.2.1]
      unfold payS
      split <;> simp [su]
    have p6 : σ1 94 p = R 6 p := by
      rw [(hR1.2.1 p h0 (by omega)).2.2.2.2.2]
      unfold payS
      split <;> simp [su]
    have p4 : payS R p 4 p = R 0 2 := by
      unfold payS
      split <;> simp [su, hl]
    refine B_X12_changes_142 ⟨⟨h0, by omega⟩, ?_⟩
    rw [p5, p6]
    refine w hpos _ ((((((hx1.s8 (by decide)).sa (by decide) (by decide) (by first | exact Or.inl (by decide) | exact Or.inr (by decide))).sa (by decide) (by decide) (by first | exact Or.inl (by decide) | exact Or.inr (by decide))).sa (by decide) (by decide) (by first | exact Or.inl (by decide) | exact Or.inr (by decide))).sa (by decide) (by decide) (by first | exact Or.inl (by decide) | exact Or.inr (by decide))).sa (by decide) (by decide) (by first | exact Or.inl (by decide) | exact Or.inr (by decide))) ?_ fun q => ?_
    · have hR2 := ((((hR1.sc (k := 5) (j := 15) (v := w32 (R 0 5 + 1)) (by omega)).ar (k := 6) (c := 94) (v := w32 (R 6 p + 1)) (v' := w32 (R 6 p + 1)) (p := p) (by omega)).ar (k := 2) (c := 90) (v := 0) (v' := 0) (p := p) (by omega)).ar (k := 3) (c := 91) (v := 0) (v' := 0) (p := p) (by omega)).ar (k := 5) (c := 93) (v := 0) (v' := 0) (p := p) (by omega)
      have e : chgS R p = su (su (su (su (su (payS R p) 0 5 (w32 (R 0 5 + 1))) 6 p (w32 (R 6 p + 1))) 2 p 0) 3 p 0) 5 p 0 := by
        unfold chgS
        rw [su_id]
        rw [su_ne (Or.inl (by decide)), su_ne (Or.inl (by decide)), su_ne (Or.inl (by decide)), su_ne (Or.inl (by decide)), su_ne (Or.inl (by decide))]
        exact p4
      rw [e]
      exact hR2.same (fun j _ _ => su_ne (Or.inl (by decide))) (fun a a1 a2 j => su_ne (Or.inl (by omega)))
    · have := h115 q
      unfold updF
      by_cases z : q = p
      · subst z; rw [if_pos rfl]; exact su_eq
      · rw [if_neg z, su_ne (Or.inr z), su_ne (Or.inl (by decide)), su_ne (Or.inl (by decide)), su_ne (Or.inl (by decide)), su_ne (Or.inl (by decide)), su_ne (Or.inl (by decide))]
        exact this
  have e1 : w32 (p + 1) = p + 1 := w32_of (by omega) (by omega)
  have e2 : w32 (R 0 0 - p) = R 0 0 - p := w32_of (by omega) (by omega)
  have lft : fromLeft R p → XX g true d P_X12_changes 56 [(2, 88), (0, p), (0, 1), (9, 0)] [] 136 σ 136 Q := by
    intro hl
    refine B_X12_changes_56 ⟨fun _ => B_X12_changes_72 ⟨fun h => by omega, fun _ => ?_⟩, fun h => by omega⟩
    refine B_X12_changes_84 ⟨by omega, by omega, by rw [es]; omega, fun h => by omega, fun _ => ?_⟩
    have q4 : su σ 97 6 (w32 (σ 97 6 - 1)) 97 4 = R 9 4 := by rw [su_ne (Or.inr (by omega))]; exact t4
    rw [q4, es, e4, e8, t6, e1, w32_of (x := R 9 6 - 1) (by have := hl.1; omega) (by omega), w32_as]
    refine fin (by have := hl.1; omega) _ ((eqd.rf.sa (by decide) (by decide) (by first | exact Or.inl (by decide) | exact Or.inr (by decide))).s8 (by decide)) (fun q => by rw [su_ne (Or.inl (by decide)), su_ne (Or.inl (by decide))]) ?_
    unfold payS
    rw [if_pos hl]
    exact (hR.ar (k := 9) (c := 97) (p := 6) (v := R 9 6 - 1) (v' := R 9 6 - 1) (by omega)).sc (k := 4) (j := 14) (by omega)
  have rgt : ¬ fromLeft R p → XX g true d P_X12_changes 56 [(2, 88), (0, p), (0, 0), (9, 0)] [] 136 σ 136 Q := by
    intro hl
    have h67 : R 9 7 = 0 → R 9 6 = 0 := by
      unfold fromLeft at hl
      omega
    refine B_X12_changes_56 ⟨fun h => by omega, fun _ => ⟨fun h7 => ?_, fun h7 => ?_⟩⟩
    · refine B_X12_changes_72 ⟨fun _ => ?_, fun h => by omega⟩
      refine B_X12_changes_84 ⟨by omega, by omega, by rw [es]; omega, fun _ => ?_, fun h => by omega⟩
      rw [t7] at h7
      have q4 : su σ 97 7 (w32 (σ 97 7 - 1)) 97 4 = R 9 4 := by rw [su_ne (Or.inr (by omega))]; exact t4
      rw [q4, es, e4, e8, t7, e0, e2, w32_of (x := R 9 7 - 1) (by omega) (by omega), w32_as]
      refine fin (by omega) _ ((eqd.rf.sa (by decide) (by decide) (by first | exact Or.inl (by decide) | exact Or.inr (by decide))).s8 (by decide)) (fun q => by rw [su_ne (Or.inl (by decide)), su_ne (Or.inl (by decide))]) ?_
      unfold payS
      rw [if_neg hl]
      exact (hR.ar (k := 9) (c := 97) (p := 7) (v := R 9 7 - 1) (v' := R 9 7 - 1) (by omega)).sc (k := 4) (j := 14) (by omega)
    · rw [t7] at h7
      exact w0 (by omega)
  refine B_X12_changes_0 ?_
  rw [e0, e1, e2, t6, t7]
  unfold fromLeft at lft rgt
  refine ⟨fun h => ⟨fun h2 => B_X12_changes_54 (rgt (by omega)), fun h2 => ⟨fun h3 => B_X12_changes_54 (rgt (by omega)), fun h3 => lft (by omega)⟩⟩, fun h => ⟨fun h2 => rgt (by omega), fun h2 => lft (by omega)⟩⟩
theorem s_heComesE {k : Int} {R Tr σ : PS} (hk : 1 ≤ k ∧ k < 3) (hrule : σ 88 50 = k) (hR : RowMx R σ) (ok : RSok R) (hT : TxtM k Tr σ) (okT : TxtOK oknR Tr) (w : ∀ σ', eqd σ σ' → RowMx (comeS Tr R) σ' → Q 0 σ') : XX g true (d + 4) P_X12_heComes 0 [(2, 88), (9, 0), (9, 0)] [] 136 σ 136 Q := by
  have k1 := ok.1
  have third : ∀ (n : Nat) (x : Int) (u : Int → Int) (R1 σ1 : PS), (R1 9 2 - x).toNat = n → 0 ≤ x → RSok R1 → R1 0 0 = R 0 0 → (∀ p, 0 ≤ p → p < R 0 0 → R1 4 p = R1 0 2) → RowMx R1 σ1 → eqd σ σ1 → (∀ p : Int, 0 ≤ p → p < R 0 0 → σ1 115 p = u p) → (∀ σ', eqd σ σ' → RowMx (chgs n u R1) σ' → Q 0 σ') → XX g true (d + 4) P_X12_heComes 73 [(2, 88), (0, x), (9, 0)] [] 136 σ1 136 Q := by
    intro n
    induction n with
    | zero =>
      intro x u R1 σ1 hn hx0 ok1 hn1 hl1 hR1 hx hu w
      have t2 : σ1 97 2 = R1 9 2 := hR1.2.2.2 2 (by omega) (by omega) (by omega)
      exact B_X12_heComes_73 ⟨fun _ => w _ hx hR1, fun h => by rw [t2] at h; omega⟩
    | succ n ih =>
      intro x u R1 σ1 hn hx0 ok1 hn1 hl1 hR1 hx hu w
      have t2 : σ1 97 2 = R1 9 2 := hR1.2.2.2 2 (by omega) (by omega) (by omega)
      refine E_okS fun hok => ?_
      have h32 := ar32 hok (a := 97) (n := 8) ⟨by decide, by decide, by decide, rfl⟩ (j := 2) (by omega)
      rw [t2] at h32
      rw [chgs_succ] at w
      refine B_X12_heComes_73 ⟨fun h => by rw [t2] at h; omega, fun h => ?_⟩
      have hb := bestS_lt (u := u) (k := (R1 0 0).toNat)
      refine s_bestUrge (n := (R1 0 0).toNat) (u := u) (by omega) (by rw [hR1.1.1]; omega) (fun p h0 h1 => hu p h0 (by omega)) ⟨fun h3 => ?_, fun h3 => ?_⟩
      · by_cases hz : R1 9 6 + R1 9 7 ≤ 0
        · rw [if_pos hz] at w
          exact w _ hx hR1
        · rw [if_neg hz, if_pos h3] at w
          exact w _ hx hR1
      · rw [if_neg h3] at w
        generalize hbb : bestS u (R1 0 0).toNat = b at *
        refine s_changesE hR1 ok1 (by omega) (by omega) (hl1 b (by omega) (by omega)) (fun hz => ⟨fun z => absurd rfl z, fun _ => ?_⟩) fun hz σ2 hx2 hR2 hu2 => ⟨fun _ => ?_, fun z => by omega⟩
        · rw [if_pos hz] at w
          exact w _ hx hR1
        · rw [if_neg (by omega)] at w
          obtain ⟨c1, c2, c3, c4⟩ := chgS_ok (p := b) ok1 (by omega) (by omega) hz
          rw [w32_of (x := x + 1) (by omega) (by have := h32.2; omega)]
          refine ih (x + 1) (updF u b 0) (chgS R1 b) σ2 (by rw [c4]; omega) (by omega) c1 (c2.trans hn1) (fun p p0 p1 => ?_) hR2 (hx.tr hx2) (fun p p0 p1 => ?_) w
          · rw [chgS_4, c3]
            have := hl1 p p0 p1
            split
            · rfl
            · exact this
          · rw [hu2 p]
            have := hu p p0 p1
            unfold updF
            split
            · rfl
            · exact this
  have second : ∀ (u : Int → Int) (n : Nat) (k : Int) (σ1 : PS), 0 ≤ k → k + n = R 0 0 → RowMx (looks k R) σ1 → eqd σ σ1 → (∀ p : Int, 0 ≤ p → p < R 0 0 → σ1 115 p = u p) → (∀ σ', eqd σ σ' → RowMx (chgs (R 9 2).toNat u (looks (R 0 0) R)) σ' → Q 0 σ') → XX g true (d + 4) P_X12_heComes 33 [(2, 88), (0, k), (9, 0)] [] 136 σ1 136 Q := by
    intro u n
    induction n with
    | zero =>
      intro k σ1 h0 hk hR1 hx hu w
      have e : k = R 0 0 := by omega
      subst e
      refine B_X12_heComes_33 ⟨fun _ => ?_, fun h => by rw [hR1.1.1] at h; unfold looks at h; simp at h⟩
      refine third (R 9 2).toNat 0 u (looks (R 0 0) R) σ1 (by simp [looks]) (by omega) (looks_ok ok) (by simp [looks]) (fun p p0 p1 => ?_) hR1 hx hu w
      simp [looks]
      omega
    | succ n ih =>
      intro k σ1 h0 hk hR1 hx hu w
      have e0 : σ1 88 2 = R 0 0 := by rw [hR1.1.1]; simp [looks]
      have e12 : σ1 88 12 = R 0 2 := by rw [hR1.1.2.2.1]; simp [looks]
      have k2 := ok.2.1
      have e91 : σ1 91 k = looks k R 3 k := (hR1.2.1 k h0 (by omega)).2.2.1
      have el : looks k R 0 2 = R 0 2 := by simp [looks]
      refine B_X12_heComes_33 ⟨fun h => by rw [e0] at h; omega, fun h => ⟨by omega, ?_⟩⟩
      rw [e12, e91, w32_of (x := k + 1) (by omega) (by omega), w32_of (x := R 0 2 + 1) (by omega) (by omega)]
      have hR2 : RowMx (su (su (looks k R) 4 k (R 0 2)) 5 k (looks k R 3 k)) (su (su σ1 92 k (R 0 2 + 1)) 93 k (looks k R 3 k)) := (hR1.ar (k := 4) (c := 92) (v := R 0 2) (v' := R 0 2 + 1) (p := k) (by omega)).ar (k := 5) (c := 93) (by omega)
      have el2 := looks_succ h0 R
      rw [el] at el2
      rw [el2] at hR2
      refine ih (k + 1) _ (by omega) (by omega) hR2 ((hx.sa (by decide) (by decide) (by first | exact Or.inl (by decide) | exact Or.inr (by decide))).sa (by decide) (by decide) (by first | exact Or.inl (by decide) | exact Or.inr (by decide))) (fun p p0 p1 => ?_) w
      rw [su_ne (Or.inl (by decide)), su_ne (Or.inl (by decide))]
      exact hu p p0 p1
  have first : ∀ (n : Nat) (x : Int) (σ1 : PS), 0 ≤ x → x + n = R 0 0 → eqx [111, 112, 115] σ σ1 → (∀ p : Int, 0 ≤ p → p < x → σ1 115 p = urgeS Tr R p) → XX g true (d + 4) P_X12_heComes 2 [(2, 88), (0, x), (9, 0)] [] 136 σ1 136 Q := by
    intro n
    induction n with
    | zero =>
      intro x σ1 h0 hkk hx hu
      have hR1 : RowMx R σ1 := hR.x hx fun a a1 a2 => by simp only [List.mem_cons, List.not_mem_nil, or_false]; omega
      have e : x = R 0 0 := by omega
      subst e
      refine B_X12_heComes_2 ⟨fun _ => ?_, fun h => by rw [hR1.1.1] at h; omega⟩
      exact second (fun p => urgeS Tr R p) (R 0 0).toNat 0 σ1 (by omega) (by omega) (by rw [looks_0]; exact hR1) (eqd.rf.x hx (by decide) (by decide) (by decide)) hu w
    | succ n ih =>
      intro x σ1 h0 hkk hx hu
      have hR1 : RowMx R σ1 := hR.x hx fun a a1 a2 => by simp only [List.mem_cons, List.not_mem_nil, or_false]; omega
      have hT1 : TxtM k Tr σ1 := hT.x hx fun a a1 a2 => by simp only [List.mem_cons, List.not_mem_nil, or_false]; omega
      have e50 : σ1 88 50 = k := by rw [hx 88 (by decide)]; exact hrule
      refine B_X12_heComes_2 ⟨fun h => by rw [hR1.1.1] at h; omega, fun h => ?_⟩
      rw [e50]
      refine s_urgeOf hk hR1 ok hT1 okT h0 (by omega) fun σ2 hx2 => ⟨by omega, ?_⟩
      rw [w32_of (by omega) (by omega)]
      refine ih (x + 1) _ (by omega) (by omega) ((hx.tr (hx2.mono (by decide))).su (by decide)) fun p p0 p1 => ?_
      by_cases e : p = x
      · subst e; exact su_eq
      · rw [su_ne (Or.inr e), hx2 115 (by decide)]
        exact hu p p0 (by omega)
  exact B_X12_heComes_0 (first (R 0 0).toNat 0 σ (by omega) (by omega) eqx.rf fun p p0 p1 => by omega)
theorem s_goesByE {k : Int} {E : Int → Int} {R T Tr σ : PS} (hk : 1 ≤ k ∧ k < 3) (hrule : σ 88 50 = k) (hev : σ 88 51 = R 9 3) (hR : RowMx R σ) (ok : RSok R) (hd : R 0 2 < 20000) (hT : TxtM 0 T σ) (okT : TxtOK oknL T) (hTr : TxtM k Tr σ) (okTr : TxtOK oknR Tr) (hE : BrkM E σ) (w : ∀ σ', eqd σ σ' → RowMx (dayS T Tr E R) σ' → Q 0 σ') : XX g true (d + 5) P_X12_goesBy 0 [(2, 88), (9, 0)] [] 136 σ 136 Q := by
  have k1 := ok.1
  have hur : ∀ p, 0 ≤ goesS T R p (besS R p) 0 := fun p => (goesS_01 T R p (besS R p) 0).1
  -- behind the harm
  have last : ∀ σ1, eqd σ σ1 → RowMx (wornS T E R) σ1 → (σ1 88 51 ≠ 0 ∧ ((irem (σ1 88 12) (σ1 88 51) ≠ 0 → Q 0 σ1) ∧ (irem (σ1 88 12) (σ1 88 51) = 0 → XX g true (d + 4) P_X12_heComes 0 [(2, 88), (9, 0), (9, 0)] [] 136 σ1 136 (fun _ σ4 => Q 0 σ4)))) := by
    intro σ1 hx hR1
    obtain ⟨okw, w1, w2⟩ := wornS_ok (T := T) (W := E) ok hd
    have e51 : σ1 88 51 = R 9 3 := by rw [hx.1.2 51 (by decide)]; exact hev
    have w93 : wornS T E R 9 3 = R 9 3 := by
      have h2 : ∀ (n : Nat) (p : Int) (R1 : PS), wears (fun p => goesS T R p (besS R p) 0) n p R1 9 3 = R1 9 3 := by
        intro n
        induction n with
        | zero => intro p R1; rfl
        | succ n ih =>
          intro p R1
          rw [wears_succ, ih]
          unfold wearS
          split
          · rfl
          split
          · simp [su]
          split <;> simp [su]
      unfold wornS harmS
      split
      · simp [su, nextDay, h2]
      · simp [su, nextDay, h2]
    have e12 : σ1 88 12 = wornS T E R 0 2 := hR1.1.2.2.1
    have h3 := ok.2.2.2.2.2.1
    rw [e51, e12]
    unfold dayS at w
    rw [w93] at w
    refine ⟨by omega, fun hn => ?_, fun hn => ?_⟩
    · rw [if_neg hn] at w
      exact w _ hx hR1
    · rw [if_pos hn] at w
      refine s_heComesE hk (by rw [hx.1.2 50 (by decide)]; exact hrule) hR1 okw (hTr.m hx.1) okTr fun σ2 hx2 hR2 => ?_
      exact w _ (hx.tr hx2) hR2
  -- the wearing
  have wear : ∀ (n : Nat) (p : Int) (R1 σ1 : PS), 0 ≤ p → p + n = R 0 0 → RSok R1 → R1 0 0 = R 0 0 → R1 0 2 = R 0 2 → RowMx R1 σ1 → eqd σ σ1 → (∀ p : Int, 0 ≤ p → p < R 0 0 → σ1 114 p = goesS T R p (besS R p) 0) → wears (fun p => goesS T R p (besS R p) 0) n p R1 = wears (fun p => goesS T R p (besS R p) 0) (R 0 0).toNat 0 R → XX g true (d + 5) P_X12_goesBy 29 [(2, 88), (0, p)] [] 136 σ1 136 Q := by
    intro n
    induction n with
    | zero =>
      intro p R1 σ1 h0 hp ok1 hn1 hd1 hR1 hx hu hw
      have e0 : σ1 88 2 = R 0 0 := by rw [hR1.1.1]; exact hn1
      refine B_X12_goesBy_29 ⟨fun _ => ?_, fun h => by rw [e0] at h; omega⟩
      have hw1 : wears (fun p => goesS T R p (besS R p) 0) (R 0 0).toNat 0 R = R1 := hw.symm
      have e12 : σ1 88 12 = R1 0 2 := hR1.1.2.2.1
      have hR2 : RowMx (nextDay R1) (su σ1 88 12 (w32 (σ1 88 12 + 1))) := by
        rw [e12]
        exact hR1.sc (k := 2) (j := 12) (by omega)
      have hx2 : eqd σ (su σ1 88 12 (w32 (σ1 88 12 + 1))) := hx.s8 (by decide)
      generalize su σ1 88 12 (w32 (σ1 88 12 + 1)) = σ2 at hR2 hx2
      have okn := (nextDay_ok ok1 (by omega)).1
      have en0 : nextDay R1 0 0 = R 0 0 := by unfold nextDay; rw [su_ne (Or.inr (by decide))]; exact hn1
      have e91 : ∀ q : Nat, q < (R 0 0).toNat → σ2 91 q = nextDay R1 3 q := fun q hq => (hR2.2.1 q (by omega) (by omega)).2.2.1
      refine s_failsNow (E := E) (n := (R 0 0).toNat) (hE.m hx2.1) (by rw [hR2.1.1, en0]; omega) (by omega) (fun q hq => ?_) ?_
      · rw [e91 q hq]
        exact (okn.2.2.1 q (by omega) (by omega)).2.1
      have hx3 : eqd σ (wrS σ2 113 (R 0 0).toNat (fun j => σ2 91 j)) := hx2.x (L' := [113]) (fun a ha j => wrS_ne (by simpa using ha)) (by decide) (by decide) (by decide)
      have hR3 : RowMx (nextDay R1) (wrS σ2 113 (R 0 0).toNat (fun j => σ2 91 j)) := hR2.same (fun j _ _ => wrS_ne (by decide)) (fun a a1 a2 j => wrS_ne (by omega))
      generalize wrS σ2 113 (R 0 0).toNat (fun j => σ2 91 j) = σ3 at hx3 hR3
      have hf : failsB E (fun p => σ2 91 p) (R 0 0).toNat ↔ failS E (nextDay R1) := by
        unfold failS
        rw [en0]
        exact failsB_congr e91
      have hworn : wornS T E R = harmS E (nextDay R1) := by unfold wornS; rw [hw1]
      rw [hworn] at last
      unfold harmS at last
      refine ⟨fun hz => ?_, fun hz => ?_⟩
      · have hnf : ¬ failS E (nextDay R1) := fun z => by rw [if_pos (hf.mpr z)] at hz; exact absurd hz (by decide)
        rw [if_neg hnf] at last
        exact last σ3 hx3 hR3
      · have hyf : failS E (nextDay R1) := Classical.byContradiction fun z => hz (by rw [if_neg (fun z2 => z (hf.mp z2))])
        rw [if_pos hyf] at last
        have e13 : σ3 88 13 = nextDay R1 0 3 := hR3.1.2.2.2.1
        have e14 : σ3 88 14 = nextDay R1 0 4 := hR3.1.2.2.2.2.1
        have e5 : σ3 97 5 = nextDay R1 9 5 := hR3.2.2.2 5 (by omega) (by omega) (by omega)
        rw [e13, e14, e5]
        exact last _ ((hx3.s8 (by decide)).s8 (by decide)) ((hR3.sc (k := 3) (j := 13) (by omega)).sc (k := 4) (j := 14) (by omega))
    | succ n ih =>
      intro p R1 σ1 h0 hp ok1 hn1 hd1 hR1 hx hu hw
      have e0 : σ1 88 2 = R 0 0 := by rw [hR1.1.1]; exact hn1
      have e91 : σ1 91 p = R1 3 p := (hR1.2.1 p h0 (by omega)).2.2.1
      rw [wears_succ] at hw
      obtain ⟨v1, v2, v3⟩ := wearS_ok (u := fun p => goesS T R p (besS R p) 0) ok1 h0 (by omega)
      have next := fun σ2 hR2 hx2 hu2 => ih (p + 1) (wearS (fun p => goesS T R p (besS R p) 0) p R1) σ2 (by omega) (by omega) v1 (v2.trans hn1) (v3.trans hd1) hR2 hx2 hu2 hw
      clear ih
      refine B_X12_goesBy_29 ⟨fun h => by rw [e0] at h; omega, fun h => ⟨by omega, ?_⟩⟩
      rw [e91, w32_of (x := p + 1) (by omega) (by omega)]
      unfold wearS at next
      refine ⟨fun hz => B_X12_draw_0 ⟨by decide, ?_⟩, fun hz => ?_⟩
      · have e1 : σ1 88 1 = R1 0 1 := hR1.1.2.1
        rw [if_neg hz] at next
        rw [e1]
        generalize w32 ((w32 (1664525 * (R1 0 1))) + 1013904223) = v at *
        have hR2 : RowMx (su R1 0 1 v) (su σ1 88 1 v) := hR1.sc (by omega)
        have hx2 : eqd σ (su σ1 88 1 v) := hx.s8 (by decide)
        have e114 : su σ1 88 1 v 114 p = goesS T R p (besS R p) 0 := by rw [su_ne (Or.inl (by decide))]; exact hu p h0 (by omega)
        have e90 : su σ1 88 1 v 90 p = R1 2 p := by rw [su_ne (Or.inl (by decide))]; exact (hR1.2.1 p h0 (by omega)).2.1
        have e16 : su σ1 88 1 v 88 16 = R1 0 6 := by rw [su_ne (Or.inr (by decide))]; exact hR1.1.2.2.2.2.2.2.1
        rw [e114, e90, e16]
        simp only at next
        have hR3 : RowMx (su (su R1 0 1 v) 2 p (w32 (R1 2 p + 1))) (su (su σ1 88 1 v) 90 p (w32 (R1 2 p + 1))) := hR2.ar (by omega)
        have hx3 : eqd σ (su (su σ1 88 1 v) 90 p (w32 (R1 2 p + 1))) := hx2.sa (by decide) (by decide) (by first | exact Or.inl (by decide) | exact Or.inr (by decide))
        refine ⟨fun hg => ⟨fun h2 => ?_, fun h2 => ?_⟩, fun hg => ?_⟩
        · rw [if_neg (by omega), if_neg (by omega)] at next
          refine next _ hR3 hx3 fun q q0 q1 => ?_
          rw [su_ne (Or.inl (by decide)), su_ne (Or.inl (by decide))]
          exact hu q q0 q1
        · rw [if_neg (by omega), if_pos h2] at next
          refine next _ ((hR3.sc (k := 6) (j := 16) (by omega)).sc (k := 7) (j := 17) (by omega)) ((hx3.s8 (by decide)).s8 (by decide)) fun q q0 q1 => ?_
          rw [su_ne (Or.inl (by decide)), su_ne (Or.inl (by decide)), su_ne (Or.inl (by decide)), su_ne (Or.inl (by decide))]
          exact hu q q0 q1
        · rw [if_pos hg] at next
          refine next _ (hR2.ar (by omega)) (hx2.sa (by decide) (by decide) (by first | exact Or.inl (by decide) | exact Or.inr (by decide))) fun q q0 q1 => ?_
          rw [su_ne (Or.inl (by decide)), su_ne (Or.inl (by decide))]
          exact hu q q0 q1
      · rw [if_pos hz] at next
        exact next σ1 hR1 hx hu
  -- the chances
  have first : ∀ (n : Nat) (p : Int) (σ1 : PS), 0 ≤ p → p + n = R 0 0 → eqx [111, 112, 114] σ σ1 → (∀ q : Int, 0 ≤ q → q < p → σ1 114 q = goesS T R q (besS R q) 0) → XX g true (d + 5) P_X12_goesBy 2 [(2, 88), (0, p)] [] 136 σ1 136 Q := by
    intro n
    induction n with
    | zero =>
      intro p σ1 h0 hk hx hu
      have hR1 : RowMx R σ1 := hR.x hx fun a a1 a2 => by simp only [List.mem_cons, List.not_mem_nil, or_false]; omega
      have e : p = R 0 0 := by omega
      subst e
      refine B_X12_goesBy_2 ⟨fun _ => ?_, fun h => by rw [hR1.1.1] at h; omega⟩
      exact wear (R 0 0).toNat 0 R σ1 (by omega) (by omega) ok rfl rfl hR1 (eqd.rf.x hx (by decide) (by decide) (by decide)) hu rfl
    | succ n ih =>
      intro p σ1 h0 hk hx hu
      have hR1 : RowMx R σ1 := hR.x hx fun a a1 a2 => by simp only [List.mem_cons, List.not_mem_nil, or_false]; omega
      have hT1 : TxtM 0 T σ1 := hT.x hx fun a a1 a2 => by simp only [List.mem_cons, List.not_mem_nil, or_false]; omega
      refine B_X12_goesBy_2 ⟨fun h => by rw [hR1.1.1] at h; omega, fun h => ?_⟩
      refine s_goesNow hR1 ok hT1 okT h0 (by omega) fun σ2 hx2 => ⟨by omega, ?_⟩
      rw [w32_of (by omega) (by omega)]
      refine ih (p + 1) _ (by omega) (by omega) ((hx.tr (hx2.mono (by decide))).su (by decide)) fun q q0 q1 => ?_
      by_cases e : q = p
      · subst e; exact su_eq
      · rw [su_ne (Or.inr e), hx2 114 (by decide)]
        exact hu q q0 (by omega)
  exact B_X12_goesBy_0 (first (R 0 0).toNat 0 σ (by omega) (by omega) eqx.rf fun p p0 p1 => by omega)
end PDAYX
