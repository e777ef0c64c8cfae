/-! what the model puts aside -/
def asP (R : PS) (p o : Int) : Int := if o = 0 then R 1 p else if o = 1 then R 2 p else if o = 2 then R 3 p else if o = 3 then R 4 p + 1 else if o = 4 then R 5 p else R 6 p
def asG (R : PS) (k : Int) : Int := if k < 8 then (if k = 0 then R 0 1 else if k = 1 then R 0 0 else R 0 k) else if k < 16 then R 9 (k - 8) else asP R ((k - 16) / 6) ((k - 16) % 6)
theorem asG_9 {R : PS} {k : Int} (h0 : 0 ≤ k) (h1 : k < 8) : asG R (8 + k) = R 9 k := by
  unfold asG
  rw [if_neg (by omega), if_pos (by omega), show 8 + k - 8 = k by omega]
theorem asG_p {R : PS} {p o : Int} (h0 : 0 ≤ p) (h1 : 0 ≤ o) (h2 : o < 6) : asG R (16 + 6 * p + o) = asP R p o := by
  unfold asG
  rw [if_neg (by omega), if_neg (by omega), show (16 + 6 * p + o - 16) / 6 = p by omega, show (16 + 6 * p + o - 16) % 6 = o by omega]
def AsP (σ0 : PS) (G : Int → Int) (i : Int) (σ1 : PS) : Prop := eqm [133] [69, 70] σ0 σ1 ∧ σ1 88 69 = 1 ∧ σ1 88 70 = i ∧ ∀ k, 0 ≤ k → k < i → σ1 133 k = G k
theorem RowMx.m {R σ σ' : PS} {L J : List Int} (h : RowMx R σ) (hx : eqm L J σ σ') (hL : ∀ a, 89 ≤ a → a ≤ 97 → a ∉ L) (hJ : ∀ j, (j = 1 ∨ j = 2 ∨ (12 ≤ j ∧ j ≤ 17)) → j ∉ J) : RowMx R σ' := h.same8 (fun j hj => hx.2 j (hJ j hj)) (fun a a1 a2 j => hx.1 a (hL a a1 a2) (by omega) j)
theorem RowM.m {R σ σ' : PS} {L J : List Int} (h : RowM R σ) (hx : eqm L J σ σ') (hL : ∀ a, 89 ≤ a → a ≤ 97 → a ∉ L) (hJ : ∀ j, (j = 1 ∨ j = 2 ∨ (12 ≤ j ∧ j ≤ 17)) → j ∉ J) : RowM R σ' := ⟨h.1.m hx hL hJ, by rw [hx.1 97 (hL 97 (by decide) (by decide)) (by decide)]; exact h.2⟩
theorem TxtM.mm {k : Int} {T σ σ' : PS} {L J : List Int} (h : TxtM k T σ) (hx : eqm L J σ σ') (hL : ∀ a, 100 ≤ a → a ≤ 105 → a ∉ L) : TxtM k T σ' := h.same fun a a1 a2 j => hx.1 a (hL a a1 a2) (by omega) j
theorem BrkM.mm {E : Int → Int} {σ σ' : PS} {L J : List Int} (h : BrkM E σ) (hx : eqm L J σ σ') (hJ : (40 : Int) ∉ J) (hL : ∀ a, 107 ≤ a → a ≤ 110 → a ∉ L) : BrkM E σ' :=
  BrkM_same h (hx.2 40 hJ) (fun j => hx.1 107 (hL 107 (by decide) (by decide)) (by decide) j) (fun j => hx.1 108 (hL 108 (by decide) (by decide)) (by decide) j) (fun j => hx.1 109 (hL 109 (by decide) (by decide)) (by decide) j) (fun j => hx.1 110 (hL 110 (by decide) (by decide)) (by decide) j)
abbrev asL : List Int := [89, 90, 91, 92, 93, 94, 97]
abbrev asJ : List Int := [1, 2, 12, 13, 14, 15, 16, 17, 69, 70]
section PASIDE
variable {g : PG} {d : Nat} {Q : Int → PS → Prop}
theorem s_putAsP {σ0 σ1 : PS} {G : Int → Int} {i v : Int} (h : AsP σ0 G i σ1) (hv : G i = v) (h0 : 0 ≤ i) (h1 : i < 400) (w : ∀ σ2, AsP σ0 G (i + 1) σ2 → Q v σ2) : XX g true d P_X12_putAside 0 [(2, 88), (0, v)] [] 136 σ1 136 Q := by
  obtain ⟨a1, a2, a3, a4⟩ := h
  have e : w32 (σ1 88 70 + 1) = i + 1 := by rw [a3, w32_of (by omega) (by omega)]
  have e2 : w32 (i + 1 - 1) = i := by rw [w32_of (by omega) (by omega)]; omega
  refine B_X12_putAside_0 ⟨fun _ => ?_, fun h => by omega⟩
  rw [e, e2]
  refine ⟨⟨h0, h1⟩, w _ ⟨(a1.s8 (by decide)).sa (by decide) (by decide), ?_, ?_, fun k k0 k1 => ?_⟩⟩
  · rw [su_ne (Or.inl (by decide)), su_ne (Or.inr (by decide))]; exact a2
  · rw [su_ne (Or.inl (by decide)), su_eq]
  · by_cases z : k = i
    · rw [z, su_eq, hv]
    · rw [su_ne (Or.inr z), su_ne (Or.inl (by decide))]
      exact a4 k k0 (by omega)
theorem s_putAsG {σ1 : PS} {i v x : Int} (h69 : σ1 88 69 = 0) (hi : σ1 88 70 = i) (hv : σ1 133 i = v) (h0 : 0 ≤ i) (h1 : i < 400) (w : Q v (su σ1 88 70 (i + 1))) : XX g true d P_X12_putAside 0 [(2, 88), (0, x)] [] 136 σ1 136 Q := by
  have e : w32 (σ1 88 70 + 1) = i + 1 := by rw [hi, w32_of (by omega) (by omega)]
  have e2 : w32 (i + 1 - 1) = i := by rw [w32_of (by omega) (by omega)]; omega
  refine B_X12_putAside_0 ⟨fun h => by omega, fun _ => ?_⟩
  rw [e, e2, hv]
  exact ⟨⟨h0, h1⟩, w⟩
theorem s_asidesPut {R σ : PS} (hR : RowM R σ) (w : ∀ σ', eqm [133] [69, 70] σ σ' → σ' 88 69 = 1 → (∀ k, 0 ≤ k → k < 376 → σ' 133 k = asG R k) → Q 0 σ') : XX g true (d + 1) P_X12_asides 0 [(2, 88), (0, 1), (9, 0)] [] 136 σ 136 Q := by
  have o8 : ∀ {i : Int} {σ1 : PS}, AsP σ (asG R) i σ1 → ∀ j, j ≠ 69 → j ≠ 70 → σ1 88 j = σ 88 j := fun h j h1 h2 => h.1.2 j (by simp only [List.mem_cons, List.not_mem_nil, or_false]; omega)
  have o9 : ∀ {i : Int} {σ1 : PS}, AsP σ (asG R) i σ1 → ∀ a j, a ≠ 133 → a ≠ 88 → σ1 a j = σ a j := fun h a j h1 h2 => h.1.1 a (by simp only [List.mem_cons, List.not_mem_nil, or_false]; omega) h2 j
  obtain ⟨⟨⟨m0, m1, m2, m3, m4, m5, m6, m7⟩, mp, -, ms⟩, me⟩ := hR
  have ms' : ∀ k, 0 ≤ k → k < 8 → σ 97 k = R 9 k := fun k h0 h1 => by
    by_cases z : k = 3
    · rw [z]; exact me
    · exact ms k h0 h1 z
  clear ms me
  have places : ∀ (n : Nat) (p : Int) (σ1 : PS), 0 ≤ p → p + n = 60 → AsP σ (asG R) (16 + 6 * p) σ1 → XX g true (d + 1) P_X12_asides 138 [(2, 88), (9, 0), (0, p)] [] 136 σ1 136 Q := by
    intro n
    induction n with
    | zero =>
      intro p σ1 hp hn h
      refine B_X12_asides_138 ⟨fun _ => w σ1 h.1 h.2.1 fun k k0 k1 => h.2.2.2 k k0 (by omega), fun z => by omega⟩
    | succ n ih =>
      intro p σ1 hp hn h
      obtain ⟨p1, p2, p3, p4, p5, p6⟩ := mp p hp (by omega)
      refine B_X12_asides_138 ⟨fun z => by omega, fun _ => ⟨by omega, ?_⟩⟩
      refine s_putAsP h (by have e := asG_p (R := R) (o := 0) hp (by decide) (by decide); rw [Int.add_zero] at e; rw [e, o9 h 89 p (by decide) (by decide), p1]; rfl) (by omega) (by omega) fun σ2 h2 => ?_
      rw [su_id (by rw [o9 h2 89 p (by decide) (by decide), o9 h 89 p (by decide) (by decide)])]
      refine s_putAsP h2 (by rw [asG_p hp (by decide) (by decide), o9 h2 90 p (by decide) (by decide), p2]; rfl) (by omega) (by omega) fun σ3 h3 => ?_
      rw [su_id (by rw [o9 h3 90 p (by decide) (by decide), o9 h2 90 p (by decide) (by decide)])]
      rw [show 16 + 6 * p + 1 + 1 = 16 + 6 * p + 2 by omega] at h3
      refine s_putAsP h3 (by rw [asG_p hp (by decide) (by decide), o9 h3 91 p (by decide) (by decide), p3]; rfl) (by omega) (by omega) fun σ4 h4 => ?_
      rw [su_id (by rw [o9 h4 91 p (by decide) (by decide), o9 h3 91 p (by decide) (by decide)])]
      rw [show 16 + 6 * p + 2 + 1 = 16 + 6 * p + 3 by omega] at h4
      refine s_putAsP h4 (by rw [asG_p hp (by decide) (by decide), o9 h4 92 p (by decide) (by decide), p4]; rfl) (by omega) (by omega) fun σ5 h5 => ?_
      rw [su_id (by rw [o9 h5 92 p (by decide) (by decide), o9 h4 92 p (by decide) (by decide)])]
      rw [show 16 + 6 * p + 3 + 1 = 16 + 6 * p + 4 by omega] at h5
      refine s_putAsP h5 (by rw [asG_p hp (by decide) (by decide), o9 h5 93 p (by decide) (by decide), p5]; rfl) (by omega) (by omega) fun σ6 h6 => ?_
      rw [su_id (by rw [o9 h6 93 p (by decide) (by decide), o9 h5 93 p (by decide) (by decide)])]
      rw [show 16 + 6 * p + 4 + 1 = 16 + 6 * p + 5 by omega] at h6
      refine s_putAsP h6 (by rw [asG_p hp (by decide) (by decide), o9 h6 94 p (by decide) (by decide), p6]; rfl) (by omega) (by omega) fun σ7 h7 => ?_
      rw [su_id (by rw [o9 h7 94 p (by decide) (by decide), o9 h6 94 p (by decide) (by decide)])]
      rw [show 16 + 6 * p + 5 + 1 = 16 + 6 * (p + 1) by omega] at h7
      rw [w32_of (by omega) (by omega)]
      exact ih (p + 1) σ7 (by omega) (by omega) h7
  have sets : ∀ (n : Nat) (k : Int) (σ1 : PS), 0 ≤ k → k + n = 8 → AsP σ (asG R) (8 + k) σ1 → XX g true (d + 1) P_X12_asides 108 [(2, 88), (9, 0), (0, k)] [] 136 σ1 136 Q := by
    intro n
    induction n with
    | zero =>
      intro k σ1 hk hn h
      have e : k = 8 := by omega
      subst e
      exact B_X12_asides_108 ⟨fun _ => places 60 0 σ1 (by decide) (by decide) h, fun z => by omega⟩
    | succ n ih =>
      intro k σ1 hk hn h
      refine B_X12_asides_108 ⟨fun z => by omega, fun _ => ⟨by omega, ?_⟩⟩
      refine s_putAsP h (by rw [asG_9 hk (by omega), o9 h 97 k (by decide) (by decide), ms' k hk (by omega)]) (by omega) (by omega) fun σ2 h2 => ?_
      rw [su_id (by rw [o9 h2 97 k (by decide) (by decide), o9 h 97 k (by decide) (by decide)]), w32_of (by omega) (by omega)]
      rw [show 8 + k + 1 = 8 + (k + 1) by omega] at h2
      exact ih (k + 1) σ2 (by omega) (by omega) h2
  have h : AsP σ (asG R) 0 (su (su σ 88 69 1) 88 70 0) := ⟨(eqm.rf.s8 (by decide)).s8 (by decide), by rw [su_ne (Or.inr (by decide)), su_eq], su_eq, fun k k0 k1 => by omega⟩
  refine B_X12_asides_0 ⟨Or.inr rfl, ?_⟩
  refine s_putAsP h (by rw [m1]; rfl) (by decide) (by decide) fun σ1 h1 => ?_
  rw [su_id (o8 h1 1 (by decide) (by decide))]
  refine s_putAsP h1 (by rw [o8 h1 2 (by decide) (by decide), m0]; rfl) (by decide) (by decide) fun σ2 h2 => ?_
  rw [su_id (by rw [o8 h2 2 (by decide) (by decide), o8 h1 2 (by decide) (by decide)])]
  refine s_putAsP h2 (by rw [o8 h2 12 (by decide) (by decide), m2]; rfl) (by decide) (by decide) fun σ3 h3 => ?_
  rw [su_id (by rw [o8 h3 12 (by decide) (by decide), o8 h2 12 (by decide) (by decide)])]
  refine s_putAsP h3 (by rw [o8 h3 13 (by decide) (by decide), m3]; rfl) (by decide) (by decide) fun σ4 h4 => ?_
  rw [su_id (by rw [o8 h4 13 (by decide) (by decide), o8 h3 13 (by decide) (by decide)])]
  refine s_putAsP h4 (by rw [o8 h4 14 (by decide) (by decide), m4]; rfl) (by decide) (by decide) fun σ5 h5 => ?_
  rw [su_id (by rw [o8 h5 14 (by decide) (by decide), o8 h4 14 (by decide) (by decide)])]
  refine s_putAsP h5 (by rw [o8 h5 15 (by decide) (by decide), m5]; rfl) (by decide) (by decide) fun σ6 h6 => ?_
  rw [su_id (by rw [o8 h6 15 (by decide) (by decide), o8 h5 15 (by decide) (by decide)])]
  refine s_putAsP h6 (by rw [o8 h6 16 (by decide) (by decide), m6]; rfl) (by decide) (by decide) fun σ7 h7 => ?_
  rw [su_id (by rw [o8 h7 16 (by decide) (by decide), o8 h6 16 (by decide) (by decide)])]
  refine s_putAsP h7 (by rw [o8 h7 17 (by decide) (by decide), m7]; rfl) (by decide) (by decide) fun σ8 h8 => ?_
  rw [su_id (by rw [o8 h8 17 (by decide) (by decide), o8 h7 17 (by decide) (by decide)])]
  exact sets 8 0 σ8 (by decide) (by decide) h8
theorem s_asidesGet {R σ : PS} (hG : ∀ k, 0 ≤ k → k < 376 → σ 133 k = asG R k) (h7 : ∀ k, 0 ≤ k → k < 6 → σ 95 k = R 7 k ∧ σ 96 k = R 8 k) (w : ∀ σ', eqm asL asJ σ σ' → σ' 88 69 = 0 → RowM R σ' → Q 0 σ') : XX g true (d + 1) P_X12_asides 0 [(2, 88), (0, 0), (9, 0)] [] 136 σ 136 Q := by
  -- the places
  have places : ∀ (σ8 : PS), eqm asL asJ σ σ8 → σ8 88 69 = 0 → (σ8 88 2 = R 0 0 ∧ σ8 88 1 = R 0 1 ∧ σ8 88 12 = R 0 2 ∧ σ8 88 13 = R 0 3 ∧ σ8 88 14 = R 0 4 ∧ σ8 88 15 = R 0 5 ∧ σ8 88 16 = R 0 6 ∧ σ8 88 17 = R 0 7) → ∀ (σ9 : PS), eqm [97] [70] σ8 σ9 → (∀ k, 0 ≤ k → k < 8 → σ9 97 k = R 9 k) → ∀ (n : Nat) (p : Int) (σ1 : PS), 0 ≤ p → p + n = 60 → σ1 88 70 = 16 + 6 * p → eqm [89, 90, 91, 92, 93, 94] [70] σ9 σ1 → (∀ q, 0 ≤ q → q < p → σ1 89 q = R 1 q ∧ σ1 90 q = R 2 q ∧ σ1 91 q = R 3 q ∧ σ1 92 q = R 4 q + 1 ∧ σ1 93 q = R 5 q ∧ σ1 94 q = R 6 q) → XX g true (d + 1) P_X12_asides 138 [(2, 88), (9, 0), (0, p)] [] 136 σ1 136 Q := by
    intro σ8 hx8 h69 hsc σ9 hx9 hset n
    induction n with
    | zero =>
      intro p σ1 hp hn hi hx hpl
      have hx81 : eqm [89, 90, 91, 92, 93, 94, 97] [70] σ8 σ1 := (hx9.mono (by decide) (by decide)).tr (hx.mono (by decide) (by decide))
      refine B_X12_asides_138 ⟨fun _ => w σ1 (hx8.tr (hx81.mono (by decide) (by decide))) ((hx81.2 69 (by decide)).trans h69) ⟨⟨?_, fun q q0 q1 => hpl q q0 (by omega), fun k k0 k1 => ?_, fun k k0 k1 _ => ?_⟩, ?_⟩, fun z => by omega⟩
      · rw [hx81.2 2 (by decide), hx81.2 1 (by decide), hx81.2 12 (by decide), hx81.2 13 (by decide), hx81.2 14 (by decide), hx81.2 15 (by decide), hx81.2 16 (by decide), hx81.2 17 (by decide)]
        exact hsc
      · rw [hx81.1 95 (by decide) (by decide), hx81.1 96 (by decide) (by decide), hx8.1 95 (by decide) (by decide), hx8.1 96 (by decide) (by decide)]
        exact h7 k k0 k1
      · rw [hx.1 97 (by decide) (by decide)]
        exact hset k k0 k1
      · rw [hx.1 97 (by decide) (by decide)]
        exact hset 3 (by decide) (by decide)
    | succ n ih =>
      intro p σ1 hp hn hi hx hpl
      have e69 : σ1 88 69 = 0 := by rw [hx.2 69 (by decide), hx9.2 69 (by decide)]; exact h69
      have e133 : ∀ o, 0 ≤ o → o < 6 → σ1 133 (16 + 6 * p + o) = asP R p o := fun o o0 o1 => by
        rw [hx.1 133 (by decide) (by decide), hx9.1 133 (by decide) (by decide), hx8.1 133 (by decide) (by decide), hG _ (by omega) (by omega), asG_p hp o0 o1]
      have q0 := e133 0 (by decide) (by decide)
      rw [Int.add_zero] at q0
      refine B_X12_asides_138 ⟨fun z => by omega, fun _ => ⟨by omega, ?_⟩⟩
      refine s_putAsG e69 hi q0 (by omega) (by omega) ?_
      refine s_putAsG (i := 16 + 6 * p + 1) (by simp [su]; exact e69) (by simp [su]) (by simp [su]; exact e133 1 (by decide) (by decide)) (by omega) (by omega) ?_
      refine s_putAsG (i := 16 + 6 * p + 2) (by simp [su]; exact e69) (by simp [su]; omega) (by simp [su]; exact e133 2 (by decide) (by decide)) (by omega) (by omega) ?_
      refine s_putAsG (i := 16 + 6 * p + 3) (by simp [su]; exact e69) (by simp [su]; omega) (by simp [su]; exact e133 3 (by decide) (by decide)) (by omega) (by omega) ?_
      refine s_putAsG (i := 16 + 6 * p + 4) (by simp [su]; exact e69) (by simp [su]; omega) (by simp [su]; exact e133 4 (by decide) (by decide)) (by omega) (by omega) ?_
      refine s_putAsG (i := 16 + 6 * p + 5) (by simp [su]; exact e69) (by simp [su]; omega) (by simp [su]; exact e133 5 (by decide) (by decide)) (by omega) (by omega) ?_
      rw [w32_of (by omega) (by omega)]
      refine ih (p + 1) _ (by omega) (by omega) (by simp [su]; omega) ?_ fun q b0 b1 => ?_
      · exact ((((((((((((hx.s8 (by decide)).sa (by decide) (by decide)).s8 (by decide)).sa (by decide) (by decide)).s8 (by decide)).sa (by decide) (by decide)).s8 (by decide)).sa (by decide) (by decide)).s8 (by decide)).sa (by decide) (by decide)).s8 (by decide)).sa (by decide) (by decide))
      · by_cases z : q = p
        · subst z
          simp [su, asP]
        · have := hpl q b0 (by omega)
          simp [su, z]
          exact this
  have sets : ∀ (σ8 : PS), eqm asL asJ σ σ8 → σ8 88 69 = 0 → (σ8 88 2 = R 0 0 ∧ σ8 88 1 = R 0 1 ∧ σ8 88 12 = R 0 2 ∧ σ8 88 13 = R 0 3 ∧ σ8 88 14 = R 0 4 ∧ σ8 88 15 = R 0 5 ∧ σ8 88 16 = R 0 6 ∧ σ8 88 17 = R 0 7) → ∀ (n : Nat) (k : Int) (σ1 : PS), 0 ≤ k → k + n = 8 → σ1 88 70 = 8 + k → eqm [97] [70] σ8 σ1 → (∀ q, 0 ≤ q → q < k → σ1 97 q = R 9 q) → XX g true (d + 1) P_X12_asides 108 [(2, 88), (9, 0), (0, k)] [] 136 σ1 136 Q := by
    intro σ8 hx8 h69 hsc n
    induction n with
    | zero =>
      intro k σ1 hk hn hi hx hst
      have e : k = 8 := by omega
      subst e
      exact B_X12_asides_108 ⟨fun _ => places σ8 hx8 h69 hsc σ1 hx hst 60 0 σ1 (by decide) (by decide) hi eqm.rf (fun q b0 b1 => by omega), fun z => by omega⟩
    | succ n ih =>
      intro k σ1 hk hn hi hx hst
      have e69 : σ1 88 69 = 0 := by rw [hx.2 69 (by decide)]; exact h69
      refine B_X12_asides_108 ⟨fun z => by omega, fun _ => ⟨by omega, ?_⟩⟩
      refine s_putAsG (v := R 9 k) e69 hi ?_ (by omega) (by omega) ?_
      · rw [hx.1 133 (by decide) (by decide), hx8.1 133 (by decide) (by decide), hG _ (by omega) (by omega), asG_9 hk (by omega)]
      · rw [w32_of (by omega) (by omega)]
        refine ih (k + 1) _ (by omega) (by omega) (by simp [su]; omega) ((hx.s8 (by decide)).sa (by decide) (by decide)) fun q b0 b1 => ?_
        by_cases z : q = k
        · subst z; exact su_eq
        · rw [su_ne (Or.inr z), su_ne (Or.inl (by decide))]
          exact hst q b0 (by omega)
  have eG : ∀ k, 0 ≤ k → k < 8 → σ 133 k = asG R k := fun k k0 k1 => hG k k0 (by omega)
  refine B_X12_asides_0 ⟨Or.inl rfl, ?_⟩
  refine s_putAsG (i := 0) (v := R 0 1) (by simp [su]) (by simp [su]) (by simp [su]; exact eG 0 (by decide) (by decide)) (by decide) (by decide) ?_
  refine s_putAsG (i := 1) (v := R 0 0) (by simp [su]) (by simp [su]) (by simp [su]; exact eG 1 (by decide) (by decide)) (by decide) (by decide) ?_
  refine s_putAsG (i := 2) (v := R 0 2) (by simp [su]) (by simp [su]) (by simp [su]; exact eG 2 (by decide) (by decide)) (by decide) (by decide) ?_
  refine s_putAsG (i := 3) (v := R 0 3) (by simp [su]) (by simp [su]) (by simp [su]; exact eG 3 (by decide) (by decide)) (by decide) (by decide) ?_
  refine s_putAsG (i := 4) (v := R 0 4) (by simp [su]) (by simp [su]) (by simp [su]; exact eG 4 (by decide) (by decide)) (by decide) (by decide) ?_
  refine s_putAsG (i := 5) (v := R 0 5) (by simp [su]) (by simp [su]) (by simp [su]; exact eG 5 (by decide) (by decide)) (by decide) (by decide) ?_
  refine s_putAsG (i := 6) (v := R 0 6) (by simp [su]) (by simp [su]) (by simp [su]; exact eG 6 (by decide) (by decide)) (by decide) (by decide) ?_
  refine s_putAsG (i := 7) (v := R 0 7) (by simp [su]) (by simp [su]) (by simp [su]; exact eG 7 (by decide) (by decide)) (by decide) (by decide) ?_
  refine sets _ ?_ ?_ ?_ 8 0 _ (by decide) (by decide) ?_ eqm.rf (fun q b0 b1 => by omega)
  · exact (((((((((((((((((eqm.rf.s8 (by decide)).s8 (by decide)).s8 (by decide)).s8 (by decide)).s8 (by decide)).s8 (by decide)).s8 (by decide)).s8 (by decide)).s8 (by decide)).s8 (by decide)).s8 (by decide)).s8 (by decide)).s8 (by decide)).s8 (by decide)).s8 (by decide)).s8 (by decide)).s8 (by decide)).s8 (by decide)
  · simp [su]
  · simp [su]
  · simp [su]
end PASIDE
