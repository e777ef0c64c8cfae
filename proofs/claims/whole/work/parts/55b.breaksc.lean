/-! WHAT FAILS, told: the class -/
def eqBk (σ0 σ : PS) : Prop := ∀ a j : Int, a ≠ 12 → ¬ (a = 1 ∧ j = 5) → ¬ (a = 6 ∧ (j = 3 ∨ j = 4)) → σ a j = σ0 a j
theorem eqBk.rf {σ : PS} : eqBk σ σ := fun _ _ _ _ _ => rfl
theorem eqBk.su {σ σ' : PS} {a j v : Int} (h : eqBk σ σ') (ha : a = 12 ∨ (a = 1 ∧ j = 5) ∨ (a = 6 ∧ (j = 3 ∨ j = 4))) : eqBk σ (su σ' a j v) := fun b i a1 a2 a3 => by
  rw [su_ne (by omega)]
  exact h b i a1 a2 a3
theorem eqBk.x {σ σ' σ'' : PS} (h : eqBk σ σ') (hx : eqx [12] σ' σ'') : eqBk σ σ'' := fun a j a1 a2 a3 => (hx a (by simpa using a1) j).trans (h a j a1 a2 a3)
def BS (σ0 : PS) (c : Nat) (E : Int → Int) (σ : PS) : Prop := eqBk σ0 σ ∧ (σ 1 5 = (c : Int) ∧ σ 6 3 = σ0 6 3 ∧ σ 6 4 = σ0 6 4) ∧ ∀ k : Nat, k < 256 → σ 12 k = E k
def FltB (f : Int → Int) (ln : Int) (σ0 : PS) (k : Int) (i : Nat) (σ : PS) : Prop := eqBk σ0 σ ∧ σ 6 3 = k ∧ σ 6 4 = stP f ln i
section PBRKC
variable {g : PG} {d : Nat} {f : Int → Int} {ln : Int} {cnt : Nat} {σ0 σ : PS} {Q : Int → PS → Prop} {E : Int → Int}
theorem tokEnd (h : TokC f ln cnt σ0) : KEnd cnt (kdP f ln) := fun c hc hk => by
  rcases Nat.lt_or_eq_of_le hc with z | z
  · exact z
  · rw [z] at hk
    have := h.2.1
    unfold kdP at hk
    rw [if_neg (by omega)] at hk
    exact absurd rfl hk
theorem b_kind (hB : TokC f ln cnt σ0) {c : Nat} (h : BS σ0 c E σ) (hc : c ≤ cnt) (w : Q (kdP f ln c) σ) : XX g true d P_X8_kind 0 [(2, 1)] [] 136 σ 136 Q := by
  have h5 := hB.2.2.1
  have e : σ 3 c = kdP f ln c := by rw [h.1 3 c (by decide) (by omega) (by omega)]; exact (hB.2.2.2 c hc).1
  refine B_X8_kind_0 ?_
  rw [h.2.1.1, e]
  exact ⟨by omega, w⟩
theorem b_number (hB : TokC f ln cnt σ0) {c : Nat} (h : BS σ0 c E σ) (hc : c ≤ cnt) (w : Q (nmP f ln c) σ) : XX g true d P_X8_number 0 [(2, 1)] [] 136 σ 136 Q := by
  have h5 := hB.2.2.1
  have e : σ 5 c = nmP f ln c := by rw [h.1 5 c (by decide) (by omega) (by omega)]; exact (hB.2.2.2 c hc).2.2
  refine B_X8_number_0 ?_
  rw [h.2.1.1, e]
  exact ⟨by omega, w⟩
theorem b_next (hB : TokC f ln cnt σ0) {c : Nat} (h : BS σ0 c E σ) (hc : c ≤ cnt) (hk : kdP f ln c ≠ 0) (w : ∀ σ', BS σ0 (c + 1) E σ' → Q 0 σ') : XX g true d P_X8_next 0 [(2, 1)] [] 136 σ 136 Q := by
  have h5 := hB.2.2.1
  have h6 := tokEnd hB c hc hk
  have e : σ 3 c = kdP f ln c := by rw [h.1 3 c (by decide) (by omega) (by omega)]; exact (hB.2.2.2 c hc).1
  refine B_X8_next_0 ?_
  rw [h.2.1.1, e, w32_of (by omega) (by omega)]
  refine ⟨fun z => by omega, fun _ => ⟨by omega, fun z => absurd z hk, fun _ => w _ ⟨h.1.su (by omega), ⟨by rw [su_eq]; omega, by rw [su_ne (Or.inl (by decide))]; exact h.2.1.2.1, by rw [su_ne (Or.inl (by decide))]; exact h.2.1.2.2⟩, fun k hk => by rw [su_ne (Or.inl (by decide))]; exact h.2.2 k hk⟩⟩⟩
theorem b_stop (hB : TokC f ln cnt σ0) {c : Nat} {k : Int} (h : BS σ0 c E σ) (hc : c ≤ cnt) (w : ∀ σ', FltB f ln σ0 k c σ' → Q 0 σ') : XX g true d P_X6_stop 0 [(2, 6), (0, k)] [] 136 σ 136 Q := by
  have h5 := hB.2.2.1
  have e : σ 4 c = stP f ln c := by rw [h.1 4 c (by decide) (by omega) (by omega)]; exact (hB.2.2.2 c hc).2.1
  refine B_X6_stop_0 ?_
  rw [h.2.1.1, e]
  exact ⟨by omega, w _ ⟨(h.1.su (by omega)).su (by omega), by rw [su_ne (Or.inr (by decide)), su_eq], su_eq⟩⟩
theorem b_pass (hB : TokC f ln cnt σ0) {c : Nat} {k : Int} (hk : k ≠ 0) (h : BS σ0 c E σ) (hc : c ≤ cnt) (w1 : kdP f ln c = k → ∀ σ', BS σ0 (c + 1) E σ' → Q 1 σ') (w0 : kdP f ln c ≠ k → ∀ σ', FltB f ln σ0 1 c σ' → Q 0 σ') : XX g true (d + 1) P_X6_pass 0 [(2, 6), (0, k)] [] 136 σ 136 Q :=
  B_X6_pass_0 (b_kind hB h hc ⟨fun z => b_next hB h hc (by rw [z]; exact hk) fun σ1 h1 => w1 z σ1 h1, fun z => b_stop hB h hc fun σ1 h1 => ⟨Or.inl rfl, w0 z σ1 h1⟩⟩)
theorem b_passNumber (hB : TokC f ln cnt σ0) {c : Nat} {least : Int} (h : BS σ0 c E σ) (hc : c ≤ cnt) (w1 : (pNum (kdP f ln) (nmP f ln) least c).1 = 0 → ∀ σ', BS σ0 (c + 1) E σ' → Q 1 σ') (w0 : (pNum (kdP f ln) (nmP f ln) least c).1 ≠ 0 → ∀ σ', FltB f ln σ0 (pNum (kdP f ln) (nmP f ln) least c).1 (pNum (kdP f ln) (nmP f ln) least c).2 σ' → Q 0 σ') : XX g true (d + 1) P_X6_passNumber 0 [(2, 6), (0, least)] [] 136 σ 136 Q := by
  unfold pNum at w1 w0
  refine B_X6_passNumber_0 (b_kind hB h hc ⟨fun z => b_number hB h hc ⟨fun z1 => ?_, fun z1 => b_number hB h hc ⟨fun z2 => ?_, fun z2 => ?_⟩⟩, fun z => ?_⟩)
  · rw [if_neg (fun q => q z), if_pos (Or.inl z1)] at w0
    exact b_stop hB h hc fun σ1 h1 => ⟨Or.inl rfl, w0 (show ¬ (2 : Int) = 0 by decide) σ1 h1⟩
  · rw [if_neg (fun q => q z), if_neg (by omega)] at w1
    exact b_next hB h hc (by omega) fun σ1 h1 => w1 rfl σ1 h1
  · rw [if_neg (fun q => q z), if_pos (Or.inr z2)] at w0
    exact b_stop hB h hc fun σ1 h1 => ⟨Or.inl rfl, w0 (show ¬ (2 : Int) = 0 by decide) σ1 h1⟩
  · rw [if_pos z] at w0
    exact b_stop hB h hc fun σ1 h1 => ⟨Or.inl rfl, w0 (show ¬ (1 : Int) = 0 by decide) σ1 h1⟩
theorem s_addAny {many wide : Int} (hm : 1 ≤ many ∧ many ≤ wide ∧ wide ≤ 8) (hE : ∀ k : Nat, k < 256 → σ 12 k = E k) (w : ∀ σ', eqx [12] σ σ' → (∀ k : Nat, k < 256 → σ' 12 k = anyW k many (wide - many + 1).toNat many (E k)) → Q 0 σ') : XX g true (d + 1) P_X1_addAny 0 [(2, 11), (0, many), (0, wide), (9, 0), (9, 0)] [] 136 σ 136 Q := by
  have hq : BrkAt 11 := by unfold BrkAt; omega
  have outer : ∀ (n s : Nat) (σ1 : PS), s + n = 256 → eqx [12] σ σ1 → (∀ k : Nat, k < s → σ1 12 k = anyW k many (wide - many + 1).toNat many (E k)) → (∀ k : Nat, s ≤ k → k < 256 → σ1 12 k = E k) → XX g true (d + 1) P_X1_addAny 2 [(2, 11), (0, many), (0, wide), (0, (s : Int)), (9, 0)] [] 136 σ1 136 Q := by
    intro n
    induction n with
    | zero =>
      intro s σ1 hs hx h1 h2
      exact B_X1_addAny_2 hq ⟨fun _ => w σ1 hx fun k hk => h1 k (by omega), fun z => by omega⟩
    | succ n ih =>
      intro s σ1 hs hx h1 h2
      have inner : ∀ (m : Nat) (v e : Int) (σ2 : PS), v + m = wide + 1 → 1 ≤ v → eqx [12] σ σ2 → σ2 12 s = e → (∀ k : Nat, k < s → σ2 12 k = anyW k many (wide - many + 1).toNat many (E k)) → (∀ k : Nat, s < k → k < 256 → σ2 12 k = E k) → anyW s many m v e = anyW s many (wide - many + 1).toNat many (E s) → XX g true (d + 1) P_X1_addAny 12 [(2, 11), (0, many), (0, wide), (0, (s : Int)), (0, v)] [] 136 σ2 136 Q := by
        intro m
        have fin : ∀ (v e : Int) (σ2 : PS), eqx [12] σ σ2 → σ2 12 s = e → (∀ k : Nat, k < s → σ2 12 k = anyW k many (wide - many + 1).toNat many (E k)) → (∀ k : Nat, s < k → k < 256 → σ2 12 k = E k) → e = anyW s many (wide - many + 1).toNat many (E s) → XX g true (d + 1) P_X1_addAny 2 [(2, 11), (0, many), (0, wide), (0, w32 ((s : Int) + 1)), (9, 0)] [] 136 σ2 136 Q := by
          intro v e σ2 hx2 he k1 k2 hf
          rw [w32_of (by omega) (by omega)]
          refine ih (s + 1) σ2 (by omega) hx2 (fun k hk => ?_) (fun k hk => k2 k (by omega))
          by_cases z : k = s
          · rw [z, he, hf]
          · exact k1 k (by omega)
        induction m with
        | zero =>
          intro v e σ2 hv hv1 hx2 he k1 k2 hf
          exact B_X1_addAny_12 hq ⟨fun _ => fin v e σ2 hx2 he k1 k2 hf, fun z => by omega⟩
        | succ m ihm =>
          intro v e σ2 hv hv1 hx2 he k1 k2 hf
          have he' : σ2 (11 + 1) s = e := he
          refine B_X1_addAny_12 hq ⟨fun z => by omega, fun z => ⟨by omega, ?_⟩⟩
          rw [he']
          refine ⟨fun z1 => ?_, fun z1 => ?_⟩
          · rw [anyW_stop z1] at hf
            exact fin v e σ2 hx2 he k1 k2 hf
          · rw [anyW_succ, if_pos z1] at hf
            rw [mask_int (by omega) (by omega) (by omega), w32_of (by omega) (by omega)]
            refine s_bitCount (Nat.lt_of_le_of_lt (Nat.mod_le _ _) (by omega)) ⟨fun z2 => ?_, fun z2 => ?_⟩
            · rw [if_neg (by omega)] at hf
              exact ihm (v + 1) e σ2 (by omega) (by omega) hx2 he k1 k2 hf
            · rw [if_pos z2] at hf
              refine ihm (v + 1) v _ (by omega) (by omega) (hx2.su (by decide)) su_eq (fun k hk => ?_) (fun k hk hk2 => ?_) hf
              · rw [show (11 : Int) + 1 = 12 from rfl, su_ne (Or.inr (by omega))]; exact k1 k hk
              · rw [show (11 : Int) + 1 = 12 from rfl, su_ne (Or.inr (by omega))]; exact k2 k hk hk2
      refine B_X1_addAny_2 hq ⟨fun z => by omega, fun _ => ?_⟩
      refine inner (wide - many + 1).toNat many (E s) σ1 (by omega) hm.1 hx (h2 s (Nat.le_refl s) (by omega)) h1 (fun k hk hk2 => h2 k (by omega) hk2) rfl
  exact B_X1_addAny_0 hq (outer 256 0 σ (by decide) eqx.rf (fun k hk => by omega) fun k _ hk => hE k hk)
theorem s_addShape {wide : Int} {to gn : Nat} (ht : to < 2 ^ 31) (hE : ∀ k : Nat, k < 256 → σ 12 k = E k) (w : ∀ σ', eqx [12] σ σ' → (∀ k : Nat, k < 256 → σ' 12 k = if k &&& to = gn ∧ wide < E k then wide else E k) → Q 0 σ') : XX g true d P_X1_addShape 0 [(2, 11), (0, wide), (0, (to : Int)), (0, (gn : Int)), (9, 0)] [] 136 σ 136 Q := by
  have hq : BrkAt 11 := by unfold BrkAt; omega
  have outer : ∀ (n s : Nat) (σ1 : PS), s + n = 256 → eqx [12] σ σ1 → (∀ k : Nat, k < s → σ1 12 k = if k &&& to = gn ∧ wide < E k then wide else E k) → (∀ k : Nat, s ≤ k → k < 256 → σ1 12 k = E k) → XX g true d P_X1_addShape 3 [(2, 11), (0, wide), (0, (to : Int)), (0, (gn : Int)), (0, (s : Int))] [] 136 σ1 136 Q := by
    intro n
    induction n with
    | zero =>
      intro s σ1 hs hx h1 h2
      exact B_X1_addShape_3 hq ⟨fun _ => w σ1 hx fun k hk => h1 k (by omega), fun z => by omega⟩
    | succ n ih =>
      intro s σ1 hs hx h1 h2
      have hes : σ1 (11 + 1) s = E s := h2 s (Nat.le_refl s) (by omega)
      have stay : ¬ (s &&& to = gn ∧ wide < E s) → XX g true d P_X1_addShape 3 [(2, 11), (0, wide), (0, (to : Int)), (0, (gn : Int)), (0, w32 ((s : Int) + 1))] [] 136 σ1 136 Q := fun hn => by
        rw [w32_of (by omega) (by omega)]
        refine ih (s + 1) σ1 (by omega) hx (fun k hk => ?_) (fun k hk => h2 k (by omega))
        by_cases z : k = s
        · rw [z, if_neg hn]; exact hes
        · exact h1 k (by omega)
      refine B_X1_addShape_3 hq ⟨fun z => by omega, fun _ => ?_⟩
      rw [iand_nat (by omega) ht, hes]
      refine ⟨fun z => stay fun q => z (by rw [q.1]), fun z => ⟨by omega, fun z1 => stay fun q => by omega, fun z1 => ?_⟩⟩
      rw [w32_of (by omega) (by omega)]
      refine ih (s + 1) _ (by omega) (hx.su (by decide)) (fun k hk => ?_) (fun k hk hk2 => ?_)
      · by_cases z2 : k = s
        · rw [z2, if_pos ⟨by omega, z1⟩]; exact su_eq
        · rw [show (11 : Int) + 1 = 12 from rfl, su_ne (Or.inr (by omega))]; exact h1 k (by omega)
      · rw [show (11 : Int) + 1 = 12 from rfl, su_ne (Or.inr (by omega))]; exact h2 k (by omega) hk2
  exact B_X1_addShape_0 hq (outer 256 0 σ (by decide) eqx.rf (fun k hk => by omega) fun k _ hk => hE k hk)
theorem BS.tab {c : Nat} {E' : Int → Int} {σ' : PS} (h : BS σ0 c E σ) (hx : eqx [12] σ σ') (hE : ∀ k : Nat, k < 256 → σ' 12 k = E' k) : BS σ0 c E' σ' := ⟨h.1.x hx, ⟨by rw [hx 1 (by decide)]; exact h.2.1.1, by rw [hx 6 (by decide)]; exact h.2.1.2.1, by rw [hx 6 (by decide)]; exact h.2.1.2.2⟩, hE⟩
theorem tol_bd : ∀ (n : Nat) (A : List Int), A.length = n → tolL A < 2 ^ n ∧ gonL A < 2 ^ n := by
  intro n
  induction n with
  | zero =>
    intro A hA
    have : A = [] := List.eq_nil_of_length_eq_zero hA
    subst this
    exact ⟨(by decide : 0 < 2 ^ 0), (by decide : 0 < 2 ^ 0)⟩
  | succ n ih =>
    intro A hA
    rcases List.eq_nil_or_concat A with e | ⟨A', s, e⟩
    · rw [e] at hA; simp at hA
    · rw [List.concat_eq_append] at e
      subst e
      rw [List.length_append, List.length_singleton] at hA
      obtain ⟨h1, h2⟩ := ih A' (by omega)
      rw [tolL_snoc, gonL_snoc, Nat.pow_succ]
      constructor <;> split <;> omega
theorem b_shape (hB : TokC f ln cnt σ0) : ∀ (n c : Nat) (A : List Int) (σ : PS), A.length + n = 9 → A.length ≤ 8 → BS σ0 c E σ → c ≤ cnt → ((pShp (kdP f ln) n c A).1 = 0 → ∀ σ', BS σ0 (pShp (kdP f ln) n c A).2.1 (addS E (5, ((pShp (kdP f ln) n c A).2.2.length : Int), 0, (pShp (kdP f ln) n c A).2.2)) σ' → Q 1 σ') → ((pShp (kdP f ln) n c A).1 ≠ 0 → ∀ σ', FltB f ln σ0 (pShp (kdP f ln) n c A).1 (pShp (kdP f ln) n c A).2.1 σ' → Q 0 σ') → XX g true (d + 1) P_X6_readShape 6 [(2, 6), (0, (A.length : Int)), (0, (tolL A : Int)), (0, (gonL A : Int))] [] 136 σ 136 Q := by
  intro n
  induction n with
  | zero => intro c A σ hA h8; omega
  | succ n ih =>
    intro c A σ hA h8 h hc w1 w0
    rw [pShp_succ] at w1 w0
    have htb := tol_bd A.length A rfl
    have hp8 : (2 : Nat) ^ A.length ≤ 2 ^ 8 := Nat.pow_le_pow_right (by decide) h8
    have stop : ¬ isShp (kdP f ln c) = true → (((A.length : Int) ≠ 0 → XX g true d P_X1_addShape 0 [(2, 11), (0, (A.length : Int)), (0, (tolL A : Int)), (0, (gonL A : Int)), (9, 0)] [] 136 σ 136 (fun _ σ10 => Q 1 σ10)) ∧ ((A.length : Int) = 0 → XX g true d P_X6_stop 0 [(2, 6), (0, 1)] [] 136 σ 136 (fun r13 σ12 => (r13 = 0 ∨ r13 = 1) ∧ Q r13 σ12))) := by
      intro hn
      rw [if_neg hn] at w1 w0
      refine ⟨fun z => ?_, fun z => ?_⟩
      · rw [if_neg (by omega)] at w1
        refine s_addShape (by omega) h.2.2 fun σ1 hx1 hE1 => w1 rfl σ1 (h.tab hx1 fun k hk => ?_)
        rw [hE1 k hk]
        unfold addS
        rw [if_pos rfl, Int.toNat_natCast]
      · rw [if_pos (by omega)] at w0
        exact b_stop hB h hc fun σ1 h1 => ⟨Or.inl rfl, w0 (show ¬ (1 : Int) = 0 by decide) σ1 h1⟩
    refine B_X6_readShape_6 ⟨fun z => by omega, fun _ => b_kind hB h hc ?_⟩
    have part : isShp (kdP f ln c) = true → (((A.length : Int) < 8 → XX g true d P_X8_kind 0 [(2, 1)] [] 136 σ 136 (fun r16 σ15 => ((r16 ≠ 279 → ∀ y17, y17 = ior (ishl (tolL A : Int) 1) 1 → XX g true d P_X8_kind 0 [(2, 1)] [] 136 σ15 136 (fun r19 σ18 => ((r19 ≠ 271 → ∀ y20, y20 = ior (ishl (gonL A : Int) 1) 0 → XX g true d P_X8_next 0 [(2, 1)] [] 136 σ18 136 (fun _ σ21 => (XX g true (d + 1) P_X6_readShape 6 [(2, 6), (0, w32 ((A.length : Int) + 1)), (0, y17), (0, y20)] [] 136 σ21 136 Q))) ∧ (r19 = 271 → ∀ y23, y23 = ior (ishl (gonL A : Int) 1) 1 → XX g true d P_X8_next 0 [(2, 1)] [] 136 σ18 136 (fun _ σ24 => (XX g true (d + 1) P_X6_readShape 6 [(2, 6), (0, w32 ((A.length : Int) + 1)), (0, y17), (0, y23)] [] 136 σ24 136 Q)))))) ∧ (r16 = 279 → ∀ y26, y26 = ior (ishl (tolL A : Int) 1) 0 → XX g true d P_X8_kind 0 [(2, 1)] [] 136 σ15 136 (fun r28 σ27 => ((r28 ≠ 271 → ∀ y29, y29 = ior (ishl (gonL A : Int) 1) 0 → XX g true d P_X8_next 0 [(2, 1)] [] 136 σ27 136 (fun _ σ30 => (XX g true (d + 1) P_X6_readShape 6 [(2, 6), (0, w32 ((A.length : Int) + 1)), (0, y26), (0, y29)] [] 136 σ30 136 Q))) ∧ (r28 = 271 → ∀ y32, y32 = ior (ishl (gonL A : Int) 1) 1 → XX g true d P_X8_next 0 [(2, 1)] [] 136 σ27 136 (fun _ σ33 => (XX g true (d + 1) P_X6_readShape 6 [(2, 6), (0, w32 ((A.length : Int) + 1)), (0, y26), (0, y32)] [] 136 σ33 136 Q))))))))) ∧ (8 ≤ (A.length : Int) → XX g true d P_X6_stop 0 [(2, 6), (0, 3)] [] 136 σ 136 (fun r36 σ35 => (r36 = 0 ∨ r36 = 1) ∧ Q r36 σ35))) := by
      intro hs
      have hk := isShp_iff.mp hs
      have hlt := tokEnd hB c hc (by omega)
      rw [if_pos hs] at w1 w0
      refine ⟨fun z => ?_, fun z => ?_⟩
      · rw [if_neg (by omega)] at w1 w0
        have el : ((((A ++ [sgnOf (kdP f ln c)]).length : Nat)) : Int) = (A.length : Int) + 1 := by rw [List.length_append, List.length_singleton]; omega
        have next : ∀ y1 y2 : Int, y1 = (tolL (A ++ [sgnOf (kdP f ln c)]) : Int) → y2 = (gonL (A ++ [sgnOf (kdP f ln c)]) : Int) → XX g true d P_X8_next 0 [(2, 1)] [] 136 σ 136 (fun _ σ21 => (XX g true (d + 1) P_X6_readShape 6 [(2, 6), (0, w32 ((A.length : Int) + 1)), (0, y1), (0, y2)] [] 136 σ21 136 Q)) := by
          intro y1 y2 e1 e2
          subst e1
          subst e2
          refine b_next hB h hc (by omega) fun σ1 h1 => ?_
          rw [w32_of (by omega) (by omega), ← el]
          exact ih (c + 1) _ σ1 (by rw [List.length_append, List.length_singleton]; omega) (by rw [List.length_append, List.length_singleton]; omega) h1 (by omega) w1 w0
        rw [tolL_snoc, gonL_snoc] at next
        have sh : ∀ (a : Nat) (b : Int), a < 256 → (b = 0 ∨ b = 1) → ior (ishl (a : Int) 1) b = ((2 * a + b.toNat : Nat) : Int) := fun a b ha hb => shift_or (by omega) hb
        have ht := htb.1
        have hg := htb.2
        refine b_kind hB h hc ⟨fun q y17 e17 => b_kind hB h hc ⟨fun q2 y20 e20 => next y17 y20 ?_ ?_, fun q2 y23 e23 => next y17 y23 ?_ ?_⟩, fun q y26 e26 => b_kind hB h hc ⟨fun q2 y29 e29 => next y26 y29 ?_ ?_, fun q2 y32 e32 => by omega⟩⟩
        · have : sgnOf (kdP f ln c) = 7 := by
            have : kdP f ln c = 278 := by omega
            rw [this]; rfl
          rw [e17, this, sh _ _ (by omega) (Or.inr rfl)]; rfl
        · have : sgnOf (kdP f ln c) = 7 := by
            have : kdP f ln c = 278 := by omega
            rw [this]; rfl
          rw [e20, this, sh _ _ (by omega) (Or.inl rfl)]; rfl
        · have : sgnOf (kdP f ln c) = 6 := by rw [q2]; rfl
          rw [e17, this, sh _ _ (by omega) (Or.inr rfl)]; rfl
        · have : sgnOf (kdP f ln c) = 6 := by rw [q2]; rfl
          rw [e23, this, sh _ _ (by omega) (Or.inr rfl)]; rfl
        · have : sgnOf (kdP f ln c) = 8 := by rw [q]; rfl
          rw [e26, this, sh _ _ (by omega) (Or.inl rfl)]; rfl
        · have : sgnOf (kdP f ln c) = 8 := by rw [q]; rfl
          rw [e29, this, sh _ _ (by omega) (Or.inl rfl)]; rfl
      · rw [if_pos (by omega)] at w0
        exact b_stop hB h hc fun σ1 h1 => ⟨Or.inl rfl, w0 (show ¬ (3 : Int) = 0 by decide) σ1 h1⟩
    refine B_X6_isShapePart_0 ⟨fun z => ⟨fun q => absurd q (by decide), fun _ => part (isShp_iff.mpr (by omega))⟩, fun z => ⟨fun z1 => ⟨fun q => absurd q (by decide), fun _ => part (isShp_iff.mpr (by omega))⟩, fun z1 => ⟨fun z2 => ⟨fun _ => stop fun q => by have := isShp_iff.mp q; omega, fun q => absurd rfl q⟩, fun z2 => ⟨fun q => absurd q (by decide), fun _ => part (isShp_iff.mpr (by omega))⟩⟩⟩⟩
end PBRKC
