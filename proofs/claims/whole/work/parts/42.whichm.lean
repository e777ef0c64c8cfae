/-! WHICH TO CHANGE NOW, the model -/
/-- what is kept of a row -/
def keptM (R σ : PS) : Prop := ∀ p, 0 ≤ p → p < R 0 0 → σ 127 p = R 1 p ∧ σ 128 p = R 2 p ∧ σ 129 p = R 3 p
theorem keptM.x {R σ σ' : PS} {L : List Int} (h : keptM R σ) (hx : eqx L σ σ') (h1 : (127 : Int) ∉ L) (h2 : (128 : Int) ∉ L) (h3 : (129 : Int) ∉ L) : keptM R σ' := fun p p0 p1 => by
  rw [hx 127 h1, hx 128 h2, hx 129 h3]
  exact h p p0 p1
/-- a row like R but in sorts, ages and gone places -/
def shiftOf (R R1 : PS) : Prop := (∀ f p, f ≠ 1 → f ≠ 2 → f ≠ 3 → R1 f p = R f p) ∧ ∀ f p, R 0 0 ≤ p → R1 f p = R f p
section PWHICHM
variable {g : PG} {d : Nat} {Q : Int → PS → Prop}
theorem s_keepsRow {R σ : PS} (hR : RowMx R σ) (ok : RSok R) (w : ∀ σ', eqx [127, 128, 129] σ σ' → keptM R σ' → Q 0 σ') : XX g true d P_X12_keepsRow 0 [(2, 88), (9, 0)] [] 136 σ 136 Q := by
  have k1 := ok.1
  have key : ∀ (m : Nat) (p : Int) (σ1 : PS), 0 ≤ p → p + m = R 0 0 → eqx [127, 128, 129] σ σ1 → (∀ q, 0 ≤ q → q < p → σ1 127 q = R 1 q ∧ σ1 128 q = R 2 q ∧ σ1 129 q = R 3 q) → XX g true d P_X12_keepsRow 2 [(2, 88), (0, p)] [] 136 σ1 136 Q := by
    intro m
    induction m with
    | zero =>
      intro p σ1 h0 hp hx hk
      have o : σ1 88 2 = R 0 0 := by rw [hx 88 (by decide)]; exact hR.1.1
      exact B_X12_keepsRow_2 ⟨fun _ => w σ1 hx fun q q0 q1 => hk q q0 (by omega), fun h => by rw [o] at h; omega⟩
    | succ m ih =>
      intro p σ1 h0 hp hx hk
      have o : σ1 88 2 = R 0 0 := by rw [hx 88 (by decide)]; exact hR.1.1
      obtain ⟨m1, m2, m3, -⟩ := hR.2.1 p h0 (by omega)
      refine B_X12_keepsRow_2 ⟨fun h => by rw [o] at h; omega, fun _ => ⟨by omega, ?_⟩⟩
      rw [hx 89 (by decide), hx 90 (by decide), hx 91 (by decide), m1, m2, m3, w32_of (by omega) (by omega)]
      refine ih (p + 1) _ (by omega) (by omega) (((hx.su (by decide)).su (by decide)).su (by decide)) fun q q0 q1 => ?_
      by_cases e : q = p
      · subst e
        refine ⟨?_, ?_, su_eq⟩
        · rw [su_ne (Or.inl (by decide)), su_ne (Or.inl (by decide)), su_eq]
        · rw [su_ne (Or.inl (by decide)), su_eq]
      · rw [su_ne (Or.inl (by decide)), su_ne (Or.inl (by decide)), su_ne (Or.inr e), su_ne (Or.inl (by decide)), su_ne (Or.inr e), su_ne (Or.inl (by decide)), su_ne (Or.inr e), su_ne (Or.inl (by decide)), su_ne (Or.inl (by decide))]
        exact hk q q0 (by omega)
  exact B_X12_keepsRow_0 (key (R 0 0).toNat 0 σ (by omega) (by omega) eqx.rf fun q q0 q1 => by omega)
theorem s_givesRowBack {R R1 σ : PS} (hR : RowMx R1 σ) (ok : RSok R) (hk : keptM R σ) (ht : shiftOf R R1) (w : ∀ σ', eqx [89, 90, 91] σ σ' → RowMx R σ' → Q 0 σ') : XX g true d P_X12_givesRowBack 0 [(2, 88), (9, 0)] [] 136 σ 136 Q := by
  have k1 := ok.1
  have e00 : R1 0 0 = R 0 0 := ht.1 0 0 (by decide) (by decide) (by decide)
  have key : ∀ (m : Nat) (p : Int) (R2 σ1 : PS), 0 ≤ p → p + m = R 0 0 → eqx [89, 90, 91] σ σ1 → RowMx R2 σ1 → shiftOf R R2 → (∀ f q, 0 ≤ q → q < p → R2 f q = R f q) → XX g true d P_X12_givesRowBack 2 [(2, 88), (0, p)] [] 136 σ1 136 Q := by
    intro m
    induction m with
    | zero =>
      intro p R2 σ1 h0 hp hx hR2 ht2 hq
      have o : σ1 88 2 = R 0 0 := by rw [hR2.1.1]; exact ht2.1 0 0 (by decide) (by decide) (by decide)
      have all : ∀ f q, 0 ≤ q → R f q = R2 f q := fun f q q0 => by
        by_cases h : q < R 0 0
        · exact (hq f q q0 (by omega)).symm
        · exact (ht2.2 f q (by omega)).symm
      refine B_X12_givesRowBack_2 ⟨fun _ => w σ1 hx (hR2.eq ⟨fun k a b => all 0 k a, fun f q a b c e => all f q c, fun k a b => ⟨all 7 k a, all 8 k a⟩, fun k a b => all 9 k a⟩), fun h => by rw [o] at h; omega⟩
    | succ m ih =>
      intro p R2 σ1 h0 hp hx hR2 ht2 hq
      have o : σ1 88 2 = R 0 0 := by rw [hR2.1.1]; exact ht2.1 0 0 (by decide) (by decide) (by decide)
      obtain ⟨m1, m2, m3⟩ := hk p h0 (by omega)
      refine B_X12_givesRowBack_2 ⟨fun h => by rw [o] at h; omega, fun _ => ⟨by omega, ?_⟩⟩
      rw [hx 127 (by decide), hx 128 (by decide), hx 129 (by decide), m1, m2, m3, w32_of (by omega) (by omega)]
      refine ih (p + 1) (su (su (su R2 1 p (R 1 p)) 2 p (R 2 p)) 3 p (R 3 p)) _ (by omega) (by omega) (((hx.su (by decide)).su (by decide)).su (by decide)) (((hR2.ar (k := 1) (c := 89) (by omega)).ar (k := 2) (c := 90) (by omega)).ar (k := 3) (c := 91) (by omega)) ⟨fun f q h1 h2 h3 => ?_, fun f q hq2 => ?_⟩ fun f q q0 q1 => ?_
      · rw [su_ne (Or.inl h3), su_ne (Or.inl h2), su_ne (Or.inl h1)]; exact ht2.1 f q h1 h2 h3
      · rw [su_ne (Or.inr (by omega)), su_ne (Or.inr (by omega)), su_ne (Or.inr (by omega))]; exact ht2.2 f q hq2
      · by_cases e : q = p
        · subst e
          by_cases h3 : f = 3
          · subst h3; exact su_eq
          · rw [su_ne (Or.inl h3)]
            by_cases h2 : f = 2
            · subst h2; exact su_eq
            · rw [su_ne (Or.inl h2)]
              by_cases h1 : f = 1
              · subst h1; exact su_eq
              · rw [su_ne (Or.inl h1)]; exact ht2.1 f q h1 h2 h3
        · rw [su_ne (Or.inr e), su_ne (Or.inr e), su_ne (Or.inr e)]; exact hq f q q0 (by omega)
  exact B_X12_givesRowBack_0 (key (R 0 0).toNat 0 R1 σ (by omega) (by omega) eqx.rf hR ht fun f q q0 q1 => by omega)
abbrev whichLM : List Int := [90, 91, 111, 112, 116, 117, 118]
theorem s_whichM {k : Int} {E : Int → Int} {R T σ : PS} (hR : RowMx R σ) (ok : RSok R) (hT : TxtM 0 T σ) (okT : TxtOK oknL T) (hE : BrkM E σ) (w : ∀ σ', eqm [89, 90, 91, 111, 112, 116, 117, 118, 127, 128, 129] [0] σ σ' → RowMx R σ' → Q (whichA T E R k) σ') : XX g true (d + 6) P_X12_which 0 [(2, 88), (0, k), (9, 0), (9, 0), (9, 0), (9, 0), (9, 0), (9, 0)] [] 136 σ 136 Q := by
  have k1 := ok.1
  have hn : R 0 0 = ((R 0 0).toNat : Int) := by omega
  have hx0 : eqm [89, 90, 91, 111, 112, 116, 117, 118, 127, 128, 129] [0] σ (su σ 88 0 0) := eqm.rf.s8 (by decide)
  have hR0 : RowMx R (su σ 88 0 0) := hR.same8 (fun j hj => su_ne (Or.inr (by omega))) (fun a a1 a2 j => su_ne (Or.inl (by omega)))
  have hT0 : TxtM 0 T (su σ 88 0 0) := hT.same fun a a1 a2 j => su_ne (Or.inl (by omega))
  have hE0 : BrkM E (su σ 88 0 0) := BrkM_same hE (su_ne (Or.inr (by decide))) (fun j => su_ne (Or.inl (by decide))) (fun j => su_ne (Or.inl (by decide))) (fun j => su_ne (Or.inl (by decide))) (fun j => su_ne (Or.inl (by decide)))
  refine B_X12_which_0 ?_
  obtain ⟨σ0, e0⟩ : ∃ σ0, σ0 = su σ 88 0 0 := ⟨_, rfl⟩
  rw [← e0] at hx0 hR0 hT0 hE0 ⊢
  rw [hR.1.1]
  unfold whichA at w
  refine ⟨fun h => ?_, fun h12 => s_isIn ?_⟩
  · rw [if_pos h] at w
    exact w σ0 hx0 hR0
  rw [if_neg (by omega)] at w
  by_cases hk : 0 ≤ k ∧ k ≤ 4
  case neg =>
    rw [if_neg hk] at w ⊢
    exact ⟨fun z => absurd rfl z, fun _ => w σ0 hx0 hR0⟩
  rw [if_pos hk] at w ⊢
  refine ⟨fun _ => s_keepsRow hR0 ok fun σk hxk hkept => ?_, fun z => by omega⟩
  have hRk : RowMx R σk := hR0.x hxk fun a a1 a2 => by simp only [List.mem_cons, List.not_mem_nil, or_false]; omega
  have hTk : TxtM 0 T σk := hT0.x hxk fun a a1 a2 => by simp only [List.mem_cons, List.not_mem_nil, or_false]; omega
  have hEk : BrkM E σk := hE0.x hxk (by decide) (by decide) (by decide) (by decide) (by decide)
  have hK : 2 ^ (R 0 0).toNat ≤ 2 ^ 12 := Nat.pow_le_pow_right (by decide) (by omega)
  have hK0 := Nat.two_pow_pos (R 0 0).toNat
  have ish : ishl 1 (R 0 0) = ((2 ^ (R 0 0).toNat : Nat) : Int) := by
    have h9 := shl1_nat (k := (R 0 0).toNat) (by omega)
    rw [← hn] at h9
    exact h9
  -- a set's row
  have fill : ∀ (s : Nat), s < 2 ^ 12 → ∀ (b : Int) (least : Int) (m p : Nat) (R1 σ1 : PS), (p : Int) + m = R 0 0 → eqx whichLM σk σ1 → RowMx R1 σ1 → trialOf R R1 → (∀ q, R 0 0 ≤ q → R1 3 q = R 3 q) → (∀ f q : Int, (f = 2 ∨ f = 3) → 0 ≤ q → q < (p : Int) → R1 f q = renewS R s f q) → (∀ σ', eqx whichLM σk σ' → RowMx (renewS R s) σ' → XX g true (d + 6) P_X12_which 64 [(2, 88), (0, k), (0, b), (1, least), (9, 0), (0, (s : Int)), (0, R 0 0), (9, 0)] [] 136 σ' 136 Q) → XX g true (d + 6) P_X12_which 64 [(2, 88), (0, k), (0, b), (1, least), (9, 0), (0, (s : Int)), (0, (p : Int)), (9, 0)] [] 136 σ1 136 Q := by
    intro s hs b least m
    induction m with
    | zero =>
      intro p R1 σ1 hp hx hR1 ht ht3 hq w2
      have e : (p : Int) = R 0 0 := by omega
      have h9 := w2 σ1 hx (hR1.eq ⟨fun k a b => ?_, fun f q a b c e => ?_, fun k a b => ?_, fun k a b => ?_⟩)
      · rw [← e] at h9
        exact h9
      · rw [ht.1 0 k (by decide) (by decide)]; unfold renewS; rw [if_neg (by omega)]
      · by_cases z : f = 2 ∨ f = 3
        · by_cases zq : q < R 0 0
          · exact (hq f q z (by omega) (by omega)).symm
          · unfold renewS
            rw [if_neg (by omega)]
            rcases z with z | z
            · rw [z]; exact (ht.2 q (by omega)).symm
            · rw [z]; exact (ht3 q (by omega)).symm
        · rw [ht.1 f q (fun y => z (Or.inl y)) (fun y => z (Or.inr y))]; unfold renewS; rw [if_neg (fun y => z y.1)]
      · rw [ht.1 7 k (by decide) (by decide), ht.1 8 k (by decide) (by decide)]
        unfold renewS
        rw [if_neg (by omega), if_neg (by omega)]
        exact ⟨rfl, rfl⟩
      · rw [ht.1 9 k (by decide) (by decide)]; unfold renewS; rw [if_neg (by omega)]
    | succ m ih =>
      intro p R1 σ1 hp hx hR1 ht ht3 hq w2
      have o2 : σ1 88 2 = R 0 0 := by rw [hx 88 (by decide)]; exact hRk.1.1
      obtain ⟨m1, m2, m3⟩ := hkept (p : Int) (by omega) (by omega)
      have o8 : σ1 128 p = R 2 p := by rw [hx 128 (by decide)]; exact m2
      have o9 : σ1 129 p = R 3 p := by rw [hx 129 (by decide)]; exact m3
      have step : ∀ a c : Int, a = renewS R s 2 p → c = renewS R s 3 p → XX g true (d + 6) P_X12_which 64 [(2, 88), (0, k), (0, b), (1, least), (9, 0), (0, (s : Int)), (0, (p : Int) + 1), (9, 0)] [] 136 (su (su σ1 90 p a) 91 p c) 136 Q := by
        intro a c ha hc
        refine ih (p + 1) (su (su R1 2 p a) 3 p c) _ (by omega) ((hx.su (by decide)).su (by decide)) ((hR1.ar (k := 2) (c := 90) (by omega)).ar (k := 3) (c := 91) (by omega)) ⟨fun f q h2 h3 => ?_, fun q hq2 => ?_⟩ (fun q hq2 => ?_) (fun f q hf q0 q1 => ?_) w2
        · rw [su_ne (Or.inl h3), su_ne (Or.inl h2)]; exact ht.1 f q h2 h3
        · rw [su_ne (Or.inl (by decide)), su_ne (Or.inr (by omega))]; exact ht.2 q hq2
        · rw [su_ne (Or.inr (by omega)), su_ne (Or.inl (by decide))]; exact ht3 q hq2
        · by_cases e : q = p
          · rcases hf with hf | hf
            · rw [hf, e, su_ne (Or.inl (by decide)), su_eq]; exact ha
            · rw [hf, e, su_eq]; exact hc
          · rw [su_ne (Or.inr e), su_ne (Or.inr e)]; exact hq f q hf q0 (by omega)
      have hren : ∀ f : Int, (f = 2 ∨ f = 3) → renewS R s f p = if bitN s p = 1 then 0 else R f p := fun f hf => by
        unfold renewS bitI
        rw [Int.toNat_natCast, Int.toNat_natCast]
        by_cases hb : bitN s p = 1
        · rw [if_pos ⟨hf, by omega, hb⟩, if_pos hb]
        · rw [if_neg (fun z => hb z.2.2), if_neg hb]
      have r2 := hren 2 (Or.inl rfl)
      have r3 := hren 3 (Or.inr rfl)
      refine B_X12_which_64 ⟨fun h => by rw [o2] at h; omega, fun _ => ?_⟩
      rw [o8, o9, w32_of (x := (p : Int) + 1) (by omega) (by omega), bit_and1 (by omega) (by omega)]
      refine ⟨fun hb => ⟨by omega, fun _ => step _ _ (by rw [r2, if_neg hb]) (by rw [r3, if_neg hb]), fun z => absurd z hb⟩, fun hb => ⟨by omega, fun z => absurd hb z, fun _ => step _ _ (by rw [r2, if_pos hb]) (by rw [r3, if_pos hb])⟩⟩
  have key : ∀ (m s : Nat) (b : Int) (R1 σ1 : PS), s + m = 2 ^ (R 0 0).toNat → (s = 0 ∧ b = -1 ∨ (0 ≤ b ∧ b < s)) → eqx whichLM σk σ1 → RowMx R1 σ1 → trialOf R R1 → (∀ q, R 0 0 ≤ q → R1 3 q = R 3 q) → ∀ least : Int, (s ≠ 0 → whR (tryS T E R) k m s b least = whR (tryS T E R) k (2 ^ (R 0 0).toNat - 1) 1 0 (tryS T E R 0)) → XX g true (d + 6) P_X12_which 37 [(2, 88), (0, k), (0, b), (1, least), (9, 0), (0, (s : Int)), (9, 0), (9, 0)] [] 136 σ1 136 Q := by
    intro m
    induction m with
    | zero =>
      intro s b R1 σ1 hs hb hx hR1 ht ht3 least hfin
      have o2 : σ1 88 2 = R 0 0 := by rw [hx 88 (by decide)]; exact hRk.1.1
      refine B_X12_which_37 ⟨fun _ => ?_, fun h => by rw [o2, ish] at h; omega⟩
      refine s_givesRowBack hR1 ok (hkept.x hx (by decide) (by decide) (by decide)) ⟨fun f p h1 h2 h3 => ht.1 f p h2 h3, fun f p hp => ?_⟩ fun σ2 hx2 hR2 => ?_
      · by_cases z2 : f = 2
        · rw [z2]; exact ht.2 p hp
        · by_cases z3 : f = 3
          · rw [z3]; exact ht3 p hp
          · exact ht.1 f p z2 z3
      · have hh : b = whR (tryS T E R) k (2 ^ (R 0 0).toNat - 1) 1 0 (tryS T E R 0) := hfin (by omega)
        rw [hh]
        exact w σ2 (((hx0.x hxk (by decide) (by decide)).x hx (by decide) (by decide)).x hx2 (by decide) (by decide)) hR2
    | succ m ih =>
      intro s b R1 σ1 hs hb hx hR1 ht ht3 least hfin
      have o2 : σ1 88 2 = R 0 0 := by rw [hx 88 (by decide)]; exact hRk.1.1
      have es : ((s + 1 : Nat) : Int) = (s : Int) + 1 := by omega
      have next := ih (s + 1) b
      have next2 := ih (s + 1) s
      rw [es] at next next2
      refine B_X12_which_37 ⟨fun h => by rw [o2, ish] at h; omega, fun _ => ?_⟩
      refine s_ones (by omega) ⟨fun hp => ?_, fun hp => ?_⟩
      · refine fill s (by omega) b least (R 0 0).toNat 0 R1 σ1 (by omega) hx hR1 ht ht3 (fun f q _ q0 q1 => by omega) fun σ2 hx2 hR2 => ?_
        have o22 : σ2 88 2 = R 0 0 := by rw [hx2 88 (by decide)]; exact hRk.1.1
        have hT2 : TxtM 0 T σ2 := hTk.x hx2 fun a a1 a2 => by simp only [List.mem_cons, List.not_mem_nil, or_false]; omega
        have hE2 : BrkM E σ2 := hEk.x hx2 (by decide) (by decide) (by decide) (by decide) (by decide)
        have ht2 : trialOf R (renewS R s) := ⟨fun f p h2 h3 => by unfold renewS; rw [if_neg (fun z => z.1.elim h2 h3)], fun p hp => by unfold renewS; rw [if_neg (by omega)]⟩
        have ht23 : ∀ q, R 0 0 ≤ q → renewS R s 3 q = R 3 q := fun q hq => by unfold renewS; rw [if_neg (by omega)]
        refine B_X12_which_64 ⟨fun _ => ?_, fun h => by rw [o22] at h; omega⟩
        rw [w32_of (x := (s : Int) + 1) (by omega) (by omega)]
        refine s_chanceNow hR2 (renewS_ok ok) hT2 okT hE2 fun σ3 hx3 => ?_
        have hxx := hx2.tr (hx3.mono (L' := whichLM) (by decide))
        have hR3 : RowMx (renewS R s) σ3 := hR2.x hx3 fun a a1 a2 => by simp only [List.mem_cons, List.not_mem_nil, or_false]; omega
        have ev : chanceNowS T E (renewS R s) = tryS T E R s := rfl
        rw [ev]
        refine ⟨fun hb1 => ?_, fun hb1 => ⟨fun hl => ?_, fun hl => ⟨fun hne => ?_, fun he => s_ones (by omega) ?_⟩⟩⟩
        · have hs0 : s = 0 := by omega
          subst hs0
          refine next2 _ σ3 (by omega) (Or.inr ⟨by omega, by omega⟩) hxx hR3 ht2 ht23 _ fun _ => ?_
          rw [show m = 2 ^ (R 0 0).toNat - 1 by omega]
          rfl
        · have hs0 : s ≠ 0 := by omega
          have hf := hfin hs0
          rw [whR_succ] at hf
          simp only [Int.toNat_natCast] at hf
          rw [if_neg (by omega)] at hf
          exact next _ σ3 (by omega) (Or.inr ⟨by omega, by omega⟩) hxx hR3 ht2 ht23 _ fun _ => hf
        · have hs0 : s ≠ 0 := by omega
          have hf := hfin hs0
          rw [whR_succ] at hf
          simp only [Int.toNat_natCast] at hf
          rw [if_pos ⟨hp, Or.inl (by omega)⟩] at hf
          exact next2 _ σ3 (by omega) (Or.inr ⟨by omega, by omega⟩) hxx hR3 ht2 ht23 _ fun _ => hf
        · have hs0 : s ≠ 0 := by omega
          have hf := hfin hs0
          rw [whR_succ] at hf
          simp only [Int.toNat_natCast] at hf
          obtain ⟨bn, hbn⟩ : ∃ bn : Nat, b = (bn : Int) := ⟨b.toNat, by omega⟩
          rw [hbn, Int.toNat_natCast] at hf
          rw [hbn] at next ⊢
          refine s_ones (by omega) ⟨fun hpb => ?_, fun hpb => ?_⟩
          · rw [if_pos ⟨hp, Or.inr ⟨he, by omega⟩⟩] at hf
            exact next2 _ σ3 (by omega) (Or.inr ⟨by omega, by omega⟩) hxx hR3 ht2 ht23 _ fun _ => hf
          · rw [if_neg (by omega)] at hf
            exact next _ σ3 (by omega) (Or.inr ⟨by omega, by omega⟩) hxx hR3 ht2 ht23 _ fun _ => hf
      · have hs0 : s ≠ 0 := fun z => by subst z; rw [pcN_0] at hp; omega
        have hf := hfin hs0
        rw [whR_succ] at hf
        simp only [Int.toNat_natCast] at hf
        rw [if_neg (fun z => by omega)] at hf
        rw [w32_of (x := (s : Int) + 1) (by omega) (by omega)]
        exact next _ σ1 (by omega) (Or.inr ⟨by omega, by omega⟩) hx hR1 ht ht3 _ fun _ => hf
  exact key (2 ^ (R 0 0).toNat) 0 (-1) R σk (by omega) (Or.inl ⟨rfl, rfl⟩) eqx.rf hRk ⟨fun _ _ _ _ => rfl, fun _ _ => rfl⟩ (fun _ _ => rfl) 0 (fun z => absurd rfl z)
end PWHICHM
