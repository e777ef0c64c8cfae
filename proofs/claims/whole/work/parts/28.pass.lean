/-! A DAY, the class: passDay -/
def EnC (q : Int) (E : Int → Int) (σ : PS) : Prop := ∀ k : Nat, k < 256 → σ (q + 1) k = E k
theorem EnC.x {q : Int} {E : Int → Int} {L : List Int} {σ σ' : PS} (h : EnC q E σ) (hx : eqx L σ σ') (hq : q + 1 ∉ L) : EnC q E σ' := fun k hk => (hx (q + 1) hq k).trans (h k hk)
theorem failsB_E {E E' : Int → Int} {f : Nat → Int} {n : Nat} (h : ∀ k : Nat, k < 256 → E k = E' k) : failsB E f n ↔ failsB E' f n := by
  constructor
  · rintro ⟨p, hp, hE⟩
    exact ⟨p, hp, by rw [← h _ (lastB_256 f (p + 1))]; exact hE⟩
  · rintro ⟨p, hp, hE⟩
    exact ⟨p, hp, by rw [h _ (lastB_256 f (p + 1))]; exact hE⟩
theorem wears_93 {u : Int → Int} : ∀ (n : Nat) (p : Int) (R : PS), wears u n p R 9 3 = R 9 3 := by
  intro n
  induction n with
  | zero => intro p R1; rfl
  | succ n ih =>
    intro p R1
    rw [wears_succ, ih]
    unfold wearS
    split
    · rfl
    split
    · simp [su]
    split <;> simp [su]
theorem wornS_93 {T : PS} {E : Int → Int} {R : PS} : wornS T E R 9 3 = R 9 3 := by
  unfold wornS harmS
  split
  · simp [su, nextDay, wears_93]
  · simp [su, nextDay, wears_93]
section PPASS
variable {g : PG} {d : Nat} {Q : Int → PS → Prop}
/-- does the row fail -/
theorem s_breaksC {r q : Int} {E : Int → Int} {R σ : PS} (hr : RowAt r) (hR : RowC r R σ) (ok : RSok R) (hq : BrkAt q) (hE : EnC q E σ) (w1 : failS E R → Q 1 σ) (w0 : ¬ failS E R → Q 0 σ) : XX g true (d + 2) P_X1_breaksRow 0 [(2, q), (1, σ r 5), (9, 0), (0, σ r 0), (9, 0), (9, 0)] [] 136 σ 136 Q := by
  have k1 := ok.1
  obtain ⟨N, e1, hN, hb⟩ := hR.2.2.1
  rw [e1, hR.1.1, show R 0 0 = (((R 0 0).toNat : Nat) : Int) by omega]
  have hf : failsB (fun k => σ (q + 1) k) (fun p => bitN N p) (R 0 0).toNat ↔ failS E R := by
    unfold failS
    refine (failsB_E (E' := E) fun k hk => hE k hk).trans (failsB_congr fun j hj => ?_)
    exact (hb j (by omega)).symm
  refine s_breaksRow hq hN (by omega) ?_
  by_cases h : failS E R
  · rw [if_pos (hf.mpr h)]; exact w1 h
  · rw [if_neg (fun z => h (hf.mp z))]; exact w0 h
theorem s_passDay {r q qr : Int} {E : Int → Int} {R T Tr σ : PS} {okn : Int → Bool} (hr : RowAt r) (hR : RowC r R σ) (ok : RSok R) (hd : R 0 2 < 20000) (hq : TxtAt q) (hT : TxtC (q + 1) T σ) (okT : TxtOK oknL T) (hqr : LinAt qr) (hTr : TxtC qr Tr σ) (okTr : TxtOK okn Tr) (hE : EnC (q + 13) E σ) (w : ∀ σ', eqx (rowL r ++ [68, 69, 84, 85]) σ σ' → RowC r (dayS T Tr E R) σ' → Q 0 σ') : XX g true (d + 4) P_X2_passDay 0 [(2, 83), (2, r), (2, q), (2, qr), (9, 0)] [] 136 σ 136 Q := by
  have k1 := ok.1
  have k9 := ok.2.2.2.2.2.1
  have hr3 : r = 43 ∨ r = 51 ∨ r = 59 := hr
  have hq3 : q + 14 < 43 ∧ 0 ≤ q := by have := hq; unfold TxtAt at this; omega
  have hqr3 : qr + 3 < 43 ∧ 0 ≤ qr := by have := hqr; unfold LinAt at this; omega
  have hmr : ∀ {σ1 σ2 : PS}, eqx (rowL r) σ1 σ2 → eqx (rowL r ++ [68, 69, 84, 85]) σ1 σ2 := fun h => h.mono fun a ha => List.mem_append_left _ ha
  have hout : ∀ a : Int, 0 ≤ a → a < 43 → a ∉ rowL r ++ [68, 69, 84, 85] := fun a a0 a1 z => by
    rcases List.mem_append.mp z with z | z
    · have := mem_rowL.mp z; omega
    · simp only [List.mem_cons, List.not_mem_nil, or_false] at z; omega
  have hTl : ∀ {σ1 : PS}, eqx (rowL r ++ [68, 69, 84, 85]) σ σ1 → TxtC (q + 1) T σ1 := fun hx => hT.same fun a a1 a2 j => hx a (hout a (by omega) (by omega)) j
  have hTlr : ∀ {σ1 : PS}, eqx (rowL r ++ [68, 69, 84, 85]) σ σ1 → TxtC qr Tr σ1 := fun hx => hTr.same fun a a1 a2 j => hx a (hout a (by omega) (by omega)) j
  -- behind the harm
  have last : ∀ σ1, eqx (rowL r ++ [68, 69, 84, 85]) σ σ1 → RowC r (wornS T E R) σ1 → ((σ1 (r + 7) 3 ≤ 0 → Q 0 σ1) ∧ (0 < σ1 (r + 7) 3 → σ1 (r + 7) 3 ≠ 0 ∧ ((irem (σ1 r 11) (σ1 (r + 7) 3) ≠ 0 → Q 0 σ1) ∧ (irem (σ1 r 11) (σ1 (r + 7) 3) = 0 → XX g true (d + 3) P_X2_come 0 [(2, 83), (2, r), (2, qr), (9, 0), (9, 0)] [] 136 σ1 136 (fun _ σ4 => Q 0 σ4))))) := by
    intro σ1 hx hR1
    obtain ⟨okw, w1, w2⟩ := wornS_ok (T := T) (W := E) ok hd
    have e3 : σ1 (r + 7) 3 = R 9 3 := (hR1.2.2.2.2.2 3 (by omega) (by omega)).trans wornS_93
    have e11 : σ1 r 11 = wornS T E R 0 2 := hR1.1.2.2.1
    rw [e3, e11]
    unfold dayS at w
    rw [wornS_93] at w
    refine ⟨fun h => by omega, fun _ => ⟨by omega, fun hn => ?_, fun hn => ?_⟩⟩
    · rw [if_neg hn] at w
      exact w _ hx hR1
    · rw [if_pos hn] at w
      refine s_come hr hR1 okw hqr (hTlr hx) okTr fun σ2 hx2 hR2 => ?_
      exact w _ (hx.tr (hx2.mono fun a ha => by
        rcases List.mem_append.mp ha with z | z
        · exact List.mem_append_left _ z
        · refine List.mem_append_right _ ?_
          simp only [List.mem_cons, List.not_mem_nil, or_false] at z ⊢
          omega)) hR2
  -- the wearing
  have wear : ∀ (n : Nat) (p : Int) (R1 σ1 : PS), 0 ≤ p → p + n = R 0 0 → RSok R1 → R1 0 0 = R 0 0 → R1 0 2 = R 0 2 → RowC r R1 σ1 → eqx (rowL r ++ [68, 69, 84, 85]) σ σ1 → (∀ p : Int, 0 ≤ p → p < R 0 0 → σ1 84 p = goesS T R p (besS R p) 0) → wears (fun p => goesS T R p (besS R p) 0) n p R1 = wears (fun p => goesS T R p (besS R p) 0) (R 0 0).toNat 0 R → XX g true (d + 4) P_X2_passDay 52 [(2, 83), (2, r), (2, q), (2, qr), (0, p)] [] 136 σ1 136 Q := by
    intro n
    induction n with
    | zero =>
      intro p R1 σ1 h0 hp ok1 hn1 hd1 hR1 hx hu hw
      have e0 : σ1 r 0 = R 0 0 := by rw [hR1.1.1]; exact hn1
      refine B_X2_passDay_52 hr hq hqr ⟨fun _ => ?_, fun h => by rw [e0] at h; omega⟩
      have hw1 : wears (fun p => goesS T R p (besS R p) 0) (R 0 0).toNat 0 R = R1 := hw.symm
      have e11 : σ1 r 11 = R1 0 2 := hR1.1.2.2.1
      have hR2 : RowC r (nextDay R1) (su σ1 r 11 (w32 (σ1 r 11 + 1))) := by
        rw [e11]
        exact hR1.sc (k := 2) (j := 11) (by omega)
      have hx2 : eqx (rowL r ++ [68, 69, 84, 85]) σ (su σ1 r 11 (w32 (σ1 r 11 + 1))) := hx.su (List.mem_append_left _ (mem_rowL.mpr (by omega)))
      have q5 : su σ1 r 11 (w32 (σ1 r 11 + 1)) r 5 = σ1 r 5 := su_ne (Or.inr (by decide))
      have q0 : su σ1 r 11 (w32 (σ1 r 11 + 1)) r 0 = σ1 r 0 := su_ne (Or.inr (by decide))
      rw [← q5, ← q0]
      generalize su σ1 r 11 (w32 (σ1 r 11 + 1)) = σ2 at hR2 hx2
      have okn := (nextDay_ok ok1 (by omega)).1
      have hworn : wornS T E R = harmS E (nextDay R1) := by unfold wornS; rw [hw1]
      rw [hworn] at last
      unfold harmS at last
      refine s_breaksC hr hR2 okn (Txt_breaks hq) (hE.x hx2 (hout _ (by omega) (by omega))) (fun hf => ⟨fun z => by omega, fun _ => ?_⟩) (fun hf => ⟨fun _ => ?_, fun z => absurd rfl z⟩)
      · rw [if_pos hf] at last
        have e12 : σ2 r 12 = nextDay R1 0 3 := hR2.1.2.2.2.1
        have e13 : σ2 r 13 = nextDay R1 0 4 := hR2.1.2.2.2.2.1
        have e5 : σ2 (r + 7) 5 = nextDay R1 9 5 := hR2.2.2.2.2.2 5 (by omega) (by omega)
        have h9 := last (su (su σ2 r 12 (w32 (nextDay R1 0 3 + 1))) r 13 (w32 (nextDay R1 0 4 + nextDay R1 9 5))) ((hx2.su (List.mem_append_left _ (mem_rowL.mpr (by omega)))).su (List.mem_append_left _ (mem_rowL.mpr (by omega)))) ((hR2.sc (k := 3) (j := 12) (by omega)).sc (k := 4) (j := 13) (by omega))
        have s7 : ∀ j v v', su (su σ2 r 12 v) r 13 v' (r + 7) j = σ2 (r + 7) j := fun j v v' => by rw [su_ne (Or.inl (by omega)), su_ne (Or.inl (by omega))]
        have s11 : ∀ v v', su (su σ2 r 12 v) r 13 v' r 11 = σ2 r 11 := fun v v' => by rw [su_ne (Or.inr (by omega)), su_ne (Or.inr (by omega))]
        rw [s7, s11] at h9
        rw [e12, e13, e5]
        exact h9
      · rw [if_neg hf] at last
        exact last σ2 hx2 hR2
    | succ n ih =>
      intro p R1 σ1 h0 hp ok1 hn1 hd1 hR1 hx hu hw
      have e0 : σ1 r 0 = R 0 0 := by rw [hR1.1.1]; exact hn1
      rw [wears_succ] at hw
      obtain ⟨v1, v2, v3⟩ := wearS_ok (u := fun p => goesS T R p (besS R p) 0) ok1 h0 (by omega)
      have next := fun σ2 hR2 hx2 hu2 => ih (p + 1) (wearS (fun p => goesS T R p (besS R p) 0) p R1) σ2 (by omega) (by omega) v1 (v2.trans hn1) (v3.trans hd1) hR2 hx2 hu2 hw
      clear ih
      refine B_X2_passDay_52 hr hq hqr ⟨fun h => by rw [e0] at h; omega, fun h => ?_⟩
      rw [w32_of (x := p + 1) (by omega) (by omega)]
      have h01 := (ok1.2.2.1 p h0 (by omega)).2.1
      refine s_bitC hR1.2.2.1 h0 (by omega) ⟨fun hz => ?_, fun hz => ?_⟩
      · refine next σ1 ?_ hx hu
        have e : wearS (fun p => goesS T R p (besS R p) 0) p R1 = R1 := by unfold wearS; rw [if_pos (by omega)]
        rw [e]
        exact hR1
      · refine s_wear (u := fun p => goesS T R p (besS R p) 0) hr hR1 ok1 h0 (by omega) hz (hu p h0 (by omega)) fun σ2 hx2 hR2 => ?_
        refine next σ2 hR2 (hx.tr (hmr hx2)) fun p2 p0 p1 => ?_
        rw [hx2 84 (fun z => by have := mem_rowL.mp z; omega)]
        exact hu p2 p0 p1
  -- the chances
  have first : ∀ (n : Nat) (p : Int) (σ1 : PS), 0 ≤ p → p + n = R 0 0 → eqx [68, 69, 84] σ σ1 → (∀ p2 : Int, 0 ≤ p2 → p2 < p → σ1 84 p2 = goesS T R p2 (besS R p2) 0) → XX g true (d + 4) P_X2_passDay 3 [(2, 83), (2, r), (2, q), (2, qr), (0, p)] [] 136 σ1 136 Q := by
    intro n
    induction n with
    | zero =>
      intro p σ1 h0 hk hx hu
      have hR1 : RowC r R σ1 := hR.same fun a a1 a2 j => hx a (by simp only [List.mem_cons, List.not_mem_nil, or_false]; omega) j
      have e : p = R 0 0 := by omega
      subst e
      refine B_X2_passDay_3 hr hq hqr ⟨fun _ => ?_, fun h => by rw [hR1.1.1] at h; omega⟩
      exact wear (R 0 0).toNat 0 R σ1 (by omega) (by omega) ok rfl rfl hR1 (hx.mono fun a ha => List.mem_append_right _ (by simp only [List.mem_cons, List.not_mem_nil, or_false] at ha ⊢; omega)) hu rfl
    | succ n ih =>
      intro p σ1 h0 hk hx hu
      have hR1 : RowC r R σ1 := hR.same fun a a1 a2 j => hx a (by simp only [List.mem_cons, List.not_mem_nil, or_false]; omega) j
      have hT1 : TxtC (q + 1) T σ1 := hT.same fun a a1 a2 j => hx a (by simp only [List.mem_cons, List.not_mem_nil, or_false]; omega) j
      refine B_X2_passDay_3 hr hq hqr ⟨fun h => by rw [hR1.1.1] at h; omega, fun h => ?_⟩
      refine s_besC hR1 ok h0 (by omega) (s_goes hr hR1 ok (Txt_law hq) hT1 okT h0 (by omega) fun σ2 hx2 => ⟨by omega, ?_⟩)
      rw [w32_of (by omega) (by omega)]
      refine ih (p + 1) _ (by omega) (by omega) ((hx.tr (hx2.mono (by decide))).su (by decide)) fun p2 p0 p1 => ?_
      by_cases e : p2 = p
      · subst e; exact su_eq
      · rw [su_ne (Or.inr e), hx2 84 (by decide)]
        exact hu p2 p0 (by omega)
  exact B_X2_passDay_0 hr hq hqr (first (R 0 0).toNat 0 σ (by omega) (by omega) eqx.rf fun p p0 p1 => by omega)
end PPASS
