/-! WHICH TO CHANGE NOW -/
def renewS (R : PS) (s : Int) : PS := fun f p => if (f = 2 ∨ f = 3) ∧ (0 ≤ p ∧ p < R 0 0) ∧ bitI s p = 1 then 0 else R f p
noncomputable def tryS (T : PS) (E : Int → Int) (R : PS) (s : Int) : Int := chanceNowS T E (renewS R s)
def whR (v : Int → Int) (k : Int) : Nat → Int → Int → Int → Int
  | 0, _, best, _ => best
  | m + 1, s, best, least => if (pcN s.toNat : Int) ≤ k ∧ (v s < least ∨ (v s = least ∧ pcN s.toNat < pcN best.toNat)) then whR v k m (s + 1) s (v s) else whR v k m (s + 1) best least
theorem whR_succ (v : Int → Int) (k : Int) (m : Nat) (s best least : Int) : whR v k (m + 1) s best least = if (pcN s.toNat : Int) ≤ k ∧ (v s < least ∨ (v s = least ∧ pcN s.toNat < pcN best.toNat)) then whR v k m (s + 1) s (v s) else whR v k m (s + 1) best least := rfl
noncomputable def whichA (T : PS) (E : Int → Int) (R : PS) (k : Int) : Int := if 12 < R 0 0 then -1 else if 0 ≤ k ∧ k ≤ 4 then whR (tryS T E R) k (2 ^ (R 0 0).toNat - 1) 1 0 (tryS T E R 0) else -1
theorem renewS_ok {R : PS} {s : Int} (ok : RSok R) : RSok (renewS R s) := by
  obtain ⟨k1, k2, k3, k4, k5, k6, k7, k8⟩ := ok
  have e : ∀ f p, f ≠ 2 → f ≠ 3 → renewS R s f p = R f p := fun f p h2 h3 => by unfold renewS; rw [if_neg (fun z => z.1.elim h2 h3)]
  refine ⟨by rw [e 0 0 (by decide) (by decide)]; exact k1, by rw [e 0 2 (by decide) (by decide)]; exact k2, fun p h0 h1 => ?_, fun p h0 h1 => ?_, by rw [e 9 1 (by decide) (by decide)]; exact k5, by rw [e 9 3 (by decide) (by decide)]; exact k6, by rw [e 9 6 (by decide) (by decide)]; exact k7, by rw [e 9 7 (by decide) (by decide)]; exact k8⟩
  · rw [e 1 p (by decide) (by decide), e 5 p (by decide) (by decide), e 4 p (by decide) (by decide)]
    obtain ⟨m1, m2, m3, m4⟩ := k3 p h0 h1
    refine ⟨m1, ?_, m3, m4⟩
    unfold renewS
    split
    · exact Or.inl rfl
    · exact m2
  · rw [e 0 0 (by decide) (by decide)] at h0
    unfold renewS
    rw [if_neg (by omega)]
    exact k4 p h0 h1
theorem renewS_0 (R : PS) : renewS R 0 = R := by
  funext f p
  unfold renewS
  rw [if_neg]
  rintro ⟨-, -, h⟩
  have : bitI 0 p = 0 := bitN_zero _
  omega
/-- a row like R but in ages and gone places -/
def trialOf (R R1 : PS) : Prop := (∀ f p, f ≠ 2 → f ≠ 3 → R1 f p = R f p) ∧ ∀ p, R 0 0 ≤ p → R1 2 p = R 2 p
theorem bitN_andn {a s q : Nat} (hs : s < 2 ^ 64) (hq : q < 64) : bitN (a &&& (2 ^ 64 - 1 - s)) q = if bitN s q = 1 then 0 else bitN a q := by
  have e : 2 ^ 64 - 1 - s = 2 ^ 64 - (s + 1) := by omega
  unfold bitN
  rw [Nat.testBit_and, e, Nat.testBit_two_pow_sub_succ hs]
  cases s.testBit q <;> simp [hq]
section PWHICH
variable {g : PG} {d : Nat} {Q : Int → PS → Prop}
theorem s_renew {s : Nat} {R R1 σ : PS} (hR : RowC 43 R σ) (ok : RSok R) (h1 : RowC 59 R1 σ) (ht : trialOf R R1) (hs : s < 2 ^ 60) (w : ∀ σ', eqx (rowL 59) σ σ' → RowC 59 (renewS R s) σ' → Q 0 σ') : XX g true (d + 1) P_X10_renew 0 [(2, 59), (2, 43), (0, (s : Int)), (9, 0)] [] 136 σ 136 Q := by
  have k1 := ok.1
  obtain ⟨N, eN, hN, hb⟩ := hR.2.2.1
  have hland : land (σ 43 5) (lxor (s : Int) (-1)) = ((N &&& (2 ^ 64 - 1 - s) : Nat) : Int) := by rw [eN]; exact landn_nat (by omega) (by omega)
  have hbits : BitsC (land (σ 43 5) (lxor (s : Int) (-1))) (renewS R s 3) := by
    refine ⟨_, hland, Nat.lt_of_le_of_lt Nat.and_le_left hN, fun q hq => ?_⟩
    rw [bitN_andn (by omega) (by omega), ← hb q hq]
    unfold renewS bitI
    rw [Int.toNat_natCast, Int.toNat_natCast]
    by_cases h : bitN s q = 1
    · by_cases hqn : (q : Int) < R 0 0
      · rw [if_pos ⟨Or.inr rfl, ⟨by omega, hqn⟩, h⟩, if_pos h]
      · rw [if_neg (fun z => hqn z.2.1.2), if_pos h]
        exact ok.2.2.2.1 q (by omega) (by omega)
    · rw [if_neg (fun z => h z.2.2), if_neg h]
  refine B_X10_renew_0 (Or.inr (Or.inr rfl)) (Or.inl rfl) ?_
  have key : ∀ (m : Nat) (p : Int) (R2 σ1 : PS), 0 ≤ p → p + m = R 0 0 → eqx (rowL 59) σ σ1 → RowC 59 R2 σ1 → (∀ f q, f ≠ 2 → f ≠ 3 → R2 f q = R f q) → (∀ q, R2 3 q = renewS R s 3 q) → (∀ q, (q < p ∧ 0 ≤ q) ∨ R 0 0 ≤ q → R2 2 q = renewS R s 2 q) → XX g true (d + 1) P_X10_renew 17 [(2, 59), (2, 43), (0, (s : Int)), (0, p)] [] 136 σ1 136 Q := by
    intro m
    induction m with
    | zero =>
      intro p R2 σ1 h0 hp hx hR2 e1 e3 e2
      have o0 : σ1 43 0 = R 0 0 := by rw [hx 43 (fun z => by have := mem_rowL.mp z; omega)]; exact hR.1.1
      refine B_X10_renew_17 (Or.inr (Or.inr rfl)) (Or.inl rfl) ⟨fun _ => w σ1 hx (hR2.eq ⟨fun k a b => ?_, fun f q a b c e => ?_, fun k a b => ?_, fun k a b => ?_⟩), fun h => by rw [o0] at h; omega⟩
      · rw [e1 0 k (by decide) (by decide)]; unfold renewS; rw [if_neg (by omega)]
      · by_cases z2 : f = 2
        · rw [z2, e2 q (by omega)]
        · by_cases z3 : f = 3
          · rw [z3, e3]
          · rw [e1 f q z2 z3]; unfold renewS; rw [if_neg (by omega)]
      · rw [e1 7 k (by decide) (by decide), e1 8 k (by decide) (by decide)]
        unfold renewS
        rw [if_neg (by omega), if_neg (by omega)]
        exact ⟨rfl, rfl⟩
      · rw [e1 9 k (by decide) (by decide)]; unfold renewS; rw [if_neg (by omega)]
    | succ m ih =>
      intro p R2 σ1 h0 hp hx hR2 e1 e3 e2
      have o : ∀ j, σ1 43 j = σ 43 j := hx 43 (fun z => by have := mem_rowL.mp z; omega)
      have o45 : σ1 45 p = R 2 p := by rw [hx 45 (fun z => by have := mem_rowL.mp z; omega)]; exact (hR.2.1 p h0 (by omega)).2.1
      have o0 : σ1 43 0 = R 0 0 := by rw [o]; exact hR.1.1
      obtain ⟨k, rfl⟩ : ∃ k : Nat, p = (k : Int) := ⟨p.toNat, by omega⟩
      have step : ∀ v : Int, v = renewS R s 2 k → XX g true (d + 1) P_X10_renew 17 [(2, 59), (2, 43), (0, (s : Int)), (0, (k : Int) + 1)] [] 136 (su σ1 61 k v) 136 Q := by
        intro v hv
        refine ih ((k : Int) + 1) (su R2 2 k v) _ (by omega) (by omega) (hx.su (mem_rowL.mpr (by decide))) (hR2.ar (k := 2) (o := 2) (by omega)) (fun f q h2 h3 => by rw [su_ne (Or.inl h2)]; exact e1 f q h2 h3) (fun q => by rw [su_ne (Or.inl (by decide))]; exact e3 q) fun q hq => ?_
        by_cases e : q = k
        · rw [e, su_eq]; exact hv
        · rw [su_ne (Or.inr e)]; exact e2 q (by omega)
      refine B_X10_renew_17 (Or.inr (Or.inr rfl)) (Or.inl rfl) ⟨fun h => by rw [o0] at h; omega, fun _ => ?_⟩
      rw [w32_of (x := (k : Int) + 1) (by omega) (by omega)]
      refine s_bit (by omega) (by omega) ⟨fun hz => ⟨by omega, ?_⟩, fun hz => ⟨by omega, ?_⟩⟩
      · rw [show (43 + 2 : Int) = 45 by decide, o45]
        refine step _ ?_
        unfold renewS bitI
        rw [Int.toNat_natCast, Int.toNat_natCast, if_neg (fun z => hz z.2.2)]
      · refine step _ ?_
        unfold renewS bitI
        rw [Int.toNat_natCast, Int.toNat_natCast, if_pos ⟨Or.inl rfl, ⟨by omega, by omega⟩, hz⟩]
  refine key (R 0 0).toNat 0 _ _ (by omega) (by omega) (eqx.rf.su (mem_rowL.mpr (by decide))) (h1.gone hbits) (fun f q h2 h3 => ?_) (fun q => ?_) fun q hq => ?_
  · simp only [h3, if_false]; exact ht.1 f q h2 h3
  · simp
  · simp only [Int.reduceEq, if_false]
    rw [ht.2 q (by omega)]
    unfold renewS
    rw [if_neg (by omega)]
theorem s_bestChange {k : Int} {E : Int → Int} {R T T1 T2 σ : PS} (hR : RowC 43 R σ) (ok : RSok R) (hA : TxtA 13 T T1 T2 E σ) (okT : TxtOK oknL T) (hO : OddAt σ) (hH : HoldAt σ) (hk : 0 ≤ k ∧ k ≤ 4) (hn12 : R 0 0 ≤ 12) (w : ∀ σ', eqx (rowL 59 ++ [68, 69, 70, 71, 72, 73]) σ σ' → OddAt σ' → HoldAt σ' → Q (whR (tryS T E R) k (2 ^ (R 0 0).toNat - 1) 1 0 (tryS T E R 0)) σ') : XX g true (d + 5) P_X10_bestChange 0 [(2, 86), (0, k), (2, 43), (2, 59), (2, 13), (9, 0), (9, 0), (9, 0), (9, 0), (9, 0), (9, 0), (9, 0)] [] 136 σ 136 Q := by
  have k1 := ok.1
  have hn : R 0 0 = ((R 0 0).toNat : Int) := by omega
  have hK : 2 ^ (R 0 0).toNat ≤ 2 ^ 12 := Nat.pow_le_pow_right (by decide) (by omega)
  have hK0 := Nat.two_pow_pos (R 0 0).toNat
  have ish : ishl 1 (R 0 0) = ((2 ^ (R 0 0).toNat : Nat) : Int) := by
    have h9 := shl1_nat (k := (R 0 0).toNat) (by omega)
    rw [← hn] at h9
    exact h9
  have mr : ∀ {σ1 σ2 : PS}, eqx (rowL 59) σ1 σ2 → eqx (rowL 59 ++ [68, 69, 70, 71, 72, 73]) σ1 σ2 := fun h => h.mono fun a ha => List.mem_append_left _ ha
  have mo : ∀ {σ1 σ2 : PS}, eqx [68, 69, 70, 71, 72, 73] σ1 σ2 → eqx (rowL 59 ++ [68, 69, 70, 71, 72, 73]) σ1 σ2 := fun h => h.mono fun a ha => List.mem_append_right _ ha
  have out : ∀ a : Int, a < 59 → a ∉ rowL 59 ++ [68, 69, 70, 71, 72, 73] := fun a ha z => by
    rcases List.mem_append.mp z with z | z
    · have := mem_rowL.mp z; omega
    · simp only [List.mem_cons, List.not_mem_nil, or_false] at z; omega
  have odd : ∀ {σ1 σ2 : PS}, eqx (rowL 59) σ1 σ2 → OddAt σ1 → HoldAt σ1 → OddAt σ2 ∧ HoldAt σ2 := fun h a b => by
    have e : ∀ j, _ := h 70 (fun z => by have := mem_rowL.mp z; omega)
    unfold OddAt HoldAt at *
    rw [e, e, e, e]
    exact ⟨a, b⟩
  have key : ∀ (m s b : Nat) (R1 σ1 : PS), s + m = 2 ^ (R 0 0).toNat → b < s → eqx (rowL 59 ++ [68, 69, 70, 71, 72, 73]) σ σ1 → OddAt σ1 → HoldAt σ1 → RowC 59 R1 σ1 → trialOf R R1 → ∀ least : Int, whR (tryS T E R) k m s b least = whR (tryS T E R) k (2 ^ (R 0 0).toNat - 1) 1 0 (tryS T E R 0) → XX g true (d + 5) P_X10_bestChange 23 [(2, 86), (0, k), (2, 43), (2, 59), (2, 13), (0, (b : Int)), (1, least), (9, 0), (0, (s : Int)), (9, 0), (9, 0), (9, 0)] [] 136 σ1 136 Q := by
    intro m
    induction m with
    | zero =>
      intro s b R1 σ1 hs hb hx hO1 hH1 hR1 ht least hfin
      have o0 : σ1 43 0 = R 0 0 := by rw [hx 43 (out 43 (by decide))]; exact hR.1.1
      refine B_X10_bestChange_23 (Or.inl rfl) (Or.inr (Or.inr rfl)) (Or.inl rfl) ⟨fun _ => ?_, fun h => by rw [o0, ish] at h; omega⟩
      have : (b : Int) = _ := hfin
      rw [this]
      exact w σ1 hx hO1 hH1
    | succ m ih =>
      intro s b R1 σ1 hs hb hx hO1 hH1 hR1 ht least hfin
      have o0 : σ1 43 0 = R 0 0 := by rw [hx 43 (out 43 (by decide))]; exact hR.1.1
      have hR43 : RowC 43 R σ1 := hR.x hx fun a a1 a2 => out a (by omega)
      have es : ((s + 1 : Nat) : Int) = (s : Int) + 1 := by omega
      rw [whR_succ] at hfin
      simp only [Int.toNat_natCast] at hfin
      have next := ih (s + 1) b
      have next2 := ih (s + 1) s
      rw [es] at next next2
      refine B_X10_bestChange_23 (Or.inl rfl) (Or.inr (Or.inr rfl)) (Or.inl rfl) ⟨fun h => by rw [o0, ish] at h; omega, fun _ => ?_⟩
      rw [w32_of (x := (s : Int) + 1) (by omega) (by omega)]
      refine s_bitCount (by omega) ⟨fun hp => ?_, fun hp => ?_⟩
      · refine s_renew hR43 ok hR1 ht (by omega) fun σ2 hx2 hR2 => ?_
        obtain ⟨hO2, hH2⟩ := odd hx2 hO1 hH1
        have hxx := hx.tr (mr hx2)
        have hA2 := hA.x hxx fun a a1 a2 => out a (by omega)
        have ht2 : trialOf R (renewS R s) := ⟨fun f p h2 h3 => by unfold renewS; rw [if_neg (fun z => z.1.elim h2 h3)], fun p hp => by unfold renewS; rw [if_neg (by omega)]⟩
        refine s_ofNow (E := E) (T := T) (Or.inr (Or.inr rfl)) hR2 (renewS_ok ok) (Or.inl rfl) hA2.1 okT hA2.2.2.2 hO2 hH2 fun σ3 hx3 hO3 hH3 => ?_
        have hxy := hxx.tr (mo hx3)
        have hR3 : RowC 59 (renewS R s) σ3 := hR2.x hx3 fun a a1 a2 z => by simp only [List.mem_cons, List.not_mem_nil, or_false] at z; omega
        show (tryS T E R s < least → _) ∧ _
        have ev : chanceNowS T E (renewS R s) = tryS T E R s := rfl
        rw [ev]
        refine ⟨fun hl => ?_, fun hl => ⟨fun hne => ?_, fun he => s_bitCount (by omega) ⟨fun hpb => ?_, fun hpb => ?_⟩⟩⟩
        · rw [if_pos ⟨hp, Or.inl hl⟩] at hfin
          exact next2 _ σ3 (by omega) (by omega) hxy hO3 hH3 hR3 ht2 _ hfin
        · rw [if_neg (by omega)] at hfin
          exact next _ σ3 (by omega) (by omega) hxy hO3 hH3 hR3 ht2 _ hfin
        · rw [if_neg (by omega)] at hfin
          exact next _ σ3 (by omega) (by omega) hxy hO3 hH3 hR3 ht2 _ hfin
        · rw [if_pos ⟨hp, Or.inr ⟨he, by omega⟩⟩] at hfin
          exact next2 _ σ3 (by omega) (by omega) hxy hO3 hH3 hR3 ht2 _ hfin
      · rw [if_neg (fun z => by omega)] at hfin
        exact next _ σ1 (by omega) (by omega) hx hO1 hH1 hR1 ht _ hfin
  refine B_X10_bestChange_0 (Or.inl rfl) (Or.inr (Or.inr rfl)) (Or.inl rfl) (s_copy59_43 hR fun σ1 hx1 hR1 => ?_)
  obtain ⟨hO1, hH1⟩ := odd hx1 hO hH
  have hA1 := hA.x (mr hx1) fun a a1 a2 => out a (by omega)
  have hR43 : RowC 43 R σ1 := hR.x (mr hx1) fun a a1 a2 => out a (by omega)
  refine s_ofNow (E := E) (T := T) (Or.inl rfl) hR43 ok (Or.inl rfl) hA1.1 okT hA1.2.2.2 hO1 hH1 fun σ2 hx2 hO2 hH2 => ?_
  have e0 : chanceNowS T E R = tryS T E R 0 := by unfold tryS; rw [renewS_0]
  rw [e0]
  exact key (2 ^ (R 0 0).toNat - 1) 1 0 R σ2 (by omega) (by omega) ((mr hx1).tr (mo hx2)) hO2 hH2 (hR1.x hx2 fun a a1 a2 z => by simp only [List.mem_cons, List.not_mem_nil, or_false] at z; omega) ⟨fun _ _ _ _ => rfl, fun _ _ => rfl⟩ _ rfl
theorem s_whichC {k : Int} {E : Int → Int} {R T T1 T2 σ : PS} (hR : RowC 43 R σ) (ok : RSok R) (hA : TxtA 13 T T1 T2 E σ) (okT : TxtOK oknL T) (hO : OddAt σ) (hH : HoldAt σ) (w : ∀ σ', eqx (rowL 59 ++ [68, 69, 70, 71, 72, 73]) σ σ' → OddAt σ' → HoldAt σ' → Q (whichA T E R k) σ') : XX g true (d + 6) P_X11_which 0 [(2, 0), (0, k)] [] 136 σ 136 Q := by
  refine B_X11_which_0 ?_
  rw [hR.1.1]
  unfold whichA at w
  refine ⟨fun h => ?_, fun h => ⟨fun h2 => ?_, fun h2 => ⟨fun h3 => ?_, fun h3 => ?_⟩⟩⟩
  · have h9 := w σ eqx.rf hO hH
    rw [if_neg (show ¬ (0 ≤ k ∧ k ≤ 4) by omega)] at h9
    simp only [ite_self] at h9
    exact h9
  · have h9 := w σ eqx.rf hO hH
    rw [if_neg (show ¬ (0 ≤ k ∧ k ≤ 4) by omega)] at h9
    simp only [ite_self] at h9
    exact h9
  · rw [if_neg (by omega), if_pos ⟨h, h2⟩] at w
    exact s_bestChange hR ok hA okT hO hH ⟨h, h2⟩ h3 w
  · rw [if_pos h3] at w
    exact w σ eqx.rf hO hH
end PWHICH
