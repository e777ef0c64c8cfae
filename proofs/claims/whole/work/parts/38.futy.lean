/-! DAYS AHEAD: what is asked -/
theorem FutC.p {n : Nat} {F fs : Int → Int} {σ : PS} (h : FutC n F fs σ) : FutP σ := by
  obtain ⟨-, -, -, u1, u2, hu, a1, a2, -⟩ := h
  unfold FutP
  rw [a1, a2]
  exact hu
theorem leftS_in {F : Int → Int} {n : Nat} : in64 (leftS F n) := sumL_in (by unfold in64; decide)
section PFUTY
variable {g : PG} {d : Nat} {Q : Int → PS → Prop}
theorem s_goAhead {k : Int} {E : Int → Int} {R T σ : PS} (hR : RowC 43 R σ) (ok : RSok R) (hT : TxtC 14 T σ) (okT : TxtOK oknL T) (hE : EnC 26 E σ) (hn10 : R 0 0 ≤ 10) (hF : FutP σ) (hk : 0 ≤ k ∧ k ≤ 60) (w : ∀ σ', eqx futL σ σ' → FutC (R 0 0).toNat (futS T E R k.toNat) (fsF E (R 0 0).toNat) σ' → Q 0 σ') : XX g true (d + 4) P_X11_goAhead 0 [(2, 0), (0, k), (9, 0)] [] 136 σ 136 Q := by
  have k1 := ok.1
  have hn : R 0 0 = ((R 0 0).toNat : Int) := by omega
  have key : ∀ (m i : Nat) (σ1 : PS), i + m = k.toNat → eqx futL σ σ1 → FutC (R 0 0).toNat (futS T E R i) (fsF E (R 0 0).toNat) σ1 → XX g true (d + 4) P_X11_goAhead 20 [(2, 0), (0, k), (0, (i : Int))] [] 136 σ1 136 Q := by
    intro m
    induction m with
    | zero =>
      intro i σ1 hi hx hF1
      have e : i = k.toNat := by omega
      subst e
      exact B_X11_goAhead_20 ⟨fun _ => w σ1 hx hF1, fun h => by omega⟩
    | succ m ih =>
      intro i σ1 hi hx hF1
      have hR1 : RowC 43 R σ1 := hR.same fun a a1 a2 j => hx a (by simp only [List.mem_cons, List.not_mem_nil, or_false]; omega) j
      have hT1 : TxtC 14 T σ1 := hT.same fun a a1 a2 j => hx a (by simp only [List.mem_cons, List.not_mem_nil, or_false]; omega) j
      refine B_X11_goAhead_20 ⟨fun h => by omega, fun _ => ?_⟩
      refine s_passDayF (Or.inl rfl) hR1 ok (by unfold LinAt; omega) hT1 okT hn (by omega) hF1 fun σ2 hx2 hF2 => ?_
      rw [w32_of (by omega) (by omega)]
      exact ih (i + 1) σ2 (by omega) (hx.tr hx2) hF2
  refine B_X11_goAhead_0 (s_beginF (Or.inl rfl) hR ok (by unfold BrkAt; omega) hE hn (by omega) hF fun σ1 hx hF1 => ?_)
  exact key k.toNat 0 σ1 (by omega) hx hF1
theorem s_leftC {x : Int} {E : Int → Int} {R T σ : PS} (hR : RowC 43 R σ) (ok : RSok R) (hT : TxtC 14 T σ) (okT : TxtOK oknL T) (hE : EnC 26 E σ) (hF : FutP σ) (w : ∀ σ', eqx futL σ σ' → FutP σ' → Q (leftA T E R x) σ') : XX g true (d + 5) P_X11_left 0 [(2, 0), (0, x)] [] 136 σ 136 Q := by
  refine B_X11_left_0 ?_
  rw [hR.1.1]
  unfold leftA at w
  refine ⟨fun h => ?_, fun h => ⟨fun h2 => ?_, fun h2 => ⟨fun h3 => ?_, fun h3 => ?_⟩⟩⟩
  · rw [if_pos h] at w
    exact w σ eqx.rf hF
  · rw [if_neg (by omega), if_neg (by omega)] at w
    exact w σ eqx.rf hF
  · rw [if_neg (by omega), if_pos ⟨h2, h3⟩] at w
    refine s_goAhead hR ok hT okT hE h hF ⟨h2, h3⟩ fun σ1 hx hF1 => ?_
    exact s_remaining (by omega) hF1 (w σ1 hx hF1.p)
  · rw [if_neg (by omega), if_neg (by omega)] at w
    exact w σ eqx.rf hF
theorem s_lastsC {E : Int → Int} {R T σ : PS} (hR : RowC 43 R σ) (ok : RSok R) (hT : TxtC 14 T σ) (okT : TxtOK oknL T) (hE : EnC 26 E σ) (hn10 : R 0 0 ≤ 10) (hF : FutP σ) (w : ∀ σ', eqx futL σ σ' → FutP σ' → Q (lastsS T E R) σ') : XX g true (d + 4) P_X11_lasts 0 [(2, 0), (9, 0), (9, 0), (9, 0)] [] 136 σ 136 Q := by
  have k1 := ok.1
  have hn : R 0 0 = ((R 0 0).toNat : Int) := by omega
  have key : ∀ (m i : Nat) (acc : Int) (σ1 : PS), i + m = 59 → eqx futL σ σ1 → FutC (R 0 0).toNat (futS T E R i) (fsF E (R 0 0).toNat) σ1 → sumL (fun k => leftS (futS T E R k.toNat) (R 0 0).toNat) m ((i : Int) + 1) acc = sumL (fun k => leftS (futS T E R k.toNat) (R 0 0).toNat) 60 0 0 → XX g true (d + 4) P_X11_lasts 28 [(2, 0), (1, acc), (9, 0), (0, (i : Int))] [] 136 σ1 136 Q := by
    intro m
    induction m with
    | zero =>
      intro i acc σ1 hi hx hF1 hfin
      refine B_X11_lasts_28 ⟨fun _ => ?_, fun h => by omega⟩
      have e : acc = sumL (fun k => leftS (futS T E R k.toNat) (R 0 0).toNat) 60 0 0 := hfin
      rw [e]
      exact w σ1 hx hF1.p
    | succ m ih =>
      intro i acc σ1 hi hx hF1 hfin
      have hR1 : RowC 43 R σ1 := hR.same fun a a1 a2 j => hx a (by simp only [List.mem_cons, List.not_mem_nil, or_false]; omega) j
      have hT1 : TxtC 14 T σ1 := hT.same fun a a1 a2 j => hx a (by simp only [List.mem_cons, List.not_mem_nil, or_false]; omega) j
      rw [sumL_succ] at hfin
      have ei : ((i : Int) + 1).toNat = i + 1 := by omega
      rw [ei] at hfin
      refine B_X11_lasts_28 ⟨fun h => by omega, fun _ => ?_⟩
      refine s_passDayF (Or.inl rfl) hR1 ok (by unfold LinAt; omega) hT1 okT hn (by omega) hF1 fun σ2 hx2 hF2 => ?_
      rw [← futS_succ] at hF2
      refine s_remaining (by omega) hF2 fun y5 h5 => ?_
      rw [← h5] at hfin
      rw [w32_of (by omega) (by omega)]
      exact ih (i + 1) y5 σ2 (by omega) (hx.tr hx2) hF2 hfin
  refine B_X11_lasts_0 (s_beginF (Or.inl rfl) hR ok (by unfold BrkAt; omega) hE hn (by omega) hF fun σ1 hx hF1 => ?_)
  refine s_remaining (by omega) hF1 ?_
  refine key 59 0 (leftS (fut0 E R (R 0 0).toNat) (R 0 0).toNat) σ1 (by omega) hx hF1 ?_
  have e : w64 (0 + leftS (futS T E R (Int.toNat 0)) (R 0 0).toNat) = leftS (fut0 E R (R 0 0).toNat) (R 0 0).toNat := by
    rw [Int.zero_add, w64_id leftS_in]
    rfl
  rw [sumL_succ (n := 59)]
  show _ = sumL (fun k => leftS (futS T E R k.toNat) (R 0 0).toNat) 59 (0 + 1) (w64 (0 + leftS (futS T E R (Int.toNat 0)) (R 0 0).toNat))
  rw [e]
  rfl
theorem s_aheadC {wh x : Int} {E : Int → Int} {R T σ : PS} (hR : RowC 43 R σ) (ok : RSok R) (hT : TxtC 14 T σ) (okT : TxtOK oknL T) (hE : EnC 26 E σ) (hF : FutP σ) (w : ∀ σ', eqx futL σ σ' → FutP σ' → Q (aheadA T E R wh x) σ') : XX g true (d + 5) P_X11_ahead 0 [(2, 0), (0, wh), (0, x)] [] 136 σ 136 Q := by
  refine B_X11_ahead_0 ?_
  rw [hR.1.1]
  unfold aheadA at w
  refine ⟨fun h => ⟨fun h2 => ⟨fun h3 => ?_, fun h3 => ⟨fun h4 => ?_, fun h4 => ⟨fun h5 => ?_, fun h5 => ?_⟩⟩⟩, fun h2 => ?_⟩, fun h => ?_⟩
  · rw [if_neg (by omega), if_neg (by omega), if_neg (by omega)] at w
    exact w σ eqx.rf hF
  · rw [if_neg (by omega), if_neg (by omega), if_neg (by omega)] at w
    exact w σ eqx.rf hF
  · rw [if_neg (by omega), if_neg (by omega), if_pos (by omega)] at w
    refine s_goAhead hR ok hT okT hE h hF ⟨h4, h5⟩ fun σ1 hx hF1 => ?_
    exact s_mostLikely (by omega) hF1 (w σ1 hx hF1.p)
  · rw [if_neg (by omega), if_neg (by omega), if_neg (by omega)] at w
    exact w σ eqx.rf hF
  · rw [if_neg (by omega), if_pos h2] at w
    exact s_lastsC hR ok hT okT hE h hF w
  · rw [if_pos h] at w
    exact w σ eqx.rf hF
/-! the model -/
theorem s_lastsM {E : Int → Int} {R T σ : PS} (hR : RowMx R σ) (ok : RSok R) (hT : TxtM 0 T σ) (okT : TxtOK oknL T) (hE : BrkM E σ) (hn10 : R 0 0 ≤ 10) (w : ∀ σ', eqx futLM σ σ' → Q (lastsS T E R) σ') : XX g true (d + 6) P_X12_lasts 0 [(2, 88), (9, 0), (9, 0), (9, 0)] [] 136 σ 136 Q := by
  have k1 := ok.1
  have hn : R 0 0 = ((R 0 0).toNat : Int) := by omega
  have key : ∀ (m i : Nat) (acc : Int) (σ1 : PS), i + m = 60 → eqx futLM σ σ1 → FutM (R 0 0).toNat (futS T E R i) (fsF E (R 0 0).toNat) σ1 → sumL (fun k => leftS (futS T E R k.toNat) (R 0 0).toNat) m (i : Int) acc = sumL (fun k => leftS (futS T E R k.toNat) (R 0 0).toNat) 60 0 0 → XX g true (d + 6) P_X12_lasts 8 [(2, 88), (1, acc), (9, 0), (0, (i : Int))] [] 136 σ1 136 Q := by
    intro m
    induction m with
    | zero =>
      intro i acc σ1 hi hx hF1 hfin
      refine B_X12_lasts_8 ⟨fun _ => ?_, fun h => by omega⟩
      have e : acc = sumL (fun k => leftS (futS T E R k.toNat) (R 0 0).toNat) 60 0 0 := hfin
      rw [e]
      exact w σ1 hx
    | succ m ih =>
      intro i acc σ1 hi hx hF1 hfin
      have hR1 : RowMx R σ1 := hR.x hx fun a a1 a2 => by simp only [List.mem_cons, List.not_mem_nil, or_false]; omega
      have hT1 : TxtM 0 T σ1 := hT.x hx fun a a1 a2 => by simp only [List.mem_cons, List.not_mem_nil, or_false]; omega
      rw [sumL_succ, Int.toNat_natCast] at hfin
      refine B_X12_lasts_8 ⟨fun h => by omega, fun _ => ?_⟩
      refine s_leftNow (n := (R 0 0).toNat) (by omega) (by rw [hR1.1.1]; exact hn) hF1 fun y3 h3 => ?_
      rw [← h3] at hfin
      refine s_aDayAhead hR1 ok hT1 okT hn (by omega) (futS_ok (by omega) i) hF1 fun σ2 hx2 hF2 => ?_
      rw [w32_of (by omega) (by omega)]
      exact ih (i + 1) y3 σ2 (by omega) (hx.tr (hx2.mono (by decide))) hF2 hfin
  refine B_X12_lasts_0 (s_beginsAhead hR ok hE hn (by omega) fun σ1 hx hF1 => ?_)
  exact key 60 0 0 σ1 (by omega) (hx.mono (by decide)) hF1 rfl
theorem s_leftM {x : Int} {E : Int → Int} {R T σ : PS} (hR : RowMx R σ) (ok : RSok R) (hT : TxtM 0 T σ) (okT : TxtOK oknL T) (hE : BrkM E σ) (w : ∀ σ', eqm futLM [0] σ σ' → Q (leftA T E R x) σ') : XX g true (d + 6) P_X12_left 0 [(2, 88), (0, x), (9, 0)] [] 136 σ 136 Q := by
  have k1 := ok.1
  have hn : R 0 0 = ((R 0 0).toNat : Int) := by omega
  have hx0 : eqm futLM [0] σ (su σ 88 0 0) := eqm.rf.s8 (by decide)
  have hR0 : RowMx R (su σ 88 0 0) := hR.same8 (fun j hj => su_ne (Or.inr (by omega))) (fun a a1 a2 j => su_ne (Or.inl (by omega)))
  have hT0 : TxtM 0 T (su σ 88 0 0) := hT.same fun a a1 a2 j => su_ne (Or.inl (by omega))
  have hE0 : BrkM E (su σ 88 0 0) := BrkM_same hE (su_ne (Or.inr (by decide))) (fun j => su_ne (Or.inl (by decide))) (fun j => su_ne (Or.inl (by decide))) (fun j => su_ne (Or.inl (by decide))) (fun j => su_ne (Or.inl (by decide)))
  refine B_X12_left_0 ?_
  obtain ⟨σ0, e0⟩ : ∃ σ0, σ0 = su σ 88 0 0 := ⟨_, rfl⟩
  rw [← e0] at hx0 hR0 hT0 hE0 ⊢
  rw [hR.1.1]
  unfold leftA at w
  refine ⟨fun h => ?_, fun h => s_isIn ?_⟩
  · rw [if_pos h] at w
    exact w σ0 hx0
  rw [if_neg (by omega)] at w
  by_cases hi : 0 ≤ x ∧ x ≤ 60
  case neg =>
    rw [if_neg hi] at w ⊢
    exact ⟨fun z => absurd rfl z, fun _ => w σ0 hx0⟩
  rw [if_pos hi] at w ⊢
  refine ⟨fun _ => ?_, fun z => by omega⟩
  have key : ∀ (m i : Nat) (σ1 : PS), i + m = x.toNat → eqx futLM σ0 σ1 → FutM (R 0 0).toNat (futS T E R i) (fsF E (R 0 0).toNat) σ1 → XX g true (d + 6) P_X12_left 35 [(2, 88), (0, x), (0, (i : Int))] [] 136 σ1 136 Q := by
    intro m
    induction m with
    | zero =>
      intro i σ1 hm hx hF1
      have hR1 : RowMx R σ1 := hR0.x hx fun a a1 a2 => by simp only [List.mem_cons, List.not_mem_nil, or_false]; omega
      have e : i = x.toNat := by omega
      subst e
      refine B_X12_left_35 ⟨fun _ => ?_, fun h => by omega⟩
      exact s_leftNow (n := (R 0 0).toNat) (by omega) (by rw [hR1.1.1]; exact hn) hF1 (w σ1 (hx0.x hx (by decide) (by decide)))
    | succ m ih =>
      intro i σ1 hm hx hF1
      have hR1 : RowMx R σ1 := hR0.x hx fun a a1 a2 => by simp only [List.mem_cons, List.not_mem_nil, or_false]; omega
      have hT1 : TxtM 0 T σ1 := hT0.x hx fun a a1 a2 => by simp only [List.mem_cons, List.not_mem_nil, or_false]; omega
      refine B_X12_left_35 ⟨fun h => by omega, fun _ => ?_⟩
      refine s_aDayAhead hR1 ok hT1 okT hn (by omega) (futS_ok (by omega) i) hF1 fun σ2 hx2 hF2 => ?_
      rw [w32_of (by omega) (by omega)]
      exact ih (i + 1) σ2 (by omega) (hx.tr (hx2.mono (by decide))) hF2
  refine s_beginsAhead hR0 ok hE0 hn (by omega) fun σ1 hx hF1 => ?_
  exact key x.toNat 0 σ1 (by omega) (hx.mono (by decide)) hF1
theorem s_aheadM {wh x : Int} {E : Int → Int} {R T σ : PS} (hR : RowMx R σ) (ok : RSok R) (hT : TxtM 0 T σ) (okT : TxtOK oknL T) (hE : BrkM E σ) (w : ∀ σ', eqm futLM [0] σ σ' → Q (aheadA T E R wh x) σ') : XX g true (d + 7) P_X12_ahead 0 [(2, 88), (0, wh), (0, x), (9, 0), (9, 0)] [] 136 σ 136 Q := by
  have k1 := ok.1
  have hn : R 0 0 = ((R 0 0).toNat : Int) := by omega
  have hx0 : eqm futLM [0] σ (su σ 88 0 0) := eqm.rf.s8 (by decide)
  have hR0 : RowMx R (su σ 88 0 0) := hR.same8 (fun j hj => su_ne (Or.inr (by omega))) (fun a a1 a2 j => su_ne (Or.inl (by omega)))
  have hT0 : TxtM 0 T (su σ 88 0 0) := hT.same fun a a1 a2 j => su_ne (Or.inl (by omega))
  have hE0 : BrkM E (su σ 88 0 0) := BrkM_same hE (su_ne (Or.inr (by decide))) (fun j => su_ne (Or.inl (by decide))) (fun j => su_ne (Or.inl (by decide))) (fun j => su_ne (Or.inl (by decide))) (fun j => su_ne (Or.inl (by decide)))
  refine B_X12_ahead_0 ?_
  obtain ⟨σ0, e0⟩ : ∃ σ0, σ0 = su σ 88 0 0 := ⟨_, rfl⟩
  rw [← e0] at hx0 hR0 hT0 hE0 ⊢
  rw [hR.1.1]
  unfold aheadA at w
  refine ⟨fun h => ?_, fun h => s_isIn ?_⟩
  · rw [if_pos h] at w
    exact w σ0 hx0
  rw [if_neg (by omega)] at w
  by_cases hw : 0 ≤ wh ∧ wh ≤ 1
  case neg =>
    rw [if_neg (by omega), if_neg (by omega)] at w
    rw [if_neg hw]
    exact ⟨fun z => absurd rfl z, fun _ => w σ0 hx0⟩
  rw [if_pos hw]
  refine ⟨fun _ => ⟨fun hw1 => s_isIn ?_, fun hw0 => ?_⟩, fun z => by omega⟩
  · rw [if_neg hw1] at w
    by_cases hi : 0 ≤ x ∧ x ≤ 60
    case neg =>
      rw [if_neg (by omega)] at w
      rw [if_neg hi]
      exact ⟨fun z => absurd rfl z, fun _ => w σ0 hx0⟩
    rw [if_pos (by omega)] at w
    rw [if_pos hi]
    refine ⟨fun _ => ?_, fun z => by omega⟩
    have last : ∀ (σ1 : PS), eqx futLM σ0 σ1 → FutM (R 0 0).toNat (futS T E R x.toNat) (fsF E (R 0 0).toNat) σ1 → ∀ (m k : Nat), k + m = 2 ^ (R 0 0).toNat → XX g true (d + 7) P_X12_ahead 75 [(2, 88), (9, 0), (9, 0), (0, bestS (futS T E R x.toNat) k), (0, (k : Int))] [] 136 σ1 136 Q := by
      intro σ1 hx hF1 m
      have hR1 : RowMx R σ1 := hR0.x hx fun a a1 a2 => by simp only [List.mem_cons, List.not_mem_nil, or_false]; omega
      have ish : ishl 1 (R 0 0) = ((2 ^ (R 0 0).toNat : Nat) : Int) := by
        have h9 := shl1_nat (k := (R 0 0).toNat) (by omega)
        rw [← hn] at h9
        exact h9
      obtain ⟨hK0, hK⟩ := pow10 (n := (R 0 0).toNat) (by omega)
      induction m with
      | zero =>
        intro k hk
        refine B_X12_ahead_75 ⟨fun _ => ?_, fun h => by rw [hR1.1.1, ish] at h; omega⟩
        have e : k = 2 ^ (R 0 0).toNat := by omega
        rw [e]
        exact w σ1 (hx0.x hx (by decide) (by decide))
      | succ m ih =>
        intro k hk
        have h1 := ih (k + 1) (by omega)
        rw [bestS_succ] at h1
        have hb := bestS_lt (u := futS T E R x.toNat) (k := k)
        refine B_X12_ahead_75 ⟨fun h => by rw [hR1.1.1, ish] at h; omega, fun h => ⟨by omega, ?_⟩⟩
        rw [hF1.2 k (Int.natCast_nonneg k) (by omega), w32_of (x := (k : Int) + 1) (by omega) (by omega)]
        refine ⟨fun h2 => ?_, fun h2 => ⟨fun h3 => ?_, fun h3 => ⟨by omega, ?_⟩⟩⟩
        · by_cases hm : bestS (futS T E R x.toNat) k = -1
          · rw [if_pos hm, if_neg (by omega)] at h1
            exact h1
          · have := hb.2.2 hm
            rw [if_neg hm, if_neg (by omega)] at h1
            exact h1
        · rw [if_pos h3, if_pos h2] at h1
          exact h1
        · rw [hF1.2 _ (by omega) (by omega)]
          rw [if_neg h3] at h1
          refine ⟨fun h4 => ?_, fun h4 => ?_⟩
          · rw [if_neg (by omega)] at h1
            exact h1
          · rw [if_pos h4] at h1
            exact h1
    have key : ∀ (m i : Nat) (σ1 : PS), i + m = x.toNat → eqx futLM σ0 σ1 → FutM (R 0 0).toNat (futS T E R i) (fsF E (R 0 0).toNat) σ1 → XX g true (d + 7) P_X12_ahead 54 [(2, 88), (9, 0), (0, x), (0, (i : Int)), (9, 0)] [] 136 σ1 136 Q := by
      intro m
      induction m with
      | zero =>
        intro i σ1 hm hx hF1
        have e : i = x.toNat := by omega
        subst e
        refine B_X12_ahead_54 ⟨fun _ => ?_, fun h => by omega⟩
        exact last σ1 hx hF1 (2 ^ (R 0 0).toNat) 0 (by omega)
      | succ m ih =>
        intro i σ1 hm hx hF1
        have hR1 : RowMx R σ1 := hR0.x hx fun a a1 a2 => by simp only [List.mem_cons, List.not_mem_nil, or_false]; omega
        have hT1 : TxtM 0 T σ1 := hT0.x hx fun a a1 a2 => by simp only [List.mem_cons, List.not_mem_nil, or_false]; omega
        refine B_X12_ahead_54 ⟨fun h => by omega, fun _ => ?_⟩
        refine s_aDayAhead hR1 ok hT1 okT hn (by omega) (futS_ok (by omega) i) hF1 fun σ2 hx2 hF2 => ?_
        rw [w32_of (by omega) (by omega)]
        exact ih (i + 1) σ2 (by omega) (hx.tr (hx2.mono (by decide))) hF2
    refine s_beginsAhead hR0 ok hE0 hn (by omega) fun σ1 hx hF1 => ?_
    exact key x.toNat 0 σ1 (by omega) (hx.mono (by decide)) hF1
  · rw [if_pos hw0] at w
    exact s_lastsM hR0 ok hT0 okT hE0 h fun σ1 hx => w σ1 (hx0.x hx (by decide) (by decide))
end PFUTY
