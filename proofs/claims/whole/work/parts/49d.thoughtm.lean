/-! DAYS in thought, the model -/
theorem chgs_93 : ∀ {k : Nat} {u : Int → Int} {R : PS}, chgs k u R 9 3 = R 9 3 := by
  intro k
  induction k with
  | zero => intro u R; rfl
  | succ k ih =>
    intro u R
    rw [chgs_succ]
    split
    · rfl
    split
    · rfl
    · rw [ih]
      unfold chgS payS
      split <;> simp [su]
theorem dayS_93 {T Tr R : PS} {E : Int → Int} : dayS T Tr E R 9 3 = R 9 3 := by
  unfold dayS
  split
  · unfold comeS
    rw [chgs_93]
    show looks (wornS T E R 0 0) (wornS T E R) 9 3 = R 9 3
    have : looks (wornS T E R 0 0) (wornS T E R) 9 3 = wornS T E R 9 3 := by simp [looks]
    rw [this, wornS_93]
  · exact wornS_93
theorem RowMx.ev {R σ : PS} {v : Int} (h : RowMx R σ) : RowMx (everyS R v) σ := by
  obtain ⟨a1, a2, a3, a4⟩ := h
  refine ⟨?_, fun p p0 p1 => ?_, fun k k0 k1 => ?_, fun k k0 k1 k3 => ?_⟩
  · simp [everyS, su, a1]
  · have := a2 p p0 p1
    simp [everyS, su]
    exact this
  · have := a3 k k0 k1
    simp [everyS, su]
    exact this
  · have := a4 k k0 k1 k3
    simp [everyS, su, k3]
    exact this
abbrev thinkLM : List Int := [89, 90, 91, 92, 93, 94, 97, 111, 112, 113, 114, 115, 133]
abbrev thinkJM : List Int := [0, 1, 2, 12, 13, 14, 15, 16, 17, 50, 51, 69, 70, 72, 73, 74]
section PTHINKM
variable {g : PG} {d : Nat} {Q : Int → PS → Prop}
theorem s_thinksM {k v x : Int} {E : Int → Int} {R T T1 T2 σ : PS} (hR : RowM R σ) (ok : RSok R) (hd : R 0 2 ≤ 9999) (hT : TxtM 0 T σ) (okT : TxtOK oknL T) (hT1 : TxtM 1 T1 σ) (ok1 : TxtOK oknR T1) (hT2 : TxtM 2 T2 σ) (ok2 : TxtOK oknR T2) (hE : BrkM E σ) (hk : 1 ≤ k ∧ k ≤ 2) (hv : 1 ≤ v) (hx : 0 ≤ x ∧ x ≤ 99)
    (w : ∀ σ', eqm thinkLM thinkJM σ σ' → RowM R σ' → σ' 88 72 = thCost T (ruleT T1 T2 k) E R v x → σ' 88 73 = w32 (thinkS T (ruleT T1 T2 k) E R v x 0 3 - R 0 3) → σ' 88 74 = w32 (thinkS T (ruleT T1 T2 k) E R v x 0 5 - R 0 5) → Q 0 σ') : XX g true (d + 6) P_X12_thinks 0 [(2, 88), (0, k), (0, v), (0, x), (9, 0), (9, 0), (9, 0), (9, 0)] [] 136 σ 136 Q := by
  have hTr : TxtM k (ruleT T1 T2 k) σ := by
    unfold ruleT
    by_cases z : k = 1
    · rw [if_pos z, z]; exact hT1
    · have : k = 2 := by omega
      rw [if_neg z, this]; exact hT2
  have okr : TxtOK oknR (ruleT T1 T2 k) := by unfold ruleT; split <;> assumption
  have key : ∀ (n : Nat) (i : Int) (R1 σ1 : PS), 0 ≤ i → i + n = x → eqm thinkLM thinkJM σ σ1 → RSok R1 → R1 0 2 + n ≤ 20000 → RowMx R1 σ1 → σ1 88 50 = k → σ1 88 51 = R1 9 3 → (∀ k, 0 ≤ k → k < 376 → σ1 133 k = asG R k) → daysS T (ruleT T1 T2 k) E n R1 = thinkS T (ruleT T1 T2 k) E R v x → XX g true (d + 6) P_X12_thinks 36 [(2, 88), (9, 0), (9, 0), (0, x), (0, R 0 4), (0, R 0 3), (0, R 0 5), (0, i)] [] 136 σ1 136 Q := by
    intro n
    induction n with
    | zero =>
      intro i R1 σ1 hi hn hxx okk hdd hR1 h50 h51 hG hf
      have e : R1 = thinkS T (ruleT T1 T2 k) E R v x := hf
      refine B_X12_thinks_36 ⟨fun _ => ?_, fun h => by omega⟩
      obtain ⟨-, -, -, m3, m4, m5, -, -⟩ := hR1.1
      rw [m3, m4, m5, e]
      refine s_asidesGet (R := R) (fun k k0 k1 => ?_) (fun k k0 k1 => ?_) fun σ2 hx2 _ hR2 => ?_
      · rw [su_ne (Or.inl (by decide)), su_ne (Or.inl (by decide)), su_ne (Or.inl (by decide))]
        exact hG k k0 k1
      · rw [su_ne (Or.inl (by decide)), su_ne (Or.inl (by decide)), su_ne (Or.inl (by decide)), su_ne (Or.inl (by decide)), su_ne (Or.inl (by decide)), su_ne (Or.inl (by decide)), hxx.1 95 (by decide) (by decide), hxx.1 96 (by decide) (by decide)]
        exact hR.1.2.2.1 k k0 k1
      · refine w σ2 ((((hxx.s8 (by decide)).s8 (by decide)).s8 (by decide)).tr (hx2.mono (by decide) (by decide))) hR2 ?_ ?_ ?_
        · rw [hx2.2 72 (by decide), su_ne (Or.inr (by decide)), su_ne (Or.inr (by decide)), su_eq]
          rfl
        · rw [hx2.2 73 (by decide), su_ne (Or.inr (by decide)), su_eq]
        · rw [hx2.2 74 (by decide), su_eq]
    | succ n ih =>
      intro i R1 σ1 hi hn hxx okk hdd hR1 h50 h51 hG hf
      obtain ⟨b1, b2, b3⟩ := dayS_ok (T := T) (Tr := ruleT T1 T2 k) (W := E) okk (by omega)
      refine B_X12_thinks_36 ⟨fun h => by omega, fun _ => ?_⟩
      refine s_goesBy (k := k) ⟨by omega, by omega⟩ h50 h51 hR1 okk (by omega) (hT.mm hxx fun a a1 a2 z => ?_) okT (hTr.mm hxx fun a a1 a2 z => ?_) okr (hE.mm hxx (by decide) fun a a1 a2 z => ?_) fun σ2 hx2 hR2 => ?_
      · simp only [List.mem_cons, List.not_mem_nil, or_false] at z; omega
      · simp only [List.mem_cons, List.not_mem_nil, or_false] at z; omega
      · simp only [List.mem_cons, List.not_mem_nil, or_false] at z; omega
      · rw [w32_of (by omega) (by omega)]
        refine ih (i + 1) _ σ2 (by omega) (by omega) (hxx.tr (hx2.mono (by decide) (by decide))) b1 (by omega) hR2 (by rw [hx2.2 50 (by decide)]; exact h50) (by rw [hx2.2 51 (by decide), dayS_93]; exact h51) (fun k k0 k1 => by rw [hx2.1 133 (by decide) (by decide)]; exact hG k k0 k1) hf
  refine B_X12_thinks_0 (s_asidesPut hR fun σ1 hx1 _ hG y3 e3 y4 e4 y5 e5 => ?_)
  have hR1 : RowM R σ1 := hR.m hx1 (fun a a1 a2 z => by simp only [List.mem_cons, List.not_mem_nil, or_false] at z; omega) (fun j hj z => by simp only [List.mem_cons, List.not_mem_nil, or_false] at z; omega)
  rw [hR1.1.1.2.2.2.2.1] at e3
  rw [hR1.1.1.2.2.2.1] at e4
  rw [hR1.1.1.2.2.2.2.2.1] at e5
  rw [e3, e4, e5]
  refine key x.toNat 0 (everyS R v) _ (by omega) (by omega) ?_ (everyS_ok ok hv) ?_ ?_ ?_ ?_ (fun k k0 k1 => ?_) rfl
  · exact ((hx1.mono (by decide) (by decide)).s8 (by decide)).s8 (by decide)
  · show su R 9 3 v 0 2 + _ ≤ _
    rw [su_ne (Or.inl (by decide))]
    omega
  · refine (RowMx.ev (v := v) hR1.1).same8 (fun j hj => ?_) fun a a1 a2 j => ?_
    · rw [su_ne (Or.inr (by omega)), su_ne (Or.inr (by omega))]
    · rw [su_ne (Or.inl (by omega)), su_ne (Or.inl (by omega))]
  · rw [su_ne (Or.inr (by decide)), su_eq]
  · rw [su_eq]
    exact su_eq.symm
  · rw [su_ne (Or.inl (by decide)), su_ne (Or.inl (by decide))]
    exact hG k k0 k1
theorem s_thoughtM {k v x wh : Int} {E : Int → Int} {R T T1 T2 σ : PS} (hR : RowM R σ) (ok : RSok R) (hd : R 0 2 ≤ 9999) (hT : TxtM 0 T σ) (okT : TxtOK oknL T) (hT1 : TxtM 1 T1 σ) (ok1 : TxtOK oknR T1) (hT2 : TxtM 2 T2 σ) (ok2 : TxtOK oknR T2) (hE : BrkM E σ) (w : ∀ σ', eqm thinkLM thinkJM σ σ' → RowM R σ' → Q (thoughtA T T1 T2 E R k v x wh) σ') : XX g true (d + 7) P_X12_thought 0 [(2, 88), (0, k), (0, v), (0, x), (0, wh)] [] 136 σ 136 Q := by
  have hx0 : eqm thinkLM thinkJM σ (su σ 88 0 0) := eqm.rf.s8 (by decide)
  have hy0 : eqm [] [0] σ (su σ 88 0 0) := eqm.rf.s8 (by decide)
  have hR0 : RowM R (su σ 88 0 0) := hR.m hy0 (fun a _ _ z => by simp at z) (fun j hj z => by simp at z; omega)
  have hT0 := hT.mm hy0 (fun a _ _ z => by simp at z)
  have hT10 := hT1.mm hy0 (fun a _ _ z => by simp at z)
  have hT20 := hT2.mm hy0 (fun a _ _ z => by simp at z)
  have hE0 := hE.mm hy0 (by decide) (fun a _ _ z => by simp at z)
  refine B_X12_thought_0 ?_
  generalize su σ 88 0 0 = σ0 at *
  have bad : ¬ ((1 ≤ k ∧ k ≤ 2) ∧ (1 ≤ v ∧ v ≤ 99) ∧ (1 ≤ x ∧ x ≤ 99) ∧ (0 ≤ wh ∧ wh ≤ 2)) → Q (-1) σ0 := fun h => by
    have := w σ0 hx0 hR0
    unfold thoughtA at this
    rw [if_neg h] at this
    exact this
  refine s_isIn ⟨fun h => bad fun z => ?_, fun h => s_isIn ⟨fun h1 => bad fun z => ?_, fun h1 => s_isIn ⟨fun h2 => bad fun z => ?_, fun h2 => s_isIn ⟨fun h3 => ?_, fun h3 => bad fun z => ?_⟩⟩⟩⟩
  · rw [if_pos z.1] at h; exact absurd h (by decide)
  · rw [if_pos z.2.1] at h1; exact absurd h1 (by decide)
  · rw [if_pos z.2.2.1] at h2; exact absurd h2 (by decide)
  · have c0 : 1 ≤ k ∧ k ≤ 2 := Classical.byContradiction fun z => h (by rw [if_neg z])
    have c1 : 1 ≤ v ∧ v ≤ 99 := Classical.byContradiction fun z => h1 (by rw [if_neg z])
    have c2 : 1 ≤ x ∧ x ≤ 99 := Classical.byContradiction fun z => h2 (by rw [if_neg z])
    have c3 : 0 ≤ wh ∧ wh ≤ 2 := Classical.byContradiction fun z => h3 (by rw [if_neg z])
    unfold thoughtA at w
    rw [if_pos ⟨c0, c1, c2, c3⟩] at w
    refine s_thinksM hR0 ok hd hT0 okT hT10 ok1 hT20 ok2 hE0 c0 c1.1 ⟨by omega, c2.2⟩ fun σ1 hx1 hR1 e72 e73 e74 => ?_
    have h9 := w σ1 (hx0.tr hx1) hR1
    rw [e72, e73, e74]
    refine ⟨fun z => ⟨fun z1 => ?_, fun z1 => ?_⟩, fun z => ?_⟩
    · rw [if_neg z, if_neg z1] at h9; exact h9
    · rw [if_neg z, if_pos z1] at h9; exact h9
    · rw [if_pos z] at h9; exact h9
  · rw [if_pos z.2.2.2] at h3; exact absurd h3 (by decide)
theorem s_oftenM {x wh : Int} {E : Int → Int} {R T T1 T2 σ : PS} (hR : RowM R σ) (ok : RSok R) (hd : R 0 2 ≤ 9999) (hT : TxtM 0 T σ) (okT : TxtOK oknL T) (hT1 : TxtM 1 T1 σ) (ok1 : TxtOK oknR T1) (hT2 : TxtM 2 T2 σ) (ok2 : TxtOK oknR T2) (hE : BrkM E σ) (w : ∀ σ', eqm thinkLM thinkJM σ σ' → RowM R σ' → Q (oftenA T T1 T2 E R x wh) σ') : XX g true (d + 7) P_X12_often 0 [(2, 88), (0, x), (0, wh), (9, 0), (9, 0), (9, 0)] [] 136 σ 136 Q := by
  have hx0 : eqm thinkLM thinkJM σ (su σ 88 0 0) := eqm.rf.s8 (by decide)
  have hy0 : eqm [] [0] σ (su σ 88 0 0) := eqm.rf.s8 (by decide)
  have hR0 : RowM R (su σ 88 0 0) := hR.m hy0 (fun a _ _ z => by simp at z) (fun j hj z => by simp at z; omega)
  refine B_X12_often_0 ?_
  generalize su σ 88 0 0 = σ0 at *
  have er1 : ruleT T1 T2 1 = T1 := rfl
  have er2 : ruleT T1 T2 2 = T2 := rfl
  have k9 := ok.2.2.2.2.2.1
  have bad : ¬ ((1 ≤ x ∧ x ≤ 99) ∧ (0 ≤ wh ∧ wh ≤ 1)) → Q (-1) σ0 := fun h => by
    have := w σ0 hx0 hR0
    unfold oftenA at this
    rw [if_neg h] at this
    exact this
  have kT : ∀ {σ1 : PS}, eqm thinkLM thinkJM σ σ1 → TxtM 0 T σ1 ∧ TxtM 1 T1 σ1 ∧ TxtM 2 T2 σ1 ∧ BrkM E σ1 := fun hx => ⟨hT.mm hx fun a a1 a2 z => by (simp only [List.mem_cons, List.not_mem_nil, or_false] at z; omega), hT1.mm hx fun a a1 a2 z => by (simp only [List.mem_cons, List.not_mem_nil, or_false] at z; omega), hT2.mm hx fun a a1 a2 z => by (simp only [List.mem_cons, List.not_mem_nil, or_false] at z; omega), hE.mm hx (by decide) fun a a1 a2 z => by (simp only [List.mem_cons, List.not_mem_nil, or_false] at z; omega)⟩
  refine s_isIn ⟨fun h => bad fun z => ?_, fun h => s_isIn ⟨fun h1 => ?_, fun h1 => bad fun z => ?_⟩⟩
  · rw [if_pos z.1] at h; exact absurd h (by decide)
  · have c0 : 1 ≤ x ∧ x ≤ 99 := Classical.byContradiction fun z => h (by rw [if_neg z])
    have c1 : 0 ≤ wh ∧ wh ≤ 1 := Classical.byContradiction fun z => h1 (by rw [if_neg z])
    unfold oftenA at w
    rw [if_pos ⟨c0, c1⟩] at w
    obtain ⟨t0, t1, t2, t3⟩ := kT hx0
    refine ⟨fun h2 => ?_, fun h2 => ?_⟩
    · rw [if_neg h2] at w
      rw [hR0.2]
      refine s_thinksM hR0 ok hd t0 okT t1 ok1 t2 ok2 t3 ⟨by decide, by decide⟩ k9 ⟨by omega, by omega⟩ fun σ1 hx1 hR1 e72 _ _ y7 e7 => ⟨fun z => by omega, fun _ => ?_⟩
      rw [e72, er1] at e7
      rw [hR1.2]
      obtain ⟨u0, u1, u2, u3⟩ := kT (hx0.tr hx1)
      refine s_thinksM hR1 ok hd u0 okT u1 ok1 u2 ok2 u3 ⟨by decide, by decide⟩ k9 ⟨by omega, by omega⟩ fun σ2 hx2 hR2 f72 _ _ => ?_
      rw [f72, er2]
      have h9 := w σ2 ((hx0.tr hx1).tr hx2) hR2
      rw [← e7] at h9
      refine ⟨fun z => ?_, fun z => ?_⟩
      · rw [if_neg (by omega)] at h9; exact h9
      · rw [if_pos z] at h9; exact h9
    · rw [if_pos h2] at w
      have key : ∀ (n : Nat) (i best least : Int) (σ1 : PS), 2 ≤ i → i + n = 10 → eqm thinkLM thinkJM σ σ1 → RowM R σ1 → cheapR (fun v => thCost T T1 E R v x) n i best least = cheapS (fun v => thCost T T1 E R v x) → XX g true (d + 7) P_X12_often 91 [(2, 88), (0, x), (9, 0), (0, best), (0, least), (0, i)] [] 136 σ1 136 Q := by
        intro n
        induction n with
        | zero =>
          intro i best least σ1 hi hn hx1 hR1 hf
          have e : best = cheapS (fun v => thCost T T1 E R v x) := hf
          refine B_X12_often_91 ⟨fun _ => ?_, fun h => by omega⟩
          rw [e]
          exact w σ1 hx1 hR1
        | succ n ih =>
          intro i best least σ1 hi hn hx1 hR1 hf
          obtain ⟨u0, u1, u2, u3⟩ := kT hx1
          rw [cheapR_succ] at hf
          refine B_X12_often_91 ⟨fun h => by omega, fun _ => ?_⟩
          refine s_thinksM hR1 ok hd u0 okT u1 ok1 u2 ok2 u3 ⟨by decide, by decide⟩ (by omega) ⟨by omega, by omega⟩ fun σ2 hx2 hR2 e72 _ _ => ?_
          rw [er1] at e72
          rw [w32_of (by omega) (by omega), e72]
          refine ⟨fun z y3 e3 => ?_, fun z => ?_⟩
          · rw [if_pos z, ← e3] at hf
            exact ih (i + 1) i y3 σ2 (by omega) (by omega) (hx1.tr hx2) hR2 hf
          · rw [if_neg (by omega)] at hf
            exact ih (i + 1) best least σ2 (by omega) (by omega) (hx1.tr hx2) hR2 hf
      refine s_thinksM hR0 ok hd t0 okT t1 ok1 t2 ok2 t3 ⟨by decide, by decide⟩ (by decide) ⟨by omega, by omega⟩ fun σ1 hx1 hR1 e72 _ _ y12 e12 => ⟨fun _ => ?_, fun z => by omega⟩
      rw [e72, er1] at e12
      refine key 8 2 1 y12 σ1 (by decide) (by decide) (hx0.tr hx1) hR1 ?_
      rw [e12]
      rfl
  · rw [if_pos z.2] at h1; exact absurd h1 (by decide)
theorem s_nineM {m : Int} {E : Int → Int} {R T σ : PS} (hR : RowMx R σ) (ok : RSok R) (hT : TxtM 0 T σ) (okT : TxtOK oknL T) (hE : BrkM E σ) (w : ∀ σ', eqm [111, 112, 116, 117, 118] [0] σ σ' → Q (nineA T E R m) σ') : XX g true (d + 6) P_X12_nine 0 [(2, 88), (0, m), (9, 0), (9, 0), (9, 0), (9, 0), (9, 0)] [] 136 σ 136 Q := by
  have hx0 : eqm [111, 112, 116, 117, 118] [0] σ (su σ 88 0 0) := eqm.rf.s8 (by decide)
  have hy0 : eqm [] [0] σ (su σ 88 0 0) := eqm.rf.s8 (by decide)
  have hR0 : RowMx R (su σ 88 0 0) := hR.m hy0 (fun a _ _ z => by simp at z) (fun j hj z => by simp at z; omega)
  have hT0 := hT.mm hy0 (fun a _ _ z => by simp at z)
  have hE0 := hE.mm hy0 (by decide) (fun a _ _ z => by simp at z)
  refine B_X12_nine_0 ?_
  generalize su σ 88 0 0 = σ0 at *
  unfold nineA at w
  refine s_isIn ⟨fun h => ?_, fun h => ?_⟩
  · have c0 : 1 ≤ m ∧ m ≤ 99 := Classical.byContradiction fun z => h (by rw [if_neg z])
    rw [if_pos c0] at w
    refine s_chanceNow hR0 ok hT0 okT hE0 fun σ1 hx y5 h5 => ?_
    have h9 := w σ1 (hx0.x hx (by decide) (by decide))
    rw [← h5] at h9
    clear h5 w
    have key : ∀ (n : Nat) (i v : Int), 0 ≤ i → i + n = m → Q (l2i (nineR (w64 (1000000 - y5)) n v)) σ1 → XX g true (d + 6) P_X12_nine 35 [(9, 0), (0, m), (1, y5), (9, 0), (1, v), (9, 0), (0, i)] [] 136 σ1 136 Q := by
      intro n
      induction n with
      | zero =>
        intro i v hi hn h
        exact B_X12_nine_35 ⟨fun _ => h, fun z => by omega⟩
      | succ n ih =>
        intro i v hi hn h
        rw [nineR_succ] at h
        refine B_X12_nine_35 ⟨fun z => by omega, fun _ y1 e1 => ?_⟩
        rw [← e1] at h
        rw [w32_of (by omega) (by omega)]
        exact ih (i + 1) y1 (by omega) (by omega) h
    exact key m.toNat 0 1000000 (by omega) (by omega) h9
  · have c0 : ¬ (1 ≤ m ∧ m ≤ 99) := fun z => by rw [if_pos z] at h; exact absurd h (by decide)
    rw [if_neg c0] at w
    exact w σ0 hx0
end PTHINKM
