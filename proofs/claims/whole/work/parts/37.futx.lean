/-! DAYS AHEAD: the model's days, and what is asked -/
section PFUTX
variable {g : PG} {d : Nat} {Q : Int → PS → Prop}
theorem fut0_ok {E : Int → Int} {R : PS} {n : Nat} : nnF (fut0 E R n) (2 ^ n) ∧ sumN (fut0 E R n) (2 ^ n) ≤ 1000000000000 := by
  refine ⟨fun t _ _ => by unfold fut0; split <;> omega, ?_⟩
  have h : ∀ m : Nat, sumN (fut0 E R n) m ≤ 1000000000000 ∧ ((m : Int) ≤ gset (R 3) n → sumN (fut0 E R n) m = 0) := by
    intro m
    induction m with
    | zero => exact ⟨(by decide : (0 : Int) ≤ 1000000000000), fun _ => rfl⟩
    | succ m ih =>
      have e : sumN (fut0 E R n) (m + 1) = sumN (fut0 E R n) m + fut0 E R n m := rfl
      rw [e]
      by_cases hm : (m : Int) = gset (R 3) n
      · have h0 := ih.2 (by omega)
        rw [h0]
        refine ⟨?_, fun h => by omega⟩
        unfold fut0
        split <;> omega
      · have hz : fut0 E R n m = 0 := by unfold fut0; rw [if_neg (fun z => hm z.1)]
        rw [hz]
        refine ⟨by omega, fun h => ?_⟩
        have := ih.2 (by omega)
        omega
  exact (h (2 ^ n)).1
theorem futS_ok {T : PS} {E : Int → Int} {R : PS} (hn : (R 0 0).toNat ≤ 30) (k : Nat) : nnF (futS T E R k) (2 ^ (R 0 0).toNat) :=
  (futF_ok hn (fun e S p => goesS_01 T R p (besN S.toNat p.toNat) e) fut0_ok.1 fut0_ok.2 k).1
theorem FutM.x {n : Nat} {F fs : Int → Int} {L : List Int} {σ σ' : PS} (h : FutM n F fs σ) (hx : eqx L σ σ') (h1 : (124 : Int) ∉ L) (h2 : (119 : Int) ∉ L) : FutM n F fs σ' := ⟨fun s s0 s1 => (hx 124 h1 s).trans (h.1 s s0 s1), fun s s0 s1 => (hx 119 h2 s).trans (h.2 s s0 s1)⟩
abbrev futDM : List Int := [111, 112, 119, 120, 121, 122, 123]
theorem s_aDayAhead {e : Int} {n : Nat} {F fs : Int → Int} {R T σ : PS} (hR : RowMx R σ) (ok : RSok R) (hT : TxtM 0 T σ) (okT : TxtOK oknL T) (hn : R 0 0 = n) (hn10 : n ≤ 10) (hnn : nnF F (2 ^ n)) (hF : FutM n F fs σ) (w : ∀ σ', eqx futDM σ σ' → FutM n (dayA fs (fun S p => chA T R e S p) n F) fs σ' → Q 0 σ') : XX g true (d + 5) P_X12_aDayAhead 0 [(2, 88), (0, e), (9, 0)] [] 136 σ 136 Q := by
  obtain ⟨hK0, hK⟩ := pow10 hn10
  have ish : ishl 1 (n : Int) = ((2 ^ n : Nat) : Int) := shl1_nat (by omega)
  have e2 : σ 88 2 = n := by rw [hR.1.1]; exact hn
  -- over to the other
  have third : ∀ (m s : Nat) (nx : Int → Int) (σ1 : PS), s + m = 2 ^ n → eqx futDM σ σ1 → (∀ t : Int, 0 ≤ t → t < ((2 ^ n : Nat) : Int) → σ1 120 t = nx t) → (∀ t : Int, 0 ≤ t → t < s → σ1 119 t = nx t) → nx = dayA fs (fun S p => chA T R e S p) n F → XX g true (d + 5) P_X12_aDayAhead 62 [(2, 88), (9, 0), (0, (s : Int))] [] 136 σ1 136 Q := by
    intro m
    induction m with
    | zero =>
      intro s nx σ1 hs hx hn1 hn2 hfin
      have o2 : σ1 88 2 = n := by rw [hx 88 (by decide)]; exact e2
      refine B_X12_aDayAhead_62 ⟨fun _ => w σ1 hx ⟨fun t t0 t1 => ?_, fun t t0 t1 => ?_⟩, fun h => by rw [o2, ish] at h; omega⟩
      · rw [hx 124 (by decide)]; exact hF.1 t t0 t1
      · rw [hn2 t t0 (by omega), hfin]
    | succ m ih =>
      intro s nx σ1 hs hx hn1 hn2 hfin
      have o2 : σ1 88 2 = n := by rw [hx 88 (by decide)]; exact e2
      refine B_X12_aDayAhead_62 ⟨fun h => by rw [o2, ish] at h; omega, fun _ => ⟨by omega, ?_⟩⟩
      rw [w32_of (x := (s : Int) + 1) (by omega) (by omega)]
      refine ih (s + 1) nx _ (by omega) (hx.su (by decide)) (fun t t0 t1 => by rw [su_ne (Or.inl (by decide))]; exact hn1 t t0 t1) (fun t t0 t1 => ?_) hfin
      by_cases e : t = s
      · subst e; rw [su_eq]; exact hn1 _ t0 (by omega)
      · rw [su_ne (Or.inr e)]; exact hn2 t t0 (by omega)
  -- the sets
  have second : ∀ (m s : Nat) (nx : Int → Int) (σ1 : PS), s + m = 2 ^ n → eqx [111, 112, 120, 121, 122, 123] σ σ1 → (∀ t : Int, 0 ≤ t → t < ((2 ^ n : Nat) : Int) → σ1 120 t = nx t) → dayR fs (fun S p => chA T R e S p) F n m s nx = dayA fs (fun S p => chA T R e S p) n F → XX g true (d + 5) P_X12_aDayAhead 27 [(2, 88), (0, e), (0, (s : Int))] [] 136 σ1 136 Q := by
    intro m
    induction m with
    | zero =>
      intro s nx σ1 hs hx hn1 hfin
      have o2 : σ1 88 2 = n := by rw [hx 88 (by decide)]; exact e2
      refine B_X12_aDayAhead_27 ⟨fun _ => ?_, fun h => by rw [o2, ish] at h; omega⟩
      exact third (2 ^ n) 0 nx σ1 (by omega) (hx.mono (by decide)) hn1 (fun t t0 t1 => by omega) hfin
    | succ m ih =>
      intro s nx σ1 hs hx hn1 hfin
      have o2 : σ1 88 2 = n := by rw [hx 88 (by decide)]; exact e2
      have oF : σ1 119 (s : Int) = F s := by rw [hx 119 (by decide)]; exact hF.2 _ (Int.natCast_nonneg s) (by omega)
      have hFs := hnn s (Int.natCast_nonneg s) (by omega)
      have hR1 : RowMx R σ1 := hR.x hx fun a a1 a2 => by simp only [List.mem_cons, List.not_mem_nil, or_false]; omega
      have hT1 : TxtM 0 T σ1 := hT.x hx fun a a1 a2 => by simp only [List.mem_cons, List.not_mem_nil, or_false]; omega
      have hs1 : s < 2 ^ n := by omega
      rw [dayR_succ] at hfin
      refine B_X12_aDayAhead_27 ⟨fun h => by rw [o2, ish] at h; omega, fun _ => ⟨by omega, ?_⟩⟩
      rw [oF, w32_of (x := (s : Int) + 1) (by omega) (by omega)]
      refine ⟨fun hz => ?_, fun hz => ?_⟩
      · rw [if_pos (by omega)] at hfin
        exact ih (s + 1) nx σ1 (by omega) hx hn1 hfin
      · have hz2 : ¬ F s = 0 := by omega
        rw [if_neg hz2] at hfin
        refine s_splitsM (v := F s) (fs := fs) (nx := nx) hR1 ok hT1 okT hn hn10 hs1 oF hz2 (fun t t0 t1 => by rw [hx 124 (by decide)]; exact hF.1 t t0 t1) hn1 fun σ2 hx2 hn2 => ?_
        have es : ((s + 1 : Nat) : Int) = (s : Int) + 1 := by omega
        have h9 := ih (s + 1) _ σ2 (by omega) (hx.tr hx2) hn2
        rw [es] at h9
        exact h9 hfin
  have first : ∀ (m s : Nat) (σ1 : PS), s + m = 2 ^ n → eqx [120] σ σ1 → (∀ t : Int, 0 ≤ t → t < s → σ1 120 t = 0) → XX g true (d + 5) P_X12_aDayAhead 2 [(2, 88), (0, e), (0, (s : Int))] [] 136 σ1 136 Q := by
    intro m
    induction m with
    | zero =>
      intro s σ1 hs hx hz
      have o2 : σ1 88 2 = n := by rw [hx 88 (by decide)]; exact e2
      refine B_X12_aDayAhead_2 ⟨fun _ => ?_, fun h => by rw [o2, ish] at h; omega⟩
      exact second (2 ^ n) 0 (fun _ => 0) σ1 (by omega) (hx.mono (by decide)) (fun t t0 t1 => hz t t0 (by omega)) rfl
    | succ m ih =>
      intro s σ1 hs hx hz
      have o2 : σ1 88 2 = n := by rw [hx 88 (by decide)]; exact e2
      refine B_X12_aDayAhead_2 ⟨fun h => by rw [o2, ish] at h; omega, fun _ => ⟨by omega, ?_⟩⟩
      rw [w32_of (x := (s : Int) + 1) (by omega) (by omega)]
      refine ih (s + 1) _ (by omega) (hx.su (by decide)) fun t t0 t1 => ?_
      by_cases e : t = s
      · subst e; exact su_eq
      · rw [su_ne (Or.inr e)]; exact hz t t0 (by omega)
  exact B_X12_aDayAhead_0 (first (2 ^ n) 0 σ (by omega) eqx.rf fun t t0 t1 => by omega)
theorem s_findsSetFails {n : Nat} {E : Int → Int} {σ : PS} (hE : BrkM E σ) (e2 : σ 88 2 = n) (hn10 : n ≤ 10) (w : ∀ σ', eqx [113, 124] σ σ' → (∀ s : Int, 0 ≤ s → s < ((2 ^ n : Nat) : Int) → σ' 124 s = fsF E n s) → Q 0 σ') : XX g true (d + 3) P_X12_findsSetFails 0 [(2, 88), (9, 0), (9, 0)] [] 136 σ 136 Q := by
  obtain ⟨hK0, hK⟩ := pow10 hn10
  have ish : ishl 1 (n : Int) = ((2 ^ n : Nat) : Int) := shl1_nat (by omega)
  have inner : ∀ (s : Nat), s < 2 ^ n → ∀ (m p : Nat) (σ1 : PS), p + m = n → eqx [113, 124] σ σ1 → (∀ t : Int, 0 ≤ t → t < s → σ1 124 t = fsF E n t) → (∀ p2 : Nat, p2 < p → σ1 113 p2 = bitN s p2) → (∀ σ', eqx [113, 124] σ σ' → (∀ t : Int, 0 ≤ t → t < (s : Int) + 1 → σ' 124 t = fsF E n t) → XX g true (d + 3) P_X12_findsSetFails 2 [(2, 88), (0, (s : Int) + 1), (9, 0)] [] 136 σ' 136 Q) → XX g true (d + 3) P_X12_findsSetFails 14 [(2, 88), (0, (s : Int)), (0, (p : Int))] [] 136 σ1 136 Q := by
    intro s hs m
    induction m with
    | zero =>
      intro p σ1 hp hx hf ht w2
      have o2 : σ1 88 2 = n := by rw [hx 88 (by decide)]; exact e2
      refine B_X12_findsSetFails_14 ⟨fun _ => ?_, fun h => by rw [o2] at h; omega⟩
      refine s_failsTrial (E := E) (n := n) (f := fun p => bitN s p) (hE.x hx (by decide) (by decide) (by decide) (by decide) (by decide)) o2 (by omega) (fun q hq => ⟨ht q (by omega), bitN_01 s q⟩) ?_
      rw [w32_of (x := (s : Int) + 1) (by omega) (by omega)]
      refine ⟨by omega, ite01 _, w2 _ (hx.su (by decide)) fun t t0 t1 => ?_⟩
      by_cases e : t = s
      · rw [e, su_eq]
        unfold fsF
        rw [Int.toNat_natCast]
      · rw [su_ne (Or.inr e)]; exact hf t t0 (by omega)
    | succ m ih =>
      intro p σ1 hp hx hf ht w2
      have o2 : σ1 88 2 = n := by rw [hx 88 (by decide)]; exact e2
      refine B_X12_findsSetFails_14 ⟨fun h => by rw [o2] at h; omega, fun _ => ⟨by omega, ?_⟩⟩
      rw [w32_of (x := (p : Int) + 1) (by omega) (by omega), bit_and1 (by omega) (by omega)]
      refine ih (p + 1) _ (by omega) (hx.su (by decide)) (fun t t0 t1 => by rw [su_ne (Or.inl (by decide))]; exact hf t t0 t1) (fun p2 hp2 => ?_) w2
      by_cases e : p2 = p
      · subst e; exact su_eq
      · rw [su_ne (Or.inr (by omega))]; exact ht p2 (by omega)
  have outer : ∀ (m s : Nat) (σ1 : PS), s + m = 2 ^ n → eqx [113, 124] σ σ1 → (∀ t : Int, 0 ≤ t → t < s → σ1 124 t = fsF E n t) → XX g true (d + 3) P_X12_findsSetFails 2 [(2, 88), (0, (s : Int)), (9, 0)] [] 136 σ1 136 Q := by
    intro m
    induction m with
    | zero =>
      intro s σ1 hs hx hf
      have o2 : σ1 88 2 = n := by rw [hx 88 (by decide)]; exact e2
      exact B_X12_findsSetFails_2 ⟨fun _ => w σ1 hx fun t t0 t1 => hf t t0 (by omega), fun h => by rw [o2, ish] at h; omega⟩
    | succ m ih =>
      intro s σ1 hs hx hf
      have o2 : σ1 88 2 = n := by rw [hx 88 (by decide)]; exact e2
      refine B_X12_findsSetFails_2 ⟨fun h => by rw [o2, ish] at h; omega, fun _ => ?_⟩
      exact inner s (by omega) n 0 σ1 (by omega) hx hf (fun p2 hp2 => by omega) fun σ2 hx2 hf2 => ih (s + 1) σ2 (by omega) hx2 hf2
  exact B_X12_findsSetFails_0 (outer (2 ^ n) 0 σ (by omega) eqx.rf fun t t0 t1 => by omega)
theorem s_beginsAhead {n : Nat} {E : Int → Int} {R σ : PS} (hR : RowMx R σ) (ok : RSok R) (hE : BrkM E σ) (hn : R 0 0 = n) (hn10 : n ≤ 10) (w : ∀ σ', eqx [113, 119, 124] σ σ' → FutM n (fut0 E R n) (fsF E n) σ' → Q 0 σ') : XX g true (d + 4) P_X12_beginsAhead 0 [(2, 88), (9, 0), (9, 0)] [] 136 σ 136 Q := by
  obtain ⟨hK0, hK⟩ := pow10 hn10
  have e2 : σ 88 2 = n := by rw [hR.1.1]; exact hn
  have hbnd : ∀ p : Nat, p ≤ n → 0 ≤ gset (R 3) p ∧ gset (R 3) p < ((2 ^ p : Nat) : Int) := by
    intro p
    induction p with
    | zero => intro _; exact ⟨(by decide : (0 : Int) ≤ 0), (by decide : (0 : Int) < ((2 ^ 0 : Nat) : Int))⟩
    | succ p ih =>
      intro hp
      obtain ⟨i0, i1⟩ := ih (by omega)
      have h01 := (ok.2.2.1 (p : Int) (by omega) (by omega)).2.1
      obtain ⟨k, hk⟩ : ∃ k : Nat, gset (R 3) p = (k : Int) := ⟨(gset (R 3) p).toNat, by omega⟩
      obtain ⟨b, hb⟩ : ∃ b : Nat, R 3 p = (b : Int) := ⟨(R 3 p).toNat, by omega⟩
      have hpp : 2 ^ (p + 1) ≤ 2 ^ 10 := Nat.pow_le_pow_right (by decide) (by omega)
      rw [Nat.pow_succ] at hpp ⊢
      have hb1 : b * 2 ^ p ≤ 2 ^ p := by
        have := Nat.mul_le_mul_right (2 ^ p) (show b ≤ 1 by omega)
        omega
      have eg : gset (R 3) (p + 1) = ((k ||| b * 2 ^ p : Nat) : Int) := by
        show ior (gset (R 3) p) (ishl (R 3 p) p) = _
        rw [hk, hb, ishl_nat (by omega) (by omega), ior_nat (by omega) (by omega)]
      rw [eg]
      have h3 : k ||| b * 2 ^ p < 2 ^ (p + 1) := Nat.or_lt_two_pow (by rw [Nat.pow_succ]; omega) (by
        have := Nat.two_pow_pos p
        rw [Nat.pow_succ]; omega)
      rw [Nat.pow_succ] at h3
      exact ⟨by omega, by omega⟩
  obtain ⟨g0, g1⟩ := hbnd n (Nat.le_refl n)
  -- all 0 but one
  have second : ∀ (m s : Nat) (σ1 : PS), s + m = 1024 → eqx [113, 119, 124] σ σ1 → (∀ t : Int, 0 ≤ t → t < ((2 ^ n : Nat) : Int) → σ1 124 t = fsF E n t) → (∀ t : Int, 0 ≤ t → t < s → σ1 119 t = 0) → XX g true (d + 4) P_X12_beginsAhead 35 [(2, 88), (0, gset (R 3) n), (0, (s : Int))] [] 136 σ1 136 Q := by
    intro m
    induction m with
    | zero =>
      intro s σ1 hs hx hf hz
      refine B_X12_beginsAhead_35 ⟨fun _ => ⟨by omega, ?_⟩, fun h => by omega⟩
      rw [hf _ g0 g1]
      refine ⟨fun h => w σ1 hx ⟨hf, fun t t0 t1 => ?_⟩, fun h => w _ (hx.su (by decide)) ⟨fun t t0 t1 => ?_, fun t t0 t1 => ?_⟩⟩
      · unfold fut0
        rw [if_neg (fun z => h (by rw [← z.1]; exact z.2))]
        exact hz t t0 (by omega)
      · rw [su_ne (Or.inl (by decide))]; exact hf t t0 t1
      · unfold fut0
        by_cases e : t = gset (R 3) n
        · rw [if_pos ⟨e, by rw [e]; exact h⟩, e, su_eq]
        · rw [if_neg (fun z => e z.1), su_ne (Or.inr e)]; exact hz t t0 (by omega)
    | succ m ih =>
      intro s σ1 hs hx hf hz
      refine B_X12_beginsAhead_35 ⟨fun h => by omega, fun _ => ⟨by omega, ?_⟩⟩
      rw [w32_of (x := (s : Int) + 1) (by omega) (by omega)]
      refine ih (s + 1) _ (by omega) (hx.su (by decide)) (fun t t0 t1 => by rw [su_ne (Or.inl (by decide))]; exact hf t t0 t1) fun t t0 t1 => ?_
      by_cases e : t = s
      · subst e; exact su_eq
      · rw [su_ne (Or.inr e)]; exact hz t t0 (by omega)
  have first : ∀ (m p : Nat) (σ1 : PS), p + m = n → eqx [113, 124] σ σ1 → (∀ t : Int, 0 ≤ t → t < ((2 ^ n : Nat) : Int) → σ1 124 t = fsF E n t) → XX g true (d + 4) P_X12_beginsAhead 8 [(2, 88), (0, gset (R 3) p), (0, (p : Int))] [] 136 σ1 136 Q := by
    intro m
    induction m with
    | zero =>
      intro p σ1 hp hx hf
      have o2 : σ1 88 2 = n := by rw [hx 88 (by decide)]; exact e2
      have ep : p = n := by omega
      subst ep
      refine B_X12_beginsAhead_8 ⟨fun _ => ?_, fun h => by rw [o2] at h; omega⟩
      exact second 1024 0 σ1 (by omega) (hx.mono (by decide)) hf fun t t0 t1 => by omega
    | succ m ih =>
      intro p σ1 hp hx hf
      have o2 : σ1 88 2 = n := by rw [hx 88 (by decide)]; exact e2
      have o9 : σ1 91 p = R 3 p := by rw [hx 91 (by decide)]; exact (hR.2.1 (p : Int) (by omega) (by omega)).2.2.1
      refine B_X12_beginsAhead_8 ⟨fun h => by rw [o2] at h; omega, fun _ => ⟨by omega, fun y2 h2 => ?_⟩⟩
      rw [o9] at h2
      have e3 : y2 = gset (R 3) (p + 1) := h2
      rw [w32_of (x := (p : Int) + 1) (by clear h2 e3; omega) (by clear h2 e3; omega), e3]
      exact ih (p + 1) σ1 (by clear h2 e3; omega) hx hf
  refine B_X12_beginsAhead_0 (s_findsSetFails hE e2 hn10 fun σ1 hx hf => ?_)
  exact first n 0 σ1 (by omega) hx hf
theorem s_leftNow {n : Nat} {F fs : Int → Int} {σ : PS} (hn10 : n ≤ 10) (e2 : σ 88 2 = n) (hF : FutM n F fs σ) (w : Q (leftS F n) σ) : XX g true d P_X12_leftNow 0 [(2, 88), (9, 0), (9, 0), (9, 0)] [] 136 σ 136 Q := by
  obtain ⟨hK0, hK⟩ := pow10 hn10
  have ish : ishl 1 (n : Int) = ((2 ^ n : Nat) : Int) := shl1_nat (by omega)
  have key : ∀ (m s : Nat) (acc : Int), s + m = 2 ^ n → sumL F m s acc = leftS F n → XX g true d P_X12_leftNow 4 [(2, 88), (1, acc), (9, 0), (0, (s : Int))] [] 136 σ 136 Q := by
    intro m
    induction m with
    | zero =>
      intro s acc hs hfin
      refine B_X12_leftNow_4 ⟨fun _ => ?_, fun h => by rw [e2, ish] at h; omega⟩
      have : acc = leftS F n := hfin
      rw [this]
      exact w
    | succ m ih =>
      intro s acc hs hfin
      rw [sumL_succ] at hfin
      refine B_X12_leftNow_4 ⟨fun h => by rw [e2, ish] at h; omega, fun _ => ⟨by omega, fun y2 h2 => ?_⟩⟩
      rw [hF.2 s (Int.natCast_nonneg s) (by clear h2; omega)] at h2
      rw [w32_of (by clear h2; omega) (by clear h2; omega), h2]
      exact ih (s + 1) _ (by clear h2; omega) hfin
  exact B_X12_leftNow_0 (key (2 ^ n) 0 0 (by omega) rfl)
end PFUTX
