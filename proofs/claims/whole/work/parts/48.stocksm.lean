/-! FROM WHICH STOCKS: the model -/
section PSTOCKSM
variable {g : PG} {d : Nat} {Q : Int → PS → Prop}
/-- the ways so far, by how many go from the left -/
def waysM (S n p : Nat) (top : Int) (σ : PS) : Prop := ∀ k : Int, 0 ≤ k → k ≤ top → σ 132 k = if k ≤ (metN S p : Int) then wayP S n k p else -1
theorem metN_mono (S : Nat) : ∀ (m p : Nat), metN S p ≤ metN S (p + m) := by
  intro m
  induction m with
  | zero => intro p; exact Nat.le_refl _
  | succ m ih => intro p; rw [show p + (m + 1) = (p + m) + 1 by omega, metN_succ]; have := ih p; omega
/-- one place that wants wood: the ways from the dearest down -/
theorem s_stocks_place {S n p : Nat} {wh : Int} {σ0 : PS} (hn : n ≤ 30) (hp : p < n) (hb : bitN S p = 1) (e2 : σ0 88 2 = n) (hm : metN S (p + 1) ≤ pcN S) (hpc : pcN S ≤ 30) (w : ∀ σ', eqx [132] σ0 σ' → waysM S n (p + 1) (pcN S) σ' → XX g true (d + 1) P_X12_stocks 242 [(2, 88), (0, (S : Int)), (0, wh), (0, (pcN S : Int)), (0, (metN S (p + 1) : Int)), (0, (p : Int)), (9, 0), (9, 0), (9, 0)] [] 136 σ' 136 Q) :
    ∀ (m : Nat) (σ1 : PS), m ≤ metN S (p + 1) + 1 → eqx [132] σ0 σ1 → (∀ k : Int, 0 ≤ k → k < m → σ1 132 k = if k ≤ (metN S p : Int) then wayP S n k p else -1) → (∀ k : Int, (m : Int) ≤ k → k ≤ pcN S → σ1 132 k = if k ≤ (metN S (p + 1) : Int) then wayP S n k (p + 1) else -1) → XX g true (d + 1) P_X12_stocks 116 [(2, 88), (0, (S : Int)), (0, wh), (0, (pcN S : Int)), (0, (metN S (p + 1) : Int)), (0, (p : Int)), (0, (m : Int) - 1), (9, 0), (9, 0)] [] 136 σ1 136 Q := by
  have em : metN S (p + 1) = metN S p + 1 := by rw [metN_succ, hb]; rfl
  intro m
  induction m with
  | zero =>
    intro σ1 _ hx h1 h2
    refine B_X12_stocks_116 ⟨fun _ => w σ1 hx fun k k0 k1 => h2 k (by omega) k1, fun h => by omega⟩
  | succ m ih =>
    intro σ1 hm1 hx h1 h2
    have o2 : σ1 88 2 = n := by rw [hx 88 (by decide)]; exact e2
    have ek : ((m + 1 : Nat) : Int) - 1 = (m : Int) := by omega
    rw [ek]
    have hbm := wayP_bd (S := S) (l := (m : Int)) hn (p := p) (by omega)
    have hbm1 := wayP_bd (S := S) (l := (m : Int) - 1) hn (p := p) (by omega)
    have hbn := wayP_bd (S := S) (l := (m : Int)) hn (p := p + 1) (by omega)
    -- behind the writing
    have fin : ∀ v : Int, v = wayP S n m (p + 1) → XX g true (d + 1) P_X12_stocks 236 [(2, 88), (0, (S : Int)), (0, wh), (0, (pcN S : Int)), (0, (metN S (p + 1) : Int)), (0, (p : Int)), (0, (m : Int)), (9, 0), (9, 0)] [] 136 (su σ1 132 m v) 136 Q := by
      intro v hv
      refine B_X12_stocks_236 ?_
      rw [w32_of (by omega) (by omega), show (m : Int) + (-1) = (m : Int) - 1 by omega]
      refine ih _ (by omega) (hx.su (by decide)) (fun k k0 k1 => ?_) fun k k0 k1 => ?_
      · rw [su_ne (Or.inr (by omega))]; exact h1 k k0 (by omega)
      · by_cases e : k = m
        · rw [e, su_eq, if_pos (by omega)]; exact hv
        · rw [su_ne (Or.inr e)]; exact h2 k (by omega) k1
    -- what the left and the right ask
    have hway : wayP S n m (p + 1) = wayP S n m p + (if (metN S p : Int) < (m : Int) then (p : Int) + 1 else (n : Int) - p) := by rw [wayP_succ, if_pos hb]
    have st198 : ∀ x7 x8 : Int, (x7 = -1 ∧ x8 = wayP S n m (p + 1) ∨ (x7 = wayP S n m (p + 1) ∧ (x8 = -1 ∨ x7 < x8))) → XX g true (d + 1) P_X12_stocks 198 [(2, 88), (0, (S : Int)), (0, wh), (0, (pcN S : Int)), (0, (metN S (p + 1) : Int)), (0, (p : Int)), (0, (m : Int)), (0, x7), (0, x8)] [] 136 σ1 136 Q := by
      intro x7 x8 h
      refine B_X12_stocks_198 ⟨fun h7 => ⟨fun h8 => ⟨by omega, fin x7 (by omega)⟩, fun h8 => ⟨fun hle => by omega, fun _ => ⟨by omega, fin x7 (by omega)⟩⟩⟩, fun h7 => ⟨by omega, fin x8 (by omega)⟩⟩
    have st160 : ∀ x7 : Int, ((m : Int) = metN S (p + 1) ∧ x7 = -1 ∨ ((m : Int) ≤ metN S p ∧ x7 = wayP S n m (p + 1))) → XX g true (d + 1) P_X12_stocks 160 [(2, 88), (0, (S : Int)), (0, wh), (0, (pcN S : Int)), (0, (metN S (p + 1) : Int)), (0, (p : Int)), (0, (m : Int)), (0, x7), (9, 0)] [] 136 σ1 136 Q := by
      intro x7 h
      refine B_X12_stocks_160 ⟨fun h0 => ?_, fun h0 => ?_⟩
      · exact B_X12_stocks_178 (st198 x7 (-1) (by omega))
      · have e1 : w32 ((m : Int) - 1) = (m : Int) - 1 := w32_of (by omega) (by omega)
        have hv := h1 ((m : Int) - 1) (by omega) (by omega)
        rw [if_pos (by omega)] at hv
        rw [e1, hv]
        refine ⟨by omega, fun hne y2 h3 => ?_, fun he => by omega⟩
        rw [w32_of (x := wayP S n ((m : Int) - 1) p + p) (by omega) (by omega), w32_of (by omega) (by omega)] at h3
        refine st198 x7 y2 ?_
        rcases h with ⟨ha, hc⟩ | ⟨ha, hc⟩
        · left
          have e3 := wayP_big (S := S) (n := n) (l := (m : Int)) (l' := (m : Int) - 1) (p := p) (by omega) (by omega)
          rw [if_pos (by omega)] at hway
          exact ⟨hc, by omega⟩
        · right
          have hd := wayP_diff (S := S) (n := n) (k := (m : Int)) (by omega) (p := p) (by omega)
          rw [if_neg (by omega)] at hway
          exact ⟨hc, by omega⟩
    have hv := h1 (m : Int) (by omega) (by omega)
    refine B_X12_stocks_116 ⟨fun h => by omega, fun _ => ⟨fun he => B_X12_stocks_139 (st160 (-1) (by omega)), fun hne => ⟨by omega, ?_⟩⟩⟩
    rw [if_pos (by omega)] at hv
    rw [hv, o2]
    refine ⟨fun _ y2 h3 => ?_, fun he => by omega⟩
    rw [w32_of (x := wayP S n m p + n) (by omega) (by omega), w32_of (by omega) (by omega)] at h3
    refine st160 y2 (Or.inr ⟨by omega, ?_⟩)
    rw [hway, if_neg (by omega)]
    omega
theorem s_stocksM {s wh : Int} {R σ : PS} (hR : RowM R σ) (ok : RSok R) (w : ∀ σ', eqm [132] [0] σ σ' → Q (stocksA R s wh) σ') : XX g true (d + 1) P_X12_stocks 0 [(2, 88), (0, s), (0, wh), (9, 0), (9, 0), (9, 0), (9, 0), (9, 0), (9, 0)] [] 136 σ 136 Q := by
  have k1 := ok.1
  have hn : R 0 0 = ((R 0 0).toNat : Int) := by omega
  obtain ⟨-, -, -, -, -, -, k7, k8⟩ := ok
  have hx0 : eqm [132] [0] σ (su σ 88 0 0) := eqm.rf.s8 (by decide)
  have e20 : su σ 88 0 0 88 2 = R 0 0 := by rw [su_ne (Or.inr (by decide))]; exact hR.1.1.1
  have e60 : su σ 88 0 0 97 6 = R 9 6 := by rw [su_ne (Or.inl (by decide))]; exact hR.1.2.2.2 6 (by omega) (by omega) (by omega)
  have e70 : su σ 88 0 0 97 7 = R 9 7 := by rw [su_ne (Or.inl (by decide))]; exact hR.1.2.2.2 7 (by omega) (by omega) (by omega)
  refine B_X12_stocks_0 ?_
  obtain ⟨σ0, e0⟩ : ∃ σ0, σ0 = su σ 88 0 0 := ⟨_, rfl⟩
  rw [← e0] at hx0 e20 e60 e70 ⊢
  rw [hR.1.1.1]
  unfold stocksA at w
  refine ⟨fun h => B_X12_stocks_41 ?_, fun h30 => s_isIn ?_⟩
  · rw [if_pos h] at w
    exact w σ0 hx0
  rw [if_neg (by omega)] at w
  have hp1 := Nat.two_pow_pos (R 0 0).toNat
  have hp2 : 2 ^ (R 0 0).toNat ≤ 2 ^ 30 := Nat.pow_le_pow_right (by decide) (by omega)
  have ish : ishl 1 (R 0 0) = ((2 ^ (R 0 0).toNat : Nat) : Int) := by
    have h9 := shl1_nat (k := (R 0 0).toNat) (by omega)
    rw [← hn] at h9
    exact h9
  have ew : w32 (((2 ^ (R 0 0).toNat : Nat) : Int) - 1) = ((2 ^ (R 0 0).toNat : Nat) : Int) - 1 := w32_of (by omega) (by omega)
  rw [ish, ew]
  clear ew ish
  by_cases hs : 0 ≤ s ∧ s ≤ ((2 ^ (R 0 0).toNat : Nat) : Int) - 1
  case neg =>
    rw [if_neg (by omega)] at w
    rw [if_neg hs]
    exact ⟨fun _ => B_X12_stocks_41 (w σ0 hx0), fun z => absurd rfl z⟩
  rw [if_pos hs]
  refine ⟨fun z => by omega, fun _ => s_isIn ?_⟩
  by_cases hw : 0 ≤ wh ∧ wh ≤ 1
  case neg =>
    rw [if_neg (fun z => hw z.2)] at w
    rw [if_neg hw]
    exact ⟨fun z => absurd rfl z, fun _ => B_X12_stocks_41 (w σ0 hx0)⟩
  rw [if_pos hw]
  rw [if_pos ⟨⟨hs.1, by omega⟩, hw⟩] at w
  obtain ⟨S, rfl⟩ : ∃ S : Nat, s = (S : Int) := ⟨s.toNat, by omega⟩
  rw [Int.toNat_natCast] at w
  have hS : S < 2 ^ (R 0 0).toNat := by omega
  have hS31 : S < 2 ^ 31 := by omega
  have hpc := pcN_le (R 0 0).toNat S hS
  have hmet : metN S (R 0 0).toNat = pcN S := by rw [metN_pc, Nat.mod_eq_of_lt hS]
  clear hs hp1 hp2
  obtain ⟨n, hnn⟩ : ∃ n : Nat, (R 0 0).toNat = n := ⟨_, rfl⟩
  have w : ∀ σ', eqx [132] σ0 σ' → Q (if wh = 0 ∧ stBest R S ≠ -1 then wayP S (R 0 0).toNat (stBest R S) (R 0 0).toNat else stBest R S) σ' := fun σ' hx => w σ' (hx0.x hx (by decide) (by decide))
  unfold stBest at w
  rw [hnn] at hn hS hpc hmet w
  clear hS
  rw [hn] at e20
  refine ⟨fun _ => s_ones hS31 ?_, fun z => by omega⟩
  -- the best
  have last : ∀ (σ1 : PS), eqx [132] σ0 σ1 → waysM S n n (pcN S) σ1 → ∀ (m : Nat) (k best : Int), 0 ≤ k → k + m = (pcN S : Int) + 1 → -1 ≤ best → best < k → (stcR (fun l => wayP S n l n) (stHi R S - imax (stLo R S) k + 1).toNat (imax (stLo R S) k) best) = stcR (fun l => wayP S n l n) (stHi R S - stLo R S + 1).toNat (stLo R S) (-1) → XX g true (d + 1) P_X12_stocks 254 [(2, 88), (9, 0), (0, wh), (0, (pcN S : Int)), (9, 0), (0, best), (0, k), (9, 0), (9, 0)] [] 136 σ1 136 Q := by
    intro σ1 hx hways m
    have o6 : σ1 97 6 = R 9 6 := by rw [hx 97 (by decide)]; exact e60
    have o7 : σ1 97 7 = R 9 7 := by rw [hx 97 (by decide)]; exact e70
    have wv : ∀ k : Int, 0 ≤ k → k ≤ pcN S → σ1 132 k = wayP S n k n ∧ 0 ≤ wayP S n k n := fun k k0 k1 => by
      have h := hways k k0 k1
      rw [hmet, if_pos k1] at h
      exact ⟨h, (wayP_bd (S := S) (l := k) (by omega) (Nat.le_refl n)).1⟩
    have hlo : stLo R S = imax 0 ((pcN S : Int) - R 9 7) := rfl
    have hhi : stHi R S = imin (pcN S) (R 9 6) := rfl
    have lo1 : 0 ≤ stLo R S ∧ (∀ k : Int, 0 ≤ k → (k < stLo R S ↔ R 9 7 < (pcN S : Int) - k)) := by
      rw [hlo]
      unfold imax
      refine ⟨by split <;> omega, fun k k0 => by split <;> omega⟩
    have hi1 : stHi R S ≤ pcN S ∧ (∀ k : Int, k ≤ pcN S → (stHi R S < k ↔ R 9 6 < k)) := by
      rw [hhi]
      unfold imin
      refine ⟨by split <;> omega, fun k k1 => by split <;> omega⟩
    generalize stLo R S = lo at *
    generalize stHi R S = hi at *
    induction m with
    | zero =>
      intro k best k0 hk hb1 hb2 hfin
      have e : (hi - imax lo k + 1).toNat = 0 := by unfold imax; split <;> omega
      rw [e] at hfin
      have hfin2 : best = stcR (fun l => wayP S n l n) (hi - lo + 1).toNat lo (-1) := hfin
      rw [← hfin2] at w
      refine B_X12_stocks_254 ⟨fun _ => ⟨fun hb => B_X12_stocks_344 ?_, fun hb => ⟨fun h1 => ⟨by omega, ?_⟩, fun h1 => B_X12_stocks_344 ?_⟩⟩, fun h => by omega⟩
      · have h9 := w σ1 hx
        rw [if_neg (fun z => z.2 hb)] at h9
        exact h9
      · have h9 := w σ1 hx
        rw [if_pos ⟨by omega, hb⟩] at h9
        rw [(wv best (by omega) (by omega)).1]
        exact h9
      · have h9 := w σ1 hx
        rw [if_neg (fun z => by omega)] at h9
        exact h9
    | succ m ih =>
      intro k best k0 hk hb1 hb2 hfin
      have hl := lo1.2 k k0
      have hh := hi1.2 k (by omega)
      obtain ⟨wk, wk0⟩ := wv k k0 (by omega)
      have skip : (k < lo ∨ hi < k) → XX g true (d + 1) P_X12_stocks 327 [(2, 88), (9, 0), (0, wh), (0, (pcN S : Int)), (9, 0), (0, best), (0, k), (9, 0), (9, 0)] [] 136 σ1 136 Q := by
        intro hs
        refine B_X12_stocks_327 ?_
        rw [w32_of (by omega) (by omega)]
        refine ih (k + 1) best (by omega) (by omega) hb1 (by omega) ?_
        rw [← hfin]
        rcases hs with hs | hs
        · have e1 : imax lo (k + 1) = imax lo k := by unfold imax; split <;> split <;> omega
          rw [e1]
        · have e1 : (hi - imax lo (k + 1) + 1).toNat = 0 := by unfold imax; split <;> omega
          have e2 : (hi - imax lo k + 1).toNat = 0 := by unfold imax; split <;> omega
          rw [e1, e2]
          rfl
      have take : ¬ (k < lo ∨ hi < k) → ∀ b2 : Int, b2 = (if best = -1 ∨ wayP S n k n < wayP S n best n then k else best) → XX g true (d + 1) P_X12_stocks 327 [(2, 88), (9, 0), (0, wh), (0, (pcN S : Int)), (9, 0), (0, b2), (0, k), (9, 0), (9, 0)] [] 136 σ1 136 Q := by
        intro hs b2 hb
        refine B_X12_stocks_327 ?_
        rw [w32_of (by omega) (by omega)]
        have e1 : imax lo k = k := by unfold imax; split <;> omega
        have e2 : imax lo (k + 1) = k + 1 := by unfold imax; split <;> omega
        have e3 : (hi - k + 1).toNat = (hi - (k + 1) + 1).toNat + 1 := by omega
        rw [e1, e3, stcR_succ] at hfin
        refine ih (k + 1) b2 (by omega) (by omega) ?_ ?_ ?_
        · rw [hb]; split <;> omega
        · rw [hb]; split <;> omega
        · rw [e2, hb]; exact hfin
      refine B_X12_stocks_254 ⟨fun h => by omega, fun _ => ?_⟩
      rw [o6, o7, wk, w32_of (x := (pcN S : Int) - k) (by omega) (by omega)]
      refine ⟨fun h => skip (Or.inr (hh.mpr h)), fun h => ⟨fun h2 => skip (Or.inl (hl.mpr h2)), fun h2 => ⟨by omega, fun h3 => ⟨fun h4 => B_X12_stocks_323 (take (by omega) k ?_), fun h4 => ⟨by omega, ?_⟩⟩, fun h3 => by omega⟩⟩⟩
      · rw [if_pos (Or.inl h4)]
      · rw [(wv best (by omega) (by omega)).1]
        refine ⟨fun h5 => take (by omega) best ?_, fun h5 => B_X12_stocks_323 (take (by omega) k ?_)⟩
        · rw [if_neg (by omega)]
        · rw [if_pos (Or.inr h5)]
  -- the places
  have places : ∀ (m p : Nat) (σ1 : PS), p + m = n → eqx [132] σ0 σ1 → waysM S n p (pcN S) σ1 → XX g true (d + 1) P_X12_stocks 85 [(2, 88), (0, (S : Int)), (0, wh), (0, (pcN S : Int)), (0, (metN S p : Int)), (0, (p : Int)), (9, 0), (9, 0), (9, 0)] [] 136 σ1 136 Q := by
    intro m
    induction m with
    | zero =>
      intro p σ1 hp hx hways
      have ep : p = n := by omega
      subst ep
      have o2 : σ1 88 2 = p := by rw [hx 88 (by decide)]; exact e20
      refine B_X12_stocks_85 ⟨fun _ => ?_, fun h => by rw [o2] at h; omega⟩
      refine last σ1 hx hways (pcN S + 1) 0 (-1) (by omega) (by omega) (by omega) (by omega) ?_
      have e1 : imax (stLo R S) 0 = stLo R S := by unfold stLo imax; split <;> split <;> omega
      rw [e1]
    | succ m ih =>
      intro p σ1 hp hx hways
      have o2 : σ1 88 2 = n := by rw [hx 88 (by decide)]; exact e20
      have hb01 := bitN_01 S p
      have hmle := metN_le S p
      have hmono := metN_mono S m (p + 1)
      rw [show p + 1 + m = n by omega, hmet] at hmono
      have next : ∀ σ2, eqx [132] σ1 σ2 → waysM S n (p + 1) (pcN S) σ2 → XX g true (d + 1) P_X12_stocks 242 [(2, 88), (0, (S : Int)), (0, wh), (0, (pcN S : Int)), (0, (metN S (p + 1) : Int)), (0, (p : Int)), (9, 0), (9, 0), (9, 0)] [] 136 σ2 136 Q := by
        intro σ2 hx2 hw2
        refine B_X12_stocks_242 ?_
        rw [w32_of (by omega) (by omega)]
        exact ih (p + 1) σ2 (by omega) (hx.tr hx2) hw2
      refine B_X12_stocks_85 ⟨fun h => by rw [o2] at h; omega, fun _ => ?_⟩
      rw [bit_and1 hS31 (by omega)]
      refine ⟨fun hz y1 h1 => ?_, fun hz => ?_⟩
      · have hb : bitN S p = 1 := by omega
        have em : metN S (p + 1) = metN S p + 1 := by rw [metN_succ, hb]; rfl
        rw [w32_of (by omega) (by omega)] at h1
        have e1 : y1 = (metN S (p + 1) : Int) := by omega
        rw [e1]
        have h9 := s_stocks_place (g := g) (d := d) (Q := Q) (S := S) (n := n) (p := p) (wh := wh) (σ0 := σ1) (by omega) (by omega) hb o2 hmono (by omega) next (metN S (p + 1) + 1) σ1 (Nat.le_refl _) eqx.rf (fun k k0 k1 => hways k k0 (by omega)) (fun k k0 k1 => by
          rw [hways k (by omega) k1, if_neg (by omega), if_neg (by omega)])
        rw [show ((metN S (p + 1) + 1 : Nat) : Int) - 1 = (metN S (p + 1) : Int) by omega] at h9
        exact h9
      · have em : metN S (p + 1) = metN S p := by rw [metN_succ, hz]; rfl
        have h9 := next σ1 eqx.rf fun k k0 k1 => by
          rw [hways k k0 k1, em, wayP_succ, if_neg (show ¬ bitN S p = 1 by omega)]
        rw [em] at h9
        exact h9
  have begin_ : ∀ (m : Nat) (k : Int) (σ1 : PS), 0 ≤ k → k + m = (pcN S : Int) + 1 → eqx [132] σ0 σ1 → (∀ t, 0 ≤ t → t < k → σ1 132 t = -1) → XX g true (d + 1) P_X12_stocks 52 [(2, 88), (0, (S : Int)), (0, wh), (0, (pcN S : Int)), (0, k), (9, 0), (9, 0), (9, 0), (9, 0)] [] 136 σ1 136 Q := by
    intro m
    induction m with
    | zero =>
      intro k σ1 k0 hk hx hz
      refine B_X12_stocks_52 ⟨fun _ => ?_, fun h => by omega⟩
      refine places n 0 _ (by omega) (hx.su (by decide)) fun t t0 t1 => ?_
      have em : metN S 0 = 0 := rfl
      rw [em]
      by_cases e : t = 0
      · rw [e, su_eq, if_pos (by decide)]; rfl
      · rw [su_ne (Or.inr e), if_neg (by omega)]; exact hz t t0 (by omega)
    | succ m ih =>
      intro k σ1 k0 hk hx hz
      refine B_X12_stocks_52 ⟨fun h => by omega, fun _ => ⟨by omega, ?_⟩⟩
      rw [w32_of (by omega) (by omega)]
      refine ih (k + 1) _ (by omega) (by omega) (hx.su (by decide)) fun t t0 t1 => ?_
      by_cases e : t = k
      · rw [e, su_eq]
      · rw [su_ne (Or.inr e)]; exact hz t t0 (by omega)
  exact begin_ (pcN S + 1) 0 σ0 (by omega) (by omega) eqx.rf fun t t0 t1 => by omega
end PSTOCKSM
