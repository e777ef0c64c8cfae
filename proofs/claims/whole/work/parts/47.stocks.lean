/-! FROM WHICH STOCKS -/
def metN (S : Nat) : Nat → Nat
  | 0 => 0
  | p + 1 => metN S p + (bitN S p).toNat
/-- the way for the first p places, with so many from the left -/
def wayP (S n : Nat) (l : Int) : Nat → Int
  | 0 => 0
  | p + 1 => if bitN S p = 1 then wayP S n l p + (if (metN S p : Int) < l then (p : Int) + 1 else (n : Int) - p) else wayP S n l p
def stcR (W : Int → Int) : Nat → Int → Int → Int
  | 0, _, best => best
  | m + 1, k, best => stcR W m (k + 1) (if best = -1 ∨ W k < W best then k else best)
theorem stcR_succ (W : Int → Int) (m : Nat) (k best : Int) : stcR W (m + 1) k best = stcR W m (k + 1) (if best = -1 ∨ W k < W best then k else best) := rfl
theorem metN_succ (S p : Nat) : metN S (p + 1) = metN S p + (bitN S p).toNat := rfl
theorem wayP_succ (S n : Nat) (l : Int) (p : Nat) : wayP S n l (p + 1) = if bitN S p = 1 then wayP S n l p + (if (metN S p : Int) < l then (p : Int) + 1 else (n : Int) - p) else wayP S n l p := rfl
def stLo (R : PS) (S : Nat) : Int := imax 0 ((pcN S : Int) - R 9 7)
def stHi (R : PS) (S : Nat) : Int := imin (pcN S) (R 9 6)
def stBest (R : PS) (S : Nat) : Int := stcR (fun l => wayP S (R 0 0).toNat l (R 0 0).toNat) (stHi R S - stLo R S + 1).toNat (stLo R S) (-1)
def stocksA (R : PS) (s wh : Int) : Int := if 30 < R 0 0 then -1 else if (0 ≤ s ∧ s < ((2 ^ (R 0 0).toNat : Nat) : Int)) ∧ 0 ≤ wh ∧ wh ≤ 1 then (if wh = 0 ∧ stBest R s.toNat ≠ -1 then wayP s.toNat (R 0 0).toNat (stBest R s.toNat) (R 0 0).toNat else stBest R s.toNat) else -1
theorem metN_le (S : Nat) : ∀ p, metN S p ≤ p := by
  intro p
  induction p with
  | zero => exact Nat.le_refl 0
  | succ p ih =>
    have := bitN_01 S p
    rw [metN_succ]
    omega
theorem metN_pc (S : Nat) : ∀ p, metN S p = pcN (S % 2 ^ p) := by
  intro p
  induction p with
  | zero => rw [Nat.pow_zero, Nat.mod_one, pcN_0]; rfl
  | succ p ih =>
    have hlt : S % 2 ^ p < 2 ^ p := Nat.mod_lt _ (Nat.two_pow_pos p)
    rw [metN_succ, ih, Nat.pow_succ, Nat.mod_mul, Nat.add_comm (S % 2 ^ p), pcN_pow _ _ _ hlt, bitN_div]
    have h01 : S / 2 ^ p % 2 < 2 := Nat.mod_lt _ (by decide)
    have : S / 2 ^ p % 2 = 0 ∨ S / 2 ^ p % 2 = 1 := by omega
    have p1 : pcN 1 = 1 := by rw [pcN_step, show 1 / 2 = 0 by decide, pcN_0]
    rcases this with h | h
    · rw [h, pcN_0]; omega
    · rw [h, p1]; omega
theorem wayP_big {S n : Nat} {l l' : Int} : ∀ {p : Nat}, (metN S p : Int) ≤ l → (metN S p : Int) ≤ l' → wayP S n l p = wayP S n l' p := by
  intro p
  induction p with
  | zero => intro _ _; rfl
  | succ p ih =>
    intro h h'
    rw [metN_succ] at h h'
    have := bitN_01 S p
    rw [wayP_succ, wayP_succ, ih (by omega) (by omega)]
    by_cases hb : bitN S p = 1
    · rw [if_pos hb, if_pos hb, if_pos (by omega), if_pos (by omega)]
    · rw [if_neg hb, if_neg hb]
theorem wayP_diff {S n : Nat} {k : Int} (hk : 1 ≤ k) : ∀ {p : Nat}, k ≤ metN S p → wayP S n k p - wayP S n (k - 1) p ≤ 2 * (p : Int) - 1 - n := by
  intro p
  induction p with
  | zero => intro h; have : metN S 0 = 0 := rfl; omega
  | succ p ih =>
    intro h
    rw [metN_succ] at h
    have hb01 := bitN_01 S p
    rw [wayP_succ, wayP_succ]
    by_cases hb : bitN S p = 1
    · rw [if_pos hb, if_pos hb]
      by_cases he : k = (metN S p : Int) + 1
      · have e := wayP_big (S := S) (n := n) (l := k) (l' := k - 1) (p := p) (by omega) (by omega)
        rw [if_pos (by omega), if_neg (by omega), e]
        omega
      · have := ih (by omega)
        rw [if_neg (by omega), if_neg (by omega)]
        omega
    · rw [if_neg hb, if_neg hb]
      have := ih (by omega)
      omega
theorem wayP_bd {S n : Nat} {l : Int} (hn : n ≤ 30) : ∀ {p : Nat}, p ≤ n → 0 ≤ wayP S n l p ∧ wayP S n l p ≤ 30 * p := by
  intro p
  induction p with
  | zero => intro _; exact ⟨(by decide : (0 : Int) ≤ 0), (by decide : (0 : Int) ≤ 30 * ((0 : Nat) : Int))⟩
  | succ p ih =>
    intro h
    obtain ⟨h1, h2⟩ := ih (by omega)
    rw [wayP_succ]
    split
    · split <;> omega
    · omega
section PSTOCKS
variable {g : PG} {d : Nat} {Q : Int → PS → Prop}
theorem s_wayOf {S n : Nat} {l : Int} {σ : PS} (hS : S < 2 ^ 31) (hn : n ≤ 30) (w : Q (wayP S n l n) σ) : XX g true (d + 1) P_X10_wayOf 0 [(0, (S : Int)), (0, l), (0, (n : Int)), (9, 0), (9, 0), (9, 0)] [] 136 σ 136 Q := by
  have key : ∀ (m p : Nat), p + m = n → XX g true (d + 1) P_X10_wayOf 8 [(0, (S : Int)), (0, l), (0, (n : Int)), (0, wayP S n l p), (0, (metN S p : Int)), (0, (p : Int))] [] 136 σ 136 Q := by
    intro m
    induction m with
    | zero =>
      intro p hp
      have e : p = n := by omega
      subst e
      exact B_X10_wayOf_8 ⟨fun _ => w, fun h => by omega⟩
    | succ m ih =>
      intro p hp
      have hb := wayP_bd (S := S) (l := l) hn (p := p) (by omega)
      have hm := metN_le S p
      have h1 := ih (p + 1) (by omega)
      rw [wayP_succ, metN_succ] at h1
      refine B_X10_wayOf_8 ⟨fun h => by omega, fun _ => ?_⟩
      rw [w32_of (x := (p : Int) + 1) (by omega) (by omega), w32_of (x := (metN S p : Int) + 1) (by omega) (by omega), w32_of (x := (n : Int) - p) (by omega) (by omega)]
      refine s_bit (by omega) (by omega) ⟨fun hz => ?_, fun hz => ⟨fun h2 y3 h3 => ?_, fun h2 y4 h4 => ?_⟩⟩
      · have hb01 := bitN_01 S p
        have e0 : bitN S p = 0 := by omega
        rw [if_neg hz, e0] at h1
        exact h1
      · rw [w32_of (by omega) (by omega)] at h3
        rw [if_pos hz, if_neg (by omega), ← h3, hz] at h1
        exact h1
      · rw [w32_of (by omega) (by omega)] at h4
        rw [if_pos hz, if_pos h2, ← h4, hz] at h1
        exact h1
  exact B_X10_wayOf_0 (key n 0 (by omega))
theorem stcR_best {W : Int → Int} : ∀ {m : Nat} {k b : Int}, -1 ≤ b → b < k → 0 ≤ k → -1 ≤ stcR W m k b ∧ stcR W m k b < k + m := by
  intro m
  induction m with
  | zero => intro k b h1 h2 h3; exact ⟨h1, by show b < k + 0; omega⟩
  | succ m ih =>
    intro k b h1 h2 h3
    rw [stcR_succ]
    split
    · have := ih (k := k + 1) (b := k) (by omega) (by omega) (by omega); omega
    · have := ih (k := k + 1) (b := b) (by omega) (by omega) (by omega); omega
theorem s_leastWay {S : Nat} {wh : Int} {R σ : PS} (hR : RowC 43 R σ) (ok : RSok R) (hn30 : R 0 0 ≤ 30) (hS : S < 2 ^ (R 0 0).toNat) (w : Q (if wh = 0 ∧ stBest R S ≠ -1 then wayP S (R 0 0).toNat (stBest R S) (R 0 0).toNat else stBest R S) σ) : XX g true (d + 2) P_X10_leastWay 0 [(2, 86), (0, (S : Int)), (0, wh), (2, 43), (9, 0), (9, 0), (9, 0), (9, 0), (9, 0), (9, 0), (9, 0)] [] 136 σ 136 Q := by
  have k1 := ok.1
  have hn : R 0 0 = ((R 0 0).toNat : Int) := by omega
  obtain ⟨-, -, -, -, -, -, k7, k8⟩ := ok
  have t6 : σ (43 + 7) 6 = R 9 6 := hR.2.2.2.2.2 6 (by omega) (by omega)
  have t7 : σ (43 + 7) 7 = R 9 7 := hR.2.2.2.2.2 7 (by omega) (by omega)
  have h31 : 2 ^ (R 0 0).toNat ≤ 2 ^ 30 := Nat.pow_le_pow_right (by decide) (by omega)
  have hpc := pcN_le (R 0 0).toNat S hS
  have hlo : 0 ≤ stLo R S := by unfold stLo imax; split <;> omega
  have hlo2 : stLo R S ≤ 30 := by unfold stLo imax; split <;> omega
  have hhi : stHi R S ≤ 30 ∧ 0 ≤ stHi R S := by unfold stHi imin; split <;> omega
  have key : ∀ (m : Nat) (k best : Int), 0 ≤ k → (k + m = stHi R S + 1 ∨ (m = 0 ∧ stHi R S < k)) → -1 ≤ best → best < k → stcR (fun l => wayP S (R 0 0).toNat l (R 0 0).toNat) m k best = stBest R S → XX g true (d + 2) P_X10_leastWay 46 [(9, 0), (0, (S : Int)), (0, wh), (2, 43), (9, 0), (9, 0), (0, stHi R S), (0, best), (0, if best = -1 then -1 else wayP S (R 0 0).toNat best (R 0 0).toNat), (0, k), (9, 0)] [] 136 σ 136 Q := by
    intro m
    induction m with
    | zero =>
      intro k best hk hm hb1 hb2 hfin
      have e : best = stBest R S := hfin
      refine B_X10_leastWay_46 (Or.inl rfl) ⟨fun _ => ⟨fun h => ?_, fun h => ?_⟩, fun h => by omega⟩
      · rw [if_neg (fun z => h z.1)] at w
        rw [e]; exact w
      · rw [e]
        by_cases hb : stBest R S = -1
        · rw [if_neg (fun z => z.2 hb)] at w
          rw [if_pos hb]
          rw [hb] at w
          exact w
        · rw [if_pos ⟨h, hb⟩] at w
          rw [if_neg hb]; exact w
    | succ m ih =>
      intro k best hk hm hb1 hb2 hfin
      rw [stcR_succ] at hfin
      refine B_X10_leastWay_46 (Or.inl rfl) ⟨fun h => by omega, fun _ => ?_⟩
      rw [hR.1.1, hn]
      refine s_wayOf (by omega) (by omega) ?_
      rw [← hn, w32_of (x := k + 1) (by omega) (by omega)]
      have hcase := ih (k + 1)
      refine ⟨fun h => ?_, fun h => ?_⟩
      · rw [if_pos (Or.inl h)] at hfin
        have h9 := hcase k (by omega) (by omega) (by omega) (by omega) hfin
        rw [if_neg (by omega)] at h9
        exact h9
      · rw [if_neg h]
        refine ⟨fun h2 => ?_, fun h2 => ?_⟩
        · rw [if_neg (by omega)] at hfin
          have h9 := hcase best (by omega) (by omega) hb1 (by omega) hfin
          rw [if_neg h] at h9
          exact h9
        · rw [if_pos (Or.inr h2)] at hfin
          have h9 := hcase k (by omega) (by omega) (by omega) (by omega) hfin
          rw [if_neg (by omega)] at h9
          exact h9
  refine B_X10_leastWay_0 (Or.inl rfl) (s_bitCount (by omega) fun y3 h3 y4 h4 => ?_)
  rw [t7, w32_of (by omega) (by omega)] at h3
  rw [t6] at h4
  have e3 : y3 = stLo R S := h3
  have e4 : y4 = stHi R S := h4
  rw [e3, e4]
  exact key (stHi R S - stLo R S + 1).toNat (stLo R S) (-1) hlo (by omega) (by omega) (by omega) rfl
theorem s_stocksC {s wh : Int} {R σ : PS} (hR : RowC 43 R σ) (ok : RSok R) (w : Q (stocksA R s wh) σ) : XX g true (d + 3) P_X11_stocks 0 [(2, 0), (0, s), (0, wh)] [] 136 σ 136 Q := by
  have k1 := ok.1
  have hn : R 0 0 = ((R 0 0).toNat : Int) := by omega
  refine E_okl fun hol _ => ?_
  have hs32 := (hol (0, s) (by simp)).1 rfl
  refine B_X11_stocks_0 ?_
  rw [hR.1.1]
  unfold stocksA at w
  have bad : ¬ ((0 ≤ s ∧ s < ((2 ^ (R 0 0).toNat : Nat) : Int)) ∧ 0 ≤ wh ∧ wh ≤ 1) → Q (-1) σ := fun h => by
    rw [if_neg h] at w
    simp only [ite_self] at w
    exact w
  refine ⟨fun h => bad (by omega), fun h => ⟨fun h2 => bad (by omega), fun h2 => ⟨fun h3 => ?_, fun h3 => ⟨fun h4 => bad (by omega), fun h4 => ?_⟩⟩⟩⟩
  · rw [if_pos h3] at w
    exact w
  · obtain ⟨S, rfl⟩ : ∃ S : Nat, s = (S : Int) := ⟨s.toNat, by omega⟩
    have hS31 : S < 2 ^ 31 := by have := hs32.2; omega
    have hu : iushr (S : Int) (R 0 0) = ((S / 2 ^ (R 0 0).toNat : Nat) : Int) := by
      have h9 := iushr_nat (a := S) (k := (R 0 0).toNat) (by omega) hS31
      rw [← hn] at h9
      exact h9
    have hp := Nat.two_pow_pos (R 0 0).toNat
    have hdiv : S / 2 ^ (R 0 0).toNat = 0 ↔ S < 2 ^ (R 0 0).toNat := Nat.div_eq_zero_iff_lt hp
    rw [hu]
    refine ⟨fun hz => ?_, fun hz => ?_⟩
    · have hS := hdiv.mp (by omega)
      rw [if_neg (by omega), if_pos ⟨⟨by omega, by omega⟩, by omega⟩, Int.toNat_natCast] at w
      exact s_leastWay hR ok (by omega) hS w
    · have hS : ¬ S < 2 ^ (R 0 0).toNat := fun z => hz (by rw [hdiv.mpr z]; rfl)
      exact bad (by omega)
end PSTOCKS
