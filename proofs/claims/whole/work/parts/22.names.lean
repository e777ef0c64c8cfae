/-! THE ROW: R 0: n, state, day, failures, cost, changed, stay, stayPlace; R 1 sort, 2 age, 3 gone, 4 seen, 5 gone then, 6 changes, 7 weak, 8 price, 9 told -/
def BitsC (v : Int) (f : Int → Int) : Prop := ∃ N : Nat, v = (N : Int) ∧ N < 2 ^ 60 ∧ ∀ p : Nat, p < 60 → f p = bitN N p
def RSok (R : PS) : Prop := (2 ≤ R 0 0 ∧ R 0 0 ≤ 60) ∧ (0 ≤ R 0 2 ∧ R 0 2 ≤ 20000) ∧ (∀ p, 0 ≤ p → p < 60 → (0 ≤ R 1 p ∧ R 1 p ≤ 5) ∧ (R 3 p = 0 ∨ R 3 p = 1) ∧ (R 5 p = 0 ∨ R 5 p = 1) ∧ -1 ≤ R 4 p) ∧ (∀ p, R 0 0 ≤ p → p < 60 → R 3 p = 0) ∧ 1 ≤ R 9 1 ∧ 1 ≤ R 9 3 ∧ (0 ≤ R 9 6 ∧ R 9 6 ≤ 999) ∧ (0 ≤ R 9 7 ∧ R 9 7 ≤ 999)
def RowC (r : Int) (R σ : PS) : Prop :=
  (σ r 0 = R 0 0 ∧ σ r 10 = R 0 1 ∧ σ r 11 = R 0 2 ∧ σ r 12 = R 0 3 ∧ σ r 13 = R 0 4 ∧ σ r 14 = R 0 5 ∧ σ r 15 = R 0 6 ∧ σ r 16 = R 0 7) ∧
  (∀ p, 0 ≤ p → p < 60 → σ (r + 1) p = R 1 p ∧ σ (r + 2) p = R 2 p ∧ σ (r + 3) p = R 4 p ∧ σ (r + 4) p = R 6 p) ∧
  BitsC (σ r 5) (R 3) ∧ BitsC (σ r 6) (R 5) ∧ (∀ k, 0 ≤ k → k < 6 → σ (r + 5) k = R 7 k ∧ σ (r + 6) k = R 8 k) ∧ (∀ k, 0 ≤ k → k < 8 → σ (r + 7) k = R 9 k)
def RowMx (R σ : PS) : Prop :=
  (σ 88 2 = R 0 0 ∧ σ 88 1 = R 0 1 ∧ σ 88 12 = R 0 2 ∧ σ 88 13 = R 0 3 ∧ σ 88 14 = R 0 4 ∧ σ 88 15 = R 0 5 ∧ σ 88 16 = R 0 6 ∧ σ 88 17 = R 0 7) ∧
  (∀ p, 0 ≤ p → p < 60 → σ 89 p = R 1 p ∧ σ 90 p = R 2 p ∧ σ 91 p = R 3 p ∧ σ 92 p = R 4 p + 1 ∧ σ 93 p = R 5 p ∧ σ 94 p = R 6 p) ∧
  (∀ k, 0 ≤ k → k < 6 → σ 95 k = R 7 k ∧ σ 96 k = R 8 k) ∧ (∀ k, 0 ≤ k → k < 8 → k ≠ 3 → σ 97 k = R 9 k)
def RowM (R σ : PS) : Prop := RowMx R σ ∧ σ 97 3 = R 9 3
theorem RowC.same {r : Int} {R σ σ' : PS} (h : RowC r R σ) (hs : ∀ a, r ≤ a → a ≤ r + 7 → ∀ j, σ' a j = σ a j) : RowC r R σ' := by
  unfold RowC at h ⊢
  simp only [hs r (by omega) (by omega), hs (r + 1) (by omega) (by omega), hs (r + 2) (by omega) (by omega), hs (r + 3) (by omega) (by omega), hs (r + 4) (by omega) (by omega), hs (r + 5) (by omega) (by omega), hs (r + 6) (by omega) (by omega), hs (r + 7) (by omega) (by omega)]
  exact h
theorem RowMx.same {R σ σ' : PS} (h : RowMx R σ) (h0 : ∀ j, 0 ≤ j → j ≤ 17 → σ' 88 j = σ 88 j) (hs : ∀ a, 89 ≤ a → a ≤ 97 → ∀ j, σ' a j = σ a j) : RowMx R σ' := by
  unfold RowMx at h ⊢
  simp only [h0 1 (by omega) (by omega), h0 2 (by omega) (by omega), h0 12 (by omega) (by omega), h0 13 (by omega) (by omega), h0 14 (by omega) (by omega), h0 15 (by omega) (by omega), h0 16 (by omega) (by omega), h0 17 (by omega) (by omega), hs 89 (by omega) (by omega), hs 90 (by omega) (by omega), hs 91 (by omega) (by omega), hs 92 (by omega) (by omega), hs 93 (by omega) (by omega), hs 94 (by omega) (by omega), hs 95 (by omega) (by omega), hs 96 (by omega) (by omega), hs 97 (by omega) (by omega)]
  exact h
theorem RowM.same {R σ σ' : PS} (h : RowM R σ) (h0 : ∀ j, 0 ≤ j → j ≤ 17 → σ' 88 j = σ 88 j) (hs : ∀ a, 89 ≤ a → a ≤ 97 → ∀ j, σ' a j = σ a j) : RowM R σ' :=
  ⟨h.1.same h0 hs, by rw [hs 97 (by omega) (by omega)]; exact h.2⟩
def besS (R : PS) (p : Int) : Int := (if 0 < p then R 3 (p - 1) else 0) + (if p < R 0 0 - 1 then R 3 (p + 1) else 0)
def nameS (R : PS) (p b e : Int) (k : Int) : Int :=
  if k = 0 then R 7 (R 1 p) else if k = 1 then w32 (R 2 p + e) else if k = 2 then R 1 p else if k = 3 then b else if k = 4 then p else if k = 5 then R 0 0 else if k = 6 then R 9 0 else if k = 7 then w32 (R 0 2 + e) else if k = 8 then iabs (w32 (w32 (w32 (2 * p) + 1) - R 0 0)) else if k = 9 then irem (w32 (p + w32 (R 0 2 + e))) (R 9 1) else if k = 10 then (if R 4 p = -1 then w32 (w32 (R 0 2 + e) + 1) else w32 (w32 (R 0 2 + e) - R 4 p)) else R 3 p
def goesS (T R : PS) (p b e : Int) : Int := imax 0 (imin 1000 (tellsS T (nameS R p b e)))
def urgeS (T R : PS) (p : Int) : Int := tellsS T (nameS R p (besS R p) 0)
def guessR (u : Int) : Nat → Int → Int
  | 0, x => x
  | n + 1, x => guessR u n (idiv (w32 (x * w32 (1000 - u))) 1000)
theorem guessR_succ (u : Int) (n : Nat) (x : Int) : guessR u (n + 1) x = guessR u n (idiv (w32 (x * w32 (1000 - u))) 1000) := rfl
def guessS (T R : PS) (p : Int) : Int := if R 4 p = -1 then 500 else if R 5 p = 1 then 1000 else w32 (1000 - guessR (goesS T R p 0 0) (R 0 2 - R 4 p).toNat 1000)
theorem goesS_01 (T R : PS) (p b e : Int) : 0 ≤ goesS T R p b e ∧ goesS T R p b e ≤ 1000 := by
  unfold goesS imax imin; split <;> (try split) <;> omega
theorem besS_02 {R : PS} (ok : RSok R) {p : Int} (h0 : 0 ≤ p) (h1 : p < R 0 0) : 0 ≤ besS R p ∧ besS R p ≤ 2 := by
  obtain ⟨k1, k2, k3, k4⟩ := ok
  unfold besS
  have a1 : 0 < p → R 3 (p - 1) = 0 ∨ R 3 (p - 1) = 1 := fun h => (k3 (p - 1) (by omega) (by omega)).2.1
  have a2 : p < R 0 0 - 1 → R 3 (p + 1) = 0 ∨ R 3 (p + 1) = 1 := fun h => (k3 (p + 1) (by omega) (by omega)).2.1
  split <;> split <;> omega
theorem ar32 {σ : PS} (h : okS 136 σ) {a : Int} {n : Nat} (hF : Fat 136 a (20, n)) {j : Int} (hj : 0 ≤ j) : in32 (σ a j) := by
  obtain ⟨h1, h2, h3, h4⟩ := hF
  have h5 := (h a.toNat h2 j.toNat).1 (by rw [sty_ar h4 (by decide), if_neg (by decide)])
  rw [show ((a.toNat : Nat) : Int) = a by omega, show ((j.toNat : Nat) : Int) = j by omega] at h5
  exact h5
theorem idiv_nn {a b : Int} (ha : 0 ≤ a) (ha2 : a ≤ 2147483647) (hb : 0 < b) (hb2 : b ≤ 2147483647) : idiv a b = a / b := by
  unfold idiv
  rw [Int32.toInt_div, ofInt_toInt32 ⟨by omega, ha2⟩, ofInt_toInt32 ⟨by omega, hb2⟩, Int.tdiv_eq_ediv_of_nonneg ha]
  have h1 : 0 ≤ a / b := Int.ediv_nonneg ha (by omega)
  have h2 : a / b ≤ a := Int.ediv_le_self _ ha
  rw [Int.bmod_def]
  omega
section PNAMES
variable {g : PG} {d : Nat} {Q : Int → PS → Prop}
theorem bes_eq {R : PS} (ok : RSok R) {N k : Nat} (hN : N < 2 ^ 60) (hb : ∀ p : Nat, p < 60 → R 3 p = bitN N p) (hk : (k : Int) < R 0 0) : besN N k = besS R k := by
  obtain ⟨k1, k2, k3, k4, -⟩ := ok
  unfold besN besS
  congr 1
  · by_cases h : 0 < k
    · rw [if_pos h, if_pos (by omega), show (k : Int) - 1 = ((k - 1 : Nat) : Int) by omega, hb (k - 1) (by omega)]
    · rw [if_neg h, if_neg (by omega)]
  · by_cases h : (k : Int) < R 0 0 - 1
    · rw [if_pos h, show (k : Int) + 1 = ((k + 1 : Nat) : Int) by omega, hb (k + 1) (by omega)]
    · rw [if_neg h]
      by_cases h2 : k + 1 < 60
      · rw [← hb (k + 1) h2]
        exact k4 _ (by omega) (by omega)
      · exact bitN_out hN (by omega)
theorem s_besC {r p : Int} {R σ : PS} (hR : RowC r R σ) (ok : RSok R) (h0 : 0 ≤ p) (h1 : p < R 0 0) (w : Q (besS R p) σ) : XX g true (d + 1) P_X11_besideIn 0 [(1, σ r 5), (9, 0), (0, p)] [] 136 σ 136 Q := by
  obtain ⟨N, e1, hN, hb⟩ := hR.2.2.1
  obtain ⟨k, rfl⟩ : ∃ k : Nat, p = (k : Int) := ⟨p.toNat, by omega⟩
  have := ok.1
  rw [e1]
  refine s_besideIn (by omega) (by omega) ?_
  rw [bes_eq ok hN hb h1]
  exact w
theorem s_bitC {v p : Int} {f : Int → Int} {σ : PS} (hb : BitsC v f) (h0 : 0 ≤ p) (h1 : p < 60) (w : Q (f p) σ) : XX g true d P_X11_bit 0 [(1, v), (9, 0), (0, p)] [] 136 σ 136 Q := by
  obtain ⟨N, e1, hN, hb⟩ := hb
  obtain ⟨k, rfl⟩ : ∃ k : Nat, p = (k : Int) := ⟨p.toNat, by omega⟩
  rw [e1]
  refine s_bit (by omega) (by omega) ?_
  rw [← hb k (by omega)]
  exact w
theorem s_name {r p b e : Int} {R σ : PS} (hr : RowAt r) (hR : RowC r R σ) (ok : RSok R) (h0 : 0 ≤ p) (h1 : p < R 0 0) (w : ∀ σ', eqx [68] σ σ' → (∀ a, 0 ≤ a → a < 12 → σ' 68 (nmap a) = nameS R p b e a) → Q 0 σ') : XX g true (d + 1) P_X0_name 0 [(2, 67), (2, r), (0, p), (0, b), (0, e), (9, 0)] [] 136 σ 136 Q := by
  obtain ⟨c1, c2, c3, c4, c5, c6⟩ := hR
  obtain ⟨k1, k2, k3, k4, k5, -⟩ := ok
  obtain ⟨m1, m2, m3, m4⟩ := c2 p h0 (by omega)
  have hs := (k3 p h0 (by omega)).1
  have hne : ∀ a : Int, r ≤ a → a ≤ r + 7 → a ≠ 68 := by unfold RowAt at hr; omega
  refine B_X0_name_0 hr fun y1 e1 => ⟨by omega, by rw [m1]; omega, s_bitC c3 h0 (by omega) ?_⟩
  rw [c1.2.2.1] at e1
  have q0 : σ (r + 5) (R 1 p) = R 7 (R 1 p) := (c5 (R 1 p) (by omega) (by omega)).1
  have q6 : σ (r + 7) 0 = R 9 0 := c6 0 (by omega) (by omega)
  have q1 : σ (r + 7) 1 = R 9 1 := c6 1 (by omega) (by omega)
  rw [m1, m2, q0, q6, c1.1]
  simp only [su_ne (Or.inl (hne (r + 7) (by omega) (by omega))), su_ne (Or.inl (hne (r + 3) (by omega) (by omega))), q1, m3]
  have fin : ∀ v : Int, v = (if R 4 p = -1 then w32 (y1 + 1) else w32 (y1 - R 4 p)) → Q 0 (su (su (su (su (su (su (su (su (su (su (su (su σ 68 0 (R 7 (R 1 p))) 68 1 (w32 (R 2 p + e))) 68 2 (R 1 p)) 68 3 b) 68 4 p) 68 5 (R 0 0)) 68 6 (R 9 0)) 68 7 y1) 68 8 (iabs (w32 (w32 (w32 (2 * p) + 1) - R 0 0)))) 68 9 (R 3 p)) 68 10 (irem (w32 (p + y1)) (R 9 1))) 68 11 v) := by
    intro v hv
    refine w _ ?_ ?_
    · repeat' refine eqx.su ?_ (by decide)
      exact eqx.rf
    · intro a a0 a1
      rw [hv]
      have : a = 0 ∨ a = 1 ∨ a = 2 ∨ a = 3 ∨ a = 4 ∨ a = 5 ∨ a = 6 ∨ a = 7 ∨ a = 8 ∨ a = 9 ∨ a = 10 ∨ a = 11 := by omega
      rcases this with rfl | rfl | rfl | rfl | rfl | rfl | rfl | rfl | rfl | rfl | rfl | rfl <;> simp [su, nmap, nameS, e1]
  refine ⟨fun h => by omega, fun h => ⟨by omega, fun h3 => fin _ ?_, fun h3 => fin _ ?_⟩⟩
  · rw [if_neg h3]
  · rw [if_pos h3]
theorem s_goes {r q p b e : Int} {R T σ : PS} (hr : RowAt r) (hR : RowC r R σ) (ok : RSok R) (hq : LinAt q) (hT : TxtC q T σ) (okT : TxtOK oknL T) (h0 : 0 ≤ p) (h1 : p < R 0 0) (w : ∀ σ', eqx [68, 69] σ σ' → Q (goesS T R p b e) σ') : XX g true (d + 2) P_X0_goes 0 [(2, 67), (2, r), (2, q), (0, p), (0, b), (0, e)] [] 136 σ 136 Q := by
  refine B_X0_goes_0 hr hq (s_name hr hR ok h0 h1 fun σ1 hx hn => ?_)
  have hq2 : q + 3 < 67 ∧ 0 ≤ q := by unfold LinAt at hq; omega
  refine s_firstOf hq (hT.same fun a a1 a2 j => hx a (by simp only [List.mem_singleton]; omega) j) okT (fun a _ a1 a2 => hn a a1 a2) fun σ2 hx2 => ?_
  exact w σ2 ((hx.mono (by decide)).tr (hx2.mono (by decide)))
theorem s_urge {r q p : Int} {R T σ : PS} {okn : Int → Bool} (hr : RowAt r) (hR : RowC r R σ) (ok : RSok R) (hq : LinAt q) (hT : TxtC q T σ) (okT : TxtOK okn T) (h0 : 0 ≤ p) (h1 : p < R 0 0) (w : ∀ σ', eqx [68, 69] σ σ' → Q (urgeS T R p) σ') : XX g true (d + 2) P_X0_urge 0 [(2, 67), (2, r), (2, q), (0, p)] [] 136 σ 136 Q := by
  refine B_X0_urge_0 hr hq (s_besC hR ok h0 h1 (s_name hr hR ok h0 h1 fun σ1 hx hn => ?_))
  have hq2 : q + 3 < 67 ∧ 0 ≤ q := by unfold LinAt at hq; omega
  refine s_firstOf hq (hT.same fun a a1 a2 j => hx a (by simp only [List.mem_singleton]; omega) j) okT (fun a _ a1 a2 => hn a a1 a2) fun σ2 hx2 => ?_
  exact w σ2 ((hx.mono (by decide)).tr (hx2.mono (by decide)))
theorem s_guess {r q p : Int} {R T σ : PS} (hr : RowAt r) (hR : RowC r R σ) (ok : RSok R) (hq : LinAt q) (hT : TxtC q T σ) (okT : TxtOK oknL T) (h0 : 0 ≤ p) (h1 : p < R 0 0) (w : ∀ σ', eqx [68, 69] σ σ' → Q (guessS T R p) σ') : XX g true (d + 3) P_X0_guess 0 [(2, 67), (2, r), (2, q), (0, p), (9, 0), (9, 0), (9, 0)] [] 136 σ 136 Q := by
  have k1 := ok.1
  have k2 := ok.2.1
  have m3 := (hR.2.1 p h0 (by omega)).2.2.1
  unfold guessS at w
  refine B_X0_guess_0 hr hq ⟨by omega, fun h => ?_, fun h => ?_⟩
  · refine s_bitC hR.2.2.2.1 h0 (by omega) ⟨fun h2 => ?_, fun h2 => ?_⟩
    · refine s_goes hr hR ok hq hT okT h0 h1 fun σ1 hx y6 e6 y7 e7 => ?_
      have hne : ∀ a : Int, r ≤ a → a ≤ r + 7 → a ∉ [68, 69] := fun a a1 a2 => by unfold RowAt at hr; simp only [List.mem_cons, List.not_mem_nil, or_false]; omega
      rw [hx (r + 3) (hne _ (by omega) (by omega)), m3] at e7
      rw [m3] at h
      have e11 : σ1 r 11 = R 0 2 := by rw [hx r (hne _ (by omega) (by omega))]; exact hR.1.2.2.1
      have key : ∀ (n : Nat) (x y : Int), (R 0 2 - y).toNat = n → Q (w32 (1000 - guessR (goesS T R p 0 0) n x)) σ1 → -2147483648 ≤ y → XX g true (d + 3) P_X0_guess 58 [(9, 0), (2, r), (9, 0), (9, 0), (0, w32 (1000 - goesS T R p 0 0)), (0, x), (0, y)] [] 136 σ1 136 Q := by
        intro n
        induction n with
        | zero =>
          intro x y hn w hy
          exact B_X0_guess_58 hr hq ⟨fun _ => w, fun z => by rw [e11] at z; omega⟩
        | succ n ih =>
          intro x y hn w hy
          refine B_X0_guess_58 hr hq ⟨fun z => by rw [e11] at z; omega, fun z y1 hy1 => ?_⟩
          rw [w32_of (x := y + 1) (by omega) (by omega), hy1]
          exact ih _ (y + 1) (by omega) w (by omega)
      rw [e6, e7]
      refine E_okS fun hok => key (R 0 2 - R 4 p).toNat 1000 (R 4 p) rfl ?_ ?_
      · have h9 := w σ1 hx
        rw [if_neg h, if_neg h2] at h9
        exact h9
      · have := ar32 hok (RowF3 hr) h0
        rw [hx (r + 3) (hne _ (by omega) (by omega)), m3] at this
        exact this.1
    · have h9 := w σ eqx.rf
      rw [m3] at h
      rw [if_neg h, if_pos h2] at h9
      exact h9
  · have h9 := w σ eqx.rf
    rw [m3] at h
    rw [if_pos h] at h9
    exact h9
end PNAMES
