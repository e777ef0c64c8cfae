/-! WHERE THE GOOD WOOD SHOULD LIE: the class -/
def ordC (R : PS) (f : Int → Int) : PS := fun g p => if g = 1 ∧ 0 ≤ p ∧ p < R 0 0 then f p else if g = 2 ∨ g = 3 then 0 else R g p
def ordM (R : PS) (f : Int → Int) : PS := fun g p => if g = 1 ∧ 0 ≤ p ∧ p < R 0 0 then f p else if (g = 2 ∨ g = 3) ∧ 0 ≤ p ∧ p < R 0 0 then 0 else R g p
theorem oddsR_congr {E ch ch' : Int → Int} : ∀ {n : Nat} {p : Int} {st : OS}, (∀ t, p ≤ t → t < p + n → ch t = ch' t) → oddsR E ch n p st = oddsR E ch' n p st := by
  intro n
  induction n with
  | zero => intro p st _; rfl
  | succ n ih =>
    intro p st h
    rw [oddsR_succ, oddsR_succ, h p (by omega) (by omega)]
    exact ih fun t h1 h2 => h t (by omega) (by omega)
theorem chance_congr {T R R' : PS} {E : Int → Int} (h0 : 0 ≤ R 0 0) (hg : ∀ g k, (g = 0 ∨ g = 7 ∨ g = 8 ∨ g = 9) → R g k = R' g k) (hp : ∀ g p, 0 ≤ p → p < R 0 0 → R g p = R' g p) : chanceNowS T E R = chanceNowS T E R' := by
  have e0 := hg 0 0 (Or.inl rfl)
  unfold chanceNowS chanceF
  rw [← e0]
  congr 1
  refine oddsR_congr fun p p0 p1 => ?_
  have hpn : p < R 0 0 := by omega
  unfold chNow
  rw [hp 3 p p0 hpn]
  split
  · rfl
  · have eb : besS R p = besS R' p := by
      unfold besS
      rw [← e0]
      congr 1
      · split
        · exact hp 3 (p - 1) (by omega) (by omega)
        · rfl
      · split
        · exact hp 3 (p + 1) (by omega) (by omega)
        · rfl
    rw [eb]
    unfold goesS
    congr 2
    have en : nameS R p (besS R' p) 0 = nameS R' p (besS R' p) 0 := by
      funext k
      unfold nameS
      rw [hp 1 p p0 hpn, hp 2 p p0 hpn, hp 3 p p0 hpn, hp 4 p p0 hpn, hg 7 _ (Or.inr (Or.inl rfl)), ← e0, hg 9 0 (Or.inr (Or.inr (Or.inr rfl))), hg 9 1 (Or.inr (Or.inr (Or.inr rfl))), hg 0 2 (Or.inl rfl)]
    rw [en]
noncomputable def ordV (T : PS) (E : Int → Int) (R : PS) (f : Int → Int) : Int := chanceNowS T E (ordM R f)
theorem ordV_C {T R : PS} {E : Int → Int} {f : Int → Int} (h0 : 0 ≤ R 0 0) : chanceNowS T E (ordC R f) = ordV T E R f := by
  have e : ordC R f 0 0 = R 0 0 := by unfold ordC; rw [if_neg (by omega), if_neg (by omega)]
  refine chance_congr (by rw [e]; exact h0) (fun g k hg => ?_) fun g p p0 p1 => ?_
  · unfold ordC ordM
    rw [if_neg (by omega), if_neg (by omega), if_neg (by omega), if_neg (by omega)]
  · rw [e] at p1
    unfold ordC ordM
    by_cases h1 : g = 1
    · rw [if_pos ⟨h1, p0, p1⟩, if_pos ⟨h1, p0, p1⟩]
    · have a1 : ¬ (g = 1 ∧ 0 ≤ p ∧ p < R 0 0) := fun z => h1 z.1
      simp only [a1, if_false]
      by_cases h2 : g = 2 ∨ g = 3
      · simp only [h2, p0, p1, if_true, and_self]
      · simp only [h2, if_false, false_and]
theorem ordV_le {T R : PS} {E : Int → Int} {f : Int → Int} : ordV T E R f ≤ 1000000000000 := by
  unfold ordV chanceNowS
  refine chanceF_le fun p => ?_
  unfold chNow
  split
  · omega
  · exact goesS_01 _ _ _ _ _
noncomputable def whereA (T : PS) (E : Int → Int) (R : PS) (p : Int) : Int := if 7 < R 0 0 then -1 else if 0 ≤ p ∧ p < R 0 0 then whR2 (ordV T E R) (R 0 0).toNat 5040 (srtS (R 1) (R 0 0).toNat) 1000000000001 (fun _ => 0) p else -1
def agO (n : Nat) (f : Int → Int) (σ : PS) (c : Int) : Prop := ∀ p : Int, 0 ≤ p → p < n → σ c p = f p
theorem agO_sw {n : Nat} {f : Int → Int} {σ : PS} {c i j : Int} (h : agO n f σ c) (hi : 0 ≤ i ∧ i < n) (hj : 0 ≤ j ∧ j < n) : agO n (swF f i j) (su (su σ c i (σ c j)) c j (σ c i)) c := by
  intro p p0 p1
  rw [h i hi.1 hi.2, h j hj.1 hj.2]
  by_cases e : p = j
  · rw [e, su_eq, swF_j]
  · rw [su_ne (Or.inr e)]
    by_cases e2 : p = i
    · rw [e2, su_eq]
      rw [swF_i (fun z => e (by rw [e2]; exact z))]
    · rw [su_ne (Or.inr e2), swF_ne e2 e]
      exact h p p0 p1
section PWHERE
variable {g : PG} {d : Nat} {Q : Int → PS → Prop}
theorem s_swap {n : Nat} {f : Int → Int} {i j : Int} {σ : PS} (hn : n ≤ 60) (h : agO n f σ 60) (hi : 0 ≤ i ∧ i < n) (hj : 0 ≤ j ∧ j < n) (w : ∀ σ', eqx [60] σ σ' → agO n (swF f i j) σ' 60 → (∀ p : Int, (n : Int) ≤ p → σ' 60 p = σ 60 p) → Q 0 σ') : XX g true d P_X10_swap 0 [(2, 60), (0, i), (0, j), (9, 0)] [] 136 σ 136 Q := by
  refine B_X10_swap_0 ⟨by omega, fun y2 h2 => ⟨by omega, ?_⟩⟩
  subst h2
  refine w _ ((eqx.rf.su (by decide)).su (by decide)) (agO_sw h hi hj) fun p hp => ?_
  rw [su_ne (Or.inr (by omega)), su_ne (Or.inr (by omega))]
theorem s_sortUp {n : Nat} {f : Int → Int} {σ : PS} (hn : n ≤ 60) (h : agO n f σ 60) (h05 : ∀ p : Int, 0 ≤ p → p < n → 0 ≤ f p ∧ f p ≤ 5) (w : ∀ σ', eqx [60] σ σ' → agO n (srtS f n) σ' 60 → (∀ p : Int, (n : Int) ≤ p → σ' 60 p = σ 60 p) → Q 0 σ') : XX g true (d + 1) P_X10_sortUp 0 [(2, 60), (0, (n : Int)), (9, 0), (9, 0)] [] 136 σ 136 Q := by
  have outer : ∀ (m : Nat) (i : Int) (f1 : Int → Int) (σ1 : PS), 1 ≤ i → i + m = n ∨ (m = 0 ∧ (n : Int) ≤ i) → eqx [60] σ σ1 → (∀ p : Int, (n : Int) ≤ p → σ1 60 p = σ 60 p) → agO n f1 σ1 60 → (∀ p : Int, 0 ≤ p → p < n → 0 ≤ f1 p ∧ f1 p ≤ 5) → (∀ x, cntB f1 x n 0 = cntB f x n 0) → (∀ t : Int, 0 ≤ t → t + 1 < i → f1 t ≤ f1 (t + 1)) → XX g true (d + 1) P_X10_sortUp 2 [(2, 60), (0, (n : Int)), (0, i), (9, 0)] [] 136 σ1 136 Q := by
    intro m
    induction m with
    | zero =>
      intro i f1 σ1 h1 hi hx ho hf1 hr hc hs
      refine B_X10_sortUp_2 ⟨fun _ => w σ1 hx (fun p p0 p1 => ?_) ho, fun h => by omega⟩
      rw [hf1 p p0 p1]
      refine srtS_of (hr p p0 p1) fun x x1 x5 => ?_
      rw [← hc x]
      exact sorted_cnt (fun t t0 t1 => hs t t0 (by omega)) p0 p1
    | succ m ih =>
      intro i f1 σ1 h1 hi hx ho hf1 hr hc hs
      have inner : ∀ (k : Nat) (f2 : Int → Int) (σ2 : PS), (k : Int) ≤ i → eqx [60] σ σ2 → (∀ p : Int, (n : Int) ≤ p → σ2 60 p = σ 60 p) → agO n f2 σ2 60 → (∀ p : Int, 0 ≤ p → p < n → 0 ≤ f2 p ∧ f2 p ≤ 5) → (∀ x, cntB f2 x n 0 = cntB f x n 0) → (∀ t : Int, 0 ≤ t → t + 1 ≤ i → t + 1 ≠ k → f2 t ≤ f2 (t + 1)) → (0 < k → (k : Int) < i → f2 ((k : Int) - 1) ≤ f2 ((k : Int) + 1)) → XX g true (d + 1) P_X10_sortUp 9 [(2, 60), (0, (n : Int)), (0, i), (0, (k : Int))] [] 136 σ2 136 Q := by
        intro k
        induction k with
        | zero =>
          intro f2 σ2 hk hx2 ho2 hf2 hr2 hc2 hA hB
          refine B_X10_sortUp_9 ⟨fun _ => ?_, fun h => by omega⟩
          rw [w32_of (x := i + 1) (by omega) (by omega)]
          exact ih (i + 1) f2 σ2 (by omega) (by omega) hx2 ho2 hf2 hr2 hc2 fun t t0 t1 => hA t t0 (by omega) (by omega)
        | succ k ihk =>
          intro f2 σ2 hk hx2 ho2 hf2 hr2 hc2 hA hB
          have ek : w32 (((k + 1 : Nat) : Int) - 1) = (k : Int) := by rw [w32_of (by omega) (by omega)]; omega
          have ek2 : w32 (((k + 1 : Nat) : Int) + (-1)) = (k : Int) := by rw [w32_of (by omega) (by omega)]; omega
          refine B_X10_sortUp_9 ⟨fun h => by omega, fun _ => ?_⟩
          rw [ek, ek2, hf2 k (by omega) (by omega), hf2 ((k + 1 : Nat) : Int) (by omega) (by omega), w32_of (x := i + 1) (by omega) (by omega)]
          refine ⟨by omega, by omega, fun hle => ?_, fun hlt => ?_⟩
          · refine ih (i + 1) f2 σ2 (by omega) (by omega) hx2 ho2 hf2 hr2 hc2 fun t t0 t1 => ?_
            by_cases e : t + 1 = ((k + 1 : Nat) : Int)
            · rw [show t = (k : Int) by omega, show (k : Int) + 1 = ((k + 1 : Nat) : Int) by omega]; exact hle
            · exact hA t t0 (by omega) e
          · refine s_swap hn hf2 (by omega) (by omega) fun σ3 hx3 hf3 ho3 => ?_
            have gk : swF f2 k ((k + 1 : Nat) : Int) k = f2 ((k + 1 : Nat) : Int) := swF_i (by omega)
            have gk1 : swF f2 k ((k + 1 : Nat) : Int) ((k + 1 : Nat) : Int) = f2 k := swF_j
            have gn : ∀ t : Int, t ≠ k → t ≠ ((k + 1 : Nat) : Int) → swF f2 k ((k + 1 : Nat) : Int) t = f2 t := fun t a b => swF_ne a b
            have gc : ∀ x, cntB (swF f2 k ((k + 1 : Nat) : Int)) x n 0 = cntB f2 x n 0 := fun x => cntB_sw (by omega) (by omega) (by omega) (by omega) (by omega)
            generalize swF f2 k ((k + 1 : Nat) : Int) = g2 at *
            refine ihk g2 σ3 (by omega) (hx2.tr hx3) (fun p hp => (ho3 p hp).trans (ho2 p hp)) hf3 (fun p p0 p1 => ?_) (fun x => (gc x).trans (hc2 x)) (fun t t0 t1 t2 => ?_) (fun h0 h2 => ?_)
            · by_cases e1 : p = k
              · rw [e1, gk]; exact hr2 _ (by omega) (by omega)
              · by_cases e2 : p = ((k + 1 : Nat) : Int)
                · rw [e2, gk1]; exact hr2 _ (by omega) (by omega)
                · rw [gn p e1 e2]; exact hr2 p p0 p1
            · by_cases e1 : t = k
              · rw [e1, show (k : Int) + 1 = ((k + 1 : Nat) : Int) by omega, gk, gk1]; omega
              · by_cases e2 : t = ((k + 1 : Nat) : Int)
                · have hB2 := hB (by omega) (by omega)
                  rw [show ((k + 1 : Nat) : Int) - 1 = (k : Int) by omega] at hB2
                  rw [e2, gk1, gn (((k + 1 : Nat) : Int) + 1) (by omega) (by omega)]
                  exact hB2
                · rw [gn t e1 e2, gn (t + 1) (by omega) (by omega)]
                  exact hA t t0 t1 (by omega)
            · have h3 := hA ((k : Int) - 1) (by omega) (by omega) (by omega)
              rw [show (k : Int) - 1 + 1 = (k : Int) by omega] at h3
              rw [gn _ (by omega) (by omega), show (k : Int) + 1 = ((k + 1 : Nat) : Int) by omega, gk1]
              exact h3
      refine B_X10_sortUp_2 ⟨fun h => by omega, fun _ => ?_⟩
      have h9 := inner i.toNat f1 σ1 (by omega) hx ho hf1 hr hc (fun t t0 t1 t2 => hs t t0 (by omega)) (fun a b => by omega)
      rw [show ((i.toNat : Nat) : Int) = i by omega] at h9
      exact h9
  refine B_X10_sortUp_0 (outer (n - 1) 1 f σ (by omega) (by omega) eqx.rf (fun _ _ => rfl) h h05 (fun _ => rfl) fun t t0 t1 => by omega)
theorem s_revC {n : Nat} : ∀ (m : Nat) (lo hi : Int) (f : Int → Int) (σ : PS), n ≤ 60 → agO n f σ 60 → 0 ≤ lo → hi < n → hi - lo < m → (∀ σ', eqx [60] σ σ' → agO n (revR m lo hi f) σ' 60 → (∀ p : Int, (n : Int) ≤ p → σ' 60 p = σ 60 p) → Q 1 σ') → XX g true (d + 1) P_X10_nextOrder 71 [(2, 60), (9, 0), (9, 0), (9, 0), (0, lo), (0, hi)] [] 136 σ 136 Q := by
  intro m
  induction m with
  | zero =>
    intro lo hi f σ hn h h0 h1 hm w
    refine B_X10_nextOrder_71 ⟨fun _ => w σ eqx.rf h fun _ _ => rfl, fun h2 => by omega⟩
  | succ m ih =>
    intro lo hi f σ hn h h0 h1 hm w
    rw [revR_succ] at w
    refine B_X10_nextOrder_71 ⟨fun h2 => ?_, fun h2 => ?_⟩
    · rw [if_neg (by omega)] at w
      exact w σ eqx.rf h fun _ _ => rfl
    · rw [if_pos h2] at w
      refine s_swap hn h (by omega) (by omega) fun σ2 hx2 hf2 ho2 => ?_
      rw [w32_of (x := lo + 1) (by omega) (by omega), w32_of (x := hi + (-1)) (by omega) (by omega)]
      exact ih (lo + 1) (hi - 1) _ σ2 hn hf2 (by omega) (by omega) (by omega) fun σ' hx' hf' ho' => w σ' (hx2.tr hx') hf' fun p hp => (ho' p hp).trans (ho2 p hp)
theorem s_nextOrder {n : Nat} {f : Int → Int} {σ : PS} (hn2 : 2 ≤ n) (hn : n ≤ 60) (h : agO n f σ 60) (w1 : 0 ≤ pivO n f → ∀ σ', eqx [60] σ σ' → agO n (nexO n f) σ' 60 → (∀ p : Int, (n : Int) ≤ p → σ' 60 p = σ 60 p) → Q 1 σ') (w0 : ¬ 0 ≤ pivO n f → Q 0 σ) : XX g true (d + 1) P_X10_nextOrder 0 [(2, 60), (0, (n : Int)), (9, 0), (9, 0), (9, 0), (9, 0)] [] 136 σ 136 Q := by
  -- the partner
  have second : ∀ (i : Int), pivO n f = i → 0 ≤ i → ∀ (m : Nat) (j : Int), i < j → j < n → j ≤ i + m → hiR f i m j = hiR f i n ((n : Int) - 1) → XX g true (d + 1) P_X10_nextOrder 35 [(2, 60), (0, (n : Int)), (0, i), (0, j), (9, 0), (9, 0)] [] 136 σ 136 Q := by
    intro i hi hi0 m
    have hp := pivR_lt (f := f) (m := n) (i := (n : Int) - 2) (by omega) (by have e : pivR f n ((n : Int) - 2) = i := hi; rw [e]; exact hi0)
    have epi : pivR f n ((n : Int) - 2) = i := hi
    rw [epi] at hp
    have swp : ∀ j, hiR f i n ((n : Int) - 1) = j → 0 ≤ j → j < n → XX g true d P_X10_swap 0 [(2, 60), (0, i), (0, j), (9, 0)] [] 136 σ 136 (fun _ σ1 => ∀ y3, y3 = w32 (i + 1) → ∀ y4, y4 = w32 ((n : Int) - 1) → (XX g true (d + 1) P_X10_nextOrder 71 [(2, 60), (9, 0), (9, 0), (9, 0), (0, y3), (0, y4)] [] 136 σ1 136 Q)) := by
      intro j hj j0 j1
      refine s_swap hn h (by omega) ⟨j0, j1⟩ fun σ2 hx2 hf2 ho2 y3 h3 y4 h4 => ?_
      rw [w32_of (by omega) (by omega)] at h3 h4
      subst h3 h4
      refine s_revC n (i + 1) ((n : Int) - 1) _ σ2 hn hf2 (by omega) (by omega) (by omega) fun σ' hx' hf' ho' => ?_
      refine w1 (by rw [hi]; exact hi0) σ' (hx2.tr hx') ?_ fun p hp => (ho' p hp).trans (ho2 p hp)
      have en : nexO n f = revR n (i + 1) ((n : Int) - 1) (swF f i j) := by unfold nexO; rw [hi, hj]
      rw [en]
      exact hf'
    induction m with
    | zero => intro j h1 h2 h3; omega
    | succ m ih =>
      intro j h1 h2 h3 hfin
      rw [hiR_succ] at hfin
      refine B_X10_nextOrder_35 ⟨fun h4 => by omega, fun _ => ⟨by omega, by omega, ?_⟩⟩
      rw [h i hi0 (by omega), h j (by omega) h2, w32_of (x := j + (-1)) (by omega) (by omega)]
      refine ⟨fun h4 => ?_, fun h4 => ?_⟩
      · rw [if_neg (by omega)] at hfin
        exact swp j hfin.symm (by omega) h2
      · rw [if_pos h4] at hfin
        have hj : j ≠ i + 1 := fun z => by rw [z] at h4; omega
        exact ih (j - 1) (by omega) (by omega) (by omega) hfin
  -- the pivot
  have first : ∀ (m : Nat) (i : Int), i < m → i + 2 ≤ n → pivR f m i = pivO n f → -1 ≤ i → XX g true (d + 1) P_X10_nextOrder 4 [(2, 60), (0, (n : Int)), (0, i), (9, 0), (9, 0), (9, 0)] [] 136 σ 136 Q := by
    intro m
    induction m with
    | zero =>
      intro i h1 h2 hfin h3
      have e : i = pivO n f := hfin
      refine B_X10_nextOrder_4 ⟨fun _ => ⟨fun h4 => by omega, fun h4 => w0 (by omega)⟩, fun h4 => by omega⟩
    | succ m ih =>
      intro i h1 h2 hfin h3
      rw [pivR_succ] at hfin
      have go : 0 ≤ i → i = pivO n f → ∀ y1, y1 = w32 ((n : Int) - 1) → XX g true (d + 1) P_X10_nextOrder 35 [(2, 60), (0, (n : Int)), (0, i), (0, y1), (9, 0), (9, 0)] [] 136 σ 136 Q := by
        intro hi0 hi y1 h4
        rw [w32_of (by omega) (by omega)] at h4
        subst h4
        exact second i hi.symm hi0 n ((n : Int) - 1) (by omega) (by omega) (by omega) rfl
      refine B_X10_nextOrder_4 ⟨fun h4 => ⟨fun h5 => by omega, fun h5 => ?_⟩, fun h4 => ⟨by omega, ?_⟩⟩
      · rw [if_neg (by omega)] at hfin
        exact w0 (by omega)
      · rw [w32_of (x := i + 1) (by omega) (by omega), w32_of (x := i + (-1)) (by omega) (by omega), h i h4 (by omega), h (i + 1) (by omega) (by omega)]
        refine ⟨by omega, fun h5 => ⟨fun h6 => ?_, fun h6 => by omega⟩, fun h5 => ?_⟩
        · rw [if_neg (by omega)] at hfin
          exact go h6 hfin
        · rw [if_pos ⟨h4, h5⟩] at hfin
          exact ih (i - 1) (by omega) (by omega) hfin (by omega)
  refine B_X10_nextOrder_0 fun y1 h1 => ?_
  rw [w32_of (by omega) (by omega)] at h1
  subst h1
  exact first n ((n : Int) - 2) (by omega) (by omega) rfl (by omega)
end PWHERE
