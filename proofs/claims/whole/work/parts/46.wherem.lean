/-! WHERE THE GOOD WOOD SHOULD LIE: the model -/
section PWHEREM
variable {g : PG} {d : Nat} {Q : Int → PS → Prop}
theorem s_sortsOrder {n : Nat} {R σ : PS} (hR : RowMx R σ) (hn : R 0 0 = n) (hn7 : n ≤ 7) (h05 : ∀ p : Int, 0 ≤ p → p < n → 0 ≤ R 1 p ∧ R 1 p ≤ 5) (w : ∀ σ', eqx [130] σ σ' → agO n (srtS (R 1) n) σ' 130 → Q 0 σ') : XX g true d P_X12_sortsOrder 0 [(2, 88), (9, 0), (9, 0), (9, 0)] [] 136 σ 136 Q := by
  have e2 : σ 88 2 = n := by rw [hR.1.1]; exact hn
  have inner : ∀ (s : Int), 0 ≤ s → s < 6 → ∀ (m p : Nat) (k : Int) (σ1 : PS), p + m = n → eqx [130] σ σ1 → k = (cntB (R 1) s n 0 : Int) + cntB (R 1) (s + 1) p 0 - cntB (R 1) s p 0 → (∀ q, 0 ≤ q → q < k → σ1 130 q = srtS (R 1) n q) → (∀ σ2, eqx [130] σ σ2 → (∀ q, 0 ≤ q → q < (cntB (R 1) (s + 1) n 0 : Int) → σ2 130 q = srtS (R 1) n q) → XX g true d P_X12_sortsOrder 4 [(2, 88), (0, (cntB (R 1) (s + 1) n 0 : Int)), (0, s + 1), (9, 0)] [] 136 σ2 136 Q) → XX g true d P_X12_sortsOrder 12 [(2, 88), (0, k), (0, s), (0, (p : Int))] [] 136 σ1 136 Q := by
    intro s s0 s6 m
    induction m with
    | zero =>
      intro p k σ1 hp hx hk hq w2
      have o : σ1 88 2 = n := by rw [hx 88 (by decide)]; exact e2
      have ep : p = n := by omega
      subst ep
      have ek : k = (cntB (R 1) (s + 1) p 0 : Int) := by omega
      refine B_X12_sortsOrder_12 ⟨fun _ => ?_, fun h => by rw [o] at h; omega⟩
      rw [w32_of (by omega) (by omega), ek]
      exact w2 σ1 hx fun q q0 q1 => hq q q0 (by omega)
    | succ m ih =>
      intro p k σ1 hp hx hk hq w2
      have o : σ1 88 2 = n := by rw [hx 88 (by decide)]; exact e2
      have o9 : σ1 89 p = R 1 p := by rw [hx 89 (by decide)]; exact (hR.2.1 (p : Int) (by omega) (by omega)).1
      have c1 : cntB (R 1) (s + 1) (p + 1) 0 = cntB (R 1) (s + 1) p 0 + (if R 1 p < s + 1 then 1 else 0) := by
        rw [cntB_app (m := p) (k := 1), Int.zero_add]
        show _ + ((if R 1 p < s + 1 then 1 else 0) + 0) = _
        omega
      have c2 : cntB (R 1) s (p + 1) 0 = cntB (R 1) s p 0 + (if R 1 p < s then 1 else 0) := by
        rw [cntB_app (m := p) (k := 1), Int.zero_add]
        show _ + ((if R 1 p < s then 1 else 0) + 0) = _
        omega
      have c3 := cntB_mono (f := R 1) (x := s) (y := s + 1) (by omega) p 0
      have c4 := cntB_le (R 1) (s + 1) n 0
      have c5 : cntB (R 1) (s + 1) n 0 = cntB (R 1) (s + 1) (p + 1) 0 + cntB (R 1) (s + 1) m (0 + ((p + 1 : Nat) : Int)) := by
        rw [← cntB_app, show p + 1 + m = n by omega]
      have c6 : cntB (R 1) s n 0 = cntB (R 1) s (p + 1) 0 + cntB (R 1) s m (0 + ((p + 1 : Nat) : Int)) := by
        rw [← cntB_app, show p + 1 + m = n by omega]
      have c7 := cntB_mono (f := R 1) (x := s) (y := s + 1) (by omega) m (0 + ((p + 1 : Nat) : Int))
      refine B_X12_sortsOrder_12 ⟨fun h => by rw [o] at h; omega, fun _ => ⟨by omega, ?_⟩⟩
      rw [o9, w32_of (x := (p : Int) + 1) (by omega) (by omega)]
      refine ⟨fun he => ?_, fun hne => ?_⟩
      · rw [if_pos (by omega)] at c1
        rw [if_neg (by omega)] at c2
        refine ⟨by omega, fun y3 h3 => ?_⟩
        rw [w32_of (by omega) (by omega)] at h3
        subst h3
        refine ih (p + 1) (k + 1) _ (by omega) (hx.su (by decide)) (by omega) (fun q q0 q1 => ?_) w2
        by_cases e : q = k
        · rw [e, su_eq]
          refine srtS_of (f := R 1) (g := fun _ => s) (by omega) fun x x1 x5 => ?_
          constructor
          · intro h
            have := cntB_mono (f := R 1) (x := s + 1) (y := x) (by omega) n 0
            omega
          · intro h
            refine Classical.byContradiction fun hn2 => ?_
            have := cntB_mono (f := R 1) (x := x) (y := s) (by omega) n 0
            omega
        · rw [su_ne (Or.inr e)]; exact hq q q0 (by omega)
      · have hc : (if R 1 p < s + 1 then 1 else 0) = (if R 1 p < s then 1 else 0) := by split <;> split <;> omega
        refine ih (p + 1) k σ1 (by omega) hx (by omega) hq w2
  have outer : ∀ (m : Nat) (s : Int) (σ1 : PS), 0 ≤ s → s + m = 6 → eqx [130] σ σ1 → (∀ q, 0 ≤ q → q < (cntB (R 1) s n 0 : Int) → σ1 130 q = srtS (R 1) n q) → XX g true d P_X12_sortsOrder 4 [(2, 88), (0, (cntB (R 1) s n 0 : Int)), (0, s), (9, 0)] [] 136 σ1 136 Q := by
    intro m
    induction m with
    | zero =>
      intro s σ1 s0 hs hx hq
      have c6 : cntB (R 1) s n 0 = n := cntB_all fun t t0 t1 => by have := h05 t t0 (by omega); omega
      exact B_X12_sortsOrder_4 ⟨fun _ => w σ1 hx fun q q0 q1 => hq q q0 (by omega), fun h => by omega⟩
    | succ m ih =>
      intro s σ1 s0 hs hx hq
      refine B_X12_sortsOrder_4 ⟨fun h => by omega, fun _ => ?_⟩
      refine inner s s0 (by omega) n 0 _ σ1 (by omega) hx (by show _ = (cntB (R 1) s n 0 : Int) + ((0 : Nat) : Int) - ((0 : Nat) : Int); omega) hq fun σ2 hx2 hq2 => ?_
      exact ih (s + 1) σ2 (by omega) (by omega) hx2 hq2
  have c0 : cntB (R 1) 0 n 0 = 0 := cntB_nil fun t t0 t1 => (h05 t t0 (by omega)).1
  have h9 := outer 6 0 σ (by decide) (by decide) eqx.rf fun q q0 q1 => by rw [c0] at q1; omega
  rw [c0] at h9
  exact B_X12_sortsOrder_0 h9
theorem s_revM {n : Nat} {σ0 : PS} : ∀ (m : Nat) (lo hi : Int) (f : Int → Int) (σ : PS), n ≤ 7 → agO n f σ 130 → 0 ≤ lo → hi < n → hi - lo < m → eqx [130] σ0 σ → (∀ σ', eqx [130] σ0 σ' → agO n (revR m lo hi f) σ' 130 → Q 1 σ') → XX g true d P_X12_goesOn 109 [(2, 88), (9, 0), (9, 0), (9, 0), (0, lo), (0, hi)] [] 136 σ 136 Q := by
  intro m
  induction m with
  | zero =>
    intro lo hi f σ hn h h0 h1 hm hx w
    refine B_X12_goesOn_109 ⟨fun _ => w σ hx h, fun h2 => by omega⟩
  | succ m ih =>
    intro lo hi f σ hn h h0 h1 hm hx w
    rw [revR_succ] at w
    refine B_X12_goesOn_109 ⟨fun h2 => ?_, fun h2 => ⟨by omega, fun y2 h3 => ⟨by omega, fun y4 h4 y5 h5 => ?_⟩⟩⟩
    · rw [if_neg (by omega)] at w
      exact w σ hx h
    · rw [if_pos h2] at w
      rw [w32_of (by omega) (by omega)] at h4 h5
      subst h3 h4 h5
      exact ih (lo + 1) (hi - 1) _ _ hn (agO_sw h (by omega) (by omega)) (by omega) (by omega) (by omega) ((hx.su (by decide)).su (by decide)) w
theorem s_goesOn {n : Nat} {f : Int → Int} {σ : PS} (hn2 : 2 ≤ n) (hn : n ≤ 7) (e2 : σ 88 2 = n) (h : agO n f σ 130) (w1 : 0 ≤ pivO n f → ∀ σ', eqx [130] σ σ' → agO n (nexO n f) σ' 130 → Q 1 σ') (w0 : ¬ 0 ≤ pivO n f → Q 0 σ) : XX g true d P_X12_goesOn 0 [(2, 88), (9, 0), (9, 0), (9, 0), (9, 0), (9, 0)] [] 136 σ 136 Q := by
  have second : ∀ (i : Int), pivO n f = i → 0 ≤ i → ∀ (m : Nat) (j : Int), i < j → j < n → j ≤ i + m → hiR f i m j = hiR f i n ((n : Int) - 1) → XX g true d P_X12_goesOn 48 [(2, 88), (0, i), (0, j), (9, 0), (9, 0), (9, 0)] [] 136 σ 136 Q := by
    intro i hi hi0 m
    have hp := pivR_lt (f := f) (m := n) (i := (n : Int) - 2) (by omega) (by have e : pivR f n ((n : Int) - 2) = i := hi; rw [e]; exact hi0)
    have epi : pivR f n ((n : Int) - 2) = i := hi
    rw [epi] at hp
    induction m with
    | zero => intro j h1 h2 h3; omega
    | succ m ih =>
      intro j h1 h2 h3 hfin
      rw [hiR_succ] at hfin
      refine B_X12_goesOn_48 ⟨by omega, by omega, ?_⟩
      rw [e2]
      refine ⟨fun h4 y3 h5 y4 h6 y5 h7 => ?_, fun h4 y6 h5 => ?_⟩
      · rw [h i hi0 (by omega), h j (by omega) h2] at h4
        rw [if_neg (by omega)] at hfin
        rw [w32_of (by omega) (by omega)] at h6 h7
        subst h5 h6 h7
        refine s_revM (σ0 := σ) n (i + 1) ((n : Int) - 1) _ _ hn (agO_sw h (by omega) (by omega)) (by omega) (by omega) (by omega) ((eqx.rf.su (by decide)).su (by decide)) fun σ' hx' hf' => ?_
        refine w1 (by rw [hi]; exact hi0) σ' hx' ?_
        have en : nexO n f = revR n (i + 1) ((n : Int) - 1) (swF f i j) := by unfold nexO; rw [hi, ← hfin]
        rw [en]
        exact hf'
      · rw [h i hi0 (by omega), h j (by omega) h2] at h4
        rw [if_pos h4] at hfin
        rw [w32_of (by omega) (by omega)] at h5
        subst h5
        have hj : j ≠ i + 1 := fun z => by rw [z] at h4; omega
        exact ih (j - 1) (by omega) (by omega) (by omega) hfin
  have first : ∀ (m : Nat) (i : Int), i < m → i + 2 ≤ n → pivR f m i = pivO n f → -1 ≤ i → XX g true d P_X12_goesOn 7 [(2, 88), (0, i), (9, 0), (9, 0), (9, 0), (9, 0)] [] 136 σ 136 Q := by
    intro m
    induction m with
    | zero =>
      intro i h1 h2 hfin h3
      have e : i = pivO n f := hfin
      refine B_X12_goesOn_7 ⟨fun _ => ⟨fun h4 => by omega, fun h4 => w0 (by omega)⟩, fun h4 => by omega⟩
    | succ m ih =>
      intro i h1 h2 hfin h3
      rw [pivR_succ] at hfin
      have go : 0 ≤ i → i = pivO n f → ∀ y1, y1 = w32 (σ 88 2 - 1) → XX g true d P_X12_goesOn 48 [(2, 88), (0, i), (0, y1), (9, 0), (9, 0), (9, 0)] [] 136 σ 136 Q := by
        intro hi0 hi y1 h4
        rw [e2, w32_of (by omega) (by omega)] at h4
        subst h4
        exact second i hi.symm hi0 n ((n : Int) - 1) (by omega) (by omega) (by omega) rfl
      refine B_X12_goesOn_7 ⟨fun h4 => ⟨fun h5 => by omega, fun h5 => ?_⟩, fun h4 => ⟨by omega, ?_⟩⟩
      · rw [if_neg (by omega)] at hfin
        exact w0 (by omega)
      · rw [w32_of (x := i + 1) (by omega) (by omega), h i h4 (by omega), h (i + 1) (by omega) (by omega)]
        refine ⟨by omega, fun h5 => ⟨fun h6 => ?_, fun h6 => by omega⟩, fun h5 y5 h6 => ?_⟩
        · rw [if_neg (by omega)] at hfin
          exact go h6 hfin
        · rw [if_pos ⟨h4, h5⟩] at hfin
          rw [w32_of (by omega) (by omega)] at h6
          subst h6
          exact ih (i - 1) (by omega) (by omega) hfin (by omega)
  refine B_X12_goesOn_0 fun y1 h1 => ?_
  rw [e2, w32_of (by omega) (by omega)] at h1
  subst h1
  exact first n ((n : Int) - 2) (by omega) (by omega) rfl (by omega)
theorem ordM_ok {R : PS} {f : Int → Int} (ok : RSok R) (h05 : ∀ p : Int, 0 ≤ p → p < R 0 0 → 0 ≤ f p ∧ f p ≤ 5) : RSok (ordM R f) := by
  obtain ⟨k1, k2, k3, k4, k5, k6, k7, k8⟩ := ok
  have e : ∀ g p, g ≠ 1 → g ≠ 2 → g ≠ 3 → ordM R f g p = R g p := fun g p a b c => by unfold ordM; rw [if_neg (fun z => a z.1), if_neg (fun z => z.1.elim b c)]
  refine ⟨by rw [e 0 0 (by decide) (by decide) (by decide)]; exact k1, by rw [e 0 2 (by decide) (by decide) (by decide)]; exact k2, fun p h0 h1 => ?_, fun p h0 h1 => ?_, by rw [e 9 1 (by decide) (by decide) (by decide)]; exact k5, by rw [e 9 3 (by decide) (by decide) (by decide)]; exact k6, by rw [e 9 6 (by decide) (by decide) (by decide)]; exact k7, by rw [e 9 7 (by decide) (by decide) (by decide)]; exact k8⟩
  · obtain ⟨m1, m2, m3, m4⟩ := k3 p h0 h1
    rw [e 5 p (by decide) (by decide) (by decide), e 4 p (by decide) (by decide) (by decide)]
    refine ⟨?_, ?_, m3, m4⟩
    · unfold ordM
      by_cases h : p < R 0 0
      · rw [if_pos ⟨rfl, h0, h⟩]; exact h05 p h0 h
      · rw [if_neg (fun z => h z.2.2), if_neg (by omega)]; exact m1
    · unfold ordM
      rw [if_neg (by omega)]
      split
      · exact Or.inl rfl
      · exact m2
  · rw [e 0 0 (by decide) (by decide) (by decide)] at h0
    unfold ordM
    rw [if_neg (by omega), if_neg (by omega)]
    exact k4 p h0 h1
theorem s_whereM {p : Int} {E : Int → Int} {R T σ : PS} (hR : RowMx R σ) (ok : RSok R) (hT : TxtM 0 T σ) (okT : TxtOK oknL T) (hE : BrkM E σ) (w : ∀ σ', eqm [89, 90, 91, 111, 112, 116, 117, 118, 127, 128, 129, 130, 131] [0] σ σ' → RowMx R σ' → Q (whereA T E R p) σ') : XX g true (d + 6) P_X12_where 0 [(2, 88), (0, p), (9, 0), (9, 0), (9, 0), (9, 0), (9, 0), (9, 0), (9, 0)] [] 136 σ 136 Q := by
  have k1 := ok.1
  have hn : R 0 0 = ((R 0 0).toNat : Int) := by omega
  have hx0 : eqm [89, 90, 91, 111, 112, 116, 117, 118, 127, 128, 129, 130, 131] [0] σ (su σ 88 0 0) := eqm.rf.s8 (by decide)
  have hR0 : RowMx R (su σ 88 0 0) := hR.same8 (fun j hj => su_ne (Or.inr (by omega))) (fun a a1 a2 j => su_ne (Or.inl (by omega)))
  have hT0 : TxtM 0 T (su σ 88 0 0) := hT.same fun a a1 a2 j => su_ne (Or.inl (by omega))
  have hE0 : BrkM E (su σ 88 0 0) := BrkM_same hE (su_ne (Or.inr (by decide))) (fun j => su_ne (Or.inl (by decide))) (fun j => su_ne (Or.inl (by decide))) (fun j => su_ne (Or.inl (by decide))) (fun j => su_ne (Or.inl (by decide)))
  refine B_X12_where_0 ?_
  obtain ⟨σ0, e0⟩ : ∃ σ0, σ0 = su σ 88 0 0 := ⟨_, rfl⟩
  rw [← e0] at hx0 hR0 hT0 hE0 ⊢
  rw [hR.1.1]
  unfold whereA at w
  refine ⟨fun h => ?_, fun h7 => s_isPlace ?_⟩
  · rw [if_pos h] at w
    exact w σ0 hx0 hR0
  rw [if_neg (by omega)] at w
  rw [hR0.1.1]
  by_cases hp : 0 ≤ p ∧ p < R 0 0
  case neg =>
    rw [if_neg hp] at w ⊢
    exact ⟨fun z => absurd rfl z, fun _ => w σ0 hx0 hR0⟩
  rw [if_pos hp] at w ⊢
  have h15 : ∀ q : Int, 0 ≤ q → q < ((R 0 0).toNat : Int) → 0 ≤ R 1 q ∧ R 1 q ≤ 5 := fun q q0 q1 => (ok.2.2.1 q q0 (by omega)).1
  refine ⟨fun _ => s_keepsRow hR0 ok fun σk0 hxk0 hkept0 => ?_, fun z => by omega⟩
  have hRk0 : RowMx R σk0 := hR0.x hxk0 fun a a1 a2 => by simp only [List.mem_cons, List.not_mem_nil, or_false]; omega
  refine s_sortsOrder hRk0 hn (by omega) h15 fun σk hxk1 hsort => ?_
  have hkept := hkept0.x hxk1 (by decide) (by decide) (by decide)
  have hxk : eqx [127, 128, 129, 130] σ0 σk := (hxk0.mono (by decide)).tr (hxk1.mono (by decide))
  have hRk : RowMx R σk := hR0.x hxk fun a a1 a2 => by simp only [List.mem_cons, List.not_mem_nil, or_false]; omega
  have hTk : TxtM 0 T σk := hT0.x hxk fun a a1 a2 => by simp only [List.mem_cons, List.not_mem_nil, or_false]; omega
  have hEk : BrkM E σk := hE0.x hxk (by decide) (by decide) (by decide) (by decide) (by decide)
  clear hxk0 hkept0 hRk0 hxk1
  -- the end
  have fin : ∀ (best : Int → Int) (R1 σ1 : PS) (fst least : Int), eqx [89, 90, 91, 111, 112, 116, 117, 118, 130, 131] σk σ1 → RowMx R1 σ1 → shiftOf R R1 → agO (R 0 0).toNat best σ1 131 → best p = whR2 (ordV T E R) (R 0 0).toNat 5040 (srtS (R 1) (R 0 0).toNat) 1000000000001 (fun _ => 0) p → XX g true (d + 6) P_X12_where 39 [(2, 88), (0, p), (0, fst), (1, least), (9, 0), (0, 0), (9, 0), (9, 0), (9, 0)] [] 136 σ1 136 Q := by
    intro best R1 σ1 fst least hx hR1 ht hb hfin
    refine B_X12_where_39 ⟨fun _ => ?_, fun z => absurd rfl z⟩
    refine s_givesRowBack hR1 ok (hkept.x hx (by decide) (by decide) (by decide)) ht fun σ2 hx2 hR2 => ⟨by omega, ?_⟩
    rw [hx2 131 (by decide), hb p hp.1 (by omega), hfin]
    exact w σ2 (((hx0.x hxk (by decide) (by decide)).x hx (by decide) (by decide)).x hx2 (by decide) (by decide)) hR2
  -- a row with its sorts in order
  have fill : ∀ (f : Int → Int) (fst least : Int) (m : Nat) (q : Int) (R1 σ1 : PS), 0 ≤ q → q + m = R 0 0 → eqx [89, 90, 91, 111, 112, 116, 117, 118, 130, 131] σk σ1 → agO (R 0 0).toNat f σ1 130 → RowMx R1 σ1 → shiftOf R R1 → (∀ g t, 0 ≤ t → t < q → R1 g t = ordM R f g t) → (∀ σ', eqx [89, 90, 91] σ1 σ' → RowMx (ordM R f) σ' → XX g true (d + 6) P_X12_where 47 [(2, 88), (0, p), (0, fst), (1, least), (9, 0), (9, 0), (0, R 0 0), (9, 0), (9, 0)] [] 136 σ' 136 Q) → XX g true (d + 6) P_X12_where 47 [(2, 88), (0, p), (0, fst), (1, least), (9, 0), (9, 0), (0, q), (9, 0), (9, 0)] [] 136 σ1 136 Q := by
    intro f fst least m
    induction m with
    | zero =>
      intro q R1 σ1 q0 hq hx hf hR1 ht hg w2
      have e : q = R 0 0 := by omega
      subst e
      have all : ∀ g t, 0 ≤ t → ordM R f g t = R1 g t := fun g t t0 => by
        by_cases h : t < R 0 0
        · exact (hg g t t0 h).symm
        · rw [ht.2 g t (by omega)]
          unfold ordM
          rw [if_neg (fun z => h z.2.2), if_neg (fun z => h z.2.2)]
      exact w2 σ1 eqx.rf (hR1.eq ⟨fun k a b => all 0 k a, fun f t a b c e => all f t c, fun k a b => ⟨all 7 k a, all 8 k a⟩, fun k a b => all 9 k a⟩)
    | succ m ih =>
      intro q R1 σ1 q0 hq hx hf hR1 ht hg w2
      have o2 : σ1 88 2 = R 0 0 := by rw [hx 88 (by decide)]; exact hRk.1.1
      refine B_X12_where_47 ⟨fun h => by rw [o2] at h; omega, fun _ => ⟨by omega, by omega, ?_⟩⟩
      rw [hf q q0 (by omega), w32_of (x := q + 1) (by omega) (by omega)]
      have hx3 : eqx [89, 90, 91] σ1 (su (su (su σ1 89 q (f q)) 90 q 0) 91 q 0) := ((eqx.rf.su (by decide)).su (by decide)).su (by decide)
      refine ih (q + 1) (su (su (su R1 1 q (f q)) 2 q 0) 3 q 0) _ (by omega) (by omega) (hx.tr (hx3.mono (by decide))) (fun t t0 t1 => by rw [hx3 130 (by decide)]; exact hf t t0 t1) (((hR1.ar (k := 1) (c := 89) (by omega)).ar (k := 2) (c := 90) (by omega)).ar (k := 3) (c := 91) (by omega)) ⟨fun g t h1 h2 h3 => ?_, fun g t ht2 => ?_⟩ (fun g t t0 t1 => ?_) fun σ' hx' hR' => w2 σ' (hx3.tr hx') hR'
      · rw [su_ne (Or.inl h3), su_ne (Or.inl h2), su_ne (Or.inl h1)]; exact ht.1 g t h1 h2 h3
      · rw [su_ne (Or.inr (by omega)), su_ne (Or.inr (by omega)), su_ne (Or.inr (by omega))]; exact ht.2 g t ht2
      · by_cases e : t = q
        · subst e
          have hin : 0 ≤ t ∧ t < R 0 0 := by omega
          by_cases h3 : g = 3
          · rw [h3, su_eq]; unfold ordM; rw [if_neg (by omega), if_pos ⟨Or.inr rfl, hin⟩]
          · rw [su_ne (Or.inl h3)]
            by_cases h2 : g = 2
            · rw [h2, su_eq]; unfold ordM; rw [if_neg (by omega), if_pos ⟨Or.inl rfl, hin⟩]
            · rw [su_ne (Or.inl h2)]
              by_cases h1 : g = 1
              · rw [h1, su_eq]; unfold ordM; rw [if_pos ⟨rfl, hin⟩]
              · rw [su_ne (Or.inl h1), ht.1 g t h1 h2 h3]; unfold ordM; rw [if_neg (fun z => h1 z.1), if_neg (fun z => z.1.elim h2 h3)]
        · rw [su_ne (Or.inr e), su_ne (Or.inr e), su_ne (Or.inr e)]; exact hg g t t0 (by omega)
  have shM : ∀ f, shiftOf R (ordM R f) := fun f => ⟨fun g t h1 h2 h3 => by unfold ordM; rw [if_neg (fun z => h1 z.1), if_neg (fun z => z.1.elim h2 h3)], fun g t ht => by unfold ordM; rw [if_neg (by omega), if_neg (by omega)]⟩
  have key : ∀ (m : Nat) (f best : Int → Int) (fst least pl : Int) (R1 σ1 : PS), 5040 ≤ rkR f (R 0 0).toNat 0 + m → eqx [89, 90, 91, 111, 112, 116, 117, 118, 130, 131] σk σ1 → agO (R 0 0).toNat f σ1 130 → (∀ q : Int, 0 ≤ q → q < R 0 0 → 0 ≤ f q ∧ f q ≤ 5) → RowMx R1 σ1 → shiftOf R R1 → ((fst = 1 ∧ pl = 1000000000001) ∨ (fst = 0 ∧ pl = least ∧ agO (R 0 0).toNat best σ1 131)) → whR2 (ordV T E R) (R 0 0).toNat m f pl best p = whR2 (ordV T E R) (R 0 0).toNat 5040 (srtS (R 1) (R 0 0).toNat) 1000000000001 (fun _ => 0) p → XX g true (d + 6) P_X12_where 39 [(2, 88), (0, p), (0, fst), (1, least), (9, 0), (0, 1), (9, 0), (9, 0), (9, 0)] [] 136 σ1 136 Q := by
    intro m
    induction m with
    | zero =>
      intro f best fst least pl R1 σ1 hrk
      have := rank_5040 (n := (R 0 0).toNat) (by omega) f
      omega
    | succ m ih =>
      intro f best fst least pl R1 σ1 hrk hx hf h05 hR1 ht hst hfin
      rw [whR2_succ] at hfin
      refine B_X12_where_39 ⟨fun z => by omega, fun _ => ?_⟩
      refine fill f fst least (R 0 0).toNat 0 R1 σ1 (by omega) (by omega) hx hf hR1 ht (fun g t t0 t1 => by omega) fun σ2 hx2 hR2 => ?_
      have hxx := hx.tr (hx2.mono (L' := [89, 90, 91, 111, 112, 116, 117, 118, 130, 131]) (by decide))
      have o2 : σ2 88 2 = R 0 0 := by rw [hxx 88 (by decide)]; exact hRk.1.1
      refine B_X12_where_47 ⟨fun _ => ?_, fun h => by rw [o2] at h; omega⟩
      refine s_chanceNow hR2 (ordM_ok ok h05) (hTk.x hxx fun a a1 a2 => by simp only [List.mem_cons, List.not_mem_nil, or_false]; omega) okT (hEk.x hxx (by decide) (by decide) (by decide) (by decide) (by decide)) fun σ3 hx3 => ?_
      have ev : chanceNowS T E (ordM R f) = ordV T E R f := rfl
      rw [ev]
      have hxy := hxx.tr (hx3.mono (L' := [89, 90, 91, 111, 112, 116, 117, 118, 130, 131]) (by decide))
      have hR3 : RowMx (ordM R f) σ3 := hR2.x hx3 fun a a1 a2 => by simp only [List.mem_cons, List.not_mem_nil, or_false]; omega
      have hf3 : agO (R 0 0).toNat f σ3 130 := fun q q0 q1 => by rw [hx3 130 (by decide), hx2 130 (by decide)]; exact hf q q0 q1
      have hle := ordV_le (T := T) (E := E) (R := R) (f := f)
      -- the next order
      have next : ∀ (least' : Int) (best' : Int → Int) (σ4 : PS), eqx [89, 90, 91, 111, 112, 116, 117, 118, 130, 131] σk σ4 → RowMx (ordM R f) σ4 → agO (R 0 0).toNat f σ4 130 → agO (R 0 0).toNat best' σ4 131 → (if 0 ≤ pivO (R 0 0).toNat f then whR2 (ordV T E R) (R 0 0).toNat m (nexO (R 0 0).toNat f) least' best' p else best' p) = whR2 (ordV T E R) (R 0 0).toNat 5040 (srtS (R 1) (R 0 0).toNat) 1000000000001 (fun _ => 0) p →
          XX g true (d + 5) P_X12_goesOn 0 [(2, 88), (9, 0), (9, 0), (9, 0), (9, 0), (9, 0)] [] 136 σ4 136 (fun r4 σ5 => (XX g true (d + 6) P_X12_where 39 [(2, 88), (0, p), (0, 0), (1, least'), (9, 0), (0, r4), (9, 0), (9, 0), (9, 0)] [] 136 σ5 136 Q)) := by
        intro least' best' σ4 hx4 hR4 hf4 hb4 hf'
        refine s_goesOn (n := (R 0 0).toNat) (f := f) (by omega) (by omega) (by rw [hx4 88 (by decide), hRk.1.1]; exact hn) hf4 (fun hpv σ5 hx5 ha5 => ?_) fun hpv => ?_
        · rw [if_pos hpv] at hf'
          have hup := rank_up hpv
          exact ih (nexO (R 0 0).toNat f) best' 0 least' least' (ordM R f) σ5 (by omega) (hx4.tr (hx5.mono (by decide))) ha5 (fun q q0 q1 => nexO_05 hpv (fun t t0 t1 => h05 t t0 (by omega)) q q0 (by omega)) (hR4.x hx5 fun a a1 a2 => by simp only [List.mem_cons, List.not_mem_nil, or_false]; omega) (shM f) (Or.inr ⟨rfl, rfl, fun q q0 q1 => by rw [hx5 131 (by decide)]; exact hb4 q q0 q1⟩) hf'
        · rw [if_neg hpv] at hf'
          exact fin best' (ordM R f) σ4 0 least' hx4 hR4 (shM f) hb4 hf'
      -- a better one is kept
      have keep : ∀ (mm : Nat) (q : Int) (σ4 : PS), 0 ≤ q → q + mm = R 0 0 → eqx [89, 90, 91, 111, 112, 116, 117, 118, 130, 131] σk σ4 → RowMx (ordM R f) σ4 → agO (R 0 0).toNat f σ4 130 → (∀ t, 0 ≤ t → t < q → σ4 131 t = f t) → (if 0 ≤ pivO (R 0 0).toNat f then whR2 (ordV T E R) (R 0 0).toNat m (nexO (R 0 0).toNat f) (ordV T E R f) f p else f p) = whR2 (ordV T E R) (R 0 0).toNat 5040 (srtS (R 1) (R 0 0).toNat) 1000000000001 (fun _ => 0) p → XX g true (d + 6) P_X12_where 115 [(2, 88), (0, p), (9, 0), (1, ordV T E R f), (9, 0), (9, 0), (9, 0), (9, 0), (0, q)] [] 136 σ4 136 Q := by
        intro mm
        induction mm with
        | zero =>
          intro q σ4 q0 hq hx4 hR4 hf4 hb4 hf'
          have o : σ4 88 2 = R 0 0 := by rw [hx4 88 (by decide)]; exact hRk.1.1
          refine B_X12_where_115 ⟨fun _ => ?_, fun h => by rw [o] at h; omega⟩
          exact next _ f σ4 hx4 hR4 hf4 (fun t t0 t1 => hb4 t t0 (by omega)) hf'
        | succ mm ihk =>
          intro q σ4 q0 hq hx4 hR4 hf4 hb4 hf'
          have o : σ4 88 2 = R 0 0 := by rw [hx4 88 (by decide)]; exact hRk.1.1
          refine B_X12_where_115 ⟨fun h => by rw [o] at h; omega, fun _ => ⟨by omega, ?_⟩⟩
          rw [hf4 q q0 (by omega), w32_of (x := q + 1) (by omega) (by omega)]
          have hx5 : eqx [131] σ4 (su σ4 131 q (f q)) := eqx.rf.su (by decide)
          refine ihk (q + 1) _ (by omega) (by omega) (hx4.tr (hx5.mono (by decide))) (hR4.x hx5 fun a a1 a2 => by simp only [List.mem_cons, List.not_mem_nil, or_false]; omega) (fun t t0 t1 => by rw [hx5 130 (by decide)]; exact hf4 t t0 t1) (fun t t0 t1 => ?_) hf'
          by_cases e : t = q
          · rw [e, su_eq]
          · rw [su_ne (Or.inr e)]; exact hb4 t t0 (by omega)
      have better : ordV T E R f < pl → XX g true (d + 6) P_X12_where 115 [(2, 88), (0, p), (9, 0), (1, ordV T E R f), (9, 0), (9, 0), (9, 0), (9, 0), (0, 0)] [] 136 σ3 136 Q := by
        intro hlt
        rw [if_pos hlt, if_pos hlt] at hfin
        refine keep (R 0 0).toNat 0 σ3 (by omega) (by omega) hxy hR3 hf3 (fun t t0 t1 => by omega) ?_
        rw [← hfin]
        split
        · rfl
        · first | rfl | rw [if_pos hlt]
      refine ⟨fun h1 => better (by omega), fun h0 => ⟨fun hge => ?_, fun hlt => better (by omega)⟩⟩
      have h0' : fst = 0 := h0
      rcases hst with hst | ⟨-, hpl, hb⟩
      · omega
      · rw [if_neg (show ¬ ordV T E R f < pl by omega), if_neg (show ¬ ordV T E R f < pl by omega)] at hfin
        refine next least best σ3 hxy hR3 hf3 (fun t t0 t1 => by rw [hx3 131 (by decide), hx2 131 (by decide)]; exact hb t t0 t1) ?_
        rw [← hpl, ← hfin]
        split
        · rfl
        · first | rfl | rw [if_neg (by omega)]
  exact key 5040 (srtS (R 1) (R 0 0).toNat) (fun _ => 0) 1 0 1000000000001 R σk (by omega) eqx.rf hsort (fun q _ _ => srtS_05 _ _ q) hRk ⟨fun _ _ _ _ _ => rfl, fun _ _ _ => rfl⟩ (Or.inl ⟨rfl, rfl⟩) rfl
end PWHEREM
