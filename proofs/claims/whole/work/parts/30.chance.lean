/-! HOW LIKELY A ROW FAILS: both sides -/
def chNow (T R : PS) (p : Int) : Int := if R 3 p = 1 then 1000 else goesS T R p (besS R p) 0
def chThought (T R : PS) (p : Int) : Int := guessS T R p
noncomputable def chanceNowS (T : PS) (E : Int → Int) (R : PS) : Int := chanceF E (chNow T R) (R 0 0).toNat
noncomputable def chanceThoughtS (T : PS) (E : Int → Int) (R : PS) : Int := chanceF E (chThought T R) (R 0 0).toNat
theorem RowMx.same8 {R σ σ' : PS} (h : RowMx R σ) (h0 : ∀ j, (j = 1 ∨ j = 2 ∨ (12 ≤ j ∧ j ≤ 17)) → σ' 88 j = σ 88 j) (hs : ∀ a, 89 ≤ a → a ≤ 97 → ∀ j, σ' a j = σ a j) : RowMx R σ' := by
  unfold RowMx at h ⊢
  simp only [h0 1 (by omega), h0 2 (by omega), h0 12 (by omega), h0 13 (by omega), h0 14 (by omega), h0 15 (by omega), h0 16 (by omega), h0 17 (by omega), hs 89 (by omega) (by omega), hs 90 (by omega) (by omega), hs 91 (by omega) (by omega), hs 92 (by omega) (by omega), hs 93 (by omega) (by omega), hs 94 (by omega) (by omega), hs 95 (by omega) (by omega), hs 96 (by omega) (by omega), hs 97 (by omega) (by omega)]
  exact h
section PCHANCE
variable {g : PG} {d : Nat} {Q : Int → PS → Prop}
/-- one share, the model -/
theorem s_share {g0 v b x1 x3 x5 s : Int} {p : Nat} {E : Int → Int} {nx : Int → Int} {σ1 : PS} (hE : BrkM E σ1) (hp : p < 60) (hs : 0 ≤ s ∧ s < setsN p) (hg : g0 = 0 ∨ g0 = 1) (hb : b = 2 * s + g0) (hnx : ∀ t : Int, 0 ≤ t → t < 128 → σ1 117 t = nx t)
    (w : ∀ σ', eqx [117] σ1 σ' → (∀ t : Int, 0 ≤ t → t < 128 → σ' 117 t = (shareS E (imin ((p : Int) + 1) 8) v b (x1, nx)).2 t) → XX g true (d + 2) P_X12_chanceOf 118 [(2, 88), (1, (shareS E (imin ((p : Int) + 1) 8) v b (x1, nx)).1), (9, 0), (0, x3), (0, s), (1, x5), (9, 0), (0, g0 + 1), (9, 0), (9, 0)] [] 136 σ' 136 Q) :
    XX g true (d + 1) P_X12_isMet 0 [(2, 88), (0, ior (ishl s 1) g0), (0, w32 ((p : Int) + 1)), (9, 0), (9, 0)] [] 136 σ1 136 (fun r4 σ3 => ((r4 = 0 → (0 ≤ iand (ior (ishl s 1) g0) 127 ∧ iand (ior (ishl s 1) g0) 127 < 128) ∧ (XX g true (d + 2) P_X12_chanceOf 118 [(2, 88), (1, x1), (9, 0), (0, x3), (0, s), (1, x5), (9, 0), (0, w32 (g0 + 1)), (9, 0), (9, 0)] [] 136 (su σ3 117 (iand (ior (ishl s 1) g0) 127) (w64 ((σ3 117 (iand (ior (ishl s 1) g0) 127)) + v))) 136 Q)) ∧ (r4 ≠ 0 → ∀ y6, y6 = w64 (x1 + v) → (XX g true (d + 2) P_X12_chanceOf 118 [(2, 88), (1, y6), (9, 0), (0, x3), (0, s), (1, x5), (9, 0), (0, w32 (g0 + 1)), (9, 0), (9, 0)] [] 136 σ3 136 Q)))) := by
  have h128 := setsN_128 p
  have eb : ior (ishl s 1) g0 = b := by
    rw [ishl1 hs.1 (by omega)]
    rcases hg with rfl | rfl
    · rw [ior0 (by omega) (by omega)]; omega
    · rw [ior1 (by omega) (by omega)]; omega
  have ew : w32 (g0 + 1) = g0 + 1 := w32_of (by omega) (by omega)
  rw [eb, iand127 (by omega) (by omega), ew, w32_of (x := (p : Int) + 1) (by omega) (by omega)]
  have hlt : b.toNat < 2 ^ ((p : Int) + 1).toNat := by
    rw [show ((p : Int) + 1).toNat = p + 1 by omega]
    have := setsN_lt (p := p) (s := s.toNat) (by omega)
    omega
  unfold shareS at w
  refine s_metM hE (by omega) (by omega) ⟨by omega, by omega⟩ hlt (fun hm => ⟨fun z => by omega, fun _ y6 h6 => ?_⟩) (fun hm => ⟨fun _ => ⟨by omega, ?_⟩, fun z => absurd rfl z⟩)
  · rw [if_pos hm] at w
    rw [h6]
    exact w σ1 eqx.rf hnx
  · rw [if_neg hm] at w
    refine w _ (eqx.rf.su (by decide)) fun t t0 t1 => ?_
    unfold addF updF
    simp only
    by_cases e : t = b % 128
    · rw [if_pos e, e, su_eq, hnx _ (by omega) (by omega)]
    · rw [if_neg e, su_ne (Or.inr e)]
      exact hnx t t0 t1
theorem BrkM.x {E : Int → Int} {L : List Int} {σ σ' : PS} (h : BrkM E σ) (hx : eqx L σ σ') (h88 : (88 : Int) ∉ L) (h1 : (107 : Int) ∉ L) (h2 : (108 : Int) ∉ L) (h3 : (109 : Int) ∉ L) (h4 : (110 : Int) ∉ L) : BrkM E σ' := BrkM_same h (hx 88 h88 40) (hx 107 h1) (hx 108 h2) (hx 109 h3) (hx 110 h4)
theorem s_chanceOf {n : Nat} {E ch : Int → Int} {σ : PS} (hE : BrkM E σ) (hs : σ 88 2 = n) (hn : n ≤ 60) (hc : ∀ p : Int, 0 ≤ p → p < n → σ 118 p = ch p) (w : ∀ σ', eqx [116, 117] σ σ' → Q (chanceF E ch n) σ') : XX g true (d + 2) P_X12_chanceOf 0 [(2, 88), (9, 0), (9, 0), (9, 0), (9, 0), (9, 0), (9, 0), (9, 0), (9, 0), (9, 0)] [] 136 σ 136 Q := by
  -- a place: the sums go over
  have copy : ∀ (m : Nat) (s : Int) (p : Nat) (x1 : Int) (nx : Int → Int) (σ1 : PS), 0 ≤ s → s + m = 128 → eqx [116, 117] σ σ1 → (∀ t : Int, 0 ≤ t → t < 128 → σ1 117 t = nx t) → (∀ t : Int, 0 ≤ t → t < s → σ1 116 t = nx t) → (∀ σ2, eqx [116, 117] σ σ2 → (∀ t : Int, 0 ≤ t → t < 128 → σ2 116 t = nx t) → XX g true (d + 2) P_X12_chanceOf 35 [(2, 88), (1, x1), (9, 0), (0, w32 ((p : Int) + 1)), (9, 0), (9, 0), (9, 0), (9, 0), (9, 0), (9, 0)] [] 136 σ2 136 Q) → XX g true (d + 2) P_X12_chanceOf 220 [(2, 88), (1, x1), (9, 0), (0, (p : Int)), (0, s), (9, 0), (9, 0), (9, 0), (9, 0), (9, 0)] [] 136 σ1 136 Q := by
    intro m
    induction m with
    | zero =>
      intro s p x1 nx σ1 h0 hm hx hn1 hn2 w2
      exact B_X12_chanceOf_220 ⟨fun _ => w2 σ1 hx fun t t0 t1 => hn2 t t0 (by omega), fun h => by omega⟩
    | succ m ih =>
      intro s p x1 nx σ1 h0 hm hx hn1 hn2 w2
      refine B_X12_chanceOf_220 ⟨fun h => by omega, fun h => ⟨by omega, ?_⟩⟩
      rw [w32_of (x := s + 1) (by omega) (by omega)]
      refine ih (s + 1) p x1 nx _ (by omega) (by omega) (hx.su (by decide)) (fun t t0 t1 => ?_) (fun t t0 t1 => ?_) w2
      · rw [su_ne (Or.inl (by decide))]; exact hn1 t t0 t1
      · by_cases e : t = s
        · subst e; rw [su_eq]; exact hn1 t t0 (by omega)
        · rw [su_ne (Or.inr e)]; exact hn2 t t0 (by omega)
  -- a place: the shares
  have share : ∀ (m : Nat) (s : Int) (p : Nat) (W : Int → Int) (st : OS) (σ1 : PS), p < n → 0 ≤ s → s + m = 128 → eqx [116, 117] σ σ1 → (∀ t : Int, 0 ≤ t → t < 128 → σ1 116 t = W t) → zeroTo (setsN p) W → (∀ t : Int, 0 ≤ t → t < 128 → σ1 117 t = st.2 t) → (∀ σ2, eqx [116, 117] σ σ2 → (∀ t : Int, 0 ≤ t → t < 128 → σ2 117 t = (oddR E (imin ((p : Int) + 1) 8) (ch p) W m s st).2 t) → XX g true (d + 2) P_X12_chanceOf 220 [(2, 88), (1, (oddR E (imin ((p : Int) + 1) 8) (ch p) W m s st).1), (9, 0), (0, (p : Int)), (0, 0), (9, 0), (9, 0), (9, 0), (9, 0), (9, 0)] [] 136 σ2 136 Q) → XX g true (d + 2) P_X12_chanceOf 71 [(2, 88), (1, st.1), (9, 0), (0, (p : Int)), (0, s), (9, 0), (9, 0), (9, 0), (9, 0), (9, 0)] [] 136 σ1 136 Q := by
    intro m
    induction m with
    | zero =>
      intro s p W st σ1 hp h0 hm hx hW hz hnx w2
      exact B_X12_chanceOf_71 ⟨fun _ => w2 σ1 hx hnx, fun h => by omega⟩
    | succ m ih =>
      intro s p W st σ1 hp h0 hm hx hW hz hnx w2
      have es : w32 (s + 1) = s + 1 := w32_of (by omega) (by omega)
      have oW := hW s h0 (by omega)
      have oc : σ1 118 p = ch p := by rw [hx 118 (by decide)]; exact hc p (by omega) (by omega)
      rw [oddR_succ] at w2
      unfold oddStep at w2
      refine B_X12_chanceOf_71 ⟨fun h => by omega, fun h => ⟨by omega, ?_⟩⟩
      rw [oW, oc, es]
      refine ⟨fun hv => ⟨by omega, fun y3 h3 => ?_⟩, fun hv => ?_⟩
      · rw [if_neg hv, ← h3] at w2
        have hsK : s < setsN p := Classical.byContradiction fun z => hv (hz s (by omega) (by omega))
        -- those that stay
        refine B_X12_chanceOf_118 ⟨fun z => by omega, fun _ => ⟨fun _ => ⟨by omega, fun y2 h2 => ?_⟩, fun z => by omega⟩⟩
        rw [oW] at h2
        subst h2
        refine s_share (p := p) (v := w64 (W s - y3)) (b := 2 * s) (nx := st.2) (E := E) (hE.x hx (by decide) (by decide) (by decide) (by decide) (by decide)) (by omega) ⟨h0, hsK⟩ (Or.inl rfl) (by omega) hnx fun σ2 hx2 hn2 => ?_
        rw [show (0 : Int) + 1 = 1 by decide]
        have hxx := hx.tr (hx2.mono (L' := [116, 117]) (by decide))
        refine B_X12_chanceOf_118 ⟨fun z => by omega, fun _ => ⟨fun z => absurd rfl z, fun _ => ?_⟩⟩
        refine s_share (p := p) (v := y3) (b := 2 * s + 1) (nx := (shareS E (imin ((p : Int) + 1) 8) (w64 (W s - y3)) (2 * s) (st.1, st.2)).2) (E := E) (hE.x hxx (by decide) (by decide) (by decide) (by decide) (by decide)) (by omega) ⟨h0, hsK⟩ (Or.inr rfl) (by omega) hn2 fun σ3 hx3 hn3 => ?_
        refine B_X12_chanceOf_118 ⟨fun _ => ?_, fun z => by omega⟩
        rw [es]
        rw [share_cm (by omega)] at w2
        refine ih (s + 1) p W _ σ3 hp (by omega) (by omega) (hxx.tr (hx3.mono (by decide))) (fun t t0 t1 => ?_) hz hn3 w2
        rw [hx3 116 (by decide), hx2 116 (by decide)]
        exact hW t t0 t1
      · rw [if_pos hv] at w2
        exact ih (s + 1) p W st σ1 hp (by omega) (by omega) hx hW hz hnx w2
  -- a place: all is 0
  have clear : ∀ (m : Nat) (s : Int) (p : Nat) (x1 : Int) (W : Int → Int) (σ1 : PS), 0 ≤ s → s + m = 128 → eqx [116, 117] σ σ1 → (∀ t : Int, 0 ≤ t → t < 128 → σ1 116 t = W t) → (∀ t : Int, 0 ≤ t → t < s → σ1 117 t = 0) → (∀ σ2, eqx [116, 117] σ σ2 → (∀ t : Int, 0 ≤ t → t < 128 → σ2 116 t = W t) → (∀ t : Int, 0 ≤ t → t < 128 → σ2 117 t = 0) → XX g true (d + 2) P_X12_chanceOf 71 [(2, 88), (1, x1), (9, 0), (0, (p : Int)), (0, 0), (9, 0), (9, 0), (9, 0), (9, 0), (9, 0)] [] 136 σ2 136 Q) → XX g true (d + 2) P_X12_chanceOf 46 [(2, 88), (1, x1), (9, 0), (0, (p : Int)), (0, s), (9, 0), (9, 0), (9, 0), (9, 0), (9, 0)] [] 136 σ1 136 Q := by
    intro m
    induction m with
    | zero =>
      intro s p x1 W σ1 h0 hm hx hW hn1 w2
      exact B_X12_chanceOf_46 ⟨fun _ => w2 σ1 hx hW fun t t0 t1 => hn1 t t0 (by omega), fun h => by omega⟩
    | succ m ih =>
      intro s p x1 W σ1 h0 hm hx hW hn1 w2
      refine B_X12_chanceOf_46 ⟨fun h => by omega, fun h => ⟨by omega, ?_⟩⟩
      rw [w32_of (x := s + 1) (by omega) (by omega)]
      refine ih (s + 1) p x1 W _ (by omega) (by omega) (hx.su (by decide)) (fun t t0 t1 => ?_) (fun t t0 t1 => ?_) w2
      · rw [su_ne (Or.inl (by decide))]; exact hW t t0 t1
      · by_cases e : t = s
        · subst e; exact su_eq
        · rw [su_ne (Or.inr e)]; exact hn1 t t0 (by omega)
  have places : ∀ (m p : Nat) (st : OS) (σ1 : PS), p + m = n → eqx [116, 117] σ σ1 → (∀ s : Int, 0 ≤ s → s < 128 → σ1 116 s = st.2 s) → zeroTo (setsN p) st.2 → (oddsR E ch m p st).1 = chanceF E ch n → XX g true (d + 2) P_X12_chanceOf 35 [(2, 88), (1, st.1), (9, 0), (0, (p : Int)), (9, 0), (9, 0), (9, 0), (9, 0), (9, 0), (9, 0)] [] 136 σ1 136 Q := by
    intro m
    induction m with
    | zero =>
      intro p st σ1 hp hx hW hz hfin
      have o : σ1 88 2 = n := by rw [hx 88 (by decide)]; exact hs
      refine B_X12_chanceOf_35 ⟨fun _ => ?_, fun h => by rw [o] at h; omega⟩
      have : st.1 = chanceF E ch n := hfin
      rw [this]
      exact w σ1 hx
    | succ m ih =>
      intro p st σ1 hp hx hW hz hfin
      have o : σ1 88 2 = n := by rw [hx 88 (by decide)]; exact hs
      rw [oddsR_succ] at hfin
      have hzero := oddR_zero (E := E) (many := imin ((p : Int) + 1) 8) (c := ch p) (W := st.2) hz (setsN_step p) (n := 128) (s := 0) (st := (st.1, fun _ => 0)) (by decide) (by decide) (fun _ _ _ => rfl)
      refine B_X12_chanceOf_35 ⟨fun h => by rw [o] at h; omega, fun _ => ?_⟩
      refine clear 128 0 p st.1 st.2 σ1 (by omega) (by omega) hx hW (fun t t0 t1 => by omega) fun σ2 hx2 hW2 hn2 => ?_
      refine share 128 0 p st.2 (st.1, fun _ => 0) σ2 (by omega) (by omega) (by omega) hx2 hW2 hz hn2 fun σ3 hx3 hn3 => ?_
      refine copy 128 0 p _ _ σ3 (by omega) (by omega) hx3 hn3 (fun t t0 t1 => by omega) fun σ4 hx4 hn4 => ?_
      rw [w32_of (by omega) (by omega)]
      exact ih (p + 1) _ σ4 (by omega) hx4 hn4 hzero hfin
  have begin_ : ∀ (m : Nat) (s : Int) (σ1 : PS), 0 ≤ s → s + m = 128 → eqx [116, 117] σ σ1 → (∀ t : Int, 0 ≤ t → t < s → σ1 116 t = 0) → XX g true (d + 2) P_X12_chanceOf 2 [(2, 88), (0, s), (9, 0), (9, 0), (9, 0), (9, 0), (9, 0), (9, 0), (9, 0), (9, 0)] [] 136 σ1 136 Q := by
    intro m
    induction m with
    | zero =>
      intro s σ1 h0 hm hx hz
      refine B_X12_chanceOf_2 ⟨fun _ => ?_, fun h => by omega⟩
      refine places n 0 odd0 _ (by omega) (hx.su (by decide)) (fun t t0 t1 => ?_) (fun t t0 t1 => ?_) rfl
      · unfold odd0
        simp only
        by_cases e : t = 0
        · subst e; rw [su_eq, if_pos rfl]
        · rw [su_ne (Or.inr e), if_neg e]; exact hz t t0 (by omega)
      · have : setsN 0 = 1 := rfl
        unfold odd0
        simp only
        rw [if_neg (by omega)]
    | succ m ih =>
      intro s σ1 h0 hm hx hz
      refine B_X12_chanceOf_2 ⟨fun h => by omega, fun h => ⟨by omega, ?_⟩⟩
      rw [w32_of (x := s + 1) (by omega) (by omega)]
      refine ih (s + 1) _ (by omega) (by omega) (hx.su (by decide)) fun t t0 t1 => ?_
      by_cases e : t = s
      · subst e; exact su_eq
      · rw [su_ne (Or.inr e)]; exact hz t t0 (by omega)
  exact B_X12_chanceOf_0 (begin_ 128 0 σ (by omega) (by omega) eqx.rf fun t t0 t1 => by omega)
theorem s_chanceNow {E : Int → Int} {R T σ : PS} (hR : RowMx R σ) (ok : RSok R) (hT : TxtM 0 T σ) (okT : TxtOK oknL T) (hE : BrkM E σ) (w : ∀ σ', eqx [111, 112, 116, 117, 118] σ σ' → Q (chanceNowS T E R) σ') : XX g true (d + 5) P_X12_chanceNow 0 [(2, 88), (9, 0)] [] 136 σ 136 Q := by
  have k1 := ok.1
  have key : ∀ (n : Nat) (p : Int) (σ1 : PS), 0 ≤ p → p + n = R 0 0 → eqx [111, 112, 118] σ σ1 → (∀ q : Int, 0 ≤ q → q < p → σ1 118 q = chNow T R q) → XX g true (d + 5) P_X12_chanceNow 2 [(2, 88), (0, p)] [] 136 σ1 136 Q := by
    intro n
    induction n with
    | zero =>
      intro p σ1 h0 hk hx hu
      have hR1 : RowMx R σ1 := hR.x hx fun a a1 a2 => by simp only [List.mem_cons, List.not_mem_nil, or_false]; omega
      refine B_X12_chanceNow_2 ⟨fun _ => ?_, fun h => by rw [hR1.1.1] at h; omega⟩
      refine s_chanceOf (n := (R 0 0).toNat) (ch := chNow T R) (E := E) (hE.x hx (by decide) (by decide) (by decide) (by decide) (by decide)) (by rw [hR1.1.1]; omega) (by omega) (fun q q0 q1 => hu q q0 (by omega)) fun σ2 hx2 => ?_
      exact w σ2 ((hx.mono (by decide)).tr (hx2.mono (by decide)))
    | succ n ih =>
      intro p σ1 h0 hk hx hu
      have hR1 : RowMx R σ1 := hR.x hx fun a a1 a2 => by simp only [List.mem_cons, List.not_mem_nil, or_false]; omega
      have hT1 : TxtM 0 T σ1 := hT.x hx fun a a1 a2 => by simp only [List.mem_cons, List.not_mem_nil, or_false]; omega
      have e91 : σ1 91 p = R 3 p := (hR1.2.1 p h0 (by omega)).2.2.1
      refine B_X12_chanceNow_2 ⟨fun h => by rw [hR1.1.1] at h; omega, fun h => ⟨by omega, ?_⟩⟩
      rw [e91, w32_of (by omega) (by omega)]
      have step : ∀ (v : Int) (σ2 : PS), v = chNow T R p → eqx [111, 112] σ1 σ2 → XX g true (d + 5) P_X12_chanceNow 2 [(2, 88), (0, p + 1)] [] 136 (su σ2 118 p v) 136 Q := by
        intro v σ2 hv hx2
        refine ih (p + 1) _ (by omega) (by omega) ((hx.tr (hx2.mono (by decide))).su (by decide)) fun q q0 q1 => ?_
        by_cases e : q = p
        · subst e; rw [su_eq]; exact hv
        · rw [su_ne (Or.inr e), hx2 118 (by decide)]
          exact hu q q0 (by omega)
      refine ⟨fun hz => s_goesNow hR1 ok hT1 okT h0 (by omega) fun σ2 hx2 => ?_, fun hz => ?_⟩
      · exact step _ σ2 (by unfold chNow; rw [if_neg hz]) hx2
      · exact step 1000 σ1 (by unfold chNow; rw [if_pos hz]) eqx.rf
  exact B_X12_chanceNow_0 (key (R 0 0).toNat 0 σ (by omega) (by omega) eqx.rf fun q q0 q1 => by omega)
/-- the class: the row as it stands, and as it is thought of -/
theorem s_ofNow {r q : Int} {E : Int → Int} {R T σ : PS} (hr : RowAt r) (hR : RowC r R σ) (ok : RSok R) (hq : TxtAt q) (hT : TxtC (q + 1) T σ) (okT : TxtOK oknL T) (hE : EnC (q + 13) E σ) (hO : OddAt σ) (hH : HoldAt σ) (w : ∀ σ', eqx [68, 69, 70, 71, 72, 73] σ σ' → OddAt σ' → HoldAt σ' → Q (chanceNowS T E R) σ') : XX g true (d + 4) P_X5_ofNow 0 [(2, 70), (2, r), (2, q), (9, 0)] [] 136 σ 136 Q := by
  have k1 := ok.1
  have hr3 : r = 43 ∨ r = 51 ∨ r = 59 := hr
  have hq3 : q + 14 < 43 ∧ 0 ≤ q := by have := hq; unfold TxtAt at this; omega
  have key : ∀ (n : Nat) (p : Int) (σ1 : PS), 0 ≤ p → p + n = R 0 0 → eqx [68, 69, 71] σ σ1 → (∀ q : Int, 0 ≤ q → q < p → σ1 71 q = chNow T R q) → XX g true (d + 4) P_X5_ofNow 2 [(2, 70), (2, r), (2, q), (0, p)] [] 136 σ1 136 Q := by
    intro n
    induction n with
    | zero =>
      intro p σ1 h0 hk hx hu
      have hR1 : RowC r R σ1 := hR.same fun a a1 a2 j => hx a (by simp only [List.mem_cons, List.not_mem_nil, or_false]; omega) j
      refine B_X5_ofNow_2 hr hq ⟨fun _ => ?_, fun h => by rw [hR1.1.1] at h; omega⟩
      have o : ∀ j, σ1 70 j = σ 70 j := fun j => hx 70 (by decide) j
      have hout := s_out (g := g) (d := d) (Q := Q) (n := (R 0 0).toNat) (ch := chNow T R) (E := E) (σ := σ1) (Txt_breaks hq) (hE.x hx (by simp only [List.mem_cons, List.not_mem_nil, or_false]; omega)) (by unfold OddAt; rw [o, o]; exact hO) (by unfold HoldAt; rw [o, o]; exact hH) (by omega) (fun q q0 q1 => hu q q0 (by omega)) fun σ2 hx2 hO2 hH2 => w σ2 ((hx.mono (by decide)).tr (hx2.mono (by decide))) hO2 hH2
      rw [hR1.1.1]
      rw [show (((R 0 0).toNat : Nat) : Int) = R 0 0 by omega] at hout
      exact hout
    | succ n ih =>
      intro p σ1 h0 hk hx hu
      have hR1 : RowC r R σ1 := hR.same fun a a1 a2 j => hx a (by simp only [List.mem_cons, List.not_mem_nil, or_false]; omega) j
      have hT1 : TxtC (q + 1) T σ1 := hT.same fun a a1 a2 j => hx a (by simp only [List.mem_cons, List.not_mem_nil, or_false]; omega) j
      have ew : w32 (p + 1) = p + 1 := w32_of (by omega) (by omega)
      have step : ∀ (v : Int) (σ2 : PS), v = chNow T R p → eqx [68, 69] σ1 σ2 → XX g true (d + 4) P_X5_ofNow 2 [(2, 70), (2, r), (2, q), (0, p + 1)] [] 136 (su σ2 71 p v) 136 Q := by
        intro v σ2 hv hx2
        refine ih (p + 1) _ (by omega) (by omega) ((hx.tr (hx2.mono (by decide))).su (by decide)) fun q q0 q1 => ?_
        by_cases e : q = p
        · subst e; rw [su_eq]; exact hv
        · rw [su_ne (Or.inr e), hx2 71 (by decide)]
          exact hu q q0 (by omega)
      refine B_X5_ofNow_2 hr hq ⟨fun h => by rw [hR1.1.1] at h; omega, fun h => ?_⟩
      rw [ew]
      refine s_bitC hR1.2.2.1 h0 (by omega) ⟨fun hz => ?_, fun hz => ⟨by omega, ?_⟩⟩
      · refine s_besC hR1 ok h0 (by omega) (s_goes hr hR1 ok (Txt_law hq) hT1 okT h0 (by omega) fun σ2 hx2 => ⟨by omega, ?_⟩)
        exact step _ σ2 (by unfold chNow; rw [if_neg hz]) hx2
      · exact step 1000 σ1 (by unfold chNow; rw [if_pos hz]) eqx.rf
  exact B_X5_ofNow_0 hr hq (key (R 0 0).toNat 0 σ (by omega) (by omega) eqx.rf fun q q0 q1 => by omega)
theorem s_ofThought {r q : Int} {E : Int → Int} {R T σ : PS} (hr : RowAt r) (hR : RowC r R σ) (ok : RSok R) (hq : TxtAt q) (hT : TxtC (q + 1) T σ) (okT : TxtOK oknL T) (hE : EnC (q + 13) E σ) (hO : OddAt σ) (hH : HoldAt σ) (w : ∀ σ', eqx [68, 69, 70, 71, 72, 73] σ σ' → OddAt σ' → HoldAt σ' → Q (chanceThoughtS T E R) σ') : XX g true (d + 4) P_X5_ofThought 0 [(2, 70), (2, r), (2, q), (9, 0)] [] 136 σ 136 Q := by
  have k1 := ok.1
  have hr3 : r = 43 ∨ r = 51 ∨ r = 59 := hr
  have hq3 : q + 14 < 43 ∧ 0 ≤ q := by have := hq; unfold TxtAt at this; omega
  have key : ∀ (n : Nat) (p : Int) (σ1 : PS), 0 ≤ p → p + n = R 0 0 → eqx [68, 69, 71] σ σ1 → (∀ q : Int, 0 ≤ q → q < p → σ1 71 q = chThought T R q) → XX g true (d + 4) P_X5_ofThought 2 [(2, 70), (2, r), (2, q), (0, p)] [] 136 σ1 136 Q := by
    intro n
    induction n with
    | zero =>
      intro p σ1 h0 hk hx hu
      have hR1 : RowC r R σ1 := hR.same fun a a1 a2 j => hx a (by simp only [List.mem_cons, List.not_mem_nil, or_false]; omega) j
      refine B_X5_ofThought_2 hr hq ⟨fun _ => ?_, fun h => by rw [hR1.1.1] at h; omega⟩
      have o : ∀ j, σ1 70 j = σ 70 j := fun j => hx 70 (by decide) j
      have hout := s_out (g := g) (d := d) (Q := Q) (n := (R 0 0).toNat) (ch := chThought T R) (E := E) (σ := σ1) (Txt_breaks hq) (hE.x hx (by simp only [List.mem_cons, List.not_mem_nil, or_false]; omega)) (by unfold OddAt; rw [o, o]; exact hO) (by unfold HoldAt; rw [o, o]; exact hH) (by omega) (fun q q0 q1 => hu q q0 (by omega)) fun σ2 hx2 hO2 hH2 => w σ2 ((hx.mono (by decide)).tr (hx2.mono (by decide))) hO2 hH2
      rw [hR1.1.1]
      rw [show (((R 0 0).toNat : Nat) : Int) = R 0 0 by omega] at hout
      exact hout
    | succ n ih =>
      intro p σ1 h0 hk hx hu
      have hR1 : RowC r R σ1 := hR.same fun a a1 a2 j => hx a (by simp only [List.mem_cons, List.not_mem_nil, or_false]; omega) j
      have hT1 : TxtC (q + 1) T σ1 := hT.same fun a a1 a2 j => hx a (by simp only [List.mem_cons, List.not_mem_nil, or_false]; omega) j
      have ew : w32 (p + 1) = p + 1 := w32_of (by omega) (by omega)
      refine B_X5_ofThought_2 hr hq ⟨fun h => by rw [hR1.1.1] at h; omega, fun h => ?_⟩
      rw [ew]
      refine s_guess hr hR1 ok (Txt_law hq) hT1 okT h0 (by omega) fun σ2 hx2 => ⟨by omega, ?_⟩
      refine ih (p + 1) _ (by omega) (by omega) ((hx.tr (hx2.mono (by decide))).su (by decide)) fun q q0 q1 => ?_
      by_cases e : q = p
      · subst e; exact su_eq
      · rw [su_ne (Or.inr e), hx2 71 (by decide)]
        exact hu q q0 (by omega)
  exact B_X5_ofThought_0 hr hq (key (R 0 0).toNat 0 σ (by omega) (by omega) eqx.rf fun q q0 q1 => by omega)
theorem s_chanceM {x : Int} {E : Int → Int} {R T σ : PS} (hR : RowMx R σ) (ok : RSok R) (hT : TxtM 0 T σ) (okT : TxtOK oknL T) (hE : BrkM E σ) (w : ∀ σ', eqm [111, 112, 116, 117, 118] [0] σ σ' → Q (if x = 0 then chanceNowS T E R else if x = 1 then chanceThoughtS T E R else -1) σ') : XX g true (d + 6) P_X12_chance 0 [(2, 88), (0, x), (9, 0)] [] 136 σ 136 Q := by
  have k1 := ok.1
  have hx0 : eqm [111, 112, 116, 117, 118] [0] σ (su σ 88 0 0) := eqm.rf.s8 (by decide)
  have hR0 : RowMx R (su σ 88 0 0) := hR.same8 (fun j hj => su_ne (Or.inr (by omega))) (fun a a1 a2 j => su_ne (Or.inl (by omega)))
  have hT0 : TxtM 0 T (su σ 88 0 0) := hT.same fun a a1 a2 j => su_ne (Or.inl (by omega))
  have hE0 : BrkM E (su σ 88 0 0) := BrkM_same hE (su_ne (Or.inr (by decide))) (fun j => su_ne (Or.inl (by decide))) (fun j => su_ne (Or.inl (by decide))) (fun j => su_ne (Or.inl (by decide))) (fun j => su_ne (Or.inl (by decide)))
  obtain ⟨σ0, e0⟩ : ∃ σ0, σ0 = su σ 88 0 0 := ⟨_, rfl⟩
  rw [← e0] at hx0 hR0 hT0 hE0
  have key : ∀ (n : Nat) (p : Int) (σ1 : PS), x = 1 → 0 ≤ p → p + n = R 0 0 → eqx [111, 112, 118] σ0 σ1 → (∀ q : Int, 0 ≤ q → q < p → σ1 118 q = chThought T R q) → XX g true (d + 6) P_X12_chance 25 [(2, 88), (9, 0), (0, p)] [] 136 σ1 136 Q := by
    intro n
    induction n with
    | zero =>
      intro p σ1 hx1 h0 hk hx hu
      have hR1 : RowMx R σ1 := hR0.x hx fun a a1 a2 => by simp only [List.mem_cons, List.not_mem_nil, or_false]; omega
      refine B_X12_chance_25 ⟨fun _ => ?_, fun h => by rw [hR1.1.1] at h; omega⟩
      refine s_chanceOf (n := (R 0 0).toNat) (ch := chThought T R) (E := E) (hE0.x hx (by decide) (by decide) (by decide) (by decide) (by decide)) (by rw [hR1.1.1]; omega) (by omega) (fun q q0 q1 => hu q q0 (by omega)) fun σ2 hx2 => ?_
      have h9 := w σ2 (hx0.x ((hx.mono (L' := [111, 112, 116, 117, 118]) (by decide)).tr (hx2.mono (by decide))) (by decide) (by decide))
      rw [if_neg (by omega), if_pos hx1] at h9
      exact h9
    | succ n ih =>
      intro p σ1 hx1 h0 hk hx hu
      have hR1 : RowMx R σ1 := hR0.x hx fun a a1 a2 => by simp only [List.mem_cons, List.not_mem_nil, or_false]; omega
      have hT1 : TxtM 0 T σ1 := hT0.x hx fun a a1 a2 => by simp only [List.mem_cons, List.not_mem_nil, or_false]; omega
      refine B_X12_chance_25 ⟨fun h => by rw [hR1.1.1] at h; omega, fun h => ?_⟩
      rw [w32_of (by omega) (by omega)]
      refine s_guessOf hR1 ok hT1 okT h0 (by omega) fun σ2 hx2 => ⟨by omega, ?_⟩
      refine ih (p + 1) _ hx1 (by omega) (by omega) ((hx.tr (hx2.mono (by decide))).su (by decide)) fun q q0 q1 => ?_
      by_cases e : q = p
      · subst e; exact su_eq
      · rw [su_ne (Or.inr e), hx2 118 (by decide)]
        exact hu q q0 (by omega)
  refine B_X12_chance_0 ?_
  rw [← e0]
  refine ⟨fun h => ⟨fun h1 => ?_, fun h1 => ?_⟩, fun h => ?_⟩
  · exact key (R 0 0).toNat 0 σ0 h1 (by omega) (by omega) eqx.rf fun q q0 q1 => by omega
  · have h9 := w σ0 hx0
    rw [if_neg h, if_neg h1] at h9
    exact h9
  · refine s_chanceNow hR0 ok hT0 okT hE0 fun σ1 hx1 => ?_
    have h9 := w σ1 (hx0.x hx1 (by decide) (by decide))
    rw [if_pos h] at h9
    exact h9
end PCHANCE
