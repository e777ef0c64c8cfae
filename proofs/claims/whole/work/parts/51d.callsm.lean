/-! THE SMALL CALLS, the model -/
section PCALLSM
variable {g : PG} {d : Nat} {Q : Int → PS → Prop} {t : TS} {fk fp ln : Int} {f : Int → Int} {im : Option TS} {σ : PS}
theorem isIn_pos {a : Prop} [Decidable a] (h : (if a then (1 : Int) else 0) ≠ 0) : a := Classical.byContradiction fun z => h (by rw [if_neg z])
theorem isIn_neg {a : Prop} [Decidable a] (h : (if a then (1 : Int) else 0) = 0) : ¬ a := fun z => by rw [if_pos z] at h; exact absurd h (by decide)
theorem ModB.told (h : ModB t fk fp ln f im σ) : eqd8 σ (su σ 88 0 0) ∧ ModB t fk fp ln f im (su σ 88 0 0) := by
  have hx : eqm [] [0] σ (su σ 88 0 0) := eqm.rf.s8 (by decide)
  exact ⟨hx.d8 fun a _ z => by simp at z, h.scr hx (fun a _ z => by simp at z) fun j hj z => by simp at z; omega⟩
theorem eqd8.su {σ σ' : PS} {a j v : Int} (h : eqd8 σ σ') (ha : 88 ≤ a) : eqd8 σ (su σ' a j v) := fun b i hb => by
  rw [su_ne (Or.inl (by omega))]
  exact h b i hb
theorem ModB.sc8 {R' : PS} {j v : Int} (h : ModB t fk fp ln f im σ) (hR : RowM R' (su σ 88 j v)) (hj : j ≠ 19 ∧ j ≠ 38 ∧ j ≠ 39 ∧ j ≠ 40 ∧ j ≠ 75) : ModB (R', t.2) fk fp ln f im (su σ 88 j v) := by
  have hx : eqm [] [j] σ (su σ 88 j v) := eqm.rf.s8 (List.mem_singleton.mpr rfl)
  exact h.row hx hR (fun a _ z => by simp at z) fun i hi z => by rw [List.mem_singleton] at z; omega
theorem RowM.mk' {R σ : PS} (h : RowMx R σ) (h3 : σ 97 3 = R 9 3) : RowM R σ := ⟨h, h3⟩
theorem a_stateM {x : Int} (h : ModB t fk fp ln f im σ) (w : ∀ σ', eqd8 σ σ' → ModB (su t.1 0 1 x, t.2) fk fp ln f im σ' → Q (t.1 0 1) σ') : XX g true (d + 40) P_X12_state 0 [(2, 88), (0, x), (9, 0)] [] 136 σ 136 Q := by
  obtain ⟨hx, h0⟩ := h.told
  refine B_X12_state_0 fun y1 e => ?_
  rw [e, h.1.1.1.1.2.1]
  refine w _ (hx.su (by decide)) (h0.sc8 ⟨h0.1.1.1.sc (k := 1) (j := 1) (by omega), ?_⟩ (by omega))
  rw [su_ne (Or.inl (by decide)), su_ne (Or.inl (by decide))]
  exact h0.1.1.2
theorem a_rowM {n : Int} (h : ModB t fk fp ln f im σ) (w : ∀ σ', eqd8 σ σ' → ModB (rowN t n) fk fp ln f im σ' → Q (rowA n) σ') : XX g true (d + 40) P_X12_row 0 [(2, 88), (0, n), (9, 0)] [] 136 σ 136 Q := by
  obtain ⟨hx, h0⟩ := h.told
  unfold rowN rowA at w
  refine B_X12_row_0 ?_
  generalize su σ 88 0 0 = σ0 at *
  refine s_isIn ⟨fun z => ?_, fun z => ?_⟩
  · have hok : rowOk n := isIn_pos z
    rw [if_pos hok, if_pos hok] at w
    have key : ∀ (m : Nat) (i : Int) (σ1 : PS), 0 ≤ i → i + m = 60 → eqm [89, 90, 91, 92, 93, 94] [2] σ0 σ1 → σ1 88 2 = n → (∀ q, 0 ≤ q → q < i → σ1 89 q = 0 ∧ σ1 90 q = 0 ∧ σ1 91 q = 0 ∧ σ1 92 q = 0 ∧ σ1 93 q = 0 ∧ σ1 94 q = 0) → XX g true (d + 40) P_X12_row 25 [(2, 88), (9, 0), (0, i)] [] 136 σ1 136 Q := by
      intro m
      induction m with
      | zero =>
        intro i σ1 hi hm hx1 hn1 hq
        refine B_X12_row_25 ⟨fun _ => ?_, fun q => by omega⟩
        have hx2 : eqm [89, 90, 91, 92, 93, 94] [2, 16, 17] σ0 (su (su σ1 88 16 0) 88 17 (-1)) := ((hx1.mono (by decide) (by decide)).s8 (by decide)).s8 (by decide)
        obtain ⟨⟨⟨b0, b1, b2, b3, b4, b5, b6, b7⟩, -, b9, b10⟩, b11⟩ := h0.1.1
        refine w _ (hx.tr (hx2.d8 fun a ha q => by simp only [List.mem_cons, List.not_mem_nil, or_false] at q; omega)) (h0.row hx2 ⟨⟨?_, fun p p0 p1 => ?_, fun k k0 k1 => ?_, fun k k0 k1 k3 => ?_⟩, ?_⟩ (fun a ha q => by simp only [List.mem_cons, List.not_mem_nil, or_false] at q; omega) (fun j hj q => by simp only [List.mem_cons, List.not_mem_nil, or_false] at q; omega))
        · have f2 : ∀ j, j ≠ 2 → σ1 88 j = σ0 88 j := fun j hj => hx1.2 j (by simp only [List.mem_singleton]; exact hj)
          simp [beginS, su, hn1, f2 1 (by decide), f2 12 (by decide), f2 13 (by decide), f2 14 (by decide), f2 15 (by decide), b1, b2, b3, b4, b5]
        · have := hq p p0 (by omega)
          simp [beginS, su]
          exact this
        · have := b9 k k0 k1
          rw [hx2.1 95 (by decide) (by decide), hx2.1 96 (by decide) (by decide)]
          simp [beginS]
          exact this
        · have := b10 k k0 k1 k3
          rw [hx2.1 97 (by decide) (by decide)]
          simp [beginS]
          exact this
        · rw [hx2.1 97 (by decide) (by decide)]
          simp [beginS]
          exact b11
      | succ m ih =>
        intro i σ1 hi hm hx1 hn1 hq
        refine B_X12_row_25 ⟨fun q => by omega, fun _ => ⟨by omega, ?_⟩⟩
        rw [w32_of (by omega) (by omega)]
        refine ih (i + 1) _ (by omega) (by omega) ((((((hx1.sa (by decide) (by decide)).sa (by decide) (by decide)).sa (by decide) (by decide)).sa (by decide) (by decide)).sa (by decide) (by decide)).sa (by decide) (by decide)) ?_ fun q q0 q1 => ?_
        · simp [su]; exact hn1
        · by_cases e : q = i
          · subst e; simp [su]
          · have := hq q q0 (by omega)
            simp [su, e]
            exact this
    refine key 60 0 (su σ0 88 2 n) (by decide) (by decide) (eqm.rf.s8 (by decide)) su_eq fun q q0 q1 => by omega
  · have hok : ¬ rowOk n := isIn_neg z
    rw [if_neg hok, if_neg hok] at w
    exact w σ0 hx h0
theorem a_placeM {p s a gn : Int} (h : ModB t fk fp ln f im σ) (ok : OkT t) (w : ∀ σ', eqd8 σ σ' → ModB (placeN t p s a gn) fk fp ln f im σ' → Q (placeA t p s a) σ') : XX g true (d + 40) P_X12_place 0 [(2, 88), (0, p), (0, s), (0, a), (0, gn)] [] 136 σ 136 Q := by
  have k1 := ok.1.1
  obtain ⟨hx, h0⟩ := h.told
  have e2 : σ 88 2 = t.1 0 0 := h.1.1.1.1.1
  unfold placeN placeA at w
  refine s_place (by omega) (fun z => ?_) fun z1 z2 z3 => ?_
  · rw [e2] at z
    rw [if_neg z, if_neg z] at w
    exact w _ hx h0
  · rw [e2] at z1
    have hok : placeOk t.1 p s a := ⟨z1, z2, z3⟩
    rw [if_pos hok, if_pos hok] at w
    have hy : eqm [89, 90, 91] [] (su σ 88 0 0) (su (su (su (su σ 88 0 0) 89 p s) 90 p a) 91 p (if gn = 0 then 0 else 1)) := ((eqm.rf.sa (by decide) (by decide)).sa (by decide) (by decide)).sa (by decide) (by decide)
    refine w _ (hx.tr (hy.d8 fun a ha q => by simp only [List.mem_cons, List.not_mem_nil, or_false] at q; omega)) (h0.row hy ⟨((h0.1.1.1.ar (k := 1) (c := 89) (v' := s) (by omega)).ar (k := 2) (c := 90) (v' := a) (by omega)).ar (k := 3) (c := 91) (by omega), ?_⟩ (fun a ha q => by simp only [List.mem_cons, List.not_mem_nil, or_false] at q; omega) (fun j hj q => by simp at q))
    rw [hy.1 97 (by decide) (by decide)]
    simp [su]
    exact h0.1.1.2
theorem a_sortM {k wk p : Int} (h : ModB t fk fp ln f im σ) (w : ∀ σ', eqd8 σ σ' → ModB (sortN t k wk p) fk fp ln f im σ' → Q (sortA k wk p) σ') : XX g true (d + 40) P_X12_sort 0 [(2, 88), (0, k), (0, wk), (0, p)] [] 136 σ 136 Q := by
  obtain ⟨hx, h0⟩ := h.told
  unfold sortN sortA at w
  have bad : ¬ sortOk k wk p → Q 0 (su σ 88 0 0) := fun z => by
    rw [if_neg z, if_neg z] at w
    exact w _ hx h0
  refine B_X12_sort_0 (s_isIn ⟨fun z => bad fun q => isIn_neg z q.1, fun z => s_isIn ⟨fun z1 => bad fun q => isIn_neg z1 q.2.1, fun z1 => s_isIn ⟨fun z2 => ?_, fun z2 => bad fun q => isIn_neg z2 q.2.2⟩⟩⟩)
  have c0 := isIn_pos z
  have hok : sortOk k wk p := ⟨c0, isIn_pos z1, isIn_pos z2⟩
  rw [if_pos hok, if_pos hok] at w
  refine ⟨by omega, ?_⟩
  have hy : eqm [95, 96] [] (su σ 88 0 0) (su (su (su σ 88 0 0) 95 k wk) 96 k p) := (eqm.rf.sa (by decide) (by decide)).sa (by decide) (by decide)
  refine w _ (hx.tr (hy.d8 fun a ha q => by simp only [List.mem_cons, List.not_mem_nil, or_false] at q; omega)) (h0.row hy ⟨(h0.1.1.1.ar (k := 7) (c := 95) (v' := wk) (by omega)).ar (k := 8) (c := 96) (v' := p) (by omega), ?_⟩ (fun a ha q => by simp only [List.mem_cons, List.not_mem_nil, or_false] at q; omega) (fun j hj q => by simp at q))
  rw [hy.1 97 (by decide) (by decide)]
  simp [su]
  exact h0.1.1.2
theorem a_setM {k v : Int} (h : ModB t fk fp ln f im σ) (w : ∀ σ', eqd8 σ σ' → ModB (setN t k v) fk fp ln f im σ' → Q (setA k v) σ') : XX g true (d + 40) P_X12_set 0 [(2, 88), (0, k), (0, v)] [] 136 σ 136 Q := by
  obtain ⟨hx, h0⟩ := h.told
  unfold setN setA at w
  have bad : ¬ setOk k v → Q 0 (su σ 88 0 0) := fun z => by
    rw [if_neg z, if_neg z] at w
    exact w _ hx h0
  refine B_X12_set_0 (s_isIn ⟨fun z => bad fun q => isIn_neg z q.1, fun z => ?_⟩)
  have c0 := isIn_pos z
  have fin : XX g true (d + 39) P_X12_isIn 0 [(2, 88), (0, v), (0, loS k), (0, hiS k)] [] 136 (su σ 88 0 0) 136 (fun r8 σ7 => ((r8 ≠ 0 → (0 ≤ k ∧ k < 8) ∧ Q 1 (su σ7 97 k v)) ∧ (r8 = 0 → Q 0 σ7))) := by
    refine s_isIn ⟨fun z1 => ⟨by omega, ?_⟩, fun z1 => bad fun q => isIn_neg z1 q.2⟩
    have hok : setOk k v := ⟨c0, isIn_pos z1⟩
    rw [if_pos hok, if_pos hok] at w
    have hy : eqm [97] [] (su σ 88 0 0) (su (su σ 88 0 0) 97 k v) := eqm.rf.sa (by decide) (by decide)
    refine w _ (hx.tr (hy.d8 fun a ha q => by simp only [List.mem_singleton] at q; omega)) (h0.row hy ⟨h0.1.1.1.ar (k := 9) (c := 97) (v' := v) (by omega), ?_⟩ (fun a ha q => by simp only [List.mem_singleton] at q; omega) (fun j hj q => by simp at q))
    by_cases e3 : k = 3
    · subst e3; rw [su_eq, su_eq]
    · rw [su_ne (Or.inr (fun q => e3 q.symm)), su_ne (Or.inr (fun q => e3 q.symm))]
      exact h0.1.1.2
  unfold loS hiS at fin
  refine B_X12_leastOf_0 ⟨fun z1 => ?_, fun z1 => ⟨fun z2 => ?_, fun z2 => ?_⟩⟩
  · refine B_X12_mostOf_0 ⟨fun q => by omega, fun _ => ?_⟩
    rw [if_pos (Or.inl z1), if_pos z1] at fin
    exact fin
  · rw [if_neg (by omega), if_neg z1] at fin
    refine B_X12_mostOf_0 ⟨fun _ => ⟨fun q2 => ⟨fun q5 => ⟨fun q6 => ?_, fun q6 => ?_⟩, fun q5 => ?_⟩, fun q2 => ?_⟩, fun q => by omega⟩
    · rw [if_neg q2, if_neg q5, if_neg (by omega)] at fin; exact fin
    · rw [if_neg q2, if_neg q5, if_pos q6] at fin; exact fin
    · rw [if_neg q2, if_pos q5] at fin; exact fin
    · rw [if_pos q2] at fin; exact fin
  · refine B_X12_mostOf_0 ⟨fun _ => ⟨fun q2 => ⟨fun q5 => ⟨fun q6 => ?_, fun q6 => by omega⟩, fun q5 => by omega⟩, fun q2 => by omega⟩, fun q => by omega⟩
    rw [if_pos (Or.inr z2), if_neg z1, if_neg q2, if_neg q5, if_neg (by omega)] at fin
    exact fin
theorem scr_m {L J : List Int} {σ' : PS} (h : ModB t fk fp ln f im σ) (hx : eqm L J σ σ') (hL : ∀ a ∈ L, a = 106 ∨ (111 ≤ a ∧ a < 134)) (hJ : ∀ j ∈ J, j = 0 ∨ (50 ≤ j ∧ j < 75)) : eqd8 σ σ' ∧ ModB t fk fp ln f im σ' :=
  ⟨hx.d8 fun a ha z => by have := hL a z; omega, h.scr hx (fun a ha z => by have := hL a z; omega) fun j hj z => by have := hJ j z; omega⟩
theorem a_ofM {p wh : Int} (h : ModB t fk fp ln f im σ) (ok : OkT t) (w : ∀ σ', eqd8 σ σ' → ModB t fk fp ln f im σ' → Q (ofA t p wh) σ') : XX g true (d + 40) P_X12_of 0 [(2, 88), (0, p), (0, wh)] [] 136 σ 136 Q := by
  have k1 := ok.1.1
  obtain ⟨hx, h0⟩ := h.told
  refine B_X12_of_0 ?_
  generalize su σ 88 0 0 = σ0 at *
  have e2 : σ0 88 2 = t.1 0 0 := h0.1.1.1.1.1
  have hR := h0.1.1.1
  have fin : ∀ σ', eqx [111, 112] σ0 σ' → eqd8 σ σ' ∧ ModB t fk fp ln f im σ' := fun σ' hy => by
    have := scr_m h0 (eqm.rf.x (L := [111, 112]) (J := []) hy (by decide) (by decide)) (by decide) (by decide)
    exact ⟨hx.tr this.1, this.2⟩
  have e := w σ0 hx h0
  unfold ofA at w e
  refine E_okS fun hok => s_isPlace ?_
  rw [e2]
  refine ⟨fun z => ?_, fun z => ?_⟩
  · have hp : 0 ≤ p ∧ p < t.1 0 0 := isIn_pos z
    rw [if_pos hp] at w e
    have b1 : 0 ≤ p ∧ p < 60 := by omega
    obtain ⟨r1, r2, r3, r4, r5, r6⟩ := hR.2.1 p b1.1 b1.2
    have r4' : w32 (σ0 92 p - 1) = t.1 4 p := by
      have := (ok.1.2.2.1 p b1.1 b1.2).2.2.2
      have h32 := ar32 hok (a := 92) (n := 60) ⟨by decide, by decide, by decide, rfl⟩ b1.1
      have := h32.2
      rw [w32_of (by omega) (by omega)]
      omega
    refine ⟨fun q0 => ⟨fun q1 => ⟨fun q2 => ⟨fun q3 => ⟨fun q4 => ⟨fun q5 => ⟨fun q6 => ⟨fun q7 => ?_, fun q7 => ⟨fun q8 => ⟨fun q9 => ?_, fun q9 => ⟨b1, ?_⟩⟩, fun q8 => ?_⟩⟩, fun q6 => ?_⟩, fun q5 => ?_⟩, fun q4 => ⟨b1, ?_⟩⟩, fun q3 => ⟨b1, ?_⟩⟩, fun q2 => ⟨b1, ?_⟩⟩, fun q1 => ⟨b1, ?_⟩⟩, fun q0 => ⟨b1, ?_⟩⟩
    · rw [if_neg q0, if_neg q1, if_neg q2, if_neg q3, if_neg q4, if_neg q5, if_neg q6, if_pos q7] at w
      rw [q7, show w32 (7 - 6) = 1 from rfl]
      exact s_urgeOf (by decide) hR ok.1 h0.1.2.2.1 ok.2.2.2.1 hp.1 hp.2 fun σ' hy => w σ' (fin σ' hy).1 (fin σ' hy).2
    · rw [if_neg q0, if_neg q1, if_neg q2, if_neg q3, if_neg q4, if_neg q5, if_neg q6, if_neg q7, if_neg q8, if_neg q9] at e
      exact e
    · rw [if_neg q0, if_neg q1, if_neg q2, if_neg q3, if_neg q4, if_neg q5, if_neg q6, if_neg q7, if_neg q8, if_pos q9] at e
      exact r6.symm ▸ e
    · rw [if_neg q0, if_neg q1, if_neg q2, if_neg q3, if_neg q4, if_neg q5, if_neg q6, if_neg q7, if_pos q8] at w
      rw [q8, show w32 (8 - 6) = 2 from rfl]
      exact s_urgeOf (by decide) hR ok.1 h0.1.2.2.2.1 ok.2.2.2.2 hp.1 hp.2 fun σ' hy => w σ' (fin σ' hy).1 (fin σ' hy).2
    · rw [if_neg q0, if_neg q1, if_neg q2, if_neg q3, if_neg q4, if_neg q5, if_pos q6] at w
      exact s_guessOf hR ok.1 h0.1.2.1 ok.2.2.1 hp.1 hp.2 fun σ' hy => w σ' (fin σ' hy).1 (fin σ' hy).2
    · rw [if_neg q0, if_neg q1, if_neg q2, if_neg q3, if_neg q4, if_pos q5] at w
      exact s_goesNow hR ok.1 h0.1.2.1 ok.2.2.1 hp.1 hp.2 fun σ' hy => w σ' (fin σ' hy).1 (fin σ' hy).2
    · rw [if_neg q0, if_neg q1, if_neg q2, if_neg q3, if_pos q4] at e
      exact r5.symm ▸ e
    · rw [if_neg q0, if_neg q1, if_neg q2, if_pos q3] at e
      exact r4'.symm ▸ e
    · rw [if_neg q0, if_neg q1, if_pos q2] at e
      exact r3.symm ▸ e
    · rw [if_neg q0, if_pos q1] at e
      exact r2.symm ▸ e
    · rw [if_pos q0] at e
      exact r1.symm ▸ e
  · have hp : ¬ (0 ≤ p ∧ p < t.1 0 0) := isIn_neg z
    rw [if_neg hp] at e
    exact e
theorem a_seeM {p : Int} (h : ModB t fk fp ln f im σ) (ok : OkT t) (w : ∀ σ', eqd8 σ σ' → ModB (seeN t p) fk fp ln f im σ' → Q (seeA t p) σ') : XX g true (d + 40) P_X12_see 0 [(2, 88), (0, p)] [] 136 σ 136 Q := by
  have k1 := ok.1.1
  have k2 := ok.1.2.1
  obtain ⟨hx, h0⟩ := h.told
  refine B_X12_see_0 ?_
  generalize su σ 88 0 0 = σ0 at *
  have e2 : σ0 88 2 = t.1 0 0 := h0.1.1.1.1.1
  have hR := h0.1.1.1
  unfold seeN seeA at w
  refine s_isPlace ?_
  rw [e2]
  refine ⟨fun z => ?_, fun z => ?_⟩
  · have hp : 0 ≤ p ∧ p < t.1 0 0 := isIn_pos z
    rw [if_pos hp, if_pos hp] at w
    refine ⟨by omega, ?_⟩
    have e12 : σ0 88 12 = t.1 0 2 := hR.1.2.2.1
    rw [e12, (hR.2.1 p hp.1 (by omega)).2.2.1, w32_of (by omega) (by omega)]
    have hy : eqm [92, 93] [] σ0 (su (su σ0 92 p (t.1 0 2 + 1)) 93 p (t.1 3 p)) := (eqm.rf.sa (by decide) (by decide)).sa (by decide) (by decide)
    refine w _ (hx.tr (hy.d8 fun a ha q => by simp only [List.mem_cons, List.not_mem_nil, or_false] at q; omega)) (h0.row hy ⟨(hR.ar (k := 4) (c := 92) (v := t.1 0 2) (v' := t.1 0 2 + 1) (by omega)).ar (k := 5) (c := 93) (v' := t.1 3 p) (by omega), ?_⟩ (fun a ha q => by simp only [List.mem_cons, List.not_mem_nil, or_false] at q; omega) (fun j hj q => by simp at q))
    rw [hy.1 97 (by decide) (by decide)]
    simp [su]
    exact h0.1.1.2
  · have hp : ¬ (0 ≤ p ∧ p < t.1 0 0) := isIn_neg z
    rw [if_neg hp, if_neg hp] at w
    exact w σ0 hx h0
theorem eqd.d8 {σ σ' : PS} (h : eqd σ σ') : eqd8 σ σ' := h.1.d8 fun a ha q => by simp only [dayL, List.mem_cons, List.not_mem_nil, or_false] at q; omega
theorem a_daysM {x : Int} (h : ModB t fk fp ln f im σ) (ok : OkT t) (w : ∀ σ', eqd8 σ σ' → ModB (daysN t x) fk fp ln f im σ' → Q (daysA t x) σ') : XX g true (d + 40) P_X12_days 0 [(2, 88), (0, x), (9, 0), (9, 0)] [] 136 σ 136 Q := by
  have k1 := ok.1.2.1
  have kd := ok.2.1
  obtain ⟨hx, h0⟩ := h.told
  refine B_X12_days_0 ?_
  generalize su σ 88 0 0 = σ0 at *
  have e12 : σ0 88 12 = t.1 0 2 := h0.1.1.1.1.2.2.1
  unfold daysN daysA at w
  have bad : ¬ ((1 ≤ x ∧ x ≤ 99) ∧ t.1 0 2 + x ≤ 9999) → Q (-1) σ0 := fun z => by
    rw [if_neg z, if_neg z] at w
    exact w σ0 hx h0
  refine s_isIn ⟨fun z => bad fun q => isIn_neg z q.1, fun z => ?_⟩
  have c0 := isIn_pos z
  rw [e12, w32_of (by omega) (by omega)]
  refine ⟨fun z2 y3 e3 => ?_, fun z2 => bad (by omega)⟩
  rw [if_pos ⟨c0, z2⟩, if_pos ⟨c0, z2⟩] at w
  rw [h0.1.1.1.1.2.2.2.1] at e3
  have hev : σ0 97 3 = t.1 9 3 := h0.1.1.2
  have hy0 : eqm [] [50, 51] σ0 (su (su σ0 88 50 1) 88 51 (σ0 97 3)) := (eqm.rf.s8 (by decide)).s8 (by decide)
  have f50 : su (su σ0 88 50 1) 88 51 (σ0 97 3) 88 50 = 1 := by rw [su_ne (Or.inr (by decide)), su_eq]
  have f51 : su (su σ0 88 50 1) 88 51 (σ0 97 3) 88 51 = t.1 9 3 := by rw [su_eq]; exact hev
  have h1 : ModB t fk fp ln f im (su (su σ0 88 50 1) 88 51 (σ0 97 3)) := (scr_m h0 hy0 (by decide) (by decide)).2
  have hx1 := hx.tr (scr_m h0 hy0 (by decide) (by decide)).1
  generalize su (su σ0 88 50 1) 88 51 (σ0 97 3) = σ1 at *
  have key : ∀ (n : Nat) (i : Int) (R1 σ2 : PS), 0 ≤ i → i + n = x → eqd σ1 σ2 → RSok R1 → R1 0 2 + n ≤ 20000 → R1 9 3 = t.1 9 3 → RowMx R1 σ2 → daysS t.2.1 t.2.2.1 t.2.2.2.2 n R1 = daysS t.2.1 t.2.2.1 t.2.2.2.2 x.toNat t.1 → XX g true (d + 40) P_X12_days 52 [(2, 88), (0, x), (0, y3), (0, i)] [] 136 σ2 136 Q := by
    intro n
    induction n with
    | zero =>
      intro i R1 σ2 hi hn hxx okk hd h93 hR1 hf
      refine B_X12_days_52 ⟨fun _ => ?_, fun q => by omega⟩
      have e1 : R1 = daysS t.2.1 t.2.2.1 t.2.2.2.2 x.toNat t.1 := hf
      rw [hR1.1.2.2.2.1, e3, e1]
      refine w σ2 (hx1.tr hxx.d8) (h1.row (R' := daysS t.2.1 t.2.2.1 t.2.2.2.2 x.toNat t.1) hxx.1 ⟨by rw [← e1]; exact hR1, ?_⟩ (fun a ha q => by simp only [dayL, List.mem_cons, List.not_mem_nil, or_false] at q; omega) (fun j hj q => by simp only [dayJ, List.mem_cons, List.not_mem_nil, or_false] at q; omega))
      rw [hxx.2, ← e1, h93]
      exact h1.1.1.2
    | succ n ih =>
      intro i R1 σ2 hi hn hxx okk hd h93 hR1 hf
      obtain ⟨b1, b2, b3⟩ := dayS_ok (T := t.2.1) (Tr := t.2.2.1) (W := t.2.2.2.2) okk (by omega)
      refine B_X12_days_52 ⟨fun q => by omega, fun _ => ?_⟩
      refine s_goesByE (k := 1) (by decide) (by rw [hxx.1.2 50 (by decide)]; exact f50) (by rw [hxx.1.2 51 (by decide), h93]; exact f51) hR1 okk (by omega) (h1.1.2.1.m hxx.1) ok.2.2.1 (h1.1.2.2.1.m hxx.1) ok.2.2.2.1 (h1.1.2.2.2.2.m hxx.1) fun σ3 hx3 hR3 => ?_
      rw [w32_of (by omega) (by omega)]
      exact ih (i + 1) _ σ3 (by omega) (by omega) (hxx.tr hx3) b1 (by omega) (by rw [dayS_93]; exact h93) hR3 hf
  exact key x.toNat 0 t.1 σ1 (by omega) (by omega) eqd.rf ok.1 (by omega) rfl h1.1.1.1 rfl
theorem a_chanceM {x : Int} (h : ModB t fk fp ln f im σ) (ok : OkT t) (w : ∀ σ', eqd8 σ σ' → ModB t fk fp ln f im σ' → Q (chanceA t x) σ') : XX g true (d + 40) P_X12_chance 0 [(2, 88), (0, x), (9, 0)] [] 136 σ 136 Q := by
  refine s_chanceM h.1.1.1 ok.1 h.1.2.1 ok.2.2.1 h.1.2.2.2.2 fun σ' hx => ?_
  have := scr_m h hx (by decide) (by decide)
  exact w σ' this.1 this.2
theorem a_holdM {k : Int} (h : ModB t fk fp ln f im σ) (ok : OkT t) (w : ∀ σ', eqd8 σ σ' → ModB t fk fp ln f im σ' → Q (holdA t k) σ') : XX g true (d + 40) P_X12_hold 0 [(2, 88), (0, k), (9, 0), (9, 0), (9, 0), (9, 0), (9, 0)] [] 136 σ 136 Q := by
  have k1 := ok.1.1
  have e0 : σ 88 2 = ((t.1 0 0).toNat : Int) := by rw [h.1.1.1.1.1]; omega
  refine s_holdM h.1.2.2.2.2 e0 (by omega) fun σ' hx => ?_
  have := scr_m h hx (by decide) (by decide)
  exact w σ' this.1 this.2
theorem a_leftM {x : Int} (h : ModB t fk fp ln f im σ) (ok : OkT t) (w : ∀ σ', eqd8 σ σ' → ModB t fk fp ln f im σ' → Q (leftA t.2.1 t.2.2.2.2 t.1 x) σ') : XX g true (d + 40) P_X12_left 0 [(2, 88), (0, x), (9, 0)] [] 136 σ 136 Q := by
  refine s_leftM h.1.1.1 ok.1 h.1.2.1 ok.2.2.1 h.1.2.2.2.2 fun σ' hx => ?_
  have := scr_m h hx (by decide) (by decide)
  exact w σ' this.1 this.2
theorem a_aheadM {wh x : Int} (h : ModB t fk fp ln f im σ) (ok : OkT t) (w : ∀ σ', eqd8 σ σ' → ModB t fk fp ln f im σ' → Q (aheadA t.2.1 t.2.2.2.2 t.1 wh x) σ') : XX g true (d + 40) P_X12_ahead 0 [(2, 88), (0, wh), (0, x), (9, 0), (9, 0)] [] 136 σ 136 Q := by
  refine s_aheadM h.1.1.1 ok.1 h.1.2.1 ok.2.2.1 h.1.2.2.2.2 fun σ' hx => ?_
  have := scr_m h hx (by decide) (by decide)
  exact w σ' this.1 this.2
theorem a_stocksM {s wh : Int} (h : ModB t fk fp ln f im σ) (ok : OkT t) (w : ∀ σ', eqd8 σ σ' → ModB t fk fp ln f im σ' → Q (stocksA t.1 s wh) σ') : XX g true (d + 40) P_X12_stocks 0 [(2, 88), (0, s), (0, wh), (9, 0), (9, 0), (9, 0), (9, 0), (9, 0), (9, 0)] [] 136 σ 136 Q := by
  refine s_stocksM h.1.1 ok.1 fun σ' hx => ?_
  have := scr_m h hx (by decide) (by decide)
  exact w σ' this.1 this.2
theorem a_nineM {m : Int} (h : ModB t fk fp ln f im σ) (ok : OkT t) (w : ∀ σ', eqd8 σ σ' → ModB t fk fp ln f im σ' → Q (nineA t.2.1 t.2.2.2.2 t.1 m) σ') : XX g true (d + 40) P_X12_nine 0 [(2, 88), (0, m), (9, 0), (9, 0), (9, 0), (9, 0), (9, 0)] [] 136 σ 136 Q := by
  refine s_nineM h.1.1.1 ok.1 h.1.2.1 ok.2.2.1 h.1.2.2.2.2 fun σ' hx => ?_
  have := scr_m h hx (by decide) (by decide)
  exact w σ' this.1 this.2
theorem scr_r {L J : List Int} {σ' : PS} (h : ModB t fk fp ln f im σ) (hx : eqm L J σ σ') (hR : RowM t.1 σ') (hL : ∀ a ∈ L, (89 ≤ a ∧ a ≤ 97) ∨ a = 106 ∨ (111 ≤ a ∧ a < 134)) (hJ : ∀ j ∈ J, j ≤ 17 ∨ (50 ≤ j ∧ j < 75)) : eqd8 σ σ' ∧ ModB t fk fp ln f im σ' :=
  ⟨hx.d8 fun a ha z => by have := hL a z; omega, h.row hx hR (fun a ha z => by have := hL a z; omega) fun j hj z => by have := hJ j z; omega⟩
theorem a_whichM {k : Int} (h : ModB t fk fp ln f im σ) (ok : OkT t) (w : ∀ σ', eqd8 σ σ' → ModB t fk fp ln f im σ' → Q (whichA t.2.1 t.2.2.2.2 t.1 k) σ') : XX g true (d + 40) P_X12_which 0 [(2, 88), (0, k), (9, 0), (9, 0), (9, 0), (9, 0), (9, 0), (9, 0)] [] 136 σ 136 Q := by
  refine s_whichM h.1.1.1 ok.1 h.1.2.1 ok.2.2.1 h.1.2.2.2.2 fun σ' hx hR => ?_
  have := scr_r h hx ⟨hR, by rw [hx.1 97 (by decide) (by decide)]; exact h.1.1.2⟩ (by decide) (by decide)
  exact w σ' this.1 this.2
theorem a_whereM {p : Int} (h : ModB t fk fp ln f im σ) (ok : OkT t) (w : ∀ σ', eqd8 σ σ' → ModB t fk fp ln f im σ' → Q (whereA t.2.1 t.2.2.2.2 t.1 p) σ') : XX g true (d + 40) P_X12_where 0 [(2, 88), (0, p), (9, 0), (9, 0), (9, 0), (9, 0), (9, 0), (9, 0), (9, 0)] [] 136 σ 136 Q := by
  refine s_whereM h.1.1.1 ok.1 h.1.2.1 ok.2.2.1 h.1.2.2.2.2 fun σ' hx hR => ?_
  have := scr_r h hx ⟨hR, by rw [hx.1 97 (by decide) (by decide)]; exact h.1.1.2⟩ (by decide) (by decide)
  exact w σ' this.1 this.2
theorem a_thoughtM {k v x wh : Int} (h : ModB t fk fp ln f im σ) (ok : OkT t) (w : ∀ σ', eqd8 σ σ' → ModB t fk fp ln f im σ' → Q (thoughtA t.2.1 t.2.2.1 t.2.2.2.1 t.2.2.2.2 t.1 k v x wh) σ') : XX g true (d + 40) P_X12_thought 0 [(2, 88), (0, k), (0, v), (0, x), (0, wh)] [] 136 σ 136 Q := by
  refine s_thoughtM h.1.1 ok.1 ok.2.1 h.1.2.1 ok.2.2.1 h.1.2.2.1 ok.2.2.2.1 h.1.2.2.2.1 ok.2.2.2.2 h.1.2.2.2.2 fun σ' hx hR => ?_
  have := scr_r h hx hR (by decide) (by decide)
  exact w σ' this.1 this.2
theorem a_oftenM {x wh : Int} (h : ModB t fk fp ln f im σ) (ok : OkT t) (w : ∀ σ', eqd8 σ σ' → ModB t fk fp ln f im σ' → Q (oftenA t.2.1 t.2.2.1 t.2.2.2.1 t.2.2.2.2 t.1 x wh) σ') : XX g true (d + 40) P_X12_often 0 [(2, 88), (0, x), (0, wh), (9, 0), (9, 0), (9, 0)] [] 136 σ 136 Q := by
  refine s_oftenM h.1.1 ok.1 ok.2.1 h.1.2.1 ok.2.2.1 h.1.2.2.1 ok.2.2.2.1 h.1.2.2.2.1 ok.2.2.2.2 h.1.2.2.2.2 fun σ' hx hR => ?_
  have := scr_r h hx hR (by decide) (by decide)
  exact w σ' this.1 this.2
end PCALLSM
