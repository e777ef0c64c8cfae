/-! WHERE THE GOOD WOOD SHOULD LIE: what is asked of the class -/
section PWHEREC
variable {g : PG} {d : Nat} {Q : Int → PS → Prop}
theorem ordC_ok {R : PS} {f : Int → Int} (ok : RSok R) (h05 : ∀ p : Int, 0 ≤ p → p < R 0 0 → 0 ≤ f p ∧ f p ≤ 5) : RSok (ordC R f) := by
  obtain ⟨k1, k2, k3, k4, k5, k6, k7, k8⟩ := ok
  have e : ∀ g p, g ≠ 1 → g ≠ 2 → g ≠ 3 → ordC R f g p = R g p := fun g p a b c => by unfold ordC; rw [if_neg (fun z => a z.1), if_neg (fun z => z.elim b c)]
  have e3 : ∀ p, ordC R f 3 p = 0 := fun p => by unfold ordC; rw [if_neg (by omega), if_pos (Or.inr rfl)]
  refine ⟨by rw [e 0 0 (by decide) (by decide) (by decide)]; exact k1, by rw [e 0 2 (by decide) (by decide) (by decide)]; exact k2, fun p h0 h1 => ?_, fun p _ _ => e3 p, by rw [e 9 1 (by decide) (by decide) (by decide)]; exact k5, by rw [e 9 3 (by decide) (by decide) (by decide)]; exact k6, by rw [e 9 6 (by decide) (by decide) (by decide)]; exact k7, by rw [e 9 7 (by decide) (by decide) (by decide)]; exact k8⟩
  obtain ⟨m1, m2, m3, m4⟩ := k3 p h0 h1
  rw [e3, e 5 p (by decide) (by decide) (by decide), e 4 p (by decide) (by decide) (by decide)]
  refine ⟨?_, Or.inl rfl, m3, m4⟩
  unfold ordC
  by_cases h : p < R 0 0
  · rw [if_pos ⟨rfl, h0, h⟩]; exact h05 p h0 h
  · rw [if_neg (fun z => h z.2.2), if_neg (by omega)]; exact m1
theorem swF_05 {n : Nat} {f : Int → Int} {i j : Int} (h : ∀ p : Int, 0 ≤ p → p < n → 0 ≤ f p ∧ f p ≤ 5) (hi : 0 ≤ i ∧ i < n) (hj : 0 ≤ j ∧ j < n) : ∀ p : Int, 0 ≤ p → p < n → 0 ≤ swF f i j p ∧ swF f i j p ≤ 5 := by
  intro p p0 p1
  have hi2 := h i hi.1 hi.2
  have hj2 := h j hj.1 hj.2
  have hp := h p p0 p1
  unfold swF updF
  split
  · exact hi2
  · split
    · exact hj2
    · exact hp
theorem revR_05 {n : Nat} : ∀ (m : Nat) (lo hi : Int) (f : Int → Int), (∀ p : Int, 0 ≤ p → p < n → 0 ≤ f p ∧ f p ≤ 5) → 0 ≤ lo → hi < n → ∀ p : Int, 0 ≤ p → p < n → 0 ≤ revR m lo hi f p ∧ revR m lo hi f p ≤ 5 := by
  intro m
  induction m with
  | zero => intro lo hi f h _ _; exact h
  | succ m ih =>
    intro lo hi f h h0 h1
    rw [revR_succ]
    split
    · exact ih _ _ _ (swF_05 h (by omega) (by omega)) (by omega) (by omega)
    · exact h
theorem nexO_05 {n : Nat} {f : Int → Int} (hp : 0 ≤ pivO n f) (h : ∀ p : Int, 0 ≤ p → p < n → 0 ≤ f p ∧ f p ≤ 5) : ∀ p : Int, 0 ≤ p → p < n → 0 ≤ nexO n f p ∧ nexO n f p ≤ 5 := by
  obtain ⟨i, hi⟩ : ∃ i, pivO n f = i := ⟨_, rfl⟩
  have h1 := pivR_lt (f := f) (m := n) (i := (n : Int) - 2) (by omega) hp
  have e : pivR f n ((n : Int) - 2) = i := hi
  rw [e] at h1
  rw [hi] at hp
  obtain ⟨j, hj⟩ : ∃ j, hiR f i n ((n : Int) - 1) = j := ⟨_, rfl⟩
  have h2 := hiR_gt h1.2 (m := n) (j := (n : Int) - 1) (by omega) (by omega)
  rw [hj] at h2
  unfold nexO
  rw [hi, hj]
  exact revR_05 _ _ _ _ (swF_05 h (by omega) (by omega)) (by omega) (by omega)
theorem srtS_05 (f : Int → Int) (n : Nat) (p : Int) : 0 ≤ srtS f n p ∧ srtS f n p ≤ 5 := by
  unfold srtS
  split <;> split <;> split <;> split <;> split <;> omega
theorem s_bestOrder {p : Int} {E : Int → Int} {R T T1 T2 σ : PS} (hR : RowC 43 R σ) (ok : RSok R) (hA : TxtA 13 T T1 T2 E σ) (okT : TxtOK oknL T) (hO : OddAt σ) (hH : HoldAt σ) (hp : 0 ≤ p ∧ p < R 0 0) (hn7 : R 0 0 ≤ 7) (w : ∀ σ', eqx (rowL 59 ++ [68, 69, 70, 71, 72, 73, 87]) σ σ' → OddAt σ' → HoldAt σ' → Q (whR2 (ordV T E R) (R 0 0).toNat 5040 (srtS (R 1) (R 0 0).toNat) 1000000000001 (fun _ => 0) p) σ') : XX g true (d + 5) P_X10_bestOrder 0 [(2, 86), (0, p), (2, 43), (2, 59), (2, 13), (9, 0), (9, 0), (9, 0), (9, 0), (9, 0)] [] 136 σ 136 Q := by
  have k1 := ok.1
  have hn : R 0 0 = ((R 0 0).toNat : Int) := by omega
  have mr : ∀ {σ1 σ2 : PS}, eqx (rowL 59) σ1 σ2 → eqx (rowL 59 ++ [68, 69, 70, 71, 72, 73, 87]) σ1 σ2 := fun h => h.mono fun a ha => List.mem_append_left _ ha
  have ms : ∀ {σ1 σ2 : PS} {a : Int}, eqx [a] σ1 σ2 → 59 ≤ a → a ≤ 66 → eqx (rowL 59 ++ [68, 69, 70, 71, 72, 73, 87]) σ1 σ2 := fun h h1 h2 => h.mono fun b hb => List.mem_append_left _ (by rw [List.mem_singleton.mp hb]; exact mem_rowL.mpr (by omega))
  have mo : ∀ {σ1 σ2 : PS}, eqx [68, 69, 70, 71, 72, 73] σ1 σ2 → eqx (rowL 59 ++ [68, 69, 70, 71, 72, 73, 87]) σ1 σ2 := fun h => h.mono fun a ha => List.mem_append_right _ (by simp only [List.mem_cons, List.not_mem_nil, or_false] at ha ⊢; omega)
  have out : ∀ a : Int, a < 59 → a ∉ rowL 59 ++ [68, 69, 70, 71, 72, 73, 87] := fun a ha z => by
    rcases List.mem_append.mp z with z | z
    · have := mem_rowL.mp z; omega
    · simp only [List.mem_cons, List.not_mem_nil, or_false] at z; omega
  have odd : ∀ {σ1 σ2 : PS}, (∀ j, σ2 70 j = σ1 70 j) → OddAt σ1 → HoldAt σ1 → OddAt σ2 ∧ HoldAt σ2 := fun e a b => by
    unfold OddAt HoldAt at *
    rw [e, e, e, e]
    exact ⟨a, b⟩
  -- a row with its sorts in order
  have reord : ∀ {f f' : Int → Int} {σ1 σ2 : PS}, RowC 59 (ordC R f) σ1 → eqx [60] σ1 σ2 → agO (R 0 0).toNat f' σ2 60 → (∀ q : Int, ((R 0 0).toNat : Int) ≤ q → σ2 60 q = σ1 60 q) → RowC 59 (ordC R f') σ2 := by
    intro f f' σ1 σ2 h hx ha ho
    obtain ⟨a1, a2, a3, a4, a5, a6⟩ := h
    have e : ∀ g q, g ≠ 1 → ordC R f' g q = ordC R f g q := fun g q z => by
      have z1 : ¬ (g = 1 ∧ 0 ≤ q ∧ q < R 0 0) := fun y => z y.1
      unfold ordC
      simp only [z1, if_false]
    have o : ∀ a, a ≠ 60 → ∀ j, σ2 a j = σ1 a j := fun a ha j => hx a (by simpa using ha) j
    refine ⟨?_, fun q q0 q1 => ?_, ?_, ?_, fun k k0 k1 => ?_, fun k k0 k1 => ?_⟩
    · simp only [o 59 (by decide), e 0 _ (show (0 : Int) ≠ 1 by decide)]; exact a1
    · obtain ⟨b1, b2, b3, b4⟩ := a2 q q0 q1
      refine ⟨?_, ?_, ?_, ?_⟩
      · show σ2 60 q = _
        by_cases hq : q < R 0 0
        · rw [ha q q0 (by omega)]
          unfold ordC
          rw [if_pos ⟨rfl, q0, hq⟩]
        · rw [ho q (by omega)]
          have b1' : σ1 60 q = ordC R f 1 q := b1
          rw [b1']
          unfold ordC
          simp only [hq, and_false, if_false]
      · rw [o (59 + 2) (by decide), e 2 q (by decide)]; exact b2
      · rw [o (59 + 3) (by decide), e 4 q (by decide)]; exact b3
      · rw [o (59 + 4) (by decide), e 6 q (by decide)]; exact b4
    · rw [o 59 (by decide)]; exact a3.congr fun q _ _ => e 3 q (by decide)
    · rw [o 59 (by decide)]; exact a4.congr fun q _ _ => e 5 q (by decide)
    · rw [o (59 + 5) (by decide), o (59 + 6) (by decide), e 7 k (by decide), e 8 k (by decide)]; exact a5 k k0 k1
    · rw [o (59 + 7) (by decide), e 9 k (by decide)]; exact a6 k k0 k1
  have agrow : ∀ {f : Int → Int} {σ1 : PS}, RowC 59 (ordC R f) σ1 → agO (R 0 0).toNat f σ1 60 := by
    intro f σ1 h q q0 q1
    have h1 : σ1 60 q = ordC R f 1 q := (h.2.1 q q0 (by omega)).1
    rw [h1]
    unfold ordC
    rw [if_pos ⟨rfl, q0, by omega⟩]
  have key : ∀ (m : Nat) (f best : Int → Int) (least : Int) (σ1 : PS), m ≤ 5040 → eqx (rowL 59 ++ [68, 69, 70, 71, 72, 73, 87]) σ σ1 → OddAt σ1 → HoldAt σ1 → RowC 59 (ordC R f) σ1 → (∀ q : Int, 0 ≤ q → q < R 0 0 → 0 ≤ f q ∧ f q ≤ 5) → agO (R 0 0).toNat best σ1 87 ∨ (m = 5040 ∧ least = 1000000000001) → (m = 5040 → least = 1000000000001) → whR2 (ordV T E R) (R 0 0).toNat m f least best p = whR2 (ordV T E R) (R 0 0).toNat 5040 (srtS (R 1) (R 0 0).toNat) 1000000000001 (fun _ => 0) p → XX g true (d + 5) P_X10_bestOrder 37 [(2, 86), (0, p), (2, 43), (2, 59), (2, 13), (1, least), (9, 0), (0, 5040 - (m : Int)), (9, 0), (9, 0)] [] 136 σ1 136 Q := by
    intro m
    induction m with
    | zero =>
      intro f best least σ1 hm hx hO1 hH1 hR1 h05 hbest hfirst hfin
      refine B_X10_bestOrder_37 (Or.inl rfl) (Or.inr (Or.inr rfl)) (Or.inl rfl) ⟨fun _ => ⟨fun h => by omega, fun _ => ⟨by omega, ?_⟩⟩, fun h => by omega⟩
      have hb : agO (R 0 0).toNat best σ1 87 := hbest.elim id fun z => by omega
      rw [hb p hp.1 (by omega)]
      have h8 : best p = _ := hfin
      rw [h8]
      exact w σ1 hx hO1 hH1
    | succ m ih =>
      intro f best least σ1 hm hx hO1 hH1 hR1 h05 hbest hfirst hfin
      have hA1 := hA.x hx fun a a1 a2 => out a (by omega)
      have o0 : σ1 43 0 = R 0 0 := by rw [hx 43 (out 43 (by decide))]; exact hR.1.1
      rw [whR2_succ] at hfin
      refine B_X10_bestOrder_37 (Or.inl rfl) (Or.inr (Or.inr rfl)) (Or.inl rfl) ⟨fun h => by omega, fun _ => ?_⟩
      refine s_ofNow (E := E) (T := T) (Or.inr (Or.inr rfl)) hR1 (ordC_ok ok h05) (Or.inl rfl) hA1.1 okT hA1.2.2.2 hO1 hH1 fun σ2 hx2 hO2 hH2 => ?_
      rw [ordV_C (by omega)]
      have hxx := hx.tr (mo hx2)
      have hR2 : RowC 59 (ordC R f) σ2 := hR1.x hx2 fun a a1 a2 z => by simp only [List.mem_cons, List.not_mem_nil, or_false] at z; omega
      have o02 : σ2 43 0 = R 0 0 := by rw [hxx 43 (out 43 (by decide))]; exact hR.1.1
      have im : imin (R 0 0) 7 = R 0 0 := by unfold imin; split <;> omega
      have ew : w32 (5040 - ((m + 1 : Nat) : Int) + 1) = 5040 - (m : Int) := by rw [w32_of (by omega) (by omega)]; omega
      have hle := ordV_le (T := T) (E := E) (R := R) (f := f)
      -- the next order
      have next : ∀ (least' : Int) (best' : Int → Int) (σ3 : PS), eqx (rowL 59 ++ [68, 69, 70, 71, 72, 73, 87]) σ σ3 → OddAt σ3 → HoldAt σ3 → RowC 59 (ordC R f) σ3 → agO (R 0 0).toNat best' σ3 87 → (if 0 ≤ pivO (R 0 0).toNat f then whR2 (ordV T E R) (R 0 0).toNat m (nexO (R 0 0).toNat f) least' best' p else best' p) = whR2 (ordV T E R) (R 0 0).toNat 5040 (srtS (R 1) (R 0 0).toNat) 1000000000001 (fun _ => 0) p →
          XX g true (d + 4) P_X10_nextOrder 0 [(2, 59 + 1), (0, R 0 0), (9, 0), (9, 0), (9, 0), (9, 0)] [] 136 σ3 136 (fun r5 σ4 => ((r5 ≠ 0 → (XX g true (d + 5) P_X10_bestOrder 37 [(2, 86), (0, p), (2, 43), (2, 59), (2, 13), (1, least'), (9, 0), (0, 5040 - (m : Int)), (9, 0), (9, 0)] [] 136 σ4 136 Q)) ∧ (r5 = 0 → ((7 ≤ p → Q (-1) σ4) ∧ (p < 7 → (0 ≤ p ∧ p < 7) ∧ Q (σ4 87 p) σ4))))) := by
        intro least' best' σ3 hx3 hO3 hH3 hR3 hb3 hf3
        have hno := s_nextOrder (g := g) (d := d + 3) (n := (R 0 0).toNat) (f := f) (σ := σ3) (Q := (fun r5 σ4 => ((r5 ≠ 0 → (XX g true (d + 5) P_X10_bestOrder 37 [(2, 86), (0, p), (2, 43), (2, 59), (2, 13), (1, least'), (9, 0), (0, 5040 - (m : Int)), (9, 0), (9, 0)] [] 136 σ4 136 Q)) ∧ (r5 = 0 → ((7 ≤ p → Q (-1) σ4) ∧ (p < 7 → (0 ≤ p ∧ p < 7) ∧ Q (σ4 87 p) σ4)))))) (by omega) (by omega) (agrow hR3) (fun hpv σ4 hx4 ha4 ho4 => ⟨fun _ => ?_, fun z => by omega⟩) (fun hpv => ⟨fun z => absurd rfl z, fun _ => ⟨fun z => by omega, fun _ => ⟨by omega, ?_⟩⟩⟩)
        · rw [← hn] at hno
          exact hno
        · rw [if_pos hpv] at hf3
          obtain ⟨hO4, hH4⟩ := odd (fun j => hx4 70 (by decide) j) hO3 hH3
          refine ih (nexO (R 0 0).toNat f) best' least' σ4 (by omega) (hx3.tr (ms hx4 (by decide) (by decide))) hO4 hH4 (reord hR3 hx4 ha4 ho4) (fun q q0 q1 => nexO_05 hpv (fun t t0 t1 => h05 t t0 (by omega)) q q0 (by omega)) (Or.inl fun q q0 q1 => ?_) (fun z => by omega) hf3
          rw [hx4 87 (by decide)]
          exact hb3 q q0 q1
        · rw [if_neg hpv] at hf3
          rw [hb3 p hp.1 (by omega), hf3]
          exact w σ3 hx3 hO3 hH3
      rw [ew, o02]
      refine ⟨fun hge => ?_, fun hlt => ?_⟩
      · have hm2 : agO (R 0 0).toNat best σ2 87 := by
          rcases hbest with hb | hb
          · intro q q0 q1
            rw [hx2 87 (by decide)]
            exact hb q q0 q1
          · omega
        rw [if_neg (show ¬ ordV T E R f < least by omega), if_neg (show ¬ ordV T E R f < least by omega)] at hfin
        refine next least best σ2 hxx hO2 hH2 hR2 hm2 ?_
        rw [← hfin]
        split
        · rfl
        · first | rfl | rw [if_neg (by omega)]
      · rw [im]
        have hx3 : eqx (rowL 59 ++ [68, 69, 70, 71, 72, 73, 87]) σ (cpS σ2 (59 + 1) 0 87 0 (R 0 0)) := hxx.cp (List.mem_append_right _ (by decide))
        have o03 : cpS σ2 (59 + 1) 0 87 0 (R 0 0) 43 0 = R 0 0 := by rw [cp_ne (by decide)]; exact o02
        obtain ⟨hO3, hH3⟩ := odd (σ2 := cpS σ2 (59 + 1) 0 87 0 (R 0 0)) (fun j => cp_ne (by decide)) hO2 hH2
        rw [o03]
        rw [if_pos hlt, if_pos hlt] at hfin
        refine ⟨by omega, by omega, next (ordV T E R f) f _ hx3 hO3 hH3 (hR2.same fun a a1 a2 j => cp_ne (by omega)) (fun q q0 q1 => ?_) ?_⟩
        · rw [cp_in q0 (by omega)]
          exact agrow hR2 q q0 q1
        · rw [← hfin]
          split
          · rfl
          · first | rfl | rw [if_pos hlt]
  refine B_X10_bestOrder_0 (Or.inl rfl) (Or.inr (Or.inr rfl)) (Or.inl rfl) (s_copy59_43 hR fun σ1 hx1 hR1 => ?_)
  have hR2 : RowC 59 (fun a j => if a = 3 then 0 else R a j) (su σ1 59 5 0) := hR1.gone (BitsC.zero fun _ _ _ => rfl)
  have hx2 : eqx (rowL 59) σ (su σ1 59 5 0) := hx1.su (mem_rowL.mpr (by decide))
  refine f_fillI (n := 60) ⟨by decide, by decide, by decide, rfl⟩ (by decide) ?_
  have e61 : ∀ a j, a ≠ 61 → flS (su σ1 59 5 0) (59 + 2) 60 0 a j = su σ1 59 5 0 a j := fun a j ha => by unfold flS; rw [if_neg (fun z => ha z.1)]
  have hx3 : eqx (rowL 59) σ (flS (su σ1 59 5 0) (59 + 2) 60 0) := hx2.tr fun a ha j => e61 a j fun z => ha (by rw [z]; exact mem_rowL.mpr (by decide))
  have hR3 : RowC 59 (ordC R (R 1)) (flS (su σ1 59 5 0) (59 + 2) 60 0) := by
    obtain ⟨a1, a2, a3, a4, a5, a6⟩ := hR2
    have e : ∀ g q, g ≠ 2 → ordC R (R 1) g q = if g = 3 then 0 else R g q := fun g q z => by
      unfold ordC
      by_cases h1 : g = 1
      · subst h1
        rw [if_neg (show ¬ (1 : Int) = 3 by decide)]
        split
        · rfl
        · first | rfl | rw [if_neg (by omega)]
      · rw [if_neg (fun y => h1 y.1)]
        by_cases h3 : g = 3
        · rw [if_pos (Or.inr h3), if_pos h3]
        · rw [if_neg (fun y => y.elim z h3), if_neg h3]
    have e2 : ∀ q, ordC R (R 1) 2 q = 0 := fun q => by unfold ordC; rw [if_neg (by omega), if_pos (Or.inl rfl)]
    refine ⟨?_, fun q q0 q1 => ?_, ?_, ?_, fun k k0 k1 => ?_, fun k k0 k1 => ?_⟩
    · simp only [e61 59 _ (show (59 : Int) ≠ 61 by decide), e 0 _ (show (0 : Int) ≠ 2 by decide)]; exact a1
    · obtain ⟨b1, b2, b3, b4⟩ := a2 q q0 q1
      rw [e61 (59 + 1) q (by decide), e61 (59 + 3) q (by decide), e61 (59 + 4) q (by decide), e2, e 1 q (by decide), e 4 q (by decide), e 6 q (by decide)]
      refine ⟨b1, ?_, b3, b4⟩
      unfold flS
      rw [if_pos ⟨rfl, q0, by omega⟩]
    · rw [e61 59 5 (by decide)]; exact a3.congr fun q _ _ => e 3 q (by decide)
    · rw [e61 59 6 (by decide)]; exact a4.congr fun q _ _ => e 5 q (by decide)
    · rw [e61 (59 + 5) k (by decide), e61 (59 + 6) k (by decide), e 7 k (by decide), e 8 k (by decide)]; exact a5 k k0 k1
    · rw [e61 (59 + 7) k (by decide), e 9 k (by decide)]; exact a6 k k0 k1
  have o0 : flS (su σ1 59 5 0) (59 + 2) 60 0 43 0 = R 0 0 := by rw [hx3 43 (fun z => by have := mem_rowL.mp z; omega)]; exact hR.1.1
  rw [o0]
  have h15 : ∀ q : Int, 0 ≤ q → q < R 0 0 → 0 ≤ R 1 q ∧ R 1 q ≤ 5 := fun q q0 q1 => (ok.2.2.1 q q0 (by omega)).1
  obtain ⟨hO3, hH3⟩ := odd (σ2 := flS (su σ1 59 5 0) (59 + 2) 60 0) (fun j => hx3 70 (fun z => by have := mem_rowL.mp z; omega) j) hO hH
  generalize flS (su σ1 59 5 0) (59 + 2) 60 0 = σ3 at *
  have hso := s_sortUp (g := g) (d := d + 3) (n := (R 0 0).toNat) (f := R 1) (σ := σ3) (Q := fun _ σ5 => (XX g true (d + 5) P_X10_bestOrder 37 [(2, 86), (0, p), (2, 43), (2, 59), (2, 13), (1, 1000000000001), (9, 0), (0, 0), (9, 0), (9, 0)] [] 136 σ5 136 Q)) (by omega) (agrow hR3) (fun q q0 q1 => h15 q q0 (by omega)) fun σ4 hx4 ha4 ho4 => ?_
  · rw [← hn] at hso
    exact hso
  · obtain ⟨hO4, hH4⟩ := odd (fun j => hx4 70 (by decide) j) hO3 hH3
    exact key 5040 (srtS (R 1) (R 0 0).toNat) (fun _ => 0) 1000000000001 σ4 (by omega) ((mr hx3).tr (ms hx4 (by decide) (by decide))) hO4 hH4 (reord hR3 hx4 ha4 ho4) (fun q _ _ => srtS_05 _ _ q) (Or.inr ⟨rfl, rfl⟩) (fun _ => rfl) rfl
theorem s_whereC {p : Int} {E : Int → Int} {R T T1 T2 σ : PS} (hR : RowC 43 R σ) (ok : RSok R) (hA : TxtA 13 T T1 T2 E σ) (okT : TxtOK oknL T) (hO : OddAt σ) (hH : HoldAt σ) (w : ∀ σ', eqx (rowL 59 ++ [68, 69, 70, 71, 72, 73, 87]) σ σ' → OddAt σ' → HoldAt σ' → Q (whereA T E R p) σ') : XX g true (d + 6) P_X11_where 0 [(2, 0), (0, p)] [] 136 σ 136 Q := by
  refine B_X11_where_0 (s_has (Or.inl rfl) ?_)
  rw [hR.1.1]
  unfold whereA at w
  by_cases hp : 0 ≤ p ∧ p < R 0 0
  · rw [if_pos hp] at w ⊢
    refine ⟨fun z => by omega, fun _ => ⟨fun h => ?_, fun h => ?_⟩⟩
    · rw [if_neg (by omega)] at w
      exact s_bestOrder hR ok hA okT hO hH hp h w
    · rw [if_pos h] at w
      exact w σ eqx.rf hO hH
  · rw [if_neg hp] at w ⊢
    simp only [ite_self] at w
    exact ⟨fun _ => w σ eqx.rf hO hH, fun z => absurd rfl z⟩
end PWHEREC
