/-! WHAT FAILS, told: the class, line by line -/
section PRBRK
variable {g : PG} {d : Nat} {f : Int → Int} {ln : Int} {cnt : Nat} {σ0 σ : PS} {Q : Int → PS → Prop} {E : Int → Int}
theorem b_side (hB : TokC f ln cnt σ0) {c : Nat} (h : BS σ0 c E σ) (hc : c ≤ cnt) (w1 : (pNum (kdP f ln) (nmP f ln) 1 c).1 = 0 → ∀ σ', BS σ0 (c + 1) (addS E (2, nmP f ln c, 0, [])) σ' → Q 1 σ') (w0 : (pNum (kdP f ln) (nmP f ln) 1 c).1 ≠ 0 → ∀ σ', FltB f ln σ0 (pNum (kdP f ln) (nmP f ln) 1 c).1 (pNum (kdP f ln) (nmP f ln) 1 c).2 σ' → Q 0 σ') : XX g true (d + 2) P_X6_readSide 0 [(2, 6), (9, 0)] [] 136 σ 136 Q := by
  refine B_X6_readSide_0 (b_number hB h hc (b_passNumber hB h hc (fun e σ1 h1 => ⟨fun _ => ?_, fun z => absurd z (by decide)⟩) fun e σ1 h1 => ⟨fun z => absurd rfl z, fun _ => w0 e σ1 h1⟩))
  obtain ⟨n1, n2, n3, n4⟩ := pNum_ok e
  refine s_addAny ⟨n2, Int.le_refl _, n3⟩ h1.2.2 fun σ2 hx2 hE2 => w1 e σ2 (h1.tab hx2 fun k hk => ?_)
  rw [hE2 k hk]
  unfold addS
  rw [if_neg (show ¬ (2 : Int) = 5 by decide), if_pos rfl, Int.toNat_natCast]
theorem b_any (hB : TokC f ln cnt σ0) {c : Nat} (h : BS σ0 c E σ) (hc : c ≤ cnt)
    (w1 : (pNum (kdP f ln) (nmP f ln) 1 c).1 = 0 → kdP f ln (c + 1) = 276 → (pNum (kdP f ln) (nmP f ln) (nmP f ln c) (c + 2)).1 = 0 → ∀ σ', BS σ0 (c + 3) (addS E (3, nmP f ln c, nmP f ln (c + 2), [])) σ' → Q 1 σ')
    (w0 : (pNum (kdP f ln) (nmP f ln) 1 c).1 ≠ 0 → ∀ σ', FltB f ln σ0 (pNum (kdP f ln) (nmP f ln) 1 c).1 (pNum (kdP f ln) (nmP f ln) 1 c).2 σ' → Q 0 σ')
    (wi : (pNum (kdP f ln) (nmP f ln) 1 c).1 = 0 → kdP f ln (c + 1) ≠ 276 → ∀ σ', FltB f ln σ0 1 (c + 1) σ' → Q 0 σ')
    (w2 : (pNum (kdP f ln) (nmP f ln) 1 c).1 = 0 → kdP f ln (c + 1) = 276 → (pNum (kdP f ln) (nmP f ln) (nmP f ln c) (c + 2)).1 ≠ 0 → ∀ σ', FltB f ln σ0 (pNum (kdP f ln) (nmP f ln) (nmP f ln c) (c + 2)).1 (pNum (kdP f ln) (nmP f ln) (nmP f ln c) (c + 2)).2 σ' → Q 0 σ') : XX g true (d + 2) P_X6_readAny 0 [(2, 6), (9, 0), (9, 0)] [] 136 σ 136 Q := by
  refine B_X6_readAny_0 (b_number hB h hc (b_passNumber hB h hc (fun e σ1 h1 => ⟨fun z => absurd z (by decide), fun _ => ?_⟩) fun e σ1 h1 => ⟨fun _ => w0 e σ1 h1, fun z => absurd rfl z⟩))
  obtain ⟨n1, n2, n3, n4⟩ := pNum_ok e
  have hlt := tokEnd hB c hc (by omega)
  refine b_pass hB (by decide) h1 (by omega) (fun e2 σ2 h2 => ⟨fun _ => ?_, fun z => absurd z (by decide)⟩) fun e2 σ2 h2 => ⟨fun z => absurd rfl z, fun _ => wi e e2 σ2 h2⟩
  have hlt2 := tokEnd hB (c + 1) (by omega) (by omega)
  refine b_number hB h2 (by omega) (b_passNumber hB h2 (by omega) (fun e3 σ3 h3 => ⟨fun _ => ?_, fun z => absurd z (by decide)⟩) fun e3 σ3 h3 => ⟨fun z => absurd rfl z, fun _ => w2 e e2 e3 σ3 h3⟩)
  obtain ⟨m1, m2, m3, m4⟩ := pNum_ok e3
  refine s_addAny ⟨n2, m2, m3⟩ h3.2.2 fun σ4 hx4 hE4 => w1 e e2 e3 σ4 (h3.tab hx4 fun k hk => ?_)
  rw [hE4 k hk]
  unfold addS
  rw [if_neg (show ¬ (3 : Int) = 5 by decide), if_neg (show ¬ (3 : Int) = 2 by decide), Int.toNat_natCast]
theorem b_readBreak (hB : TokC f ln cnt σ0) {c n : Nat} (h : BS σ0 c E σ) (hc : c ≤ cnt) (hK : kdP f ln c ≠ 0)
    (wg : ¬ isBrk (kdP f ln c) = true → ∀ σ', FltB f ln σ0 1 c σ' → Q 0 σ') (wm : isBrk (kdP f ln c) = true → 8 ≤ n → ∀ σ', FltB f ln σ0 3 c σ' → Q 0 σ')
    (wb : isBrk (kdP f ln c) = true → n < 8 → (pBrk (kdP f ln) (nmP f ln) c).1 ≠ 0 → ∀ σ', FltB f ln σ0 (pBrk (kdP f ln) (nmP f ln) c).1 (pBrk (kdP f ln) (nmP f ln) c).2.1 σ' → Q 0 σ')
    (we : isBrk (kdP f ln c) = true → n < 8 → (pBrk (kdP f ln) (nmP f ln) c).1 = 0 → kdP f ln (pBrk (kdP f ln) (nmP f ln) c).2.1 ≠ 59 → ∀ σ', FltB f ln σ0 1 (pBrk (kdP f ln) (nmP f ln) c).2.1 σ' → Q 0 σ')
    (wk : isBrk (kdP f ln c) = true → n < 8 → (pBrk (kdP f ln) (nmP f ln) c).1 = 0 → kdP f ln (pBrk (kdP f ln) (nmP f ln) c).2.1 = 59 → ∀ σ', BS σ0 ((pBrk (kdP f ln) (nmP f ln) c).2.1 + 1) (addS E (pBrk (kdP f ln) (nmP f ln) c).2.2) σ' → Q 1 σ') :
    XX g true (d + 3) P_X6_readBreak 0 [(2, 6), (0, (n : Int)), (9, 0)] [] 136 σ 136 Q := by
  have hlt := tokEnd hB c hc hK
  -- the end of a line
  have fin : isBrk (kdP f ln c) = true → n < 8 → (pBrk (kdP f ln) (nmP f ln) c).1 = 0 → ∀ σ9, BS σ0 (pBrk (kdP f ln) (nmP f ln) c).2.1 (addS E (pBrk (kdP f ln) (nmP f ln) c).2.2) σ9 → XX g true (d + 2) P_X6_pass 0 [(2, 6), (0, 59)] [] 136 σ9 136 (fun r12 σ11 => ((r12 = 0 → Q 0 σ11) ∧ (r12 ≠ 0 → Q 1 σ11))) := fun hb hn e σ9 h9 => b_pass hB (by decide) h9 (pBrk_ok (tokEnd hB) hlt hb e).1 (fun q σ' h' => ⟨fun z => absurd z (by decide), fun _ => wk hb hn e q σ' h'⟩) fun q σ' h' => ⟨fun _ => we hb hn e q σ' h', fun z => absurd rfl z⟩
  have side : kdP f ln c = 274 → n < 8 → ∀ σ3, BS σ0 (c + 1) E σ3 → XX g true (d + 2) P_X6_readSide 0 [(2, 6), (9, 0)] [] 136 σ3 136 (fun r10 σ9 => ((r10 = 0 → Q 0 σ9) ∧ (r10 ≠ 0 → XX g true (d + 2) P_X6_pass 0 [(2, 6), (0, 59)] [] 136 σ9 136 (fun r12 σ11 => ((r12 = 0 → Q 0 σ11) ∧ (r12 ≠ 0 → Q 1 σ11)))))) := by
    intro hk hn σ3 h3
    have hb : isBrk (kdP f ln c) = true := isBrk_iff.mpr (Or.inl hk)
    refine b_side hB h3 (by omega) (fun e σ4 h4 => ⟨fun z => absurd z (by decide), fun _ => ?_⟩) fun e σ4 h4 => ⟨fun _ => ?_, fun z => absurd rfl z⟩
    · have ep : pBrk (kdP f ln) (nmP f ln) c = (0, c + 2, (2, nmP f ln (c + 1), 0, [])) := by unfold pBrk; rw [if_neg (by omega), if_neg (fun q => q e), if_pos hk]
      have := fin hb hn (by rw [ep])
      rw [ep] at this
      exact this σ4 h4
    · have ep : pBrk (kdP f ln) (nmP f ln) c = ((pNum (kdP f ln) (nmP f ln) 1 (c + 1)).1, (pNum (kdP f ln) (nmP f ln) 1 (c + 1)).2, (0, 0, 0, [])) := by unfold pBrk; rw [if_neg (by omega), if_pos e]
      have := wb hb hn (by rw [ep]; exact e)
      rw [ep] at this
      exact this σ4 h4
  have any : kdP f ln c = 275 → n < 8 → ∀ σ3, BS σ0 (c + 1) E σ3 → XX g true (d + 2) P_X6_readAny 0 [(2, 6), (9, 0), (9, 0)] [] 136 σ3 136 (fun r10 σ9 => ((r10 = 0 → Q 0 σ9) ∧ (r10 ≠ 0 → XX g true (d + 2) P_X6_pass 0 [(2, 6), (0, 59)] [] 136 σ9 136 (fun r12 σ11 => ((r12 = 0 → Q 0 σ11) ∧ (r12 ≠ 0 → Q 1 σ11)))))) := by
    intro hk hn σ3 h3
    have hb : isBrk (kdP f ln c) = true := isBrk_iff.mpr (Or.inr (Or.inl hk))
    refine b_any hB h3 (by omega) (fun e e2 e3 σ4 h4 => ⟨fun z => absurd z (by decide), fun _ => ?_⟩) (fun e σ4 h4 => ⟨fun _ => ?_, fun z => absurd rfl z⟩) (fun e e2 σ4 h4 => ⟨fun _ => ?_, fun z => absurd rfl z⟩) fun e e2 e3 σ4 h4 => ⟨fun _ => ?_, fun z => absurd rfl z⟩
    · have ep : pBrk (kdP f ln) (nmP f ln) c = (0, c + 4, (3, nmP f ln (c + 1), nmP f ln (c + 3), [])) := by unfold pBrk; rw [if_neg (by omega), if_neg (fun q => q e), if_neg (by omega), if_neg (fun q => q e2), if_neg (fun q => q e3)]
      have := fin hb hn (by rw [ep])
      rw [ep] at this
      exact this σ4 h4
    · have ep : pBrk (kdP f ln) (nmP f ln) c = ((pNum (kdP f ln) (nmP f ln) 1 (c + 1)).1, (pNum (kdP f ln) (nmP f ln) 1 (c + 1)).2, (0, 0, 0, [])) := by unfold pBrk; rw [if_neg (by omega), if_pos e]
      have := wb hb hn (by rw [ep]; exact e)
      rw [ep] at this
      exact this σ4 h4
    · have ep : pBrk (kdP f ln) (nmP f ln) c = (1, c + 2, (0, 0, 0, [])) := by unfold pBrk; rw [if_neg (by omega), if_neg (fun q => q e), if_neg (by omega), if_pos e2]
      have := wb hb hn (by rw [ep]; exact (show ¬ (1 : Int) = 0 by decide))
      rw [ep] at this
      exact this σ4 h4
    · have ep : pBrk (kdP f ln) (nmP f ln) c = ((pNum (kdP f ln) (nmP f ln) (nmP f ln (c + 1)) (c + 3)).1, (pNum (kdP f ln) (nmP f ln) (nmP f ln (c + 1)) (c + 3)).2, (0, 0, 0, [])) := by unfold pBrk; rw [if_neg (by omega), if_neg (fun q => q e), if_neg (by omega), if_neg (fun q => q e2), if_pos e3]
      have := wb hb hn (by rw [ep]; exact e3)
      rw [ep] at this
      exact this σ4 h4
  have shape : kdP f ln c = 277 → n < 8 → ∀ σ3, BS σ0 (c + 1) E σ3 → XX g true (d + 2) P_X6_readShape 0 [(2, 6), (9, 0), (9, 0), (9, 0)] [] 136 σ3 136 (fun r10 σ9 => ((r10 = 0 → Q 0 σ9) ∧ (r10 ≠ 0 → XX g true (d + 2) P_X6_pass 0 [(2, 6), (0, 59)] [] 136 σ9 136 (fun r12 σ11 => ((r12 = 0 → Q 0 σ11) ∧ (r12 ≠ 0 → Q 1 σ11)))))) := by
    intro hk hn σ3 h3
    have hb : isBrk (kdP f ln c) = true := isBrk_iff.mpr (Or.inr (Or.inr hk))
    refine B_X6_readShape_0 (b_shape hB 9 (c + 1) [] σ3 (by decide) (by decide) h3 (by omega) (fun e σ4 h4 => ⟨fun z => absurd z (by decide), fun _ => ?_⟩) fun e σ4 h4 => ⟨fun _ => ?_, fun z => absurd rfl z⟩)
    · have ep : pBrk (kdP f ln) (nmP f ln) c = (0, (pShp (kdP f ln) 9 (c + 1) []).2.1, (5, ((pShp (kdP f ln) 9 (c + 1) []).2.2.length : Int), 0, (pShp (kdP f ln) 9 (c + 1) []).2.2)) := by unfold pBrk; rw [if_pos hk, if_neg (fun q => q e)]
      have := fin hb hn (by rw [ep])
      rw [ep] at this
      exact this σ4 h4
    · have ep : pBrk (kdP f ln) (nmP f ln) c = ((pShp (kdP f ln) 9 (c + 1) []).1, (pShp (kdP f ln) 9 (c + 1) []).2.1, (0, 0, 0, [])) := by unfold pBrk; rw [if_pos hk, if_pos e]
      have := wb hb hn (by rw [ep]; exact e)
      rw [ep] at this
      exact this σ4 h4
  have many : isBrk (kdP f ln c) = true → 8 ≤ (n : Int) → XX g true (d + 2) P_X6_stop 0 [(2, 6), (0, 3)] [] 136 σ 136 (fun r18 σ17 => (r18 = 0 ∨ r18 = 1) ∧ Q r18 σ17) := fun hb hn => b_stop hB h hc fun σ' h' => ⟨Or.inl rfl, wm hb (by omega) σ' h'⟩
  refine B_X6_readBreak_0 (b_kind hB h hc ⟨fun z => ⟨fun z1 => b_next hB h hc hK fun σ3 h3 => ⟨fun _ => ⟨fun q => absurd z q, fun _ => side z (by omega) σ3 h3⟩, fun q => by omega⟩, fun z1 => many (isBrk_iff.mpr (Or.inl z)) z1⟩, fun z => ⟨fun z1 => ⟨fun z2 => b_next hB h hc hK fun σ3 h3 => ⟨fun _ => ⟨fun _ => any z1 (by omega) σ3 h3, fun q => absurd q z⟩, fun q => by omega⟩, fun z2 => many (isBrk_iff.mpr (Or.inr (Or.inl z1))) z2⟩, fun z1 => ⟨fun z2 => ⟨fun z3 => b_next hB h hc hK fun σ3 h3 => ⟨fun q => absurd z2 q, fun _ => shape z2 (by omega) σ3 h3⟩, fun z3 => many (isBrk_iff.mpr (Or.inr (Or.inr z2))) z3⟩, fun z2 => b_stop hB h hc fun σ' h' => ⟨Or.inl rfl, wg (fun q => by have := isBrk_iff.mp q; omega) σ' h'⟩⟩⟩⟩)
theorem b_breaks13 (hB : TokC f ln cnt σ0) : ∀ (m c : Nat) (Fs : List FL) (σ : PS), Fs.length + m = 9 → Fs.length ≤ 8 → BS σ0 c (brkE Fs) σ → c ≤ cnt → ((pBrksR (kdP f ln) (nmP f ln) m c Fs).1 = 0 → ∀ σ', BS σ0 (pBrksR (kdP f ln) (nmP f ln) m c Fs).2.1 (brkE (pBrksR (kdP f ln) (nmP f ln) m c Fs).2.2) σ' → Q (pBrksR (kdP f ln) (nmP f ln) m c Fs).2.2.length σ') → ((pBrksR (kdP f ln) (nmP f ln) m c Fs).1 ≠ 0 → ∀ σ', FltB f ln σ0 (pBrksR (kdP f ln) (nmP f ln) m c Fs).1 (pBrksR (kdP f ln) (nmP f ln) m c Fs).2.1 σ' → Q (-1) σ') → XX g true (d + 4) P_X6_readBreaks 13 [(2, 6), (0, (Fs.length : Int))] [] 136 σ 136 Q := by
  intro m
  induction m with
  | zero => intro c Fs σ hm h8; omega
  | succ m ih =>
    intro c Fs σ hm h8 h hc w1 w0
    rw [pBrksR_succ] at w1 w0
    refine B_X6_readBreaks_13 ⟨fun z => by omega, fun _ => b_kind hB h hc ⟨fun z => ?_, fun z => ?_⟩⟩
    · rw [if_pos z] at w1
      exact w1 rfl σ h
    · rw [if_neg z] at w1 w0
      have hlt := tokEnd hB c hc z
      refine b_readBreak hB h hc z (fun e1 σ1 h1 => ⟨fun q => absurd rfl q, fun _ => ?_⟩) (fun e1 e2 σ1 h1 => ⟨fun q => absurd rfl q, fun _ => ?_⟩) (fun e1 e2 e3 σ1 h1 => ⟨fun q => absurd rfl q, fun _ => ?_⟩) (fun e1 e2 e3 e4 σ1 h1 => ⟨fun q => absurd rfl q, fun _ => ?_⟩) (fun e1 e2 e3 e4 σ1 h1 => ⟨fun _ => ?_, fun q => absurd q (by decide)⟩)
      · rw [if_pos e1] at w0
        exact w0 (show ¬ (1 : Int) = 0 by decide) σ1 h1
      · rw [if_neg (fun q => q e1), if_pos e2] at w0
        exact w0 (show ¬ (3 : Int) = 0 by decide) σ1 h1
      · rw [if_neg (fun q => q e1), if_neg (by omega), if_pos e3] at w0
        exact w0 e3 σ1 h1
      · rw [if_neg (fun q => q e1), if_neg (by omega), if_neg (fun q => q e3), if_pos e4] at w0
        exact w0 (show ¬ (1 : Int) = 0 by decide) σ1 h1
      · rw [if_neg (fun q => q e1), if_neg (by omega), if_neg (fun q => q e3), if_neg (fun q => q e4)] at w1 w0
        have hp := (pBrk_ok (tokEnd hB) hlt e1 e3).1
        have hlt2 := tokEnd hB _ hp (fun q => by rw [q] at e4; exact absurd e4 (by decide))
        have el : (((Fs ++ [(pBrk (kdP f ln) (nmP f ln) c).2.2]).length : Nat) : Int) = (Fs.length : Int) + 1 := by rw [List.length_append, List.length_singleton]; omega
        rw [w32_of (by omega) (by omega), ← el]
        refine ih _ _ σ1 (by rw [List.length_append, List.length_singleton]; omega) (by rw [List.length_append, List.length_singleton]; omega) ?_ (by omega) w1 w0
        rw [brkE_snoc]
        exact h1
theorem s_readBreaksC (hT : TapC ln f σ) (hb : ∀ i, 0 ≤ i → i < ln → 0 ≤ f i ∧ f i ≤ 255) (hl : 0 ≤ ln ∧ ln ≤ 500)
    (w1 : (pFails f ln).1 = 0 → ∀ σ', eqx [1, 3, 4, 5, 6, 12] σ σ' → σ' 6 3 = 0 → σ' 6 4 = -1 → EnC 11 (brkE (pFails f ln).2.2) σ' → Q (pFails f ln).2.2.length σ')
    (w0 : (pFails f ln).1 ≠ 0 → ∀ σ', eqx [1, 3, 4, 5, 6, 12] σ σ' → σ' 6 3 = (pFails f ln).1 → σ' 6 4 = stP f ln (pFails f ln).2.1 → Q (-1) σ') :
    XX g true (d + 9) P_X6_readBreaks 0 [(2, 6), (9, 0)] [] 136 σ 136 Q := by
  refine B_X6_readBreaks_0 (B_X6_begin_0 (s_cutTokens hT hb hl fun cnt σ1 hx h14 h15 hTok => ?_))
  refine B_X1_clear_0 (by unfold BrkAt; omega) (f_fillI (n := 256) ⟨by decide, by decide, by decide, rfl⟩ (by decide) ?_)
  have e1 : eqx [1, 3, 4, 5, 6, 12] σ (flS (su (su σ1 6 3 0) 6 4 (-1)) (11 + 1) 256 9) := (((hx.mono (by decide)).su (by decide)).su (by decide)).fl (by decide)
  have hB : TokC f ln cnt (flS (su (su σ1 6 3 0) 6 4 (-1)) (11 + 1) 256 9) := by
    obtain ⟨a1, a2, a3, a4⟩ := hTok
    refine ⟨a1, a2, a3, fun j hj => ?_⟩
    have := a4 j hj
    simp [flS, su]
    exact this
  have f15 : flS (su (su σ1 6 3 0) 6 4 (-1)) (11 + 1) 256 9 1 5 = ((0 : Nat) : Int) := by simp [flS, su]; exact h15
  have f63 : flS (su (su σ1 6 3 0) 6 4 (-1)) (11 + 1) 256 9 6 3 = 0 := by simp [flS, su]
  have f64 : flS (su (su σ1 6 3 0) 6 4 (-1)) (11 + 1) 256 9 6 4 = -1 := by simp [flS, su]
  have f12 : ∀ k : Nat, k < 256 → flS (su (su σ1 6 3 0) 6 4 (-1)) (11 + 1) 256 9 12 k = brkE [] k := fun k hk => by
    have : (k : Int) < 256 := by omega
    simp [flS, brkE, this]
  generalize flS (su (su σ1 6 3 0) 6 4 (-1)) (11 + 1) 256 9 = σ2 at *
  have h0 : BS σ2 0 (brkE []) σ2 := ⟨eqBk.rf, ⟨f15, rfl, rfl⟩, f12⟩
  have fr : ∀ {σ' : PS}, eqBk σ2 σ' → eqx [1, 3, 4, 5, 6, 12] σ σ' := fun h3 a ha j => by
    simp only [List.mem_cons, List.not_mem_nil, or_false] at ha
    rw [h3 a j (by omega) (by omega) (by omega)]
    exact e1 a (by simp only [List.mem_cons, List.not_mem_nil, or_false]; exact ha) j
  unfold pFails at w1 w0
  refine XX.deep (b_breaks13 (d := d) hB 9 0 [] σ2 (by decide) (by decide) h0 (by omega) (fun e σ3 h3 => ?_) fun e σ3 h3 => ?_) (by omega)
  · exact w1 e σ3 (fr h3.1) (h3.2.1.2.1.trans f63) (h3.2.1.2.2.trans f64) fun k hk => h3.2.2 k hk
  · exact w0 e σ3 (fr h3.1) h3.2.1 h3.2.2
end PRBRK
