/-! THE PARSER, the model: lines -/
def eqX (σ0 σ : PS) : Prop := (∀ a j : Int, a ≠ 88 → ¬ (101 ≤ a ∧ a ≤ 106) → σ a j = σ0 a j) ∧ (∀ j : Int, j < 48 → σ 101 j = σ0 101 j ∧ σ 102 j = σ0 102 j ∧ σ 103 j = σ0 103 j) ∧ (∀ j : Int, j < 1500 → σ 104 j = σ0 104 j ∧ σ 105 j = σ0 105 j) ∧ ∀ j : Int, j ∉ exJ → j ≠ 33 → j ≠ 35 → σ 88 j = σ0 88 j
theorem eqX.rf {σ : PS} : eqX σ σ := ⟨fun _ _ _ _ => rfl, fun _ _ => ⟨rfl, rfl, rfl⟩, fun _ _ => ⟨rfl, rfl⟩, fun _ _ _ _ => rfl⟩
theorem eqX.a {σ σ' σ'' : PS} (h : eqX σ σ') (h2 : eqA σ' σ'') : eqX σ σ'' := by
  obtain ⟨a1, a2, a3, a4⟩ := h
  obtain ⟨b1, b2, b3⟩ := h2
  refine ⟨fun a j h1 h2 => (b1 a j h1 (by omega) (by omega) (by omega)).trans (a1 a j h1 h2), fun j hj => ?_, fun j hj => ⟨(b2 j hj).1.trans (a3 j hj).1, (b2 j hj).2.trans (a3 j hj).2⟩, fun j hj h1 h3 => (b3 j hj h1 h3).trans (a4 j hj h1 h3)⟩
  rw [b1 101 j (by decide) (by decide) (by decide) (by decide), b1 102 j (by decide) (by decide) (by decide) (by decide), b1 103 j (by decide) (by decide) (by decide) (by decide)]
  exact a2 j hj
theorem eqA.of {σ σ' : PS} (h : eqE σ σ') : eqA σ σ' := eqA.rf.e h
theorem eqX.su {σ σ' : PS} {a j v : Int} (h : eqX σ σ') (ha : 101 ≤ a ∧ a ≤ 103) (hj : 48 ≤ j) : eqX σ (su σ' a j v) := by
  obtain ⟨a1, a2, a3, a4⟩ := h
  refine ⟨fun b i h1 h2 => by rw [su_ne (Or.inl (by omega))]; exact a1 b i h1 h2, fun i hi => ?_, fun i hi => ?_, fun i hi h1 h3 => by rw [su_ne (Or.inl (by omega))]; exact a4 i hi h1 h3⟩
  · rw [su_ne (Or.inr (by omega)), su_ne (Or.inr (by omega)), su_ne (Or.inr (by omega))]; exact a2 i hi
  · rw [su_ne (Or.inl (by omega)), su_ne (Or.inl (by omega))]; exact a3 i hi
def MrkM (M : List (Int × Int × Int)) (σ : PS) : Prop := ∀ l : Nat, l < M.length → σ 101 (48 + l) = (M.getD l (0, 0, 0)).1 ∧ σ 102 (48 + l) = (M.getD l (0, 0, 0)).2.1 ∧ σ 103 (48 + l) = (M.getD l (0, 0, 0)).2.2
theorem MrkM.a {M : List (Int × Int × Int)} {σ σ' : PS} (h : MrkM M σ) (hx : eqA σ σ') : MrkM M σ' := fun l hl => by
  rw [hx.1 101 _ (by decide) (by decide) (by decide) (by decide), hx.1 102 _ (by decide) (by decide) (by decide) (by decide), hx.1 103 _ (by decide) (by decide) (by decide) (by decide)]
  exact h l hl
def LnM (f : Int → Int) (ln : Int) (σ0 : PS) (c : Nat) (L : List (Int × Int)) (σ : PS) : Prop := eqX σ0 σ ∧ AtM f ln c σ ∧ CodeM L σ ∧ σ 88 33 = 0
def FltX (f : Int → Int) (ln : Int) (σ0 : PS) (k : Int) (i : Nat) (σ : PS) : Prop := eqX σ0 σ ∧ σ 88 36 = k ∧ σ 88 37 = stP f ln i
section PLINESM
variable {g : PG} {d : Nat} {f : Int → Int} {ln : Int} {cnt : Nat} {lw : Bool} {σ0 σ : PS} {Q : Int → PS → Prop}
theorem BasM.x (h : BasM f ln cnt lw σ0) (hx : eqX σ0 σ) : BasM f ln cnt lw σ := by
  obtain ⟨⟨a1, a2⟩, a3, a4, a5, a6, a7⟩ := h
  refine ⟨⟨by rw [hx.2.2.2 19 (by decide) (by decide) (by decide)]; exact a1, fun i i0 i1 => by rw [hx.1 98 i (by decide) (by decide)]; exact a2 i i0 i1⟩, fun i hi => by rw [hx.1 99 i (by decide) (by decide)]; exact a3 i hi, a4, a5, a6, by rw [hx.2.2.2 31 (by decide) (by decide) (by decide)]; exact a7⟩
theorem LnM.ms {c : Nat} {L : List (Int × Int)} (h : LnM f ln σ0 c L σ) : MS f ln σ c L σ := ⟨eqE.rf, h.2.1, h.2.2.1⟩
theorem LnM.of {c c' : Nat} {L L' : List (Int × Int)} {σ' : PS} (h : LnM f ln σ0 c' L' σ) (hc : MS f ln σ c L σ') : LnM f ln σ0 c L σ' := ⟨h.1.a (eqA.of hc.1), hc.2.1, hc.2.2, (hc.1.2.2 33 (by decide)).trans h.2.2.2⟩
theorem LnM.su {c : Nat} {L : List (Int × Int)} {a j v : Int} (h : LnM f ln σ0 c L σ) (ha : 101 ≤ a ∧ a ≤ 103) (hj : 48 ≤ j) : LnM f ln σ0 c L (su σ a j v) := ⟨h.1.su ha hj, h.2.1.na (by omega), ⟨by rw [su_ne (Or.inl (by omega))]; exact h.2.2.1.1, fun i hi => by rw [su_ne (Or.inl (by omega)), su_ne (Or.inl (by omega))]; exact h.2.2.1.2 i hi⟩, by rw [su_ne (Or.inl (by omega))]; exact h.2.2.2⟩
theorem s_readLineM (hB : BasM f ln cnt lw σ0) {c : Nat} {L : List (Int × Int)} {M : List (Int × Int × Int)} (h : LnM f ln σ0 c L σ) (hM : MrkM M σ) (hc : c ≤ cnt) (hL : L.length ≤ c) (hK : kdP f ln c ≠ 0) (hm16 : M.length < 16)
    (ws : (pSum lw (kdP f ln) (nmP f ln) (c + 1)).1 ≠ 0 → ∀ σ', FltX f ln σ0 (pSum lw (kdP f ln) (nmP f ln) (c + 1)).1 (pSum lw (kdP f ln) (nmP f ln) (c + 1)).2.1 σ' → Q (-1) σ')
    (ww : (pSum lw (kdP f ln) (nmP f ln) (c + 1)).1 = 0 → (pWhen lw (kdP f ln) (nmP f ln) (pSum lw (kdP f ln) (nmP f ln) (c + 1)).2.1).1 ≠ 0 → ∀ σ', FltX f ln σ0 (pWhen lw (kdP f ln) (nmP f ln) (pSum lw (kdP f ln) (nmP f ln) (c + 1)).2.1).1 (pWhen lw (kdP f ln) (nmP f ln) (pSum lw (kdP f ln) (nmP f ln) (c + 1)).2.1).2.1 σ' → Q (-1) σ')
    (we : (pSum lw (kdP f ln) (nmP f ln) (c + 1)).1 = 0 → (pWhen lw (kdP f ln) (nmP f ln) (pSum lw (kdP f ln) (nmP f ln) (c + 1)).2.1).1 = 0 → kdP f ln (pWhen lw (kdP f ln) (nmP f ln) (pSum lw (kdP f ln) (nmP f ln) (c + 1)).2.1).2.1 ≠ 59 → ∀ σ', FltX f ln σ0 1 (pWhen lw (kdP f ln) (nmP f ln) (pSum lw (kdP f ln) (nmP f ln) (c + 1)).2.1).2.1 σ' → Q (-1) σ')
    (wk : (pSum lw (kdP f ln) (nmP f ln) (c + 1)).1 = 0 → (pWhen lw (kdP f ln) (nmP f ln) (pSum lw (kdP f ln) (nmP f ln) (c + 1)).2.1).1 = 0 → kdP f ln (pWhen lw (kdP f ln) (nmP f ln) (pSum lw (kdP f ln) (nmP f ln) (c + 1)).2.1).2.1 = 59 → ∀ σ', LnM f ln σ0 ((pWhen lw (kdP f ln) (nmP f ln) (pSum lw (kdP f ln) (nmP f ln) (c + 1)).2.1).2.1 + 1) (L ++ (pSum lw (kdP f ln) (nmP f ln) (c + 1)).2.2 ++ (pWhen lw (kdP f ln) (nmP f ln) (pSum lw (kdP f ln) (nmP f ln) (c + 1)).2.1).2.2) σ' → MrkM (M ++ [mrk L (pSum lw (kdP f ln) (nmP f ln) (c + 1)).2.2 (pWhen lw (kdP f ln) (nmP f ln) (pSum lw (kdP f ln) (nmP f ln) (c + 1)).2.1).2.2]) σ' → Q 0 σ') :
    XX g true (d + 8) P_X12_readLine 0 [(2, 88), (0, 48 + (M.length : Int))] [] 136 σ 136 Q := by
  have h5 := hB.2.2.2.2.1.2
  have hlt := hB.end_ c hc hK
  have fe : ∀ {σa σb : PS} {k : Int} {i : Nat}, eqX σ0 σa → FltM f ln σa k i σb → FltX f ln σ0 k i σb := fun h1 h2 => ⟨h1.a (eqA.of h2.1), h2.2.1, h2.2.2⟩
  have fa : ∀ {σa σb : PS} {k : Int} {i : Nat}, eqX σ0 σa → FltA f ln σa k i σb → FltX f ln σ0 k i σb := fun h1 h2 => ⟨h1.a h2.1, h2.2.1, h2.2.2⟩
  have w9 : wmap 9 = 258 := rfl
  refine B_X12_readLine_0 (s_readsM (hB.x h.1) h.ms fun σ1 h1 => ⟨by omega, ?_⟩)
  have h1L := h.of h1
  have hM1 := hM.a (eqA.of h1.1)
  rw [h1.2.2.1]
  have h2 : LnM f ln σ0 (c + 1) L (su σ1 101 (48 + (M.length : Int)) (L.length : Int)) := h1L.su (by omega) (by omega)
  have hM2 : MrkM M (su σ1 101 (48 + (M.length : Int)) (L.length : Int)) := fun l hl => by
    rw [su_ne (Or.inr (by omega)), su_ne (Or.inl (by decide)), su_ne (Or.inl (by decide))]
    exact hM1 l hl
  have f1 : su σ1 101 (48 + (M.length : Int)) (L.length : Int) 101 (48 + (M.length : Int)) = L.length := su_eq
  generalize su σ1 101 (48 + (M.length : Int)) (L.length : Int) = σ2 at *
  have g1 := g_sum (lw := lw) (V := nmP f ln) hB.end_ (c := c + 1) (by omega)
  refine s_sumM (hB.x h2.1) h2.ms (by omega) (by omega) ⟨fun e σ4 h4 => ⟨fun _ => ?_, fun z => absurd z (by decide)⟩, fun e σ4 h4 => ⟨fun z => absurd rfl z, fun _ => ws e σ4 (fe h2.1 h4)⟩⟩
  have b1 := bdP hL g1.1 e
  replace ww := ww e
  replace we := we e
  replace wk := wk e
  generalize (pSum lw (kdP f ln) (nmP f ln) (c + 1)).2.1 = j at *
  generalize (pSum lw (kdP f ln) (nmP f ln) (c + 1)).2.2 = S at *
  have h4L := h2.of h4
  have hM4 := hM2.a (eqA.of h4.1)
  have f1' : σ4 101 (48 + (M.length : Int)) = L.length := (h4.1.1 101 _ (by decide) (by decide) (by decide)).trans f1
  rw [h4.2.2.1]
  have h6 : LnM f ln σ0 j (L ++ S) (su σ4 102 (48 + (M.length : Int)) ((L ++ S).length : Int)) := h4L.su (by omega) (by omega)
  have hM6 : MrkM M (su σ4 102 (48 + (M.length : Int)) ((L ++ S).length : Int)) := fun l hl => by
    rw [su_ne (Or.inl (by decide)), su_ne (Or.inr (by omega)), su_ne (Or.inl (by decide))]
    exact hM4 l hl
  have f2 : su σ4 102 (48 + (M.length : Int)) ((L ++ S).length : Int) 101 (48 + (M.length : Int)) = L.length ∧ su σ4 102 (48 + (M.length : Int)) ((L ++ S).length : Int) 102 (48 + (M.length : Int)) = (L ++ S).length := ⟨by rw [su_ne (Or.inl (by decide))]; exact f1', su_eq⟩
  generalize su σ4 102 (48 + (M.length : Int)) ((L ++ S).length : Int) = σ6 at *
  -- the line's end
  have last : ∀ (i : Nat) (W : List (Int × Int)) (σ9 : PS), LnM f ln σ0 i (L ++ S ++ W) σ9 → MrkM M σ9 → σ9 101 (48 + (M.length : Int)) = L.length → σ9 102 (48 + (M.length : Int)) = (L ++ S).length → i ≤ cnt → (kdP f ln i ≠ 59 → ∀ σ', FltX f ln σ0 1 i σ' → Q (-1) σ') → (kdP f ln i = 59 → ∀ σ', LnM f ln σ0 (i + 1) (L ++ S ++ W) σ' → MrkM (M ++ [mrk L S W]) σ' → Q 0 σ') → XX g true (d + 7) P_X12_isSign 0 [(2, 88), (0, 59)] [] 136 (su σ9 103 (48 + (M.length : Int)) (σ9 88 32)) 136 (fun r9 σ8 => ((r9 ≠ 0 → XX g true (d + 7) P_X12_reads 0 [(2, 88), (9, 0)] [] 136 σ8 136 (fun _ σ10 => Q 0 σ10)) ∧ (r9 = 0 → XX g true (d + 7) P_X12_errs 0 [(2, 88), (0, 1)] [] 136 σ8 136 (fun r13 σ12 => Q r13 σ12)))) := by
    intro i W σ9 h9 hM9 k1 k2 hi we wk
    rw [h9.2.2.1.1]
    have ha : LnM f ln σ0 i (L ++ S ++ W) (su σ9 103 (48 + (M.length : Int)) ((L ++ S ++ W).length : Int)) := h9.su (by omega) (by omega)
    have hMa : MrkM (M ++ [mrk L S W]) (su σ9 103 (48 + (M.length : Int)) ((L ++ S ++ W).length : Int)) := fun l hl => by
      rw [List.length_append, List.length_singleton] at hl
      by_cases z : l = M.length
      · subst z
        rw [getD_e, su_ne (Or.inl (by decide)), su_ne (Or.inl (by decide)), su_eq, k1, k2]
        exact ⟨rfl, rfl, rfl⟩
      · rw [getD_l (by omega), su_ne (Or.inl (by decide)), su_ne (Or.inl (by decide)), su_ne (Or.inr (by omega))]
        exact hM9 l (by omega)
    generalize su σ9 103 (48 + (M.length : Int)) ((L ++ S ++ W).length : Int) = σa at *
    refine s_isSign ha.2.1 (by decide) (fun q => ⟨fun _ => ?_, fun z => absurd z (by decide)⟩) fun q => ⟨fun z => absurd rfl z, fun _ => ?_⟩
    · exact s_readsM (hB.x ha.1) ha.ms fun σb hb => wk q σb (ha.of hb) (hMa.a (eqA.of hb.1))
    · exact s_errs ha.ms fun σb hb => we q σb (fe ha.1 hb)
  unfold pWhen at ww we wk
  refine s_isWord h6.2.1 (by decide) (by decide) (fun q => ⟨fun z => absurd z (by decide), fun _ => ?_⟩) fun q => ⟨fun _ => ?_, fun z => absurd rfl z⟩
  · rw [w9] at q
    have hltj := hB.end_ j b1.2 (by omega)
    rw [if_pos q] at ww we wk
    refine s_readsM (hB.x h6.1) h6.ms fun σ8 h8 => ?_
    have h8L := h6.of h8
    have hC : ∀ c, c ≤ cnt → PrS cnt c (pCl lw (kdP f ln) (nmP f ln) 8 c) := fun c hc => g_cl hB.end_ 8 c hc
    refine s_anyM (σ0 := σ8) (hB.x h8L.1) eqA.rf h8L.2.1 h8L.2.2.1 h8L.2.2.2 (c := j + 1) (by omega) (by omega) (fun e2 σ9 h9 => ⟨fun _ => ?_, fun z => absurd z (by decide)⟩) (fun e2 σ9 h9 => ⟨fun z => absurd rfl z, fun _ => ww e2 σ9 (fa h8L.1 h9)⟩)
    have b2 := bdL (L := L ++ S) (c := j + 1) (by omega) (g_or hB.end_ hC (c := j + 1) (by omega)).1 e2
    have hx69 : eqA σ6 σ9 := (eqA.of h8.1).tr h9.1
    refine last _ _ σ9 ⟨h6.1.a hx69, h9.2.1, h9.2.2.1, h9.2.2.2.1⟩ (hM6.a hx69) ?_ ?_ b2.2 (we e2) (wk e2)
    · rw [hx69.1 101 _ (by decide) (by decide) (by decide) (by decide)]; exact f2.1
    · rw [hx69.1 102 _ (by decide) (by decide) (by decide) (by decide)]; exact f2.2
  · rw [w9] at q
    rw [if_neg q] at we wk
    have h6' : LnM f ln σ0 j (L ++ S ++ []) σ6 := by rw [List.append_nil]; exact h6
    exact last j [] σ6 h6' hM6 f2.1 f2.2 b1.2 (we rfl) (wk rfl)
/-- all lines -/
def WLm (f : Int → Int) (ln : Int) (σ0 : PS) (r : LR) (Q : Int → PS → Prop) : Prop := (r.1 = 0 → ∀ σ', LnM f ln σ0 r.2.1 r.2.2.1 σ' → MrkM r.2.2.2 σ' → Q r.2.2.2.length σ') ∧ (r.1 ≠ 0 → ∀ σ', FltX f ln σ0 r.1 r.2.1 σ' → Q (-1) σ')
theorem s_law2 (hB : BasM f ln cnt lw σ0) : ∀ (n c : Nat) (L : List (Int × Int)) (M : List (Int × Int × Int)) (σ : PS), M.length + n = 17 → LnM f ln σ0 c L σ → MrkM M σ → c ≤ cnt → L.length ≤ c → M.length ≤ 16 → WLm f ln σ0 (pLinesR lw (kdP f ln) (nmP f ln) n c L M) Q → XX g true (d + 9) P_X12_readLaw 2 [(2, 88), (0, (M.length : Int))] [] 136 σ 136 Q := by
  intro n
  induction n with
  | zero => intro c L M σ hn h hM hc hL h16 w; omega
  | succ n ih =>
    intro c L M σ hn h hM hc hL h16 w
    have h5 := hB.2.2.2.2.1.2
    rw [pLinesR_succ] at w
    have e31 : σ 88 31 = lwI lw := (hB.x h.1).2.2.2.2.2
    have fe : ∀ {σb : PS} {k : Int} {i : Nat}, FltM f ln σ k i σb → FltX f ln σ0 k i σb := fun h2 => ⟨h.1.a (eqA.of h2.1), h2.2.1, h2.2.2⟩
    have hfin := h.2.1.2.1.fin
    have body : ∀ v : Int, 0 ≤ v → v < 24 → wmap v = goK lw → XX g true (d + 8) P_X12_isWord 0 [(2, 88), (0, v)] [] 136 σ 136 (fun r2 σ1 => ((r2 = 0 → ((σ1 88 22 ≠ 0 → XX g true (d + 8) P_X12_errs 0 [(2, 88), (0, 1)] [] 136 σ1 136 (fun r4 σ3 => Q r4 σ3)) ∧ (σ1 88 22 = 0 → Q M.length σ1))) ∧ (r2 ≠ 0 → (((M.length : Int) ≠ 16 → XX g true (d + 8) P_X12_readLine 0 [(2, 88), (0, w32 (48 + (M.length : Int)))] [] 136 σ1 136 (fun r6 σ5 => ((r6 ≠ (-1) → ∀ y7, y7 = w32 ((M.length : Int) + 1) → (XX g true (d + 9) P_X12_readLaw 2 [(2, 88), (0, y7)] [] 136 σ5 136 Q)) ∧ (r6 = (-1) → Q (-1) σ5)))) ∧ ((M.length : Int) = 16 → XX g true (d + 8) P_X12_errs 0 [(2, 88), (0, 3)] [] 136 σ1 136 (fun r9 σ8 => Q r9 σ8)))))) := by
      intro v v0 v1 hv
      refine s_isWord h.2.1 v0 v1 (fun q => ⟨fun z => absurd z (by decide), fun _ => ?_⟩) fun q => ⟨fun _ => ⟨fun z => ?_, fun z => ?_⟩, fun z => absurd rfl z⟩
      · rw [hv] at q
        have hg : goK lw ≠ 0 := by unfold goK; split <;> decide
        have hK : kdP f ln c ≠ 0 := by rw [q]; exact hg
        have hlt := hB.end_ c hc hK
        rw [if_neg hK, if_neg (fun z => z q)] at w
        refine ⟨fun z => ?_, fun z => ?_⟩
        · rw [if_neg (by omega)] at w
          rw [w32_of (by omega) (by omega)]
          have g1 := g_sum (lw := lw) (V := nmP f ln) hB.end_ (c := c + 1) (by omega)
          refine s_readLineM hB h hM hc hL hK (by omega) (fun e3 σ1 h1 => ⟨fun q => absurd rfl q, fun _ => ?_⟩) (fun e3 e4 σ1 h1 => ⟨fun q => absurd rfl q, fun _ => ?_⟩) (fun e3 e4 e5 σ1 h1 => ⟨fun q => absurd rfl q, fun _ => ?_⟩) (fun e3 e4 e5 σ1 h1 hM1 => ⟨fun _ y7 e7 => ?_, fun q => absurd q (by decide)⟩)
          · rw [if_pos e3] at w
            exact w.2 e3 σ1 h1
          · rw [if_neg (fun q => q e3), if_pos e4] at w
            exact w.2 e4 σ1 h1
          · rw [if_neg (fun q => q e3), if_neg (fun q => q e4), if_pos e5] at w
            exact w.2 (show ¬ (1 : Int) = 0 by decide) σ1 h1
          · rw [if_neg (fun q => q e3), if_neg (fun q => q e4), if_neg (fun q => q e5)] at w
            have b1 := bdP hL g1.1 e3
            have b2 := bdL (L := L ++ (pSum lw (kdP f ln) (nmP f ln) (c + 1)).2.2) (by omega) (g_when hB.end_ b1.2) e4
            have hlt2 := hB.end_ _ b2.2 (fun q => by rw [q] at e5; exact absurd e5 (by decide))
            have el : (((M ++ [mrk L (pSum lw (kdP f ln) (nmP f ln) (c + 1)).2.2 (pWhen lw (kdP f ln) (nmP f ln) (pSum lw (kdP f ln) (nmP f ln) (c + 1)).2.1).2.2]).length : Nat) : Int) = (M.length : Int) + 1 := by rw [List.length_append, List.length_singleton]; omega
            rw [e7, w32_of (by omega) (by omega), ← el]
            refine ih _ _ _ σ1 (by rw [List.length_append, List.length_singleton]; omega) h1 hM1 (by omega) (by omega) (by rw [List.length_append, List.length_singleton]; omega) w
        · rw [if_pos (by omega)] at w
          exact s_errs h.ms fun σ1 h1 => w.2 (show ¬ (3 : Int) = 0 by decide) σ1 (fe h1)
      · have hK : kdP f ln c ≠ 0 := fun q2 => z (hfin.mpr q2)
        rw [if_neg hK, if_pos (by rw [← hv]; exact q)] at w
        exact s_errs h.ms fun σ1 h1 => w.2 (show ¬ (1 : Int) = 0 by decide) σ1 (fe h1)
      · have hK : kdP f ln c = 0 := hfin.mp z
        rw [if_pos hK] at w
        exact w.1 rfl σ h hM
    refine B_X12_readLaw_2 ?_
    rw [e31]
    cases lw with
    | true => exact ⟨fun z => absurd z (by decide), fun _ => body 0 (by decide) (by decide) rfl⟩
    | false => exact ⟨fun _ => body 1 (by decide) (by decide) rfl, fun z => absurd rfl z⟩
end PLINESM
