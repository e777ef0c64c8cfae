/-! THE PARSER, the class: lines -/
def eqLn (σ0 σ : PS) : Prop := ∀ a j : Int, ¬ (7 ≤ a ∧ a ≤ 10) → ¬ (a = 1 ∧ j = 5) → ¬ (a = 6 ∧ (j = 3 ∨ j = 4)) → σ a j = σ0 a j
theorem eqLn.rf {σ : PS} : eqLn σ σ := fun _ _ _ _ _ => rfl
theorem eqLn.p {σ σ' σ'' : PS} (h : eqLn σ σ') (h2 : eqP σ' σ'') : eqLn σ σ'' := fun a j a1 a2 a3 => (h2 a j (by omega) a2 a3 (by omega)).trans (h a j a1 a2 a3)
theorem eqLn.su {σ σ' : PS} {a j v : Int} (h : eqLn σ σ') (ha : 7 ≤ a ∧ a ≤ 10) : eqLn σ (su σ' a j v) := fun b i a1 a2 a3 => by
  rw [su_ne (by omega)]
  exact h b i a1 a2 a3
def MrkC (M : List (Int × Int × Int)) (σ : PS) : Prop := σ 9 0 = 0 ∧ σ 7 3 = M.length ∧ ∀ l : Nat, l < M.length → σ 10 l = (M.getD l (0, 0, 0)).2.1 ∧ σ 9 ((l : Int) + 1) = (M.getD l (0, 0, 0)).2.2
theorem MrkC.p {M : List (Int × Int × Int)} {σ σ' : PS} (h : MrkC M σ) (hx : eqP σ σ') : MrkC M σ' := by
  obtain ⟨a1, a2, a3⟩ := h
  have e9 : ∀ j, σ' 9 j = σ 9 j := fun j => hx 9 j (by decide) (by omega) (by omega) (by omega)
  have e10 : ∀ j, σ' 10 j = σ 10 j := fun j => hx 10 j (by decide) (by omega) (by omega) (by omega)
  refine ⟨by rw [e9]; exact a1, by rw [hx 7 3 (by decide) (by decide) (by decide) (by decide)]; exact a2, fun l hl => ?_⟩
  rw [e9, e10]
  exact a3 l hl
def LnB (σ0 : PS) (c : Nat) (L : List (Int × Int)) (σ : PS) : Prop := eqLn σ0 σ ∧ (σ 1 5 = (c : Int) ∧ σ 6 3 = σ0 6 3 ∧ σ 6 4 = σ0 6 4) ∧ CodeC L σ
def FltLn (f : Int → Int) (ln : Int) (σ0 : PS) (k : Int) (i : Nat) (σ : PS) : Prop := eqLn σ0 σ ∧ σ 9 0 = 0 ∧ σ 6 3 = k ∧ σ 6 4 = stP f ln i
section PLINESC
variable {g : PG} {d : Nat} {f : Int → Int} {ln : Int} {cnt : Nat} {lw : Bool} {σ0 σ : PS} {Q : Int → PS → Prop}
theorem BasC.mv (h : BasC f ln cnt lw σ0) (hx : eqLn σ0 σ) : BasC f ln cnt lw σ := by
  obtain ⟨⟨a1, a2, a3, a4⟩, a5⟩ := h
  refine ⟨⟨a1, a2, a3, fun j hj => ?_⟩, ?_⟩
  · rw [hx 3 j (by omega) (by omega) (by omega), hx 4 j (by omega) (by omega) (by omega), hx 5 j (by omega) (by omega) (by omega)]
    exact a4 j hj
  · rw [hx 6 5 (by omega) (by omega) (by omega)]; exact a5
theorem LnB.cs {c : Nat} {L : List (Int × Int)} (h : LnB σ0 c L σ) : CS σ c L σ := ⟨eqP.rf, ⟨h.2.1.1, rfl, rfl⟩, h.2.2⟩
theorem LnB.of {c c' : Nat} {L L' : List (Int × Int)} {σ' : PS} (h : LnB σ0 c' L' σ) (hc : CS σ c L σ') : LnB σ0 c L σ' := ⟨h.1.p hc.1, ⟨hc.2.1.1, hc.2.1.2.1.trans h.2.1.2.1, hc.2.1.2.2.trans h.2.1.2.2⟩, hc.2.2⟩
theorem LnB.su {c : Nat} {L : List (Int × Int)} {a j v : Int} (h : LnB σ0 c L σ) (ha : 7 ≤ a ∧ a ≤ 10 ∧ a ≠ 8 ∧ ¬ (a = 7 ∧ j = 4)) : LnB σ0 c L (su σ a j v) := ⟨h.1.su ⟨ha.1, ha.2.1⟩, ⟨by rw [su_ne (Or.inl (by omega))]; exact h.2.1.1, by rw [su_ne (Or.inl (by omega))]; exact h.2.1.2.1, by rw [su_ne (Or.inl (by omega))]; exact h.2.1.2.2⟩, h.2.2.ne ⟨ha.2.2.1, ha.2.2.2⟩⟩
theorem s_readLine (hB : BasC f ln cnt lw σ0) {c : Nat} {L : List (Int × Int)} {M : List (Int × Int × Int)} (h : LnB σ0 c L σ) (hM : MrkC M σ) (hc : c ≤ cnt) (hL : L.length ≤ c) (hK : kdP f ln c ≠ 0)
    (wg : kdP f ln c ≠ goK lw → ∀ σ', FltLn f ln σ0 1 c σ' → Q 0 σ') (wm : kdP f ln c = goK lw → 16 ≤ M.length → ∀ σ', FltLn f ln σ0 3 c σ' → Q 0 σ')
    (ws : kdP f ln c = goK lw → M.length < 16 → (pSum lw (kdP f ln) (nmP f ln) (c + 1)).1 ≠ 0 → ∀ σ', FltLn f ln σ0 (pSum lw (kdP f ln) (nmP f ln) (c + 1)).1 (pSum lw (kdP f ln) (nmP f ln) (c + 1)).2.1 σ' → Q 0 σ')
    (ww : kdP f ln c = goK lw → M.length < 16 → (pSum lw (kdP f ln) (nmP f ln) (c + 1)).1 = 0 → (pWhen lw (kdP f ln) (nmP f ln) (pSum lw (kdP f ln) (nmP f ln) (c + 1)).2.1).1 ≠ 0 → ∀ σ', FltLn f ln σ0 (pWhen lw (kdP f ln) (nmP f ln) (pSum lw (kdP f ln) (nmP f ln) (c + 1)).2.1).1 (pWhen lw (kdP f ln) (nmP f ln) (pSum lw (kdP f ln) (nmP f ln) (c + 1)).2.1).2.1 σ' → Q 0 σ')
    (we : kdP f ln c = goK lw → M.length < 16 → (pSum lw (kdP f ln) (nmP f ln) (c + 1)).1 = 0 → (pWhen lw (kdP f ln) (nmP f ln) (pSum lw (kdP f ln) (nmP f ln) (c + 1)).2.1).1 = 0 → kdP f ln (pWhen lw (kdP f ln) (nmP f ln) (pSum lw (kdP f ln) (nmP f ln) (c + 1)).2.1).2.1 ≠ 59 → ∀ σ', FltLn f ln σ0 1 (pWhen lw (kdP f ln) (nmP f ln) (pSum lw (kdP f ln) (nmP f ln) (c + 1)).2.1).2.1 σ' → Q 0 σ')
    (wk : kdP f ln c = goK lw → M.length < 16 → (pSum lw (kdP f ln) (nmP f ln) (c + 1)).1 = 0 → (pWhen lw (kdP f ln) (nmP f ln) (pSum lw (kdP f ln) (nmP f ln) (c + 1)).2.1).1 = 0 → kdP f ln (pWhen lw (kdP f ln) (nmP f ln) (pSum lw (kdP f ln) (nmP f ln) (c + 1)).2.1).2.1 = 59 → ∀ σ', LnB σ0 ((pWhen lw (kdP f ln) (nmP f ln) (pSum lw (kdP f ln) (nmP f ln) (c + 1)).2.1).2.1 + 1) (L ++ (pSum lw (kdP f ln) (nmP f ln) (c + 1)).2.2 ++ (pWhen lw (kdP f ln) (nmP f ln) (pSum lw (kdP f ln) (nmP f ln) (c + 1)).2.1).2.2) σ' → MrkC (M ++ [mrk L (pSum lw (kdP f ln) (nmP f ln) (c + 1)).2.2 (pWhen lw (kdP f ln) (nmP f ln) (pSum lw (kdP f ln) (nmP f ln) (c + 1)).2.1).2.2]) σ' → Q 1 σ') :
    XX g true (d + 31) P_X6_readLine 0 [(2, 6), (0, (M.length : Int))] [] 136 σ 136 Q := by
  have h5 := hB.1.2.2.1
  have hB1 := hB.mv h.1
  have hlt := hB.end_ c hc hK
  have flt : ∀ {σa σb : PS} {k : Int} {i : Nat}, eqLn σ0 σa → σa 9 0 = 0 → FltC f ln σa k i σb → FltLn f ln σ0 k i σb := fun h1 h9 h2 => ⟨h1.p h2.1, by rw [h2.1 9 0 (by decide) (by decide) (by decide) (by decide)]; exact h9, h2.2.1, h2.2.2⟩
  have e65 : σ 6 5 = lwI lw := hB1.2
  -- behind the first word
  have body : kdP f ln c = goK lw → M.length < 16 → ∀ σ3, CS σ (c + 1) L σ3 → XX g true (d + 30) P_X6_readSum 0 [(2, 6), (9, 0), (9, 0), (9, 0)] [] 136 σ3 136 (fun r6 σ5 => ((r6 ≠ 0 → XX g true (d + 30) P_X4_beginWhen 0 [(2, 7), (0, (M.length : Int))] [] 136 σ5 136 (fun _ σ7 => XX g true (d + 30) P_X8_kind 0 [(2, 1)] [] 136 σ7 136 (fun r10 σ9 => ((r10 ≠ 258 → XX g true (d + 30) P_X4_endLine 0 [(2, 7), (0, (M.length : Int))] [] 136 σ9 136 (fun _ σ11 => XX g true (d + 30) P_X6_pass 0 [(2, 6), (0, 59)] [] 136 σ11 136 (fun r14 σ13 => (r14 = 0 ∨ r14 = 1) ∧ Q r14 σ13))) ∧ (r10 = 258 → XX g true (d + 30) P_X8_next 0 [(2, 1)] [] 136 σ9 136 (fun _ σ16 => XX g true (d + 30) P_X6_readOr 0 [(2, 6), (0, 0), (9, 0), (9, 0)] [] 136 σ16 136 (fun r19 σ18 => ((r19 ≠ 0 → XX g true (d + 30) P_X4_endLine 0 [(2, 7), (0, (M.length : Int))] [] 136 σ18 136 (fun _ σ20 => XX g true (d + 30) P_X6_pass 0 [(2, 6), (0, 59)] [] 136 σ20 136 (fun r23 σ22 => (r23 = 0 ∨ r23 = 1) ∧ Q r23 σ22))) ∧ (r19 = 0 → Q 0 σ18))))))))) ∧ (r6 = 0 → Q 0 σ5))) := by
    intro hgo hm16 σ3 h3
    replace ws := ws hgo hm16
    replace ww := ww hgo hm16
    replace we := we hgo hm16
    replace wk := wk hgo hm16
    have g1 := g_sum (lw := lw) (V := nmP f ln) hB.end_ (c := c + 1) (by omega)
    refine s_sumC hB1 h3 (by omega) (by omega) ⟨fun e σ5 h5' => ⟨fun _ => ?_, fun z => absurd z (by decide)⟩, fun e σ5 h5' => ⟨fun z => absurd rfl z, fun _ => ws e σ5 (flt h.1 hM.1 h5')⟩⟩
    have b1 := bdP hL g1.1 e
    replace ww := ww e
    replace we := we e
    replace wk := wk e
    generalize (pSum lw (kdP f ln) (nmP f ln) (c + 1)).2.1 = j at *
    generalize (pSum lw (kdP f ln) (nmP f ln) (c + 1)).2.2 = S at *
    have hM5 := hM.p h5'.1
    have h5L : LnB σ0 j (L ++ S) σ5 := LnB.of h h5'
    refine B_X4_beginWhen_0 (by unfold LinAt; omega) ⟨fun z => by omega, fun _ => ⟨fun z => by omega, fun _ => ⟨by omega, ?_⟩⟩⟩
    show XX g true (d + 30) P_X8_kind 0 [(2, 1)] [] 136 (su σ5 10 M.length (σ5 7 4)) 136 _
    rw [h5'.2.2.1]
    have h7 : LnB σ0 j (L ++ S) (su σ5 10 M.length ((L ++ S).length : Int)) := h5L.su (by omega)
    have hM7 : MrkC M (su σ5 10 M.length ((L ++ S).length : Int)) ∧ su σ5 10 M.length ((L ++ S).length : Int) 10 M.length = ((L ++ S).length : Int) := by
      refine ⟨⟨by rw [su_ne (Or.inl (by decide))]; exact hM5.1, by rw [su_ne (Or.inl (by decide))]; exact hM5.2.1, fun l hl => ?_⟩, su_eq⟩
      rw [su_ne (Or.inr (by omega)), su_ne (Or.inl (by decide))]
      exact hM5.2.2 l hl
    generalize su σ5 10 M.length ((L ++ S).length : Int) = σ7 at *
    have hB7 := hB.mv h7.1
    -- the line's end
    have last : ∀ (i : Nat) (W : List (Int × Int)) (σ9 : PS), LnB σ0 i (L ++ S ++ W) σ9 → MrkC M σ9 → σ9 10 M.length = ((L ++ S).length : Int) → i ≤ cnt → (kdP f ln i ≠ 59 → ∀ σ', FltLn f ln σ0 1 i σ' → Q 0 σ') → (kdP f ln i = 59 → ∀ σ', LnB σ0 (i + 1) (L ++ S ++ W) σ' → MrkC (M ++ [mrk L S W]) σ' → Q 1 σ') → XX g true (d + 30) P_X4_endLine 0 [(2, 7), (0, (M.length : Int))] [] 136 σ9 136 (fun _ σ11 => XX g true (d + 30) P_X6_pass 0 [(2, 6), (0, 59)] [] 136 σ11 136 (fun r14 σ13 => (r14 = 0 ∨ r14 = 1) ∧ Q r14 σ13)) := by
      intro i W σ9 h9 hM9 h10 hi we wk
      refine B_X4_endLine_0 (by unfold LinAt; omega) ⟨fun z => by omega, fun _ => ⟨fun z => by omega, fun _ => ?_⟩⟩
      rw [w32_of (by omega) (by omega)]
      refine ⟨by omega, ?_⟩
      show XX g true (d + 30) P_X6_pass 0 [(2, 6), (0, 59)] [] 136 (su (su σ9 9 ((M.length : Int) + 1) (σ9 7 4)) 7 3 ((M.length : Int) + 1)) 136 _
      rw [h9.2.2.1]
      have ha : LnB σ0 i (L ++ S ++ W) (su (su σ9 9 ((M.length : Int) + 1) ((L ++ S ++ W).length : Int)) 7 3 ((M.length : Int) + 1)) := (h9.su (by omega)).su (by omega)
      have hMa : MrkC (M ++ [mrk L S W]) (su (su σ9 9 ((M.length : Int) + 1) ((L ++ S ++ W).length : Int)) 7 3 ((M.length : Int) + 1)) := by
        refine ⟨?_, ?_, fun l hl => ?_⟩
        · rw [su_ne (Or.inl (by decide)), su_ne (Or.inr (by omega))]; exact hM9.1
        · rw [su_eq, List.length_append, List.length_singleton]; omega
        · rw [List.length_append, List.length_singleton] at hl
          rw [su_ne (Or.inl (by decide)), su_ne (Or.inl (by decide)), su_ne (Or.inl (by decide))]
          by_cases z : l = M.length
          · subst z
            rw [getD_e, su_eq, h10]
            exact ⟨rfl, rfl⟩
          · rw [getD_l (by omega), su_ne (Or.inr (by omega))]
            exact hM9.2.2 l (by omega)
      generalize su (su σ9 9 ((M.length : Int) + 1) ((L ++ S ++ W).length : Int)) 7 3 ((M.length : Int) + 1) = σa at *
      refine s_passC (hB.mv ha.1) (by decide) ha.cs hi ⟨fun e2 σb hb => ⟨Or.inr rfl, ?_⟩, fun e2 σb hb => ⟨Or.inl rfl, ?_⟩⟩
      · have hk : kdP f ln i = 59 := Classical.byContradiction fun q => by
          unfold pEnd at e2
          rw [if_neg q] at e2
          exact absurd e2 (show ¬ (1 : Int) = 0 by decide)
        have hpe : pEnd (kdP f ln) 59 i = (0, i + 1, []) := if_pos hk
        rw [hpe] at hb
        have hb' : CS σa (i + 1) (L ++ S ++ W ++ []) σb := hb
        rw [List.append_nil] at hb'
        exact wk hk σb (LnB.of ha hb') (hMa.p hb'.1)
      · have hk : kdP f ln i ≠ 59 := fun q => by
          unfold pEnd at e2
          rw [if_pos q] at e2
          exact e2 rfl
        have hpe : pEnd (kdP f ln) 59 i = (1, i, []) := if_neg hk
        rw [hpe] at hb
        exact we hk σb (flt ha.1 hMa.1 hb)
    unfold pWhen at ww we wk
    refine s_kind hB7 h7.cs b1.2 ⟨fun z => ?_, fun z => ?_⟩
    · rw [if_neg z] at we wk
      have h7' : LnB σ0 j (L ++ S ++ []) σ7 := by rw [List.append_nil]; exact h7
      exact last j [] σ7 h7' hM7.1 hM7.2 b1.2 (we rfl) (wk rfl)
    · have hltj := hB.end_ j b1.2 (by omega)
      rw [if_pos z] at ww we wk
      refine s_next hB7 h7.cs b1.2 (by omega) fun σ8 h8 => ?_
      have hC : ∀ c, c ≤ cnt → PrS cnt c (pCl lw (kdP f ln) (nmP f ln) 8 c) := fun c hc => g_cl hB.end_ 8 c hc
      refine s_orC hB7 (D := d + 4 + 3 * 8) hC (s_clC (d := d) hB7 8 (d + 4 + 3 * 8) 0 rfl (by decide) (by decide)) h8 (by omega) (by omega) ⟨fun e2 σ9 h9 => ⟨fun _ => ?_, fun q => absurd q (by decide)⟩, fun e2 σ9 h9 => ⟨fun q => absurd rfl q, fun _ => ww e2 σ9 (flt h7.1 hM7.1.1 h9)⟩⟩
      have b2 := bdL (L := L ++ S) (c := j + 1) (by omega) (g_or hB.end_ hC (c := j + 1) (by omega)).1 e2
      refine last _ _ σ9 (LnB.of h7 h9) (hM7.1.p h9.1) ?_ b2.2 (we e2) (wk e2)
      rw [h9.1 10 M.length (by decide) (by omega) (by omega) (by omega)]
      exact hM7.2
  refine B_X6_readLine_0 (s_kind hB1 h.cs hc ?_)
  rw [e65]
  cases lw with
  | true =>
    refine ⟨fun z => absurd z (by decide), fun _ => ⟨fun z => ⟨fun z1 => s_next hB1 h.cs hc hK fun σ3 h3 => body z (by omega) σ3 h3, fun z1 => s_stop hB1 h.cs hc fun σ3 h3 => ⟨Or.inl rfl, wm z (by omega) σ3 (flt h.1 hM.1 h3)⟩⟩, fun z => s_stop hB1 h.cs hc fun σ3 h3 => ⟨Or.inl rfl, wg z σ3 (flt h.1 hM.1 h3)⟩⟩⟩
  | false =>
    refine ⟨fun _ => ⟨fun z => ⟨fun z1 => s_next hB1 h.cs hc hK fun σ3 h3 => body z (by omega) σ3 h3, fun z1 => s_stop hB1 h.cs hc fun σ3 h3 => ⟨Or.inl rfl, wm z (by omega) σ3 (flt h.1 hM.1 h3)⟩⟩, fun z => s_stop hB1 h.cs hc fun σ3 h3 => ⟨Or.inl rfl, wg z σ3 (flt h.1 hM.1 h3)⟩⟩, fun z => absurd rfl z⟩
/-- all lines -/
def WL (f : Int → Int) (ln : Int) (σ0 : PS) (r : LR) (Q : Int → PS → Prop) : Prop := (r.1 = 0 → ∀ σ', LnB σ0 r.2.1 r.2.2.1 σ' → MrkC r.2.2.2 σ' → Q r.2.2.2.length σ') ∧ (r.1 ≠ 0 → ∀ σ', FltLn f ln σ0 r.1 r.2.1 σ' → Q (-1) σ')
theorem s_lines18 (hB : BasC f ln cnt lw σ0) : ∀ (n c : Nat) (L : List (Int × Int)) (M : List (Int × Int × Int)) (σ : PS), M.length + n = 17 → LnB σ0 c L σ → MrkC M σ → c ≤ cnt → L.length ≤ c → M.length ≤ 16 → WL f ln σ0 (pLinesR lw (kdP f ln) (nmP f ln) n c L M) Q → XX g true (d + 32) P_X6_readLines 18 [(2, 6), (9, 0), (0, (M.length : Int))] [] 136 σ 136 Q := by
  intro n
  induction n with
  | zero => intro c L M σ hn h hM hc hL h16 w; omega
  | succ n ih =>
    intro c L M σ hn h hM hc hL h16 w
    have h5 := hB.1.2.2.1
    rw [pLinesR_succ] at w
    refine B_X6_readLines_18 ⟨fun z => by omega, fun _ => s_kind (hB.mv h.1) h.cs hc ⟨fun z => ?_, fun z => ?_⟩⟩
    · rw [if_pos z] at w
      exact w.1 rfl σ h hM
    · rw [if_neg z] at w
      have hlt := hB.end_ c hc z
      have g1 := g_sum (lw := lw) (V := nmP f ln) hB.end_ (c := c + 1) (by omega)
      refine s_readLine hB h hM hc hL z (fun e1 σ1 h1 => ⟨fun q => absurd rfl q, fun _ => ?_⟩) (fun e1 e2 σ1 h1 => ⟨fun q => absurd rfl q, fun _ => ?_⟩) (fun e1 e2 e3 σ1 h1 => ⟨fun q => absurd rfl q, fun _ => ?_⟩) (fun e1 e2 e3 e4 σ1 h1 => ⟨fun q => absurd rfl q, fun _ => ?_⟩) (fun e1 e2 e3 e4 e5 σ1 h1 => ⟨fun q => absurd rfl q, fun _ => ?_⟩) (fun e1 e2 e3 e4 e5 σ1 h1 hM1 => ⟨fun _ => ?_, fun q => absurd q (by decide)⟩)
      · rw [if_pos e1] at w
        exact w.2 (show ¬ (1 : Int) = 0 by decide) σ1 h1
      · rw [if_neg (fun q => q e1), if_pos e2] at w
        exact w.2 (show ¬ (3 : Int) = 0 by decide) σ1 h1
      · rw [if_neg (fun q => q e1), if_neg (by omega), if_pos e3] at w
        exact w.2 e3 σ1 h1
      · rw [if_neg (fun q => q e1), if_neg (by omega), if_neg (fun q => q e3), if_pos e4] at w
        exact w.2 e4 σ1 h1
      · rw [if_neg (fun q => q e1), if_neg (by omega), if_neg (fun q => q e3), if_neg (fun q => q e4), if_pos e5] at w
        exact w.2 (show ¬ (1 : Int) = 0 by decide) σ1 h1
      · rw [if_neg (fun q => q e1), if_neg (by omega), if_neg (fun q => q e3), if_neg (fun q => q e4), if_neg (fun q => q e5)] at w
        have b1 := bdP hL g1.1 e3
        have b2 := bdL (L := L ++ (pSum lw (kdP f ln) (nmP f ln) (c + 1)).2.2) (by omega) (g_when hB.end_ b1.2) e4
        have hlt2 := hB.end_ _ b2.2 (fun q => by rw [q] at e5; exact absurd e5 (by decide))
        have el : (((M ++ [mrk L (pSum lw (kdP f ln) (nmP f ln) (c + 1)).2.2 (pWhen lw (kdP f ln) (nmP f ln) (pSum lw (kdP f ln) (nmP f ln) (c + 1)).2.1).2.2]).length : Nat) : Int) = (M.length : Int) + 1 := by rw [List.length_append, List.length_singleton]; omega
        rw [w32_of (by omega) (by omega), ← el]
        refine ih _ _ _ σ1 (by rw [List.length_append, List.length_singleton]; omega) h1 hM1 (by omega) (by omega) (by rw [List.length_append, List.length_singleton]; omega) w
def pText (lw : Bool) (f : Int → Int) (ln : Int) : LR := pLinesR lw (kdP f ln) (nmP f ln) 17 0 [] []
theorem txt_C {L : List (Int × Int)} {M : List (Int × Int × Int)} (h1 : CodeC L σ) (h2 : MrkC M σ) : TxtC 7 (txtT L M) σ := by
  obtain ⟨a1, a2⟩ := h1
  obtain ⟨c1, c2, c3⟩ := h2
  have t0 : txtT L M 0 0 = M.length := rfl
  have t1 : txtT L M 0 1 = L.length := rfl
  refine ⟨c2, a1, c1, fun l l0 l1 => ?_, fun l l0 l1 => ?_, fun i i0 i1 => ?_⟩
  · rw [t0] at l1
    have := (c3 l.toNat (by omega)).1
    rw [show ((l.toNat : Nat) : Int) = l by omega] at this
    exact this
  · rw [t0] at l1
    have := (c3 l.toNat (by omega)).2
    rw [show ((l.toNat : Nat) : Int) = l by omega] at this
    exact this
  · rw [t1] at i1
    have := a2 i.toNat (by omega)
    rw [show ((i.toNat : Nat) : Int) = i by omega] at this
    exact this
theorem s_readLinesC (hT : TapC ln f σ) (hb : ∀ i, 0 ≤ i → i < ln → 0 ≤ f i ∧ f i ≤ 255) (hl : 0 ≤ ln ∧ ln ≤ 500) (h9 : σ 9 0 = 0)
    (w1 : (pText lw f ln).1 = 0 → ∀ σ', eqx [1, 3, 4, 5, 6, 7, 8, 9, 10] σ σ' → σ' 9 0 = 0 → σ' 6 3 = 0 → σ' 6 4 = -1 → TxtC 7 (txtT (pText lw f ln).2.2.1 (pText lw f ln).2.2.2) σ' → Q (pText lw f ln).2.2.2.length σ')
    (w0 : (pText lw f ln).1 ≠ 0 → ∀ σ', eqx [1, 3, 4, 5, 6, 7, 8, 9, 10] σ σ' → σ' 9 0 = 0 → σ' 6 3 = (pText lw f ln).1 → σ' 6 4 = stP f ln (pText lw f ln).2.1 → Q (-1) σ') :
    XX g true (d + 32) P_X6_readLines 0 [(2, 6), (0, lwI lw), (9, 0)] [] 136 σ 136 Q := by
  refine B_X6_readLines_0 (B_X6_begin_0 (s_cutTokens hT hb hl fun cnt σ1 hx h14 h15 hTok => ⟨?_, ?_⟩))
  · cases lw with
    | true => exact Or.inr rfl
    | false => exact Or.inl rfl
  have e1 : eqx [1, 3, 4, 5, 6, 7, 8, 9, 10] σ (su (su (su (su (su σ1 6 3 0) 6 4 (-1)) 6 5 (lwI lw)) 7 3 0) 7 4 0) := (((((hx.mono (by decide)).su (by decide)).su (by decide)).su (by decide)).su (by decide)).su (by decide)
  refine B_X4_clear_0 (by unfold LinAt; omega) ?_
  have hB : BasC f ln cnt lw (su (su (su (su (su σ1 6 3 0) 6 4 (-1)) 6 5 (lwI lw)) 7 3 0) 7 4 0) := by
    obtain ⟨a1, a2, a3, a4⟩ := hTok
    refine ⟨⟨a1, a2, a3, fun j hj => ?_⟩, ?_⟩
    · have := a4 j hj
      simp [su]
      exact this
    · simp [su]
  have h0 : LnB (su (su (su (su (su σ1 6 3 0) 6 4 (-1)) 6 5 (lwI lw)) 7 3 0) 7 4 0) 0 [] (su (su (su (su (su σ1 6 3 0) 6 4 (-1)) 6 5 (lwI lw)) 7 3 0) 7 4 0) := ⟨eqLn.rf, ⟨by simp [su]; exact h15, rfl, rfl⟩, su_eq, fun i hi => by simp at hi⟩
  have hM0 : MrkC [] (su (su (su (su (su σ1 6 3 0) 6 4 (-1)) 6 5 (lwI lw)) 7 3 0) 7 4 0) := by
    refine ⟨?_, ?_, fun l hl => by simp at hl⟩
    · simp [su]
      rw [hx 9 (by decide)]; exact h9
    · simp [su]
  have f63 : su (su (su (su (su σ1 6 3 0) 6 4 (-1)) 6 5 (lwI lw)) 7 3 0) 7 4 0 6 3 = 0 := by simp [su]
  have f64 : su (su (su (su (su σ1 6 3 0) 6 4 (-1)) 6 5 (lwI lw)) 7 3 0) 7 4 0 6 4 = -1 := by simp [su]
  generalize su (su (su (su (su σ1 6 3 0) 6 4 (-1)) 6 5 (lwI lw)) 7 3 0) 7 4 0 = σ2 at *
  have fr : ∀ {σ' : PS}, eqLn σ2 σ' → eqx [1, 3, 4, 5, 6, 7, 8, 9, 10] σ σ' := fun h3 a ha j => by
    simp only [List.mem_cons, List.not_mem_nil, or_false] at ha
    rw [h3 a j (by omega) (by omega) (by omega)]
    exact e1 a (by simp only [List.mem_cons, List.not_mem_nil, or_false]; exact ha) j
  unfold pText at w1 w0
  refine s_lines18 (d := d) hB 17 0 [] [] σ2 (by decide) h0 hM0 (by omega) (Nat.le_refl 0) (by decide) ⟨fun e σ3 h3 hM3 => ?_, fun e σ3 h3 => ?_⟩
  · exact w1 e σ3 (fr h3.1) hM3.1 (h3.2.1.2.1.trans f63) (h3.2.1.2.2.trans f64) (txt_C h3.2.2 hM3)
  · exact w0 e σ3 (fr h3.1) h3.2.1 h3.2.2.1 h3.2.2.2
end PLINESC
