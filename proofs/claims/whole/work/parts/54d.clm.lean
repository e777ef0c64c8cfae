/-! THE PARSER, the model: clauses to the end -/
section PCLM
variable {g : PG} {d : Nat} {f : Int → Int} {ln : Int} {cnt : Nat} {lw : Bool} {σ0 : PS}
theorem s_clM (hB : BasM f ln cnt lw σ0) : ∀ m : Nat, ClM g f ln cnt σ0 (d + 7) m (pCl lw (kdP f ln) (nmP f ln) m) := by
  have h5 := hB.2.2.2.2.1.2
  have w12 : wmap 12 = 261 := rfl
  -- a comparison
  have cmp : ∀ (m k c : Nat) (b o : Int) (L : List (Int × Int)) (S : List Int) (σ : PS) (Q : Int → PS → Prop), MA f ln σ0 c L o (List.replicate k 9 ++ S) σ → topNe 9 S → o + m = 8 → (k : Int) ≤ o → c ≤ cnt → L.length + (k + S.length) ≤ c → k + S.length + 3 * m ≤ 30 → ((pCmp lw (kdP f ln) (nmP f ln) c).1 = 0 → ∀ σ', MA f ln σ0 (pCmp lw (kdP f ln) (nmP f ln) c).2.1 (L ++ (pCmp lw (kdP f ln) (nmP f ln) c).2.2 ++ List.replicate k (9, 0)) (o - k) S σ' → XX g true (d + 7) P_X12_readAny 9 [(2, 88), (0, b), (0, 0), (9, 0)] [] 136 σ' 136 Q) → ((pCmp lw (kdP f ln) (nmP f ln) c).1 ≠ 0 → ∀ σ', FltA f ln σ0 (pCmp lw (kdP f ln) (nmP f ln) c).1 (pCmp lw (kdP f ln) (nmP f ln) c).2.1 σ' → Q (-1) σ') → kdP f ln c ≠ 261 → kdP f ln c ≠ 40 → XX g true (d + 7) P_X12_readAny 9 [(2, 88), (0, b), (0, 1), (9, 0)] [] 136 σ 136 Q := by
    intro m k c b o L S σ Q h hS ho hk hc hL hlen w1 w0 n1 n2
    refine B_X12_readAny_9 ⟨fun z => absurd z (by decide), fun _ => s_isWord h.2.1 (by decide) (by decide) (fun q => absurd (q.trans w12) n1) fun _ => ⟨fun z => absurd rfl z, fun _ => s_isSign h.2.1 (by decide) (fun q => absurd q n2) fun _ => ⟨fun _ => ?_, fun z => absurd rfl z⟩⟩⟩
    refine s_cmpM (hB.ma h.1) h.ms hc (by omega) ⟨fun e σ1 h1 => ⟨fun _ => ?_, fun z => absurd z (by decide)⟩, fun e σ1 h1 => ⟨fun z => absurd rfl z, fun _ => w0 e σ1 ⟨h.1.e h1.1, h1.2.1, h1.2.2⟩⟩⟩
    have hu := g_cmp (lw := lw) (V := nmP f ln) hB.end_ hc
    obtain ⟨p1, p2, p3⟩ := hu.1.1 e
    refine s_settles hS k _ _ o σ1 (h.of h1) (by rw [List.length_append]; omega) ⟨fun _ => hk, by omega, by omega⟩ (by omega) (by omega) fun σ2 h2 => ?_
    rw [if_pos rfl] at h2
    exact w1 e σ2 h2
  intro m
  induction m with
  | zero =>
    intro k c b o L S σ Q h hS ho hk hc hL hlen hb w1 w0
    have e8 : σ 88 33 = 8 := by rw [h.2.2.2.1]; omega
    by_cases hK : kdP f ln c = 261 ∨ kdP f ln c = 40
    · have e0 : pCl lw (kdP f ln) (nmP f ln) 0 c = (3, c, []) := by rw [pCl_zero, if_pos hK]
      rw [e0] at w0
      have fin : ∀ {F : Int → PS → Prop}, (∀ r σ', F r σ' = Q r σ') → XX g true (d + 6) P_X12_errs 0 [(2, 88), (0, 3)] [] 136 σ 136 (fun r17 σ16 => Q r17 σ16) := fun _ => s_errs h.ms fun σ1 h1 => w0 (show ¬ (3 : Int) = 0 by decide) σ1 ⟨h.1.e h1.1, h1.2.1, h1.2.2⟩
      refine B_X12_readAny_9 ⟨fun z => absurd z (by decide), fun _ => s_isWord h.2.1 (by decide) (by decide) (fun q => ⟨fun _ => ⟨fun z => absurd e8 z, fun _ => fin (F := Q) fun _ _ => rfl⟩, fun z => absurd z (by decide)⟩) fun q => ⟨fun z => absurd rfl z, fun _ => s_isSign h.2.1 (by decide) (fun q2 => ⟨fun z => absurd z (by decide), fun _ => ⟨fun z => absurd e8 z, fun _ => fin (F := Q) fun _ _ => rfl⟩⟩) fun q2 => ?_⟩⟩
      exfalso
      rcases hK with z | z
      · exact q (z.trans w12.symm)
      · exact q2 z
    · have e0 : pCl lw (kdP f ln) (nmP f ln) 0 c = pCmp lw (kdP f ln) (nmP f ln) c := by rw [pCl_zero, if_neg hK]
      rw [e0] at w1 w0
      exact cmp 0 k c b o L S σ Q h hS ho hk hc hL hlen w1 w0 (fun z => hK (Or.inl z)) fun z => hK (Or.inr z)
  | succ m ih =>
    intro k c b o L S σ Q h hS ho hk hc hL hlen hb w1 w0
    have hC : ∀ c, c ≤ cnt → PrS cnt c (pCl lw (kdP f ln) (nmP f ln) m c) := fun c hc => g_cl hB.end_ m c hc
    have e8 : σ 88 33 = o := h.2.2.2.1
    have eo : w32 (σ 88 33 + 1) = o + 1 := by rw [e8, w32_of (by omega) (by omega)]
    by_cases hp : kdP f ln c = 40
    · have hlt := hB.end_ c hc (by omega)
      have e0 : pCl lw (kdP f ln) (nmP f ln) (m + 1) c = pBind (pOr (kdP f ln) (pCl lw (kdP f ln) (nmP f ln) m) (c + 1)) (pEnd (kdP f ln) 41) := by rw [pCl_succ, if_pos hp]
      rw [e0] at w1 w0
      refine B_X12_readAny_9 ⟨fun z => absurd z (by decide), fun _ => s_isWord h.2.1 (by decide) (by decide) (fun q => by rw [w12] at q; omega) fun q => ⟨fun z => absurd rfl z, fun _ => s_isSign h.2.1 (by decide) (fun q2 => ⟨fun z => absurd z (by decide), fun _ => ⟨fun _ => ⟨fun z => absurd rfl z, fun _ y67 e67 => ⟨fun _ => ?_, fun z => absurd rfl z⟩⟩, fun z => by omega⟩⟩) fun q2 => absurd hp q2⟩⟩
      rw [eo]
      have ho1 : MA f ln σ0 c L (o + 1) (List.replicate k 9 ++ S) (su σ 88 33 (o + 1)) := h.open_
      refine s_waits ho1 (by rw [rep_le]; omega) fun σ1 h1 => s_readsM (hB.ma h1.1) h1.ms fun σ2 h2 => ?_
      have h2' := h1.of h2
      rw [w32_of (by omega) (by omega)] at e67
      subst e67
      refine s_orM hB hC ih (b := b + 1) (o := o + 1) (topNe.cons (by decide)) (topNe.cons (by decide)) (topNe.cons (by decide)) (by omega) (by rw [List.length_cons, rep_le]; omega) (by omega) h2' (by omega) (by rw [List.length_cons, rep_le]; omega) (fun e σ3 h3 hc3 hl3 => ⟨fun _ => ?_, fun z => by omega⟩) (fun e σ3 h3 => ?_)
      · rw [pBind_ok e] at w1 w0
        have elen : (((List.replicate k 9 ++ S).length : Nat) : Int) = (k : Int) + S.length := by rw [rep_le]; omega
        rw [List.length_cons, rep_le] at hl3
        unfold pEnd at w1 w0
        refine s_isSign h3.2.1 (by decide) (fun q4 => ⟨fun _ y11 e11 => ?_, fun z => absurd z (by decide)⟩) fun q4 => ⟨fun z => absurd rfl z, fun _ => ?_⟩
        · rw [if_pos q4] at w1
          have hp3 := h3.pop
          have e35 : w32 (σ3 88 35 - 1) = ((List.replicate k 9 ++ S).length : Int) := by
            rw [h3.2.2.2.2.1, List.length_cons, w32_of (by omega) (by omega)]
            omega
          have e33 : w32 (σ3 88 33 - 1) = o := by rw [h3.2.2.2.1, w32_of (by omega) (by omega)]; omega
          have hy : y11 = b := by rw [e11, w32_of (by omega) (by omega)]; omega
          rw [e35, e33, hy]
          have hq : MA f ln σ0 (pOr (kdP f ln) (pCl lw (kdP f ln) (nmP f ln) m) (c + 1)).2.1 (L ++ (pOr (kdP f ln) (pCl lw (kdP f ln) (nmP f ln) m) (c + 1)).2.2) o (List.replicate k 9 ++ S) (su (su σ3 88 35 ((List.replicate k 9 ++ S).length : Int)) 88 33 o) := hp3.open_
          refine s_settles hS k _ _ o _ hq (by omega) ⟨fun _ => hk, by omega, by omega⟩ (by omega) (by omega) fun σ5 h5' => ?_
          rw [if_pos rfl] at h5'
          refine s_readsM (hB.ma h5'.1) h5'.ms fun σ6 h6 => ?_
          refine w1 rfl σ6 ?_
          have h6' := h5'.of h6
          show MA f ln σ0 _ (L ++ ((pOr (kdP f ln) (pCl lw (kdP f ln) (nmP f ln) m) (c + 1)).2.2 ++ []) ++ List.replicate k (9, 0)) (o - k) S σ6
          rw [List.append_nil]
          exact h6'
        · rw [if_neg q4] at w0
          exact s_errs h3.ms fun σ5 h5' => w0 (show ¬ (1 : Int) = 0 by decide) σ5 ⟨h3.1.e h5'.1, h5'.2.1, h5'.2.2⟩
      · rw [pBind_no e] at w0
        exact w0 e σ3 h3
    · by_cases hn : kdP f ln c = 261
      · have hlt := hB.end_ c hc (by omega)
        have e0 : pCl lw (kdP f ln) (nmP f ln) (m + 1) c = pBind (pCl lw (kdP f ln) (nmP f ln) m (c + 1)) (pOne 9) := by rw [pCl_succ, if_neg hp, if_pos hn]
        rw [e0] at w1 w0
        refine B_X12_readAny_9 ⟨fun z => absurd z (by decide), fun _ => s_isWord h.2.1 (by decide) (by decide) (fun q => ⟨fun _ => ⟨fun _ => ⟨fun _ => ⟨fun z => absurd z (by decide), fun _ => ?_⟩, fun z => absurd z (by decide)⟩, fun z => by omega⟩, fun z => absurd z (by decide)⟩) fun q => absurd (hn.trans w12.symm) q⟩
        rw [eo]
        have ho1 : MA f ln σ0 c L (o + 1) (List.replicate k 9 ++ S) (su σ 88 33 (o + 1)) := h.open_
        refine s_waits ho1 (by rw [rep_le]; omega) fun σ1 h1 => s_readsM (hB.ma h1.1) h1.ms fun σ2 h2 => ?_
        have h2' : MA f ln σ0 (c + 1) L (o + 1) (List.replicate (k + 1) 9 ++ S) σ2 := h1.of h2
        refine ih (k + 1) (c + 1) b (o + 1) L S σ2 Q h2' hS (by omega) (by omega) (by omega) (by omega) (by omega) (by omega) (fun e σ3 h3 => ?_) (fun e σ3 h3 => ?_)
        · rw [pBind_ok e] at w1
          refine w1 rfl σ3 ?_
          rw [show o + 1 - ((k + 1 : Nat) : Int) = o - (k : Int) by omega] at h3
          show MA f ln σ0 _ (L ++ ((pCl lw (kdP f ln) (nmP f ln) m (c + 1)).2.2 ++ [(9, 0)]) ++ List.replicate k (9, 0)) (o - k) S σ3
          rw [← List.append_assoc, List.append_assoc _ [(9, 0)], rep_snoc]
          exact h3
        · rw [pBind_no e] at w0
          exact w0 e σ3 h3
      · have e0 : pCl lw (kdP f ln) (nmP f ln) (m + 1) c = pCmp lw (kdP f ln) (nmP f ln) c := by rw [pCl_succ, if_neg hp, if_neg hn]
        rw [e0] at w1 w0
        exact cmp (m + 1) k c b o L S σ Q h hS ho hk hc hL hlen w1 w0 hn hp
/-- a whole B -/
theorem s_anyM (hB : BasM f ln cnt lw σ0) {c : Nat} {L : List (Int × Int)} {σ : PS} {Q : Int → PS → Prop} (hx : eqA σ0 σ) (hA : AtM f ln c σ) (hL0 : CodeM L σ) (h33 : σ 88 33 = 0) (hc : c ≤ cnt) (hL : L.length ≤ c)
    (w1 : (pOr (kdP f ln) (pCl lw (kdP f ln) (nmP f ln) 8) c).1 = 0 → ∀ σ', MA f ln σ0 (pOr (kdP f ln) (pCl lw (kdP f ln) (nmP f ln) 8) c).2.1 (L ++ (pOr (kdP f ln) (pCl lw (kdP f ln) (nmP f ln) 8) c).2.2) 0 [] σ' → Q 0 σ')
    (w0 : (pOr (kdP f ln) (pCl lw (kdP f ln) (nmP f ln) 8) c).1 ≠ 0 → ∀ σ', FltA f ln σ0 (pOr (kdP f ln) (pCl lw (kdP f ln) (nmP f ln) 8) c).1 (pOr (kdP f ln) (pCl lw (kdP f ln) (nmP f ln) 8) c).2.1 σ' → Q (-1) σ') :
    XX g true (d + 7) P_X12_readAny 0 [(2, 88), (9, 0), (9, 0), (9, 0)] [] 136 σ 136 Q := by
  have hC : ∀ c, c ≤ cnt → PrS cnt c (pCl lw (kdP f ln) (nmP f ln) 8 c) := fun c hc => g_cl hB.end_ 8 c hc
  have h0 : MA f ln σ0 c L 0 [] (su σ 88 35 0) := ⟨hx.s8 (by omega), hA.n8 (by decide), hL0.n8 (by decide), by rw [su_ne (Or.inr (by decide))]; exact h33, su_eq, trivial⟩
  refine B_X12_readAny_0 (s_orM hB hC (s_clM hB 8) (b := 0) (o := 0) topNe.nil topNe.nil topNe.nil (by decide) (by decide) (by decide) h0 hc hL (fun e σ3 h3 _ _ => ⟨fun z => absurd rfl z, fun _ => w1 e σ3 h3⟩) w0)
end PCLM
