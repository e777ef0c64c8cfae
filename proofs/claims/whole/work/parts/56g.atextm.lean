/-! TEXT, the model: the call -/
section PTEXTG
variable {g : PG} {d : Nat} {Q : Int → PS → Prop} {t : TS} {fk fp ln : Int} {f : Int → Int} {im : Option TS} {σ : PS}
theorem m_end {k r kk pp : Int} (h : ModB t fk fp ln f im σ) (ok : OkT t) (w : ∀ σ', eqd8 σ σ' → ModB t kk pp 0 f im σ' → Q (-1) σ') {σ3 : PS} (hx : eqD σ σ3) (hf : (r = 0 ∧ σ3 88 38 = kk ∧ σ3 88 39 = pp) ∨ (r ≠ 0 ∧ σ3 88 36 = kk ∧ σ3 88 37 = pp)) : XX g true (d + 40) P_X12_text 80 [(2, 88), (0, k), (0, r), (0, (-1))] [] 136 σ3 136 Q := by
  refine B_X12_text_80 ⟨fun z => B_X12_text_110 ⟨fun q => absurd rfl q, fun _ => ?_⟩, fun z => ⟨fun q => absurd rfl q, fun _ => B_X12_text_110 ⟨fun q => absurd rfl q, fun _ => ?_⟩⟩⟩
  · have hf2 : σ3 88 38 = kk ∧ σ3 88 39 = pp := by
      rcases hf with q | q
      · exact q.2
      · exact absurd z q.1
    have hy : eqD σ (su σ3 88 19 0) := hx.tr (eqD.of (J := [19]) (eqm.rf.s8 (by decide)) (by decide) (by decide))
    exact w _ (tJ_d8 hy.m) (h.txt hy.m (h.1.d ok hy) su_eq (by rw [su_ne (Or.inr (by decide))]; exact hf2.1) (by rw [su_ne (Or.inr (by decide))]; exact hf2.2))
  · have hf2 : σ3 88 36 = kk ∧ σ3 88 37 = pp := by
      rcases hf with q | q
      · exact absurd q.1 z
      · exact q.2
    rw [hf2.1, hf2.2]
    have hy : eqD σ (su (su (su σ3 88 19 0) 88 38 kk) 88 39 pp) := hx.tr (eqD.of (J := [19, 38, 39]) (((eqm.rf.s8 (by decide)).s8 (by decide)).s8 (by decide)) (by decide) (by decide))
    exact w _ (tJ_d8 hy.m) (h.txt hy.m (h.1.d ok hy) (by simp [su_ne, su_eq]) (by simp [su_ne, su_eq]) su_eq)
theorem a_textM {k : Int} (h : ModB t fk fp ln f im σ) (ok : OkT t) (hl : 0 ≤ ln ∧ ln ≤ 500) (hb : ∀ i, 0 ≤ i → i < ln → 0 ≤ f i ∧ f i ≤ 255) (w : ∀ σ', eqd8 σ σ' → ModB (textT t f ln k) (textK f ln k) (textP f ln k) 0 f im σ' → Q (textA f ln k) σ') : XX g true (d + 40) P_X12_text 0 [(2, 88), (0, k), (9, 0), (9, 0)] [] 136 σ 136 Q := by
  refine m_front h hl hb fun σ2 hD hB hA hC h33 h38 h39 => ⟨fun z => ⟨fun z3 => ?_, fun z3 => ?_⟩, fun z => ?_⟩
  · -- a rule or the law
    unfold textT textA textK textP at w
    simp only [if_neg z3, if_pos z] at w
    have hLn : LnM f ln σ2 0 [] σ2 := ⟨eqX.rf, hA, hC, h33⟩
    have hM : MrkM [] σ2 := fun l hl => by simp at hl
    refine B_X12_readLaw_0 (s_law2 hB 17 0 [] [] σ2 rfl hLn hM (by decide) (by decide) (by decide) ⟨fun e σ3 h3 hM3 => ?_, fun e σ3 h3 => ?_⟩)
    · have ep : pLinesR (lwOf k) (kdP f ln) (nmP f ln) 17 0 [] [] = pText (lwOf k) f ln := rfl
      rw [ep] at e h3 hM3 ⊢
      simp only [if_pos e] at w
      rw [e] at w
      have okt := pText_ok (lw := lwOf k) hl e
      have n0 : (pText (lwOf k) f ln).2.2.2.length ≤ 16 := by
        have : ((pText (lwOf k) f ln).2.2.2.length : Int) ≤ 16 := okt.n0.2
        omega
      have n1 : (pText (lwOf k) f ln).2.2.1.length ≤ 500 := by
        have : ((pText (lwOf k) f ln).2.2.1.length : Int) ≤ 500 := okt.n1.2
        omega
      have hk : 0 ≤ k ∧ k ≤ 2 := by omega
      have hD3 : eqD σ (su σ3 88 19 0) := (hD.tr (eqD.x h3.1)).tr (eqD.of (J := [19]) (eqm.rf.s8 (by decide)) (by decide) (by decide))
      have e38 : su σ3 88 19 0 88 38 = 0 := by rw [su_ne (Or.inr (by decide)), h3.1.2.2.2 38 (by decide) (by decide) (by decide)]; exact h38
      have e39 : su σ3 88 19 0 88 39 = -1 := by rw [su_ne (Or.inr (by decide)), h3.1.2.2.2 39 (by decide) (by decide) (by decide)]; exact h39
      have hC3 : CodeM (pText (lwOf k) f ln).2.2.1 (su σ3 88 19 0) := ⟨by rw [su_ne (Or.inr (by decide))]; exact h3.2.2.1.1, fun i hi => by rw [su_ne (Or.inl (by decide)), su_ne (Or.inl (by decide))]; exact h3.2.2.1.2 i hi⟩
      have hM4 : MrkM (pText (lwOf k) f ln).2.2.2 (su σ3 88 19 0) := fun l hl => by rw [su_ne (Or.inl (by decide)), su_ne (Or.inl (by decide)), su_ne (Or.inl (by decide))]; exact hM3 l hl
      have tk : XX g true (d + 39) P_X12_takes 0 [(2, 88), (0, k), (0, ((pText (lwOf k) f ln).2.2.2.length : Int)), (9, 0)] [] 136 (su σ3 88 19 0) 136 (fun _ σ1 => (XX g true (d + 40) P_X12_text 136 [(9, 0), (9, 0), (9, 0), (0, ((pText (lwOf k) f ln).2.2.2.length : Int))] [] 136 σ1 136 Q)) := by
        refine s_takes hk hC3 hM4 n1 n0 fun σ4 hx4 hT4 => B_X12_text_136 ?_
        have hfin : eqm tL tJ σ σ4 := tt_tr hD3.m hx4.m
        obtain ⟨b1, b2, b3, b4, b5⟩ := h.1.d ok hD3
        have hE : BrkM t.2.2.2.2 σ4 := BrkM_same b5 (hx4 88 40 (by omega) (by omega) (by omega)) (fun j => hx4 107 j (by omega) (by omega) (by omega)) (fun j => hx4 108 j (by omega) (by omega) (by omega)) (fun j => hx4 109 j (by omega) (by omega) (by omega)) (fun j => hx4 110 j (by omega) (by omega) (by omega))
        have hR : RowM t.1 σ4 := b1.t hx4.m
        have c0 := OkT.n ok.2.2.1
        have c1 := OkT.n ok.2.2.2.1
        have c2 := OkT.n ok.2.2.2.2
        have hmod : ModT (setTx t k (txtT (pText (lwOf k) f ln).2.2.1 (pText (lwOf k) f ln).2.2.2)) σ4 := by
          unfold setTx
          by_cases k0 : k = 0
          · rw [if_pos k0]
            rw [k0] at hT4 ⊢
            exact ⟨hR, hT4, b3.k c1 hx4 (by omega), b4.k c2 hx4 (by omega), hE⟩
          · rw [if_neg k0]
            by_cases k1 : k = 1
            · rw [if_pos k1]
              rw [k1] at hT4 ⊢
              exact ⟨hR, b2.k c0 hx4 (by omega), hT4, b4.k c2 hx4 (by omega), hE⟩
            · rw [if_neg k1]
              have k2 : k = 2 := by omega
              rw [k2] at hT4 ⊢
              exact ⟨hR, b2.k c0 hx4 (by omega), b3.k c1 hx4 (by omega), hT4, hE⟩
        exact w σ4 (tJ_d8 hfin) (h.txt hfin hmod ((hx4 88 19 (by omega) (by omega) (by omega)).trans su_eq) ((hx4 88 38 (by omega) (by omega) (by omega)).trans e38) ((hx4 88 39 (by omega) (by omega) (by omega)).trans e39))
      exact B_X12_text_80 ⟨fun q => absurd q (by decide), fun _ => ⟨fun _ => B_X12_text_110 ⟨fun _ => ⟨fun _ => tk, fun q => absurd q z3⟩, fun q => by omega⟩, fun q => by omega⟩⟩
    · have ep : pLinesR (lwOf k) (kdP f ln) (nmP f ln) 17 0 [] [] = pText (lwOf k) f ln := rfl
      rw [ep] at e h3
      simp only [if_neg e] at w
      exact m_end h ok w (hD.tr (eqD.x h3.1)) (Or.inr ⟨by decide, h3.2.1, h3.2.2⟩)
  · -- what fails
    unfold textT textA textK textP at w
    simp only [if_pos z3] at w
    have hDr : DrfB [] σ2 := fun l hl => by simp at hl
    refine B_X12_readFails_0 (m_fails2 hB 9 0 [] σ2 rfl (by decide) eqF.rf hA hDr (by decide) (fun e σ3 h3 hD3 => ?_) fun e σ3 h3 => ?_)
    · have ep : pBrksR (kdP f ln) (nmP f ln) 9 0 [] = pFails f ln := rfl
      rw [ep] at e hD3 ⊢
      simp only [if_pos e] at w
      rw [e] at w
      have okb := pFails_ok hl e
      have hD4 : eqD σ (su σ3 88 19 0) := (hD.tr (eqD.f h3)).tr (eqD.of (J := [19]) (eqm.rf.s8 (by decide)) (by decide) (by decide))
      have e38 : su σ3 88 19 0 88 38 = 0 := by rw [su_ne (Or.inr (by decide)), h3.2.2.2 38 (by decide)]; exact h38
      have e39 : su σ3 88 19 0 88 39 = -1 := by rw [su_ne (Or.inr (by decide)), h3.2.2.2 39 (by decide)]; exact h39
      have hD5 : DrfB (pFails f ln).2.2 (su σ3 88 19 0) := hD3.m (J := [19]) (eqm.rf.s8 (by decide))
      have tk : XX g true (d + 39) P_X12_takesFails 0 [(2, 88), (0, ((pFails f ln).2.2.length : Int)), (9, 0), (9, 0)] [] 136 (su σ3 88 19 0) 136 (fun _ σ1 => (XX g true (d + 40) P_X12_text 136 [(9, 0), (9, 0), (9, 0), (0, ((pFails f ln).2.2.length : Int))] [] 136 σ1 136 Q)) := by
        refine s_takesFails okb hD5 fun σ4 hx4 hE4 => B_X12_text_136 ?_
        have hfin : eqm tL tJ σ σ4 := tt_tr hD4.m hx4.m
        obtain ⟨b1, b2, b3, b4, b5⟩ := h.1.d ok hD4
        have cT : ∀ {q : Int} {T : PS}, TxtM q T (su σ3 88 19 0) → TxtM q T σ4 := fun hT => hT.same fun a a1 a2 j => hx4 a j (by omega) (by omega) (by omega)
        have hmod : ModT (setBr t (brkE (pFails f ln).2.2)) σ4 := ⟨b1.t hx4.m, cT b2, cT b3, cT b4, hE4⟩
        exact w σ4 (tJ_d8 hfin) (h.txt hfin hmod ((hx4 88 19 (by omega) (by omega) (by omega)).trans su_eq) ((hx4 88 38 (by omega) (by omega) (by omega)).trans e38) ((hx4 88 39 (by omega) (by omega) (by omega)).trans e39))
      exact B_X12_text_80 ⟨fun q => absurd q (by decide), fun _ => ⟨fun _ => B_X12_text_110 ⟨fun _ => ⟨fun q => absurd z3 q, fun _ => tk⟩, fun q => by omega⟩, fun q => by omega⟩⟩
    · have ep : pBrksR (kdP f ln) (nmP f ln) 9 0 [] = pFails f ln := rfl
      rw [ep] at e h3
      simp only [if_neg e] at w
      exact m_end h ok w (hD.tr (eqD.f h3.1)) (Or.inr ⟨by decide, h3.2.1, h3.2.2⟩)
  · -- no such text
    unfold textT textA textK textP at w
    have n3 : ¬ k = 3 := by omega
    simp only [if_neg n3, if_neg z] at w
    exact m_end h ok w hD (Or.inl ⟨rfl, h38, h39⟩)
end PTEXTG
