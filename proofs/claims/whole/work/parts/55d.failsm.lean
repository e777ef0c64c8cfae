/-! WHAT FAILS, told: the model -/
def eqF (σ0 σ : PS) : Prop := (∀ a j : Int, a ≠ 88 → ¬ (107 ≤ a ∧ a ≤ 110) → σ a j = σ0 a j) ∧ (∀ j : Int, j < 8 → σ 107 j = σ0 107 j ∧ σ 108 j = σ0 108 j ∧ σ 109 j = σ0 109 j) ∧ (∀ j : Int, j < 64 → σ 110 j = σ0 110 j) ∧ ∀ j : Int, j ∉ exJ → σ 88 j = σ0 88 j
theorem eqF.rf {σ : PS} : eqF σ σ := ⟨fun _ _ _ _ => rfl, fun _ _ => ⟨rfl, rfl, rfl⟩, fun _ _ => rfl, fun _ _ => rfl⟩
theorem eqF.m {σ σ' σ'' : PS} {J : List Int} (h : eqF σ σ') (h2 : eqm [] J σ' σ'') (hJ : ∀ j ∈ J, j ∈ exJ) : eqF σ σ'' := by
  obtain ⟨a1, a2, a3, a4⟩ := h
  have e : ∀ a j, a ≠ 88 → σ'' a j = σ' a j := fun a j ha => h2.1 a (by simp) ha j
  refine ⟨fun a j h3 h4 => (e a j h3).trans (a1 a j h3 h4), fun j hj => ?_, fun j hj => (e 110 j (by decide)).trans (a3 j hj), fun j hj => (h2.2 j fun z => hj (hJ j z)).trans (a4 j hj)⟩
  rw [e 107 j (by decide), e 108 j (by decide), e 109 j (by decide)]
  exact a2 j hj
theorem eqF.su {σ σ' : PS} {a j v : Int} (h : eqF σ σ') (ha : (107 ≤ a ∧ a ≤ 109 ∧ 8 ≤ j) ∨ (a = 110 ∧ 64 ≤ j)) : eqF σ (su σ' a j v) := by
  obtain ⟨a1, a2, a3, a4⟩ := h
  refine ⟨fun b i h3 h4 => by rw [su_ne (Or.inl (by omega))]; exact a1 b i h3 h4, fun i hi => ?_, fun i hi => by rw [su_ne (by omega)]; exact a3 i hi, fun i hi => by rw [su_ne (Or.inl (by omega))]; exact a4 i hi⟩
  rw [su_ne (by omega), su_ne (by omega), su_ne (by omega)]
  exact a2 i hi
def LineM (l : Nat) (F : FL) (σ : PS) : Prop := σ 107 (8 + l) = F.1 ∧ σ 108 (8 + l) = F.2.1 ∧ (F.1 = 3 → σ 109 (8 + l) = F.2.2.1) ∧ (F.1 = 5 → ∀ k : Nat, k < F.2.2.2.length → k < 8 → σ 110 (64 + 8 * l + k) = F.2.2.2.getD k 0)
def DrfB (Fs : List FL) (σ : PS) : Prop := ∀ l : Nat, l < Fs.length → LineM l (Fs.getD l dFL) σ
theorem LineM.m {l : Nat} {F : FL} {σ σ' : PS} {J : List Int} (h : LineM l F σ) (hx : eqm [] J σ σ') : LineM l F σ' := by
  have e : ∀ a j, a ≠ 88 → σ' a j = σ a j := fun a j ha => hx.1 a (by simp) ha j
  obtain ⟨a1, a2, a3, a4⟩ := h
  exact ⟨(e 107 _ (by decide)).trans a1, (e 108 _ (by decide)).trans a2, fun q => (e 109 _ (by decide)).trans (a3 q), fun q k k1 k2 => (e 110 _ (by decide)).trans (a4 q k k1 k2)⟩
theorem LineM.su {l l0 : Nat} {F : FL} {σ : PS} {a j v : Int} (h : LineM l F σ) (hl : l < l0) (ha : (107 ≤ a ∧ a ≤ 109 ∧ j = 8 + l0) ∨ (a = 110 ∧ 64 + 8 * (l0 : Int) ≤ j)) : LineM l F (su σ a j v) := by
  obtain ⟨a1, a2, a3, a4⟩ := h
  refine ⟨by rw [su_ne (by omega)]; exact a1, by rw [su_ne (by omega)]; exact a2, fun q => by rw [su_ne (by omega)]; exact a3 q, fun q k k1 k2 => by rw [su_ne (by omega)]; exact a4 q k k1 k2⟩
theorem DrfB.m {Fs : List FL} {σ σ' : PS} {J : List Int} (h : DrfB Fs σ) (hx : eqm [] J σ σ') : DrfB Fs σ' := fun l hl => (h l hl).m hx
theorem DrfB.su {Fs : List FL} {σ : PS} {a j v : Int} (h : DrfB Fs σ) (ha : (107 ≤ a ∧ a ≤ 109 ∧ j = 8 + (Fs.length : Int)) ∨ (a = 110 ∧ 64 + 8 * (Fs.length : Int) ≤ j)) : DrfB Fs (su σ a j v) := fun l hl => (h l hl).su hl ha
theorem DrfB.add {Fs : List FL} {F : FL} {σ : PS} (h : DrfB Fs σ) (hF : LineM Fs.length F σ) : DrfB (Fs ++ [F]) σ := fun l hl => by
  rw [List.length_append, List.length_singleton] at hl
  by_cases z : l = Fs.length
  · subst z; rw [getD_e]; exact hF
  · rw [getD_l (by omega)]; exact h l (by omega)
def FltF (f : Int → Int) (ln : Int) (σ0 : PS) (k : Int) (i : Nat) (σ : PS) : Prop := eqF σ0 σ ∧ σ 88 36 = k ∧ σ 88 37 = stP f ln i
section PFAILM
variable {g : PG} {d : Nat} {f : Int → Int} {ln : Int} {cnt : Nat} {lw : Bool} {σ0 σ : PS} {Q : Int → PS → Prop}
theorem m_reads (hB : BasM f ln cnt lw σ0) (hx : eqF σ0 σ) {c : Nat} (hA : AtM f ln c σ) (w : ∀ σ', eqm [] rdJ σ σ' → AtM f ln (c + 1) σ' → Q 0 σ') : XX g true (d + 2) P_X12_reads 0 [(2, 88), (9, 0)] [] 136 σ 136 Q := by
  obtain ⟨⟨a1, a2⟩, a3, a4, a5, -⟩ := hB
  refine s_reads ⟨by rw [hx.2.2.2 19 (by decide)]; exact a1, fun i i0 i1 => by rw [hx.1 98 i (by decide) (by decide)]; exact a2 i i0 i1⟩ (fun i hi => by rw [hx.1 99 i (by decide) (by decide)]; exact a3 i hi) a4 a5 hA.2.2.1 hA.2.2.2 w
theorem m_errs (hx : eqF σ0 σ) {c : Nat} {k : Int} (hA : AtM f ln c σ) (w : ∀ σ', FltF f ln σ0 k c σ' → Q (-1) σ') : XX g true d P_X12_errs 0 [(2, 88), (0, k)] [] 136 σ 136 Q := by
  refine B_X12_errs_0 ?_
  rw [hA.1]
  exact w _ ⟨hx.m (J := [36, 37]) ((eqm.rf.s8 (by decide)).s8 (by decide)) (by decide), by rw [su_ne (Or.inr (by decide)), su_eq], su_eq⟩
theorem m_number (hB : BasM f ln cnt lw σ0) (hx : eqF σ0 σ) {c : Nat} {least : Int} (hA : AtM f ln c σ) (w1 : (pNum (kdP f ln) (nmP f ln) least c).1 = 0 → ∀ σ', eqm [] rdJ σ σ' → AtM f ln (c + 1) σ' → Q (nmP f ln c) σ') (w0 : (pNum (kdP f ln) (nmP f ln) least c).1 ≠ 0 → ∀ σ', FltF f ln σ0 (pNum (kdP f ln) (nmP f ln) least c).1 (pNum (kdP f ln) (nmP f ln) least c).2 σ' → Q (-1) σ') : XX g true (d + 3) P_X12_readNumber 0 [(2, 88), (0, least), (9, 0)] [] 136 σ 136 Q := by
  have hT := hA.2.1
  unfold pNum at w1 w0
  refine B_X12_readNumber_0 ⟨fun z => ?_, fun z => ?_⟩
  · have hk := hT.num.1.mp z
    have hv := hT.num.2 hk
    rw [hv]
    refine s_isIn ⟨fun z1 y3 e3 => ?_, fun z1 => ?_⟩
    · have c0 := isIn_pos z1
      rw [if_neg (fun q => q hk), if_neg (by omega)] at w1
      rw [e3, hv]
      exact m_reads hB hx hA fun σ1 hx1 hA1 => w1 rfl σ1 hx1 hA1
    · have c0 := isIn_neg z1
      rw [if_neg (fun q => q hk), if_pos (by omega)] at w0
      exact m_errs hx hA fun σ1 h1 => w0 (show ¬ (2 : Int) = 0 by decide) σ1 h1
  · rw [if_pos (fun q => z (hT.num.1.mpr q))] at w0
    exact m_errs hx hA fun σ1 h1 => w0 (show ¬ (1 : Int) = 0 by decide) σ1 h1
theorem wm_shp : ∀ v : Nat, v < 24 → (isShp (wmap v) = true ↔ 6 ≤ v ∧ v ≤ 8) ∧ (isShp (wmap v) = true → sgnOf (wmap v) = v) ∧ (isBrk (wmap v) = true ↔ v = 2 ∨ v = 3 ∨ v = 5) := by decide
theorem TokM.shp {k n tk vl : Int} (h : TokM k n tk vl) : (isShp k = true ↔ tk = 2 ∧ 6 ≤ vl ∧ vl ≤ 8) ∧ (isShp k = true → sgnOf k = vl) ∧ (isBrk k = true ↔ tk = 2 ∧ (vl = 2 ∨ vl = 3 ∨ vl = 5)) := by
  have no : ¬ (256 ≤ k) → tk ≠ 2 → (isShp k = true ↔ tk = 2 ∧ 6 ≤ vl ∧ vl ≤ 8) ∧ (isShp k = true → sgnOf k = vl) ∧ (isBrk k = true ↔ tk = 2 ∧ (vl = 2 ∨ vl = 3 ∨ vl = 5)) := fun hk ht => by
    refine ⟨⟨fun q => ?_, fun q => absurd q.1 ht⟩, fun q => ?_, ⟨fun q => ?_, fun q => absurd q.1 ht⟩⟩
    · have := isShp_iff.mp q; omega
    · have := isShp_iff.mp q; omega
    · have := isBrk_iff.mp q; omega
  rcases h with z | z | z | z | z
  · exact no (by omega) (by omega)
  · exact no (by omega) (by omega)
  · exact no (by omega) (by omega)
  · have := isSy_iff.mp z.1
    exact no (by omega) (by omega)
  · have hw := wm_shp vl.toNat (by omega)
    rw [show ((vl.toNat : Nat) : Int) = vl by omega, ← z.2.2.2] at hw
    refine ⟨⟨fun q => ⟨z.1, by have := hw.1.mp q; omega⟩, fun q => hw.1.mpr (by omega)⟩, fun q => hw.2.1 q, ⟨fun q => ⟨z.1, by have := hw.2.2.mp q; omega⟩, fun q => hw.2.2.mpr (by omega)⟩⟩
theorem m_shape (hB : BasM f ln cnt lw σ0) {Fs : List FL} (h8 : Fs.length < 8) : ∀ (n c : Nat) (A : List Int) (σ : PS), A.length + n = 9 → A.length ≤ 8 → eqF σ0 σ → AtM f ln c σ → DrfB Fs σ → σ 107 (8 + (Fs.length : Int)) = 5 → (∀ k : Nat, k < A.length → σ 110 (64 + 8 * (Fs.length : Int) + k) = A.getD k 0) → c ≤ cnt → ((pShp (kdP f ln) n c A).1 = 0 → ∀ σ', eqF σ0 σ' → AtM f ln (pShp (kdP f ln) n c A).2.1 σ' → DrfB Fs σ' → σ' 107 (8 + (Fs.length : Int)) = 5 → (∀ k : Nat, k < (pShp (kdP f ln) n c A).2.2.length → σ' 110 (64 + 8 * (Fs.length : Int) + k) = (pShp (kdP f ln) n c A).2.2.getD k 0) → Q (pShp (kdP f ln) n c A).2.2.length σ') → ((pShp (kdP f ln) n c A).1 ≠ 0 → ∀ σ', FltF f ln σ0 (pShp (kdP f ln) n c A).1 (pShp (kdP f ln) n c A).2.1 σ' → Q (-1) σ') → XX g true (d + 3) P_X12_readShape 2 [(2, 88), (0, 8 + (Fs.length : Int)), (0, (A.length : Int))] [] 136 σ 136 Q := by
  intro n
  induction n with
  | zero => intro c A σ hA hA8; omega
  | succ n ih =>
    intro c A σ hA hA8 hx hAt hD h5 hsh hc w1 w0
    rw [pShp_succ] at w1 w0
    obtain ⟨t1, t2, -⟩ := hAt.2.1.shp
    have stop : ¬ isShp (kdP f ln c) = true → (((A.length : Int) ≠ 0 → Q (A.length : Int) σ) ∧ ((A.length : Int) = 0 → XX g true (d + 2) P_X12_errs 0 [(2, 88), (0, 1)] [] 136 σ 136 (fun r2 σ1 => Q r2 σ1))) := fun hn => by
      rw [if_neg hn] at w1 w0
      refine ⟨fun z => ?_, fun z => ?_⟩
      · rw [if_neg (by omega)] at w1
        exact w1 rfl σ hx hAt hD h5 hsh
      · rw [if_pos (by omega)] at w0
        exact m_errs hx hAt fun σ1 h1 => w0 (show ¬ (1 : Int) = 0 by decide) σ1 h1
    refine B_X12_readShape_2 ⟨fun z => stop fun q => z (t1.mp q).1, fun z => s_isIn ⟨fun z1 => stop fun q => isIn_neg z1 (t1.mp q).2, fun z1 => ?_⟩⟩
    have hs : isShp (kdP f ln c) = true := t1.mpr ⟨z, isIn_pos z1⟩
    have hk := isShp_iff.mp hs
    have hlt := hB.end_ c hc (by omega)
    rw [if_pos hs] at w1 w0
    refine ⟨fun z2 => ?_, fun z2 => ?_⟩
    · rw [if_neg (by omega)] at w1 w0
      rw [w32_of (x := 8 * (8 + (Fs.length : Int))) (by omega) (by omega), w32_of (x := 8 * (8 + (Fs.length : Int)) + (A.length : Int)) (by omega) (by omega), show 8 * (8 + (Fs.length : Int)) + (A.length : Int) = 64 + 8 * (Fs.length : Int) + (A.length : Int) by omega]
      refine ⟨by omega, fun y8 e8 => ?_⟩
      rw [w32_of (by omega) (by omega)] at e8
      have ex : eqF σ0 (su σ 110 (64 + 8 * (Fs.length : Int) + (A.length : Int)) (σ 88 23)) := hx.su (Or.inr ⟨rfl, by omega⟩)
      refine m_reads hB ex (hAt.na (by decide)) fun σ1 hx1 hA1 => ?_
      have el : ((((A ++ [sgnOf (kdP f ln c)]).length : Nat)) : Int) = (A.length : Int) + 1 := by rw [List.length_append, List.length_singleton]; omega
      rw [e8, ← el]
      refine ih (c + 1) (A ++ [sgnOf (kdP f ln c)]) σ1 (by rw [List.length_append, List.length_singleton]; omega) (by rw [List.length_append, List.length_singleton]; omega) (ex.m hx1 (by decide)) hA1 ((hD.su (Or.inr ⟨rfl, by omega⟩)).m hx1) ?_ (fun k hk2 => ?_) (by omega) w1 w0
      · rw [hx1.1 107 (by simp) (by decide), su_ne (Or.inl (by decide))]; exact h5
      · rw [List.length_append, List.length_singleton] at hk2
        rw [hx1.1 110 (by simp) (by decide)]
        by_cases q : k = A.length
        · subst q
          rw [getD_e, su_eq]
          exact (t2 hs).symm
        · rw [getD_l (by omega), su_ne (Or.inr (by omega))]
          exact hsh k (by omega)
    · rw [if_pos (by omega)] at w0
      exact m_errs hx hAt fun σ1 h1 => w0 (show ¬ (3 : Int) = 0 by decide) σ1 h1
theorem m_readFail (hB : BasM f ln cnt lw σ0) {Fs : List FL} (h8 : Fs.length < 8) {c : Nat} (hx : eqF σ0 σ) (hA : AtM f ln c σ) (hD : DrfB Fs σ) (hc : c ≤ cnt) (hb : isBrk (kdP f ln c) = true)
    (wb : (pBrk (kdP f ln) (nmP f ln) c).1 ≠ 0 → ∀ σ', FltF f ln σ0 (pBrk (kdP f ln) (nmP f ln) c).1 (pBrk (kdP f ln) (nmP f ln) c).2.1 σ' → Q (-1) σ')
    (wk : (pBrk (kdP f ln) (nmP f ln) c).1 = 0 → ∀ (r : Int) (σ' : PS), r ≠ -1 → eqF σ0 σ' → AtM f ln (pBrk (kdP f ln) (nmP f ln) c).2.1 σ' → DrfB (Fs ++ [(pBrk (kdP f ln) (nmP f ln) c).2.2]) σ' → Q r σ') :
    XX g true (d + 4) P_X12_readFail 0 [(2, 88), (0, 8 + (Fs.length : Int))] [] 136 σ 136 Q := by
  have hkb := isBrk_iff.mp hb
  have hlt := hB.end_ c hc (by omega)
  obtain ⟨-, -, t3⟩ := hA.2.1.shp
  obtain ⟨v1, v2⟩ := t3.mp hb
  have hw2 := hA.2.1.word (v := 2) (by decide) (by decide)
  have hw3 := hA.2.1.word (v := 3) (by decide) (by decide)
  have hw5 := hA.2.1.word (v := 5) (by decide) (by decide)
  have u2 : wmap 2 = 274 := rfl
  have u3 : wmap 3 = 275 := rfl
  have u5 : wmap 5 = 277 := rfl
  rw [u2] at hw2
  rw [u3] at hw3
  rw [u5] at hw5
  have fl : ∀ {σa : PS} {k : Int} {i : Nat} {a v : Int}, (107 ≤ a ∧ a ≤ 109) → FltF f ln σ0 k i σa → FltF f ln σ0 k i (su σa a (8 + (Fs.length : Int)) v) := fun ha h => ⟨h.1.su (Or.inl ⟨ha.1, ha.2, by omega⟩), by rw [su_ne (Or.inl (by omega))]; exact h.2.1, by rw [su_ne (Or.inl (by omega))]; exact h.2.2⟩
  refine B_X12_readFail_0 ⟨by omega, ?_⟩
  have hx1 : eqF σ0 (su σ 107 (8 + (Fs.length : Int)) (σ 88 23)) := hx.su (Or.inl ⟨by omega, by omega, by omega⟩)
  have hD1 : DrfB Fs (su σ 107 (8 + (Fs.length : Int)) (σ 88 23)) := hD.su (Or.inl ⟨by omega, by omega, rfl⟩)
  refine m_reads hB hx1 (hA.na (by decide)) fun σ2 hx2 hA2 => ?_
  have e107 : σ2 107 (8 + (Fs.length : Int)) = σ 88 23 := by rw [hx2.1 107 (by simp) (by decide), su_eq]
  have hx2' := hx1.m hx2 (by decide)
  have hD2 := hD1.m hx2
  rw [e107]
  refine ⟨fun z => ?_, fun z => ?_⟩
  · -- side or any
    have hn7 : kdP f ln c ≠ 277 := fun q => z (hw5.mpr q).2
    refine m_number hB hx2' hA2 (fun e σ4 hx4 hA4 => ⟨fun q => ?_, fun _ => ?_⟩) (fun e σ4 h4 => ⟨fun _ => ?_, fun q => absurd rfl q⟩)
    · have := (pNum_ok e).2.1
      rw [q] at this
      exact absurd this (by decide)
    · obtain ⟨n1, n2, n3, n4⟩ := pNum_ok e
      have hx4' := hx2'.m hx4 (by decide)
      have e107' : σ4 107 (8 + (Fs.length : Int)) = σ 88 23 := by rw [hx4.1 107 (by simp) (by decide)]; exact e107
      have hx5 : eqF σ0 (su σ4 108 (8 + (Fs.length : Int)) (nmP f ln (c + 1))) := hx4'.su (Or.inl ⟨by omega, by omega, by omega⟩)
      have hD5 : DrfB Fs (su σ4 108 (8 + (Fs.length : Int)) (nmP f ln (c + 1))) := (hD2.m hx4).su (Or.inl ⟨by omega, by omega, rfl⟩)
      have hA5 : AtM f ln (c + 1 + 1) (su σ4 108 (8 + (Fs.length : Int)) (nmP f ln (c + 1))) := hA4.na (by decide)
      have g107 : su σ4 108 (8 + (Fs.length : Int)) (nmP f ln (c + 1)) 107 (8 + (Fs.length : Int)) = σ 88 23 := by rw [su_ne (Or.inl (by decide))]; exact e107'
      have g108 : su σ4 108 (8 + (Fs.length : Int)) (nmP f ln (c + 1)) 108 (8 + (Fs.length : Int)) = nmP f ln (c + 1) := su_eq
      rw [e107']
      generalize su σ4 108 (8 + (Fs.length : Int)) (nmP f ln (c + 1)) = σ5 at *
      refine ⟨fun q => ?_, fun q => ?_⟩
      · have hk3 : kdP f ln c = 275 := by
          have h1 : kdP f ln c ≠ 274 := fun q2 => q (hw2.mpr q2).2
          omega
        have hlt1 := hB.end_ (c + 1) (by omega) (by omega)
        have u4 : wmap 4 = 276 := rfl
        refine s_isWord hA5 (by decide) (by decide) (fun q3 => ⟨fun _ => ?_, fun q4 => absurd q4 (by decide)⟩) fun q3 => ⟨fun q4 => absurd rfl q4, fun _ => ?_⟩
        · rw [u4] at q3
          have hlt2 := hB.end_ (c + 2) (by omega) (by rw [show c + 2 = c + 1 + 1 from rfl, q3]; decide)
          refine m_reads hB hx5 hA5 fun σ8 hx8 hA8 => ?_
          have hx8' := hx5.m hx8 (by decide)
          have g8 : σ8 108 (8 + (Fs.length : Int)) = nmP f ln (c + 1) := by rw [hx8.1 108 (by simp) (by decide)]; exact g108
          rw [g8]
          refine m_number hB hx8' hA8 (fun e9 σ9 hx9 hA9 => ?_) fun e9 σ9 h9 => ?_
          · obtain ⟨m1, m2, m3, m4⟩ := pNum_ok e9
            have ep : pBrk (kdP f ln) (nmP f ln) c = (0, c + 4, (3, nmP f ln (c + 1), nmP f ln (c + 3), [])) := by unfold pBrk; rw [if_neg hn7, if_neg (fun q => q e), if_neg (by omega), if_neg (fun q => q q3), if_neg (fun q => q e9)]
            rw [ep] at wk
            refine wk rfl (nmP f ln (c + 3)) _ (by have : (1 : Int) ≤ nmP f ln (c + 3) := Int.le_trans n2 m2; omega) ((hx8'.m hx9 (by decide)).su (Or.inl ⟨by omega, by omega, by omega⟩)) (hA9.na (by decide)) (DrfB.add (((hD5.m hx8).m hx9).su (Or.inl ⟨by omega, by omega, rfl⟩)) ⟨?_, ?_, fun _ => su_eq, fun q9 => absurd q9 (show ¬ (3 : Int) = 5 by decide)⟩)
            · rw [su_ne (Or.inl (by decide)), hx9.1 107 (by simp) (by decide), hx8.1 107 (by simp) (by decide)]
              exact g107.trans (hw3.mpr hk3).2
            · rw [su_ne (Or.inl (by decide)), hx9.1 108 (by simp) (by decide)]
              exact g8
          · have ep : pBrk (kdP f ln) (nmP f ln) c = ((pNum (kdP f ln) (nmP f ln) (nmP f ln (c + 1)) (c + 3)).1, (pNum (kdP f ln) (nmP f ln) (nmP f ln (c + 1)) (c + 3)).2, (0, 0, 0, [])) := by unfold pBrk; rw [if_neg hn7, if_neg (fun q => q e), if_neg (by omega), if_neg (fun q => q q3), if_pos e9]
            rw [ep] at wb
            exact wb e9 _ (fl (by omega) h9)
        · rw [u4] at q3
          have ep : pBrk (kdP f ln) (nmP f ln) c = (1, c + 2, (0, 0, 0, [])) := by unfold pBrk; rw [if_neg hn7, if_neg (fun q => q e), if_neg (by omega), if_pos q3]
          rw [ep] at wb
          exact m_errs hx5 hA5 fun σ8 h8' => wb (show ¬ (1 : Int) = 0 by decide) σ8 h8'
      · have hk2 : kdP f ln c = 274 := hw2.mp ⟨v1, q⟩
        have ep : pBrk (kdP f ln) (nmP f ln) c = (0, c + 2, (2, nmP f ln (c + 1), 0, [])) := by unfold pBrk; rw [if_neg hn7, if_neg (fun q => q e), if_pos hk2]
        rw [ep] at wk
        exact wk rfl (nmP f ln (c + 1)) σ5 (by omega) hx5 hA5 (DrfB.add hD5 ⟨g107.trans q, g108, fun q9 => absurd q9 (show ¬ (2 : Int) = 3 by decide), fun q9 => absurd q9 (show ¬ (2 : Int) = 5 by decide)⟩)
    · have ep : pBrk (kdP f ln) (nmP f ln) c = ((pNum (kdP f ln) (nmP f ln) 1 (c + 1)).1, (pNum (kdP f ln) (nmP f ln) 1 (c + 1)).2, (0, 0, 0, [])) := by unfold pBrk; rw [if_neg hn7, if_pos e]
      rw [ep] at wb
      exact wb e _ (fl (by omega) h4)
  · -- a shape
    have hk7 : kdP f ln c = 277 := hw5.mp ⟨v1, z⟩
    refine B_X12_readShape_0 (m_shape hB h8 9 (c + 1) [] σ2 (by decide) (by decide) hx2' hA2 hD2 (by rw [e107]; exact z) (fun k hk => by simp at hk) (by omega) (fun e σ4 hx4 hA4 hD4 h5 hsh => ?_) fun e σ4 h4 => ?_)
    · have ep : pBrk (kdP f ln) (nmP f ln) c = (0, (pShp (kdP f ln) 9 (c + 1) []).2.1, (5, ((pShp (kdP f ln) 9 (c + 1) []).2.2.length : Int), 0, (pShp (kdP f ln) 9 (c + 1) []).2.2)) := by unfold pBrk; rw [if_pos hk7, if_neg (fun q => q e)]
      rw [ep] at wk
      refine wk rfl _ _ (by omega) (hx4.su (Or.inl ⟨by omega, by omega, by omega⟩)) (hA4.na (by decide)) (DrfB.add (hD4.su (Or.inl ⟨by omega, by omega, rfl⟩)) ⟨?_, su_eq, fun q9 => absurd q9 (show ¬ (5 : Int) = 3 by decide), fun _ k k1 _ => ?_⟩)
      · rw [su_ne (Or.inl (by decide))]; exact h5
      · rw [su_ne (Or.inl (by decide))]; exact hsh k k1
    · have ep : pBrk (kdP f ln) (nmP f ln) c = ((pShp (kdP f ln) 9 (c + 1) []).1, (pShp (kdP f ln) 9 (c + 1) []).2.1, (0, 0, 0, [])) := by unfold pBrk; rw [if_pos hk7, if_pos e]
      rw [ep] at wb
      exact wb e _ (fl (by omega) h4)
theorem m_fails2 (hB : BasM f ln cnt lw σ0) : ∀ (m c : Nat) (Fs : List FL) (σ : PS), Fs.length + m = 9 → Fs.length ≤ 8 → eqF σ0 σ → AtM f ln c σ → DrfB Fs σ → c ≤ cnt → ((pBrksR (kdP f ln) (nmP f ln) m c Fs).1 = 0 → ∀ σ', eqF σ0 σ' → DrfB (pBrksR (kdP f ln) (nmP f ln) m c Fs).2.2 σ' → Q (pBrksR (kdP f ln) (nmP f ln) m c Fs).2.2.length σ') → ((pBrksR (kdP f ln) (nmP f ln) m c Fs).1 ≠ 0 → ∀ σ', FltF f ln σ0 (pBrksR (kdP f ln) (nmP f ln) m c Fs).1 (pBrksR (kdP f ln) (nmP f ln) m c Fs).2.1 σ' → Q (-1) σ') → XX g true (d + 5) P_X12_readFails 2 [(2, 88), (0, (Fs.length : Int))] [] 136 σ 136 Q := by
  intro m
  induction m with
  | zero => intro c Fs σ hm h8; omega
  | succ m ih =>
    intro c Fs σ hm h8 hx hA hD hc w1 w0
    rw [pBrksR_succ] at w1 w0
    obtain ⟨-, -, t3⟩ := hA.2.1.shp
    have hfin := hA.2.1.fin
    have stop : ¬ isBrk (kdP f ln c) = true → ((σ 88 22 ≠ 0 → XX g true (d + 4) P_X12_errs 0 [(2, 88), (0, 1)] [] 136 σ 136 (fun r2 σ1 => Q r2 σ1)) ∧ (σ 88 22 = 0 → Q (Fs.length : Int) σ)) := fun hn => by
      refine ⟨fun z => ?_, fun z => ?_⟩
      · have hK : kdP f ln c ≠ 0 := fun q => z (hfin.mpr q)
        rw [if_neg hK, if_pos hn] at w0
        exact m_errs hx hA fun σ1 h1 => w0 (show ¬ (1 : Int) = 0 by decide) σ1 h1
      · have hK : kdP f ln c = 0 := hfin.mp z
        rw [if_pos hK] at w1
        exact w1 rfl σ hx hD
    have body : isBrk (kdP f ln c) = true → (((Fs.length : Int) ≠ 8 → XX g true (d + 4) P_X12_readFail 0 [(2, 88), (0, w32 (8 + (Fs.length : Int)))] [] 136 σ 136 (fun r4 σ3 => ((r4 ≠ (-1) → XX g true (d + 4) P_X12_isSign 0 [(2, 88), (0, 59)] [] 136 σ3 136 (fun r6 σ5 => ((r6 ≠ 0 → XX g true (d + 4) P_X12_reads 0 [(2, 88), (9, 0)] [] 136 σ5 136 (fun _ σ7 => ∀ y9, y9 = w32 ((Fs.length : Int) + 1) → (XX g true (d + 5) P_X12_readFails 2 [(2, 88), (0, y9)] [] 136 σ7 136 Q))) ∧ (r6 = 0 → XX g true (d + 4) P_X12_errs 0 [(2, 88), (0, 1)] [] 136 σ5 136 (fun r11 σ10 => Q r11 σ10))))) ∧ (r4 = (-1) → Q (-1) σ3)))) ∧ ((Fs.length : Int) = 8 → XX g true (d + 4) P_X12_errs 0 [(2, 88), (0, 3)] [] 136 σ 136 (fun r13 σ12 => Q r13 σ12))) := by
      intro hb
      have hkb := isBrk_iff.mp hb
      have hK : kdP f ln c ≠ 0 := by omega
      have hlt := hB.end_ c hc hK
      rw [if_neg hK, if_neg (fun q => q hb)] at w1 w0
      refine ⟨fun z => ?_, fun z => ?_⟩
      · rw [if_neg (by omega)] at w1 w0
        rw [w32_of (by omega) (by omega)]
        refine m_readFail hB (by omega) hx hA hD hc hb (fun e σ3 h3 => ⟨fun q => absurd rfl q, fun _ => ?_⟩) fun e r σ3 hr hx3 hA3 hD3 => ⟨fun _ => ?_, fun q => absurd q hr⟩
        · rw [if_pos e] at w0
          exact w0 e σ3 h3
        · rw [if_neg (fun q => q e)] at w1 w0
          have hp := (pBrk_ok hB.end_ hlt hb e).1
          refine s_isSign hA3 (by decide) (fun q => ⟨fun _ => ?_, fun q2 => absurd q2 (by decide)⟩) fun q => ⟨fun q2 => absurd rfl q2, fun _ => ?_⟩
          · rw [if_neg (fun q2 => q2 q)] at w1 w0
            have hlt2 := hB.end_ _ hp (by rw [q]; decide)
            have el : (((Fs ++ [(pBrk (kdP f ln) (nmP f ln) c).2.2]).length : Nat) : Int) = (Fs.length : Int) + 1 := by rw [List.length_append, List.length_singleton]; omega
            refine m_reads hB hx3 hA3 fun σ7 hx7 hA7 y9 e9 => ?_
            rw [e9, w32_of (by omega) (by omega), ← el]
            exact ih _ _ σ7 (by rw [List.length_append, List.length_singleton]; omega) (by rw [List.length_append, List.length_singleton]; omega) (hx3.m hx7 (by decide)) hA7 (hD3.m hx7) (by omega) w1 w0
          · rw [if_pos q] at w0
            exact m_errs hx3 hA3 fun σ7 h7 => w0 (show ¬ (1 : Int) = 0 by decide) σ7 h7
      · rw [if_pos (by omega)] at w0
        exact m_errs hx hA fun σ1 h1 => w0 (show ¬ (3 : Int) = 0 by decide) σ1 h1
    refine B_X12_readFails_2 ⟨fun z => stop fun q => z (t3.mp q).1, fun z => ⟨fun z1 => body (t3.mpr ⟨z, Or.inl z1⟩), fun z1 => ⟨fun z2 => body (t3.mpr ⟨z, Or.inr (Or.inl z2)⟩), fun z2 => ⟨fun z3 => stop fun q => by have := (t3.mp q).2; omega, fun z3 => body (t3.mpr ⟨z, Or.inr (Or.inr z3)⟩)⟩⟩⟩⟩
end PFAILM
