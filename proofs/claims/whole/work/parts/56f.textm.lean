/-! TEXT: what it answers and leaves; the model -/
abbrev tJ : List Int := [0, 19, 20, 21, 22, 23, 31, 32, 33, 35, 36, 37, 38, 39, 40]
abbrev tL : List Int := [100, 101, 102, 103, 104, 105, 106, 107, 108, 109, 110]
def eqD (σ σ' : PS) : Prop := (∀ a j : Int, a ≠ 88 → ¬ (101 ≤ a ∧ a ≤ 110) → σ' a j = σ a j) ∧ (∀ j : Int, j < 48 → σ' 101 j = σ 101 j ∧ σ' 102 j = σ 102 j ∧ σ' 103 j = σ 103 j) ∧ (∀ j : Int, j < 1500 → σ' 104 j = σ 104 j ∧ σ' 105 j = σ 105 j) ∧ (∀ j : Int, j < 8 → σ' 107 j = σ 107 j ∧ σ' 108 j = σ 108 j ∧ σ' 109 j = σ 109 j) ∧ (∀ j : Int, j < 64 → σ' 110 j = σ 110 j) ∧ (∀ j : Int, j ∉ tJ → σ' 88 j = σ 88 j) ∧ σ' 88 40 = σ 88 40
theorem eqD.of {σ σ' : PS} {J : List Int} (h : eqm [] J σ σ') (hJ : ∀ j ∈ J, j ∈ tJ) (h40 : (40 : Int) ∉ J) : eqD σ σ' := by
  have e : ∀ a j, a ≠ 88 → σ' a j = σ a j := fun a j ha => h.1 a (by simp) ha j
  exact ⟨fun a j h1 _ => e a j h1, fun j _ => ⟨e _ _ (by decide), e _ _ (by decide), e _ _ (by decide)⟩, fun j _ => ⟨e _ _ (by decide), e _ _ (by decide)⟩, fun j _ => ⟨e _ _ (by decide), e _ _ (by decide), e _ _ (by decide)⟩, fun j _ => e _ _ (by decide), fun j hj => h.2 j fun z => hj (hJ j z), h.2 40 h40⟩
theorem eqD.tr {σ σ' σ'' : PS} (h : eqD σ σ') (h2 : eqD σ' σ'') : eqD σ σ'' := by
  obtain ⟨a1, a2, a3, a4, a5, a6, a7⟩ := h
  obtain ⟨b1, b2, b3, b4, b5, b6, b7⟩ := h2
  exact ⟨fun a j c1 c2 => (b1 a j c1 c2).trans (a1 a j c1 c2), fun j c => ⟨(b2 j c).1.trans (a2 j c).1, (b2 j c).2.1.trans (a2 j c).2.1, (b2 j c).2.2.trans (a2 j c).2.2⟩, fun j c => ⟨(b3 j c).1.trans (a3 j c).1, (b3 j c).2.trans (a3 j c).2⟩, fun j c => ⟨(b4 j c).1.trans (a4 j c).1, (b4 j c).2.1.trans (a4 j c).2.1, (b4 j c).2.2.trans (a4 j c).2.2⟩, fun j c => (b5 j c).trans (a5 j c), fun j c => (b6 j c).trans (a6 j c), b7.trans a7⟩
theorem tJ_ex {j : Int} (h : j ∉ tJ) : j ∉ exJ ∧ j ≠ 33 ∧ j ≠ 35 := by
  simp only [List.mem_cons, List.not_mem_nil, or_false, not_or] at h ⊢
  omega
theorem eqD.x {σ σ' : PS} (h : eqX σ σ') : eqD σ σ' := by
  obtain ⟨a1, a2, a3, a4⟩ := h
  refine ⟨fun a j c1 c2 => a1 a j c1 (by omega), a2, a3, fun j _ => ⟨a1 _ _ (by decide) (by decide), a1 _ _ (by decide) (by decide), a1 _ _ (by decide) (by decide)⟩, fun j _ => a1 _ _ (by decide) (by decide), fun j hj => ?_, a4 40 (by decide) (by decide) (by decide)⟩
  obtain ⟨e1, e2, e3⟩ := tJ_ex hj
  exact a4 j e1 e2 e3
theorem eqD.f {σ σ' : PS} (h : eqF σ σ') : eqD σ σ' := by
  obtain ⟨a1, a2, a3, a4⟩ := h
  exact ⟨fun a j c1 c2 => a1 a j c1 (by omega), fun j _ => ⟨a1 _ _ (by decide) (by decide), a1 _ _ (by decide) (by decide), a1 _ _ (by decide) (by decide)⟩, fun j _ => ⟨a1 _ _ (by decide) (by decide), a1 _ _ (by decide) (by decide)⟩, a2, a3, fun j hj => a4 j (tJ_ex hj).1, a4 40 (by decide)⟩
theorem tL_out {a : Int} (h : a ∉ tL) : ¬ (100 ≤ a ∧ a ≤ 110) := fun z => by
  simp only [List.mem_cons, List.not_mem_nil, or_false, not_or] at h
  omega
theorem eqD.m {σ σ' : PS} (h : eqD σ σ') : eqm tL tJ σ σ' := ⟨fun a ha h8 j => h.1 a j h8 (fun z => tL_out ha (by omega)), h.2.2.2.2.2.1⟩
theorem eqK.m {k : Int} {σ σ' : PS} (h : eqK k σ σ') : eqm tL tJ σ σ' := ⟨fun a ha h8 j => by
  have := tL_out ha
  exact h a j (by omega) (by omega) (by omega), fun j _ => h 88 j (by omega) (by omega) (by omega)⟩
theorem eqB.m {σ σ' : PS} (h : eqB σ σ') : eqm tL tJ σ σ' := ⟨fun a ha h8 j => by
  have := tL_out ha
  exact h a j (by omega) (by omega) (by omega), fun j hj => by
  have : j ≠ 40 := fun z => hj (by rw [z]; decide)
  exact h 88 j (by omega) (by omega) (by omega)⟩
theorem tL_no {a : Int} (h : a < 100 ∨ 110 < a) : a ∉ tL := fun z => by
  simp only [List.mem_cons, List.not_mem_nil, or_false] at z
  omega
theorem tJ_no {j : Int} (h : (1 ≤ j ∧ j ≤ 18) ∨ j = 75) : j ∉ tJ := fun z => by
  simp only [List.mem_cons, List.not_mem_nil, or_false] at z
  omega
theorem RowM.t {R σ σ' : PS} (h : RowM R σ) (hx : eqm tL tJ σ σ') : RowM R σ' := h.m hx (fun a a1 a2 => tL_no (by omega)) fun j hj => tJ_no (by omega)
theorem ModT.d {t : TS} {σ σ' : PS} (h : ModT t σ) (ok : OkT t) (hx : eqD σ σ') : ModT t σ' := by
  obtain ⟨a1, a2, a3, a4, a5⟩ := h
  have hT : ∀ {k : Int} {T : PS}, (0 ≤ k ∧ k ≤ 2) → ((0 ≤ T 0 0 ∧ T 0 0 ≤ 16) ∧ 0 ≤ T 0 1 ∧ T 0 1 ≤ 500) → TxtM k T σ → TxtM k T σ' := fun hk hn h => h.fr hn (hx.1 100 _ (by decide) (by decide)) (fun j j0 j1 => hx.2.1 j (by omega)) fun j j0 j1 => hx.2.2.1 j (by omega)
  refine ⟨a1.t hx.m, hT (by decide) (OkT.n ok.2.2.1) a2, hT (by decide) (OkT.n ok.2.2.2.1) a3, hT (by decide) (OkT.n ok.2.2.2.2) a4, ?_⟩
  have f1 := a5.1
  have f2 := f1.2.1
  refine BrkRel.congr a5 hx.2.2.2.2.2.2 (fun l l0 l1 => hx.2.2.2.1 l (by omega)) fun l k l0 l1 hk => ?_
  have h2 : σ 108 l ≤ 8 := (f1.2.2 l l0 l1).2.2.1
  have hk' : (k : Int) < σ 108 l := hk
  exact hx.2.2.2.2.1 (8 * l + (k : Int)) (by omega)
theorem ModB.txt {t t' : TS} {fk fp fk' fp' ln : Int} {f : Int → Int} {im : Option TS} {σ σ' : PS} (h : ModB t fk fp ln f im σ) (hx : eqm tL tJ σ σ') (hT : ModT t' σ') (h19 : σ' 88 19 = 0) (h38 : σ' 88 38 = fk') (h39 : σ' 88 39 = fp') : ModB t' fk' fp' 0 f im σ' := by
  obtain ⟨a1, a2, a3, a4, a5⟩ := h
  exact ⟨hT, ⟨h38, h39⟩, ⟨h19, fun i i0 i1 => by omega⟩, fun i hi => by rw [hx.1 99 (tL_no (by decide)) (by decide)]; exact a4 i hi, a5.m hx (tL_no (by decide)) (tL_no (by decide)) (tJ_no (by decide))⟩
theorem tJ_d8 {σ σ' : PS} (h : eqm tL tJ σ σ') : eqd8 σ σ' := h.d8 fun a ha => tL_no (by omega)
theorem tt_tr {σ σ' σ'' : PS} (h : eqm tL tJ σ σ') (h2 : eqm tL tJ σ' σ'') : eqm tL tJ σ σ'' := ⟨fun a ha h8 j => (h2.1 a ha h8 j).trans (h.1 a ha h8 j), fun j hj => (h2.2 j hj).trans (h.2 j hj)⟩
section PTEXTM
variable {g : PG} {d : Nat} {Q : Int → PS → Prop} {t : TS} {fk fp ln : Int} {f : Int → Int} {im : Option TS} {σ : PS}
theorem m_front {k : Int} (h : ModB t fk fp ln f im σ) (hl : 0 ≤ ln ∧ ln ≤ 500) (hb : ∀ i, 0 ≤ i → i < ln → 0 ≤ f i ∧ f i ≤ 255) (w : ∀ σ2, eqD σ σ2 → BasM f ln 500 (lwOf k) σ2 → AtM f ln 0 σ2 → CodeM [] σ2 → σ2 88 33 = 0 → σ2 88 38 = 0 → σ2 88 39 = -1 → ((0 ≤ k ∧ k ≤ 3) → ((k ≠ 3 → XX g true (d + 39) P_X12_readLaw 0 [(2, 88), (9, 0)] [] 136 σ2 136 (fun r4 σ3 => (XX g true (d + 40) P_X12_text 80 [(2, 88), (0, k), (0, 1), (0, r4)] [] 136 σ3 136 Q))) ∧ (k = 3 → XX g true (d + 39) P_X12_readFails 0 [(2, 88), (9, 0)] [] 136 σ2 136 (fun r6 σ5 => (XX g true (d + 40) P_X12_text 80 [(2, 88), (0, k), (0, 1), (0, r6)] [] 136 σ5 136 Q))))) ∧ (¬ (0 ≤ k ∧ k ≤ 3) → (XX g true (d + 40) P_X12_text 80 [(2, 88), (0, k), (0, 0), (0, (-1))] [] 136 σ2 136 Q))) : XX g true (d + 40) P_X12_text 0 [(2, 88), (0, k), (9, 0), (9, 0)] [] 136 σ 136 Q := by
  obtain ⟨a1, a2, ⟨a3, a3'⟩, a4, a5⟩ := h
  -- after the front
  have go : ∀ σ1 : PS, eqm [] tJ σ σ1 → σ1 88 19 = ln → σ1 88 40 = σ 88 40 → σ1 88 20 = 0 → σ1 88 31 = lwI (lwOf k) → σ1 88 32 = 0 → σ1 88 33 = 0 → σ1 88 38 = 0 → σ1 88 39 = -1 → XX g true (d + 39) P_X12_reads 0 [(2, 88), (9, 0)] [] 136 σ1 136 (fun _ σ1 => (((if 0 ≤ k ∧ k ≤ 3 then (1 : Int) else 0) ≠ 0 → ((k ≠ 3 → XX g true (d + 39) P_X12_readLaw 0 [(2, 88), (9, 0)] [] 136 σ1 136 (fun r4 σ3 => (XX g true (d + 40) P_X12_text 80 [(2, 88), (0, k), (0, (if 0 ≤ k ∧ k ≤ 3 then (1 : Int) else 0)), (0, r4)] [] 136 σ3 136 Q))) ∧ (k = 3 → XX g true (d + 39) P_X12_readFails 0 [(2, 88), (9, 0)] [] 136 σ1 136 (fun r6 σ5 => (XX g true (d + 40) P_X12_text 80 [(2, 88), (0, k), (0, (if 0 ≤ k ∧ k ≤ 3 then (1 : Int) else 0)), (0, r6)] [] 136 σ5 136 Q))))) ∧ ((if 0 ≤ k ∧ k ≤ 3 then (1 : Int) else 0) = 0 → (XX g true (d + 40) P_X12_text 80 [(2, 88), (0, k), (0, (if 0 ≤ k ∧ k ≤ 3 then (1 : Int) else 0)), (0, (-1))] [] 136 σ1 136 Q)))) := by
    intro σ1 hx e19 e40 e20 e31 e32 e33 e38 e39
    have e : ∀ a j, a ≠ 88 → σ1 a j = σ a j := fun a j ha => hx.1 a (by simp) ha j
    have hT : TapM ln f σ1 := ⟨e19, fun i i0 i1 => by rw [e 98 i (by decide)]; exact a3' i i0 i1⟩
    have hW : WrdM σ1 := fun i hi => by rw [e 99 i (by decide)]; exact a4 i hi
    refine s_reads (m := 0) hT hW hb hl ⟨by omega, by omega⟩ (by rw [e20]; rfl) fun σ2 hx2 hA => ?_
    have e' : ∀ a j, a ≠ 88 → σ2 a j = σ1 a j := fun a j ha => hx2.1 a (by simp) ha j
    have eD : eqD σ σ2 := by
      refine ⟨fun a j c1 c2 => (e' a j c1).trans (e a j c1), fun j _ => ?_, fun j _ => ?_, fun j _ => ?_, fun j _ => (e' _ _ (by decide)).trans (e _ _ (by decide)), fun j hj => (hx2.2 j fun z => hj ?_).trans (hx.2 j hj), (hx2.2 40 (by decide)).trans e40⟩
      · exact ⟨(e' _ _ (by decide)).trans (e _ _ (by decide)), (e' _ _ (by decide)).trans (e _ _ (by decide)), (e' _ _ (by decide)).trans (e _ _ (by decide))⟩
      · exact ⟨(e' _ _ (by decide)).trans (e _ _ (by decide)), (e' _ _ (by decide)).trans (e _ _ (by decide))⟩
      · exact ⟨(e' _ _ (by decide)).trans (e _ _ (by decide)), (e' _ _ (by decide)).trans (e _ _ (by decide)), (e' _ _ (by decide)).trans (e _ _ (by decide))⟩
      · simp only [List.mem_cons, List.not_mem_nil, or_false] at z ⊢
        omega
    have hB : BasM f ln 500 (lwOf k) σ2 := ⟨⟨(hx2.2 19 (by decide)).trans e19, fun i i0 i1 => by rw [e' 98 i (by decide)]; exact hT.2 i i0 i1⟩, fun i hi => by rw [e' 99 i (by decide)]; exact hW i hi, hb, hl, ⟨st_500 hl, by decide⟩, (hx2.2 31 (by decide)).trans e31⟩
    obtain ⟨w1, w0⟩ := w σ2 eD hB hA ⟨(hx2.2 32 (by decide)).trans e32, fun i hi => by simp at hi⟩ ((hx2.2 33 (by decide)).trans e33) ((hx2.2 38 (by decide)).trans e38) ((hx2.2 39 (by decide)).trans e39)
    by_cases z : 0 ≤ k ∧ k ≤ 3
    · rw [if_pos z]
      exact ⟨fun _ => w1 z, fun q => absurd q (by decide)⟩
    · rw [if_neg z]
      exact ⟨fun q => absurd rfl q, fun _ => w0 z⟩
  refine B_X12_text_0 (s_isIn ⟨fun z => ?_, fun z => ?_⟩)
  · have el : lwI (lwOf k) = 0 := by unfold lwOf; rw [decide_eq_false z]; rfl
    refine B_X12_text_36 (go _ ?_ ?_ ?_ ?_ ?_ ?_ ?_ ?_ ?_)
    · exact ((((((eqm.rf.s8 (by decide)).s8 (by decide)).s8 (by decide)).s8 (by decide)).s8 (by decide)).s8 (by decide)).s8 (by decide)
    · simp [su_ne, su_eq]; exact a3
    · simp [su_ne, su_eq]
    · simp [su_ne, su_eq]
    · rw [el]; simp [su_ne, su_eq]
    · simp [su_ne, su_eq]
    · simp [su_ne, su_eq]
    · simp [su_ne, su_eq]
    · simp [su_ne, su_eq]
  · have el : lwI (lwOf k) = 1 := by unfold lwOf; rw [decide_eq_true z]; rfl
    refine B_X12_text_36 (go _ ?_ ?_ ?_ ?_ ?_ ?_ ?_ ?_ ?_)
    · exact ((((((eqm.rf.s8 (by decide)).s8 (by decide)).s8 (by decide)).s8 (by decide)).s8 (by decide)).s8 (by decide)).s8 (by decide)
    · simp [su_ne, su_eq]; exact a3
    · simp [su_ne, su_eq]
    · simp [su_ne, su_eq]
    · rw [el]; simp [su_ne, su_eq]
    · simp [su_ne, su_eq]
    · simp [su_ne, su_eq]
    · simp [su_ne, su_eq]
    · simp [su_ne, su_eq]
end PTEXTM
