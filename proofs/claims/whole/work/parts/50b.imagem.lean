/-! what THE IMAGE of the texts gives back -/
def agT (σs σ' : PS) : Prop := ∀ i, 0 ≤ i → i < 3248 → σ' (plc i) (plj i) = σs (plc i) (plj i)
theorem agT.at {σs σ' : PS} {i c j : Int} (h : agT σs σ') (h0 : 0 ≤ i) (h1 : i < 3248) (hp : plc i = c ∧ plj i = j) : σ' c j = σs c j := by
  have := h i h0 h1
  rw [hp.1, hp.2] at this
  exact this
theorem pl_k {k : Int} (h0 : 0 ≤ k) (h1 : k < 3) : plc k = 100 ∧ plj k = k := pl_eq (by omega)
theorem pl_f {l : Int} (h0 : 0 ≤ l) (h1 : l < 48) : plc (3 + 3 * l) = 101 ∧ plj (3 + 3 * l) = l := pl_eq (Or.inr (Or.inl (by omega)))
theorem pl_s {l : Int} (h0 : 0 ≤ l) (h1 : l < 48) : plc (3 + 3 * l + 1) = 102 ∧ plj (3 + 3 * l + 1) = l := pl_eq (Or.inr (Or.inl (by omega)))
theorem pl_t {l : Int} (h0 : 0 ≤ l) (h1 : l < 48) : plc (3 + 3 * l + 2) = 103 ∧ plj (3 + 3 * l + 2) = l := pl_eq (Or.inr (Or.inl (by omega)))
theorem pl_o {i : Int} (h0 : 0 ≤ i) (h1 : i < 1500) : plc (147 + 2 * i) = 104 ∧ plj (147 + 2 * i) = i := pl_eq (Or.inr (Or.inr (Or.inl (by omega))))
theorem pl_a {i : Int} (h0 : 0 ≤ i) (h1 : i < 1500) : plc (147 + 2 * i + 1) = 105 ∧ plj (147 + 2 * i + 1) = i := pl_eq (Or.inr (Or.inr (Or.inl (by omega))))
theorem agT.txt {σs σ' T : PS} {k : Int} {okn : Int → Bool} (h : agT σs σ') (hk : 0 ≤ k ∧ k < 3) (hT : TxtM k T σs) (ok : TxtOK okn T) : TxtM k T σ' := by
  obtain ⟨a1, a2, a3⟩ := hT
  have n0 := ok.n0
  have n1 := ok.n1
  refine ⟨?_, fun l l0 l1 => ?_, fun i i0 i1 => ?_⟩
  · rw [h.at (by omega) (by omega) (pl_k (by omega) (by omega))]
    exact a1
  · obtain ⟨b1, b2, b3⟩ := a2 l l0 l1
    refine ⟨?_, ?_, ?_⟩
    · show σ' 101 (16 * k + l) = _
      rw [h.at (by omega) (by omega) (pl_f (l := 16 * k + l) (by omega) (by omega))]
      exact b1
    · show σ' 102 (16 * k + l) = _
      rw [h.at (by omega) (by omega) (pl_s (l := 16 * k + l) (by omega) (by omega))]
      exact b2
    · show σ' 103 (16 * k + l) = _
      rw [h.at (by omega) (by omega) (pl_t (l := 16 * k + l) (by omega) (by omega))]
      exact b3
  · obtain ⟨b1, b2⟩ := a3 i i0 i1
    refine ⟨?_, ?_⟩
    · show σ' 104 (500 * k + i) = _
      rw [h.at (by omega) (by omega) (pl_o (i := 500 * k + i) (by omega) (by omega))]
      exact b1
    · show σ' 105 (500 * k + i) = _
      rw [h.at (by omega) (by omega) (pl_a (i := 500 * k + i) (by omega) (by omega))]
      exact b2
theorem lmet_congr {so on tw : Int} {sh sh' : Nat → Int} {bits : Nat} {known : Int} (h : ∀ k : Nat, (k : Int) < on → sh k = sh' k) : lmet so on tw sh bits known → lmet so on tw sh' bits known := by
  rintro (z | z | z)
  · exact Or.inl z
  · exact Or.inr (Or.inl z)
  · refine Or.inr (Or.inr ⟨z.1, z.2.1, fun k hk => ?_⟩)
    have := z.2.2 k hk
    unfold shOk at this ⊢
    rw [← h k (by omega)]
    exact this
theorem BrkRel.congr {E : Int → Int} {many many' : Int} {so on tw so' on' tw' : Int → Int} {sh sh' : Int → Nat → Int} (h : BrkRel E many so on tw sh) (hm : many' = many) (hl : ∀ l, 0 ≤ l → l < many → so' l = so l ∧ on' l = on l ∧ tw' l = tw l) (hs : ∀ l (k : Nat), 0 ≤ l → l < many → (k : Int) < on l → sh' l k = sh l k) : BrkRel E many' so' on' tw' sh' := by
  subst hm
  obtain ⟨⟨a1, a2, a3⟩, b⟩ := h
  refine ⟨⟨a1, a2, fun l l0 l1 => ?_⟩, fun bits known h1 h2 h3 => ?_⟩
  · obtain ⟨e1, e2, e3⟩ := hl l l0 l1
    rw [e1, e2, e3]
    exact a3 l l0 l1
  · rw [b bits known h1 h2 h3]
    constructor
    · rintro ⟨i, i0, i1, hm⟩
      obtain ⟨e1, e2, e3⟩ := hl i i0 i1
      refine ⟨i, i0, i1, ?_⟩
      rw [e1, e2, e3]
      exact lmet_congr (fun k hk => (hs i k i0 i1 hk).symm) hm
    · rintro ⟨i, i0, i1, hm⟩
      obtain ⟨e1, e2, e3⟩ := hl i i0 i1
      refine ⟨i, i0, i1, ?_⟩
      rw [e1, e2, e3] at hm
      exact lmet_congr (fun k hk => hs i k i0 i1 hk) hm
theorem agT.brk {σs σ' : PS} {E : Int → Int} (h : agT σs σ') (hE : BrkM E σs) : BrkM E σ' := by
  have f1 := hE.1
  refine BrkRel.congr hE ?_ (fun l l0 l1 => ⟨?_, ?_, ?_⟩) fun l k l0 l1 hk => ?_
  · exact h.at (i := 3147) (by decide) (by decide) (pl_eq (by omega))
  · have := f1.2.1
    exact h.at (i := 3148 + 3 * l) (by omega) (by omega) (pl_eq (by omega))
  · have := f1.2.1
    exact h.at (i := 3148 + 3 * l + 1) (by omega) (by omega) (pl_eq (by omega))
  · have := f1.2.1
    exact h.at (i := 3148 + 3 * l + 2) (by omega) (by omega) (pl_eq (by omega))
  · have h1 := f1.2.1
    have h2 : σs 108 l ≤ 8 := (f1.2.2 l l0 l1).2.2.1
    have hk' : (k : Int) < σs 108 l := hk
    exact h.at (i := 3172 + (8 * l + (k : Int))) (by omega) (by omega) (pl_eq (by omega))
/-- what an image holds, the model -/
def ImgM (R T T1 T2 : PS) (E : Int → Int) (σ : PS) : Prop := (∀ k, 0 ≤ k → k < 376 → σ 134 k = asG R k) ∧ ∃ σs : PS, TxtM 0 T σs ∧ TxtM 1 T1 σs ∧ TxtM 2 T2 σs ∧ BrkM E σs ∧ (∀ k, 0 ≤ k → k < 6 → σs 95 k = R 7 k ∧ σs 96 k = R 8 k) ∧ ∀ i, 0 ≤ i → i < 3248 → σ 135 i = σs (plc i) (plj i)
theorem ImgM.m {R T T1 T2 σ σ' : PS} {E : Int → Int} {L J : List Int} (h : ImgM R T T1 T2 E σ) (hx : eqm L J σ σ') (h1 : (134 : Int) ∉ L) (h2 : (135 : Int) ∉ L) : ImgM R T T1 T2 E σ' := by
  obtain ⟨a1, σs, a2, a3, a4, a5, a6, a7⟩ := h
  refine ⟨fun k k0 k1 => ?_, σs, a2, a3, a4, a5, a6, fun i i0 i1 => ?_⟩
  · rw [hx.1 134 h1 (by decide)]; exact a1 k k0 k1
  · rw [hx.1 135 h2 (by decide)]; exact a7 i i0 i1
abbrev imgLM : List Int := [89, 90, 91, 92, 93, 94, 95, 96, 97, 100, 101, 102, 103, 104, 105, 107, 108, 109, 110, 133]
abbrev imgJM : List Int := [0, 1, 2, 12, 13, 14, 15, 16, 17, 40, 69, 70, 75, 78]
section PIMAGEM
variable {g : PG} {d : Nat} {Q : Int → PS → Prop}
theorem s_imagePutM {R T T1 T2 σ : PS} {E : Int → Int} (hR : RowM R σ) (hT : TxtM 0 T σ) (hT1 : TxtM 1 T1 σ) (hT2 : TxtM 2 T2 σ) (hE : BrkM E σ) (w : ∀ σ', eqm [133, 134, 135] [0, 69, 70, 75, 78] σ σ' → σ' 88 75 = 1 → ImgM R T T1 T2 E σ' → Q 1 σ') : XX g true (d + 2) P_X12_image 0 [(2, 88), (0, 1), (9, 0)] [] 136 σ 136 Q := by
  have hx0 : eqm [] [0, 75] σ (su (su σ 88 0 0) 88 75 1) := (eqm.rf.s8 (by decide)).s8 (by decide)
  have h75 : su (su σ 88 0 0) 88 75 1 88 75 = 1 := su_eq
  have hR0 : RowM R (su (su σ 88 0 0) 88 75 1) := hR.m hx0 (fun a _ _ z => by simp at z) (fun j hj z => by simp at z; omega)
  refine B_X12_image_0 ⟨fun _ => ⟨fun _ => ?_, fun z => by omega⟩, fun z => by omega⟩
  generalize su (su σ 88 0 0) 88 75 1 = σ0 at *
  refine s_asidesPut hR0 fun σ1 hx1 h69 hG => ⟨fun z => by omega, fun _ => ?_⟩
  have key : ∀ (n : Nat) (x : Int) (σ2 : PS), 0 ≤ x → x + n = 400 → eqm [134] [] σ1 σ2 → (∀ k, 0 ≤ k → k < x → σ2 134 k = σ1 133 k) → XX g true (d + 2) P_X12_image 65 [(2, 88), (9, 0), (0, x)] [] 136 σ2 136 Q := by
    intro n
    induction n with
    | zero =>
      intro x σ2 hx hn hx2 h134
      refine B_X12_image_65 ⟨fun _ => ?_, fun z => by omega⟩
      refine s_keepsTexts (put := true) (by rw [hx2.2 69 (by decide), if_pos rfl]; exact h69) fun σ3 h3 => ?_
      obtain ⟨c1, c2, c3, -⟩ := h3
      have hx3 := (c3 rfl).2
      have hx13 : eqm [134, 135] [78] σ1 σ3 := (hx2.mono (by decide) (by decide)).tr (hx3.mono (by decide) (by decide))
      have hx03 : eqm [133, 134, 135] [69, 70, 78] σ0 σ3 := (hx1.mono (by decide) (by decide)).tr (hx13.mono (by decide) (by decide))
      have hall : eqm [133, 134, 135] [0, 69, 70, 75, 78] σ σ3 := (hx0.mono (by decide) (by decide)).tr (hx03.mono (by decide) (by decide))
      refine w σ3 hall (by rw [hx03.2 75 (by decide)]; exact h75) ⟨fun k k0 k1 => ?_, σ, hT, hT1, hT2, hE, hR.1.2.2.1, fun i i0 i1 => ?_⟩
      · rw [hx3.1 134 (by decide) (by decide), h134 k k0 (by omega)]
        exact hG k k0 k1
      · rw [c2 i i0 i1]
        have hin := pl_in (i := i)
        simp only [List.mem_cons, List.not_mem_nil, or_false] at hin
        by_cases z : plc i = 88
        · have e40 : plj i = 40 := by omega
          rw [z, e40]
          exact hall.2 40 (by decide)
        · exact hall.1 (plc i) (by simp only [List.mem_cons, List.not_mem_nil, or_false]; omega) z _
    | succ n ih =>
      intro x σ2 hx hn hx2 h134
      refine B_X12_image_65 ⟨fun z => by omega, fun _ => ⟨by omega, ?_⟩⟩
      rw [w32_of (by omega) (by omega)]
      refine ih (x + 1) _ (by omega) (by omega) (hx2.sa (by decide) (by decide)) fun k k0 k1 => ?_
      by_cases z : k = x
      · subst z
        rw [su_eq, hx2.1 133 (by decide) (by decide)]
      · rw [su_ne (Or.inr z)]
        exact h134 k k0 (by omega)
  exact key 400 0 σ1 (by decide) (by decide) eqm.rf fun k k0 k1 => by omega
theorem s_imageGetM {R T T1 T2 σ : PS} {E : Int → Int} {okn okn1 okn2 : Int → Bool} (hI : ImgM R T T1 T2 E σ) (okT : TxtOK okn T) (ok1 : TxtOK okn1 T1) (ok2 : TxtOK okn2 T2) (h75 : σ 88 75 = 1) (w : ∀ σ', eqm imgLM imgJM σ σ' → σ' 88 75 = 1 → RowM R σ' → TxtM 0 T σ' → TxtM 1 T1 σ' → TxtM 2 T2 σ' → BrkM E σ' → Q 1 σ') : XX g true (d + 2) P_X12_image 0 [(2, 88), (0, 0), (9, 0)] [] 136 σ 136 Q := by
  obtain ⟨i1, σs, t0, t1, t2, tE, t7, i2⟩ := hI
  have hx0 : eqm [] [0, 75] σ (su (su σ 88 0 0) 88 75 1) := (eqm.rf.s8 (by decide)).s8 (by decide)
  have h75' : su (su σ 88 0 0) 88 75 1 88 75 = 1 := su_eq
  refine B_X12_image_0 ⟨fun z => by omega, fun _ => ⟨fun _ => ⟨fun z => by omega, fun _ => ?_⟩, fun z => by omega⟩⟩
  generalize su (su σ 88 0 0) 88 75 1 = σ0 at *
  have key : ∀ (n : Nat) (x : Int) (σ2 : PS), 0 ≤ x → x + n = 400 → eqm [133] [] σ0 σ2 → (∀ k, 0 ≤ k → k < x → σ2 133 k = σ0 134 k) → XX g true (d + 2) P_X12_image 29 [(2, 88), (0, 0), (0, x)] [] 136 σ2 136 Q := by
    intro n
    induction n with
    | zero =>
      intro x σ2 hx hn hx2 h133
      refine B_X12_image_29 ⟨fun _ => ?_, fun z => by omega⟩
      have hx02 : eqm [133] [0, 75] σ σ2 := (hx0.mono (by decide) (by decide)).tr (hx2.mono (by decide) (by decide))
      refine s_asidesGet (R := fun f k => if f = 7 then σ2 95 k else if f = 8 then σ2 96 k else R f k) (fun k k0 k1 => ?_) (fun k k0 k1 => ⟨by simp, by simp⟩) fun σ3 hx3 h69 hR3 => ⟨fun _ => ?_, fun z => by omega⟩
      · rw [h133 k k0 (by omega), hx0.1 134 (by decide) (by decide), i1 k k0 k1]
        unfold asG asP
        simp only [show (0 : Int) ≠ 7 by decide, show (0 : Int) ≠ 8 by decide, show (9 : Int) ≠ 7 by decide, show (9 : Int) ≠ 8 by decide, show (1 : Int) ≠ 7 by decide, show (1 : Int) ≠ 8 by decide, show (2 : Int) ≠ 7 by decide, show (2 : Int) ≠ 8 by decide, show (3 : Int) ≠ 7 by decide, show (3 : Int) ≠ 8 by decide, show (4 : Int) ≠ 7 by decide, show (4 : Int) ≠ 8 by decide, show (5 : Int) ≠ 7 by decide, show (5 : Int) ≠ 8 by decide, show (6 : Int) ≠ 7 by decide, show (6 : Int) ≠ 8 by decide, if_false]
      · refine s_keepsTexts (put := false) (by rw [h69]; rfl) fun σ4 h4 => ?_
        obtain ⟨c1, c2, -, c4⟩ := h4
        have hx4 := (c4 rfl).2
        have hx04 : eqm imgLM imgJM σ σ4 := ((hx02.mono (by decide) (by decide)).tr (hx3.mono (by decide) (by decide))).tr (hx4.mono (by decide) (by decide))
        have ag : agT σs σ4 := fun i i0 i1 => by
          rw [← c2 i i0 i1, hx04.1 135 (by decide) (by decide), i2 i i0 i1]
        refine w σ4 hx04 ?_ ?_ (ag.txt (by decide) t0 okT) (ag.txt (by decide) t1 ok1) (ag.txt (by decide) t2 ok2) (ag.brk tE)
        · rw [hx4.2 75 (by decide), hx3.2 75 (by decide), hx2.2 75 (by decide)]
          exact h75'
        · obtain ⟨⟨m1, m2, m3, m4⟩, m5⟩ := hR3
          refine ⟨⟨?_, fun p p0 p1 => ?_, fun k k0 k1 => ?_, fun k k0 k1 k3 => ?_⟩, ?_⟩
          · rw [hx4.2 2 (by decide), hx4.2 1 (by decide), hx4.2 12 (by decide), hx4.2 13 (by decide), hx4.2 14 (by decide), hx4.2 15 (by decide), hx4.2 16 (by decide), hx4.2 17 (by decide)]
            exact m1
          · rw [hx4.1 89 (by decide) (by decide), hx4.1 90 (by decide) (by decide), hx4.1 91 (by decide) (by decide), hx4.1 92 (by decide) (by decide), hx4.1 93 (by decide) (by decide), hx4.1 94 (by decide) (by decide)]
            exact m2 p p0 p1
          · rw [ag.at (i := 3236 + 2 * k) (c := 95) (j := k) (by omega) (by omega) (pl_eq (by omega)), ag.at (i := 3236 + 2 * k + 1) (c := 96) (j := k) (by omega) (by omega) (pl_eq (by omega))]
            exact t7 k k0 k1
          · rw [hx4.1 97 (by decide) (by decide)]
            exact m4 k k0 k1 k3
          · rw [hx4.1 97 (by decide) (by decide)]
            exact m5
    | succ n ih =>
      intro x σ2 hx hn hx2 h133
      refine B_X12_image_29 ⟨fun z => by omega, fun _ => ⟨by omega, ?_⟩⟩
      rw [w32_of (by omega) (by omega)]
      refine ih (x + 1) _ (by omega) (by omega) (hx2.sa (by decide) (by decide)) fun k k0 k1 => ?_
      by_cases z : k = x
      · subst z
        rw [su_eq, hx2.1 134 (by decide) (by decide)]
      · rw [su_ne (Or.inr z)]
        exact h133 k k0 (by omega)
  exact key 400 0 σ0 (by decide) (by decide) eqm.rf fun k k0 k1 => by omega
theorem s_imageNoM {σ : PS} (h75 : σ 88 75 = 0) (w : ∀ σ', eqm [] [0] σ σ' → Q 0 σ') : XX g true (d + 1) P_X12_image 0 [(2, 88), (0, 0), (9, 0)] [] 136 σ 136 Q :=
  B_X12_image_0 ⟨fun z => by omega, fun _ => ⟨fun z => by omega, fun _ => w _ (eqm.rf.s8 (by decide))⟩⟩
end PIMAGEM
