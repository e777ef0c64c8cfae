/-! EVERY CALL KEEPS WHAT MUST HOLD -/
theorem OkT.row {t : TS} {R' : PS} (ok : OkT t) (h : RSok R') (h2 : R' 0 2 ≤ 9999) : OkT (R', t.2) := ⟨h, h2, ok.2.2⟩
abbrev rsP (R : PS) (p : Int) : Prop := (0 ≤ R 1 p ∧ R 1 p ≤ 5) ∧ (R 3 p = 0 ∨ R 3 p = 1) ∧ (R 5 p = 0 ∨ R 5 p = 1) ∧ -1 ≤ R 4 p
theorem RSok.of {R R' : PS} (ok : RSok R) (e0 : R' 0 0 = R 0 0) (e2 : R' 0 2 = R 0 2) (hp : ∀ p, 0 ≤ p → p < 60 → rsP R' p) (hg : ∀ p, R 0 0 ≤ p → p < 60 → R' 3 p = 0) (h9 : ∀ k, R' 9 k = R 9 k) : RSok R' := by
  obtain ⟨a1, a2, a3, a4, a5, a6, a7, a8⟩ := ok
  refine ⟨by rw [e0]; exact a1, by rw [e2]; exact a2, hp, by rw [e0]; exact hg, by rw [h9]; exact a5, by rw [h9]; exact a6, by rw [h9]; exact a7, by rw [h9]; exact a8⟩
theorem k_state {t : TS} {x : Int} (ok : OkT t) : OkT (su t.1 0 1 x, t.2) := by
  have e2 : su t.1 0 1 x 0 2 = t.1 0 2 := su_ne (Or.inr (by decide))
  refine ok.row (ok.1.of (su_ne (Or.inr (by decide))) e2 (fun p p0 p1 => ?_) (fun p p0 p1 => ?_) fun k => su_ne (Or.inl (by decide))) (by rw [e2]; exact ok.2.1)
  · unfold rsP
    rw [su_ne (Or.inl (by decide)), su_ne (Or.inl (by decide)), su_ne (Or.inl (by decide)), su_ne (Or.inl (by decide))]
    exact ok.1.2.2.1 p p0 p1
  · rw [su_ne (Or.inl (by decide))]; exact ok.1.2.2.2.1 p p0 p1
theorem k_row {t : TS} {n : Int} (ok : OkT t) : OkT (rowN t n) := by
  unfold rowN
  split
  · rename_i h
    obtain ⟨a1, a2, a3, a4, a5, a6, a7, a8⟩ := ok.1
    have e0 : beginS t.1 n 0 0 = n := rfl
    have e2 : beginS t.1 n 0 2 = t.1 0 2 := rfl
    refine ok.row ⟨by rw [e0]; exact h, by rw [e2]; exact a2, fun p p0 p1 => ⟨⟨by show (0 : Int) ≤ 0; decide, by show (0 : Int) ≤ 5; decide⟩, Or.inl rfl, Or.inl rfl, by show (-1 : Int) ≤ -1; decide⟩, fun p p0 p1 => rfl, a5, a6, a7, a8⟩ (by rw [e2]; exact ok.2.1)
  · exact ok
theorem k_place {t : TS} {p s a gn : Int} (ok : OkT t) : OkT (placeN t p s a gn) := by
  unfold placeN
  split
  · rename_i h
    obtain ⟨h1, h2, h3⟩ := h
    have hn := ok.1.1
    unfold placeS
    generalize hg : (if gn = 0 then (0 : Int) else 1) = v
    have hv : v = 0 ∨ v = 1 := by rw [← hg]; split <;> omega
    have e0 : su (su (su t.1 1 p s) 2 p a) 3 p v 0 0 = t.1 0 0 := by rw [su_ne (Or.inl (by decide)), su_ne (Or.inl (by decide)), su_ne (Or.inl (by decide))]
    have e2 : su (su (su t.1 1 p s) 2 p a) 3 p v 0 2 = t.1 0 2 := by rw [su_ne (Or.inl (by decide)), su_ne (Or.inl (by decide)), su_ne (Or.inl (by decide))]
    have e3 : ∀ q, su (su (su t.1 1 p s) 2 p a) 3 p v 3 q = if q = p then v else t.1 3 q := fun q => by
      split
      · rename_i z; rw [z, su_eq]
      · rename_i z; rw [su_ne (Or.inr z), su_ne (Or.inl (by decide)), su_ne (Or.inl (by decide))]
    have e1 : ∀ q, su (su (su t.1 1 p s) 2 p a) 3 p v 1 q = if q = p then s else t.1 1 q := fun q => by
      rw [su_ne (Or.inl (by decide)), su_ne (Or.inl (by decide))]
      split
      · rename_i z; rw [z, su_eq]
      · rename_i z; rw [su_ne (Or.inr z)]
    have e4 : ∀ q, su (su (su t.1 1 p s) 2 p a) 3 p v 4 q = t.1 4 q := fun q => by rw [su_ne (Or.inl (by decide)), su_ne (Or.inl (by decide)), su_ne (Or.inl (by decide))]
    have e5 : ∀ q, su (su (su t.1 1 p s) 2 p a) 3 p v 5 q = t.1 5 q := fun q => by rw [su_ne (Or.inl (by decide)), su_ne (Or.inl (by decide)), su_ne (Or.inl (by decide))]
    refine ok.row (ok.1.of e0 e2 (fun q q0 q1 => ?_) (fun q q0 q1 => ?_) fun k => by rw [su_ne (Or.inl (by decide)), su_ne (Or.inl (by decide)), su_ne (Or.inl (by decide))]) (by rw [e2]; exact ok.2.1)
    · unfold rsP
      rw [e1, e3, e4, e5]
      have := ok.1.2.2.1 q q0 q1
      split
      · exact ⟨⟨h2.1, h2.2⟩, hv, this.2.2⟩
      · exact this
    · rw [e3, if_neg (by omega)]; exact ok.1.2.2.2.1 q q0 q1
  · exact ok
theorem k_sort {t : TS} {k wk p : Int} (ok : OkT t) : OkT (sortN t k wk p) := by
  unfold sortN
  split
  · have e : ∀ a j, a ≠ 7 → a ≠ 8 → su (su t.1 7 k wk) 8 k p a j = t.1 a j := fun a j h7 h8 => by rw [su_ne (Or.inl h8), su_ne (Or.inl h7)]
    refine ok.row (ok.1.of (e _ _ (by decide) (by decide)) (e _ _ (by decide) (by decide)) (fun q q0 q1 => ?_) (fun q q0 q1 => ?_) fun k => e _ _ (by decide) (by decide)) (by rw [e _ _ (by decide) (by decide)]; exact ok.2.1)
    · unfold rsP
      rw [e _ _ (by decide) (by decide), e _ _ (by decide) (by decide), e _ _ (by decide) (by decide), e _ _ (by decide) (by decide)]
      exact ok.1.2.2.1 q q0 q1
    · rw [e _ _ (by decide) (by decide)]; exact ok.1.2.2.2.1 q q0 q1
  · exact ok
theorem k_set {t : TS} {k v : Int} (ok : OkT t) : OkT (setN t k v) := by
  unfold setN
  split
  · rename_i h
    obtain ⟨h1, h2⟩ := h
    have e : ∀ a j, a ≠ 9 → su t.1 9 k v a j = t.1 a j := fun a j h9 => su_ne (Or.inl h9)
    have e9 : ∀ j, su t.1 9 k v 9 j = if j = k then v else t.1 9 j := fun j => by
      split
      · rename_i z; rw [z, su_eq]
      · rename_i z; exact su_ne (Or.inr z)
    obtain ⟨a1, a2, a3, a4, a5, a6, a7, a8⟩ := ok.1
    refine ok.row ⟨by rw [e _ _ (by decide)]; exact a1, by rw [e _ _ (by decide)]; exact a2, fun p p0 p1 => ?_, fun p p0 p1 => ?_, ?_, ?_, ?_, ?_⟩ (by rw [e _ _ (by decide)]; exact ok.2.1)
    · rw [e _ _ (by decide), e _ _ (by decide), e _ _ (by decide), e _ _ (by decide)]; exact a3 p p0 p1
    · rw [e _ _ (by decide)] at p0 ⊢; exact a4 p p0 p1
    · rw [e9]; split
      · rename_i z; rw [← z] at h2; exact h2.1
      · exact a5
    · rw [e9]; split
      · rename_i z; rw [← z] at h2; exact h2.1
      · exact a6
    · rw [e9]; split
      · rename_i z; rw [← z] at h2; exact h2
      · exact a7
    · rw [e9]; split
      · rename_i z; rw [← z] at h2; exact h2
      · exact a8
  · exact ok
theorem k_see {t : TS} {p : Int} (ok : OkT t) : OkT (seeN t p) := by
  unfold seeN
  split
  · rename_i h
    have hn := ok.1.1
    have h2 := ok.1.2.1
    have e : ∀ a j, a ≠ 4 → a ≠ 5 → su (su t.1 4 p (t.1 0 2)) 5 p (t.1 3 p) a j = t.1 a j := fun a j h7 h8 => by rw [su_ne (Or.inl h8), su_ne (Or.inl h7)]
    have e4 : ∀ q, su (su t.1 4 p (t.1 0 2)) 5 p (t.1 3 p) 4 q = if q = p then t.1 0 2 else t.1 4 q := fun q => by
      rw [su_ne (Or.inl (by decide))]
      split
      · rename_i z; rw [z, su_eq]
      · rename_i z; rw [su_ne (Or.inr z)]
    have e5 : ∀ q, su (su t.1 4 p (t.1 0 2)) 5 p (t.1 3 p) 5 q = if q = p then t.1 3 p else t.1 5 q := fun q => by
      split
      · rename_i z; rw [z, su_eq]
      · rename_i z; rw [su_ne (Or.inr z), su_ne (Or.inl (by decide))]
    refine ok.row (ok.1.of (e _ _ (by decide) (by decide)) (e _ _ (by decide) (by decide)) (fun q q0 q1 => ?_) (fun q q0 q1 => ?_) fun k => e _ _ (by decide) (by decide)) (by rw [e _ _ (by decide) (by decide)]; exact ok.2.1)
    · unfold rsP
      rw [e _ _ (by decide) (by decide), e _ _ (by decide) (by decide), e4, e5]
      have b := ok.1.2.2.1 q q0 q1
      have bp := ok.1.2.2.1 p h.1 (by omega)
      refine ⟨b.1, b.2.1, ?_, ?_⟩
      · split
        · exact bp.2.1
        · exact b.2.2.1
      · split
        · omega
        · exact b.2.2.2
    · rw [e _ _ (by decide) (by decide)]; exact ok.1.2.2.2.1 q q0 q1
  · exact ok
theorem k_days {t : TS} {x : Int} (ok : OkT t) : OkT (daysN t x) := by
  unfold daysN
  split
  · rename_i h
    have h2 := ok.1.2.1
    obtain ⟨b1, b2, b3⟩ := daysS_ok (T := t.2.1) (Tr := t.2.2.1) (E := t.2.2.2.2) (n := x.toNat) ok.1 (by omega)
    exact ok.row b1 (by rw [b3]; omega)
  · exact ok
theorem k_imgN {t : TS} {im : Option TS} {b : Int} (ok : OkT t) (oki : ∀ u, im = some u → OkT u) : OkT (imgN t im b) := by
  unfold imgN
  split
  · cases im with
    | none => exact ok
    | some u => exact oki u rfl
  · exact ok
theorem k_imgI {t : TS} {im : Option TS} {b : Int} (ok : OkT t) (oki : ∀ u, im = some u → OkT u) : ∀ u, imgI t im b = some u → OkT u := by
  unfold imgI
  split
  · exact oki
  · intro u h
    cases h
    exact ok
theorem k_end {ln n : Int} (hl : 0 ≤ ln ∧ ln ≤ 500) : (0 ≤ endN ln n ∧ endN ln n ≤ 500) ∧ endN ln n ≤ ln := by
  unfold endN
  split <;> omega
theorem k_upd {f : Int → Int} {ln v B : Int} (h : ∀ i, 0 ≤ i → i < ln → 0 ≤ f i ∧ f i ≤ 255) (hv : 0 ≤ v ∧ v ≤ 255) (hB : B = ln + 1) : ∀ i, 0 ≤ i → i < B → 0 ≤ updF f ln v i ∧ updF f ln v i ≤ 255 := fun i i0 i1 => by
  unfold updF
  split
  · exact hv
  · exact h i i0 (by omega)
theorem k_add {f : Int → Int} {ln x B : Int} (h : ∀ i, 0 ≤ i → i < ln → 0 ≤ f i ∧ f i ≤ 255) (hx : in32 x) (hB : B = ln + 4) : ∀ i, 0 ≤ i → i < B → 0 ≤ addF4 f ln x i ∧ addF4 f ln x i ≤ 255 := by
  unfold addF4
  exact k_upd (k_upd (k_upd (k_upd h (byte_in hx (by omega)).2 rfl) (byte_in hx (by omega)).2 (by omega)) (byte_in hx (by omega)).2 (by omega)) (byte_in hx (by omega)).2 (by omega)
theorem k_feed {ln : Int} {f : Int → Int} {a b c e x : Int} (hl : 0 ≤ ln ∧ ln ≤ 500) (h : ∀ i, 0 ≤ i → i < ln → 0 ≤ f i ∧ f i ≤ 255) (ha : in32 a) (hb : in32 b) (hc : in32 c) (he : in32 e) (hx : in32 x) : (0 ≤ feedN ln ∧ feedN ln ≤ 500) ∧ ∀ i, 0 ≤ i → i < feedN ln → 0 ≤ feedF ln f a b c e x i ∧ feedF ln f a b c e x i ≤ 255 := by
  unfold feedN feedF
  by_cases z : feedOk ln
  · simp only [if_pos z]
    have z2 : ln + 20 ≤ 500 := z
    exact ⟨by omega, k_add (k_add (k_add (k_add (k_add h ha rfl) hb rfl) hc rfl) he rfl) hx (by omega)⟩
  · simp only [if_neg z]
    exact ⟨hl, h⟩
