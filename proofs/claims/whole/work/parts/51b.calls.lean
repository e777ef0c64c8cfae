/-! THE SMALL CALLS: what they answer and leave; the class -/
def beginS (R : PS) (n : Int) : PS := fun f p => if f = 0 then (if p = 0 then n else if p = 6 then 0 else if p = 7 then -1 else R 0 p) else if f = 4 then -1 else if 1 ≤ f ∧ f ≤ 6 then 0 else R f p
abbrev rowOk (n : Int) : Prop := 2 ≤ n ∧ n ≤ 60
def rowN (t : TS) (n : Int) : TS := if rowOk n then (beginS t.1 n, t.2) else t
def rowA (n : Int) : Int := if rowOk n then 1 else 0
abbrev placeOk (R : PS) (p s a : Int) : Prop := (0 ≤ p ∧ p < R 0 0) ∧ (0 ≤ s ∧ s ≤ 5) ∧ (0 ≤ a ∧ a ≤ 999)
def placeS (R : PS) (p s a gn : Int) : PS := su (su (su R 1 p s) 2 p a) 3 p (if gn = 0 then 0 else 1)
def placeN (t : TS) (p s a gn : Int) : TS := if placeOk t.1 p s a then (placeS t.1 p s a gn, t.2) else t
def placeA (t : TS) (p s a : Int) : Int := if placeOk t.1 p s a then 1 else 0
abbrev sortOk (k w p : Int) : Prop := (0 ≤ k ∧ k ≤ 5) ∧ (0 ≤ w ∧ w ≤ 1000) ∧ (0 ≤ p ∧ p ≤ 99)
def sortN (t : TS) (k w p : Int) : TS := if sortOk k w p then (su (su t.1 7 k w) 8 k p, t.2) else t
def sortA (k w p : Int) : Int := if sortOk k w p then 1 else 0
def loS (k : Int) : Int := if k = 1 ∨ k = 3 then 1 else 0
def hiS (k : Int) : Int := if k = 1 then 9 else if k = 2 then 20 else if k = 5 then 9999 else if 6 ≤ k then 999 else 99
abbrev setOk (k v : Int) : Prop := (0 ≤ k ∧ k ≤ 7) ∧ (loS k ≤ v ∧ v ≤ hiS k)
def setN (t : TS) (k v : Int) : TS := if setOk k v then (su t.1 9 k v, t.2) else t
def setA (k v : Int) : Int := if setOk k v then 1 else 0
def ofA (t : TS) (p wh : Int) : Int := if 0 ≤ p ∧ p < t.1 0 0 then (if wh = 0 then t.1 1 p else if wh = 1 then t.1 2 p else if wh = 2 then t.1 3 p else if wh = 3 then t.1 4 p else if wh = 4 then t.1 5 p else if wh = 5 then goesS t.2.1 t.1 p (besS t.1 p) 0 else if wh = 6 then guessS t.2.1 t.1 p else if wh = 7 then urgeS t.2.2.1 t.1 p else if wh = 8 then urgeS t.2.2.2.1 t.1 p else if wh = 9 then t.1 6 p else -1000000) else -1000000
def seeN (t : TS) (p : Int) : TS := if 0 ≤ p ∧ p < t.1 0 0 then (su (su t.1 4 p (t.1 0 2)) 5 p (t.1 3 p), t.2) else t
def seeA (t : TS) (p : Int) : Int := if 0 ≤ p ∧ p < t.1 0 0 then 1 else 0
noncomputable def daysN (t : TS) (x : Int) : TS := if (1 ≤ x ∧ x ≤ 99) ∧ t.1 0 2 + x ≤ 9999 then (daysS t.2.1 t.2.2.1 t.2.2.2.2 x.toNat t.1, t.2) else t
noncomputable def daysA (t : TS) (x : Int) : Int := if (1 ≤ x ∧ x ≤ 99) ∧ t.1 0 2 + x ≤ 9999 then w32 (daysS t.2.1 t.2.2.1 t.2.2.2.2 x.toNat t.1 0 3 - t.1 0 3) else -1
noncomputable def chanceA (t : TS) (x : Int) : Int := if x = 0 then chanceNowS t.2.1 t.2.2.2.2 t.1 else if x = 1 then chanceThoughtS t.2.1 t.2.2.2.2 t.1 else -1
def holdA (t : TS) (k : Int) : Int := if 0 ≤ k ∧ k ≤ (t.1 0 0).toNat then holdF t.2.2.2.2 (t.1 0 0).toNat k else -1
theorem eqx.fl {L : List Int} {σ σ' : PS} {a v : Int} {n : Nat} (h : eqx L σ σ') (ha : a ∈ L) : eqx L σ (flS σ' a n v) := fun b hb j => by
  unfold flS
  rw [if_neg (fun z => hb (by rw [z.1]; exact ha))]
  exact h b hb j
section PCALLS
variable {g : PG} {d : Nat} {Q : Int → PS → Prop} {t : TS} {fk fp ln : Int} {f : Int → Int} {im : Option TS} {σ : PS}
theorem row_out {a : Int} (h : (0 ≤ a ∧ a ≤ 2) ∨ (13 ≤ a ∧ a ≤ 42) ∨ (51 ≤ a ∧ a ≤ 58)) : a ∉ rowL 43 := fun z => by have := mem_rowL.mp z; omega
theorem row_out8 {a : Int} (h : 88 ≤ a) : a ∉ rowL 43 := fun z => by have := mem_rowL.mp z; omega
theorem ClsB.row43 {σ' R' : PS} (h : ClsB t fk fp ln f im σ) (hx : eqx (rowL 43) σ σ') (hR : RowC 43 R' σ') : ClsB (R', t.2) fk fp ln f im σ' := h.row hx hR (fun a ha => row_out ha) (h.2.2.2.1.x hx (by decide) (by decide))
theorem a_stateC {x : Int} (h : ClsB t fk fp ln f im σ) (w : ∀ σ', eqc σ σ' → ClsB (su t.1 0 1 x, t.2) fk fp ln f im σ' → Q (t.1 0 1) σ') : XX g true (d + 40) P_X11_state 0 [(2, 0), (0, x), (9, 0)] [] 136 σ 136 Q := by
  refine B_X11_state_0 fun y1 e => ?_
  rw [e, h.1.1.1.2.1]
  have hx : eqx (rowL 43) σ (su σ 43 10 x) := eqx.rf.su (by decide)
  exact w _ (hx.c fun a ha => row_out8 ha) (h.row43 hx (h.1.1.sc (k := 1) (j := 10) (by omega)))
theorem a_rowC {n : Int} (h : ClsB t fk fp ln f im σ) (w : ∀ σ', eqc σ σ' → ClsB (rowN t n) fk fp ln f im σ' → Q (rowA n) σ') : XX g true (d + 40) P_X11_row 0 [(2, 0), (0, n)] [] 136 σ 136 Q := by
  unfold rowN rowA at w
  refine B_X11_row_0 ⟨fun z => ?_, fun z => ⟨fun z2 => ?_, fun z2 => ?_⟩⟩
  · rw [if_neg (by omega), if_neg (by omega)] at w
    exact w σ eqc.rf h
  · rw [if_pos ⟨z, z2⟩, if_pos ⟨z, z2⟩] at w
    refine B_X7_begin_0 (Or.inl rfl) (f_fillI (n := 60) ⟨by decide, by decide, by decide, rfl⟩ (by decide) (f_fillI (n := 60) ⟨by decide, by decide, by decide, rfl⟩ (by decide) (f_fillI (n := 60) ⟨by decide, by decide, by decide, rfl⟩ (by decide) (f_fillI (n := 60) ⟨by decide, by decide, by decide, rfl⟩ (by decide) ?_))))
    have hx : eqx (rowL 43) σ (flS (flS (flS (flS (su (su (su (su (su σ 43 0 n) 43 5 0) 43 6 0) 43 15 0) 43 16 (-1)) (43 + 1) 60 0) (43 + 2) 60 0) (43 + 3) 60 (-1)) (43 + 4) 60 0) :=
      ((((((((eqx.rf.su (by decide)).su (by decide)).su (by decide)).su (by decide)).su (by decide)).fl (by decide)).fl (by decide)).fl (by decide)).fl (by decide)
    obtain ⟨⟨a0, a1, a2, a3, a4, a5, a6, a7⟩, b, -, -, e1, e2⟩ := h.1.1
    refine w _ (hx.c fun a ha => row_out8 ha) (h.row43 hx ⟨?_, fun p p0 p1 => ?_, ?_, ?_, fun k k0 k1 => ?_, fun k k0 k1 => ?_⟩)
    · simp [beginS, flS, su, a1, a2, a3, a4, a5]
    · simp [beginS, flS, su]
      omega
    · have e : flS (flS (flS (flS (su (su (su (su (su σ 43 0 n) 43 5 0) 43 6 0) 43 15 0) 43 16 (-1)) (43 + 1) 60 0) (43 + 2) 60 0) (43 + 3) 60 (-1)) (43 + 4) 60 0 43 5 = 0 := by simp [flS, su]
      rw [e]
      exact BitsC.zero fun p p0 p1 => by simp [beginS]
    · have e : flS (flS (flS (flS (su (su (su (su (su σ 43 0 n) 43 5 0) 43 6 0) 43 15 0) 43 16 (-1)) (43 + 1) 60 0) (43 + 2) 60 0) (43 + 3) 60 (-1)) (43 + 4) 60 0 43 6 = 0 := by simp [flS, su]
      rw [e]
      exact BitsC.zero fun p p0 p1 => by simp [beginS]
    · have := e1 k k0 k1
      simp [beginS, flS, su]
      exact this
    · have := e2 k k0 k1
      simp [beginS, flS, su]
      exact this
  · rw [if_neg (by omega), if_neg (by omega)] at w
    exact w σ eqc.rf h
theorem a_placeC {p s a gn : Int} (h : ClsB t fk fp ln f im σ) (ok : OkT t) (w : ∀ σ', eqc σ σ' → ClsB (placeN t p s a gn) fk fp ln f im σ' → Q (placeA t p s a) σ') : XX g true (d + 40) P_X11_place 0 [(2, 0), (0, p), (0, s), (0, a), (0, gn)] [] 136 σ 136 Q := by
  have k1 := ok.1.1
  have e0 : σ 43 0 = t.1 0 0 := h.1.1.1.1
  unfold placeN placeA at w
  have bad : ¬ placeOk t.1 p s a → Q 0 σ := fun z => by
    rw [if_neg z, if_neg z] at w
    exact w σ eqc.rf h
  refine B_X11_place_0 (s_has (Or.inl rfl) ?_)
  rw [e0]
  refine ⟨fun z => bad fun q => ?_, fun z => ?_⟩
  · rw [if_pos q.1] at z
    exact absurd z (by decide)
  have hp : 0 ≤ p ∧ p < t.1 0 0 := Classical.byContradiction fun q => z (by rw [if_neg q])
  refine ⟨fun z1 => bad (by omega), fun z1 => ⟨fun z2 => bad (by omega), fun z2 => ⟨fun z3 => bad (by omega), fun z3 => ⟨fun z4 => ⟨by omega, ?_⟩, fun z4 => bad (by omega)⟩⟩⟩⟩
  have hok : placeOk t.1 p s a := ⟨hp, by omega, by omega⟩
  rw [if_pos hok, if_pos hok] at w
  have hR1 : RowC 43 (su (su t.1 1 p s) 2 p a) (su (su σ 44 p s) 45 p a) := (h.1.1.ar (k := 1) (o := 1) (by omega)).ar (k := 2) (o := 2) (by omega)
  have e5 : su (su σ 44 p s) 45 p a 43 5 = σ 43 5 := by rw [su_ne (Or.inl (by decide)), su_ne (Or.inl (by decide))]
  have hx : ∀ v, eqx (rowL 43) σ (su (su (su σ 44 p s) 45 p a) 43 5 v) := fun v => ((eqx.rf.su (by decide)).su (by decide)).su (by decide)
  unfold placeS at w
  refine ⟨fun z5 => ?_, fun z5 => ?_⟩
  · rw [if_pos z5] at w
    have hR2 := hR1.clrg hp.1 (by omega)
    rw [e5] at hR2
    exact w _ ((hx _).c fun a ha => row_out8 ha) (h.row43 (hx _) hR2)
  · rw [if_neg z5] at w
    have hR2 := hR1.setg hp.1 (by omega)
    rw [e5] at hR2
    exact w _ ((hx _).c fun a ha => row_out8 ha) (h.row43 (hx _) hR2)
theorem a_sortC {k wk p : Int} (h : ClsB t fk fp ln f im σ) (w : ∀ σ', eqc σ σ' → ClsB (sortN t k wk p) fk fp ln f im σ' → Q (sortA k wk p) σ') : XX g true (d + 40) P_X11_sort 0 [(2, 0), (0, k), (0, wk), (0, p)] [] 136 σ 136 Q := by
  unfold sortN sortA at w
  have bad : ¬ sortOk k wk p → Q 0 σ := fun z => by
    rw [if_neg z, if_neg z] at w
    exact w σ eqc.rf h
  refine B_X11_sort_0 ⟨fun z => bad (by omega), fun z => ⟨fun z1 => bad (by omega), fun z1 => ⟨fun z2 => bad (by omega), fun z2 => ⟨fun z3 => bad (by omega), fun z3 => ⟨fun z4 => bad (by omega), fun z4 => ⟨fun z5 => ⟨by omega, ?_⟩, fun z5 => bad (by omega)⟩⟩⟩⟩⟩⟩
  have hok : sortOk k wk p := ⟨by omega, by omega, by omega⟩
  rw [if_pos hok, if_pos hok] at w
  have hx : eqx (rowL 43) σ (su (su σ 48 k wk) 49 k p) := (eqx.rf.su (by decide)).su (by decide)
  exact w _ (hx.c fun a ha => row_out8 ha) (h.row43 hx ((h.1.1.ar (k := 7) (o := 5) (by omega)).ar (k := 8) (o := 6) (by omega)))
theorem set_stat : ∀ k : Nat, k < 8 → statT 0 k = loS k ∧ statT 1 k = hiS k := by decide
theorem a_setC {k v : Int} (h : ClsB t fk fp ln f im σ) (w : ∀ σ', eqc σ σ' → ClsB (setN t k v) fk fp ln f im σ' → Q (setA k v) σ') : XX g true (d + 40) P_X11_set 0 [(2, 0), (0, k), (0, v)] [] 136 σ 136 Q := by
  unfold setN setA at w
  have bad : ¬ setOk k v → Q 0 σ := fun z => by
    rw [if_neg z, if_neg z] at w
    exact w σ eqc.rf h
  refine B_X11_set_0 ⟨fun z => bad (by omega), fun z => ⟨fun z1 => bad (by omega), fun z1 => ⟨⟨z, z1⟩, ?_⟩⟩⟩
  obtain ⟨e1, e2⟩ := set_stat k.toNat (by omega)
  rw [show ((k.toNat : Nat) : Int) = k by omega] at e1 e2
  rw [e1, e2]
  refine ⟨fun z2 => bad (by omega), fun z2 => ⟨fun z3 => ?_, fun z3 => bad (by omega)⟩⟩
  have hok : setOk k v := ⟨by omega, z2, z3⟩
  rw [if_pos hok, if_pos hok] at w
  have hx : eqx (rowL 43) σ (su σ 50 k v) := eqx.rf.su (by decide)
  exact w _ (hx.c fun a ha => row_out8 ha) (h.row43 hx (h.1.1.ar (k := 9) (o := 7) (by omega)))
theorem scr_c {L : List Int} {σ' : PS} (h : ClsB t fk fp ln f im σ) (hx : eqx L σ σ') (hL : ∀ a ∈ L, 59 ≤ a ∧ a < 88) (hS : ScrC σ') : eqc σ σ' ∧ ClsB t fk fp ln f im σ' :=
  ⟨hx.c fun a ha z => by have := hL a z; omega, h.scr hx (fun a ha z => by have := hL a z; omega) hS⟩
theorem a_ofC {p wh : Int} (h : ClsB t fk fp ln f im σ) (ok : OkT t) (w : ∀ σ', eqc σ σ' → ClsB t fk fp ln f im σ' → Q (ofA t p wh) σ') : XX g true (d + 40) P_X11_of 0 [(2, 0), (0, p), (0, wh)] [] 136 σ 136 Q := by
  have k1 := ok.1.1
  have e0 : σ 43 0 = t.1 0 0 := h.1.1.1.1
  have hR := h.1.1
  have hT := h.1.2
  have fin : ∀ σ', eqx [68, 69] σ σ' → eqc σ σ' ∧ ClsB t fk fp ln f im σ' := fun σ' hx => scr_c h hx (by decide) (h.2.2.2.1.x hx (by decide) (by decide))
  unfold ofA at w
  refine B_X11_of_0 (s_has (Or.inl rfl) ?_)
  rw [e0]
  refine ⟨fun z => ?_, fun z => ?_⟩
  · have hp : 0 ≤ p ∧ p < t.1 0 0 := Classical.byContradiction fun q => z (by rw [if_neg q])
    rw [if_pos hp] at w
    have b1 : 0 ≤ p ∧ p < 60 := by omega
    obtain ⟨r1, r2, r3, r4⟩ := hR.2.1 p b1.1 b1.2
    refine ⟨fun q => ⟨b1, ?_⟩, fun q => ⟨b1, ?_⟩, fun q => s_bitC hR.2.2.1 b1.1 b1.2 ?_, fun q => ⟨b1, ?_⟩, fun q => s_bitC hR.2.2.2.1 b1.1 b1.2 ?_, fun q => ?_, fun q => ?_, fun q => ?_, fun q => ?_, fun q => ⟨b1, ?_⟩, fun q => ?_⟩
    · have e := w σ eqc.rf h; rw [if_pos q] at e; exact r1.symm ▸ e
    · have e := w σ eqc.rf h; rw [if_neg (by omega), if_pos q] at e; exact r2.symm ▸ e
    · have e := w σ eqc.rf h; rw [if_neg (by omega), if_neg (by omega), if_pos q] at e; exact e
    · have e := w σ eqc.rf h; rw [if_neg (by omega), if_neg (by omega), if_neg (by omega), if_pos q] at e; exact r3.symm ▸ e
    · have e := w σ eqc.rf h; rw [if_neg (by omega), if_neg (by omega), if_neg (by omega), if_neg (by omega), if_pos q] at e; exact e
    · rw [if_neg (by omega), if_neg (by omega), if_neg (by omega), if_neg (by omega), if_neg (by omega), if_pos q] at w
      exact s_besC hR ok.1 hp.1 hp.2 (s_goes (Or.inl rfl) hR ok.1 (by unfold LinAt; omega) hT.1 ok.2.2.1 hp.1 hp.2 fun σ' hx => w σ' (fin σ' hx).1 (fin σ' hx).2)
    · rw [if_neg (by omega), if_neg (by omega), if_neg (by omega), if_neg (by omega), if_neg (by omega), if_neg (by omega), if_pos q] at w
      exact s_guess (Or.inl rfl) hR ok.1 (by unfold LinAt; omega) hT.1 ok.2.2.1 hp.1 hp.2 fun σ' hx => w σ' (fin σ' hx).1 (fin σ' hx).2
    · rw [if_neg (by omega), if_neg (by omega), if_neg (by omega), if_neg (by omega), if_neg (by omega), if_neg (by omega), if_neg (by omega), if_pos q] at w
      exact s_urge (Or.inl rfl) hR ok.1 (by unfold LinAt; omega) hT.2.1 ok.2.2.2.1 hp.1 hp.2 fun σ' hx => w σ' (fin σ' hx).1 (fin σ' hx).2
    · rw [if_neg (by omega), if_neg (by omega), if_neg (by omega), if_neg (by omega), if_neg (by omega), if_neg (by omega), if_neg (by omega), if_neg (by omega), if_pos q] at w
      exact s_urge (Or.inl rfl) hR ok.1 (by unfold LinAt; omega) hT.2.2.1 ok.2.2.2.2 hp.1 hp.2 fun σ' hx => w σ' (fin σ' hx).1 (fin σ' hx).2
    · have e := w σ eqc.rf h; rw [if_neg (by omega), if_neg (by omega), if_neg (by omega), if_neg (by omega), if_neg (by omega), if_neg (by omega), if_neg (by omega), if_neg (by omega), if_neg (by omega), if_pos q] at e; exact r4.symm ▸ e
    · have e := w σ eqc.rf h; rw [if_neg (by omega), if_neg (by omega), if_neg (by omega), if_neg (by omega), if_neg (by omega), if_neg (by omega), if_neg (by omega), if_neg (by omega), if_neg (by omega), if_neg (by omega)] at e; exact e
  · have hp : ¬ (0 ≤ p ∧ p < t.1 0 0) := fun q => by rw [if_pos q] at z; exact absurd z (by decide)
    rw [if_neg hp] at w
    exact w σ eqc.rf h
theorem a_seeC {p : Int} (h : ClsB t fk fp ln f im σ) (ok : OkT t) (w : ∀ σ', eqc σ σ' → ClsB (seeN t p) fk fp ln f im σ' → Q (seeA t p) σ') : XX g true (d + 40) P_X11_see 0 [(2, 0), (0, p)] [] 136 σ 136 Q := by
  have k1 := ok.1.1
  have e0 : σ 43 0 = t.1 0 0 := h.1.1.1.1
  unfold seeN seeA at w
  refine B_X11_see_0 (s_has (Or.inl rfl) ?_)
  rw [e0]
  refine ⟨fun z => ?_, fun z => ?_⟩
  · have hp : 0 ≤ p ∧ p < t.1 0 0 := Classical.byContradiction fun q => z (by rw [if_neg q])
    rw [if_pos hp, if_pos hp] at w
    exact s_lookAt (Or.inl rfl) h.1.1 hp.1 (by omega) fun σ' hx hR => w σ' (hx.c fun a ha => row_out8 ha) (h.row43 hx hR)
  · have hp : ¬ (0 ≤ p ∧ p < t.1 0 0) := fun q => by rw [if_pos q] at z; exact absurd z (by decide)
    rw [if_neg hp, if_neg hp] at w
    exact w σ eqc.rf h
theorem a_daysC {x : Int} (h : ClsB t fk fp ln f im σ) (ok : OkT t) (w : ∀ σ', eqc σ σ' → ClsB (daysN t x) fk fp ln f im σ' → Q (daysA t x) σ') : XX g true (d + 40) P_X11_days 0 [(2, 0), (0, x), (9, 0), (9, 0)] [] 136 σ 136 Q := by
  have k1 := ok.1.2.1
  have e11 : σ 43 11 = t.1 0 2 := h.1.1.1.2.2.1
  have kd := ok.2.1
  unfold daysN daysA at w
  have bad : ¬ ((1 ≤ x ∧ x ≤ 99) ∧ t.1 0 2 + x ≤ 9999) → Q (-1) σ := fun z => by
    rw [if_neg z, if_neg z] at w
    exact w σ eqc.rf h
  refine B_X11_days_0 ⟨fun z => bad (by omega), fun z => ⟨fun z1 => bad (by omega), fun z1 => ?_⟩⟩
  rw [e11, w32_of (by omega) (by omega)]
  refine ⟨fun z2 y1 e => ?_, fun z2 => bad (by omega)⟩
  rw [if_pos ⟨⟨z, z1⟩, z2⟩, if_pos ⟨⟨z, z1⟩, z2⟩] at w
  have key : ∀ (n : Nat) (i : Int) (R1 σ1 : PS), 0 ≤ i → i + n = x → eqx (rowL 43 ++ [68, 69, 84, 85]) σ σ1 → RSok R1 → R1 0 2 + n ≤ 20000 → RowC 43 R1 σ1 → daysS t.2.1 t.2.2.1 t.2.2.2.2 n R1 = daysS t.2.1 t.2.2.1 t.2.2.2.2 x.toNat t.1 → XX g true (d + 40) P_X11_days 38 [(2, 0), (0, x), (0, y1), (0, i)] [] 136 σ1 136 Q := by
    intro n
    induction n with
    | zero =>
      intro i R1 σ1 hi hn hx okk hd hR1 hf
      refine B_X11_days_38 ⟨fun _ => ?_, fun q => by omega⟩
      have e1 : R1 = daysS t.2.1 t.2.2.1 t.2.2.2.2 x.toNat t.1 := hf
      rw [hR1.1.2.2.2.1, e, h.1.1.1.2.2.2.1, e1]
      rw [e1] at hR1
      refine w σ1 (hx.c fun a ha => by
        intro q
        rcases List.mem_append.mp q with q | q
        · exact row_out8 ha q
        · simp only [List.mem_cons, List.not_mem_nil, or_false] at q; omega) (h.row hx hR1 (fun a ha q => by
        rcases List.mem_append.mp q with q | q
        · exact row_out ha q
        · simp only [List.mem_cons, List.not_mem_nil, or_false] at q; omega) (h.2.2.2.1.x hx (by decide) (by decide)))
    | succ n ih =>
      intro i R1 σ1 hi hn hx okk hd hR1 hf
      have hA1 : TxtA 13 t.2.1 t.2.2.1 t.2.2.2.1 t.2.2.2.2 σ1 := h.1.2.x hx fun a a1 a2 q => by
        rcases List.mem_append.mp q with q | q
        · have := mem_rowL.mp q; omega
        · simp only [List.mem_cons, List.not_mem_nil, or_false] at q; omega
      obtain ⟨b1, b2, b3⟩ := dayS_ok (T := t.2.1) (Tr := t.2.2.1) (W := t.2.2.2.2) okk (by omega)
      refine B_X11_days_38 ⟨fun q => by omega, fun _ => ?_⟩
      refine s_passDay (Or.inl rfl) hR1 okk (by omega) (by unfold TxtAt; omega) hA1.1 ok.2.2.1 (by unfold LinAt; omega) hA1.2.1 ok.2.2.2.1 hA1.2.2.2 fun σ2 hx2 hR2 => ?_
      rw [w32_of (by omega) (by omega)]
      exact ih (i + 1) _ σ2 (by omega) (by omega) (hx.tr hx2) b1 (by omega) hR2 hf
  exact key x.toNat 0 t.1 σ (by omega) (by omega) eqx.rf ok.1 (by omega) h.1.1 rfl
theorem a_chanceC {x : Int} (h : ClsB t fk fp ln f im σ) (ok : OkT t) (w : ∀ σ', eqc σ σ' → ClsB t fk fp ln f im σ' → Q (chanceA t x) σ') : XX g true (d + 40) P_X11_chance 0 [(2, 0), (0, x)] [] 136 σ 136 Q := by
  have hS := h.2.2.2.1
  unfold chanceA at w
  refine B_X11_chance_0 ⟨fun z => ⟨fun z1 => ?_, fun z1 => ?_⟩, fun z => ?_⟩
  · rw [if_neg z, if_neg z1] at w
    exact w σ eqc.rf h
  · rw [if_neg z, if_pos z1] at w
    refine s_ofThought (Or.inl rfl) h.1.1 ok.1 (by unfold TxtAt; omega) h.1.2.1 ok.2.2.1 h.1.2.2.2.2 hS.1 hS.2.1 fun σ' hx hO hH => ?_
    have := scr_c h hx (by decide) ⟨hO, hH, hS.2.2.x hx (by decide)⟩
    exact w σ' this.1 this.2
  · rw [if_pos z] at w
    refine s_ofNow (Or.inl rfl) h.1.1 ok.1 (by unfold TxtAt; omega) h.1.2.1 ok.2.2.1 h.1.2.2.2.2 hS.1 hS.2.1 fun σ' hx hO hH => ?_
    have := scr_c h hx (by decide) ⟨hO, hH, hS.2.2.x hx (by decide)⟩
    exact w σ' this.1 this.2
theorem a_holdC {k : Int} (h : ClsB t fk fp ln f im σ) (ok : OkT t) (w : ∀ σ', eqc σ σ' → ClsB t fk fp ln f im σ' → Q (holdA t k) σ') : XX g true (d + 40) P_X11_hold 0 [(2, 0), (0, k)] [] 136 σ 136 Q := by
  have hS := h.2.2.2.1
  have k1 := ok.1.1
  have e0 : σ 43 0 = ((t.1 0 0).toNat : Int) := by rw [h.1.1.1.1]; omega
  unfold holdA at w
  refine B_X11_hold_0 ?_
  rw [e0]
  refine ⟨fun z => ?_, fun z => ⟨fun z1 => ?_, fun z1 => ?_⟩⟩
  · rw [if_neg (by omega)] at w
    exact w σ eqc.rf h
  · rw [if_pos ⟨z, z1⟩] at w
    refine s_holding (by unfold BrkAt; omega) h.1.2.2.2.2 hS.1 hS.2.1 (by omega) ⟨z, z1⟩ fun σ' hx hO hH => ?_
    have := scr_c h hx (by decide) ⟨hO, hH, hS.2.2.x hx (by decide)⟩
    exact w σ' this.1 this.2
  · rw [if_neg (by omega)] at w
    exact w σ eqc.rf h
end PCALLS
