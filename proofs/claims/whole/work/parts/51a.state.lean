/-! ALL THAT IS: row and texts; fault, tape, image; what both objects hold of it -/
abbrev TS : Type := PS × PS × PS × PS × (Int → Int)
def OkT (t : TS) : Prop := RSok t.1 ∧ t.1 0 2 ≤ 9999 ∧ TxtOK oknL t.2.1 ∧ TxtOK oknR t.2.2.1 ∧ TxtOK oknR t.2.2.2.1
def ClsT (r q : Int) (t : TS) (σ : PS) : Prop := RowC r t.1 σ ∧ TxtA q t.2.1 t.2.2.1 t.2.2.2.1 t.2.2.2.2 σ
def ModT (t : TS) (σ : PS) : Prop := RowM t.1 σ ∧ TxtM 0 t.2.1 σ ∧ TxtM 1 t.2.2.1 σ ∧ TxtM 2 t.2.2.2.1 σ ∧ BrkM t.2.2.2.2 σ
def sb (x : Int) : Int := if x < 128 then x else x - 256
def wordsM : List Int := (" go change side any in shape gone there all when or and not weak age sort beside place size load day mid phase since ".toList).map fun c => (c.toNat : Int)
def ImC (im : Option TS) (σ : PS) : Prop := match im with
  | none => σ 0 12 = 0
  | some u => σ 0 12 = 1 ∧ ClsT 51 28 u σ
def ImM (im : Option TS) (σ : PS) : Prop := match im with
  | none => σ 88 75 = 0
  | some u => σ 88 75 = 1 ∧ ImgM u.1 u.2.1 u.2.2.1 u.2.2.2.1 u.2.2.2.2 σ
def TapC (ln : Int) (f : Int → Int) (σ : PS) : Prop := σ 1 4 = ln ∧ ∀ i, 0 ≤ i → i < ln → σ 2 i = sb (f i)
def TapM (ln : Int) (f : Int → Int) (σ : PS) : Prop := σ 88 19 = ln ∧ ∀ i, 0 ≤ i → i < ln → σ 98 i = f i
def WrdM (σ : PS) : Prop := ∀ i : Nat, i < 117 → σ 99 i = wordsM.getD i 0
def FutQ (σ : PS) : Prop := FutP σ ∧ σ 9 0 = 0
def ScrC (σ : PS) : Prop := OddAt σ ∧ HoldAt σ ∧ FutQ σ
def ClsB (t : TS) (fk fp ln : Int) (f : Int → Int) (im : Option TS) (σ : PS) : Prop := ClsT 43 13 t σ ∧ (σ 0 13 = fk ∧ σ 0 14 = fp) ∧ TapC ln f σ ∧ ScrC σ ∧ ImC im σ
def ModB (t : TS) (fk fp ln : Int) (f : Int → Int) (im : Option TS) (σ : PS) : Prop := ModT t σ ∧ (σ 88 38 = fk ∧ σ 88 39 = fp) ∧ TapM ln f σ ∧ WrdM σ ∧ ImM im σ
def OkB (t : TS) (ln : Int) (f : Int → Int) (im : Option TS) : Prop := OkT t ∧ (0 ≤ ln ∧ ln ≤ 500) ∧ (∀ i, 0 ≤ i → i < ln → 0 ≤ f i ∧ f i ≤ 255) ∧ ∀ u, im = some u → OkT u
def eqc (σ σ' : PS) : Prop := ∀ a j, 88 ≤ a → σ' a j = σ a j
def eqd8 (σ σ' : PS) : Prop := ∀ a j, a < 88 → σ' a j = σ a j
theorem eqc.rf {σ : PS} : eqc σ σ := fun _ _ _ => rfl
theorem eqd8.rf {σ : PS} : eqd8 σ σ := fun _ _ _ => rfl
theorem eqc.tr {σ σ' σ'' : PS} (h : eqc σ σ') (h2 : eqc σ' σ'') : eqc σ σ'' := fun a j ha => (h2 a j ha).trans (h a j ha)
theorem eqd8.tr {σ σ' σ'' : PS} (h : eqd8 σ σ') (h2 : eqd8 σ' σ'') : eqd8 σ σ'' := fun a j ha => (h2 a j ha).trans (h a j ha)
theorem eqx.c {L : List Int} {σ σ' : PS} (h : eqx L σ σ') (hL : ∀ a, 88 ≤ a → a ∉ L) : eqc σ σ' := fun a j ha => h a (hL a ha) j
theorem eqm.d8 {L J : List Int} {σ σ' : PS} (h : eqm L J σ σ') (hL : ∀ a, a < 88 → a ∉ L) : eqd8 σ σ' := fun a j ha => h.1 a (hL a ha) (by omega) j
theorem eqc.su {σ σ' : PS} {a j v : Int} (h : eqc σ σ') (ha : a < 88) : eqc σ (su σ' a j v) := fun b i hb => by
  rw [su_ne (Or.inl (by omega))]
  exact h b i hb
theorem OddAt.x {σ σ' : PS} {L : List Int} (h : OddAt σ) (hx : eqx L σ σ') (hL : (70 : Int) ∉ L) : OddAt σ' := by
  unfold OddAt at h ⊢
  rw [hx 70 hL, hx 70 hL]
  exact h
theorem HoldAt.x {σ σ' : PS} {L : List Int} (h : HoldAt σ) (hx : eqx L σ σ') (hL : (70 : Int) ∉ L) : HoldAt σ' := by
  unfold HoldAt at h ⊢
  rw [hx 70 hL, hx 70 hL]
  exact h
theorem FutP.x {σ σ' : PS} {L : List Int} (h : FutP σ) (hx : eqx L σ σ') (hL : (76 : Int) ∉ L) : FutP σ' := by
  unfold FutP at h ⊢
  rw [hx 76 hL, hx 76 hL]
  exact h
theorem FutQ.x {σ σ' : PS} {L : List Int} (h : FutQ σ) (hx : eqx L σ σ') (hL : (76 : Int) ∉ L) (h9 : (9 : Int) ∉ L := by decide) : FutQ σ' := ⟨h.1.x hx hL, (hx 9 h9 0).trans h.2⟩
theorem ScrC.x {σ σ' : PS} {L : List Int} (h : ScrC σ) (hx : eqx L σ σ') (h1 : (70 : Int) ∉ L) (h2 : (76 : Int) ∉ L) (h9 : (9 : Int) ∉ L := by decide) : ScrC σ' := ⟨h.1.x hx h1, h.2.1.x hx h1, h.2.2.x hx h2 h9⟩
theorem ClsT.x {r q : Int} {t : TS} {σ σ' : PS} {L : List Int} (h : ClsT r q t σ) (hx : eqx L σ σ') (h1 : ∀ a, r ≤ a → a ≤ r + 7 → a ∉ L) (h2 : ∀ a, q + 1 ≤ a → a ≤ q + 14 → a ∉ L) : ClsT r q t σ' := ⟨h.1.x hx h1, h.2.x hx h2⟩
theorem ImC.x {im : Option TS} {σ σ' : PS} {L : List Int} (h : ImC im σ) (hx : eqx L σ σ') (h0 : (0 : Int) ∉ L) (h1 : ∀ a, 29 ≤ a → a ≤ 42 → a ∉ L) (h2 : ∀ a, 51 ≤ a → a ≤ 58 → a ∉ L) : ImC im σ' := by
  cases im with
  | none => exact (hx 0 h0 12).trans h
  | some u => exact ⟨(hx 0 h0 12).trans h.1, h.2.x hx (fun a a1 a2 => h2 a a1 (by omega)) (fun a a1 a2 => h1 a (by omega) (by omega))⟩
theorem ClsB.row {t : TS} {fk fp ln : Int} {f : Int → Int} {im : Option TS} {σ σ' R' : PS} {L : List Int} (h : ClsB t fk fp ln f im σ) (hx : eqx L σ σ') (hR : RowC 43 R' σ') (hL : ∀ a, ((0 ≤ a ∧ a ≤ 2) ∨ (13 ≤ a ∧ a ≤ 42) ∨ (51 ≤ a ∧ a ≤ 58)) → a ∉ L) (hS : ScrC σ') : ClsB (R', t.2) fk fp ln f im σ' := by
  obtain ⟨⟨a1, a2⟩, ⟨a3, a4⟩, ⟨a5, a6⟩, a7, a8⟩ := h
  refine ⟨⟨hR, a2.x hx fun a b1 b2 => hL a (by omega)⟩, ⟨?_, ?_⟩, ⟨?_, fun i i0 i1 => ?_⟩, hS, a8.x hx (hL 0 (by omega)) (fun a b1 b2 => hL a (by omega)) (fun a b1 b2 => hL a (by omega))⟩
  · rw [hx 0 (hL 0 (by omega))]; exact a3
  · rw [hx 0 (hL 0 (by omega))]; exact a4
  · rw [hx 1 (hL 1 (by omega))]; exact a5
  · rw [hx 2 (hL 2 (by omega))]; exact a6 i i0 i1
theorem ClsB.scr {t : TS} {fk fp ln : Int} {f : Int → Int} {im : Option TS} {σ σ' : PS} {L : List Int} (h : ClsB t fk fp ln f im σ) (hx : eqx L σ σ') (hL : ∀ a, ((0 ≤ a ∧ a ≤ 2) ∨ (13 ≤ a ∧ a ≤ 58)) → a ∉ L) (hS : ScrC σ') : ClsB t fk fp ln f im σ' :=
  h.row hx (h.1.1.x hx fun a a1 a2 => hL a (by omega)) (fun a ha => hL a (by omega)) hS
theorem eqm.of {σ σ' : PS} {L J : List Int} (h : eqm L J σ σ') {a : Int} (ha : a ∉ L) (h8 : a ≠ 88) (j : Int) : σ' a j = σ a j := h.1 a ha h8 j
theorem ImM.m {im : Option TS} {σ σ' : PS} {L J : List Int} (h : ImM im σ) (hx : eqm L J σ σ') (h1 : (134 : Int) ∉ L) (h2 : (135 : Int) ∉ L) (h3 : (75 : Int) ∉ J) : ImM im σ' := by
  cases im with
  | none => exact (hx.2 75 h3).trans h
  | some u => exact ⟨(hx.2 75 h3).trans h.1, h.2.m hx h1 h2⟩
theorem ModB.row {t : TS} {fk fp ln : Int} {f : Int → Int} {im : Option TS} {σ σ' R' : PS} {L J : List Int} (h : ModB t fk fp ln f im σ) (hx : eqm L J σ σ') (hR : RowM R' σ') (hL : ∀ a, ((98 ≤ a ∧ a ≤ 105) ∨ (107 ≤ a ∧ a ≤ 110) ∨ 134 ≤ a) → a ∉ L) (hJ : ∀ j, (j = 19 ∨ j = 38 ∨ j = 39 ∨ j = 40 ∨ j = 75) → j ∉ J) : ModB (R', t.2) fk fp ln f im σ' := by
  obtain ⟨⟨a1, a2, a3, a4, a5⟩, ⟨a6, a7⟩, ⟨a8, a9⟩, a10, a11⟩ := h
  refine ⟨⟨hR, a2.mm hx fun a b1 b2 => hL a (by omega), a3.mm hx fun a b1 b2 => hL a (by omega), a4.mm hx fun a b1 b2 => hL a (by omega), a5.mm hx (hJ 40 (by omega)) fun a b1 b2 => hL a (by omega)⟩, ⟨?_, ?_⟩, ⟨?_, fun i i0 i1 => ?_⟩, fun i i1 => ?_, a11.m hx (hL 134 (by omega)) (hL 135 (by omega)) (hJ 75 (by omega))⟩
  · rw [hx.2 38 (hJ 38 (by omega))]; exact a6
  · rw [hx.2 39 (hJ 39 (by omega))]; exact a7
  · rw [hx.2 19 (hJ 19 (by omega))]; exact a8
  · rw [hx.1 98 (hL 98 (by omega)) (by decide)]; exact a9 i i0 i1
  · rw [hx.1 99 (hL 99 (by omega)) (by decide)]; exact a10 i i1
theorem ModB.scr {t : TS} {fk fp ln : Int} {f : Int → Int} {im : Option TS} {σ σ' : PS} {L J : List Int} (h : ModB t fk fp ln f im σ) (hx : eqm L J σ σ') (hL : ∀ a, ((89 ≤ a ∧ a ≤ 105) ∨ (107 ≤ a ∧ a ≤ 110) ∨ 134 ≤ a) → a ∉ L) (hJ : ∀ j, (j = 1 ∨ j = 2 ∨ (12 ≤ j ∧ j ≤ 17) ∨ j = 19 ∨ j = 38 ∨ j = 39 ∨ j = 40 ∨ j = 75) → j ∉ J) : ModB t fk fp ln f im σ' :=
  h.row hx (h.1.1.m hx (fun a a1 a2 => hL a (by omega)) fun j hj => hJ j (by omega)) (fun a ha => hL a (by omega)) fun j hj => hJ j (by omega)
/-- the other object's share stays -/
theorem ModB.out {t : TS} {fk fp ln : Int} {f : Int → Int} {im : Option TS} {σ σ' : PS} (h : ModB t fk fp ln f im σ) (hx : eqc σ σ') : ModB t fk fp ln f im σ' := by
  have h2 : eqm (List.map (fun n : Nat => (n : Int)) (List.range 0)) [] (fun a j => if a < 88 then σ' a j else σ a j) σ' := ⟨fun a _ h8 j => by
    by_cases z : a < 88
    · simp [z]
    · simp only [z, if_false]
      exact hx a j (by omega), fun j _ => by simp; exact hx 88 j (by omega)⟩
  have e : ∀ a j, 88 ≤ a → (fun a j => if a < 88 then σ' a j else σ a j) a j = σ a j := fun a j ha => by
    have : ¬ a < 88 := by omega
    simp [this]
  have h3 : ∀ a j, 88 ≤ a → σ' a j = σ a j := hx
  obtain ⟨⟨⟨a1, a1'⟩, a2, a3, a4, a5⟩, ⟨a6, a7⟩, ⟨a8, a9⟩, a10, a11⟩ := h
  refine ⟨⟨⟨a1.same (fun j _ _ => h3 88 j (by omega)) (fun a b1 b2 j => h3 a j (by omega)), by rw [h3 97 3 (by omega)]; exact a1'⟩, a2.same fun a b1 b2 j => h3 a j (by omega), a3.same fun a b1 b2 j => h3 a j (by omega), a4.same fun a b1 b2 j => h3 a j (by omega), BrkM_same a5 (h3 88 40 (by omega)) (fun j => h3 107 j (by omega)) (fun j => h3 108 j (by omega)) (fun j => h3 109 j (by omega)) (fun j => h3 110 j (by omega))⟩, ⟨by rw [h3 88 38 (by omega)]; exact a6, by rw [h3 88 39 (by omega)]; exact a7⟩, ⟨by rw [h3 88 19 (by omega)]; exact a8, fun i i0 i1 => by rw [h3 98 i (by omega)]; exact a9 i i0 i1⟩, fun i i1 => by rw [h3 99 i (by omega)]; exact a10 i i1, ?_⟩
  cases im with
  | none => exact (h3 88 75 (by omega)).trans a11
  | some u =>
    obtain ⟨b1, b2, σs, b3⟩ := a11
    exact ⟨(h3 88 75 (by omega)).trans b1, fun k k0 k1 => by rw [h3 134 k (by omega)]; exact b2 k k0 k1, σs, b3.1, b3.2.1, b3.2.2.1, b3.2.2.2.1, b3.2.2.2.2.1, fun i i0 i1 => by rw [h3 135 i (by omega)]; exact b3.2.2.2.2.2 i i0 i1⟩
theorem ClsB.out {t : TS} {fk fp ln : Int} {f : Int → Int} {im : Option TS} {σ σ' : PS} (h : ClsB t fk fp ln f im σ) (hx : eqd8 σ σ') : ClsB t fk fp ln f im σ' := by
  obtain ⟨⟨a1, a2, a2', a2'', a2e⟩, ⟨a3, a4⟩, ⟨a5, a6⟩, ⟨a7, a7', a7''⟩, a8⟩ := h
  have cT : ∀ {q : Int} {T : PS}, q + 3 < 88 → TxtC q T σ → TxtC q T σ' := fun hq hT => hT.same fun a b1 b2 j => hx a j (by omega)
  refine ⟨⟨a1.same fun a b1 b2 j => hx a j (by omega), cT (by decide) a2, cT (by decide) a2', cT (by decide) a2'', fun k hk => by rw [hx _ _ (by decide)]; exact a2e k hk⟩, ⟨by rw [hx 0 13 (by omega)]; exact a3, by rw [hx 0 14 (by omega)]; exact a4⟩, ⟨by rw [hx 1 4 (by omega)]; exact a5, fun i i0 i1 => by rw [hx 2 i (by omega)]; exact a6 i i0 i1⟩, ⟨?_, ?_, ?_⟩, ?_⟩
  · unfold OddAt at a7 ⊢; rw [hx 70 2 (by omega), hx 70 3 (by omega)]; exact a7
  · unfold HoldAt at a7' ⊢; rw [hx 70 4 (by omega), hx 70 5 (by omega)]; exact a7'
  · refine ⟨?_, (hx 9 0 (by omega)).trans a7''.2⟩
    have a8'' := a7''.1
    unfold FutP at a8'' ⊢
    rw [hx 76 1 (by omega), hx 76 2 (by omega)]
    exact a8''
  · cases im with
    | none => exact (hx 0 12 (by omega)).trans a8
    | some u =>
      obtain ⟨b1, b2, b3, b4, b5, b6⟩ := a8
      exact ⟨(hx 0 12 (by omega)).trans b1, b2.same fun a c1 c2 j => hx a j (by omega), cT (by decide) b3, cT (by decide) b4, cT (by decide) b5, fun k hk => by rw [hx _ _ (by decide)]; exact b6 k hk⟩
