/-! FEED, both -/
section PFEED
variable {g : PG} {d : Nat} {Q : Int → PS → Prop} {t : TS} {fk fp ln : Int} {f : Int → Int} {im : Option TS} {σ : PS}
theorem s_add1 {x z l : Int} {f1 : Int → Int} {σ0 σ1 : PS} (hx : eqx [1, 2] σ0 σ1) (hT : TapC l f1 σ1) (h32 : in32 x) (hz : z = 24 ∨ z = 16 ∨ z = 8 ∨ z = 0) (h0 : 0 ≤ l) (h1 : l < 500) (w : ∀ σ2, eqx [1, 2] σ0 σ2 → TapC (l + 1) (updF f1 l (byteI x z)) σ2 → XX g true d P_X8_add 3 [(2, 1), (0, x), (0, z - 8)] [] 136 σ2 136 Q) : XX g true d P_X8_add 3 [(2, 1), (0, x), (0, z)] [] 136 σ1 136 Q := by
  refine B_X8_add_3 ⟨fun q => by omega, fun _ => ?_⟩
  rw [hT.1]
  refine ⟨fun q => by omega, fun _ => ⟨⟨h0, h1⟩, ?_⟩⟩
  rw [byte_sb h32 hz, w32_of (x := z + (-8)) (by omega) (by omega), w32_of (x := l + 1) (by omega) (by omega), show z + (-8) = z - 8 by omega]
  refine w _ ((hx.su (by decide)).su (by decide)) ⟨su_eq, fun i i0 i1 => ?_⟩
  rw [su_ne (Or.inl (by decide))]
  unfold updF
  by_cases e : i = l
  · subst e; rw [su_eq, if_pos rfl]
  · rw [su_ne (Or.inr e), if_neg e]
    exact hT.2 i i0 (by omega)
theorem s_addC {x l : Int} {f1 : Int → Int} {σ0 σ1 : PS} (hx : eqx [1, 2] σ0 σ1) (hT : TapC l f1 σ1) (h32 : in32 x) (h0 : 0 ≤ l) (h1 : l + 4 ≤ 500) (w : ∀ σ2, eqx [1, 2] σ0 σ2 → TapC (l + 4) (addF4 f1 l x) σ2 → Q 0 σ2) : XX g true d P_X8_add 0 [(2, 1), (0, x), (9, 0)] [] 136 σ1 136 Q := by
  refine B_X8_add_0 (s_add1 hx hT h32 (by omega) h0 (by omega) fun σ2 hx2 hT2 => s_add1 hx2 hT2 h32 (by omega) (by omega) (by omega) fun σ3 hx3 hT3 => ?_)
  rw [show l + 1 + 1 = l + 2 by omega] at hT3
  refine s_add1 hx3 hT3 h32 (by omega) (by omega) (by omega) fun σ4 hx4 hT4 => ?_
  rw [show l + 2 + 1 = l + 3 by omega] at hT4
  refine s_add1 hx4 hT4 h32 (by omega) (by omega) (by omega) fun σ5 hx5 hT5 => ?_
  rw [show l + 3 + 1 = l + 4 by omega] at hT5
  exact B_X8_add_3 ⟨fun _ => w σ5 hx5 hT5, fun q => by omega⟩
theorem ClsB.tape {σ' : PS} {ln' : Int} {f' : Int → Int} (h : ClsB t fk fp ln f im σ) (hx : eqx [1, 2] σ σ') (hT : TapC ln' f' σ') : ClsB t fk fp ln' f' im σ' := by
  obtain ⟨a1, a2, a3, a4, a5⟩ := h
  have o : ∀ a, (a < 1 ∨ 2 < a) → a ∉ ([1, 2] : List Int) := fun a ha z => by simp only [List.mem_cons, List.not_mem_nil, or_false] at z; omega
  refine ⟨a1.x hx (fun a b1 b2 => o a (by omega)) (fun a b1 b2 => o a (by omega)), ⟨?_, ?_⟩, hT, a4.x hx (by decide) (by decide), a5.x hx (by decide) (fun a b1 b2 => o a (by omega)) (fun a b1 b2 => o a (by omega))⟩
  · rw [hx 0 (by decide)]; exact a2.1
  · rw [hx 0 (by decide)]; exact a2.2
theorem a_feedC {a b c e x : Int} (h : ClsB t fk fp ln f im σ) (hl : 0 ≤ ln ∧ ln ≤ 500) (ha : in32 a) (hb : in32 b) (hc : in32 c) (he : in32 e) (hx : in32 x) (w : ∀ σ', eqc σ σ' → ClsB t fk fp (feedN ln) (feedF ln f a b c e x) im σ' → Q (feedA ln) σ') : XX g true (d + 40) P_X11_feed 0 [(2, 0), (0, a), (0, b), (0, c), (0, e), (0, x)] [] 136 σ 136 Q := by
  unfold feedN feedF feedA at w
  refine B_X11_feed_0 ?_
  rw [h.2.2.1.1, w32_of (by omega) (by omega)]
  refine ⟨fun z => ?_, fun z => ?_⟩
  · rw [if_pos z, if_pos z, if_pos z] at w
    refine s_addC eqx.rf h.2.2.1 ha (by omega) (by omega) fun σ1 hx1 hT1 => s_addC hx1 hT1 hb (by omega) (by omega) fun σ2 hx2 hT2 => s_addC hx2 hT2 hc (by omega) (by omega) fun σ3 hx3 hT3 => s_addC hx3 hT3 he (by omega) (by omega) fun σ4 hx4 hT4 => s_addC hx4 hT4 hx (by omega) (by omega) fun σ5 hx5 hT5 => ?_
    rw [show ln + 4 + 4 + 4 + 4 + 4 = ln + 20 by omega] at hT5
    rw [hT5.1]
    exact w σ5 (hx5.c fun a ha z => by simp only [List.mem_cons, List.not_mem_nil, or_false] at z; omega) (h.tape hx5 hT5)
  · rw [if_neg (by omega), if_neg (by omega), if_neg (by omega)] at w
    exact w σ eqc.rf h
theorem s_puts1 {x z l : Int} {f1 : Int → Int} {σ0 σ1 : PS} (hx : eqm [98] [19] σ0 σ1) (hT : TapM l f1 σ1) (hz : z = 24 ∨ z = 16 ∨ z = 8 ∨ z = 0) (h0 : 0 ≤ l) (h1 : l < 500) (w : ∀ σ2, eqm [98] [19] σ0 σ2 → TapM (l + 1) (updF f1 l (byteI x z)) σ2 → XX g true d P_X12_puts 3 [(2, 88), (0, x), (0, z - 8)] [] 136 σ2 136 Q) : XX g true d P_X12_puts 3 [(2, 88), (0, x), (0, z)] [] 136 σ1 136 Q := by
  refine B_X12_puts_3 ⟨fun q => by omega, fun _ => ?_⟩
  rw [hT.1]
  refine ⟨⟨h0, h1⟩, ?_⟩
  rw [w32_of (x := z + (-8)) (by omega) (by omega), w32_of (x := l + 1) (by omega) (by omega), show z + (-8) = z - 8 by omega]
  refine w _ ((hx.sa (by decide) (by decide)).s8 (by decide)) ⟨su_eq, fun i i0 i1 => ?_⟩
  rw [su_ne (Or.inl (by decide))]
  unfold updF
  by_cases e : i = l
  · subst e; rw [su_eq, if_pos rfl]; rfl
  · rw [su_ne (Or.inr e), if_neg e]
    exact hT.2 i i0 (by omega)
theorem s_putsM {x l : Int} {f1 : Int → Int} {σ0 σ1 : PS} (hx : eqm [98] [19] σ0 σ1) (hT : TapM l f1 σ1) (h0 : 0 ≤ l) (h1 : l + 4 ≤ 500) (w : ∀ σ2, eqm [98] [19] σ0 σ2 → TapM (l + 4) (addF4 f1 l x) σ2 → Q 0 σ2) : XX g true d P_X12_puts 0 [(2, 88), (0, x), (9, 0)] [] 136 σ1 136 Q := by
  refine B_X12_puts_0 (s_puts1 hx hT (by omega) h0 (by omega) fun σ2 hx2 hT2 => s_puts1 hx2 hT2 (by omega) (by omega) (by omega) fun σ3 hx3 hT3 => ?_)
  rw [show l + 1 + 1 = l + 2 by omega] at hT3
  refine s_puts1 hx3 hT3 (by omega) (by omega) (by omega) fun σ4 hx4 hT4 => ?_
  rw [show l + 2 + 1 = l + 3 by omega] at hT4
  refine s_puts1 hx4 hT4 (by omega) (by omega) (by omega) fun σ5 hx5 hT5 => ?_
  rw [show l + 3 + 1 = l + 4 by omega] at hT5
  exact B_X12_puts_3 ⟨fun _ => w σ5 hx5 hT5, fun q => by omega⟩
theorem a_feedM {a b c e x : Int} (h : ModB t fk fp ln f im σ) (hl : 0 ≤ ln ∧ ln ≤ 500) (w : ∀ σ', eqd8 σ σ' → ModB t fk fp (feedN ln) (feedF ln f a b c e x) im σ' → Q (feedA ln) σ') : XX g true (d + 40) P_X12_feed 0 [(2, 88), (0, a), (0, b), (0, c), (0, e), (0, x)] [] 136 σ 136 Q := by
  obtain ⟨hx0, h0⟩ := h.told
  unfold feedN feedF feedA at w
  refine B_X12_feed_0 ?_
  rw [h.2.2.1.1]
  generalize su σ 88 0 0 = σ0 at *
  refine ⟨fun z => ?_, fun z => ?_⟩
  · rw [if_pos (by omega), if_pos (by omega), if_pos (by omega)] at w
    refine s_putsM eqm.rf h0.2.2.1 (by omega) (by omega) fun σ1 hx1 hT1 => s_putsM hx1 hT1 (by omega) (by omega) fun σ2 hx2 hT2 => s_putsM hx2 hT2 (by omega) (by omega) fun σ3 hx3 hT3 => s_putsM hx3 hT3 (by omega) (by omega) fun σ4 hx4 hT4 => s_putsM hx4 hT4 (by omega) (by omega) fun σ5 hx5 hT5 => ?_
    rw [show ln + 4 + 4 + 4 + 4 + 4 = ln + 20 by omega] at hT5
    rw [hT5.1]
    exact w σ5 (hx0.tr (hx5.d8 fun a ha z => by simp only [List.mem_singleton] at z; omega)) (h0.tape hx5 hT5)
  · rw [if_neg (by omega), if_neg (by omega), if_neg (by omega)] at w
    exact w σ0 hx0 h0
end PFEED
