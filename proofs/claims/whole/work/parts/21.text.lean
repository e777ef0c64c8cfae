/-! TEXTS: T 0 0 lines, T 0 1 codes; T 1 from, T 2 sum, T 3 to, T 4 op, T 5 arg -/
theorem chkR_congr {okn : Int → Bool} {op ar op' ar' : Int → Int} : ∀ {n : Nat} {i : Int} {ts : List Nat}, (∀ j, i ≤ j → j < i + n → op j = op' j ∧ ar j = ar' j) → chkR okn op ar n i ts = chkR okn op' ar' n i ts := by
  intro n
  induction n with
  | zero => intro i ts _; rfl
  | succ n ih =>
    intro i ts h
    obtain ⟨e1, e2⟩ := h i (by omega) (by omega)
    unfold chkR
    rw [e1, e2]
    split
    · rfl
    · exact ih fun j h1 h2 => h j (by omega) (by omega)
theorem evR_congr {nm op ar op' ar' : Int → Int} : ∀ {n : Nat} {i : Int} {vs : List Int}, (∀ j, i ≤ j → j < i + n → op j = op' j ∧ ar j = ar' j) → evR nm op ar n i vs = evR nm op' ar' n i vs := by
  intro n
  induction n with
  | zero => intro i vs _; rfl
  | succ n ih =>
    intro i vs h
    obtain ⟨e1, e2⟩ := h i (by omega) (by omega)
    unfold evR
    rw [e1, e2]
    exact ih fun j h1 h2 => h j (by omega) (by omega)
def oknL (a : Int) : Bool := decide (0 ≤ a ∧ a ≤ 8)
def oknR (a : Int) : Bool := decide ((1 ≤ a ∧ a ≤ 5) ∨ a = 7 ∨ (9 ≤ a ∧ a ≤ 11))
def chkT (okn : Int → Bool) (T : PS) (a b : Int) : Prop := ∃ t, chkR okn (T 4) (T 5) (b - a).toNat a [] = some [t]
def evS (T : PS) (nm : Int → Int) (a b : Int) : Int := hdI (evR nm (T 4) (T 5) (b - a).toNat a [])
def TxtOK (okn : Int → Bool) (T : PS) : Prop := (0 ≤ T 0 0 ∧ T 0 0 ≤ 16) ∧ (0 ≤ T 0 1 ∧ T 0 1 ≤ 500) ∧
  (∀ l, 0 ≤ l → l < T 0 0 → 0 ≤ T 1 l ∧ T 1 l ≤ T 2 l ∧ T 2 l ≤ T 3 l ∧ T 3 l ≤ T 0 1) ∧
  (∀ l, 0 ≤ l → l < T 0 0 → chkT okn T (T 1 l) (T 2 l)) ∧ (∀ l, 0 ≤ l → l < T 0 0 → T 2 l ≠ T 3 l → chkT okn T (T 2 l) (T 3 l)) ∧
  (0 < T 0 0 → T 1 0 = 0) ∧ (∀ l, 0 ≤ l → l + 1 < T 0 0 → T 1 (l + 1) = T 3 l)
theorem TxtOK.n0 {okn : Int → Bool} {T : PS} (h : TxtOK okn T) : 0 ≤ T 0 0 ∧ T 0 0 ≤ 16 := h.1
theorem TxtOK.n1 {okn : Int → Bool} {T : PS} (h : TxtOK okn T) : 0 ≤ T 0 1 ∧ T 0 1 ≤ 500 := h.2.1
theorem TxtOK.ln {okn : Int → Bool} {T : PS} (h : TxtOK okn T) : ∀ l, 0 ≤ l → l < T 0 0 → 0 ≤ T 1 l ∧ T 1 l ≤ T 2 l ∧ T 2 l ≤ T 3 l ∧ T 3 l ≤ T 0 1 := h.2.2.1
theorem TxtOK.c1 {okn : Int → Bool} {T : PS} (h : TxtOK okn T) : ∀ l, 0 ≤ l → l < T 0 0 → chkT okn T (T 1 l) (T 2 l) := h.2.2.2.1
theorem TxtOK.c2 {okn : Int → Bool} {T : PS} (h : TxtOK okn T) : ∀ l, 0 ≤ l → l < T 0 0 → T 2 l ≠ T 3 l → chkT okn T (T 2 l) (T 3 l) := h.2.2.2.2.1
theorem TxtOK.f0 {okn : Int → Bool} {T : PS} (h : TxtOK okn T) : 0 < T 0 0 → T 1 0 = 0 := h.2.2.2.2.2.1
theorem TxtOK.fs {okn : Int → Bool} {T : PS} (h : TxtOK okn T) : ∀ l, 0 ≤ l → l + 1 < T 0 0 → T 1 (l + 1) = T 3 l := h.2.2.2.2.2.2
def TxtG (T : PS) (cnt : Int) (fs fw ft fo fa : Int → Int) : Prop := cnt = T 0 0 ∧ (∀ l, 0 ≤ l → l < T 0 0 → fs l = T 1 l ∧ fw l = T 2 l ∧ ft l = T 3 l) ∧ (∀ i, 0 ≤ i → i < T 0 1 → fo i = T 4 i ∧ fa i = T 5 i)
def TxtM (k : Int) (T σ : PS) : Prop := TxtG T (σ 100 k) (fun l => σ 101 (16 * k + l)) (fun l => σ 102 (16 * k + l)) (fun l => σ 103 (16 * k + l)) (fun i => σ 104 (500 * k + i)) (fun i => σ 105 (500 * k + i))
def TxtC (q : Int) (T σ : PS) : Prop := σ q 3 = T 0 0 ∧ σ q 4 = T 0 1 ∧ σ (q + 2) 0 = 0 ∧ (∀ l, 0 ≤ l → l < T 0 0 → σ (q + 3) l = T 2 l) ∧ (∀ l, 0 ≤ l → l < T 0 0 → σ (q + 2) (l + 1) = T 3 l) ∧ (∀ i, 0 ≤ i → i < T 0 1 → σ (q + 1) i = partOf (T 4 i) (T 5 i))
theorem TxtC.n0 {q : Int} {T σ : PS} (h : TxtC q T σ) : σ q 3 = T 0 0 := h.1
theorem TxtC.n1 {q : Int} {T σ : PS} (h : TxtC q T σ) : σ q 4 = T 0 1 := h.2.1
theorem TxtC.s0 {q : Int} {T σ : PS} (h : TxtC q T σ) : σ (q + 2) 0 = 0 := h.2.2.1
theorem TxtC.wh {q : Int} {T σ : PS} (h : TxtC q T σ) : ∀ l, 0 ≤ l → l < T 0 0 → σ (q + 3) l = T 2 l := h.2.2.2.1
theorem TxtC.st {q : Int} {T σ : PS} (h : TxtC q T σ) : ∀ l, 0 ≤ l → l < T 0 0 → σ (q + 2) (l + 1) = T 3 l := h.2.2.2.2.1
theorem TxtC.co {q : Int} {T σ : PS} (h : TxtC q T σ) : ∀ i, 0 ≤ i → i < T 0 1 → σ (q + 1) i = partOf (T 4 i) (T 5 i) := h.2.2.2.2.2
theorem TxtC.s {q : Int} {T σ : PS} {okn : Int → Bool} (h : TxtC q T σ) (ok : TxtOK okn T) {l : Int} (h0 : 0 ≤ l) (h1 : l < T 0 0) : σ (q + 2) l = T 1 l := by
  by_cases e : l = 0
  · subst e; rw [h.s0, ok.f0 h1]
  · have h2 := h.st (l - 1) (by omega) (by omega)
    have h3 := ok.fs (l - 1) (by omega) (by omega)
    rw [show l - 1 + 1 = l by omega] at h2 h3
    rw [h2, h3]
def tellR (T : PS) (nm : Int → Int) : Nat → Int → Int
  | 0, _ => 0
  | n + 1, l => if T 3 l = T 2 l ∨ evS T nm (T 2 l) (T 3 l) ≠ 0 then evS T nm (T 1 l) (T 2 l) else tellR T nm n (l + 1)
def tellsS (T : PS) (nm : Int → Int) : Int := tellR T nm (T 0 0).toNat 0
theorem TxtC.same {q : Int} {T σ σ' : PS} (h : TxtC q T σ) (hs : ∀ a, q ≤ a → a ≤ q + 3 → ∀ j, σ' a j = σ a j) : TxtC q T σ' := by
  unfold TxtC at h ⊢
  simp only [hs q (by omega) (by omega), hs (q + 1) (by omega) (by omega), hs (q + 2) (by omega) (by omega), hs (q + 3) (by omega) (by omega)]
  exact h
theorem TxtM.same {k : Int} {T σ σ' : PS} (h : TxtM k T σ) (hs : ∀ a, 100 ≤ a → a ≤ 105 → ∀ j, σ' a j = σ a j) : TxtM k T σ' := by
  unfold TxtM at h ⊢
  simp only [hs 100 (by omega) (by omega), hs 101 (by omega) (by omega), hs 102 (by omega) (by omega), hs 103 (by omega) (by omega), hs 104 (by omega) (by omega), hs 105 (by omega) (by omega)]
  exact h
section PTEXT
variable {g : PG} {d : Nat} {Q : Int → PS → Prop}
theorem s_worthT {k a b : Int} {T σ : PS} {okn : Int → Bool} {nm : Int → Int} (hk : 0 ≤ k ∧ k < 4) (hT : TxtM k T σ) (ok : TxtOK okn T) (ha : 0 ≤ a) (hab : a ≤ b) (hb : b ≤ T 0 1) (hnm : ∀ a, okn a = true → 0 ≤ a → a < 12 → σ 111 a = nm a) (hc : chkT okn T a b) (w : ∀ σ', eqx [112] σ σ' → Q (evS T nm a b) σ') : XX g true (d + 1) P_X12_worth 0 [(2, 88), (0, k), (0, a), (0, b), (9, 0), (9, 0)] [] 136 σ 136 Q := by
  obtain ⟨t, hc⟩ := hc
  have hn1 := ok.n1
  have eq : ∀ j, a ≤ j → j < a + ((b - a).toNat : Int) → σ 104 (500 * k + j) = T 4 j ∧ σ 105 (500 * k + j) = T 5 j := fun j h1 h2 => hT.2.2 j (by omega) (by omega)
  refine s_worth hk ha hab (by omega) hnm (t := t) ?_ fun σ' h => ?_
  · rw [chkR_congr eq]; exact hc
  · rw [evR_congr eq]; exact w σ' h
theorem s_valueOfT {q a b : Int} {T σ : PS} {okn : Int → Bool} {nm : Int → Int} (hq : LinAt q) (hT : TxtC q T σ) (ok : TxtOK okn T) (ha : 0 ≤ a) (hab : a ≤ b) (hb : b ≤ T 0 1) (hnm : ∀ a, okn a = true → 0 ≤ a → a < 12 → σ 68 (nmap a) = nm a) (hc : chkT okn T a b) (w : ∀ σ', eqx [69] σ σ' → Q (evS T nm a b) σ') : XX g true d P_X0_valueOf 0 [(2, 67), (2, q), (0, a), (0, b), (9, 0), (9, 0), (9, 0), (9, 0), (9, 0), (9, 0)] [] 136 σ 136 Q := by
  obtain ⟨t, hc⟩ := hc
  have hn1 := ok.n1
  exact s_valueOf hq ha hab (by omega) (fun i h0 h1 => hT.co i h0 (by omega)) hnm hc w
theorem tellR_succ (T : PS) (nm : Int → Int) (n : Nat) (l : Int) : tellR T nm (n + 1) l = if T 3 l = T 2 l ∨ evS T nm (T 2 l) (T 3 l) ≠ 0 then evS T nm (T 1 l) (T 2 l) else tellR T nm n (l + 1) := rfl
theorem s_tells {k : Int} {T σ : PS} {okn : Int → Bool} {nm : Int → Int} (hk : 0 ≤ k ∧ k < 3) (hT : TxtM k T σ) (ok : TxtOK okn T) (hnm : ∀ a, okn a = true → 0 ≤ a → a < 12 → σ 111 a = nm a) (w : ∀ σ', eqx [112] σ σ' → Q (tellsS T nm) σ') : XX g true (d + 2) P_X12_tells 0 [(2, 88), (0, k), (9, 0)] [] 136 σ 136 Q := by
  have hn0 := ok.n0
  have e16 : w32 (16 * k) = 16 * k := w32_of (by omega) (by omega)
  have key : ∀ (n : Nat) (l : Int) (σ1 : PS), eqx [112] σ σ1 → 0 ≤ l → l + n = T 0 0 → (∀ σ', eqx [112] σ σ' → Q (tellR T nm n l) σ') → XX g true (d + 2) P_X12_tells 5 [(2, 88), (0, k), (0, 16 * k + l)] [] 136 σ1 136 Q := by
    intro n
    induction n with
    | zero =>
      intro l σ1 hx h0 hl w
      refine B_X12_tells_5 ⟨by omega, fun h => w _ hx, fun h => ?_⟩
      rw [hx 100 (by decide), hT.1, e16, w32_of (by omega) (by omega)] at h
      omega
    | succ n ih =>
      intro l σ1 hx h0 hl w
      obtain ⟨l1, l2, l3, l4⟩ := ok.ln l h0 (by omega)
      obtain ⟨m1, m2, m3⟩ := hT.2.1 l h0 (by omega)
      simp only at m1 m2 m3
      have hT1 : ∀ {σ2 : PS}, eqx [112] σ σ2 → TxtM k T σ2 := fun hx2 => hT.same fun a h1 h2 j => hx2 a (by simp only [List.mem_singleton]; omega) j
      have hn1 : ∀ {σ2 : PS}, eqx [112] σ σ2 → ∀ a, okn a = true → 0 ≤ a → a < 12 → σ2 111 a = nm a := fun hx2 a b1 b2 b3 => by rw [hx2 111 (by decide)]; exact hnm a b1 b2 b3
      rw [tellR_succ] at w
      refine B_X12_tells_5 ⟨by omega, fun h => ?_, fun h => ⟨by omega, ?_⟩⟩
      · rw [hx 100 (by decide), hT.1, e16, w32_of (by omega) (by omega)] at h
        omega
      · rw [hx 101 (by decide), hx 102 (by decide), hx 103 (by decide), m1, m2, m3, w32_of (x := 16 * k + l + 1) (by omega) (by omega)]
        refine ⟨fun h => ?_, fun h => ?_⟩
        · refine s_worthT ⟨by omega, by omega⟩ (hT1 hx) ok l1 l2 (by omega) (hn1 hx) (ok.c1 l h0 (by omega)) fun σ2 hx2 => ?_
          have h9 := w σ2 (hx.tr hx2)
          rw [if_pos (Or.inl h)] at h9
          exact h9
        · refine s_worthT ⟨by omega, by omega⟩ (hT1 hx) ok (by omega) l3 l4 (hn1 hx) (ok.c2 l h0 (by omega) fun z => h z.symm) fun σ2 hx2 => ⟨fun h2 => ?_, fun h2 => ?_⟩
          · rw [show 16 * k + l + 1 = 16 * k + (l + 1) by omega]
            refine ih (l + 1) σ2 (hx.tr hx2) (by omega) (by omega) fun σ' hx' => ?_
            have h9 := w σ' hx'
            rw [if_neg (fun z => z.elim h fun z2 => z2 h2)] at h9
            exact h9
          · rw [(hx.tr hx2) 101 (by decide), (hx.tr hx2) 102 (by decide), m1, m2]
            refine s_worthT ⟨by omega, by omega⟩ (hT1 (hx.tr hx2)) ok l1 l2 (by omega) (hn1 (hx.tr hx2)) (ok.c1 l h0 (by omega)) fun σ3 hx3 => ?_
            have h9 := w σ3 ((hx.tr hx2).tr hx3)
            rw [if_pos (Or.inr h2)] at h9
            exact h9
  refine B_X12_tells_0 fun y1 h1 => ?_
  rw [h1, e16]
  have := key (T 0 0).toNat 0 σ eqx.rf (by omega) (by omega) w
  rw [show 16 * k + 0 = 16 * k by omega] at this
  exact this
theorem s_firstOf {q : Int} {T σ : PS} {okn : Int → Bool} {nm : Int → Int} (hq : LinAt q) (hT : TxtC q T σ) (ok : TxtOK okn T) (hnm : ∀ a, okn a = true → 0 ≤ a → a < 12 → σ 68 (nmap a) = nm a) (w : ∀ σ', eqx [69] σ σ' → Q (tellsS T nm) σ') : XX g true (d + 1) P_X0_firstOf 0 [(2, 67), (2, q), (9, 0), (9, 0), (9, 0)] [] 136 σ 136 Q := by
  have hn0 := ok.n0
  have hq2 : q + 3 < 67 ∧ 0 ≤ q := by unfold LinAt at hq; omega
  have key : ∀ (n : Nat) (l : Int) (σ1 : PS), eqx [69] σ σ1 → 0 ≤ l → l + n = T 0 0 → (∀ σ', eqx [69] σ σ' → Q (tellR T nm n l) σ') → XX g true (d + 1) P_X0_firstOf 2 [(2, 67), (2, q), (0, l), (9, 0), (9, 0)] [] 136 σ1 136 Q := by
    intro n
    induction n with
    | zero =>
      intro l σ1 hx h0 hl w
      refine B_X0_firstOf_2 hq ⟨fun h => w _ hx, fun h => ?_⟩
      rw [hx q (by simp only [List.mem_singleton]; omega), hT.n0] at h
      omega
    | succ n ih =>
      intro l σ1 hx h0 hl w
      obtain ⟨l1, l2, l3, l4⟩ := ok.ln l h0 (by omega)
      have m1 := hT.s ok h0 (by omega)
      have m2 := hT.wh l h0 (by omega)
      have m3 := hT.st l h0 (by omega)
      have hT1 : ∀ {σ2 : PS}, eqx [69] σ σ2 → TxtC q T σ2 := fun hx2 => hT.same fun a h1 h2 j => hx2 a (by simp only [List.mem_singleton]; omega) j
      have hn1 : ∀ {σ2 : PS}, eqx [69] σ σ2 → ∀ a, okn a = true → 0 ≤ a → a < 12 → σ2 68 (nmap a) = nm a := fun hx2 a b1 b2 b3 => by rw [hx2 68 (by decide)]; exact hnm a b1 b2 b3
      have o1 : ∀ {σ2 : PS}, eqx [69] σ σ2 → ∀ j, σ2 (q + 2) j = σ (q + 2) j := fun hx2 j => hx2 (q + 2) (by simp only [List.mem_singleton]; omega) j
      have o2 : ∀ {σ2 : PS}, eqx [69] σ σ2 → ∀ j, σ2 (q + 3) j = σ (q + 3) j := fun hx2 j => hx2 (q + 3) (by simp only [List.mem_singleton]; omega) j
      rw [tellR_succ] at w
      refine B_X0_firstOf_2 hq ⟨fun h => ?_, fun h => ⟨fun h16 => by omega, fun h16 => ⟨by omega, fun y2 e2 => ?_⟩⟩⟩
      · rw [hx q (by simp only [List.mem_singleton]; omega), hT.n0] at h
        omega
      · have ew : w32 (l + 1) = l + 1 := w32_of (by omega) (by omega)
        rw [o2 hx, m2] at e2
        subst e2
        rw [ew]
        refine ⟨by omega, fun y4 e4 => ?_⟩
        rw [o1 hx, m3] at e4
        subst e4
        rw [o1 hx, m1]
        refine ⟨fun h => ⟨by omega, ?_⟩, fun h => ?_⟩
        · refine s_valueOfT hq (hT1 hx) ok l1 l2 (by omega) (hn1 hx) (ok.c1 l h0 (by omega)) fun σ2 hx2 => ?_
          have h9 := w σ2 (hx.tr hx2)
          rw [if_pos (Or.inl h.symm)] at h9
          exact h9
        · refine s_valueOfT hq (hT1 hx) ok (by omega) l3 l4 (hn1 hx) (ok.c2 l h0 (by omega) h) fun σ2 hx2 => ⟨fun h2 => ?_, fun h2 => ⟨by omega, ?_⟩⟩
          · refine ih (l + 1) σ2 (hx.tr hx2) (by omega) (by omega) fun σ' hx' => ?_
            have h9 := w σ' hx'
            rw [if_neg (fun z => z.elim (fun z1 => h z1.symm) fun z2 => z2 h2)] at h9
            exact h9
          · rw [o1 (hx.tr hx2), m1]
            refine s_valueOfT hq (hT1 (hx.tr hx2)) ok l1 l2 (by omega) (hn1 (hx.tr hx2)) (ok.c1 l h0 (by omega)) fun σ3 hx3 => ?_
            have h9 := w σ3 ((hx.tr hx2).tr hx3)
            rw [if_pos (Or.inr h2)] at h9
            exact h9
  exact B_X0_firstOf_0 hq (key (T 0 0).toNat 0 σ eqx.rf (by omega) (by omega) w)
end PTEXT
