/-! THE PARSER, the model: an expression -/
abbrev exJ : List Int := [20, 21, 22, 23, 32, 36, 37]
def CodeM (L : List (Int × Int)) (σ : PS) : Prop := σ 88 32 = L.length ∧ ∀ i : Nat, i < L.length → σ 104 (1500 + i) = (L.getD i (0, 0)).1 ∧ σ 105 (1500 + i) = (L.getD i (0, 0)).2
def eqE (σ0 σ : PS) : Prop := (∀ a j : Int, a ≠ 88 → a ≠ 104 → a ≠ 105 → σ a j = σ0 a j) ∧ (∀ j : Int, j < 1500 → σ 104 j = σ0 104 j ∧ σ 105 j = σ0 105 j) ∧ ∀ j : Int, j ∉ exJ → σ 88 j = σ0 88 j
theorem eqE.rf {σ : PS} : eqE σ σ := ⟨fun _ _ _ _ _ => rfl, fun _ _ => ⟨rfl, rfl⟩, fun _ _ => rfl⟩
theorem eqE.tr {σ σ' σ'' : PS} (h : eqE σ σ') (h2 : eqE σ' σ'') : eqE σ σ'' := ⟨fun a j a1 a2 a3 => (h2.1 a j a1 a2 a3).trans (h.1 a j a1 a2 a3), fun j hj => ⟨(h2.2.1 j hj).1.trans (h.2.1 j hj).1, (h2.2.1 j hj).2.trans (h.2.1 j hj).2⟩, fun j hj => (h2.2.2 j hj).trans (h.2.2 j hj)⟩
theorem eqE.m {σ σ' σ'' : PS} {J : List Int} (h : eqE σ σ') (h2 : eqm [] J σ' σ'') (hJ : ∀ j ∈ J, j ∈ exJ) : eqE σ σ'' := ⟨fun a j a1 a2 a3 => (h2.1 a (by simp) a1 j).trans (h.1 a j a1 a2 a3), fun j hj => ⟨(h2.1 104 (by simp) (by decide) j).trans (h.2.1 j hj).1, (h2.1 105 (by simp) (by decide) j).trans (h.2.1 j hj).2⟩, fun j hj => (h2.2 j fun z => hj (hJ j z)).trans (h.2.2 j hj)⟩
theorem eqE.s8 {σ σ' : PS} {j v : Int} (h : eqE σ σ') (hj : j ∈ exJ) : eqE σ (su σ' 88 j v) := h.m (J := [j]) (eqm.rf.s8 (List.mem_singleton.mpr rfl)) (fun i hi => by rw [List.mem_singleton.mp hi]; exact hj)
theorem eqE.co {σ σ' : PS} {a j v : Int} (h : eqE σ σ') (ha : a = 104 ∨ a = 105) (hj : 1500 ≤ j) : eqE σ (su σ' a j v) := ⟨fun b i a1 a2 a3 => by rw [su_ne (Or.inl (by omega))]; exact h.1 b i a1 a2 a3, fun i hi => by rw [su_ne (Or.inr (by omega)), su_ne (Or.inr (by omega))]; exact h.2.1 i hi, fun i hi => by rw [su_ne (Or.inl (by omega))]; exact h.2.2 i hi⟩
def MS (f : Int → Int) (ln : Int) (σ0 : PS) (c : Nat) (L : List (Int × Int)) (σ : PS) : Prop := eqE σ0 σ ∧ AtM f ln c σ ∧ CodeM L σ
def FltM (f : Int → Int) (ln : Int) (σ0 : PS) (k : Int) (i : Nat) (σ : PS) : Prop := eqE σ0 σ ∧ σ 88 36 = k ∧ σ 88 37 = stP f ln i
def WM (f : Int → Int) (ln : Int) (σ0 : PS) (r : PR) (L : List (Int × Int)) (Q : Int → PS → Prop) : Prop := (r.1 = 0 → ∀ σ', MS f ln σ0 r.2.1 (L ++ r.2.2) σ' → Q 0 σ') ∧ (r.1 ≠ 0 → ∀ σ', FltM f ln σ0 r.1 r.2.1 σ' → Q (-1) σ')
theorem WM.fail {f : Int → Int} {ln : Int} {σ0 : PS} {r : PR} {h : Nat → PR} {L : List (Int × Int)} {Q : Int → PS → Prop} (w : WM f ln σ0 (pBind r h) L Q) (e : r.1 ≠ 0) : ∀ σ', FltM f ln σ0 r.1 r.2.1 σ' → Q (-1) σ' := by
  have := w.2
  rw [pBind_no e] at this
  exact this e
theorem WM.next {f : Int → Int} {ln : Int} {σ0 : PS} {r : PR} {h : Nat → PR} {L : List (Int × Int)} {Q : Int → PS → Prop} (w : WM f ln σ0 (pBind r h) L Q) (e : r.1 = 0) : WM f ln σ0 (h r.2.1) (L ++ r.2.2) Q := by
  have h1 := w.1
  have h2 := w.2
  rw [pBind_ok e] at h1 h2
  exact ⟨fun q σ' hs => h1 q σ' (by rw [← List.append_assoc]; exact hs), h2⟩
theorem WM.nil {f : Int → Int} {ln : Int} {σ0 σ : PS} {c : Nat} {L : List (Int × Int)} {Q : Int → PS → Prop} (w : WM f ln σ0 (0, c, []) L Q) (h : MS f ln σ0 c L σ) : Q 0 σ := w.1 rfl σ (by show MS f ln σ0 c (L ++ []) σ; rw [List.append_nil]; exact h)
def BasM (f : Int → Int) (ln : Int) (cnt : Nat) (lw : Bool) (σ0 : PS) : Prop := TapM ln f σ0 ∧ WrdM σ0 ∧ (∀ i, 0 ≤ i → i < ln → 0 ≤ f i ∧ f i ≤ 255) ∧ (0 ≤ ln ∧ ln ≤ 500) ∧ (stP f ln cnt = ln ∧ cnt ≤ 500) ∧ σ0 88 31 = lwI lw
section PPARM
variable {g : PG} {d : Nat} {Q : Int → PS → Prop} {f : Int → Int} {ln : Int} {cnt : Nat} {lw : Bool} {σ0 σ : PS}
theorem BasM.end_ (h : BasM f ln cnt lw σ0) : KEnd cnt (kdP f ln) := fun c hc hk => by
  rcases Nat.lt_or_eq_of_le hc with z | z
  · exact z
  · rw [z] at hk
    have := h.2.2.2.2.1.1
    unfold kdP at hk
    rw [if_neg (by omega)] at hk
    exact absurd rfl hk
theorem TapM.e (h : TapM ln f σ0) (hx : eqE σ0 σ) : TapM ln f σ := ⟨by rw [hx.2.2 19 (by decide)]; exact h.1, fun i i0 i1 => by rw [hx.1 98 i (by decide) (by decide) (by decide)]; exact h.2 i i0 i1⟩
theorem WrdM.e (h : WrdM σ0) (hx : eqE σ0 σ) : WrdM σ := fun i hi => by rw [hx.1 99 i (by decide) (by decide) (by decide)]; exact h i hi
theorem BasM.mv (h : BasM f ln cnt lw σ0) (hx : eqE σ0 σ) : BasM f ln cnt lw σ := ⟨h.1.e hx, h.2.1.e hx, h.2.2.1, h.2.2.2.1, h.2.2.2.2.1, by rw [hx.2.2 31 (by decide)]; exact h.2.2.2.2.2⟩
theorem CodeM.e8 {L : List (Int × Int)} {σ' : PS} {J : List Int} (h : CodeM L σ) (hx : eqm [] J σ σ') (h32 : (32 : Int) ∉ J) : CodeM L σ' := ⟨(hx.2 32 h32).trans h.1, fun i hi => by rw [hx.1 104 (by simp) (by decide), hx.1 105 (by simp) (by decide)]; exact h.2 i hi⟩
theorem s_readsM (hB : BasM f ln cnt lw σ0) {c : Nat} {L : List (Int × Int)} (h : MS f ln σ0 c L σ) (w : ∀ σ', MS f ln σ0 (c + 1) L σ' → Q 0 σ') : XX g true (d + 2) P_X12_reads 0 [(2, 88), (9, 0)] [] 136 σ 136 Q := by
  obtain ⟨a1, a2, a3⟩ := h
  exact s_reads (hB.1.e a1) (hB.2.1.e a1) hB.2.2.1 hB.2.2.2.1 a2.2.2.1 a2.2.2.2 fun σ' hx hA => w σ' ⟨a1.m hx (by decide), hA, a3.e8 hx (by decide)⟩
theorem s_emits {c : Nat} {L : List (Int × Int)} {op ar : Int} (h : MS f ln σ0 c L σ) (hl : L.length < 500) (w : ∀ σ', MS f ln σ0 c (L ++ [(op, ar)]) σ' → Q 0 σ') : XX g true d P_X12_emits 0 [(2, 88), (0, op), (0, ar)] [] 136 σ 136 Q := by
  obtain ⟨a1, a2, a3, a4⟩ := h
  refine B_X12_emits_0 ?_
  rw [a3, w32_of (by omega) (by omega), w32_of (x := (L.length : Int) + 1) (by omega) (by omega)]
  refine ⟨by omega, w _ ⟨((a1.co (by omega) (by omega)).co (by omega) (by omega)).s8 (by decide), ?_, ?_, fun i hi => ?_⟩⟩
  · unfold AtM at a2 ⊢
    simp only [su_ne (σ := su (su σ 104 (1500 + (L.length : Int)) op) 105 (1500 + (L.length : Int)) ar) (show (88 : Int) ≠ 88 ∨ (20 : Int) ≠ 32 from Or.inr (by decide)), su_ne (σ := su (su σ 104 (1500 + (L.length : Int)) op) 105 (1500 + (L.length : Int)) ar) (show (88 : Int) ≠ 88 ∨ (21 : Int) ≠ 32 from Or.inr (by decide)), su_ne (σ := su (su σ 104 (1500 + (L.length : Int)) op) 105 (1500 + (L.length : Int)) ar) (show (88 : Int) ≠ 88 ∨ (22 : Int) ≠ 32 from Or.inr (by decide)), su_ne (σ := su (su σ 104 (1500 + (L.length : Int)) op) 105 (1500 + (L.length : Int)) ar) (show (88 : Int) ≠ 88 ∨ (23 : Int) ≠ 32 from Or.inr (by decide))]
    simp only [su_fn (show (88 : Int) ≠ 105 by decide), su_fn (show (88 : Int) ≠ 104 by decide)]
    exact a2
  · rw [su_eq, List.length_append, List.length_singleton]; omega
  · rw [List.length_append, List.length_singleton] at hi
    rw [su_ne (Or.inl (by decide)), su_ne (Or.inl (by decide)), su_ne (σ := su (su σ 104 (1500 + (L.length : Int)) op) 105 (1500 + (L.length : Int)) ar) (Or.inl (by decide))]
    by_cases z : i = L.length
    · subst z
      rw [getD_e, su_eq, su_eq]
      exact ⟨rfl, rfl⟩
    · rw [getD_l (by omega), su_ne (Or.inr (by omega)), su_ne (Or.inr (by omega)), su_ne (Or.inl (by decide))]
      exact a4 i (by omega)
theorem s_errs {c : Nat} {L : List (Int × Int)} {k : Int} (h : MS f ln σ0 c L σ) (w : ∀ σ', FltM f ln σ0 k c σ' → Q (-1) σ') : XX g true d P_X12_errs 0 [(2, 88), (0, k)] [] 136 σ 136 Q := by
  refine B_X12_errs_0 ?_
  rw [h.2.1.1]
  exact w _ ⟨(h.1.s8 (by decide)).s8 (by decide), by rw [su_ne (Or.inr (by decide)), su_eq], su_eq⟩
theorem s_isSign {c : Nat} {k : Int} (h : AtM f ln c σ) (hk : isSy k = true) (w1 : kdP f ln c = k → Q 1 σ) (w0 : kdP f ln c ≠ k → Q 0 σ) : XX g true d P_X12_isSign 0 [(2, 88), (0, k)] [] 136 σ 136 Q := by
  have hs := h.2.1.sign hk
  exact B_X12_isSign_0 ⟨fun z => w0 fun q => z (hs.mpr q).1, fun z => ⟨fun z1 => w0 fun q => z1 (hs.mpr q).2, fun z1 => w1 (hs.mp ⟨z, z1⟩)⟩⟩
theorem s_isWord {c : Nat} {v : Int} (h : AtM f ln c σ) (h0 : 0 ≤ v) (h1 : v < 24) (w1 : kdP f ln c = wmap v → Q 1 σ) (w0 : kdP f ln c ≠ wmap v → Q 0 σ) : XX g true d P_X12_isWord 0 [(2, 88), (0, v)] [] 136 σ 136 Q := by
  have hs := h.2.1.word h0 h1
  exact B_X12_isWord_0 ⟨fun z => w0 fun q => z (hs.mpr q).1, fun z => ⟨fun z1 => w0 fun q => z1 (hs.mpr q).2, fun z1 => w1 (hs.mp ⟨z, z1⟩)⟩⟩
theorem wm_ask : ∀ v : Nat, v < 24 → (isNm true (wmap v) = true ↔ 13 ≤ v ∧ v ≤ 21) ∧ (isNm false (wmap v) = true ↔ v = 6 ∨ (14 ≤ v ∧ v ≤ 18) ∨ v = 20 ∨ 22 ≤ v) ∧ ((isNm true (wmap v) = true ∨ isNm false (wmap v) = true) → askOf (wmap v) = if v = 6 then 11 else (v : Int) - 13) := by decide
theorem s_isAsked (hB : BasM f ln cnt lw σ) {c : Nat} (h : AtM f ln c σ) (w1 : isNm lw (kdP f ln c) = true → (σ 88 23 = 6 → askOf (kdP f ln c) = 11) → (σ 88 23 ≠ 6 → w32 (σ 88 23 - 13) = askOf (kdP f ln c)) → Q 1 σ) (w0 : ¬ isNm lw (kdP f ln c) = true → Q 0 σ) : XX g true (d + 1) P_X12_isAskedWord 0 [(2, 88)] [] 136 σ 136 Q := by
  have e31 := hB.2.2.2.2.2
  have hT := h.2.1
  by_cases h2 : σ 88 22 = 2
  · -- a word
    have hw : (0 ≤ σ 88 23 ∧ σ 88 23 < 24) ∧ kdP f ln c = wmap (σ 88 23) := by
      rcases hT with z | z | z | z | z
      · omega
      · omega
      · omega
      · omega
      · exact ⟨⟨z.2.1, z.2.2.1⟩, z.2.2.2⟩
    obtain ⟨⟨v0, v1⟩, hk⟩ := hw
    have ha := wm_ask (σ 88 23).toNat (by omega)
    rw [show (((σ 88 23).toNat : Nat) : Int) = σ 88 23 by omega, ← hk] at ha
    obtain ⟨a1, a2, a3⟩ := ha
    have yes : isNm lw (kdP f ln c) = true → Q 1 σ := fun q => by
      have q3 : askOf (kdP f ln c) = if (σ 88 23).toNat = 6 then 11 else σ 88 23 - 13 := a3 (by cases lw with
        | true => exact Or.inl q
        | false => exact Or.inr q)
      refine w1 q (fun q6 => ?_) fun q6 => ?_
      · rw [q3, if_pos (by omega)]
      · rw [q3, if_neg (by omega), w32_of (by omega) (by omega)]
    refine B_X12_isAskedWord_0 ⟨fun _ => ?_, fun z => absurd h2 z⟩
    rw [e31]
    cases lw with
    | true =>
      refine ⟨fun z => absurd z (by decide), fun _ => s_isIn ⟨ite01 _, ?_⟩⟩
      by_cases q : 13 ≤ σ 88 23 ∧ σ 88 23 ≤ 21
      · rw [if_pos q]; exact yes (a1.mpr (by omega))
      · rw [if_neg q]; exact w0 fun q2 => q (by have := a1.mp q2; omega)
    | false =>
      refine ⟨fun _ => ⟨fun z => yes (a2.mpr (by omega)), fun z => s_isIn ⟨fun z1 => yes (a2.mpr (by have := isIn_pos z1; omega)), fun z1 => ⟨fun z2 => yes (a2.mpr (by omega)), fun z2 => ⟨fun z3 => w0 fun q2 => ?_, fun z3 => yes (a2.mpr (by omega))⟩⟩⟩⟩, fun z => absurd rfl z⟩
      have h1 := a2.mp q2
      have h3 := isIn_neg z1
      omega
  · have hn : ¬ isNm lw (kdP f ln c) = true := fun q => by
      have := isNm_ne q
      rcases hT with z | z | z | z | z
      · omega
      · omega
      · omega
      · have := isSy_iff.mp z.1; omega
      · exact h2 z.1
    exact B_X12_isAskedWord_0 ⟨fun z => absurd z h2, fun _ => w0 hn⟩
theorem s_unitM (hB : BasM f ln cnt lw σ0) {c : Nat} {L : List (Int × Int)} (h : MS f ln σ0 c L σ) (hc : c ≤ cnt) (hL : L.length ≤ c) (w : WM f ln σ0 (pUnit lw (kdP f ln) (nmP f ln) c) L Q) : XX g true (d + 3) P_X12_readUnit 0 [(2, 88), (9, 0)] [] 136 σ 136 Q := by
  have h5 := hB.2.2.2.2.1.2
  have hT := h.2.1.2.1
  unfold pUnit at w
  refine B_X12_readUnit_0 (s_isAsked (hB.mv h.1) h.2.1 (fun hn h6 h7 => ⟨fun _ => ⟨fun z => absurd z (by decide), fun _ => ⟨fun _ => ⟨fun z => ?_, fun z => ?_⟩, fun z => absurd z (by decide)⟩⟩, fun z => absurd z (by decide)⟩) fun hn => ⟨fun z => absurd rfl z, fun _ => ⟨fun z => ⟨fun _ => ⟨fun z => absurd rfl z, fun _ => ?_⟩, fun z => absurd rfl z⟩, fun z => ?_⟩⟩)
  · have hr := isNm_ne hn
    have hlt := hB.end_ c hc (by omega)
    rw [if_neg (by omega), if_pos hn] at w
    rw [h7 z]
    exact s_emits h (by omega) fun σ1 h1 => s_readsM hB h1 fun σ2 h2 => w.1 rfl σ2 h2
  · have hr := isNm_ne hn
    have hlt := hB.end_ c hc (by omega)
    rw [if_neg (by omega), if_pos hn, h6 z] at w
    exact s_emits h (by omega) fun σ1 h1 => s_readsM hB h1 fun σ2 h2 => w.1 rfl σ2 h2
  · have hk := hT.num.1.mp z
    have hlt := hB.end_ c hc (by omega)
    rw [if_pos hk] at w
    rw [hT.num.2 hk]
    exact s_emits h (by omega) fun σ1 h1 => s_readsM hB h1 fun σ2 h2 => w.1 rfl σ2 h2
  · rw [if_neg (fun q => z (hT.num.1.mpr q)), if_neg hn] at w
    exact s_errs h fun σ1 h1 => w.2 (show ¬ (1 : Int) = 0 by decide) σ1 h1
theorem s_prod10 (hB : BasM f ln cnt lw σ0) : ∀ (n c : Nat) (L : List (Int × Int)) (σ : PS), cnt ≤ c + n → MS f ln σ0 c L σ → c ≤ cnt → L.length ≤ c → WM f ln σ0 (pProdL lw (kdP f ln) (nmP f ln) n c) L Q → XX g true (d + 4) P_X12_readProduct 10 [(2, 88), (9, 0)] [] 136 σ 136 Q := by
  have h5 := hB.2.2.2.2.1.2
  intro n
  induction n with
  | zero =>
    intro c L σ hn h hc hL w
    have hk : kdP f ln c = 0 := Classical.byContradiction fun q => by have := hB.end_ c hc q; omega
    refine B_X12_readProduct_10 (s_isSign h.2.1 (by decide) (fun q => by omega) fun q => ⟨fun z => absurd rfl z, fun _ => s_isSign h.2.1 (by decide) (fun q => by omega) fun q => ⟨fun _ => w.nil h, fun z => absurd rfl z⟩⟩)
  | succ n ih =>
    intro c L σ hn h hc hL w
    rw [pProdL_succ] at w
    -- a part, then its sign
    have part : ∀ (op : Int) (σ1 : PS) (F : Int → PS → Prop), MS f ln σ0 (c + 1) L σ1 → c < cnt → WM f ln σ0 (pBind (pUnit lw (kdP f ln) (nmP f ln) (c + 1)) fun j => pBind (pOne op j) (pProdL lw (kdP f ln) (nmP f ln) n)) L Q → (∀ σ9, XX g true (d + 3) P_X12_emits 0 [(2, 88), (0, op), (0, 0)] [] 136 σ9 136 (fun _ σ11 => (XX g true (d + 4) P_X12_readProduct 10 [(2, 88), (9, 0)] [] 136 σ11 136 Q)) → F 0 σ9) → (∀ σ9, Q (-1) σ9 → F (-1) σ9) → XX g true (d + 3) P_X12_readUnit 0 [(2, 88), (9, 0)] [] 136 σ1 136 F := by
      intro op σ1 F h1 hlt w f1 f2
      have hu := g_unit (lw := lw) (V := nmP f ln) hB.end_ (c := c + 1) (by omega)
      refine s_unitM hB h1 (by omega) (by omega) ⟨fun e σ2 h2 => f1 σ2 ?_, fun e σ2 h2 => f2 σ2 (w.fail e σ2 h2)⟩
      have hb := bdP hL hu.1 e
      refine s_emits h2 (by omega) fun σ3 h3 => ?_
      have hlt2 := hu.2 e
      refine ih _ _ σ3 (by omega) h3 hb.2 ?_ ((w.next e).next rfl)
      rw [List.length_append, List.length_singleton]
      omega
    refine B_X12_readProduct_10 (s_isSign h.2.1 (by decide) (fun q => ⟨fun _ => s_isSign h.2.1 (by decide) (fun _ => ?_) (fun q2 => absurd q q2), fun z => absurd z (by decide)⟩) fun q => ⟨fun z => absurd rfl z, fun _ => s_isSign h.2.1 (by decide) (fun q1 => ⟨fun z => absurd z (by decide), fun _ => s_isSign h.2.1 (by decide) (fun q2 => absurd q2 q) fun _ => ?_⟩) fun q1 => ⟨fun _ => ?_, fun z => absurd rfl z⟩⟩)
    · have hlt := hB.end_ c hc (by omega)
      rw [if_pos (Or.inl q), if_neg (by omega), if_neg (by omega), q] at w
      refine s_readsM hB h fun σ1 h1 => ⟨fun _ => ⟨fun _ => ?_, fun z => absurd z (by decide)⟩, fun z => absurd z (by decide)⟩
      exact part 4 σ1 _ h1 hlt w (fun σ9 hF => ⟨fun _ => ⟨fun z => absurd z (by decide), fun _ => hF⟩, fun z => absurd z (by decide)⟩) fun σ9 hF => ⟨fun z => absurd rfl z, fun _ => hF⟩
    · have hlt := hB.end_ c hc (by omega)
      rw [if_pos (Or.inr q1)] at w
      refine s_readsM hB h fun σ1 h1 => ⟨fun z => absurd rfl z, fun _ => ?_⟩
      have hT1 := h1.2.1.2.1
      refine ⟨fun z => ⟨fun z1 => absurd rfl z1, fun _ => ⟨fun z1 => ?_, fun z1 => ?_⟩⟩, fun z => ?_⟩
      · have hk := hT1.num.1.mp z
        rw [if_neg (fun q2 => q2.2 hk), if_neg (fun q2 => z1 (by rw [hT1.num.2 hk]; exact q2.2)), q1] at w
        exact part 5 σ1 _ h1 hlt w (fun σ9 hF => ⟨fun _ => ⟨fun _ => hF, fun z => absurd rfl z⟩, fun z => absurd z (by decide)⟩) fun σ9 hF => ⟨fun z => absurd rfl z, fun _ => hF⟩
      · have hk := hT1.num.1.mp z
        rw [if_neg (fun q2 => q2.2 hk), if_pos ⟨q1, by rw [← hT1.num.2 hk]; exact z1⟩] at w
        exact s_errs h1 fun σ2 h2 => w.2 (show ¬ (2 : Int) = 0 by decide) σ2 h2
      · rw [if_pos ⟨q1, fun q2 => z (hT1.num.1.mpr q2)⟩] at w
        exact s_errs h1 fun σ2 h2 => w.2 (show ¬ (1 : Int) = 0 by decide) σ2 h2
    · rw [if_neg (by omega)] at w
      exact w.nil h
theorem s_prodM (hB : BasM f ln cnt lw σ0) {c : Nat} {L : List (Int × Int)} (h : MS f ln σ0 c L σ) (hc : c ≤ cnt) (hL : L.length ≤ c) (w : WM f ln σ0 (pProd lw (kdP f ln) (nmP f ln) c) L Q) : XX g true (d + 4) P_X12_readProduct 0 [(2, 88), (9, 0)] [] 136 σ 136 Q := by
  have h5 := hB.2.2.2.2.1.2
  unfold pProd at w
  refine B_X12_readProduct_0 (s_unitM hB h hc hL ⟨fun e σ1 h1 => ⟨fun _ => ?_, fun z => absurd z (by decide)⟩, fun e σ1 h1 => ⟨fun z => absurd rfl z, fun _ => w.fail e σ1 h1⟩⟩)
  have hb := bdL hL (g_unit hB.end_ hc).1 e
  exact s_prod10 hB 500 _ _ σ1 (by omega) h1 hb.2 hb.1 (w.next e)
theorem s_sum10 (hB : BasM f ln cnt lw σ0) : ∀ (n c : Nat) (L : List (Int × Int)) (σ : PS), cnt ≤ c + n → MS f ln σ0 c L σ → c ≤ cnt → L.length ≤ c → WM f ln σ0 (pSumL lw (kdP f ln) (nmP f ln) n c) L Q → XX g true (d + 5) P_X12_readSum 10 [(2, 88), (9, 0)] [] 136 σ 136 Q := by
  have h5 := hB.2.2.2.2.1.2
  intro n
  induction n with
  | zero =>
    intro c L σ hn h hc hL w
    have hk : kdP f ln c = 0 := Classical.byContradiction fun q => by have := hB.end_ c hc q; omega
    refine B_X12_readSum_10 (s_isSign h.2.1 (by decide) (fun q => by omega) fun q => ⟨fun z => absurd rfl z, fun _ => s_isSign h.2.1 (by decide) (fun q => by omega) fun q => ⟨fun _ => w.nil h, fun z => absurd rfl z⟩⟩)
  | succ n ih =>
    intro c L σ hn h hc hL w
    rw [pSumL_succ] at w
    have part : ∀ (op : Int) (σ1 : PS), MS f ln σ0 (c + 1) L σ1 → c < cnt → WM f ln σ0 (pBind (pProd lw (kdP f ln) (nmP f ln) (c + 1)) fun j => pBind (pOne op j) (pSumL lw (kdP f ln) (nmP f ln) n)) L Q → XX g true (d + 4) P_X12_readProduct 0 [(2, 88), (9, 0)] [] 136 σ1 136 (fun r6 σ5 => ((r6 ≠ (-1) → XX g true (d + 4) P_X12_emits 0 [(2, 88), (0, op), (0, 0)] [] 136 σ5 136 (fun _ σ7 => (XX g true (d + 5) P_X12_readSum 10 [(2, 88), (9, 0)] [] 136 σ7 136 Q))) ∧ (r6 = (-1) → Q (-1) σ5))) := by
      intro op σ1 h1 hlt w
      have hu := g_prod (lw := lw) (V := nmP f ln) hB.end_ (c := c + 1) (by omega)
      refine s_prodM hB h1 (by omega) (by omega) ⟨fun e σ2 h2 => ⟨fun _ => ?_, fun z => absurd z (by decide)⟩, fun e σ2 h2 => ⟨fun z => absurd rfl z, fun _ => w.fail e σ2 h2⟩⟩
      have hb := bdP hL hu.1 e
      refine s_emits h2 (by omega) fun σ3 h3 => ?_
      have hlt2 := hu.2 e
      refine ih _ _ σ3 (by omega) h3 hb.2 ?_ ((w.next e).next rfl)
      rw [List.length_append, List.length_singleton]
      omega
    have hval : ∀ k, isSy k = true → kdP f ln c = k → σ 88 23 = k := fun k hk q => (((h.2.1.2.1).sign hk).mpr q).2
    refine B_X12_readSum_10 (s_isSign h.2.1 (by decide) (fun q => ⟨fun _ => ⟨fun z => absurd (hval 43 (by decide) q) z, fun _ => ?_⟩, fun z => absurd z (by decide)⟩) fun q => ⟨fun z => absurd rfl z, fun _ => s_isSign h.2.1 (by decide) (fun q1 => ⟨fun z => absurd z (by decide), fun _ => ⟨fun _ => ?_, fun z => by have := hval 45 (by decide) q1; omega⟩⟩) fun q1 => ⟨fun _ => ?_, fun z => absurd rfl z⟩⟩)
    · have hlt := hB.end_ c hc (by omega)
      rw [if_pos (Or.inl q), q] at w
      exact s_readsM hB h fun σ1 h1 => part 2 σ1 h1 hlt w
    · have hlt := hB.end_ c hc (by omega)
      rw [if_pos (Or.inr q1), q1] at w
      exact s_readsM hB h fun σ1 h1 => part 3 σ1 h1 hlt w
    · rw [if_neg (by omega)] at w
      exact w.nil h
theorem s_sumM (hB : BasM f ln cnt lw σ0) {c : Nat} {L : List (Int × Int)} (h : MS f ln σ0 c L σ) (hc : c ≤ cnt) (hL : L.length ≤ c) (w : WM f ln σ0 (pSum lw (kdP f ln) (nmP f ln) c) L Q) : XX g true (d + 5) P_X12_readSum 0 [(2, 88), (9, 0)] [] 136 σ 136 Q := by
  have h5 := hB.2.2.2.2.1.2
  unfold pSum at w
  refine B_X12_readSum_0 (s_prodM hB h hc hL ⟨fun e σ1 h1 => ⟨fun _ => ?_, fun z => absurd z (by decide)⟩, fun e σ1 h1 => ⟨fun z => absurd rfl z, fun _ => w.fail e σ1 h1⟩⟩)
  have hb := bdL hL (g_prod hB.end_ hc).1 e
  exact s_sum10 hB 500 _ _ σ1 (by omega) h1 hb.2 hb.1 (w.next e)
theorem s_cmpM (hB : BasM f ln cnt lw σ0) {c : Nat} {L : List (Int × Int)} (h : MS f ln σ0 c L σ) (hc : c ≤ cnt) (hL : L.length ≤ c) (w : WM f ln σ0 (pCmp lw (kdP f ln) (nmP f ln) c) L Q) : XX g true (d + 6) P_X12_readCompared 0 [(2, 88), (9, 0)] [] 136 σ 136 Q := by
  have h5 := hB.2.2.2.2.1.2
  unfold pCmp at w
  refine B_X12_readCompared_0 (s_sumM hB h hc hL ⟨fun e σ1 h1 => ⟨fun _ => ?_, fun z => absurd z (by decide)⟩, fun e σ1 h1 => ⟨fun z => absurd rfl z, fun _ => w.fail e σ1 h1⟩⟩)
  have hb := bdL hL (g_sum (lw := lw) (V := nmP f ln) hB.end_ hc).1 e
  have w1 := w.next e
  clear w
  generalize (pSum lw (kdP f ln) (nmP f ln) c).2.1 = j at *
  generalize L ++ (pSum lw (kdP f ln) (nmP f ln) c).2.2 = L1 at *
  have hval : ∀ k, isSy k = true → kdP f ln j = k → σ1 88 23 = k := fun k hk q => (((h1.2.1.2.1).sign hk).mpr q).2
  have fin : (kdP f ln j = 60 ∨ kdP f ln j = 61 ∨ kdP f ln j = 62) → XX g true (d + 5) P_X12_reads 0 [(2, 88), (9, 0)] [] 136 σ1 136 (fun _ σ5 => XX g true (d + 5) P_X12_readSum 0 [(2, 88), (9, 0)] [] 136 σ5 136 (fun r8 σ7 => ((r8 ≠ (-1) → XX g true (d + 5) P_X12_emits 0 [(2, 88), (0, opOf (kdP f ln j)), (0, 0)] [] 136 σ7 136 (fun _ σ9 => Q 0 σ9)) ∧ (r8 = (-1) → Q (-1) σ7)))) := by
    intro hk
    have hlt := hB.end_ j hb.2 (by omega)
    rw [if_pos hk] at w1
    refine s_readsM hB h1 fun σ2 h2 => ?_
    have hu := g_sum (lw := lw) (V := nmP f ln) hB.end_ (c := j + 1) (by omega)
    refine s_sumM hB h2 (by omega) (by omega) ⟨fun e2 σ3 h3 => ⟨fun _ => ?_, fun z => absurd z (by decide)⟩, fun e2 σ3 h3 => ⟨fun z => absurd rfl z, fun _ => w1.fail e2 σ3 h3⟩⟩
    have hb2 := bdP hb.1 hu.1 e2
    exact s_emits h3 (by omega) fun σ4 h4 => (w1.next e2).1 rfl σ4 h4
  refine s_isSign h1.2.1 (by decide) (fun q => ⟨fun _ => ⟨fun z => absurd (hval 60 (by decide) q) z, fun _ => ?_⟩, fun z => absurd z (by decide)⟩) fun q => ⟨fun z => absurd rfl z, fun _ => s_isSign h1.2.1 (by decide) (fun q1 => ⟨fun _ => ⟨fun _ => ⟨fun z => absurd (hval 61 (by decide) q1) z, fun _ => ?_⟩, fun z => by have := hval 61 (by decide) q1; omega⟩, fun z => absurd z (by decide)⟩) fun q1 => ⟨fun z => absurd rfl z, fun _ => s_isSign h1.2.1 (by decide) (fun q2 => ⟨fun _ => ⟨fun _ => ⟨fun _ => ?_, fun z => by have := hval 62 (by decide) q2; omega⟩, fun z => by have := hval 62 (by decide) q2; omega⟩, fun z => absurd z (by decide)⟩) fun q2 => ⟨fun z => absurd rfl z, fun _ => ?_⟩⟩⟩
  · have := fin (Or.inl q)
    rw [q] at this
    exact this
  · have := fin (Or.inr (Or.inl q1))
    rw [q1] at this
    exact this
  · have := fin (Or.inr (Or.inr q2))
    rw [q2] at this
    exact this
  · rw [if_neg (by omega)] at w1
    exact s_errs h1 fun σ2 h2 => w1.2 (show ¬ (1 : Int) = 0 by decide) σ2 h2
end PPARM
