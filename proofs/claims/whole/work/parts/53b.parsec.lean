/-! THE PARSER, the class: an expression -/
def CodeC (L : List (Int × Int)) (σ : PS) : Prop := σ 7 4 = L.length ∧ ∀ i : Nat, i < L.length → σ 8 i = partOf (L.getD i (0, 0)).1 (L.getD i (0, 0)).2
def eqP (σ0 σ : PS) : Prop := ∀ a j : Int, a ≠ 8 → ¬ (a = 1 ∧ j = 5) → ¬ (a = 6 ∧ (j = 3 ∨ j = 4)) → ¬ (a = 7 ∧ j = 4) → σ a j = σ0 a j
theorem eqP.rf {σ : PS} : eqP σ σ := fun _ _ _ _ _ _ => rfl
theorem eqP.tr {σ σ' σ'' : PS} (h : eqP σ σ') (h2 : eqP σ' σ'') : eqP σ σ'' := fun a j a1 a2 a3 a4 => (h2 a j a1 a2 a3 a4).trans (h a j a1 a2 a3 a4)
theorem eqP.su {σ σ' : PS} {a j v : Int} (h : eqP σ σ') (ha : a = 8 ∨ (a = 1 ∧ j = 5) ∨ (a = 6 ∧ (j = 3 ∨ j = 4)) ∨ (a = 7 ∧ j = 4)) : eqP σ (su σ' a j v) := fun b i a1 a2 a3 a4 => by
  rw [su_ne (by omega)]
  exact h b i a1 a2 a3 a4
def lwI (lw : Bool) : Int := if lw = true then 1 else 0
def CS (σ0 : PS) (c : Nat) (L : List (Int × Int)) (σ : PS) : Prop := eqP σ0 σ ∧ (σ 1 5 = (c : Int) ∧ σ 6 3 = σ0 6 3 ∧ σ 6 4 = σ0 6 4) ∧ CodeC L σ
def FltC (f : Int → Int) (ln : Int) (σ0 : PS) (k : Int) (i : Nat) (σ : PS) : Prop := eqP σ0 σ ∧ σ 6 3 = k ∧ σ 6 4 = stP f ln i
def WC (f : Int → Int) (ln : Int) (σ0 : PS) (r : PR) (L : List (Int × Int)) (Q : Int → PS → Prop) : Prop := (r.1 = 0 → ∀ σ', CS σ0 r.2.1 (L ++ r.2.2) σ' → Q 1 σ') ∧ (r.1 ≠ 0 → ∀ σ', FltC f ln σ0 r.1 r.2.1 σ' → Q 0 σ')
theorem WC.fail {f : Int → Int} {ln : Int} {σ0 : PS} {r : PR} {h : Nat → PR} {L : List (Int × Int)} {Q : Int → PS → Prop} (w : WC f ln σ0 (pBind r h) L Q) (e : r.1 ≠ 0) : ∀ σ', FltC f ln σ0 r.1 r.2.1 σ' → Q 0 σ' := by
  have := w.2
  rw [pBind_no e] at this
  exact this e
theorem WC.next {f : Int → Int} {ln : Int} {σ0 : PS} {r : PR} {h : Nat → PR} {L : List (Int × Int)} {Q : Int → PS → Prop} (w : WC f ln σ0 (pBind r h) L Q) (e : r.1 = 0) : WC f ln σ0 (h r.2.1) (L ++ r.2.2) Q := by
  have h1 := w.1
  have h2 := w.2
  rw [pBind_ok e] at h1 h2
  exact ⟨fun q σ' hs => h1 q σ' (by rw [← List.append_assoc]; exact hs), h2⟩
theorem WC.nil {f : Int → Int} {ln : Int} {σ0 σ : PS} {c : Nat} {L : List (Int × Int)} {Q : Int → PS → Prop} (w : WC f ln σ0 (0, c, []) L Q) (h : CS σ0 c L σ) : Q 1 σ := w.1 rfl σ (by show CS σ0 c (L ++ []) σ; rw [List.append_nil]; exact h)
theorem bdL {cnt c : Nat} {r : PR} {L : List (Int × Int)} (hL : L.length ≤ c) (hr : PrG cnt c 0 r) (e : r.1 = 0) : (L ++ r.2.2).length ≤ r.2.1 ∧ r.2.1 ≤ cnt := by
  obtain ⟨a1, a2, a3⟩ := hr.1 e
  rw [List.length_append]
  omega
/-- room for one more, behind a sign -/
theorem bdP {cnt c : Nat} {r : PR} {L : List (Int × Int)} (hL : L.length ≤ c) (hr : PrG cnt (c + 1) 0 r) (e : r.1 = 0) : (L ++ r.2.2).length < r.2.1 ∧ r.2.1 ≤ cnt := by
  obtain ⟨a1, a2, a3⟩ := hr.1 e
  rw [List.length_append]
  omega
theorem nm_part : ∀ k : Nat, k < 12 → (isNm true (262 + k) = true ∨ isNm false (262 + k) = true) → partOf 1 (askOf (262 + k)) = -(262 + (k : Int)) := by decide
section PPARC
variable {g : PG} {d : Nat} {Q : Int → PS → Prop} {f : Int → Int} {ln : Int} {cnt : Nat} {lw : Bool} {σ0 σ : PS}
def BasC (f : Int → Int) (ln : Int) (cnt : Nat) (lw : Bool) (σ0 : PS) : Prop := TokC f ln cnt σ0 ∧ σ0 6 5 = lwI lw
theorem BasC.end_ (h : BasC f ln cnt lw σ0) : KEnd cnt (kdP f ln) := fun c hc hk => by
  rcases Nat.lt_or_eq_of_le hc with z | z
  · exact z
  · rw [z] at hk
    have := h.1.2.1
    unfold kdP at hk
    rw [if_neg (by omega)] at hk
    exact absurd rfl hk
theorem s_kind (hB : BasC f ln cnt lw σ0) {c : Nat} {L : List (Int × Int)} (h : CS σ0 c L σ) (hc : c ≤ cnt) (w : Q (kdP f ln c) σ) : XX g true d P_X8_kind 0 [(2, 1)] [] 136 σ 136 Q := by
  have h5 := hB.1.2.2.1
  have e : σ 3 c = kdP f ln c := by rw [h.1 3 c (by decide) (by omega) (by omega) (by omega)]; exact (hB.1.2.2.2 c hc).1
  refine B_X8_kind_0 ?_
  rw [h.2.1.1, e]
  exact ⟨by omega, w⟩
theorem s_number (hB : BasC f ln cnt lw σ0) {c : Nat} {L : List (Int × Int)} (h : CS σ0 c L σ) (hc : c ≤ cnt) (w : Q (nmP f ln c) σ) : XX g true d P_X8_number 0 [(2, 1)] [] 136 σ 136 Q := by
  have h5 := hB.1.2.2.1
  have e : σ 5 c = nmP f ln c := by rw [h.1 5 c (by decide) (by omega) (by omega) (by omega)]; exact (hB.1.2.2.2 c hc).2.2
  refine B_X8_number_0 ?_
  rw [h.2.1.1, e]
  exact ⟨by omega, w⟩
theorem CodeC.ne {L : List (Int × Int)} {a j v : Int} (h : CodeC L σ) (ha : a ≠ 8 ∧ ¬ (a = 7 ∧ j = 4)) : CodeC L (su σ a j v) := ⟨by rw [su_ne (by omega)]; exact h.1, fun i hi => by rw [su_ne (by omega)]; exact h.2 i hi⟩
theorem s_next (hB : BasC f ln cnt lw σ0) {c : Nat} {L : List (Int × Int)} (h : CS σ0 c L σ) (hc : c ≤ cnt) (hk : kdP f ln c ≠ 0) (w : ∀ σ', CS σ0 (c + 1) L σ' → Q 0 σ') : XX g true d P_X8_next 0 [(2, 1)] [] 136 σ 136 Q := by
  have h5 := hB.1.2.2.1
  have h6 := hB.end_ c hc hk
  have e : σ 3 c = kdP f ln c := by rw [h.1 3 c (by decide) (by omega) (by omega) (by omega)]; exact (hB.1.2.2.2 c hc).1
  refine B_X8_next_0 ?_
  rw [h.2.1.1, e, w32_of (by omega) (by omega)]
  refine ⟨fun z => by omega, fun _ => ⟨by omega, fun z => absurd z hk, fun _ => w _ ⟨h.1.su (by omega), ⟨by rw [su_eq]; omega, by rw [su_ne (Or.inl (by decide))]; exact h.2.1.2.1, by rw [su_ne (Or.inl (by decide))]; exact h.2.1.2.2⟩, h.2.2.ne (by decide)⟩⟩⟩
theorem s_stop (hB : BasC f ln cnt lw σ0) {c : Nat} {L : List (Int × Int)} {k : Int} (h : CS σ0 c L σ) (hc : c ≤ cnt) (w : ∀ σ', FltC f ln σ0 k c σ' → Q 0 σ') : XX g true d P_X6_stop 0 [(2, 6), (0, k)] [] 136 σ 136 Q := by
  have h5 := hB.1.2.2.1
  have e : σ 4 c = stP f ln c := by rw [h.1 4 c (by decide) (by omega) (by omega) (by omega)]; exact (hB.1.2.2.2 c hc).2.1
  refine B_X6_stop_0 ?_
  rw [h.2.1.1, e]
  exact ⟨by omega, w _ ⟨(h.1.su (by omega)).su (by omega), by rw [su_ne (Or.inr (by decide)), su_eq], su_eq⟩⟩
theorem s_putC {c : Nat} {L : List (Int × Int)} {op ar x : Int} (h : CS σ0 c L σ) (hl : L.length < 500) (hx : x = partOf op ar) (w : ∀ σ', CS σ0 c (L ++ [(op, ar)]) σ' → Q 1 σ') : XX g true d P_X4_put 0 [(2, 7), (0, x)] [] 136 σ 136 Q := by
  have e := h.2.2.1
  refine B_X4_put_0 (by unfold LinAt; omega) ?_
  rw [e, w32_of (by omega) (by omega)]
  refine ⟨fun _ => ⟨by omega, w _ ⟨(h.1.su (by omega)).su (by omega), ?_, ?_, fun i hi => ?_⟩⟩, fun z => by omega⟩
  · rw [su_ne (Or.inl (by decide)), su_ne (Or.inl (by decide)), su_ne (Or.inl (by decide)), su_ne (Or.inl (by decide)), su_ne (Or.inl (by decide)), su_ne (Or.inl (by decide))]; exact h.2.1
  · rw [su_eq, List.length_append, List.length_singleton]; omega
  · rw [List.length_append, List.length_singleton] at hi
    rw [su_ne (Or.inl (by decide))]
    by_cases z : i = L.length
    · subst z
      have e2 : (L ++ [(op, ar)]).getD L.length (0, 0) = (op, ar) := by
        rw [List.getD_eq_getElem?_getD, List.getElem?_append_right (Nat.le_refl _), Nat.sub_self]
        rfl
      rw [e2, ← hx]
      exact su_eq
    · have e2 : (L ++ [(op, ar)]).getD i (0, 0) = L.getD i (0, 0) := by
        rw [List.getD_eq_getElem?_getD, List.getD_eq_getElem?_getD, List.getElem?_append_left (by omega)]
      rw [e2, su_ne (Or.inr (by omega))]
      exact h.2.2.2 i (by omega)
theorem s_passC (hB : BasC f ln cnt lw σ0) {c : Nat} {L : List (Int × Int)} {k : Int} (hk : k ≠ 0) (h : CS σ0 c L σ) (hc : c ≤ cnt) (w : WC f ln σ0 (pEnd (kdP f ln) k c) L Q) : XX g true (d + 1) P_X6_pass 0 [(2, 6), (0, k)] [] 136 σ 136 Q := by
  unfold pEnd at w
  refine B_X6_pass_0 (s_kind hB h hc ⟨fun z => ?_, fun z => ?_⟩)
  · rw [if_pos z] at w
    exact s_next hB h hc (by rw [z]; exact hk) fun σ1 h1 => w.nil h1
  · rw [if_neg z] at w
    exact s_stop hB h hc fun σ1 h1 => ⟨Or.inl rfl, w.2 (show ¬ (1 : Int) = 0 by decide) σ1 h1⟩
theorem s_isName (hB : BasC f ln cnt lw σ0) {c : Nat} {L : List (Int × Int)} {k : Int} (h : CS σ0 c L σ) (w : Q (if isNm lw k = true then 1 else 0) σ) : XX g true d P_X6_isName 0 [(2, 6), (0, k)] [] 136 σ 136 Q := by
  have e : σ 6 5 = lwI lw := by rw [h.1 6 5 (by decide) (by decide) (by decide) (by decide)]; exact hB.2
  refine B_X6_isName_0 ?_
  rw [e]
  unfold isNm at w
  cases lw with
  | true =>
    rw [if_pos rfl] at w
    refine ⟨fun z => absurd z (by decide), fun _ => ⟨fun z => ?_, fun z => ⟨fun z1 => ?_, fun z1 => ?_⟩⟩⟩
    · rw [if_neg (fun q => by have := of_decide_eq_true q; omega)] at w; exact w
    · rw [if_neg (fun q => by have := of_decide_eq_true q; omega)] at w; exact w
    · rw [if_pos (decide_eq_true ⟨z, z1⟩)] at w; exact w
  | false =>
    rw [if_neg (show ¬ false = true by decide)] at w
    refine ⟨fun _ => ⟨fun z => ?_, fun z => ⟨fun z1 => ?_, fun z1 => ⟨fun z2 => ?_, fun z2 => ⟨fun z3 => ?_, fun z3 => ?_⟩⟩⟩⟩, fun z => absurd rfl z⟩
    · rw [if_neg (fun q => by have := of_decide_eq_true q; omega)] at w; exact w
    · rw [if_neg (fun q => by have := of_decide_eq_true q; omega)] at w; exact w
    · rw [if_neg (fun q => by have := of_decide_eq_true q; omega)] at w; exact w
    · rw [if_neg (fun q => by have := of_decide_eq_true q; omega)] at w; exact w
    · rw [if_pos (decide_eq_true ⟨z, z1, z2, z3⟩)] at w; exact w
theorem s_unitC (hB : BasC f ln cnt lw σ0) {c : Nat} {L : List (Int × Int)} (h : CS σ0 c L σ) (hc : c ≤ cnt) (hL : L.length ≤ c) (w : WC f ln σ0 (pUnit lw (kdP f ln) (nmP f ln) c) L Q) : XX g true (d + 1) P_X6_readUnit 0 [(2, 6)] [] 136 σ 136 Q := by
  have h5 := hB.1.2.2.1
  unfold pUnit at w
  refine B_X6_readUnit_0 (s_kind hB h hc ⟨fun z => s_kind hB h hc (s_isName hB h ⟨fun z1 => ?_, fun z1 => s_kind hB h hc ?_⟩), fun z => ?_⟩)
  · rw [if_neg z, if_neg (isIn_neg z1)] at w
    exact s_stop hB h hc fun σ1 h1 => ⟨Or.inl rfl, w.2 (show ¬ (1 : Int) = 0 by decide) σ1 h1⟩
  · have hn := isIn_pos z1
    have hr := isNm_ne hn
    have hlt := hB.end_ c hc (by omega)
    rw [if_neg z, if_pos hn] at w
    have hp := nm_part (kdP f ln c - 262).toNat (by omega)
    rw [show (262 : Int) + (((kdP f ln c - 262).toNat : Nat) : Int) = kdP f ln c by omega] at hp
    refine s_putC (op := 1) (ar := askOf (kdP f ln c)) h (by omega) ?_ fun σ1 h1 => s_next hB h1 hc (by omega) fun σ2 h2 => w.1 rfl σ2 h2
    rw [w32_of (by omega) (by omega), hp (by cases lw with
      | true => exact Or.inl hn
      | false => exact Or.inr hn)]
  · have hlt := hB.end_ c hc (by omega)
    rw [if_pos z] at w
    exact s_number hB h hc (s_putC (op := 0) (ar := nmP f ln c) h (by omega) rfl fun σ1 h1 => s_next hB h1 hc (by omega) fun σ2 h2 => w.1 rfl σ2 h2)
theorem s_prod7_0 {x2 : Int} (w : Q 0 σ) : XX g true (d + 1) P_X6_readProduct 7 [(2, 6), (0, 0), (0, x2), (9, 0)] [] 136 σ 136 Q := B_X6_readProduct_7 ⟨fun _ => ⟨Or.inl rfl, w⟩, fun _ => ⟨fun _ => ⟨Or.inl rfl, w⟩, fun z => absurd rfl z⟩⟩
theorem s_prod7 (hB : BasC f ln cnt lw σ0) : ∀ (n : Nat) (i : Int) (c : Nat) (L : List (Int × Int)) (σ : PS), i + n = 500 → 0 ≤ i → CS σ0 c L σ → c ≤ cnt → L.length ≤ c → WC f ln σ0 (pProdL lw (kdP f ln) (nmP f ln) n c) L Q → XX g true (d + 2) P_X6_readProduct 7 [(2, 6), (0, 1), (0, i), (9, 0)] [] 136 σ 136 Q := by
  have h5 := hB.1.2.2.1
  intro n
  induction n with
  | zero =>
    intro i c L σ hi hi0 h hc hL w
    exact B_X6_readProduct_7 ⟨fun _ => ⟨Or.inr rfl, w.nil h⟩, fun z => by omega⟩
  | succ n ih =>
    intro i c L σ hi hi0 h hc hL w
    rw [pProdL_succ] at w
    -- a part, then its sign
    have part : ∀ (x op : Int) (σ1 : PS), CS σ0 (c + 1) L σ1 → c < cnt → x = partOf op 0 → WC f ln σ0 (pBind (pUnit lw (kdP f ln) (nmP f ln) (c + 1)) fun j => pBind (pOne op j) (pProdL lw (kdP f ln) (nmP f ln) n)) L Q → XX g true (d + 1) P_X6_readUnit 0 [(2, 6)] [] 136 σ1 136 (fun r10 σ9 => ((r10 = 0 → (XX g true (d + 2) P_X6_readProduct 7 [(2, 6), (0, 0), (0, w32 (i + 1)), (9, 0)] [] 136 σ9 136 Q)) ∧ (r10 ≠ 0 → XX g true (d + 1) P_X4_put 0 [(2, 7), (0, x)] [] 136 σ9 136 (fun r12 σ11 => ((r12 = 0 → (XX g true (d + 2) P_X6_readProduct 7 [(2, 6), (0, 0), (0, w32 (i + 1)), (9, 0)] [] 136 σ11 136 Q)) ∧ (r12 ≠ 0 → (XX g true (d + 2) P_X6_readProduct 7 [(2, 6), (0, 1), (0, w32 (i + 1)), (9, 0)] [] 136 σ11 136 Q))))))) := by
      intro x op σ1 h1 hlt hx w
      have hu := g_unit (lw := lw) (V := nmP f ln) hB.end_ (c := c + 1) (by omega)
      refine s_unitC hB h1 (by omega) (by omega) ⟨fun e σ2 h2 => ⟨fun z => absurd z (by decide), fun _ => ?_⟩, fun e σ2 h2 => ⟨fun _ => s_prod7_0 (w.fail e σ2 h2), fun z => absurd rfl z⟩⟩
      have hb := bdP hL hu.1 e
      refine s_putC (op := op) (ar := 0) h2 (by omega) hx fun σ3 h3 => ⟨fun z => absurd z (by decide), fun _ => ?_⟩
      rw [w32_of (by omega) (by omega)]
      refine ih (i + 1) _ _ σ3 (by omega) (by omega) h3 hb.2 ?_ ((w.next e).next rfl)
      rw [List.length_append, List.length_singleton]
      omega
    refine B_X6_readProduct_7 ⟨fun z => by omega, fun _ => ⟨fun z => absurd z (by decide), fun _ => s_kind hB h hc ⟨fun z => s_kind hB h hc ?_, fun z => s_kind hB h hc ⟨fun z1 => ?_, fun z1 => s_kind hB h hc ?_⟩⟩⟩⟩
    · have hlt := hB.end_ c hc (by omega)
      rw [if_pos (Or.inl z), if_neg (by omega), if_neg (by omega)] at w
      refine s_next hB h hc (by omega) fun σ1 h1 => ⟨fun _ => ?_, fun q => absurd z q⟩
      refine part _ _ σ1 h1 hlt ?_ w
      rw [z]; decide
    · rw [if_neg (by omega)] at w
      exact ⟨Or.inr rfl, w.nil h⟩
    · have hlt := hB.end_ c hc (by omega)
      rw [if_pos (Or.inr z1)] at w
      refine s_next hB h hc (by omega) fun σ1 h1 => ⟨fun q => absurd q z, fun _ => ?_⟩
      refine B_X6_isDivisor_0 (s_kind hB h1 (by omega) ⟨fun q => s_number hB h1 (by omega) ⟨fun q1 => ⟨fun q2 => absurd q2 (by decide), fun _ => ?_⟩, fun q1 => ?_⟩, fun q => ?_⟩)
      · rw [if_neg (fun q2 => q2.2 q), if_neg (fun q2 => q1 q2.2)] at w
        refine part _ _ σ1 h1 hlt ?_ w
        rw [z1]; decide
      · rw [if_neg (fun q2 => q2.2 q), if_pos ⟨z1, q1⟩] at w
        refine s_stop hB h1 (by omega) fun σ2 h2 => ⟨fun _ => ⟨fun _ => s_prod7_0 (w.2 (show ¬ (2 : Int) = 0 by decide) σ2 h2), fun q2 => absurd rfl q2⟩, fun q2 => absurd rfl q2⟩
      · rw [if_pos ⟨z1, q⟩] at w
        exact s_stop hB h1 (by omega) fun σ2 h2 => ⟨Or.inl rfl, fun _ => s_prod7_0 (w.2 (show ¬ (1 : Int) = 0 by decide) σ2 h2), fun q2 => absurd rfl q2⟩
theorem s_prodC (hB : BasC f ln cnt lw σ0) {c : Nat} {L : List (Int × Int)} (h : CS σ0 c L σ) (hc : c ≤ cnt) (hL : L.length ≤ c) (w : WC f ln σ0 (pProd lw (kdP f ln) (nmP f ln) c) L Q) : XX g true (d + 2) P_X6_readProduct 0 [(2, 6), (9, 0), (9, 0), (9, 0)] [] 136 σ 136 Q := by
  unfold pProd at w
  refine B_X6_readProduct_0 (s_unitC hB h hc hL ⟨fun e σ1 h1 => ?_, fun e σ1 h1 => s_prod7_0 (w.fail e σ1 h1)⟩)
  have hb := bdL hL (g_unit hB.end_ hc).1 e
  exact s_prod7 hB 500 0 _ _ σ1 (by decide) (by decide) h1 hb.2 hb.1 (w.next e)
theorem s_sum7_0 {x2 : Int} (w : Q 0 σ) : XX g true (d + 1) P_X6_readSum 7 [(2, 6), (0, 0), (0, x2), (9, 0)] [] 136 σ 136 Q := B_X6_readSum_7 ⟨fun _ => ⟨Or.inl rfl, w⟩, fun _ => ⟨fun _ => ⟨Or.inl rfl, w⟩, fun z => absurd rfl z⟩⟩
theorem s_sum7 (hB : BasC f ln cnt lw σ0) : ∀ (n : Nat) (i : Int) (c : Nat) (L : List (Int × Int)) (σ : PS), i + n = 500 → 0 ≤ i → CS σ0 c L σ → c ≤ cnt → L.length ≤ c → WC f ln σ0 (pSumL lw (kdP f ln) (nmP f ln) n c) L Q → XX g true (d + 3) P_X6_readSum 7 [(2, 6), (0, 1), (0, i), (9, 0)] [] 136 σ 136 Q := by
  have h5 := hB.1.2.2.1
  intro n
  induction n with
  | zero =>
    intro i c L σ hi hi0 h hc hL w
    exact B_X6_readSum_7 ⟨fun _ => ⟨Or.inr rfl, w.nil h⟩, fun z => by omega⟩
  | succ n ih =>
    intro i c L σ hi hi0 h hc hL w
    rw [pSumL_succ] at w
    have part : ∀ (x op : Int) (σ1 : PS), CS σ0 (c + 1) L σ1 → c < cnt → x = partOf op 0 → WC f ln σ0 (pBind (pProd lw (kdP f ln) (nmP f ln) (c + 1)) fun j => pBind (pOne op j) (pSumL lw (kdP f ln) (nmP f ln) n)) L Q → XX g true (d + 2) P_X6_readProduct 0 [(2, 6), (9, 0), (9, 0), (9, 0)] [] 136 σ1 136 (fun r10 σ9 => ((r10 = 0 → (XX g true (d + 3) P_X6_readSum 7 [(2, 6), (0, 0), (0, w32 (i + 1)), (9, 0)] [] 136 σ9 136 Q)) ∧ (r10 ≠ 0 → XX g true (d + 2) P_X4_put 0 [(2, 7), (0, x)] [] 136 σ9 136 (fun r12 σ11 => ((r12 = 0 → (XX g true (d + 3) P_X6_readSum 7 [(2, 6), (0, 0), (0, w32 (i + 1)), (9, 0)] [] 136 σ11 136 Q)) ∧ (r12 ≠ 0 → (XX g true (d + 3) P_X6_readSum 7 [(2, 6), (0, 1), (0, w32 (i + 1)), (9, 0)] [] 136 σ11 136 Q))))))) := by
      intro x op σ1 h1 hlt hx w
      have hu := g_prod (lw := lw) (V := nmP f ln) hB.end_ (c := c + 1) (by omega)
      refine s_prodC hB h1 (by omega) (by omega) ⟨fun e σ2 h2 => ⟨fun z => absurd z (by decide), fun _ => ?_⟩, fun e σ2 h2 => ⟨fun _ => s_sum7_0 (w.fail e σ2 h2), fun z => absurd rfl z⟩⟩
      have hb := bdP hL hu.1 e
      refine s_putC (op := op) (ar := 0) h2 (by omega) hx fun σ3 h3 => ⟨fun z => absurd z (by decide), fun _ => ?_⟩
      rw [w32_of (by omega) (by omega)]
      refine ih (i + 1) _ _ σ3 (by omega) (by omega) h3 hb.2 ?_ ((w.next e).next rfl)
      rw [List.length_append, List.length_singleton]
      omega
    refine B_X6_readSum_7 ⟨fun z => by omega, fun _ => ⟨fun z => absurd z (by decide), fun _ => s_kind hB h hc ⟨fun z => s_kind hB h hc ?_, fun z => s_kind hB h hc ⟨fun z1 => ?_, fun z1 => s_kind hB h hc ?_⟩⟩⟩⟩
    · have hlt := hB.end_ c hc (by omega)
      rw [if_pos (Or.inl z)] at w
      refine s_next hB h hc (by omega) fun σ1 h1 => ?_
      refine part _ _ σ1 h1 hlt ?_ w
      rw [z]; decide
    · rw [if_neg (by omega)] at w
      exact ⟨Or.inr rfl, w.nil h⟩
    · have hlt := hB.end_ c hc (by omega)
      rw [if_pos (Or.inr z1)] at w
      refine s_next hB h hc (by omega) fun σ1 h1 => ?_
      refine part _ _ σ1 h1 hlt ?_ w
      rw [z1]; decide
theorem s_sumC (hB : BasC f ln cnt lw σ0) {c : Nat} {L : List (Int × Int)} (h : CS σ0 c L σ) (hc : c ≤ cnt) (hL : L.length ≤ c) (w : WC f ln σ0 (pSum lw (kdP f ln) (nmP f ln) c) L Q) : XX g true (d + 3) P_X6_readSum 0 [(2, 6), (9, 0), (9, 0), (9, 0)] [] 136 σ 136 Q := by
  unfold pSum at w
  refine B_X6_readSum_0 (s_prodC hB h hc hL ⟨fun e σ1 h1 => ?_, fun e σ1 h1 => s_sum7_0 (w.fail e σ1 h1)⟩)
  have hb := bdL hL (g_prod hB.end_ hc).1 e
  exact s_sum7 hB 500 0 _ _ σ1 (by decide) (by decide) h1 hb.2 hb.1 (w.next e)
theorem s_cmpC (hB : BasC f ln cnt lw σ0) {c : Nat} {x1 x2 : Int} {L : List (Int × Int)} (h : CS σ0 c L σ) (hc : c ≤ cnt) (hL : L.length ≤ c) (w : WC f ln σ0 (pCmp lw (kdP f ln) (nmP f ln) c) L Q) : XX g true (d + 4) P_X6_readClause 43 [(2, 6), (0, x1), (0, x2), (0, 0), (9, 0)] [] 136 σ 136 Q := by
  have h5 := hB.1.2.2.1
  unfold pCmp at w
  refine B_X6_readClause_43 ⟨fun _ => ?_, fun z => absurd rfl z⟩
  refine s_sumC hB h hc hL ⟨fun e σ1 h1 => ⟨fun _ => ?_, fun z => absurd z (by decide)⟩, fun e σ1 h1 => ⟨fun z => absurd rfl z, fun _ => w.fail e σ1 h1⟩⟩
  have hb := bdL hL (g_sum (lw := lw) (V := nmP f ln) hB.end_ hc).1 e
  have w1 := w.next e
  clear w
  generalize (pSum lw (kdP f ln) (nmP f ln) c).2.1 = j at *
  generalize L ++ (pSum lw (kdP f ln) (nmP f ln) c).2.2 = L1 at *
  have fin : (kdP f ln j = 60 ∨ kdP f ln j = 61 ∨ kdP f ln j = 62) → XX g true (d + 4) P_X6_readClause 161 [(2, 6), (9, 0), (9, 0), (9, 0), (0, kdP f ln j)] [] 136 σ1 136 Q := by
    intro hk
    have hlt := hB.end_ j hb.2 (by omega)
    rw [if_pos hk] at w1
    refine B_X6_readClause_161 (s_next hB h1 hb.2 (by omega) fun σ2 h2 => ?_)
    have hu := g_sum (lw := lw) (V := nmP f ln) hB.end_ (c := j + 1) (by omega)
    refine s_sumC hB h2 (by omega) (by omega) ⟨fun e2 σ3 h3 => ⟨fun z => absurd z (by decide), fun _ => ?_⟩, fun e2 σ3 h3 => ⟨fun _ => B_X6_readClause_192 (w1.fail e2 σ3 h3), fun z => absurd rfl z⟩⟩
    have hb2 := bdP hb.1 hu.1 e2
    refine s_putC (op := opOf (kdP f ln j)) (ar := 0) h3 (by omega) ?_ fun σ4 h4 => ⟨fun z => absurd z (by decide), fun _ => (w1.next e2).1 rfl σ4 h4⟩
    rcases hk with q | q | q <;> rw [q] <;> decide
  refine s_kind hB h1 hb.2 ⟨fun z => fin (Or.inl z), fun z => ⟨fun z1 => fin (Or.inr (Or.inl z1)), fun z1 => ⟨fun z2 => fin (Or.inr (Or.inr z2)), fun z2 => ?_⟩⟩⟩
  rw [if_neg (by omega)] at w1
  exact s_stop hB h1 hb.2 fun σ2 h2 => ⟨Or.inl rfl, w1.2 (show ¬ (1 : Int) = 0 by decide) σ2 h2⟩
end PPARC
