/-! THE PARSER, the class: clauses -/
section PCLAUSE
variable {g : PG} {d : Nat} {f : Int → Int} {ln : Int} {cnt : Nat} {lw : Bool} {σ0 : PS}
def ClsOK (g : PG) (f : Int → Int) (ln : Int) (cnt : Nat) (σ0 : PS) (D : Nat) (o : Int) (C : Nat → PR) : Prop := ∀ (c : Nat) (L : List (Int × Int)) (σ : PS) (Q : Int → PS → Prop), CS σ0 c L σ → c ≤ cnt → L.length ≤ c → WC f ln σ0 (C c) L Q → XX g true D P_X6_readClause 0 [(2, 6), (0, o), (9, 0), (9, 0), (9, 0)] [] 136 σ 136 Q
theorem s_and8_0 {D : Nat} {o x3 : Int} {σ : PS} {Q : Int → PS → Prop} (w : Q 0 σ) : XX g true (D + 1) P_X6_readAnd 8 [(2, 6), (0, o), (0, 0), (0, x3)] [] 136 σ 136 Q := B_X6_readAnd_8 ⟨fun _ => ⟨Or.inl rfl, w⟩, fun _ => ⟨fun _ => ⟨Or.inl rfl, w⟩, fun z => absurd rfl z⟩⟩
theorem s_or8_0 {D : Nat} {o x3 : Int} {σ : PS} {Q : Int → PS → Prop} (w : Q 0 σ) : XX g true (D + 1) P_X6_readOr 8 [(2, 6), (0, o), (0, 0), (0, x3)] [] 136 σ 136 Q := B_X6_readOr_8 ⟨fun _ => ⟨Or.inl rfl, w⟩, fun _ => ⟨fun _ => ⟨Or.inl rfl, w⟩, fun z => absurd rfl z⟩⟩
theorem s_and8 (hB : BasC f ln cnt lw σ0) {D : Nat} {o : Int} {C : Nat → PR} (hC : ∀ c, c ≤ cnt → PrS cnt c (C c)) (hcl : ClsOK g f ln cnt σ0 D o C) : ∀ (n : Nat) (i : Int) (c : Nat) (L : List (Int × Int)) (σ : PS) (Q : Int → PS → Prop), i + n = 500 → 0 ≤ i → CS σ0 c L σ → c ≤ cnt → L.length ≤ c → WC f ln σ0 (pAndL (kdP f ln) C n c) L Q → XX g true (D + 1) P_X6_readAnd 8 [(2, 6), (0, o), (0, 1), (0, i)] [] 136 σ 136 Q := by
  have h5 := hB.1.2.2.1
  intro n
  induction n with
  | zero =>
    intro i c L σ Q hi hi0 h hc hL w
    exact B_X6_readAnd_8 ⟨fun _ => ⟨Or.inr rfl, w.nil h⟩, fun z => by omega⟩
  | succ n ih =>
    intro i c L σ Q hi hi0 h hc hL w
    rw [pAndL_succ] at w
    refine B_X6_readAnd_8 ⟨fun z => by omega, fun _ => ⟨fun z => absurd z (by decide), fun _ => s_kind hB h hc ⟨fun z => ?_, fun z => ?_⟩⟩⟩
    · rw [if_neg z] at w
      exact ⟨Or.inr rfl, w.nil h⟩
    · have hlt := hB.end_ c hc (by omega)
      rw [if_pos z] at w
      refine s_next hB h hc (by omega) fun σ1 h1 => ?_
      have hu := hC (c + 1) (by omega)
      refine hcl (c + 1) L σ1 _ h1 (by omega) (by omega) ⟨fun e σ2 h2 => ⟨fun z => absurd z (by decide), fun _ => ?_⟩, fun e σ2 h2 => ⟨fun _ => s_and8_0 (w.fail e σ2 h2), fun z => absurd rfl z⟩⟩
      have hb := bdP hL hu.1 e
      refine s_putC (op := 10) (ar := 0) h2 (by omega) rfl fun σ3 h3 => ⟨fun z => absurd z (by decide), fun _ => ?_⟩
      rw [w32_of (by omega) (by omega)]
      refine ih (i + 1) _ _ σ3 Q (by omega) (by omega) h3 hb.2 ?_ ((w.next e).next rfl)
      rw [List.length_append, List.length_singleton]
      omega
theorem s_andC (hB : BasC f ln cnt lw σ0) {D : Nat} {o : Int} {C : Nat → PR} (hC : ∀ c, c ≤ cnt → PrS cnt c (C c)) (hcl : ClsOK g f ln cnt σ0 D o C) {c : Nat} {L : List (Int × Int)} {σ : PS} {Q : Int → PS → Prop} (h : CS σ0 c L σ) (hc : c ≤ cnt) (hL : L.length ≤ c) (w : WC f ln σ0 (pAnd (kdP f ln) C c) L Q) : XX g true (D + 1) P_X6_readAnd 0 [(2, 6), (0, o), (9, 0), (9, 0)] [] 136 σ 136 Q := by
  unfold pAnd at w
  refine B_X6_readAnd_0 (hcl c L σ _ h hc hL ⟨fun e σ1 h1 => ?_, fun e σ1 h1 => s_and8_0 (w.fail e σ1 h1)⟩)
  have hb := bdL hL (hC c hc).1 e
  exact s_and8 hB hC hcl 500 0 _ _ σ1 Q (by decide) (by decide) h1 hb.2 hb.1 (w.next e)
theorem s_or8 (hB : BasC f ln cnt lw σ0) {D : Nat} {o : Int} {C : Nat → PR} (hC : ∀ c, c ≤ cnt → PrS cnt c (C c)) (hcl : ClsOK g f ln cnt σ0 D o C) : ∀ (n : Nat) (i : Int) (c : Nat) (L : List (Int × Int)) (σ : PS) (Q : Int → PS → Prop), i + n = 500 → 0 ≤ i → CS σ0 c L σ → c ≤ cnt → L.length ≤ c → WC f ln σ0 (pOrL (kdP f ln) C n c) L Q → XX g true (D + 2) P_X6_readOr 8 [(2, 6), (0, o), (0, 1), (0, i)] [] 136 σ 136 Q := by
  have h5 := hB.1.2.2.1
  intro n
  induction n with
  | zero =>
    intro i c L σ Q hi hi0 h hc hL w
    exact B_X6_readOr_8 ⟨fun _ => ⟨Or.inr rfl, w.nil h⟩, fun z => by omega⟩
  | succ n ih =>
    intro i c L σ Q hi hi0 h hc hL w
    rw [pOrL_succ] at w
    refine B_X6_readOr_8 ⟨fun z => by omega, fun _ => ⟨fun z => absurd z (by decide), fun _ => s_kind hB h hc ⟨fun z => ?_, fun z => ?_⟩⟩⟩
    · rw [if_neg z] at w
      exact ⟨Or.inr rfl, w.nil h⟩
    · have hlt := hB.end_ c hc (by omega)
      rw [if_pos z] at w
      refine s_next hB h hc (by omega) fun σ1 h1 => ?_
      have hu := g_and hB.end_ hC (c := c + 1) (by omega)
      refine s_andC hB hC hcl h1 (by omega) (by omega) ⟨fun e σ2 h2 => ⟨fun z => absurd z (by decide), fun _ => ?_⟩, fun e σ2 h2 => ⟨fun _ => s_or8_0 (w.fail e σ2 h2), fun z => absurd rfl z⟩⟩
      have hb := bdP hL hu.1 e
      refine s_putC (op := 11) (ar := 0) h2 (by omega) rfl fun σ3 h3 => ⟨fun z => absurd z (by decide), fun _ => ?_⟩
      rw [w32_of (by omega) (by omega)]
      refine ih (i + 1) _ _ σ3 Q (by omega) (by omega) h3 hb.2 ?_ ((w.next e).next rfl)
      rw [List.length_append, List.length_singleton]
      omega
theorem s_orC (hB : BasC f ln cnt lw σ0) {D : Nat} {o : Int} {C : Nat → PR} (hC : ∀ c, c ≤ cnt → PrS cnt c (C c)) (hcl : ClsOK g f ln cnt σ0 D o C) {c : Nat} {L : List (Int × Int)} {σ : PS} {Q : Int → PS → Prop} (h : CS σ0 c L σ) (hc : c ≤ cnt) (hL : L.length ≤ c) (w : WC f ln σ0 (pOr (kdP f ln) C c) L Q) : XX g true (D + 2) P_X6_readOr 0 [(2, 6), (0, o), (9, 0), (9, 0)] [] 136 σ 136 Q := by
  unfold pOr at w
  refine B_X6_readOr_0 (s_andC hB hC hcl h hc hL ⟨fun e σ1 h1 => ?_, fun e σ1 h1 => s_or8_0 (w.fail e σ1 h1)⟩)
  have hb := bdL hL (g_and hB.end_ hC hc).1 e
  exact s_or8 hB hC hcl 500 0 _ _ σ1 Q (by decide) (by decide) h1 hb.2 hb.1 (w.next e)
theorem s_clC (hB : BasC f ln cnt lw σ0) : ∀ (m D : Nat) (o : Int), D = d + 4 + 3 * m → o + m = 8 → 0 ≤ o → ClsOK g f ln cnt σ0 D o (pCl lw (kdP f ln) (nmP f ln) m) := by
  have h5 := hB.1.2.2.1
  intro m
  induction m with
  | zero =>
    intro D o hD ho ho0 c L σ Q h hc hL w
    obtain rfl : D = d + 4 := by omega
    rw [pCl_zero] at w
    have bad : (kdP f ln c = 261 ∨ kdP f ln c = 40) → XX g true (d + 4) P_X6_readClause 27 [(2, 6), (0, o), (0, kdP f ln c), (0, 1), (9, 0)] [] 136 σ 136 Q := fun hk => by
      rw [if_pos hk] at w
      refine B_X6_readClause_27 ⟨fun z => absurd z (by decide), fun _ => ⟨fun z => by omega, fun _ => ?_⟩⟩
      exact s_stop hB h hc fun σ2 h2 => ⟨Or.inl rfl, w.2 (show ¬ (3 : Int) = 0 by decide) σ2 h2⟩
    refine B_X6_readClause_0 (s_kind hB h hc ⟨fun z => B_X6_readClause_21 (bad (Or.inl z)), fun z => ⟨fun z1 => ?_, fun z1 => B_X6_readClause_21 (bad (Or.inr z1))⟩⟩)
    rw [if_neg (by omega)] at w
    exact B_X6_readClause_27 ⟨fun _ => s_cmpC hB h hc hL w, fun z => absurd rfl z⟩
  | succ m ih =>
    intro D o hD ho ho0 c L σ Q h hc hL w
    have hcl := ih (d + 4 + 3 * m) (o + 1) rfl (by omega) (by omega)
    obtain rfl : D = d + 4 + 3 * m + 3 := by omega
    rw [pCl_succ] at w
    have hC : ∀ c, c ≤ cnt → PrS cnt c (pCl lw (kdP f ln) (nmP f ln) m c) := fun c hc => g_cl hB.end_ m c hc
    have eo : w32 (o + 1) = o + 1 := w32_of (by omega) (by omega)
    have par : kdP f ln c = 40 → XX g true (d + 4 + 3 * m + 3) P_X6_readClause 27 [(2, 6), (0, o), (0, kdP f ln c), (0, 1), (9, 0)] [] 136 σ 136 Q := fun hk => by
      have hlt := hB.end_ c hc (by omega)
      rw [if_pos hk] at w
      refine B_X6_readClause_27 ⟨fun z => absurd z (by decide), fun _ => ⟨fun _ => B_X6_readClause_43 ⟨fun z => absurd z (by decide), fun _ => ?_⟩, fun z => by omega⟩⟩
      refine s_next hB h hc (by omega) fun σ1 h1 => ⟨fun z => absurd hk z, fun _ => ?_⟩
      rw [eo]
      refine s_orC hB hC hcl h1 (by omega) (by omega) ⟨fun e σ2 h2 => ⟨fun z => absurd z (by decide), fun _ => ?_⟩, fun e σ2 h2 => ⟨fun _ => B_X6_readClause_83 (w.fail e σ2 h2), fun z => absurd rfl z⟩⟩
      have hb := bdL (L := L) (c := c + 1) (by omega) (g_or hB.end_ hC (c := c + 1) (by omega)).1 e
      have w1 := w.next e
      exact s_passC hB (by decide) h2 hb.2 ⟨fun e3 σ3 h3 => ⟨fun z => absurd z (by decide), fun _ => w1.1 e3 σ3 h3⟩, fun e3 σ3 h3 => ⟨fun _ => B_X6_readClause_83 (w1.2 e3 σ3 h3), fun z => absurd rfl z⟩⟩
    have nt : kdP f ln c = 261 → XX g true (d + 4 + 3 * m + 3) P_X6_readClause 27 [(2, 6), (0, o), (0, kdP f ln c), (0, 1), (9, 0)] [] 136 σ 136 Q := fun hk => by
      have hlt := hB.end_ c hc (by omega)
      rw [if_neg (by omega), if_pos hk] at w
      refine B_X6_readClause_27 ⟨fun z => absurd z (by decide), fun _ => ⟨fun _ => B_X6_readClause_43 ⟨fun z => absurd z (by decide), fun _ => ?_⟩, fun z => by omega⟩⟩
      refine s_next hB h hc (by omega) fun σ1 h1 => ⟨fun _ => ?_, fun z => by omega⟩
      rw [eo]
      refine XX.deep (hcl (c + 1) L σ1 _ h1 (by omega) (by omega) ⟨fun e σ2 h2 => ⟨fun z => absurd z (by decide), fun _ => ?_⟩, fun e σ2 h2 => ⟨fun _ => B_X6_readClause_114 (w.fail e σ2 h2), fun z => absurd rfl z⟩⟩) (by omega)
      have hb := bdP hL (hC (c + 1) (by omega)).1 e
      exact s_putC (op := 9) (ar := 0) h2 (by omega) rfl fun σ3 h3 => ⟨fun z => absurd z (by decide), fun _ => (w.next e).1 rfl σ3 h3⟩
    refine B_X6_readClause_0 (s_kind hB h hc ⟨fun z => B_X6_readClause_21 (nt z), fun z => ⟨fun z1 => ?_, fun z1 => B_X6_readClause_21 (par z1)⟩⟩)
    rw [if_neg z1, if_neg z] at w
    refine XX.deep (B_X6_readClause_27 (d := d + 3) ⟨fun _ => s_cmpC hB h hc hL w, fun z => absurd rfl z⟩) (by omega)
end PCLAUSE
