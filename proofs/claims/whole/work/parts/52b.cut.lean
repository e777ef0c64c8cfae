/-! TOKENS, the class -/
def flW : List (List Int) → List Int
  | [] => []
  | w :: r => w ++ 32 :: flW r
theorem flW_cw : flW cwL = wordsT := by decide +kernel
theorem flW_mw : 32 :: flW mwL = wordsM := by decide +kernel
theorem cw_ok : ∀ w ∈ cwL, ∀ c ∈ w, c ≠ 32 ∧ 0 ≤ c ∧ c < 128 := by decide +kernel
theorem mw_ok : ∀ w ∈ mwL, ∀ c ∈ w, c ≠ 32 ∧ 0 ≤ c ∧ c < 128 := by decide +kernel
theorem chr_ok : ∀ i : Nat, i < 116 → ic16 (iand (wordsT.getD i 0) 255) = wordsT.getD i 0 := by decide +kernel
theorem chr_nar : ∀ i : Nat, i < 116 → narrow .char (.int (Int32.ofInt (wordsT.getD i 0))) = .int (Int32.ofInt (wordsT.getD i 0)) := by decide +kernel
theorem getD_app {a b : List Int} {i : Nat} : (a ++ b).getD (a.length + i) 0 = b.getD i 0 := by
  rw [List.getD_eq_getElem?_getD, List.getD_eq_getElem?_getD, List.getElem?_append_right (by omega)]
  congr 2
  omega
theorem blS_len {f : Int → Int} : ∀ {n : Nat} {x : Int}, (blS f n x).length = n := by
  intro n
  induction n with
  | zero => intro x; rfl
  | succ n ih => intro x; show (f x :: blS f n (x + 1)).length = n + 1; rw [List.length_cons, ih]
theorem wbL_nil {f : Int → Int} {x e : Int} (h : x ≤ e) : wbL f x e = [] ↔ x = e := by
  unfold wbL
  constructor
  · intro z
    have := congrArg List.length z
    rw [blS_len] at this
    simp at this
    omega
  · intro z
    rw [show (e - x).toNat = 0 by omega]
    rfl
theorem wbL_cons {f : Int → Int} {x e c : Int} {r : List Int} (h : x ≤ e) : wbL f x e = c :: r ↔ x < e ∧ f x = c ∧ wbL f (x + 1) e = r := by
  unfold wbL
  by_cases z : x < e
  · rw [show (e - x).toNat = (e - (x + 1)).toNat + 1 by omega]
    show f x :: blS f (e - (x + 1)).toNat (x + 1) = c :: r ↔ _
    rw [List.cons.injEq]
    constructor
    · rintro ⟨a, b⟩; exact ⟨z, a, b⟩
    · rintro ⟨-, a, b⟩; exact ⟨a, b⟩
  · rw [show (e - x).toNat = 0 by omega]
    constructor
    · intro q; cases q
    · rintro ⟨q, -⟩; exact absurd q z
section PCUT
variable {g : PG} {d : Nat} {Q : Int → PS → Prop} {ln : Int} {f : Int → Int} {σ : PS}
theorem s_charAt {i : Int} (h0 : 0 ≤ i) (h1 : i < 116) (w : Q (wordsT.getD i.toNat 0) σ) : XX g true (d + 4) P_J0_charAt_5068e 0 [(2, 100003), (0, i)] [] 136 σ 136 Q := by
  refine B_J0_charAt_5068e_0 (B_J0_isLatin1_aae02_0 ⟨fun z => absurd z (by decide), fun _ => ?_⟩)
  refine B_J1_charAt_3b067_0 (B_J0_checkIndex_df160_0 (B_J3_checkIndex_8e157_0 ⟨fun z => by omega, fun _ => ⟨fun _ => ⟨⟨h0, h1⟩, ?_⟩, fun z => by omega⟩⟩))
  have hc := chr_nar i.toNat (by omega)
  rw [chr_ok i.toNat (by omega)]
  exact ⟨hc, hc, w⟩
theorem s_isBlankC {c : Int} (h : 0 ≤ c ∧ c ≤ 255) (w : Q (if isBl c = true then 1 else 0) σ) : XX g true d P_X8_isBlank 0 [(0, sb c)] [] 136 σ 136 Q := by
  have e : ∀ k : Int, 0 ≤ k → k < 128 → (sb c = k ↔ c = k) := fun k k0 k1 => by unfold sb; split <;> omega
  refine B_X8_isBlank_0 ⟨fun z => ?_, fun z => ⟨fun z1 => ?_, fun z1 => ?_⟩⟩
  · rw [if_pos (isBl_iff.mpr (Or.inl ((e 32 (by decide) (by decide)).mp z)))] at w; exact w
  · rw [if_neg (fun q => (isBl_iff.mp q).elim (fun q => z ((e 32 (by decide) (by decide)).mpr q)) (fun q => z1 ((e 10 (by decide) (by decide)).mpr q)))] at w; exact w
  · rw [if_pos (isBl_iff.mpr (Or.inr ((e 10 (by decide) (by decide)).mp z1)))] at w; exact w
theorem s_isLetterC {c : Int} (h : 0 ≤ c ∧ c ≤ 255) (w : Q (if isLt c = true then 1 else 0) σ) : XX g true d P_X8_isLetter 0 [(0, sb c)] [] 136 σ 136 Q := by
  have e : (sb c = c ∧ c < 128) ∨ (sb c < 0 ∧ 128 ≤ c) := by unfold sb; split <;> omega
  have yes : ((97 ≤ c ∧ c ≤ 122) ∨ (65 ≤ c ∧ c ≤ 90)) → Q 1 σ := fun z => by rw [if_pos (isLt_iff.mpr z)] at w; exact w
  have no : ¬ ((97 ≤ c ∧ c ≤ 122) ∨ (65 ≤ c ∧ c ≤ 90)) → Q 0 σ := fun z => by rw [if_neg (fun q => z (isLt_iff.mp q))] at w; exact w
  exact B_X8_isLetter_0 ⟨fun z => ⟨fun z1 => no (by omega), fun z1 => ⟨fun z2 => no (by omega), fun z2 => yes (by omega)⟩⟩, fun z => ⟨fun z1 => yes (by omega), fun z1 => ⟨fun z2 => no (by omega), fun z2 => ⟨fun z3 => no (by omega), fun z3 => yes (by omega)⟩⟩⟩⟩
theorem s_isDigitC {c : Int} (h : 0 ≤ c ∧ c ≤ 255) (w : Q (if isDg c = true then 1 else 0) σ) : XX g true d P_X8_isDigit 0 [(0, sb c)] [] 136 σ 136 Q := by
  have e : (sb c = c ∧ c < 128) ∨ (sb c < 0 ∧ 128 ≤ c) := by unfold sb; split <;> omega
  have yes : (48 ≤ c ∧ c ≤ 57) → Q 1 σ := fun z => by rw [if_pos (isDg_iff.mpr z)] at w; exact w
  have no : ¬ (48 ≤ c ∧ c ≤ 57) → Q 0 σ := fun z => by rw [if_neg (fun q => z (isDg_iff.mp q))] at w; exact w
  exact B_X8_isDigit_0 ⟨fun z => no (by omega), fun z => ⟨fun z1 => no (by omega), fun z1 => yes (by omega)⟩⟩
theorem s_isSymbolC {c : Int} (h : 0 ≤ c ∧ c ≤ 255) (w : Q (if isSy c = true then 1 else 0) σ) : XX g true d P_X8_isSymbol 0 [(0, sb c)] [] 136 σ 136 Q := by
  have e : (sb c = c ∧ c < 128) ∨ (sb c < 0 ∧ 128 ≤ c) := by unfold sb; split <;> omega
  have yes : (c = 59 ∨ c = 43 ∨ c = 45 ∨ c = 42 ∨ c = 47 ∨ c = 40 ∨ c = 41 ∨ c = 60 ∨ c = 61 ∨ c = 62) → Q 1 σ := fun z => by rw [if_pos (isSy_iff.mpr z)] at w; exact w
  have no : ¬ (c = 59 ∨ c = 43 ∨ c = 45 ∨ c = 42 ∨ c = 47 ∨ c = 40 ∨ c = 41 ∨ c = 60 ∨ c = 61 ∨ c = 62) → Q 0 σ := fun z => by rw [if_neg (fun q => z (isSy_iff.mp q))] at w; exact w
  exact B_X8_isSymbol_0 ⟨fun z => yes (by omega), fun z => ⟨fun z1 => yes (by omega), fun z1 => ⟨fun z2 => yes (by omega), fun z2 => ⟨fun z3 => yes (by omega), fun z3 => ⟨fun z4 => yes (by omega), fun z4 => ⟨fun z5 => yes (by omega), fun z5 => ⟨fun z6 => yes (by omega), fun z6 => ⟨fun z7 => yes (by omega), fun z7 => ⟨fun z8 => yes (by omega), fun z8 => ⟨fun z9 => no (by omega), fun z9 => yes (by omega)⟩⟩⟩⟩⟩⟩⟩⟩⟩⟩
theorem s_tokenEnd {x : Int} (hT : TapC ln f σ) (hb : ∀ i, 0 ≤ i → i < ln → 0 ≤ f i ∧ f i ≤ 255) (hl : ln ≤ 500) (h0 : 0 ≤ x) (h1 : x < ln) (w : Q (tkE f ln x) σ) : XX g true (d + 1) P_X8_tokenEnd 0 [(2, 1), (0, x), (9, 0)] [] 136 σ 136 Q := by
  have l16 : ∀ (n : Nat) (y : Int), (ln - y).toNat = n → 0 ≤ y → Q (rnB isLt f ln y) σ → XX g true (d + 1) P_X8_tokenEnd 16 [(2, 1), (9, 0), (0, y)] [] 136 σ 136 Q := by
    intro n
    induction n with
    | zero =>
      intro y hn hy w
      rw [rnB_ge (by omega)] at w
      exact B_X8_tokenEnd_16 ⟨fun _ => w, fun z => by rw [hT.1] at z; omega⟩
    | succ n ih =>
      intro y hn hy w
      refine B_X8_tokenEnd_16 ⟨fun z => by rw [hT.1] at z; omega, fun z => ⟨by omega, ?_⟩⟩
      rw [hT.2 y hy (by omega), w32_of (by omega) (by omega)]
      rw [rnB_step] at w
      refine s_isLetterC (hb y hy (by omega)) ⟨fun q => ?_, fun q => ?_⟩
      · rw [if_neg (fun z => isIn_neg q z.2)] at w; exact w
      · rw [if_pos ⟨by omega, isIn_pos q⟩] at w
        exact ih (y + 1) (by omega) (by omega) w
  have l54 : ∀ (n : Nat) (y : Int), (ln - y).toNat = n → 0 ≤ y → Q (rnB isDg f ln y) σ → XX g true (d + 1) P_X8_tokenEnd 54 [(2, 1), (9, 0), (0, y)] [] 136 σ 136 Q := by
    intro n
    induction n with
    | zero =>
      intro y hn hy w
      rw [rnB_ge (by omega)] at w
      exact B_X8_tokenEnd_54 ⟨fun _ => w, fun z => by rw [hT.1] at z; omega⟩
    | succ n ih =>
      intro y hn hy w
      refine B_X8_tokenEnd_54 ⟨fun z => by rw [hT.1] at z; omega, fun z => ⟨by omega, ?_⟩⟩
      rw [hT.2 y hy (by omega), w32_of (by omega) (by omega)]
      rw [rnB_step] at w
      refine s_isDigitC (hb y hy (by omega)) ⟨fun q => ?_, fun q => ?_⟩
      · rw [if_neg (fun z => isIn_neg q z.2)] at w; exact w
      · rw [if_pos ⟨by omega, isIn_pos q⟩] at w
        exact ih (y + 1) (by omega) (by omega) w
  unfold tkE at w
  refine B_X8_tokenEnd_0 fun y1 e1 => ⟨by omega, ?_⟩
  rw [w32_of (by omega) (by omega)] at e1
  subst e1
  rw [hT.2 x h0 h1]
  refine s_isLetterC (hb x h0 h1) ⟨fun q => ?_, fun q => ?_⟩
  · rw [hT.2 x h0 h1]
    refine s_isDigitC (hb x h0 h1) ⟨fun q2 => ?_, fun q2 => ?_⟩
    · rw [if_neg (isIn_neg q), if_neg (isIn_neg q2)] at w; exact w
    · rw [if_neg (isIn_neg q), if_pos (isIn_pos q2)] at w
      exact l54 _ (x + 1) rfl (by omega) w
  · rw [if_pos (isIn_pos q)] at w
    exact l16 _ (x + 1) rfl (by omega) w
theorem s_wordKind {x e : Int} (hT : TapC ln f σ) (hb : ∀ i, 0 ≤ i → i < ln → 0 ≤ f i ∧ f i ≤ 255) (hl : ln ≤ 500) (h0 : 0 ≤ x) (h1 : x ≤ e) (h2 : e ≤ ln) (w : Q (tkW f x e) σ) : XX g true (d + 5) P_X8_wordKind 0 [(2, 1), (0, x), (0, e), (9, 0), (9, 0), (9, 0), (9, 0), (9, 0)] [] 136 σ 136 Q := by
  have len : ∀ {F : Int → PS → Prop}, F 116 σ → XX g true (d + 4) P_J0_length_8abf5 0 [(2, 100003)] [] 136 σ 136 F := fun h => B_J0_length_8abf5_0 (B_J0_coder_7d493_0 ⟨by rfl, h⟩)
  have inner : ∀ (r : List Int) (rest : List Int) (k y a i : Int) (pre : List Int), wordsT = pre ++ (r ++ 32 :: rest) → (i = pre.length) → (∀ c ∈ r, c ≠ 32 ∧ 0 ≤ c ∧ c < 128) → (a = 0 ∨ (a = 1 ∧ x ≤ y ∧ y ≤ e)) → 0 ≤ k → k ≤ 1000 → ((a = 1 ∧ wbL f y e = r) → Q k σ) → (¬ (a = 1 ∧ wbL f y e = r) → XX g true (d + 5) P_X8_wordKind 13 [(2, 1), (0, x), (0, e), (0, k + 1), (0, x), (0, 1), (0, i + r.length + 1), (9, 0)] [] 136 σ 136 Q) → XX g true (d + 5) P_X8_wordKind 13 [(2, 1), (0, x), (0, e), (0, k), (0, y), (0, a), (0, i), (9, 0)] [] 136 σ 136 Q := by
    intro r
    induction r with
    | nil =>
      intro rest k y a i pre hw hi hr ha hk0 hk1 wy wn
      have hlen : wordsT.length = 116 := by decide +kernel
      have hpl : pre.length + (1 + rest.length) = 116 := by
        rw [← hlen, hw]
        simp only [List.length_append, List.nil_append, List.length_cons]
        omega
      have hch : wordsT.getD i.toNat 0 = 32 := by
        rw [hw, show i.toNat = pre.length + 0 by omega, getD_app]
        rfl
      refine B_X8_wordKind_13 (len ⟨fun z => by omega, fun z => s_charAt (by omega) z ⟨fun _ => ⟨fun za => ?_, fun za => ⟨fun zb => ?_, fun zb => ?_⟩⟩, fun zc => absurd hch zc⟩⟩)
      · rw [w32_of (by omega) (by omega), w32_of (by omega) (by omega)]
        have := wn fun q => by omega
        rw [List.length_nil, show i + ((0 : Nat) : Int) + 1 = i + 1 by omega] at this
        exact this
      · rw [w32_of (by omega) (by omega), w32_of (by omega) (by omega)]
        have := wn fun q => zb ((wbL_nil (by omega)).mp q.2)
        rw [List.length_nil, show i + ((0 : Nat) : Int) + 1 = i + 1 by omega] at this
        exact this
      · exact wy ⟨by omega, (wbL_nil (by omega)).mpr zb⟩
    | cons c r ih =>
      intro rest k y a i pre hw hi hr ha hk0 hk1 wy wn
      have hlen : wordsT.length = 116 := by decide +kernel
      have hpl : pre.length + (1 + (r.length + (1 + rest.length))) = 116 := by
        rw [← hlen, hw]
        simp only [List.length_append, List.length_cons]
        omega
      have hch : wordsT.getD i.toNat 0 = c := by
        rw [hw, show i.toNat = pre.length + 0 by omega, getD_app]
        rfl
      obtain ⟨c1, c2, c3⟩ := hr c List.mem_cons_self
      have hw' : wordsT = (pre ++ [c]) ++ (r ++ 32 :: rest) := by rw [hw]; simp
      have hi' : i + 1 = ((pre ++ [c]).length : Int) := by rw [List.length_append, List.length_singleton]; omega
      have hr' : ∀ c ∈ r, c ≠ 32 ∧ 0 ≤ c ∧ c < 128 := fun q hq => hr q (List.mem_cons_of_mem _ hq)
      have elen : i + ((c :: r).length : Int) + 1 = i + 1 + (r.length : Int) + 1 := by rw [List.length_cons]; omega
      rw [elen] at wn
      have zero : ∀ y', ¬ (a = 1 ∧ wbL f y e = c :: r) → XX g true (d + 5) P_X8_wordKind 13 [(2, 1), (0, x), (0, e), (0, k), (0, y'), (0, 0), (0, i + 1), (9, 0)] [] 136 σ 136 Q := fun y' hn => ih rest k y' 0 (i + 1) _ hw' hi' hr' (Or.inl rfl) hk0 hk1 (fun q => absurd q.1 (by decide)) fun _ => wn hn
      refine B_X8_wordKind_13 (len ⟨fun z => by omega, fun z => s_charAt (by omega) z ⟨fun zc => absurd (hch.symm.trans zc) c1, fun zc => ⟨fun za => ?_, fun za => ⟨fun zb => ?_, fun zb => ⟨by omega, ?_⟩⟩⟩⟩⟩)
      · rw [w32_of (x := i + 1) (by omega) (by omega)]
        exact zero _ fun q => by omega
      · rw [w32_of (x := i + 1) (by omega) (by omega)]
        exact zero _ fun q => by have := ((wbL_cons (by omega)).mp q.2).1; omega
      · have hby := hb y (by omega) (by omega)
        have es : sb (f y) = c ↔ f y = c := by unfold sb; split <;> omega
        rw [hch, hT.2 y (by omega) (by omega), w32_of (x := i + 1) (by omega) (by omega), w32_of (x := y + 1) (by omega) (by omega)]
        refine ⟨fun zd => zero _ fun q => zd (es.mpr ((wbL_cons (by omega)).mp q.2).2.1), fun zd => ?_⟩
        have ha1 : a = 1 := by omega
        refine ih rest k (y + 1) 1 (i + 1) _ hw' hi' hr' (Or.inr ⟨rfl, by omega, by omega⟩) hk0 hk1 (fun q => wy ⟨ha1, (wbL_cons (by omega)).mpr ⟨zb, es.mp zd, q.2⟩⟩) fun q => wn fun q2 => q ⟨rfl, ((wbL_cons (by omega)).mp q2.2).2.2⟩
  have outer : ∀ (ws : List (List Int)) (k i : Int) (pre : List Int), (∀ w ∈ ws, ∀ c ∈ w, c ≠ 32 ∧ 0 ≤ c ∧ c < 128) → wordsT = pre ++ flW ws → i = pre.length → 0 ≤ k → k + ws.length ≤ 1000 → Q (if fiW (wbL f x e) ws k = -1 then 2 else fiW (wbL f x e) ws k) σ → XX g true (d + 5) P_X8_wordKind 13 [(2, 1), (0, x), (0, e), (0, k), (0, x), (0, 1), (0, i), (9, 0)] [] 136 σ 136 Q := by
    intro ws
    induction ws with
    | nil =>
      intro k i pre hws hw hi hk0 hk1 w
      have hlen : wordsT.length = 116 := by decide +kernel
      have hpl : pre.length = 116 := by
        rw [← hlen, hw]
        simp [flW]
      refine B_X8_wordKind_13 (len ⟨fun _ => ?_, fun z => by omega⟩)
      exact w
    | cons wd ws ih =>
      intro k i pre hws hw hi hk0 hk1 w
      rw [List.length_cons] at hk1
      refine inner wd (flW ws) k x 1 i pre hw hi (hws wd List.mem_cons_self) (Or.inr ⟨rfl, Int.le_refl x, h1⟩) hk0 (by omega) (fun q => ?_) fun q => ?_
      · have e1 : fiW (wbL f x e) (wd :: ws) k = k := if_pos q.2.symm
        rw [e1, if_neg (by omega)] at w
        exact w
      · have e1 : fiW (wbL f x e) (wd :: ws) k = fiW (wbL f x e) ws (k + 1) := if_neg fun z => q ⟨rfl, z.symm⟩
        rw [e1] at w
        refine ih (k + 1) (i + wd.length + 1) (pre ++ (wd ++ [32])) (fun v hv => hws v (List.mem_cons_of_mem _ hv)) ?_ ?_ (by omega) (by omega) w
        · rw [hw]; simp [flW]
        · simp only [List.length_append, List.length_singleton]; omega
  exact B_X8_wordKind_0 (outer cwL 256 0 [] cw_ok (by rw [List.nil_append]; exact flW_cw.symm) rfl (by decide) (by decide) w)
theorem valN_bd {f : Int → Int} : ∀ {n : Nat} {x v B : Int}, (∀ y, x ≤ y → y < x + n → 48 ≤ f y ∧ f y ≤ 57) → 0 ≤ v → v < B → 0 ≤ valN f n x v ∧ valN f n x v < B * 10 ^ n := by
  intro n
  induction n with
  | zero => intro x v B _ h0 h1; exact ⟨h0, by rw [Int.pow_zero, Int.mul_one]; exact h1⟩
  | succ n ih =>
    intro x v B h h0 h1
    have hx := h x (Int.le_refl x) (by omega)
    rw [valN_succ, Int.pow_succ, show B * (10 ^ n * 10) = B * 10 * 10 ^ n by rw [Int.mul_comm (10 ^ n) 10, Int.mul_assoc]]
    exact ih (B := B * 10) (fun y y0 y1 => h y (by omega) (by omega)) (by omega) (by omega)
theorem s_valueOfC {x e : Int} (hT : TapC ln f σ) (h0 : 0 ≤ x) (h1 : x ≤ e) (h2 : e ≤ ln) (hl : ln ≤ 500) (h4 : e - x ≤ 4) (hd : ∀ y, x ≤ y → y < e → 48 ≤ f y ∧ f y ≤ 57) (w : Q (valN f (e - x).toNat x 0) σ) : XX g true d P_X8_valueOf 0 [(2, 1), (0, x), (0, e), (9, 0), (9, 0)] [] 136 σ 136 Q := by
  have key : ∀ (n : Nat) (y v : Int), (e - y).toNat = n → x ≤ y → y ≤ e → 0 ≤ v → v < 10 ^ (4 - n) → n ≤ 4 → Q (valN f n y v) σ → XX g true d P_X8_valueOf 5 [(2, 1), (9, 0), (0, e), (0, v), (0, y)] [] 136 σ 136 Q := by
    intro n
    induction n with
    | zero =>
      intro y v hn hy hye hv0 hv1 hn4 w
      exact B_X8_valueOf_5 ⟨fun _ => w, fun z => by omega⟩
    | succ n ih =>
      intro y v hn hy hye hv0 hv1 hn4 w
      have hdy := hd y hy (by omega)
      have hp : (10 : Int) ^ (4 - n) = 10 * 10 ^ (4 - (n + 1)) := by rw [show 4 - n = (4 - (n + 1)) + 1 by omega, Int.pow_succ, Int.mul_comm]
      have hp4 : (10 : Int) ^ (4 - (n + 1)) ≤ 1000 := by
        have : 4 - (n + 1) ≤ 3 := by omega
        rcases (show 4 - (n + 1) = 0 ∨ 4 - (n + 1) = 1 ∨ 4 - (n + 1) = 2 ∨ 4 - (n + 1) = 3 by omega) with q | q | q | q <;> rw [q] <;> decide
      have es : sb (f y) = f y := by unfold sb; rw [if_pos (by omega)]
      rw [valN_succ] at w
      refine B_X8_valueOf_5 ⟨fun z => by omega, fun z => ⟨by omega, fun y2 e2 => ?_⟩⟩
      rw [hT.2 y (by omega) (by omega), es, w32_of (x := 10 * v) (by omega) (by omega), w32_of (x := 10 * v + f y) (by omega) (by omega), w32_of (by omega) (by omega)] at e2
      rw [e2, w32_of (by omega) (by omega)]
      exact ih (y + 1) _ (by omega) (by omega) (by omega) (by omega) (by rw [hp]; omega) (by omega) w
  refine B_X8_valueOf_0 (key (e - x).toNat x 0 rfl (Int.le_refl x) h1 (Int.le_refl 0) ?_ (by omega) w)
  rcases (show 4 - (e - x).toNat = 0 ∨ 4 - (e - x).toNat = 1 ∨ 4 - (e - x).toNat = 2 ∨ 4 - (e - x).toNat = 3 ∨ 4 - (e - x).toNat = 4 by omega) with q | q | q | q | q <;> rw [q] <;> decide
theorem s_kindOf {x : Int} (hT : TapC ln f σ) (hb : ∀ i, 0 ≤ i → i < ln → 0 ≤ f i ∧ f i ≤ 255) (hl : ln ≤ 500) (h0 : 0 ≤ x) (h1 : x < ln) (w : Q (tkK f ln x) σ) : XX g true (d + 6) P_X8_kindOf 0 [(2, 1), (0, x), (0, tkE f ln x), (9, 0)] [] 136 σ 136 Q := by
  have he := tkE_bd (f := f) h1
  have hbx := hb x h0 h1
  unfold tkK at w
  refine B_X8_kindOf_0 ⟨by omega, fun y2 e2 => ?_⟩
  rw [hT.2 x h0 h1] at e2
  subst e2
  rw [w32_of (x := tkE f ln x - x) (by omega) (by omega)]
  refine s_isLetterC hbx ⟨fun q => s_isDigitC hbx ⟨fun q2 => s_isSymbolC hbx ⟨fun q3 => ?_, fun q3 => ?_⟩, fun q2 => ⟨fun q3 => ?_, fun q3 => ?_⟩⟩, fun q => ?_⟩
  · rw [if_neg (isIn_neg q), if_neg (isIn_neg q2), if_neg (isIn_neg q3)] at w; exact w
  · have := isSy_iff.mp (isIn_pos q3)
    rw [if_neg (isIn_neg q), if_neg (isIn_neg q2), if_pos (isIn_pos q3)] at w
    rw [show sb (f x) = f x by unfold sb; rw [if_pos (by omega)]]
    exact w
  · rw [if_neg (isIn_neg q), if_pos (isIn_pos q2), if_neg (by omega)] at w; exact w
  · rw [if_neg (isIn_neg q), if_pos (isIn_pos q2), if_pos q3] at w; exact w
  · rw [if_pos (isIn_pos q)] at w
    exact s_wordKind hT hb hl h0 (by omega) he.2 w
/-- the class's tokens, of which there are so many -/
def TokC (f : Int → Int) (ln : Int) (cnt : Nat) (σ : PS) : Prop := (∀ j : Nat, j < cnt → stP f ln j < ln) ∧ stP f ln cnt = ln ∧ cnt ≤ 500 ∧ ∀ j : Nat, j ≤ cnt → σ 3 j = kdP f ln j ∧ σ 4 j = stP f ln j ∧ σ 5 j = nmP f ln j
theorem s_cutTokens (hT : TapC ln f σ) (hb : ∀ i, 0 ≤ i → i < ln → 0 ≤ f i ∧ f i ≤ 255) (hl : 0 ≤ ln ∧ ln ≤ 500) (w : ∀ (cnt : Nat) (σ' : PS), eqx [1, 3, 4, 5] σ σ' → σ' 1 4 = ln → σ' 1 5 = 0 → TokC f ln cnt σ' → Q 0 σ') : XX g true (d + 7) P_X8_cutTokens 0 [(2, 1), (9, 0), (9, 0), (9, 0)] [] 136 σ 136 Q := by
  have key : ∀ (n c : Nat) (x : Int) (σ1 : PS), (ln - x).toNat = n → 0 ≤ x → x ≤ ln → (c : Int) ≤ x → skB f ln x = stP f ln c → (∀ j : Nat, j < c → stP f ln j < ln) → eqx [3, 4, 5] σ σ1 → (∀ j : Nat, j < c → σ1 3 j = kdP f ln j ∧ σ1 4 j = stP f ln j ∧ σ1 5 j = nmP f ln j) → XX g true (d + 7) P_X8_cutTokens 4 [(2, 1), (0, (c : Int)), (0, x), (9, 0)] [] 136 σ1 136 Q := by
    intro n
    induction n using Nat.strongRecOn with
    | ind n ih =>
      intro c x σ1 hn hx0 hx1 hc hsk hlt hx ha
      have hT1 : TapC ln f σ1 := ⟨by rw [hx 1 (by decide)]; exact hT.1, fun i i0 i1 => by rw [hx 2 (by decide)]; exact hT.2 i i0 i1⟩
      refine B_X8_cutTokens_4 ?_
      rw [hT1.1]
      refine ⟨fun z => ⟨by omega, ?_⟩, fun z => ⟨fun z1 => by omega, fun z1 y3 e3 => ⟨by omega, ?_⟩⟩⟩
      · have hs : stP f ln c = ln := by
          rw [← hsk]
          unfold skB
          rw [rnB_ge z]
          omega
        refine w c _ ((((((hx.mono (by decide)).su (by decide)).su (by decide)).su (by decide)).su (by decide))) ?_ su_eq ⟨hlt, hs, by omega, fun j hj => ?_⟩
        · rw [su_ne (Or.inr (by decide)), su_ne (Or.inl (by decide)), su_ne (Or.inl (by decide)), su_ne (Or.inl (by decide))]
          exact hT1.1
        · by_cases e : j = c
          · subst e
            have k0 : kdP f ln j = 0 := by unfold kdP; rw [if_neg (by omega)]
            have n0 : nmP f ln j = 0 := by unfold nmP; rw [if_neg (by omega)]
            rw [k0, n0, hs]
            simp [su]
          · obtain ⟨a1, a2, a3⟩ := ha j (by omega)
            have e' : ¬ (j : Int) = (c : Int) := by omega
            simp [su, e']
            exact ⟨a1, a2, a3⟩
      · rw [w32_of (by omega) (by omega)] at e3
        rw [hT1.2 x hx0 z, e3]
        have hbx := hb x hx0 z
        refine s_isBlankC hbx ⟨fun q => ?_, fun q => ?_⟩
        · refine ih (ln - (x + 1)).toNat (by omega) c (x + 1) σ1 rfl (by omega) (by omega) (by omega) ?_ hlt hx ha
          rw [← hsk]
          show skB f ln (x + 1) = rnB isBl f ln x
          rw [rnB_step, if_pos ⟨z, isIn_pos q⟩]
          rfl
        · have hs : stP f ln c = x := by
            rw [← hsk]
            show rnB isBl f ln x = x
            rw [rnB_step, if_neg (fun q2 => isIn_neg q q2.2)]
          have he := tkE_bd (f := f) z
          have hk : kdP f ln c = tkK f ln x := by unfold kdP; rw [hs, if_pos z]
          have hv : nmP f ln c = tkV f ln x := by unfold nmP; rw [hs, if_pos z]
          have next : ∀ σ2, eqx [3, 4, 5] σ σ2 → (∀ j : Nat, j < c + 1 → σ2 3 j = kdP f ln j ∧ σ2 4 j = stP f ln j ∧ σ2 5 j = nmP f ln j) → XX g true (d + 7) P_X8_cutTokens 4 [(2, 1), (0, (c : Int) + 1), (0, tkE f ln x), (9, 0)] [] 136 σ2 136 Q := fun σ2 hx2 ha2 => by
            refine ih (ln - tkE f ln x).toNat (by omega) (c + 1) (tkE f ln x) σ2 rfl (by omega) he.2 (by omega) ?_ (fun j hj => ?_) hx2 ha2
            · rw [stP_succ, hs, if_pos z]
            · by_cases e : j = c
              · rw [e, hs]; exact z
              · exact hlt j (by omega)
          refine s_tokenEnd hT1 hb hl.2 hx0 z (s_kindOf hT1 hb hl.2 hx0 z ⟨by omega, fun q1 => ?_, fun q1 => ?_⟩)
          · rw [w32_of (by omega) (by omega)]
            have hv0 : tkV f ln x = 0 := by unfold tkV; rw [if_neg q1]
            refine next _ (((hx.su (by decide)).su (by decide)).su (by decide)) fun j hj => ?_
            by_cases e : j = c
            · subst e
              rw [hk, hv, hs, hv0]
              simp [su]
            · obtain ⟨a1, a2, a3⟩ := ha j (by omega)
              have e' : ¬ (j : Int) = (c : Int) := by omega
              simp [su, e']
              exact ⟨a1, a2, a3⟩
          · rw [w32_of (by omega) (by omega)]
            have hv1 : tkV f ln x = valN f (tkE f ln x - x).toNat x 0 := by unfold tkV; rw [if_pos q1]
            -- a number's bytes
            have hl2 : isLt (f x) ≠ true := fun q2 => by
              unfold tkK at q1
              rw [if_pos q2] at q1
              unfold tkW at q1
              rcases wrd_rel (wbL f x (tkE f ln x)) with z5 | z5
              · rw [if_pos z5.2] at q1; exact absurd q1 (by decide)
              · have hw := wmap_in (fiW (wbL f x (tkE f ln x)) mwL 0).toNat (by omega)
                rw [show (((fiW (wbL f x (tkE f ln x)) mwL 0).toNat : Nat) : Int) = fiW (wbL f x (tkE f ln x)) mwL 0 by omega, ← z5.2.2] at hw
                split at q1 <;> omega
            have hd2 : isDg (f x) = true := Classical.byContradiction fun q2 => by
              unfold tkK at q1
              rw [if_neg hl2, if_neg q2] at q1
              split at q1
              · rename_i q3
                have := isSy_iff.mp q3
                omega
              · exact absurd q1 (by decide)
            have h4 : tkE f ln x - x ≤ 4 := Classical.byContradiction fun q2 => by
              unfold tkK at q1
              rw [if_neg hl2, if_pos hd2, if_neg q2] at q1
              exact absurd q1 (by decide)
            have hdig : ∀ y, x ≤ y → y < tkE f ln x → 48 ≤ f y ∧ f y ≤ 57 := fun y y0 y1 => by
              by_cases e : y = x
              · rw [e]; exact isDg_iff.mp hd2
              · have e1 : tkE f ln x = rnB isDg f ln (x + 1) := by unfold tkE; rw [if_neg hl2, if_pos hd2]
                rw [e1] at y1
                exact isDg_iff.mp ((rnB_in (p := isDg) (f := f) _ (x + 1) rfl (by omega)).2.2.2 y (by omega) y1)
            have hT2 : TapC ln f (su σ1 3 c (tkK f ln x)) := ⟨by rw [su_ne (Or.inl (by decide))]; exact hT1.1, fun i i0 i1 => by rw [su_ne (Or.inl (by decide))]; exact hT1.2 i i0 i1⟩
            refine s_valueOfC hT2 hx0 (by omega) he.2 hl.2 h4 hdig ?_
            refine next _ (((hx.su (by decide)).su (by decide)).su (by decide)) fun j hj => ?_
            by_cases e : j = c
            · subst e
              rw [hk, hv, hs, hv1]
              simp [su]
            · obtain ⟨a1, a2, a3⟩ := ha j (by omega)
              have e' : ¬ (j : Int) = (c : Int) := by omega
              simp [su, e']
              exact ⟨a1, a2, a3⟩
  exact B_X8_cutTokens_0 (key _ 0 0 σ rfl (Int.le_refl 0) hl.1 (Int.le_refl 0) rfl (fun j hj => by omega) eqx.rf fun j hj => by omega)
end PCUT
