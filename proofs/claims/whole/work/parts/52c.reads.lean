/-! TOKENS, the model -/
def AtM (f : Int → Int) (ln : Int) (i : Nat) (σ : PS) : Prop := σ 88 21 = stP f ln i ∧ TokM (kdP f ln i) (nmP f ln i) (σ 88 22) (σ 88 23) ∧ (0 ≤ σ 88 20 ∧ σ 88 20 ≤ ln) ∧ skB f ln (σ 88 20) = stP f ln (i + 1)
abbrev rdJ : List Int := [20, 21, 22, 23]
theorem valN_last {f : Int → Int} : ∀ {n : Nat} {x v : Int}, valN f (n + 1) x v = 10 * valN f n x v + f (x + n) - 48 := by
  intro n
  induction n with
  | zero => intro x v; show 10 * v + f x - 48 = 10 * v + f (x + ((0 : Nat) : Int)) - 48; rw [show x + ((0 : Nat) : Int) = x by omega]
  | succ n ih =>
    intro x v
    rw [valN_succ, ih, valN_succ, show x + 1 + (n : Int) = x + ((n + 1 : Nat) : Int) by omega]
section PREADS
variable {g : PG} {d : Nat} {Q : Int → PS → Prop} {ln : Int} {f : Int → Int} {σ : PS}
theorem s_raw {x : Int} (hT : TapM ln f σ) (h0 : 0 ≤ x) (hl : ln ≤ 500) (w : Q (if x < ln then f x else -1) σ) : XX g true d P_X12_raw 0 [(2, 88), (0, x)] [] 136 σ 136 Q := by
  refine B_X12_raw_0 ?_
  rw [hT.1]
  refine ⟨fun z => ?_, fun z => ⟨by omega, ?_⟩⟩
  · rw [if_neg (by omega)] at w; exact w
  · rw [if_pos z] at w
    rw [hT.2 x h0 z]; exact w
theorem s_isLetterM {c : Int} (w : Q (if isLt c = true then 1 else 0) σ) : XX g true (d + 1) P_X12_isLetter 0 [(2, 88), (0, c)] [] 136 σ 136 Q := by
  refine B_X12_isLetter_0 (s_isIn ⟨fun z => ?_, fun z => s_isIn ⟨fun z1 => ?_, fun z1 => ?_⟩⟩)
  · rw [if_pos (isLt_iff.mpr (Or.inl (isIn_pos z)))] at w; exact w
  · rw [if_neg (fun q => (isLt_iff.mp q).elim (isIn_neg z) (isIn_neg z1))] at w; exact w
  · rw [if_pos (isLt_iff.mpr (Or.inr (isIn_pos z1)))] at w; exact w
theorem s_isDigitM {c : Int} (w : Q (if isDg c = true then 1 else 0) σ) : XX g true (d + 1) P_X12_isDigit 0 [(2, 88), (0, c)] [] 136 σ 136 Q := by
  have e : (if isDg c = true then (1 : Int) else 0) = if 48 ≤ c ∧ c ≤ 57 then 1 else 0 := by
    by_cases h : 48 ≤ c ∧ c ≤ 57
    · rw [if_pos h, if_pos (isDg_iff.mpr h)]
    · rw [if_neg h, if_neg (fun q => h (isDg_iff.mp q))]
  rw [e] at w
  refine B_X12_isDigit_0 (s_isIn ⟨ite01 _, w⟩)
theorem s_isMarkSign {c : Int} (w : Q (if isSy c = true then 1 else 0) σ) : XX g true d P_X12_isMarkSign 0 [(2, 88), (0, c)] [] 136 σ 136 Q := by
  have yes : (c = 59 ∨ c = 43 ∨ c = 45 ∨ c = 42 ∨ c = 47 ∨ c = 40 ∨ c = 41 ∨ c = 60 ∨ c = 61 ∨ c = 62) → Q 1 σ := fun z => by rw [if_pos (isSy_iff.mpr z)] at w; exact w
  have no : ¬ (c = 59 ∨ c = 43 ∨ c = 45 ∨ c = 42 ∨ c = 47 ∨ c = 40 ∨ c = 41 ∨ c = 60 ∨ c = 61 ∨ c = 62) → Q 0 σ := fun z => by rw [if_neg (fun q => z (isSy_iff.mp q))] at w; exact w
  exact B_X12_isMarkSign_0 ⟨fun z => yes (by omega), fun z => ⟨fun z1 => yes (by omega), fun z1 => ⟨fun z2 => yes (by omega), fun z2 => ⟨fun z3 => yes (by omega), fun z3 => ⟨fun z4 => yes (by omega), fun z4 => ⟨fun z5 => yes (by omega), fun z5 => ⟨fun z6 => yes (by omega), fun z6 => ⟨fun z7 => yes (by omega), fun z7 => ⟨fun z8 => yes (by omega), fun z8 => ⟨fun z9 => no (by omega), fun z9 => yes (by omega)⟩⟩⟩⟩⟩⟩⟩⟩⟩⟩
theorem wrd_at {pre r : List Int} {i : Int} (hW : WrdM σ) (hw : wordsM = pre ++ r) (hi : i = pre.length) (hr : 0 < r.length) : σ 99 i = r.getD 0 0 := by
  have hlen : wordsM.length = 117 := by decide +kernel
  have hpl : pre.length + r.length = 117 := by rw [← hlen, hw, List.length_append]
  have h := hW pre.length (by omega)
  rw [hi, h, hw]
  have := getD_app (a := pre) (b := r) (i := 0)
  rw [Nat.add_zero] at this
  exact this
theorem s_wordAt {x e : Int} (hT : TapM ln f σ) (hW : WrdM σ) (hl : ln ≤ 500) (h0 : 0 ≤ x) (h1 : x ≤ e) (h2 : e ≤ ln) (hlt : ∀ y, x ≤ y → y < e → isLt (f y) = true) (w : Q (fiW (wbL f x e) mwL 0) σ) : XX g true d P_X12_wordAt 0 [(2, 88), (0, x), (0, e), (9, 0), (9, 0), (9, 0)] [] 136 σ 136 Q := by
  have hlen : wordsM.length = 117 := by decide +kernel
  -- to the next blank
  have skip : ∀ (r rest : List Int) (n i : Int) (pre : List Int), wordsM = pre ++ (r ++ 32 :: rest) → i = pre.length → (∀ c ∈ r, c ≠ 32 ∧ 0 ≤ c ∧ c < 128) → XX g true d P_X12_wordAt 5 [(2, 88), (0, x), (0, e), (0, n), (0, i + r.length), (9, 0)] [] 136 σ 136 Q → XX g true d P_X12_wordAt 93 [(2, 88), (0, x), (0, e), (0, n), (0, i), (9, 0)] [] 136 σ 136 Q := by
    intro r
    induction r with
    | nil =>
      intro rest n i pre hw hi hr h
      have hc := wrd_at hW hw hi (by simp)
      have hpl : pre.length + (1 + rest.length) = 117 := by
        rw [← hlen, hw]
        simp only [List.length_append, List.nil_append, List.length_cons]
        omega
      rw [List.length_nil, show i + ((0 : Nat) : Int) = i by omega] at h
      exact B_X12_wordAt_93 ⟨by omega, fun _ => h, fun z => absurd hc z⟩
    | cons c r ih =>
      intro rest n i pre hw hi hr h
      have hc := wrd_at hW hw hi (by simp)
      have hpl : pre.length + (1 + (r.length + (1 + rest.length))) = 117 := by
        rw [← hlen, hw]
        simp only [List.length_append, List.length_cons]
        omega
      have c1 := (hr c List.mem_cons_self).1
      refine B_X12_wordAt_93 ⟨by omega, fun z => absurd (hc.symm.trans z) c1, fun _ y2 e2 => ?_⟩
      rw [e2, w32_of (by omega) (by omega)]
      refine ih rest n (i + 1) (pre ++ [c]) (by rw [hw]; simp) (by rw [List.length_append, List.length_singleton]; omega) (fun q hq => hr q (List.mem_cons_of_mem _ hq)) ?_
      rw [List.length_cons] at h
      rw [show i + 1 + (r.length : Int) = i + ((r.length + 1 : Nat) : Int) by omega]
      exact h
  have inner : ∀ (r p rest : List Int) (n k : Int) (pre : List Int), wordsM = pre ++ 32 :: (p ++ (r ++ 32 :: rest)) → k = pre.length → (∀ c ∈ p ++ r, c ≠ 32 ∧ 0 ≤ c ∧ c < 128) → x + p.length ≤ e → (wbL f (x + p.length) e = r → Q n σ) → (wbL f (x + p.length) e ≠ r → XX g true d P_X12_wordAt 5 [(2, 88), (0, x), (0, e), (0, n), (0, k + 1 + (p ++ r).length), (9, 0)] [] 136 σ 136 Q) → XX g true d P_X12_wordAt 19 [(2, 88), (0, x), (0, e), (0, n), (0, k), (0, (p.length : Int))] [] 136 σ 136 Q := by
    intro r
    induction r with
    | nil =>
      intro p rest n k pre hw hk hr hp wy wn
      have hpl : pre.length + (1 + (p.length + (1 + rest.length))) = 117 := by
        rw [← hlen, hw]
        simp only [List.length_append, List.nil_append, List.length_cons]
        omega
      have hc : σ 99 (k + 1 + p.length) = 32 := by
        have := wrd_at (pre := pre ++ 32 :: p) (r := 32 :: rest) (i := k + 1 + p.length) hW (by rw [hw]; simp) (by simp only [List.length_append, List.length_cons]; omega) (by simp)
        exact this
      have sk : wbL f (x + p.length) e ≠ [] → XX g true d P_X12_wordAt 93 [(2, 88), (0, x), (0, e), (0, n), (0, k + 1), (9, 0)] [] 136 σ 136 Q := fun hn => skip (p ++ []) rest n (k + 1) (pre ++ [32]) (by rw [hw]; simp) (by rw [List.length_append, List.length_singleton]; omega) hr (wn hn)
      refine B_X12_wordAt_19 ?_
      rw [w32_of (x := x + (p.length : Int)) (by omega) (by omega), w32_of (x := k + 1) (by omega) (by omega), w32_of (x := k + 1 + (p.length : Int)) (by omega) (by omega), hc]
      refine ⟨fun z => ⟨fun z1 => by omega, fun z1 => ⟨by omega, fun z2 => absurd rfl z2, fun _ => wy ((wbL_nil hp).mpr z1)⟩⟩, fun z => ⟨by omega, by omega, fun z1 => ⟨fun z2 y6 e6 => ?_, fun z2 => by omega⟩, fun z1 => ?_⟩⟩
      · rw [e6]
        exact sk fun q => z2 ((wbL_nil hp).mp q)
      · exfalso
        rw [hT.2 (x + p.length) (by omega) (by omega)] at z1
        have := isLt_iff.mp (hlt (x + p.length) (by omega) z)
        omega
    | cons c r ih =>
      intro p rest n k pre hw hk hr hp wy wn
      have hpl : pre.length + (1 + (p.length + (1 + (r.length + (1 + rest.length))))) = 117 := by
        rw [← hlen, hw]
        simp only [List.length_append, List.length_cons]
        omega
      have hc : σ 99 (k + 1 + p.length) = c := by
        have := wrd_at (pre := pre ++ 32 :: p) (r := c :: (r ++ 32 :: rest)) (i := k + 1 + p.length) hW (by rw [hw]; simp) (by simp only [List.length_append, List.length_cons]; omega) (by simp)
        exact this
      have c1 := (hr c (List.mem_append_right _ List.mem_cons_self)).1
      have sk : wbL f (x + p.length) e ≠ c :: r → XX g true d P_X12_wordAt 93 [(2, 88), (0, x), (0, e), (0, n), (0, k + 1), (9, 0)] [] 136 σ 136 Q := fun hn => skip (p ++ c :: r) rest n (k + 1) (pre ++ [32]) (by rw [hw]; simp) (by rw [List.length_append, List.length_singleton]; omega) hr (wn hn)
      refine B_X12_wordAt_19 ?_
      rw [w32_of (x := x + (p.length : Int)) (by omega) (by omega), w32_of (x := k + 1) (by omega) (by omega), w32_of (x := k + 1 + (p.length : Int)) (by omega) (by omega), hc]
      refine ⟨fun z => ⟨fun z1 => by omega, fun z1 => ⟨by omega, fun z2 y3 e3 => ?_, fun z2 => absurd z2 c1⟩⟩, fun z => ⟨by omega, by omega, fun z1 => ⟨fun z2 y6 e6 => ?_, fun z2 => by omega⟩, fun z1 y8 e8 => ?_⟩⟩
      · rw [e3]
        exact sk fun q => by have := ((wbL_cons hp).mp q).1; omega
      · rw [e6]
        refine sk fun q => z1 ?_
        rw [hT.2 (x + p.length) (by omega) (by omega)]
        exact ((wbL_cons hp).mp q).2.1.symm
      · rw [e8, w32_of (by omega) (by omega)]
        rw [hT.2 (x + p.length) (by omega) (by omega)] at z1
        have e9 : ((p ++ [c]).length : Int) = (p.length : Int) + 1 := by rw [List.length_append, List.length_singleton]; omega
        have e10 : x + ((p ++ [c]).length : Int) = x + (p.length : Int) + 1 := by omega
        have := ih (p ++ [c]) rest n k pre (by rw [hw]; simp) hk (by simpa using hr) (by omega) (fun q => wy ((wbL_cons hp).mpr ⟨z, z1.symm, by rw [e10] at q; exact q⟩)) fun q => by
          have h3 := wn fun q2 => q (by rw [e10]; exact ((wbL_cons hp).mp q2).2.2)
          have e11 : (p ++ [c] ++ r).length = (p ++ c :: r).length := by simp
          rw [e11]
          exact h3
        rw [e9] at this
        exact this
  have outer : ∀ (ws : List (List Int)) (n k : Int) (pre : List Int), (∀ w ∈ ws, ∀ c ∈ w, c ≠ 32 ∧ 0 ≤ c ∧ c < 128) → wordsM = pre ++ 32 :: flW ws → k = pre.length → -1 ≤ n → n + ws.length ≤ 1000 → Q (fiW (wbL f x e) ws (n + 1)) σ → XX g true d P_X12_wordAt 5 [(2, 88), (0, x), (0, e), (0, n), (0, k), (9, 0)] [] 136 σ 136 Q := by
    intro ws
    induction ws with
    | nil =>
      intro n k pre hws hw hk hn0 hn1 w
      have hpl : pre.length = 116 := by
        have : pre.length + 1 = 117 := by rw [← hlen, hw]; simp [flW]
        omega
      exact B_X12_wordAt_5 ⟨fun _ => w, fun z => by omega⟩
    | cons wd ws ih =>
      intro n k pre hws hw hk hn0 hn1 w
      have hpl : pre.length + (1 + (wd.length + (1 + (flW ws).length))) = 117 := by
        rw [← hlen, hw]
        simp only [flW, List.length_append, List.length_cons]
        omega
      rw [List.length_cons] at hn1
      refine B_X12_wordAt_5 ⟨fun z => by omega, fun _ y1 e1 => ?_⟩
      rw [e1, w32_of (by omega) (by omega)]
      refine inner wd [] (flW ws) (n + 1) k pre hw hk (hws wd List.mem_cons_self) (by simpa using h1) (fun q => ?_) fun q => ?_
      · have e2 : fiW (wbL f x e) (wd :: ws) (n + 1) = n + 1 := if_pos (by simpa using q.symm)
        rw [e2] at w
        exact w
      · have e2 : fiW (wbL f x e) (wd :: ws) (n + 1) = fiW (wbL f x e) ws (n + 1 + 1) := if_neg fun z => q (by simpa using z.symm)
        rw [e2] at w
        refine ih (n + 1) _ (pre ++ 32 :: wd) (fun v hv => hws v (List.mem_cons_of_mem _ hv)) ?_ ?_ (by omega) (by omega) w
        · rw [hw]; simp [flW]
        · simp only [List.nil_append, List.length_append, List.length_cons]; omega
  exact B_X12_wordAt_0 (outer mwL (-1) 0 [] mw_ok (by rw [List.nil_append]; exact flW_mw.symm) rfl (by decide) (by decide) w)
theorem TapM.m {σ' : PS} {L J : List Int} (h : TapM ln f σ) (hx : eqm L J σ σ') (h1 : (98 : Int) ∉ L) (h2 : (19 : Int) ∉ J) : TapM ln f σ' := ⟨by rw [hx.2 19 h2]; exact h.1, fun i i0 i1 => by rw [hx.1 98 h1 (by decide)]; exact h.2 i i0 i1⟩
theorem WrdM.m {σ' : PS} {L J : List Int} (h : WrdM σ) (hx : eqm L J σ σ') (h1 : (99 : Int) ∉ L) : WrdM σ' := fun i hi => by rw [hx.1 99 h1 (by decide)]; exact h i hi
theorem s_reads {m : Nat} (hT : TapM ln f σ) (hW : WrdM σ) (hb : ∀ i, 0 ≤ i → i < ln → 0 ≤ f i ∧ f i ≤ 255) (hl : 0 ≤ ln ∧ ln ≤ 500) (hsp : 0 ≤ σ 88 20 ∧ σ 88 20 ≤ ln) (hs : skB f ln (σ 88 20) = stP f ln m) (w : ∀ σ', eqm [] rdJ σ σ' → AtM f ln m σ' → Q 0 σ') : XX g true (d + 2) P_X12_reads 0 [(2, 88), (9, 0)] [] 136 σ 136 Q := by
  have key : ∀ (n : Nat) (σ1 : PS), (ln - σ1 88 20).toNat = n → (0 ≤ σ1 88 20 ∧ σ1 88 20 ≤ ln) → skB f ln (σ1 88 20) = stP f ln m → eqm [] rdJ σ σ1 → XX g true (d + 2) P_X12_reads 0 [(2, 88), (9, 0)] [] 136 σ1 136 Q := by
    intro n
    induction n with
    | zero =>
      intro σ1 hn hsp1 hs1 hx
      have hT1 := hT.m hx (by simp) (by decide)
      have esp : σ1 88 20 = ln := by omega
      have est : stP f ln m = ln := by
        rw [← hs1, esp]
        unfold skB
        exact rnB_ge (Int.le_refl ln)
      refine B_X12_reads_0 ?_
      rw [esp]
      refine s_raw hT1 hl.1 hl.2 ?_
      rw [if_neg (by omega)]
      refine ⟨fun z => absurd z (by decide), fun _ => ?_⟩
      rw [esp]
      refine s_raw hT1 hl.1 hl.2 ?_
      rw [if_neg (by omega)]
      refine ⟨fun _ => ?_, fun z => absurd z (by decide)⟩
      have hx2 : eqm [] rdJ σ (su (su σ1 88 21 (σ1 88 20)) 88 22 1) := (hx.s8 (by decide)).s8 (by decide)
      have hT2 := hT.m hx2 (by simp) (by decide)
      rw [esp] at hx2 hT2 ⊢
      refine s_raw hT2 hl.1 hl.2 ?_
      rw [if_neg (by omega)]
      refine ⟨fun z => absurd rfl z, fun _ => ?_⟩
      refine w _ (hx2.s8 (by decide)) ⟨?_, Or.inl ⟨?_, su_eq⟩, ?_, ?_⟩
      · rw [su_ne (Or.inr (by decide)), su_ne (Or.inr (by decide)), su_eq, est]
      · unfold kdP; rw [est, if_neg (by omega)]
      · rw [su_ne (Or.inr (by decide)), su_ne (Or.inr (by decide)), su_ne (Or.inr (by decide)), esp]
        exact ⟨hl.1, Int.le_refl ln⟩
      · rw [su_ne (Or.inr (by decide)), su_ne (Or.inr (by decide)), su_ne (Or.inr (by decide)), esp, stP_succ, est, if_neg (by omega)]
        exact rnB_ge (Int.le_refl ln)
    | succ n ih =>
      intro σ1 hn hsp1 hs1 hx
      have hT1 := hT.m hx (by simp) (by decide)
      obtain ⟨y, ey⟩ : ∃ y, σ1 88 20 = y := ⟨_, rfl⟩
      rw [ey] at hn hsp1 hs1
      have hy : y < ln := by omega
      have blank : isBl (f y) = true → XX g true (d + 2) P_X12_reads 0 [(2, 88), (9, 0)] [] 136 (su σ1 88 20 (w32 (σ1 88 20 + 1))) 136 Q := fun hbl => by
        rw [ey, w32_of (by omega) (by omega)]
        refine ih _ (by rw [su_eq]; omega) (by rw [su_eq]; omega) ?_ (hx.s8 (by decide))
        rw [su_eq, ← hs1]
        show skB f ln (y + 1) = rnB isBl f ln y
        rw [rnB_step, if_pos ⟨hy, hbl⟩]
        rfl
      refine B_X12_reads_0 ?_
      rw [ey]
      refine s_raw hT1 hsp1.1 hl.2 ?_
      rw [if_pos hy]
      refine ⟨fun z => ?_, fun z => ?_⟩
      · have := blank (isBl_iff.mpr (Or.inl z))
        rw [ey] at this
        rw [ey]
        exact this
      rw [ey]
      refine s_raw hT1 hsp1.1 hl.2 ?_
      rw [if_pos hy]
      refine ⟨fun z1 => ?_, fun z1 => ?_⟩
      rotate_left
      · have := blank (isBl_iff.mpr (Or.inr z1))
        rw [ey] at this
        rw [ey]
        exact this
      have hnb : ¬ isBl (f y) = true := fun q => (isBl_iff.mp q).elim z z1
      have est : stP f ln m = y := by
        rw [← hs1]
        show rnB isBl f ln y = y
        rw [rnB_step, if_neg (fun q => hnb q.2)]
      have hk : kdP f ln m = tkK f ln y := by unfold kdP; rw [est, if_pos hy]
      have hv : nmP f ln m = tkV f ln y := by unfold nmP; rw [est, if_pos hy]
      have hst1 : stP f ln (m + 1) = skB f ln (tkE f ln y) := by rw [stP_succ, est, if_pos hy]
      have he := tkE_bd (f := f) hy
      rw [ey]
      have hx2 : eqm [] rdJ σ (su (su σ1 88 21 y) 88 22 1) := (hx.s8 (by decide)).s8 (by decide)
      have hT2 := hT.m hx2 (by simp) (by decide)
      have e20 : su (su σ1 88 21 y) 88 22 1 88 20 = y := by rw [su_ne (Or.inr (by decide)), su_ne (Or.inr (by decide))]; exact ey
      have e21 : su (su σ1 88 21 y) 88 22 1 88 21 = y := by rw [su_ne (Or.inr (by decide)), su_eq]
      have e22 : su (su σ1 88 21 y) 88 22 1 88 22 = 1 := su_eq
      refine s_raw hT2 hsp1.1 hl.2 ?_
      rw [if_pos hy]
      generalize su (su σ1 88 21 y) 88 22 1 = σ2 at *
      refine ⟨fun z2 => ?_, fun z2 => ?_⟩
      rotate_left
      · -- the end's sign can't be a byte: read as the end
        have := hb y hsp1.1 hy; omega
      rw [e20, w32_of (by omega) (by omega)]
      have hx3 : eqm [] rdJ σ (su (su σ2 88 20 (y + 1)) 88 23 (f y)) := (hx2.s8 (by decide)).s8 (by decide)
      have f20 : su (su σ2 88 20 (y + 1)) 88 23 (f y) 88 20 = y + 1 := by rw [su_ne (Or.inr (by decide)), su_eq]
      have f21 : su (su σ2 88 20 (y + 1)) 88 23 (f y) 88 21 = y := by rw [su_ne (Or.inr (by decide)), su_ne (Or.inr (by decide))]; exact e21
      have f22 : su (su σ2 88 20 (y + 1)) 88 23 (f y) 88 22 = 1 := by rw [su_ne (Or.inr (by decide)), su_ne (Or.inr (by decide))]; exact e22
      have f23 : su (su σ2 88 20 (y + 1)) 88 23 (f y) 88 23 = f y := su_eq
      generalize su (su σ2 88 20 (y + 1)) 88 23 (f y) = σ3 at *
      refine s_isLetterM ⟨fun q => s_isDigitM ⟨fun q1 => s_isMarkSign ⟨fun q2 => ?_, fun q2 => ?_⟩, fun q1 => ?_⟩, fun q => ?_⟩
      · -- strange
        have e3 : tkE f ln y = y + 1 := by unfold tkE; rw [if_neg (isIn_neg q), if_neg (isIn_neg q1)]
        refine w _ hx3 ⟨by rw [f21, est], ?_, by rw [f20]; omega, by rw [f20, hst1, e3]⟩
        rw [hk, f22]
        unfold tkK
        rw [if_neg (isIn_neg q), if_neg (isIn_neg q1), if_neg (isIn_neg q2)]
        exact Or.inr (Or.inr (Or.inl ⟨rfl, rfl⟩))
      · -- a sign
        have e3 : tkE f ln y = y + 1 := by unfold tkE; rw [if_neg (isIn_neg q), if_neg (isIn_neg q1)]
        refine w _ (hx3.s8 (by decide)) ⟨?_, ?_, ?_, ?_⟩
        · rw [su_ne (Or.inr (by decide)), f21, est]
        · rw [hk, su_eq, su_ne (Or.inr (by decide)), f23]
          unfold tkK
          rw [if_neg (isIn_neg q), if_neg (isIn_neg q1), if_pos (isIn_pos q2)]
          exact Or.inr (Or.inr (Or.inr (Or.inl ⟨isIn_pos q2, rfl, rfl⟩)))
        · rw [su_ne (Or.inr (by decide)), f20]; omega
        · rw [su_ne (Or.inr (by decide)), f20, hst1, e3]
      · -- a number
        have hdg := isIn_pos q1
        have hdy := isDg_iff.mp hdg
        have e3 : tkE f ln y = rnB isDg f ln (y + 1) := by unfold tkE; rw [if_neg (isIn_neg q), if_pos hdg]
        have eK : tkK f ln y = if tkE f ln y - y ≤ 4 then 1 else 2 := by unfold tkK; rw [if_neg (isIn_neg q), if_pos hdg]
        have eV : tkE f ln y - y ≤ 4 → tkV f ln y = valN f (tkE f ln y - y).toNat y 0 := fun h4 => by unfold tkV; rw [eK, if_pos h4, if_pos rfl]
        have loop : ∀ (k : Nat) (s v : Int) (σ4 : PS), (ln - s).toNat = k → y < s → s ≤ ln → rnB isDg f ln s = tkE f ln y → (∀ t, y ≤ t → t < s → 48 ≤ f t ∧ f t ≤ 57) → (0 ≤ v ∧ v < 100000) → (s - y ≤ 4 → v = valN f (s - y).toNat y 0) → eqm [] rdJ σ σ4 → σ4 88 20 = s → σ4 88 21 = y → σ4 88 22 = 1 → σ4 88 23 = v → XX g true (d + 2) P_X12_reads 171 [(2, 88), (9, 0)] [] 136 σ4 136 Q := by
          intro k
          have fin : ∀ (s v : Int) (σ4 : PS), y < s → s ≤ ln → s = tkE f ln y → (s - y ≤ 4 → v = valN f (s - y).toNat y 0) → eqm [] rdJ σ σ4 → σ4 88 20 = s → σ4 88 21 = y → σ4 88 22 = 1 → σ4 88 23 = v → (5 ≤ w32 (σ4 88 20 - σ4 88 21) → Q 0 σ4) ∧ (w32 (σ4 88 20 - σ4 88 21) < 5 → Q 0 (su σ4 88 22 3)) := by
            intro s v σ4 hs0 hs1 hse hval hx4 g20 g21 g22 g23
            rw [g20, g21, w32_of (by omega) (by omega)]
            refine ⟨fun z5 => w _ hx4 ⟨by rw [g21, est], ?_, by rw [g20]; omega, by rw [g20, hst1, hse]⟩, fun z5 => w _ (hx4.s8 (by decide)) ⟨?_, ?_, ?_, ?_⟩⟩
            · rw [hk, eK, if_neg (by omega), g22]
              exact Or.inr (Or.inr (Or.inl ⟨rfl, rfl⟩))
            · rw [su_ne (Or.inr (by decide)), g21, est]
            · rw [hk, hv, eK, if_pos (by omega), eV (by omega), su_eq, su_ne (Or.inr (by decide)), g23, hval (by omega), hse]
              exact Or.inr (Or.inl ⟨rfl, rfl, rfl⟩)
            · rw [su_ne (Or.inr (by decide)), g20]; omega
            · rw [su_ne (Or.inr (by decide)), g20, hst1, hse]
          induction k with
          | zero =>
            intro s v σ4 hk4 hs0 hs1 hr hd4 hv4 hval hx4 g20 g21 g22 g23
            have hT4 := hT.m hx4 (by simp) (by decide)
            refine B_X12_reads_171 ?_
            rw [g20]
            refine s_raw hT4 (by omega) hl.2 ?_
            rw [if_neg (by omega)]
            refine s_isDigitM ⟨fun _ => ?_, fun z5 => absurd (isIn_pos z5) (by decide)⟩
            exact fin s v σ4 hs0 hs1 (by rw [← hr, rnB_ge (by omega)]) hval hx4 g20 g21 g22 g23
          | succ k ihk =>
            intro s v σ4 hk4 hs0 hs1 hr hd4 hv4 hval hx4 g20 g21 g22 g23
            have hT4 := hT.m hx4 (by simp) (by decide)
            refine B_X12_reads_171 ?_
            rw [g20]
            refine s_raw hT4 (by omega) hl.2 ?_
            rw [if_pos (by omega)]
            refine s_isDigitM ⟨fun z5 => ?_, fun z5 => ?_⟩
            · refine fin s v σ4 hs0 hs1 ?_ hval hx4 g20 g21 g22 g23
              rw [← hr, rnB_step, if_neg (fun z6 => isIn_neg z5 z6.2)]
            · have hds := isDg_iff.mp (isIn_pos z5)
              have hr' : rnB isDg f ln (s + 1) = tkE f ln y := by rw [← hr, rnB_step (x := s), if_pos ⟨by omega, isIn_pos z5⟩]
              have hd' : ∀ t, y ≤ t → t < s + 1 → 48 ≤ f t ∧ f t ≤ 57 := fun t t0 t1 => by
                by_cases e : t = s
                · rw [e]; exact hds
                · exact hd4 t t0 (by omega)
              have hval' : s + 1 - y ≤ 4 → v < 10000 ∧ 10 * v + f s - 48 = valN f (s + 1 - y).toNat y 0 := fun h4 => by
                have e1 := hval (by omega)
                have b := valN_bd (f := f) (n := (s - y).toNat) (x := y) (v := 0) (B := 1) (fun t t0 t1 => hd4 t t0 (by omega)) (by decide) (by decide)
                rw [← e1, Int.one_mul] at b
                have p3 : (10 : Int) ^ (s - y).toNat ≤ 1000 := by
                  rcases (show (s - y).toNat = 1 ∨ (s - y).toNat = 2 ∨ (s - y).toNat = 3 by omega) with q3 | q3 | q3 <;> rw [q3] <;> decide
                refine ⟨by omega, ?_⟩
                rw [show (s + 1 - y).toNat = (s - y).toNat + 1 by omega, valN_last, ← e1, show y + (((s - y).toNat : Nat) : Int) = s by omega]
              rw [g20, g23]
              refine ⟨fun z6 => ?_, fun z6 => ?_⟩
              · rw [w32_of (by omega) (by omega)]
                refine ihk (s + 1) v _ (by omega) (by omega) (by omega) hr' hd' hv4 (fun h4 => by have := (hval' h4).1; omega) ((hx4.s8 (by decide)).s8 (by decide)) su_eq ?_ ?_ ?_
                · rw [su_ne (Or.inr (by decide)), su_ne (Or.inr (by decide))]; exact g21
                · rw [su_ne (Or.inr (by decide)), su_ne (Or.inr (by decide))]; exact g22
                · rw [su_ne (Or.inr (by decide)), su_eq]
              · refine s_raw hT4 (by omega) hl.2 ?_
                rw [if_pos (by omega), g20, w32_of (x := s + 1) (by omega) (by omega), w32_of (x := 10 * v) (by omega) (by omega), w32_of (x := 10 * v + f s) (by omega) (by omega), w32_of (x := 10 * v + f s - 48) (by omega) (by omega)]
                refine ihk (s + 1) (10 * v + f s - 48) _ (by omega) (by omega) (by omega) hr' hd' (by omega) (fun h4 => (hval' h4).2) ((hx4.s8 (by decide)).s8 (by decide)) su_eq ?_ ?_ ?_
                · rw [su_ne (Or.inr (by decide)), su_ne (Or.inr (by decide))]; exact g21
                · rw [su_ne (Or.inr (by decide)), su_ne (Or.inr (by decide))]; exact g22
                · rw [su_ne (Or.inr (by decide)), su_eq]
        rw [w32_of (by omega) (by omega)]
        refine loop _ (y + 1) (f y - 48) _ rfl (by omega) (by omega) e3.symm (fun t t0 t1 => by rw [show t = y by omega]; exact hdy) (by omega) (fun _ => ?_) (hx3.s8 (by decide)) ?_ ?_ ?_ su_eq
        · rw [show (y + 1 - y).toNat = 1 by omega]
          show f y - 48 = 10 * 0 + f y - 48
          omega
        · rw [su_ne (Or.inr (by decide))]; exact f20
        · rw [su_ne (Or.inr (by decide))]; exact f21
        · rw [su_ne (Or.inr (by decide))]; exact f22
      · -- a word
        have hlt := isIn_pos q
        have e3 : tkE f ln y = rnB isLt f ln (y + 1) := by unfold tkE; rw [if_pos hlt]
        have eK : tkK f ln y = tkW f y (tkE f ln y) := by unfold tkK; rw [if_pos hlt]
        have hall : ∀ t, y ≤ t → t < tkE f ln y → isLt (f t) = true := fun t t0 t1 => by
          by_cases e : t = y
          · rw [e]; exact hlt
          · rw [e3] at t1
            exact (rnB_in (p := isLt) (f := f) _ (y + 1) rfl (by omega)).2.2.2 t (by omega) t1
        have loop : ∀ (k : Nat) (s : Int) (σ4 : PS), (ln - s).toNat = k → y < s → s ≤ ln → rnB isLt f ln s = tkE f ln y → eqm [] rdJ σ σ4 → σ4 88 20 = s → σ4 88 21 = y → σ4 88 22 = 1 → XX g true (d + 2) P_X12_reads 95 [(2, 88), (9, 0)] [] 136 σ4 136 Q := by
          intro k
          have fin : ∀ (σ4 : PS), eqm [] rdJ σ σ4 → σ4 88 20 = tkE f ln y → σ4 88 21 = y → σ4 88 22 = 1 → XX g true (d + 1) P_X12_wordAt 0 [(2, 88), (0, σ4 88 21), (0, σ4 88 20), (9, 0), (9, 0), (9, 0)] [] 136 σ4 136 (fun r6 σ5 => ((r6 = (-1) → Q 0 (su σ5 88 23 r6)) ∧ (r6 ≠ (-1) → Q 0 (su (su σ5 88 23 r6) 88 22 2)))) := by
            intro σ4 hx4 g20 g21 g22
            have hT4 := hT.m hx4 (by simp) (by decide)
            rw [g20, g21]
            refine s_wordAt hT4 (hW.m hx4 (by simp)) hl.2 hsp1.1 (by omega) he.2 hall ?_
            have hrel := wrd_rel (wbL f y (tkE f ln y))
            refine ⟨fun z5 => ?_, fun z5 => ?_⟩
            · have hc : fiW (wbL f y (tkE f ln y)) cwL 256 = -1 := by omega
              refine w _ (hx4.s8 (by decide)) ⟨?_, ?_, ?_, ?_⟩
              · rw [su_ne (Or.inr (by decide)), g21, est]
              · rw [hk, eK, su_ne (Or.inr (by decide)), g22]
                unfold tkW
                rw [if_pos hc]
                exact Or.inr (Or.inr (Or.inl ⟨rfl, rfl⟩))
              · rw [su_ne (Or.inr (by decide)), g20]; omega
              · rw [su_ne (Or.inr (by decide)), g20, hst1]
            · have hr2 : 0 ≤ fiW (wbL f y (tkE f ln y)) mwL 0 ∧ fiW (wbL f y (tkE f ln y)) mwL 0 < 24 ∧ fiW (wbL f y (tkE f ln y)) cwL 256 = wmap (fiW (wbL f y (tkE f ln y)) mwL 0) := by
                rcases hrel with z6 | z6
                · exact absurd z6.1 z5
                · exact z6
              have hw := wmap_in (fiW (wbL f y (tkE f ln y)) mwL 0).toNat (by omega)
              rw [show (((fiW (wbL f y (tkE f ln y)) mwL 0).toNat : Nat) : Int) = fiW (wbL f y (tkE f ln y)) mwL 0 by omega, ← hr2.2.2] at hw
              refine w _ ((hx4.s8 (by decide)).s8 (by decide)) ⟨?_, ?_, ?_, ?_⟩
              · rw [su_ne (Or.inr (by decide)), su_ne (Or.inr (by decide)), g21, est]
              · rw [hk, eK, su_eq, su_ne (Or.inr (by decide)), su_eq]
                unfold tkW
                rw [if_neg (by omega)]
                exact Or.inr (Or.inr (Or.inr (Or.inr ⟨rfl, hr2.1, hr2.2.1, hr2.2.2⟩)))
              · rw [su_ne (Or.inr (by decide)), su_ne (Or.inr (by decide)), g20]; omega
              · rw [su_ne (Or.inr (by decide)), su_ne (Or.inr (by decide)), g20, hst1]
          induction k with
          | zero =>
            intro s σ4 hk4 hs0 hs1 hr hx4 g20 g21 g22
            have hT4 := hT.m hx4 (by simp) (by decide)
            refine B_X12_reads_95 ?_
            rw [g20]
            refine s_raw hT4 (by omega) hl.2 ?_
            rw [if_neg (by omega)]
            refine s_isLetterM ⟨fun _ => ?_, fun z5 => absurd (isIn_pos z5) (by decide)⟩
            exact fin σ4 hx4 (by rw [g20, ← hr, rnB_ge (by omega)]) g21 g22
          | succ k ihk =>
            intro s σ4 hk4 hs0 hs1 hr hx4 g20 g21 g22
            have hT4 := hT.m hx4 (by simp) (by decide)
            refine B_X12_reads_95 ?_
            rw [g20]
            refine s_raw hT4 (by omega) hl.2 ?_
            rw [if_pos (by omega)]
            refine s_isLetterM ⟨fun z5 => ?_, fun z5 => ?_⟩
            · refine fin σ4 hx4 ?_ g21 g22
              rw [g20, ← hr, rnB_step, if_neg (fun z6 => isIn_neg z5 z6.2)]
            · rw [g20, w32_of (by omega) (by omega)]
              refine ihk (s + 1) _ (by omega) (by omega) (by omega) (by rw [← hr, rnB_step (x := s), if_pos ⟨by omega, isIn_pos z5⟩]) (hx4.s8 (by decide)) su_eq ?_ ?_
              · rw [su_ne (Or.inr (by decide))]; exact g21
              · rw [su_ne (Or.inr (by decide))]; exact g22
        exact loop _ (y + 1) _ rfl (by omega) (by omega) e3.symm hx3 f20 f21 f22
  exact key _ σ rfl hsp hs eqm.rf
end PREADS
