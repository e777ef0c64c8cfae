/-! DAYS, and days in thought; the class -/
noncomputable def daysS (T Tr : PS) (E : Int → Int) : Nat → PS → PS
  | 0, R => R
  | n + 1, R => daysS T Tr E n (dayS T Tr E R)
theorem daysS_succ (T Tr : PS) (E : Int → Int) (n : Nat) (R : PS) : daysS T Tr E (n + 1) R = daysS T Tr E n (dayS T Tr E R) := rfl
theorem daysS_ok {T Tr : PS} {E : Int → Int} : ∀ {n : Nat} {R : PS}, RSok R → R 0 2 + n ≤ 20000 → RSok (daysS T Tr E n R) ∧ daysS T Tr E n R 0 0 = R 0 0 ∧ daysS T Tr E n R 0 2 = R 0 2 + n := by
  intro n
  induction n with
  | zero => intro R ok _; exact ⟨ok, rfl, by show R 0 2 = _; omega⟩
  | succ n ih =>
    intro R ok hd
    obtain ⟨a1, a2, a3⟩ := dayS_ok (T := T) (Tr := Tr) (W := E) ok (by omega)
    obtain ⟨b1, b2, b3⟩ := ih (R := dayS T Tr E R) a1 (by omega)
    exact ⟨b1, b2.trans a2, by rw [daysS_succ, b3, a3]; omega⟩
def everyS (R : PS) (v : Int) : PS := su R 9 3 v
theorem everyS_ok {R : PS} {v : Int} (ok : RSok R) (h : 1 ≤ v) : RSok (everyS R v) := by
  obtain ⟨k1, k2, k3, k4, k5, k6, k7, k8⟩ := ok
  unfold everyS
  refine ⟨by simp [su]; omega, by simp [su]; omega, fun q a b => ?_, fun q a b => ?_, by simp [su]; omega, by simp [su]; omega, by simp [su]; omega, by simp [su]; omega⟩
  · have := k3 q a b
    simp [su]
    omega
  · simp [su] at a ⊢
    exact k4 q a b
noncomputable def thinkS (T Tr : PS) (E : Int → Int) (R : PS) (v x : Int) : PS := daysS T Tr E x.toNat (everyS R v)
def ruleT (T1 T2 : PS) (k : Int) : PS := if k = 1 then T1 else T2
noncomputable def thCost (T Tr : PS) (E : Int → Int) (R : PS) (v x : Int) : Int := w32 (thinkS T Tr E R v x 0 4 - R 0 4)
noncomputable def thoughtA (T T1 T2 : PS) (E : Int → Int) (R : PS) (k v x wh : Int) : Int :=
  if (1 ≤ k ∧ k ≤ 2) ∧ (1 ≤ v ∧ v ≤ 99) ∧ (1 ≤ x ∧ x ≤ 99) ∧ (0 ≤ wh ∧ wh ≤ 2) then
    (if wh = 0 then thCost T (ruleT T1 T2 k) E R v x else if wh = 1 then w32 (thinkS T (ruleT T1 T2 k) E R v x 0 3 - R 0 3) else w32 (thinkS T (ruleT T1 T2 k) E R v x 0 5 - R 0 5))
  else -1
/-- of EVERY x .. the one with least cost, the greatest of several -/
def cheapR (c : Int → Int) : Nat → Int → Int → Int → Int
  | 0, _, best, _ => best
  | n + 1, x, best, least => if c x ≤ least then cheapR c n (x + 1) x (c x) else cheapR c n (x + 1) best least
theorem cheapR_succ (c : Int → Int) (n : Nat) (x best least : Int) : cheapR c (n + 1) x best least = if c x ≤ least then cheapR c n (x + 1) x (c x) else cheapR c n (x + 1) best least := rfl
/-- the class goes the other way -/
def cheapD (c : Int → Int) : Nat → Int → Int → Int
  | 0, best, _ => best
  | n + 1, best, least => if c ((n : Int) + 1) < least then cheapD c n ((n : Int) + 1) (c ((n : Int) + 1)) else cheapD c n best least
theorem cheapD_succ (c : Int → Int) (n : Nat) (best least : Int) : cheapD c (n + 1) best least = if c ((n : Int) + 1) < least then cheapD c n ((n : Int) + 1) (c ((n : Int) + 1)) else cheapD c n best least := rfl
def isCheap (c : Int → Int) (lo hi b : Int) : Prop := (lo ≤ b ∧ b ≤ hi) ∧ (∀ x, lo ≤ x → x ≤ hi → c b ≤ c x) ∧ ∀ x, b < x → x ≤ hi → c b < c x
theorem isCheap_one {c : Int → Int} {lo hi b b' : Int} (h : isCheap c lo hi b) (h' : isCheap c lo hi b') : b = b' := by
  obtain ⟨a1, a2, a3⟩ := h
  obtain ⟨c1, c2, c3⟩ := h'
  have x1 := a2 b' c1.1 c1.2
  have x2 := c2 b a1.1 a1.2
  rcases Int.lt_trichotomy b b' with z | z | z
  · have := a3 b' z c1.2; omega
  · exact z
  · have := c3 b z a1.2; omega
theorem cheapR_is {c : Int → Int} : ∀ (n : Nat) (x best : Int), 1 ≤ best → best < x → isCheap c 1 (x - 1) best → isCheap c 1 (x - 1 + n) (cheapR c n x best (c best)) := by
  intro n
  induction n with
  | zero => intro x best _ _ h; rw [show x - 1 + ((0 : Nat) : Int) = x - 1 by omega]; exact h
  | succ n ih =>
    intro x best h1 h2 h
    obtain ⟨a1, a2, a3⟩ := h
    rw [cheapR_succ]
    rw [show x - 1 + ((n + 1 : Nat) : Int) = x + 1 - 1 + n by omega]
    split
    · rename_i hc
      refine ih (x + 1) x (by omega) (by omega) ⟨by omega, fun y y0 y1 => ?_, fun y y0 y1 => by omega⟩
      by_cases e : y = x
      · rw [e]; exact Int.le_refl _
      · have := a2 y y0 (by omega); omega
    · rename_i hc
      refine ih (x + 1) best h1 (by omega) ⟨by omega, fun y y0 y1 => ?_, fun y y0 y1 => ?_⟩
      · by_cases e : y = x
        · rw [e]; omega
        · exact a2 y y0 (by omega)
      · by_cases e : y = x
        · rw [e]; omega
        · exact a3 y y0 (by omega)
theorem cheapD_is {c : Int → Int} : ∀ (n : Nat) (best : Int), (n : Int) < best → best ≤ 9 → isCheap c ((n : Int) + 1) 9 best → isCheap c 1 9 (cheapD c n best (c best)) := by
  intro n
  induction n with
  | zero => intro best _ _ h; exact h
  | succ n ih =>
    intro best h1 h2 h
    obtain ⟨a1, a2, a3⟩ := h
    rw [cheapD_succ]
    split
    · rename_i hc
      refine ih ((n : Int) + 1) (by omega) (by omega) ⟨by omega, fun y y0 y1 => ?_, fun y y0 y1 => ?_⟩
      · by_cases e : y = (n : Int) + 1
        · rw [e]; exact Int.le_refl _
        · have := a2 y (by omega) y1; omega
      · have := a2 y (by omega) y1; omega
    · rename_i hc
      refine ih best (by omega) h2 ⟨by omega, fun y y0 y1 => ?_, a3⟩
      by_cases e : y = (n : Int) + 1
      · rw [e]; omega
      · exact a2 y (by omega) y1
def cheapS (c : Int → Int) : Int := cheapR c 8 2 1 (c 1)
theorem cheap_same {c : Int → Int} : cheapD c 8 9 (c 9) = cheapS c := by
  have h1 := cheapR_is (c := c) 8 2 1 (by omega) (by omega) ⟨by omega, fun x x0 x1 => by rw [show x = 1 by omega]; exact Int.le_refl _, fun x x0 x1 => by omega⟩
  have h2 := cheapD_is (c := c) 8 9 (by omega) (by omega) ⟨by omega, fun x x0 x1 => by rw [show x = 9 by omega]; exact Int.le_refl _, fun x x0 x1 => by omega⟩
  exact isCheap_one h2 h1
noncomputable def oftenA (T T1 T2 : PS) (E : Int → Int) (R : PS) (x wh : Int) : Int :=
  if (1 ≤ x ∧ x ≤ 99) ∧ (0 ≤ wh ∧ wh ≤ 1) then
    (if wh = 0 then cheapS (fun v => thCost T T1 E R v x) else if thCost T T2 E R (R 9 3) x < thCost T T1 E R (R 9 3) x then 2 else 1)
  else -1
def nineR (k : Int) : Nat → Int → Int
  | 0, v => v
  | n + 1, v => nineR k n (ldiv (w64 (v * k)) 1000000)
theorem nineR_succ (k : Int) (n : Nat) (v : Int) : nineR k (n + 1) v = nineR k n (ldiv (w64 (v * k)) 1000000) := rfl
noncomputable def nineA (T : PS) (E : Int → Int) (R : PS) (m : Int) : Int := if 1 ≤ m ∧ m ≤ 99 then l2i (nineR (w64 (1000000 - ldiv (chanceNowS T E R) 1000000)) m.toNat 1000000) else -1
section PTHINK
variable {g : PG} {d : Nat} {Q : Int → PS → Prop}
abbrev thinkL : List Int := rowL 59 ++ [68, 69, 84, 85]
theorem s_thinkC {k v x : Int} {E : Int → Int} {R T T1 T2 σ : PS} (hR : RowC 43 R σ) (ok : RSok R) (hd : R 0 2 ≤ 9999) (hA : TxtA 13 T T1 T2 E σ) (okT : TxtOK oknL T) (ok1 : TxtOK oknR T1) (ok2 : TxtOK oknR T2) (hk : 1 ≤ k ∧ k ≤ 2) (hv : 1 ≤ v) (hx : 0 ≤ x ∧ x ≤ 99) (w : ∀ σ', eqx thinkL σ σ' → RowC 59 (thinkS T (ruleT T1 T2 k) E R v x) σ' → Q 0 σ') : XX g true (d + 5) P_X11_think 0 [(2, 0), (0, k), (0, v), (0, x), (9, 0)] [] 136 σ 136 Q := by
  have key : ∀ (n : Nat) (i : Int) (R1 σ1 : PS), 0 ≤ i → i + n = x → eqx thinkL σ σ1 → RSok R1 → R1 0 2 + n ≤ 20000 → RowC 59 R1 σ1 → daysS T (ruleT T1 T2 k) E n R1 = thinkS T (ruleT T1 T2 k) E R v x → XX g true (d + 5) P_X11_think 24 [(2, 0), (0, k), (9, 0), (0, x), (0, i)] [] 136 σ1 136 Q := by
    intro n
    induction n with
    | zero =>
      intro i R1 σ1 hi hn hxx okk hdd hR1 hf
      refine B_X11_think_24 ⟨fun _ => w σ1 hxx ?_, fun h => by omega⟩
      rw [← hf]
      exact hR1
    | succ n ih =>
      intro i R1 σ1 hi hn hxx okk hdd hR1 hf
      have hA1 : TxtA 13 T T1 T2 E σ1 := hA.x hxx fun a a1 a2 z => by
        rcases List.mem_append.mp z with z | z
        · have := mem_rowL.mp z; omega
        · simp only [List.mem_cons, List.not_mem_nil, or_false] at z; omega
      obtain ⟨b1, b2, b3⟩ := dayS_ok (T := T) (Tr := ruleT T1 T2 k) (W := E) okk (by omega)
      refine B_X11_think_24 ⟨fun h => by omega, fun _ => ?_⟩
      have fin : ∀ qr, LinAt qr → TxtC qr (ruleT T1 T2 k) σ1 → XX g true (d + 4) P_X2_passDay 0 [(2, 83), (2, 59), (2, 13), (2, qr), (9, 0)] [] 136 σ1 136 (fun _ σ3 => (XX g true (d + 5) P_X11_think 24 [(2, 0), (0, k), (9, 0), (0, x), (0, w32 (i + 1))] [] 136 σ3 136 Q)) := by
        intro qr hqr hTr
        have okr : TxtOK oknR (ruleT T1 T2 k) := by unfold ruleT; split <;> assumption
        refine s_passDay (by unfold RowAt; omega) hR1 okk (by omega) (by unfold TxtAt; omega) hA1.1 okT hqr hTr okr hA1.2.2.2 fun σ2 hx2 hR2 => ?_
        rw [w32_of (by omega) (by omega)]
        refine ih (i + 1) (dayS T (ruleT T1 T2 k) E R1) σ2 (by omega) (by omega) (hxx.tr hx2) b1 (by omega) hR2 ?_
        rw [← hf]
        rfl
      refine B_X9_lines_0 (by unfold TxtAt; omega) ⟨fun h => ⟨fun h1 => ⟨by unfold LinAt; omega, fin 22 (by unfold LinAt; omega) ?_⟩, fun h1 => ⟨by unfold LinAt; omega, fin 18 (by unfold LinAt; omega) ?_⟩⟩, fun h => by omega⟩
      · unfold ruleT; rw [if_neg h1]; exact hA1.2.2.1
      · unfold ruleT; rw [if_pos h1]; exact hA1.2.1
  refine B_X11_think_0 (s_copy59_43 hR fun σ1 hx1 hR1 => ?_)
  refine key x.toNat 0 (everyS R v) _ (by omega) (by omega) ?_ (everyS_ok ok hv) ?_ ?_ rfl
  · exact (hx1.mono fun a ha => List.mem_append_left _ ha).su (List.mem_append_left _ (mem_rowL.mpr (by omega)))
  · show su R 9 3 v 0 2 + _ ≤ _
    rw [su_ne (Or.inl (by decide))]
    omega
  · exact hR1.ar (k := 9) (o := 7) (by omega)
theorem s_thoughtC {k v x wh : Int} {E : Int → Int} {R T T1 T2 σ : PS} (hR : RowC 43 R σ) (ok : RSok R) (hd : R 0 2 ≤ 9999) (hA : TxtA 13 T T1 T2 E σ) (okT : TxtOK oknL T) (ok1 : TxtOK oknR T1) (ok2 : TxtOK oknR T2) (w : ∀ σ', eqx thinkL σ σ' → Q (thoughtA T T1 T2 E R k v x wh) σ') : XX g true (d + 6) P_X11_thought 0 [(2, 0), (0, k), (0, v), (0, x), (0, wh)] [] 136 σ 136 Q := by
  have bad : ¬ ((1 ≤ k ∧ k ≤ 2) ∧ (1 ≤ v ∧ v ≤ 99) ∧ (1 ≤ x ∧ x ≤ 99) ∧ (0 ≤ wh ∧ wh ≤ 2)) → Q (-1) σ := fun h => by
    have := w σ eqx.rf
    unfold thoughtA at this
    rw [if_neg h] at this
    exact this
  refine B_X11_thought_0 ⟨fun h => bad (by omega), fun h => ⟨fun h1 => bad (by omega), fun h1 => B_X11_isEvery_0 ⟨fun h2 => ⟨fun _ => bad (by omega), fun z => absurd rfl z⟩, fun h2 => ⟨fun h3 => ⟨fun _ => bad (by omega), fun z => absurd rfl z⟩, fun h3 => ⟨fun z => absurd z (by decide), fun _ => ⟨fun h4 => bad (by omega), fun h4 => ⟨fun h5 => ⟨fun h6 => bad (by omega), fun h6 => ⟨fun h7 => ?_, fun h7 => bad (by omega)⟩⟩, fun h5 => bad (by omega)⟩⟩⟩⟩⟩⟩⟩
  unfold thoughtA at w
  rw [if_pos (by omega)] at w
  refine s_thinkC hR ok hd hA okT ok1 ok2 ⟨h, h1⟩ h2 ⟨by omega, h5⟩ fun σ1 hx hR1 => ?_
  have hR0 : RowC 43 R σ1 := hR.x hx fun a a1 a2 z => by
    rcases List.mem_append.mp z with z | z
    · have := mem_rowL.mp z; omega
    · simp only [List.mem_cons, List.not_mem_nil, or_false] at z; omega
  have h9 := w σ1 hx
  rw [hR0.1.2.2.2.1, hR0.1.2.2.2.2.1, hR0.1.2.2.2.2.2.1, hR1.1.2.2.2.1, hR1.1.2.2.2.2.1, hR1.1.2.2.2.2.2.1]
  refine ⟨fun z => ⟨fun z1 => ?_, fun z1 => ?_⟩, fun z => ?_⟩
  · rw [if_neg z, if_neg z1] at h9; exact h9
  · rw [if_neg z, if_pos z1] at h9; exact h9
  · rw [if_pos z] at h9; exact h9
theorem s_cheapestC {x : Int} {E : Int → Int} {R T T1 T2 σ : PS} (hR : RowC 43 R σ) (ok : RSok R) (hd : R 0 2 ≤ 9999) (hA : TxtA 13 T T1 T2 E σ) (okT : TxtOK oknL T) (ok1 : TxtOK oknR T1) (ok2 : TxtOK oknR T2) (hx : 1 ≤ x ∧ x ≤ 99) (w : ∀ σ', eqx thinkL σ σ' → Q (cheapS (fun v => thCost T T1 E R v x)) σ') : XX g true (d + 6) P_X11_cheapestEvery 0 [(2, 0), (0, x), (9, 0), (9, 0), (9, 0), (9, 0)] [] 136 σ 136 Q := by
  have hout : ∀ a, 43 ≤ a → a ≤ 50 → a ∉ thinkL := fun a a1 a2 z => by
    rcases List.mem_append.mp z with z | z
    · have := mem_rowL.mp z; omega
    · simp only [List.mem_cons, List.not_mem_nil, or_false] at z; omega
  have hout2 : ∀ a, 14 ≤ a → a ≤ 27 → a ∉ thinkL := fun a a1 a2 z => by
    rcases List.mem_append.mp z with z | z
    · have := mem_rowL.mp z; omega
    · simp only [List.mem_cons, List.not_mem_nil, or_false] at z; omega
  have er : ruleT T1 T2 1 = T1 := rfl
  rw [← cheap_same] at w
  have key : ∀ (n : Nat) (best least : Int) (σ1 : PS), n ≤ 8 → eqx thinkL σ σ1 → (∀ σ', eqx thinkL σ σ' → Q (cheapD (fun v => thCost T T1 E R v x) n best least) σ') → XX g true (d + 6) P_X11_cheapestEvery 9 [(2, 0), (0, x), (0, best), (0, least), (0, (n : Int)), (9, 0)] [] 136 σ1 136 Q := by
    intro n
    induction n with
    | zero =>
      intro best least σ1 hn hx1 w
      exact B_X11_cheapestEvery_9 ⟨fun _ => w σ1 hx1, fun h => by omega⟩
    | succ n ih =>
      intro best least σ1 hn hx1 w
      have hR1 : RowC 43 R σ1 := hR.x hx1 fun a a1 a2 => hout a a1 (by omega)
      have hA1 : TxtA 13 T T1 T2 E σ1 := hA.x hx1 fun a a1 a2 => hout2 a (by omega) (by omega)
      rw [cheapD_succ] at w
      refine B_X11_cheapestEvery_9 ⟨fun h => by omega, fun _ => ?_⟩
      refine s_thinkC hR1 ok hd hA1 okT ok1 ok2 ⟨by omega, by omega⟩ (by omega) ⟨by omega, by omega⟩ fun σ2 hx2 hR2 y3 h3 => ?_
      have hR3 : RowC 43 R σ2 := hR1.x hx2 fun a a1 a2 => hout a a1 (by omega)
      rw [hR3.1.2.2.2.2.1, hR2.1.2.2.2.2.1, er] at h3
      have e3 : y3 = thCost T T1 E R ((n : Int) + 1) x := h3
      have e4 : w32 (((n + 1 : Nat) : Int) + (-1)) = (n : Int) := by rw [w32_of (by omega) (by omega)]; omega
      rw [e4]
      rw [← e3] at w
      refine ⟨fun z => by omega, fun _ => ⟨fun z => ?_, fun z => ?_⟩⟩
      · rw [if_neg (by omega)] at w
        exact ih best least σ2 (by omega) (hx1.tr hx2) w
      · rw [if_pos z] at w
        exact ih _ y3 σ2 (by omega) (hx1.tr hx2) w
  refine B_X11_cheapestEvery_0 (B_X11_cheapestEvery_9 ⟨fun h => by omega, fun _ => ?_⟩)
  refine s_thinkC hR ok hd hA okT ok1 ok2 ⟨by omega, by omega⟩ (by omega) ⟨by omega, by omega⟩ fun σ2 hx2 hR2 y3 h3 => ?_
  have hR3 : RowC 43 R σ2 := hR.x hx2 fun a a1 a2 => hout a a1 (by omega)
  rw [hR3.1.2.2.2.2.1, hR2.1.2.2.2.2.1, er] at h3
  have e3 : y3 = thCost T T1 E R 9 x := h3
  refine ⟨fun _ => ?_, fun z => absurd rfl z⟩
  rw [e3]
  exact key 8 9 _ σ2 (by omega) hx2 w
theorem s_cheaperC {x : Int} {E : Int → Int} {R T T1 T2 σ : PS} (hR : RowC 43 R σ) (ok : RSok R) (hd : R 0 2 ≤ 9999) (hA : TxtA 13 T T1 T2 E σ) (okT : TxtOK oknL T) (ok1 : TxtOK oknR T1) (ok2 : TxtOK oknR T2) (hx : 1 ≤ x ∧ x ≤ 99) (w : ∀ σ', eqx thinkL σ σ' → Q (if thCost T T2 E R (R 9 3) x < thCost T T1 E R (R 9 3) x then 2 else 1) σ') : XX g true (d + 6) P_X11_cheaperRule 0 [(2, 0), (0, x), (9, 0), (9, 0)] [] 136 σ 136 Q := by
  have hout : ∀ a, 43 ≤ a → a ≤ 50 → a ∉ thinkL := fun a a1 a2 z => by
    rcases List.mem_append.mp z with z | z
    · have := mem_rowL.mp z; omega
    · simp only [List.mem_cons, List.not_mem_nil, or_false] at z; omega
  have hout2 : ∀ a, 14 ≤ a → a ≤ 27 → a ∉ thinkL := fun a a1 a2 z => by
    rcases List.mem_append.mp z with z | z
    · have := mem_rowL.mp z; omega
    · simp only [List.mem_cons, List.not_mem_nil, or_false] at z; omega
  have er1 : ruleT T1 T2 1 = T1 := rfl
  have er2 : ruleT T1 T2 2 = T2 := rfl
  have k9 := ok.2.2.2.2.2.1
  have e50 : σ 50 3 = R 9 3 := hR.2.2.2.2.2 3 (by omega) (by omega)
  refine B_X11_cheaperRule_0 ?_
  rw [e50]
  refine s_thinkC hR ok hd hA okT ok1 ok2 ⟨by omega, by omega⟩ k9 ⟨by omega, by omega⟩ fun σ1 hx1 hR1 y3 h3 => ?_
  have hR2 : RowC 43 R σ1 := hR.x hx1 fun a a1 a2 => hout a a1 (by omega)
  have hA1 : TxtA 13 T T1 T2 E σ1 := hA.x hx1 fun a a1 a2 => hout2 a (by omega) (by omega)
  rw [hR2.1.2.2.2.2.1, hR1.1.2.2.2.2.1, er1] at h3
  have e3 : y3 = thCost T T1 E R (R 9 3) x := h3
  have e51 : σ1 50 3 = R 9 3 := hR2.2.2.2.2.2 3 (by omega) (by omega)
  rw [e51]
  refine s_thinkC hR2 ok hd hA1 okT ok1 ok2 ⟨by omega, by omega⟩ k9 ⟨by omega, by omega⟩ fun σ4 hx4 hR4 y6 h6 => ?_
  have hR5 : RowC 43 R σ4 := hR2.x hx4 fun a a1 a2 => hout a a1 (by omega)
  rw [hR5.1.2.2.2.2.1, hR4.1.2.2.2.2.1, er2] at h6
  have e6 : y6 = thCost T T2 E R (R 9 3) x := h6
  have h9 := w σ4 (hx1.tr hx4)
  rw [← e3, ← e6] at h9
  refine ⟨fun z => ?_, fun z => ?_⟩
  · rw [if_neg (by omega)] at h9; exact h9
  · rw [if_pos z] at h9; exact h9
theorem s_oftenC {x wh : Int} {E : Int → Int} {R T T1 T2 σ : PS} (hR : RowC 43 R σ) (ok : RSok R) (hd : R 0 2 ≤ 9999) (hA : TxtA 13 T T1 T2 E σ) (okT : TxtOK oknL T) (ok1 : TxtOK oknR T1) (ok2 : TxtOK oknR T2) (w : ∀ σ', eqx thinkL σ σ' → Q (oftenA T T1 T2 E R x wh) σ') : XX g true (d + 7) P_X11_often 0 [(2, 0), (0, x), (0, wh)] [] 136 σ 136 Q := by
  have bad : ¬ ((1 ≤ x ∧ x ≤ 99) ∧ (0 ≤ wh ∧ wh ≤ 1)) → Q (-1) σ := fun h => by
    have := w σ eqx.rf
    unfold oftenA at this
    rw [if_neg h] at this
    exact this
  refine B_X11_often_0 ⟨fun h => bad (by omega), fun h => ⟨fun h1 => bad (by omega), fun h1 => ⟨fun h2 => bad (by omega), fun h2 => ⟨fun h3 => ⟨fun h4 => ?_, fun h4 => ?_⟩, fun h3 => bad (by omega)⟩⟩⟩⟩
  · unfold oftenA at w
    rw [if_pos (by omega), if_neg h4] at w
    exact s_cheaperC hR ok hd hA okT ok1 ok2 ⟨h, h1⟩ w
  · unfold oftenA at w
    rw [if_pos (by omega), if_pos h4] at w
    exact s_cheapestC hR ok hd hA okT ok1 ok2 ⟨h, h1⟩ w
theorem s_nineC {m : Int} {E : Int → Int} {R T T1 T2 σ : PS} (hR : RowC 43 R σ) (ok : RSok R) (hA : TxtA 13 T T1 T2 E σ) (okT : TxtOK oknL T) (hO : OddAt σ) (hH : HoldAt σ) (w : ∀ σ', eqx [68, 69, 70, 71, 72, 73] σ σ' → OddAt σ' → HoldAt σ' → Q (nineA T E R m) σ') : XX g true (d + 5) P_X11_nine 0 [(2, 0), (0, m), (9, 0), (9, 0), (9, 0), (9, 0), (9, 0)] [] 136 σ 136 Q := by
  have bad : ¬ (1 ≤ m ∧ m ≤ 99) → Q (-1) σ := fun h => by
    have := w σ eqx.rf hO hH
    unfold nineA at this
    rw [if_neg h] at this
    exact this
  refine B_X11_nine_0 ⟨fun h => bad (by omega), fun h => ⟨fun h1 => ?_, fun h1 => bad (by omega)⟩⟩
  unfold nineA at w
  rw [if_pos ⟨h, h1⟩] at w
  refine s_ofNow (by unfold RowAt; omega) hR ok (by unfold TxtAt; omega) hA.1 okT hA.2.2.2 hO hH fun σ1 hx hO1 hH1 y3 h3 => ?_
  have h9 := w σ1 hx hO1 hH1
  rw [← h3] at h9
  clear h3 w
  have key : ∀ (n : Nat) (i v : Int), 0 ≤ i → i + n = m → Q (l2i (nineR y3 n v)) σ1 → XX g true (d + 5) P_X11_nine 45 [(9, 0), (0, m), (1, y3), (9, 0), (1, v), (9, 0), (0, i)] [] 136 σ1 136 Q := by
    intro n
    induction n with
    | zero =>
      intro i v hi hn h
      exact B_X11_nine_45 ⟨fun _ => h, fun z => by omega⟩
    | succ n ih =>
      intro i v hi hn h
      rw [nineR_succ] at h
      refine B_X11_nine_45 ⟨fun z => by omega, fun _ y1 e1 => ?_⟩
      rw [← e1] at h
      rw [w32_of (by omega) (by omega)]
      exact ih (i + 1) y1 (by omega) (by omega) h
  exact key m.toNat 0 1000000 (by omega) (by omega) h9
end PTHINK
