/-! THE IMAGE, the model -/
def plc (i : Int) : Int := if i < 3 then 100 else if i < 147 then 101 + (i - 3) % 3 else if i < 3147 then 104 + (i - 147) % 2 else if i = 3147 then 88 else if i < 3172 then 107 + (i - 3148) % 3 else if i < 3236 then 110 else 95 + (i - 3236) % 2
def plj (i : Int) : Int := if i < 3 then i else if i < 147 then (i - 3) / 3 else if i < 3147 then (i - 147) / 2 else if i = 3147 then 40 else if i < 3172 then (i - 3148) / 3 else if i < 3236 then i - 3172 else (i - 3236) / 2
theorem pl_cases (i : Int) : (i < 3 ∧ plc i = 100 ∧ plj i = i) ∨ (3 ≤ i ∧ i < 147 ∧ plc i = 101 + (i - 3) % 3 ∧ plj i = (i - 3) / 3) ∨ (147 ≤ i ∧ i < 3147 ∧ plc i = 104 + (i - 147) % 2 ∧ plj i = (i - 147) / 2) ∨ (i = 3147 ∧ plc i = 88 ∧ plj i = 40) ∨ (3148 ≤ i ∧ i < 3172 ∧ plc i = 107 + (i - 3148) % 3 ∧ plj i = (i - 3148) / 3) ∨ (3172 ≤ i ∧ i < 3236 ∧ plc i = 110 ∧ plj i = i - 3172) ∨ (3236 ≤ i ∧ plc i = 95 + (i - 3236) % 2 ∧ plj i = (i - 3236) / 2) := by
  by_cases h1 : i < 3
  · exact Or.inl ⟨h1, by unfold plc; rw [if_pos h1], by unfold plj; rw [if_pos h1]⟩
  by_cases h2 : i < 147
  · exact Or.inr (Or.inl ⟨by omega, h2, by unfold plc; rw [if_neg h1, if_pos h2], by unfold plj; rw [if_neg h1, if_pos h2]⟩)
  by_cases h3 : i < 3147
  · exact Or.inr (Or.inr (Or.inl ⟨by omega, h3, by unfold plc; rw [if_neg h1, if_neg h2, if_pos h3], by unfold plj; rw [if_neg h1, if_neg h2, if_pos h3]⟩))
  by_cases h4 : i = 3147
  · exact Or.inr (Or.inr (Or.inr (Or.inl ⟨h4, by unfold plc; rw [if_neg h1, if_neg h2, if_neg h3, if_pos h4], by unfold plj; rw [if_neg h1, if_neg h2, if_neg h3, if_pos h4]⟩)))
  by_cases h5 : i < 3172
  · exact Or.inr (Or.inr (Or.inr (Or.inr (Or.inl ⟨by omega, h5, by unfold plc; rw [if_neg h1, if_neg h2, if_neg h3, if_neg h4, if_pos h5], by unfold plj; rw [if_neg h1, if_neg h2, if_neg h3, if_neg h4, if_pos h5]⟩))))
  by_cases h6 : i < 3236
  · exact Or.inr (Or.inr (Or.inr (Or.inr (Or.inr (Or.inl ⟨by omega, h6, by unfold plc; rw [if_neg h1, if_neg h2, if_neg h3, if_neg h4, if_neg h5, if_pos h6], by unfold plj; rw [if_neg h1, if_neg h2, if_neg h3, if_neg h4, if_neg h5, if_pos h6]⟩)))))
  · exact Or.inr (Or.inr (Or.inr (Or.inr (Or.inr (Or.inr ⟨by omega, by unfold plc; rw [if_neg h1, if_neg h2, if_neg h3, if_neg h4, if_neg h5, if_neg h6], by unfold plj; rw [if_neg h1, if_neg h2, if_neg h3, if_neg h4, if_neg h5, if_neg h6]⟩)))))
theorem pl_inj {i k : Int} (h0 : 0 ≤ k) (h1 : k < i) (h : plc k = plc i) : plj k ≠ plj i := by
  rcases pl_cases i with a | a | a | a | a | a | a <;> rcases pl_cases k with b | b | b | b | b | b | b <;> omega
theorem pl_eq {i c j : Int} (h : (i < 3 ∧ c = 100 ∧ j = i) ∨ (3 ≤ i ∧ i < 147 ∧ c = 101 + (i - 3) % 3 ∧ j = (i - 3) / 3) ∨ (147 ≤ i ∧ i < 3147 ∧ c = 104 + (i - 147) % 2 ∧ j = (i - 147) / 2) ∨ (i = 3147 ∧ c = 88 ∧ j = 40) ∨ (3148 ≤ i ∧ i < 3172 ∧ c = 107 + (i - 3148) % 3 ∧ j = (i - 3148) / 3) ∨ (3172 ≤ i ∧ i < 3236 ∧ c = 110 ∧ j = i - 3172) ∨ (3236 ≤ i ∧ c = 95 + (i - 3236) % 2 ∧ j = (i - 3236) / 2)) : plc i = c ∧ plj i = j := by
  rcases pl_cases i with a | a | a | a | a | a | a <;> omega
abbrev ksL : List Int := [95, 96, 100, 101, 102, 103, 104, 105, 107, 108, 109, 110]
theorem pl_in {i : Int} : (plc i ∈ ksL ∧ plc i ≠ 88) ∨ (plc i = 88 ∧ plj i = 40) := by
  simp only [List.mem_cons, List.not_mem_nil, or_false]
  rcases pl_cases i with a | a | a | a | a | a | a <;> omega
def KpS (σ0 : PS) (put : Bool) (i : Int) (σ1 : PS) : Prop := σ1 88 78 = i ∧ (∀ k, 0 ≤ k → k < i → σ1 135 k = σ1 (plc k) (plj k)) ∧ (put = true → σ1 88 69 = 1 ∧ eqm [135] [78] σ0 σ1) ∧ (put = false → σ1 88 69 = 0 ∧ eqm ksL [40, 78] σ0 σ1)
section PKEPT
variable {g : PG} {d : Nat} {Q : Int → PS → Prop}
theorem s_keptS {σ0 σ1 : PS} {put : Bool} {i c j v : Int} (h : KpS σ0 put i σ1) (h0 : 0 ≤ i) (h1 : i < 3248) (hp : plc i = c ∧ plj i = j) (hv : σ1 c j = v) (w : ∀ (r : Int) (σ2 σ' : PS), σ' = su σ2 c j r → (∀ a b, a ≠ c → σ2 a b = σ' a b) → KpS σ0 put (i + 1) σ' → Q r σ2) : XX g true d P_X12_keptText 0 [(2, 88), (0, v)] [] 136 σ1 136 Q := by
  obtain ⟨a1, a2, a3, a4⟩ := h
  obtain ⟨rfl, rfl⟩ := hp
  have e : w32 (σ1 88 78 + 1) = i + 1 := by rw [a1, w32_of (by omega) (by omega)]
  have e2 : w32 (i + 1 - 1) = i := by rw [w32_of (by omega) (by omega)]; omega
  have hin := pl_in (i := i)
  simp only [List.mem_cons, List.not_mem_nil, or_false] at hin
  have n135 : ∀ k, plc k ≠ 135 := fun k => by
    have := pl_in (i := k)
    simp only [List.mem_cons, List.not_mem_nil, or_false] at this
    omega
  have n88 : ∀ k, plc k ≠ 88 ∨ plj k ≠ 78 := fun k => by
    have := pl_in (i := k)
    simp only [List.mem_cons, List.not_mem_nil, or_false] at this
    omega
  have m88 : plc i ≠ 88 ∨ plj i ≠ 69 := by omega
  have o88 := n88 i
  have o135 := n135 i
  refine B_X12_keptText_0 ⟨fun hq => ?_, fun hq => ?_⟩
  · have hput : put = true := by
      cases put with
      | true => rfl
      | false => exact absurd (a4 rfl).1 hq
    obtain ⟨b1, b2⟩ := a3 hput
    rw [e, e2]
    refine ⟨⟨h0, by omega⟩, w v _ _ rfl (fun a b hab => (su_ne (Or.inl hab)).symm) ⟨?_, fun k k0 k1 => ?_, fun _ => ⟨?_, ?_⟩, fun z => by rw [hput] at z; cases z⟩⟩
    · rw [su_ne (by omega), su_ne (Or.inl (by decide)), su_eq]
    · by_cases z : k = i
      · subst z
        rw [su_ne (Or.inl (by omega)), su_eq, su_eq]
      · have hne := pl_inj k0 (show k < i by omega)
        have hne2 : plc k ≠ plc i ∨ plj k ≠ plj i := by
          by_cases q : plc k = plc i
          · exact Or.inr (hne q)
          · exact Or.inl q
        rw [su_ne (Or.inl (by omega)), su_ne (Or.inr z), su_ne (Or.inl (by decide)), su_ne hne2, su_ne (Or.inl (n135 k)), su_ne (n88 k)]
        exact a2 k k0 (by omega)
    · rw [su_ne (by omega), su_ne (Or.inl (by decide)), su_ne (Or.inr (by decide))]
      exact b1
    · rw [su_id]
      · exact (b2.s8 (by decide)).sa (by decide) (by decide)
      · rw [su_ne (Or.inl o135), su_ne (by omega)]
        exact hv
  · have hput : put = false := by
      cases put with
      | false => rfl
      | true => exact absurd (a3 rfl).1 (by omega)
    obtain ⟨b1, b2⟩ := a4 hput
    rw [e, e2]
    refine ⟨⟨h0, by omega⟩, w _ _ _ rfl (fun a b hab => (su_ne (Or.inl hab)).symm) ⟨?_, fun k k0 k1 => ?_, fun z => (by rw [hput] at z; cases z), fun _ => ⟨?_, ?_⟩⟩⟩
    · rw [su_ne (by omega), su_eq]
    · by_cases z : k = i
      · subst z
        rw [su_ne (Or.inl (by omega)), su_ne (Or.inl (by decide)), su_eq]
      · have hne := pl_inj k0 (show k < i by omega)
        have hne2 : plc k ≠ plc i ∨ plj k ≠ plj i := by
          by_cases q : plc k = plc i
          · exact Or.inr (hne q)
          · exact Or.inl q
        rw [su_ne (Or.inl (by omega)), su_ne (Or.inl (by decide)), su_ne hne2, su_ne (n88 k)]
        exact a2 k k0 (by omega)
    · rw [su_ne (by omega), su_ne (Or.inr (by decide))]
      exact b1
    · have hb : eqm ksL [40, 78] σ0 (su σ1 88 78 (i + 1)) := b2.s8 (by decide)
      rcases hin with q | q
      · exact hb.sa (by simp only [List.mem_cons, List.not_mem_nil, or_false]; exact q.1) q.2
      · rw [q.1, q.2]
        exact hb.s8 (by decide)
theorem s_kt6 {put : Bool} {σ0 : PS} (w : ∀ σ', KpS σ0 put 3248 σ' → Q 0 σ') : ∀ (n : Nat) (x : Int) (σ1 : PS), 0 ≤ x → x + n = 6 → KpS σ0 put (3236 + 2 * x) σ1 → XX g true (d + 1) P_X12_keepsTexts 249 [(2, 88), (0, x)] [] 136 σ1 136 Q := by
  intro n
  induction n with
  | zero =>
    intro x σ1 hx hn h
    exact B_X12_keepsTexts_249 ⟨fun _ => w σ1 (by rw [show (3248 : Int) = 3236 + 2 * x by omega]; exact h), fun z => by omega⟩
  | succ n ih =>
    intro x σ1 hx hn h
    refine B_X12_keepsTexts_249 ⟨fun z => by omega, fun _ => ⟨by omega, ?_⟩⟩
    refine s_keptS h (by omega) (by omega) (pl_eq (by omega)) rfl fun r2 σ2 τ2 e2 o2 h2 => ?_
    rw [← e2, o2 96 x (by decide)]
    refine s_keptS h2 (by omega) (by omega) (pl_eq (by omega)) rfl fun r3 σ3 τ3 e3 o3 h3 => ?_
    rw [← e3, w32_of (by omega) (by omega)]
    exact ih (x + 1) τ3 (by omega) (by omega) (by rw [show 3236 + 2 * (x + 1) = 3236 + 2 * x + 1 + 1 by omega]; exact h3)
theorem s_kt5 {put : Bool} {σ0 : PS} (w : ∀ σ', KpS σ0 put 3248 σ' → Q 0 σ') : ∀ (n : Nat) (x : Int) (σ1 : PS), 0 ≤ x → x + n = 64 → KpS σ0 put (3172 + x) σ1 → XX g true (d + 1) P_X12_keepsTexts 219 [(2, 88), (0, x)] [] 136 σ1 136 Q := by
  intro n
  induction n with
  | zero =>
    intro x σ1 hx hn h
    refine B_X12_keepsTexts_219 ⟨fun _ => s_kt6 w 6 0 σ1 (by decide) (by decide) (by rw [show (3236 : Int) + 2 * 0 = 3172 + x by omega]; exact h), fun z => by omega⟩
  | succ n ih =>
    intro x σ1 hx hn h
    refine B_X12_keepsTexts_219 ⟨fun z => by omega, fun _ => ⟨by omega, ?_⟩⟩
    refine s_keptS h (by omega) (by omega) (pl_eq (by omega)) rfl fun r2 σ2 τ2 e2 o2 h2 => ?_
    rw [← e2, w32_of (by omega) (by omega)]
    exact ih (x + 1) τ2 (by omega) (by omega) (by rw [show 3172 + (x + 1) = 3172 + x + 1 by omega]; exact h2)
theorem s_kt4 {put : Bool} {σ0 : PS} (w : ∀ σ', KpS σ0 put 3248 σ' → Q 0 σ') : ∀ (n : Nat) (x : Int) (σ1 : PS), 0 ≤ x → x + n = 8 → KpS σ0 put (3148 + 3 * x) σ1 → XX g true (d + 1) P_X12_keepsTexts 157 [(2, 88), (0, x)] [] 136 σ1 136 Q := by
  intro n
  induction n with
  | zero =>
    intro x σ1 hx hn h
    refine B_X12_keepsTexts_157 ⟨fun _ => s_kt5 w 64 0 σ1 (by decide) (by decide) (by rw [show (3172 : Int) + 0 = 3148 + 3 * x by omega]; exact h), fun z => by omega⟩
  | succ n ih =>
    intro x σ1 hx hn h
    refine B_X12_keepsTexts_157 ⟨fun z => by omega, fun _ => ⟨by omega, ?_⟩⟩
    refine s_keptS h (by omega) (by omega) (pl_eq (by omega)) rfl fun r2 σ2 τ2 e2 o2 h2 => ?_
    rw [← e2, o2 108 x (by decide)]
    refine s_keptS h2 (by omega) (by omega) (pl_eq (by omega)) rfl fun r3 σ3 τ3 e3 o3 h3 => ?_
    rw [← e3, o3 109 x (by decide)]
    refine s_keptS h3 (by omega) (by omega) (pl_eq (by omega)) rfl fun r4 σ4 τ4 e4 o4 h4 => ?_
    rw [← e4, w32_of (by omega) (by omega)]
    exact ih (x + 1) τ4 (by omega) (by omega) (by rw [show 3148 + 3 * (x + 1) = 3148 + 3 * x + 1 + 1 + 1 by omega]; exact h4)
theorem s_kt3 {put : Bool} {σ0 : PS} (w : ∀ σ', KpS σ0 put 3248 σ' → Q 0 σ') : ∀ (n : Nat) (x : Int) (σ1 : PS), 0 ≤ x → x + n = 1500 → KpS σ0 put (147 + 2 * x) σ1 → XX g true (d + 1) P_X12_keepsTexts 98 [(2, 88), (0, x)] [] 136 σ1 136 Q := by
  intro n
  induction n with
  | zero =>
    intro x σ1 hx hn h
    have h' : KpS σ0 put 3147 σ1 := by rw [show (3147 : Int) = 147 + 2 * x by omega]; exact h
    refine B_X12_keepsTexts_98 ⟨fun _ => ?_, fun z => by omega⟩
    refine s_keptS h' (by decide) (by decide) (pl_eq (by omega)) rfl fun r2 σ2 τ2 e2 o2 h2 => ?_
    rw [← e2]
    exact s_kt4 w 8 0 τ2 (by decide) (by decide) h2
  | succ n ih =>
    intro x σ1 hx hn h
    refine B_X12_keepsTexts_98 ⟨fun z => by omega, fun _ => ⟨by omega, ?_⟩⟩
    refine s_keptS h (by omega) (by omega) (pl_eq (by omega)) rfl fun r2 σ2 τ2 e2 o2 h2 => ?_
    rw [← e2, o2 105 x (by decide)]
    refine s_keptS h2 (by omega) (by omega) (pl_eq (by omega)) rfl fun r3 σ3 τ3 e3 o3 h3 => ?_
    rw [← e3, w32_of (by omega) (by omega)]
    exact ih (x + 1) τ3 (by omega) (by omega) (by rw [show 147 + 2 * (x + 1) = 147 + 2 * x + 1 + 1 by omega]; exact h3)
theorem s_kt2 {put : Bool} {σ0 : PS} (w : ∀ σ', KpS σ0 put 3248 σ' → Q 0 σ') : ∀ (n : Nat) (x : Int) (σ1 : PS), 0 ≤ x → x + n = 48 → KpS σ0 put (3 + 3 * x) σ1 → XX g true (d + 1) P_X12_keepsTexts 36 [(2, 88), (0, x)] [] 136 σ1 136 Q := by
  intro n
  induction n with
  | zero =>
    intro x σ1 hx hn h
    refine B_X12_keepsTexts_36 ⟨fun _ => s_kt3 w 1500 0 σ1 (by decide) (by decide) (by rw [show (147 : Int) + 2 * 0 = 3 + 3 * x by omega]; exact h), fun z => by omega⟩
  | succ n ih =>
    intro x σ1 hx hn h
    refine B_X12_keepsTexts_36 ⟨fun z => by omega, fun _ => ⟨by omega, ?_⟩⟩
    refine s_keptS h (by omega) (by omega) (pl_eq (by omega)) rfl fun r2 σ2 τ2 e2 o2 h2 => ?_
    rw [← e2, o2 102 x (by decide)]
    refine s_keptS h2 (by omega) (by omega) (pl_eq (by omega)) rfl fun r3 σ3 τ3 e3 o3 h3 => ?_
    rw [← e3, o3 103 x (by decide)]
    refine s_keptS h3 (by omega) (by omega) (pl_eq (by omega)) rfl fun r4 σ4 τ4 e4 o4 h4 => ?_
    rw [← e4, w32_of (by omega) (by omega)]
    exact ih (x + 1) τ4 (by omega) (by omega) (by rw [show 3 + 3 * (x + 1) = 3 + 3 * x + 1 + 1 + 1 by omega]; exact h4)
theorem s_kt1 {put : Bool} {σ0 : PS} (w : ∀ σ', KpS σ0 put 3248 σ' → Q 0 σ') : ∀ (n : Nat) (x : Int) (σ1 : PS), 0 ≤ x → x + n = 3 → KpS σ0 put x σ1 → XX g true (d + 1) P_X12_keepsTexts 7 [(2, 88), (0, x)] [] 136 σ1 136 Q := by
  intro n
  induction n with
  | zero =>
    intro x σ1 hx hn h
    refine B_X12_keepsTexts_7 ⟨fun _ => s_kt2 w 48 0 σ1 (by decide) (by decide) (by rw [show (3 : Int) + 3 * 0 = x by omega]; exact h), fun z => by omega⟩
  | succ n ih =>
    intro x σ1 hx hn h
    refine B_X12_keepsTexts_7 ⟨fun z => by omega, fun _ => ⟨by omega, ?_⟩⟩
    refine s_keptS h (by omega) (by omega) (pl_eq (by omega)) rfl fun r2 σ2 τ2 e2 o2 h2 => ?_
    rw [← e2, w32_of (by omega) (by omega)]
    exact ih (x + 1) τ2 (by omega) (by omega) h2
theorem s_keepsTexts {put : Bool} {σ0 : PS} (h69 : σ0 88 69 = if put = true then 1 else 0) (w : ∀ σ', KpS σ0 put 3248 σ' → Q 0 σ') : XX g true (d + 1) P_X12_keepsTexts 0 [(2, 88), (9, 0)] [] 136 σ0 136 Q := by
  refine B_X12_keepsTexts_0 (s_kt1 w 3 0 _ (by decide) (by decide) ⟨su_eq, fun k k0 k1 => by omega, fun z => ⟨?_, eqm.rf.s8 (by decide)⟩, fun z => ⟨?_, eqm.rf.s8 (by decide)⟩⟩)
  · rw [su_ne (Or.inr (by decide)), h69, if_pos z]
  · rw [su_ne (Or.inr (by decide)), h69, if_neg (by rw [z]; decide)]
end PKEPT
