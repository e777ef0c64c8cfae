/-! HOW LIKELY A ROW FAILS: the pure sum, place by place -/
abbrev OS : Type := Int × (Int → Int)
def addF (u : Int → Int) (p v : Int) : Int → Int := updF u p (w64 (u p + v))
/-- a share v that comes to the last places b -/
def shareS (E : Int → Int) (many v b : Int) (st : OS) : OS := if E b ≤ many then (w64 (st.1 + v), st.2) else (st.1, addF st.2 (b % 128) v)
def oddStep (E : Int → Int) (many c s v : Int) (st : OS) : OS := if v = 0 then st else shareS E many (w64 (v - ldiv (w64 (v * c)) 1000)) (2 * s) (shareS E many (ldiv (w64 (v * c)) 1000) (2 * s + 1) st)
def oddR (E : Int → Int) (many c : Int) (W : Int → Int) : Nat → Int → OS → OS
  | 0, _, st => st
  | n + 1, s, st => oddR E many c W n (s + 1) (oddStep E many c s (W s) st)
def oddsR (E : Int → Int) (ch : Int → Int) : Nat → Int → OS → OS
  | 0, _, st => st
  | n + 1, p, st => oddsR E ch n (p + 1) (oddR E (imin (p + 1) 8) (ch p) st.2 128 0 (st.1, fun _ => 0))
def odd0 : OS := (0, fun s => if s = 0 then 1000000000000 else 0)
def chanceF (E : Int → Int) (ch : Int → Int) (n : Nat) : Int := (oddsR E ch n 0 odd0).1
theorem oddR_succ (E : Int → Int) (many c : Int) (W : Int → Int) (n : Nat) (s : Int) (st : OS) : oddR E many c W (n + 1) s st = oddR E many c W n (s + 1) (oddStep E many c s (W s) st) := rfl
theorem oddsR_succ (E : Int → Int) (ch : Int → Int) (n : Nat) (p : Int) (st : OS) : oddsR E ch (n + 1) p st = oddsR E ch n (p + 1) (oddR E (imin (p + 1) 8) (ch p) st.2 128 0 (st.1, fun _ => 0)) := rfl
theorem updF_cm {u : Int → Int} {a b v w : Int} (h : a ≠ b) : updF (updF u a v) b w = updF (updF u b w) a v := by
  funext q
  unfold updF
  grind
theorem addF_cm {u : Int → Int} {a b v w : Int} (h : a ≠ b) : addF (addF u a v) b w = addF (addF u b w) a v := by
  funext q
  unfold addF updF
  grind
theorem share_cm {E : Int → Int} {many v v' b b' : Int} {st : OS} (h : b % 128 ≠ b' % 128) : shareS E many v b (shareS E many v' b' st) = shareS E many v' b' (shareS E many v b st) := by
  unfold shareS
  by_cases h1 : E b ≤ many
  · by_cases h2 : E b' ≤ many
    · simp only [if_pos h1, if_pos h2]
      congr 1
      unfold w64
      omega
    · simp only [if_pos h1, if_neg h2]
  · by_cases h2 : E b' ≤ many
    · simp only [if_neg h1, if_pos h2]
    · simp only [if_neg h1, if_neg h2]
      rw [addF_cm (fun e => h e.symm)]
theorem share_add {E : Int → Int} {many v b o a : Int} {nx : Int → Int} : shareS E many v b (w64 (o + a), nx) = (w64 (o + (shareS E many v b (a, nx)).1), (shareS E many v b (a, nx)).2) := by
  unfold shareS
  split
  · congr 1
    simp only
    unfold w64
    omega
  · rfl
theorem oddStep_add {E : Int → Int} {many c s v o a : Int} {nx : Int → Int} : oddStep E many c s v (w64 (o + a), nx) = (w64 (o + (oddStep E many c s v (a, nx)).1), (oddStep E many c s v (a, nx)).2) := by
  unfold oddStep
  split
  · rfl
  · rw [share_add, share_add]
theorem oddR_add {E : Int → Int} {many c : Int} {W : Int → Int} {o : Int} : ∀ {n : Nat} {s a : Int} {nx : Int → Int}, oddR E many c W n s (w64 (o + a), nx) = (w64 (o + (oddR E many c W n s (a, nx)).1), (oddR E many c W n s (a, nx)).2) := by
  intro n
  induction n with
  | zero => intro s a nx; rfl
  | succ n ih =>
    intro s a nx
    rw [oddR_succ, oddR_succ, oddStep_add, ih]
theorem oddR_add0 {E : Int → Int} {many c : Int} {W : Int → Int} {o : Int} {n : Nat} {s : Int} {nx : Int → Int} (ho : in64 o) : oddR E many c W n s (o, nx) = (w64 (o + (oddR E many c W n s (0, nx)).1), (oddR E many c W n s (0, nx)).2) := by
  have h := oddR_add (E := E) (many := many) (c := c) (W := W) (o := o) (n := n) (s := s) (a := 0) (nx := nx)
  rw [Int.add_zero, w64_id ho] at h
  exact h
theorem share_in {E : Int → Int} {many v b : Int} {st : OS} (h : in64 st.1) : in64 (shareS E many v b st).1 := by
  unfold shareS
  split
  · exact w64_in _
  · exact h
theorem oddR_in {E : Int → Int} {many c : Int} {W : Int → Int} : ∀ {n : Nat} {s : Int} {st : OS}, in64 st.1 → in64 (oddR E many c W n s st).1 := by
  intro n
  induction n with
  | zero => intro s st h; exact h
  | succ n ih =>
    intro s st h
    rw [oddR_succ]
    refine ih ?_
    unfold oddStep
    split
    · exact h
    · exact share_in (share_in h)
theorem oddR_app {E : Int → Int} {many c : Int} {W : Int → Int} : ∀ {n m : Nat} {s : Int} {st : OS}, oddR E many c W (n + m) s st = oddR E many c W m (s + n) (oddR E many c W n s st) := by
  intro n
  induction n with
  | zero => intro m s st; rw [Nat.zero_add, Int.natCast_zero, Int.add_zero]; rfl
  | succ n ih =>
    intro m s st
    rw [show n + 1 + m = (n + m) + 1 by omega, oddR_succ, ih, oddR_succ]
    congr 1
    omega
theorem oddR_none {E : Int → Int} {many c : Int} {W : Int → Int} : ∀ {n : Nat} {s : Int} {st : OS}, (∀ t, s ≤ t → t < s + n → W t = 0) → oddR E many c W n s st = st := by
  intro n
  induction n with
  | zero => intro s st _; rfl
  | succ n ih =>
    intro s st h
    rw [oddR_succ, ih fun t h1 h2 => h t (by omega) (by omega)]
    unfold oddStep
    rw [if_pos (h s (by omega) (by omega))]
theorem oddR_trim {E : Int → Int} {many c : Int} {W : Int → Int} {K : Nat} {st : OS} (hK : K ≤ 128) (h : ∀ t : Int, K ≤ t → t < 128 → W t = 0) : oddR E many c W 128 0 st = oddR E many c W K 0 st := by
  rw [show (128 : Nat) = K + (128 - K) by omega, oddR_app, oddR_none fun t h1 h2 => h t (by omega) (by omega)]
theorem oddR_congr {E : Int → Int} {many c : Int} {W W' : Int → Int} : ∀ {n : Nat} {s : Int} {st : OS}, (∀ t, s ≤ t → t < s + n → W t = W' t) → oddR E many c W n s st = oddR E many c W' n s st := by
  intro n
  induction n with
  | zero => intro s st _; rfl
  | succ n ih =>
    intro s st h
    rw [oddR_succ, oddR_succ, h s (by omega) (by omega)]
    exact ih fun t h1 h2 => h t (by omega) (by omega)
/-- nothing stands at and above K -/
def zeroTo (K : Int) (W : Int → Int) : Prop := ∀ t : Int, K ≤ t → t < 128 → W t = 0
theorem share_zero {E : Int → Int} {many v b K : Int} {st : OS} (h : zeroTo K st.2) (hb : b % 128 < K) : zeroTo K (shareS E many v b st).2 := by
  unfold shareS
  split
  · exact h
  · intro t h1 h2
    have := h t h1 h2
    unfold addF updF
    simp only
    rw [if_neg (by omega)]
    exact this
theorem oddR_zero {E : Int → Int} {many c : Int} {W : Int → Int} {K K' : Int} (hW : zeroTo K W) (hK : K' = 128 ∨ 2 * K ≤ K') : ∀ {n : Nat} {s : Int} {st : OS}, 0 ≤ s → s + n ≤ 128 → zeroTo K' st.2 → zeroTo K' (oddR E many c W n s st).2 := by
  intro n
  induction n with
  | zero => intro s st _ _ h; exact h
  | succ n ih =>
    intro s st h0 h1 h
    rw [oddR_succ]
    refine ih (by omega) (by omega) ?_
    unfold oddStep
    split
    · exact h
    · rename_i hv
      have hs : s < K := by
        refine Classical.byContradiction fun z => hv (hW s (by omega) (by omega))
      exact share_zero (share_zero h (by omega)) (by omega)
/-- how many sets of last places there can be ahead of the p-th -/
def setsN (p : Nat) : Nat := 2 ^ min p 7
theorem setsN_128 (p : Nat) : setsN p ≤ 128 := Nat.pow_le_pow_right (n := 2) (by decide) (Nat.min_le_right p 7)
theorem setsN_step (p : Nat) : (setsN (p + 1) : Int) = 128 ∨ 2 * (setsN p : Int) ≤ (setsN (p + 1) : Int) := by
  unfold setsN
  by_cases h : 7 ≤ p + 1
  · left
    rw [Nat.min_eq_right h]
    rfl
  · right
    rw [Nat.min_eq_left (by omega), Nat.min_eq_left (by omega), Nat.pow_succ]
    omega
theorem setsN_lt {p s : Nat} (h : s < setsN p) : 2 * s + 1 < 2 ^ (p + 1) := by
  have h1 : 2 ^ min p 7 ≤ 2 ^ p := Nat.pow_le_pow_right (by decide) (Nat.min_le_left p 7)
  unfold setsN at h
  rw [Nat.pow_succ]
  omega
/-! small bits -/
theorem ishl1 {s : Int} (h0 : 0 ≤ s) (h1 : s < 1000) : ishl s 1 = 2 * s := by
  obtain ⟨n, rfl⟩ : ∃ n : Nat, s = (n : Int) := ⟨s.toNat, by omega⟩
  have h := ishl_nat (a := n) (k := 1) (by decide) (by omega)
  rw [Nat.pow_one] at h
  rw [show (1 : Int) = ((1 : Nat) : Int) from rfl, h]
  omega
theorem ior1 {s : Int} (h0 : 0 ≤ s) (h1 : s < 1000) : ior (2 * s) 1 = 2 * s + 1 := by
  obtain ⟨n, rfl⟩ : ∃ n : Nat, s = (n : Int) := ⟨s.toNat, by omega⟩
  rw [show 2 * (n : Int) = ((2 * n : Nat) : Int) by omega, show (1 : Int) = ((1 : Nat) : Int) from rfl, ior_nat (by omega) (by omega), or1]
  omega
theorem ior0 {s : Int} (h0 : 0 ≤ s) (h1 : s < 1000) : ior s 0 = s := by
  obtain ⟨n, rfl⟩ : ∃ n : Nat, s = (n : Int) := ⟨s.toNat, by omega⟩
  rw [show (0 : Int) = ((0 : Nat) : Int) from rfl, ior_nat (by omega) (by omega), Nat.or_zero]
theorem iand127 {b : Int} (h0 : 0 ≤ b) (h1 : b < 100000) : iand b 127 = b % 128 := by
  obtain ⟨n, rfl⟩ : ∃ n : Nat, b = (n : Int) := ⟨b.toNat, by omega⟩
  have h := iand_mask (a := n) (k := 7) (by omega) (by decide)
  rw [show (127 : Int) = ((2 ^ 7 - 1 : Nat) : Int) from rfl, h]
  omega
theorem fat_odd {u : Int} (h : u = 72 ∨ u = 73) : Fat 136 u (21, 128) := by
  rcases h with rfl | rfl
  · exact ac_72
  · exact ac_73
section PODDS
variable {g : PG} {d : Nat} {Q : Int → PS → Prop}
theorem s_metC {q b known : Int} {E : Int → Int} {σ : PS} (hq : BrkAt q) (hE : EnC q E σ) (h0 : 0 ≤ b) (h1 : b < 256) (w1 : E b ≤ known → Q 1 σ) (w0 : ¬ E b ≤ known → Q 0 σ) : XX g true d P_X1_isMet 0 [(2, q), (0, b), (0, known)] [] 136 σ 136 Q := by
  obtain ⟨n, rfl⟩ : ∃ n : Nat, b = (n : Int) := ⟨b.toNat, by omega⟩
  refine s_isMetC hq (by omega) ?_
  rw [Nat.mod_eq_of_lt (by omega : n < 256), hE n (by omega)]
  by_cases h : E n ≤ known
  · rw [if_pos h]; exact w1 h
  · rw [if_neg h]; exact w0 h
theorem s_metM {b known : Int} {E : Int → Int} {σ : PS} (hE : BrkM E σ) (h0 : 0 ≤ b) (h1 : b < 256) (hk : 1 ≤ known ∧ known ≤ 1000) (hbk : b.toNat < 2 ^ known.toNat) (w1 : E b ≤ imin known 8 → Q 1 σ) (w0 : ¬ E b ≤ imin known 8 → Q 0 σ) : XX g true (d + 1) P_X12_isMet 0 [(2, 88), (0, b), (0, known), (9, 0), (9, 0)] [] 136 σ 136 Q := by
  obtain ⟨n, rfl⟩ : ∃ n : Nat, b = (n : Int) := ⟨b.toNat, by omega⟩
  refine s_isMetM hE (by omega) hk (by rw [Int.toNat_natCast] at hbk; exact hbk) ?_
  by_cases h : E n ≤ imin known 8
  · rw [if_pos h]; exact w1 h
  · rw [if_neg h]; exact w0 h
theorem imin_p8 {p : Int} (h0 : 0 ≤ p) (h1 : p < 1000) : imin (w32 (p + 1)) 8 = imin (p + 1) 8 := by rw [w32_of (by omega) (by omega)]
theorem setsA {p : Nat} (hp : p < 1000) : ishl 1 (imin (p : Int) 7) = (setsN p : Int) := by
  have e : imin (p : Int) 7 = ((min p 7 : Nat) : Int) := by unfold imin; split <;> omega
  rw [e, shl1_nat (by omega)]
  rfl
/-- one place more, the class -/
theorem s_pass_loop {q many x1 c u1 u2 : Int} {K : Nat} {E W : Int → Int} {σ : PS} (hq : BrkAt q) (hE : EnC q E σ) (hu : (u1 = 72 ∧ u2 = 73) ∨ (u1 = 73 ∧ u2 = 72)) (e1 : σ 70 2 = u1) (e2 : σ 70 3 = u2) (hx1 : 0 ≤ x1 ∧ x1 < 60) (hc : σ 71 x1 = c) (hK : K ≤ 128) (hW : ∀ s : Int, 0 ≤ s → s < K → σ u1 s = W s) :
    ∀ (n : Nat) (s acc : Int) (nx : Int → Int) (σ1 : PS), 0 ≤ s → s + n = K → eqx [u2] σ σ1 → (∀ t : Int, 0 ≤ t → t < 128 → σ1 u2 t = nx t) → (∀ σ', eqx [u2] σ σ' → (∀ t : Int, 0 ≤ t → t < 128 → σ' u2 t = (oddR E many c W n s (acc, nx)).2 t) → Q (oddR E many c W n s (acc, nx)).1 σ') →
      XX g true (d + 1) P_X5_pass 29 [(2, 70), (0, x1), (2, q), (1, acc), (9, 0), (0, many), (0, (K : Int)), (0, s), (9, 0), (9, 0), (9, 0), (9, 0), (9, 0)] [] 136 σ1 136 Q := by
  have hq2 : q + 1 < 70 ∧ 0 ≤ q := by have := hq; unfold BrkAt at this; omega
  have f1 : Fat 136 u1 (21, 128) := fat_odd (by omega)
  have f2 : Fat 136 u2 (21, 128) := fat_odd (by omega)
  have hne : u1 ≠ u2 := by omega
  intro n
  induction n with
  | zero =>
    intro s acc nx σ1 h0 hs hx hnx w
    exact B_X5_pass_29 hq ⟨fun _ => w σ1 hx hnx, fun h => by omega⟩
  | succ n ih =>
    intro s acc nx σ1 h0 hs hx hnx w
    have o1 : σ1 70 2 = u1 := (hx 70 (by simp only [List.mem_singleton]; omega) _).trans e1
    have o3 : σ1 u1 s = W s := (hx u1 (by simp only [List.mem_singleton]; omega) _).trans (hW s h0 (by omega))
    have o4 : σ1 71 x1 = c := (hx 71 (by simp only [List.mem_singleton]; omega) _).trans hc
    have es : w32 (s + 1) = s + 1 := w32_of (by omega) (by omega)
    rw [oddR_succ] at w
    unfold oddStep at w
    refine B_X5_pass_29 hq ⟨fun h => by omega, fun _ y1 h1 => ?_⟩
    rw [o1] at h1
    subst h1
    refine ⟨f1, ⟨h0, by omega⟩, fun y3 h3 => ?_⟩
    rw [o3] at h3
    rw [← h3] at w
    rw [es]
    refine ⟨fun hz => ⟨hx1, fun y5 h5 y6 h6 => ?_⟩, fun hz => ?_⟩
    · rw [o4] at h5
      rw [ishl1 h0 (by omega)] at h6
      subst h6
      rw [← h5] at w
      rw [if_neg hz] at w
      rw [ior1 h0 (by omega), iand127 (by omega) (by omega), iand127 (by omega) (by omega)]
      -- the one that stays
      have second : ∀ (acc2 : Int) (nx2 : Int → Int) (σ2 : PS), eqx [u2] σ σ2 → (∀ t : Int, 0 ≤ t → t < 128 → σ2 u2 t = nx2 t) → (∀ σ', eqx [u2] σ σ' → (∀ t : Int, 0 ≤ t → t < 128 → σ' u2 t = (oddR E many c W n (s + 1) (shareS E many (w64 (y3 - y5)) (2 * s) (acc2, nx2))).2 t) → Q (oddR E many c W n (s + 1) (shareS E many (w64 (y3 - y5)) (2 * s) (acc2, nx2))).1 σ') →
          XX g true d P_X1_isMet 0 [(2, q), (0, 2 * s), (0, many)] [] 136 σ2 136 (fun r12 σ11 => ((r12 = 0 → ∀ u13, u13 = σ11 70 3 → Fat 136 u13 (21, 128) ∧ (0 ≤ 2 * s % 128 ∧ 2 * s % 128 < 128) ∧ (XX g true (d + 1) P_X5_pass 29 [(2, 70), (0, x1), (2, q), (1, acc2), (9, 0), (0, many), (0, (K : Int)), (0, s + 1), (9, 0), (9, 0), (9, 0), (9, 0), (9, 0)] [] 136 (su σ11 u13 (2 * s % 128) (w64 ((σ11 u13 (2 * s % 128)) + (w64 (y3 - y5))))) 136 Q)) ∧ (r12 ≠ 0 → ∀ y15, y15 = w64 (acc2 + (w64 (y3 - y5))) → (XX g true (d + 1) P_X5_pass 29 [(2, 70), (0, x1), (2, q), (1, y15), (9, 0), (0, many), (0, (K : Int)), (0, s + 1), (9, 0), (9, 0), (9, 0), (9, 0), (9, 0)] [] 136 σ11 136 Q)))) := by
        intro acc2 nx2 σ2 hx2 hn2 w2
        have o2 : σ2 70 3 = u2 := (hx2 70 (by simp only [List.mem_singleton]; omega) _).trans e2
        unfold shareS at w2
        refine s_metC hq (hE.x hx2 (by simp only [List.mem_singleton]; omega)) (by omega) (by omega) (fun hm => ⟨fun z => by omega, fun _ y15 h15 => ?_⟩) (fun hm => ⟨fun _ u13 h13 => ?_, fun z => absurd rfl z⟩)
        · rw [if_pos hm] at w2
          rw [h15]
          exact ih (s + 1) _ _ σ2 (by omega) (by omega) hx2 hn2 w2
        · rw [if_neg hm] at w2
          rw [o2] at h13
          subst h13
          refine ⟨f2, by omega, ?_⟩
          refine ih (s + 1) _ _ _ (by omega) (by omega) (hx2.su (by simp only [List.mem_singleton])) (fun t t0 t1 => ?_) w2
          unfold addF updF
          by_cases e : t = 2 * s % 128
          · rw [if_pos e, e, su_eq, hn2 _ (by omega) (by omega)]
          · rw [if_neg e, su_ne (Or.inr e)]
            exact hn2 t t0 t1
      have o2 : σ1 70 3 = u2 := (hx 70 (by simp only [List.mem_singleton]; omega) _).trans e2
      have first : shareS E many y5 (2 * s + 1) (acc, nx) = if E (2 * s + 1) ≤ many then (w64 (acc + y5), nx) else (acc, addF nx ((2 * s + 1) % 128) y5) := rfl
      refine s_metC hq (hE.x hx (by simp only [List.mem_singleton]; omega)) (by omega) (by omega) (fun hm => ⟨fun z => by omega, fun _ y16 h16 => ?_⟩) (fun hm => ⟨fun _ u9 h9 => ?_, fun z => absurd rfl z⟩)
      · rw [first, if_pos hm, ← h16] at w
        exact second y16 nx σ1 hx hnx w
      · rw [first, if_neg hm] at w
        rw [o2] at h9
        subst h9
        refine ⟨f2, by omega, second acc _ _ (hx.su (by simp only [List.mem_singleton])) (fun t t0 t1 => ?_) w⟩
        unfold addF updF
        by_cases e : t = (2 * s + 1) % 128
        · rw [if_pos e, e, su_eq, hnx _ (by omega) (by omega)]
        · rw [if_neg e, su_ne (Or.inr e)]
          exact hnx t t0 t1
    · rw [if_pos hz] at w
      exact ih (s + 1) acc nx σ1 (by omega) (by omega) hx hnx w
/-- an array of longs filled with 0 -/
theorem s_fillL {u : Int} {n : Nat} {σ : PS} (hu : Fat 136 u (21, n)) (hn : n < 100000) (w : ∀ σ', eqx [u] σ σ' → (∀ t : Int, 0 ≤ t → t < n → σ' u t = 0) → Q 0 σ') : XX g true d P_J7_fill_d0a16 0 [(2, u), (1, 0), (9, 0), (9, 0), (9, 0)] [] 136 σ 136 Q :=
  f_fillL hu hn (w _ (fun a ha j => by unfold flS; rw [if_neg (fun z => ha (by rw [z.1]; exact List.mem_singleton_self _))]) fun t h0 h1 => by unfold flS; rw [if_pos ⟨rfl, h0, h1⟩])
theorem s_pass {q c u1 u2 : Int} {p : Nat} {E W : Int → Int} {σ : PS} (hq : BrkAt q) (hE : EnC q E σ) (hu : (u1 = 72 ∧ u2 = 73) ∨ (u1 = 73 ∧ u2 = 72)) (e1 : σ 70 2 = u1) (e2 : σ 70 3 = u2) (hp : p < 60) (hc : σ 71 p = c) (hW : ∀ s : Int, 0 ≤ s → s < setsN p → σ u1 s = W s) (hz : zeroTo (setsN p) W)
    (w : ∀ σ', eqx [u2] σ σ' → (∀ t : Int, 0 ≤ t → t < 128 → σ' u2 t = (oddR E (imin ((p : Int) + 1) 8) c W 128 0 (0, fun _ => 0)).2 t) → Q (oddR E (imin ((p : Int) + 1) 8) c W 128 0 (0, fun _ => 0)).1 σ') : XX g true (d + 2) P_X5_pass 0 [(2, 70), (0, (p : Int)), (2, q), (9, 0), (9, 0), (9, 0), (9, 0), (9, 0), (9, 0), (9, 0), (9, 0), (9, 0), (9, 0)] [] 136 σ 136 Q := by
  have hq2 : q + 1 < 70 ∧ 0 ≤ q := by have := hq; unfold BrkAt at this; omega
  have f2 : Fat 136 u2 (21, 128) := fat_odd (by omega)
  refine B_X5_pass_0 hq fun y1 h1 => ?_
  rw [imin_p8 (by omega) (by omega)] at h1
  subst h1
  refine B_X5_setsAhead_0 ?_
  rw [setsA (by omega)]
  intro u4 h4
  rw [e2] at h4
  subst h4
  rw [oddR_trim (setsN_128 p) hz] at w
  refine ⟨f2, s_fillL f2 (by decide) fun σ1 hx hz1 => ?_⟩
  have o : ∀ a, a ≠ u4 → ∀ j, σ1 a j = σ a j := fun a ha j => hx a (by simpa using ha) j
  refine s_pass_loop hq (hE.x hx (by simp only [List.mem_singleton]; omega)) hu (by rw [o 70 (by omega)]; exact e1) (by rw [o 70 (by omega)]; exact e2) ⟨by omega, by omega⟩ (by rw [o 71 (by omega)]; exact hc) (setsN_128 p) (fun s s0 s1 => by rw [o u1 (by omega)]; exact hW s s0 s1) (setsN p) 0 0 (fun _ => 0) σ1 (by omega) (by omega) eqx.rf (fun t t0 t1 => hz1 t t0 (by omega)) fun σ' hx' ht => w σ' (hx.tr hx') ht
/-- the rows of longs that change places -/
def OddAt (σ : PS) : Prop := (σ 70 2 = 72 ∧ σ 70 3 = 73) ∨ (σ 70 2 = 73 ∧ σ 70 3 = 72)
def HoldAt (σ : PS) : Prop := (σ 70 4 = 74 ∧ σ 70 5 = 75) ∨ (σ 70 4 = 75 ∧ σ 70 5 = 74)
theorem s_out {q : Int} {n : Nat} {E ch : Int → Int} {σ : PS} (hq : BrkAt q) (hE : EnC q E σ) (hO : OddAt σ) (hH : HoldAt σ) (hn : n ≤ 60) (hc : ∀ p : Int, 0 ≤ p → p < n → σ 71 p = ch p) (w : ∀ σ', eqx [70, 72, 73] σ σ' → OddAt σ' → HoldAt σ' → Q (chanceF E ch n) σ') : XX g true (d + 3) P_X5_out 0 [(2, 70), (0, (n : Int)), (2, q), (9, 0), (9, 0), (9, 0), (9, 0)] [] 136 σ 136 Q := by
  have hq2 : q + 1 < 70 ∧ 0 ≤ q := by have := hq; unfold BrkAt at this; omega
  have key : ∀ (m p : Nat) (st : OS) (u1 u2 : Int) (σ1 : PS), p + m = n → eqx [70, 72, 73] σ σ1 → HoldAt σ1 → ((u1 = 72 ∧ u2 = 73) ∨ (u1 = 73 ∧ u2 = 72)) → σ1 70 2 = u1 → σ1 70 3 = u2 → in64 st.1 → (∀ s : Int, 0 ≤ s → s < setsN p → σ1 u1 s = st.2 s) → zeroTo (setsN p) st.2 → (oddsR E ch m p st).1 = chanceF E ch n → XX g true (d + 3) P_X5_out 14 [(2, 70), (0, (n : Int)), (2, q), (1, st.1), (9, 0), (0, (p : Int)), (9, 0)] [] 136 σ1 136 Q := by
    intro m
    induction m with
    | zero =>
      intro p st u1 u2 σ1 hp hx hH1 hu e1 e2 hin hW hz hfin
      refine B_X5_out_14 hq ⟨fun _ => ?_, fun h => by omega⟩
      have : st.1 = chanceF E ch n := hfin
      rw [this]
      refine w σ1 hx ?_ hH1
      unfold OddAt
      omega
    | succ m ih =>
      intro p st u1 u2 σ1 hp hx hH1 hu e1 e2 hin hW hz hfin
      have f1 : Fat 136 u1 (21, 128) := fat_odd (by omega)
      have f2 : Fat 136 u2 (21, 128) := fat_odd (by omega)
      rw [oddsR_succ] at hfin
      have hadd := oddR_add0 (E := E) (many := imin ((p : Int) + 1) 8) (c := ch p) (W := st.2) (n := 128) (s := 0) (nx := fun _ => 0) hin
      rw [hadd] at hfin
      have hzero := oddR_zero (E := E) (many := imin ((p : Int) + 1) 8) (c := ch p) (W := st.2) hz (setsN_step p) (n := 128) (s := 0) (st := (0, fun _ => 0)) (by decide) (by decide) (fun _ _ _ => rfl)
      refine B_X5_out_14 hq ⟨fun h => by omega, fun _ => ?_⟩
      refine s_pass hq (hE.x hx (by simp only [List.mem_cons, List.not_mem_nil, or_false]; omega)) hu e1 e2 (by omega) (hx 71 (by decide) p) hW hz fun σ2 hx2 ht y3 h3 u4 h4 => ?_
      rw [hc p (by omega) (by omega)] at ht h3
      have o2 : σ2 70 2 = u1 := by rw [hx2 70 (by simp only [List.mem_singleton]; omega)]; exact e1
      have o3 : σ2 70 3 = u2 := by rw [hx2 70 (by simp only [List.mem_singleton]; omega)]; exact e2
      rw [o2] at h4
      subst h4
      refine ⟨f1, fun u5 h5 => ?_⟩
      rw [o3] at h5
      subst h5
      refine ⟨f2, ?_⟩
      rw [w32_of (by omega) (by omega)]
      generalize oddR E (imin ((p : Int) + 1) 8) (ch p) st.2 128 0 (0, fun _ => 0) = r at *
      have hmem : u5 ∈ ([70, 72, 73] : List Int) := by simp only [List.mem_cons, List.not_mem_nil, or_false]; omega
      rw [h3]
      refine ih (p + 1) (w64 (st.1 + r.1), r.2) u5 u4 (su (su σ2 70 2 u5) 70 3 u4) (by omega) (((hx.tr (hx2.mono fun a ha => by rw [List.mem_singleton.mp ha]; exact hmem)).su (by decide)).su (by decide)) ?_ (by omega) (by rw [su_ne (Or.inr (by decide)), su_eq]) su_eq (w64_in _) (fun s s0 s1 => ?_) hzero hfin
      · have a4 : su (su σ2 70 2 u5) 70 3 u4 70 4 = σ1 70 4 := by rw [su_ne (Or.inr (by decide)), su_ne (Or.inr (by decide)), hx2 70 (by simp only [List.mem_singleton]; omega)]
        have a5 : su (su σ2 70 2 u5) 70 3 u4 70 5 = σ1 70 5 := by rw [su_ne (Or.inr (by decide)), su_ne (Or.inr (by decide)), hx2 70 (by simp only [List.mem_singleton]; omega)]
        unfold HoldAt
        rw [a4, a5]
        exact hH1
      · have := setsN_128 (p + 1)
        rw [su_ne (Or.inl (by omega)), su_ne (Or.inl (by omega))]
        exact ht s s0 (by omega)
  obtain ⟨u1, hu1⟩ : ∃ u, σ 70 2 = u := ⟨_, rfl⟩
  obtain ⟨u2, hu2⟩ : ∃ u, σ 70 3 = u := ⟨_, rfl⟩
  have hu : (u1 = 72 ∧ u2 = 73) ∨ (u1 = 73 ∧ u2 = 72) := by unfold OddAt at hO; omega
  have f1 : Fat 136 u1 (21, 128) := fat_odd (by omega)
  refine B_X5_out_0 hq fun u3 h3 => ?_
  rw [hu1] at h3
  subst h3
  refine ⟨f1, ?_⟩
  have hmem : u3 ∈ ([70, 72, 73] : List Int) := by simp only [List.mem_cons, List.not_mem_nil, or_false]; omega
  refine key n 0 odd0 u3 u2 _ (by omega) (eqx.rf.su hmem) ?_ hu (by rw [su_ne (Or.inl (by omega))]; exact hu1) (by rw [su_ne (Or.inl (by omega))]; exact hu2) (by unfold odd0 in64; decide) (fun s s0 s1 => ?_) (fun t t0 t1 => ?_) rfl
  · unfold HoldAt
    rw [su_ne (Or.inl (by omega)), su_ne (Or.inl (by omega))]
    exact hH
  · have e : s = 0 := by
      have : setsN 0 = 1 := rfl
      omega
    subst e
    rw [su_eq]
    rfl
  · have : setsN 0 = 1 := rfl
    unfold odd0
    simp only
    rw [if_neg (by omega)]
end PODDS
