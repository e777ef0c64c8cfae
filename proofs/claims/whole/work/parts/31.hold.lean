/-! ROWS THAT HOLD, counted -/
def hshare (E : Int → Int) (many v b c t : Int) (nx : PS) : PS := if E b ≤ many then nx else su nx c t (w64 (nx c t + v))
def holdStep (E : Int → Int) (many c s v : Int) (nx : PS) : PS := if v = 0 then nx else hshare E many v (2 * s + 1) (c + 1) ((2 * s + 1) % 128) (hshare E many v (2 * s) c (2 * s % 128) nx)
def holdR (E : Int → Int) (many : Int) (H : PS) (c : Int) : Nat → Int → PS → PS
  | 0, _, nx => nx
  | n + 1, s, nx => holdR E many H c n (s + 1) (holdStep E many c s (H c s) nx)
def holdRs (E : Int → Int) (many : Int) (H : PS) : Nat → Int → PS → PS
  | 0, _, nx => nx
  | n + 1, c, nx => holdRs E many H n (c + 1) (holdR E many H c 128 0 nx)
def holdsR (E : Int → Int) (k : Int) : Nat → Int → PS → PS
  | 0, _, H => H
  | n + 1, p, H => holdsR E k n (p + 1) (holdRs E (imin (p + 1) 8) H (imin p k + 1).toNat 0 (fun _ _ => 0))
def hold0 : PS := fun c s => if c = 0 ∧ s = 0 then 1 else 0
def sumL (f : Int → Int) : Nat → Int → Int → Int
  | 0, _, a => a
  | n + 1, i, a => sumL f n (i + 1) (w64 (a + f i))
def holdF (E : Int → Int) (n : Nat) (k : Int) : Int := sumL (fun s => holdsR E k n 0 hold0 k s) 128 0 0
theorem holdR_succ (E : Int → Int) (many : Int) (H : PS) (c : Int) (n : Nat) (s : Int) (nx : PS) : holdR E many H c (n + 1) s nx = holdR E many H c n (s + 1) (holdStep E many c s (H c s) nx) := rfl
theorem holdRs_succ (E : Int → Int) (many : Int) (H : PS) (n : Nat) (c : Int) (nx : PS) : holdRs E many H (n + 1) c nx = holdRs E many H n (c + 1) (holdR E many H c 128 0 nx) := rfl
theorem holdsR_succ (E : Int → Int) (k : Int) (n : Nat) (p : Int) (H : PS) : holdsR E k (n + 1) p H = holdsR E k n (p + 1) (holdRs E (imin (p + 1) 8) H (imin p k + 1).toNat 0 (fun _ _ => 0)) := rfl
theorem sumL_succ (f : Int → Int) (n : Nat) (i a : Int) : sumL f (n + 1) i a = sumL f n (i + 1) (w64 (a + f i)) := rfl
theorem holdR_app {E : Int → Int} {many : Int} {H : PS} {c : Int} : ∀ {n m : Nat} {s : Int} {nx : PS}, holdR E many H c (n + m) s nx = holdR E many H c m (s + n) (holdR E many H c n s nx) := by
  intro n
  induction n with
  | zero => intro m s nx; rw [Nat.zero_add, Int.natCast_zero, Int.add_zero]; rfl
  | succ n ih =>
    intro m s nx
    rw [show n + 1 + m = (n + m) + 1 by omega, holdR_succ, ih, holdR_succ]
    congr 1
    omega
theorem holdR_none {E : Int → Int} {many : Int} {H : PS} {c : Int} : ∀ {n : Nat} {s : Int} {nx : PS}, (∀ t, s ≤ t → t < s + n → H c t = 0) → holdR E many H c n s nx = nx := by
  intro n
  induction n with
  | zero => intro s nx _; rfl
  | succ n ih =>
    intro s nx h
    rw [holdR_succ, ih fun t h1 h2 => h t (by omega) (by omega)]
    unfold holdStep
    rw [if_pos (h s (by omega) (by omega))]
theorem holdR_trim {E : Int → Int} {many : Int} {H : PS} {c : Int} {K : Nat} {nx : PS} (hK : K ≤ 128) (h : ∀ t : Int, K ≤ t → t < 128 → H c t = 0) : holdR E many H c 128 0 nx = holdR E many H c K 0 nx := by
  rw [show (128 : Nat) = K + (128 - K) by omega, holdR_app, holdR_none fun t h1 h2 => h t (by omega) (by omega)]
theorem hshare_zero {E : Int → Int} {many v b c c0 t K : Int} {nx : PS} (h : zeroTo K (nx c0)) (hb : t < K) : zeroTo K (hshare E many v b c t nx c0) := by
  unfold hshare
  split
  · exact h
  · intro t1 h1 h2
    rw [su_ne (Or.inr (by omega))]
    exact h t1 h1 h2
theorem holdR_zero {E : Int → Int} {many : Int} {H : PS} {c c0 : Int} {K K' : Int} (hW : zeroTo K (H c)) (hK : K' = 128 ∨ 2 * K ≤ K') : ∀ {n : Nat} {s : Int} {nx : PS}, 0 ≤ s → s + n ≤ 128 → zeroTo K' (nx c0) → zeroTo K' (holdR E many H c n s nx c0) := by
  intro n
  induction n with
  | zero => intro s nx _ _ h; exact h
  | succ n ih =>
    intro s nx h0 h1 h
    rw [holdR_succ]
    refine ih (by omega) (by omega) ?_
    unfold holdStep
    split
    · exact h
    · rename_i hv
      have hs : s < K := by
        refine Classical.byContradiction fun z => hv (hW s (by omega) (by omega))
      exact hshare_zero (hshare_zero h (by omega)) (by omega)
theorem holdRs_zero {E : Int → Int} {many : Int} {H : PS} {c0 : Int} {K K' : Int} (hW : ∀ c, zeroTo K (H c)) (hK : K' = 128 ∨ 2 * K ≤ K') : ∀ {n : Nat} {c : Int} {nx : PS}, zeroTo K' (nx c0) → zeroTo K' (holdRs E many H n c nx c0) := by
  intro n
  induction n with
  | zero => intro c nx h; exact h
  | succ n ih =>
    intro c nx h
    rw [holdRs_succ]
    exact ih (holdR_zero (hW c) hK (by decide) (by decide) h)
theorem ishl7 {c : Int} (h0 : 0 ≤ c) (h1 : c < 1000) : ishl c 7 = 128 * c := by
  obtain ⟨n, rfl⟩ : ∃ n : Nat, c = (n : Int) := ⟨c.toNat, by omega⟩
  have h := ishl_nat (a := n) (k := 7) (by decide) (by omega)
  rw [show (7 : Int) = ((7 : Nat) : Int) from rfl, h]
  omega
theorem ior7 {c s : Int} (h0 : 0 ≤ c) (h1 : c < 1000) (h2 : 0 ≤ s) (h3 : s < 128) : ior (128 * c) s = 128 * c + s := by
  obtain ⟨n, rfl⟩ : ∃ n : Nat, c = (n : Int) := ⟨c.toNat, by omega⟩
  obtain ⟨m, rfl⟩ : ∃ m : Nat, s = (m : Int) := ⟨s.toNat, by omega⟩
  have h := Nat.two_pow_add_eq_or_of_lt (i := 7) (b := m) (by omega) n
  rw [show 128 * (n : Int) = ((2 ^ 7 * n : Nat) : Int) by omega, ior_nat (by omega) (by omega), ← h]
  omega
theorem fat_hold {u : Int} (h : u = 74 ∨ u = 75) : Fat 136 u (21, 7808) := by
  rcases h with rfl | rfl
  · exact ac_74
  · exact ac_75
section PHOLD
variable {g : PG} {d : Nat} {Q : Int → PS → Prop}
/-- the lower rows of an array -/
def agH (σ : PS) (u top : Int) (H : PS) : Prop := ∀ c s : Int, 0 ≤ c → c ≤ top → 0 ≤ s → s < 128 → σ u (128 * c + s) = H c s
theorem agH_su {σ : PS} {u top c t v : Int} {H : PS} (h : agH σ u top H) (hc : 0 ≤ c) (ht : 0 ≤ t ∧ t < 128) : agH (su σ u (128 * c + t) v) u top (su H c t v) := by
  intro c2 s2 a1 a2 a3 a4
  have := h c2 s2 a1 a2 a3 a4
  unfold su
  by_cases e : c2 = c ∧ s2 = t
  · rw [if_pos e, if_pos ⟨rfl, by omega⟩]
  · rw [if_neg e, if_neg (fun z => e (by omega))]
    exact this
theorem s_clearRows {x1 u2 : Int} {σ : PS} (h0 : 0 ≤ x1) (h1 : x1 ≤ 60) (hu : u2 = 74 ∨ u2 = 75) (e2 : σ 70 5 = u2) (w : ∀ σ', eqx [u2] σ σ' → agH σ' u2 x1 (fun _ _ => 0) → Q 0 σ') : XX g true d P_X5_clearRows 0 [(2, 70), (0, x1), (9, 0)] [] 136 σ 136 Q := by
  have eb : ior (ishl x1 7) 127 = 128 * x1 + 127 := by rw [ishl7 h0 (by omega), ior7 h0 (by omega) (by omega) (by omega)]
  have key : ∀ (n : Nat) (i : Int) (σ1 : PS), 0 ≤ i → i + n = 128 * x1 + 128 → eqx [u2] σ σ1 → (∀ t : Int, 0 ≤ t → t < i → σ1 u2 t = 0) → XX g true d P_X5_clearRows 2 [(2, 70), (0, x1), (0, i)] [] 136 σ1 136 Q := by
    intro n
    induction n with
    | zero =>
      intro i σ1 hi hn hx hz
      refine B_X5_clearRows_2 ⟨fun _ => w σ1 hx fun c s a1 a2 a3 a4 => hz _ (by omega) (by omega), fun h => by rw [eb] at h; omega⟩
    | succ n ih =>
      intro i σ1 hi hn hx hz
      have o : σ1 70 5 = u2 := by rw [hx 70 (by simp only [List.mem_singleton]; omega)]; exact e2
      refine B_X5_clearRows_2 ⟨fun h => by rw [eb] at h; omega, fun h u3 h3 => ?_⟩
      rw [o] at h3 ⊢
      subst h3
      refine ⟨fat_hold hu, fun h4 => by omega, fun h4 u4 h5 => ?_⟩
      subst h5
      refine ⟨fat_hold hu, by omega, ?_⟩
      rw [w32_of (by omega) (by omega)]
      refine ih (i + 1) _ (by omega) (by omega) (hx.su (by simp only [List.mem_singleton])) fun t t0 t1 => ?_
      by_cases e : t = i
      · subst e; exact su_eq
      · rw [su_ne (Or.inr e)]; exact hz t t0 (by omega)
  exact B_X5_clearRows_0 (key (128 * x1 + 128).toNat 0 σ (by omega) (by omega) eqx.rf fun t t0 t1 => by omega)
theorem s_addRows {q c u1 u2 top : Int} {p : Nat} {E : Int → Int} {H nx : PS} {σ : PS} (hq : BrkAt q) (hE : EnC q E σ) (hu : (u1 = 74 ∧ u2 = 75) ∨ (u1 = 75 ∧ u2 = 74)) (e1 : σ 70 4 = u1) (e2 : σ 70 5 = u2) (hp : p < 60) (hc : 0 ≤ c ∧ c < 60) (hH : ∀ s : Int, 0 ≤ s → s < setsN p → σ u1 (128 * c + s) = H c s) (hz : zeroTo (setsN p) (H c)) (hnx : agH σ u2 top nx)
    (w : ∀ σ', eqx [u2] σ σ' → agH σ' u2 top (holdR E (imin ((p : Int) + 1) 8) H c 128 0 nx) → Q 0 σ') : XX g true (d + 2) P_X5_addRows 0 [(2, 70), (0, (p : Int)), (0, c), (2, q), (9, 0), (9, 0), (9, 0), (9, 0), (9, 0), (9, 0)] [] 136 σ 136 Q := by
  have hq2 : q + 1 < 70 ∧ 0 ≤ q := by have := hq; unfold BrkAt at this; omega
  have f1 : Fat 136 u1 (21, 7808) := fat_hold (by omega)
  have f2 : Fat 136 u2 (21, 7808) := fat_hold (by omega)
  have h128 := setsN_128 p
  rw [holdR_trim h128 hz] at w
  have key : ∀ (n : Nat) (s : Int) (nx : PS) (σ1 : PS), 0 ≤ s → s + n = setsN p → eqx [u2] σ σ1 → agH σ1 u2 top nx → (∀ σ', eqx [u2] σ σ' → agH σ' u2 top (holdR E (imin ((p : Int) + 1) 8) H c n s nx) → Q 0 σ') → XX g true (d + 2) P_X5_addRows 19 [(2, 70), (9, 0), (0, c), (2, q), (0, imin ((p : Int) + 1) 8), (0, (setsN p : Int)), (0, s), (9, 0), (9, 0), (9, 0)] [] 136 σ1 136 Q := by
    intro n
    induction n with
    | zero =>
      intro s nx σ1 h0 hs hx hn w
      exact B_X5_addRows_19 hq ⟨fun _ => w σ1 hx hn, fun h => by omega⟩
    | succ n ih =>
      intro s nx σ1 h0 hs hx hn w
      have es : w32 (s + 1) = s + 1 := w32_of (by omega) (by omega)
      have ec : w32 (c + 1) = c + 1 := w32_of (by omega) (by omega)
      have ei : ior (ishl c 7) s = 128 * c + s := by rw [ishl7 (by omega) (by omega), ior7 (by omega) (by omega) (by omega) (by omega)]
      have o1 : σ1 70 4 = u1 := by rw [hx 70 (by simp only [List.mem_singleton]; omega)]; exact e1
      have oH : σ1 u1 (128 * c + s) = H c s := by rw [hx u1 (by simp only [List.mem_singleton]; omega)]; exact hH s h0 (by omega)
      rw [holdR_succ] at w
      unfold holdStep at w
      refine B_X5_addRows_19 hq ⟨fun h => by omega, fun _ u3 h3 => ?_⟩
      rw [o1] at h3
      subst h3
      rw [ei, es]
      refine ⟨f1, by omega, fun y3 h4 => ⟨fun hv y4 h5 => ?_, fun hv => ?_⟩⟩
      · rw [oH] at h4
        rw [← h4, if_neg hv] at w
        rw [ishl1 h0 (by omega)] at h5
        subst h5
        have ea : ior (ishl c 7) (iand (2 * s) 127) = 128 * c + 2 * s % 128 := by rw [iand127 (by omega) (by omega), ishl7 (by omega) (by omega), ior7 (by omega) (by omega) (by omega) (by omega)]
        have eb : ior (ishl (c + 1) 7) (iand (2 * s + 1) 127) = 128 * (c + 1) + (2 * s + 1) % 128 := by rw [iand127 (by omega) (by omega), ishl7 (by omega) (by omega), ior7 (by omega) (by omega) (by omega) (by omega)]
        rw [ior1 h0 (by omega), ec, ea, eb]
        have second : ∀ (nx2 : PS) (σ2 : PS), eqx [u2] σ σ2 → agH σ2 u2 top nx2 → (∀ σ', eqx [u2] σ σ' → agH σ' u2 top (holdR E (imin ((p : Int) + 1) 8) H c n (s + 1) (hshare E (imin ((p : Int) + 1) 8) y3 (2 * s + 1) (c + 1) ((2 * s + 1) % 128) nx2)) → Q 0 σ') →
            XX g true (d + 1) P_X1_isMet 0 [(2, q), (0, 2 * s + 1), (0, imin ((p : Int) + 1) 8)] [] 136 σ2 136 (fun r8 σ7 => ((r8 ≠ 0 → (XX g true (d + 2) P_X5_addRows 19 [(2, 70), (9, 0), (0, c), (2, q), (0, imin ((p : Int) + 1) 8), (0, (setsN p : Int)), (0, s + 1), (9, 0), (9, 0), (9, 0)] [] 136 σ7 136 Q)) ∧ (r8 = 0 → ((60 ≤ c → (XX g true (d + 2) P_X5_addRows 19 [(2, 70), (9, 0), (0, c), (2, q), (0, imin ((p : Int) + 1) 8), (0, (setsN p : Int)), (0, s + 1), (9, 0), (9, 0), (9, 0)] [] 136 σ7 136 Q)) ∧ (c < 60 → ∀ u9, u9 = σ7 70 5 → Fat 136 u9 (21, 7808) ∧ (0 ≤ 128 * (c + 1) + (2 * s + 1) % 128 ∧ 128 * (c + 1) + (2 * s + 1) % 128 < 7808) ∧ (XX g true (d + 2) P_X5_addRows 19 [(2, 70), (9, 0), (0, c), (2, q), (0, imin ((p : Int) + 1) 8), (0, (setsN p : Int)), (0, s + 1), (9, 0), (9, 0), (9, 0)] [] 136 (su σ7 u9 (128 * (c + 1) + (2 * s + 1) % 128) (w64 ((σ7 u9 (128 * (c + 1) + (2 * s + 1) % 128)) + y3))) 136 Q)))))) := by
          intro nx2 σ2 hx2 hn2 w2
          have o2 : σ2 70 5 = u2 := by rw [hx2 70 (by simp only [List.mem_singleton]; omega)]; exact e2
          unfold hshare at w2
          refine s_metC hq (hE.x hx2 (by simp only [List.mem_singleton]; omega)) (by omega) (by omega) (fun hm => ⟨fun _ => ?_, fun z => by omega⟩) (fun hm => ⟨fun z => absurd rfl z, fun _ => ⟨fun z => by omega, fun _ u9 h9 => ?_⟩⟩)
          · rw [if_pos hm] at w2
            exact ih (s + 1) nx2 σ2 (by omega) (by omega) hx2 hn2 w2
          · rw [if_neg hm] at w2
            rw [o2] at h9
            subst h9
            refine ⟨f2, by omega, ?_⟩
            by_cases htop : c + 1 ≤ top
            · rw [hn2 (c + 1) _ (by omega) htop (by omega) (by omega)]
              exact ih (s + 1) _ _ (by omega) (by omega) (hx2.su (by simp only [List.mem_singleton])) (agH_su hn2 (by omega) (by omega)) w2
            · refine ih (s + 1) _ _ (by omega) (by omega) (hx2.su (by simp only [List.mem_singleton])) (fun c2 s2 a1 a2 a3 a4 => ?_) w2
              rw [su_ne (Or.inr (by omega)), su_ne (Or.inl (by omega))]
              exact hn2 c2 s2 a1 a2 a3 a4
        have first : hshare E (imin ((p : Int) + 1) 8) y3 (2 * s) c (2 * s % 128) nx = if E (2 * s) ≤ imin ((p : Int) + 1) 8 then nx else su nx c (2 * s % 128) (w64 (nx c (2 * s % 128) + y3)) := rfl
        have o2 : σ1 70 5 = u2 := by rw [hx 70 (by simp only [List.mem_singleton]; omega)]; exact e2
        refine s_metC hq (hE.x hx (by simp only [List.mem_singleton]; omega)) (by omega) (by omega) (fun hm => ⟨fun _ => ?_, fun z => by omega⟩) (fun hm => ⟨fun z => absurd rfl z, fun _ u9 h9 => ?_⟩)
        · rw [first, if_pos hm] at w
          exact second nx σ1 hx hn w
        · rw [first, if_neg hm] at w
          rw [o2] at h9
          subst h9
          refine ⟨f2, by omega, ?_⟩
          by_cases htop : c ≤ top
          · rw [hn c _ (by omega) htop (by omega) (by omega)]
            exact second _ _ (hx.su (by simp only [List.mem_singleton])) (agH_su hn (by omega) (by omega)) w
          · refine second _ _ (hx.su (by simp only [List.mem_singleton])) (fun c2 s2 a1 a2 a3 a4 => ?_) w
            rw [su_ne (Or.inr (by omega)), su_ne (Or.inl (by omega))]
            exact hn c2 s2 a1 a2 a3 a4
      · rw [oH] at h4
        rw [← h4, if_pos hv] at w
        exact ih (s + 1) nx σ1 (by omega) (by omega) hx hn w
  refine B_X5_addRows_0 hq fun y1 h1 => ?_
  rw [imin_p8 (by omega) (by omega)] at h1
  subst h1
  refine B_X5_setsAhead_0 ?_
  rw [setsA (by omega)]
  exact key (setsN p) 0 nx σ (by omega) (by omega) eqx.rf hnx w
theorem s_holding {q k : Int} {n : Nat} {E : Int → Int} {σ : PS} (hq : BrkAt q) (hE : EnC q E σ) (hO : OddAt σ) (hH : HoldAt σ) (hn : 1 ≤ n ∧ n ≤ 60) (hk : 0 ≤ k ∧ k ≤ n) (w : ∀ σ', eqx [70, 74, 75] σ σ' → OddAt σ' → HoldAt σ' → Q (holdF E n k) σ') : XX g true (d + 3) P_X5_holding 0 [(2, 70), (0, (n : Int)), (0, k), (2, q), (9, 0), (9, 0), (9, 0)] [] 136 σ 136 Q := by
  have hq2 : q + 1 < 70 ∧ 0 ≤ q := by have := hq; unfold BrkAt at this; omega
  have hmem : ∀ u : Int, u = 74 ∨ u = 75 → u ∈ ([70, 74, 75] : List Int) := fun u h => by simp only [List.mem_cons, List.not_mem_nil, or_false]; omega
  have hOx : ∀ {σ1 : PS}, σ1 70 2 = σ 70 2 → σ1 70 3 = σ 70 3 → OddAt σ1 := fun a b => by unfold OddAt; rw [a, b]; exact hO
  -- the sum
  have last : ∀ (H : PS) (m : Nat) (s acc u1 u2 : Int) (σ1 : PS), 0 ≤ s → s + m = 128 → ((u1 = 74 ∧ u2 = 75) ∨ (u1 = 75 ∧ u2 = 74)) → σ1 70 4 = u1 → (∀ s : Int, 0 ≤ s → s < 128 → σ1 u1 (128 * k + s) = H k s) → Q (sumL (fun s => H k s) m s acc) σ1 → XX g true (d + 3) P_X5_holding 89 [(2, 70), (9, 0), (0, k), (9, 0), (1, acc), (9, 0), (0, s)] [] 136 σ1 136 Q := by
    intro H m
    induction m with
    | zero =>
      intro s acc u1 u2 σ1 h0 hm hu e1 hH w2
      exact B_X5_holding_89 hq ⟨fun _ => w2, fun h => by omega⟩
    | succ m ih =>
      intro s acc u1 u2 σ1 h0 hm hu e1 hH w2
      refine B_X5_holding_89 hq ⟨fun h => by omega, fun _ u3 h3 => ?_⟩
      rw [e1] at h3
      subst h3
      have ei : ior (ishl k 7) s = 128 * k + s := by rw [ishl7 (by omega) (by omega), ior7 (by omega) (by omega) (by omega) (by omega)]
      rw [ei, w32_of (x := s + 1) (by omega) (by omega)]
      refine ⟨fat_hold (by omega), by omega, fun y3 h4 => ?_⟩
      rw [hH s h0 (by omega)] at h4
      rw [sumL_succ, ← h4] at w2
      exact ih (s + 1) y3 u3 u2 σ1 (by omega) (by omega) hu e1 hH w2
  -- the rows of a place
  have rows : ∀ (p : Nat) (H : PS) (u1 u2 : Int), p < n → ((u1 = 74 ∧ u2 = 75) ∨ (u1 = 75 ∧ u2 = 74)) → (∀ c, zeroTo (setsN p) (H c)) → ∀ (m : Nat) (c : Int) (nx : PS) (σ1 : PS), 0 ≤ c → c + m = imin p k + 1 → eqx [70, 74, 75] σ σ1 → σ1 70 2 = σ 70 2 → σ1 70 3 = σ 70 3 → σ1 70 4 = u1 → σ1 70 5 = u2 → (∀ c s : Int, 0 ≤ c → c ≤ imin p k → 0 ≤ s → s < setsN p → σ1 u1 (128 * c + s) = H c s) → agH σ1 u2 (imin p k + 1) nx → (∀ σ2, eqx [70, 74, 75] σ σ2 → σ2 70 2 = σ 70 2 → σ2 70 3 = σ 70 3 → σ2 70 4 = u2 → σ2 70 5 = u1 → agH σ2 u2 (imin p k + 1) (holdRs E (imin ((p : Int) + 1) 8) H m c nx) → XX g true (d + 3) P_X5_holding 10 [(2, 70), (0, (n : Int)), (0, k), (2, q), (0, w32 ((p : Int) + 1)), (9, 0), (9, 0)] [] 136 σ2 136 Q) → XX g true (d + 3) P_X5_holding 35 [(2, 70), (0, (n : Int)), (0, k), (2, q), (0, (p : Int)), (0, imin p k), (0, c)] [] 136 σ1 136 Q := by
    intro p H u1 u2 hp hu hz m
    have hik : 0 ≤ imin (p : Int) k ∧ imin (p : Int) k ≤ p ∧ imin (p : Int) k ≤ k := by unfold imin; split <;> omega
    induction m with
    | zero =>
      intro c nx σ1 h0 hm hx a2 a3 a4 a5 hHc hnx w2
      refine B_X5_holding_35 hq ⟨fun _ u3 h3 => ?_, fun h => by omega⟩
      rw [a4] at h3
      subst h3
      refine ⟨fat_hold (by omega), fun u4 h4 => ?_⟩
      rw [a5] at h4
      subst h4
      refine ⟨fat_hold (by omega), w2 _ ((hx.su (by decide)).su (by decide)) ?_ ?_ ?_ su_eq fun c2 s2 b1 b2 b3 b4 => ?_⟩
      · rw [su_ne (Or.inr (by decide)), su_ne (Or.inr (by decide))]; exact a2
      · rw [su_ne (Or.inr (by decide)), su_ne (Or.inr (by decide))]; exact a3
      · rw [su_ne (Or.inr (by decide)), su_eq]
      · rw [su_ne (Or.inl (by omega)), su_ne (Or.inl (by omega))]
        exact hnx c2 s2 b1 b2 b3 b4
    | succ m ih =>
      intro c nx σ1 h0 hm hx a2 a3 a4 a5 hHc hnx w2
      rw [holdRs_succ] at w2
      refine B_X5_holding_35 hq ⟨fun h => by omega, fun _ => ?_⟩
      refine s_addRows hq (hE.x hx (by simp only [List.mem_cons, List.not_mem_nil, or_false]; omega)) hu a4 a5 (by omega) ⟨h0, by omega⟩ (fun s s0 s1 => hHc c s h0 (by omega) s0 s1) (hz c) hnx fun σ2 hx2 hn2 => ?_
      rw [w32_of (x := c + 1) (by omega) (by omega)]
      have o : ∀ a, a ≠ u2 → ∀ j, σ2 a j = σ1 a j := fun a ha j => hx2 a (by simpa using ha) j
      refine ih (c + 1) _ σ2 (by omega) (by omega) (hx.tr (hx2.mono fun a ha => by rw [List.mem_singleton.mp ha]; exact hmem _ (by omega))) (by rw [o 70 (by omega)]; exact a2) (by rw [o 70 (by omega)]; exact a3) (by rw [o 70 (by omega)]; exact a4) (by rw [o 70 (by omega)]; exact a5) (fun c2 s2 b1 b2 b3 b4 => by rw [o u1 (by omega)]; exact hHc c2 s2 b1 b2 b3 b4) hn2 w2
  -- the places
  have places : ∀ (m p : Nat) (H : PS) (u1 u2 : Int) (σ1 : PS), p + m = n → ((u1 = 74 ∧ u2 = 75) ∨ (u1 = 75 ∧ u2 = 74)) → eqx [70, 74, 75] σ σ1 → σ1 70 2 = σ 70 2 → σ1 70 3 = σ 70 3 → σ1 70 4 = u1 → σ1 70 5 = u2 → (∀ c s : Int, 0 ≤ c → c ≤ imin p k → 0 ≤ s → (p = 0 → s = 0) → s < 128 → σ1 u1 (128 * c + s) = H c s) → (∀ c, zeroTo (setsN p) (H c)) → holdsR E k m p H = holdsR E k n 0 hold0 → XX g true (d + 3) P_X5_holding 10 [(2, 70), (0, (n : Int)), (0, k), (2, q), (0, (p : Int)), (9, 0), (9, 0)] [] 136 σ1 136 Q := by
    intro m
    induction m with
    | zero =>
      intro p H u1 u2 σ1 hp hu hx a2 a3 a4 a5 hHc hz hfin
      refine B_X5_holding_10 hq ⟨fun _ => ?_, fun h => by omega⟩
      have e : H = holdsR E k n 0 hold0 := hfin
      have hik : imin (p : Int) k = k := by unfold imin; split <;> omega
      refine last H 128 0 0 u1 u2 σ1 (by omega) (by omega) hu a4 (fun s s0 s1 => hHc k s (by omega) (by omega) s0 (fun z => by omega) s1) ?_
      have h9 := w σ1 hx (hOx a2 a3) (by unfold HoldAt; omega)
      unfold holdF at h9
      rw [← e] at h9
      exact h9
    | succ m ih =>
      intro p H u1 u2 σ1 hp hu hx a2 a3 a4 a5 hHc hz hfin
      have hik : 0 ≤ imin (p : Int) k ∧ imin (p : Int) k ≤ p ∧ imin (p : Int) k ≤ k := by unfold imin; split <;> omega
      have h128 := setsN_128 p
      rw [holdsR_succ] at hfin
      refine B_X5_holding_10 hq ⟨fun h => by omega, fun _ y1 h1 => ?_⟩
      subst h1
      rw [w32_of (x := imin (p : Int) k + 1) (by omega) (by omega)]
      refine s_clearRows (u2 := u2) (by omega) (by omega) (by omega) a5 fun σ2 hx2 hc2 => ?_
      have o : ∀ a, a ≠ u2 → ∀ j, σ2 a j = σ1 a j := fun a ha j => hx2 a (by simpa using ha) j
      refine rows p H u1 u2 (by omega) hu hz (imin (p : Int) k + 1).toNat 0 (fun _ _ => 0) σ2 (by omega) (by omega) (hx.tr (hx2.mono fun a ha => by rw [List.mem_singleton.mp ha]; exact hmem _ (by omega))) (by rw [o 70 (by omega)]; exact a2) (by rw [o 70 (by omega)]; exact a3) (by rw [o 70 (by omega)]; exact a4) (by rw [o 70 (by omega)]; exact a5) (fun c2 s2 b1 b2 b3 b4 => ?_) hc2 fun σ3 hx3 b2 b3 b4 b5 hag => ?_
      · rw [o u1 (by omega)]
        refine hHc c2 s2 b1 b2 b3 (fun z => ?_) (by omega)
        subst z
        have : setsN 0 = 1 := rfl
        omega
      · rw [w32_of (by omega) (by omega)]
        refine ih (p + 1) _ u2 u1 σ3 (by omega) (by omega) hx3 b2 b3 b4 b5 (fun c2 s2 c1 c2' c3 c4 c5 => hag c2 s2 c1 ?_ c3 c5) (fun c => holdRs_zero hz (setsN_step p) fun _ _ _ => rfl) hfin
        have h2 : imin ((p + 1 : Nat) : Int) k ≤ imin (p : Int) k + 1 := by unfold imin; split <;> split <;> omega
        omega
  obtain ⟨u1, hu1⟩ : ∃ u, σ 70 4 = u := ⟨_, rfl⟩
  obtain ⟨u2, hu2⟩ : ∃ u, σ 70 5 = u := ⟨_, rfl⟩
  have hu : (u1 = 74 ∧ u2 = 75) ∨ (u1 = 75 ∧ u2 = 74) := by unfold HoldAt at hH; omega
  refine B_X5_holding_0 hq fun u3 h3 => ?_
  rw [hu1] at h3
  subst h3
  refine ⟨fat_hold (by omega), ?_⟩
  refine places n 0 hold0 u3 u2 _ (by omega) hu (eqx.rf.su (hmem _ (by omega))) (su_ne (Or.inl (by omega))) (su_ne (Or.inl (by omega))) (by rw [su_ne (Or.inl (by omega))]; exact hu1) (by rw [su_ne (Or.inl (by omega))]; exact hu2) (fun c s b1 b2 b3 b4 b5 => ?_) (fun c t t0 t1 => ?_) rfl
  · have e : c = 0 := by
      have : imin ((0 : Nat) : Int) k = 0 := by unfold imin; split <;> omega
      omega
    subst e
    rw [b4 rfl, show (128 * 0 + 0 : Int) = 0 by decide, su_eq]
    rfl
  · have : setsN 0 = 1 := rfl
    unfold hold0
    rw [if_neg (by omega)]
end PHOLD
