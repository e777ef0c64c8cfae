/-! DAYS AHEAD: the class' days -/
def chA (T R : PS) (e S p : Int) : Int := goesS T R p (besN S.toNat p.toNat) e
/-- which sets fail, and the set that is gone -/
def fsF (E : Int → Int) (n : Nat) (s : Int) : Int := if failsB E (fun p => bitN s.toNat p) n then 1 else 0
def gset (f : Int → Int) : Nat → Int
  | 0 => 0
  | p + 1 => ior (gset f p) (ishl (f p) p)
def fut0 (E : Int → Int) (R : PS) (n : Nat) (s : Int) : Int := if s = gset (R 3) n ∧ fsF E n s = 0 then 1000000000000 else 0
def futS (T : PS) (E : Int → Int) (R : PS) (k : Nat) : Int → Int := futF (fsF E (R 0 0).toNat) (fun e S p => chA T R e S p) (R 0 0).toNat (fut0 E R (R 0 0).toNat) k
def leftS (F : Int → Int) (n : Nat) : Int := sumL F (2 ^ n) 0 0
def mostS (F : Int → Int) (n : Nat) : Int := bestS F (2 ^ n)
def lastsS (T : PS) (E : Int → Int) (R : PS) : Int := l2i (ldiv (w64 (sumL (fun k => leftS (futS T E R k.toNat) (R 0 0).toNat) 60 0 0 * 1000)) 1000000000000)
def leftA (T : PS) (E : Int → Int) (R : PS) (x : Int) : Int := if 10 < R 0 0 then -1 else if 0 ≤ x ∧ x ≤ 60 then leftS (futS T E R x.toNat) (R 0 0).toNat else -1
def aheadA (T : PS) (E : Int → Int) (R : PS) (wh x : Int) : Int := if 10 < R 0 0 then -1 else if wh = 0 then lastsS T E R else if wh = 1 ∧ 0 ≤ x ∧ x ≤ 60 then mostS (futS T E R x.toNat) (R 0 0).toNat else -1
theorem futS_succ (T : PS) (E : Int → Int) (R : PS) (k : Nat) : futS T E R (k + 1) = dayA (fsF E (R 0 0).toNat) (fun S p => chA T R k S p) (R 0 0).toNat (futS T E R k) := rfl
theorem sumL_in {f : Int → Int} : ∀ {n : Nat} {i a : Int}, in64 a → in64 (sumL f n i a) := by
  intro n
  induction n with
  | zero => intro i a h; exact h
  | succ n ih => intro i a _; exact ih (w64_in _)
/-- what stands for the days ahead -/
def FutC (n : Nat) (F fs : Int → Int) (σ : PS) : Prop := σ 76 7 = n ∧ σ 76 8 = ((2 ^ n : Nat) : Int) ∧ (∀ s : Int, 0 ≤ s → s < ((2 ^ n : Nat) : Int) → σ 79 s = fs s) ∧ ∃ u1 u2 : Int, FutAt u1 u2 ∧ σ 76 1 = u1 ∧ σ 76 2 = u2 ∧ ∀ s : Int, 0 ≤ s → s < ((2 ^ n : Nat) : Int) → σ u1 s = F s
def FutP (σ : PS) : Prop := FutAt (σ 76 1) (σ 76 2)
abbrev futL : List Int := [68, 69, 76, 77, 78, 79, 80, 81, 82]
theorem idx3_ne {p b p2 b2 : Int} (h : ¬ (p2 = p ∧ b2 = b)) (c2 : 0 ≤ b2) (c3 : b2 ≤ 2) (b0 : 0 ≤ b) (b1 : b ≤ 2) : 3 * p2 + b2 ≠ 3 * p + b := by omega
theorem idx3_lt {p b p2 b2 : Int} (c4 : p2 < p ∨ (p2 = p ∧ b2 < b + 1)) (h : ¬ (p2 = p ∧ b2 = b)) : p2 < p ∨ (p2 = p ∧ b2 < b) := by omega
theorem idx3_le {p b p2 b2 : Int} (c3 : b2 ≤ 2) (hb : b + ((0 : Nat) : Int) = 3) (h : p2 < p + 1) : p2 < p ∨ (p2 = p ∧ b2 < b) := by omega
theorem idx3_z {p b p2 b2 : Int} (b0 : 0 ≤ b2) (h : p2 < p) : p2 < p ∨ (p2 = p ∧ b2 < b) := Or.inl h
section PFUTC
variable {g : PG} {d : Nat} {Q : Int → PS → Prop}
theorem pow10 {n : Nat} (h : n ≤ 10) : 0 < 2 ^ n ∧ 2 ^ n ≤ 1024 := ⟨Nat.two_pow_pos n, Nat.pow_le_pow_right (n := 2) (by decide) h⟩
theorem s_passDayF {r q e : Int} {n : Nat} {F fs : Int → Int} {R T σ : PS} (hr : RowAt r) (hR : RowC r R σ) (ok : RSok R) (hq : LinAt q) (hT : TxtC q T σ) (okT : TxtOK oknL T) (hn : R 0 0 = n) (hn10 : n ≤ 10) (hF : FutC n F fs σ) (w : ∀ σ', eqx futL σ σ' → FutC n (dayA fs (fun S p => chA T R e S p) n F) fs σ' → Q 0 σ') : XX g true (d + 3) P_X3_passDay 0 [(2, 76), (2, r), (2, q), (0, e), (9, 0), (9, 0)] [] 136 σ 136 Q := by
  have hr3 : r = 43 ∨ r = 51 ∨ r = 59 := hr
  have hq3 : q + 3 < 43 ∧ 0 ≤ q := by have := hq; unfold LinAt at this; omega
  obtain ⟨hK0, hK⟩ := pow10 hn10
  obtain ⟨a7, a8, a9, u1, u2, hu, a1, a2, hFu⟩ := hF
  have hu3 : u1 ≠ u2 ∧ 77 ≤ u2 ∧ u2 ≤ 78 ∧ 77 ≤ u1 ∧ u1 ≤ 78 := by unfold FutAt at hu; omega
  have f1 : Fat 136 u1 (21, 1024) := fat_fut (by omega)
  have f2 : Fat 136 u2 (21, 1024) := fat_fut (by omega)
  -- the sets
  have third : ∀ (m : Nat) (s : Nat) (nx : Int → Int) (σ1 : PS), s + m = 2 ^ n → eqx [68, 69, 80, 81, 82, u2] σ σ1 → (∀ p b : Int, 0 ≤ p → p < n → 0 ≤ b → b ≤ 2 → σ1 80 (3 * p + b) = goesS T R p b e) → (∀ t : Int, 0 ≤ t → t < ((2 ^ n : Nat) : Int) → σ1 u2 t = nx t) → dayR fs (fun S p => chA T R e S p) F n m s nx = dayA fs (fun S p => chA T R e S p) n F → XX g true (d + 3) P_X3_passDay 70 [(2, 76), (9, 0), (9, 0), (9, 0), (0, (s : Int)), (9, 0)] [] 136 σ1 136 Q := by
    intro m
    induction m with
    | zero =>
      intro s nx σ1 hs hx hg hnx hfin
      have o : ∀ j, σ1 76 j = σ 76 j := fun j => hx 76 (by simp only [List.mem_cons, List.not_mem_nil, or_false]; omega) j
      refine B_X3_passDay_70 hr hq ⟨fun _ u3 h3 => ?_, fun h => by rw [o, a8] at h; omega⟩
      rw [o, a1] at h3
      subst h3
      refine ⟨f1, fun u4 h4 => ?_⟩
      rw [o, a2] at h4
      subst h4
      have hfin2 : nx = dayA fs (fun S p => chA T R e S p) n F := hfin
      refine ⟨f2, w _ (((hx.mono fun a ha => by simp only [List.mem_cons, List.not_mem_nil, or_false] at ha ⊢; omega).su (by decide)).su (by decide)) ⟨?_, ?_, fun s s0 s1 => ?_, u4, u3, by unfold FutAt at hu ⊢; omega, ?_, ?_, fun s s0 s1 => ?_⟩⟩
      · rw [su_ne (Or.inr (by decide)), su_ne (Or.inr (by decide)), o]; exact a7
      · rw [su_ne (Or.inr (by decide)), su_ne (Or.inr (by decide)), o]; exact a8
      · rw [su_ne (Or.inl (by decide)), su_ne (Or.inl (by decide)), hx 79 (by simp only [List.mem_cons, List.not_mem_nil, or_false]; omega)]; exact a9 s s0 s1
      · rw [su_ne (Or.inr (by decide)), su_eq]
      · exact su_eq
      · rw [su_ne (Or.inl (by omega)), su_ne (Or.inl (by omega)), hnx s s0 s1, hfin2]
    | succ m ih =>
      intro s nx σ1 hs hx hg hnx hfin
      have o : ∀ j, σ1 76 j = σ 76 j := fun j => hx 76 (by simp only [List.mem_cons, List.not_mem_nil, or_false]; omega) j
      have oF : σ1 u1 (s : Int) = F s := by rw [hx u1 (by simp only [List.mem_cons, List.not_mem_nil, or_false]; omega)]; exact hFu _ (Int.natCast_nonneg s) (by omega)
      have o9 : ∀ s : Int, 0 ≤ s → s < ((2 ^ n : Nat) : Int) → σ1 79 s = fs s := fun s s0 s1 => by rw [hx 79 (by simp only [List.mem_cons, List.not_mem_nil, or_false]; omega)]; exact a9 s s0 s1
      have hs1 : s < 2 ^ n := by omega
      rw [dayR_succ] at hfin
      refine B_X3_passDay_70 hr hq ⟨fun h => by rw [o, a8] at h; omega, fun _ u3 h3 => ?_⟩
      rw [o, a1] at h3
      subst h3
      rw [oF, w32_of (x := (s : Int) + 1) (by omega) (by omega)]
      refine ⟨f1, by omega, fun hz => ?_, fun hz => ?_⟩
      · rw [if_pos hz] at hfin
        exact ih (s + 1) nx σ1 (by omega) hx hg hnx hfin
      · rw [if_neg hz] at hfin
        refine s_split (u1 := u3) (u2 := u2) (v := F s) (gT := fun p b => goesS T R p b e) (fs := fs) (nx := nx) hu (by rw [o]; exact a1) (by rw [o]; exact a2) (by rw [o]; exact a7) hn10 hs1 oF hz hg o9 hnx fun σ2 hx2 hn2 => ?_
        have ef : (fun p : Int => goesS T R p (besN s p.toNat) e) = (fun p => chA T R e (s : Int) p) := by
          funext p
          unfold chA
          rw [Int.toNat_natCast]
        have hn3 : ∀ t : Int, 0 ≤ t → t < ((2 ^ n : Nat) : Int) → σ2 u2 t = accL fs (splitZ (fun p : Int => goesS T R p (besN s p.toNat) e) (s : Int) n 0 [((s : Int), F (s : Int))]) nx t := hn2
        rw [ef] at hn3
        have es : ((s + 1 : Nat) : Int) = (s : Int) + 1 := by omega
        have h9 := ih (s + 1) _ σ2 (by omega) (hx.tr (hx2.mono fun a ha => by simp only [List.mem_cons, List.not_mem_nil, or_false] at ha ⊢; omega)) (fun p b b0 b1 b2 b3 => by rw [hx2 80 (by simp only [List.mem_cons, List.not_mem_nil, or_false]; omega)]; exact hg p b b0 b1 b2 b3) hn3
        rw [es] at h9
        exact h9 hfin
  -- the chances
  have second : ∀ (p : Nat), p < n → ∀ (m : Nat) (b : Int) (σ1 : PS), 0 ≤ b → b + m = 3 → eqx [68, 69, 80] σ σ1 → (∀ p2 b2 : Int, 0 ≤ p2 → 0 ≤ b2 → b2 ≤ 2 → (p2 < p ∨ (p2 = p ∧ b2 < b)) → σ1 80 (3 * p2 + b2) = goesS T R p2 b2 e) → (∀ σ2, eqx [68, 69, 80] σ σ2 → (∀ p2 b2 : Int, 0 ≤ p2 → 0 ≤ b2 → b2 ≤ 2 → p2 < (p : Int) + 1 → σ2 80 (3 * p2 + b2) = goesS T R p2 b2 e) → XX g true (d + 3) P_X3_passDay 3 [(2, 76), (2, r), (2, q), (0, e), (0, (p : Int) + 1), (9, 0)] [] 136 σ2 136 Q) → XX g true (d + 3) P_X3_passDay 15 [(2, 76), (2, r), (2, q), (0, e), (0, (p : Int)), (0, b)] [] 136 σ1 136 Q := by
    intro p hp m
    induction m with
    | zero =>
      intro b σ1 h0 hb hx hg w2
      refine B_X3_passDay_15 hr hq ⟨fun _ => ?_, fun h => by omega⟩
      rw [w32_of (by omega) (by omega)]
      exact w2 σ1 hx fun p2 b2 c1 c2 c3 c4 => hg p2 b2 c1 c2 c3 (idx3_le c3 hb c4)
    | succ m ih =>
      intro b σ1 h0 hb hx hg w2
      have hR1 : RowC r R σ1 := hR.same fun a a1 a2 j => hx a (by simp only [List.mem_cons, List.not_mem_nil, or_false]; omega) j
      have hT1 : TxtC q T σ1 := hT.same fun a a1 a2 j => hx a (by simp only [List.mem_cons, List.not_mem_nil, or_false]; omega) j
      have i1 := (idx3 (p := p) (b := b) (Int.natCast_nonneg p) (by omega) h0 (by omega)).1
      refine B_X3_passDay_15 hr hq ⟨fun h => by omega, fun _ => ?_⟩
      rw [w32_of (x := b + 1) (by omega) (by omega), (idx3 (p := p) (b := b) (Int.natCast_nonneg p) (by omega) h0 (by omega)).2]
      refine s_goes hr hR1 ok hq hT1 okT (by omega) (by omega) fun σ2 hx2 => ⟨i1, ?_⟩
      refine ih (b + 1) _ (by omega) (by omega) ((hx.tr (hx2.mono (by decide))).su (by decide)) (fun p2 b2 c1 c2 c3 c4 => ?_) w2
      by_cases e : p2 = p ∧ b2 = b
      · rw [e.1, e.2, su_eq]
      · rw [su_ne (Or.inr (idx3_ne e c2 c3 h0 (by omega))), hx2 80 (by decide)]
        exact hg p2 b2 c1 c2 c3 (idx3_lt c4 e)
  have first : ∀ (m p : Nat) (σ1 : PS), p + m = n → eqx [68, 69, 80] σ σ1 → (∀ p2 b2 : Int, 0 ≤ p2 → 0 ≤ b2 → b2 ≤ 2 → p2 < p → σ1 80 (3 * p2 + b2) = goesS T R p2 b2 e) → XX g true (d + 3) P_X3_passDay 3 [(2, 76), (2, r), (2, q), (0, e), (0, (p : Int)), (9, 0)] [] 136 σ1 136 Q := by
    intro m
    induction m with
    | zero =>
      intro p σ1 hp hx hg
      have o : ∀ j, σ1 76 j = σ 76 j := fun j => hx 76 (by decide) j
      refine B_X3_passDay_3 hr hq ⟨fun _ u3 h3 => ?_, fun h => by rw [o, a7] at h; omega⟩
      rw [o, a2] at h3
      subst h3
      refine ⟨f2, s_fillL f2 (by decide) fun σ2 hx2 hz => ?_⟩
      refine third (2 ^ n) 0 (fun _ => 0) σ2 (by omega) ((hx.mono fun a ha => by simp only [List.mem_cons, List.not_mem_nil, or_false] at ha ⊢; omega).tr (hx2.mono fun a ha => by simp only [List.mem_cons, List.not_mem_nil, or_false] at ha ⊢; omega)) (fun p2 b2 c1 c2 c3 c4 => ?_) (fun t t0 t1 => hz t t0 (by omega)) rfl
      rw [hx2 80 (by simp only [List.mem_cons, List.not_mem_nil, or_false]; omega)]
      exact hg p2 b2 c1 c3 c4 (by omega)
    | succ m ih =>
      intro p σ1 hp hx hg
      have o : ∀ j, σ1 76 j = σ 76 j := fun j => hx 76 (by decide) j
      refine B_X3_passDay_3 hr hq ⟨fun h => by rw [o, a7] at h; omega, fun _ => ?_⟩
      refine second p (by omega) 3 0 σ1 (by omega) (by omega) hx (fun p2 b2 c1 c2 c3 c4 => hg p2 b2 c1 c2 c3 (by omega)) fun σ2 hx2 hg2 => ?_
      exact ih (p + 1) σ2 (by omega) hx2 hg2
  exact B_X3_passDay_0 hr hq (first n 0 σ (by omega) eqx.rf fun p2 b2 c1 c2 c3 c4 => by omega)
/-- the set that is gone -/
theorem gset_mod {f : Int → Int} {N : Nat} (hb : ∀ p : Nat, p < 60 → f p = bitN N p) : ∀ {p : Nat}, p ≤ 30 → gset f p = ((N % 2 ^ p : Nat) : Int) := by
  intro p
  induction p with
  | zero => intro _; show (0 : Int) = _; rw [Nat.pow_zero, Nat.mod_one]; rfl
  | succ p ih =>
    intro hp
    have h2 : 2 ^ p * 2 ≤ 2 ^ 30 := by rw [← Nat.pow_succ]; exact Nat.pow_le_pow_right (by decide) hp
    have h30 : (2 : Nat) ^ 30 = 1073741824 := by decide
    have hlt : N % 2 ^ p < 2 ^ p := Nat.mod_lt _ (Nat.two_pow_pos p)
    show ior (gset f p) (ishl (f p) p) = _
    rw [ih (by omega), hb p (by omega), bitN_div]
    have h01 : N / 2 ^ p % 2 < 2 := Nat.mod_lt _ (by decide)
    have hm : N / 2 ^ p % 2 * 2 ^ p ≤ 2 ^ p := by
      have := Nat.mul_le_mul_right (2 ^ p) (show N / 2 ^ p % 2 ≤ 1 by omega)
      omega
    rw [ishl_nat (by omega) (by omega), ior_nat (by omega) (by omega), Nat.or_comm, Nat.mul_comm, ← Nat.two_pow_add_eq_or_of_lt hlt, Nat.pow_succ, Nat.mod_mul, Nat.add_comm]
theorem goneN {f : Int → Int} {N n : Nat} (hN : N < 2 ^ 60) (hb : ∀ p : Nat, p < 60 → f p = bitN N p) (hz : ∀ p : Int, (n : Int) ≤ p → p < 60 → f p = 0) : N < 2 ^ n := by
  refine Nat.lt_pow_two_of_testBit N fun i hi => ?_
  by_cases h : i < 60
  · have h1 := hb i h
    rw [hz i (by omega) (by omega)] at h1
    unfold bitN at h1
    cases ht : N.testBit i with
    | false => rfl
    | true => rw [ht] at h1; exact absurd h1 (by decide)
  · exact Nat.testBit_lt_two_pow (Nat.lt_of_lt_of_le hN (Nat.pow_le_pow_right (by decide) (by omega)))
theorem s_beginF {r q : Int} {n : Nat} {E : Int → Int} {R σ : PS} (hr : RowAt r) (hR : RowC r R σ) (ok : RSok R) (hq : BrkAt q) (hE : EnC q E σ) (hn : R 0 0 = n) (hn10 : n ≤ 10) (hF : FutP σ) (w : ∀ σ', eqx futL σ σ' → FutC n (fut0 E R n) (fsF E n) σ' → Q 0 σ') : XX g true (d + 3) P_X3_begin 0 [(2, 76), (2, r), (2, q), (9, 0)] [] 136 σ 136 Q := by
  have hr3 : r = 43 ∨ r = 51 ∨ r = 59 := hr
  have hq2 : q + 1 < 43 ∧ 0 ≤ q := by have := hq; unfold BrkAt at this; omega
  obtain ⟨hK0, hK⟩ := pow10 hn10
  obtain ⟨u1, a1⟩ : ∃ u, σ 76 1 = u := ⟨_, rfl⟩
  obtain ⟨u2, a2⟩ : ∃ u, σ 76 2 = u := ⟨_, rfl⟩
  have hu : FutAt u1 u2 := by unfold FutP at hF; rw [a1, a2] at hF; exact hF
  have hu3 : u1 ≠ u2 ∧ 77 ≤ u2 ∧ u2 ≤ 78 ∧ 77 ≤ u1 ∧ u1 ≤ 78 := by unfold FutAt at hu; omega
  have f1 : Fat 136 u1 (21, 1024) := fat_fut (by omega)
  have im : imin (n : Int) 10 = n := by unfold imin; split <;> omega
  have ish : ishl 1 (n : Int) = ((2 ^ n : Nat) : Int) := shl1_nat (by omega)
  obtain ⟨N, eN, hN, hb⟩ := hR.2.2.1
  have hNn : N < 2 ^ n := goneN hN hb fun p p0 p1 => ok.2.2.2.1 p (by omega) p1
  have hG : gset (R 3) n = N := by rw [gset_mod hb (by omega), Nat.mod_eq_of_lt hNn]
  have key : ∀ (m s : Nat) (σ1 : PS), s + m = 2 ^ n → eqx [76, 79, u1] σ σ1 → σ1 76 7 = n → σ1 76 8 = ((2 ^ n : Nat) : Int) → σ1 76 1 = u1 → σ1 76 2 = u2 → (∀ t : Int, 0 ≤ t → t < 1024 → σ1 u1 t = 0) → (∀ t : Int, 0 ≤ t → t < s → σ1 79 t = fsF E n t) → XX g true (d + 3) P_X3_begin 33 [(2, 76), (2, r), (2, q), (0, (s : Int))] [] 136 σ1 136 Q := by
    intro m
    induction m with
    | zero =>
      intro s σ1 hs hx b7 b8 b1 b2 hz hfs
      have hR1 : RowC r R σ1 := hR.same fun a a1 a2 j => hx a (by simp only [List.mem_cons, List.not_mem_nil, or_false]; omega) j
      have e5 : σ1 r 5 = (N : Int) := by rw [hx r (by simp only [List.mem_cons, List.not_mem_nil, or_false]; omega)]; exact eN
      refine B_X3_begin_33 hr hq ⟨fun _ y1 h1 => ?_, fun h => by rw [b8] at h; omega⟩
      rw [e5, b8, l2i_nat (by omega), w32_of (by omega) (by omega), show (((2 ^ n : Nat) : Int) - 1) = ((2 ^ n - 1 : Nat) : Int) by omega, iand_mask (by omega) (by omega), Nat.mod_eq_of_lt hNn] at h1
      subst h1
      have hfsN := hfs (N : Int) (by omega) (by omega)
      have hxx : ∀ v, eqx futL σ (su σ1 u1 N v) := fun v => (hx.mono fun a ha => by simp only [List.mem_cons, List.not_mem_nil, or_false] at ha ⊢; omega).su (by simp only [List.mem_cons, List.not_mem_nil, or_false]; omega)
      have hxy : eqx futL σ σ1 := hx.mono fun a ha => by simp only [List.mem_cons, List.not_mem_nil, or_false] at ha ⊢; omega
      rw [hfsN]
      refine ⟨by omega, fun hf => ?_, fun hf u3 h3 => ?_⟩
      · refine w σ1 hxy ⟨b7, b8, fun s s0 s1 => hfs s s0 (by omega), u1, u2, hu, b1, b2, fun s s0 s1 => ?_⟩
        unfold fut0
        rw [hG, if_neg (fun z => hf (by rw [← z.1]; exact z.2))]
        exact hz s s0 (by omega)
      · rw [b1] at h3
        subst h3
        refine ⟨f1, w _ (hxx _) ⟨?_, ?_, fun s s0 s1 => ?_, u3, u2, hu, ?_, ?_, fun s s0 s1 => ?_⟩⟩
        · rw [su_ne (Or.inl (by omega))]; exact b7
        · rw [su_ne (Or.inl (by omega))]; exact b8
        · rw [su_ne (Or.inl (by omega))]; exact hfs s s0 (by omega)
        · rw [su_ne (Or.inl (by omega))]; exact b1
        · rw [su_ne (Or.inl (by omega))]; exact b2
        · unfold fut0
          rw [hG]
          by_cases e : s = N
          · rw [if_pos ⟨e, by rw [e]; exact hf⟩, e, su_eq]
          · rw [if_neg (fun z => e z.1), su_ne (Or.inr e)]
            exact hz s s0 (by omega)
    | succ m ih =>
      intro s σ1 hs hx b7 b8 b1 b2 hz hfs
      have hb1 : BrkAt q := hq
      refine B_X3_begin_33 hr hq ⟨fun h => by rw [b8] at h; omega, fun _ => ?_⟩
      rw [b7, w32_of (x := (s : Int) + 1) (by omega) (by omega)]
      refine s_breaksRow hq (N := s) (n := n) (by omega) (by omega) ?_
      have hf : (if failsB (fun k => σ1 (q + 1) k) (fun p => bitN s p) n then (1 : Int) else 0) = fsF E n s := by
        have h1 : failsB (fun k => σ1 (q + 1) k) (fun p => bitN s p) n ↔ failsB E (fun p => bitN s p) n := failsB_E fun k hk => by
          show σ1 (q + 1) k = E k
          rw [hx (q + 1) (by simp only [List.mem_cons, List.not_mem_nil, or_false]; omega)]
          exact hE k hk
        unfold fsF
        rw [Int.toNat_natCast]
        by_cases h2 : failsB E (fun p => bitN s p) n
        · rw [if_pos (h1.mpr h2), if_pos h2]
        · rw [if_neg (fun z => h2 (h1.mp z)), if_neg h2]
      rw [hf]
      refine ⟨by omega, ite01 _, ?_⟩
      refine ih (s + 1) _ (by omega) (hx.su (List.mem_cons_of_mem _ List.mem_cons_self)) (by rw [su_ne (Or.inl (by decide))]; exact b7) (by rw [su_ne (Or.inl (by decide))]; exact b8) (by rw [su_ne (Or.inl (by decide))]; exact b1) (by rw [su_ne (Or.inl (by decide))]; exact b2) (fun t t0 t1 => by rw [su_ne (Or.inl (by omega))]; exact hz t t0 t1) (fun t t0 t1 => ?_)
      by_cases e : t = s
      · subst e; exact su_eq
      · rw [su_ne (Or.inr e)]; exact hfs t t0 (by omega)
  refine B_X3_begin_0 hr hq fun u3 h3 => ?_
  rw [a1] at h3
  subst h3
  rw [hR.1.1, hn, im, ish]
  refine ⟨f1, s_fillL f1 (by decide) fun σ1 hx hz => ?_⟩
  have o : ∀ j, σ1 76 j = su (su σ 76 7 (n : Int)) 76 8 ((2 ^ n : Nat) : Int) 76 j := fun j => hx 76 (by simp only [List.mem_cons, List.not_mem_nil, or_false]; omega) j
  refine key (2 ^ n) 0 σ1 (by omega) (((eqx.rf.su List.mem_cons_self).su List.mem_cons_self : eqx [76, 79, u3] σ _).tr (hx.mono fun a ha => by simp only [List.mem_cons, List.not_mem_nil, or_false] at ha ⊢; omega)) ?_ ?_ ?_ ?_ (fun t t0 t1 => hz t t0 t1) (fun t t0 t1 => by omega)
  · rw [o, su_ne (Or.inr (by decide)), su_eq]
  · rw [o, su_eq]
  · rw [o, su_ne (Or.inr (by decide)), su_ne (Or.inr (by decide))]; exact a1
  · rw [o, su_ne (Or.inr (by decide)), su_ne (Or.inr (by decide))]; exact a2
theorem s_remaining {n : Nat} {F fs : Int → Int} {σ : PS} (hn10 : n ≤ 10) (hF : FutC n F fs σ) (w : Q (leftS F n) σ) : XX g true d P_X3_remaining 0 [(2, 76), (9, 0), (9, 0), (9, 0)] [] 136 σ 136 Q := by
  obtain ⟨hK0, hK⟩ := pow10 hn10
  obtain ⟨a7, a8, a9, u1, u2, hu, a1, a2, hFu⟩ := hF
  have f1 : Fat 136 u1 (21, 1024) := fat_fut (by unfold FutAt at hu; omega)
  have key : ∀ (m s : Nat) (acc : Int), s + m = 2 ^ n → sumL F m s acc = leftS F n → XX g true d P_X3_remaining 4 [(2, 76), (1, acc), (9, 0), (0, (s : Int))] [] 136 σ 136 Q := by
    intro m
    induction m with
    | zero =>
      intro s acc hs hfin
      refine B_X3_remaining_4 ⟨fun _ => ?_, fun h => by rw [a8] at h; omega⟩
      have : acc = leftS F n := hfin
      rw [this]
      exact w
    | succ m ih =>
      intro s acc hs hfin
      rw [sumL_succ] at hfin
      refine B_X3_remaining_4 ⟨fun h => by rw [a8] at h; omega, fun _ u3 h3 => ?_⟩
      rw [a1] at h3
      subst h3
      refine ⟨f1, by omega, fun y3 h4 => ?_⟩
      rw [hFu s (by omega) (by omega)] at h4
      rw [w32_of (by omega) (by omega), h4]
      exact ih (s + 1) _ (by omega) hfin
  exact B_X3_remaining_0 (key (2 ^ n) 0 0 (by omega) rfl)
theorem s_mostLikely {n : Nat} {F fs : Int → Int} {σ : PS} (hn10 : n ≤ 10) (hF : FutC n F fs σ) (w : Q (mostS F n) σ) : XX g true d P_X3_mostLikely 0 [(2, 76), (9, 0), (9, 0), (9, 0), (9, 0)] [] 136 σ 136 Q := by
  obtain ⟨hK0, hK⟩ := pow10 hn10
  obtain ⟨a7, a8, a9, u1, u2, hu, a1, a2, hFu⟩ := hF
  have f1 : Fat 136 u1 (21, 1024) := fat_fut (by unfold FutAt at hu; omega)
  have key : ∀ (m k : Nat), k + m = 2 ^ n → XX g true d P_X3_mostLikely 7 [(2, 76), (0, bestS F k), (1, if bestS F k = -1 then 0 else F (bestS F k)), (9, 0), (0, (k : Int))] [] 136 σ 136 Q := by
    intro m
    induction m with
    | zero =>
      intro k hk
      refine B_X3_mostLikely_7 ⟨fun _ => ?_, fun h => by rw [a8] at h; omega⟩
      have e : k = 2 ^ n := by omega
      rw [e]
      exact w
    | succ m ih =>
      intro k hk
      have h1 := ih (k + 1) (by omega)
      rw [bestS_succ] at h1
      refine B_X3_mostLikely_7 ⟨fun h => by rw [a8] at h; omega, fun h u3 h3 => ?_⟩
      rw [a1] at h3
      subst h3
      rw [hFu k (by omega) (by omega), w32_of (x := (k : Int) + 1) (by omega) (by omega)]
      refine ⟨f1, by omega, fun h2 => ?_, fun h2 u4 h4 => ?_⟩
      · rw [if_neg (by omega)] at h1
        exact h1
      · rw [a1] at h4
        subst h4
        refine ⟨f1, fun y4 h5 => ?_⟩
        rw [hFu k (by omega) (by omega)] at h5
        rw [if_pos h2, if_neg (show ¬ (k : Int) = -1 by omega)] at h1
        rw [h5]
        exact h1
  exact B_X3_mostLikely_0 (key (2 ^ n) 0 (by omega))
end PFUTC
