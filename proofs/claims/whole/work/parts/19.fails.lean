/-! WHAT FAILS -/
abbrev shOk (sh : Nat → Int) (bits len k : Nat) : Prop := ¬ (sh k = 6 ∧ bitN bits (len - 1 - k) = 0) ∧ ¬ (sh k = 7 ∧ bitN bits (len - 1 - k) = 1)
abbrev shAll (sh : Nat → Int) (bits len : Nat) : Prop := ∀ k, k < len → shOk sh bits len k
def lmet (so on tw : Int) (sh : Nat → Int) (bits : Nat) (known : Int) : Prop :=
  (so = 2 ∧ on ≤ known ∧ bits % 2 ^ on.toNat = 2 ^ on.toNat - 1) ∨ (so = 3 ∧ on ≤ pcN (bits % 2 ^ tw.toNat)) ∨ (so = 5 ∧ on ≤ known ∧ shAll sh bits on.toNat)
/-- some line from l on is met -/
def mmet (many : Int) (so on tw : Int → Int) (sh : Int → Nat → Int) (l : Int) (bits : Nat) (known : Int) : Prop := ∃ i : Int, l ≤ i ∧ i < many ∧ lmet (so i) (on i) (tw i) (sh i) bits known
def failsOk (many : Int) (so on tw : Int → Int) : Prop := 0 ≤ many ∧ many ≤ 8 ∧ ∀ l, 0 ≤ l → l < many → (so l = 2 ∨ so l = 3 ∨ so l = 5) ∧ 1 ≤ on l ∧ on l ≤ 8 ∧ (so l = 3 → on l ≤ tw l ∧ tw l ≤ 8)
/-- the class's table says the same as the model's lines -/
def BrkRel (E : Int → Int) (many : Int) (so on tw : Int → Int) (sh : Int → Nat → Int) : Prop :=
  failsOk many so on tw ∧ ∀ (bits : Nat) (known : Int), bits < 256 → 1 ≤ known → bits < 2 ^ known.toNat → (E bits ≤ imin known 8 ↔ mmet many so on tw sh 0 bits known)
def shF (σ : PS) : Int → Nat → Int := fun l k => σ 110 (8 * l + k)
abbrev BrkM (E : Int → Int) (σ : PS) : Prop := BrkRel E (σ 88 40) (fun l => σ 107 l) (fun l => σ 108 l) (fun l => σ 109 l) (shF σ)
section PFAILS
variable {g : PG} {d : Nat} {σ : PS} {Q : Int → PS → Prop}
theorem bit_and1 {b p : Nat} (hb : b < 2 ^ 31) (hp : p < 32) : iand (ishr (b : Int) (p : Int)) 1 = bitN b p := by
  have h1 : b / 2 ^ p < 2 ^ 31 := Nat.lt_of_le_of_lt (Nat.div_le_self _ _) hb
  rw [ishr_nat hp hb, show (1 : Int) = ((1 : Nat) : Int) from rfl, iand_nat h1 (by decide), Nat.and_one_is_mod, bitN_div]
theorem s_isShape_loop {l : Int} {b len : Nat} (hl : 0 ≤ l ∧ l < 16) (hb : b < 256) (hlen : len ≤ 8) (w1 : shAll (shF σ l) b len → Q 1 σ) (w0 : ¬ shAll (shF σ l) b len → Q 0 σ) : ∀ (n k : Nat), k + n = len → (∀ j, j < k → shOk (shF σ l) b len j) → XX g true d P_X12_isShape 10 [(2, 88), (0, l), (0, (b : Int)), (0, (len : Int)), (0, (k : Int)), (9, 0), (9, 0)] [] 136 σ 136 Q := by
  intro n
  induction n with
  | zero =>
    intro k hk hj
    refine B_X12_isShape_10 ⟨fun h => w1 fun j hj2 => hj j (by omega), fun h => by omega⟩
  | succ n ih =>
    intro k hk hj
    have e1 : w32 ((w32 (8 * l)) + (k : Int)) = 8 * l + k := by
      rw [w32_of (x := 8 * l) (by omega) (by omega), w32_of (by omega) (by omega)]
    have e2 : w32 ((w32 ((len : Int) - 1)) - (k : Int)) = ((len - 1 - k : Nat) : Int) := by
      rw [w32_of (x := (len : Int) - 1) (by omega) (by omega), w32_of (by omega) (by omega)]
      omega
    have e3 : w32 ((k : Int) + 1) = ((k + 1 : Nat) : Int) := by rw [w32_of (by omega) (by omega)]; omega
    refine B_X12_isShape_10 ⟨fun h => by omega, fun h => ⟨by rw [e1]; omega, fun y2 h2 y3 h3 => ?_⟩⟩
    rw [e1] at h2
    rw [e2, bit_and1 (by omega) (by omega)] at h3
    rw [e3]
    have hb01 := bitN_01 b (len - 1 - k)
    have next : shOk (shF σ l) b len k → XX g true d P_X12_isShape 10 [(2, 88), (0, l), (0, (b : Int)), (0, (len : Int)), (0, ((k + 1 : Nat) : Int)), (9, 0), (9, 0)] [] 136 σ 136 Q := fun hk2 => ih (k + 1) (by omega) fun j hj2 => by
      by_cases e : j = k
      · rw [e]; exact hk2
      · exact hj j (by omega)
    have stop : ¬ shOk (shF σ l) b len k → Q 0 σ := fun hk2 => w0 fun z => hk2 (z k (by omega))
    have hs : shF σ l k = y2 := by rw [h2]; rfl
    unfold shOk at next stop
    rw [hs, ← h3] at next stop
    rw [← h3] at hb01
    grind
theorem s_isShape {l : Int} {b len : Nat} (hl : 0 ≤ l ∧ l < 16) (hb : b < 256) (hlen : len ≤ 8) (he : σ 108 l = len) (w : Q (if shAll (shF σ l) b len then 1 else 0) σ) : XX g true d P_X12_isShape 0 [(2, 88), (0, l), (0, (b : Int)), (9, 0), (9, 0), (9, 0), (9, 0)] [] 136 σ 136 Q := by
  refine B_X12_isShape_0 ⟨hl, fun y2 h2 => ?_⟩
  rw [h2, he]
  exact s_isShape_loop hl hb hlen (fun h => by rw [if_pos h] at w; exact w) (fun h => by rw [if_neg h] at w; exact w) len 0 (by omega) (fun j hj => by omega)
theorem mask_int {b : Nat} {k : Int} (hb : b < 2 ^ 31) (h0 : 0 ≤ k) (h1 : k ≤ 30) : iand (b : Int) (w32 ((ishl 1 k) - 1)) = ((b % 2 ^ k.toNat : Nat) : Int) := by
  obtain ⟨n, rfl⟩ : ∃ n : Nat, k = (n : Int) := ⟨k.toNat, by omega⟩
  have hlt : 2 ^ n < 2 ^ 31 := Nat.pow_lt_pow_right (by decide) (by omega)
  have hpos : 0 < 2 ^ n := Nat.two_pow_pos n
  rw [shl1_nat (by omega), w32_of (by omega) (by omega), show (((2 ^ n : Nat) : Int) - 1) = ((2 ^ n - 1 : Nat) : Int) by omega, iand_mask hb (by omega), Int.toNat_natCast]
theorem mmet_step {many l : Int} {so on tw : Int → Int} {sh : Int → Nat → Int} {b : Nat} {known : Int} (h : ¬ lmet (so l) (on l) (tw l) (sh l) b known) : mmet many so on tw sh l b known ↔ mmet many so on tw sh (l + 1) b known := by
  constructor
  · rintro ⟨i, h1, h2, h3⟩
    refine ⟨i, ?_, h2, h3⟩
    rcases Int.lt_or_eq_of_le h1 with z | z
    · omega
    · rw [z] at h; exact absurd h3 h
  · rintro ⟨i, h1, h2, h3⟩
    exact ⟨i, by omega, h2, h3⟩
theorem s_isMetM_loop {b : Nat} {known : Int} (hf : failsOk (σ 88 40) (fun l => σ 107 l) (fun l => σ 108 l) (fun l => σ 109 l)) (hb : b < 256) (hk : 0 ≤ known ∧ known ≤ 1000) : ∀ (n : Nat) (l : Int), 0 ≤ l → l + n = σ 88 40 → (mmet (σ 88 40) (fun l => σ 107 l) (fun l => σ 108 l) (fun l => σ 109 l) (shF σ) l b known → Q 1 σ) → (¬ mmet (σ 88 40) (fun l => σ 107 l) (fun l => σ 108 l) (fun l => σ 109 l) (shF σ) l b known → Q 0 σ) → XX g true (d + 1) P_X12_isMet 2 [(2, 88), (0, (b : Int)), (0, known), (0, l), (9, 0)] [] 136 σ 136 Q := by
  intro n
  induction n with
  | zero =>
    intro l h0 hl w1 w0
    refine B_X12_isMet_2 ⟨fun h => w0 ?_, fun h => by omega⟩
    rintro ⟨i, h1, h2, -⟩
    omega
  | succ n ih =>
    intro l h0 hl w1 w0
    obtain ⟨f1, f2, f3⟩ := hf
    obtain ⟨k1, k2, k3, k4⟩ := f3 l h0 (by omega)
    simp only at k1 k2 k3 k4
    have e1 : w32 (l + 1) = l + 1 := w32_of (by omega) (by omega)
    have next : ¬ lmet (σ 107 l) (σ 108 l) (σ 109 l) (shF σ l) b known → XX g true (d + 1) P_X12_isMet 2 [(2, 88), (0, (b : Int)), (0, known), (0, l + 1), (9, 0)] [] 136 σ 136 Q := fun hn => ih (l + 1) (by omega) (by omega) (fun h => w1 ((mmet_step hn).mpr h)) (fun h => w0 fun z => h ((mmet_step hn).mp z))
    have stop : lmet (σ 107 l) (σ 108 l) (σ 109 l) (shF σ l) b known → Q 1 σ := fun h => w1 ⟨l, Int.le_refl l, by omega, h⟩
    have hp1 : (2 : Nat) ^ (σ 108 l).toNat ≤ 2 ^ 8 := Nat.pow_le_pow_right (by decide) (by omega)
    have hpos : 0 < (2 : Nat) ^ (σ 108 l).toNat := Nat.two_pow_pos _
    have m1 : iand (b : Int) (w32 ((ishl 1 (σ 108 l)) - 1)) = ((b % 2 ^ (σ 108 l).toNat : Nat) : Int) := mask_int (by omega) (by omega) (by omega)
    have m2 : w32 ((ishl 1 (σ 108 l)) - 1) = ((2 ^ (σ 108 l).toNat - 1 : Nat) : Int) := by
      obtain ⟨q, hq⟩ : ∃ q : Nat, σ 108 l = (q : Int) := ⟨(σ 108 l).toNat, by omega⟩
      rw [hq, shl1_nat (by omega), Int.toNat_natCast]
      rw [hq, Int.toNat_natCast] at hp1 hpos
      rw [w32_of (by omega) (by omega)]
      omega
    refine B_X12_isMet_2 ⟨fun h => by omega, fun h => ⟨by omega, fun y2 h2 => ?_⟩⟩
    subst h2
    rw [e1]
    unfold lmet at next stop
    rcases k1 with c | c | c
    · have hn3 : ¬ σ 107 l = 3 := by omega
      have hn5 : ¬ σ 107 l = 5 := by omega
      simp only [c, m1, m2] at next stop ⊢
      grind
    · obtain ⟨k5, k6⟩ := k4 c
      have m3 : iand (b : Int) (w32 ((ishl 1 (σ 109 l)) - 1)) = ((b % 2 ^ (σ 109 l).toNat : Nat) : Int) := mask_int (by omega) (by omega) (by omega)
      have hlt : b % 2 ^ (σ 109 l).toNat < 2 ^ 31 := Nat.lt_of_le_of_lt (Nat.mod_le _ _) (by omega)
      refine ⟨fun _ => ⟨fun h3 => absurd c h3, fun _ => ?_⟩, fun h2 => by omega⟩
      rw [m3]
      refine s_ones hlt ⟨fun h5 => ⟨fun _ => next ?_, fun h6 => by omega⟩, fun h5 => stop (Or.inr (Or.inl ⟨c, by omega⟩))⟩
      rintro (z | z | z) <;> omega
    · refine ⟨fun _ => ⟨fun _ => ⟨fun h5 => absurd c h5, fun _ => ⟨fun h6 => next ?_, fun h6 => ?_⟩⟩, fun h3 => by omega⟩, fun h2 => by omega⟩
      · rintro (z | z | z) <;> omega
      · refine s_isShape (len := (σ 108 l).toNat) ⟨by omega, by omega⟩ hb (by omega) (by omega) ⟨fun h7 => next ?_, fun h7 => stop ?_⟩
        · rintro (z | z | z)
          · omega
          · omega
          · rw [if_pos z.2.2] at h7
            exact absurd h7 (by decide)
        · refine Or.inr (Or.inr ⟨c, h6, ?_⟩)
          exact Classical.byContradiction fun z => h7 (by rw [if_neg z])
theorem s_isMetM {E : Int → Int} {b : Nat} {known : Int} (hE : BrkM E σ) (hb : b < 256) (hk : 1 ≤ known ∧ known ≤ 1000) (hbk : b < 2 ^ known.toNat) (w : Q (if E b ≤ imin known 8 then 1 else 0) σ) : XX g true (d + 1) P_X12_isMet 0 [(2, 88), (0, (b : Int)), (0, known), (9, 0), (9, 0)] [] 136 σ 136 Q := by
  have h1 := hE.2 b known hb hk.1 hbk
  have h2 := hE.1.1
  refine B_X12_isMet_0 (s_isMetM_loop hE.1 hb ⟨by omega, by omega⟩ (σ 88 40).toNat 0 (by omega) (by omega) (fun h => ?_) (fun h => ?_))
  · rw [if_pos (h1.mpr h)] at w; exact w
  · rw [if_neg (fun z => h (h1.mp z))] at w; exact w
theorem s_isMetC {r : Int} {b : Nat} {known : Int} (hr : BrkAt r) (hb : b < 2 ^ 31) (w : Q (if σ (r + 1) ((b % 256 : Nat) : Int) ≤ known then 1 else 0) σ) : XX g true d P_X1_isMet 0 [(2, r), (0, (b : Int)), (0, known)] [] 136 σ 136 Q := by
  have e1 : iand (b : Int) 255 = ((b % 256 : Nat) : Int) := iand_mask (k := 8) hb (by decide)
  refine B_X1_isMet_0 hr ?_
  rw [e1]
  grind
end PFAILS
/-- the last eight places as a number, the last one lowest -/
def lastB (f : Nat → Int) : Nat → Nat
  | 0 => 0
  | p + 1 => (2 * lastB f p + (f p).toNat) % 256
theorem lastB_succ (f : Nat → Int) (p : Nat) : lastB f (p + 1) = (2 * lastB f p + (f p).toNat) % 256 := rfl
abbrev failsB (E : Int → Int) (f : Nat → Int) (n : Nat) : Prop := ∃ p, p < n ∧ E (lastB f (p + 1)) ≤ imin ((p : Int) + 1) 8
theorem or1 (a : Nat) : 2 * a ||| 1 = 2 * a + 1 := by
  apply Nat.eq_of_testBit_eq
  intro i
  cases i with
  | zero => simp [Nat.testBit_zero]
  | succ i => rw [Nat.testBit_or, Nat.testBit_succ, Nat.testBit_succ, Nat.testBit_succ, show 2 * a / 2 = a by omega, show (2 * a + 1) / 2 = a by omega]; simp
theorem shift_or {a : Nat} {b : Int} (ha : a < 2 ^ 29) (hb : b = 0 ∨ b = 1) : ior (ishl (a : Int) 1) b = ((2 * a + b.toNat : Nat) : Int) := by
  have e1 : ishl (a : Int) 1 = ((2 * a : Nat) : Int) := by
    have h := ishl_nat (a := a) (k := 1) (by decide) (by omega)
    rw [Nat.pow_one, Nat.mul_comm] at h
    exact h
  rw [e1]
  rcases hb with rfl | rfl
  · rw [show (0 : Int) = ((0 : Nat) : Int) from rfl, ior_nat (by omega) (by omega), Nat.or_zero]; rfl
  · rw [show (1 : Int) = ((1 : Nat) : Int) from rfl, ior_nat (by omega) (by omega), or1]; rfl
theorem shift_in {a : Nat} {b : Int} (ha : a < 256) (hb : b = 0 ∨ b = 1) : iand (ior (ishl (a : Int) 1) b) 255 = (((2 * a + b.toNat) % 256 : Nat) : Int) := by
  rw [shift_or (by omega) hb]
  exact iand_mask (k := 8) (by omega) (by decide)
theorem lastB_256 (f : Nat → Int) (p : Nat) : lastB f p < 256 := by
  cases p with
  | zero => exact (by decide : 0 < 256)
  | succ p => exact Nat.mod_lt _ (by decide)
theorem lastB_lt {f : Nat → Int} : ∀ {p : Nat}, (∀ j, j < p → f j = 0 ∨ f j = 1) → lastB f p < 2 ^ p := by
  intro p
  induction p with
  | zero => intro _; exact (by decide : 0 < 2 ^ 0)
  | succ p ih =>
    intro h
    have h1 := ih fun j hj => h j (by omega)
    have h2 := h p (by omega)
    have h3 : (2 * lastB f p + (f p).toNat) % 256 ≤ 2 * lastB f p + (f p).toNat := Nat.mod_le _ _
    show (2 * lastB f p + (f p).toNat) % 256 < 2 ^ (p + 1)
    rw [Nat.pow_succ]
    omega
theorem lastB_congr {f f' : Nat → Int} : ∀ {p : Nat}, (∀ j, j < p → f j = f' j) → lastB f p = lastB f' p := by
  intro p
  induction p with
  | zero => intro _; rfl
  | succ p ih =>
    intro h
    show (2 * lastB f p + (f p).toNat) % 256 = (2 * lastB f' p + (f' p).toNat) % 256
    rw [ih fun j hj => h j (by omega), h p (by omega)]
theorem failsB_congr {E : Int → Int} {f f' : Nat → Int} {n : Nat} (h : ∀ j, j < n → f j = f' j) : failsB E f n ↔ failsB E f' n := by
  constructor
  · rintro ⟨p, hp, hE⟩
    exact ⟨p, hp, by rw [← lastB_congr (f := f) (f' := f') fun j hj => h j (by omega)]; exact hE⟩
  · rintro ⟨p, hp, hE⟩
    exact ⟨p, hp, by rw [lastB_congr (f := f) (f' := f') fun j hj => h j (by omega)]; exact hE⟩
section PFAILS2
variable {g : PG} {d : Nat} {σ : PS} {Q : Int → PS → Prop}
theorem failsB_step {E : Int → Int} {f : Nat → Int} {n k : Nat} (hk : k < n) (hn : ¬ ∃ p, p < k ∧ E (lastB f (p + 1)) ≤ imin ((p : Int) + 1) 8) (h : ¬ E (lastB f (k + 1)) ≤ imin ((k : Int) + 1) 8) : ¬ ∃ p, p < k + 1 ∧ E (lastB f (p + 1)) ≤ imin ((p : Int) + 1) 8 := by
  rintro ⟨p, hp, hE⟩
  by_cases e : p = k
  · subst e; exact h hE
  · exact hn ⟨p, by omega, hE⟩
theorem s_failsTrial_loop {E : Int → Int} {n : Nat} {f : Nat → Int} (hE : BrkM E σ) (hn : σ 88 2 = n) (hn60 : n ≤ 60) (hf : ∀ p, p < n → σ 113 p = f p ∧ (f p = 0 ∨ f p = 1)) (w : Q (if failsB E f n then 1 else 0) σ) : ∀ (m k : Nat), k + m = n → (¬ ∃ p, p < k ∧ E (lastB f (p + 1)) ≤ imin ((p : Int) + 1) 8) → XX g true (d + 2) P_X12_failsTrial 4 [(2, 88), (0, (lastB f k : Int)), (0, (k : Int))] [] 136 σ 136 Q := by
  intro m
  induction m with
  | zero =>
    intro k hk hno
    have e : k = n := by omega
    subst e
    refine B_X12_failsTrial_4 ⟨fun h => ?_, fun h => by omega⟩
    rw [if_neg hno] at w
    exact w
  | succ m ih =>
    intro k hk hno
    have h256 := lastB_256 f k
    obtain ⟨f1, f2⟩ := hf k (by omega)
    refine B_X12_failsTrial_4 ⟨fun h => by omega, fun h => ⟨by omega, fun y2 h2 => ?_⟩⟩
    rw [f1, shift_in h256 f2, ← lastB_succ] at h2
    have e2 := h2
    have e3 : w32 ((k : Int) + 1) = (k : Int) + 1 := w32_of (by omega) (by omega)
    rw [e2, e3]
    have ek : ((k : Int) + 1).toNat = k + 1 := by omega
    have hlt0 := lastB_lt (f := f) (p := k + 1) fun j hj => (hf j (by omega)).2
    have hlt : lastB f (k + 1) < 2 ^ ((k : Int) + 1).toNat := by simpa only [ek] using hlt0
    clear hlt0
    have hl2 := lastB_256 f (k + 1)
    have next := fun h => ih (k + 1) (by omega) (failsB_step (E := E) (f := f) (n := n) (k := k) (by omega) hno h)
    have stop : E (lastB f (k + 1)) ≤ imin ((k : Int) + 1) 8 → Q 1 σ := fun hk2 => by
      rw [if_pos ⟨k, by omega, hk2⟩] at w
      exact w
    clear h2 e2 ih w
    generalize lastB f (k + 1) = b' at *
    refine s_isMetM hE hl2 ⟨by omega, by omega⟩ hlt ⟨fun h3 => ?_, fun h3 => ?_⟩
    · exact next fun z => by rw [if_pos z] at h3; exact absurd h3 (by decide)
    · exact stop (Classical.byContradiction fun z => h3 (by rw [if_neg z]))
theorem s_failsTrial {E : Int → Int} {n : Nat} {f : Nat → Int} (hE : BrkM E σ) (hn : σ 88 2 = n) (hn60 : n ≤ 60) (hf : ∀ p, p < n → σ 113 p = f p ∧ (f p = 0 ∨ f p = 1)) (w : Q (if failsB E f n then 1 else 0) σ) : XX g true (d + 2) P_X12_failsTrial 0 [(2, 88), (9, 0), (9, 0)] [] 136 σ 136 Q :=
  B_X12_failsTrial_0 (s_failsTrial_loop hE hn hn60 hf w n 0 (by omega) (by rintro ⟨p, hp, -⟩; omega))
/-- an array written from the left -/
def wrS (σ : PS) (a : Int) (n : Nat) (f : Int → Int) : PS := fun a' j => if a' = a ∧ 0 ≤ j ∧ j < n then f j else σ a' j
theorem wrS_0 (σ : PS) (a : Int) (f : Int → Int) : wrS σ a 0 f = σ := by
  funext a' j
  unfold wrS
  rw [if_neg (by omega)]
theorem wrS_succ (σ : PS) (a : Int) (n : Nat) (f : Int → Int) : su (wrS σ a n f) a n (f n) = wrS σ a (n + 1) f := by
  funext a' j
  unfold wrS su
  grind
theorem wrS_ne {σ : PS} {a : Int} {n : Nat} {f : Int → Int} {a' j : Int} (h : a' ≠ a) : wrS σ a n f a' j = σ a' j := by unfold wrS; rw [if_neg (fun z => h z.1)]
theorem wrS_in {σ : PS} {a : Int} {n : Nat} {f : Int → Int} {j : Int} (h : 0 ≤ j ∧ j < n) : wrS σ a n f a j = f j := by unfold wrS; rw [if_pos ⟨rfl, h⟩]
theorem wrS_out {σ : PS} {a : Int} {n : Nat} {f : Int → Int} {j : Int} (h : ¬ (0 ≤ j ∧ j < n)) : wrS σ a n f a j = σ a j := by unfold wrS; rw [if_neg (fun z => h z.2)]
theorem BrkM_same {E : Int → Int} {σ' : PS} (h : BrkM E σ) (h1 : σ' 88 40 = σ 88 40) (h2 : ∀ j, σ' 107 j = σ 107 j) (h3 : ∀ j, σ' 108 j = σ 108 j) (h4 : ∀ j, σ' 109 j = σ 109 j) (h5 : ∀ j, σ' 110 j = σ 110 j) : BrkM E σ' := by
  have e : shF σ' = shF σ := by funext l k; exact h5 _
  unfold BrkM
  rw [h1, e, show (fun l => σ' 107 l) = (fun l => σ 107 l) from funext h2, show (fun l => σ' 108 l) = (fun l => σ 108 l) from funext h3, show (fun l => σ' 109 l) = (fun l => σ 109 l) from funext h4]
  exact h
theorem s_failsNow {E : Int → Int} {n : Nat} (hE : BrkM E σ) (hn : σ 88 2 = n) (hn60 : n ≤ 60) (hf : ∀ p : Nat, p < n → σ 91 p = 0 ∨ σ 91 p = 1) (w : Q (if failsB E (fun p => σ 91 p) n then 1 else 0) (wrS σ 113 n (fun j => σ 91 j))) : XX g true (d + 3) P_X12_failsNow 0 [(2, 88), (9, 0)] [] 136 σ 136 Q := by
  refine B_X12_failsNow_0 ?_
  have key : ∀ (m k : Nat), k + m = n → XX g true (d + 3) P_X12_failsNow 2 [(2, 88), (0, (k : Int))] [] 136 (wrS σ 113 k (fun j => σ 91 j)) 136 Q := by
    intro m
    induction m with
    | zero =>
      intro k hk
      have e : k = n := by omega
      subst e
      refine B_X12_failsNow_2 ⟨fun h => ?_, fun h => by rw [wrS_ne (by decide)] at h; omega⟩
      refine s_failsTrial (E := E) (n := k) (f := fun p => σ 91 p) (BrkM_same hE (wrS_ne (by decide)) (fun _ => wrS_ne (by decide)) (fun _ => wrS_ne (by decide)) (fun _ => wrS_ne (by decide)) (fun _ => wrS_ne (by decide))) (by rw [wrS_ne (by decide)]; exact hn) hn60 (fun p hp => ⟨wrS_in (by omega), hf p hp⟩) ?_
      refine ⟨by split <;> simp, ?_⟩
      exact w
    | succ m ih =>
      intro k hk
      refine B_X12_failsNow_2 ⟨fun h => by rw [wrS_ne (by decide)] at h; omega, fun h => ⟨by omega, ?_⟩⟩
      rw [w32_of (by omega) (by omega), wrS_ne (by decide), wrS_succ σ 113 k (fun j => σ 91 j)]
      exact ih (k + 1) (by omega)
  have h0 := key n 0 (by omega)
  rw [wrS_0] at h0
  exact h0
theorem s_breaksRow {r : Int} {n N : Nat} (hr : BrkAt r) (hN : N < 2 ^ 60) (hn : n ≤ 60) (w : Q (if failsB (fun k => σ (r + 1) k) (fun p => bitN N p) n then 1 else 0) σ) : XX g true (d + 2) P_X1_breaksRow 0 [(2, r), (1, (N : Int)), (9, 0), (0, (n : Int)), (9, 0), (9, 0)] [] 136 σ 136 Q := by
  refine B_X1_breaksRow_0 hr ?_
  have key : ∀ (m k : Nat), k + m = n → (¬ ∃ p, p < k ∧ σ (r + 1) (lastB (fun p => bitN N p) (p + 1)) ≤ imin ((p : Int) + 1) 8) → XX g true (d + 2) P_X1_breaksRow 6 [(2, r), (1, (N : Int)), (9, 0), (0, (n : Int)), (0, (lastB (fun p => bitN N p) k : Int)), (0, (k : Int))] [] 136 σ 136 Q := by
    intro m
    induction m with
    | zero =>
      intro k hk hno
      have e : k = n := by omega
      subst e
      refine B_X1_breaksRow_6 hr ⟨fun h => ?_, fun h => by omega⟩
      rw [if_neg hno] at w
      exact w
    | succ m ih =>
      intro k hk hno
      have h256 := lastB_256 (fun p => bitN N p) k
      refine B_X1_breaksRow_6 hr ⟨fun h => by omega, fun h => s_bit (by omega) (by omega) fun y3 h3 => ?_⟩
      rw [shift_in h256 (bitN_01 N k), ← lastB_succ (fun p => bitN N p)] at h3
      have e2 := h3
      have e3 : w32 ((k : Int) + 1) = (k : Int) + 1 := w32_of (by omega) (by omega)
      have h256b := lastB_256 (fun p => bitN N p) (k + 1)
      rw [e2, e3]
      refine s_isMetC hr (by omega) ?_
      rw [Nat.mod_eq_of_lt h256b]
      refine ⟨fun h4 => ?_, fun h4 => ?_⟩
      · have hk2 : ¬ σ (r + 1) (lastB (fun p => bitN N p) (k + 1)) ≤ imin ((k : Int) + 1) 8 := fun z => by rw [if_pos z] at h4; exact absurd h4 (by decide)
        exact ih (k + 1) (by omega) (failsB_step (E := fun k => σ (r + 1) k) (n := n) (by omega) hno hk2)
      · have hk2 : σ (r + 1) (lastB (fun p => bitN N p) (k + 1)) ≤ imin ((k : Int) + 1) 8 := Classical.byContradiction fun z => h4 (by rw [if_neg z])
        rw [if_pos ⟨k, by omega, hk2⟩] at w
        exact w
  exact key n 0 (by omega) (by rintro ⟨p, hp, -⟩; omega)
end PFAILS2
