/-! further calls, the model; feed, both -/
theorem brkN_lt {N n : Nat} (hn : n ≤ 60) (hN : N < 2 ^ 60) : N < 2 ^ n ↔ ∀ p : Nat, p < 60 → bitN N p = 1 → p < n := by
  constructor
  · intro h p hp hb
    rcases Nat.lt_or_ge p n with z | z
    · exact z
    · rw [bitN_out h z] at hb; exact absurd hb (by decide)
  · intro h
    refine Nat.lt_pow_two_of_testBit N fun i hi => ?_
    rcases Nat.lt_or_ge i 60 with z | z
    · have hh := h i z
      unfold bitN at hh
      cases hb : N.testBit i with
      | false => rfl
      | true => rw [hb] at hh; have := hh (by simp); omega
    · exact Nat.testBit_lt_two_pow (Nat.lt_of_lt_of_le hN (Nat.pow_le_pow_right (by decide) z))
theorem bitN_hl {a b : Nat} (ha : a < 2 ^ 30) (p : Nat) : bitN (2 ^ 30 * b + a) p = if p < 30 then bitN a p else bitN b (p - 30) := by
  unfold bitN
  rw [Nat.testBit_two_pow_mul_add b ha]
  split <;> rfl
def byteI (x z : Int) : Int := iand (ishr x z) 255
def addF4 (f : Int → Int) (ln x : Int) : Int → Int := updF (updF (updF (updF f ln (byteI x 24)) (ln + 1) (byteI x 16)) (ln + 2) (byteI x 8)) (ln + 3) (byteI x 0)
abbrev feedOk (ln : Int) : Prop := ln + 20 ≤ 500
def feedN (ln : Int) : Int := if feedOk ln then ln + 20 else ln
def feedF (ln : Int) (f : Int → Int) (a b c d e : Int) : Int → Int := if feedOk ln then addF4 (addF4 (addF4 (addF4 (addF4 f ln a) (ln + 4) b) (ln + 4 + 4) c) (ln + 4 + 4 + 4) d) (ln + 4 + 4 + 4 + 4) e else f
def feedA (ln : Int) : Int := if feedOk ln then ln + 20 else -1
theorem emod_bm (x : Int) : (x % 256).bmod 256 = x.bmod 256 := by
  rw [Int.bmod_def, Int.bmod_def]
  omega
theorem ib8_eq {x : Int} (h : in32 x) : ib8 x = x.bmod 256 := by
  unfold ib8
  rw [Int8.toInt_toInt32, Int32.toInt_toInt8, ofInt_toInt32 h]
theorem sb_eq {x : Int} (h0 : 0 ≤ x) (h1 : x < 256) : sb x = x.bmod 256 := by
  unfold sb
  rw [Int.bmod_def]
  split <;> omega
theorem shr_gen : ∀ k : Nat, k < 32 → ∀ x : Int32, (x >>> (Int32.ofInt (k : Int) &&& 31)).toInt = x.toInt / 2 ^ k := by
  intro k hk x
  have e := sh32 k hk
  show ((x >>> (Int32.ofInt (k : Int) &&& 31)).toBitVec).toInt = _
  rw [Int32.toBitVec_shiftRight, e, BitVec.sshiftRight_eq', BitVec.toInt_sshiftRight, Int.shiftRight_eq_div_pow, BitVec.toNat_ofNat, Nat.mod_eq_of_lt (by omega)]
  rfl
theorem ishr_gen {x : Int} {k : Nat} (h : in32 x) (hk : k < 32) : ishr x k = x / 2 ^ k := by
  unfold ishr
  rw [shr_gen k hk, ofInt_toInt32 h]
theorem iand255 {x : Int} (h : in32 x) : iand x 255 = x % 256 := by
  unfold iand
  have e1 : (Int32.ofInt x &&& Int32.ofInt 255).toBitVec.toNat = (Int32.ofInt x).toBitVec.toNat % 256 := by
    rw [Int32.toBitVec_and, BitVec.toNat_and, show (Int32.ofInt 255).toBitVec.toNat = 2 ^ 8 - 1 by decide, Nat.and_two_pow_sub_one_eq_mod]
  rw [toI32 (n := (Int32.ofInt x).toBitVec.toNat % 256) (by omega) e1]
  have e3 : (Int32.ofInt x).toBitVec.toInt = x := ofInt_toInt32 h
  rw [BitVec.toInt_eq_toNat_cond] at e3
  split at e3 <;> omega
theorem iushr_gen {x : Int} {k : Nat} (h : in32 x) (hk : k < 32) (h0 : 0 < k) : iushr x k = (x % 4294967296) / 2 ^ k := by
  by_cases hx : 0 ≤ x
  · obtain ⟨n, rfl⟩ : ∃ n : Nat, x = (n : Int) := ⟨x.toNat, by omega⟩
    unfold in32 at h
    rw [iushr_nat (by omega) (by omega), Int.emod_eq_of_lt (by omega) (by omega)]
    rw [Int.natCast_ediv, Int.natCast_pow]
    rfl
  · unfold iushr
    have e2 : ((Int32.ofInt x).toUInt32 >>> ((Int32.ofInt (k : Int)).toUInt32 &&& Int32.toUInt32 31)).toNat = (x + 4294967296).toNat / 2 ^ k := by
      rw [UInt32.toNat_shiftRight, i32_nat h (by omega)]
      have e : ((Int32.ofInt (k : Int)).toUInt32 &&& Int32.toUInt32 31).toNat % 32 = k := ushr32 k hk
      rw [e, Nat.shiftRight_eq_div_pow]
    have hp : 2 ≤ 2 ^ k := Nat.le_trans (by decide) (Nat.pow_le_pow_right (n := 2) (by decide) h0)
    have hlt : (x + 4294967296).toNat / 2 ^ k < 2 ^ 31 := by
      unfold in32 at h
      refine Nat.div_lt_of_lt_mul ?_
      have : 2 * 2 ^ 31 ≤ 2 ^ k * 2 ^ 31 := Nat.mul_le_mul_right _ hp
      omega
    rw [toI32 (n := (x + 4294967296).toNat / 2 ^ k) hlt (by exact e2)]
    unfold in32 at h
    rw [show x % 4294967296 = x + 4294967296 by omega, Int.natCast_ediv, Int.natCast_pow]
    rw [show (((x + 4294967296).toNat : Nat) : Int) = x + 4294967296 by omega]
    rfl
theorem iushr_0 {x : Int} (h : in32 x) : iushr x 0 = x := by
  unfold iushr
  have e : (Int32.ofInt x).toUInt32 >>> ((Int32.ofInt 0).toUInt32 &&& Int32.toUInt32 31) = (Int32.ofInt x).toUInt32 := by
    apply UInt32.toNat_inj.mp
    rw [UInt32.toNat_shiftRight, show (((Int32.ofInt 0).toUInt32 &&& Int32.toUInt32 31).toNat % 32) = 0 by decide, Nat.shiftRight_zero]
  rw [e, Int32.toInt32_toUInt32]
  exact ofInt_toInt32 h
theorem byte_in {x z : Int} (h : in32 x) (hz : z = 24 ∨ z = 16 ∨ z = 8 ∨ z = 0) : byteI x z = (x / 2 ^ z.toNat) % 256 ∧ (0 ≤ byteI x z ∧ byteI x z ≤ 255) := by
  have e : byteI x z = (x / 2 ^ z.toNat) % 256 := by
    unfold byteI
    have e1 : ishr x z = x / 2 ^ z.toNat := by
      have := ishr_gen (k := z.toNat) h (by omega)
      rw [show ((z.toNat : Nat) : Int) = z by omega] at this
      exact this
    rw [e1, iand255]
    unfold in32 at h ⊢
    rcases hz with rfl | rfl | rfl | rfl <;> simp only [show Int.toNat 24 = 24 from rfl, show Int.toNat 16 = 16 from rfl, show Int.toNat 8 = 8 from rfl, show Int.toNat 0 = 0 from rfl] <;> omega
  rw [e]
  refine ⟨rfl, ?_⟩
  omega
theorem byte_sb {x z : Int} (h : in32 x) (hz : z = 24 ∨ z = 16 ∨ z = 8 ∨ z = 0) : ib8 (ib8 (iushr x z)) = sb (byteI x z) := by
  obtain ⟨e1, e2, e3⟩ := byte_in h hz
  have i32 : ∀ y, in32 y → ib8 (ib8 y) = y.bmod 256 := fun y hy => by
    rw [ib8_eq hy, ib8_eq (by unfold in32; rw [Int.bmod_def]; omega)]
    rw [Int.bmod_def, Int.bmod_def]
    omega
  rw [i32 _ (by unfold iushr; exact toInt_in32 _), sb_eq e2 (by omega), e1, emod_bm]
  have h' := h
  unfold in32 at h'
  rcases hz with rfl | rfl | rfl | rfl
  · have e := iushr_gen (k := 24) h (by decide) (by decide)
    rw [show ((24 : Nat) : Int) = 24 from rfl] at e
    rw [e, Int.bmod_def, Int.bmod_def]
    simp only [show Int.toNat 24 = 24 from rfl]
    omega
  · have e := iushr_gen (k := 16) h (by decide) (by decide)
    rw [show ((16 : Nat) : Int) = 16 from rfl] at e
    rw [e, Int.bmod_def, Int.bmod_def]
    simp only [show Int.toNat 16 = 16 from rfl]
    omega
  · have e := iushr_gen (k := 8) h (by decide) (by decide)
    rw [show ((8 : Nat) : Int) = 8 from rfl] at e
    rw [e, Int.bmod_def, Int.bmod_def]
    simp only [show Int.toNat 8 = 8 from rfl]
    omega
  · rw [iushr_0 h]
    simp
section PCALLSN
variable {g : PG} {d : Nat} {Q : Int → PS → Prop} {t : TS} {fk fp ln : Int} {f : Int → Int} {im : Option TS} {σ : PS}
theorem a_faultM {x : Int} (h : ModB t fk fp ln f im σ) (w : ∀ σ', eqd8 σ σ' → ModB t fk fp ln f im σ' → Q (faultA fk fp x) σ') : XX g true (d + 40) P_X12_fault 0 [(2, 88), (0, x)] [] 136 σ 136 Q := by
  obtain ⟨hx, h0⟩ := h.told
  have e := w _ hx h0
  unfold faultA at e
  refine B_X12_fault_0 ⟨fun z => ⟨fun z1 => ?_, fun z1 => ?_⟩, fun z => ?_⟩
  · rw [if_neg z, if_neg z1] at e; exact e
  · rw [if_neg z, if_pos z1] at e; rw [h.2.1.2]; exact e
  · rw [if_pos z] at e; rw [h.2.1.1]; exact e
theorem ModB.tape {σ' : PS} {ln' : Int} {f' : Int → Int} (h : ModB t fk fp ln f im σ) (hx : eqm [98] [19] σ σ') (hT : TapM ln' f' σ') : ModB t fk fp ln' f' im σ' := by
  obtain ⟨⟨a1, a2, a3, a4, a5⟩, ⟨a6, a7⟩, -, a10, a11⟩ := h
  have o : ∀ a, a ≠ 98 → a ∉ ([98] : List Int) := fun a ha z => ha (List.mem_singleton.mp z)
  have oj : ∀ j, j ≠ 19 → j ∉ ([19] : List Int) := fun a ha z => ha (List.mem_singleton.mp z)
  refine ⟨⟨a1.m hx (fun a b1 b2 => o a (by omega)) (fun j hj => oj j (by omega)), a2.mm hx (fun a b1 b2 => o a (by omega)), a3.mm hx (fun a b1 b2 => o a (by omega)), a4.mm hx (fun a b1 b2 => o a (by omega)), a5.mm hx (by decide) (fun a b1 b2 => o a (by omega))⟩, ⟨?_, ?_⟩, hT, fun i i1 => ?_, a11.m hx (by decide) (by decide) (by decide)⟩
  · rw [hx.2 38 (by decide)]; exact a6
  · rw [hx.2 39 (by decide)]; exact a7
  · rw [hx.1 99 (by decide) (by decide)]; exact a10 i i1
theorem a_endM {n : Int} (h : ModB t fk fp ln f im σ) (w : ∀ σ', eqd8 σ σ' → ModB t fk fp (endN ln n) f im σ' → Q (endA ln n) σ') : XX g true (d + 40) P_X12_end 0 [(2, 88), (0, n)] [] 136 σ 136 Q := by
  obtain ⟨hx, h0⟩ := h.told
  unfold endN endA at w
  refine B_X12_end_0 ?_
  rw [h.2.2.1.1]
  generalize su σ 88 0 0 = σ0 at *
  refine s_isIn ⟨fun z => ?_, fun z => ?_⟩
  · have c := isIn_pos z
    rw [if_pos c, if_pos c] at w
    have hy : eqm [98] [19] σ0 (su σ0 88 19 n) := eqm.rf.s8 (by decide)
    refine w _ (hx.tr (hy.d8 fun a ha q => by simp only [List.mem_singleton] at q; omega)) (h0.tape hy ⟨su_eq, fun i i0 i1 => ?_⟩)
    rw [su_ne (Or.inl (by decide))]
    exact h0.2.2.1.2 i i0 (by omega)
  · have c := isIn_neg z
    rw [if_neg c, if_neg c] at w
    exact w σ0 hx h0
theorem a_lookM {x : Int} (h : ModB t fk fp ln f im σ) (ok : OkT t) (hx : in32 x) (w : ∀ σ', eqd8 σ σ' → ModB t fk fp ln f im σ' → Q (lookA t x) σ') : XX g true (d + 40) P_X12_look 0 [(2, 88), (0, x), (9, 0), (9, 0)] [] 136 σ 136 Q := by
  obtain ⟨hx0, h0⟩ := h.told
  have e := w _ hx0 h0
  have k1 := ok.1.1
  obtain ⟨c0, c1, c2, c3, c4, c5, c6, c7⟩ := h.1.1.1.1
  unfold lookA at e w
  refine B_X12_look_0 ⟨fun q0 => ⟨fun q1 => ⟨fun q2 => ⟨fun q3 => ⟨fun q4 => ⟨fun q6 => ⟨fun q7 => ⟨fun q8 => ?_, fun q8 => ?_⟩, fun q7 => ?_⟩, fun q6 => ?_⟩, fun q4 => ?_⟩, fun q3 => ?_⟩, fun q2 => ?_⟩, fun q1 => ?_⟩, fun q0 => ?_⟩
  · generalize su σ 88 0 0 = σ0 at *
    refine s_isIn ⟨fun z => ⟨fun z5 => ?_, fun z5 => ?_⟩, fun z => ?_⟩
    · rw [if_neg q0, if_neg q1, if_neg q2, if_neg q3, if_neg q4, if_pos z5] at e
      have hb : ∀ p : Nat, p < 60 → σ0 91 p = t.1 3 p ∧ (t.1 3 p = 0 ∨ t.1 3 p = 1) := fun p hp => ⟨(h0.1.1.1.2.1 p (by omega) (by omega)).2.2.1, (ok.1.2.2.1 p (by omega) (by omega)).2.1⟩
      have e2 : σ0 88 2 = t.1 0 0 := h0.1.1.1.1.1
      have gb : ∀ m : Nat, m ≤ 60 → gonS (t.1 3) m ≤ m := by
        intro m
        induction m with
        | zero => intro _; exact Nat.le_refl 0
        | succ m ih =>
          intro hm
          have := ih (by omega)
          have := (hb m (by omega)).2
          show gonS (t.1 3) m + (t.1 3 m).toNat ≤ m + 1
          omega
      have key : ∀ (m k : Nat), k + m = (t.1 0 0).toNat → XX g true (d + 40) P_X12_look 128 [(2, 88), (9, 0), (0, (gonS (t.1 3) k : Int)), (0, (k : Int))] [] 136 σ0 136 Q := by
        intro m
        induction m with
        | zero =>
          intro k hk
          refine B_X12_look_128 ⟨fun _ => ?_, fun q => by rw [e2] at q; omega⟩
          rw [show k = (t.1 0 0).toNat by omega]
          exact e
        | succ m ih =>
          intro k hk
          have h1 := ih (k + 1) (by omega)
          have h2 := gb k (by omega)
          obtain ⟨b1, b2⟩ := hb k (by omega)
          refine B_X12_look_128 ⟨fun q => by rw [e2] at q; omega, fun q => ⟨by omega, fun y2 ey => ?_⟩⟩
          have e3 : gonS (t.1 3) (k + 1) = gonS (t.1 3) k + (t.1 3 k).toNat := rfl
          rw [b1, w32_of (by omega) (by omega)] at ey
          have e4 : y2 = ((gonS (t.1 3) (k + 1) : Nat) : Int) := by omega
          rw [e4, w32_of (by omega) (by omega)]
          exact h1
      exact key (t.1 0 0).toNat 0 (by omega)
    · rw [if_neg q0, if_neg q1, if_neg q2, if_neg q3, if_neg q4, if_neg z5, if_neg q6, if_neg q7, if_neg q8, if_neg (isIn_neg z)] at e
      exact e
    · have c := isIn_pos z
      rw [if_neg q0, if_neg q1, if_neg q2, if_neg q3, if_neg q4, if_neg (by omega), if_neg q6, if_neg q7, if_neg q8, if_pos c] at e
      rw [w32_of (by omega) (by omega)]
      refine ⟨by omega, ?_⟩
      have e9 : σ0 97 (x - 9) = t.1 9 (x - 9) := by
        by_cases z3 : x - 9 = 3
        · rw [z3]; exact h0.1.1.2
        · exact h0.1.1.1.2.2.2 (x - 9) (by omega) (by omega) z3
      rw [e9]
      exact e
  · rw [if_neg q0, if_neg q1, if_neg q2, if_neg q3, if_neg q4, if_neg (by omega), if_neg q6, if_neg q7, if_pos q8] at e
    rw [c7]; exact e
  · rw [if_neg q0, if_neg q1, if_neg q2, if_neg q3, if_neg q4, if_neg (by omega), if_neg q6, if_pos q7] at e
    rw [c6]; exact e
  · rw [if_neg q0, if_neg q1, if_neg q2, if_neg q3, if_neg q4, if_neg (by omega), if_pos q6] at w
    have e2 : su σ 88 0 0 88 2 = ((t.1 0 0).toNat : Int) := by rw [h0.1.1.1.1.1]; omega
    have e91 : ∀ p : Nat, p < (t.1 0 0).toNat → su σ 88 0 0 91 p = t.1 3 p := fun p hp => (h0.1.1.1.2.1 p (by omega) (by omega)).2.2.1
    generalize su σ 88 0 0 = σ0 at *
    refine s_failsNow (E := t.2.2.2.2) (n := (t.1 0 0).toNat) h0.1.2.2.2.2 e2 (by omega) (fun p hp => ?_) ?_
    · rw [e91 p hp]
      exact (ok.1.2.2.1 p (by omega) (by omega)).2.1
    · have hy : eqm [113] [] σ0 (wrS σ0 113 (t.1 0 0).toNat (fun j => σ0 91 j)) := eqm.rf.x (L' := [113]) (fun a ha j => wrS_ne (by simpa using ha)) (by decide) (by decide)
      have := scr_m h0 hy (by decide) (by decide)
      have h9 := w _ (hx0.tr this.1) this.2
      have hf : failsB t.2.2.2.2 (fun p => σ0 91 p) (t.1 0 0).toNat ↔ failsB t.2.2.2.2 (fun p => t.1 3 p) (t.1 0 0).toNat := failsB_congr e91
      by_cases c : failsB t.2.2.2.2 (fun p => t.1 3 p) (t.1 0 0).toNat
      · rw [if_pos c] at h9
        rw [if_pos (hf.mpr c)]
        exact ⟨fun q => absurd q (by decide), fun _ => h9⟩
      · rw [if_neg c] at h9
        rw [if_neg (fun q => c (hf.mp q))]
        exact ⟨fun _ => h9, fun q => absurd rfl q⟩
  · rw [if_neg q0, if_neg q1, if_neg q2, if_neg q3, if_pos q4] at e
    rw [c5]; exact e
  · rw [if_neg q0, if_neg q1, if_neg q2, if_pos q3] at e
    rw [c4]; exact e
  · rw [if_neg q0, if_neg q1, if_pos q2] at e
    rw [c3]; exact e
  · rw [if_neg q0, if_pos q1] at e
    rw [c2]; exact e
  · rw [if_pos q0] at e
    rw [c0]; exact e
theorem s_areBits {v first n : Int} (hv : in32 v) (hf : 0 ≤ first ∧ first ≤ 30) (hn : σ 88 2 = n) (w1 : (0 ≤ v ∧ v < 1073741824) → (∀ p : Nat, p < 30 → bitN v.toNat p = 1 → first + p < n) → Q 1 σ) (w0 : ¬ ((0 ≤ v ∧ v < 1073741824) ∧ ∀ p : Nat, p < 30 → bitN v.toNat p = 1 → first + p < n) → Q 0 σ) : XX g true d P_X12_areBits 0 [(2, 88), (0, v), (0, first), (9, 0)] [] 136 σ 136 Q := by
  refine B_X12_areBits_0 ⟨fun z => w0 fun q => by omega, fun z => ⟨fun z1 => ?_, fun z1 => w0 fun q => by omega⟩⟩
  obtain ⟨a, rfl⟩ : ∃ a : Nat, v = (a : Int) := ⟨v.toNat, by omega⟩
  rw [Int.toNat_natCast] at w1 w0
  have key : ∀ (m k : Nat), k + m = 30 → (∀ p : Nat, p < k → bitN a p = 1 → first + p < n) → XX g true d P_X12_areBits 15 [(2, 88), (0, (a : Int)), (0, first), (0, (k : Int))] [] 136 σ 136 Q := by
    intro m
    induction m with
    | zero =>
      intro k hk h
      have e : k = 30 := by omega
      subst e
      exact B_X12_areBits_15 ⟨fun _ => w1 ⟨z, z1⟩ h, fun q => by omega⟩
    | succ m ih =>
      intro k hk h
      have next : (bitN a k = 1 → first + k < n) → XX g true d P_X12_areBits 15 [(2, 88), (0, (a : Int)), (0, first), (0, (k : Int) + 1)] [] 136 σ 136 Q := fun h2 => ih (k + 1) (by omega) fun p hp hb => by
        by_cases e : p = k
        · subst e; exact h2 hb
        · exact h p (by omega) hb
      refine B_X12_areBits_15 ⟨fun q => by omega, fun _ => ?_⟩
      rw [bit_and1 (by omega) (by omega), w32_of (x := (k : Int) + 1) (by omega) (by omega), w32_of (x := first + (k : Int)) (by omega) (by omega), hn]
      exact ⟨fun q => next fun q2 => absurd q2 q, fun q => ⟨fun q2 => next fun _ => q2, fun q2 => w0 fun q3 => by have := q3.2 k (by omega) q; omega⟩⟩
  exact key 30 0 (by omega) fun p hp => by omega
theorem a_failsM {lo hi : Int} (h : ModB t fk fp ln f im σ) (ok : OkT t) (hlo : in32 lo) (hhi : in32 hi) (w : ∀ σ', eqd8 σ σ' → ModB t fk fp ln f im σ' → Q (failsA t lo hi) σ') : XX g true (d + 40) P_X12_fails 0 [(2, 88), (0, lo), (0, hi), (9, 0)] [] 136 σ 136 Q := by
  obtain ⟨hx, h0⟩ := h.told
  have k1 := ok.1.1
  refine B_X12_fails_0 ?_
  generalize su σ 88 0 0 = σ0 at *
  have e2 : σ0 88 2 = t.1 0 0 := h0.1.1.1.1.1
  unfold failsA at w
  have hbits : ∀ {l u : Int}, (0 ≤ l ∧ l < 1073741824) → (0 ≤ u ∧ u < 1073741824) → (2 ^ 30 * u.toNat + l.toNat < 2 ^ (t.1 0 0).toNat ↔ (∀ p : Nat, p < 30 → bitN l.toNat p = 1 → 0 + (p : Int) < t.1 0 0) ∧ ∀ p : Nat, p < 30 → bitN u.toNat p = 1 → 30 + (p : Int) < t.1 0 0) := by
    intro l u hl hu
    rw [brkN_lt (by omega) (by omega)]
    have hl2 : l.toNat < 2 ^ 30 := by omega
    constructor
    · intro q
      refine ⟨fun p hp hb => ?_, fun p hp hb => ?_⟩
      · have := q p (by omega) (by rw [bitN_hl hl2, if_pos hp]; exact hb)
        omega
      · have := q (30 + p) (by omega) (by rw [bitN_hl hl2, if_neg (by omega), show 30 + p - 30 = p by omega]; exact hb)
        omega
    · rintro ⟨q1, q2⟩ p hp hb
      rw [bitN_hl hl2] at hb
      split at hb
      · have := q1 p (by omega) hb; omega
      · have := q2 (p - 30) (by omega) hb; omega
  have bad : ¬ bitsOk (t.1 0 0) lo hi → Q (-1) σ0 := fun z => by
    have := w σ0 hx h0
    rw [if_neg z] at this
    exact this
  refine s_areBits hlo (by decide) e2 (fun c1 c2 => ⟨fun q => absurd q (by decide), fun _ => s_areBits hhi (by decide) e2 (fun d1 d2 => ⟨fun _ => ?_, fun q => absurd q (by decide)⟩) fun q => ⟨fun q2 => absurd rfl q2, fun _ => bad fun z => q ⟨z.2.1, ((hbits z.1 z.2.1).mp z.2.2).2⟩⟩⟩) fun q => ⟨fun _ => bad fun z => q ⟨z.1, ((hbits z.1 z.2.1).mp z.2.2).1⟩, fun q2 => absurd rfl q2⟩
  have hok : bitsOk (t.1 0 0) lo hi := ⟨c1, d1, (hbits c1 d1).mpr ⟨c2, d2⟩⟩
  rw [if_pos hok] at w
  have hlo2 : lo.toNat < 2 ^ 30 := by omega
  have key : ∀ (m k : Nat) (σ1 : PS), k + m = (t.1 0 0).toNat → eqm [113] [] σ0 σ1 → (∀ p : Nat, p < k → σ1 113 p = bitN (2 ^ 30 * hi.toNat + lo.toNat) p) → XX g true (d + 40) P_X12_fails 28 [(2, 88), (0, lo), (0, hi), (0, (k : Int))] [] 136 σ1 136 Q := by
    intro m
    induction m with
    | zero =>
      intro k σ1 hk hx1 hb
      have e22 : σ1 88 2 = t.1 0 0 := by rw [hx1.2 2 (by decide)]; exact e2
      have := scr_m h0 hx1 (by decide) (by decide)
      have h9 := w σ1 (hx.tr this.1) this.2
      refine B_X12_fails_28 ⟨fun _ => ?_, fun q => by rw [e22] at q; omega⟩
      refine s_failsTrial (n := (t.1 0 0).toNat) (f := fun p => bitN (2 ^ 30 * hi.toNat + lo.toNat) p) this.2.1.2.2.2.2 (by rw [e22]; omega) (by omega) (fun p hp => ⟨hb p (by omega), bitN_01 _ _⟩) ?_
      by_cases c : failsB t.2.2.2.2 (fun p => bitN (2 ^ 30 * hi.toNat + lo.toNat) p) (t.1 0 0).toNat
      · rw [if_pos c] at h9
        rw [if_pos c]
        exact ⟨fun q => absurd q (by decide), fun _ => h9⟩
      · rw [if_neg c] at h9
        rw [if_neg c]
        exact ⟨fun _ => h9, fun q => absurd rfl q⟩
    | succ m ih =>
      intro k σ1 hk hx1 hb
      have e22 : σ1 88 2 = t.1 0 0 := by rw [hx1.2 2 (by decide)]; exact e2
      have next : XX g true (d + 40) P_X12_fails 28 [(2, 88), (0, lo), (0, hi), (0, (k : Int) + 1)] [] 136 (su σ1 113 k (bitN (2 ^ 30 * hi.toNat + lo.toNat) k)) 136 Q := ih (k + 1) _ (by omega) (hx1.sa (by decide) (by decide)) fun p hp => by
        by_cases e : p = k
        · subst e; exact su_eq
        · rw [su_ne (Or.inr (by omega))]; exact hb p (by omega)
      have eb := bitN_hl (b := hi.toNat) hlo2 k
      refine B_X12_fails_28 ⟨fun q => by rw [e22] at q; omega, fun _ => ⟨fun q => ⟨by omega, ?_⟩, fun q => ⟨by omega, ?_⟩⟩⟩
      · rw [if_neg (by omega)] at eb
        rw [w32_of (x := (k : Int) - 30) (by omega) (by omega), w32_of (by omega) (by omega)]
        have e3 : iand (ishr hi ((k : Int) - 30)) 1 = bitN hi.toNat (k - 30) := by
          have := bit_and1 (b := hi.toNat) (p := k - 30) (by omega) (by omega)
          rw [show ((hi.toNat : Nat) : Int) = hi by omega, show ((k - 30 : Nat) : Int) = (k : Int) - 30 by omega] at this
          exact this
        rw [e3, ← eb]
        exact next
      · rw [if_pos (by omega)] at eb
        rw [w32_of (by omega) (by omega)]
        have e3 : iand (ishr lo (k : Int)) 1 = bitN lo.toNat k := by
          have := bit_and1 (b := lo.toNat) (p := k) (by omega) (by omega)
          rw [show ((lo.toNat : Nat) : Int) = lo by omega] at this
          exact this
        rw [e3, ← eb]
        exact next
  exact key (t.1 0 0).toNat 0 σ0 (by omega) eqm.rf fun p hp => by omega
theorem a_imageM {b : Int} (hb : b = 0 ∨ b = 1) (h : ModB t fk fp ln f im σ) (oki : ∀ u, im = some u → OkT u) (w : ∀ σ', eqd8 σ σ' → ModB (imgN t im b) fk fp ln f (imgI t im b) σ' → Q (imgA im b) σ') : XX g true (d + 40) P_X12_image 0 [(2, 88), (0, b), (9, 0)] [] 136 σ 136 Q := by
  unfold imgN imgI imgA at w
  rcases hb with rfl | rfl
  · rw [if_pos rfl, if_pos rfl, if_pos rfl] at w
    cases him : im with
    | none =>
      subst him
      refine s_imageNoM h.2.2.2.2 fun σ' hx => ?_
      exact w σ' (hx.d8 fun a _ z => by simp at z) (h.scr hx (fun a _ z => by simp at z) fun j hj z => by simp at z; omega)
    | some u =>
      subst him
      obtain ⟨e75, hI⟩ := h.2.2.2.2
      have oku := oki u rfl
      refine s_imageGetM hI oku.2.2.1 oku.2.2.2.1 oku.2.2.2.2 e75 fun σ' hx e75' hR hT hT1 hT2 hE => ?_
      refine w σ' (hx.d8 fun a ha z => by simp only [List.mem_cons, List.not_mem_nil, or_false] at z; omega) ⟨⟨hR, hT, hT1, hT2, hE⟩, ⟨?_, ?_⟩, ⟨?_, fun i i0 i1 => ?_⟩, fun i i1 => ?_, e75', hI.m hx (by decide) (by decide)⟩
      · rw [hx.2 38 (by decide)]; exact h.2.1.1
      · rw [hx.2 39 (by decide)]; exact h.2.1.2
      · rw [hx.2 19 (by decide)]; exact h.2.2.1.1
      · rw [hx.1 98 (by decide) (by decide)]; exact h.2.2.1.2 i i0 i1
      · rw [hx.1 99 (by decide) (by decide)]; exact h.2.2.2.1 i i1
  · rw [if_neg (by decide), if_neg (by decide), if_neg (by decide)] at w
    refine s_imagePutM h.1.1 h.1.2.1 h.1.2.2.1 h.1.2.2.2.1 h.1.2.2.2.2 fun σ' hx e75' hI => ?_
    obtain ⟨⟨a1, a2, a3, a4, a5⟩, ⟨a6, a7⟩, ⟨a8, a9⟩, a10, a11⟩ := h
    have o : ∀ a, ((89 ≤ a ∧ a ≤ 132)) → a ∉ ([133, 134, 135] : List Int) := fun a ha z => by simp only [List.mem_cons, List.not_mem_nil, or_false] at z; omega
    refine w σ' (hx.d8 fun a ha z => by simp only [List.mem_cons, List.not_mem_nil, or_false] at z; omega) ⟨⟨a1.m hx (fun a b1 b2 => o a (by omega)) (fun j hj z => by simp only [List.mem_cons, List.not_mem_nil, or_false] at z; omega), a2.mm hx (fun a b1 b2 => o a (by omega)), a3.mm hx (fun a b1 b2 => o a (by omega)), a4.mm hx (fun a b1 b2 => o a (by omega)), a5.mm hx (by decide) (fun a b1 b2 => o a (by omega))⟩, ⟨?_, ?_⟩, ⟨?_, fun i i0 i1 => ?_⟩, fun i i1 => ?_, e75', hI⟩
    · rw [hx.2 38 (by decide)]; exact a6
    · rw [hx.2 39 (by decide)]; exact a7
    · rw [hx.2 19 (by decide)]; exact a8
    · rw [hx.1 98 (by decide) (by decide)]; exact a9 i i0 i1
    · rw [hx.1 99 (by decide) (by decide)]; exact a10 i i1
end PCALLSN
