/-! BITS, over naturals -/
theorem bv32 {n : Nat} (h : n < 2 ^ 31) : (Int32.ofInt (n : Int)).toBitVec = BitVec.ofNat 32 n := by
  show BitVec.ofInt 32 (n : Int) = _
  exact BitVec.ofInt_natCast ..
theorem bv64 {n : Nat} (h : n < 2 ^ 63) : (Int64.ofInt (n : Int)).toBitVec = BitVec.ofNat 64 n := by
  show BitVec.ofInt 64 (n : Int) = _
  exact BitVec.ofInt_natCast ..
theorem toI32 {x : Int32} {n : Nat} (h : n < 2 ^ 31) (e : x.toBitVec.toNat = n) : x.toInt = (n : Int) := by
  show x.toBitVec.toInt = _
  rw [BitVec.toInt_eq_toNat_of_lt (by omega), e]
theorem toI64 {x : Int64} {n : Nat} (h : n < 2 ^ 63) (e : x.toBitVec.toNat = n) : x.toInt = (n : Int) := by
  show x.toBitVec.toInt = _
  rw [BitVec.toInt_eq_toNat_of_lt (by omega), e]
theorem tn32 {n : Nat} (h : n < 2 ^ 31) : (Int32.ofInt (n : Int)).toBitVec.toNat = n := by
  rw [bv32 h, BitVec.toNat_ofNat]; omega
theorem tn64 {n : Nat} (h : n < 2 ^ 63) : (Int64.ofInt (n : Int)).toBitVec.toNat = n := by
  rw [bv64 h, BitVec.toNat_ofNat]; omega
theorem iand_nat {a b : Nat} (ha : a < 2 ^ 31) (hb : b < 2 ^ 31) : iand (a : Int) (b : Int) = ((a &&& b : Nat) : Int) := by
  unfold iand
  refine toI32 (Nat.lt_of_le_of_lt Nat.and_le_left ha) ?_
  rw [Int32.toBitVec_and, BitVec.toNat_and, tn32 ha, tn32 hb]
theorem ior_nat {a b : Nat} (ha : a < 2 ^ 31) (hb : b < 2 ^ 31) : ior (a : Int) (b : Int) = ((a ||| b : Nat) : Int) := by
  unfold ior
  refine toI32 (Nat.or_lt_two_pow ha hb) ?_
  rw [Int32.toBitVec_or, BitVec.toNat_or, tn32 ha, tn32 hb]
theorem land_nat {a b : Nat} (ha : a < 2 ^ 63) (hb : b < 2 ^ 63) : land (a : Int) (b : Int) = ((a &&& b : Nat) : Int) := by
  unfold land
  refine toI64 (Nat.lt_of_le_of_lt Nat.and_le_left ha) ?_
  rw [Int64.toBitVec_and, BitVec.toNat_and, tn64 ha, tn64 hb]
theorem lor_nat {a b : Nat} (ha : a < 2 ^ 63) (hb : b < 2 ^ 63) : lor (a : Int) (b : Int) = ((a ||| b : Nat) : Int) := by
  unfold lor
  refine toI64 (Nat.or_lt_two_pow ha hb) ?_
  rw [Int64.toBitVec_or, BitVec.toNat_or, tn64 ha, tn64 hb]
/-- x without the bits of b -/
theorem landn_nat {a b : Nat} (ha : a < 2 ^ 63) (hb : b < 2 ^ 63) : land (a : Int) (lxor (b : Int) (-1)) = ((a &&& (2 ^ 64 - 1 - b) : Nat) : Int) := by
  unfold land
  refine toI64 (Nat.lt_of_le_of_lt Nat.and_le_left ha) ?_
  rw [Int64.toBitVec_and, BitVec.toNat_and, tn64 ha]
  congr 1
  unfold lxor
  rw [Int64.ofInt_toInt, Int64.toBitVec_xor]
  have e : (Int64.ofInt (-1)).toBitVec = BitVec.allOnes 64 := by decide
  rw [e, BitVec.xor_allOnes, BitVec.toNat_not, tn64 hb]
theorem sh32 : ∀ k : Nat, k < 32 → (Int32.ofInt (k : Int) &&& 31).toBitVec.smod 32 = BitVec.ofNat 32 k := by decide +kernel
theorem sh64 : ∀ k : Nat, k < 64 → ((Int32.ofInt (k : Int)).toInt64 &&& 63).toBitVec.smod 64 = BitVec.ofNat 64 k := by decide +kernel
theorem ushr64 : ∀ k : Nat, k < 64 → (((Int32.ofInt (k : Int)).toInt64.toUInt64 &&& Int64.toUInt64 63).toBitVec % 64).toNat = k := by decide +kernel
theorem ushr32 : ∀ k : Nat, k < 32 → (((Int32.ofInt (k : Int)).toUInt32 &&& Int32.toUInt32 31).toBitVec % 32).toNat = k := by decide +kernel
theorem ishl_nat {a k : Nat} (hk : k < 32) (h : a * 2 ^ k < 2 ^ 31) : ishl (a : Int) (k : Int) = ((a * 2 ^ k : Nat) : Int) := by
  have ha : a < 2 ^ 31 := by
    have : 1 ≤ 2 ^ k := Nat.one_le_two_pow
    have := Nat.mul_le_mul_left a this
    omega
  unfold ishl
  refine toI32 h ?_
  show (Int32.ofInt (a : Int) <<< (Int32.ofInt (k : Int) &&& 31)).toBitVec.toNat = _
  rw [Int32.toBitVec_shiftLeft, sh32 k hk, BitVec.shiftLeft_eq', BitVec.toNat_shiftLeft, tn32 ha, BitVec.toNat_ofNat, Nat.mod_eq_of_lt (by omega : k < 2 ^ 32), Nat.shiftLeft_eq]
  omega
theorem lshl_nat {a k : Nat} (hk : k < 64) (h : a * 2 ^ k < 2 ^ 63) : lshl (a : Int) (k : Int) = ((a * 2 ^ k : Nat) : Int) := by
  have ha : a < 2 ^ 63 := by
    have : 1 ≤ 2 ^ k := Nat.one_le_two_pow
    have := Nat.mul_le_mul_left a this
    omega
  unfold lshl
  refine toI64 h ?_
  rw [Int64.toBitVec_shiftLeft, sh64 k hk, BitVec.shiftLeft_eq', BitVec.toNat_shiftLeft, tn64 ha, BitVec.toNat_ofNat, Nat.mod_eq_of_lt (by omega : k < 2 ^ 64), Nat.shiftLeft_eq]
  omega
theorem lushr_nat {a k : Nat} (hk : k < 64) (ha : a < 2 ^ 63) : lushr (a : Int) (k : Int) = ((a / 2 ^ k : Nat) : Int) := by
  unfold lushr
  have hle : a / 2 ^ k ≤ a := Nat.div_le_self _ _
  refine toI64 (by omega) ?_
  show ((Int64.ofInt (a : Int)).toUInt64 >>> _).toBitVec.toNat = _
  rw [UInt64.toBitVec_shiftRight, BitVec.ushiftRight_eq', BitVec.toNat_ushiftRight, ushr64 k hk]
  show (Int64.ofInt (a : Int)).toBitVec.toNat >>> k = _
  rw [tn64 ha, Nat.shiftRight_eq_div_pow]
theorem iushr_nat {a k : Nat} (hk : k < 32) (ha : a < 2 ^ 31) : iushr (a : Int) (k : Int) = ((a / 2 ^ k : Nat) : Int) := by
  unfold iushr
  have hle : a / 2 ^ k ≤ a := Nat.div_le_self _ _
  refine toI32 (by omega) ?_
  show ((Int32.ofInt (a : Int)).toUInt32 >>> _).toBitVec.toNat = _
  rw [UInt32.toBitVec_shiftRight, BitVec.ushiftRight_eq', BitVec.toNat_ushiftRight, ushr32 k hk]
  show (Int32.ofInt (a : Int)).toBitVec.toNat >>> k = _
  rw [tn32 ha, Nat.shiftRight_eq_div_pow]
theorem ishr_nat {a k : Nat} (hk : k < 32) (ha : a < 2 ^ 31) : ishr (a : Int) (k : Int) = ((a / 2 ^ k : Nat) : Int) := by
  unfold ishr
  have hle : a / 2 ^ k ≤ a := Nat.div_le_self _ _
  show (Int32.ofInt (a : Int) >>> (Int32.ofInt (k : Int) &&& 31)).toBitVec.toInt = _
  rw [Int32.toBitVec_shiftRight, sh32 k hk, BitVec.sshiftRight_eq', BitVec.toInt_sshiftRight, BitVec.toNat_ofNat, Nat.mod_eq_of_lt (by omega : k < 2 ^ 32)]
  have : (Int32.ofInt (a : Int)).toBitVec.toInt = (a : Int) := toI32 ha (tn32 ha)
  rw [this, Int.shiftRight_eq_div_pow]
  norm_cast
theorem l2i_nat {a : Nat} (ha : a < 2 ^ 31) : l2i (a : Int) = (a : Int) := by
  unfold l2i
  have : (Int64.ofInt (a : Int)).toInt32 = Int32.ofInt (a : Int) := by
    apply Int32.toInt_inj.mp
    rw [Int64.toInt_toInt32, ofInt_toInt64 (by unfold in64; omega), ofInt_toInt32 (by unfold in32; omega)]
    simp only [Int.bmod_def]
    omega
  rw [this, ofInt_toInt32 (by unfold in32; omega)]
def bitN (n p : Nat) : Int := if n.testBit p then 1 else 0
def bitI (x p : Int) : Int := bitN x.toNat p.toNat
theorem bitN_01 (n p : Nat) : bitN n p = 0 ∨ bitN n p = 1 := by unfold bitN; split <;> simp
theorem bitI_01 (x p : Int) : bitI x p = 0 ∨ bitI x p = 1 := bitN_01 _ _
theorem bitN_div (n p : Nat) : bitN n p = ((n / 2 ^ p % 2 : Nat) : Int) := by
  unfold bitN
  rw [Nat.testBit_eq_decide_div_mod_eq]
  have : n / 2 ^ p % 2 < 2 := Nat.mod_lt _ (by decide)
  by_cases h : n / 2 ^ p % 2 = 1
  · rw [h]; simp
  · have h0 : n / 2 ^ p % 2 = 0 := by omega
    rw [h0]; simp
theorem testBit_set (n p q : Nat) : (n ||| 2 ^ p).testBit q = (n.testBit q || decide (p = q)) := by
  rw [Nat.testBit_or, Nat.testBit_two_pow]
theorem testBit_clr {n p q : Nat} (hp : p < 64) (hq : q < 64) : (n &&& (2 ^ 64 - 1 - 2 ^ p)).testBit q = (n.testBit q && !decide (p = q)) := by
  have hlt : 2 ^ p < 2 ^ 64 := Nat.pow_lt_pow_right (by decide) hp
  have e : 2 ^ 64 - 1 - 2 ^ p = 2 ^ 64 - (2 ^ p + 1) := by omega
  rw [Nat.testBit_and, e, Nat.testBit_two_pow_sub_succ hlt, Nat.testBit_two_pow]
  simp [hq]
theorem bitN_set (n p q : Nat) : bitN (n ||| 2 ^ p) q = if q = p then 1 else bitN n q := by
  unfold bitN
  rw [testBit_set]
  by_cases h : q = p
  · subst h; simp
  · have : ¬ p = q := fun z => h z.symm
    simp [h, this]
theorem bitN_clr {n p q : Nat} (hp : p < 64) (hq : q < 64) : bitN (n &&& (2 ^ 64 - 1 - 2 ^ p)) q = if q = p then 0 else bitN n q := by
  unfold bitN
  rw [testBit_clr hp hq]
  by_cases h : q = p
  · subst h; simp
  · have : ¬ p = q := fun z => h z.symm
    simp [h, this]
theorem set_lt {n p k : Nat} (hn : n < 2 ^ k) (hp : p < k) : n ||| 2 ^ p < 2 ^ k := Nat.or_lt_two_pow hn (Nat.pow_lt_pow_right (by decide) hp)
theorem clr_le (n m : Nat) : n &&& m ≤ n := Nat.and_le_left
theorem bitN_out {n k p : Nat} (hn : n < 2 ^ k) (hp : k ≤ p) : bitN n p = 0 := by
  unfold bitN
  rw [Nat.testBit_lt_two_pow (Nat.lt_of_lt_of_le hn (Nat.pow_le_pow_right (by decide) hp))]
  rfl
theorem bitN_zero (p : Nat) : bitN 0 p = 0 := by simp [bitN]
theorem lbit_nat {n k : Nat} (hn : n < 2 ^ 63) (hk : k < 64) : l2i (land (lushr (n : Int) (k : Int)) 1) = bitN n k := by
  have h1 : n / 2 ^ k < 2 ^ 63 := Nat.lt_of_le_of_lt (Nat.div_le_self _ _) hn
  rw [lushr_nat hk hn, show (1 : Int) = ((1 : Nat) : Int) from rfl, land_nat h1 (by decide), Nat.and_one_is_mod, l2i_nat (by omega), bitN_div]
section PBITS
variable {g : PG} {d : Nat} {σ : PS} {Q : Int → PS → Prop}
theorem s_bit {n k : Nat} (hn : n < 2 ^ 63) (hk : k < 64) (w : Q (bitN n k) σ) : XX g true d P_X11_bit 0 [(1, (n : Int)), (9, 0), (0, (k : Int))] [] 136 σ 136 Q :=
  B_X11_bit_0 (by rw [lbit_nat hn hk]; exact w)
/-- what is beside p in a set -/
def besN (n p : Nat) : Int := (if 0 < p then bitN n (p - 1) else 0) + bitN n (p + 1)
theorem s_besideIn {n k : Nat} (hn : n < 2 ^ 63) (hk : k < 62) (w : Q (besN n k) σ) : XX g true (d + 1) P_X11_besideIn 0 [(1, (n : Int)), (9, 0), (0, (k : Int))] [] 136 σ 136 Q := by
  have h1 := bitN_01 n (k - 1)
  have h2 := bitN_01 n (k + 1)
  have e1 : w32 ((k : Int) + 1) = ((k + 1 : Nat) : Int) := by rw [w32_of (by omega) (by omega)]; omega
  unfold besN at w
  refine B_X11_besideIn_0 ⟨fun h => ?_, fun h => ?_⟩
  · rw [e1]
    refine s_bit hn (by omega) ?_
    rw [if_neg (by omega)] at w
    rw [w32_of (by omega) (by omega)]
    exact w
  · have e2 : w32 ((k : Int) - 1) = ((k - 1 : Nat) : Int) := by rw [w32_of (by omega) (by omega)]; omega
    rw [e1, e2]
    refine s_bit hn (by omega) (s_bit hn (by omega) ?_)
    rw [if_pos (by omega)] at w
    rw [w32_of (by omega) (by omega)]
    exact w
/-- the last bits of a number -/
theorem iand_mask {a k : Nat} (ha : a < 2 ^ 31) (hk : k < 31) : iand (a : Int) ((2 ^ k - 1 : Nat) : Int) = ((a % 2 ^ k : Nat) : Int) := by
  have : 2 ^ k < 2 ^ 31 := Nat.pow_lt_pow_right (by decide) hk
  rw [iand_nat ha (by omega), Nat.and_two_pow_sub_one_eq_mod]
theorem shl1_nat {k : Nat} (hk : k < 31) : ishl 1 (k : Int) = ((2 ^ k : Nat) : Int) := by
  have h := ishl_nat (a := 1) (k := k) (by omega) (by rw [Nat.one_mul]; exact Nat.pow_lt_pow_right (by decide) hk)
  rw [Nat.one_mul] at h
  exact h
theorem lshl1_nat {k : Nat} (hk : k < 63) : lshl 1 (k : Int) = ((2 ^ k : Nat) : Int) := by
  have h := lshl_nat (a := 1) (k := k) (by omega) (by rw [Nat.one_mul]; exact Nat.pow_lt_pow_right (by decide) hk)
  rw [Nat.one_mul] at h
  exact h
/-- how many bits -/
def pcN (n : Nat) : Nat := if h : n = 0 then 0 else n % 2 + pcN (n / 2)
  termination_by n
  decreasing_by omega
theorem pcN_0 : pcN 0 = 0 := by unfold pcN; simp
theorem pcN_step (n : Nat) : pcN n = n % 2 + pcN (n / 2) := by
  by_cases h : n = 0
  · subst h; simp [pcN_0]
  · rw [pcN]; simp [h]
theorem and_even (a b : Nat) : (2 * a) &&& (2 * b + 1) = 2 * (a &&& b) := by
  apply Nat.eq_of_testBit_eq
  intro i
  cases i with
  | zero => simp [Nat.testBit_zero]
  | succ i =>
    rw [Nat.testBit_and, Nat.testBit_succ, Nat.testBit_succ, Nat.testBit_succ, show 2 * a / 2 = a by omega, show (2 * b + 1) / 2 = b by omega, show 2 * (a &&& b) / 2 = a &&& b by omega, Nat.testBit_and]
theorem and_odd (a : Nat) : (2 * a + 1) &&& (2 * a) = 2 * a := by
  apply Nat.eq_of_testBit_eq
  intro i
  cases i with
  | zero => simp [Nat.testBit_zero]
  | succ i =>
    rw [Nat.testBit_and, Nat.testBit_succ, Nat.testBit_succ, show 2 * a / 2 = a by omega, show (2 * a + 1) / 2 = a by omega]
    simp
theorem pcN_low : ∀ (n : Nat), 0 < n → pcN (n &&& (n - 1)) + 1 = pcN n := by
  intro n
  induction n using Nat.strongRecOn with
  | _ n ih =>
    intro hn
    by_cases ho : n % 2 = 1
    · obtain ⟨a, rfl⟩ : ∃ a, n = 2 * a + 1 := ⟨n / 2, by omega⟩
      rw [show 2 * a + 1 - 1 = 2 * a by omega, and_odd, pcN_step (2 * a + 1), pcN_step (2 * a)]
      rw [show (2 * a + 1) / 2 = a by omega, show 2 * a / 2 = a by omega]
      omega
    · obtain ⟨a, rfl⟩ : ∃ a, n = 2 * a := ⟨n / 2, by omega⟩
      have ha : 0 < a := by omega
      have := ih a (by omega) ha
      rw [show 2 * a - 1 = 2 * (a - 1) + 1 by omega, and_even, pcN_step (2 * a), pcN_step (2 * (a &&& (a - 1)))]
      rw [show 2 * (a &&& (a - 1)) / 2 = a &&& (a - 1) by omega, show 2 * a / 2 = a by omega]
      omega
theorem pcN_le : ∀ (k n : Nat), n < 2 ^ k → pcN n ≤ k := by
  intro k
  induction k with
  | zero => intro n h; have : n = 0 := by omega
            subst this; simp [pcN_0]
  | succ k ih =>
    intro n h
    rw [pcN_step]
    have := ih (n / 2) (by rw [Nat.pow_succ] at h; omega)
    omega
theorem s_ones_loop {σ : PS} : ∀ (n : Nat) (c : Int), n < 2 ^ 31 → 0 ≤ c → c + pcN n ≤ 1000 → Q (c + pcN n) σ → XX g true d P_X12_ones 4 [(9, 0), (9, 0), (0, c), (0, (n : Int))] [] 136 σ 136 Q := by
  intro n
  induction n using Nat.strongRecOn with
  | _ n ih =>
    intro c hn h0 h1 w
    refine B_X12_ones_4 ⟨fun h => ?_, fun h y1 e1 y2 e2 => ?_⟩
    · have : n = 0 := by omega
      subst this
      rw [pcN_0] at w
      simpa using w
    · have hp : 0 < n := by omega
      have e3 : w32 ((n : Int) - 1) = ((n - 1 : Nat) : Int) := by rw [w32_of (by omega) (by omega)]; omega
      rw [e3, iand_nat hn (by omega)] at e2
      have hlt : n &&& (n - 1) < n := Nat.lt_of_le_of_lt Nat.and_le_right (by omega)
      have hpc := pcN_low n hp
      rw [w32_of (by omega) (by omega)] at e1
      subst e1 e2
      refine ih _ hlt (c + 1) (by omega) (by omega) (by omega) ?_
      rw [show c + 1 + (pcN (n &&& (n - 1)) : Int) = c + pcN n by omega]
      exact w
theorem s_ones {n : Nat} (hn : n < 2 ^ 31) (w : Q (pcN n : Int) σ) : XX g true d P_X12_ones 0 [(2, 88), (0, (n : Int)), (9, 0), (9, 0)] [] 136 σ 136 Q := by
  have := pcN_le 31 n hn
  refine B_X12_ones_0 (s_ones_loop n 0 hn (by omega) (by omega) ?_)
  rw [Int.zero_add]
  exact w
end PBITS
