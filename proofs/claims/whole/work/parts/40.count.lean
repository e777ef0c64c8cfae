/-! HOW MANY BITS: what Integer.bitCount and Long.bitCount answer -/
def mkM (c : Nat) : Nat → Nat
  | 0 => 0
  | k + 1 => 256 * mkM c k + c
def pcA (c : Nat) (n : Nat) : Nat := n - (n / 2 &&& c)
def pcB (c : Nat) (m : Nat) : Nat := (m &&& c) + (m / 4 &&& c)
def pcC (c : Nat) (m : Nat) : Nat := (m + m / 16) &&& c
def pc8 (b : Nat) : Nat := b % 2 + b / 2 % 2 + b / 4 % 2 + b / 8 % 2 + b / 16 % 2 + b / 32 % 2 + b / 64 % 2 + b / 128 % 2
theorem and256 {a b u c : Nat} (hu : u < 256) (hc : c < 256) : (256 * a + u) &&& (256 * b + c) = 256 * (a &&& b) + (u &&& c) := by
  have h1 : (256 * a + u) &&& (256 * b + c) = 256 * (((256 * a + u) &&& (256 * b + c)) / 256) + ((256 * a + u) &&& (256 * b + c)) % 256 := by omega
  have h2 : ((256 * a + u) &&& (256 * b + c)) / 256 = a &&& b := by
    rw [show (256 : Nat) = 2 ^ 8 from rfl, Nat.and_div_two_pow, show (2 ^ 8 * a + u) / 2 ^ 8 = a by omega, show (2 ^ 8 * b + c) / 2 ^ 8 = b by omega]
  have h3 : ((256 * a + u) &&& (256 * b + c)) % 256 = u &&& c := by
    rw [show (256 : Nat) = 2 ^ 8 from rfl, Nat.and_mod_two_pow, show (2 ^ 8 * a + u) % 2 ^ 8 = u by omega, show (2 ^ 8 * b + c) % 2 ^ 8 = c by omega]
  rw [h1, h2, h3]
theorem pc_a8 : ∀ u : Nat, u < 256 → ∀ t, t < 2 → ((128 * t + u / 2) &&& 85 = u / 2 &&& 85) ∧ (u / 2 &&& 85) ≤ u ∧ u - (u / 2 &&& 85) < 256 := by decide +kernel
theorem pc_b8 : ∀ v : Nat, v < 256 → ∀ t, t < 4 → ((64 * t + v / 4) &&& 51 = v / 4 &&& 51) := by decide +kernel
theorem pc_g8 : ∀ u : Nat, u < 256 → (((u - (u / 2 &&& 85)) &&& 51) + ((u - (u / 2 &&& 85)) / 4 &&& 51)) % 16 ≤ 4 ∧ ((u - (u / 2 &&& 85)) &&& 51) + ((u - (u / 2 &&& 85)) / 4 &&& 51) ≤ 68 := by decide +kernel
theorem pc_c8 : ∀ u : Nat, u < 256 → ∀ t, t < 5 → ((((u - (u / 2 &&& 85)) &&& 51) + ((u - (u / 2 &&& 85)) / 4 &&& 51)) + (16 * t + (((u - (u / 2 &&& 85)) &&& 51) + ((u - (u / 2 &&& 85)) / 4 &&& 51)) / 16)) &&& 15 = pc8 u := by decide +kernel
theorem pcA_le {c n : Nat} : (n / 2 &&& c) ≤ n := Nat.le_trans Nat.and_le_left (Nat.div_le_self _ _)
theorem pcA_step {k n u : Nat} (hu : u < 256) : pcA (mkM 85 (k + 1)) (256 * n + u) = 256 * pcA (mkM 85 k) n + (u - (u / 2 &&& 85)) := by
  unfold pcA
  have h0 := pcA_le (c := mkM 85 k) (n := n)
  obtain ⟨h1, h2, -⟩ := pc_a8 u hu (n % 2) (Nat.mod_lt _ (by decide))
  have e : (256 * n + u) / 2 = 256 * (n / 2) + (128 * (n % 2) + u / 2) := by omega
  rw [e, show mkM 85 (k + 1) = 256 * mkM 85 k + 85 from rfl, and256 (by omega) (by decide), h1]
  omega
theorem pcB_step {k m v : Nat} (hv : v < 256) : pcB (mkM 51 (k + 1)) (256 * m + v) = 256 * pcB (mkM 51 k) m + ((v &&& 51) + (v / 4 &&& 51)) := by
  unfold pcB
  have h1 := pc_b8 v hv (m % 4) (Nat.mod_lt _ (by decide))
  have e : (256 * m + v) / 4 = 256 * (m / 4) + (64 * (m % 4) + v / 4) := by omega
  rw [e, show mkM 51 (k + 1) = 256 * mkM 51 k + 51 from rfl, and256 hv (by decide), and256 (by omega) (by decide), h1]
  omega
def pcY2 (k n : Nat) : Nat := pcB (mkM 51 k) (pcA (mkM 85 k) n)
def pcY3 (k n : Nat) : Nat := pcC (mkM 15 k) (pcY2 k n)
theorem pcY2_step {k n u : Nat} (hu : u < 256) : pcY2 (k + 1) (256 * n + u) = 256 * pcY2 k n + (((u - (u / 2 &&& 85)) &&& 51) + ((u - (u / 2 &&& 85)) / 4 &&& 51)) := by
  unfold pcY2
  rw [pcA_step hu, pcB_step (pc_a8 u hu 0 (by decide)).2.2]
theorem pcY2_low : ∀ {k n : Nat}, n < 256 ^ k → pcY2 k n % 16 ≤ 4 := by
  intro k
  cases k with
  | zero => intro n h; have : n = 0 := by omega
            subst this; decide
  | succ k =>
    intro n h
    have e : n = 256 * (n / 256) + n % 256 := by omega
    rw [e, pcY2_step (Nat.mod_lt _ (by decide))]
    have := (pc_g8 (n % 256) (Nat.mod_lt _ (by decide))).1
    omega
theorem pcY3_step {k n u : Nat} (hu : u < 256) (hn : n < 256 ^ k) : pcY3 (k + 1) (256 * n + u) = 256 * pcY3 k n + pc8 u := by
  unfold pcY3 pcC
  have hl := pcY2_low hn
  have hc := pc_c8 u hu (pcY2 k n % 16) (by omega)
  have hg := (pc_g8 u hu).2
  rw [pcY2_step hu, show mkM 15 (k + 1) = 256 * mkM 15 k + 15 from rfl]
  generalize ((u - (u / 2 &&& 85)) &&& 51) + ((u - (u / 2 &&& 85)) / 4 &&& 51) = v at *
  have e : 256 * pcY2 k n + v + (256 * pcY2 k n + v) / 16 = 256 * (pcY2 k n + pcY2 k n / 16) + (v + (16 * (pcY2 k n % 16) + v / 16)) := by omega
  rw [e, and256 (by omega) (by decide), hc]
theorem pcN_pow (a : Nat) : ∀ (k b : Nat), b < 2 ^ k → pcN (2 ^ k * a + b) = pcN a + pcN b := by
  intro k
  induction k with
  | zero => intro b h; have : b = 0 := by omega
            subst this; rw [Nat.pow_zero, Nat.one_mul, Nat.add_zero, pcN_0, Nat.add_zero]
  | succ k ih =>
    intro b h
    rw [Nat.pow_succ] at h ⊢
    have e1 : (2 ^ k * 2 * a + b) / 2 = 2 ^ k * a + b / 2 := by
      rw [show 2 ^ k * 2 * a = 2 * (2 ^ k * a) by rw [Nat.mul_comm (2 ^ k) 2, Nat.mul_assoc]]
      omega
    have e2 : (2 ^ k * 2 * a + b) % 2 = b % 2 := by
      rw [show 2 ^ k * 2 * a = 2 * (2 ^ k * a) by rw [Nat.mul_comm (2 ^ k) 2, Nat.mul_assoc]]
      omega
    rw [pcN_step, e1, e2, ih (b / 2) (by omega), pcN_step b]
    omega
theorem pcN_8 {b : Nat} (h : b < 256) : pcN b = pc8 b := by
  rw [pcN_step b, pcN_step (b / 2), pcN_step (b / 2 / 2), pcN_step (b / 2 / 2 / 2), pcN_step (b / 2 / 2 / 2 / 2), pcN_step (b / 2 / 2 / 2 / 2 / 2), pcN_step (b / 2 / 2 / 2 / 2 / 2 / 2), pcN_step (b / 2 / 2 / 2 / 2 / 2 / 2 / 2), show b / 2 / 2 / 2 / 2 / 2 / 2 / 2 / 2 = 0 by omega, pcN_0]
  unfold pc8
  omega
theorem pcN_256 {a b : Nat} (h : b < 256) : pcN (256 * a + b) = pcN a + pc8 b := by
  rw [← pcN_8 h]
  exact pcN_pow a 8 b h
theorem pc8_le (b : Nat) : pc8 b ≤ 8 := by unfold pc8; omega
theorem ius_1 {a : Nat} (ha : a < 2 ^ 31) : iushr (a : Int) 1 = ((a / 2 : Nat) : Int) := iushr_nat (a := a) (k := 1) (by decide) ha
theorem ius_2 {a : Nat} (ha : a < 2 ^ 31) : iushr (a : Int) 2 = ((a / 4 : Nat) : Int) := iushr_nat (a := a) (k := 2) (by decide) ha
theorem ius_4 {a : Nat} (ha : a < 2 ^ 31) : iushr (a : Int) 4 = ((a / 16 : Nat) : Int) := iushr_nat (a := a) (k := 4) (by decide) ha
theorem ius_8 {a : Nat} (ha : a < 2 ^ 31) : iushr (a : Int) 8 = ((a / 256 : Nat) : Int) := iushr_nat (a := a) (k := 8) (by decide) ha
theorem ius_16 {a : Nat} (ha : a < 2 ^ 31) : iushr (a : Int) 16 = ((a / 65536 : Nat) : Int) := iushr_nat (a := a) (k := 16) (by decide) ha
theorem lus_1 {a : Nat} (ha : a < 2 ^ 63) : lushr (a : Int) 1 = ((a / 2 : Nat) : Int) := lushr_nat (a := a) (k := 1) (by decide) ha
theorem lus_2 {a : Nat} (ha : a < 2 ^ 63) : lushr (a : Int) 2 = ((a / 4 : Nat) : Int) := lushr_nat (a := a) (k := 2) (by decide) ha
theorem lus_4 {a : Nat} (ha : a < 2 ^ 63) : lushr (a : Int) 4 = ((a / 16 : Nat) : Int) := lushr_nat (a := a) (k := 4) (by decide) ha
theorem lus_8 {a : Nat} (ha : a < 2 ^ 63) : lushr (a : Int) 8 = ((a / 256 : Nat) : Int) := lushr_nat (a := a) (k := 8) (by decide) ha
theorem lus_16 {a : Nat} (ha : a < 2 ^ 63) : lushr (a : Int) 16 = ((a / 65536 : Nat) : Int) := lushr_nat (a := a) (k := 16) (by decide) ha
theorem lus_32 {a : Nat} (ha : a < 2 ^ 63) : lushr (a : Int) 32 = ((a / 4294967296 : Nat) : Int) := lushr_nat (a := a) (k := 32) (by decide) ha
theorem iand63 {a : Nat} (ha : a < 2 ^ 31) : iand (a : Int) 63 = ((a % 64 : Nat) : Int) := iand_mask (a := a) (k := 6) ha (by decide)
section PCOUNT
variable {g : PG} {d : Nat} {σ : PS} {Q : Int → PS → Prop}
theorem s_bitCount {n : Nat} (hn : n < 2 ^ 31) (w : Q (pcN n : Int) σ) : XX g true d P_J6_bitCount_0f7a4 0 [(0, (n : Int))] [] 136 σ 136 Q := by
  have hA : pcA 1431655765 n ≤ n := Nat.sub_le _ _
  have a1 : (n / 2 &&& 1431655765) ≤ n := pcA_le
  refine B_J6_bitCount_0f7a4_0 fun y1 h1 y2 h2 y3 h3 y4 h4 y5 h5 => ?_
  have e1 : y1 = ((pcA 1431655765 n : Nat) : Int) := by
    rw [h1, ius_1 hn, show (1431655765 : Int) = ((1431655765 : Nat) : Int) from rfl, iand_nat (by omega) (by decide), w32_of (by omega) (by omega)]
    unfold pcA
    omega
  clear h1
  subst e1
  generalize hgA : pcA 1431655765 n = A at *
  have b1 : (A &&& 858993459) ≤ 858993459 := Nat.and_le_right
  have b2 : (A / 4 &&& 858993459) ≤ 858993459 := Nat.and_le_right
  have e2 : y2 = ((pcB 858993459 A : Nat) : Int) := by
    rw [h2, ius_2 (by omega), show (858993459 : Int) = ((858993459 : Nat) : Int) from rfl, iand_nat (by omega) (by decide), iand_nat (by omega) (by decide), w32_of (by omega) (by omega)]
    unfold pcB
    omega
  clear h2
  subst e2
  have hB : pcB 858993459 A ≤ 1717986918 := by unfold pcB; omega
  generalize hgB : pcB 858993459 A = B at *
  have e3 : y3 = ((pcC 252645135 B : Nat) : Int) := by
    rw [h3, ius_4 (by omega), w32_of (by omega) (by omega), show (B : Int) + ((B / 16 : Nat) : Int) = ((B + B / 16 : Nat) : Int) by omega, show (252645135 : Int) = ((252645135 : Nat) : Int) from rfl, iand_nat (by omega) (by decide)]
    rfl
  clear h3
  subst e3
  have hY : pcC 252645135 B = pcY3 4 n := by rw [← hgB, ← hgA]; rfl
  rw [hY] at h4
  obtain ⟨n1, r0, en, hr0⟩ : ∃ m r, n = 256 * m + r ∧ r < 256 := ⟨n / 256, n % 256, by omega, by omega⟩
  obtain ⟨n2, r1, en1, hr1⟩ : ∃ m r, n1 = 256 * m + r ∧ r < 256 := ⟨n1 / 256, n1 % 256, by omega, by omega⟩
  obtain ⟨n3, r2, en2, hr2⟩ : ∃ m r, n2 = 256 * m + r ∧ r < 256 := ⟨n2 / 256, n2 % 256, by omega, by omega⟩
  have hr3 : n3 < 256 := by omega
  have hp0 : n3 < 256 ^ 1 := by omega
  have hp1 : n2 < 256 ^ 2 := by omega
  have hp2 : n1 < 256 ^ 3 := by omega
  have eY : pcY3 4 n = 256 * (256 * (256 * pc8 n3 + pc8 r2) + pc8 r1) + pc8 r0 := by
    rw [en, pcY3_step hr0 hp2, en1, pcY3_step hr1 hp1, en2, pcY3_step hr2 hp0]
    have e4 := pcY3_step (k := 0) (n := 0) hr3 (by decide)
    simp only [Nat.mul_zero, Nat.zero_add, show pcY3 0 0 = 0 from rfl] at e4
    rw [e4]
  have eP : pcN n = pc8 n3 + pc8 r2 + pc8 r1 + pc8 r0 := by
    rw [en, pcN_256 hr0, en1, pcN_256 hr1, en2, pcN_256 hr2, pcN_8 hr3]
  have q0 := pc8_le r0
  have q1 := pc8_le r1
  have q2 := pc8_le r2
  have q3 := pc8_le n3
  rw [eP] at w
  rw [eY] at h4
  generalize pc8 r0 = v0 at *
  generalize pc8 r1 = v1 at *
  generalize pc8 r2 = v2 at *
  generalize pc8 n3 = v3 at *
  clear hY eY eP en en1 en2 hp0 hp1 hp2 hgA hgB hA hB a1 b1 b2
  have e4 : y4 = ((256 * (256 * (256 * v3 + (v2 + v3)) + (v1 + v2)) + (v0 + v1) : Nat) : Int) := by
    rw [h4, ius_8 (by omega), w32_of (by omega) (by omega)]
    omega
  clear h4
  subst e4
  have e5 : ∃ z : Nat, y5 = ((64 * z + (v3 + v2 + v1 + v0) : Nat) : Int) ∧ 64 * z + (v3 + v2 + v1 + v0) < 2 ^ 31 := by
    rw [ius_16 (by omega), w32_of (by omega) (by omega)] at h5
    exact ⟨(256 * (256 * (256 * v3 + (v2 + v3)) + (v1 + v2) + v3)) / 64, by omega, by omega⟩
  obtain ⟨z, e5, hz⟩ := e5
  rw [e5, iand63 hz, show (64 * z + (v3 + v2 + v1 + v0)) % 64 = v3 + v2 + v1 + v0 by omega]
  exact w
theorem l2i_and127 {a : Nat} (ha : a < 2 ^ 63) : iand (l2i (a : Int)) 127 = ((a % 128 : Nat) : Int) := by
  unfold iand l2i
  rw [Int32.ofInt_toInt]
  refine toI32 (by omega) ?_
  have e : (Int32.ofInt 127).toBitVec = BitVec.ofNat 32 127 := by decide
  rw [Int32.toBitVec_and, Int64.toBitVec_toInt32, BitVec.signExtend_eq_setWidth_of_le _ (by decide), BitVec.toNat_and, BitVec.toNat_setWidth, tn64 ha, e, BitVec.toNat_ofNat]
  show a % 2 ^ 32 &&& (2 ^ 7 - 1) = a % 128
  rw [Nat.and_two_pow_sub_one_eq_mod]
  omega
theorem s_bitCountL {n : Nat} (hn : n < 2 ^ 60) (w : Q (pcN n : Int) σ) : XX g true d P_J13_bitCount_95d88 0 [(1, (n : Int)), (9, 0)] [] 136 σ 136 Q := by
  have hA : pcA 6148914691236517205 n ≤ n := Nat.sub_le _ _
  have a1 : (n / 2 &&& 6148914691236517205) ≤ n := pcA_le
  refine B_J13_bitCount_95d88_0 fun y1 h1 y2 h2 y3 h3 y4 h4 y5 h5 y6 h6 => ?_
  have e1 : y1 = ((pcA 6148914691236517205 n : Nat) : Int) := by
    rw [h1, lus_1 (by omega), show (6148914691236517205 : Int) = ((6148914691236517205 : Nat) : Int) from rfl, land_nat (by omega) (by decide), w64_of (by omega) (by omega)]
    unfold pcA
    omega
  clear h1
  subst e1
  generalize hgA : pcA 6148914691236517205 n = A at *
  have b1 : (A &&& 3689348814741910323) ≤ 3689348814741910323 := Nat.and_le_right
  have b2 : (A / 4 &&& 3689348814741910323) ≤ 3689348814741910323 := Nat.and_le_right
  have e2 : y2 = ((pcB 3689348814741910323 A : Nat) : Int) := by
    rw [h2, lus_2 (by omega), show (3689348814741910323 : Int) = ((3689348814741910323 : Nat) : Int) from rfl, land_nat (by omega) (by decide), land_nat (by omega) (by decide), w64_of (by omega) (by omega)]
    unfold pcB
    omega
  clear h2
  subst e2
  have hB : pcB 3689348814741910323 A ≤ 7378697629483820646 := by unfold pcB; omega
  generalize hgB : pcB 3689348814741910323 A = B at *
  have e3 : y3 = ((pcC 1085102592571150095 B : Nat) : Int) := by
    rw [h3, lus_4 (by omega), w64_of (by omega) (by omega), show (B : Int) + ((B / 16 : Nat) : Int) = ((B + B / 16 : Nat) : Int) by omega, show (1085102592571150095 : Int) = ((1085102592571150095 : Nat) : Int) from rfl, land_nat (by omega) (by decide)]
    rfl
  clear h3
  subst e3
  have hY : pcC 1085102592571150095 B = pcY3 8 n := by rw [← hgB, ← hgA]; rfl
  rw [hY] at h4
  obtain ⟨n1, r0, en, hr0⟩ : ∃ m r, n = 256 * m + r ∧ r < 256 := ⟨n / 256, n % 256, by omega, by omega⟩
  obtain ⟨n2, r1, en1, hr1⟩ : ∃ m r, n1 = 256 * m + r ∧ r < 256 := ⟨n1 / 256, n1 % 256, by omega, by omega⟩
  obtain ⟨n3, r2, en2, hr2⟩ : ∃ m r, n2 = 256 * m + r ∧ r < 256 := ⟨n2 / 256, n2 % 256, by omega, by omega⟩
  obtain ⟨n4, r3, en3, hr3⟩ : ∃ m r, n3 = 256 * m + r ∧ r < 256 := ⟨n3 / 256, n3 % 256, by omega, by omega⟩
  obtain ⟨n5, r4, en4, hr4⟩ : ∃ m r, n4 = 256 * m + r ∧ r < 256 := ⟨n4 / 256, n4 % 256, by omega, by omega⟩
  obtain ⟨n6, r5, en5, hr5⟩ : ∃ m r, n5 = 256 * m + r ∧ r < 256 := ⟨n5 / 256, n5 % 256, by omega, by omega⟩
  obtain ⟨n7, r6, en6, hr6⟩ : ∃ m r, n6 = 256 * m + r ∧ r < 256 := ⟨n6 / 256, n6 % 256, by omega, by omega⟩
  have hr7 : n7 < 256 := by omega
  have p1 : n7 < 256 ^ 1 := by omega
  have p2 : n6 < 256 ^ 2 := by omega
  have p3 : n5 < 256 ^ 3 := by omega
  have p4 : n4 < 256 ^ 4 := by omega
  have p5 : n3 < 256 ^ 5 := by omega
  have p6 : n2 < 256 ^ 6 := by omega
  have p7 : n1 < 256 ^ 7 := by omega
  have eY : pcY3 8 n = 256 * (256 * (256 * (256 * (256 * (256 * (256 * pc8 n7 + pc8 r6) + pc8 r5) + pc8 r4) + pc8 r3) + pc8 r2) + pc8 r1) + pc8 r0 := by
    rw [en, pcY3_step hr0 p7, en1, pcY3_step hr1 p6, en2, pcY3_step hr2 p5, en3, pcY3_step hr3 p4, en4, pcY3_step hr4 p3, en5, pcY3_step hr5 p2, en6, pcY3_step hr6 p1]
    have e4 := pcY3_step (k := 0) (n := 0) hr7 (by decide)
    simp only [Nat.mul_zero, Nat.zero_add, show pcY3 0 0 = 0 from rfl] at e4
    rw [e4]
  have eP : pcN n = pc8 n7 + pc8 r6 + pc8 r5 + pc8 r4 + pc8 r3 + pc8 r2 + pc8 r1 + pc8 r0 := by
    rw [en, pcN_256 hr0, en1, pcN_256 hr1, en2, pcN_256 hr2, en3, pcN_256 hr3, en4, pcN_256 hr4, en5, pcN_256 hr5, en6, pcN_256 hr6, pcN_8 hr7]
  have q0 := pc8_le r0
  have q1 := pc8_le r1
  have q2 := pc8_le r2
  have q3 := pc8_le r3
  have q4 := pc8_le r4
  have q5 := pc8_le r5
  have q6 := pc8_le r6
  have q7 := pc8_le n7
  rw [eP] at w
  rw [eY] at h4
  generalize pc8 r0 = v0 at *
  generalize pc8 r1 = v1 at *
  generalize pc8 r2 = v2 at *
  generalize pc8 r3 = v3 at *
  generalize pc8 r4 = v4 at *
  generalize pc8 r5 = v5 at *
  generalize pc8 r6 = v6 at *
  generalize pc8 n7 = v7 at *
  clear hY eY eP en en1 en2 en3 en4 en5 en6 p1 p2 p3 p4 p5 p6 p7 hgA hgB hA hB a1 b1 b2 hn hr0 hr1 hr2 hr3 hr4 hr5 hr6 hr7
  have e4 : y4 = ((256 * (256 * (256 * (256 * (256 * (256 * (256 * v7 + (v6 + v7)) + (v5 + v6)) + (v4 + v5)) + (v3 + v4)) + (v2 + v3)) + (v1 + v2)) + (v0 + v1) : Nat) : Int) := by
    rw [h4, lus_8 (by omega), w64_of (by omega) (by omega)]
    omega
  clear h4
  subst e4
  have e5 : ∃ a b c : Nat, y5 = ((4294967296 * (256 * a + (v4 + v5 + v6 + v7)) + (256 * b + (v0 + v1 + v2 + v3)) : Nat) : Int) ∧ a < 2 ^ 22 ∧ b < 2 ^ 22 := by
    rw [lus_16 (by omega), w64_of (by omega) (by omega)] at h5
    exact ⟨(v5 + v6 + v7) + 256 * (v6 + v7) + 65536 * v7, (v1 + v2 + v3 + v4) + 256 * (v2 + v3 + v4 + v5) + 65536 * (v3 + v4 + v5 + v6), 0, by omega, by omega, by omega⟩
  obtain ⟨a, b, c, e5, ha, hb⟩ := e5
  clear h5
  subst e5
  rw [lus_32 (by omega), w64_of (by omega) (by omega)] at h6
  have e6 : y6 = ((4294967296 * (256 * a + (v4 + v5 + v6 + v7)) + (256 * b + (v0 + v1 + v2 + v3)) + (256 * a + (v4 + v5 + v6 + v7)) : Nat) : Int) := by rw [h6]; omega
  clear h6
  rw [e6, l2i_and127 (by omega), show (4294967296 * (256 * a + (v4 + v5 + v6 + v7)) + (256 * b + (v0 + v1 + v2 + v3)) + (256 * a + (v4 + v5 + v6 + v7))) % 128 = v7 + v6 + v5 + v4 + v3 + v2 + v1 + v0 by omega]
  exact w
end PCOUNT
