/-! ORDERS: pure -/
def swF (f : Int → Int) (i j : Int) : Int → Int := updF (updF f i (f j)) j (f i)
def pivR (f : Int → Int) : Nat → Int → Int
  | 0, i => i
  | m + 1, i => if 0 ≤ i ∧ f (i + 1) ≤ f i then pivR f m (i - 1) else i
def hiR (f : Int → Int) (i : Int) : Nat → Int → Int
  | 0, j => j
  | m + 1, j => if f j ≤ f i then hiR f i m (j - 1) else j
def revR : Nat → Int → Int → (Int → Int) → (Int → Int)
  | 0, _, _, f => f
  | m + 1, lo, hi, f => if lo < hi then revR m (lo + 1) (hi - 1) (swF f lo hi) else f
def pivO (n : Nat) (f : Int → Int) : Int := pivR f n ((n : Int) - 2)
def nexO (n : Nat) (f : Int → Int) : Int → Int := revR n (pivO n f + 1) ((n : Int) - 1) (swF f (pivO n f) (hiR f (pivO n f) n ((n : Int) - 1)))
def whR2 (v : (Int → Int) → Int) (n : Nat) : Nat → (Int → Int) → Int → (Int → Int) → (Int → Int)
  | 0, _, _, best => best
  | m + 1, f, least, best => if 0 ≤ pivO n f then whR2 v n m (nexO n f) (if v f < least then v f else least) (if v f < least then f else best) else if v f < least then f else best
theorem whR2_succ (v : (Int → Int) → Int) (n m : Nat) (f : Int → Int) (least : Int) (best : Int → Int) : whR2 v n (m + 1) f least best = if 0 ≤ pivO n f then whR2 v n m (nexO n f) (if v f < least then v f else least) (if v f < least then f else best) else if v f < least then f else best := rfl
theorem pivR_succ (f : Int → Int) (m : Nat) (i : Int) : pivR f (m + 1) i = if 0 ≤ i ∧ f (i + 1) ≤ f i then pivR f m (i - 1) else i := rfl
theorem hiR_succ (f : Int → Int) (i : Int) (m : Nat) (j : Int) : hiR f i (m + 1) j = if f j ≤ f i then hiR f i m (j - 1) else j := rfl
theorem revR_succ (m : Nat) (lo hi : Int) (f : Int → Int) : revR (m + 1) lo hi f = if lo < hi then revR m (lo + 1) (hi - 1) (swF f lo hi) else f := rfl
/-- how many of m from a on are less than x -/
def cntB (f : Int → Int) (x : Int) : Nat → Int → Nat
  | 0, _ => 0
  | m + 1, a => (if f a < x then 1 else 0) + cntB f x m (a + 1)
theorem cntB_succ (f : Int → Int) (x : Int) (m : Nat) (a : Int) : cntB f x (m + 1) a = (if f a < x then 1 else 0) + cntB f x m (a + 1) := rfl
theorem cntB_le (f : Int → Int) (x : Int) : ∀ (m : Nat) (a : Int), cntB f x m a ≤ m := by
  intro m
  induction m with
  | zero => intro a; exact Nat.le_refl 0
  | succ m ih =>
    intro a
    have := ih (a + 1)
    rw [cntB_succ]
    split <;> omega
theorem cntB_mono {f : Int → Int} {x y : Int} (h : x ≤ y) : ∀ (m : Nat) (a : Int), cntB f x m a ≤ cntB f y m a := by
  intro m
  induction m with
  | zero => intro a; exact Nat.le_refl 0
  | succ m ih =>
    intro a
    have := ih (a + 1)
    rw [cntB_succ, cntB_succ]
    split <;> split <;> omega
theorem cntB_congr {f f' : Int → Int} {x : Int} : ∀ {m : Nat} {a : Int}, (∀ t, a ≤ t → t < a + m → f t = f' t) → cntB f x m a = cntB f' x m a := by
  intro m
  induction m with
  | zero => intro a _; rfl
  | succ m ih =>
    intro a h
    rw [cntB_succ, cntB_succ, h a (by omega) (by omega), ih fun t h1 h2 => h t (by omega) (by omega)]
theorem cntB_upd {f : Int → Int} {x i v : Int} : ∀ {m : Nat} {a : Int}, a ≤ i → i < a + m → cntB (updF f i v) x m a + (if f i < x then 1 else 0) = cntB f x m a + (if v < x then 1 else 0) := by
  intro m
  induction m with
  | zero => intro a h1 h2; omega
  | succ m ih =>
    intro a h1 h2
    rw [cntB_succ, cntB_succ]
    by_cases e : a = i
    · subst e
      have e1 : updF f a v a = v := by unfold updF; rw [if_pos rfl]
      have e2 : cntB (updF f a v) x m (a + 1) = cntB f x m (a + 1) := cntB_congr fun t h3 h4 => by unfold updF; rw [if_neg (by omega)]
      rw [e1, e2]
      omega
    · have e1 : updF f i v a = f a := by unfold updF; rw [if_neg e]
      have := ih (a := a + 1) (by omega) (by omega)
      rw [e1]
      omega
theorem swF_i {f : Int → Int} {i j : Int} (h : i ≠ j) : swF f i j i = f j := by
  unfold swF updF
  rw [if_neg h, if_pos rfl]
theorem swF_j {f : Int → Int} {i j : Int} : swF f i j j = f i := by
  unfold swF updF
  rw [if_pos rfl]
theorem swF_ne {f : Int → Int} {i j t : Int} (hi : t ≠ i) (hj : t ≠ j) : swF f i j t = f t := by
  unfold swF updF
  rw [if_neg hj, if_neg hi]
theorem cntB_sw {f : Int → Int} {x i j a : Int} {m : Nat} (h1 : a ≤ i) (h2 : i < a + m) (h3 : a ≤ j) (h4 : j < a + m) (hne : i ≠ j) : cntB (swF f i j) x m a = cntB f x m a := by
  have e1 := cntB_upd (f := f) (x := x) (i := i) (v := f j) h1 h2
  have e2 := cntB_upd (f := updF f i (f j)) (x := x) (i := j) (v := f i) h3 h4
  have e3 : updF f i (f j) j = f j := by unfold updF; rw [if_neg (fun z => hne z.symm)]
  rw [e3] at e2
  unfold swF
  omega
theorem revR_cnt {x a : Int} {m : Nat} : ∀ (k : Nat) (lo hi : Int) (f : Int → Int), a ≤ lo → hi < a + m → cntB (revR k lo hi f) x m a = cntB f x m a := by
  intro k
  induction k with
  | zero => intro lo hi f _ _; rfl
  | succ k ih =>
    intro lo hi f h1 h2
    rw [revR_succ]
    split
    · rw [ih _ _ _ (by omega) (by omega), cntB_sw h1 (by omega) (by omega) h2 (by omega)]
    · rfl
theorem revR_out {t : Int} : ∀ (k : Nat) (lo hi : Int) (f : Int → Int), t < lo ∨ hi < t → revR k lo hi f t = f t := by
  intro k
  induction k with
  | zero => intro lo hi f _; rfl
  | succ k ih =>
    intro lo hi f h
    rw [revR_succ]
    split
    · rw [ih _ _ _ (by omega), swF_ne (by omega) (by omega)]
    · rfl
theorem pivR_lt {f : Int → Int} : ∀ {m : Nat} {i : Int}, i < m → 0 ≤ pivR f m i → pivR f m i ≤ i ∧ f (pivR f m i) < f (pivR f m i + 1) := by
  intro m
  induction m with
  | zero => intro i h1 h2; have : pivR f 0 i = i := rfl; omega
  | succ m ih =>
    intro i h1 h2
    rw [pivR_succ] at h2 ⊢
    by_cases h : 0 ≤ i ∧ f (i + 1) ≤ f i
    · rw [if_pos h] at h2 ⊢
      have := ih (by omega) h2
      exact ⟨by omega, this.2⟩
    · rw [if_neg h] at h2 ⊢
      exact ⟨by omega, by omega⟩
theorem hiR_gt {f : Int → Int} {i : Int} (hi : f i < f (i + 1)) : ∀ {m : Nat} {j : Int}, i < j → j ≤ i + m → i < hiR f i m j ∧ hiR f i m j ≤ j ∧ f i < f (hiR f i m j) := by
  intro m
  induction m with
  | zero => intro j h1 h2; omega
  | succ m ih =>
    intro j h1 h2
    rw [hiR_succ]
    by_cases h : f j ≤ f i
    · rw [if_pos h]
      have hj : j ≠ i + 1 := fun z => by rw [z] at h; omega
      have := ih (j := j - 1) (by omega) (by omega)
      omega
    · rw [if_neg h]
      omega
/-! the rank of an order -/
def factN : Nat → Nat
  | 0 => 1
  | n + 1 => (n + 1) * factN n
def rkR (f : Int → Int) : Nat → Int → Nat
  | 0, _ => 0
  | m + 1, k => cntB f (f k) m (k + 1) * factN m + rkR f m (k + 1)
theorem rkR_succ (f : Int → Int) (m : Nat) (k : Int) : rkR f (m + 1) k = cntB f (f k) m (k + 1) * factN m + rkR f m (k + 1) := rfl
theorem factN_succ (n : Nat) : factN (n + 1) = (n + 1) * factN n := rfl
theorem rkR_lt (f : Int → Int) : ∀ (m : Nat) (k : Int), rkR f m k < factN m := by
  intro m
  induction m with
  | zero => intro k; exact (by decide : 0 < 1)
  | succ m ih =>
    intro k
    have h1 := ih (k + 1)
    have h2 := Nat.mul_le_mul_right (factN m) (cntB_le f (f k) m (k + 1))
    rw [rkR_succ, factN_succ, Nat.add_mul, Nat.one_mul]
    omega
theorem rank_up {n : Nat} {f : Int → Int} (hp : 0 ≤ pivO n f) : rkR f n 0 < rkR (nexO n f) n 0 := by
  obtain ⟨i, hi⟩ : ∃ i, pivO n f = i := ⟨_, rfl⟩
  have h1 := pivR_lt (f := f) (m := n) (i := (n : Int) - 2) (by omega) hp
  have e : pivR f n ((n : Int) - 2) = i := hi
  rw [e] at h1
  rw [hi] at hp
  obtain ⟨j, hj⟩ : ∃ j, hiR f i n ((n : Int) - 1) = j := ⟨_, rfl⟩
  have h2 := hiR_gt h1.2 (m := n) (j := (n : Int) - 1) (by omega) (by omega)
  rw [hj] at h2
  have ef : nexO n f = revR n (i + 1) ((n : Int) - 1) (swF f i j) := by unfold nexO; rw [hi, hj]
  rw [ef]
  obtain ⟨f', hf'⟩ : ∃ f', f' = revR n (i + 1) ((n : Int) - 1) (swF f i j) := ⟨_, rfl⟩
  rw [← hf']
  have low : ∀ t, t < i → f' t = f t := fun t ht => by rw [hf', revR_out _ _ _ _ (Or.inl (by omega)), swF_ne (by omega) (by omega)]
  have ati : f' i = f j := by rw [hf', revR_out _ _ _ _ (Or.inl (by omega)), swF_i (by omega)]
  have cnt : ∀ (x a : Int) (m : Nat), a ≤ i → a + m = n → cntB f' x m a = cntB f x m a := fun x a m h3 h4 => by
    rw [hf', revR_cnt _ _ _ _ (by omega) (by omega), cntB_sw h3 (by omega) (by omega) (by omega) (by omega)]
  have key : ∀ (q m : Nat) (k : Int), 0 ≤ k → k + m = n → k + q = i → rkR f m k < rkR f' m k := by
    intro q
    induction q with
    | zero =>
      intro m k h0 hk hq
      have hki : k = i := by omega
      subst hki
      obtain ⟨m', rfl⟩ : ∃ m', m = m' + 1 := ⟨m - 1, by omega⟩
      rw [rkR_succ, rkR_succ, ati]
      have hc := cnt (f j) k (m' + 1) (by omega) hk
      rw [cntB_succ, cntB_succ, ati, if_neg (by omega), if_pos h2.2.2] at hc
      have hm := cntB_mono (f := f) (x := f k) (y := f j) (by omega) m' (k + 1)
      have hl := rkR_lt f m' (k + 1)
      have hmul : (cntB f (f k) m' (k + 1) + 1) * factN m' ≤ cntB f' (f j) m' (k + 1) * factN m' := Nat.mul_le_mul_right _ (by omega)
      rw [Nat.add_mul, Nat.one_mul] at hmul
      omega
    | succ q ih =>
      intro m k h0 hk hq
      obtain ⟨m', rfl⟩ : ∃ m', m = m' + 1 := ⟨m - 1, by omega⟩
      have h3 := ih m' (k + 1) (by omega) (by omega) (by omega)
      rw [rkR_succ, rkR_succ, low k (by omega), cnt (f k) (k + 1) m' (by omega) (by omega)]
      omega
  exact key i.toNat n 0 (by omega) (by omega) (by omega)
theorem rank_5040 {n : Nat} (hn : n ≤ 7) (f : Int → Int) : rkR f n 0 < 5040 := by
  have h := rkR_lt f n 0
  have : ∀ n, n ≤ 7 → factN n ≤ 5040 := by decide
  have := this n hn
  omega
/-! in order -/
def srtS (f : Int → Int) (n : Nat) (p : Int) : Int := (if (cntB f 1 n 0 : Int) ≤ p then 1 else 0) + (if (cntB f 2 n 0 : Int) ≤ p then 1 else 0) + (if (cntB f 3 n 0 : Int) ≤ p then 1 else 0) + (if (cntB f 4 n 0 : Int) ≤ p then 1 else 0) + (if (cntB f 5 n 0 : Int) ≤ p then 1 else 0)
theorem cntB_all {f : Int → Int} {x : Int} : ∀ {m : Nat} {a : Int}, (∀ t, a ≤ t → t < a + m → f t < x) → cntB f x m a = m := by
  intro m
  induction m with
  | zero => intro a _; rfl
  | succ m ih =>
    intro a h
    rw [cntB_succ, if_pos (h a (by omega) (by omega)), ih fun t h1 h2 => h t (by omega) (by omega)]
    omega
theorem cntB_nil {f : Int → Int} {x : Int} : ∀ {m : Nat} {a : Int}, (∀ t, a ≤ t → t < a + m → x ≤ f t) → cntB f x m a = 0 := by
  intro m
  induction m with
  | zero => intro a _; rfl
  | succ m ih =>
    intro a h
    rw [cntB_succ, if_neg (by have := h a (by omega) (by omega); omega), ih fun t h1 h2 => h t (by omega) (by omega)]
theorem cntB_app {f : Int → Int} {x : Int} : ∀ {m k : Nat} {a : Int}, cntB f x (m + k) a = cntB f x m a + cntB f x k (a + m) := by
  intro m
  induction m with
  | zero => intro k a; rw [Nat.zero_add, Int.natCast_zero, Int.add_zero]; show _ = 0 + _; omega
  | succ m ih =>
    intro k a
    rw [show m + 1 + k = (m + k) + 1 by omega, cntB_succ, ih, cntB_succ, show a + 1 + (m : Int) = a + ((m + 1 : Nat) : Int) by omega]
    omega
/-- in a row that doesn't fall, those less than x lie ahead -/
theorem sorted_cnt {f : Int → Int} {n : Nat} {x p : Int} (hs : ∀ t : Int, 0 ≤ t → t + 1 < (n : Int) → f t ≤ f (t + 1)) (h0 : 0 ≤ p) (h1 : p < n) : f p < x ↔ p < cntB f x n 0 := by
  have mono : ∀ (q : Nat) (t : Int), 0 ≤ t → t + q < n → f t ≤ f (t + q) := by
    intro q
    induction q with
    | zero => intro t _ _; rw [Int.natCast_zero, Int.add_zero]; exact Int.le_refl _
    | succ q ih =>
      intro t t0 t1
      have a := ih t t0 (by omega)
      have b := hs (t + q) (by omega) (by omega)
      rw [show t + ((q + 1 : Nat) : Int) = t + q + 1 by omega]
      omega
  have e : n = p.toNat + 1 + (n - p.toNat - 1) := by omega
  constructor
  · intro h
    rw [e, cntB_app, cntB_all fun t t0 t1 => by
      have := mono (p - t).toNat t t0 (by omega)
      rw [show t + (((p - t).toNat : Nat) : Int) = p by omega] at this
      omega]
    omega
  · intro h
    refine Classical.byContradiction fun hn => ?_
    have e2 : n = p.toNat + (n - p.toNat) := by omega
    rw [e2, cntB_app, cntB_nil (m := n - p.toNat) (a := 0 + (p.toNat : Int)) fun t t0 t1 => by
      have := mono (t - p).toNat p h0 (by omega)
      rw [show p + (((t - p).toNat : Nat) : Int) = t by omega] at this
      omega] at h
    have := cntB_le f x p.toNat 0
    omega
theorem srtS_of {f g : Int → Int} {n : Nat} {p : Int} (h05 : 0 ≤ g p ∧ g p ≤ 5) (h : ∀ x : Int, 1 ≤ x → x ≤ 5 → (g p < x ↔ p < cntB f x n 0)) : g p = srtS f n p := by
  have h1 := h 1 (by decide) (by decide)
  have h2 := h 2 (by decide) (by decide)
  have h3 := h 3 (by decide) (by decide)
  have h4 := h 4 (by decide) (by decide)
  have h5 := h 5 (by decide) (by decide)
  unfold srtS
  generalize cntB f 1 n 0 = c1 at *
  generalize cntB f 2 n 0 = c2 at *
  generalize cntB f 3 n 0 = c3 at *
  generalize cntB f 4 n 0 = c4 at *
  generalize cntB f 5 n 0 = c5 at *
  generalize g p = y at *
  have : y = 0 ∨ y = 1 ∨ y = 2 ∨ y = 3 ∨ y = 4 ∨ y = 5 := by omega
  rcases this with rfl | rfl | rfl | rfl | rfl | rfl
  · rw [if_neg (by omega), if_neg (by omega), if_neg (by omega), if_neg (by omega), if_neg (by omega)]; rfl
  · rw [if_pos (by omega), if_neg (by omega), if_neg (by omega), if_neg (by omega), if_neg (by omega)]; rfl
  · rw [if_pos (by omega), if_pos (by omega), if_neg (by omega), if_neg (by omega), if_neg (by omega)]; rfl
  · rw [if_pos (by omega), if_pos (by omega), if_pos (by omega), if_neg (by omega), if_neg (by omega)]; rfl
  · rw [if_pos (by omega), if_pos (by omega), if_pos (by omega), if_pos (by omega), if_neg (by omega)]; rfl
  · rw [if_pos (by omega), if_pos (by omega), if_pos (by omega), if_pos (by omega), if_pos (by omega)]; rfl
/-! no more than all -/
theorem odd_share {E : Int → Int} {many v b B : Int} {st : OS} (hb : 0 ≤ b) (hv : 0 ≤ v) (h1 : 0 ≤ st.1) (h2 : nnF st.2 128) (hs : st.1 + sumN st.2 128 + v ≤ B) (hB : B ≤ 1000000000000) : 0 ≤ (shareS E many v b st).1 ∧ nnF (shareS E many v b st).2 128 ∧ (shareS E many v b st).1 + sumN (shareS E many v b st).2 128 = st.1 + sumN st.2 128 + v := by
  have hnn := sumN_nn h2
  unfold shareS
  split
  · simp only
    rw [w64_of (by omega) (by omega)]
    exact ⟨by omega, h2, by omega⟩
  · simp only
    have hl := sumN_le h2 (t := b % 128) (by omega) (by omega)
    have h0 := h2 (b % 128) (by omega) (by omega)
    have ew : w64 (st.2 (b % 128) + v) = st.2 (b % 128) + v := w64_of (by omega) (by omega)
    refine ⟨h1, fun t t0 t1 => ?_, ?_⟩
    · have := h2 t t0 t1
      unfold addF updF
      rw [ew]
      split <;> omega
    · unfold addF
      rw [sumN_upd (by omega) (by omega), ew]
      omega
theorem oddR_ok {E : Int → Int} {many c : Int} {W : Int → Int} (hc : 0 ≤ c ∧ c ≤ 1000) (hW : nnF W 128) : ∀ {n : Nat} {s : Int} {st : OS}, 0 ≤ s → s + n = 128 → 0 ≤ st.1 → nnF st.2 128 → st.1 + sumN st.2 128 + sumF W n s ≤ 1000000000000 → 0 ≤ (oddR E many c W n s st).1 ∧ nnF (oddR E many c W n s st).2 128 ∧ (oddR E many c W n s st).1 + sumN (oddR E many c W n s st).2 128 = st.1 + sumN st.2 128 + sumF W n s := by
  have hrest : ∀ (m : Nat) (s : Int), 0 ≤ s → s + m ≤ 128 → 0 ≤ sumF W m s := by
    intro m
    induction m with
    | zero => intro s _ _; exact Int.le_refl 0
    | succ m ih =>
      intro s h0 h1
      have a := ih (s + 1) (by omega) (by omega)
      have b := hW s h0 (by omega)
      show 0 ≤ W s + sumF W m (s + 1)
      omega
  intro n
  induction n with
  | zero => intro s st _ _ h1 h2 _; exact ⟨h1, h2, by show _ = st.1 + sumN st.2 128 + 0; rw [Int.add_zero]; rfl⟩
  | succ n ih =>
    intro s st h0 hn h1 h2 hs
    have e : sumF W (n + 1) s = W s + sumF W n (s + 1) := rfl
    rw [e] at hs ⊢
    have hr := hrest n (s + 1) (by omega) (by omega)
    have hw := hW s h0 (by omega)
    have hnn := sumN_nn h2
    rw [oddR_succ]
    unfold oddStep
    by_cases hz : W s = 0
    · rw [if_pos hz]
      obtain ⟨a1, a2, a3⟩ := ih (s := s + 1) (st := st) (by omega) (by omega) h1 h2 (by omega)
      exact ⟨a1, a2, by omega⟩
    · rw [if_neg hz]
      obtain ⟨g1, g2, g3⟩ := goW_bd (w := W s) hc ⟨hw, by omega⟩
      have eg : ldiv (w64 (W s * c)) 1000 = goW c (W s) := rfl
      have est : w64 (W s - ldiv (w64 (W s * c)) 1000) = stW c (W s) := rfl
      rw [est, eg]
      obtain ⟨b1, b2, b3⟩ := odd_share (E := E) (many := many) (v := goW c (W s)) (b := 2 * s + 1) (B := 1000000000000) (st := st) (by omega) g1 h1 h2 (by omega) (by omega)
      obtain ⟨c1, c2, c3⟩ := odd_share (E := E) (many := many) (v := stW c (W s)) (b := 2 * s) (B := 1000000000000) (st := shareS E many (goW c (W s)) (2 * s + 1) st) (by omega) (by omega) b1 b2 (by omega) (by omega)
      obtain ⟨a1, a2, a3⟩ := ih (s := s + 1) (st := shareS E many (stW c (W s)) (2 * s) (shareS E many (goW c (W s)) (2 * s + 1) st)) (by omega) (by omega) c1 c2 (by omega)
      exact ⟨a1, a2, by omega⟩
theorem oddsR_ok {E ch : Int → Int} (hc : ∀ p, 0 ≤ ch p ∧ ch p ≤ 1000) : ∀ {n : Nat} {p : Int} {st : OS}, 0 ≤ st.1 → nnF st.2 128 → st.1 + sumN st.2 128 ≤ 1000000000000 → (oddsR E ch n p st).1 ≤ 1000000000000 := by
  intro n
  induction n with
  | zero => intro p st h1 h2 hs; have := sumN_nn h2; show st.1 ≤ _; omega
  | succ n ih =>
    intro p st h1 h2 hs
    rw [oddsR_succ]
    have e := sumF_N (f := st.2) (n := 128) (s := 0)
    rw [show ((0 : Nat) : Int) = 0 from rfl, Nat.zero_add] at e
    have e2 : sumN st.2 0 = 0 := rfl
    have e3 : sumN (fun _ => 0) 128 = 0 := sumN_0 128
    obtain ⟨a1, a2, a3⟩ := oddR_ok (E := E) (many := imin (p + 1) 8) (hc p) h2 (n := 128) (s := 0) (st := (st.1, fun _ => 0)) (by decide) (by decide) h1 (fun _ _ _ => Int.le_refl 0) (by show st.1 + sumN (fun _ => 0) 128 + _ ≤ _; omega)
    have e4 : (oddR E (imin (p + 1) 8) (ch p) st.2 128 0 (st.1, fun _ => 0)).1 + sumN (oddR E (imin (p + 1) 8) (ch p) st.2 128 0 (st.1, fun _ => 0)).2 128 = st.1 + sumN (fun _ => 0) 128 + sumF st.2 128 0 := a3
    exact ih a1 a2 (by omega)
theorem chanceF_le {E ch : Int → Int} {n : Nat} (hc : ∀ p, 0 ≤ ch p ∧ ch p ≤ 1000) : chanceF E ch n ≤ 1000000000000 := by
  unfold chanceF
  refine oddsR_ok hc (by decide) (fun t _ _ => by unfold odd0; simp only; split <;> decide) ?_
  have h : ∀ m : Nat, sumN odd0.2 (m + 1) = 1000000000000 := by
    intro m
    induction m with
    | zero => decide
    | succ m ih =>
      show sumN odd0.2 (m + 1) + odd0.2 ((m + 1 : Nat) : Int) = _
      rw [ih]
      unfold odd0
      simp only
      rw [if_neg (by omega)]
      rfl
  rw [h 127]
  decide
