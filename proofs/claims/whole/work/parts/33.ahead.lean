/-! DAYS AHEAD: pure. A set's weight goes over to parts: pairs of a set and a weight -/
abbrev PL : Type := List (Int × Int)
def goW (c w : Int) : Int := ldiv (w64 (w * c)) 1000
def stW (c w : Int) : Int := w64 (w - goW c w)
def stayP (c : Int) (x : Int × Int) : Int × Int := (x.1, stW c x.2)
def goP (c p : Int) (x : Int × Int) : Int × Int := (ior x.1 (ishl 1 p), goW c x.2)
def nzl (L : PL) : PL := L.filter (fun x => decide (x.2 ≠ 0))
def stepZ (c p : Int) (Z : PL) : PL := if c ≤ 0 then Z else nzl (Z.map (stayP c)) ++ nzl (Z.map (goP c p))
def splitZ (c : Int → Int) (S : Int) : Nat → Int → PL → PL
  | 0, _, Z => Z
  | n + 1, p, Z => splitZ c S n (p + 1) (if bitI S p = 1 then Z else stepZ (c p) p Z)
def accL (fs : Int → Int) : PL → (Int → Int) → (Int → Int)
  | [], nx => nx
  | x :: L, nx => accL fs L (if x.2 = 0 then nx else if fs x.1 ≠ 0 then nx else addF nx x.1 x.2)
def dayR (fs : Int → Int) (ch : Int → Int → Int) (F : Int → Int) (n : Nat) : Nat → Int → (Int → Int) → (Int → Int)
  | 0, _, nx => nx
  | m + 1, s, nx => dayR fs ch F n m (s + 1) (if F s = 0 then nx else accL fs (splitZ (ch s) s n 0 [(s, F s)]) nx)
def dayA (fs : Int → Int) (ch : Int → Int → Int) (n : Nat) (F : Int → Int) : Int → Int := dayR fs ch F n (2 ^ n) 0 (fun _ => 0)
def futF (fs : Int → Int) (ch : Int → Int → Int → Int) (n : Nat) (F0 : Int → Int) : Nat → Int → Int
  | 0 => F0
  | k + 1 => dayA fs (ch k) n (futF fs ch n F0 k)
theorem splitZ_succ (c : Int → Int) (S : Int) (n : Nat) (p : Int) (Z : PL) : splitZ c S (n + 1) p Z = splitZ c S n (p + 1) (if bitI S p = 1 then Z else stepZ (c p) p Z) := rfl
theorem accL_cons (fs : Int → Int) (x : Int × Int) (L : PL) (nx : Int → Int) : accL fs (x :: L) nx = accL fs L (if x.2 = 0 then nx else if fs x.1 ≠ 0 then nx else addF nx x.1 x.2) := rfl
theorem dayR_succ (fs : Int → Int) (ch : Int → Int → Int) (F : Int → Int) (n m : Nat) (s : Int) (nx : Int → Int) : dayR fs ch F n (m + 1) s nx = dayR fs ch F n m (s + 1) (if F s = 0 then nx else accL fs (splitZ (ch s) s n 0 [(s, F s)]) nx) := rfl
theorem nzl_nil : nzl [] = [] := rfl
theorem nzl_cons (x : Int × Int) (L : PL) : nzl (x :: L) = if x.2 = 0 then nzl L else x :: nzl L := by
  unfold nzl
  rw [List.filter_cons]
  by_cases h : x.2 = 0
  · simp [h]
  · simp [h]
theorem nzl_app (A B : PL) : nzl (A ++ B) = nzl A ++ nzl B := List.filter_append ..
theorem nzl_nzl (L : PL) : nzl (nzl L) = nzl L := by
  unfold nzl
  rw [List.filter_filter]
  congr 1
  funext x
  simp
theorem accL_nzl (fs : Int → Int) : ∀ (L : PL) (nx : Int → Int), accL fs (nzl L) nx = accL fs L nx := by
  intro L
  induction L with
  | nil => intro nx; rfl
  | cons x L ih =>
    intro nx
    rw [nzl_cons, accL_cons]
    by_cases h : x.2 = 0
    · rw [if_pos h, if_pos h]; exact ih nx
    · rw [if_neg h, accL_cons, if_neg h]; exact ih _
theorem goW_0 (c : Int) : goW c 0 = 0 := by
  unfold goW
  rw [Int.zero_mul]
  decide
theorem stW_0 (c : Int) : stW c 0 = 0 := by
  unfold stW
  rw [goW_0]
  decide
theorem goW_c0 (w : Int) : goW 0 w = 0 := by
  unfold goW
  rw [Int.mul_zero]
  decide
theorem stW_c0 {w : Int} (h : in64 w) : stW 0 w = w := by
  unfold stW
  rw [goW_c0, Int.sub_zero, w64_id h]
theorem nzl_map {f : Int × Int → Int × Int} (hf : ∀ x, x.2 = 0 → (f x).2 = 0) : ∀ (L : PL), nzl (L.map f) = nzl ((nzl L).map f) := by
  intro L
  induction L with
  | nil => rfl
  | cons x L ih =>
    rw [List.map_cons, nzl_cons, nzl_cons]
    by_cases h : x.2 = 0
    · rw [if_pos h, if_pos (hf x h)]; exact ih
    · rw [if_neg h, List.map_cons, nzl_cons, ih]
theorem nzl_all0 {f : Int × Int → Int × Int} (hf : ∀ x, (f x).2 = 0) : ∀ (L : PL), nzl (L.map f) = [] := by
  intro L
  induction L with
  | nil => rfl
  | cons x L ih => rw [List.map_cons, nzl_cons, if_pos (hf x)]; exact ih
/-- a step of the lists: zeroes don't matter -/
theorem stepZ_of {c p : Int} {L Z : PL} (hc : 0 ≤ c) (hZ : nzl L = Z) (h64 : ∀ x ∈ L, in64 x.2) : nzl (L.map (stayP c) ++ L.map (goP c p)) = stepZ c p Z := by
  rw [nzl_app]
  unfold stepZ
  by_cases h : c ≤ 0
  · have e : c = 0 := by omega
    subst e
    rw [if_pos h, nzl_all0 (f := goP 0 p) (fun x => goW_c0 x.2), List.append_nil, ← hZ]
    congr 1
    conv => rhs; rw [← List.map_id L]
    refine List.map_congr_left fun x hx => ?_
    show (x.1, stW 0 x.2) = x
    rw [stW_c0 (h64 x hx)]
  · rw [if_neg h, nzl_map (f := stayP c) (fun x hx => by show stW c x.2 = 0; rw [hx, stW_0]), nzl_map (f := goP c p) (fun x hx => by show goW c x.2 = 0; rw [hx, goW_0]), hZ]
theorem stepZ_ofC {c p : Int} {L Z : PL} (hc : 0 < c) (hZ : nzl L = Z) : nzl (L.map (stayP c) ++ nzl (L.map (goP c p))) = stepZ c p Z := by
  rw [nzl_app, nzl_nzl]
  unfold stepZ
  rw [if_neg (by omega), nzl_map (f := stayP c) (fun x hx => by show stW c x.2 = 0; rw [hx, stW_0]), nzl_map (f := goP c p) (fun x hx => by show goW c x.2 = 0; rw [hx, goW_0]), hZ]
/-! nothing is lost but what fails -/
theorem ldiv_nn {a b : Int} (ha : 0 ≤ a) (ha2 : a ≤ 9223372036854775807) (hb : 0 < b) (hb2 : b ≤ 9223372036854775807) : ldiv a b = a / b := by
  unfold ldiv
  rw [Int64.toInt_div, ofInt_toInt64 ⟨by omega, ha2⟩, ofInt_toInt64 ⟨by omega, hb2⟩, Int.tdiv_eq_ediv_of_nonneg ha]
  have h1 : 0 ≤ a / b := Int.ediv_nonneg ha (by omega)
  have h2 : a / b ≤ a := Int.ediv_le_self _ ha
  rw [Int.bmod_def]
  omega
theorem goW_bd {c w : Int} (hc : 0 ≤ c ∧ c ≤ 1000) (hw : 0 ≤ w ∧ w ≤ 1000000000000) : 0 ≤ goW c w ∧ goW c w ≤ w ∧ stW c w = w - goW c w := by
  have h1 : 0 ≤ w * c := Int.mul_nonneg hw.1 hc.1
  have h2 : w * c ≤ w * 1000 := Int.mul_le_mul_of_nonneg_left hc.2 hw.1
  have e : goW c w = w * c / 1000 := by
    unfold goW
    rw [w64_of (by omega) (by omega), ldiv_nn h1 (by omega) (by decide) (by decide)]
  have a1 : 0 ≤ goW c w := by rw [e]; omega
  have a2 : goW c w ≤ w := by rw [e]; omega
  refine ⟨a1, a2, ?_⟩
  unfold stW
  rw [w64_of (by omega) (by omega)]
def plsum : PL → Int
  | [] => 0
  | x :: L => x.2 + plsum L
def okP (K : Int) (L : PL) : Prop := ∀ x ∈ L, 0 ≤ x.2 ∧ 0 ≤ x.1 ∧ x.1 < K
theorem okP_c {K : Int} {x : Int × Int} {L : PL} (h : okP K (x :: L)) : (0 ≤ x.2 ∧ 0 ≤ x.1 ∧ x.1 < K) ∧ okP K L := ⟨h x List.mem_cons_self, fun y hy => h y (List.mem_cons_of_mem _ hy)⟩
theorem okP_k {K : Int} {x : Int × Int} {L : PL} (h : 0 ≤ x.2 ∧ 0 ≤ x.1 ∧ x.1 < K) (h2 : okP K L) : okP K (x :: L) := fun y hy => by
  rcases List.mem_cons.mp hy with e | e
  · rw [e]; exact h
  · exact h2 y e
theorem okP_app {K : Int} {A B : PL} (h : okP K A) (h2 : okP K B) : okP K (A ++ B) := fun y hy => (List.mem_append.mp hy).elim (h y) (h2 y)
theorem okP_nzl {K : Int} {L : PL} (h : okP K L) : okP K (nzl L) := fun y hy => h y ((List.mem_filter.mp hy).1)
theorem plsum_nn {K : Int} : ∀ {L : PL}, okP K L → 0 ≤ plsum L := by
  intro L
  induction L with
  | nil => intro _; exact Int.le_refl 0
  | cons x L ih =>
    intro h
    obtain ⟨h1, h2⟩ := okP_c h
    have := ih h2
    show 0 ≤ x.2 + plsum L
    omega
theorem plsum_app : ∀ (A B : PL), plsum (A ++ B) = plsum A + plsum B := by
  intro A B
  induction A with
  | nil => show plsum B = 0 + plsum B; omega
  | cons x A ih => show x.2 + plsum (A ++ B) = x.2 + plsum A + plsum B; omega
theorem plsum_nzl : ∀ (L : PL), plsum (nzl L) = plsum L := by
  intro L
  induction L with
  | nil => rfl
  | cons x L ih =>
    rw [nzl_cons]
    show _ = x.2 + plsum L
    split
    · omega
    · show x.2 + plsum (nzl L) = _; omega
theorem map_ok {c p K : Int} (hc : 0 ≤ c ∧ c ≤ 1000) (hK : ∀ x : Int, 0 ≤ x → x < K → 0 ≤ ior x (ishl 1 p) ∧ ior x (ishl 1 p) < K) : ∀ {L : PL}, okP K L → plsum L ≤ 1000000000000 → okP K (L.map (stayP c)) ∧ okP K (L.map (goP c p)) ∧ plsum (L.map (stayP c)) + plsum (L.map (goP c p)) = plsum L := by
  intro L
  induction L with
  | nil => intro _ _; exact ⟨fun _ h => absurd h List.not_mem_nil, fun _ h => absurd h List.not_mem_nil, rfl⟩
  | cons x L ih =>
    intro h hw
    obtain ⟨h1, h2⟩ := okP_c h
    have hn := plsum_nn h2
    have hw2 : x.2 + plsum L ≤ 1000000000000 := hw
    obtain ⟨i1, i2, i3⟩ := ih h2 (by omega)
    obtain ⟨g1, g2, g3⟩ := goW_bd (w := x.2) hc ⟨h1.1, by omega⟩
    obtain ⟨b1, b2⟩ := hK x.1 h1.2.1 h1.2.2
    refine ⟨okP_k ⟨?_, h1.2⟩ i1, okP_k ⟨g1, b1, b2⟩ i2, ?_⟩
    · show 0 ≤ stW c x.2; omega
    · show stW c x.2 + plsum (L.map (stayP c)) + (goW c x.2 + plsum (L.map (goP c p))) = x.2 + plsum L
      omega
theorem stepZ_ok {c p K : Int} (hc : 0 ≤ c ∧ c ≤ 1000) (hK : ∀ x : Int, 0 ≤ x → x < K → 0 ≤ ior x (ishl 1 p) ∧ ior x (ishl 1 p) < K) {Z : PL} (h : okP K Z) (hw : plsum Z ≤ 1000000000000) : okP K (stepZ c p Z) ∧ plsum (stepZ c p Z) = plsum Z := by
  unfold stepZ
  split
  · exact ⟨h, rfl⟩
  · obtain ⟨a1, a2, a3⟩ := map_ok (p := p) hc hK h hw
    exact ⟨okP_app (okP_nzl a1) (okP_nzl a2), by rw [plsum_app, plsum_nzl, plsum_nzl]; exact a3⟩
theorem ior_lt {n : Nat} {p x : Int} (hn : n ≤ 30) (hp : 0 ≤ p ∧ p < n) (h0 : 0 ≤ x) (h1 : x < ((2 ^ n : Nat) : Int)) : 0 ≤ ior x (ishl 1 p) ∧ ior x (ishl 1 p) < ((2 ^ n : Nat) : Int) := by
  obtain ⟨k, rfl⟩ : ∃ k : Nat, p = (k : Int) := ⟨p.toNat, by omega⟩
  obtain ⟨m, rfl⟩ : ∃ m : Nat, x = (m : Int) := ⟨x.toNat, by omega⟩
  have hb : 2 ^ n < 2 ^ 31 := Nat.pow_lt_pow_right (by decide) (by omega)
  have hb2 : 2 ^ k < 2 ^ 31 := Nat.pow_lt_pow_right (by decide) (by omega)
  rw [shl1_nat (by omega), ior_nat (by omega) hb2]
  have := set_lt (n := m) (p := k) (k := n) (by omega) (by omega)
  omega
theorem splitZ_ok {c : Int → Int} {S : Int} {n : Nat} (hn : n ≤ 30) (hc : ∀ p, 0 ≤ c p ∧ c p ≤ 1000) : ∀ {m : Nat} {p : Int} {Z : PL}, 0 ≤ p → p + m ≤ n → okP ((2 ^ n : Nat) : Int) Z → plsum Z ≤ 1000000000000 → okP ((2 ^ n : Nat) : Int) (splitZ c S m p Z) ∧ plsum (splitZ c S m p Z) = plsum Z := by
  intro m
  induction m with
  | zero => intro p Z _ _ h _; exact ⟨h, rfl⟩
  | succ m ih =>
    intro p Z h0 h1 h hw
    rw [splitZ_succ]
    split
    · exact ih (by omega) (by omega) h hw
    · obtain ⟨a1, a2⟩ := stepZ_ok (hc p) (fun x x0 x1 => ior_lt hn ⟨h0, by omega⟩ x0 x1) h hw
      obtain ⟨b1, b2⟩ := ih (p := p + 1) (by omega) (by omega) a1 (by omega)
      exact ⟨b1, b2.trans a2⟩
def sumN (f : Int → Int) : Nat → Int
  | 0 => 0
  | n + 1 => sumN f n + f n
theorem sumN_congr {f f' : Int → Int} : ∀ {n : Nat}, (∀ t : Int, 0 ≤ t → t < n → f t = f' t) → sumN f n = sumN f' n := by
  intro n
  induction n with
  | zero => intro _; rfl
  | succ n ih =>
    intro h
    show sumN f n + f n = sumN f' n + f' n
    rw [ih fun t h0 h1 => h t h0 (by omega), h n (by omega) (by omega)]
theorem sumN_upd {f : Int → Int} {t v : Int} : ∀ {n : Nat}, 0 ≤ t → t < n → sumN (updF f t v) n = sumN f n - f t + v := by
  intro n
  induction n with
  | zero => intro _ _; omega
  | succ n ih =>
    intro h0 h1
    show sumN (updF f t v) n + updF f t v n = sumN f n + f n - f t + v
    by_cases e : t = n
    · subst e
      rw [sumN_congr (f := updF f n v) (f' := f) fun q q0 q1 => by unfold updF; rw [if_neg (by omega)]]
      unfold updF
      rw [if_pos rfl]
      omega
    · rw [ih h0 (by omega)]
      have : updF f t v n = f n := by unfold updF; rw [if_neg (fun z => e z.symm)]
      omega
def nnF (f : Int → Int) (K : Nat) : Prop := ∀ t : Int, 0 ≤ t → t < K → 0 ≤ f t
theorem sumN_nn {f : Int → Int} : ∀ {n : Nat}, nnF f n → 0 ≤ sumN f n := by
  intro n
  induction n with
  | zero => intro _; exact Int.le_refl 0
  | succ n ih =>
    intro h
    have h1 := ih fun t h0 h1 => h t h0 (by omega)
    have h2 := h n (by omega) (by omega)
    show 0 ≤ sumN f n + f n
    omega
theorem sumN_le {f : Int → Int} {t : Int} : ∀ {n : Nat}, nnF f n → 0 ≤ t → t < n → f t ≤ sumN f n := by
  intro n
  induction n with
  | zero => intro _ _ _; omega
  | succ n ih =>
    intro h h0 h1
    have hn : nnF f n := fun t h0 h1 => h t h0 (by omega)
    have h2 := h n (by omega) (by omega)
    have h3 := sumN_nn hn
    show f t ≤ sumN f n + f n
    by_cases e : t = n
    · subst e; omega
    · have := ih hn h0 (by omega); omega
theorem accL_ok {fs : Int → Int} {K : Nat} : ∀ {L : PL} {nx : Int → Int}, okP K L → nnF nx K → sumN nx K + plsum L ≤ 1000000000000 → nnF (accL fs L nx) K ∧ sumN (accL fs L nx) K ≤ sumN nx K + plsum L := by
  intro L
  induction L with
  | nil => intro nx _ h _; exact ⟨h, by show sumN nx K ≤ sumN nx K + 0; omega⟩
  | cons x L ih =>
    intro nx h hn hs
    obtain ⟨h1, h2⟩ := okP_c h
    have hL := plsum_nn h2
    have hs2 : sumN nx K + (x.2 + plsum L) ≤ 1000000000000 := hs
    have e : plsum (x :: L) = x.2 + plsum L := rfl
    rw [accL_cons, e]
    by_cases hz : x.2 = 0
    · rw [if_pos hz]
      obtain ⟨a1, a2⟩ := ih h2 hn (by omega)
      exact ⟨a1, by omega⟩
    rw [if_neg hz]
    by_cases hf : fs x.1 ≠ 0
    · rw [if_pos hf]
      obtain ⟨a1, a2⟩ := ih h2 hn (by omega)
      exact ⟨a1, by omega⟩
    rw [if_neg hf]
    have hle := sumN_le hn h1.2.1 h1.2.2
    have hx0 := hn x.1 h1.2.1 h1.2.2
    have hnn := sumN_nn hn
    have ew : w64 (nx x.1 + x.2) = nx x.1 + x.2 := w64_of (by omega) (by omega)
    have hn3 : nnF (addF nx x.1 x.2) K := fun t t0 t1 => by
      have := hn t t0 t1
      unfold addF updF
      rw [ew]
      split <;> omega
    have hs3 : sumN (addF nx x.1 x.2) K = sumN nx K + x.2 := by
      unfold addF
      rw [sumN_upd h1.2.1 h1.2.2, ew]
      omega
    obtain ⟨a1, a2⟩ := ih h2 hn3 (by omega)
    exact ⟨a1, by omega⟩
/-- what is to come of the sets from s on -/
def sumF (f : Int → Int) : Nat → Int → Int
  | 0, _ => 0
  | n + 1, s => f s + sumF f n (s + 1)
theorem sumF_N {f : Int → Int} : ∀ {n : Nat} {s : Nat}, sumN f s + sumF f n s = sumN f (s + n) := by
  intro n
  induction n with
  | zero => intro s; show sumN f s + 0 = sumN f s; omega
  | succ n ih =>
    intro s
    have h := ih (s := s + 1)
    rw [show s + (n + 1) = s + 1 + n by omega, ← h]
    show sumN f s + (f s + sumF f n ((s : Int) + 1)) = sumN f s + f s + sumF f n ((s + 1 : Nat) : Int)
    rw [show ((s + 1 : Nat) : Int) = (s : Int) + 1 by omega]
    omega
theorem dayR_ok {fs : Int → Int} {ch : Int → Int → Int} {F : Int → Int} {n : Nat} (hn : n ≤ 30) (hc : ∀ s p, 0 ≤ ch s p ∧ ch s p ≤ 1000) (hF : nnF F (2 ^ n)) : ∀ {m : Nat} {s : Int} {nx : Int → Int}, 0 ≤ s → s + m ≤ ((2 ^ n : Nat) : Int) → nnF nx (2 ^ n) → sumN nx (2 ^ n) + sumF F m s ≤ 1000000000000 → nnF (dayR fs ch F n m s nx) (2 ^ n) ∧ sumN (dayR fs ch F n m s nx) (2 ^ n) ≤ sumN nx (2 ^ n) + sumF F m s := by
  intro m
  induction m with
  | zero => intro s nx _ _ h _; exact ⟨h, by show sumN nx (2 ^ n) ≤ sumN nx (2 ^ n) + 0; omega⟩
  | succ m ih =>
    intro s nx h0 h1 h hs
    have e : sumF F (m + 1) s = F s + sumF F m (s + 1) := rfl
    rw [e] at hs ⊢
    have hFs := hF s h0 (by omega)
    have hrest : 0 ≤ sumF F m (s + 1) := by
      have : ∀ (m : Nat) (s : Int), 0 ≤ s → s + m ≤ ((2 ^ n : Nat) : Int) → 0 ≤ sumF F m s := by
        intro m
        induction m with
        | zero => intro s _ _; exact Int.le_refl 0
        | succ m ih =>
          intro s h0 h1
          have a := ih (s + 1) (by omega) (by omega)
          have b := hF s h0 (by omega)
          show 0 ≤ F s + sumF F m (s + 1)
          omega
      exact this m (s + 1) (by omega) (by omega)
    rw [dayR_succ]
    have hnn := sumN_nn h
    by_cases hz : F s = 0
    · rw [if_pos hz]
      obtain ⟨a1, a2⟩ := ih (s := s + 1) (by omega) (by omega) h (by omega)
      exact ⟨a1, by omega⟩
    · rw [if_neg hz]
      have hw : plsum [(s, F s)] = F s := by show F s + 0 = F s; omega
      obtain ⟨b1, b2⟩ := splitZ_ok (c := ch s) (S := s) hn (hc s) (m := n) (p := 0) (Z := [(s, F s)]) (by decide) (by omega) (okP_k ⟨hFs, h0, by show s < _; omega⟩ fun _ h => absurd h List.not_mem_nil) (by omega)
      obtain ⟨c1, c2⟩ := accL_ok (fs := fs) b1 h (by omega)
      obtain ⟨a1, a2⟩ := ih (s := s + 1) (nx := accL fs (splitZ (ch s) s n 0 [(s, F s)]) nx) (by omega) (by omega) c1 (by omega)
      exact ⟨a1, by omega⟩
theorem sumN_0 : ∀ (n : Nat), sumN (fun _ => 0) n = 0 := by
  intro n
  induction n with
  | zero => rfl
  | succ n ih => show sumN (fun _ => 0) n + 0 = 0; omega
theorem dayA_ok {fs : Int → Int} {ch : Int → Int → Int} {F : Int → Int} {n : Nat} (hn : n ≤ 30) (hc : ∀ s p, 0 ≤ ch s p ∧ ch s p ≤ 1000) (hF : nnF F (2 ^ n)) (hs : sumN F (2 ^ n) ≤ 1000000000000) : nnF (dayA fs ch n F) (2 ^ n) ∧ sumN (dayA fs ch n F) (2 ^ n) ≤ 1000000000000 := by
  have e := sumF_N (f := F) (n := 2 ^ n) (s := 0)
  rw [Nat.zero_add] at e
  have e2 : sumN F 0 = 0 := rfl
  have e3 := sumN_0 (2 ^ n)
  rw [show ((0 : Nat) : Int) = 0 from rfl] at e
  obtain ⟨a1, a2⟩ := dayR_ok (fs := fs) (ch := ch) hn hc hF (m := 2 ^ n) (s := 0) (nx := fun _ => 0) (by decide) (by omega) (fun _ _ _ => Int.le_refl 0) (by omega)
  exact ⟨a1, by unfold dayA; omega⟩
theorem futF_ok {fs : Int → Int} {ch : Int → Int → Int → Int} {F0 : Int → Int} {n : Nat} (hn : n ≤ 30) (hc : ∀ e s p, 0 ≤ ch e s p ∧ ch e s p ≤ 1000) (hF : nnF F0 (2 ^ n)) (hs : sumN F0 (2 ^ n) ≤ 1000000000000) : ∀ (k : Nat), nnF (futF fs ch n F0 k) (2 ^ n) ∧ sumN (futF fs ch n F0 k) (2 ^ n) ≤ 1000000000000 := by
  intro k
  induction k with
  | zero => exact ⟨hF, hs⟩
  | succ k ih => exact dayA_ok hn (hc k) ih.1 ih.2
