/-! DAYS AHEAD: the class -/
def lsA (σ : PS) (a b : Int) : Int → PL → Prop
  | _, [] => True
  | k, x :: L => σ a k = x.1 ∧ σ b k = x.2 ∧ lsA σ a b (k + 1) L
theorem lsA_congr {σ σ' : PS} {a b : Int} : ∀ {L : PL} {k : Int}, (∀ j : Int, k ≤ j → j < k + L.length → σ' a j = σ a j ∧ σ' b j = σ b j) → lsA σ a b k L → lsA σ' a b k L := by
  intro L
  induction L with
  | nil => intro k _ _; trivial
  | cons x L ih =>
    intro k h hs
    obtain ⟨h1, h2⟩ := h k (by omega) (by simp only [List.length_cons]; omega)
    refine ⟨h1.trans hs.1, h2.trans hs.2.1, ih (fun j j0 j1 => h j (by omega) (by simp only [List.length_cons]; omega)) hs.2.2⟩
theorem lsA_app {σ : PS} {a b : Int} : ∀ {X Y : PL} {k : Int}, lsA σ a b k X → lsA σ a b (k + X.length) Y → lsA σ a b k (X ++ Y) := by
  intro X
  induction X with
  | nil => intro Y k _ h; simpa using h
  | cons x X ih =>
    intro Y k h h2
    refine ⟨h.1, h.2.1, ih h.2.2 ?_⟩
    rw [List.length_cons, show k + ((X.length + 1 : Nat) : Int) = k + 1 + (X.length : Int) by omega] at h2
    exact h2
theorem lsA_mem {σ : PS} {a b : Int} {P : Int → Int → Prop} : ∀ {L : PL} {k : Int}, lsA σ a b k L → 0 ≤ k → (∀ j : Int, 0 ≤ j → P (σ a j) (σ b j)) → ∀ x ∈ L, P x.1 x.2 := by
  intro L
  induction L with
  | nil => intro k _ _ _ x hx; exact absurd hx List.not_mem_nil
  | cons y L ih =>
    intro k h h0 hP x hx
    rcases List.mem_cons.mp hx with e | e
    · rw [e, ← h.1, ← h.2.1]; exact hP k h0
    · exact ih h.2.2 (by omega) hP x e
theorem ar64 {σ : PS} (h : okS 136 σ) {a : Int} {n : Nat} (hF : Fat 136 a (21, n)) {j : Int} (hj : 0 ≤ j) : in64 (σ a j) := by
  obtain ⟨h1, h2, h3, h4⟩ := hF
  have h5 := (h a.toNat h2 j.toNat).2 (by rw [sty_ar h4 (by decide), if_pos rfl])
  rw [show ((a.toNat : Nat) : Int) = a by omega, show ((j.toNat : Nat) : Int) = j by omega] at h5
  exact h5
def okQ (K : Int) (L : PL) : Prop := ∀ x ∈ L, 0 ≤ x.1 ∧ x.1 < K
theorem okQ_k {K : Int} {x : Int × Int} {L : PL} (h : 0 ≤ x.1 ∧ x.1 < K) (h2 : okQ K L) : okQ K (x :: L) := fun y hy => by
  rcases List.mem_cons.mp hy with e | e
  · rw [e]; exact h
  · exact h2 y e
theorem okQ_app {K : Int} {A B : PL} (h : okQ K A) (h2 : okQ K B) : okQ K (A ++ B) := fun y hy => (List.mem_append.mp hy).elim (h y) (h2 y)
theorem okQ_nzl {K : Int} {L : PL} (h : okQ K L) : okQ K (nzl L) := fun y hy => h y (List.mem_filter.mp hy).1
theorem okQ_stay {K c : Int} {L : PL} (h : okQ K L) : okQ K (L.map (stayP c)) := fun y hy => by
  obtain ⟨x, hx, e⟩ := List.mem_map.mp hy
  rw [← e]
  exact h x hx
theorem okQ_go {K c p : Int} {L : PL} (hK : ∀ x : Int, 0 ≤ x → x < K → 0 ≤ ior x (ishl 1 p) ∧ ior x (ishl 1 p) < K) (h : okQ K L) : okQ K (L.map (goP c p)) := fun y hy => by
  obtain ⟨x, hx, e⟩ := List.mem_map.mp hy
  rw [← e]
  exact hK x.1 (h x hx).1 (h x hx).2
theorem nzl_len (L : PL) : (nzl L).length ≤ L.length := List.length_filter_le _ _
section PAHC
variable {g : PG} {d : Nat} {Q : Int → PS → Prop}
theorem s_splitBy {p c : Int} {L : PL} {σ : PS} (hl : 2 * L.length ≤ 1024) (hL : lsA σ 81 82 0 L) (w : ∀ σ', eqx [81, 82] σ σ' → lsA σ' 81 82 0 (L.map (stayP c) ++ nzl (L.map (goP c p))) → Q ((L.map (stayP c) ++ nzl (L.map (goP c p))).length : Int) σ') : XX g true d P_X3_splitBy 0 [(2, 76), (0, p), (0, c), (0, (L.length : Int)), (9, 0), (9, 0), (9, 0), (9, 0)] [] 136 σ 136 Q := by
  have key : ∀ (B A C : PL) (σ1 : PS), A.length + B.length = L.length → C.length ≤ A.length → eqx [81, 82] σ σ1 → lsA σ1 81 82 0 A → lsA σ1 81 82 (A.length : Int) B → lsA σ1 81 82 (L.length : Int) C → (∀ σ', eqx [81, 82] σ σ' → lsA σ' 81 82 0 ((A ++ B.map (stayP c)) ++ (C ++ nzl (B.map (goP c p)))) → Q (((A ++ B.map (stayP c)) ++ (C ++ nzl (B.map (goP c p)))).length : Int) σ') → XX g true d P_X3_splitBy 6 [(2, 76), (0, p), (0, c), (0, (L.length : Int)), (0, (L.length : Int) + C.length), (0, (A.length : Int)), (9, 0), (9, 0)] [] 136 σ1 136 Q := by
    intro B
    induction B with
    | nil =>
      intro A C σ1 hAB hC hx hA hB hCC w
      simp only [List.length_nil, Nat.add_zero] at hAB
      refine B_X3_splitBy_6 ⟨fun _ => ?_, fun h => by omega⟩
      have h9 := w σ1 hx (by
        simp only [List.map_nil, List.append_nil, nzl_nil]
        refine lsA_app hA ?_
        rw [hAB, Int.zero_add]
        exact hCC)
      simp only [List.map_nil, List.append_nil, nzl_nil, List.length_append] at h9
      rw [show ((A.length + C.length : Nat) : Int) = (L.length : Int) + C.length by omega] at h9
      exact h9
    | cons b B ih =>
      intro A C σ1 hAB hC hx hA hB hCC w
      simp only [List.length_cons] at hAB
      obtain ⟨b1, b2, b3⟩ := hB
      have e1 : w32 ((A.length : Int) + 1) = (A.length : Int) + 1 := w32_of (by omega) (by omega)
      have e2 : w32 ((L.length : Int) + C.length + 1) = (L.length : Int) + C.length + 1 := w32_of (by omega) (by omega)
      have la : (A ++ [stayP c b]).length = A.length + 1 := by simp
      refine B_X3_splitBy_6 ⟨fun h => by omega, fun h => ⟨by omega, fun y2 h2 => ?_⟩⟩
      rw [b2] at h2
      rw [e1, e2]
      refine ⟨fun hz => E_okS fun hok => ?_, fun hz => ⟨fun h => by omega, fun h => ⟨by omega, ?_⟩⟩⟩
      · have hb64 : in64 b.2 := by rw [← b2]; exact ar64 hok ac_82 (by omega)
        have hg : goW c b.2 = 0 := by unfold goW; rw [← h2]; exact hz
        have hst : stayP c b = b := by
          show (b.1, stW c b.2) = b
          unfold stW
          rw [hg, Int.sub_zero, w64_id hb64]
        have h9 := ih (A ++ [stayP c b]) C σ1 (by rw [la]; omega) (by rw [la]; omega) hx (lsA_app hA ⟨by rw [hst, Int.zero_add]; exact b1, by rw [hst, Int.zero_add]; exact b2, trivial⟩) (by rw [la]; exact b3) hCC fun σ' hx' hl' => by
          have h8 := w σ' hx'
          rw [List.map_cons, List.map_cons, nzl_cons, if_pos (show (goP c p b).2 = 0 from hg)] at h8
          simp only [List.append_assoc, List.singleton_append] at hl' h8 ⊢
          exact h8 hl'
        rw [la] at h9
        exact h9
      · have hg : goW c b.2 = y2 := h2.symm
        have la2 : (C ++ [goP c p b]).length = C.length + 1 := by simp
        have hx2 : eqx [81, 82] σ (su (su (su σ1 82 A.length (w64 (b.2 - y2))) 81 ((L.length : Int) + C.length) (ior b.1 (ishl 1 p))) 82 ((L.length : Int) + C.length) y2) := ((hx.su (by decide)).su (by decide)).su (by decide)
        rw [b1, b2]
        have h9 := ih (A ++ [stayP c b]) (C ++ [goP c p b]) _ (by rw [la]; omega) (by rw [la, la2]; omega) hx2 ?_ ?_ ?_ fun σ' hx' hl' => by
          have h8 := w σ' hx'
          rw [List.map_cons, List.map_cons, nzl_cons, if_neg (show ¬ (goP c p b).2 = 0 from fun z => hz (by rw [← hg]; exact z))] at h8
          simp only [List.append_assoc, List.singleton_append] at hl' h8 ⊢
          exact h8 hl'
        · rw [la, la2] at h9
          have e3 : (L.length : Int) + ((C.length + 1 : Nat) : Int) = (L.length : Int) + C.length + 1 := by omega
          rw [e3] at h9
          exact h9
        · refine lsA_app (lsA_congr (fun j j0 j1 => ?_) hA) ⟨?_, ?_, trivial⟩
          · rw [su_ne (Or.inl (by decide)), su_ne (Or.inr (by omega)), su_ne (Or.inl (by decide)), su_ne (Or.inr (by omega)), su_ne (Or.inl (by decide)), su_ne (Or.inr (by omega))]
            exact ⟨rfl, rfl⟩
          · rw [Int.zero_add, su_ne (Or.inl (by decide)), su_ne (Or.inr (by omega)), su_ne (Or.inl (by decide))]
            exact b1
          · rw [Int.zero_add, su_ne (Or.inr (by omega)), su_ne (Or.inl (by decide)), su_eq]
            show _ = stW c b.2
            unfold stW
            rw [hg]
        · rw [la]
          refine lsA_congr (fun j j0 j1 => ?_) b3
          rw [su_ne (Or.inl (by decide)), su_ne (Or.inr (by omega)), su_ne (Or.inl (by decide)), su_ne (Or.inr (by omega)), su_ne (Or.inl (by decide)), su_ne (Or.inr (by omega))]
          exact ⟨rfl, rfl⟩
        · refine lsA_app (lsA_congr (fun j j0 j1 => ?_) hCC) ⟨?_, ?_, trivial⟩
          · rw [su_ne (Or.inl (by decide)), su_ne (Or.inr (by omega)), su_ne (Or.inl (by decide)), su_ne (Or.inr (by omega)), su_ne (Or.inl (by decide)), su_ne (Or.inr (by omega))]
            exact ⟨rfl, rfl⟩
          · rw [su_ne (Or.inl (by decide)), su_eq]
            rfl
          · rw [su_eq]
            exact hg.symm
  have h9 := key L [] [] σ (by simp) (by simp) eqx.rf trivial hL trivial fun σ' hx' hl' => by
    have h8 := w σ' hx'
    simp only [List.nil_append] at hl' ⊢
    exact h8 hl'
  simp only [List.length_nil] at h9
  rw [show (L.length : Int) + ((0 : Nat) : Int) = L.length by omega] at h9
  exact B_X3_splitBy_0 h9
def FutAt (u1 u2 : Int) : Prop := (u1 = 77 ∧ u2 = 78) ∨ (u1 = 78 ∧ u2 = 77)
theorem fat_fut {u : Int} (h : u = 77 ∨ u = 78) : Fat 136 u (21, 1024) := by
  rcases h with rfl | rfl
  · exact ac_77
  · exact ac_78
theorem besN_02 (S p : Nat) : 0 ≤ besN S p ∧ besN S p ≤ 2 := by
  have a1 := bitN_01 S (p - 1)
  have a2 := bitN_01 S (p + 1)
  unfold besN
  split <;> omega
theorem idx3 {p b : Int} (h0 : 0 ≤ p) (h1 : p < 10) (b0 : 0 ≤ b) (b1 : b ≤ 2) : (0 ≤ 3 * p + b ∧ 3 * p + b < 30) ∧ w32 ((w32 (3 * p)) + b) = 3 * p + b :=
  ⟨by omega, by rw [w32_of (x := 3 * p) (by omega) (by omega), w32_of (by omega) (by omega)]⟩
theorem s_split {u1 u2 v : Int} {S n : Nat} {gT : Int → Int → Int} {fs nx : Int → Int} {σ : PS} (hu : FutAt u1 u2) (e1 : σ 76 1 = u1) (e2 : σ 76 2 = u2) (e7 : σ 76 7 = n) (hn : n ≤ 10) (hS : S < 2 ^ n) (hv : σ u1 S = v) (hv0 : v ≠ 0) (hg : ∀ p b : Int, 0 ≤ p → p < n → 0 ≤ b → b ≤ 2 → σ 80 (3 * p + b) = gT p b) (hf : ∀ s : Int, 0 ≤ s → s < ((2 ^ n : Nat) : Int) → σ 79 s = fs s) (hnx : ∀ t : Int, 0 ≤ t → t < ((2 ^ n : Nat) : Int) → σ u2 t = nx t)
    (w : ∀ σ', eqx [u2, 81, 82] σ σ' → (∀ t : Int, 0 ≤ t → t < ((2 ^ n : Nat) : Int) → σ' u2 t = accL fs (splitZ (fun p => gT p (besN S p.toNat)) S n 0 [((S : Int), v)]) nx t) → Q 0 σ') : XX g true (d + 2) P_X3_split 0 [(2, 76), (0, (S : Int)), (9, 0), (9, 0), (9, 0)] [] 136 σ 136 Q := by
  have hK : 2 ^ n ≤ 2 ^ 10 := Nat.pow_le_pow_right (by decide) hn
  have f1 : Fat 136 u1 (21, 1024) := fat_fut (by unfold FutAt at hu; omega)
  have f2 : Fat 136 u2 (21, 1024) := fat_fut (by unfold FutAt at hu; omega)
  have hu3 : u1 ≠ u2 ∧ 77 ≤ u2 ∧ u2 ≤ 78 ∧ 77 ≤ u1 ∧ u1 ≤ 78 := by unfold FutAt at hu; omega
  -- all parts to their sets
  have second : ∀ (B : PL) (m : Nat) (i : Int) (nx1 : Int → Int) (σ1 : PS), 0 ≤ i → i + B.length = m → m ≤ 1024 → okQ ((2 ^ n : Nat) : Int) B → eqx [u2, 81, 82] σ σ1 → lsA σ1 81 82 i B → (∀ t : Int, 0 ≤ t → t < ((2 ^ n : Nat) : Int) → σ1 u2 t = nx1 t) → (∀ σ', eqx [u2, 81, 82] σ σ' → (∀ t : Int, 0 ≤ t → t < ((2 ^ n : Nat) : Int) → σ' u2 t = accL fs B nx1 t) → Q 0 σ') → XX g true (d + 2) P_X3_split 84 [(2, 76), (9, 0), (0, (m : Int)), (0, i), (9, 0)] [] 136 σ1 136 Q := by
    intro B
    induction B with
    | nil =>
      intro m i nx1 σ1 h0 hm hm2 hq hx hB hnx1 w
      simp only [List.length_nil] at hm
      exact B_X3_split_84 ⟨fun _ => w σ1 hx hnx1, fun h => by omega⟩
    | cons b B ih =>
      intro m i nx1 σ1 h0 hm hm2 hq hx hB hnx1 w
      simp only [List.length_cons] at hm
      obtain ⟨b1, b2, b3⟩ := hB
      have hb := hq b List.mem_cons_self
      have hq2 : okQ ((2 ^ n : Nat) : Int) B := fun x hx => hq x (List.mem_cons_of_mem _ hx)
      have o2 : σ1 76 2 = u2 := by rw [hx 76 (by simp only [List.mem_cons, List.not_mem_nil, or_false]; omega)]; exact e2
      have of : σ1 79 b.1 = fs b.1 := by rw [hx 79 (by simp only [List.mem_cons, List.not_mem_nil, or_false]; omega)]; exact hf _ hb.1 hb.2
      rw [accL_cons] at w
      refine E_okS fun hok => ?_
      have h64 := ar64 hok f2 hb.1
      have hn1 := hnx1 b.1 hb.1 hb.2
      rw [hn1] at h64
      refine B_X3_split_84 ⟨fun h => by omega, fun h => ⟨by omega, by rw [b1]; omega, ?_⟩⟩
      rw [b1, b2, of, w32_of (x := i + 1) (by omega) (by omega)]
      refine ⟨fun hfs => ?_, fun hfs u3 h3 => ?_⟩
      · refine ih m (i + 1) nx1 σ1 (by omega) (by omega) hm2 hq2 hx b3 hnx1 ?_
        by_cases hz : b.2 = 0
        · rw [if_pos hz] at w; exact w
        · rw [if_neg hz, if_pos hfs] at w; exact w
      · rw [o2] at h3
        subst h3
        refine ⟨f2, ?_⟩
        have hmem : u3 ∈ [u3, 81, 82] := List.mem_cons_self
        by_cases hz : b.2 = 0
        · rw [if_pos hz] at w
          rw [hz, Int.add_zero, hn1, w64_id h64, su_id hn1]
          exact ih m (i + 1) nx1 σ1 (by omega) (by omega) hm2 hq2 hx b3 hnx1 w
        · rw [if_neg hz, if_neg (fun z => z hfs)] at w
          rw [hn1]
          refine ih m (i + 1) _ _ (by omega) (by omega) hm2 hq2 (hx.su hmem) (lsA_congr (fun j j0 j1 => ⟨su_ne (Or.inl (by omega)), su_ne (Or.inl (by omega))⟩) b3) (fun t t0 t1 => ?_) w
          unfold addF updF
          by_cases e : t = b.1
          · rw [if_pos e, e, su_eq]
          · rw [if_neg e, su_ne (Or.inr e)]; exact hnx1 t t0 t1
  -- the parts
  have first : ∀ (m p : Nat) (L Z : PL) (σ1 : PS), p + m = n → eqx [81, 82] σ σ1 → lsA σ1 81 82 0 L → nzl L = Z → L.length ≤ 2 ^ p → okQ ((2 ^ n : Nat) : Int) L → splitZ (fun p => gT p (besN S p.toNat)) S m p Z = splitZ (fun p => gT p (besN S p.toNat)) S n 0 [((S : Int), v)] → XX g true (d + 2) P_X3_split 23 [(2, 76), (0, (S : Int)), (0, (L.length : Int)), (0, (p : Int)), (9, 0)] [] 136 σ1 136 Q := by
    intro m
    induction m with
    | zero =>
      intro p L Z σ1 hp hx hL hZ hlen hq hfin
      have o7 : σ1 76 7 = n := by rw [hx 76 (by decide)]; exact e7
      have hp2 : 2 ^ p ≤ 2 ^ 10 := Nat.pow_le_pow_right (by decide) (by omega)
      refine B_X3_split_23 ⟨fun _ => ?_, fun h => by rw [o7] at h; omega⟩
      refine second L L.length 0 nx σ1 (by omega) (by omega) (by omega) hq (hx.mono fun a ha => List.mem_cons_of_mem _ ha) hL (fun t t0 t1 => by rw [hx u2 (by simp only [List.mem_cons, List.not_mem_nil, or_false]; omega)]; exact hnx t t0 t1) fun σ' hx' ht => w σ' hx' fun t t0 t1 => ?_
      have hfin2 : Z = splitZ (fun p => gT p (besN S p.toNat)) S n 0 [((S : Int), v)] := hfin
      rw [ht t t0 t1, ← hfin2, ← hZ, accL_nzl]
    | succ m ih =>
      intro p L Z σ1 hp hx hL hZ hlen hq hfin
      have o7 : σ1 76 7 = n := by rw [hx 76 (by decide)]; exact e7
      have hpn : (p : Int) < n := by omega
      have hl2 : 2 * L.length ≤ 1024 := by
        have h1 : 2 ^ (p + 1) ≤ 2 ^ 10 := Nat.pow_le_pow_right (by decide) (by omega)
        rw [Nat.pow_succ] at h1
        omega
      have hlen1 : L.length ≤ 2 ^ (p + 1) := Nat.le_trans hlen (Nat.pow_le_pow_right (by decide) (Nat.le_succ p))
      have hb02 := besN_02 S p
      have ei : w32 ((w32 (3 * (p : Int))) + besN S p) = 3 * (p : Int) + besN S p := (idx3 (Int.natCast_nonneg p) (by omega) hb02.1 hb02.2).2
      have og : σ1 80 (3 * (p : Int) + besN S p) = gT p (besN S p) := by rw [hx 80 (by decide)]; exact hg p _ (Int.natCast_nonneg p) hpn hb02.1 hb02.2
      have hix : 0 ≤ 3 * (p : Int) + besN S p ∧ 3 * (p : Int) + besN S p < 30 := (idx3 (Int.natCast_nonneg p) (by omega) hb02.1 hb02.2).1
      have ebit : bitI (S : Int) (p : Int) = bitN S p := by unfold bitI; rw [Int.toNat_natCast, Int.toNat_natCast]
      rw [splitZ_succ, ebit] at hfin
      simp only [Int.toNat_natCast] at hfin
      refine B_X3_split_23 ⟨fun h => by rw [o7] at h; omega, fun _ => ?_⟩
      rw [w32_of (x := (p : Int) + 1) (by omega) (by omega)]
      refine s_bit (by omega) (by omega) ⟨fun hb => ?_, fun hb => ?_⟩
      · rw [if_neg hb] at hfin
        refine s_besideIn (by omega) (by omega) ?_
        rw [ei, og]
        refine ⟨hix, fun y6 h6 => ?_⟩
        subst h6
        refine ⟨fun hc => ?_, fun hc => ?_⟩
        · unfold stepZ at hfin
          rw [if_pos hc] at hfin
          exact ih (p + 1) L Z σ1 (by omega) hx hL hZ hlen1 hq hfin
        · refine s_splitBy hl2 hL fun σ2 hx2 hL2 => ?_
          refine ih (p + 1) _ _ σ2 (by omega) (hx.tr hx2) hL2 (stepZ_ofC hc hZ) ?_ ?_ hfin
          · have := nzl_len (L.map (goP (gT p (besN S p)) p))
            simp only [List.length_append, List.length_map] at this ⊢
            rw [Nat.pow_succ]
            omega
          · exact okQ_app (okQ_stay hq) (okQ_nzl (okQ_go (fun x x0 x1 => ior_lt (by omega) ⟨by omega, by omega⟩ x0 x1) hq))
      · rw [if_pos hb] at hfin
        exact ih (p + 1) L Z σ1 (by omega) hx hL hZ hlen1 hq hfin
  refine B_X3_split_0 fun u3 h3 => ?_
  rw [e1] at h3
  subst h3
  refine ⟨f1, by omega, ?_⟩
  have q : su σ 81 0 (S : Int) u3 S = v := by rw [su_ne (Or.inl (by omega))]; exact hv
  rw [q]
  have h9 := first n 0 [((S : Int), v)] [((S : Int), v)] _ (by omega) ((eqx.rf.su (a := 81) (j := 0) (v := (S : Int)) (by decide)).su (a := 82) (j := 0) (v := v) (by decide)) ⟨by rw [su_ne (Or.inl (by decide)), su_eq], su_eq, trivial⟩ (by rw [nzl_cons, if_neg hv0]; rfl) (by simp) (okQ_k ⟨by omega, by show (S : Int) < _; omega⟩ fun _ h => absurd h List.not_mem_nil) rfl
  exact h9
end PAHC
