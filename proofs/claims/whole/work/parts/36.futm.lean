/-! DAYS AHEAD: the model -/
def FutM (n : Nat) (F fs : Int → Int) (σ : PS) : Prop := (∀ s : Int, 0 ≤ s → s < ((2 ^ n : Nat) : Int) → σ 124 s = fs s) ∧ ∀ s : Int, 0 ≤ s → s < ((2 ^ n : Nat) : Int) → σ 119 s = F s
abbrev futLM : List Int := [111, 112, 113, 119, 120, 121, 122, 123, 124]
theorem besN_M {S p n : Nat} (hS : S < 2 ^ n) (hp : p < n) : besN S p = (if 0 < p then bitN S (p - 1) else 0) + (if p < n - 1 then bitN S (p + 1) else 0) := by
  unfold besN
  congr 1
  by_cases h : p < n - 1
  · rw [if_pos h]
  · rw [if_neg h]; exact bitN_out hS (by omega)
theorem bb_add {a b : Int} (ha : a = 0 ∨ a = 1) (hb : b = 0 ∨ b = 1) : w32 (a + b) = a + b := w32_of (by omega) (by omega)
section PFUTM
variable {g : PG} {d : Nat} {Q : Int → PS → Prop}
/-- all parts in two: the model -/
theorem s_splitByM {p : Nat} {c x1 : Int} {L : PL} {σ : PS} (hp : p < 10) (hl0 : 1 ≤ L.length) (hl : 2 * L.length ≤ 1024) (hc : σ 123 p = c) (hL : lsA σ 121 122 0 L) (w : ∀ σ', eqx [121, 122] σ σ' → lsA σ' 121 122 0 (L.map (stayP c) ++ L.map (goP c p)) → XX g true (d + 1) P_X12_splits 112 [(2, 88), (0, x1), (9, 0), (0, ((L.map (stayP c) ++ L.map (goP c p)).length : Int)), (0, (p : Int) + 1), (9, 0), (9, 0), (9, 0)] [] 136 σ' 136 Q) : XX g true (d + 1) P_X12_splits 137 [(2, 88), (0, x1), (9, 0), (0, (L.length : Int)), (0, (p : Int)), (0, 0), (9, 0), (9, 0)] [] 136 σ 136 Q := by
  have key : ∀ (B A C : PL) (σ1 : PS), A.length + B.length = L.length → C.length = A.length → eqx [121, 122] σ σ1 → lsA σ1 121 122 0 A → lsA σ1 121 122 (A.length : Int) B → lsA σ1 121 122 (L.length : Int) C → (∀ σ', eqx [121, 122] σ σ' → lsA σ' 121 122 0 ((A ++ B.map (stayP c)) ++ (C ++ B.map (goP c p))) → XX g true (d + 1) P_X12_splits 112 [(2, 88), (0, x1), (9, 0), (0, (((A ++ B.map (stayP c)) ++ (C ++ B.map (goP c p))).length : Int)), (0, (p : Int) + 1), (9, 0), (9, 0), (9, 0)] [] 136 σ' 136 Q) → XX g true (d + 1) P_X12_splits 137 [(2, 88), (0, x1), (9, 0), (0, (L.length : Int)), (0, (p : Int)), (0, (A.length : Int)), (9, 0), (9, 0)] [] 136 σ1 136 Q := by
    intro B
    induction B with
    | nil =>
      intro A C σ1 hAB hC hx hA hB hCC w
      simp only [List.length_nil, Nat.add_zero] at hAB
      refine B_X12_splits_137 ⟨fun _ y1 h1 => ?_, fun h => by omega⟩
      have h9 := w σ1 hx (by
        simp only [List.map_nil, List.append_nil]
        refine lsA_app hA ?_
        rw [hAB, Int.zero_add]
        exact hCC)
      simp only [List.map_nil, List.append_nil, List.length_append] at h9
      rw [w32_of (by omega) (by omega)] at h1
      rw [w32_of (by omega) (by omega), h1, show 2 * (L.length : Int) = ((A.length + C.length : Nat) : Int) by omega]
      exact h9
    | cons b B ih =>
      intro A C σ1 hAB hC hx hA hB hCC w
      simp only [List.length_cons] at hAB
      obtain ⟨b1, b2, b3⟩ := hB
      have la : (A ++ [stayP c b]).length = A.length + 1 := by simp
      have la2 : (C ++ [goP c p b]).length = C.length + 1 := by simp
      have oc : σ1 123 p = c := by rw [hx 123 (by decide)]; exact hc
      refine B_X12_splits_137 ⟨fun h => by omega, fun h => ⟨by omega, by omega, fun y4 h4 => ?_⟩⟩
      rw [b2, oc] at h4
      rw [w32_of (x := (L.length : Int) + A.length) (by omega) (by omega), w32_of (x := (A.length : Int) + 1) (by omega) (by omega), b1]
      have q : su (su σ1 121 ((L.length : Int) + A.length) (ior b.1 (ishl 1 p))) 122 ((L.length : Int) + A.length) y4 122 A.length = b.2 := by rw [su_ne (Or.inr (by omega)), su_ne (Or.inl (by decide))]; exact b2
      rw [q]
      refine ⟨by omega, ?_⟩
      have hg : goW c b.2 = y4 := h4.symm
      have hx2 : eqx [121, 122] σ (su (su (su σ1 121 ((L.length : Int) + A.length) (ior b.1 (ishl 1 p))) 122 ((L.length : Int) + A.length) y4) 122 A.length (w64 (b.2 - y4))) := ((hx.su (by decide)).su (by decide)).su (by decide)
      have h9 := ih (A ++ [stayP c b]) (C ++ [goP c p b]) _ (by rw [la]; omega) (by rw [la, la2]; omega) hx2 ?_ ?_ ?_ fun σ' hx' hl' => by
        have h8 := w σ' hx'
        rw [List.map_cons, List.map_cons] at h8
        simp only [List.append_assoc, List.singleton_append] at hl' h8 ⊢
        exact h8 hl'
      · rw [la] at h9
        exact h9
      · refine lsA_app (lsA_congr (fun j j0 j1 => ?_) hA) ⟨?_, ?_, trivial⟩
        · rw [su_ne (Or.inl (by decide)), su_ne (Or.inl (by decide)), su_ne (Or.inr (by omega)), su_ne (Or.inr (by omega)), su_ne (Or.inr (by omega)), su_ne (Or.inl (by decide))]
          exact ⟨rfl, rfl⟩
        · rw [Int.zero_add, su_ne (Or.inl (by decide)), su_ne (Or.inl (by decide)), su_ne (Or.inr (by omega))]
          exact b1
        · rw [Int.zero_add, su_eq]
          show _ = stW c b.2
          unfold stW
          rw [hg]
      · rw [la]
        refine lsA_congr (fun j j0 j1 => ?_) b3
        rw [su_ne (Or.inl (by decide)), su_ne (Or.inl (by decide)), su_ne (Or.inr (by omega)), su_ne (Or.inr (by omega)), su_ne (Or.inr (by omega)), su_ne (Or.inl (by decide))]
        exact ⟨rfl, rfl⟩
      · refine lsA_app (lsA_congr (fun j j0 j1 => ?_) hCC) ⟨?_, ?_, trivial⟩
        · rw [su_ne (Or.inl (by decide)), su_ne (Or.inl (by decide)), su_ne (Or.inr (by omega)), su_ne (Or.inr (by omega)), su_ne (Or.inr (by omega)), su_ne (Or.inl (by decide))]
          exact ⟨rfl, rfl⟩
        · rw [hC, su_ne (Or.inl (by decide)), su_ne (Or.inl (by decide)), su_eq]
          rfl
        · rw [hC, su_ne (Or.inr (by omega)), su_eq]
          exact hg.symm
  have h9 := key L [] [] σ (by simp) (by simp) eqx.rf trivial hL trivial fun σ' hx' hl' => by
    have h8 := w σ' hx'
    simp only [List.nil_append] at hl' ⊢
    exact h8 hl'
  exact h9
theorem s_splitsM {e v : Int} {S n : Nat} {fs nx : Int → Int} {R T σ : PS} (hR : RowMx R σ) (ok : RSok R) (hT : TxtM 0 T σ) (okT : TxtOK oknL T) (hn : R 0 0 = n) (hn10 : n ≤ 10) (hS : S < 2 ^ n) (hv : σ 119 S = v) (hv0 : v ≠ 0) (hf : ∀ s : Int, 0 ≤ s → s < ((2 ^ n : Nat) : Int) → σ 124 s = fs s) (hnx : ∀ t : Int, 0 ≤ t → t < ((2 ^ n : Nat) : Int) → σ 120 t = nx t)
    (w : ∀ σ', eqx [111, 112, 120, 121, 122, 123] σ σ' → (∀ t : Int, 0 ≤ t → t < ((2 ^ n : Nat) : Int) → σ' 120 t = accL fs (splitZ (fun p => chA T R e S p) S n 0 [((S : Int), v)]) nx t) → Q 0 σ') : XX g true (d + 4) P_X12_splits 0 [(2, 88), (0, (S : Int)), (0, e), (9, 0), (9, 0), (9, 0), (9, 0), (9, 0)] [] 136 σ 136 Q := by
  have k2 := ok.2.1
  obtain ⟨hK0, hK⟩ := pow10 hn10
  -- all parts to their sets
  have third : ∀ (B : PL) (m : Nat) (i : Int) (nx1 : Int → Int) (σ1 : PS), 0 ≤ i → i + B.length = m → m ≤ 1024 → okQ ((2 ^ n : Nat) : Int) B → eqx [111, 112, 120, 121, 122, 123] σ σ1 → lsA σ1 121 122 i B → (∀ t : Int, 0 ≤ t → t < ((2 ^ n : Nat) : Int) → σ1 120 t = nx1 t) → (∀ σ', eqx [111, 112, 120, 121, 122, 123] σ σ' → (∀ t : Int, 0 ≤ t → t < ((2 ^ n : Nat) : Int) → σ' 120 t = accL fs B nx1 t) → Q 0 σ') → XX g true (d + 4) P_X12_splits 233 [(2, 88), (9, 0), (9, 0), (0, (m : Int)), (0, i), (9, 0), (9, 0), (9, 0)] [] 136 σ1 136 Q := by
    intro B
    induction B with
    | nil =>
      intro m i nx1 σ1 h0 hm hm2 hq hx hB hnx1 w
      simp only [List.length_nil] at hm
      exact B_X12_splits_233 ⟨fun _ => w σ1 hx hnx1, fun h => by omega⟩
    | cons b B ih =>
      intro m i nx1 σ1 h0 hm hm2 hq hx hB hnx1 w
      simp only [List.length_cons] at hm
      obtain ⟨b1, b2, b3⟩ := hB
      have hb := hq b List.mem_cons_self
      have hq2 : okQ ((2 ^ n : Nat) : Int) B := fun x hx => hq x (List.mem_cons_of_mem _ hx)
      have of : σ1 124 b.1 = fs b.1 := by rw [hx 124 (by decide)]; exact hf _ hb.1 hb.2
      rw [accL_cons] at w
      refine E_okS fun hok => ?_
      have h64 := ar64 hok ac_120 hb.1
      have hn1 := hnx1 b.1 hb.1 hb.2
      rw [hn1] at h64
      refine B_X12_splits_233 ⟨fun h => by omega, fun h => ⟨by omega, by rw [b1]; omega, ?_⟩⟩
      rw [b1, b2, of, w32_of (x := i + 1) (by omega) (by omega)]
      refine ⟨fun hfs => ?_, fun hfs => ?_⟩
      · refine ih m (i + 1) nx1 σ1 (by omega) (by omega) hm2 hq2 hx b3 hnx1 ?_
        by_cases hz : b.2 = 0
        · rw [if_pos hz] at w; exact w
        · rw [if_neg hz, if_pos hfs] at w; exact w
      · by_cases hz : b.2 = 0
        · rw [if_pos hz] at w
          rw [hz, Int.add_zero, hn1, w64_id h64, su_id hn1]
          exact ih m (i + 1) nx1 σ1 (by omega) (by omega) hm2 hq2 hx b3 hnx1 w
        · rw [if_neg hz, if_neg (fun z => z hfs)] at w
          rw [hn1]
          refine ih m (i + 1) _ _ (by omega) (by omega) hm2 hq2 (hx.su (by decide)) (lsA_congr (fun j j0 j1 => ⟨su_ne (Or.inl (by decide)), su_ne (Or.inl (by decide))⟩) b3) (fun t t0 t1 => ?_) w
          unfold addF updF
          by_cases e : t = b.1
          · rw [if_pos e, e, su_eq]
          · rw [if_neg e, su_ne (Or.inr e)]; exact hnx1 t t0 t1
  -- the parts
  have second : ∀ (m p : Nat) (L Z : PL) (σ1 : PS), p + m = n → eqx [111, 112, 121, 122, 123] σ σ1 → (∀ p : Int, 0 ≤ p → p < n → σ1 123 p = chA T R e S p) → lsA σ1 121 122 0 L → nzl L = Z → 1 ≤ L.length → L.length ≤ 2 ^ p → okQ ((2 ^ n : Nat) : Int) L → splitZ (fun p => chA T R e S p) S m p Z = splitZ (fun p => chA T R e S p) S n 0 [((S : Int), v)] → XX g true (d + 4) P_X12_splits 112 [(2, 88), (0, (S : Int)), (9, 0), (0, (L.length : Int)), (0, (p : Int)), (9, 0), (9, 0), (9, 0)] [] 136 σ1 136 Q := by
    intro m
    induction m with
    | zero =>
      intro p L Z σ1 hp hx hg hL hZ hlen0 hlen hq hfin
      have o2 : σ1 88 2 = n := by rw [hx 88 (by decide), hR.1.1]; exact hn
      have hl3 : L.length ≤ 1024 := Nat.le_trans hlen (Nat.pow_le_pow_right (j := 10) (by decide) (by omega) : 2 ^ p ≤ 2 ^ 10)
      refine B_X12_splits_112 ⟨fun _ => ?_, fun h => by rw [o2] at h; omega⟩
      refine third L L.length 0 nx σ1 (by omega) (by omega) hl3 hq (hx.mono (by decide)) hL (fun t t0 t1 => by rw [hx 120 (by decide)]; exact hnx t t0 t1) fun σ' hx' ht => w σ' hx' fun t t0 t1 => ?_
      have hfin2 : Z = splitZ (fun p => chA T R e S p) S n 0 [((S : Int), v)] := hfin
      rw [ht t t0 t1, ← hfin2, ← hZ, accL_nzl]
    | succ m ih =>
      intro p L Z σ1 hp hx hg hL hZ hlen0 hlen hq hfin
      have o2 : σ1 88 2 = n := by rw [hx 88 (by decide), hR.1.1]; exact hn
      have hl2 : 2 * L.length ≤ 1024 := by
        have h1 : 2 ^ (p + 1) ≤ 2 ^ 10 := Nat.pow_le_pow_right (by decide) (by omega)
        rw [Nat.pow_succ] at h1
        omega
      have hlen1 : L.length ≤ 2 ^ (p + 1) := Nat.le_trans hlen (Nat.pow_le_pow_right (by decide) (Nat.le_succ p))
      have ebit : bitI (S : Int) (p : Int) = bitN S p := by unfold bitI; rw [Int.toNat_natCast, Int.toNat_natCast]
      have hc := goesS_01 T R p (besN S p) e
      have hcA : chA T R e S p = goesS T R p (besN S p) e := by unfold chA; rw [Int.toNat_natCast, Int.toNat_natCast]
      rw [splitZ_succ, ebit] at hfin
      refine B_X12_splits_112 ⟨fun h => by rw [o2] at h; omega, fun _ => ?_⟩
      rw [w32_of (x := (p : Int) + 1) (by omega) (by omega), bit_and1 (by omega) (by omega)]
      refine ⟨fun hb => ?_, fun hb => ?_⟩
      · rw [if_neg hb] at hfin
        refine E_okS fun hok => ?_
        have h64 : ∀ x ∈ L, in64 x.2 := lsA_mem (P := fun _ b => in64 b) hL (by omega) fun j j0 => ar64 hok ac_122 j0
        refine s_splitByM (c := chA T R e S p) (by omega) hlen0 hl2 (hg p (by omega) (by omega)) hL fun σ2 hx2 hL2 => ?_
        refine ih (p + 1) _ _ σ2 (by omega) (hx.tr (hx2.mono (by decide))) (fun p2 c1 c2 => by rw [hx2 123 (by decide)]; exact hg p2 c1 c2) hL2 (stepZ_of (by rw [hcA]; exact hc.1) hZ h64) ?_ ?_ ?_ hfin
        · simp only [List.length_append, List.length_map]; omega
        · simp only [List.length_append, List.length_map]
          rw [Nat.pow_succ]
          omega
        · exact okQ_app (okQ_stay hq) (okQ_go (fun x x0 x1 => ior_lt (by omega) ⟨by omega, by omega⟩ x0 x1) hq)
      · rw [if_pos hb] at hfin
        exact ih (p + 1) L Z σ1 (by omega) hx hg hL hZ hlen0 hlen1 hq hfin
  -- the chances
  have first : ∀ (m p : Nat) (σ1 : PS), p + m = n → eqx [111, 112, 123] σ σ1 → (∀ p2 : Int, 0 ≤ p2 → p2 < p → σ1 123 p2 = chA T R e S p2) → XX g true (d + 4) P_X12_splits 2 [(2, 88), (0, (S : Int)), (0, e), (0, (p : Int)), (9, 0), (9, 0), (9, 0), (9, 0)] [] 136 σ1 136 Q := by
    intro m
    induction m with
    | zero =>
      intro p σ1 hp hx hg
      have o2 : σ1 88 2 = n := by rw [hx 88 (by decide), hR.1.1]; exact hn
      have oS : σ1 119 S = v := by rw [hx 119 (by decide)]; exact hv
      refine B_X12_splits_2 ⟨fun _ => ⟨by omega, ?_⟩, fun h => by rw [o2] at h; omega⟩
      rw [oS]
      have h9 := second n 0 [((S : Int), v)] [((S : Int), v)] (su (su σ1 121 0 (S : Int)) 122 0 v) (by omega) (((hx.mono (by decide)).su (by decide)).su (by decide)) (fun p2 c1 c2 => by rw [su_ne (Or.inl (by decide)), su_ne (Or.inl (by decide))]; exact hg p2 c1 (by omega)) ⟨by rw [su_ne (Or.inl (by decide)), su_eq], su_eq, trivial⟩ (by rw [nzl_cons, if_neg hv0]; rfl) (by simp) (by simp) (okQ_k ⟨by omega, by show (S : Int) < _; omega⟩ fun _ h => absurd h List.not_mem_nil) rfl
      exact h9
    | succ m ih =>
      intro p σ1 hp hx hg
      have hR1 : RowMx R σ1 := hR.x hx fun a a1 a2 => by simp only [List.mem_cons, List.not_mem_nil, or_false]; omega
      have hT1 : TxtM 0 T σ1 := hT.x hx fun a a1 a2 => by simp only [List.mem_cons, List.not_mem_nil, or_false]; omega
      have o2 : σ1 88 2 = n := by rw [hR1.1.1]; exact hn
      obtain ⟨m1, m2, -⟩ := hR1.2.1 (p : Int) (by omega) (by omega)
      have hb1 := bitN_01 S (p - 1)
      have hb2 := bitN_01 S (p + 1)
      have hbM := besN_M hS (show p < n by omega)
      have step : ∀ b : Int, b = besN S p → XX g true (d + 3) P_X12_goesOf 0 [(2, 88), (0, R 1 p), (0, w32 (R 2 p + e)), (0, b), (0, (p : Int)), (0, w32 (R 0 2 + e)), (9, 0)] [] 136 σ1 136 (fun r5 σ4 => (0 ≤ (p : Int) ∧ (p : Int) < 10) ∧ (XX g true (d + 4) P_X12_splits 2 [(2, 88), (0, (S : Int)), (0, e), (0, (p : Int) + 1), (9, 0), (9, 0), (9, 0), (9, 0)] [] 136 (su σ4 123 p r5) 136 Q)) := by
        intro b hb
        refine s_goesOf hR1 ok hT1 okT (by omega) (by omega) rfl rfl fun σ2 hx2 => ⟨by omega, ?_⟩
        refine ih (p + 1) _ (by omega) ((hx.tr (hx2.mono (by decide))).su (by decide)) fun p2 c1 c2 => ?_
        by_cases e2 : p2 = p
        · rw [e2, su_eq, hb]
          unfold chA
          rw [Int.toNat_natCast, Int.toNat_natCast]
        · rw [su_ne (Or.inr e2), hx2 123 (by decide)]
          exact hg p2 c1 (by omega)
      have eb1 : 0 < p → iand (ishr (S : Int) (w32 ((p : Int) - 1))) 1 = bitN S (p - 1) := fun h => by
        rw [w32_of (by omega) (by omega), show (p : Int) - 1 = ((p - 1 : Nat) : Int) by omega]
        exact bit_and1 (by omega) (by omega)
      have eb2 : iand (ishr (S : Int) (w32 ((p : Int) + 1))) 1 = bitN S (p + 1) := by
        rw [w32_of (by omega) (by omega)]
        exact bit_and1 (p := p + 1) (by omega) (by omega)
      refine B_X12_splits_2 ⟨fun h => by rw [o2] at h; omega, fun _ => ?_⟩
      rw [o2, m1, m2, hR1.1.2.2.1, w32_of (x := (n : Int) - 1) (by omega) (by omega)]
      rw [eb2, w32_of (x := (p : Int) + 1) (by omega) (by omega)]
      have c0 : (p : Int) ≤ 0 → ¬ 0 < p := fun h => by omega
      have c1 : 0 < (p : Int) → 0 < p := fun h => by omega
      have c2 : (n : Int) - 1 ≤ p → ¬ p < n - 1 := fun h => by omega
      have c3 : (p : Int) < (n : Int) - 1 → p < n - 1 := fun h => by omega
      have c60 : 0 ≤ (p : Int) ∧ (p : Int) < 60 := by omega
      rw [hbM] at step
      refine ⟨fun h => ⟨fun h2 y2 h3 => ⟨c60, step y2 ?_⟩, fun h2 y2 h3 => ⟨c60, step y2 ?_⟩⟩, fun h => ⟨fun h2 y2 h3 => ⟨c60, step y2 ?_⟩, fun h2 y2 h3 => ⟨c60, step y2 ?_⟩⟩⟩
      · rw [bb_add (Or.inl rfl) (Or.inl rfl)] at h3
        rw [if_neg (c0 h), if_neg (c2 h2)]
        exact h3
      · rw [bb_add (Or.inl rfl) hb2] at h3
        rw [if_neg (c0 h), if_pos (c3 h2)]
        exact h3
      · rw [eb1 (c1 h), bb_add hb1 (Or.inl rfl)] at h3
        rw [if_pos (c1 h), if_neg (c2 h2)]
        exact h3
      · rw [eb1 (c1 h), bb_add hb1 hb2] at h3
        rw [if_pos (c1 h), if_pos (c3 h2)]
        exact h3
  exact B_X12_splits_0 (first n 0 σ (by omega) eqx.rf fun p2 c1 c2 => by omega)
end PFUTM
