/-! THE PARSER, the model: the loop of a clause -/
section PANY
variable {g : PG} {d : Nat} {f : Int → Int} {ln : Int} {cnt : Nat} {lw : Bool} {σ0 : PS}
/-- from where a clause is due -/
def ClM (g : PG) (f : Int → Int) (ln : Int) (cnt : Nat) (σ0 : PS) (D m : Nat) (C : Nat → PR) : Prop :=
  ∀ (k c : Nat) (b o : Int) (L : List (Int × Int)) (S : List Int) (σ : PS) (Q : Int → PS → Prop), MA f ln σ0 c L o (List.replicate k 9 ++ S) σ → topNe 9 S → o + m = 8 → (k : Int) ≤ o → c ≤ cnt → L.length + (k + S.length) ≤ c → k + S.length + 3 * m ≤ 30 → (0 ≤ b ∧ b + m ≤ 8) →
    ((C c).1 = 0 → ∀ σ', MA f ln σ0 (C c).2.1 (L ++ (C c).2.2 ++ List.replicate k (9, 0)) (o - k) S σ' → XX g true D P_X12_readAny 9 [(2, 88), (0, b), (0, 0), (9, 0)] [] 136 σ' 136 Q) →
    ((C c).1 ≠ 0 → ∀ σ', FltA f ln σ0 (C c).1 (C c).2.1 σ' → Q (-1) σ') → XX g true D P_X12_readAny 9 [(2, 88), (0, b), (0, 1), (9, 0)] [] 136 σ 136 Q
theorem rep_le {a : Nat} {v : Int} {T : List Int} : (List.replicate a v ++ T).length = a + T.length := by rw [List.length_append, List.length_replicate]
theorem s_andL (hB : BasM f ln cnt lw σ0) {m : Nat} {C : Nat → PR} (hC : ∀ c, c ≤ cnt → PrS cnt c (C c)) (hcl : ClM g f ln cnt σ0 (d + 7) m C) {b o : Int} {S : List Int} {q : Nat} (hq : q ≤ 1) (hS9 : topNe 9 S) (hS10 : topNe 10 S) (ho : o + m = 8 ∧ 0 ≤ o) (hlen : S.length + 2 + 3 * m ≤ 30) (hb : 0 ≤ b ∧ b + m ≤ 8) {Q : Int → PS → Prop} :
    ∀ (n a c : Nat) (L : List (Int × Int)) (σ : PS), a ≤ 1 → cnt ≤ c + n → MA f ln σ0 c L o (List.replicate a 10 ++ (List.replicate q 11 ++ S)) σ → c ≤ cnt → L.length + (a + (q + S.length)) ≤ c →
      ((pAndL (kdP f ln) C n c).1 = 0 → ∀ (a' : Nat) (L' : List (Int × Int)) (σ' : PS), a' ≤ 1 → MA f ln σ0 (pAndL (kdP f ln) C n c).2.1 L' o (List.replicate a' 10 ++ (List.replicate q 11 ++ S)) σ' → L' ++ List.replicate a' (10, 0) = L ++ List.replicate a (10, 0) ++ (pAndL (kdP f ln) C n c).2.2 → (pAndL (kdP f ln) C n c).2.1 ≤ cnt → L'.length + (a' + (q + S.length)) ≤ (pAndL (kdP f ln) C n c).2.1 → kdP f ln (pAndL (kdP f ln) C n c).2.1 ≠ 259 → XX g true (d + 7) P_X12_readAny 9 [(2, 88), (0, b), (0, 0), (9, 0)] [] 136 σ' 136 Q) →
      ((pAndL (kdP f ln) C n c).1 ≠ 0 → ∀ σ', FltA f ln σ0 (pAndL (kdP f ln) C n c).1 (pAndL (kdP f ln) C n c).2.1 σ' → Q (-1) σ') →
      XX g true (d + 7) P_X12_readAny 9 [(2, 88), (0, b), (0, 0), (9, 0)] [] 136 σ 136 Q := by
  have h5 := hB.2.2.2.2.1.2
  intro n
  induction n with
  | zero =>
    intro a c L σ ha hn h hc hL w1 w0
    have hk : kdP f ln c = 0 := Classical.byContradiction fun q => by have := hB.end_ c hc q; omega
    exact w1 rfl a L σ ha h (by rw [show (pAndL (kdP f ln) C 0 c).2.2 = [] from rfl, List.append_nil]) hc hL (by show kdP f ln c ≠ 259; omega)
  | succ n ih =>
    intro a c L σ ha hn h hc hL w1 w0
    by_cases hk : kdP f ln c = 259
    · have hlt := hB.end_ c hc (by omega)
      have e0 : pAndL (kdP f ln) C (n + 1) c = pBind (C (c + 1)) fun j => pBind (pOne 10 j) (pAndL (kdP f ln) C n) := by rw [pAndL_succ, if_pos hk]
      rw [e0] at w1 w0
      have hwm : wmap 11 = 259 := rfl
      refine B_X12_readAny_9 ⟨fun _ => s_isWord h.2.1 (by decide) (by decide) (fun _ => ⟨fun z => absurd z (by decide), fun _ => ?_⟩) fun q2 => absurd (hk.trans hwm.symm) q2, fun z => absurd rfl z⟩
      have htop : topNe 10 (List.replicate q 11 ++ S) := topNe.rep (by decide) hS10
      refine s_settles htop a c L o σ h (by omega) ⟨fun z => absurd z (by decide), by omega, by omega⟩ (by rw [rep_le]; omega) (by omega) fun σ1 h1 => ?_
      rw [if_neg (by decide)] at h1
      refine s_waits h1 (by rw [rep_le]; omega) fun σ2 h2 => ?_
      refine s_readsM (hB.ma h2.1) h2.ms fun σ3 h3 => ?_
      have h3' := h2.of h3
      have hu := hC (c + 1) (by omega)
      have htop9 : topNe 9 (10 :: (List.replicate q 11 ++ S)) := topNe.cons (by decide)
      refine hcl 0 (c + 1) b o (L ++ List.replicate a (10, 0)) (10 :: (List.replicate q 11 ++ S)) σ3 Q h3' htop9 ho.1 (by omega) (by omega) ?_ ?_ hb (fun e σ4 h4 => ?_) (fun e σ4 h4 => ?_)
      · rw [List.length_append, List.length_replicate, List.length_cons, rep_le]; omega
      · rw [List.length_cons, rep_le]; omega
      · have hlt2 := hu.2 e
        obtain ⟨p1, p2, p3⟩ := hu.1.1 e
        rw [pBind_ok e] at w1 w0
        have e1 : ∀ j, (pOne 10 j).1 = 0 := fun _ => rfl
        rw [pBind_ok (e1 _)] at w1 w0
        have h4' : MA f ln σ0 (C (c + 1)).2.1 (L ++ List.replicate a (10, 0) ++ (C (c + 1)).2.2) o (List.replicate 1 10 ++ (List.replicate q 11 ++ S)) σ4 := by
          have : MA f ln σ0 (C (c + 1)).2.1 (L ++ List.replicate a (10, 0) ++ (C (c + 1)).2.2 ++ List.replicate 0 (9, 0)) (o - ((0 : Nat) : Int)) (10 :: (List.replicate q 11 ++ S)) σ4 := h4
          rw [List.replicate_zero, List.append_nil, show o - ((0 : Nat) : Int) = o by omega] at this
          exact this
        refine ih 1 (C (c + 1)).2.1 _ σ4 (Nat.le_refl 1) (by omega) h4' p2 ?_ (fun e2 a' L' σ5 ha' h5' hL' hc' hl' hk' => ?_) (fun e2 σ5 h5' => ?_)
        · rw [List.length_append, List.length_append, List.length_replicate]; omega
        · refine w1 e2 a' L' σ5 ha' h5' ?_ hc' hl' hk'
          rw [hL', show List.replicate 1 ((10 : Int), (0 : Int)) = [(10, 0)] from rfl]
          show _ = L ++ List.replicate a (10, 0) ++ ((C (c + 1)).2.2 ++ ([(10, 0)] ++ (pAndL (kdP f ln) C n (C (c + 1)).2.1).2.2))
          simp only [List.append_assoc]
        · exact w0 e2 σ5 h5'
      · rw [pBind_no e] at w0
        exact w0 e σ4 h4
    · have e0 : pAndL (kdP f ln) C (n + 1) c = (0, c, []) := by rw [pAndL_succ, if_neg hk]
      rw [e0] at w1
      exact w1 rfl a L σ ha h (by rw [List.append_nil]) hc hL hk
theorem s_andM (hB : BasM f ln cnt lw σ0) {m : Nat} {C : Nat → PR} (hC : ∀ c, c ≤ cnt → PrS cnt c (C c)) (hcl : ClM g f ln cnt σ0 (d + 7) m C) {b o : Int} {S : List Int} {q : Nat} (hq : q ≤ 1) (hS9 : topNe 9 S) (hS10 : topNe 10 S) (ho : o + m = 8 ∧ 0 ≤ o) (hlen : S.length + 2 + 3 * m ≤ 30) (hb : 0 ≤ b ∧ b + m ≤ 8) {Q : Int → PS → Prop} {c : Nat} {L : List (Int × Int)} {σ : PS} (h : MA f ln σ0 c L o (List.replicate q 11 ++ S) σ) (hc : c ≤ cnt) (hL : L.length + (q + S.length) ≤ c)
    (w1 : (pAnd (kdP f ln) C c).1 = 0 → ∀ (a' : Nat) (L' : List (Int × Int)) (σ' : PS), a' ≤ 1 → MA f ln σ0 (pAnd (kdP f ln) C c).2.1 L' o (List.replicate a' 10 ++ (List.replicate q 11 ++ S)) σ' → L' ++ List.replicate a' (10, 0) = L ++ (pAnd (kdP f ln) C c).2.2 → (pAnd (kdP f ln) C c).2.1 ≤ cnt → L'.length + (a' + (q + S.length)) ≤ (pAnd (kdP f ln) C c).2.1 → kdP f ln (pAnd (kdP f ln) C c).2.1 ≠ 259 → XX g true (d + 7) P_X12_readAny 9 [(2, 88), (0, b), (0, 0), (9, 0)] [] 136 σ' 136 Q)
    (w0 : (pAnd (kdP f ln) C c).1 ≠ 0 → ∀ σ', FltA f ln σ0 (pAnd (kdP f ln) C c).1 (pAnd (kdP f ln) C c).2.1 σ' → Q (-1) σ') :
    XX g true (d + 7) P_X12_readAny 9 [(2, 88), (0, b), (0, 1), (9, 0)] [] 136 σ 136 Q := by
  have h5 := hB.2.2.2.2.1.2
  have hu := hC c hc
  unfold pAnd at w1 w0
  refine hcl 0 c b o L (List.replicate q 11 ++ S) σ Q h (topNe.rep (by decide) hS9) ho.1 (by omega) hc (by rw [rep_le]; omega) (by rw [rep_le]; omega) hb (fun e σ4 h4 => ?_) (fun e σ4 h4 => ?_)
  · obtain ⟨p1, p2, p3⟩ := hu.1.1 e
    rw [pBind_ok e] at w1 w0
    have h4' : MA f ln σ0 (C c).2.1 (L ++ (C c).2.2) o (List.replicate 0 10 ++ (List.replicate q 11 ++ S)) σ4 := by
      have : MA f ln σ0 (C c).2.1 (L ++ (C c).2.2 ++ List.replicate 0 (9, 0)) (o - ((0 : Nat) : Int)) (List.replicate q 11 ++ S) σ4 := h4
      rw [List.replicate_zero, List.append_nil, show o - ((0 : Nat) : Int) = o by omega] at this
      exact this
    refine s_andL hB hC hcl hq hS9 hS10 ho hlen hb 500 0 (C c).2.1 _ σ4 (by decide) (by omega) h4' p2 (by rw [List.length_append]; omega) (fun e2 a' L' σ5 ha' h5' hL' hc' hl' hk' => ?_) (fun e2 σ5 h5' => w0 e2 σ5 h5')
    refine w1 e2 a' L' σ5 ha' h5' ?_ hc' hl' hk'
    rw [hL', List.replicate_zero, List.append_nil, List.append_assoc]
  · rw [pBind_no e] at w0
    exact w0 e σ4 h4
theorem s_orL (hB : BasM f ln cnt lw σ0) {m : Nat} {C : Nat → PR} (hC : ∀ c, c ≤ cnt → PrS cnt c (C c)) (hcl : ClM g f ln cnt σ0 (d + 7) m C) {b o : Int} {S : List Int} (hS9 : topNe 9 S) (hS10 : topNe 10 S) (hS11 : topNe 11 S) (ho : o + m = 8 ∧ 0 ≤ o) (hlen : S.length + 2 + 3 * m ≤ 30) (hb : 0 ≤ b ∧ b + m ≤ 8) {Q : Int → PS → Prop} :
    ∀ (n a q c : Nat) (L : List (Int × Int)) (σ : PS), a ≤ 1 → q ≤ 1 → cnt ≤ c + n → MA f ln σ0 c L o (List.replicate a 10 ++ (List.replicate q 11 ++ S)) σ → c ≤ cnt → L.length + (a + (q + S.length)) ≤ c → kdP f ln c ≠ 259 →
      ((pOrL (kdP f ln) C n c).1 = 0 → ∀ (a' q' : Nat) (L' : List (Int × Int)) (σ' : PS), a' ≤ 1 → q' ≤ 1 → MA f ln σ0 (pOrL (kdP f ln) C n c).2.1 L' o (List.replicate a' 10 ++ (List.replicate q' 11 ++ S)) σ' → L' ++ List.replicate a' (10, 0) ++ List.replicate q' (11, 0) = L ++ List.replicate a (10, 0) ++ List.replicate q (11, 0) ++ (pOrL (kdP f ln) C n c).2.2 → (pOrL (kdP f ln) C n c).2.1 ≤ cnt → L'.length + (a' + (q' + S.length)) ≤ (pOrL (kdP f ln) C n c).2.1 → kdP f ln (pOrL (kdP f ln) C n c).2.1 ≠ 259 → kdP f ln (pOrL (kdP f ln) C n c).2.1 ≠ 260 → XX g true (d + 7) P_X12_readAny 9 [(2, 88), (0, b), (0, 0), (9, 0)] [] 136 σ' 136 Q) →
      ((pOrL (kdP f ln) C n c).1 ≠ 0 → ∀ σ', FltA f ln σ0 (pOrL (kdP f ln) C n c).1 (pOrL (kdP f ln) C n c).2.1 σ' → Q (-1) σ') →
      XX g true (d + 7) P_X12_readAny 9 [(2, 88), (0, b), (0, 0), (9, 0)] [] 136 σ 136 Q := by
  have h5 := hB.2.2.2.2.1.2
  intro n
  induction n with
  | zero =>
    intro a q c L σ ha hq hn h hc hL hk9 w1 w0
    have hk : kdP f ln c = 0 := Classical.byContradiction fun q => by have := hB.end_ c hc q; omega
    exact w1 rfl a q L σ ha hq h (by rw [show (pOrL (kdP f ln) C 0 c).2.2 = [] from rfl, List.append_nil]) hc hL hk9 (by show kdP f ln c ≠ 260; omega)
  | succ n ih =>
    intro a q c L σ ha hq hn h hc hL hk9 w1 w0
    by_cases hk : kdP f ln c = 260
    · have hlt := hB.end_ c hc (by omega)
      have e0 : pOrL (kdP f ln) C (n + 1) c = pBind (pAnd (kdP f ln) C (c + 1)) fun j => pBind (pOne 11 j) (pOrL (kdP f ln) C n) := by rw [pOrL_succ, if_pos hk]
      rw [e0] at w1 w0
      have hwm : wmap 11 = 259 := rfl
      have hwo : wmap 10 = 260 := rfl
      refine B_X12_readAny_9 ⟨fun _ => s_isWord h.2.1 (by decide) (by decide) (fun q2 => absurd (q2.trans hwm) hk9) fun _ => ⟨fun _ => s_isWord h.2.1 (by decide) (by decide) (fun _ => ⟨fun z => absurd z (by decide), fun _ => ?_⟩) fun q2 => absurd (hk.trans hwo.symm) q2, fun z => absurd rfl z⟩, fun z => absurd rfl z⟩
      refine s_settles (topNe.rep (by decide) hS10) a c L o σ h (by omega) ⟨fun z => absurd z (by decide), by omega, by omega⟩ (by rw [rep_le]; omega) (by omega) fun σ1 h1 => ?_
      rw [if_neg (by decide)] at h1
      refine s_settles hS11 q c _ o σ1 h1 (by rw [List.length_append, List.length_replicate]; omega) ⟨fun z => absurd z (by decide), by omega, by omega⟩ (by omega) (by omega) fun σ2 h2 => ?_
      rw [if_neg (by decide)] at h2
      refine s_waits h2 (by omega) fun σ3 h3 => ?_
      refine s_readsM (hB.ma h3.1) h3.ms fun σ4 h4 => ?_
      have h4' : MA f ln σ0 (c + 1) (L ++ List.replicate a (10, 0) ++ List.replicate q (11, 0)) o (List.replicate 1 11 ++ S) σ4 := h3.of h4
      have hu := g_and hB.end_ hC (c := c + 1) (by omega)
      refine s_andM hB hC hcl (q := 1) (Nat.le_refl 1) hS9 hS10 ho hlen hb h4' (by omega) (by rw [List.length_append, List.length_append, List.length_replicate, List.length_replicate]; omega) (fun e a' L' σ5 ha' h5' hL' hc' hl' hk' => ?_) (fun e σ5 h5' => ?_)
      · have hlt2 := hu.2 e
        rw [pBind_ok e] at w1 w0
        have e1 : ∀ j, (pOne 11 j).1 = 0 := fun _ => rfl
        rw [pBind_ok (e1 _)] at w1 w0
        refine ih a' 1 _ L' σ5 ha' (Nat.le_refl 1) (by omega) h5' hc' hl' hk' (fun e2 a2 q2 L2 σ6 ha2 hq2 h6 hL2 hc2 hl2 hk2 hk3 => ?_) (fun e2 σ6 h6 => w0 e2 σ6 h6)
        refine w1 e2 a2 q2 L2 σ6 ha2 hq2 h6 ?_ hc2 hl2 hk2 hk3
        rw [hL2, hL', show List.replicate 1 ((11 : Int), (0 : Int)) = [(11, 0)] from rfl]
        show _ = L ++ List.replicate a (10, 0) ++ List.replicate q (11, 0) ++ ((pAnd (kdP f ln) C (c + 1)).2.2 ++ ([(11, 0)] ++ (pOrL (kdP f ln) C n (pAnd (kdP f ln) C (c + 1)).2.1).2.2))
        simp only [List.append_assoc]
      · rw [pBind_no e] at w0
        exact w0 e σ5 h5'
    · have e0 : pOrL (kdP f ln) C (n + 1) c = (0, c, []) := by rw [pOrL_succ, if_neg hk]
      rw [e0] at w1
      exact w1 rfl a q L σ ha hq h (by rw [List.append_nil]) hc hL hk9 hk
/-- a whole condition; behind it, all of its own settled -/
theorem s_orM (hB : BasM f ln cnt lw σ0) {m : Nat} {C : Nat → PR} (hC : ∀ c, c ≤ cnt → PrS cnt c (C c)) (hcl : ClM g f ln cnt σ0 (d + 7) m C) {b o : Int} {S : List Int} (hS9 : topNe 9 S) (hS10 : topNe 10 S) (hS11 : topNe 11 S) (ho : o + m = 8 ∧ 0 ≤ o) (hlen : S.length + 2 + 3 * m ≤ 30) (hb : 0 ≤ b ∧ b + m ≤ 8) {Q : Int → PS → Prop} {c : Nat} {L : List (Int × Int)} {σ : PS} (h : MA f ln σ0 c L o S σ) (hc : c ≤ cnt) (hL : L.length + S.length ≤ c)
    (w1 : (pOr (kdP f ln) C c).1 = 0 → ∀ (σ' : PS), MA f ln σ0 (pOr (kdP f ln) C c).2.1 (L ++ (pOr (kdP f ln) C c).2.2) o S σ' → (pOr (kdP f ln) C c).2.1 ≤ cnt → (L ++ (pOr (kdP f ln) C c).2.2).length + S.length ≤ (pOr (kdP f ln) C c).2.1 → ((b ≠ 0 → XX g true (d + 6) P_X12_isSign 0 [(2, 88), (0, 41)] [] 136 σ' 136 (fun r10 σ9 => ((r10 ≠ 0 → ∀ y11, y11 = w32 (b - 1) → XX g true (d + 6) P_X12_settles 0 [(2, 88), (0, 9)] [] 136 (su (su σ9 88 35 (w32 ((σ9 88 35) - 1))) 88 33 (w32 ((σ9 88 33) - 1))) 136 (fun _ σ12 => XX g true (d + 6) P_X12_reads 0 [(2, 88), (9, 0)] [] 136 σ12 136 (fun _ σ14 => (XX g true (d + 7) P_X12_readAny 9 [(2, 88), (0, y11), (0, 0), (9, 0)] [] 136 σ14 136 Q)))) ∧ (r10 = 0 → XX g true (d + 6) P_X12_errs 0 [(2, 88), (0, 1)] [] 136 σ9 136 (fun r17 σ16 => Q r17 σ16))))) ∧ (b = 0 → Q 0 σ')))
    (w0 : (pOr (kdP f ln) C c).1 ≠ 0 → ∀ σ', FltA f ln σ0 (pOr (kdP f ln) C c).1 (pOr (kdP f ln) C c).2.1 σ' → Q (-1) σ') :
    XX g true (d + 7) P_X12_readAny 9 [(2, 88), (0, b), (0, 1), (9, 0)] [] 136 σ 136 Q := by
  have h5 := hB.2.2.2.2.1.2
  have hu := g_and hB.end_ hC hc
  have h0 : MA f ln σ0 c L o (List.replicate 0 11 ++ S) σ := h
  unfold pOr at w1 w0
  refine s_andM hB hC hcl (q := 0) (by decide) hS9 hS10 ho hlen hb h0 hc (by omega) (fun e a' L' σ5 ha' h5' hL' hc' hl' hk' => ?_) (fun e σ5 h5' => ?_)
  · rw [pBind_ok e] at w1 w0
    refine s_orL hB hC hcl hS9 hS10 hS11 ho hlen hb 500 a' 0 _ L' σ5 ha' (by decide) (by omega) h5' hc' hl' hk' (fun e2 a2 q2 L2 σ6 ha2 hq2 h6 hL2 hc2 hl2 hk2 hk3 => ?_) (fun e2 σ6 h6 => w0 e2 σ6 h6)
    have hwm : wmap 11 = 259 := rfl
    have hwo : wmap 10 = 260 := rfl
    refine B_X12_readAny_9 ⟨fun _ => s_isWord h6.2.1 (by decide) (by decide) (fun q3 => absurd (q3.trans hwm) hk2) fun _ => ⟨fun _ => s_isWord h6.2.1 (by decide) (by decide) (fun q3 => absurd (q3.trans hwo) hk3) fun _ => ⟨fun _ => ?_, fun z => absurd rfl z⟩, fun z => absurd rfl z⟩, fun z => absurd rfl z⟩
    refine s_settles (topNe.rep (by decide) hS10) a2 _ L2 o σ6 h6 (by omega) ⟨fun z => absurd z (by decide), by omega, by omega⟩ (by rw [rep_le]; omega) (by omega) fun σ7 h7 => ?_
    rw [if_neg (by decide)] at h7
    refine s_settles hS11 q2 _ _ o σ7 h7 (by rw [List.length_append, List.length_replicate]; omega) ⟨fun z => absurd z (by decide), by omega, by omega⟩ (by omega) (by omega) fun σ8 h8 => ?_
    rw [if_neg (by decide)] at h8
    have hLL : L2 ++ List.replicate a2 (10, 0) ++ List.replicate q2 (11, 0) = L ++ ((pAnd (kdP f ln) C c).2.2 ++ (pOrL (kdP f ln) C 500 (pAnd (kdP f ln) C c).2.1).2.2) := by
      rw [hL2, hL', List.replicate_zero, List.append_nil, List.append_assoc]
    have hlen2 := congrArg List.length hLL
    rw [List.length_append, List.length_append, List.length_replicate, List.length_replicate] at hlen2
    rw [hLL] at h8
    exact w1 e2 σ8 h8 hc2 (by show (L ++ ((pAnd (kdP f ln) C c).2.2 ++ (pOrL (kdP f ln) C 500 (pAnd (kdP f ln) C c).2.1).2.2)).length + S.length ≤ (pOrL (kdP f ln) C 500 (pAnd (kdP f ln) C c).2.1).2.1; omega)
  · rw [pBind_no e] at w0
    exact w0 e σ5 h5'
end PANY
