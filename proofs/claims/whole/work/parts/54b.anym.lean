/-! THE PARSER, the model: clauses, with a stack of what waits -/
def eqA (σ0 σ : PS) : Prop := (∀ a j : Int, a ≠ 88 → a ≠ 104 → a ≠ 105 → a ≠ 106 → σ a j = σ0 a j) ∧ (∀ j : Int, j < 1500 → σ 104 j = σ0 104 j ∧ σ 105 j = σ0 105 j) ∧ ∀ j : Int, j ∉ exJ → j ≠ 33 → j ≠ 35 → σ 88 j = σ0 88 j
theorem eqA.rf {σ : PS} : eqA σ σ := ⟨fun _ _ _ _ _ _ => rfl, fun _ _ => ⟨rfl, rfl⟩, fun _ _ _ _ => rfl⟩
theorem eqA.e {σ σ' σ'' : PS} (h : eqA σ σ') (h2 : eqE σ' σ'') : eqA σ σ'' := ⟨fun a j a1 a2 a3 a4 => (h2.1 a j a1 a2 a3).trans (h.1 a j a1 a2 a3 a4), fun j hj => ⟨(h2.2.1 j hj).1.trans (h.2.1 j hj).1, (h2.2.1 j hj).2.trans (h.2.1 j hj).2⟩, fun j hj h1 h3 => (h2.2.2 j hj).trans (h.2.2 j hj h1 h3)⟩
theorem eqA.tr {σ σ' σ'' : PS} (h : eqA σ σ') (h2 : eqA σ' σ'') : eqA σ σ'' := ⟨fun a j a1 a2 a3 a4 => (h2.1 a j a1 a2 a3 a4).trans (h.1 a j a1 a2 a3 a4), fun j hj => ⟨(h2.2.1 j hj).1.trans (h.2.1 j hj).1, (h2.2.1 j hj).2.trans (h.2.1 j hj).2⟩, fun j hj h1 h3 => (h2.2.2 j hj h1 h3).trans (h.2.2 j hj h1 h3)⟩
theorem eqA.s8 {σ σ' : PS} {j v : Int} (h : eqA σ σ') (hj : j = 33 ∨ j = 35) : eqA σ (su σ' 88 j v) := ⟨fun b i a1 a2 a3 a4 => by rw [su_ne (Or.inl (by omega))]; exact h.1 b i a1 a2 a3 a4, fun i hi => by rw [su_ne (Or.inl (by decide)), su_ne (Or.inl (by decide))]; exact h.2.1 i hi, fun i hi h1 h2 => by rw [su_ne (Or.inr (by omega))]; exact h.2.2 i hi h1 h2⟩
theorem eqA.s6 {σ σ' : PS} {j v : Int} (h : eqA σ σ') : eqA σ (su σ' 106 j v) := ⟨fun b i a1 a2 a3 a4 => by rw [su_ne (Or.inl (by omega))]; exact h.1 b i a1 a2 a3 a4, fun i hi => by rw [su_ne (Or.inl (by decide)), su_ne (Or.inl (by decide))]; exact h.2.1 i hi, fun i hi h1 h2 => by rw [su_ne (Or.inl (by decide))]; exact h.2.2 i hi h1 h2⟩
def StkM (o : Int) (S : List Int) (σ : PS) : Prop := σ 88 33 = o ∧ σ 88 35 = S.length ∧ stk (σ 106) S
def MA (f : Int → Int) (ln : Int) (σ0 : PS) (c : Nat) (L : List (Int × Int)) (o : Int) (S : List Int) (σ : PS) : Prop := eqA σ0 σ ∧ AtM f ln c σ ∧ CodeM L σ ∧ StkM o S σ
def FltA (f : Int → Int) (ln : Int) (σ0 : PS) (k : Int) (i : Nat) (σ : PS) : Prop := eqA σ0 σ ∧ σ 88 36 = k ∧ σ 88 37 = stP f ln i
def topNe (w : Int) (S : List Int) : Prop := ∀ r, S ≠ w :: r
theorem topNe.nil {w : Int} : topNe w [] := fun r h => by cases h
theorem topNe.cons {w v : Int} {S : List Int} (h : v ≠ w) : topNe w (v :: S) := fun r e => by cases e; exact h rfl
theorem topNe.rep {w v : Int} {q : Nat} {S : List Int} (h : v ≠ w) (hS : topNe w S) : topNe w (List.replicate q v ++ S) := by
  cases q with
  | zero => exact hS
  | succ q => rw [List.replicate_succ, List.cons_append]; exact topNe.cons h
theorem StkM.e {o : Int} {S : List Int} {σ σ' : PS} (h : StkM o S σ) (hx : eqE σ σ') : StkM o S σ' := by
  obtain ⟨a1, a2, a3⟩ := h
  refine ⟨by rw [hx.2.2 33 (by decide)]; exact a1, by rw [hx.2.2 35 (by decide)]; exact a2, stk_congr (fun j _ _ => hx.1 106 j (by decide) (by decide) (by decide)) a3⟩
section PANYM
variable {g : PG} {d : Nat} {f : Int → Int} {ln : Int} {cnt : Nat} {lw : Bool} {σ0 σ : PS} {Q : Int → PS → Prop}
theorem BasM.ma (h : BasM f ln cnt lw σ0) (hx : eqA σ0 σ) : BasM f ln cnt lw σ := by
  obtain ⟨⟨a1, a2⟩, a3, a4, a5, a6, a7⟩ := h
  refine ⟨⟨by rw [hx.2.2 19 (by decide) (by decide) (by decide)]; exact a1, fun i i0 i1 => by rw [hx.1 98 i (by decide) (by decide) (by decide) (by decide)]; exact a2 i i0 i1⟩, fun i hi => by rw [hx.1 99 i (by decide) (by decide) (by decide) (by decide)]; exact a3 i hi, a4, a5, a6, by rw [hx.2.2 31 (by decide) (by decide) (by decide)]; exact a7⟩
theorem MA.ms {c : Nat} {L : List (Int × Int)} {o : Int} {S : List Int} (h : MA f ln σ0 c L o S σ) : MS f ln σ c L σ := ⟨eqE.rf, h.2.1, h.2.2.1⟩
theorem MA.of {c c' : Nat} {L L' : List (Int × Int)} {o : Int} {S : List Int} {σ' : PS} (h : MA f ln σ0 c L o S σ) (hc : MS f ln σ c' L' σ') : MA f ln σ0 c' L' o S σ' := ⟨h.1.e hc.1, hc.2.1, hc.2.2, h.2.2.2.e hc.1⟩
theorem AtM.n8 {c : Nat} {j v : Int} (h : AtM f ln c σ) (hj : j ≠ 20 ∧ j ≠ 21 ∧ j ≠ 22 ∧ j ≠ 23) : AtM f ln c (su σ 88 j v) := by
  unfold AtM at h ⊢
  rw [su_ne (Or.inr (by omega)), su_ne (Or.inr (by omega)), su_ne (Or.inr (by omega)), su_ne (Or.inr (by omega))]
  exact h
theorem AtM.na {c : Nat} {a j v : Int} (h : AtM f ln c σ) (ha : a ≠ 88) : AtM f ln c (su σ a j v) := by
  unfold AtM at h ⊢
  rw [su_ne (Or.inl (by omega)), su_ne (Or.inl (by omega)), su_ne (Or.inl (by omega)), su_ne (Or.inl (by omega))]
  exact h
theorem CodeM.n8 {L : List (Int × Int)} {j v : Int} (h : CodeM L σ) (hj : j ≠ 32) : CodeM L (su σ 88 j v) := ⟨by rw [su_ne (Or.inr (by omega))]; exact h.1, fun i hi => by rw [su_ne (Or.inl (by decide)), su_ne (Or.inl (by decide))]; exact h.2 i hi⟩
theorem CodeM.n6 {L : List (Int × Int)} {j v : Int} (h : CodeM L σ) : CodeM L (su σ 106 j v) := ⟨by rw [su_ne (Or.inl (by decide))]; exact h.1, fun i hi => by rw [su_ne (Or.inl (by decide)), su_ne (Or.inl (by decide))]; exact h.2 i hi⟩
theorem MA.open_ {c : Nat} {L : List (Int × Int)} {o o' : Int} {S : List Int} (h : MA f ln σ0 c L o S σ) : MA f ln σ0 c L o' S (su σ 88 33 o') := by
  obtain ⟨a1, a2, a3, a4, a5, a6⟩ := h
  refine ⟨a1.s8 (by omega), a2.n8 (by decide), a3.n8 (by decide), su_eq, by rw [su_ne (Or.inr (by decide))]; exact a5, stk_congr (fun j _ _ => su_ne (Or.inl (by decide))) a6⟩
theorem MA.pop {c : Nat} {L : List (Int × Int)} {o v : Int} {S : List Int} (h : MA f ln σ0 c L o (v :: S) σ) : MA f ln σ0 c L o S (su σ 88 35 (S.length : Int)) := by
  obtain ⟨a1, a2, a3, a4, a5, a6⟩ := h
  refine ⟨a1.s8 (by omega), a2.n8 (by decide), a3.n8 (by decide), by rw [su_ne (Or.inr (by decide))]; exact a4, su_eq, stk_congr (fun j _ _ => su_ne (Or.inl (by decide))) a6.2⟩
theorem s_waits {c : Nat} {L : List (Int × Int)} {o v : Int} {S : List Int} (h : MA f ln σ0 c L o S σ) (hl : S.length < 40) (w : ∀ σ', MA f ln σ0 c L o (v :: S) σ' → Q 0 σ') : XX g true d P_X12_waits 0 [(2, 88), (0, v)] [] 136 σ 136 Q := by
  obtain ⟨a1, a2, a3, a4, a5, a6⟩ := h
  refine B_X12_waits_0 ?_
  rw [a5, w32_of (by omega) (by omega)]
  refine ⟨by omega, w _ ⟨(a1.s6).s8 (by omega), (a2.na (by decide)).n8 (by decide), (a3.n6).n8 (by decide), ?_, ?_, ?_⟩⟩
  · rw [su_ne (Or.inr (by decide)), su_ne (Or.inl (by decide))]; exact a4
  · rw [su_eq, List.length_cons]; omega
  · have h1 := stk_push (v := v) a6
    exact stk_congr (fun j _ _ => su_ne (Or.inl (by decide))) h1
theorem rep_snoc {α : Type} (k : Nat) (x : α) : [x] ++ List.replicate k x = List.replicate (k + 1) x := by rw [List.replicate_succ]; rfl
theorem s_settles {v : Int} {S : List Int} (hS : topNe v S) : ∀ (k c : Nat) (L : List (Int × Int)) (o : Int) (σ : PS), MA f ln σ0 c L o (List.replicate k v ++ S) σ → L.length + k ≤ 500 → ((v = 9 → (k : Int) ≤ o) ∧ -100 ≤ o ∧ o ≤ 100) → k + S.length ≤ 40 → k ≤ 100 → (∀ σ', MA f ln σ0 c (L ++ List.replicate k (v, 0)) (if v = 9 then o - k else o) S σ' → Q 0 σ') → XX g true (d + 1) P_X12_settles 0 [(2, 88), (0, v)] [] 136 σ 136 Q := by
  intro k
  induction k with
  | zero =>
    intro c L o σ h hl ho hs hk w
    have h' : MA f ln σ0 c (L ++ List.replicate 0 (v, 0)) (if v = 9 then o - ((0 : Nat) : Int) else o) S σ := by
      rw [List.replicate_zero, List.append_nil, show (if v = 9 then o - ((0 : Nat) : Int) else o) = o by split <;> omega]
      exact h
    obtain ⟨a1, a2, a3, a4, a5, a6⟩ := h
    have e5 : σ 88 35 = (S.length : Int) := a5
    have e6 : stk (σ 106) S := a6
    refine B_X12_settles_0 ?_
    rw [e5]
    refine ⟨fun _ => w σ h', fun z => ?_⟩
    rw [w32_of (by omega) (by omega)]
    refine ⟨by omega, fun _ => w σ h', fun z1 => ?_⟩
    exfalso
    cases S with
    | nil => simp at z
    | cons x r =>
      have : σ 106 (r.length : Int) = x := e6.1
      rw [List.length_cons, show ((r.length + 1 : Nat) : Int) - 1 = (r.length : Int) by omega, this] at z1
      exact hS r (by rw [z1])
  | succ k ih =>
    intro c L o σ h hl ho hs hk w
    rw [List.replicate_succ, List.cons_append] at h
    have hp := h.pop
    obtain ⟨a1, a2, a3, a4, a5, a6⟩ := h
    have elen : (((List.replicate k v ++ S).length : Nat) : Int) = (k : Int) + S.length := by rw [List.length_append, List.length_replicate]; omega
    rw [List.length_cons] at a5
    refine B_X12_settles_0 ?_
    rw [a5, w32_of (by omega) (by omega), show (((List.replicate k v ++ S).length + 1 : Nat) : Int) - 1 = ((List.replicate k v ++ S).length : Int) by omega]
    refine ⟨fun z => by omega, fun _ => ⟨by omega, fun z => absurd a6.1 z, fun _ => ?_⟩⟩
    refine s_emits hp.ms (by omega) fun σ2 h2 => ?_
    have h3 := hp.of h2
    have eL : L ++ [(v, 0)] ++ List.replicate k (v, 0) = L ++ List.replicate (k + 1) (v, 0) := by rw [List.append_assoc, rep_snoc]
    refine ⟨fun z => ?_, fun z => ?_⟩
    · refine ih c (L ++ [(v, 0)]) o σ2 h3 (by rw [List.length_append, List.length_singleton]; omega) ⟨fun q => absurd q z, ho.2⟩ (by omega) (by omega) fun σ' h' => w σ' ?_
      rw [eL, if_neg z] at h'
      rw [if_neg z]
      exact h'
    · rw [h3.2.2.2.1, w32_of (by omega) (by omega)]
      refine ih c (L ++ [(v, 0)]) (o - 1) _ h3.open_ (by rw [List.length_append, List.length_singleton]; omega) (by omega) (by omega) (by omega) fun σ' h' => w σ' ?_
      rw [eL, if_pos z] at h'
      rw [if_pos z, show o - ((k + 1 : Nat) : Int) = o - 1 - (k : Int) by omega]
      exact h'
end PANYM
