/-! COPIES, the class -/
def txtL (q : Int) : List Int := [q + 1, q + 2, q + 3, q + 4, q + 5, q + 6, q + 7, q + 8, q + 9, q + 10, q + 11, q + 12, q + 13, q + 14]
theorem mem_txtL {q a : Int} : a ∈ txtL q ↔ q + 1 ≤ a ∧ a ≤ q + 14 := by
  unfold txtL
  simp only [List.mem_cons, List.not_mem_nil, or_false]
  omega
theorem eqx.cp {L : List Int} {σ σ' : PS} {a0 sp a dp n : Int} (h : eqx L σ σ') (ha : a ∈ L) : eqx L σ (cpS σ' a0 sp a dp n) := fun b hb i => by
  rw [cp_ne (fun e => hb (by rw [e]; exact ha))]
  exact h b hb i
theorem cp_in {σ : PS} {a0 a n j : Int} (h0 : 0 ≤ j) (h1 : j < n) : cpS σ a0 0 a 0 n a j = σ a0 j := by
  unfold cpS
  rw [if_pos ⟨rfl, by omega⟩]
  congr 1
  omega
/-- all texts and what fails -/
def TxtA (q : Int) (T0 T1 T2 : PS) (E : Int → Int) (σ : PS) : Prop := TxtC (q + 1) T0 σ ∧ TxtC (q + 5) T1 σ ∧ TxtC (q + 9) T2 σ ∧ EnC (q + 13) E σ
theorem TxtA.x {q : Int} {T0 T1 T2 : PS} {E : Int → Int} {L : List Int} {σ σ' : PS} (h : TxtA q T0 T1 T2 E σ) (hx : eqx L σ σ') (hq : ∀ a, q + 1 ≤ a → a ≤ q + 14 → a ∉ L) : TxtA q T0 T1 T2 E σ' := by
  obtain ⟨h1, h2, h3, h4⟩ := h
  exact ⟨h1.same fun a a1 a2 j => hx a (hq a (by omega) (by omega)) j, h2.same fun a a1 a2 j => hx a (hq a (by omega) (by omega)) j, h3.same fun a a1 a2 j => hx a (hq a (by omega) (by omega)) j, h4.x hx (hq _ (by omega) (by omega))⟩
theorem RowC.x {r : Int} {R σ σ' : PS} {L : List Int} (h : RowC r R σ) (hx : eqx L σ σ') (hr : ∀ a, r ≤ a → a ≤ r + 7 → a ∉ L) : RowC r R σ' := h.same fun a a1 a2 j => hx a (hr a a1 a2) j
section PCOPY
variable {g : PG} {d : Nat} {Q : Int → PS → Prop}
theorem s_copy59_43 {R σ : PS} (hR : RowC 43 R σ) (w : ∀ σ', eqx (rowL 59) σ σ' → RowC 59 R σ' → Q 0 σ') : XX g true (d + 1) P_X7_copy 0 [(2, 59), (2, 43)] [] 136 σ 136 Q := by
  refine B59_43_copy ⟨by decide, by decide, by decide, by decide, by decide, by decide, w _ ?_ ?_⟩
  · refine (((((((((((((((((eqx.rf.su ?_).cp ?_).cp ?_).cp ?_).cp ?_).su ?_).su ?_).cp ?_).cp ?_).cp ?_).su ?_).su ?_).su ?_).su ?_).su ?_).su ?_).su ?_) <;> exact mem_rowL.mpr (by decide)
  · obtain ⟨a1, a2, a3, a4, a5, a6⟩ := hR
    simp only [Int.reduceAdd] at a1 a2 a3 a4 a5 a6
    refine ⟨?_, fun p h0 h1 => ?_, ?_, ?_, fun k h0 h1 => ?_, fun k h0 h1 => ?_⟩
    · simp only [su, cpS, Int.reduceEq, false_and, if_false, and_self, if_true, and_false]; exact a1
    · have := a2 p h0 h1
      simp only [Int.reduceAdd, su_ne (Or.inl (show ((59 + 1 : Int)) ≠ 59 by decide)), su_fn (show (59 + 1 : Int) ≠ 59 by decide)]
      simp only [su, cpS, Int.reduceEq, false_and, if_false, true_and, h0, h1, Int.zero_add, if_true, Int.sub_zero, and_self]
      exact this
    · simp only [su, cpS, Int.reduceEq, false_and, if_false, and_self, if_true, and_false]; exact a3
    · simp only [su, cpS, Int.reduceEq, false_and, if_false, and_self, if_true, and_false]; exact a4
    · have := a5 k h0 h1
      simp only [Int.reduceAdd]
      simp only [su, cpS, Int.reduceEq, false_and, if_false, true_and, h0, h1, Int.zero_add, if_true, Int.sub_zero, and_self]
      exact this
    · have := a6 k h0 h1
      simp only [Int.reduceAdd]
      simp only [su, cpS, Int.reduceEq, false_and, if_false, true_and, h0, h1, Int.zero_add, if_true, Int.sub_zero, and_self]
      exact this
theorem s_copy51_43 {R σ : PS} (hR : RowC 43 R σ) (w : ∀ σ', eqx (rowL 51) σ σ' → RowC 51 R σ' → Q 0 σ') : XX g true (d + 1) P_X7_copy 0 [(2, 51), (2, 43)] [] 136 σ 136 Q := by
  refine B51_43_copy ⟨by decide, by decide, by decide, by decide, by decide, by decide, w _ ?_ ?_⟩
  · refine (((((((((((((((((eqx.rf.su ?_).cp ?_).cp ?_).cp ?_).cp ?_).su ?_).su ?_).cp ?_).cp ?_).cp ?_).su ?_).su ?_).su ?_).su ?_).su ?_).su ?_).su ?_) <;> exact mem_rowL.mpr (by decide)
  · obtain ⟨a1, a2, a3, a4, a5, a6⟩ := hR
    simp only [Int.reduceAdd] at a1 a2 a3 a4 a5 a6
    refine ⟨?_, fun p h0 h1 => ?_, ?_, ?_, fun k h0 h1 => ?_, fun k h0 h1 => ?_⟩
    · simp only [su, cpS, Int.reduceEq, false_and, if_false, and_self, if_true, and_false]; exact a1
    · have := a2 p h0 h1
      simp only [Int.reduceAdd, su_ne (Or.inl (show ((51 + 1 : Int)) ≠ 51 by decide)), su_fn (show (51 + 1 : Int) ≠ 51 by decide)]
      simp only [su, cpS, Int.reduceEq, false_and, if_false, true_and, h0, h1, Int.zero_add, if_true, Int.sub_zero, and_self]
      exact this
    · simp only [su, cpS, Int.reduceEq, false_and, if_false, and_self, if_true, and_false]; exact a3
    · simp only [su, cpS, Int.reduceEq, false_and, if_false, and_self, if_true, and_false]; exact a4
    · have := a5 k h0 h1
      simp only [Int.reduceAdd]
      simp only [su, cpS, Int.reduceEq, false_and, if_false, true_and, h0, h1, Int.zero_add, if_true, Int.sub_zero, and_self]
      exact this
    · have := a6 k h0 h1
      simp only [Int.reduceAdd]
      simp only [su, cpS, Int.reduceEq, false_and, if_false, true_and, h0, h1, Int.zero_add, if_true, Int.sub_zero, and_self]
      exact this
theorem s_copy43_51 {R σ : PS} (hR : RowC 51 R σ) (w : ∀ σ', eqx (rowL 43) σ σ' → RowC 43 R σ' → Q 0 σ') : XX g true (d + 1) P_X7_copy 0 [(2, 43), (2, 51)] [] 136 σ 136 Q := by
  refine B43_51_copy ⟨by decide, by decide, by decide, by decide, by decide, by decide, w _ ?_ ?_⟩
  · refine (((((((((((((((((eqx.rf.su ?_).cp ?_).cp ?_).cp ?_).cp ?_).su ?_).su ?_).cp ?_).cp ?_).cp ?_).su ?_).su ?_).su ?_).su ?_).su ?_).su ?_).su ?_) <;> exact mem_rowL.mpr (by decide)
  · obtain ⟨a1, a2, a3, a4, a5, a6⟩ := hR
    simp only [Int.reduceAdd] at a1 a2 a3 a4 a5 a6
    refine ⟨?_, fun p h0 h1 => ?_, ?_, ?_, fun k h0 h1 => ?_, fun k h0 h1 => ?_⟩
    · simp only [su, cpS, Int.reduceEq, false_and, if_false, and_self, if_true, and_false]; exact a1
    · have := a2 p h0 h1
      simp only [Int.reduceAdd, su_ne (Or.inl (show ((43 + 1 : Int)) ≠ 43 by decide)), su_fn (show (43 + 1 : Int) ≠ 43 by decide)]
      simp only [su, cpS, Int.reduceEq, false_and, if_false, true_and, h0, h1, Int.zero_add, if_true, Int.sub_zero, and_self]
      exact this
    · simp only [su, cpS, Int.reduceEq, false_and, if_false, and_self, if_true, and_false]; exact a3
    · simp only [su, cpS, Int.reduceEq, false_and, if_false, and_self, if_true, and_false]; exact a4
    · have := a5 k h0 h1
      simp only [Int.reduceAdd]
      simp only [su, cpS, Int.reduceEq, false_and, if_false, true_and, h0, h1, Int.zero_add, if_true, Int.sub_zero, and_self]
      exact this
    · have := a6 k h0 h1
      simp only [Int.reduceAdd]
      simp only [su, cpS, Int.reduceEq, false_and, if_false, true_and, h0, h1, Int.zero_add, if_true, Int.sub_zero, and_self]
      exact this
theorem s_linesCopy {q0 q1 : Int} {T σ : PS} (h0 : LinAt q0) (h1 : LinAt q1) (hne : q0 ≠ q1) (hT : TxtC q1 T σ) (hn0 : 0 ≤ T 0 0 ∧ T 0 0 ≤ 16) (hn1 : 0 ≤ T 0 1 ∧ T 0 1 ≤ 500) (w : ∀ σ', eqx [q0, q0 + 1, q0 + 2, q0 + 3] σ σ' → TxtC q0 T σ' → Q 0 σ') : XX g true (d + 1) P_X4_copy 0 [(2, q0), (2, q1)] [] 136 σ 136 Q := by
  have hd : ∀ k l : Int, 0 ≤ k → k ≤ 3 → 0 ≤ l → l ≤ 3 → q1 + k ≠ q0 + l := fun k l _ _ _ _ => by unfold LinAt at h0 h1; omega
  have d0 := hd 0 0 (by decide) (by decide) (by decide) (by decide)
  have d1 := hd 0 1 (by decide) (by decide) (by decide) (by decide)
  have d2 := hd 0 2 (by decide) (by decide) (by decide) (by decide)
  have d3 := hd 0 3 (by decide) (by decide) (by decide) (by decide)
  rw [Int.add_zero] at d0 d1 d2 d3
  rw [Int.add_zero] at d0
  obtain ⟨a1, a2, a3, a4, a5, a6⟩ := hT
  refine B_X4_copy_0 h0 h1 ⟨by omega, by omega, by decide, by decide, by decide, by decide, ?_⟩
  have e3 : cpS (cpS (cpS σ (q1 + 1) 0 (q0 + 1) 0 (σ q1 4)) (q1 + 2) 0 (q0 + 2) 0 17) (q1 + 3) 0 (q0 + 3) 0 16 q1 3 = T 0 0 := by rw [cp_ne d3, cp_ne d2, cp_ne d1]; exact a1
  have e4 : su (cpS (cpS (cpS σ (q1 + 1) 0 (q0 + 1) 0 (σ q1 4)) (q1 + 2) 0 (q0 + 2) 0 17) (q1 + 3) 0 (q0 + 3) 0 16) q0 3 (T 0 0) q1 4 = T 0 1 := by rw [su_ne (Or.inl d0), cp_ne d3, cp_ne d2, cp_ne d1]; exact a2
  rw [e3, e4, a2]
  have m : ∀ k : Int, 0 ≤ k → k ≤ 3 → q0 + k ∈ ([q0, q0 + 1, q0 + 2, q0 + 3] : List Int) := fun k _ _ => by simp only [List.mem_cons, List.not_mem_nil, or_false]; omega
  have m0 := m 0 (by decide) (by decide)
  rw [Int.add_zero] at m0
  refine w _ (((((eqx.rf.cp (m 1 (by decide) (by decide))).cp (m 2 (by decide) (by decide))).cp (m 3 (by decide) (by decide))).su m0).su m0) ⟨?_, ?_, ?_, fun l l0 l1 => ?_, fun l l0 l1 => ?_, fun i i0 i1 => ?_⟩
  · rw [su_ne (Or.inr (by decide)), su_eq]
  · exact su_eq
  · rw [su_ne (Or.inl (by omega)), su_ne (Or.inl (by omega)), cp_ne (by omega), cp_in (by decide) (by decide), cp_ne (by have := hd 2 1 (by decide) (by decide) (by decide) (by decide); omega)]
    exact a3
  · rw [su_ne (Or.inl (by omega)), su_ne (Or.inl (by omega)), cp_in l0 (by omega), cp_ne (by have := hd 3 2 (by decide) (by decide) (by decide) (by decide); omega), cp_ne (by have := hd 3 1 (by decide) (by decide) (by decide) (by decide); omega)]
    exact a4 l l0 l1
  · rw [su_ne (Or.inl (by omega)), su_ne (Or.inl (by omega)), cp_ne (by omega), cp_in (by omega) (by omega), cp_ne (by have := hd 2 1 (by decide) (by decide) (by decide) (by decide); omega)]
    exact a5 l l0 l1
  · rw [su_ne (Or.inl (by omega)), su_ne (Or.inl (by omega)), cp_ne (by omega), cp_ne (by omega), cp_in i0 (by omega)]
    exact a6 i i0 i1
theorem s_breaksCopy {q0 q1 : Int} {E : Int → Int} {σ : PS} (h0 : BrkAt q0) (h1 : BrkAt q1) (hE : EnC q1 E σ) (w : ∀ σ', eqx [q0 + 1] σ σ' → EnC q0 E σ' → Q 0 σ') : XX g true (d + 1) P_X1_copy 0 [(2, q0), (2, q1)] [] 136 σ 136 Q :=
  B_X1_copy_0 h0 h1 ⟨by decide, by decide, w _ (eqx.rf.cp (List.mem_singleton_self _)) fun k hk => by rw [cp_in (by omega) (by omega)]; exact hE k hk⟩
theorem s_textsCopy {q0 q1 : Int} {T0 T1 T2 : PS} {E : Int → Int} {σ : PS} (h0 : TxtAt q0) (h1 : TxtAt q1) (hne : q0 ≠ q1) (hA : TxtA q1 T0 T1 T2 E σ) (n0 : (0 ≤ T0 0 0 ∧ T0 0 0 ≤ 16) ∧ 0 ≤ T0 0 1 ∧ T0 0 1 ≤ 500) (n1 : (0 ≤ T1 0 0 ∧ T1 0 0 ≤ 16) ∧ 0 ≤ T1 0 1 ∧ T1 0 1 ≤ 500) (n2 : (0 ≤ T2 0 0 ∧ T2 0 0 ≤ 16) ∧ 0 ≤ T2 0 1 ∧ T2 0 1 ≤ 500) (w : ∀ σ', eqx (txtL q0) σ σ' → TxtA q0 T0 T1 T2 E σ' → Q 0 σ') : XX g true (d + 2) P_X9_copy 0 [(2, q0), (2, q1)] [] 136 σ 136 Q := by
  have hq : (q0 = 13 ∧ q1 = 28) ∨ (q0 = 28 ∧ q1 = 13) := by unfold TxtAt at h0 h1; omega
  have mm : ∀ {σ1 σ2 : PS} {L : List Int}, eqx L σ1 σ2 → (∀ a ∈ L, q0 + 1 ≤ a ∧ a ≤ q0 + 14) → eqx (txtL q0) σ1 σ2 := fun h hL => h.mono fun a ha => mem_txtL.mpr (hL a ha)
  refine B_X9_copy_0 h0 h1 (s_linesCopy (Txt_law h0) (Txt_law h1) (by omega) hA.1 n0.1 n0.2 fun σ1 hx1 c1 => ?_)
  have A1 := hA.x hx1 fun a a1 a2 => by simp only [List.mem_cons, List.not_mem_nil, or_false]; omega
  refine s_linesCopy (Txt_first h0) (Txt_first h1) (by omega) A1.2.1 n1.1 n1.2 fun σ2 hx2 c2 => ?_
  have A2 := A1.x hx2 fun a a1 a2 => by simp only [List.mem_cons, List.not_mem_nil, or_false]; omega
  refine s_linesCopy (Txt_second h0) (Txt_second h1) (by omega) A2.2.2.1 n2.1 n2.2 fun σ3 hx3 c3 => ?_
  have A3 := A2.x hx3 fun a a1 a2 => by simp only [List.mem_cons, List.not_mem_nil, or_false]; omega
  refine s_breaksCopy (Txt_breaks h0) (Txt_breaks h1) A3.2.2.2 fun σ4 hx4 c4 => ?_
  have y1 := mm hx1 fun a ha => by simp only [List.mem_cons, List.not_mem_nil, or_false] at ha; omega
  have y2 := mm hx2 fun a ha => by simp only [List.mem_cons, List.not_mem_nil, or_false] at ha; omega
  have y3 := mm hx3 fun a ha => by simp only [List.mem_cons, List.not_mem_nil, or_false] at ha; omega
  have y4 := mm hx4 fun a ha => by simp only [List.mem_cons, List.not_mem_nil, or_false] at ha; omega
  refine w σ4 (((y1.tr y2).tr y3).tr y4) ⟨?_, ?_, ?_, c4⟩
  · refine ((c1.same fun a a1 a2 j => hx2 a ?_ j).same fun a a1 a2 j => hx3 a ?_ j).same fun a a1 a2 j => hx4 a ?_ j <;> (simp only [List.mem_cons, List.not_mem_nil, or_false]; omega)
  · refine (c2.same fun a a1 a2 j => hx3 a ?_ j).same fun a a1 a2 j => hx4 a ?_ j <;> (simp only [List.mem_cons, List.not_mem_nil, or_false]; omega)
  · refine c3.same fun a a1 a2 j => hx4 a ?_ j
    simp only [List.mem_cons, List.not_mem_nil, or_false]; omega
end PCOPY
