/-! THE START: what the fresh objects hold -/
def RowZ : PS := fun f p => if f = 0 then KI 43 (if p = 0 then 0 else 9 + p) else if f = 1 then KI 44 p else if f = 2 then KI 45 p else if f = 3 then 0 else if f = 4 then KI 46 p else if f = 5 then 0 else if f = 6 then KI 47 p else if f = 7 then KI 48 p else if f = 8 then KI 49 p else KI 50 p
def tsZ : TS := (RowZ, txtT [] [], txtT [] [], txtT [] [], fun _ => 9)
theorem allN {P : Int → Prop} (N : Nat) (h : ∀ n, n < N → P (n : Int)) : ∀ p : Int, 0 ≤ p → p < N → P p := fun p p0 p1 => by
  have := h p.toNat (by omega)
  rw [show ((p.toNat : Nat) : Int) = p by omega] at this
  exact this
set_option maxRecDepth 100000
theorem ki_rowc1 : KI 43 5 = 0 ∧ KI 43 6 = 0 := by decide +kernel
theorem ki_rs0 : (2 ≤ RowZ 0 0 ∧ RowZ 0 0 ≤ 60) ∧ (0 ≤ RowZ 0 2 ∧ RowZ 0 2 ≤ 9999) ∧ 1 ≤ RowZ 9 1 ∧ 1 ≤ RowZ 9 3 ∧ (0 ≤ RowZ 9 6 ∧ RowZ 9 6 ≤ 999) ∧ (0 ≤ RowZ 9 7 ∧ RowZ 9 7 ≤ 999) := by decide +kernel
theorem ki_rs1 : ∀ n : Nat, n < 60 → (0 ≤ RowZ 1 (n : Int) ∧ RowZ 1 (n : Int) ≤ 5) ∧ -1 ≤ RowZ 4 (n : Int) := by decide +kernel
theorem ki_mx0 : KI 88 2 = RowZ 0 0 ∧ KI 88 1 = RowZ 0 1 ∧ KI 88 12 = RowZ 0 2 ∧ KI 88 13 = RowZ 0 3 ∧ KI 88 14 = RowZ 0 4 ∧ KI 88 15 = RowZ 0 5 ∧ KI 88 16 = RowZ 0 6 ∧ KI 88 17 = RowZ 0 7 := by decide +kernel
theorem ki_mx1 : ∀ n : Nat, n < 60 → KI 89 (n : Int) = RowZ 1 n ∧ KI 90 (n : Int) = RowZ 2 n ∧ KI 91 (n : Int) = RowZ 3 n ∧ KI 92 (n : Int) = RowZ 4 n + 1 ∧ KI 93 (n : Int) = RowZ 5 n ∧ KI 94 (n : Int) = RowZ 6 n := by decide +kernel
theorem ki_mx2 : ∀ n : Nat, n < 6 → KI 95 (n : Int) = RowZ 7 n ∧ KI 96 (n : Int) = RowZ 8 n := by decide +kernel
theorem ki_mx3 : ∀ n : Nat, n < 8 → KI 97 (n : Int) = RowZ 9 n := by decide +kernel
theorem ki_wrd : ∀ n : Nat, n < 117 → KI 99 (n : Int) = wordsM.getD n 0 := by decide +kernel
theorem ki_en : ∀ n : Nat, n < 256 → KI 27 (n : Int) = 9 := by decide +kernel
theorem ki_txc : (KI 14 3 = 0 ∧ KI 14 4 = 0 ∧ KI 16 0 = 0) ∧ (KI 18 3 = 0 ∧ KI 18 4 = 0 ∧ KI 20 0 = 0) ∧ (KI 22 3 = 0 ∧ KI 22 4 = 0 ∧ KI 24 0 = 0) := by decide +kernel
theorem ki_txm : KI 100 0 = 0 ∧ KI 100 1 = 0 ∧ KI 100 2 = 0 := by decide +kernel
theorem ki_few : KI 0 13 = 0 ∧ KI 0 14 = -1 ∧ KI 1 4 = 0 ∧ KI 9 0 = 0 ∧ KI 0 12 = 0 ∧ KI 88 38 = 0 ∧ KI 88 39 = -1 ∧ KI 88 19 = 0 ∧ KI 88 75 = 0 ∧ KI 88 40 = 0 := by decide +kernel
theorem ki_scr : (KI 70 2 = 72 ∧ KI 70 3 = 73) ∧ (KI 70 4 = 74 ∧ KI 70 5 = 75) ∧ (KI 76 1 = 77 ∧ KI 76 2 = 78) := by decide +kernel
theorem bitsC0 {f : Int → Int} (h : ∀ p, f p = 0) : BitsC 0 f := ⟨0, rfl, by decide, fun p hp => by rw [h]; unfold bitN; simp⟩
theorem ki_rowc : RowC 43 RowZ KI := by
  refine ⟨⟨rfl, rfl, rfl, rfl, rfl, rfl, rfl, rfl⟩, fun p p0 p1 => ⟨rfl, rfl, rfl, rfl⟩, ?_, ?_, fun k k0 k1 => ⟨rfl, rfl⟩, fun k k0 k1 => rfl⟩
  · rw [ki_rowc1.1]; exact bitsC0 fun p => rfl
  · rw [ki_rowc1.2]; exact bitsC0 fun p => rfl
theorem ok_t0 : OkT tsZ := by
  obtain ⟨a1, a2, a3, a4, a5, a6⟩ := ki_rs0
  have tx : ∀ {okn : Int → Bool}, TxtOK okn (txtT [] []) := txt_nil.1
  refine ⟨⟨a1, ⟨a2.1, Int.le_trans a2.2 (by decide)⟩, fun p p0 p1 => ?_, fun p _ _ => rfl, a3, a4, a5, a6⟩, a2.2, tx, tx, tx⟩
  have := allN (P := fun p => (0 ≤ RowZ 1 p ∧ RowZ 1 p ≤ 5) ∧ -1 ≤ RowZ 4 p) 60 ki_rs1 p p0 p1
  exact ⟨this.1, Or.inl rfl, Or.inl rfl, this.2⟩
theorem txtC0 {q : Int} (h : KI q 3 = 0 ∧ KI q 4 = 0 ∧ KI (q + 2) 0 = 0) : TxtC q (txtT [] []) KI := by
  have e0 : txtT [] [] 0 0 = 0 := rfl
  have e1 : txtT [] [] 0 1 = 0 := rfl
  refine ⟨h.1.trans e0.symm, h.2.1.trans e1.symm, h.2.2, fun l l0 l1 => ?_, fun l l0 l1 => ?_, fun i i0 i1 => ?_⟩
  · rw [e0] at l1; omega
  · rw [e0] at l1; omega
  · rw [e1] at i1; omega
theorem txtM0 {k : Int} (h : KI 100 k = 0) : TxtM k (txtT [] []) KI := by
  have e0 : txtT [] [] 0 0 = 0 := rfl
  have e1 : txtT [] [] 0 1 = 0 := rfl
  refine ⟨h.trans e0.symm, fun l l0 l1 => ?_, fun i i0 i1 => ?_⟩
  · rw [e0] at l1; omega
  · rw [e1] at i1; omega
theorem start_C : ClsB tsZ 0 (-1) 0 (fun _ => 0) none KI := by
  obtain ⟨b1, b2, b3, b4, b5, -⟩ := ki_few
  obtain ⟨c1, c2, c3⟩ := ki_scr
  obtain ⟨d1, d2, d3⟩ := ki_txc
  exact ⟨⟨ki_rowc, txtC0 d1, txtC0 d2, txtC0 d3, fun k hk => ki_en k hk⟩, ⟨b1, b2⟩, ⟨b3, fun i i0 i1 => by omega⟩, ⟨Or.inl c1, Or.inl c2, Or.inl c3, b4⟩, b5⟩
theorem start_M : ModB tsZ 0 (-1) 0 (fun _ => 0) none KI := by
  obtain ⟨-, -, -, -, -, b1, b2, b3, b4, b5⟩ := ki_few
  obtain ⟨d1, d2, d3⟩ := ki_txm
  have hE : BrkM (fun _ => 9) KI := (brkS_rel brkS_nil).congr2 (by rw [b5]; rfl) (fun l l0 l1 => by simp at l1; omega) fun l k l0 l1 => by simp at l1; omega
  refine ⟨⟨⟨⟨ki_mx0, allN (P := fun p => KI 89 p = RowZ 1 p ∧ KI 90 p = RowZ 2 p ∧ KI 91 p = RowZ 3 p ∧ KI 92 p = RowZ 4 p + 1 ∧ KI 93 p = RowZ 5 p ∧ KI 94 p = RowZ 6 p) 60 ki_mx1, allN (P := fun k => KI 95 k = RowZ 7 k ∧ KI 96 k = RowZ 8 k) 6 ki_mx2, fun k k0 k1 _ => allN (P := fun k => KI 97 k = RowZ 9 k) 8 ki_mx3 k k0 k1⟩, ki_mx3 3 (by decide)⟩, txtM0 d1, txtM0 d2, txtM0 d3, hE⟩, ⟨b1, b2⟩, ⟨b3, fun i i0 i1 => by omega⟩, fun i hi => ki_wrd i hi, b4⟩
theorem start_ok : OkB tsZ 0 (fun _ => 0) none := ⟨ok_t0, ⟨by decide, by decide⟩, fun i i0 i1 => by omega, fun u h => by cases h⟩
