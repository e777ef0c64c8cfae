/-! further calls; the class -/
def imgN (t : TS) (im : Option TS) (b : Int) : TS := if b = 0 then (match im with
  | none => t
  | some u => u) else t
def imgI (t : TS) (im : Option TS) (b : Int) : Option TS := if b = 0 then im else some t
def imgA (im : Option TS) (b : Int) : Int := if b = 0 then (match im with
  | none => 0
  | some _ => 1) else 1
def faultA (fk fp x : Int) : Int := if x = 0 then fk else if x = 1 then fp else -1
def endN (ln n : Int) : Int := if 0 ≤ n ∧ n ≤ ln then n else ln
def endA (ln n : Int) : Int := if 0 ≤ n ∧ n ≤ ln then 1 else 0
def gonS (f : Int → Int) : Nat → Nat
  | 0 => 0
  | n + 1 => gonS f n + (f n).toNat
theorem gonS_met {f : Int → Int} {N : Nat} : ∀ {n : Nat}, n ≤ 60 → (∀ p : Nat, p < 60 → f p = bitN N p) → gonS f n = metN N n := by
  intro n
  induction n with
  | zero => intro _ _; rfl
  | succ n ih =>
    intro hn h
    show gonS f n + (f n).toNat = _
    rw [metN_succ, ih (by omega) h, h n (by omega)]
def lookA (t : TS) (x : Int) : Int := if x = 0 then t.1 0 0 else if x = 1 then t.1 0 2 else if x = 2 then t.1 0 3 else if x = 3 then t.1 0 4 else if x = 4 then t.1 0 5 else if x = 5 then (gonS (t.1 3) (t.1 0 0).toNat : Int) else if x = 6 then (if failsB t.2.2.2.2 (fun p => t.1 3 p) (t.1 0 0).toNat then 1 else 0) else if x = 7 then t.1 0 6 else if x = 8 then t.1 0 7 else if 9 ≤ x ∧ x ≤ 16 then t.1 9 (x - 9) else -1
abbrev bitsOk (n lo hi : Int) : Prop := (0 ≤ lo ∧ lo < 1073741824) ∧ (0 ≤ hi ∧ hi < 1073741824) ∧ 2 ^ 30 * hi.toNat + lo.toNat < 2 ^ n.toNat
def failsA (t : TS) (lo hi : Int) : Int := if bitsOk (t.1 0 0) lo hi then (if failsB t.2.2.2.2 (fun p => bitN (2 ^ 30 * hi.toNat + lo.toNat) p) (t.1 0 0).toNat then 1 else 0) else -1
theorem i32_nat {x : Int} (h : in32 x) (h0 : x < 0) : (Int32.ofInt x).toUInt32.toNat = (x + 4294967296).toNat := by
  have e : (Int32.ofInt x).toUInt32.toNat = (Int32.ofInt x).toBitVec.toNat := rfl
  rw [e]
  have e2 : (Int32.ofInt x).toInt = x := ofInt_toInt32 h
  have e3 : (Int32.ofInt x).toBitVec.toInt = x := e2
  rw [BitVec.toInt_eq_toNat_cond] at e3
  unfold in32 at h
  split at e3 <;> omega
theorem iushr30 {x : Int} (h : in32 x) : iushr x 30 = 0 ↔ 0 ≤ x ∧ x < 1073741824 := by
  by_cases h0 : 0 ≤ x
  · obtain ⟨n, rfl⟩ : ∃ n : Nat, x = (n : Int) := ⟨x.toNat, by omega⟩
    unfold in32 at h
    have e := iushr_nat (a := n) (k := 30) (by decide) (by omega)
    rw [show ((30 : Nat) : Int) = 30 from rfl] at e
    rw [e]
    omega
  · constructor
    · intro e
      exfalso
      unfold iushr at e
      have e1 : ((Int32.ofInt x).toUInt32 >>> ((Int32.ofInt 30).toUInt32 &&& Int32.toUInt32 31)).toInt32 = 0 := Int32.toInt_inj.mp e
      have e2 : ((Int32.ofInt x).toUInt32 >>> ((Int32.ofInt 30).toUInt32 &&& Int32.toUInt32 31)).toNat = 0 := by
        have : ((Int32.ofInt x).toUInt32 >>> ((Int32.ofInt 30).toUInt32 &&& Int32.toUInt32 31)).toInt32.toUInt32 = (0 : Int32).toUInt32 := by rw [e1]
        rw [UInt32.toUInt32_toInt32] at this
        rw [this]
        rfl
      rw [UInt32.toNat_shiftRight, i32_nat h (by omega), show (((Int32.ofInt 30).toUInt32 &&& Int32.toUInt32 31).toNat % 32) = 30 by decide, Nat.shiftRight_eq_div_pow] at e2
      unfold in32 at h
      omega
    · intro z; omega
section PCALLSC
variable {g : PG} {d : Nat} {Q : Int → PS → Prop} {t : TS} {fk fp ln : Int} {f : Int → Int} {im : Option TS} {σ : PS}
theorem a_faultC {x : Int} (h : ClsB t fk fp ln f im σ) (w : ∀ σ', eqc σ σ' → ClsB t fk fp ln f im σ' → Q (faultA fk fp x) σ') : XX g true (d + 40) P_X11_fault 0 [(2, 0), (0, x)] [] 136 σ 136 Q := by
  have e := w σ eqc.rf h
  unfold faultA at e
  refine B_X11_fault_0 ⟨fun z => ⟨fun z1 => ?_, fun z1 => ?_⟩, fun z => ?_⟩
  · rw [if_neg z, if_neg z1] at e; exact e
  · rw [if_neg z, if_pos z1] at e; rw [h.2.1.2]; exact e
  · rw [if_pos z] at e; rw [h.2.1.1]; exact e
theorem a_endC {n : Int} (h : ClsB t fk fp ln f im σ) (w : ∀ σ', eqc σ σ' → ClsB t fk fp (endN ln n) f im σ' → Q (endA ln n) σ') : XX g true (d + 40) P_X11_end 0 [(2, 0), (0, n)] [] 136 σ 136 Q := by
  unfold endN endA at w
  refine B_X11_end_0 ?_
  rw [h.2.2.1.1]
  refine ⟨fun z => ?_, fun z => ⟨fun z1 => ?_, fun z1 => ?_⟩⟩
  · rw [if_neg (by omega), if_neg (by omega)] at w
    exact w σ eqc.rf h
  · rw [if_pos ⟨z, z1⟩, if_pos ⟨z, z1⟩] at w
    obtain ⟨a1, a2, a3, a4, a5⟩ := h
    have hx : eqx [1] σ (su σ 1 4 n) := eqx.rf.su (by decide)
    refine w _ (hx.c fun a ha q => by simp only [List.mem_singleton] at q; omega) ⟨a1.x hx (fun a _ _ q => by simp only [List.mem_singleton] at q; omega) (fun a _ _ q => by simp only [List.mem_singleton] at q; omega), ⟨?_, ?_⟩, ⟨su_eq, fun i i0 i1 => ?_⟩, a4.x hx (by decide) (by decide), a5.x hx (by decide) (fun a _ _ q => by simp only [List.mem_singleton] at q; omega) (fun a _ _ q => by simp only [List.mem_singleton] at q; omega)⟩
    · rw [su_ne (Or.inl (by decide))]; exact a2.1
    · rw [su_ne (Or.inl (by decide))]; exact a2.2
    · rw [su_ne (Or.inl (by decide))]; exact a3.2 i i0 (by omega)
  · rw [if_neg (by omega), if_neg (by omega)] at w
    exact w σ eqc.rf h
theorem a_lookC {x : Int} (h : ClsB t fk fp ln f im σ) (ok : OkT t) (hx : in32 x) (w : ∀ σ', eqc σ σ' → ClsB t fk fp ln f im σ' → Q (lookA t x) σ') : XX g true (d + 40) P_X11_look 0 [(2, 0), (0, x)] [] 136 σ 136 Q := by
  have e := w σ eqc.rf h
  clear w
  unfold lookA at e
  obtain ⟨c0, c1, c2, c3, c4, c5, c6, c7⟩ := h.1.1.1
  have k1 := ok.1.1
  refine B_X11_look_0 ⟨fun z => ?_, fun z => ?_, fun z => ?_, fun z => ?_, fun z => ?_, fun z => ?_, fun z => ?_, fun z => ?_, fun z => ?_, fun z => ?_⟩
  · rw [if_pos z] at e; rw [c0]; exact e
  · rw [if_neg (by omega), if_pos z] at e; rw [c2]; exact e
  · rw [if_neg (by omega), if_neg (by omega), if_pos z] at e; rw [c3]; exact e
  · rw [if_neg (by omega), if_neg (by omega), if_neg (by omega), if_pos z] at e; rw [c4]; exact e
  · rw [if_neg (by omega), if_neg (by omega), if_neg (by omega), if_neg (by omega), if_pos z] at e; rw [c5]; exact e
  · rw [if_neg (by omega), if_neg (by omega), if_neg (by omega), if_neg (by omega), if_neg (by omega), if_pos z] at e
    obtain ⟨N, eN, hN, hb⟩ := h.1.1.2.2.1
    have hN2 : N < 2 ^ (t.1 0 0).toNat := goneN hN hb fun p p0 p1 => ok.1.2.2.2.1 p (by omega) p1
    rw [gonS_met (N := N) (by omega) hb, metN_pc, Nat.mod_eq_of_lt hN2] at e
    rw [eN]
    exact s_bitCountL hN e
  · rw [if_neg (by omega), if_neg (by omega), if_neg (by omega), if_neg (by omega), if_neg (by omega), if_neg (by omega), if_pos z] at e
    refine s_breaksC (Or.inl rfl) h.1.1 ok.1 (by unfold BrkAt; omega) h.1.2.2.2.2 (fun hf => ⟨fun q => absurd q (by decide), fun _ => ?_⟩) fun hf => ⟨fun _ => ?_, fun q => absurd rfl q⟩
    · unfold failS at hf
      rw [if_pos hf] at e; exact e
    · unfold failS at hf
      rw [if_neg hf] at e; exact e
  · rw [if_neg (by omega), if_neg (by omega), if_neg (by omega), if_neg (by omega), if_neg (by omega), if_neg (by omega), if_neg (by omega), if_pos z] at e; rw [c6]; exact e
  · rw [if_neg (by omega), if_neg (by omega), if_neg (by omega), if_neg (by omega), if_neg (by omega), if_neg (by omega), if_neg (by omega), if_neg (by omega), if_pos z] at e; rw [c7]; exact e
  · unfold in32 at hx
    rw [if_neg (by omega), if_neg (by omega), if_neg (by omega), if_neg (by omega), if_neg (by omega), if_neg (by omega), if_neg (by omega), if_neg (by omega), if_neg (by omega)] at e
    refine ⟨fun z1 => ?_, fun z1 => ?_⟩
    · rw [if_neg (by omega)] at e; exact e
    · rw [w32_of (by omega) (by omega)]
      refine ⟨fun z2 => ⟨by omega, ?_⟩, fun z2 => ?_⟩
      · rw [if_pos (by omega)] at e
        have e50 : σ 50 (x - 9) = t.1 9 (x - 9) := h.1.1.2.2.2.2.2 (x - 9) (by omega) (by omega)
        rw [e50]
        exact e
      · rw [if_neg (by omega)] at e; exact e
theorem a_failsC {lo hi : Int} (h : ClsB t fk fp ln f im σ) (ok : OkT t) (hlo : in32 lo) (hhi : in32 hi) (w : ∀ σ', eqc σ σ' → ClsB t fk fp ln f im σ' → Q (failsA t lo hi) σ') : XX g true (d + 40) P_X11_fails 0 [(2, 0), (0, lo), (0, hi), (9, 0), (9, 0)] [] 136 σ 136 Q := by
  have e := w σ eqc.rf h
  clear w
  unfold failsA at e
  have k1 := ok.1.1
  have i1 := iushr30 hlo
  have i2 := iushr30 hhi
  refine B_X11_fails_0 ⟨fun z => ?_, fun z => ⟨fun z1 y1 e1 => ?_, fun z1 => ?_⟩⟩
  · rw [if_neg (fun q => z (i1.mpr q.1))] at e; exact e
  · have l := i1.mp z
    have u := i2.mp z1
    obtain ⟨a, rfl⟩ : ∃ a : Nat, lo = (a : Int) := ⟨lo.toNat, by omega⟩
    obtain ⟨b, rfl⟩ : ∃ b : Nat, hi = (b : Int) := ⟨hi.toNat, by omega⟩
    have ey : y1 = ((2 ^ 30 * b + a : Nat) : Int) := by
      have s1 := lshl_nat (a := b) (k := 30) (by decide) (by omega)
      rw [show ((30 : Nat) : Int) = 30 from rfl] at s1
      rw [e1, s1, lor_nat (by omega) (by omega), Nat.mul_comm, Nat.two_pow_add_eq_or_of_lt (by omega)]
    have hN : 2 ^ 30 * b + a < 2 ^ 60 := by omega
    obtain ⟨n, hn⟩ : ∃ n : Nat, t.1 0 0 = (n : Int) := ⟨(t.1 0 0).toNat, by omega⟩
    have hn60 : n ≤ 60 := by omega
    unfold bitsOk at e
    rw [hn] at e
    simp only [Int.toNat_natCast] at e
    rw [h.1.1.1.1, hn, ey, lushr_nat (by omega) (by omega)]
    refine ⟨fun z2 => ?_, fun z2 => ?_⟩
    · have hlt : 2 ^ 30 * b + a < 2 ^ n := by
        rcases Nat.lt_or_ge (2 ^ 30 * b + a) (2 ^ n) with q | q
        · exact q
        · have := Nat.div_pos q (Nat.two_pow_pos n); omega
      rw [if_pos ⟨l, u, hlt⟩] at e
      have hf := failsB_E (f := fun p => bitN (2 ^ 30 * b + a) p) (n := n) (E := fun k => σ (26 + 1) k) (E' := t.2.2.2.2) fun k hk => h.1.2.2.2.2 k hk
      refine s_breaksRow (by unfold BrkAt; omega) hN hn60 ?_
      by_cases c : failsB t.2.2.2.2 (fun p => bitN (2 ^ 30 * b + a) p) n
      · rw [if_pos c] at e
        rw [if_pos (hf.mpr c)]
        exact ⟨fun q => absurd q (by decide), fun _ => e⟩
      · rw [if_neg c] at e
        rw [if_neg (fun q => c (hf.mp q))]
        exact ⟨fun _ => e, fun q => absurd rfl q⟩
    · have hlt : ¬ 2 ^ 30 * b + a < 2 ^ n := fun q => z2 (by rw [Nat.div_eq_of_lt q]; rfl)
      rw [if_neg (fun q => hlt q.2.2)] at e
      exact e
  · rw [if_neg (fun q => z1 (i2.mpr q.2.1))] at e; exact e
theorem a_leftC {x : Int} (h : ClsB t fk fp ln f im σ) (ok : OkT t) (w : ∀ σ', eqc σ σ' → ClsB t fk fp ln f im σ' → Q (leftA t.2.1 t.2.2.2.2 t.1 x) σ') : XX g true (d + 40) P_X11_left 0 [(2, 0), (0, x)] [] 136 σ 136 Q := by
  have hS := h.2.2.2.1
  refine s_leftC h.1.1 ok.1 h.1.2.1 ok.2.2.1 h.1.2.2.2.2 hS.2.2.1 fun σ' hx hF => ?_
  have := scr_c h hx (by decide) ⟨hS.1.x hx (by decide), hS.2.1.x hx (by decide), hF, (hx 9 (by decide) 0).trans hS.2.2.2⟩
  exact w σ' this.1 this.2
theorem a_aheadC {wh x : Int} (h : ClsB t fk fp ln f im σ) (ok : OkT t) (w : ∀ σ', eqc σ σ' → ClsB t fk fp ln f im σ' → Q (aheadA t.2.1 t.2.2.2.2 t.1 wh x) σ') : XX g true (d + 40) P_X11_ahead 0 [(2, 0), (0, wh), (0, x)] [] 136 σ 136 Q := by
  have hS := h.2.2.2.1
  refine s_aheadC h.1.1 ok.1 h.1.2.1 ok.2.2.1 h.1.2.2.2.2 hS.2.2.1 fun σ' hx hF => ?_
  have := scr_c h hx (by decide) ⟨hS.1.x hx (by decide), hS.2.1.x hx (by decide), hF, (hx 9 (by decide) 0).trans hS.2.2.2⟩
  exact w σ' this.1 this.2
theorem a_whichC {k : Int} (h : ClsB t fk fp ln f im σ) (ok : OkT t) (w : ∀ σ', eqc σ σ' → ClsB t fk fp ln f im σ' → Q (whichA t.2.1 t.2.2.2.2 t.1 k) σ') : XX g true (d + 40) P_X11_which 0 [(2, 0), (0, k)] [] 136 σ 136 Q := by
  have hS := h.2.2.2.1
  refine s_whichC h.1.1 ok.1 h.1.2 ok.2.2.1 hS.1 hS.2.1 fun σ' hx hO hH => ?_
  have := scr_c h hx (by decide) ⟨hO, hH, hS.2.2.x hx (by decide)⟩
  exact w σ' this.1 this.2
theorem a_whereC {p : Int} (h : ClsB t fk fp ln f im σ) (ok : OkT t) (w : ∀ σ', eqc σ σ' → ClsB t fk fp ln f im σ' → Q (whereA t.2.1 t.2.2.2.2 t.1 p) σ') : XX g true (d + 40) P_X11_where 0 [(2, 0), (0, p)] [] 136 σ 136 Q := by
  have hS := h.2.2.2.1
  refine s_whereC h.1.1 ok.1 h.1.2 ok.2.2.1 hS.1 hS.2.1 fun σ' hx hO hH => ?_
  have := scr_c h hx (by decide) ⟨hO, hH, hS.2.2.x hx (by decide)⟩
  exact w σ' this.1 this.2
theorem a_stocksC {s wh : Int} (h : ClsB t fk fp ln f im σ) (ok : OkT t) (w : ∀ σ', eqc σ σ' → ClsB t fk fp ln f im σ' → Q (stocksA t.1 s wh) σ') : XX g true (d + 40) P_X11_stocks 0 [(2, 0), (0, s), (0, wh)] [] 136 σ 136 Q := s_stocksC h.1.1 ok.1 (w σ eqc.rf h)
theorem a_thoughtC {k v x wh : Int} (h : ClsB t fk fp ln f im σ) (ok : OkT t) (w : ∀ σ', eqc σ σ' → ClsB t fk fp ln f im σ' → Q (thoughtA t.2.1 t.2.2.1 t.2.2.2.1 t.2.2.2.2 t.1 k v x wh) σ') : XX g true (d + 40) P_X11_thought 0 [(2, 0), (0, k), (0, v), (0, x), (0, wh)] [] 136 σ 136 Q := by
  have hS := h.2.2.2.1
  refine s_thoughtC h.1.1 ok.1 ok.2.1 h.1.2 ok.2.2.1 ok.2.2.2.1 ok.2.2.2.2 fun σ' hx => ?_
  have := scr_c h hx (by decide) (hS.x hx (by decide) (by decide))
  exact w σ' this.1 this.2
theorem a_oftenC {x wh : Int} (h : ClsB t fk fp ln f im σ) (ok : OkT t) (w : ∀ σ', eqc σ σ' → ClsB t fk fp ln f im σ' → Q (oftenA t.2.1 t.2.2.1 t.2.2.2.1 t.2.2.2.2 t.1 x wh) σ') : XX g true (d + 40) P_X11_often 0 [(2, 0), (0, x), (0, wh)] [] 136 σ 136 Q := by
  have hS := h.2.2.2.1
  refine s_oftenC h.1.1 ok.1 ok.2.1 h.1.2 ok.2.2.1 ok.2.2.2.1 ok.2.2.2.2 fun σ' hx => ?_
  have := scr_c h hx (by decide) (hS.x hx (by decide) (by decide))
  exact w σ' this.1 this.2
theorem a_nineC {m : Int} (h : ClsB t fk fp ln f im σ) (ok : OkT t) (w : ∀ σ', eqc σ σ' → ClsB t fk fp ln f im σ' → Q (nineA t.2.1 t.2.2.2.2 t.1 m) σ') : XX g true (d + 40) P_X11_nine 0 [(2, 0), (0, m), (9, 0), (9, 0), (9, 0), (9, 0), (9, 0)] [] 136 σ 136 Q := by
  have hS := h.2.2.2.1
  refine s_nineC h.1.1 ok.1 h.1.2 ok.2.2.1 hS.1 hS.2.1 fun σ' hx hO hH => ?_
  have := scr_c h hx (by decide) ⟨hO, hH, hS.2.2.x hx (by decide)⟩
  exact w σ' this.1 this.2
theorem OkT.n {T : PS} {okn : Int → Bool} (h : TxtOK okn T) : (0 ≤ T 0 0 ∧ T 0 0 ≤ 16) ∧ 0 ≤ T 0 1 ∧ T 0 1 ≤ 500 := ⟨h.n0, h.n1⟩
theorem a_imageC {b : Int} (h : ClsB t fk fp ln f im σ) (ok : OkT t) (oki : ∀ u, im = some u → OkT u) (w : ∀ σ', eqc σ σ' → ClsB (imgN t im b) fk fp ln f (imgI t im b) σ' → Q (imgA im b) σ') : XX g true (d + 40) P_X11_image 0 [(2, 0), (0, b)] [] 136 σ 136 Q := by
  have hS := h.2.2.2.1
  unfold imgN imgI imgA at w
  refine B_X11_image_0 ⟨fun z => ?_, fun z => ?_⟩
  · rw [if_pos z, if_pos z, if_pos z] at w
    cases him : im with
    | none =>
      subst him
      have e : σ 0 12 = 0 := h.2.2.2.2
      refine ⟨fun _ => ⟨Or.inl e, ?_⟩, fun q => absurd e q⟩
      rw [e]
      exact w σ eqc.rf h
    | some u =>
      subst him
      obtain ⟨e, hR, hA⟩ := h.2.2.2.2
      have oku := oki u rfl
      refine ⟨fun q => by omega, fun _ => ?_⟩
      refine s_copy43_51 hR fun σ1 hx1 hR1 => ?_
      have hA1 : TxtA 28 u.2.1 u.2.2.1 u.2.2.2.1 u.2.2.2.2 σ1 := hA.x hx1 fun a a1 a2 q => by have := mem_rowL.mp q; omega
      refine s_textsCopy (by unfold TxtAt; omega) (by unfold TxtAt; omega) (by decide) hA1 (OkT.n oku.2.2.1) (OkT.n oku.2.2.2.1) (OkT.n oku.2.2.2.2) fun σ2 hx2 hA2 => ?_
      have hx12 : eqx (rowL 43 ++ txtL 13) σ σ2 := (hx1.mono fun a ha => List.mem_append_left _ ha).tr (hx2.mono fun a ha => List.mem_append_right _ ha)
      have out : ∀ a, (a < 14 ∨ (27 < a ∧ a < 43) ∨ 50 < a) → a ∉ rowL 43 ++ txtL 13 := fun a ha q => by
        rcases List.mem_append.mp q with q | q
        · have := mem_rowL.mp q; omega
        · have := mem_txtL.mp q; omega
      have hR2 : RowC 43 u.1 σ2 := hR1.x hx2 fun a a1 a2 q => by have := mem_txtL.mp q; omega
      have e2 : σ2 0 12 = 1 := by rw [hx12 0 (out 0 (by omega))]; exact e
      have hI2 : ImC (some u) σ2 := h.2.2.2.2.x hx12 (out 0 (by omega)) (fun a a1 a2 => out a (by omega)) (fun a a1 a2 => out a (by omega))
      refine ⟨Or.inr e2, ?_⟩
      rw [e2]
      refine w σ2 (hx12.c fun a ha => out a (by omega)) ⟨⟨hR2, hA2⟩, ⟨?_, ?_⟩, ⟨?_, fun i i0 i1 => ?_⟩, hS.x hx12 (out 70 (by omega)) (out 76 (by omega)), hI2⟩
      · rw [hx12 0 (out 0 (by omega))]; exact h.2.1.1
      · rw [hx12 0 (out 0 (by omega))]; exact h.2.1.2
      · rw [hx12 1 (out 1 (by omega))]; exact h.2.2.1.1
      · rw [hx12 2 (out 2 (by omega))]; exact h.2.2.1.2 i i0 i1
  · rw [if_neg z, if_neg z, if_neg z] at w
    refine s_copy51_43 h.1.1 fun σ1 hx1 hR1 => ?_
    have hA1 : TxtA 13 t.2.1 t.2.2.1 t.2.2.2.1 t.2.2.2.2 σ1 := h.1.2.x hx1 fun a a1 a2 q => by have := mem_rowL.mp q; omega
    refine s_textsCopy (by unfold TxtAt; omega) (by unfold TxtAt; omega) (by decide) hA1 (OkT.n ok.2.2.1) (OkT.n ok.2.2.2.1) (OkT.n ok.2.2.2.2) fun σ2 hx2 hA2 => ?_
    have hx12 : eqx (rowL 51 ++ txtL 28) σ σ2 := (hx1.mono fun a ha => List.mem_append_left _ ha).tr (hx2.mono fun a ha => List.mem_append_right _ ha)
    have out0 : ∀ a, (a < 29 ∨ (42 < a ∧ a < 51) ∨ 58 < a) → a ∉ rowL 51 ++ txtL 28 := fun a ha q => by
      rcases List.mem_append.mp q with q | q
      · have := mem_rowL.mp q; omega
      · have := mem_txtL.mp q; omega
    have hx3 : eqx (0 :: (rowL 51 ++ txtL 28)) σ (su σ2 0 12 1) := (hx12.mono fun a ha => List.mem_cons_of_mem _ ha).su List.mem_cons_self
    have out : ∀ a, a ≠ 0 → (a < 29 ∨ (42 < a ∧ a < 51) ∨ 58 < a) → a ∉ 0 :: (rowL 51 ++ txtL 28) := fun a h0 ha q => by
      rcases List.mem_cons.mp q with q | q
      · exact h0 q
      · exact out0 a ha q
    have hy : eqx [0] σ2 (su σ2 0 12 1) := eqx.rf.su (by decide)
    have hR2 : RowC 51 t.1 σ2 := hR1.x hx2 fun a a1 a2 q => by have := mem_txtL.mp q; omega
    refine w (su σ2 0 12 1) (hx3.c fun a ha => out a (by omega) (by omega)) ⟨h.1.x hx3 (fun a a1 a2 => out a (by omega) (by omega)) (fun a a1 a2 => out a (by omega) (by omega)), ⟨?_, ?_⟩, ⟨?_, fun i i0 i1 => ?_⟩, hS.x hx3 (out 70 (by decide) (by omega)) (out 76 (by decide) (by omega)), su_eq, hR2.x hy (fun a a1 a2 q => by simp only [List.mem_singleton] at q; omega), hA2.x hy (fun a a1 a2 q => by simp only [List.mem_singleton] at q; omega)⟩
    · rw [su_ne (Or.inr (by decide)), hx12 0 (out0 0 (by omega))]; exact h.2.1.1
    · rw [su_ne (Or.inr (by decide)), hx12 0 (out0 0 (by omega))]; exact h.2.1.2
    · rw [hx3 1 (out 1 (by decide) (by omega))]; exact h.2.2.1.1
    · rw [hx3 2 (out 2 (by decide) (by omega))]; exact h.2.2.1.2 i i0 i1
end PCALLSC
