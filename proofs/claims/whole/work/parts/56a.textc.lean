/-! TEXT: what it answers and leaves; the class -/
def lwOf (k : Int) : Bool := decide (k = 0)
def setTx (t : TS) (k : Int) (T : PS) : TS := if k = 0 then (t.1, T, t.2.2) else if k = 1 then (t.1, t.2.1, T, t.2.2.2) else (t.1, t.2.1, t.2.2.1, T, t.2.2.2.2)
def setBr (t : TS) (E : Int → Int) : TS := (t.1, t.2.1, t.2.2.1, t.2.2.2.1, E)
def textT (t : TS) (f : Int → Int) (ln k : Int) : TS := if k = 3 then (if (pFails f ln).1 = 0 then setBr t (brkE (pFails f ln).2.2) else t) else if 0 ≤ k ∧ k ≤ 3 then (if (pText (lwOf k) f ln).1 = 0 then setTx t k (txtT (pText (lwOf k) f ln).2.2.1 (pText (lwOf k) f ln).2.2.2) else t) else t
def textA (f : Int → Int) (ln k : Int) : Int := if k = 3 then (if (pFails f ln).1 = 0 then ((pFails f ln).2.2.length : Int) else -1) else if 0 ≤ k ∧ k ≤ 3 then (if (pText (lwOf k) f ln).1 = 0 then ((pText (lwOf k) f ln).2.2.2.length : Int) else -1) else -1
def textK (f : Int → Int) (ln k : Int) : Int := if k = 3 then (pFails f ln).1 else if 0 ≤ k ∧ k ≤ 3 then (pText (lwOf k) f ln).1 else 0
def textP (f : Int → Int) (ln k : Int) : Int := if k = 3 then (if (pFails f ln).1 = 0 then -1 else stP f ln (pFails f ln).2.1) else if 0 ≤ k ∧ k ≤ 3 then (if (pText (lwOf k) f ln).1 = 0 then -1 else stP f ln (pText (lwOf k) f ln).2.1) else -1
theorem num_ok {f : Int → Int} {ln : Int} (hl : 0 ≤ ln) : NumOk (kdP f ln) (nmP f ln) := by
  intro i h
  have hb := stP_bd (f := f) hl i
  unfold kdP at h
  by_cases z : stP f ln i < ln
  · rw [if_pos z] at h
    have hv : nmP f ln i = tkV f ln (stP f ln i) := by unfold nmP; rw [if_pos z]
    rw [hv]
    generalize stP f ln i = x at *
    have hv1 : tkV f ln x = valN f (tkE f ln x - x).toNat x 0 := by unfold tkV; rw [if_pos h]
    rw [hv1]
    have he := tkE_bd (f := f) z
    have hl2 : isLt (f x) ≠ true := fun q2 => by
      unfold tkK at h
      rw [if_pos q2] at h
      unfold tkW at h
      rcases wrd_rel (wbL f x (tkE f ln x)) with z5 | z5
      · rw [if_pos z5.2] at h; exact absurd h (by decide)
      · have hw := wmap_in (fiW (wbL f x (tkE f ln x)) mwL 0).toNat (by omega)
        rw [show (((fiW (wbL f x (tkE f ln x)) mwL 0).toNat : Nat) : Int) = fiW (wbL f x (tkE f ln x)) mwL 0 by omega, ← z5.2.2] at hw
        split at h <;> omega
    have hd2 : isDg (f x) = true := Classical.byContradiction fun q2 => by
      unfold tkK at h
      rw [if_neg hl2, if_neg q2] at h
      split at h
      · rename_i q3
        have := isSy_iff.mp q3
        omega
      · exact absurd h (by decide)
    have h4 : tkE f ln x - x ≤ 4 := Classical.byContradiction fun q2 => by
      unfold tkK at h
      rw [if_neg hl2, if_pos hd2, if_neg q2] at h
      exact absurd h (by decide)
    have hdig : ∀ y, x ≤ y → y < x + ((tkE f ln x - x).toNat : Int) → 48 ≤ f y ∧ f y ≤ 57 := fun y y0 y1 => by
      by_cases e : y = x
      · rw [e]; exact isDg_iff.mp hd2
      · have e1 : tkE f ln x = rnB isDg f ln (x + 1) := by unfold tkE; rw [if_neg hl2, if_pos hd2]
        have y2 : y < rnB isDg f ln (x + 1) := by rw [← e1]; omega
        exact isDg_iff.mp ((rnB_in (p := isDg) (f := f) _ (x + 1) rfl (by omega)).2.2.2 y (by omega) y2)
    have hbd := valN_bd (f := f) (n := (tkE f ln x - x).toNat) (x := x) (v := 0) (B := 1) hdig (by decide) (by decide)
    rw [Int.one_mul] at hbd
    have p4 : (10 : Int) ^ (tkE f ln x - x).toNat ≤ 10000 := by
      rcases (show (tkE f ln x - x).toNat = 1 ∨ (tkE f ln x - x).toNat = 2 ∨ (tkE f ln x - x).toNat = 3 ∨ (tkE f ln x - x).toNat = 4 by omega) with q3 | q3 | q3 | q3 <;> rw [q3] <;> decide
    omega
  · rw [if_neg z] at h
    exact absurd h (by decide)
theorem st_500 {f : Int → Int} {ln : Int} (hl : 0 ≤ ln ∧ ln ≤ 500) : stP f ln 500 = ln := by
  have h1 := stP_up (f := f) hl.1 500
  have h2 := (stP_bd (f := f) hl.1 500).2
  omega
theorem kend_500 {f : Int → Int} {ln : Int} (hl : 0 ≤ ln ∧ ln ≤ 500) : KEnd 500 (kdP f ln) := fun c hc hk => by
  rcases Nat.lt_or_eq_of_le hc with z | z
  · exact z
  · rw [z] at hk
    have := st_500 (f := f) hl
    unfold kdP at hk
    rw [if_neg (by omega)] at hk
    exact absurd rfl hk
theorem pText_ok {f : Int → Int} {ln : Int} {lw : Bool} (hl : 0 ≤ ln ∧ ln ≤ 500) (e : (pText lw f ln).1 = 0) : TxtOK (oknW lw) (txtT (pText lw f ln).2.2.1 (pText lw f ln).2.2.2) :=
  (lines_ok (kend_500 hl) (num_ok hl.1) (by decide) 17 0 [] [] (by decide) (by decide) txt_nil e).1
theorem pFails_ok {f : Int → Int} {ln : Int} (hl : 0 ≤ ln ∧ ln ≤ 500) (e : (pFails f ln).1 = 0) : BrkS (pFails f ln).2.2 :=
  brks_ok (kend_500 hl) 9 0 [] (by decide) brkS_nil e
theorem textT_ok {t : TS} {f : Int → Int} {ln k : Int} (hl : 0 ≤ ln ∧ ln ≤ 500) (ok : OkT t) : OkT (textT t f ln k) := by
  obtain ⟨a1, a2, a3, a4, a5⟩ := ok
  unfold textT
  split
  · split
    · exact ⟨a1, a2, a3, a4, a5⟩
    · exact ⟨a1, a2, a3, a4, a5⟩
  split
  · split
    · rename_i e
      have h := pText_ok hl e
      unfold setTx
      split
      · rename_i k0
        have e2 : oknW (lwOf k) = oknL := by unfold lwOf; rw [decide_eq_true k0]; rfl
        rw [e2] at h
        exact ⟨a1, a2, h, a4, a5⟩
      · rename_i k0
        have e2 : oknW (lwOf k) = oknR := by unfold lwOf; rw [decide_eq_false k0]; rfl
        rw [e2] at h
        split
        · exact ⟨a1, a2, a3, h, a5⟩
        · exact ⟨a1, a2, a3, a4, h⟩
    · exact ⟨a1, a2, a3, a4, a5⟩
  · exact ⟨a1, a2, a3, a4, a5⟩
section PTEXTC
variable {g : PG} {d : Nat} {Q : Int → PS → Prop} {t : TS} {fk fp ln : Int} {f : Int → Int} {im : Option TS} {σ : PS}
/-- a call of text(): fault and tape are told anew -/
theorem ClsB.txt {σ1 σ2 : PS} {t' : TS} {fk' fp' : Int} {L : List Int} (h : ClsB t fk fp ln f im σ) (hx : eqx L σ σ1) (hL : ∀ a, ((0 ≤ a ∧ a ≤ 0) ∨ (28 ≤ a ∧ a ≤ 42) ∨ (51 ≤ a ∧ a ≤ 58) ∨ a = 70 ∨ a = 76) → a ∉ L) (h9 : σ1 9 0 = 0) (hT : ClsT 43 13 t' σ1) (e : σ2 = su (su (su σ1 0 13 fk') 0 14 fp') 1 4 0) : ClsB t' fk' fp' 0 f im σ2 := by
  obtain ⟨a1, a2, a3, ⟨b1, b2, b3, b4⟩, a5⟩ := h
  have hy : eqx [0, 1] σ1 σ2 := by rw [e]; exact ((eqx.rf.su (by decide)).su (by decide)).su (by decide)
  have h12 : σ2 0 12 = σ 0 12 := by rw [e, su_ne (Or.inl (by decide)), su_ne (Or.inr (by decide)), su_ne (Or.inr (by decide)), hx 0 (hL 0 (by omega))]
  have o : ∀ a, (a < 0 ∨ 1 < a) → a ∉ ([0, 1] : List Int) := fun a ha z => by simp only [List.mem_cons, List.not_mem_nil, or_false] at z; omega
  refine ⟨hT.x hy (fun a c1 c2 => o a (by omega)) (fun a c1 c2 => o a (by omega)), ⟨?_, ?_⟩, ⟨?_, fun i i0 i1 => by omega⟩, ⟨(b1.x hx (hL 70 (by omega))).x hy (by decide), (b2.x hx (hL 70 (by omega))).x hy (by decide), (b3.x hx (hL 76 (by omega))).x hy (by decide), ?_⟩, ?_⟩
  · rw [e, su_ne (Or.inl (by decide)), su_ne (Or.inr (by decide)), su_eq]
  · rw [e, su_ne (Or.inl (by decide)), su_eq]
  · rw [e, su_eq]
  · rw [hy 9 (by decide)]; exact h9
  · cases im with
    | none => exact h12.trans a5
    | some u => exact ⟨h12.trans a5.1, (a5.2.x hx (fun a c1 c2 => hL a (by omega)) (fun a c1 c2 => hL a (by omega))).x hy (fun a c1 c2 => o a (by omega)) (fun a c1 c2 => o a (by omega))⟩
theorem s_keepLines {k : Int} {T : PS} (hk : 0 ≤ k ∧ k ≤ 2) (hT : TxtC 7 T σ) (hn : (0 ≤ T 0 0 ∧ T 0 0 ≤ 16) ∧ 0 ≤ T 0 1 ∧ T 0 1 ≤ 500) (w : ∀ (q : Int) (σ' : PS), q = (if k = 0 then 14 else if k = 1 then 18 else 22) → eqx [q, q + 1, q + 2, q + 3] σ σ' → TxtC q T σ' → Q 0 σ') : XX g true (d + 3) P_X11_keepRead 0 [(2, 0), (0, k)] [] 136 σ 136 Q := by
  refine B_X11_keepRead_0 ⟨fun _ => ?_, fun z => by omega⟩
  refine B_X9_lines_0 (by unfold TxtAt; omega) ⟨fun z => ⟨fun z1 => ⟨by unfold LinAt; omega, ?_⟩, fun z1 => ⟨by unfold LinAt; omega, ?_⟩⟩, fun z => ⟨by unfold LinAt; omega, ?_⟩⟩
  · exact s_linesCopy (by unfold LinAt; omega) (by unfold LinAt; omega) (by decide) hT hn.1 hn.2 fun σ' hx hT' => w 22 σ' (by rw [if_neg z, if_neg z1]) hx hT'
  · exact s_linesCopy (by unfold LinAt; omega) (by unfold LinAt; omega) (by decide) hT hn.1 hn.2 fun σ' hx hT' => w 18 σ' (by rw [if_neg z, if_pos z1]) hx hT'
  · exact s_linesCopy (by unfold LinAt; omega) (by unfold LinAt; omega) (by decide) hT hn.1 hn.2 fun σ' hx hT' => w 14 σ' (by rw [if_pos z]) hx hT'
theorem a_textC {k : Int} (h : ClsB t fk fp ln f im σ) (hl : 0 ≤ ln ∧ ln ≤ 500) (hb : ∀ i, 0 ≤ i → i < ln → 0 ≤ f i ∧ f i ≤ 255) (w : ∀ σ', eqc σ σ' → ClsB (textT t f ln k) (textK f ln k) (textP f ln k) 0 f im σ' → Q (textA f ln k) σ') : XX g true (d + 40) P_X11_text 0 [(2, 0), (0, k), (9, 0)] [] 136 σ 136 Q := by
  have hx0 : eqx [0] σ (su (su σ 0 13 0) 0 14 (-1)) := (eqx.rf.su (by decide)).su (by decide)
  have o0 : ∀ a, a ≠ 0 → a ∉ ([0] : List Int) := fun a ha z => ha (List.mem_singleton.mp z)
  have f12 : su (su σ 0 13 0) 0 14 (-1) 0 12 = σ 0 12 := by rw [su_ne (Or.inr (by decide)), su_ne (Or.inr (by decide))]
  have h0 : ClsB t 0 (-1) ln f im (su (su σ 0 13 0) 0 14 (-1)) := by
    obtain ⟨a1, a2, a3, a4, a5⟩ := h
    refine ⟨a1.x hx0 (fun a c1 c2 => o0 a (by omega)) (fun a c1 c2 => o0 a (by omega)), ⟨by rw [su_ne (Or.inr (by decide)), su_eq], su_eq⟩, ⟨by rw [hx0 1 (by decide)]; exact a3.1, fun i i0 i1 => by rw [hx0 2 (by decide)]; exact a3.2 i i0 i1⟩, a4.x hx0 (by decide) (by decide), ?_⟩
    cases im with
    | none => exact f12.trans a5
    | some u => exact ⟨f12.trans a5.1, a5.2.x hx0 (fun a c1 c2 => o0 a (by omega)) (fun a c1 c2 => o0 a (by omega))⟩
  have hc0 : eqc σ (su (su σ 0 13 0) 0 14 (-1)) := hx0.c fun a ha => o0 a (by omega)
  have none_ : ¬ (0 ≤ k ∧ k ≤ 3) → Q (-1) (su (su (su σ 0 13 0) 0 14 (-1)) 1 4 0) := fun z => by
    unfold textT textA textK textP at w
    have n3 : ¬ k = 3 := by omega
    simp only [if_neg n3, if_neg z] at w
    refine w _ (hc0.su (by decide)) (h.txt (σ1 := σ) eqx.rf (L := []) (fun a _ q => by simp at q) h.2.2.2.1.2.2.2 h.1 rfl)
  refine B_X11_text_0 ?_
  generalize hσ0 : su (su σ 0 13 0) 0 14 (-1) = σ0 at *
  have h9 : σ0 9 0 = 0 := h0.2.2.2.1.2.2.2
  have outl : ∀ a, (a = 0 ∨ 13 ≤ a) → a ∉ ([1, 3, 4, 5, 6, 7, 8, 9, 10] : List Int) := fun a ha z => by simp only [List.mem_cons, List.not_mem_nil, or_false] at z; omega
  have outb : ∀ a, (a = 0 ∨ 7 ≤ a) → a ≠ 12 → a ∉ ([1, 3, 4, 5, 6, 12] : List Int) := fun a ha hb z => by simp only [List.mem_cons, List.not_mem_nil, or_false] at z; omega
  -- a rule or the law
  have lines : ∀ lw : Bool, (0 ≤ k ∧ k ≤ 2) → lwOf k = lw → XX g true (d + 39) P_X6_readLines 0 [(2, 6), (0, lwI lw), (9, 0)] [] 136 σ0 136 (fun r2 σ1 => ((r2 = (-1) → Q r2 (su (su (su σ1 0 13 (σ1 6 3)) 0 14 (σ1 6 4)) 1 4 0)) ∧ (r2 ≠ (-1) → XX g true (d + 39) P_X11_keepRead 0 [(2, 0), (0, k)] [] 136 (su (su σ1 0 13 (σ1 6 3)) 0 14 (σ1 6 4)) 136 (fun _ σ3 => Q r2 (su σ3 1 4 0))))) := by
    intro lw hk hlw
    unfold textT textA textK textP at w
    have n3 : ¬ k = 3 := by omega
    have p3 : 0 ≤ k ∧ k ≤ 3 := by omega
    simp only [if_neg n3, if_pos p3, hlw] at w
    refine s_readLinesC h0.2.2.1 hb hl h9 (fun e σ1 hx1 g9 g3 g4 hT1 => ⟨fun q => by omega, fun _ => ?_⟩) fun e σ1 hx1 g9 g3 g4 => ⟨fun _ => ?_, fun q => absurd rfl q⟩
    · simp only [if_pos e] at w
      rw [e] at w
      rw [g3, g4]
      have hy1 : eqx [0, 1, 3, 4, 5, 6, 7, 8, 9, 10] σ0 (su (su σ1 0 13 0) 0 14 (-1)) := ((hx1.mono (by decide)).su (by decide)).su (by decide)
      have ok := pText_ok (lw := lw) hl e
      have hT1' : TxtC 7 (txtT (pText lw f ln).2.2.1 (pText lw f ln).2.2.2) (su (su σ1 0 13 0) 0 14 (-1)) := hT1.same fun a a1 a2 j => by rw [su_ne (Or.inl (by omega)), su_ne (Or.inl (by omega))]
      refine s_keepLines hk hT1' (OkT.n ok) fun q σ3 hq hx3 hT3 => ?_
      have hq2 : (k = 0 ∧ q = 14) ∨ (k = 1 ∧ q = 18) ∨ (k = 2 ∧ q = 22) := by
        rw [hq]
        by_cases k0 : k = 0
        · rw [if_pos k0]; omega
        · rw [if_neg k0]
          by_cases k1 : k = 1
          · rw [if_pos k1]; omega
          · rw [if_neg k1]; omega
      -- the store but for fault and tape
      have hx4 : eqx [1, 3, 4, 5, 6, 7, 8, 9, 10, q, q + 1, q + 2, q + 3] σ0 (su (su σ3 0 13 (σ0 0 13)) 0 14 (σ0 0 14)) := fun a ha j => by
        simp only [List.mem_cons, List.not_mem_nil, or_false] at ha
        by_cases a0 : a = 0
        · subst a0
          by_cases j14 : j = 14
          · rw [j14, su_eq]
          · rw [su_ne (Or.inr j14)]
            by_cases j13 : j = 13
            · rw [j13, su_eq]
            · rw [su_ne (Or.inr j13), hx3 0 (by simp only [List.mem_cons, List.not_mem_nil, or_false]; omega), su_ne (Or.inr j14), su_ne (Or.inr j13), hx1 0 (by decide)]
        · rw [su_ne (Or.inl a0), su_ne (Or.inl a0), hx3 a (by simp only [List.mem_cons, List.not_mem_nil, or_false]; omega), su_ne (Or.inl a0), su_ne (Or.inl a0), hx1 a (by simp only [List.mem_cons, List.not_mem_nil, or_false]; omega)]
      have e13 : σ3 0 13 = 0 := by rw [hx3 0 (by simp only [List.mem_cons, List.not_mem_nil, or_false]; omega), su_ne (Or.inr (by decide)), su_eq]
      have e14 : σ3 0 14 = -1 := by rw [hx3 0 (by simp only [List.mem_cons, List.not_mem_nil, or_false]; omega), su_eq]
      have s13 : σ0 0 13 = 0 := h0.2.1.1
      have s14 : σ0 0 14 = -1 := h0.2.1.2
      have es : su (su σ3 0 13 (σ0 0 13)) 0 14 (σ0 0 14) = σ3 := by
        rw [s13, s14, su_id (σ := σ3) e13, su_id e14]
      rw [es] at hx4
      have out : ∀ a, (a = 0 ∨ a = 2 ∨ a = 11 ∨ a = 12 ∨ a = 13 ∨ (14 ≤ a ∧ (a < q ∨ q + 3 < a))) → a ∉ ([1, 3, 4, 5, 6, 7, 8, 9, 10, q, q + 1, q + 2, q + 3] : List Int) := fun a ha z => by simp only [List.mem_cons, List.not_mem_nil, or_false] at z; omega
      have hR3 : RowC 43 t.1 σ3 := h0.1.1.x hx4 fun a a1 a2 => out a (by omega)
      have hE3 : EnC 26 t.2.2.2.2 σ3 := h0.1.2.2.2.2.x hx4 (out 27 (by omega))
      have cT : ∀ {q' : Int} {T : PS}, (14 ≤ q' ∧ (q' + 3 < q ∨ q + 3 < q')) → TxtC q' T σ0 → TxtC q' T σ3 := fun hq' hT => hT.same fun a a1 a2 j => hx4 a (out a (by omega)) j
      have h93 : σ3 9 0 = 0 := by
        rw [hx3 9 (by simp only [List.mem_cons, List.not_mem_nil, or_false]; omega), su_ne (Or.inl (by decide)), su_ne (Or.inl (by decide))]; exact g9
      have hfin : ClsT 43 13 (setTx t k (txtT (pText lw f ln).2.2.1 (pText lw f ln).2.2.2)) σ3 := by
        unfold setTx
        rcases hq2 with ⟨rfl, rfl⟩ | ⟨rfl, rfl⟩ | ⟨rfl, rfl⟩
        · exact ⟨hR3, hT3, cT (by omega) h0.1.2.2.1, cT (by omega) h0.1.2.2.2.1, hE3⟩
        · exact ⟨hR3, cT (by omega) h0.1.2.1, hT3, cT (by omega) h0.1.2.2.2.1, hE3⟩
        · exact ⟨hR3, cT (by omega) h0.1.2.1, cT (by omega) h0.1.2.2.1, hT3, hE3⟩
      have ee : su σ3 1 4 0 = su (su (su σ3 0 13 0) 0 14 (-1)) 1 4 0 := by rw [su_id (σ := σ3) e13, su_id e14]
      refine w _ ((hc0.tr (hx4.c fun a ha => out a (by omega))).su (by decide)) (h0.txt hx4 (fun a ha => out a (by omega)) h93 hfin ee)
    · simp only [if_neg e] at w
      rw [g3, g4]
      have hT1 : ClsT 43 13 t σ1 := h0.1.x hx1 (fun a a1 a2 => outl a (by omega)) (fun a a1 a2 => outl a (by omega))
      exact w _ ((((hc0.tr (hx1.c fun a ha => outl a (by omega))).su (by decide)).su (by decide)).su (by decide)) (h0.txt hx1 (fun a ha => outl a (by omega)) g9 hT1 rfl)
  refine ⟨fun z => none_ (by omega), fun z => ⟨fun z1 => none_ (by omega), fun z1 => ⟨fun z2 => ⟨fun z3 => lines false ⟨z, by omega⟩ (decide_eq_false z3), fun z3 => lines true ⟨z, by omega⟩ (decide_eq_true z3)⟩, fun z2 => ?_⟩⟩⟩
  unfold textT textA textK textP at w
  simp only [if_pos z2] at w
  refine s_readBreaksC h0.2.2.1 hb hl (fun e σ1 hx1 g3 g4 hE1 => ⟨fun q => by omega, fun _ => ?_⟩) fun e σ1 hx1 g3 g4 => ⟨fun _ => ?_, fun q => absurd rfl q⟩
  · simp only [if_pos e] at w
    rw [e] at w
    rw [g3, g4]
    have hE1' : EnC 11 (brkE (pFails f ln).2.2) (su (su σ1 0 13 0) 0 14 (-1)) := fun k hk => by rw [su_ne (Or.inl (by decide)), su_ne (Or.inl (by decide))]; exact hE1 k hk
    refine B_X11_keepRead_0 ⟨fun q => absurd z2 q, fun _ => s_breaksCopy (by unfold BrkAt; omega) (by unfold BrkAt; omega) hE1' fun σ3 hx3 hE3 => ?_⟩
    have e13 : σ3 0 13 = 0 := by rw [hx3 0 (by decide), su_ne (Or.inr (by decide)), su_eq]
    have e14 : σ3 0 14 = -1 := by rw [hx3 0 (by decide), su_eq]
    have s13 : σ0 0 13 = 0 := h0.2.1.1
    have s14 : σ0 0 14 = -1 := h0.2.1.2
    have hx4 : eqx [1, 3, 4, 5, 6, 12, 27] σ0 σ3 := fun a ha j => by
      simp only [List.mem_cons, List.not_mem_nil, or_false] at ha
      rw [hx3 a (by simp only [List.mem_cons, List.not_mem_nil, or_false]; omega)]
      by_cases a0 : a = 0
      · subst a0
        by_cases j14 : j = 14
        · rw [j14, su_eq, s14]
        · rw [su_ne (Or.inr j14)]
          by_cases j13 : j = 13
          · rw [j13, su_eq, s13]
          · rw [su_ne (Or.inr j13), hx1 0 (by decide)]
      · rw [su_ne (Or.inl a0), su_ne (Or.inl a0), hx1 a (by simp only [List.mem_cons, List.not_mem_nil, or_false]; omega)]
    have out : ∀ a, (a = 0 ∨ (7 ≤ a ∧ a ≠ 12 ∧ a ≠ 27)) → a ∉ ([1, 3, 4, 5, 6, 12, 27] : List Int) := fun a ha z => by simp only [List.mem_cons, List.not_mem_nil, or_false] at z; omega
    have hR3 : RowC 43 t.1 σ3 := h0.1.1.x hx4 fun a a1 a2 => out a (by omega)
    have cT : ∀ {q' : Int} {T : PS}, (13 ≤ q' ∧ q' + 3 < 27) → TxtC q' T σ0 → TxtC q' T σ3 := fun hq' hT => hT.same fun a a1 a2 j => hx4 a (out a (by omega)) j
    have h93 : σ3 9 0 = 0 := by rw [hx4 9 (out 9 (by omega))]; exact h9
    have hfin : ClsT 43 13 (setBr t (brkE (pFails f ln).2.2)) σ3 := ⟨hR3, cT (by decide) h0.1.2.1, cT (by decide) h0.1.2.2.1, cT (by decide) h0.1.2.2.2.1, hE3⟩
    have ee : su σ3 1 4 0 = su (su (su σ3 0 13 0) 0 14 (-1)) 1 4 0 := by rw [su_id (σ := σ3) e13, su_id e14]
    refine w _ ((hc0.tr (hx4.c fun a ha => out a (by omega))).su (by decide)) (h0.txt hx4 (fun a ha => out a (by omega)) h93 hfin ee)
  · simp only [if_neg e] at w
    rw [g3, g4]
    have hT1 : ClsT 43 13 t σ1 := h0.1.x hx1 (fun a a1 a2 => outb a (by omega) (by omega)) (fun a a1 a2 => outb a (by omega) (by omega))
    have g9 : σ1 9 0 = 0 := by rw [hx1 9 (by decide)]; exact h9
    exact w _ ((((hc0.tr (hx1.c fun a ha => outb a (by omega) (by omega))).su (by decide)).su (by decide)).su (by decide)) (h0.txt hx1 (fun a ha => outb a (by omega) (by omega)) g9 hT1 rfl)
end PTEXTC
