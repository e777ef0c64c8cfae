/-! ROWS: arraycopy, the text constant -/
def cpS (σ : PS) (a0 sp a dp n : Int) : PS := fun a' j => if a' = a ∧ dp ≤ j ∧ j < dp + n then σ a0 (sp + (j - dp)) else σ a' j
section PREST
variable {g : PG} {b : Bool} {d : Nat} {M M' : PM} {pc : Nat} {ls st : List PV} {N N1 : Nat} {σ : PS} {N' : Nat} {Q : Int → PS → Prop} {a a0 sp dp n i : Int}
theorem heap_exact {p : Program} {l : Launch} {e : Env} {R : Room} {s : State} {m : MethodId} {args : Array Value} {below : List Frame} {meth : Method} {c : Code} {T : State} {locs : List Loc} {slots N0 : Nat} (X : Stand p l e R s m args below meth c T locs (N - N0) slots) (hs : s.heap.size = g.1 + N0) (hN : N0 ≤ N) (hP : va_P g.2.1 classes (pws g N σ) T.heap) (hle : s.heap.size ≤ T.heap.size) : T.heap.size = g.1 + N := by
  have h1 := X.heapSize
  by_cases h0 : N = 0
  · subst h0; omega
  · have h2 := (hP (N - 1) _ (pws_at (by omega))).lt
    simp only at h2
    omega
theorem E_copy {n0 n1 idx : Nat} (pc' : Nat) (hd : decode M.2.2.1 pc = .ok (.invokestatic idx, 3)) (hl : Cond.methodLink M.1 idx arraycopyName ∈ WS) (hnat : Cond.native arraycopyName ∈ WS) (hsta : Cond.static arraycopyName ∈ WS) (hini : Cond.initialized "java/lang/System" ∈ WS) (hA0 : Fat N a0 (20, n0)) (hA : Fat N a (20, n1)) (h1 : 0 ≤ sp ∧ 0 ≤ n ∧ sp + n ≤ n0) (h2 : 0 ≤ dp ∧ dp + n ≤ n1) (hw : wsum st ≤ 8) (hp : pc + 3 = pc') (k : XX g b (d + 1) M pc' ls st N (cpS σ a0 sp a dp n) N' Q) : XX g b (d + 1) M pc ls ((0, n) :: (0, dp) :: (2, a) :: (0, sp) :: (2, a0) :: st) N σ N' Q := by
  intro p l e R s m args below meth c H locs N0 rls Qf C hN hR hL ho hs hret
  subst hp
  obtain ⟨k0, rfl, p1, p2, p3⟩ := hA0.nat
  obtain ⟨k1, rfl, r1, r2, r3⟩ := hA.nat
  have hts := C.2.2.2.2.2.2.1
  have hn : in32 n := (okl_c hs).1.1 rfl
  have s2 := (okl_c hs).2
  have hdp : in32 dp := (okl_c s2).1.1 rfl
  have s3 := (okl_c (okl_c s2).2).2
  have hsp : in32 sp := (okl_c s3).1.1 rfl
  have s4 := (okl_c (okl_c s3).2).2
  have hK := C.2.2.2.2.2.2.2.2.2.2.2.2.1
  have hty := va_Kar hK 20 (by decide) (by decide)
  have at0 := pws_at (g := g) (σ := σ) p1
  have at1 := pws_at (g := g) (σ := σ) r1
  rw [ent_arI p3 (by decide) (by decide)] at at0
  rw [ent_arI r3 (by decide) (by decide)] at at1
  have en := ix_cl h1.2.1 hn
  have edp := ix_cl h2.1 hdp
  have esp := ix_cl h1.1 hsp
  have nn : ∀ {x : Int}, 0 ≤ x → in32 x → ¬ Int32.ofInt x < 0 := fun h0 hx => by rw [← zof, i32lt hx in32_0]; omega
  have hfr := C.2.2.2.2.2.2.2.2.1
  have hlo := C.2.2.2.2.2.2.2.2.2.1
  have e0 : tv g (2, ((k0 : Nat) : Int)) = .ref (g.1 + k0) := by rw [tv_ref g (by omega) (by omega), Int.toNat_natCast]
  have e1 : tv g (2, ((k1 : Nat) : Int)) = .ref (g.1 + k1) := by rw [tv_ref g (by omega) (by omega), Int.toNat_natCast]
  show W _ _ _ _ _ _ _ _ _ _ _ _ _ _ _ (F0 m pc rls (.int (Int32.ofInt n) :: .int (Int32.ofInt dp) :: tv g (2, ((k1 : Nat) : Int)) :: .int (Int32.ofInt sp) :: tv g (2, ((k0 : Nat) : Int)) :: st.map (tv g)))
  rw [e0, e1]
  refine va_copyi C.1 C.2.1 (C.2.2.1.trans hL.1.symm) C.2.2.2.2.2.1 (hts _ hl) (hts _ hnat) (hts _ hsta) (hts _ hini) hK hR.1 (pws_D g N σ) hR.2.2.2.2 k0 k1 _ _ at0 at1 hty hty rfl (nn h1.1 hsp) (nn h2.1 hdp) (nn h1.2.1 hn) (by rw [esp, en]; omega) (by rw [edp, en]; omega) (fun _ _ => rfl) (by omega) ?_ hd (fun H1 locs1 hP1 hD1 hS1 => ?_)
  · rw [wsum_eq]
    have : nativeFrameWords "java/lang/System" "arraycopy" 5 ≤ 20 := by decide +kernel
    omega
  · intro T hT X
    rw [edp, en, esp] at hP1
    have he : (pws g N σ).set k1 (g.1 + k1, .inl (g.2.2.1 20, n1, .inl (va_cpy (fun j => Int32.ofInt (σ k0 j)) (fun j => Int32.ofInt (σ k1 j)) sp.toNat dp.toNat n.toNat))) = pws g N (cpS σ k0 sp k1 dp n) := by
      refine pws_set ?_ (fun j _ hj => ent_eq fun q => by unfold cpS; rw [if_neg (by omega)])
      rw [ent_arI r3 (by decide) (by decide)]
      have hfun : (fun j : Nat => Int32.ofInt (cpS σ k0 sp k1 dp n k1 j)) = va_cpy (fun j : Nat => Int32.ofInt (σ k0 j)) (fun j : Nat => Int32.ofInt (σ k1 j)) sp.toNat dp.toNat n.toNat := by
        funext j
        unfold cpS va_cpy
        by_cases h : dp.toNat ≤ j ∧ j < dp.toNat + n.toNat
        · rw [if_pos h, if_pos ⟨rfl, by omega, by omega⟩, show sp + ((j : Int) - dp) = ((sp.toNat + (j - dp.toNat) : Nat) : Int) by omega]
        · rw [if_neg h, if_neg (by omega)]
      rw [hfun]
    rw [he] at hP1
    have hz : H1.size = g.1 + N := by
      rw [← hT]
      exact heap_exact X C.2.2.2.2.2.2.2.2.2.2.2.2.2.2 hN (by rw [hT]; exact hP1) (by rw [hT]; exact hS1.1)
    refine k p l e R s m args below meth c H1 locs1 N0 rls Qf C hN ⟨hP1, hz, fun i hi j => ?_, fun hb => ?_, hS1⟩ hL ho s4 hret T hT X
    · unfold cpS
      by_cases h : ((i : Nat) : Int) = (k1 : Int) ∧ dp ≤ (j : Int) ∧ (j : Int) < dp + n
      · rw [if_pos h]
        have hik : i = k1 := by omega
        subst hik
        have h5 := hR.2.2.1 k0 p1 (sp + ((j : Int) - dp)).toNat
        rw [sty_ar p3 (by decide), if_neg (by decide), show (((sp + ((j : Int) - dp)).toNat : Nat) : Int) = sp + ((j : Int) - dp) by omega] at h5
        rw [sty_ar r3 (by decide), if_neg (by decide)]
        exact h5
      · rw [if_neg h]
        exact hR.2.2.1 i hi j
    · intro q hq
      have h6 := hR.2.2.2.1 hb q hq
      obtain ⟨l1, l2, l3⟩ := layl_ref q hq
      unfold cpS
      rw [if_neg, h6]
      rintro ⟨h7, -⟩
      rw [h7, Int.toNat_natCast, r3] at l2
      exact absurd l2 (by show ¬ (20 < 20); decide)
theorem tvS (g : PG) {q : Nat} {t : Nat} (h : g.2.2.2.1 q = some t) (hq : q < 1000) : tv g (2, 100000 + (q : Int)) = .ref t := by
  show va_rf (prf g (100000 + (q : Int))) = _
  unfold prf
  rw [if_neg (by omega), if_neg (by omega), show ((100000 + (q : Int)).toNat - 100000) = q by omega, h]
  rfl
theorem E_ldcS (pc' : Nat) (hM : M.1 = RX8) (hd : decode M.2.2.1 pc = .ok (.ldc 57, 2)) (hp : pc + 2 = pc') (k : XX g b d M pc' ls ((2, 100003) :: st) N σ N' Q) : XX g b d M pc ls st N σ N' Q := by
  intro p l e R s m args below meth c H locs N0 rls Qf C hN hR hL ho hs hret
  subst hp
  have hk9 := k p l e R s m args below meth c H locs N0 rls Qf C hN hR hL ho (okl_k (okv2 _) hs) hret
  obtain ⟨-, -, -, ⟨t, v, d1, d2, d3, -⟩, -⟩ := C.2.2.2.2.2.2.2.2.2.2.2.2.2.1
  have e1 : tv g (2, 100003) = .ref t := tvS g (q := 3) d1 (by decide)
  rw [List.map_cons, e1] at hk9
  exact va_ldcS C.1 C.2.1 (hM ▸ C.2.2.2.2.2.1) d3 hd hk9
theorem E_aload_nT {q : Fin 4} {x : Int} {t : Nat} (pc' : Nat) (hd : decode M.2.2.1 pc = .ok (.aload_n q, 1)) (hl : ls[(q : Nat)]? = some (2, x)) (hx : (t = 3 ∨ t = 4) ∧ x = 100000 + (t : Int)) (hp : pc + 1 = pc') (k : XX g b d M pc' ls ((2, x) :: st) N σ N' Q) : XX g b d M pc ls st N σ N' Q := by
  intro p l e R s m args below meth c H locs N0 rls Qf C hN hR hL ho hs hret
  subst hp
  obtain ⟨ht, rfl⟩ := hx
  obtain ⟨-, -, -, ⟨t3, v, d1, d2, -⟩, -⟩ := C.2.2.2.2.2.2.2.2.2.2.2.2.2.1
  have e1 : ∃ y, tv g (2, 100000 + (t : Int)) = .ref y := by
    rcases ht with rfl | rfl
    · exact ⟨t3, tvS g d1 (by decide)⟩
    · exact ⟨v, tvS g d2 (by decide)⟩
  obtain ⟨y, e1⟩ := e1
  have h1 := hL.at hl (by decide : (2 : Nat) ≠ 9)
  rw [e1] at h1
  refine lv_aload_n C.1 C.2.1 hd rfl h1 ?_
  rw [← e1]
  exact k p l e R s m args below meth c H locs N0 rls Qf C hN hR hL ho (okl_k (okv2 _) hs) hret
theorem E_getSV {idx : Nat} (pc' : Nat) (hd : decode M.2.2.1 pc = .ok (.getfield idx, 3)) (hl : Cond.fieldLink M.1 idx "java/lang/String" "value" "[B" ∈ WS) (hp : pc + 3 = pc') (k : XX g b d M pc' ls ((2, 100004) :: st) N σ N' Q) : XX g b d M pc ls ((2, 100003) :: st) N σ N' Q := by
  intro p l e R s m args below meth c H locs N0 rls Qf C hN hR hL ho hs hret
  subst hp
  have hk9 := k p l e R s m args below meth c H locs N0 rls Qf C hN hR hL ho (okl_k (okv2 _) (okl_c hs).2) hret
  obtain ⟨-, -, -, ⟨t, v, d1, d2, d3, d4, d5, d6, d7⟩, -⟩ := C.2.2.2.2.2.2.2.2.2.2.2.2.2.1
  have e1 : tv g (2, 100003) = .ref t := tvS g (q := 3) d1 (by decide)
  have e2 : tv g (2, 100004) = .ref v := tvS g (q := 4) d2 (by decide)
  rw [List.map_cons, e2] at hk9
  rw [List.map_cons, e1]
  exact vk_getf C.1 C.2.1 d6 hR.2.2.2.2 C.2.2.2.2.2.1 (C.2.2.2.2.2.2.1 _ hl) (fun _ h => h) hd hk9
theorem E_getSC {idx : Nat} (pc' : Nat) (hd : decode M.2.2.1 pc = .ok (.getfield idx, 3)) (hl : Cond.fieldLink M.1 idx "java/lang/String" "coder" "B" ∈ WS) (hp : pc + 3 = pc') (k : XX g b d M pc' ls ((0, 0) :: st) N σ N' Q) : XX g b d M pc ls ((2, 100003) :: st) N σ N' Q := by
  intro p l e R s m args below meth c H locs N0 rls Qf C hN hR hL ho hs hret
  subst hp
  have hk9 := k p l e R s m args below meth c H locs N0 rls Qf C hN hR hL ho (okl_k (okv0 in32_0) (okl_c hs).2) hret
  obtain ⟨-, -, -, ⟨t, v, d1, d2, d3, d4, d5, d6, d7⟩, -⟩ := C.2.2.2.2.2.2.2.2.2.2.2.2.2.1
  have e1 : tv g (2, 100003) = .ref t := tvS g (q := 3) d1 (by decide)
  rw [List.map_cons, e1]
  exact vk_getf C.1 C.2.1 d5 hR.2.2.2.2 C.2.2.2.2.2.1 (C.2.2.2.2.2.2.1 _ hl) (fun _ h => h) hd hk9
theorem E_getsCS {idx : Nat} (pc' : Nat) (hd : decode M.2.2.1 pc = .ok (.getstatic idx, 3)) (hl : Cond.fieldLink M.1 idx "java/lang/String" "COMPACT_STRINGS" "Z" ∈ WS) (hp : pc + 3 = pc') (k : XX g b d M pc' ls ((0, 1) :: st) N σ N' Q) : XX g b d M pc ls st N σ N' Q := by
  intro p l e R s m args below meth c H locs N0 rls Qf C hN hR hL ho hs hret
  subst hp
  have hk9 := k p l e R s m args below meth c H locs N0 rls Qf C hN hR hL ho (okl_k (okv0 (by unfold in32; omega)) hs) hret
  obtain ⟨-, -, -, -, e1, -⟩ := C.2.2.2.2.2.2.2.2.2.2.2.2.2.1
  exact va_gets C.1 C.2.1 e1 hR.2.2.2.2 C.2.2.2.2.2.1 (C.2.2.2.2.2.2.1 _ hl) (fun _ h => h) hd hk9
theorem E_getsSI {idx : Nat} (pc' : Nat) (hd : decode M.2.2.1 pc = .ok (.getstatic idx, 3)) (hl : Cond.fieldLink M.1 idx "jdk/internal/util/Preconditions" "SIOOBE_FORMATTER" "Ljava/util/function/BiFunction;" ∈ WS) (hp : pc + 3 = pc') (k : XX g b d M pc' ls ((2, 100005) :: st) N σ N' Q) : XX g b d M pc ls st N σ N' Q := by
  intro p l e R s m args below meth c H locs N0 rls Qf C hN hR hL ho hs hret
  subst hp
  have hk9 := k p l e R s m args below meth c H locs N0 rls Qf C hN hR hL ho (okl_k (okv2 _) hs) hret
  obtain ⟨-, -, -, -, -, e1, -⟩ := C.2.2.2.2.2.2.2.2.2.2.2.2.2.1
  have e2 : tv g (2, 100005) = va_rf (g.2.2.2.1 5) := rfl
  rw [List.map_cons, e2] at hk9
  exact va_gets C.1 C.2.1 e1 hR.2.2.2.2 C.2.2.2.2.2.1 (C.2.2.2.2.2.2.1 _ hl) (fun _ h => h) hd hk9
theorem words_in : ∀ j : Nat, in32 (wordsT.getD j 0) := by
  intro j
  have h : ∀ x ∈ wordsT, 0 ≤ x ∧ x ≤ 127 := by decide +kernel
  unfold in32
  rw [List.getD_eq_getElem?_getD]
  cases h1 : wordsT[j]? with
  | none => simp
  | some x => have := h x (List.mem_of_getElem? h1); simp only [Option.getD_some]; omega
theorem words_len : wordsT.length = 116 := by decide +kernel
theorem E_alenSV (pc' : Nat) (hd : decode M.2.2.1 pc = .ok (.arraylength, 1)) (hp : pc + 1 = pc') (k : XX g b d M pc' ls ((0, 116) :: st) N σ N' Q) : XX g b d M pc ls ((2, 100004) :: st) N σ N' Q := by
  intro p l e R s m args below meth c H locs N0 rls Qf C hN hR hL ho hs hret
  subst hp
  have hk9 := k p l e R s m args below meth c H locs N0 rls Qf C hN hR hL ho (okl_k (okv0 (by unfold in32; omega)) (okl_c hs).2) hret
  obtain ⟨-, -, -, ⟨t, v, d1, d2, d3, d4, d5, d6, d7⟩, -⟩ := C.2.2.2.2.2.2.2.2.2.2.2.2.2.1
  have e2 : tv g (2, 100004) = .ref v := tvS g (q := 4) d2 (by decide)
  rw [List.map_cons, e2]
  exact va_tlen C.1 C.2.1 d7 hR.2.2.2.2 (v := 116) (by rw [words_len]; rfl) hd hk9
theorem E_baldSV (pc' : Nat) (hd : decode M.2.2.1 pc = .ok (.baload, 1)) (hi : 0 ≤ i ∧ i < 116) (hp : pc + 1 = pc') (k : XX g b d M pc' ls ((0, wordsT.getD i.toNat 0) :: st) N σ N' Q) : XX g b d M pc ls ((0, i) :: (2, 100004) :: st) N σ N' Q := by
  intro p l e R s m args below meth c H locs N0 rls Qf C hN hR hL ho hs hret
  subst hp
  have hii : in32 i := (okl_c hs).1.1 rfl
  have hk9 := k p l e R s m args below meth c H locs N0 rls Qf C hN hR hL ho (okl_k (okv0 (words_in _)) (okl_c (okl_c hs).2).2) hret
  obtain ⟨-, -, -, ⟨t, v, d1, d2, d3, d4, d5, d6, d7⟩, -⟩ := C.2.2.2.2.2.2.2.2.2.2.2.2.2.1
  have e2 : tv g (2, 100004) = .ref v := tvS g (q := 4) d2 (by decide)
  rw [List.map_cons, List.map_cons, e2]
  have e3 := ix_cl hi.1 hii
  have e4 : (fun j : Nat => Value.int (Int32.ofInt (wordsT.getD j 0))) (Int32.ofInt i).toNatClampNeg = .int (Int32.ofInt (wordsT.getD i.toNat 0)) := by simp only [e3]
  have e5 : vp_in (Int32.ofInt i) wordsT.length := by rw [words_len]; exact ix_in hi hii
  rw [words_len] at d7
  rw [words_len] at e5
  generalize wordsT.getD i.toNat 0 = x at *
  generalize (fun j : Nat => Value.int (Int32.ofInt (wordsT.getD j 0))) = f at *
  exact va_tb C.1 C.2.1 d7 hR.2.2.2.2 e5 (v := .int (Int32.ofInt x)) e4 hd hk9
/-- a call on the text -/
theorem E_callT {n : Nat} {as : List PV} {idx : Nat} {st0 : List PV} (pc' : Nat) (hd : decode M.2.2.1 pc = .ok (.invokevirtual idx, 3)) (hF : CF M' n) (hl : (Cond.methodLink M.1 idx M'.2.1 ∈ WS) ) (hi : Cond.instanceMethod M'.2.1 ∈ WS) (hs : Cond.selects M'.2.1.cls M'.2.1 M'.2.1 ∈ WS) (hcl : M'.1 = "java/lang/String") (hst : as.reverse ++ (2, 100003) :: st = st0) (hn : as.length = n) (hlen : (flatL ((2, 100003) :: as)).length ≤ M'.2.2.2.1) (hw : wsum st ≤ 8) (hN1 : N ≤ N1 ∧ N1 ≤ N') (hp : pc + 3 = pc')
    (k : XX g b d M' 0 (padL M'.2.2.2.1 ((2, 100003) :: as)) [] N σ N1 (fun r σ' => XX g b (d + 1) M pc' ls (rtl M' r ++ st) N1 σ' N' Q)) : XX g b (d + 1) M pc ls st0 N σ N' Q := by
  intro p l e R s m args below meth c H locs N0 rls Qf C hN hR hL ho hsk hret
  subst hp
  subst hst
  have hK := C.2.2.2.2.2.2.2.2.2.2.2.2.1
  have hts := C.2.2.2.2.2.2.1
  have m1 := SL_mono hN
  have m2 := SL_mono hN1.1
  have m3 := SL_mono hN1.2
  obtain ⟨-, -, -, ⟨t, v, d1, d2, d3, d4, d5, d6, d7⟩, -⟩ := C.2.2.2.2.2.2.2.2.2.2.2.2.2.1
  have eT : tv g (2, 100003) = .ref t := tvS g (q := 3) d1 (by decide)
  have hrecv : ∃ cellB : Cell, H[t]? = some cellB ∧ cellB.vm.isStatics = false ∧ s.vm.findClass M'.1 = some cellB.cls := by
    obtain ⟨cell, q1, q2, q3, -⟩ := d4.kept hR.2.2.2.2.2.1
    exact ⟨cell, q1, q2, by rw [hcl]; exact q3⟩
  have hasok : okl as := fun w hw => hsk w (List.mem_append_left _ (List.mem_reverse.mpr hw))
  have hrest : okl st := fun w hw => hsk w (List.mem_append_right _ (List.mem_cons_of_mem _ hw))
  have hM := XX_met k hF hlen (okl_k (okv2 _) hasok) l
  obtain ⟨f1, f2, f3, f4, f5, f6, f7⟩ := hF
  have hfr := C.2.2.2.2.2.2.2.2.1
  have hlo := C.2.2.2.2.2.2.2.2.2.1
  have cw := cwV (R := R) (s := s) (args := args) (own := M.1) (index := idx) (C := M'.1) (y := M'.2.1) (ws := Mws M') (rm := Mrm d N N1) (mc := N1 - N) (ms := SL N1 - SL N) n hts (WS_goodL hl (WS_goodL hi (WS_goodL (by rw [← f2]; exact hs) (WS_goodL (by rw [← f2]; exact f5) (WS_goodc f4))))) rfl rfl rfl ⟨f2, f6⟩ ⟨hfr, by show 8 + (M'.2.2.2.1 + 11) + 40 * d ≤ R.locals; omega⟩
  have eW : (as.reverse ++ (2, (100003 : Int)) :: st).map (tv g) = (as.map (tv g)).reverse ++ .ref t :: st.map (tv g) := by
    rw [List.map_append, List.map_reverse, List.map_cons, eT]
  have eA : ((2, (100003 : Int)) :: as).map (tv g) = .ref t :: as.map (tv g) := by
    rw [List.map_cons, eT]
  rw [eA] at hM
  rw [eW]
  refine E_after (va_runV (As := as.map (tv g)) (rest := st.map (tv g)) ⟨C.1, C.2.1, C.2.2.1, C.2.2.2.2.2.1, hts⟩ hM cw ⟨BB_blind _, hrecv, fun U hU hW => ⟨rfl, BB_pre hK C.2.2.2.2.2.2.2.2.2.2.2.2.2.1 (by have := C.2.2.2.2.2.2.2.2.2.2.2.2.2.2; omega) hR hU hW⟩⟩ rfl (by rw [List.length_map]; exact hn) hL.1 rfl (hroom hw) hd ⟨by have := C.2.2.2.2.2.2.2.2.2.2.1; omega, by have := C.2.2.2.2.2.2.2.2.2.2.2.1; omega⟩) hR.2.2.2.2 ?_
  intro r σ' H1 locs1 hq hR1 hrk
  rw [show N - N0 + (N1 - N) = N1 - N0 by omega, show SL N - SL N0 + (SL N1 - SL N) = SL N1 - SL N0 by omega, ← List.map_append]
  exact hq p l e R s m args below meth c H1 locs1 N0 rls Qf C (Nat.le_trans hN hN1.1) hR1 hL ho (okl_app hrk hrest) hret
theorem E_nret {x : Int} {ty : FieldType} (hd : decode M.2.2.1 pc = .ok (.ireturn, 1)) (hr : M.2.2.2.2 = some ty) (hty : ty = .byte ∨ ty = .char) (hn : N = N') (hx : narrow ty (.int (Int32.ofInt x)) = .int (Int32.ofInt x)) (q : Q x σ) : XX g b d M pc ls [(0, x)] N σ N' Q := by
  intro p l e R s m args below meth c H locs N0 rls Qf C hN hR hL ho hs hret
  subst hn
  have e1 : rtl M x = [(0, x)] := by unfold rtl; rw [hr]; rcases hty with rfl | rfl <;> rfl
  have k := hret x σ H locs pc rls q hR (by rw [e1]; exact hs) (by unfold rin; rw [hr]; rcases hty with rfl | rfl <;> exact hd) (fun ty2 h h2 => by rw [hr] at h; cases h; exact hx)
  rw [e1] at k
  exact k
/-- from making to what is made: the layout stands -/
theorem E_mode (hL : Lay σ) (k : XX g true d M pc ls st N σ N' Q) : XX g false d M pc ls st N σ N' Q :=
  fun p l e R s m args below meth c H locs N0 rls Qf C hN hR hLr ho hs hret => k p l e R s m args below meth c H locs N0 rls Qf C hN ⟨hR.1, hR.2.1, hR.2.2.1, fun _ => hL, hR.2.2.2.2⟩ hLr ho hs fun r σ' H' locs' pc' rls' q hR' => hret r σ' H' locs' pc' rls' q ⟨hR'.1, hR'.2.1, hR'.2.2.1, fun h => (by cases h), hR'.2.2.2.2⟩
/-- what every store keeps -/
theorem E_okS (k : okS N σ → XX g b d M pc ls st N σ N' Q) : XX g b d M pc ls st N σ N' Q :=
  fun p l e R s m args below meth c H locs N0 rls Qf C hN hR hLr ho hs hret => k hR.2.2.1 p l e R s m args below meth c H locs N0 rls Qf C hN hR hLr ho hs hret
theorem E_lay (k : Lay σ → XX g true d M pc ls st N σ N' Q) : XX g true d M pc ls st N σ N' Q :=
  fun p l e R s m args below meth c H locs N0 rls Qf C hN hR hLr ho hs hret => k (hR.2.2.2.1 rfl) p l e R s m args below meth c H locs N0 rls Qf C hN hR hLr ho hs hret
/-- what stands in the frame is within its type -/
theorem E_okl (k : okl ls → okl st → XX g b d M pc ls st N σ N' Q) : XX g b d M pc ls st N σ N' Q :=
  fun p l e R s m args below meth c H locs N0 rls Qf C hN hR hLr ho hs hret => k ho hs p l e R s m args below meth c H locs N0 rls Qf C hN hR hLr ho hs hret
end PREST
