/-! ROWS of what is made, of statics, of arraycopy, of switches -/
def tvd (t : Nat) : Value := match t with
  | 0 => .int 0
  | 1 => .long 0
  | _ => .null
theorem df_X0 : ∀ j, j < 2 → defaultValue (tyX0 j) = tvd (fty 0 j) := by decide +kernel
theorem df_X1 : ∀ j, j < 1 → defaultValue (tyX1 j) = tvd (fty 1 j) := by decide +kernel
theorem df_X2 : ∀ j, j < 3 → defaultValue (tyX2 j) = tvd (fty 2 j) := by decide +kernel
theorem df_X3 : ∀ j, j < 9 → defaultValue (tyX3 j) = tvd (fty 3 j) := by decide +kernel
theorem df_X4 : ∀ j, j < 5 → defaultValue (tyX4 j) = tvd (fty 4 j) := by decide +kernel
theorem df_X5 : ∀ j, j < 6 → defaultValue (tyX5 j) = tvd (fty 5 j) := by decide +kernel
theorem df_X6 : ∀ j, j < 6 → defaultValue (tyX6 j) = tvd (fty 6 j) := by decide +kernel
theorem df_X7 : ∀ j, j < 17 → defaultValue (tyX7 j) = tvd (fty 7 j) := by decide +kernel
theorem df_X8 : ∀ j, j < 6 → defaultValue (tyX8 j) = tvd (fty 8 j) := by decide +kernel
theorem df_X9 : ∀ j, j < 4 → defaultValue (tyX9 j) = tvd (fty 9 j) := by decide +kernel
theorem df_X10 : ∀ j, j < 2 → defaultValue (tyX10 j) = tvd (fty 10 j) := by decide +kernel
theorem df_X11 : ∀ j, j < 15 → defaultValue (tyX11 j) = tvd (fty 11 j) := by decide +kernel
theorem df_X12 : ∀ j, j < 79 → defaultValue (tyX12 j) = tvd (fty 12 j) := by decide +kernel
theorem cls_df : ∀ (ci : Nat) (q : vw_C), classes[ci]? = some q → ∃ ty : Nat → FieldType, (∀ k, k < q.2.2 → parseFieldDescriptor (q.2.1 k).2.2.1 = some (ty k)) ∧ ∀ j, j < q.2.2 → defaultValue (ty j) = tvd (fty ci j) := by
  intro ci q h
  match ci, h with
  | 0, h => cases h; exact ⟨tyX0, tyX0_ok, df_X0⟩
  | 1, h => cases h; exact ⟨tyX1, tyX1_ok, df_X1⟩
  | 2, h => cases h; exact ⟨tyX2, tyX2_ok, df_X2⟩
  | 3, h => cases h; exact ⟨tyX3, tyX3_ok, df_X3⟩
  | 4, h => cases h; exact ⟨tyX4, tyX4_ok, df_X4⟩
  | 5, h => cases h; exact ⟨tyX5, tyX5_ok, df_X5⟩
  | 6, h => cases h; exact ⟨tyX6, tyX6_ok, df_X6⟩
  | 7, h => cases h; exact ⟨tyX7, tyX7_ok, df_X7⟩
  | 8, h => cases h; exact ⟨tyX8, tyX8_ok, df_X8⟩
  | 9, h => cases h; exact ⟨tyX9, tyX9_ok, df_X9⟩
  | 10, h => cases h; exact ⟨tyX10, tyX10_ok, df_X10⟩
  | 11, h => cases h; exact ⟨tyX11, tyX11_ok, df_X11⟩
  | 12, h => cases h; exact ⟨tyX12, tyX12_ok, df_X12⟩
  | k + 13, h => simp [classes] at h
def dflt (t : Nat) : Int := if t = 2 then -1 else 0
def newO (σ : PS) (N ci : Nat) : PS := fun a j => if a = (N : Int) then dflt (fty ci j.toNat) else σ a j
def newA (σ : PS) (N : Nat) : PS := fun a j => if a = (N : Int) then 0 else σ a j
theorem fty_3 : ∀ (ci j : Nat), fty ci j = 0 ∨ fty ci j = 1 ∨ fty ci j = 2 := by
  intro ci j
  have h : ∀ l ∈ ftl, ∀ t ∈ l, t = 0 ∨ t = 1 ∨ t = 2 := by decide +kernel
  unfold fty
  rw [List.getD_eq_getElem?_getD, List.getD_eq_getElem?_getD]
  cases h1 : ftl[ci]? with
  | none => simp
  | some l =>
    simp only [Option.getD_some]
    cases h2 : l[j]? with
    | none => simp
    | some t => exact h l (List.mem_of_getElem? h1) t (List.mem_of_getElem? h2)
theorem tvd_tv (g : PG) {t : Nat} (h : t = 0 ∨ t = 1 ∨ t = 2) : tv g (t, dflt t) = tvd t := by
  rcases h with rfl | rfl | rfl <;> rfl
theorem okv_d {t : Nat} : okv (t, dflt t) := by
  unfold dflt
  refine ⟨fun h => ?_, fun h => ?_⟩
  · simp only at h; subst h; unfold in32; simp
  · simp only at h; subst h; unfold in64; simp
section PNEW
variable {g : PG} {b : Bool} {d : Nat} {M M' : PM} {pc : Nat} {ls st : List PV} {N N1 : Nat} {σ : PS} {N' : Nat} {Q : Int → PS → Prop} {a i : Int}
theorem pws_push {σ' : PS} {e : va_E} (he : ent g σ' N = e) (ho : ∀ i, i < N → ent g σ' i = ent g σ i) : pws g N σ ++ [(g.1 + N, e)] = pws g (N + 1) σ' := by
  unfold pws
  rw [List.range_succ, List.map_append, List.map_singleton, he]
  congr 1
  apply List.map_congr_left
  intro i hi
  rw [ho i (List.mem_range.mp hi)]
theorem SL_at {N sz : Nat} (h : szs[N]? = some sz) : SL (N + 1) = SL N + sz := by
  have key : ∀ (n : Nat) (l : List Nat), l[n]? = some sz → SLs l (n + 1) = SLs l n + sz := by
    intro n
    induction n with
    | zero =>
      intro l hl
      cases l with
      | nil => cases hl
      | cons a r => simp at hl; subst hl; show a + SLs r 0 = 0 + a; cases r <;> simp [SLs]
    | succ n ih =>
      intro l hl
      cases l with
      | nil => cases hl
      | cons a r =>
        show a + SLs r (n + 1) = a + SLs r n + sz
        rw [ih r (by simpa using hl)]
        omega
  exact key N szs h
theorem E_new {idx ci nf : Nat} {C0 : String} (pc' : Nat) (hd : decode M.2.2.1 pc = .ok (.new idx, 3)) (hk : kd N = (ci, nf)) (hc : ci < 20) (hz : szs[N]? = some nf) (hcl : ∀ q, classes[ci]? = some q → q.1 = C0) (hl : Cond.classLink M.1 idx C0 ∈ WS) (hi : Cond.instantiable C0 nf ∈ WS) (hini : Cond.initialized C0 ∈ WS) (hN1 : N + 1 ≤ N' ∧ N < 100000) (hp : pc + 3 = pc') (k : XX g false d M pc' ls ((2, (N : Int)) :: st) (N + 1) (newO σ N ci) N' Q) : XX g false d M pc ls st N σ N' Q := by
  intro p l e R s m args below meth c H locs N0 rls Qf C hN hR hL ho hs hret
  subst hp
  obtain ⟨q, g1, g2⟩ := kd_cls N ci nf hk hc
  subst g2
  obtain ⟨ty, t1, t2⟩ := cls_df ci q g1
  have hq := hcl q g1
  subst hq
  have hK := C.2.2.2.2.2.2.2.2.2.2.2.2.1
  have hts := C.2.2.2.2.2.2.1
  have hKn := hK.1 ci _ g1
  have hsz := SL_at hz
  have m0 := SL_mono hN
  have m1 := SL_mono hN1.1
  refine W.newcK C.1 C.2.1 C.2.2.2.2.2.1 (hts _ hl) (hts _ hi) (hts _ hini) rfl hd (by have := C.2.2.2.2.2.2.2.2.2.2.1; omega) (by have := C.2.2.2.2.2.2.2.2.2.2.2.1; omega) hKn.2.1 rfl fun H1 kC hkC e1 z1 o1 => ?_
  have hent : ent g (newO σ N ci) N = .inr (ci, (List.range q.2.2).map fun j => tv g (fty ci j, dflt (fty ci j))) := by
    rw [ent_obj hk hc]
    congr 2
    apply List.map_congr_left
    intro j _
    unfold newO
    rw [if_pos rfl, Int.toNat_natCast]
  have hold : ∀ i, i < N → ent g (newO σ N ci) i = ent g σ i := fun i hi => ent_eq fun j => by unfold newO; rw [if_neg (by omega)]
  have hP1 : va_P g.2.1 classes (pws g (N + 1) (newO σ N ci)) H1 := by
    rw [← pws_push hent hold]
    refine (hR.1.kept (fun k x hx => o1 x.1 ((hR.1 k x hx).lt))).app (fun k x hx => ?_)
    have hz2 : k < 1 := (List.getElem?_eq_some_iff.mp hx).1
    rw [show k = 0 by omega] at hx
    cases hx
    rw [hR.2.1] at e1
    exact ⟨_, g1, (u_born ty hts (cls_in ci q g1) hKn hkC e1 t1).to (fun j hj => by
      show defaultValue (ty j) = vp_V _ j
      rw [t2 j hj]
      unfold vp_V
      rw [List.getD_eq_getElem?_getD, List.getElem?_map, List.getElem?_range hj]
      exact (tvd_tv g (fty_3 ci j)).symm)⟩
  have key := k p l e R s m args below meth c H1 locs N0 rls Qf C (by omega) ⟨hP1, by rw [z1, hR.2.1]; omega, fun i hi j => ?_, fun h => (by cases h), Nat.le_trans hR.2.2.2.2.1 (by omega), fun x h1 h2 => (o1 x (Nat.lt_of_lt_of_le h1 hR.2.2.2.2.1)).trans (hR.2.2.2.2.2.1 x h1 h2), hR.2.2.2.2.2.2⟩ hL ho (okl_k (okv2 _) hs) hret
  · rw [show N + 1 - N0 = N - N0 + 1 by omega, show SL (N + 1) - SL N0 = SL N - SL N0 + q.2.2 by omega] at key
    rw [List.map_cons, tv_ref g (by omega) (by omega), Int.toNat_natCast] at key
    rw [hR.2.1]
    exact key
  · unfold newO
    by_cases hiN : i = N
    · subst hiN
      rw [if_pos rfl, Int.toNat_natCast]
      have : sty i j = fty ci j := by unfold sty; rw [hk]; simp [hc]
      rw [this]
      exact okv_d
    · rw [if_neg (by omega)]
      exact hR.2.2.1 i (by omega) j
theorem E_newa {t n : Nat} {atype : ArrayType} {x : Int} (pc' : Nat) (hd : decode M.2.2.1 pc = .ok (.newarray atype, 2)) (hk : kd N = (t, n)) (hty : newarray.typeOf atype = arK t ∧ 20 ≤ t ∧ t < 24) (hz : szs[N]? = some n) (hx : x = (n : Int)) (hn : n ≤ 10000) (hl : Cond.arrayClass (newarray.typeOf atype) ∈ WS) (hN1 : N + 1 ≤ N' ∧ N < 100000) (hp : pc + 2 = pc') (k : XX g false d M pc' ls ((2, (N : Int)) :: st) (N + 1) (newA σ N) N' Q) : XX g false d M pc ls ((0, x) :: st) N σ N' Q := by
  intro p l e R s m args below meth c H locs N0 rls Qf C hN hR hL ho hs hret
  subst hp
  subst hx
  have hK := C.2.2.2.2.2.2.2.2.2.2.2.2.1
  have hts := C.2.2.2.2.2.2.1
  have hsz := SL_at hz
  have m0 := SL_mono hN
  have m1 := SL_mono hN1.1
  have hn0 : Int32.ofInt (n : Int) = nI n := by unfold nI; rw [Int32.ofInt_eq_ofNat]
  have hKt := hK.2 _ _ (va_Kar hK t hty.2.1 hty.2.2)
  show W _ _ _ _ _ _ _ _ _ _ _ _ _ _ _ (F0 m pc rls (.int (Int32.ofInt (n : Int)) :: st.map (tv g)))
  rw [hn0]
  have hbytes : n * componentBytes (newarray.typeOf atype) ≤ 536870912 := by
    have : componentBytes (newarray.typeOf atype) ≤ 8 := by cases atype <;> decide
    have := Nat.mul_le_mul hn this
    omega
  refine va_newaK C.1 C.2.1 (hts _ hl) rfl hd rfl (nI_pos (by omega)) (nI_clamp (by omega)) hbytes (by have := C.2.2.2.2.2.2.2.2.2.2.1; omega) (by have := C.2.2.2.2.2.2.2.2.2.2.2.1; omega) rfl fun H1 cA e1 z1 o1 hAr hNm => ?_
  have hcA : cA = g.2.2.1 t := by
    have h2 := hKt.2
    rw [hty.1] at hNm
    rcases (show t = 20 ∨ t = 21 ∨ t = 22 ∨ t = 23 by omega) with rfl | rfl | rfl | rfl <;> exact Option.some.inj (hNm.symm.trans h2)
  subst hcA
  have hold : ∀ i, i < N → ent g (newA σ N) i = ent g σ i := fun i hi => ent_eq fun j => by unfold newA; rw [if_neg (by omega)]
  have hdv : defaultValue (newarray.typeOf atype) = if t = 21 then .long 0 else .int 0 := by
    rw [hty.1]
    rcases (show t = 20 ∨ t = 21 ∨ t = 22 ∨ t = 23 by omega) with rfl | rfl | rfl | rfl <;> rfl
  have hP1 : va_P g.2.1 classes (pws g (N + 1) (newA σ N)) H1 := by
    rw [← pws_push rfl hold]
    refine (hR.1.kept (fun k x hx => o1 x.1 ((hR.1 k x hx).lt))).app (fun k x hx => ?_)
    have hz2 : k < 1 := (List.getElem?_eq_some_iff.mp hx).1
    rw [show k = 0 by omega] at hx
    cases hx
    rw [hR.2.1, hdv] at e1
    by_cases h21 : t = 21
    · subst h21
      rw [ent_arL hk]
      show H1[g.1 + N]? = some (vp_cell _ _)
      rw [vp_cell_l, e1, if_pos rfl]
      congr 2
      funext j
      unfold newA
      rw [if_pos rfl]
      rfl
    · rw [ent_arI hk (by omega) h21]
      show H1[g.1 + N]? = some (vp_cell _ _)
      rw [vp_cell_i, e1, if_neg h21]
      congr 2
      funext j
      unfold newA
      rw [if_pos rfl]
      rfl
  have key := k p l e R s m args below meth c H1 locs N0 rls Qf C (by omega) ⟨hP1, by rw [z1, hR.2.1]; omega, fun i hi j => ?_, fun h => (by cases h), Nat.le_trans hR.2.2.2.2.1 (by omega), fun x h1 h2 => (o1 x (Nat.lt_of_lt_of_le h1 hR.2.2.2.2.1)).trans (hR.2.2.2.2.2.1 x h1 h2), hR.2.2.2.2.2.2⟩ hL ho (okl_k (okv2 _) (okl_c hs).2) hret
  · rw [show N + 1 - N0 = N - N0 + 1 by omega, show SL (N + 1) - SL N0 = SL N - SL N0 + n by omega] at key
    rw [List.map_cons, tv_ref g (by omega) (by omega), Int.toNat_natCast] at key
    rw [hR.2.1]
    exact key
  · unfold newA
    by_cases hiN : i = N
    · subst hiN
      rw [if_pos rfl]
      exact ⟨fun _ => by unfold in32; simp, fun _ => by unfold in64; simp⟩
    · rw [if_neg (by omega)]
      exact hR.2.2.1 i (by omega) j
theorem E_objI {idx : Nat} (pc' : Nat) (hd : decode M.2.2.1 pc = .ok (.invokespecial idx, 3)) (hl : Cond.methodLink M.1 idx Lib.objectInit ∈ WS) (hi : Cond.instanceMethod Lib.objectInit ∈ WS) (hcd : Cond.code Lib.objectInit ⟨#[0xb1]⟩ 1 none ∈ WS) (ha : 0 ≤ a ∧ a < 100000) (hw : wsum st ≤ 8) (hp : pc + 3 = pc') (k : XX g b (d + 1) M pc' ls st N σ N' Q) : XX g b (d + 1) M pc ls ((2, a) :: st) N σ N' Q := by
  intro p l e R s m args below meth c H locs N0 rls Qf C hN hR hL ho hs hret
  subst hp
  have hts := C.2.2.2.2.2.2.1
  have hfr := C.2.2.2.2.2.2.2.2.1
  have hlo := C.2.2.2.2.2.2.2.2.2.1
  show W _ _ _ _ _ _ _ _ _ _ _ _ _ _ _ (F0 m pc rls (tv g (2, a) :: _))
  rw [tv_ref g ha.1 ha.2]
  refine W.objInit C.1 C.2.1 C.2.2.2.2.2.1 (hts _ hl) (hts _ hi) (hts _ hcd) rfl (by rw [C.2.2.1]; exact hL.1) rfl hd (by omega) ?_ (k p l e R s m args below meth c H locs N0 rls Qf C hN hR hL ho (okl_c hs).2 hret)
  have := hroom (m := m) (pc := pc) (rls := rls) (st0 := .ref (g.1 + a.toNat) :: st.map (tv g)) (g := g) hw
  omega
/-- the two arrays of the class -/
theorem E_getsA {idx q : Nat} {nm : String} (ra : Int) (pc' : Nat) (hd : decode M.2.2.1 pc = .ok (.getstatic idx, 3)) (hq : (q = 0 ∧ nm = "LEAST_TOLD") ∨ (q = 1 ∧ nm = "MOST_TOLD")) (hl : Cond.fieldLink M.1 idx "NoTwoTogether" nm "[I" ∈ WS) (hra : 100000 + (q : Int) = ra) (hp : pc + 3 = pc') (k : XX g b d M pc' ls ((2, ra) :: st) N σ N' Q) : XX g b d M pc ls st N σ N' Q := by
  intro p l e R s m args below meth c H locs N0 rls Qf C hN hR hL ho hs hret
  subst hp
  subst hra
  have hts := C.2.2.2.2.2.2.1
  have hk9 := k p l e R s m args below meth c H locs N0 rls Qf C hN hR hL ho (okl_k (okv2 _) hs) hret
  obtain ⟨⟨t0, a1, a2, a3⟩, ⟨t1, b1, b2, b3⟩, -⟩ := C.2.2.2.2.2.2.2.2.2.2.2.2.2.1
  rcases hq with ⟨rfl, rfl⟩ | ⟨rfl, rfl⟩
  · refine va_gets C.1 C.2.1 a2 hR.2.2.2.2 C.2.2.2.2.2.1 (hts _ hl) (fun _ h => h) hd ?_
    have e1 : tv g (2, 100000 + ((0 : Nat) : Int)) = .ref t0 := by show va_rf (g.2.2.2.1 0) = _; rw [a1]; rfl
    rw [List.map_cons, e1] at hk9
    exact hk9
  · refine va_gets C.1 C.2.1 b2 hR.2.2.2.2 C.2.2.2.2.2.1 (hts _ hl) (fun _ h => h) hd ?_
    have e1 : tv g (2, 100000 + ((1 : Nat) : Int)) = .ref t1 := by show va_rf (g.2.2.2.1 1) = _; rw [b1]; rfl
    rw [List.map_cons, e1] at hk9
    exact hk9
def statT (q : Nat) (j : Nat) : Int := if q = 0 then leastT j else mostT j
theorem leastT_in : ∀ j : Nat, in32 (leastT j) := by
  intro j
  have h : ∀ x ∈ ([0, 1, 0, 1, 0, 0, 0, 0] : List Int), 0 ≤ x ∧ x ≤ 10000 := by decide
  unfold leastT in32
  rw [List.getD_eq_getElem?_getD]
  cases h1 : ([0, 1, 0, 1, 0, 0, 0, 0] : List Int)[j]? with
  | none => simp
  | some x => have := h x (List.mem_of_getElem? h1); simp only [Option.getD_some]; omega
theorem mostT_in : ∀ j : Nat, in32 (mostT j) := by
  intro j
  have h : ∀ x ∈ ([99, 9, 20, 99, 99, 9999, 999, 999] : List Int), 0 ≤ x ∧ x ≤ 10000 := by decide
  unfold mostT in32
  rw [List.getD_eq_getElem?_getD]
  cases h1 : ([99, 9, 20, 99, 99, 9999, 999, 999] : List Int)[j]? with
  | none => simp
  | some x => have := h x (List.mem_of_getElem? h1); simp only [Option.getD_some]; omega
theorem E_ialdS {q : Nat} (t : Int) (pc' : Nat) (hd : decode M.2.2.1 pc = .ok (.iaload, 1)) (hq : q < 2) (hi : 0 ≤ i ∧ i < 8) (ht : statT q i.toNat = t) (hp : pc + 1 = pc') (k : XX g b d M pc' ls ((0, t) :: st) N σ N' Q) : XX g b d M pc ls ((0, i) :: (2, 100000 + (q : Int)) :: st) N σ N' Q := by
  intro p l e R s m args below meth c H locs N0 rls Qf C hN hR hL ho hs hret
  subst hp
  subst ht
  have hii : in32 i := (okl_c hs).1.1 rfl
  have hok : okv (0, statT q i.toNat) := okv0 (by unfold statT; split; exact leastT_in _; exact mostT_in _)
  have hk9 := k p l e R s m args below meth c H locs N0 rls Qf C hN hR hL ho (okl_k hok (okl_c (okl_c hs).2).2) hret
  obtain ⟨⟨t0, a1, a2, a3⟩, ⟨t1, b1, b2, b3⟩, -⟩ := C.2.2.2.2.2.2.2.2.2.2.2.2.2.1
  have e2 := ix_cl hi.1 hii
  rcases (show q = 0 ∨ q = 1 by omega) with rfl | rfl
  · have e1 : tv g (2, 100000 + ((0 : Nat) : Int)) = .ref t0 := by show va_rf (g.2.2.2.1 0) = _; rw [a1]; rfl
    rw [List.map_cons, List.map_cons, e1]
    exact va_ti C.1 C.2.1 a3 hR.2.2.2.2 (ix_in hi hii) (v := .int (Int32.ofInt (leastT i.toNat))) (by rw [e2]) hd hk9
  · have e1 : tv g (2, 100000 + ((1 : Nat) : Int)) = .ref t1 := by show va_rf (g.2.2.2.1 1) = _; rw [b1]; rfl
    rw [List.map_cons, List.map_cons, e1]
    exact va_ti C.1 C.2.1 b3 hR.2.2.2.2 (ix_in hi hii) (v := .int (Int32.ofInt (mostT i.toNat))) (by rw [e2]) hd hk9
theorem E_alenS {q : Nat} (pc' : Nat) (hd : decode M.2.2.1 pc = .ok (.arraylength, 1)) (hq : q < 2) (hp : pc + 1 = pc') (k : XX g b d M pc' ls ((0, 8) :: st) N σ N' Q) : XX g b d M pc ls ((2, 100000 + (q : Int)) :: st) N σ N' Q := by
  intro p l e R s m args below meth c H locs N0 rls Qf C hN hR hL ho hs hret
  subst hp
  have hk9 := k p l e R s m args below meth c H locs N0 rls Qf C hN hR hL ho (okl_k (okv0 (by unfold in32; omega)) (okl_c hs).2) hret
  obtain ⟨⟨t0, a1, a2, a3⟩, ⟨t1, b1, b2, b3⟩, -⟩ := C.2.2.2.2.2.2.2.2.2.2.2.2.2.1
  rcases (show q = 0 ∨ q = 1 by omega) with rfl | rfl
  · have e1 : tv g (2, 100000 + ((0 : Nat) : Int)) = .ref t0 := by show va_rf (g.2.2.2.1 0) = _; rw [a1]; rfl
    rw [List.map_cons, e1]
    exact va_tlen C.1 C.2.1 a3 hR.2.2.2.2 (v := 8) rfl hd hk9
  · have e1 : tv g (2, 100000 + ((1 : Nat) : Int)) = .ref t1 := by show va_rf (g.2.2.2.1 1) = _; rw [b1]; rfl
    rw [List.map_cons, e1]
    exact va_tlen C.1 C.2.1 b3 hR.2.2.2.2 (v := 8) rfl hd hk9
/-- a switch whose case is known -/
theorem E_tabIn {dflt lo hi : Int} {offs : Array Int} {len : Nat} {x off : Int} (tgt : Nat) (hd : decode M.2.2.1 pc = .ok (.tableswitch dflt lo hi offs, len)) (h1 : lo ≤ x) (h2 : x ≤ hi) (ho2 : offs[(x - lo).toNat]? = some off) (ht : (pc : Int) + off = (tgt : Int)) (k : XX g b d M tgt ls st N σ N' Q) : XX g b d M pc ls ((0, x) :: st) N σ N' Q := by
  intro p l e R s m args below meth c H locs N0 rls Qf C hN hR hL ho hs hret
  have hx : in32 x := (okl_c hs).1.1 rfl
  exact lv_tableIn C.1 C.2.1 hd (by rw [ofInt_toInt32 hx]; omega) (by rw [ofInt_toInt32 hx]; omega) (by rw [ofInt_toInt32 hx]; exact ho2) ht (k p l e R s m args below meth c H locs N0 rls Qf C hN hR hL ho (okl_c hs).2 hret)
theorem E_tabOut {dflt lo hi : Int} {offs : Array Int} {len : Nat} {x : Int} (tgt : Nat) (hd : decode M.2.2.1 pc = .ok (.tableswitch dflt lo hi offs, len)) (h1 : x < lo ∨ hi < x) (ht : (pc : Int) + dflt = (tgt : Int)) (k : XX g b d M tgt ls st N σ N' Q) : XX g b d M pc ls ((0, x) :: st) N σ N' Q := by
  intro p l e R s m args below meth c H locs N0 rls Qf C hN hR hL ho hs hret
  have hx : in32 x := (okl_c hs).1.1 rfl
  exact lv_tableOut C.1 C.2.1 hd (by rw [ofInt_toInt32 hx]; exact h1) ht (k p l e R s m args below meth c H locs N0 rls Qf C hN hR hL ho (okl_c hs).2 hret)
theorem E_look {dflt : Int} {ps : Array (Int × Int)} {len : Nat} {x off : Int} (tgt : Nat) (hd : decode M.2.2.1 pc = .ok (.lookupswitch dflt ps, len)) (hps : (ps.toList.zip (ps.toList.drop 1)).all (fun (a, next) => a.1 < next.1) = true) (ho2 : Op.lookupswitch.offset ps.toList dflt x = off) (ht : (pc : Int) + off = (tgt : Int)) (k : XX g b d M tgt ls st N σ N' Q) : XX g b d M pc ls ((0, x) :: st) N σ N' Q := by
  intro p l e R s m args below meth c H locs N0 rls Qf C hN hR hL ho hs hret
  have hx : in32 x := (okl_c hs).1.1 rfl
  exact lv_lookup C.1 C.2.1 hd hps (by rw [ofInt_toInt32 hx]; exact ho2) ht (k p l e R s m args below meth c H locs N0 rls Qf C hN hR hL ho (okl_c hs).2 hret)
/-- the law's script -/
theorem E_ialdX (pc' : Nat) (hd : decode M.2.2.1 pc = .ok (.iaload, 1)) (hi : 0 ≤ i ∧ i < g.2.2.2.2.1) (hp : pc + 1 = pc') (k : XX g b d M pc' ls ((0, (g.2.2.2.2.2 i.toNat).toInt) :: st) N σ N' Q) : XX g b d M pc ls ((0, i) :: (2, 100002) :: st) N σ N' Q := by
  intro p l e R s m args below meth c H locs N0 rls Qf C hN hR hL ho hs hret
  subst hp
  have hii : in32 i := (okl_c hs).1.1 rfl
  have hk9 := k p l e R s m args below meth c H locs N0 rls Qf C hN hR hL ho (okl_k (okv0 (toInt_in32 _)) (okl_c (okl_c hs).2).2) hret
  obtain ⟨-, -, ⟨t, c1, c2, c3⟩, -⟩ := C.2.2.2.2.2.2.2.2.2.2.2.2.2.1
  have hn := C.2.2.2.2.2.2.2.2.2.2.2.2.2.2
  have e2 := ix_cl hi.1 hii
  have e1 : tv g (2, 100002) = .ref t := by show va_rf (g.2.2.2.1 2) = _; rw [c1]; rfl
  rw [List.map_cons, List.map_cons, e1]
  have e3 : tv g (0, (g.2.2.2.2.2 i.toNat).toInt) = .int (g.2.2.2.2.2 (Int32.ofInt i).toNatClampNeg) := by rw [e2]; show Value.int (Int32.ofInt _) = _; rw [Int32.ofInt_toInt]
  rw [List.map_cons, e3] at hk9
  exact va_sld C.1 C.2.1 c2 (by omega) (by unfold pA; omega) hR.2.2.2.2 (ix_in hi hii) hd hk9
theorem E_alenX (pc' : Nat) (hd : decode M.2.2.1 pc = .ok (.arraylength, 1)) (hn5 : g.2.2.2.2.1 < 100000) (hp : pc + 1 = pc') (k : XX g b d M pc' ls ((0, (g.2.2.2.2.1 : Int)) :: st) N σ N' Q) : XX g b d M pc ls ((2, 100002) :: st) N σ N' Q := by
  intro p l e R s m args below meth c H locs N0 rls Qf C hN hR hL ho hs hret
  subst hp
  have hk9 := k p l e R s m args below meth c H locs N0 rls Qf C hN hR hL ho (okl_k (okv0 (by unfold in32; omega)) (okl_c hs).2) hret
  obtain ⟨-, -, ⟨t, c1, c2, c3⟩, -⟩ := C.2.2.2.2.2.2.2.2.2.2.2.2.2.1
  have hn := C.2.2.2.2.2.2.2.2.2.2.2.2.2.2
  have e1 : tv g (2, 100002) = .ref t := by show va_rf (g.2.2.2.1 2) = _; rw [c1]; rfl
  rw [List.map_cons, e1]
  refine va_slen C.1 C.2.1 c2 (by omega) (by unfold pA; omega) hR.2.2.2.2 hd ?_
  rw [List.map_cons] at hk9
  exact hk9
end PNEW
