/-! CALLS: a method's judgement gives its contract; a call takes it -/
def flatL (avs : List PV) : List PV := avs.flatMap fun v => if v.1 = 1 then [v, (9, 0)] else [v]
def padL (n : Nat) (avs : List PV) : List PV := flatL avs ++ List.replicate (n - (flatL avs).length) (9, 0)
def BB (g : PG) (b : Bool) (N : Nat) (σ : PS) (U : State) : Prop := va_P g.2.1 classes (pws g N σ) U.heap ∧ U.heap.size = g.1 + N ∧ okS N σ ∧ (b = true → Lay σ) ∧ va_K g.2.1 classes (atys g) U ∧ Sf g U U.heap
def QQ (g : PG) (b : Bool) (M : PM) (N1 : Nat) (Q : Int → PS → Prop) : Array Value → State → Outcome → State → Prop := fun _ st oc t =>
  (∃ (r : Int) (σ' : PS), oc = .returned ((rtl M r).map (tv g)).head? ∧ Q r σ' ∧ okl (rtl M r) ∧ va_P g.2.1 classes (pws g N1 σ') t.heap ∧ t.heap.size = g.1 + N1 ∧ okS N1 σ' ∧ (b = true → Lay σ')) ∧ va_F (pA g) st t
def okR (r : Option FieldType) : Bool := match r with
  | none => true
  | some .int => true
  | some .long => true
  | some .boolean => true
  | some .char => true
  | some .byte => true
  | some (.object _) => true
  | _ => false
theorem flatL_cons (v : PV) (r : List PV) : flatL (v :: r) = (if v.1 = 1 then [v, (9, 0)] else [v]) ++ flatL r := rfl
theorem args_sl (g : PG) : ∀ (avs : List PV), (lg_sl (avs.map (tv g))).length = (flatL avs).length := by
  intro avs
  induction avs with
  | nil => rfl
  | cons v r ih =>
    rw [flatL_cons, List.length_append, ← ih]
    show ((if (tv g v).category = 2 then [Slot.val (tv g v), Slot.second] else [Slot.val (tv g v)]) ++ lg_sl (r.map (tv g))).length = _
    rw [List.length_append]
    obtain ⟨t, x⟩ := v
    by_cases h : t = 1
    · subst h
      rw [if_pos (tv_cat2 g x)]
      rfl
    · rw [if_neg (by rw [tv_cat1 g (t, x) h]; decide), if_neg h]
      rfl
theorem args_asl (g : PG) : ∀ (avs : List PV) (i : Nat) (q : Nat × Value), q ∈ asl g i (flatL avs) → q ∈ lv_args i (avs.map (tv g)) := by
  intro avs
  induction avs with
  | nil => intro i q h; exact h
  | cons v r ih =>
    intro i q h
    rw [flatL_cons] at h
    obtain ⟨t, x⟩ := v
    show q ∈ (i, tv g (t, x)) :: lv_args (if (tv g (t, x)).category = 2 then i + 2 else i + 1) (r.map (tv g))
    by_cases h1 : t = 1
    · subst h1
      rw [if_pos (tv_cat2 g x)]
      have h : q ∈ (i, tv g (1, x)) :: asl g (i + 1 + 1) (flatL r) := h
      rcases List.mem_cons.mp h with e | e
      · rw [e]; exact List.mem_cons_self
      · exact List.mem_cons_of_mem _ (ih _ _ e)
    · rw [if_neg (by rw [tv_cat1 g (t, x) h1]; decide)]
      rw [if_neg h1] at h
      show q ∈ _
      by_cases h9 : t = 9
      · subst h9
        have h : q ∈ asl g (i + 1) (flatL r) := h
        exact List.mem_cons_of_mem _ (ih _ _ h)
      · have h : q ∈ asl g i ((t, x) :: flatL r) := h
        unfold asl at h
        rw [if_neg h9] at h
        rcases List.mem_cons.mp h with e | e
        · rw [e]; exact List.mem_cons_self
        · exact List.mem_cons_of_mem _ (ih _ _ e)
theorem asl_rep (g : PG) : ∀ (n i : Nat), asl g i (List.replicate n (9, 0)) = [] := by
  intro n
  induction n with
  | zero => intro i; rfl
  | succ n ih => intro i; rw [List.replicate_succ]; exact ih (i + 1)
theorem asl_app (g : PG) : ∀ (a b : List PV) (i : Nat), asl g i (a ++ b) = asl g i a ++ asl g (i + a.length) b := by
  intro a
  induction a with
  | nil => intro b i; rfl
  | cons v r ih =>
    intro b i
    show (if v.1 = 9 then asl g (i + 1) (r ++ b) else (i, tv g v) :: asl g (i + 1) (r ++ b)) = (if v.1 = 9 then asl g (i + 1) r else (i, tv g v) :: asl g (i + 1) r) ++ _
    rw [ih, show i + (v :: r).length = i + 1 + r.length by simp; omega]
    split <;> rfl
theorem padL_LR (g : PG) {avs : List PV} {n : Nat} (h : (flatL avs).length ≤ n) : LRl g ((lg_sl (avs.map (tv g)) ++ List.replicate (n - (lg_sl (avs.map (tv g))).length) Slot.unset).toArray) n (padL n avs) := by
  have h1 := lv_entry (avs.map (tv g)) (n := n) (by rw [args_sl]; exact h)
  refine ⟨h1.1, h1.2.1, fun q hq => h1.2.2 q ?_⟩
  unfold padL at hq
  rw [asl_app, asl_rep, List.append_nil] at hq
  exact args_asl g avs 0 q hq
theorem flatL_ok {avs : List PV} (h : okl avs) : okl (flatL avs) := by
  intro w hw
  obtain ⟨v, hv, hw⟩ := List.mem_flatMap.mp hw
  split at hw
  · rcases List.mem_cons.mp hw with e | e
    · rw [e]; exact h v hv
    · rw [List.mem_singleton.mp e]; exact okv9 0
  · rw [List.mem_singleton.mp hw]; exact h v hv
theorem padL_ok {avs : List PV} {n : Nat} (h : okl avs) : okl (padL n avs) := okl_app (flatL_ok h) (fun w hw => by rw [List.eq_of_mem_replicate hw]; exact okv9 0)
def CF (M : PM) (n : Nat) : Prop := plainName M.2.1.cls = true ∧ M.2.1.cls = M.1 ∧ okR M.2.2.2.2 = true ∧ Cond.code M.2.1 M.2.2.1 M.2.2.2.1 M.2.2.2.2 ∈ WS ∧ Cond.initialized M.2.1.cls ∈ WS ∧ (M.2.1.cls ≠ "java/lang/invoke/MethodHandle" ∧ M.2.1.cls ≠ "java/lang/invoke/VarHandle" ∧ (parseMethodDescriptor M.2.1.desc).map (fun d => d.parameters.length) = some n) ∧ M.2.2.2.1 ≤ 20
abbrev Mws (M : PM) : List Cond := Cond.code M.2.1 M.2.2.1 M.2.2.2.1 M.2.2.2.2 :: WS
abbrev Mrm (d N N1 : Nat) : Room := { frames := d, cells := N1 - N, slots := SL N1 - SL N, locals := 40 * d }
theorem rf_or (o : Option Nat) : va_rf o = .null ∨ ∃ a, va_rf o = .ref a := by
  cases o with
  | none => exact Or.inl rfl
  | some z => exact Or.inr ⟨z, rfl⟩
theorem SLs_succ : ∀ (n : Nat) (l : List Nat), SLs l n ≤ SLs l (n + 1) := by
  intro n
  induction n with
  | zero => intro l; cases l <;> exact Nat.zero_le _
  | succ n ih =>
    intro l
    cases l with
    | nil => exact Nat.le_refl _
    | cons a r => exact Nat.add_le_add_left (ih r) a
theorem SL_mono {n m : Nat} (h : n ≤ m) : SL n ≤ SL m := by
  induction h with
  | refl => exact Nat.le_refl _
  | step _ ih => exact Nat.le_trans ih (SLs_succ _ _)
theorem XX_met {g : PG} {b : Bool} {d : Nat} {M : PM} {N : Nat} {σ : PS} {N1 : Nat} {Q : Int → PS → Prop} {avs : List PV} {n : Nat} (hX : XX g b d M 0 (padL M.2.2.2.1 avs) [] N σ N1 Q) (hF : CF M n) (hlen : (flatL avs).length ≤ M.2.2.2.1) (hav : okl avs) (l : Launch) :
    Met l M.2.1 (Mws M) (Mrm d N N1) (va_Pc (avs.map (tv g)) (BB g b N σ)) (QQ g b M N1 Q) (N1 - N) (SL N1 - SL N) (pA g) := by
  refine Met.ofW (cc := M.2.2.1) (maxL := M.2.2.2.1) (ret := M.2.2.2.2) hF.1 rfl ?_
  intro p e s m args below meth c s₁ B hml hv
  obtain ⟨rfl, hP, hz, hok, hlay, hK, hSf⟩ := hv
  have hts := atoms_spec (ws := Mws M) B.pre
  have hown : s.vm.findClass M.1 = some m.cls := by rw [← hF.2.1]; exact findClass_of_methodNamed B.named
  have hnm : meth.name = M.2.1.name := (name_of_methodNamed B.named B.method).1
  rw [lg_entry_eq]
  have hS : va_S (pA g) s.heap s.heap [] := va_S.rf
  have C : PCx g d M p (headSpec (Mws M) (Mrm d N N1)).room s m (avs.map (tv g)).toArray meth c N N1 :=
    ⟨B.exec, B.bytes, hml, B.returns, B.notSynchronized, hown, fun w hw => hts w (List.mem_cons_of_mem _ hw), fun h => hnm.trans h, Nat.le_refl d, Nat.le_refl _, Nat.le_refl _, Nat.le_refl _, hK, hSf, hz⟩
  have key := hX p l e _ s m _ below meth c s.heap [] N _ (MQ below (QQ g b M N1 Q) (avs.map (tv g)).toArray s (N1 - N) (SL N1 - SL N) (pA g)) C (Nat.le_refl N) ⟨hP, hz, hok, hlay, hS⟩ (padL_LR g hlen) (padL_ok hav) (fun w hw => absurd hw List.not_mem_nil) ?_
  · rw [Nat.sub_self, Nat.sub_self] at key
    exact key
  · intro r σ' H' locs' pc' rls' hq hR hrk hri hrn
    have fin : ∀ (oc : Option Value), oc = ((rtl M r).map (tv g)).head? → ∀ t : State, t.heap = H' → s.WarmedH t.vm → QQ g b M N1 Q (avs.map (tv g)).toArray s (.returned oc) t := by
      intro oc e t ht hW
      exact ⟨⟨r, σ', by rw [e], hq, hrk, by rw [ht]; exact hR.1, by rw [ht]; exact hR.2.1, hR.2.2.1, hR.2.2.2.1⟩, hR.2.2.2.2.F ht⟩
    have hlk := C.2.2.2.2.1
    have hrt := hF.2.2.1
    unfold rin at hri
    unfold rtl at fin
    unfold rtl
    generalize hty : M.2.2.2.2 = ty at *
    match ty, hrt with
    | none, _ => exact W.vret B.exec B.bytes B.returns (fun t h1 h2 => fin none rfl t h1 h2) hR.2.2.2.2.2.2 hri hlk
    | some .int, _ => exact W.iret B.exec B.bytes B.returns (fun t h1 h2 => fin _ rfl t h1 h2) hR.2.2.2.2.2.2 hri hlk
    | some .long, _ => exact W.lret B.exec B.bytes B.returns (fun t h1 h2 => fin _ rfl t h1 h2) hR.2.2.2.2.2.2 hri hlk
    | some .boolean, _ => exact W.zret B.exec B.bytes B.returns (hrn .boolean hty (Or.inl rfl)) (fun t h1 h2 => fin _ rfl t h1 h2) hR.2.2.2.2.2.2 hri hlk
    | some .char, _ => exact W.zret B.exec B.bytes B.returns (hrn .char hty (Or.inr (Or.inl rfl))) (fun t h1 h2 => fin _ rfl t h1 h2) hR.2.2.2.2.2.2 hri hlk
    | some .byte, _ => exact W.zret B.exec B.bytes B.returns (hrn .byte hty (Or.inr (Or.inr (Or.inl rfl)))) (fun t h1 h2 => fin _ rfl t h1 h2) hR.2.2.2.2.2.2 hri hlk
    | some (.object C0), _ => exact W.aret B.exec B.bytes B.returns (Or.inl ⟨_, rfl⟩) (rf_or (prf g r)) (fun t h1 h2 => fin _ rfl t h1 h2) hR.2.2.2.2.2.2 hri hlk
theorem rtl_len (M : PM) (r : Int) (g : PG) : ((rtl M r).map (tv g)).head?.toList = (rtl M r).map (tv g) := by
  unfold rtl
  split <;> rfl
section PCALL
variable {g : PG} {b : Bool} {d : Nat} {M M' : PM} {pc : Nat} {ls st : List PV} {N N1 : Nat} {σ : PS} {N' : Nat} {Q : Int → PS → Prop}
theorem E_after {p : Program} {l : Launch} {e : Env} {R : Room} {s : State} {m : MethodId} {args : Array Value} {below : List Frame} {meth : Method} {c : Code} {H : Heap} {locs : List Loc} {k n mc ms : Nat} {rls : Array Slot} {st0 rest : List Value} {Qf : State → Prop} {Q' : Int → PS → Prop} {a : Array Value} {N1 : Nat}
    (hr : va_Run p l e R s m args below meth c H locs k n mc ms (F0 m pc rls st0) rest (QQ g b M' N1 Q' a) (pA g)) (hS : va_S (pA g) s.heap H locs)
    (kk : ∀ (r : Int) (σ' : PS) (H1 : Heap) (locs1 : List Loc), Q' r σ' → PRl g b N1 σ' s H1 locs1 → okl (rtl M' r) → W p l e R s m args below meth c H1 locs1 (k + mc) (n + ms) Qf (F0 m (pc + 3) rls ((rtl M' r).map (tv g) ++ rest))) : W p l e R s m args below meth c H locs k n Qf (F0 m pc rls st0) := by
  intro T hT X
  obtain ⟨v, st₀, t, T', L, h0, X', hL, e1, e2, ⟨⟨r, σ', hv, hq, hrk, hP, hz, hok, hlay⟩, hF1, hF2⟩, stp⟩ := hr T hT X
  cases hv
  rw [h0] at hF1 hF2
  obtain ⟨t2, a1, b1⟩ := kk r σ' T'.heap (locs ++ L) hq ⟨by rw [e1]; exact hP, by rw [e1]; exact hz, hok, hlay, Nat.le_trans hS.1 (by rw [e1]; exact hF1), fun q h1 h2 => by rw [e1, hF2 q (Nat.lt_of_lt_of_le h1 hS.1) h2]; exact hS.2.1 q h1 h2, fun q hq => by
    rcases List.mem_append.mp hq with h | h
    · exact hS.2.2 q h
    · exact hL q h⟩ hrk T' rfl X'
  refine ⟨t2, stp t2 ?_, b1⟩
  rw [rtl_len]
  exact a1
theorem BB_pre {s : State} {H : Heap} {locs : List Loc} {U : State} (hK : va_K g.2.1 classes (atys g) s) (hSf : Sf g s s.heap) (hn : g.1 ≤ s.heap.size) (hR : PRl g b N σ s H locs) (hU : U.heap = H) (hW : s.WarmedH U.vm) : BB g b N σ U := by
  refine ⟨by rw [hU]; exact hR.1, by rw [hU]; exact hR.2.1, hR.2.2.1, hR.2.2.2.1, hK.moved hW.alike, ?_⟩
  rw [hU]
  exact Sf_move hW (fun a h1 h2 => hR.2.2.2.2.2.1 a h1 h2) hn hSf
theorem BB_blind (avs : List Value) : FrameBlind (va_Pc avs (BB g b N σ)) := by
  intro a U fr mk q
  obtain ⟨q1, q2, q3, q4, q5, q6, q7⟩ := q
  refine ⟨q1, q2, q3, q4, q5, va_K.moved (u := U) (U := U.calling fr mk a) (Vm.Alike.refl U.vm) q6, ?_⟩
  exact Sf_move (u := U) (U := U.calling fr mk a) (H := U.heap) (State.WarmedH.refl U) (fun a _ _ => rfl) (by omega) q7
def wsum (st : List PV) : Nat := (st.map fun v => if v.1 = 1 then 2 else 1).sum
theorem wsum_eq (g : PG) (st : List PV) : ((st.map (tv g)).map fun v => v.category).sum = wsum st := by
  induction st with
  | nil => rfl
  | cons v r ih =>
    obtain ⟨t, x⟩ := v
    simp only [List.map_cons, List.sum_cons, wsum]
    rw [ih]
    by_cases h : t = 1
    · subst h; rfl
    · rw [tv_cat1 g (t, x) h, if_neg h]; rfl
theorem hroom {m : MethodId} {pc : Nat} {rls : Array Slot} {st0 : List Value} {st : List PV} (h : wsum st ≤ 8) : 2 * (F0 m pc rls st0).monitorRoom + ((st.map (tv g)).map fun v => v.category).sum ≤ 8 := by
  refine lv_room ?_
  rw [wsum_eq]
  exact h
theorem WS_goodc {y : MethodName} {bytes : ByteArray} {n : Nat} {r : Option FieldType} (h : Cond.code y bytes n r ∈ WS) : GoodIn WS (Cond.code y bytes n r :: WS) := fun w hw => by
  rcases List.mem_cons.mp hw with e | e
  · rw [e]; exact WS_good _ h
  · exact WS_good _ e
theorem WS_goodL {ws : List Cond} {w : Cond} (h : w ∈ WS) (hg : GoodIn WS ws) : GoodIn WS (w :: ws) := fun v hv => by
  rcases List.mem_cons.mp hv with e | e
  · rw [e]; exact WS_good _ h
  · exact hg _ e
theorem E_callV {n : Nat} {as : List PV} {a : Int} {idx ci nf : Nat} {st0 : List PV} (pc' : Nat) (hd : decode M.2.2.1 pc = .ok (.invokevirtual idx, 3)) (hF : CF M' n) (hl : (Cond.methodLink M.1 idx M'.2.1 ∈ WS) ) (hi : Cond.instanceMethod M'.2.1 ∈ WS) (hs : Cond.selects M'.2.1.cls M'.2.1 M'.2.1 ∈ WS) (hA : Fat N a (ci, nf)) (hc : ci < 20) (hcl : ∀ q, classes[ci]? = some q → q.1 = M'.1) (hst : as.reverse ++ (2, a) :: st = st0) (hn : as.length = n) (hlen : (flatL ((2, a) :: as)).length ≤ M'.2.2.2.1) (hw : wsum st ≤ 8) (hN1 : N ≤ N1 ∧ N1 ≤ N') (hp : pc + 3 = pc')
    (k : XX g b d M' 0 (padL M'.2.2.2.1 ((2, a) :: as)) [] N σ N1 (fun r σ' => XX g b (d + 1) M pc' ls (rtl M' r ++ st) N1 σ' N' Q)) : XX g b (d + 1) M pc ls st0 N σ N' Q := by
  intro p l e R s m args below meth c H locs N0 rls Qf C hN hR hL ho hsk hret
  subst hp
  subst hst
  obtain ⟨kk, rfl, hk1, hk2, hk3⟩ := hA.nat
  obtain ⟨q', g1, g2⟩ := kd_cls kk ci nf hk3 hc
  have hat := pws_at (g := g) (σ := σ) hk1
  rw [ent_obj hk3 hc] at hat
  have hK := C.2.2.2.2.2.2.2.2.2.2.2.2.1
  have hts := C.2.2.2.2.2.2.1
  have m1 := SL_mono hN
  have m2 := SL_mono hN1.1
  have m3 := SL_mono hN1.2
  have hrecv := va_recv hK hR.1 g1 hat
  rw [hcl q' g1] at hrecv
  have hasok : okl as := fun w hw => hsk w (List.mem_append_left _ (List.mem_reverse.mpr hw))
  have hrest : okl st := fun w hw => hsk w (List.mem_append_right _ (List.mem_cons_of_mem _ hw))
  have hM := XX_met k hF hlen (okl_k (okv2 _) hasok) l
  obtain ⟨f1, f2, f3, f4, f5, f6, f7⟩ := hF
  have hfr := C.2.2.2.2.2.2.2.2.1
  have hlo := C.2.2.2.2.2.2.2.2.2.1
  have cw := cwV (R := R) (s := s) (args := args) (own := M.1) (index := idx) (C := M'.1) (y := M'.2.1) (ws := Mws M') (rm := Mrm d N N1) (mc := N1 - N) (ms := SL N1 - SL N) n hts (WS_goodL hl (WS_goodL hi (WS_goodL (by rw [← f2]; exact hs) (WS_goodL (by rw [← f2]; exact f5) (WS_goodc f4))))) rfl rfl rfl ⟨f2, f6⟩ ⟨hfr, by show 8 + (M'.2.2.2.1 + 11) + 40 * d ≤ R.locals; omega⟩
  have eW : (as.reverse ++ (2, ((kk : Nat) : Int)) :: st).map (tv g) = (as.map (tv g)).reverse ++ .ref (g.1 + kk) :: st.map (tv g) := by
    rw [List.map_append, List.map_reverse, List.map_cons, tv_ref g (by omega) (by omega), Int.toNat_natCast]
  have eA : ((2, ((kk : Nat) : Int)) :: as).map (tv g) = .ref (g.1 + kk) :: as.map (tv g) := by
    rw [List.map_cons, tv_ref g (by omega) (by omega), Int.toNat_natCast]
  rw [eA] at hM
  rw [eW]
  refine E_after (va_runV (As := as.map (tv g)) (rest := st.map (tv g)) ⟨C.1, C.2.1, C.2.2.1, C.2.2.2.2.2.1, hts⟩ hM cw ⟨BB_blind _, hrecv, fun U hU hW => ⟨rfl, BB_pre hK C.2.2.2.2.2.2.2.2.2.2.2.2.2.1 (by have := C.2.2.2.2.2.2.2.2.2.2.2.2.2.2; omega) hR hU hW⟩⟩ rfl (by rw [List.length_map]; exact hn) hL.1 rfl (hroom hw) hd ⟨by have := C.2.2.2.2.2.2.2.2.2.2.1; omega, by have := C.2.2.2.2.2.2.2.2.2.2.2.1; omega⟩) hR.2.2.2.2 ?_
  intro r σ' H1 locs1 hq hR1 hrk
  rw [show N - N0 + (N1 - N) = N1 - N0 by omega, show SL N - SL N0 + (SL N1 - SL N) = SL N1 - SL N0 by omega, ← List.map_append]
  exact hq p l e R s m args below meth c H1 locs1 N0 rls Qf C (Nat.le_trans hN hN1.1) hR1 hL ho (okl_app hrk hrest) hret
/-- static: by the class's own link, or a nest mate's -/
theorem E_callS {n : Nat} {as : List PV} {idx : Nat} {st0 : List PV} (pc' : Nat) (hd : decode M.2.2.1 pc = .ok (.invokestatic idx, 3)) (hF : CF M' n) (hl : Cond.methodLink M.1 idx M'.2.1 ∈ WS ∨ ∃ h, (M.1, idx, M'.2.1, h) ∈ nestW) (hi : Cond.static M'.2.1 ∈ WS) (hst : as.reverse ++ st = st0) (hn : as.length = n) (hlen : (flatL as).length ≤ M'.2.2.2.1) (hw : wsum st ≤ 8) (hN1 : N ≤ N1 ∧ N1 ≤ N') (hp : pc + 3 = pc')
    (k : XX g b d M' 0 (padL M'.2.2.2.1 as) [] N σ N1 (fun r σ' => XX g b (d + 1) M pc' ls (rtl M' r ++ st) N1 σ' N' Q)) : XX g b (d + 1) M pc ls st0 N σ N' Q := by
  intro p l e R s m args below meth c H locs N0 rls Qf C hN hR hL ho hsk hret
  subst hp
  subst hst
  have hK := C.2.2.2.2.2.2.2.2.2.2.2.2.1
  have hts := C.2.2.2.2.2.2.1
  have m1 := SL_mono hN
  have m2 := SL_mono hN1.1
  have m3 := SL_mono hN1.2
  have hasok : okl as := fun w hw => hsk w (List.mem_append_left _ (List.mem_reverse.mpr hw))
  have hrest : okl st := fun w hw => hsk w (List.mem_append_right _ hw)
  have hM := XX_met k hF hlen hasok l
  obtain ⟨f1, f2, f3, f4, f5, f6, f7⟩ := hF
  have hfr := C.2.2.2.2.2.2.2.2.1
  have hlo := C.2.2.2.2.2.2.2.2.2.1
  have hroom2 : 8 + (M'.2.2.2.1 + 11) + (Mrm d N N1).locals ≤ R.locals := by show 8 + (M'.2.2.2.1 + 11) + 40 * d ≤ R.locals; omega
  have eW : (as.reverse ++ st).map (tv g) = (as.map (tv g)).reverse ++ st.map (tv g) := by
    rw [List.map_append, List.map_reverse]
  have hrm : N - N0 + (N1 - N) ≤ R.cells ∧ SL N - SL N0 + (SL N1 - SL N) ≤ R.slots := ⟨by have := C.2.2.2.2.2.2.2.2.2.2.1; omega, by have := C.2.2.2.2.2.2.2.2.2.2.2.1; omega⟩
  have hpre : PreS s H (va_Pc (as.map (tv g)) (BB g b N σ)) (as.map (tv g)) := ⟨BB_blind _, fun U hU hW => ⟨rfl, BB_pre hK C.2.2.2.2.2.2.2.2.2.2.2.2.2.1 (by have := C.2.2.2.2.2.2.2.2.2.2.2.2.2.2; omega) hR hU hW⟩⟩
  have hrun : va_Run p l e R s m args below meth c H locs (N - N0) (SL N - SL N0) (N1 - N) (SL N1 - SL N) (F0 m pc rls ((as.reverse ++ st).map (tv g))) (st.map (tv g)) (QQ g b M' N1 (fun r σ' => XX g b (d + 1) M (pc + 3) ls (rtl M' r ++ st) N1 σ' N' Q) (as.map (tv g)).toArray) (pA g) := by
    rw [eW]
    rcases hl with hl | ⟨h, hl⟩
    · exact va_runS (As := as.map (tv g)) (rest := st.map (tv g)) ⟨C.1, C.2.1, C.2.2.1, C.2.2.2.2.2.1, hts⟩ hM ⟨callB_of n hts (WS_goodc f4) rfl rfl rfl (hts _ f5) (hts _ hl) f6 ⟨hfr, hroom2⟩, hts _ hi⟩ hpre rfl (by rw [List.length_map]; exact hn) hL.1 rfl (hroom hw) hd hrm
    · exact va_runSN (As := as.map (tv g)) (rest := st.map (tv g)) ⟨C.1, C.2.1, C.2.2.1, C.2.2.2.2.2.1, hts⟩ hM ⟨va_cnB n hts (WS_goodc f4) rfl rfl rfl (C.2.2.2.2.2.2.2.2.2.2.2.2.2.1.2.2.2.2.2.2 _ hl) (hts _ f5) f6 ⟨hfr, hroom2⟩, hts _ hi, trivial⟩ hpre rfl (by rw [List.length_map]; exact hn) hL.1 rfl (hroom hw) hd hrm
  refine E_after hrun hR.2.2.2.2 ?_
  intro r σ' H1 locs1 hq hR1 hrk
  rw [show N - N0 + (N1 - N) = N1 - N0 by omega, show SL N - SL N0 + (SL N1 - SL N) = SL N1 - SL N0 by omega, ← List.map_append]
  exact hq p l e R s m args below meth c H1 locs1 N0 rls Qf C (Nat.le_trans hN hN1.1) hR1 hL ho (okl_app hrk hrest) hret
/-- a constructor -/
theorem E_callI {n : Nat} {as : List PV} {a : Int} {idx ci nf : Nat} {st0 : List PV} (pc' : Nat) (hd : decode M.2.2.1 pc = .ok (.invokespecial idx, 3)) (hF : CF M' n) (hrn : M'.2.2.2.2 = none) (hnm : M'.2.1.name = "<init>") (hl : Cond.methodLink M.1 idx M'.2.1 ∈ WS ∨ ∃ h, (M.1, idx, M'.2.1, h) ∈ nestW) (hi : Cond.instanceMethod M'.2.1 ∈ WS) (hA : Fat N a (ci, nf)) (hst : as.reverse ++ (2, a) :: st = st0) (hn : as.length = n) (hlen : (flatL ((2, a) :: as)).length ≤ M'.2.2.2.1) (hw : wsum st ≤ 8) (hN1 : N ≤ N1 ∧ N1 ≤ N') (hp : pc + 3 = pc')
    (k : XX g b d M' 0 (padL M'.2.2.2.1 ((2, a) :: as)) [] N σ N1 (fun _ σ' => XX g b (d + 1) M pc' ls st N1 σ' N' Q)) : XX g b (d + 1) M pc ls st0 N σ N' Q := by
  intro p l e R s m args below meth c H locs N0 rls Qf C hN hR hL ho hsk hret
  subst hp
  subst hst
  obtain ⟨kk, rfl, hk1, hk2, hk3⟩ := hA.nat
  have hK := C.2.2.2.2.2.2.2.2.2.2.2.2.1
  have hts := C.2.2.2.2.2.2.1
  have m1 := SL_mono hN
  have m2 := SL_mono hN1.1
  have m3 := SL_mono hN1.2
  have hasok : okl as := fun w hw => hsk w (List.mem_append_left _ (List.mem_reverse.mpr hw))
  have hrest : okl st := fun w hw => hsk w (List.mem_append_right _ (List.mem_cons_of_mem _ hw))
  have hM := XX_met k hF hlen (okl_k (okv2 _) hasok) l
  obtain ⟨f1, f2, f3, f4, f5, f6, f7⟩ := hF
  have hfr := C.2.2.2.2.2.2.2.2.1
  have hlo := C.2.2.2.2.2.2.2.2.2.1
  have hroom2 : 8 + (M'.2.2.2.1 + 11) + (Mrm d N N1).locals ≤ R.locals := by show 8 + (M'.2.2.2.1 + 11) + 40 * d ≤ R.locals; omega
  have eW : (as.reverse ++ (2, ((kk : Nat) : Int)) :: st).map (tv g) = (as.map (tv g)).reverse ++ .ref (g.1 + kk) :: st.map (tv g) := by
    rw [List.map_append, List.map_reverse, List.map_cons, tv_ref g (by omega) (by omega), Int.toNat_natCast]
  have eA : ((2, ((kk : Nat) : Int)) :: as).map (tv g) = .ref (g.1 + kk) :: as.map (tv g) := by
    rw [List.map_cons, tv_ref g (by omega) (by omega), Int.toNat_natCast]
  rw [eA] at hM
  have hrm : N - N0 + (N1 - N) ≤ R.cells ∧ SL N - SL N0 + (SL N1 - SL N) ≤ R.slots := ⟨by have := C.2.2.2.2.2.2.2.2.2.2.1; omega, by have := C.2.2.2.2.2.2.2.2.2.2.2.1; omega⟩
  have hpre : PreS s H (va_Pc (.ref (g.1 + kk) :: as.map (tv g)) (BB g b N σ)) (.ref (g.1 + kk) :: as.map (tv g)) := ⟨BB_blind _, fun U hU hW => ⟨rfl, BB_pre hK C.2.2.2.2.2.2.2.2.2.2.2.2.2.1 (by have := C.2.2.2.2.2.2.2.2.2.2.2.2.2.2; omega) hR hU hW⟩⟩
  have f4' := f4
  rw [hrn] at f4'
  have hrun : va_Run p l e R s m args below meth c H locs (N - N0) (SL N - SL N0) (N1 - N) (SL N1 - SL N) (F0 m pc rls ((as.reverse ++ (2, ((kk : Nat) : Int)) :: st).map (tv g))) (st.map (tv g)) (QQ g b M' N1 (fun _ σ' => XX g b (d + 1) M (pc + 3) ls st N1 σ' N' Q) (.ref (g.1 + kk) :: as.map (tv g)).toArray) (pA g) := by
    rw [eW]
    have hMws : Mws M' = Cond.code M'.2.1 M'.2.2.1 M'.2.2.2.1 none :: WS := by show Cond.code _ _ _ M'.2.2.2.2 :: WS = _; rw [hrn]
    rcases hl with hl | ⟨h, hl⟩
    · exact va_runI (As := as.map (tv g)) (rest := st.map (tv g)) ⟨C.1, C.2.1, C.2.2.1, C.2.2.2.2.2.1, hts⟩ hM (cwI n hts (by rw [hMws]; exact WS_goodc f4') hMws rfl rfl (hts _ f5) (hts _ hl) (hts _ hi) hnm f6 ⟨hfr, hroom2⟩) hpre rfl (by rw [List.length_map]; exact hn) hL.1 rfl (hroom hw) hd hrm
    · exact va_runIN (As := as.map (tv g)) (rest := st.map (tv g)) ⟨C.1, C.2.1, C.2.2.1, C.2.2.2.2.2.1, hts⟩ hM ⟨va_cnB n hts (by rw [hMws]; exact WS_goodc f4') hMws rfl rfl (C.2.2.2.2.2.2.2.2.2.2.2.2.2.1.2.2.2.2.2.2 _ hl) (hts _ f5) f6 ⟨hfr, hroom2⟩, hnm, hts _ hi⟩ hpre rfl (by rw [List.length_map]; exact hn) hL.1 rfl (hroom hw) hd hrm
  refine E_after hrun hR.2.2.2.2 ?_
  intro r σ' H1 locs1 hq hR1 hrk
  have er : rtl M' r = [] := by unfold rtl; rw [hrn]
  rw [show N - N0 + (N1 - N) = N1 - N0 by omega, show SL N - SL N0 + (SL N1 - SL N) = SL N1 - SL N0 by omega, er]
  exact hq p l e R s m args below meth c H1 locs1 N0 rls Qf C (Nat.le_trans hN hN1.1) hR1 hL ho hrest hret
end PCALL
