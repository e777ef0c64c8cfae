/-! THE JUDGEMENT: from this picture of the frame and the store the method comes to its end with an answer and a store of Q; all of the machine is inside -/
def pA (g : PG) : Nat → Prop := fun q => g.1 ≤ q
def atys (g : PG) : List (ClassId × FieldType) := [(g.2.2.1 20, .int), (g.2.2.1 21, .long), (g.2.2.1 22, .byte), (g.2.2.1 23, .boolean)]
def ent (g : PG) (σ : PS) (k : Nat) : va_E :=
  if (kd k).1 < 20 then .inr ((kd k).1, (List.range (kd k).2).map fun j => tv g (fty (kd k).1 j, σ k j))
  else if (kd k).1 = 21 then .inl (g.2.2.1 21, (kd k).2, .inr (.inl fun j => Int64.ofInt (σ k j)))
  else .inl (g.2.2.1 (kd k).1, (kd k).2, .inl fun j => Int32.ofInt (σ k j))
def pws (g : PG) (N : Nat) (σ : PS) : va_W := (List.range N).map fun k => (g.1 + k, ent g σ k)
def okS (N : Nat) (σ : PS) : Prop := ∀ k : Nat, k < N → ∀ j : Nat, okv (sty k j, σ k j)
def Lay (σ : PS) : Prop := ∀ q ∈ layl, σ q.1 (q.2.1 : Nat) = q.2.2
def leastT (j : Nat) : Int := ([0, 1, 0, 1, 0, 0, 0, 0] : List Int).getD j 0
def mostT (j : Nat) : Int := ([99, 9, 20, 99, 99, 9999, 999, 999] : List Int).getD j 0
def wordsT : List Int := ("go change when and or not weak age sort beside place size load day mid gone phase since side any in shape there all ".toList).map fun c => (c.toNat : Int)
def nestW : List (String × Nat × MethodName × String) := [("NoTwoTogether", 11, ⟨"NoTwoTogether$Tape", "<init>", "()V"⟩, "NoTwoTogether"), ("NoTwoTogether$Parser", 11, ⟨"NoTwoTogether$Lines", "<init>", "()V"⟩, "NoTwoTogether"), ("NoTwoTogether", 27, ⟨"NoTwoTogether$Texts", "<init>", "()V"⟩, "NoTwoTogether"), ("NoTwoTogether$Texts", 9, ⟨"NoTwoTogether$Lines", "<init>", "()V"⟩, "NoTwoTogether"), ("NoTwoTogether", 37, ⟨"NoTwoTogether$Row", "<init>", "()V"⟩, "NoTwoTogether"), ("NoTwoTogether", 50, ⟨"NoTwoTogether$Asker", "<init>", "()V"⟩, "NoTwoTogether"), ("NoTwoTogether$Asker", 53, ⟨"NoTwoTogether", "bit", "(JI)I"⟩, "NoTwoTogether"), ("NoTwoTogether$Asker", 43, ⟨"NoTwoTogether", "besideIn", "(JI)I"⟩, "NoTwoTogether"), ("NoTwoTogether$Breaks", 28, ⟨"NoTwoTogether", "bit", "(JI)I"⟩, "NoTwoTogether"), ("NoTwoTogether$Bridge", 38, ⟨"NoTwoTogether", "besideIn", "(JI)I"⟩, "NoTwoTogether"), ("NoTwoTogether$Bridge", 47, ⟨"NoTwoTogether", "bit", "(JI)I"⟩, "NoTwoTogether"), ("NoTwoTogether$Odds", 42, ⟨"NoTwoTogether", "bit", "(JI)I"⟩, "NoTwoTogether"), ("NoTwoTogether$Odds", 52, ⟨"NoTwoTogether", "besideIn", "(JI)I"⟩, "NoTwoTogether"), ("NoTwoTogether$Future", 79, ⟨"NoTwoTogether", "bit", "(JI)I"⟩, "NoTwoTogether"), ("NoTwoTogether$Future", 83, ⟨"NoTwoTogether", "besideIn", "(JI)I"⟩, "NoTwoTogether"), ("NoTwoTogether$Tries", 54, ⟨"NoTwoTogether", "bit", "(JI)I"⟩, "NoTwoTogether")]
def Sf (g : PG) (U : State) (H : Heap) : Prop :=
  (∃ t, g.2.2.2.1 0 = some t ∧ va_Z "NoTwoTogether" "LEAST_TOLD" "[I" (.ref t) (pA g) U H ∧ va_T .int t 8 (fun j => .int (Int32.ofInt (leastT j))) (pA g) U H) ∧
  (∃ t, g.2.2.2.1 1 = some t ∧ va_Z "NoTwoTogether" "MOST_TOLD" "[I" (.ref t) (pA g) U H ∧ va_T .int t 8 (fun j => .int (Int32.ofInt (mostT j))) (pA g) U H) ∧
  (∃ t, g.2.2.2.1 2 = some t ∧ va_X t g.2.2.2.2.1 g.2.2.2.2.2 U H ∧ t < g.1) ∧
  (∃ t v, g.2.2.2.1 3 = some t ∧ g.2.2.2.1 4 = some v ∧ vk_R RX8 57 "go change when and or not weak age sort beside place size load day mid gone phase since side any in shape there all " t U ∧ va_O "java/lang/String" t (pA g) U H ∧ va_OF "java/lang/String" "coder" "B" (.int 0) t (pA g) U H ∧ va_OF "java/lang/String" "value" "[B" (.ref v) t (pA g) U H ∧ va_T .byte v wordsT.length (fun j => .int (Int32.ofInt (wordsT.getD j 0))) (pA g) U H) ∧
  va_Z "java/lang/String" "COMPACT_STRINGS" "Z" (.int 1) (pA g) U H ∧
  va_Z "jdk/internal/util/Preconditions" "SIOOBE_FORMATTER" "Ljava/util/function/BiFunction;" (va_rf (g.2.2.2.1 5)) (pA g) U H ∧
  (∀ w ∈ nestW, va_Nw (.methodLinkNest w.1 w.2.1 w.2.2.1 w.2.2.2) U)
theorem Sf_move {g : PG} {u U : State} {H H1 : Heap} (hW : u.WarmedH U.vm) (hq : ∀ a : Nat, a < H.size → ¬ pA g a → H1[a]? = H[a]?) (hn : g.1 ≤ H.size) (h : Sf g u H) : Sf g U H1 := by
  obtain ⟨⟨t0, a1, a2, a3⟩, ⟨t1, b1, b2, b3⟩, ⟨t2, c1, c2, c3⟩, ⟨t3, v3, d1, d2, d3, d4, d5, d6, d7⟩, e1, e2, e3⟩ := h
  have al := hW.alike
  refine ⟨⟨t0, a1, (a2.moved al).kept hq, (a3.moved al).kept hq⟩, ⟨t1, b1, (b2.moved al).kept hq, (b3.moved al).kept hq⟩, ⟨t2, c1, (c2.moved al).kept (hq t2 (by omega) (by unfold pA; omega)), c3⟩, ⟨t3, v3, d1, d2, d3.warm hW, (d4.moved al).kept hq, (d5.moved al).kept hq, (d6.moved al).kept hq, (d7.moved al).kept hq⟩, (e1.moved al).kept hq, (e2.moved al).kept hq, fun w hw => (e3 w hw).warmM hW⟩
theorem pws_at {g : PG} {N : Nat} {σ : PS} {k : Nat} (h : k < N) : (pws g N σ)[k]? = some (g.1 + k, ent g σ k) := by
  unfold pws
  rw [List.getElem?_map, List.getElem?_range h]
  rfl
theorem pws_out {g : PG} {N : Nat} {σ : PS} {k : Nat} {q : Nat × va_E} (h : (pws g N σ)[k]? = some q) : k < N ∧ q = (g.1 + k, ent g σ k) := by
  unfold pws at h
  rw [List.getElem?_map] at h
  by_cases hk : k < N
  · rw [List.getElem?_range hk] at h
    exact ⟨hk, (Option.some.inj h).symm⟩
  · rw [List.getElem?_eq_none (by simpa using hk)] at h
    cases h
theorem pws_D (g : PG) (N : Nat) (σ : PS) : va_D (pA g) (pws g N σ) := by
  refine ⟨fun i j p q hi hj hpq => ?_, fun k q hk => ?_⟩
  · obtain ⟨-, e1⟩ := pws_out hi
    obtain ⟨-, e2⟩ := pws_out hj
    rw [e1, e2] at hpq
    simp only at hpq
    omega
  · obtain ⟨-, e1⟩ := pws_out hk
    rw [e1]
    show g.1 ≤ g.1 + k
    omega
theorem pws_set {g : PG} {N : Nat} {σ σ' : PS} {k : Nat} {e : va_E} (he : ent g σ' k = e) (ho : ∀ i, i < N → i ≠ k → ent g σ' i = ent g σ i) : (pws g N σ).set k (g.1 + k, e) = pws g N σ' := by
  apply List.ext_getElem?
  intro i
  rw [List.getElem?_set]
  by_cases hi : k = i
  · subst hi
    rw [if_pos rfl]
    by_cases hk : k < N
    · rw [pws_at hk, if_pos (by simpa [pws] using hk), he]
    · rw [if_neg (by simpa [pws] using hk)]
      symm
      rw [List.getElem?_eq_none_iff]
      simpa [pws] using hk
  · rw [if_neg hi]
    by_cases hk : i < N
    · rw [pws_at hk, pws_at hk, ho i hk (fun z => hi z.symm)]
    · rw [List.getElem?_eq_none (by simpa [pws] using hk), List.getElem?_eq_none (by simpa [pws] using hk)]
theorem ent_eq {g : PG} {σ σ' : PS} {k : Nat} (h : ∀ j : Nat, σ' k j = σ k j) : ent g σ' k = ent g σ k := by
  unfold ent
  simp only [h]
theorem su_ne {σ : PS} {a j v : Int} {k i : Int} (h : k ≠ a ∨ i ≠ j) : su σ a j v k i = σ k i := by
  unfold su
  rw [if_neg]
  rintro ⟨h1, h2⟩
  rcases h with h | h
  · exact h h1
  · exact h h2
theorem su_eq {σ : PS} {a j v : Int} : su σ a j v a j = v := by unfold su; rw [if_pos ⟨rfl, rfl⟩]
theorem ent_su_ne {g : PG} {σ : PS} {a j v : Int} {k : Nat} (h : (k : Int) ≠ a) : ent g (su σ a j v) k = ent g σ k := ent_eq fun i => su_ne (Or.inl h)
theorem ent_obj {g : PG} {σ : PS} {k ci nf : Nat} (h : kd k = (ci, nf)) (hc : ci < 20) : ent g σ k = .inr (ci, (List.range nf).map fun j => tv g (fty ci j, σ k j)) := by
  unfold ent
  rw [h]
  simp only
  rw [if_pos hc]
theorem ent_arI {g : PG} {σ : PS} {k t n : Nat} (h : kd k = (t, n)) (hc : ¬ t < 20) (h1 : ¬ t = 21) : ent g σ k = .inl (g.2.2.1 t, n, .inl fun j => Int32.ofInt (σ k j)) := by
  unfold ent
  rw [h]
  simp only
  rw [if_neg hc, if_neg h1]
theorem ent_arL {g : PG} {σ : PS} {k n : Nat} (h : kd k = (21, n)) : ent g σ k = .inl (g.2.2.1 21, n, .inr (.inl fun j => Int64.ofInt (σ k j))) := by
  unfold ent
  rw [h]
  simp only
  rw [if_neg (by decide)]
  simp
theorem fs_set0 {α : Type} (f f' : Nat → α) {nf j : Nat} {v : α} (hj : j < nf) (h1 : f' j = v) (h2 : ∀ i, i ≠ j → f' i = f i) : ((List.range nf).map f).set j v = (List.range nf).map f' := by
  apply List.ext_getElem?
  intro i
  rw [List.getElem?_set]
  by_cases hi : j = i
  · subst hi
    rw [if_pos rfl, if_pos (by rw [List.length_map, List.length_range]; exact hj), List.getElem?_map, List.getElem?_range hj, Option.map_some, h1]
  · rw [if_neg hi, List.getElem?_map, List.getElem?_map]
    by_cases h : i < nf
    · rw [List.getElem?_range h, Option.map_some, Option.map_some, h2 i (fun z => hi z.symm)]
    · rw [List.getElem?_eq_none (by rw [List.length_range]; omega)]
      rfl
theorem fs_set {g : PG} {σ : PS} {k ci nf j : Nat} {v : Int} (hj : j < nf) : ((List.range nf).map fun i => tv g (fty ci i, σ k i)).set j (tv g (fty ci j, v)) = (List.range nf).map fun i => tv g (fty ci i, su σ k j v k i) :=
  fs_set0 _ _ hj (by rw [su_eq]) fun i hi => by rw [su_ne (Or.inr (by omega))]
def PCx (g : PG) (d : Nat) (M : PM) (p : Program) (R : Room) (s : State) (m : MethodId) (args : Array Value) (meth : Method) (c : Code) (N0 N' : Nat) : Prop :=
  p.tables.exec = Jvm.exec ∧ c.code = M.2.2.1 ∧ c.maxLocals = M.2.2.2.1 ∧ meth.sig.returnType = M.2.2.2.2 ∧ meth.locks = false ∧ s.vm.findClass M.1 = some m.cls ∧ (∀ w ∈ WS, w.before args s = true) ∧ (M.2.1.name = "<init>" → meth.name = "<init>") ∧ d ≤ R.frames ∧ 40 * d ≤ R.locals ∧ N' - N0 ≤ R.cells ∧ SL N' - SL N0 ≤ R.slots ∧ va_K g.2.1 classes (atys g) s ∧ Sf g s s.heap ∧ s.heap.size = g.1 + N0
def PRl (g : PG) (b : Bool) (N : Nat) (σ : PS) (s : State) (H : Heap) (locs : List Loc) : Prop :=
  va_P g.2.1 classes (pws g N σ) H ∧ H.size = g.1 + N ∧ okS N σ ∧ (b = true → Lay σ) ∧ va_S (pA g) s.heap H locs
def rtl (M : PM) (r : Int) : List PV := match M.2.2.2.2 with
  | none => []
  | some .long => [(1, r)]
  | some (.object _) => [(2, r)]
  | some (.array _) => [(2, r)]
  | _ => [(0, r)]
def rin (M : PM) (pc : Nat) : Prop := decode M.2.2.1 pc = .ok (match M.2.2.2.2 with
  | none => .return_
  | some .long => .lreturn
  | some (.object _) => .areturn
  | some (.array _) => .areturn
  | _ => .ireturn, 1)
def rnw (M : PM) (r : Int) : Prop := ∀ ty : FieldType, M.2.2.2.2 = some ty → ty = .boolean ∨ ty = .char ∨ ty = .byte ∨ ty = .short → narrow ty (.int (Int32.ofInt r)) = .int (Int32.ofInt r)
def XX (g : PG) (b : Bool) (d : Nat) (M : PM) (pc : Nat) (ls st : List PV) (N : Nat) (σ : PS) (N' : Nat) (Q : Int → PS → Prop) : Prop :=
  ∀ (p : Program) (l : Launch) (e : Env) (R : Room) (s : State) (m : MethodId) (args : Array Value) (below : List Frame) (meth : Method) (c : Code) (H : Heap) (locs : List Loc) (N0 : Nat) (rls : Array Slot) (Qf : State → Prop),
    PCx g d M p R s m args meth c N0 N' → N0 ≤ N → PRl g b N σ s H locs → LRl g rls M.2.2.2.1 ls → okl ls → okl st →
    (∀ (r : Int) (σ' : PS) (H' : Heap) (locs' : List Loc) (pc' : Nat) (rls' : Array Slot), Q r σ' → PRl g b N' σ' s H' locs' → okl (rtl M r) → rin M pc' → rnw M r →
      W p l e R s m args below meth c H' locs' (N' - N0) (SL N' - SL N0) Qf (F0 m pc' rls' ((rtl M r).map (tv g)))) →
    W p l e R s m args below meth c H locs (N - N0) (SL N - SL N0) Qf (F0 m pc rls (st.map (tv g)))
theorem XX.mono {g : PG} {b : Bool} {d : Nat} {M : PM} {pc : Nat} {ls st : List PV} {N : Nat} {σ : PS} {N' : Nat} {Q Q' : Int → PS → Prop} (h : XX g b d M pc ls st N σ N' Q) (hq : ∀ r σ', Q r σ' → Q' r σ') : XX g b d M pc ls st N σ N' Q' :=
  fun p l e R s m args below meth c H locs N0 rls Qf C hN hR hL ho hs hret => h p l e R s m args below meth c H locs N0 rls Qf C hN hR hL ho hs fun r σ' H' locs' pc' rls' q => hret r σ' H' locs' pc' rls' (hq r σ' q)
theorem XX.deep {g : PG} {b : Bool} {d d' : Nat} {M : PM} {pc : Nat} {ls st : List PV} {N : Nat} {σ : PS} {N' : Nat} {Q : Int → PS → Prop} (h : XX g b d M pc ls st N σ N' Q) (hd : d ≤ d') : XX g b d' M pc ls st N σ N' Q := by
  intro p l e R s m args below meth c H locs N0 rls Qf C
  refine h p l e R s m args below meth c H locs N0 rls Qf ?_
  obtain ⟨h1, h2, h3, h4, h5, h6, h7, h8, h9, h10, h11⟩ := C
  exact ⟨h1, h2, h3, h4, h5, h6, h7, h8, Nat.le_trans hd h9, Nat.le_trans (Nat.mul_le_mul_left 40 hd) h10, h11⟩
theorem XX.fg {g : PG} {b : Bool} {d : Nat} {M : PM} {pc : Nat} {ls st : List PV} {N : Nat} {σ : PS} {N' : Nat} {Q : Int → PS → Prop} (ks : List Nat) (ls' : List PV) (e : fg ls ks = ls') (h : XX g b d M pc ls' st N σ N' Q) : XX g b d M pc ls st N σ N' Q := by
  intro p l e R s m args below meth c H locs N0 rls Qf C hN hR hL ho hs hret
  subst ls'
  exact h p l e R s m args below meth c H locs N0 rls Qf C hN hR (hL.less fun i w h1 h2 => fg_get h1 h2) (fg_ok ho) hs hret
