/-! THE START: what the Statement gives, as the judgement wants it -/
abbrev nrT : Jvm.Cond := Jvm.Cond.and given_1 narrow_1
theorem st_least : ∀ j, j < 8 → (flatC nrT)[7 + j]? = some (Cond.eq (.elem (.static "NoTwoTogether" "LEAST_TOLD" "[I") (.int (Int32.ofNat j))) (.int (Int32.ofInt (leastT j)))) := by decide +kernel
theorem st_most : ∀ j, j < 8 → (flatC nrT)[18 + j]? = some (Cond.eq (.elem (.static "NoTwoTogether" "MOST_TOLD" "[I") (.int (Int32.ofNat j))) (.int (Int32.ofInt (mostT j)))) := by decide +kernel
abbrev strT : Term := Term.string "NoTwoTogether$Tape" 57
def wordB : List Int32 := wordsT.map Int32.ofInt
theorem st_word : ∀ j, j < 116 → (flatC nrT)[35 + j]? = some (Cond.eq (.elem (.field strT "java/lang/String" "value" "[B") (.int (Int32.ofNat j))) (.int (wordB.getD j 0))) := by decide +kernel
theorem st_4 : (flatC nrT)[4]? = some (Cond.isRef (.static "NoTwoTogether" "LEAST_TOLD" "[I")) := by decide +kernel
theorem st_5 : (flatC nrT)[5]? = some (Cond.arrayOf (.static "NoTwoTogether" "LEAST_TOLD" "[I") .int) := by decide +kernel
theorem st_6 : (flatC nrT)[6]? = some (Cond.eq (.length (.static "NoTwoTogether" "LEAST_TOLD" "[I")) (.int 8)) := by decide +kernel
theorem st_15 : (flatC nrT)[15]? = some (Cond.isRef (.static "NoTwoTogether" "MOST_TOLD" "[I")) := by decide +kernel
theorem st_16 : (flatC nrT)[16]? = some (Cond.arrayOf (.static "NoTwoTogether" "MOST_TOLD" "[I") .int) := by decide +kernel
theorem st_17 : (flatC nrT)[17]? = some (Cond.eq (.length (.static "NoTwoTogether" "MOST_TOLD" "[I")) (.int 8)) := by decide +kernel
theorem st_26 : (flatC nrT)[26]? = some (Cond.eq (.static "java/lang/String" "COMPACT_STRINGS" "Z") (.int 1)) := by decide +kernel
theorem st_27 : (flatC nrT)[27]? = some (Cond.isRef (.static "jdk/internal/util/Preconditions" "SIOOBE_FORMATTER" "Ljava/util/function/BiFunction;")) := by decide +kernel
theorem st_31 : (flatC nrT)[31]? = some (Cond.exactly strT "java/lang/String") := by decide +kernel
theorem st_32 : (flatC nrT)[32]? = some (Cond.eq (.field strT "java/lang/String" "coder" "B") (.int 0)) := by decide +kernel
theorem st_33 : (flatC nrT)[33]? = some (Cond.arrayOf (.field strT "java/lang/String" "value" "[B") .byte) := by decide +kernel
theorem st_34 : (flatC nrT)[34]? = some (Cond.eq (.length (.field strT "java/lang/String" "value" "[B")) (.int 116)) := by decide +kernel
theorem nest_in : ∀ w ∈ nestW, Cond.methodLinkNest w.1 w.2.1 w.2.2.1 w.2.2.2 ∈ lw_tbl := by
  intro w hw
  simp only [nestW, List.mem_cons, List.not_mem_nil, or_false] at hw
  rcases hw with rfl | rfl | rfl | rfl | rfl | rfl | rfl | rfl | rfl | rfl | rfl | rfl | rfl | rfl | rfl | rfl
  · exact List.mem_append_right _ (List.mem_append_left _ ((List.mem_of_getElem? (i := 33) rfl : _ ∈ tables_1_1)))
  · exact List.mem_append_right _ (List.mem_append_left _ ((List.mem_of_getElem? (i := 69) rfl : _ ∈ tables_1_1)))
  · exact List.mem_append_right _ (List.mem_append_left _ ((List.mem_of_getElem? (i := 135) rfl : _ ∈ tables_1_1)))
  · exact List.mem_append_right _ (List.mem_append_left _ ((List.mem_of_getElem? (i := 140) rfl : _ ∈ tables_1_1)))
  · exact List.mem_append_right _ (List.mem_append_left _ ((List.mem_of_getElem? (i := 166) rfl : _ ∈ tables_1_1)))
  · exact List.mem_append_right _ (List.mem_append_right _ (List.mem_append_left _ ((List.mem_of_getElem? (i := 32) rfl : _ ∈ tables_1_2))))
  · exact List.mem_append_right _ (List.mem_append_right _ (List.mem_append_right _ (List.mem_append_left _ ((List.mem_of_getElem? (i := 238) rfl : _ ∈ tables_1_3)))))
  · exact List.mem_append_right _ (List.mem_append_right _ (List.mem_append_right _ (List.mem_append_right _ (List.mem_append_left _ ((List.mem_of_getElem? (i := 22) rfl : _ ∈ tables_1_4))))))
  · exact List.mem_append_right _ (List.mem_append_right _ (List.mem_append_right _ (List.mem_append_right _ (List.mem_append_left _ ((List.mem_of_getElem? (i := 40) rfl : _ ∈ tables_1_4))))))
  · exact List.mem_append_right _ (List.mem_append_right _ (List.mem_append_right _ (List.mem_append_right _ (List.mem_append_left _ ((List.mem_of_getElem? (i := 54) rfl : _ ∈ tables_1_4))))))
  · exact List.mem_append_right _ (List.mem_append_right _ (List.mem_append_right _ (List.mem_append_right _ (List.mem_append_left _ ((List.mem_of_getElem? (i := 56) rfl : _ ∈ tables_1_4))))))
  · exact List.mem_append_right _ (List.mem_append_right _ (List.mem_append_right _ (List.mem_append_right _ (List.mem_append_left _ ((List.mem_of_getElem? (i := 90) rfl : _ ∈ tables_1_4))))))
  · exact List.mem_append_right _ (List.mem_append_right _ (List.mem_append_right _ (List.mem_append_right _ (List.mem_append_left _ ((List.mem_of_getElem? (i := 91) rfl : _ ∈ tables_1_4))))))
  · exact List.mem_append_right _ (List.mem_append_right _ (List.mem_append_right _ (List.mem_append_right _ (List.mem_append_left _ ((List.mem_of_getElem? (i := 141) rfl : _ ∈ tables_1_4))))))
  · exact List.mem_append_right _ (List.mem_append_right _ (List.mem_append_right _ (List.mem_append_right _ (List.mem_append_left _ ((List.mem_of_getElem? (i := 142) rfl : _ ∈ tables_1_4))))))
  · exact List.mem_append_right _ (List.mem_append_right _ (List.mem_append_right _ (List.mem_append_right _ (List.mem_append_left _ ((List.mem_of_getElem? (i := 201) rfl : _ ∈ tables_1_4))))))
theorem wordB_get (j : Nat) : wordB.getD j 0 = Int32.ofInt (wordsT.getD j 0) := by
  unfold wordB
  rw [List.getD_eq_getElem?_getD, List.getD_eq_getElem?_getD, List.getElem?_map]
  cases wordsT[j]? with
  | none => rfl
  | some x => rfl
theorem start_static {s : State} {A : Array Value} {g : PG} {C nm : String} {f : Nat → Int} (hg : g.1 = s.heap.size) (hl : (Cond.laysStatic C nm "[I").before A s = true) (hi : (Cond.initialized C).before A s = true) (har : (Cond.arrayOf (.static C nm "[I") .int).before A s = true) (hlen : (Cond.eq (.length (.static C nm "[I")) (.int 8)).before A s = true) (hel : ∀ j, j < 8 → (Cond.eq (.elem (.static C nm "[I") (.int (Int32.ofNat j))) (.int (Int32.ofInt (f j)))).before A s = true) :
    ∃ t, va_Z C nm "[I" (.ref t) (pA g) s s.heap ∧ va_T .int t 8 (fun j => .int (Int32.ofInt (f j))) (pA g) s s.heap := by
  have hA : ∀ a : Nat, a < s.heap.size → ¬ pA g a := fun a ha => by unfold pA; omega
  obtain ⟨t, h1, h2⟩ := va_Tof (N := 8) (f := fun j => .int (Int32.ofInt (f j))) (by decide) har (va_eqt hlen) (fun j hj => va_eqt (hel j hj)) hA
  exact ⟨t, va_Zof hl hi h1 hA, h2⟩
theorem start_Sf {s : State} {b L : Nat} {xs : Nat → Int32} {D : va_G} {cA : Nat → ClassId} (hts : ∀ w ∈ lw_tbl, w.before #[Value.ref b] s = true) (hX : va_X b L xs s s.heap) (hbl : b < s.heap.size) (hgv : nrT.before #[Value.ref b] s = true) :
    ∃ sv : Nat → Option Nat, sv 2 = some b ∧ Sf (s.heap.size, D, cA, sv, L, xs) s s.heap := by
  have hq := flat_of_before _ hgv
  have hat : ∀ {i : Nat} {w : Cond}, (flatC nrT)[i]? = some w → w.before #[Value.ref b] s = true := fun h => hq _ (List.mem_of_getElem? h)
  have hA : ∀ (g : PG), g.1 = s.heap.size → ∀ a : Nat, a < s.heap.size → ¬ pA g a := fun g hg a ha => by unfold pA; omega
  obtain ⟨t0, a1, a2⟩ := start_static (s := s) (g := (s.heap.size, D, cA, fun _ => none, L, xs)) (f := leastT) rfl (hts _ (List.mem_append_right _ (List.mem_append_right _ (List.mem_append_left _ ((List.mem_of_getElem? (i := 210) rfl : _ ∈ tables_1_2)))))) (hts _ (WS_tbl mw_108)) (hat st_5) (hat st_6) (fun j hj => hat (st_least j hj))
  obtain ⟨t1, b1, b2⟩ := start_static (s := s) (g := (s.heap.size, D, cA, fun _ => none, L, xs)) (f := mostT) rfl (hts _ (List.mem_append_right _ (List.mem_append_right _ (List.mem_append_left _ ((List.mem_of_getElem? (i := 212) rfl : _ ∈ tables_1_2)))))) (hts _ (WS_tbl mw_108)) (hat st_16) (hat st_17) (fun j hj => hat (st_most j hj))
  obtain ⟨adK, adV, ⟨hS, -⟩, hT⟩ := vk_Sof (N := 1) (tm := fun _ => strT) (len := [116]) (byt := [wordB]) (A := fun q => s.heap.size ≤ q) (args := #[Value.ref b]) (s := s) (fun i hi => by rw [show i = 0 by omega]; decide) (fun i hi => hat st_31) (fun i hi => hat st_32) (fun i hi => hat st_33) (fun i hi => by rw [show i = 0 by omega]; exact hat st_34) (fun i hi j hj => by
    rw [show i = 0 by omega] at hj ⊢
    have h9 := hat (st_word j hj)
    simp only [List.getD_cons_zero]
    exact h9) (fun i j hi hj hne => by omega) (fun a ha => Nat.not_le.mpr ha)
  obtain ⟨s1, s2, s3, s4⟩ := hS 0 (by decide)
  have hsr := hT 0 (by decide)
  have hsio := va_Zqof (A := fun q => s.heap.size ≤ q) (hts _ (List.mem_append_right _ (List.mem_append_right _ (List.mem_append_right _ (List.mem_append_left _ ((List.mem_of_getElem? (i := 48) rfl : _ ∈ tables_1_3))))))) (hts _ (WS_tbl mw_124)) (hat st_27) (fun a ha => Nat.not_le.mpr ha)
  obtain ⟨r5, hr5⟩ : ∃ r : Option Nat, va_Z "jdk/internal/util/Preconditions" "SIOOBE_FORMATTER" "Ljava/util/function/BiFunction;" (va_rf r) (fun q => s.heap.size ≤ q) s s.heap := by
    rcases hsio with h | ⟨t, h⟩
    · exact ⟨none, h⟩
    · exact ⟨some t, h⟩
  refine ⟨fun k => if k = 0 then some t0 else if k = 1 then some t1 else if k = 2 then some b else if k = 3 then some (adK 0) else if k = 4 then some (adV 0) else r5, rfl, ⟨t0, rfl, a1, a2⟩, ⟨t1, rfl, b1, b2⟩, ⟨b, rfl, hX, hbl⟩, ⟨adK 0, adV 0, rfl, rfl, vk_R.of (hts _ (List.mem_append_right _ (List.mem_append_right _ (List.mem_append_right _ (List.mem_append_left _ ((List.mem_of_getElem? (i := 22) rfl : _ ∈ tables_1_3))))))) hsr, s1, s2, s3, ?_⟩, va_Zof (hts _ (List.mem_append_right _ (List.mem_append_right _ (List.mem_append_right _ (List.mem_append_left _ ((List.mem_of_getElem? (i := 32) rfl : _ ∈ tables_1_3))))))) (hts _ (WS_tbl mw_122)) (va_eqi (hat st_26)) (fun a ha => Nat.not_le.mpr ha), hr5, fun w hw => va_Nw.of rfl (hts _ (nest_in w hw))⟩
  rw [words_len]
  have e : (fun j : Nat => Value.int (([wordB].getD 0 []).getD j 0)) = fun j : Nat => .int (Int32.ofInt (wordsT.getD j 0)) := by
    funext j
    rw [List.getD_cons_zero, wordB_get]
  rw [← e]
  exact s4
theorem start_K {s : State} {A : Array Value} (hts : ∀ w ∈ WS, w.before A s = true) : ∃ (D : va_G) (cA : Nat → ClassId), ∀ (n : Nat) (sv : Nat → Option Nat) (L : Nat) (xs : Nat → Int32), va_K D classes (atys (n, D, cA, sv, L, xs)) s := by
  obtain ⟨c0, i0, k0⟩ := u_known (C := RX0) (T := TX0) (N := 2) (n := 2) hts ml_X0 (hts _ mw_378)
  obtain ⟨c1, i1, k1⟩ := u_known (C := RX1) (T := TX1) (N := 1) (n := 1) hts ml_X1 (hts _ mw_201)
  obtain ⟨c2, i2, k2⟩ := u_known (C := RX2) (T := TX2) (N := 3) (n := 3) hts ml_X2 (hts _ mw_452)
  obtain ⟨c3, i3, k3⟩ := u_known (C := RX3) (T := TX3) (N := 9) (n := 9) hts ml_X3 (hts _ mw_417)
  obtain ⟨c4, i4, k4⟩ := u_known (C := RX4) (T := TX4) (N := 5) (n := 5) hts ml_X4 (hts _ mw_175)
  obtain ⟨c5, i5, k5⟩ := u_known (C := RX5) (T := TX5) (N := 6) (n := 6) hts ml_X5 (hts _ mw_391)
  obtain ⟨c6, i6, k6⟩ := u_known (C := RX6) (T := TX6) (N := 6) (n := 6) hts ml_X6 (hts _ mw_169)
  obtain ⟨c7, i7, k7⟩ := u_known (C := RX7) (T := TX7) (N := 17) (n := 17) hts ml_X7 (hts _ mw_272)
  obtain ⟨c8, i8, k8⟩ := u_known (C := RX8) (T := TX8) (N := 6) (n := 6) hts ml_X8 (hts _ mw_139)
  obtain ⟨c9, i9, k9⟩ := u_known (C := RX9) (T := TX9) (N := 4) (n := 4) hts ml_X9 (hts _ mw_241)
  obtain ⟨c10, i10, k10⟩ := u_known (C := RX10) (T := TX10) (N := 2) (n := 2) hts ml_X10 (hts _ mw_468)
  obtain ⟨c11, i11, k11⟩ := u_known (C := RX11) (T := TX11) (N := 15) (n := 15) hts ml_X11 (hts _ mw_131)
  obtain ⟨c12, i12, k12⟩ := u_known (C := RX12) (T := TX12) (N := 79) (n := 79) hts ml_X12 (hts _ mw_1112)
  obtain ⟨a20, ka20, co20, fa20, fb20, fc20⟩ := Cond.arrayClass_spec (hts _ mw_167 : (Cond.arrayClass .int).before A s = true)
  obtain ⟨a21, ka21, co21, fa21, fb21, fc21⟩ := Cond.arrayClass_spec (hts _ mw_415 : (Cond.arrayClass .long).before A s = true)
  obtain ⟨a22, ka22, co22, fa22, fb22, fc22⟩ := Cond.arrayClass_spec (hts _ mw_166 : (Cond.arrayClass .byte).before A s = true)
  obtain ⟨a23, ka23, co23, fa23, fb23, fc23⟩ := Cond.arrayClass_spec (hts _ mw_450 : (Cond.arrayClass .boolean).before A s = true)
  refine ⟨(fun k => if k = 0 then c0 else if k = 1 then c1 else if k = 2 then c2 else if k = 3 then c3 else if k = 4 then c4 else if k = 5 then c5 else if k = 6 then c6 else if k = 7 then c7 else if k = 8 then c8 else if k = 9 then c9 else if k = 10 then c10 else if k = 11 then c11 else if k = 12 then c12 else 0, fun k => if k = 0 then i0 else if k = 1 then i1 else if k = 2 then i2 else if k = 3 then i3 else if k = 4 then i4 else if k = 5 then i5 else if k = 6 then i6 else if k = 7 then i7 else if k = 8 then i8 else if k = 9 then i9 else if k = 10 then i10 else if k = 11 then i11 else if k = 12 then i12 else fun _ => 0), fun t => if t = 20 then a20 else if t = 21 then a21 else if t = 22 then a22 else a23, fun n sv L xs => ⟨?_, ?_⟩⟩
  · intro k q hq
    match k, hq with
    | 0, hq => cases hq; exact k0
    | 1, hq => cases hq; exact k1
    | 2, hq => cases hq; exact k2
    | 3, hq => cases hq; exact k3
    | 4, hq => cases hq; exact k4
    | 5, hq => cases hq; exact k5
    | 6, hq => cases hq; exact k6
    | 7, hq => cases hq; exact k7
    | 8, hq => cases hq; exact k8
    | 9, hq => cases hq; exact k9
    | 10, hq => cases hq; exact k10
    | 11, hq => cases hq; exact k11
    | 12, hq => cases hq; exact k12
    | k + 13, hq => simp [classes] at hq
  · intro k q hq
    match k, hq with
    | 0, hq => cases hq; exact ⟨fun n z => ⟨fun _ h => (by cases h), ka20, fb20, co20, fc20⟩, fa20⟩
    | 1, hq => cases hq; exact ⟨fun n z => ⟨fun _ h => (by cases h), ka21, fb21, co21, fc21⟩, fa21⟩
    | 2, hq => cases hq; exact ⟨fun n z => ⟨fun _ h => (by cases h), ka22, fb22, co22, fc22⟩, fa22⟩
    | 3, hq => cases hq; exact ⟨fun n z => ⟨fun _ h => (by cases h), ka23, fb23, co23, fc23⟩, fa23⟩
    | k + 4, hq => simp [atys] at hq
