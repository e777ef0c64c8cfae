/-! ROWS: one an instruction, over the pure picture -/
section PROWS
variable {g : PG} {b : Bool} {d : Nat} {M : PM} {pc : Nat} {ls st : List PV} {N : Nat} {σ : PS} {N' : Nat} {Q : Int → PS → Prop}
theorem E_iload_n {q : Fin 4} {x : Int} (pc' : Nat) (hd : decode M.2.2.1 pc = .ok (.iload_n q, 1)) (hl : ls[(q : Nat)]? = some (0, x)) (hp : pc + 1 = pc') (k : XX g b d M pc' ls ((0, x) :: st) N σ N' Q) : XX g b d M pc ls st N σ N' Q := by
  intro p l e R s m args below meth c H locs N0 rls Qf C hN hR hL ho hs hret
  subst hp
  exact lv_iload_n C.1 C.2.1 hd rfl (hL.at hl (by decide : (0 : Nat) ≠ 9)) (k p l e R s m args below meth c H locs N0 rls Qf C hN hR hL ho (okl_k (ho _ (List.mem_of_getElem? hl)) hs) hret)
theorem E_iload {q : Nat} {x : Int} (pc' : Nat) (hd : decode M.2.2.1 pc = .ok (.iload q, 2)) (hl : ls[q]? = some (0, x)) (hp : pc + 2 = pc') (k : XX g b d M pc' ls ((0, x) :: st) N σ N' Q) : XX g b d M pc ls st N σ N' Q := by
  intro p l e R s m args below meth c H locs N0 rls Qf C hN hR hL ho hs hret
  subst hp
  exact lv_iload C.1 C.2.1 hd (hL.at hl (by decide : (0 : Nat) ≠ 9)) (k p l e R s m args below meth c H locs N0 rls Qf C hN hR hL ho (okl_k (ho _ (List.mem_of_getElem? hl)) hs) hret)
theorem E_lload_n {q : Fin 4} {x : Int} (pc' : Nat) (hd : decode M.2.2.1 pc = .ok (.lload_n q, 1)) (hl : ls[(q : Nat)]? = some (1, x)) (hp : pc + 1 = pc') (k : XX g b d M pc' ls ((1, x) :: st) N σ N' Q) : XX g b d M pc ls st N σ N' Q := by
  intro p l e R s m args below meth c H locs N0 rls Qf C hN hR hL ho hs hret
  subst hp
  exact lv_lload_n C.1 C.2.1 hd rfl (hL.at hl (by decide : (1 : Nat) ≠ 9)) (k p l e R s m args below meth c H locs N0 rls Qf C hN hR hL ho (okl_k (ho _ (List.mem_of_getElem? hl)) hs) hret)
theorem E_lload {q : Nat} {x : Int} (pc' : Nat) (hd : decode M.2.2.1 pc = .ok (.lload q, 2)) (hl : ls[q]? = some (1, x)) (hp : pc + 2 = pc') (k : XX g b d M pc' ls ((1, x) :: st) N σ N' Q) : XX g b d M pc ls st N σ N' Q := by
  intro p l e R s m args below meth c H locs N0 rls Qf C hN hR hL ho hs hret
  subst hp
  exact lv_lload C.1 C.2.1 hd (hL.at hl (by decide : (1 : Nat) ≠ 9)) (k p l e R s m args below meth c H locs N0 rls Qf C hN hR hL ho (okl_k (ho _ (List.mem_of_getElem? hl)) hs) hret)
theorem prf_pos (g : PG) {x : Int} (h : 0 ≤ x) (h2 : x < 100000) : prf g x = some (g.1 + x.toNat) := by unfold prf; rw [if_neg (by omega), if_pos h2]
theorem tv_ref (g : PG) {x : Int} (h : 0 ≤ x) (h2 : x < 100000) : tv g (2, x) = .ref (g.1 + x.toNat) := by show va_rf (prf g x) = _; rw [prf_pos g h h2]; rfl
theorem E_aload_n {q : Fin 4} {x : Int} (pc' : Nat) (hd : decode M.2.2.1 pc = .ok (.aload_n q, 1)) (hl : ls[(q : Nat)]? = some (2, x)) (hx : 0 ≤ x ∧ x < 100000) (hp : pc + 1 = pc') (k : XX g b d M pc' ls ((2, x) :: st) N σ N' Q) : XX g b d M pc ls st N σ N' Q := by
  intro p l e R s m args below meth c H locs N0 rls Qf C hN hR hL ho hs hret
  subst hp
  have h1 := hL.at hl (by decide : (2 : Nat) ≠ 9)
  rw [tv_ref g hx.1 hx.2] at h1
  refine lv_aload_n C.1 C.2.1 hd rfl h1 ?_
  rw [← tv_ref g hx.1 hx.2]
  exact k p l e R s m args below meth c H locs N0 rls Qf C hN hR hL ho (okl_k (okv2 x) hs) hret
theorem E_aload {q : Nat} {x : Int} (pc' : Nat) (hd : decode M.2.2.1 pc = .ok (.aload q, 2)) (hl : ls[q]? = some (2, x)) (hx : 0 ≤ x ∧ x < 100000) (hp : pc + 2 = pc') (k : XX g b d M pc' ls ((2, x) :: st) N σ N' Q) : XX g b d M pc ls st N σ N' Q := by
  intro p l e R s m args below meth c H locs N0 rls Qf C hN hR hL ho hs hret
  subst hp
  have h1 := hL.at hl (by decide : (2 : Nat) ≠ 9)
  rw [tv_ref g hx.1 hx.2] at h1
  refine lv_aload C.1 C.2.1 hd h1 ?_
  rw [← tv_ref g hx.1 hx.2]
  exact k p l e R s m args below meth c H locs N0 rls Qf C hN hR hL ho (okl_k (okv2 x) hs) hret
theorem E_iconst {x : Int} (pc' : Nat) (hd : decode M.2.2.1 pc = .ok (.iconst x, 1)) (hx : -1 ≤ x ∧ x ≤ 5) (hp : pc + 1 = pc') (k : XX g b d M pc' ls ((0, x) :: st) N σ N' Q) : XX g b d M pc ls st N σ N' Q := by
  intro p l e R s m args below meth c H locs N0 rls Qf C hN hR hL ho hs hret
  subst hp
  exact lv_iconst C.1 C.2.1 hd rfl (k p l e R s m args below meth c H locs N0 rls Qf C hN hR hL ho (okl_k (okv0 (by unfold in32; omega)) hs) hret)
theorem E_bipush {x : Int} (pc' : Nat) (hd : decode M.2.2.1 pc = .ok (.bipush x, 2)) (hx : (Int8.ofInt x).toInt32 = Int32.ofInt x ∧ -128 ≤ x ∧ x ≤ 127) (hp : pc + 2 = pc') (k : XX g b d M pc' ls ((0, x) :: st) N σ N' Q) : XX g b d M pc ls st N σ N' Q := by
  intro p l e R s m args below meth c H locs N0 rls Qf C hN hR hL ho hs hret
  subst hp
  exact lv_bipush C.1 C.2.1 hd hx.1 (k p l e R s m args below meth c H locs N0 rls Qf C hN hR hL ho (okl_k (okv0 (by unfold in32; omega)) hs) hret)
theorem E_sipush {x : Int} (pc' : Nat) (hd : decode M.2.2.1 pc = .ok (.sipush x, 3)) (hx : (Int16.ofInt x).toInt32 = Int32.ofInt x ∧ -32768 ≤ x ∧ x ≤ 32767) (hp : pc + 3 = pc') (k : XX g b d M pc' ls ((0, x) :: st) N σ N' Q) : XX g b d M pc ls st N σ N' Q := by
  intro p l e R s m args below meth c H locs N0 rls Qf C hN hR hL ho hs hret
  subst hp
  exact lv_sipush C.1 C.2.1 hd hx.1 (k p l e R s m args below meth c H locs N0 rls Qf C hN hR hL ho (okl_k (okv0 (by unfold in32; omega)) hs) hret)
theorem E_lconst {q : Fin 2} {x : Int} (pc' : Nat) (hd : decode M.2.2.1 pc = .ok (.lconst q, 1)) (hx : ((q : Nat) : Int) = x) (hp : pc + 1 = pc') (k : XX g b d M pc' ls ((1, x) :: st) N σ N' Q) : XX g b d M pc ls st N σ N' Q := by
  intro p l e R s m args below meth c H locs N0 rls Qf C hN hR hL ho hs hret
  subst hp
  subst hx
  refine lv_lconst C.1 C.2.1 hd (v := Int64.ofInt ((q : Nat) : Int)) (by rcases q with ⟨_ | _ | _, h⟩ <;> first | rfl | omega) (k p l e R s m args below meth c H locs N0 rls Qf C hN hR hL ho (okl_k (okv1 (by have := q.isLt; unfold in64; omega)) hs) hret)
theorem E_ldc {q : Nat} {x : Int} {z : Int32} (pc' : Nat) (hd : decode M.2.2.1 pc = .ok (.ldc q, 2)) (hw : Cond.constant M.1 q z ∈ WS) (hz : z = Int32.ofInt x) (hx : in32 x) (hp : pc + 2 = pc') (k : XX g b d M pc' ls ((0, x) :: st) N σ N' Q) : XX g b d M pc ls st N σ N' Q := by
  intro p l e R s m args below meth c H locs N0 rls Qf C hN hR hL ho hs hret
  subst hp
  subst hz
  exact lv_ldc C.1 C.2.1 C.2.2.2.2.2.1 (C.2.2.2.2.2.2.1 _ hw) hd (k p l e R s m args below meth c H locs N0 rls Qf C hN hR hL ho (okl_k (okv0 hx) hs) hret)
theorem E_ldc_w {q : Nat} {x : Int} {z : Int32} (pc' : Nat) (hd : decode M.2.2.1 pc = .ok (.ldc_w q, 3)) (hw : Cond.constant M.1 q z ∈ WS) (hz : z = Int32.ofInt x) (hx : in32 x) (hp : pc + 3 = pc') (k : XX g b d M pc' ls ((0, x) :: st) N σ N' Q) : XX g b d M pc ls st N σ N' Q := by
  intro p l e R s m args below meth c H locs N0 rls Qf C hN hR hL ho hs hret
  subst hp
  subst hz
  exact lv_ldcw C.1 C.2.1 C.2.2.2.2.2.1 (C.2.2.2.2.2.2.1 _ hw) hd (k p l e R s m args below meth c H locs N0 rls Qf C hN hR hL ho (okl_k (okv0 hx) hs) hret)
theorem E_ldc2_w {q : Nat} {x : Int} {z : Int64} (pc' : Nat) (hd : decode M.2.2.1 pc = .ok (.ldc2_w q, 3)) (hw : Cond.constantLong M.1 q z ∈ WS) (hz : z = Int64.ofInt x) (hx : in64 x) (hp : pc + 3 = pc') (k : XX g b d M pc' ls ((1, x) :: st) N σ N' Q) : XX g b d M pc ls st N σ N' Q := by
  intro p l e R s m args below meth c H locs N0 rls Qf C hN hR hL ho hs hret
  subst hp
  subst hz
  exact lv_ldc2 C.1 C.2.1 C.2.2.2.2.2.1 (C.2.2.2.2.2.2.1 _ hw) hd (k p l e R s m args below meth c H locs N0 rls Qf C hN hR hL ho (okl_k (okv1 hx) hs) hret)
theorem E_istore_n {q : Fin 4} {x : Int} {ls' : List PV} (pc' : Nat) (hd : decode M.2.2.1 pc = .ok (.istore_n q, 1)) (hq : (q : Nat) < M.2.2.2.1) (hl : stI ls (q : Nat) (0, x) = ls') (hp : pc + 1 = pc') (k : XX g b d M pc' ls' st N σ N' Q) : XX g b d M pc ls ((0, x) :: st) N σ N' Q := by
  intro p l e R s m args below meth c H locs N0 rls Qf C hN hR hL ho hs hret
  subst hp
  subst hl
  exact lv_istore_n C.1 C.2.1 hd rfl hL hq rfl (fun rls' h' => k p l e R s m args below meth c H locs N0 rls' Qf C hN hR (hL.st1 (v := (0, x)) (by decide : (0 : Nat) ≠ 1) rfl h') (stI_ok ho (okl_c hs).1) (okl_c hs).2 hret)
theorem E_istore {q : Nat} {x : Int} {ls' : List PV} (pc' : Nat) (hd : decode M.2.2.1 pc = .ok (.istore q, 2)) (hq : q < M.2.2.2.1) (hl : stI ls q (0, x) = ls') (hp : pc + 2 = pc') (k : XX g b d M pc' ls' st N σ N' Q) : XX g b d M pc ls ((0, x) :: st) N σ N' Q := by
  intro p l e R s m args below meth c H locs N0 rls Qf C hN hR hL ho hs hret
  subst hp
  subst hl
  exact lv_istore C.1 C.2.1 hd hL hq rfl (fun rls' h' => k p l e R s m args below meth c H locs N0 rls' Qf C hN hR (hL.st1 (v := (0, x)) (by decide : (0 : Nat) ≠ 1) rfl h') (stI_ok ho (okl_c hs).1) (okl_c hs).2 hret)
theorem E_lstore_n {q : Fin 4} {x : Int} {ls' : List PV} (pc' : Nat) (hd : decode M.2.2.1 pc = .ok (.lstore_n q, 1)) (hq : (q : Nat) + 1 < M.2.2.2.1) (hl : stL ls (q : Nat) (1, x) = ls') (hp : pc + 1 = pc') (k : XX g b d M pc' ls' st N σ N' Q) : XX g b d M pc ls ((1, x) :: st) N σ N' Q := by
  intro p l e R s m args below meth c H locs N0 rls Qf C hN hR hL ho hs hret
  subst hp
  subst hl
  exact lv_lstore_n C.1 C.2.1 hd rfl hL hq rfl (fun rls' h' => k p l e R s m args below meth c H locs N0 rls' Qf C hN hR (hL.st2 (v := (1, x)) rfl h') (set9_ok (stI_ok ho (okl_c hs).1)) (okl_c hs).2 hret)
theorem E_lstore {q : Nat} {x : Int} {ls' : List PV} (pc' : Nat) (hd : decode M.2.2.1 pc = .ok (.lstore q, 2)) (hq : q + 1 < M.2.2.2.1) (hl : stL ls q (1, x) = ls') (hp : pc + 2 = pc') (k : XX g b d M pc' ls' st N σ N' Q) : XX g b d M pc ls ((1, x) :: st) N σ N' Q := by
  intro p l e R s m args below meth c H locs N0 rls Qf C hN hR hL ho hs hret
  subst hp
  subst hl
  exact lv_lstore C.1 C.2.1 hd hL hq rfl (fun rls' h' => k p l e R s m args below meth c H locs N0 rls' Qf C hN hR (hL.st2 (v := (1, x)) rfl h') (set9_ok (stI_ok ho (okl_c hs).1)) (okl_c hs).2 hret)
theorem E_astore_n {q : Fin 4} {x : Int} {ls' : List PV} (pc' : Nat) (hd : decode M.2.2.1 pc = .ok (.astore_n q, 1)) (hq : (q : Nat) < M.2.2.2.1) (hl : stI ls (q : Nat) (2, x) = ls') (hx : 0 ≤ x ∧ x < 100000) (hp : pc + 1 = pc') (k : XX g b d M pc' ls' st N σ N' Q) : XX g b d M pc ls ((2, x) :: st) N σ N' Q := by
  intro p l e R s m args below meth c H locs N0 rls Qf C hN hR hL ho hs hret
  subst hp
  subst hl
  show W _ _ _ _ _ _ _ _ _ _ _ _ _ _ _ (F0 m pc rls (tv g (2, x) :: _))
  rw [tv_ref g hx.1 hx.2]
  exact lv_astore_n C.1 C.2.1 hd rfl hL hq rfl (fun rls' h' => k p l e R s m args below meth c H locs N0 rls' Qf C hN hR (hL.st1 (v := (2, x)) (by decide : (2 : Nat) ≠ 1) (by rw [tv_ref g hx.1 hx.2]) h') (stI_ok ho (okl_c hs).1) (okl_c hs).2 hret)
theorem E_astore {q : Nat} {x : Int} {ls' : List PV} (pc' : Nat) (hd : decode M.2.2.1 pc = .ok (.astore q, 2)) (hq : q < M.2.2.2.1) (hl : stI ls q (2, x) = ls') (hx : 0 ≤ x ∧ x < 100000) (hp : pc + 2 = pc') (k : XX g b d M pc' ls' st N σ N' Q) : XX g b d M pc ls ((2, x) :: st) N σ N' Q := by
  intro p l e R s m args below meth c H locs N0 rls Qf C hN hR hL ho hs hret
  subst hp
  subst hl
  show W _ _ _ _ _ _ _ _ _ _ _ _ _ _ _ (F0 m pc rls (tv g (2, x) :: _))
  rw [tv_ref g hx.1 hx.2]
  exact lv_astore C.1 C.2.1 hd hL hq rfl (fun rls' h' => k p l e R s m args below meth c H locs N0 rls' Qf C hN hR (hL.st1 (v := (2, x)) (by decide : (2 : Nat) ≠ 1) (by rw [tv_ref g hx.1 hx.2]) h') (stI_ok ho (okl_c hs).1) (okl_c hs).2 hret)
theorem E_iinc {q : Nat} {n x : Int} {ls' : List PV} (pc' : Nat) (hd : decode M.2.2.1 pc = .ok (.iinc q n, 3)) (hq : q < M.2.2.2.1) (hx : ls[q]? = some (0, x)) (hl : stI ls q (0, w32 (x + n)) = ls') (hp : pc + 3 = pc') (k : XX g b d M pc' ls' st N σ N' Q) : XX g b d M pc ls st N σ N' Q := by
  intro p l e R s m args below meth c H locs N0 rls Qf C hN hR hL ho hs hret
  subst hp
  subst hl
  obtain ⟨i, hi⟩ : ∃ i : Nat, (asl g 0 ls)[i]? = some (q, .int (Int32.ofInt x)) := List.getElem?_of_mem (mem_asl0.mpr ⟨(0, x), hx, (by decide : (0 : Nat) ≠ 9), rfl⟩)
  exact lv_iinc C.1 C.2.1 hd hL hi (v := Int32.ofInt (w32 (x + n))) (by rw [ofInt_w32, Int32.ofInt_add]) hq rfl (fun rls' h' => k p l e R s m args below meth c H locs N0 rls' Qf C hN hR (hL.st1 (v := (0, w32 (x + n))) (by decide : (0 : Nat) ≠ 1) rfl h') (stI_ok ho (okv0 (w32_in _))) hs hret)
theorem E_dup {v : PV} (pc' : Nat) (hd : decode M.2.2.1 pc = .ok (.dup, 1)) (hv : v.1 ≠ 1) (hp : pc + 1 = pc') (k : XX g b d M pc' ls (v :: v :: st) N σ N' Q) : XX g b d M pc ls (v :: st) N σ N' Q := by
  intro p l e R s m args below meth c H locs N0 rls Qf C hN hR hL ho hs hret
  subst hp
  exact lv_dup C.1 C.2.1 hd (tv_cat1 g v hv) (k p l e R s m args below meth c H locs N0 rls Qf C hN hR hL ho (okl_k (okl_c hs).1 hs) hret)
theorem E_pop {v : PV} (pc' : Nat) (hd : decode M.2.2.1 pc = .ok (.pop, 1)) (hv : v.1 ≠ 1) (hp : pc + 1 = pc') (k : XX g b d M pc' ls st N σ N' Q) : XX g b d M pc ls (v :: st) N σ N' Q := by
  intro p l e R s m args below meth c H locs N0 rls Qf C hN hR hL ho hs hret
  subst hp
  exact lv_pop C.1 C.2.1 hd (tv_cat1 g v hv) (k p l e R s m args below meth c H locs N0 rls Qf C hN hR hL ho (okl_c hs).2 hret)
theorem E_dup2 {v w : PV} (pc' : Nat) (hd : decode M.2.2.1 pc = .ok (.dup2, 1)) (hv : v.1 ≠ 1) (hw : w.1 ≠ 1) (hp : pc + 1 = pc') (k : XX g b d M pc' ls (v :: w :: v :: w :: st) N σ N' Q) : XX g b d M pc ls (v :: w :: st) N σ N' Q := by
  intro p l e R s m args below meth c H locs N0 rls Qf C hN hR hL ho hs hret
  subst hp
  exact lv_dup2_11 C.1 C.2.1 hd (tv_cat1 g v hv) (tv_cat1 g w hw) (k p l e R s m args below meth c H locs N0 rls Qf C hN hR hL ho (okl_k (okl_c hs).1 (okl_k (okl_c (okl_c hs).2).1 hs)) hret)
theorem E_dup2L {x : Int} (pc' : Nat) (hd : decode M.2.2.1 pc = .ok (.dup2, 1)) (hp : pc + 1 = pc') (k : XX g b d M pc' ls ((1, x) :: (1, x) :: st) N σ N' Q) : XX g b d M pc ls ((1, x) :: st) N σ N' Q := by
  intro p l e R s m args below meth c H locs N0 rls Qf C hN hR hL ho hs hret
  subst hp
  exact lv_dup2_2 C.1 C.2.1 hd (tv_cat2 g x) (k p l e R s m args below meth c H locs N0 rls Qf C hN hR hL ho (okl_k (okl_c hs).1 hs) hret)
theorem E_iadd {x y : Int} (pc' : Nat) (hd : decode M.2.2.1 pc = .ok (.iadd, 1)) (hp : pc + 1 = pc') (k : XX g b d M pc' ls ((0, w32 (x + y)) :: st) N σ N' Q) : XX g b d M pc ls ((0, y) :: (0, x) :: st) N σ N' Q := by
  intro p l e R s m args below meth c H locs N0 rls Qf C hN hR hL ho hs hret
  subst hp
  refine lv_iadd C.1 C.2.1 hd ?_
  have k2 := k p l e R s m args below meth c H locs N0 rls Qf C hN hR hL ho (okl_k (okv0 (w32_in _)) (okl_c (okl_c hs).2).2) hret
  simp only [List.map_cons, tv, ofInt_w32, Int32.ofInt_add] at k2
  exact k2
theorem E_isub {x y : Int} (pc' : Nat) (hd : decode M.2.2.1 pc = .ok (.isub, 1)) (hp : pc + 1 = pc') (k : XX g b d M pc' ls ((0, w32 (x - y)) :: st) N σ N' Q) : XX g b d M pc ls ((0, y) :: (0, x) :: st) N σ N' Q := by
  intro p l e R s m args below meth c H locs N0 rls Qf C hN hR hL ho hs hret
  subst hp
  refine lv_isub C.1 C.2.1 hd ?_
  have k2 := k p l e R s m args below meth c H locs N0 rls Qf C hN hR hL ho (okl_k (okv0 (w32_in _)) (okl_c (okl_c hs).2).2) hret
  simp only [List.map_cons, tv, ofInt_w32, Int32.ofInt_sub] at k2
  exact k2
theorem E_imul {x y : Int} (pc' : Nat) (hd : decode M.2.2.1 pc = .ok (.imul, 1)) (hp : pc + 1 = pc') (k : XX g b d M pc' ls ((0, w32 (x * y)) :: st) N σ N' Q) : XX g b d M pc ls ((0, y) :: (0, x) :: st) N σ N' Q := by
  intro p l e R s m args below meth c H locs N0 rls Qf C hN hR hL ho hs hret
  subst hp
  refine lv_imul C.1 C.2.1 hd ?_
  have k2 := k p l e R s m args below meth c H locs N0 rls Qf C hN hR hL ho (okl_k (okv0 (w32_in _)) (okl_c (okl_c hs).2).2) hret
  simp only [List.map_cons, tv, ofInt_w32, Int32.ofInt_mul] at k2
  exact k2
theorem E_iand {x y : Int} (pc' : Nat) (hd : decode M.2.2.1 pc = .ok (.iand, 1)) (hp : pc + 1 = pc') (k : XX g b d M pc' ls ((0, iand x y) :: st) N σ N' Q) : XX g b d M pc ls ((0, y) :: (0, x) :: st) N σ N' Q := by
  intro p l e R s m args below meth c H locs N0 rls Qf C hN hR hL ho hs hret
  subst hp
  refine lv_iand C.1 C.2.1 hd ?_
  have k2 := k p l e R s m args below meth c H locs N0 rls Qf C hN hR hL ho (okl_k (okv0 (toInt_in32 _)) (okl_c (okl_c hs).2).2) hret
  simp only [List.map_cons, tv, iand, Int32.ofInt_toInt] at k2
  exact k2
theorem E_ior {x y : Int} (pc' : Nat) (hd : decode M.2.2.1 pc = .ok (.ior, 1)) (hp : pc + 1 = pc') (k : XX g b d M pc' ls ((0, ior x y) :: st) N σ N' Q) : XX g b d M pc ls ((0, y) :: (0, x) :: st) N σ N' Q := by
  intro p l e R s m args below meth c H locs N0 rls Qf C hN hR hL ho hs hret
  subst hp
  refine lv_ior C.1 C.2.1 hd ?_
  have k2 := k p l e R s m args below meth c H locs N0 rls Qf C hN hR hL ho (okl_k (okv0 (toInt_in32 _)) (okl_c (okl_c hs).2).2) hret
  simp only [List.map_cons, tv, ior, Int32.ofInt_toInt] at k2
  exact k2
theorem E_ixor {x y : Int} (pc' : Nat) (hd : decode M.2.2.1 pc = .ok (.ixor, 1)) (hp : pc + 1 = pc') (k : XX g b d M pc' ls ((0, ixor x y) :: st) N σ N' Q) : XX g b d M pc ls ((0, y) :: (0, x) :: st) N σ N' Q := by
  intro p l e R s m args below meth c H locs N0 rls Qf C hN hR hL ho hs hret
  subst hp
  refine lv_ixor C.1 C.2.1 hd ?_
  have k2 := k p l e R s m args below meth c H locs N0 rls Qf C hN hR hL ho (okl_k (okv0 (toInt_in32 _)) (okl_c (okl_c hs).2).2) hret
  simp only [List.map_cons, tv, ixor, Int32.ofInt_toInt] at k2
  exact k2
theorem E_ishl {x y : Int} (pc' : Nat) (hd : decode M.2.2.1 pc = .ok (.ishl, 1)) (hp : pc + 1 = pc') (k : XX g b d M pc' ls ((0, ishl x y) :: st) N σ N' Q) : XX g b d M pc ls ((0, y) :: (0, x) :: st) N σ N' Q := by
  intro p l e R s m args below meth c H locs N0 rls Qf C hN hR hL ho hs hret
  subst hp
  refine lv_ishl C.1 C.2.1 hd ?_
  have k2 := k p l e R s m args below meth c H locs N0 rls Qf C hN hR hL ho (okl_k (okv0 (toInt_in32 _)) (okl_c (okl_c hs).2).2) hret
  simp only [List.map_cons, tv, ishl, Int32.ofInt_toInt] at k2
  exact k2
theorem E_ishr {x y : Int} (pc' : Nat) (hd : decode M.2.2.1 pc = .ok (.ishr, 1)) (hp : pc + 1 = pc') (k : XX g b d M pc' ls ((0, ishr x y) :: st) N σ N' Q) : XX g b d M pc ls ((0, y) :: (0, x) :: st) N σ N' Q := by
  intro p l e R s m args below meth c H locs N0 rls Qf C hN hR hL ho hs hret
  subst hp
  refine lv_ishr C.1 C.2.1 hd ?_
  have k2 := k p l e R s m args below meth c H locs N0 rls Qf C hN hR hL ho (okl_k (okv0 (toInt_in32 _)) (okl_c (okl_c hs).2).2) hret
  simp only [List.map_cons, tv, ishr, Int32.ofInt_toInt] at k2
  exact k2
theorem ne0_32 {y : Int} (h : in32 y) (h0 : y ≠ 0) : ¬ Int32.ofInt y = 0 := fun e => h0 (by rw [← ofInt_toInt32 h, e]; rfl)
theorem ne0_64 {y : Int} (h : in64 y) (h0 : y ≠ 0) : ¬ Int64.ofInt y = 0 := fun e => h0 (by rw [← ofInt_toInt64 h, e]; rfl)
theorem E_idiv {x y : Int} (pc' : Nat) (hd : decode M.2.2.1 pc = .ok (.idiv, 1)) (h0 : y ≠ 0) (hp : pc + 1 = pc') (k : XX g b d M pc' ls ((0, idiv x y) :: st) N σ N' Q) : XX g b d M pc ls ((0, y) :: (0, x) :: st) N σ N' Q := by
  intro p l e R s m args below meth c H locs N0 rls Qf C hN hR hL ho hs hret
  subst hp
  refine lv_idiv C.1 C.2.1 hd (ne0_32 ((okl_c hs).1.1 rfl) h0) ?_
  have k2 := k p l e R s m args below meth c H locs N0 rls Qf C hN hR hL ho (okl_k (okv0 (toInt_in32 _)) (okl_c (okl_c hs).2).2) hret
  simp only [List.map_cons, tv, idiv, Int32.ofInt_toInt] at k2
  exact k2
theorem E_irem {x y : Int} (pc' : Nat) (hd : decode M.2.2.1 pc = .ok (.irem, 1)) (h0 : y ≠ 0) (hp : pc + 1 = pc') (k : XX g b d M pc' ls ((0, irem x y) :: st) N σ N' Q) : XX g b d M pc ls ((0, y) :: (0, x) :: st) N σ N' Q := by
  intro p l e R s m args below meth c H locs N0 rls Qf C hN hR hL ho hs hret
  subst hp
  refine lv_irem C.1 C.2.1 hd (ne0_32 ((okl_c hs).1.1 rfl) h0) ?_
  have k2 := k p l e R s m args below meth c H locs N0 rls Qf C hN hR hL ho (okl_k (okv0 (toInt_in32 _)) (okl_c (okl_c hs).2).2) hret
  simp only [List.map_cons, tv, irem, Int32.ofInt_toInt] at k2
  exact k2
theorem E_ladd {x y : Int} (pc' : Nat) (hd : decode M.2.2.1 pc = .ok (.ladd, 1)) (hp : pc + 1 = pc') (k : XX g b d M pc' ls ((1, w64 (x + y)) :: st) N σ N' Q) : XX g b d M pc ls ((1, y) :: (1, x) :: st) N σ N' Q := by
  intro p l e R s m args below meth c H locs N0 rls Qf C hN hR hL ho hs hret
  subst hp
  refine lv_ladd C.1 C.2.1 hd ?_
  have k2 := k p l e R s m args below meth c H locs N0 rls Qf C hN hR hL ho (okl_k (okv1 (w64_in _)) (okl_c (okl_c hs).2).2) hret
  simp only [List.map_cons, tv, ofInt_w64, Int64.ofInt_add] at k2
  exact k2
theorem E_lsub {x y : Int} (pc' : Nat) (hd : decode M.2.2.1 pc = .ok (.lsub, 1)) (hp : pc + 1 = pc') (k : XX g b d M pc' ls ((1, w64 (x - y)) :: st) N σ N' Q) : XX g b d M pc ls ((1, y) :: (1, x) :: st) N σ N' Q := by
  intro p l e R s m args below meth c H locs N0 rls Qf C hN hR hL ho hs hret
  subst hp
  refine lv_lsub C.1 C.2.1 hd ?_
  have k2 := k p l e R s m args below meth c H locs N0 rls Qf C hN hR hL ho (okl_k (okv1 (w64_in _)) (okl_c (okl_c hs).2).2) hret
  simp only [List.map_cons, tv, ofInt_w64, Int64.ofInt_sub] at k2
  exact k2
theorem E_lmul {x y : Int} (pc' : Nat) (hd : decode M.2.2.1 pc = .ok (.lmul, 1)) (hp : pc + 1 = pc') (k : XX g b d M pc' ls ((1, w64 (x * y)) :: st) N σ N' Q) : XX g b d M pc ls ((1, y) :: (1, x) :: st) N σ N' Q := by
  intro p l e R s m args below meth c H locs N0 rls Qf C hN hR hL ho hs hret
  subst hp
  refine lv_lmul C.1 C.2.1 hd ?_
  have k2 := k p l e R s m args below meth c H locs N0 rls Qf C hN hR hL ho (okl_k (okv1 (w64_in _)) (okl_c (okl_c hs).2).2) hret
  simp only [List.map_cons, tv, ofInt_w64, Int64.ofInt_mul] at k2
  exact k2
theorem E_land {x y : Int} (pc' : Nat) (hd : decode M.2.2.1 pc = .ok (.land, 1)) (hp : pc + 1 = pc') (k : XX g b d M pc' ls ((1, land x y) :: st) N σ N' Q) : XX g b d M pc ls ((1, y) :: (1, x) :: st) N σ N' Q := by
  intro p l e R s m args below meth c H locs N0 rls Qf C hN hR hL ho hs hret
  subst hp
  refine lv_land C.1 C.2.1 hd ?_
  have k2 := k p l e R s m args below meth c H locs N0 rls Qf C hN hR hL ho (okl_k (okv1 (toInt_in64 _)) (okl_c (okl_c hs).2).2) hret
  simp only [List.map_cons, tv, land, Int64.ofInt_toInt] at k2
  exact k2
theorem E_lor {x y : Int} (pc' : Nat) (hd : decode M.2.2.1 pc = .ok (.lor, 1)) (hp : pc + 1 = pc') (k : XX g b d M pc' ls ((1, lor x y) :: st) N σ N' Q) : XX g b d M pc ls ((1, y) :: (1, x) :: st) N σ N' Q := by
  intro p l e R s m args below meth c H locs N0 rls Qf C hN hR hL ho hs hret
  subst hp
  refine lv_lor C.1 C.2.1 hd ?_
  have k2 := k p l e R s m args below meth c H locs N0 rls Qf C hN hR hL ho (okl_k (okv1 (toInt_in64 _)) (okl_c (okl_c hs).2).2) hret
  simp only [List.map_cons, tv, lor, Int64.ofInt_toInt] at k2
  exact k2
theorem E_lxor {x y : Int} (pc' : Nat) (hd : decode M.2.2.1 pc = .ok (.lxor, 1)) (hp : pc + 1 = pc') (k : XX g b d M pc' ls ((1, lxor x y) :: st) N σ N' Q) : XX g b d M pc ls ((1, y) :: (1, x) :: st) N σ N' Q := by
  intro p l e R s m args below meth c H locs N0 rls Qf C hN hR hL ho hs hret
  subst hp
  refine lv_lxor C.1 C.2.1 hd ?_
  have k2 := k p l e R s m args below meth c H locs N0 rls Qf C hN hR hL ho (okl_k (okv1 (toInt_in64 _)) (okl_c (okl_c hs).2).2) hret
  simp only [List.map_cons, tv, lxor, Int64.ofInt_toInt] at k2
  exact k2
theorem E_ldiv {x y : Int} (pc' : Nat) (hd : decode M.2.2.1 pc = .ok (.ldiv, 1)) (h0 : y ≠ 0) (hp : pc + 1 = pc') (k : XX g b d M pc' ls ((1, ldiv x y) :: st) N σ N' Q) : XX g b d M pc ls ((1, y) :: (1, x) :: st) N σ N' Q := by
  intro p l e R s m args below meth c H locs N0 rls Qf C hN hR hL ho hs hret
  subst hp
  refine lv_ldiv C.1 C.2.1 hd (ne0_64 ((okl_c hs).1.2 rfl) h0) ?_
  have k2 := k p l e R s m args below meth c H locs N0 rls Qf C hN hR hL ho (okl_k (okv1 (toInt_in64 _)) (okl_c (okl_c hs).2).2) hret
  simp only [List.map_cons, tv, ldiv, Int64.ofInt_toInt] at k2
  exact k2
theorem E_iushr {y x : Int} (pc' : Nat) (hd : decode M.2.2.1 pc = .ok (.iushr, 1)) (hp : pc + 1 = pc') (k : XX g b d M pc' ls ((0, iushr x y) :: st) N σ N' Q) : XX g b d M pc ls ((0, y) :: (0, x) :: st) N σ N' Q := by
  intro p l e R s m args below meth c H locs N0 rls Qf C hN hR hL ho hs hret
  subst hp
  refine lv_iushr C.1 C.2.1 hd (v := Int32.ofInt (iushr x y)) (by rw [iushr, Int32.ofInt_toInt]) ?_
  exact k p l e R s m args below meth c H locs N0 rls Qf C hN hR hL ho (okl_k (okv0 (toInt_in32 _)) (okl_c (okl_c hs).2).2) hret
theorem E_lushr {y x : Int} (pc' : Nat) (hd : decode M.2.2.1 pc = .ok (.lushr, 1)) (hp : pc + 1 = pc') (k : XX g b d M pc' ls ((1, lushr x y) :: st) N σ N' Q) : XX g b d M pc ls ((0, y) :: (1, x) :: st) N σ N' Q := by
  intro p l e R s m args below meth c H locs N0 rls Qf C hN hR hL ho hs hret
  subst hp
  refine lv_lushr C.1 C.2.1 hd (v := Int64.ofInt (lushr x y)) (by rw [lushr, Int64.ofInt_toInt]) ?_
  exact k p l e R s m args below meth c H locs N0 rls Qf C hN hR hL ho (okl_k (okv1 (toInt_in64 _)) (okl_c (okl_c hs).2).2) hret
theorem E_lshl {y x : Int} (pc' : Nat) (hd : decode M.2.2.1 pc = .ok (.lshl, 1)) (hp : pc + 1 = pc') (k : XX g b d M pc' ls ((1, lshl x y) :: st) N σ N' Q) : XX g b d M pc ls ((0, y) :: (1, x) :: st) N σ N' Q := by
  intro p l e R s m args below meth c H locs N0 rls Qf C hN hR hL ho hs hret
  subst hp
  refine lv_lshl C.1 C.2.1 hd (v := Int64.ofInt (lshl x y)) (by rw [lshl, Int64.ofInt_toInt]) ?_
  exact k p l e R s m args below meth c H locs N0 rls Qf C hN hR hL ho (okl_k (okv1 (toInt_in64 _)) (okl_c (okl_c hs).2).2) hret
theorem E_l2i {x : Int} (pc' : Nat) (hd : decode M.2.2.1 pc = .ok (.l2i, 1)) (hp : pc + 1 = pc') (k : XX g b d M pc' ls ((0, l2i x) :: st) N σ N' Q) : XX g b d M pc ls ((1, x) :: st) N σ N' Q := by
  intro p l e R s m args below meth c H locs N0 rls Qf C hN hR hL ho hs hret
  subst hp
  refine lv_l2i C.1 C.2.1 hd (v := Int32.ofInt (l2i x)) (by rw [l2i, Int32.ofInt_toInt]) ?_
  exact k p l e R s m args below meth c H locs N0 rls Qf C hN hR hL ho (okl_k (okv0 (toInt_in32 _)) (okl_c hs).2) hret
theorem E_i2b {x : Int} (pc' : Nat) (hd : decode M.2.2.1 pc = .ok (.i2b, 1)) (hp : pc + 1 = pc') (k : XX g b d M pc' ls ((0, ib8 x) :: st) N σ N' Q) : XX g b d M pc ls ((0, x) :: st) N σ N' Q := by
  intro p l e R s m args below meth c H locs N0 rls Qf C hN hR hL ho hs hret
  subst hp
  refine lv_i2b C.1 C.2.1 hd (v := Int32.ofInt (ib8 x)) (by rw [ib8, Int32.ofInt_toInt]) ?_
  exact k p l e R s m args below meth c H locs N0 rls Qf C hN hR hL ho (okl_k (okv0 (toInt_in32 _)) (okl_c hs).2) hret
theorem E_i2c {x : Int} (pc' : Nat) (hd : decode M.2.2.1 pc = .ok (.i2c, 1)) (hp : pc + 1 = pc') (k : XX g b d M pc' ls ((0, ic16 x) :: st) N σ N' Q) : XX g b d M pc ls ((0, x) :: st) N σ N' Q := by
  intro p l e R s m args below meth c H locs N0 rls Qf C hN hR hL ho hs hret
  subst hp
  refine lv_i2c C.1 C.2.1 hd (v := Int32.ofInt (ic16 x)) (by rw [ic16, Int32.ofInt_toInt]) ?_
  exact k p l e R s m args below meth c H locs N0 rls Qf C hN hR hL ho (okl_k (okv0 (toInt_in32 _)) (okl_c hs).2) hret
theorem E_ineg {x : Int} (pc' : Nat) (hd : decode M.2.2.1 pc = .ok (.ineg, 1)) (hp : pc + 1 = pc') (k : XX g b d M pc' ls ((0, w32 (-x)) :: st) N σ N' Q) : XX g b d M pc ls ((0, x) :: st) N σ N' Q := by
  intro p l e R s m args below meth c H locs N0 rls Qf C hN hR hL ho hs hret
  subst hp
  refine lv_ineg C.1 C.2.1 hd ?_
  have k2 := k p l e R s m args below meth c H locs N0 rls Qf C hN hR hL ho (okl_k (okv0 (w32_in _)) (okl_c hs).2) hret
  simp only [List.map_cons, tv, ofInt_w32, Int32.ofInt_neg] at k2
  exact k2
theorem E_i2l {x : Int} (pc' : Nat) (hd : decode M.2.2.1 pc = .ok (.i2l, 1)) (hp : pc + 1 = pc') (k : XX g b d M pc' ls ((1, x) :: st) N σ N' Q) : XX g b d M pc ls ((0, x) :: st) N σ N' Q := by
  intro p l e R s m args below meth c H locs N0 rls Qf C hN hR hL ho hs hret
  subst hp
  have hx : in32 x := (okl_c hs).1.1 rfl
  have hy : in64 x := by unfold in32 at hx; unfold in64; omega
  refine lv_i2l C.1 C.2.1 hd (v := Int64.ofInt x) ?_ (k p l e R s m args below meth c H locs N0 rls Qf C hN hR hL ho (okl_k (okv1 hy) (okl_c hs).2) hret)
  apply Int64.toInt_inj.mp
  rw [ofInt_toInt64 hy, Int32.toInt_toInt64, ofInt_toInt32 hx]
theorem E_lcmp {x y : Int} (pc' : Nat) (hd : decode M.2.2.1 pc = .ok (.lcmp, 1)) (hp : pc + 1 = pc') (k : XX g b d M pc' ls ((0, lcmpI x y) :: st) N σ N' Q) : XX g b d M pc ls ((1, y) :: (1, x) :: st) N σ N' Q := by
  intro p l e R s m args below meth c H locs N0 rls Qf C hN hR hL ho hs hret
  subst hp
  have hy : in64 y := (okl_c hs).1.2 rfl
  have hx : in64 x := (okl_c (okl_c hs).2).1.2 rfl
  refine W.lcmp C.1 C.2.1 hd ?_
  have k2 := k p l e R s m args below meth c H locs N0 rls Qf C hN hR hL ho (okl_k (okv0 (by unfold lcmpI in32; split <;> (try split) <;> omega)) (okl_c (okl_c hs).2).2) hret
  have e1 : lg_cmp (Int64.ofInt x) (Int64.ofInt y) = Int32.ofInt (lcmpI x y) := by
    unfold lg_cmp lcmpI
    simp only [gt_iff_lt, Int64.lt_iff_toInt_lt, ← Int64.toInt_inj, ofInt_toInt64 hx, ofInt_toInt64 hy]
    by_cases h1 : x < y
    · rw [if_neg (by omega), if_neg (by omega), if_pos h1]; rfl
    · by_cases h2 : x = y
      · rw [if_neg (by omega), if_pos h2, if_neg h1, if_pos h2]; rfl
      · rw [if_pos (by omega), if_neg h1, if_neg h2]; rfl
  rw [e1]
  exact k2
theorem i32lt {x y : Int} (hx : in32 x) (hy : in32 y) : Int32.ofInt x < Int32.ofInt y ↔ x < y := by rw [Int32.lt_iff_toInt_lt, ofInt_toInt32 hx, ofInt_toInt32 hy]
theorem i32le {x y : Int} (hx : in32 x) (hy : in32 y) : Int32.ofInt x ≤ Int32.ofInt y ↔ x ≤ y := by rw [Int32.le_iff_toInt_le, ofInt_toInt32 hx, ofInt_toInt32 hy]
theorem i32eq {x y : Int} (hx : in32 x) (hy : in32 y) : Int32.ofInt x = Int32.ofInt y ↔ x = y := by rw [← Int32.toInt_inj, ofInt_toInt32 hx, ofInt_toInt32 hy]
theorem in32_0 : in32 0 := by unfold in32; omega
theorem zof : Int32.ofInt 0 = 0 := rfl
theorem E_icmp_eq {x y : Int} {off : Int} (pc' tgt : Nat) (hd : decode M.2.2.1 pc = .ok (.if_icmp .eq off, 3)) (hp : pc + 3 = pc') (ht : (pc : Int) + off = (tgt : Int)) (kt : x = y → XX g b d M tgt ls st N σ N' Q) (kf : x ≠ y → XX g b d M pc' ls st N σ N' Q) : XX g b d M pc ls ((0, y) :: (0, x) :: st) N σ N' Q := by
  intro p l e R s m args below meth c H locs N0 rls Qf C hN hR hL ho hs hret
  subst hp
  have hy : in32 y := (okl_c hs).1.1 rfl
  have hx : in32 x := (okl_c (okl_c hs).2).1.1 rfl
  refine lv_icmp_eq C.1 C.2.1 hd ht (fun h => ?_) (fun h => ?_)
  · exact kt ((i32eq hx hy).mp h) p l e R s m args below meth c H locs N0 rls Qf C hN hR hL ho (okl_c (okl_c hs).2).2 hret
  · exact kf (fun z => h ((i32eq hx hy).mpr z)) p l e R s m args below meth c H locs N0 rls Qf C hN hR hL ho (okl_c (okl_c hs).2).2 hret
theorem E_icmp_ne {x y : Int} {off : Int} (pc' tgt : Nat) (hd : decode M.2.2.1 pc = .ok (.if_icmp .ne off, 3)) (hp : pc + 3 = pc') (ht : (pc : Int) + off = (tgt : Int)) (kt : x ≠ y → XX g b d M tgt ls st N σ N' Q) (kf : x = y → XX g b d M pc' ls st N σ N' Q) : XX g b d M pc ls ((0, y) :: (0, x) :: st) N σ N' Q := by
  intro p l e R s m args below meth c H locs N0 rls Qf C hN hR hL ho hs hret
  subst hp
  have hy : in32 y := (okl_c hs).1.1 rfl
  have hx : in32 x := (okl_c (okl_c hs).2).1.1 rfl
  refine lv_icmp_ne C.1 C.2.1 hd ht (fun h => ?_) (fun h => ?_)
  · exact kt (fun z => h ((i32eq hx hy).mpr z)) p l e R s m args below meth c H locs N0 rls Qf C hN hR hL ho (okl_c (okl_c hs).2).2 hret
  · exact kf ((i32eq hx hy).mp h) p l e R s m args below meth c H locs N0 rls Qf C hN hR hL ho (okl_c (okl_c hs).2).2 hret
theorem E_icmp_lt {x y : Int} {off : Int} (pc' tgt : Nat) (hd : decode M.2.2.1 pc = .ok (.if_icmp .lt off, 3)) (hp : pc + 3 = pc') (ht : (pc : Int) + off = (tgt : Int)) (kt : x < y → XX g b d M tgt ls st N σ N' Q) (kf : y ≤ x → XX g b d M pc' ls st N σ N' Q) : XX g b d M pc ls ((0, y) :: (0, x) :: st) N σ N' Q := by
  intro p l e R s m args below meth c H locs N0 rls Qf C hN hR hL ho hs hret
  subst hp
  have hy : in32 y := (okl_c hs).1.1 rfl
  have hx : in32 x := (okl_c (okl_c hs).2).1.1 rfl
  refine lv_icmp_lt C.1 C.2.1 hd ht (fun h => ?_) (fun h => ?_)
  · exact kt ((i32lt hx hy).mp h) p l e R s m args below meth c H locs N0 rls Qf C hN hR hL ho (okl_c (okl_c hs).2).2 hret
  · exact kf (Int.not_lt.mp (fun z => h ((i32lt hx hy).mpr z))) p l e R s m args below meth c H locs N0 rls Qf C hN hR hL ho (okl_c (okl_c hs).2).2 hret
theorem E_icmp_ge {x y : Int} {off : Int} (pc' tgt : Nat) (hd : decode M.2.2.1 pc = .ok (.if_icmp .ge off, 3)) (hp : pc + 3 = pc') (ht : (pc : Int) + off = (tgt : Int)) (kt : y ≤ x → XX g b d M tgt ls st N σ N' Q) (kf : x < y → XX g b d M pc' ls st N σ N' Q) : XX g b d M pc ls ((0, y) :: (0, x) :: st) N σ N' Q := by
  intro p l e R s m args below meth c H locs N0 rls Qf C hN hR hL ho hs hret
  subst hp
  have hy : in32 y := (okl_c hs).1.1 rfl
  have hx : in32 x := (okl_c (okl_c hs).2).1.1 rfl
  refine lv_icmp_ge C.1 C.2.1 hd ht (fun h => ?_) (fun h => ?_)
  · exact kt ((i32le hy hx).mp h) p l e R s m args below meth c H locs N0 rls Qf C hN hR hL ho (okl_c (okl_c hs).2).2 hret
  · exact kf (Int.not_le.mp (fun z => h ((i32le hy hx).mpr z))) p l e R s m args below meth c H locs N0 rls Qf C hN hR hL ho (okl_c (okl_c hs).2).2 hret
theorem E_icmp_gt {x y : Int} {off : Int} (pc' tgt : Nat) (hd : decode M.2.2.1 pc = .ok (.if_icmp .gt off, 3)) (hp : pc + 3 = pc') (ht : (pc : Int) + off = (tgt : Int)) (kt : y < x → XX g b d M tgt ls st N σ N' Q) (kf : x ≤ y → XX g b d M pc' ls st N σ N' Q) : XX g b d M pc ls ((0, y) :: (0, x) :: st) N σ N' Q := by
  intro p l e R s m args below meth c H locs N0 rls Qf C hN hR hL ho hs hret
  subst hp
  have hy : in32 y := (okl_c hs).1.1 rfl
  have hx : in32 x := (okl_c (okl_c hs).2).1.1 rfl
  refine lv_icmp_gt C.1 C.2.1 hd ht (fun h => ?_) (fun h => ?_)
  · exact kt ((i32lt hy hx).mp h) p l e R s m args below meth c H locs N0 rls Qf C hN hR hL ho (okl_c (okl_c hs).2).2 hret
  · exact kf (Int.not_lt.mp (fun z => h ((i32lt hy hx).mpr z))) p l e R s m args below meth c H locs N0 rls Qf C hN hR hL ho (okl_c (okl_c hs).2).2 hret
theorem E_icmp_le {x y : Int} {off : Int} (pc' tgt : Nat) (hd : decode M.2.2.1 pc = .ok (.if_icmp .le off, 3)) (hp : pc + 3 = pc') (ht : (pc : Int) + off = (tgt : Int)) (kt : x ≤ y → XX g b d M tgt ls st N σ N' Q) (kf : y < x → XX g b d M pc' ls st N σ N' Q) : XX g b d M pc ls ((0, y) :: (0, x) :: st) N σ N' Q := by
  intro p l e R s m args below meth c H locs N0 rls Qf C hN hR hL ho hs hret
  subst hp
  have hy : in32 y := (okl_c hs).1.1 rfl
  have hx : in32 x := (okl_c (okl_c hs).2).1.1 rfl
  refine lv_icmp_le C.1 C.2.1 hd ht (fun h => ?_) (fun h => ?_)
  · exact kt ((i32le hx hy).mp h) p l e R s m args below meth c H locs N0 rls Qf C hN hR hL ho (okl_c (okl_c hs).2).2 hret
  · exact kf (Int.not_le.mp (fun z => h ((i32le hx hy).mpr z))) p l e R s m args below meth c H locs N0 rls Qf C hN hR hL ho (okl_c (okl_c hs).2).2 hret
theorem E_if_eq {x : Int} {off : Int} (pc' tgt : Nat) (hd : decode M.2.2.1 pc = .ok (.ifCond .eq off, 3)) (hp : pc + 3 = pc') (ht : (pc : Int) + off = (tgt : Int)) (kt : x = 0 → XX g b d M tgt ls st N σ N' Q) (kf : x ≠ 0 → XX g b d M pc' ls st N σ N' Q) : XX g b d M pc ls ((0, x) :: st) N σ N' Q := by
  intro p l e R s m args below meth c H locs N0 rls Qf C hN hR hL ho hs hret
  subst hp
  have hx : in32 x := (okl_c hs).1.1 rfl
  refine lv_if_eq C.1 C.2.1 hd ht (fun h => ?_) (fun h => ?_)
  · exact kt ((i32eq hx in32_0).mp h) p l e R s m args below meth c H locs N0 rls Qf C hN hR hL ho (okl_c hs).2 hret
  · exact kf (fun z => h ((i32eq hx in32_0).mpr z)) p l e R s m args below meth c H locs N0 rls Qf C hN hR hL ho (okl_c hs).2 hret
theorem E_if_ne {x : Int} {off : Int} (pc' tgt : Nat) (hd : decode M.2.2.1 pc = .ok (.ifCond .ne off, 3)) (hp : pc + 3 = pc') (ht : (pc : Int) + off = (tgt : Int)) (kt : x ≠ 0 → XX g b d M tgt ls st N σ N' Q) (kf : x = 0 → XX g b d M pc' ls st N σ N' Q) : XX g b d M pc ls ((0, x) :: st) N σ N' Q := by
  intro p l e R s m args below meth c H locs N0 rls Qf C hN hR hL ho hs hret
  subst hp
  have hx : in32 x := (okl_c hs).1.1 rfl
  refine lv_if_ne C.1 C.2.1 hd ht (fun h => ?_) (fun h => ?_)
  · exact kt (fun z => h ((i32eq hx in32_0).mpr z)) p l e R s m args below meth c H locs N0 rls Qf C hN hR hL ho (okl_c hs).2 hret
  · exact kf ((i32eq hx in32_0).mp h) p l e R s m args below meth c H locs N0 rls Qf C hN hR hL ho (okl_c hs).2 hret
theorem E_if_lt {x : Int} {off : Int} (pc' tgt : Nat) (hd : decode M.2.2.1 pc = .ok (.ifCond .lt off, 3)) (hp : pc + 3 = pc') (ht : (pc : Int) + off = (tgt : Int)) (kt : x < 0 → XX g b d M tgt ls st N σ N' Q) (kf : 0 ≤ x → XX g b d M pc' ls st N σ N' Q) : XX g b d M pc ls ((0, x) :: st) N σ N' Q := by
  intro p l e R s m args below meth c H locs N0 rls Qf C hN hR hL ho hs hret
  subst hp
  have hx : in32 x := (okl_c hs).1.1 rfl
  refine lv_if_lt C.1 C.2.1 hd ht (fun h => ?_) (fun h => ?_)
  · exact kt ((i32lt hx in32_0).mp h) p l e R s m args below meth c H locs N0 rls Qf C hN hR hL ho (okl_c hs).2 hret
  · exact kf (Int.not_lt.mp (fun z => h ((i32lt hx in32_0).mpr z))) p l e R s m args below meth c H locs N0 rls Qf C hN hR hL ho (okl_c hs).2 hret
theorem E_if_ge {x : Int} {off : Int} (pc' tgt : Nat) (hd : decode M.2.2.1 pc = .ok (.ifCond .ge off, 3)) (hp : pc + 3 = pc') (ht : (pc : Int) + off = (tgt : Int)) (kt : 0 ≤ x → XX g b d M tgt ls st N σ N' Q) (kf : x < 0 → XX g b d M pc' ls st N σ N' Q) : XX g b d M pc ls ((0, x) :: st) N σ N' Q := by
  intro p l e R s m args below meth c H locs N0 rls Qf C hN hR hL ho hs hret
  subst hp
  have hx : in32 x := (okl_c hs).1.1 rfl
  refine lv_if_ge C.1 C.2.1 hd ht (fun h => ?_) (fun h => ?_)
  · exact kt ((i32le in32_0 hx).mp h) p l e R s m args below meth c H locs N0 rls Qf C hN hR hL ho (okl_c hs).2 hret
  · exact kf (Int.not_le.mp (fun z => h ((i32le in32_0 hx).mpr z))) p l e R s m args below meth c H locs N0 rls Qf C hN hR hL ho (okl_c hs).2 hret
theorem E_if_gt {x : Int} {off : Int} (pc' tgt : Nat) (hd : decode M.2.2.1 pc = .ok (.ifCond .gt off, 3)) (hp : pc + 3 = pc') (ht : (pc : Int) + off = (tgt : Int)) (kt : 0 < x → XX g b d M tgt ls st N σ N' Q) (kf : x ≤ 0 → XX g b d M pc' ls st N σ N' Q) : XX g b d M pc ls ((0, x) :: st) N σ N' Q := by
  intro p l e R s m args below meth c H locs N0 rls Qf C hN hR hL ho hs hret
  subst hp
  have hx : in32 x := (okl_c hs).1.1 rfl
  refine lv_if_gt C.1 C.2.1 hd ht (fun h => ?_) (fun h => ?_)
  · exact kt ((i32lt in32_0 hx).mp h) p l e R s m args below meth c H locs N0 rls Qf C hN hR hL ho (okl_c hs).2 hret
  · exact kf (Int.not_lt.mp (fun z => h ((i32lt in32_0 hx).mpr z))) p l e R s m args below meth c H locs N0 rls Qf C hN hR hL ho (okl_c hs).2 hret
theorem E_if_le {x : Int} {off : Int} (pc' tgt : Nat) (hd : decode M.2.2.1 pc = .ok (.ifCond .le off, 3)) (hp : pc + 3 = pc') (ht : (pc : Int) + off = (tgt : Int)) (kt : x ≤ 0 → XX g b d M tgt ls st N σ N' Q) (kf : 0 < x → XX g b d M pc' ls st N σ N' Q) : XX g b d M pc ls ((0, x) :: st) N σ N' Q := by
  intro p l e R s m args below meth c H locs N0 rls Qf C hN hR hL ho hs hret
  subst hp
  have hx : in32 x := (okl_c hs).1.1 rfl
  refine lv_if_le C.1 C.2.1 hd ht (fun h => ?_) (fun h => ?_)
  · exact kt ((i32le hx in32_0).mp h) p l e R s m args below meth c H locs N0 rls Qf C hN hR hL ho (okl_c hs).2 hret
  · exact kf (Int.not_le.mp (fun z => h ((i32le hx in32_0).mpr z))) p l e R s m args below meth c H locs N0 rls Qf C hN hR hL ho (okl_c hs).2 hret
theorem E_goto {off : Int} (tgt : Nat) (hd : decode M.2.2.1 pc = .ok (.goto off, 3)) (ht : (pc : Int) + off = (tgt : Int)) (k : XX g b d M tgt ls st N σ N' Q) : XX g b d M pc ls st N σ N' Q := by
  intro p l e R s m args below meth c H locs N0 rls Qf C hN hR hL ho hs hret
  exact lv_goto C.1 C.2.1 hd ht (k p l e R s m args below meth c H locs N0 rls Qf C hN hR hL ho hs hret)
theorem E_top {t : Nat} {y : Int} (k : ∀ x : Int, x = y → XX g b d M pc ls ((t, x) :: st) N σ N' Q) : XX g b d M pc ls ((t, y) :: st) N σ N' Q := k y rfl
theorem E_iret {x : Int} (hd : decode M.2.2.1 pc = .ok (.ireturn, 1)) (hr : M.2.2.2.2 = some .int) (hn : N = N') (q : Q x σ) : XX g b d M pc ls [(0, x)] N σ N' Q := by
  intro p l e R s m args below meth c H locs N0 rls Qf C hN hR hL ho hs hret
  subst hn
  have e : rtl M x = [(0, x)] := by unfold rtl; rw [hr]
  have k := hret x σ H locs pc rls q hR (by rw [e]; exact hs) (by unfold rin; rw [hr]; exact hd) (fun ty h h2 => by rw [hr] at h; cases h; rcases h2 with h | h | h | h <;> cases h)
  rw [e] at k
  exact k
theorem E_lret {x : Int} (hd : decode M.2.2.1 pc = .ok (.lreturn, 1)) (hr : M.2.2.2.2 = some .long) (hn : N = N') (q : Q x σ) : XX g b d M pc ls [(1, x)] N σ N' Q := by
  intro p l e R s m args below meth c H locs N0 rls Qf C hN hR hL ho hs hret
  subst hn
  have e : rtl M x = [(1, x)] := by unfold rtl; rw [hr]
  have k := hret x σ H locs pc rls q hR (by rw [e]; exact hs) (by unfold rin; rw [hr]; exact hd) (fun ty h h2 => by rw [hr] at h; cases h; rcases h2 with h | h | h | h <;> cases h)
  rw [e] at k
  exact k
theorem E_zret {x : Int} (hd : decode M.2.2.1 pc = .ok (.ireturn, 1)) (hr : M.2.2.2.2 = some .boolean) (hn : N = N') (hx : x = 0 ∨ x = 1) (q : Q x σ) : XX g b d M pc ls [(0, x)] N σ N' Q := by
  intro p l e R s m args below meth c H locs N0 rls Qf C hN hR hL ho hs hret
  subst hn
  have e : rtl M x = [(0, x)] := by unfold rtl; rw [hr]
  have k := hret x σ H locs pc rls q hR (by rw [e]; exact hs) (by unfold rin; rw [hr]; exact hd) (fun ty h h2 => by rw [hr] at h; cases h; rcases hx with rfl | rfl <;> rfl)
  rw [e] at k
  exact k
theorem E_vret (hd : decode M.2.2.1 pc = .ok (.return_, 1)) (hr : M.2.2.2.2 = none) (hn : N = N') (q : Q 0 σ) : XX g b d M pc ls [] N σ N' Q := by
  intro p l e R s m args below meth c H locs N0 rls Qf C hN hR hL ho hs hret
  subst hn
  have e : rtl M 0 = [] := by unfold rtl; rw [hr]
  have k := hret 0 σ H locs pc rls q hR (by rw [e]; exact hs) (by unfold rin; rw [hr]; exact hd) (fun ty h h2 => by rw [hr] at h; cases h)
  rw [e] at k
  exact k
theorem E_aret {x : Int} {C0 : String} (hd : decode M.2.2.1 pc = .ok (.areturn, 1)) (hr : M.2.2.2.2 = some (.object C0)) (hn : N = N') (q : Q x σ) : XX g b d M pc ls [(2, x)] N σ N' Q := by
  intro p l e R s m args below meth c H locs N0 rls Qf C hN hR hL ho hs hret
  subst hn
  have e : rtl M x = [(2, x)] := by unfold rtl; rw [hr]
  have k := hret x σ H locs pc rls q hR (by rw [e]; exact hs) (by unfold rin; rw [hr]; exact hd) (fun ty h h2 => by rw [hr] at h; cases h; rcases h2 with h | h | h | h <;> cases h)
  rw [e] at k
  exact k
end PROWS
