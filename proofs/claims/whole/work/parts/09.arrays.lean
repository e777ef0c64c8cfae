/-! ROWS of arrays, of what is made, of statics -/
section PARR
variable {g : PG} {b : Bool} {d : Nat} {M : PM} {pc : Nat} {ls st : List PV} {N : Nat} {σ : PS} {N' : Nat} {Q : Int → PS → Prop} {a i : Int}
theorem ix_in {i : Int} {n : Nat} (h : 0 ≤ i ∧ i < n) (hi : in32 i) : vp_in (Int32.ofInt i) n := vp_in_iff.mpr (by rw [ofInt_toInt32 hi]; exact h)
theorem ix_cl {i : Int} (h : 0 ≤ i) (hi : in32 i) : (Int32.ofInt i).toNatClampNeg = i.toNat := by
  show (Int32.ofInt i).toInt.toNat = i.toNat
  rw [ofInt_toInt32 hi]
theorem ix_lt {i : Int} {n : Nat} (h : 0 ≤ i ∧ i < n) (hi : in32 i) : ¬ (Int32.ofInt i < 0 ∨ n ≤ (Int32.ofInt i).toNatClampNeg) := ix_in h hi
theorem sty_ar {k t n j : Nat} (h : kd k = (t, n)) (ht : ¬ t < 20) : sty k j = if t = 21 then 1 else 0 := by
  unfold sty; rw [h]; simp [ht]
def arK (t : Nat) : FieldType := match t with
  | 20 => .int
  | 21 => .long
  | 22 => .byte
  | _ => .boolean
theorem va_Kar {g : PG} {s : State} (hK : va_K g.2.1 classes (atys g) s) : (∀ t, 20 ≤ t → t < 24 → (atys g)[t - 20]? = some (g.2.2.1 t, arK t)) := by
  intro t h1 h2
  rcases (show t = 20 ∨ t = 21 ∨ t = 22 ∨ t = 23 by omega) with rfl | rfl | rfl | rfl <;> rfl
theorem E_aldG {t n : Nat} {ins : Instr} (pc' : Nat) (hd : decode M.2.2.1 pc = .ok (ins, 1)) (hk : (ins = .iaload ∧ t = 20) ∨ (ins = .baload ∧ t = 22) ∨ (ins = .baload ∧ t = 23)) (hA : Fat N a (t, n)) (hi : 0 ≤ i ∧ i < n) (hp : pc + 1 = pc') (k : XX g b d M pc' ls ((0, σ a i) :: st) N σ N' Q) : XX g b d M pc ls ((0, i) :: (2, a) :: st) N σ N' Q := by
  intro p l e R s m args below meth c H locs N0 rls Qf C hN hR hL ho hs hret
  subst hp
  obtain ⟨kk, rfl, hk1, hk2, hk3⟩ := hA.nat
  have ht : ¬ t < 20 ∧ ¬ t = 21 ∧ 20 ≤ t ∧ t < 24 := by omega
  have hii : in32 i := (okl_c hs).1.1 rfl
  have hat := pws_at (g := g) (σ := σ) hk1
  rw [ent_arI hk3 ht.1 ht.2.1] at hat
  have hK := C.2.2.2.2.2.2.2.2.2.2.2.2.1
  have hty := va_Kar hK t ht.2.2.1 ht.2.2.2
  obtain ⟨j, hj⟩ : ∃ j : Nat, i = (j : Int) := ⟨i.toNat, by omega⟩
  have hok : okv (0, σ (kk : Int) i) := by
    have := hR.2.2.1 kk hk1 j
    rw [sty_ar hk3 ht.1, if_neg ht.2.1] at this
    rw [hj]; exact this
  have hk9 := k p l e R s m args below meth c H locs N0 rls Qf C hN hR hL ho (okl_k hok (okl_c (okl_c hs).2).2) hret
  show W _ _ _ _ _ _ _ _ _ _ _ _ _ _ _ (F0 m pc rls (.int (Int32.ofInt i) :: tv g (2, (kk : Int)) :: _))
  rw [tv_ref g (by omega) (by omega), Int.toNat_natCast]
  have e1 : ((Int32.ofInt i).toNatClampNeg : Int) = i := by rw [ix_cl hi.1 hii]; omega
  rcases hk with ⟨rfl, rfl⟩ | ⟨rfl, rfl⟩ | ⟨rfl, rfl⟩
  · exact va_iald C.1 C.2.1 hK hR.1 kk _ hat hty (ix_in hi hii) hd (by simp only [e1]; exact hk9)
  · exact va_bald C.1 C.2.1 hK hR.1 kk _ hat hty (ix_in hi hii) hd (by simp only [e1]; exact hk9)
  · exact va_zald C.1 C.2.1 hK hR.1 kk _ hat hty (ix_in hi hii) hd (by simp only [e1]; exact hk9)
theorem E_iald {n : Nat} (pc' : Nat) (hd : decode M.2.2.1 pc = .ok (.iaload, 1)) (hA : Fat N a (20, n)) (hi : 0 ≤ i ∧ i < n) (hp : pc + 1 = pc') (k : XX g b d M pc' ls ((0, σ a i) :: st) N σ N' Q) : XX g b d M pc ls ((0, i) :: (2, a) :: st) N σ N' Q := E_aldG pc' hd (Or.inl ⟨rfl, rfl⟩) hA hi hp k
theorem E_bald {n : Nat} (pc' : Nat) (hd : decode M.2.2.1 pc = .ok (.baload, 1)) (hA : Fat N a (22, n)) (hi : 0 ≤ i ∧ i < n) (hp : pc + 1 = pc') (k : XX g b d M pc' ls ((0, σ a i) :: st) N σ N' Q) : XX g b d M pc ls ((0, i) :: (2, a) :: st) N σ N' Q := E_aldG pc' hd (Or.inr (Or.inl ⟨rfl, rfl⟩)) hA hi hp k
theorem E_zald {n : Nat} (pc' : Nat) (hd : decode M.2.2.1 pc = .ok (.baload, 1)) (hA : Fat N a (23, n)) (hi : 0 ≤ i ∧ i < n) (hp : pc + 1 = pc') (k : XX g b d M pc' ls ((0, σ a i) :: st) N σ N' Q) : XX g b d M pc ls ((0, i) :: (2, a) :: st) N σ N' Q := E_aldG pc' hd (Or.inr (Or.inr ⟨rfl, rfl⟩)) hA hi hp k
theorem E_lald {n : Nat} (pc' : Nat) (hd : decode M.2.2.1 pc = .ok (.laload, 1)) (hA : Fat N a (21, n)) (hi : 0 ≤ i ∧ i < n) (hp : pc + 1 = pc') (k : XX g b d M pc' ls ((1, σ a i) :: st) N σ N' Q) : XX g b d M pc ls ((0, i) :: (2, a) :: st) N σ N' Q := by
  intro p l e R s m args below meth c H locs N0 rls Qf C hN hR hL ho hs hret
  subst hp
  obtain ⟨kk, rfl, hk1, hk2, hk3⟩ := hA.nat
  have hii : in32 i := (okl_c hs).1.1 rfl
  have hat := pws_at (g := g) (σ := σ) hk1
  rw [ent_arL hk3] at hat
  have hK := C.2.2.2.2.2.2.2.2.2.2.2.2.1
  have hty := va_Kar hK 21 (by decide) (by decide)
  obtain ⟨j, hj⟩ : ∃ j : Nat, i = (j : Int) := ⟨i.toNat, by omega⟩
  have hok : okv (1, σ (kk : Int) i) := by
    have := hR.2.2.1 kk hk1 j
    rw [sty_ar hk3 (by decide), if_pos rfl] at this
    rw [hj]; exact this
  have hk9 := k p l e R s m args below meth c H locs N0 rls Qf C hN hR hL ho (okl_k hok (okl_c (okl_c hs).2).2) hret
  show W _ _ _ _ _ _ _ _ _ _ _ _ _ _ _ (F0 m pc rls (.int (Int32.ofInt i) :: tv g (2, (kk : Int)) :: _))
  rw [tv_ref g (by omega) (by omega), Int.toNat_natCast]
  have e1 : ((Int32.ofInt i).toNatClampNeg : Int) = i := by rw [ix_cl hi.1 hii]; omega
  exact va_lald C.1 C.2.1 hK hR.1 kk _ hat hty (ix_in hi hii) hd (by simp only [e1]; exact hk9)
theorem Lay_ar {σ : PS} {k t n : Nat} {i v : Int} (h : Lay σ) (hk : kd k = (t, n)) (ht : ¬ t < 20) : Lay (su σ k i v) := by
  intro q hq
  obtain ⟨l1, l2, l3⟩ := layl_ref q hq
  rw [su_ne, h q hq]
  by_cases e : q.1 = (k : Int)
  · exfalso
    have e1 : q.1.toNat = k := by omega
    rw [e1, hk] at l2
    exact ht l2
  · exact Or.inl e
theorem okS_suI {N : Nat} {σ : PS} {k : Nat} {i v : Int} (h : okS N σ) (hi : 0 ≤ i) (hv : okv (sty k i.toNat, v)) : okS N (su σ k i v) := by
  obtain ⟨j, rfl⟩ : ∃ j : Nat, i = (j : Int) := ⟨i.toNat, by omega⟩
  exact okS_su h hv
theorem E_astG {t n : Nat} {x y : Int} {ins : Instr} (pc' : Nat) (hd : decode M.2.2.1 pc = .ok (ins, 1)) (hk : (ins = .iastore ∧ t = 20 ∧ y = x) ∨ (ins = .bastore ∧ t = 22 ∧ y = ib8 x) ∨ (ins = .bastore ∧ t = 23 ∧ y = x ∧ (x = 0 ∨ x = 1))) (hA : Fat N a (t, n)) (hi : 0 ≤ i ∧ i < n) (hp : pc + 1 = pc') (k : XX g b d M pc' ls st N (su σ a i y) N' Q) : XX g b d M pc ls ((0, x) :: (0, i) :: (2, a) :: st) N σ N' Q := by
  intro p l e R s m args below meth c H locs N0 rls Qf C hN hR hL ho hs hret
  subst hp
  obtain ⟨kk, rfl, hk1, hk2, hk3⟩ := hA.nat
  have ht : ¬ t < 20 ∧ ¬ t = 21 ∧ 20 ≤ t ∧ t < 24 := by omega
  have hx : in32 x := (okl_c hs).1.1 rfl
  have hii : in32 i := (okl_c (okl_c hs).2).1.1 rfl
  have hs3 := (okl_c (okl_c (okl_c hs).2).2).2
  have hat := pws_at (g := g) (σ := σ) hk1
  rw [ent_arI hk3 ht.1 ht.2.1] at hat
  have hK := C.2.2.2.2.2.2.2.2.2.2.2.2.1
  have hty := va_Kar hK t ht.2.2.1 ht.2.2.2
  have hy : in32 y := by
    rcases hk with ⟨-, -, rfl⟩ | ⟨-, -, rfl⟩ | ⟨-, -, rfl, -⟩
    · exact hx
    · exact toInt_in32 _
    · exact hx
  have e1 : (Int32.ofInt i).toNatClampNeg = i.toNat := ix_cl hi.1 hii
  have step : ∀ (H1 : Heap), H1[g.1 + kk]? = some ((arrV (g.2.2.1 t) n (fun j => .int (Int32.ofInt (σ kk j)))).setSlot (Int32.ofInt i).toNatClampNeg (.int (Int32.ofInt y))) → H1.size = H.size → (∀ q, q ≠ g.1 + kk → H1[q]? = H[q]?) → W p l e R s m args below meth c H1 (locs ++ [⟨g.1 + kk, (Int32.ofInt i).toNatClampNeg⟩]) (N - N0) (SL N - SL N0) Qf (F0 m (pc + 1) rls (st.map (tv g))) := by
    intro H1 q1 q2 q3
    refine k p l e R s m args below meth c H1 _ N0 rls Qf C hN ⟨?_, q2.trans hR.2.1, okS_suI hR.2.2.1 hi.1 (by rw [sty_ar hk3 ht.1, if_neg ht.2.1]; exact okv0 hy), fun hb => Lay_ar (hR.2.2.2.1 hb) hk3 ht.1, hR.2.2.2.2.put q2 q3 ((pws_D g N σ).2 kk _ hat)⟩ hL ho hs3 hret
    rw [← pws_set (σ := σ) (σ' := su σ kk i y) (ent_arI hk3 ht.1 ht.2.1) (fun j _ hj => ent_su_ne (by omega))]
    refine hR.1.set (pws_D g N σ) hat ?_ q3
    show H1[g.1 + kk]? = some (vp_cell _ _)
    rw [q1, arrV_store, e1, vp_cell_i]
    congr 2
    funext j
    show updV _ i.toNat _ j = .int (Int32.ofInt (su σ kk i y kk j))
    unfold updV
    by_cases hj : j = i.toNat
    · rw [if_pos hj, show ((j : Nat) : Int) = i by omega, su_eq]
    · rw [if_neg hj, su_ne (by omega)]
  show W _ _ _ _ _ _ _ _ _ _ _ _ _ _ _ (F0 m pc rls (.int (Int32.ofInt x) :: .int (Int32.ofInt i) :: tv g (2, (kk : Int)) :: _))
  rw [tv_ref g (by omega) (by omega), Int.toNat_natCast]
  have hlt := ix_lt hi hii
  rw [← arrV_size (g.2.2.1 t) n (fun j => .int (Int32.ofInt (σ kk j)))] at hlt
  have harr := (hK.2 _ _ hty).1 n (fun j => .int (Int32.ofInt (σ kk j)))
  rcases hk with ⟨rfl, rfl, rfl⟩ | ⟨rfl, rfl, rfl⟩ | ⟨rfl, rfl, rfl, h01⟩
  · exact W.iast C.1 C.2.1 (hR.1 kk _ hat) harr (fun q => by cases q) hlt rfl rfl hd step
  · refine W.bast C.1 C.2.1 (hR.1 kk _ hat) harr (fun q => by cases q) hlt rfl rfl hd (fun H1 q1 => step H1 ?_)
    rw [q1]
    unfold ib8
    rw [Int32.ofInt_toInt]
    rfl
  · refine W.zast C.1 C.2.1 (hR.1 kk _ hat) harr (fun q => by cases q) hlt rfl rfl hd (fun H1 q1 => step H1 ?_)
    rw [q1]
    rcases h01 with rfl | rfl <;> rfl
theorem E_iast {n : Nat} {x : Int} (pc' : Nat) (hd : decode M.2.2.1 pc = .ok (.iastore, 1)) (hA : Fat N a (20, n)) (hi : 0 ≤ i ∧ i < n) (hp : pc + 1 = pc') (k : XX g b d M pc' ls st N (su σ a i x) N' Q) : XX g b d M pc ls ((0, x) :: (0, i) :: (2, a) :: st) N σ N' Q := E_astG pc' hd (Or.inl ⟨rfl, rfl, rfl⟩) hA hi hp k
theorem E_bast {n : Nat} {x : Int} (pc' : Nat) (hd : decode M.2.2.1 pc = .ok (.bastore, 1)) (hA : Fat N a (22, n)) (hi : 0 ≤ i ∧ i < n) (hp : pc + 1 = pc') (k : XX g b d M pc' ls st N (su σ a i (ib8 x)) N' Q) : XX g b d M pc ls ((0, x) :: (0, i) :: (2, a) :: st) N σ N' Q := E_astG pc' hd (Or.inr (Or.inl ⟨rfl, rfl, rfl⟩)) hA hi hp k
theorem E_zast {n : Nat} {x : Int} (pc' : Nat) (hd : decode M.2.2.1 pc = .ok (.bastore, 1)) (hA : Fat N a (23, n)) (hi : 0 ≤ i ∧ i < n) (hx : x = 0 ∨ x = 1) (hp : pc + 1 = pc') (k : XX g b d M pc' ls st N (su σ a i x) N' Q) : XX g b d M pc ls ((0, x) :: (0, i) :: (2, a) :: st) N σ N' Q := E_astG pc' hd (Or.inr (Or.inr ⟨rfl, rfl, rfl, hx⟩)) hA hi hp k
theorem E_last {n : Nat} {x : Int} (pc' : Nat) (hd : decode M.2.2.1 pc = .ok (.lastore, 1)) (hA : Fat N a (21, n)) (hi : 0 ≤ i ∧ i < n) (hp : pc + 1 = pc') (k : XX g b d M pc' ls st N (su σ a i x) N' Q) : XX g b d M pc ls ((1, x) :: (0, i) :: (2, a) :: st) N σ N' Q := by
  intro p l e R s m args below meth c H locs N0 rls Qf C hN hR hL ho hs hret
  subst hp
  obtain ⟨kk, rfl, hk1, hk2, hk3⟩ := hA.nat
  have hx : in64 x := (okl_c hs).1.2 rfl
  have hii : in32 i := (okl_c (okl_c hs).2).1.1 rfl
  have hs3 := (okl_c (okl_c (okl_c hs).2).2).2
  have hat := pws_at (g := g) (σ := σ) hk1
  rw [ent_arL hk3] at hat
  have hK := C.2.2.2.2.2.2.2.2.2.2.2.2.1
  have hty := va_Kar hK 21 (by decide) (by decide)
  have e1 : (Int32.ofInt i).toNatClampNeg = i.toNat := ix_cl hi.1 hii
  show W _ _ _ _ _ _ _ _ _ _ _ _ _ _ _ (F0 m pc rls (.long (Int64.ofInt x) :: .int (Int32.ofInt i) :: tv g (2, (kk : Int)) :: _))
  rw [tv_ref g (by omega) (by omega), Int.toNat_natCast]
  have hlt := ix_lt hi hii
  rw [← arrV_size (g.2.2.1 21) n (fun j => .long (Int64.ofInt (σ kk j)))] at hlt
  have harr := (hK.2 _ _ hty).1 n (fun j => .long (Int64.ofInt (σ kk j)))
  refine W.last C.1 C.2.1 (hR.1 kk _ hat) harr (fun q => by cases q) hlt rfl rfl hd (fun H1 q1 q2 q3 => ?_)
  refine k p l e R s m args below meth c H1 _ N0 rls Qf C hN ⟨?_, q2.trans hR.2.1, okS_suI hR.2.2.1 hi.1 (by rw [sty_ar hk3 (by decide), if_pos rfl]; exact okv1 hx), fun hb => Lay_ar (hR.2.2.2.1 hb) hk3 (by decide), hR.2.2.2.2.put q2 q3 ((pws_D g N σ).2 kk _ hat)⟩ hL ho hs3 hret
  rw [← pws_set (σ := σ) (σ' := su σ kk i x) (ent_arL hk3) (fun j _ hj => ent_su_ne (by omega))]
  refine hR.1.set (pws_D g N σ) hat ?_ q3
  show H1[g.1 + kk]? = some (vp_cell _ _)
  have q1 : H1[g.1 + kk]? = some ((arrV (g.2.2.1 21) n (fun j => .long (Int64.ofInt (σ kk j)))).setSlot (Int32.ofInt i).toNatClampNeg (.long (Int64.ofInt x))) := q1
  rw [q1, arrV_store, e1, vp_cell_l]
  congr 2
  funext j
  show updV _ i.toNat _ j = .long (Int64.ofInt (su σ kk i x kk j))
  unfold updV
  by_cases hj : j = i.toNat
  · rw [if_pos hj, show ((j : Nat) : Int) = i by omega, su_eq]
  · rw [if_neg hj, su_ne (by omega)]
theorem E_alen {t n : Nat} (ni : Int) (pc' : Nat) (hd : decode M.2.2.1 pc = .ok (.arraylength, 1)) (hA : Fat N a (t, n)) (ht : 20 ≤ t ∧ t < 24) (hn : n < 100000) (hni : (n : Int) = ni) (hp : pc + 1 = pc') (k : XX g b d M pc' ls ((0, ni) :: st) N σ N' Q) : XX g b d M pc ls ((2, a) :: st) N σ N' Q := by
  intro p l e R s m args below meth c H locs N0 rls Qf C hN hR hL ho hs hret
  subst hp
  subst hni
  obtain ⟨kk, rfl, hk1, hk2, hk3⟩ := hA.nat
  have hat := pws_at (g := g) (σ := σ) hk1
  have hK := C.2.2.2.2.2.2.2.2.2.2.2.2.1
  have hty := va_Kar hK t ht.1 ht.2
  have hk9 := k p l e R s m args below meth c H locs N0 rls Qf C hN hR hL ho (okl_k (okv0 (by unfold in32; omega)) (okl_c hs).2) hret
  show W _ _ _ _ _ _ _ _ _ _ _ _ _ _ _ (F0 m pc rls (tv g (2, (kk : Int)) :: _))
  rw [tv_ref g (by omega) (by omega), Int.toNat_natCast]
  by_cases h21 : t = 21
  · subst h21
    rw [ent_arL hk3] at hat
    exact va_alen C.1 C.2.1 hK hR.1 kk _ hat hty (v := Int32.ofInt (n : Int)) (by simp only [Int32.ofInt_eq_ofNat]) hd hk9
  · rw [ent_arI hk3 (by omega) h21] at hat
    exact va_alen C.1 C.2.1 hK hR.1 kk _ hat hty (v := Int32.ofInt (n : Int)) (by simp only [Int32.ofInt_eq_ofNat]) hd hk9
end PARR
