/-! ROWS of the heap: fields, arrays -/
/-- a field's link: class own's entry idx is place j of class ci, of that descriptor -/
def FLk (own : String) (idx ci j : Nat) (ds : String) (fin : Bool) : Prop := ∃ q : vw_C, classes[ci]? = some q ∧ j < q.2.2 ∧ (q.2.1 j).2.2.1 = ds ∧ (q.2.1 j).2.2.2 = fin ∧ Cond.fieldLink own idx (q.2.1 j).1 (q.2.1 j).2.1 (q.2.1 j).2.2.1 ∈ WS ∧ (q.2.1 j).1 = q.1
theorem kd_cls : ∀ (k ci nf : Nat), kd k = (ci, nf) → ci < 20 → ∃ q : vw_C, classes[ci]? = some q ∧ q.2.2 = nf := by
  have h : ∀ q ∈ kdl, q.1 < 20 → ∃ c : vw_C, classes[q.1]? = some c ∧ c.2.2 = q.2 := by
    intro q hq
    simp only [kdl, List.mem_cons, List.not_mem_nil, or_false] at hq
    rcases hq with rfl | rfl | rfl | rfl | rfl | rfl | rfl | rfl | rfl | rfl | rfl | rfl | rfl | rfl | rfl | rfl | rfl | rfl | rfl | rfl | rfl | rfl | rfl | rfl | rfl | rfl | rfl | rfl | rfl | rfl | rfl | rfl | rfl | rfl | rfl | rfl | rfl | rfl | rfl | rfl | rfl | rfl | rfl | rfl | rfl | rfl | rfl | rfl | rfl | rfl | rfl | rfl | rfl | rfl | rfl | rfl | rfl | rfl | rfl | rfl | rfl | rfl | rfl | rfl | rfl | rfl | rfl | rfl | rfl | rfl | rfl | rfl | rfl | rfl | rfl | rfl | rfl | rfl | rfl | rfl | rfl | rfl | rfl | rfl | rfl | rfl | rfl | rfl | rfl | rfl | rfl | rfl | rfl | rfl | rfl | rfl | rfl | rfl | rfl | rfl | rfl | rfl | rfl | rfl | rfl | rfl | rfl | rfl | rfl | rfl | rfl | rfl | rfl | rfl | rfl | rfl | rfl | rfl | rfl | rfl | rfl | rfl | rfl | rfl | rfl | rfl | rfl | rfl | rfl | rfl | rfl | rfl | rfl | rfl | rfl | rfl <;> intro hlt <;> first | exact ⟨_, rfl, rfl⟩ | exact absurd hlt (by decide)
  intro k ci nf hk hc
  unfold kd at hk
  rw [List.getD_eq_getElem?_getD] at hk
  cases hq : kdl[k]? with
  | none =>
    rw [hq] at hk
    simp only [Option.getD_none, Prod.mk.injEq] at hk
    omega
  | some q =>
    rw [hq] at hk
    simp only [Option.getD_some] at hk
    obtain ⟨c, h1, h2⟩ := h q (List.mem_of_getElem? hq) (by rw [hk]; exact hc)
    rw [hk] at h1 h2
    exact ⟨c, h1, h2⟩
section PHEAP
variable {g : PG} {b : Bool} {d : Nat} {M : PM} {pc : Nat} {ls st : List PV} {N : Nat} {σ : PS} {N' : Nat} {Q : Int → PS → Prop} {a : Int}
theorem Fat.nat {N : Nat} {a : Int} {q : Nat × Nat} (h : Fat N a q) : ∃ k : Nat, a = (k : Int) ∧ k < N ∧ k < 100000 ∧ kd k = q :=
  ⟨a.toNat, by have := h.1; omega, h.2.1, by have := h.2.2.1; have := h.1; omega, h.2.2.2⟩
theorem fs_get {g : PG} {σ : PS} {k ci nf j : Nat} (hj : j < nf) : ((List.range nf).map fun i => tv g (fty ci i, σ k i))[j]? = some (tv g (fty ci j, σ k j)) := by
  rw [List.getElem?_map, List.getElem?_range hj]; rfl
/-- a field is read; its type is by the table -/
theorem E_get {idx ci nf j t : Nat} {ds : String} {fin : Bool} (ji : Int) (pc' : Nat) (hd : decode M.2.2.1 pc = .ok (.getfield idx, 3)) (hF : FLk M.1 idx ci j ds fin) (hA : Fat N a (ci, nf)) (ht : fty ci j = t) (hc : ci < 20) (hji : (j : Int) = ji) (hp : pc + 3 = pc') (k : XX g b d M pc' ls ((t, σ a ji) :: st) N σ N' Q) : XX g b d M pc ls ((2, a) :: st) N σ N' Q := by
  intro p l e R s m args below meth c H locs N0 rls Qf C hN hR hL ho hs hret
  subst hp
  subst ht
  subst hji
  obtain ⟨q, f1, f2, f3, f4, f5, f6⟩ := hF
  obtain ⟨kk, rfl, hk1, hk2, hk3⟩ := hA.nat
  obtain ⟨q', g1, g2⟩ := kd_cls kk ci nf hk3 hc
  cases f1.symm.trans g1
  subst g2
  have hat := pws_at (g := g) (σ := σ) hk1
  rw [ent_obj hk3 hc] at hat
  have hk := k p l e R s m args below meth c H locs N0 rls Qf C hN hR hL ho (okl_k (by
    have := hR.2.2.1 kk hk1 j
    unfold sty at this
    rw [hk3] at this
    simpa [hc] using this) (okl_c hs).2) hret
  show W _ _ _ _ _ _ _ _ _ _ _ _ _ _ _ (F0 m pc rls (tv g (2, (kk : Int)) :: _))
  rw [tv_ref g (by omega) (by omega), Int.toNat_natCast]
  exact va_get C.1 C.2.1 C.2.2.2.2.2.2.1 (cls_in ci q f1) C.2.2.2.2.2.1 C.2.2.2.2.2.2.2.2.2.2.2.2.1 hR.1 kk hat f1 j f2 (C.2.2.2.2.2.2.1 _ f5) (fun _ h => h) (fs_get f2) hd hk
/-- a final reference is where the layout has it -/
theorem E_getL {idx ci nf j : Nat} {v : Int} {ds : String} {fin : Bool} (pc' : Nat) (hd : decode M.2.2.1 pc = .ok (.getfield idx, 3)) (hF : FLk M.1 idx ci j ds fin) (hA : Fat N a (ci, nf)) (ht : fty ci j = 2) (hc : ci < 20) (hv : (a, j, v) ∈ layl) (hp : pc + 3 = pc') (k : XX g true d M pc' ls ((2, v) :: st) N σ N' Q) : XX g true d M pc ls ((2, a) :: st) N σ N' Q := by
  refine E_get j pc' hd hF hA ht hc rfl hp ?_
  intro p l e R s m args below meth c H locs N0 rls Qf C hN hR
  have e1 := hR.2.2.2.1 rfl _ hv
  simp only at e1
  rw [e1]
  exact k p l e R s m args below meth c H locs N0 rls Qf C hN hR
theorem okS_su {N : Nat} {σ : PS} {k j : Nat} {v : Int} (h : okS N σ) (hv : okv (sty k j, v)) : okS N (su σ k j v) := by
  intro i hi i2
  by_cases e : i = k ∧ i2 = j
  · rw [e.1, e.2, su_eq]; exact hv
  · rw [su_ne (by omega)]; exact h i hi i2
theorem layl_ref : ∀ q ∈ layl, 0 ≤ q.1 ∧ (kd q.1.toNat).1 < 20 ∧ sty q.1.toNat q.2.1 = 2 := by decide +kernel
theorem Lay_su {σ : PS} {k j : Nat} {v : Int} (h : Lay σ) (hs : sty k j ≠ 2) : Lay (su σ k j v) := by
  intro q hq
  obtain ⟨l1, l2, l3⟩ := layl_ref q hq
  rw [su_ne, h q hq]
  by_cases e : q.1 = (k : Int) ∧ ((q.2.1 : Nat) : Int) = (j : Int)
  · exfalso
    have e1 : q.1.toNat = k := by omega
    have e2 : q.2.1 = j := by omega
    rw [e1, e2] at l3
    exact hs l3
  · omega
theorem Lay_suR {σ : PS} {a : Int} {j : Nat} {v : Int} (h : Lay σ) (hs : ∀ q ∈ layl, q.1 = a → q.2.1 ≠ j) : Lay (su σ a j v) := by
  intro q hq
  rw [su_ne, h q hq]
  by_cases e : q.1 = a
  · have := hs q hq e
    omega
  · exact Or.inl e
/-- what a field of that descriptor keeps -/
def keeps (ds : String) (v : PV) : Prop := (ds = "I" ∧ v.1 = 0) ∨ (ds = "J" ∧ v.1 = 1) ∨ (ds = "Z" ∧ v.1 = 0 ∧ (v.2 = 0 ∨ v.2 = 1))
theorem E_putG {idx ci nf j t : Nat} {x : Int} {ds : String} {ty : FieldType} {fin0 : Bool} (ji : Int) (pc' : Nat) (hd : decode M.2.2.1 pc = .ok (.putfield idx, 3)) (hF : FLk M.1 idx ci j ds fin0) (hA : Fat N a (ci, nf)) (ht : fty ci j = t) (hc : ci < 20) (hfin : fin0 = false ∨ (M.2.1.name = "<init>" ∧ (∀ q, classes[ci]? = some q → q.1 = M.1))) (hty : parseFieldDescriptor ds = some ty) (hnf : ∀ g : PG, okv (t, x) → narrow ty (tv g (t, x)) = tv g (t, x) ∧ fits ty (tv g (t, x)) = true) (hlay : b = true → Lay σ → Lay (su σ a j x)) (hji : (j : Int) = ji) (hp : pc + 3 = pc') (k : XX g b d M pc' ls st N (su σ a ji x) N' Q) : XX g b d M pc ls ((t, x) :: (2, a) :: st) N σ N' Q := by
  intro p l e R s m args below meth c H locs N0 rls Qf C hN hR hL ho hs hret
  subst hp
  subst ht
  subst hji
  obtain ⟨q, f1, f2, f3, f4, f5, f6⟩ := hF
  obtain ⟨kk, rfl, hk1, hk2, hk3⟩ := hA.nat
  obtain ⟨q', g1, g2⟩ := kd_cls kk ci nf hk3 hc
  cases f1.symm.trans g1
  subst g2
  have hat := pws_at (g := g) (σ := σ) hk1
  rw [ent_obj hk3 hc] at hat
  obtain ⟨ty0, t1, t2⟩ := cls_ty ci q f1
  have hv := (okl_c hs).1
  have hst : sty kk j = fty ci j := by unfold sty; rw [hk3]; simp [hc]
  obtain ⟨n1, n2⟩ := hnf g hv
  have step : ∀ (H1 : Heap) (locs1 : List Loc), va_P g.2.1 classes ((pws g N σ).set kk (g.1 + kk, .inr (ci, ((List.range q.2.2).map fun i => tv g (fty ci i, σ kk i)).set j (tv g (fty ci j, x))))) H1 → va_S (pA g) s.heap H1 locs1 → H1.size = H.size → W p l e R s m args below meth c H1 locs1 (N - N0) (SL N - SL N0) Qf (F0 m (pc + 3) rls (st.map (tv g))) := by
    intro H1 locs1 hP1 hS1 hz
    rw [fs_set f2, pws_set (σ' := su σ kk j x) (ent_obj hk3 hc) (fun i _ hi => ent_su_ne (by omega))] at hP1
    exact k p l e R s m args below meth c H1 locs1 N0 rls Qf C hN ⟨hP1, hz.trans hR.2.1, okS_su hR.2.2.1 (by rw [hst]; exact hv), fun hb => hlay hb (hR.2.2.2.1 hb), hS1⟩ hL ho (okl_c (okl_c hs).2).2 hret
  show W _ _ _ _ _ _ _ _ _ _ _ _ _ _ _ (F0 m pc rls (tv g (fty ci j, x) :: tv g (2, (kk : Int)) :: _))
  rw [tv_ref g (by omega) (by omega), Int.toNat_natCast]
  have hts := C.2.2.2.2.2.2.1
  have hin := cls_in ci q f1
  have hown := C.2.2.2.2.2.1
  have hK := C.2.2.2.2.2.2.2.2.2.2.2.2.1
  have hap := va_apart (own := M.1) hts hin ty0 t1 t2 hK f1
  obtain ⟨r, h1, cell, q1, q2, q3, q4⟩ := hR.1 kk _ hat
  cases h1.symm.trans f1
  obtain ⟨hS, hfc, kC, hkC, hkind⟩ := hK.1 ci _ f1
  obtain ⟨cf, kf, fi, f, hi, hsl⟩ := hS j f2
  have hlay1 := hts _ (hin _ (u_in_lay f2))
  have hst1 := (u_facts hfc hkC (u_lays hts hin f2) hi).1
  have hd1 : parseFieldDescriptor (q.2.1 j).2.2.1 = some ty := by rw [f3]; exact hty
  have fin : ∀ (H' : Heap), H'[g.1 + kk]? = some (cell.setSlot f.slot (tv g (fty ci j, x))) → H'.size = H.size → (∀ y, y ≠ g.1 + kk → H'[y]? = H[y]?) → W p l e R s m args below meth c H' (locs ++ [⟨g.1 + kk, f.slot⟩]) (N - N0) (SL N - SL N0) Qf (F0 m (pc + 3) rls (st.map (tv g))) := by
    intro H' e1 e2 e3
    rw [hsl] at e1 ⊢
    exact step H' _ (hR.1.set (pws_D g N σ) hat ⟨_, f1, t_OB.to (V := updV (vp_V _) j (tv g (fty ci j, x))) ⟨_, e1, q2, q3, t_set q4 hap f2 _⟩ (fun i _ => vp_updV_set (by simpa using f2) _ i)⟩ e3) (hR.2.2.2.2.put e2 e3 ((pws_D g N σ).2 kk _ hat)) e2
  rcases hfin with hfin | ⟨hfin, hfin2⟩
  · unfold u_lay at hlay1
    rw [if_neg (by rw [f4, hfin]; decide)] at hlay1
    have h6 := u_store hfc hkC hkind hlay1 hi hd1 n1 n2
    exact W.putK C.1 C.2.1 (f := f) ⟨hown, hts _ f5, ⟨_, _, _, hi⟩, hst1⟩ (by rw [q2]; exact h6) q1 q3 (by rw [hsl]; exact k2_hasslot (q4 j f2)) rfl rfl hd fin
  · by_cases hb : fin0 = false
    · unfold u_lay at hlay1
      rw [if_neg (by rw [f4, hb]; decide)] at hlay1
      have h6 := u_store hfc hkC hkind hlay1 hi hd1 n1 n2
      exact W.putK C.1 C.2.1 (f := f) ⟨hown, hts _ f5, ⟨_, _, _, hi⟩, hst1⟩ (by rw [q2]; exact h6) q1 q3 (by rw [hsl]; exact k2_hasslot (q4 j f2)) rfl rfl hd fin
    · have hb1 : fin0 = true := by cases fin0 <;> first | rfl | exact absurd rfl hb
      unfold u_lay at hlay1
      rw [if_pos (by rw [f4, hb1])] at hlay1
      have hcf : m.cls = cf := by
        obtain ⟨_, _, c', _, _, _, -, -, hf', -, -, -, hown2, -⟩ := Cond.laysFinal_spec hlay1
        have e1 : c' = cf := by have := hi.symm.trans hf'; simp at this; exact this.1.symm
        rw [f6, hfin2 q f1] at hown2
        rw [← e1]; exact Option.some.inj (hown.symm.trans hown2)
      have h6 := u_fits hfc hkC hkind (Or.inr hlay1) hi hd1 n1 n2
      exact W.putFinK C.1 C.2.1 hown (hts _ f5) hi hst1 hcf (C.2.2.2.2.2.2.2.1 hfin) (by rw [q2]; exact h6) q1 q3 (by rw [hsl]; exact k2_hasslot (q4 j f2)) rfl rfl hd fin
theorem E_putI {idx ci nf j : Nat} {x : Int} {fin : Bool} (ji : Int) (pc' : Nat) (hd : decode M.2.2.1 pc = .ok (.putfield idx, 3)) (hF : FLk M.1 idx ci j "I" fin) (hA : Fat N a (ci, nf)) (ht : fty ci j = 0) (hc : ci < 20) (hfin : fin = false ∨ (M.2.1.name = "<init>" ∧ (∀ q, classes[ci]? = some q → q.1 = M.1))) (hji : (j : Int) = ji) (hp : pc + 3 = pc') (k : XX g b d M pc' ls st N (su σ a ji x) N' Q) : XX g b d M pc ls ((0, x) :: (2, a) :: st) N σ N' Q :=
  E_putG ji pc' hd hF hA ht hc hfin (ty := .int) (by decide +kernel) (fun g _ => ⟨rfl, rfl⟩) (fun _ hL => by
    obtain ⟨kk, rfl, hk1, hk2, hk3⟩ := hA.nat
    exact Lay_su hL (by unfold sty; rw [hk3]; simp [hc, ht])) hji hp k
theorem E_putJ {idx ci nf j : Nat} {x : Int} {fin : Bool} (ji : Int) (pc' : Nat) (hd : decode M.2.2.1 pc = .ok (.putfield idx, 3)) (hF : FLk M.1 idx ci j "J" fin) (hA : Fat N a (ci, nf)) (ht : fty ci j = 1) (hc : ci < 20) (hfin : fin = false ∨ (M.2.1.name = "<init>" ∧ (∀ q, classes[ci]? = some q → q.1 = M.1))) (hji : (j : Int) = ji) (hp : pc + 3 = pc') (k : XX g b d M pc' ls st N (su σ a ji x) N' Q) : XX g b d M pc ls ((1, x) :: (2, a) :: st) N σ N' Q :=
  E_putG ji pc' hd hF hA ht hc hfin (ty := .long) (by decide +kernel) (fun g _ => ⟨rfl, rfl⟩) (fun _ hL => by
    obtain ⟨kk, rfl, hk1, hk2, hk3⟩ := hA.nat
    exact Lay_su hL (by unfold sty; rw [hk3]; simp [hc, ht])) hji hp k
theorem E_putZ {idx ci nf j : Nat} {x : Int} {fin : Bool} (ji : Int) (pc' : Nat) (hd : decode M.2.2.1 pc = .ok (.putfield idx, 3)) (hF : FLk M.1 idx ci j "Z" fin) (hA : Fat N a (ci, nf)) (ht : fty ci j = 0) (hc : ci < 20) (hfin : fin = false ∨ (M.2.1.name = "<init>" ∧ (∀ q, classes[ci]? = some q → q.1 = M.1))) (hx : x = 0 ∨ x = 1) (hji : (j : Int) = ji) (hp : pc + 3 = pc') (k : XX g b d M pc' ls st N (su σ a ji x) N' Q) : XX g b d M pc ls ((0, x) :: (2, a) :: st) N σ N' Q :=
  E_putG ji pc' hd hF hA ht hc hfin (ty := .boolean) (by decide +kernel) (fun g _ => by rcases hx with rfl | rfl <;> exact ⟨rfl, rfl⟩) (fun _ hL => by
    obtain ⟨kk, rfl, hk1, hk2, hk3⟩ := hA.nat
    exact Lay_su hL (by unfold sty; rw [hk3]; simp [hc, ht])) hji hp k
theorem E_putR {idx ci nf j : Nat} {x : Int} {ds : String} {ty : FieldType} {fin : Bool} (ji : Int) (pc' : Nat) (hd : decode M.2.2.1 pc = .ok (.putfield idx, 3)) (hF : FLk M.1 idx ci j ds fin) (hA : Fat N a (ci, nf)) (ht : fty ci j = 2) (hc : ci < 20) (hfin : fin = false ∨ (M.2.1.name = "<init>" ∧ (∀ q, classes[ci]? = some q → q.1 = M.1))) (hty : parseFieldDescriptor ds = some ty) (hrt : (∃ n, ty = .object n) ∨ ∃ t, ty = .array t) (hlay : b = true → ∀ q ∈ layl, q.1 = a → q.2.1 ≠ j) (hji : (j : Int) = ji) (hp : pc + 3 = pc') (k : XX g b d M pc' ls st N (su σ a ji x) N' Q) : XX g b d M pc ls ((2, x) :: (2, a) :: st) N σ N' Q :=
  E_putG ji pc' hd hF hA ht hc hfin hty (fun g _ => by
    show narrow ty (va_rf (prf g x)) = _ ∧ _
    rcases hrt with ⟨n, rfl⟩ | ⟨t, rfl⟩ <;> (show narrow _ (va_rf (prf g x)) = va_rf (prf g x) ∧ fits _ (va_rf (prf g x)) = true) <;> cases prf g x <;> exact ⟨rfl, rfl⟩) (fun hb hL => Lay_suR hL (hlay hb)) hji hp k
end PHEAP
