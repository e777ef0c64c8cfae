/-! THE LAW: blocks, printed by a program of ours (blocks.py -law) -/
section PLAWX
variable {g : PG} {b : Bool} {d : Nat} {M : PM} {pc : Nat} {ls st : List PV} {N : Nat} {σ : PS} {N' : Nat} {Q : Int → PS → Prop}
theorem E_aload_nX {q : Fin 4} (pc' : Nat) (hd : decode M.2.2.1 pc = .ok (.aload_n q, 1)) (hl : ls[(q : Nat)]? = some (2, 100002)) (hp : pc + 1 = pc') (k : XX g b d M pc' ls ((2, 100002) :: st) N σ N' Q) : XX g b d M pc ls st N σ N' Q := by
  intro p l e R s m args below meth c H locs N0 rls Qf C hN hR hL ho hs hret
  subst hp
  obtain ⟨-, -, ⟨t, c1, c2, c3⟩, -⟩ := C.2.2.2.2.2.2.2.2.2.2.2.2.2.1
  have e1 : tv g (2, 100002) = .ref t := tvS g (q := 2) c1 (by decide)
  have h1 := hL.at hl (by decide : (2 : Nat) ≠ 9)
  rw [e1] at h1
  refine lv_aload_n C.1 C.2.1 hd rfl h1 ?_
  rw [← e1]
  exact k p l e R s m args below meth c H locs N0 rls Qf C hN hR hL ho (okl_k (okv2 _) hs) hret
end PLAWX
theorem B_L_law_18 {g : PG} {d : Nat} {σ : PS} {Q : Int → PS → Prop} {x3 : Int} (w : (g.2.2.2.2.1 < 100000) ∧ ((w32 ((g.2.2.2.2.1 : Int) - 6) < x3 → Q 1 σ) ∧ (x3 ≤ w32 ((g.2.2.2.2.1 : Int) - 6) → (0 ≤ x3 ∧ x3 < (g.2.2.2.2.1 : Int)) ∧ ((iand ((g.2.2.2.2.2 x3.toNat).toInt) 31 = 0 → (XX g true (d + 1) P_L_law 148 [(2, 100002), (2, 0), (2, 88), (0, x3)] [] 136 σ 136 Q)) ∧ (iand ((g.2.2.2.2.2 x3.toNat).toInt) 31 = 1 → (XX g true (d + 1) P_L_law 171 [(2, 100002), (2, 0), (2, 88), (0, x3)] [] 136 σ 136 Q)) ∧ (iand ((g.2.2.2.2.2 x3.toNat).toInt) 31 = 2 → (XX g true (d + 1) P_L_law 194 [(2, 100002), (2, 0), (2, 88), (0, x3)] [] 136 σ 136 Q)) ∧ (iand ((g.2.2.2.2.2 x3.toNat).toInt) 31 = 3 → (XX g true (d + 1) P_L_law 263 [(2, 100002), (2, 0), (2, 88), (0, x3)] [] 136 σ 136 Q)) ∧ (iand ((g.2.2.2.2.2 x3.toNat).toInt) 31 = 4 → (XX g true (d + 1) P_L_law 306 [(2, 100002), (2, 0), (2, 88), (0, x3)] [] 136 σ 136 Q)) ∧ (iand ((g.2.2.2.2.2 x3.toNat).toInt) 31 = 5 → (XX g true (d + 1) P_L_law 339 [(2, 100002), (2, 0), (2, 88), (0, x3)] [] 136 σ 136 Q)) ∧ (iand ((g.2.2.2.2.2 x3.toNat).toInt) 31 = 6 → (XX g true (d + 1) P_L_law 402 [(2, 100002), (2, 0), (2, 88), (0, x3)] [] 136 σ 136 Q)) ∧ (iand ((g.2.2.2.2.2 x3.toNat).toInt) 31 = 7 → (XX g true (d + 1) P_L_law 425 [(2, 100002), (2, 0), (2, 88), (0, x3)] [] 136 σ 136 Q)) ∧ (iand ((g.2.2.2.2.2 x3.toNat).toInt) 31 = 8 → (XX g true (d + 1) P_L_law 448 [(2, 100002), (2, 0), (2, 88), (0, x3)] [] 136 σ 136 Q)) ∧ (iand ((g.2.2.2.2.2 x3.toNat).toInt) 31 = 9 → (XX g true (d + 1) P_L_law 471 [(2, 100002), (2, 0), (2, 88), (0, x3)] [] 136 σ 136 Q)) ∧ (iand ((g.2.2.2.2.2 x3.toNat).toInt) 31 = 10 → (XX g true (d + 1) P_L_law 504 [(2, 100002), (2, 0), (2, 88), (0, x3)] [] 136 σ 136 Q)) ∧ (iand ((g.2.2.2.2.2 x3.toNat).toInt) 31 = 11 → (XX g true (d + 1) P_L_law 527 [(2, 100002), (2, 0), (2, 88), (0, x3)] [] 136 σ 136 Q)) ∧ (iand ((g.2.2.2.2.2 x3.toNat).toInt) 31 = 12 → (XX g true (d + 1) P_L_law 560 [(2, 100002), (2, 0), (2, 88), (0, x3)] [] 136 σ 136 Q)) ∧ (iand ((g.2.2.2.2.2 x3.toNat).toInt) 31 = 13 → (XX g true (d + 1) P_L_law 583 [(2, 100002), (2, 0), (2, 88), (0, x3)] [] 136 σ 136 Q)) ∧ (iand ((g.2.2.2.2.2 x3.toNat).toInt) 31 = 14 → (XX g true (d + 1) P_L_law 607 [(2, 100002), (2, 0), (2, 88), (0, x3)] [] 136 σ 136 Q)) ∧ (iand ((g.2.2.2.2.2 x3.toNat).toInt) 31 = 15 → (XX g true (d + 1) P_L_law 631 [(2, 100002), (2, 0), (2, 88), (0, x3)] [] 136 σ 136 Q)) ∧ (iand ((g.2.2.2.2.2 x3.toNat).toInt) 31 = 16 → (XX g true (d + 1) P_L_law 664 [(2, 100002), (2, 0), (2, 88), (0, x3)] [] 136 σ 136 Q)) ∧ (iand ((g.2.2.2.2.2 x3.toNat).toInt) 31 = 17 → (XX g true (d + 1) P_L_law 688 [(2, 100002), (2, 0), (2, 88), (0, x3)] [] 136 σ 136 Q)) ∧ (iand ((g.2.2.2.2.2 x3.toNat).toInt) 31 = 18 → (XX g true (d + 1) P_L_law 711 [(2, 100002), (2, 0), (2, 88), (0, x3)] [] 136 σ 136 Q)) ∧ (iand ((g.2.2.2.2.2 x3.toNat).toInt) 31 = 19 → (XX g true (d + 1) P_L_law 734 [(2, 100002), (2, 0), (2, 88), (0, x3)] [] 136 σ 136 Q)) ∧ (iand ((g.2.2.2.2.2 x3.toNat).toInt) 31 = 20 → (XX g true (d + 1) P_L_law 767 [(2, 100002), (2, 0), (2, 88), (0, x3)] [] 136 σ 136 Q)) ∧ (iand ((g.2.2.2.2.2 x3.toNat).toInt) 31 = 21 → (XX g true (d + 1) P_L_law 820 [(2, 100002), (2, 0), (2, 88), (0, x3)] [] 136 σ 136 Q)) ∧ (iand ((g.2.2.2.2.2 x3.toNat).toInt) 31 = 22 → (XX g true (d + 1) P_L_law 853 [(2, 100002), (2, 0), (2, 88), (0, x3)] [] 136 σ 136 Q)) ∧ (iand ((g.2.2.2.2.2 x3.toNat).toInt) 31 = 23 → (XX g true (d + 1) P_L_law 876 [(2, 100002), (2, 0), (2, 88), (0, x3)] [] 136 σ 136 Q)) ∧ (iand ((g.2.2.2.2.2 x3.toNat).toInt) 31 = 24 → (XX g true (d + 1) P_L_law 915 [(2, 100002), (2, 0), (2, 88), (0, x3)] [] 136 σ 136 Q)) ∧ ((iand ((g.2.2.2.2.2 x3.toNat).toInt) 31 < 0 ∨ 24 < iand ((g.2.2.2.2.2 x3.toNat).toInt) 31) → (XX g true (d + 1) P_L_law 938 [(2, 100002), (2, 0), (2, 88), (0, x3)] [] 136 σ 136 Q)))))) : XX g true (d + 1) P_L_law 18 [(2, 100002), (2, 0), (2, 88), (0, x3)] [] 136 σ 136 Q := by
  refine E_iload_n 19 dL_law_18 rfl rfl ?_
  refine E_aload_nX 20 dL_law_19 rfl rfl ?_
  obtain ⟨c1, w⟩ := w
  refine E_alenX 21 dL_law_20 c1 rfl ?_
  refine E_bipush 23 dL_law_21 (by decide) rfl ?_
  refine E_isub 24 dL_law_23 rfl ?_
  refine E_icmp_gt 27 944 dL_law_24 rfl rfl (fun h => ?_) (fun h => ?_)
  · have w := w.1 h
    refine E_iconst 945 dL_law_944 (by decide) rfl ?_
    exact E_zret dL_law_945 rfl rfl (Or.inr rfl) w
  · have w := w.2 h
    refine E_aload_nX 28 dL_law_27 rfl rfl ?_
    refine E_iload_n 29 dL_law_28 rfl rfl ?_
    obtain ⟨c2, w⟩ := w
    refine E_ialdX 30 dL_law_29 c2 rfl ?_
    refine E_bipush 32 dL_law_30 (by decide) rfl ?_
    refine E_iand 33 dL_law_32 rfl ?_
    rcases (show iand ((g.2.2.2.2.2 x3.toNat).toInt) 31 = 0 ∨ iand ((g.2.2.2.2.2 x3.toNat).toInt) 31 = 1 ∨ iand ((g.2.2.2.2.2 x3.toNat).toInt) 31 = 2 ∨ iand ((g.2.2.2.2.2 x3.toNat).toInt) 31 = 3 ∨ iand ((g.2.2.2.2.2 x3.toNat).toInt) 31 = 4 ∨ iand ((g.2.2.2.2.2 x3.toNat).toInt) 31 = 5 ∨ iand ((g.2.2.2.2.2 x3.toNat).toInt) 31 = 6 ∨ iand ((g.2.2.2.2.2 x3.toNat).toInt) 31 = 7 ∨ iand ((g.2.2.2.2.2 x3.toNat).toInt) 31 = 8 ∨ iand ((g.2.2.2.2.2 x3.toNat).toInt) 31 = 9 ∨ iand ((g.2.2.2.2.2 x3.toNat).toInt) 31 = 10 ∨ iand ((g.2.2.2.2.2 x3.toNat).toInt) 31 = 11 ∨ iand ((g.2.2.2.2.2 x3.toNat).toInt) 31 = 12 ∨ iand ((g.2.2.2.2.2 x3.toNat).toInt) 31 = 13 ∨ iand ((g.2.2.2.2.2 x3.toNat).toInt) 31 = 14 ∨ iand ((g.2.2.2.2.2 x3.toNat).toInt) 31 = 15 ∨ iand ((g.2.2.2.2.2 x3.toNat).toInt) 31 = 16 ∨ iand ((g.2.2.2.2.2 x3.toNat).toInt) 31 = 17 ∨ iand ((g.2.2.2.2.2 x3.toNat).toInt) 31 = 18 ∨ iand ((g.2.2.2.2.2 x3.toNat).toInt) 31 = 19 ∨ iand ((g.2.2.2.2.2 x3.toNat).toInt) 31 = 20 ∨ iand ((g.2.2.2.2.2 x3.toNat).toInt) 31 = 21 ∨ iand ((g.2.2.2.2.2 x3.toNat).toInt) 31 = 22 ∨ iand ((g.2.2.2.2.2 x3.toNat).toInt) 31 = 23 ∨ iand ((g.2.2.2.2.2 x3.toNat).toInt) 31 = 24 ∨ (iand ((g.2.2.2.2.2 x3.toNat).toInt) 31 < 0 ∨ 24 < iand ((g.2.2.2.2.2 x3.toNat).toInt) 31) by omega) with h | h | h | h | h | h | h | h | h | h | h | h | h | h | h | h | h | h | h | h | h | h | h | h | h | h
    · have w := w.1 h
      refine E_tabIn 148 dL_law_33 (by rw [h]; decide) (by rw [h]; decide) (by rw [h] <;> rfl) rfl ?_
      with_reducible exact w
    · have w := w.2.1 h
      refine E_tabIn 171 dL_law_33 (by rw [h]; decide) (by rw [h]; decide) (by rw [h] <;> rfl) rfl ?_
      with_reducible exact w
    · have w := w.2.2.1 h
      refine E_tabIn 194 dL_law_33 (by rw [h]; decide) (by rw [h]; decide) (by rw [h] <;> rfl) rfl ?_
      with_reducible exact w
    · have w := w.2.2.2.1 h
      refine E_tabIn 263 dL_law_33 (by rw [h]; decide) (by rw [h]; decide) (by rw [h] <;> rfl) rfl ?_
      with_reducible exact w
    · have w := w.2.2.2.2.1 h
      refine E_tabIn 306 dL_law_33 (by rw [h]; decide) (by rw [h]; decide) (by rw [h] <;> rfl) rfl ?_
      with_reducible exact w
    · have w := w.2.2.2.2.2.1 h
      refine E_tabIn 339 dL_law_33 (by rw [h]; decide) (by rw [h]; decide) (by rw [h] <;> rfl) rfl ?_
      with_reducible exact w
    · have w := w.2.2.2.2.2.2.1 h
      refine E_tabIn 402 dL_law_33 (by rw [h]; decide) (by rw [h]; decide) (by rw [h] <;> rfl) rfl ?_
      with_reducible exact w
    · have w := w.2.2.2.2.2.2.2.1 h
      refine E_tabIn 425 dL_law_33 (by rw [h]; decide) (by rw [h]; decide) (by rw [h] <;> rfl) rfl ?_
      with_reducible exact w
    · have w := w.2.2.2.2.2.2.2.2.1 h
      refine E_tabIn 448 dL_law_33 (by rw [h]; decide) (by rw [h]; decide) (by rw [h] <;> rfl) rfl ?_
      with_reducible exact w
    · have w := w.2.2.2.2.2.2.2.2.2.1 h
      refine E_tabIn 471 dL_law_33 (by rw [h]; decide) (by rw [h]; decide) (by rw [h] <;> rfl) rfl ?_
      with_reducible exact w
    · have w := w.2.2.2.2.2.2.2.2.2.2.1 h
      refine E_tabIn 504 dL_law_33 (by rw [h]; decide) (by rw [h]; decide) (by rw [h] <;> rfl) rfl ?_
      with_reducible exact w
    · have w := w.2.2.2.2.2.2.2.2.2.2.2.1 h
      refine E_tabIn 527 dL_law_33 (by rw [h]; decide) (by rw [h]; decide) (by rw [h] <;> rfl) rfl ?_
      with_reducible exact w
    · have w := w.2.2.2.2.2.2.2.2.2.2.2.2.1 h
      refine E_tabIn 560 dL_law_33 (by rw [h]; decide) (by rw [h]; decide) (by rw [h] <;> rfl) rfl ?_
      with_reducible exact w
    · have w := w.2.2.2.2.2.2.2.2.2.2.2.2.2.1 h
      refine E_tabIn 583 dL_law_33 (by rw [h]; decide) (by rw [h]; decide) (by rw [h] <;> rfl) rfl ?_
      with_reducible exact w
    · have w := w.2.2.2.2.2.2.2.2.2.2.2.2.2.2.1 h
      refine E_tabIn 607 dL_law_33 (by rw [h]; decide) (by rw [h]; decide) (by rw [h] <;> rfl) rfl ?_
      with_reducible exact w
    · have w := w.2.2.2.2.2.2.2.2.2.2.2.2.2.2.2.1 h
      refine E_tabIn 631 dL_law_33 (by rw [h]; decide) (by rw [h]; decide) (by rw [h] <;> rfl) rfl ?_
      with_reducible exact w
    · have w := w.2.2.2.2.2.2.2.2.2.2.2.2.2.2.2.2.1 h
      refine E_tabIn 664 dL_law_33 (by rw [h]; decide) (by rw [h]; decide) (by rw [h] <;> rfl) rfl ?_
      with_reducible exact w
    · have w := w.2.2.2.2.2.2.2.2.2.2.2.2.2.2.2.2.2.1 h
      refine E_tabIn 688 dL_law_33 (by rw [h]; decide) (by rw [h]; decide) (by rw [h] <;> rfl) rfl ?_
      with_reducible exact w
    · have w := w.2.2.2.2.2.2.2.2.2.2.2.2.2.2.2.2.2.2.1 h
      refine E_tabIn 711 dL_law_33 (by rw [h]; decide) (by rw [h]; decide) (by rw [h] <;> rfl) rfl ?_
      with_reducible exact w
    · have w := w.2.2.2.2.2.2.2.2.2.2.2.2.2.2.2.2.2.2.2.1 h
      refine E_tabIn 734 dL_law_33 (by rw [h]; decide) (by rw [h]; decide) (by rw [h] <;> rfl) rfl ?_
      with_reducible exact w
    · have w := w.2.2.2.2.2.2.2.2.2.2.2.2.2.2.2.2.2.2.2.2.1 h
      refine E_tabIn 767 dL_law_33 (by rw [h]; decide) (by rw [h]; decide) (by rw [h] <;> rfl) rfl ?_
      with_reducible exact w
    · have w := w.2.2.2.2.2.2.2.2.2.2.2.2.2.2.2.2.2.2.2.2.2.1 h
      refine E_tabIn 820 dL_law_33 (by rw [h]; decide) (by rw [h]; decide) (by rw [h] <;> rfl) rfl ?_
      with_reducible exact w
    · have w := w.2.2.2.2.2.2.2.2.2.2.2.2.2.2.2.2.2.2.2.2.2.2.1 h
      refine E_tabIn 853 dL_law_33 (by rw [h]; decide) (by rw [h]; decide) (by rw [h] <;> rfl) rfl ?_
      with_reducible exact w
    · have w := w.2.2.2.2.2.2.2.2.2.2.2.2.2.2.2.2.2.2.2.2.2.2.2.1 h
      refine E_tabIn 876 dL_law_33 (by rw [h]; decide) (by rw [h]; decide) (by rw [h] <;> rfl) rfl ?_
      with_reducible exact w
    · have w := w.2.2.2.2.2.2.2.2.2.2.2.2.2.2.2.2.2.2.2.2.2.2.2.2.1 h
      refine E_tabIn 915 dL_law_33 (by rw [h]; decide) (by rw [h]; decide) (by rw [h] <;> rfl) rfl ?_
      with_reducible exact w
    · have w := w.2.2.2.2.2.2.2.2.2.2.2.2.2.2.2.2.2.2.2.2.2.2.2.2.2 h
      refine E_tabOut 938 dL_law_33 h rfl ?_
      with_reducible exact w
theorem B_L_law_148 {g : PG} {d : Nat} {σ : PS} {Q : Int → PS → Prop} {x3 : Int} (w : (0 ≤ w32 (x3 + 1) ∧ w32 (x3 + 1) < (g.2.2.2.2.1 : Int)) ∧ XX g true d P_X11_state 0 [(2, 0), (0, ((g.2.2.2.2.2 (w32 (x3 + 1)).toNat).toInt)), (9, 0)] [] 136 σ 136 (fun r3 σ2 => XX g true d P_X12_state 0 [(2, 88), (0, ((g.2.2.2.2.2 (w32 (x3 + 1)).toNat).toInt)), (9, 0)] [] 136 σ2 136 (fun r5 σ4 => ((r3 = r5 → (XX g true (d + 1) P_L_law 938 [(2, 100002), (2, 0), (2, 88), (0, x3)] [] 136 σ4 136 Q)) ∧ (r3 ≠ r5 → Q 0 σ4))))) : XX g true (d + 1) P_L_law 148 [(2, 100002), (2, 0), (2, 88), (0, x3)] [] 136 σ 136 Q := by
  refine E_aload_n 149 dL_law_148 rfl (ac_0.bnd) rfl ?_
  refine E_aload_nX 150 dL_law_149 rfl rfl ?_
  refine E_iload_n 151 dL_law_150 rfl rfl ?_
  refine E_iconst 152 dL_law_151 (by decide) rfl ?_
  refine E_iadd 153 dL_law_152 rfl ?_
  obtain ⟨c1, w⟩ := w
  refine E_ialdX 154 dL_law_153 c1 rfl ?_
  refine E_callV (as := [(0, ((g.2.2.2.2.2 (w32 (x3 + 1)).toNat).toInt))]) 157 dL_law_154 cf_X11_state mw_531 mw_532 mw_533 ac_0 (by decide) cl_X11 rfl rfl (Nat.le_of_ble_eq_true rfl) (Nat.le_of_ble_eq_true rfl) ⟨Nat.le_refl _, Nat.le_refl _⟩ rfl (w.mono (fun r3 σ2 w => ?_))
  show XX g true (d + 1) P_L_law 157 [(2, 100002), (2, 0), (2, 88), (0, x3)] [(0, r3)] 136 σ2 136 Q
  refine E_aload_n 158 dL_law_157 rfl (ac_88.bnd) rfl ?_
  refine E_aload_nX 159 dL_law_158 rfl rfl ?_
  refine E_iload_n 160 dL_law_159 rfl rfl ?_
  refine E_iconst 161 dL_law_160 (by decide) rfl ?_
  refine E_iadd 162 dL_law_161 rfl ?_
  refine E_ialdX 163 dL_law_162 c1 rfl ?_
  refine E_callV (as := [(0, ((g.2.2.2.2.2 (w32 (x3 + 1)).toNat).toInt))]) 166 dL_law_163 cf_X12_state mw_1355 mw_1356 mw_1357 ac_88 (by decide) cl_X12 rfl rfl (Nat.le_of_ble_eq_true rfl) (Nat.le_of_ble_eq_true rfl) ⟨Nat.le_refl _, Nat.le_refl _⟩ rfl (w.mono (fun r5 σ4 w => ?_))
  show XX g true (d + 1) P_L_law 166 [(2, 100002), (2, 0), (2, 88), (0, x3)] [(0, r5), (0, r3)] 136 σ4 136 Q
  refine E_icmp_eq 169 938 dL_law_166 rfl rfl (fun h => ?_) (fun h => ?_)
  · have w := w.1 h
    with_reducible exact w
  · have w := w.2 h
    refine E_iconst 170 dL_law_169 (by decide) rfl ?_
    exact E_zret dL_law_170 rfl rfl (Or.inl rfl) w
theorem B_L_law_171 {g : PG} {d : Nat} {σ : PS} {Q : Int → PS → Prop} {x3 : Int} (w : (0 ≤ w32 (x3 + 1) ∧ w32 (x3 + 1) < (g.2.2.2.2.1 : Int)) ∧ XX g true d P_X11_row 0 [(2, 0), (0, ((g.2.2.2.2.2 (w32 (x3 + 1)).toNat).toInt))] [] 136 σ 136 (fun r3 σ2 => XX g true d P_X12_row 0 [(2, 88), (0, ((g.2.2.2.2.2 (w32 (x3 + 1)).toNat).toInt)), (9, 0)] [] 136 σ2 136 (fun r5 σ4 => ((r3 = r5 → (XX g true (d + 1) P_L_law 938 [(2, 100002), (2, 0), (2, 88), (0, x3)] [] 136 σ4 136 Q)) ∧ (r3 ≠ r5 → Q 0 σ4))))) : XX g true (d + 1) P_L_law 171 [(2, 100002), (2, 0), (2, 88), (0, x3)] [] 136 σ 136 Q := by
  refine E_aload_n 172 dL_law_171 rfl (ac_0.bnd) rfl ?_
  refine E_aload_nX 173 dL_law_172 rfl rfl ?_
  refine E_iload_n 174 dL_law_173 rfl rfl ?_
  refine E_iconst 175 dL_law_174 (by decide) rfl ?_
  refine E_iadd 176 dL_law_175 rfl ?_
  obtain ⟨c1, w⟩ := w
  refine E_ialdX 177 dL_law_176 c1 rfl ?_
  refine E_callV (as := [(0, ((g.2.2.2.2.2 (w32 (x3 + 1)).toNat).toInt))]) 180 dL_law_177 cf_X11_row mw_535 mw_536 mw_537 ac_0 (by decide) cl_X11 rfl rfl (Nat.le_of_ble_eq_true rfl) (Nat.le_of_ble_eq_true rfl) ⟨Nat.le_refl _, Nat.le_refl _⟩ rfl (w.mono (fun r3 σ2 w => ?_))
  show XX g true (d + 1) P_L_law 180 [(2, 100002), (2, 0), (2, 88), (0, x3)] [(0, r3)] 136 σ2 136 Q
  refine E_aload_n 181 dL_law_180 rfl (ac_88.bnd) rfl ?_
  refine E_aload_nX 182 dL_law_181 rfl rfl ?_
  refine E_iload_n 183 dL_law_182 rfl rfl ?_
  refine E_iconst 184 dL_law_183 (by decide) rfl ?_
  refine E_iadd 185 dL_law_184 rfl ?_
  refine E_ialdX 186 dL_law_185 c1 rfl ?_
  refine E_callV (as := [(0, ((g.2.2.2.2.2 (w32 (x3 + 1)).toNat).toInt))]) 189 dL_law_186 cf_X12_row mw_1359 mw_1360 mw_1361 ac_88 (by decide) cl_X12 rfl rfl (Nat.le_of_ble_eq_true rfl) (Nat.le_of_ble_eq_true rfl) ⟨Nat.le_refl _, Nat.le_refl _⟩ rfl (w.mono (fun r5 σ4 w => ?_))
  show XX g true (d + 1) P_L_law 189 [(2, 100002), (2, 0), (2, 88), (0, x3)] [(0, r5), (0, r3)] 136 σ4 136 Q
  refine E_icmp_eq 192 938 dL_law_189 rfl rfl (fun h => ?_) (fun h => ?_)
  · have w := w.1 h
    with_reducible exact w
  · have w := w.2 h
    refine E_iconst 193 dL_law_192 (by decide) rfl ?_
    exact E_zret dL_law_193 rfl rfl (Or.inl rfl) w
theorem B_L_law_194 {g : PG} {d : Nat} {σ : PS} {Q : Int → PS → Prop} {x3 : Int} (w : (0 ≤ w32 (x3 + 1) ∧ w32 (x3 + 1) < (g.2.2.2.2.1 : Int)) ∧ (0 ≤ w32 (x3 + 2) ∧ w32 (x3 + 2) < (g.2.2.2.2.1 : Int)) ∧ (0 ≤ w32 (x3 + 3) ∧ w32 (x3 + 3) < (g.2.2.2.2.1 : Int)) ∧ (0 ≤ w32 (x3 + 4) ∧ w32 (x3 + 4) < (g.2.2.2.2.1 : Int)) ∧ ((((g.2.2.2.2.2 (w32 (x3 + 4)).toNat).toInt) = 0 → XX g true d P_X11_place 0 [(2, 0), (0, ((g.2.2.2.2.2 (w32 (x3 + 1)).toNat).toInt)), (0, ((g.2.2.2.2.2 (w32 (x3 + 2)).toNat).toInt)), (0, ((g.2.2.2.2.2 (w32 (x3 + 3)).toNat).toInt)), (0, 0)] [] 136 σ 136 (fun r6 σ5 => ((((g.2.2.2.2.2 (w32 (x3 + 4)).toNat).toInt) = 0 → XX g true d P_X12_place 0 [(2, 88), (0, ((g.2.2.2.2.2 (w32 (x3 + 1)).toNat).toInt)), (0, ((g.2.2.2.2.2 (w32 (x3 + 2)).toNat).toInt)), (0, ((g.2.2.2.2.2 (w32 (x3 + 3)).toNat).toInt)), (0, 0)] [] 136 σ5 136 (fun r8 σ7 => ((r6 = r8 → (XX g true (d + 1) P_L_law 938 [(2, 100002), (2, 0), (2, 88), (0, x3)] [] 136 σ7 136 Q)) ∧ (r6 ≠ r8 → Q 0 σ7)))) ∧ (((g.2.2.2.2.2 (w32 (x3 + 4)).toNat).toInt) ≠ 0 → XX g true d P_X12_place 0 [(2, 88), (0, ((g.2.2.2.2.2 (w32 (x3 + 1)).toNat).toInt)), (0, ((g.2.2.2.2.2 (w32 (x3 + 2)).toNat).toInt)), (0, ((g.2.2.2.2.2 (w32 (x3 + 3)).toNat).toInt)), (0, 1)] [] 136 σ5 136 (fun r10 σ9 => ((r6 = r10 → (XX g true (d + 1) P_L_law 938 [(2, 100002), (2, 0), (2, 88), (0, x3)] [] 136 σ9 136 Q)) ∧ (r6 ≠ r10 → Q 0 σ9))))))) ∧ (((g.2.2.2.2.2 (w32 (x3 + 4)).toNat).toInt) ≠ 0 → XX g true d P_X11_place 0 [(2, 0), (0, ((g.2.2.2.2.2 (w32 (x3 + 1)).toNat).toInt)), (0, ((g.2.2.2.2.2 (w32 (x3 + 2)).toNat).toInt)), (0, ((g.2.2.2.2.2 (w32 (x3 + 3)).toNat).toInt)), (0, 1)] [] 136 σ 136 (fun r12 σ11 => ((((g.2.2.2.2.2 (w32 (x3 + 4)).toNat).toInt) = 0 → XX g true d P_X12_place 0 [(2, 88), (0, ((g.2.2.2.2.2 (w32 (x3 + 1)).toNat).toInt)), (0, ((g.2.2.2.2.2 (w32 (x3 + 2)).toNat).toInt)), (0, ((g.2.2.2.2.2 (w32 (x3 + 3)).toNat).toInt)), (0, 0)] [] 136 σ11 136 (fun r14 σ13 => ((r12 = r14 → (XX g true (d + 1) P_L_law 938 [(2, 100002), (2, 0), (2, 88), (0, x3)] [] 136 σ13 136 Q)) ∧ (r12 ≠ r14 → Q 0 σ13)))) ∧ (((g.2.2.2.2.2 (w32 (x3 + 4)).toNat).toInt) ≠ 0 → XX g true d P_X12_place 0 [(2, 88), (0, ((g.2.2.2.2.2 (w32 (x3 + 1)).toNat).toInt)), (0, ((g.2.2.2.2.2 (w32 (x3 + 2)).toNat).toInt)), (0, ((g.2.2.2.2.2 (w32 (x3 + 3)).toNat).toInt)), (0, 1)] [] 136 σ11 136 (fun r16 σ15 => ((r12 = r16 → (XX g true (d + 1) P_L_law 938 [(2, 100002), (2, 0), (2, 88), (0, x3)] [] 136 σ15 136 Q)) ∧ (r12 ≠ r16 → Q 0 σ15))))))))) : XX g true (d + 1) P_L_law 194 [(2, 100002), (2, 0), (2, 88), (0, x3)] [] 136 σ 136 Q := by
  refine E_aload_n 195 dL_law_194 rfl (ac_0.bnd) rfl ?_
  refine E_aload_nX 196 dL_law_195 rfl rfl ?_
  refine E_iload_n 197 dL_law_196 rfl rfl ?_
  refine E_iconst 198 dL_law_197 (by decide) rfl ?_
  refine E_iadd 199 dL_law_198 rfl ?_
  obtain ⟨c1, w⟩ := w
  refine E_ialdX 200 dL_law_199 c1 rfl ?_
  refine E_aload_nX 201 dL_law_200 rfl rfl ?_
  refine E_iload_n 202 dL_law_201 rfl rfl ?_
  refine E_iconst 203 dL_law_202 (by decide) rfl ?_
  refine E_iadd 204 dL_law_203 rfl ?_
  obtain ⟨c2, w⟩ := w
  refine E_ialdX 205 dL_law_204 c2 rfl ?_
  refine E_aload_nX 206 dL_law_205 rfl rfl ?_
  refine E_iload_n 207 dL_law_206 rfl rfl ?_
  refine E_iconst 208 dL_law_207 (by decide) rfl ?_
  refine E_iadd 209 dL_law_208 rfl ?_
  obtain ⟨c3, w⟩ := w
  refine E_ialdX 210 dL_law_209 c3 rfl ?_
  refine E_aload_nX 211 dL_law_210 rfl rfl ?_
  refine E_iload_n 212 dL_law_211 rfl rfl ?_
  refine E_iconst 213 dL_law_212 (by decide) rfl ?_
  refine E_iadd 214 dL_law_213 rfl ?_
  obtain ⟨c4, w⟩ := w
  refine E_ialdX 215 dL_law_214 c4 rfl ?_
  refine E_if_eq 218 222 dL_law_215 rfl rfl (fun h => ?_) (fun h => ?_)
  · have w := w.1 h
    refine E_iconst 223 dL_law_222 (by decide) rfl ?_
    refine E_callV (as := [(0, ((g.2.2.2.2.2 (w32 (x3 + 1)).toNat).toInt)), (0, ((g.2.2.2.2.2 (w32 (x3 + 2)).toNat).toInt)), (0, ((g.2.2.2.2.2 (w32 (x3 + 3)).toNat).toInt)), (0, 0)]) 226 dL_law_223 cf_X11_place mw_539 mw_540 mw_541 ac_0 (by decide) cl_X11 rfl rfl (Nat.le_of_ble_eq_true rfl) (Nat.le_of_ble_eq_true rfl) ⟨Nat.le_refl _, Nat.le_refl _⟩ rfl (w.mono (fun r6 σ5 w => ?_))
    show XX g true (d + 1) P_L_law 226 [(2, 100002), (2, 0), (2, 88), (0, x3)] [(0, r6)] 136 σ5 136 Q
    refine E_aload_n 227 dL_law_226 rfl (ac_88.bnd) rfl ?_
    refine E_aload_nX 228 dL_law_227 rfl rfl ?_
    refine E_iload_n 229 dL_law_228 rfl rfl ?_
    refine E_iconst 230 dL_law_229 (by decide) rfl ?_
    refine E_iadd 231 dL_law_230 rfl ?_
    refine E_ialdX 232 dL_law_231 c1 rfl ?_
    refine E_aload_nX 233 dL_law_232 rfl rfl ?_
    refine E_iload_n 234 dL_law_233 rfl rfl ?_
    refine E_iconst 235 dL_law_234 (by decide) rfl ?_
    refine E_iadd 236 dL_law_235 rfl ?_
    refine E_ialdX 237 dL_law_236 c2 rfl ?_
    refine E_aload_nX 238 dL_law_237 rfl rfl ?_
    refine E_iload_n 239 dL_law_238 rfl rfl ?_
    refine E_iconst 240 dL_law_239 (by decide) rfl ?_
    refine E_iadd 241 dL_law_240 rfl ?_
    refine E_ialdX 242 dL_law_241 c3 rfl ?_
    refine E_aload_nX 243 dL_law_242 rfl rfl ?_
    refine E_iload_n 244 dL_law_243 rfl rfl ?_
    refine E_iconst 245 dL_law_244 (by decide) rfl ?_
    refine E_iadd 246 dL_law_245 rfl ?_
    refine E_ialdX 247 dL_law_246 c4 rfl ?_
    refine E_if_eq 250 254 dL_law_247 rfl rfl (fun h => ?_) (fun h => ?_)
    · have w := w.1 h
      refine E_iconst 255 dL_law_254 (by decide) rfl ?_
      refine E_callV (as := [(0, ((g.2.2.2.2.2 (w32 (x3 + 1)).toNat).toInt)), (0, ((g.2.2.2.2.2 (w32 (x3 + 2)).toNat).toInt)), (0, ((g.2.2.2.2.2 (w32 (x3 + 3)).toNat).toInt)), (0, 0)]) 258 dL_law_255 cf_X12_place mw_1367 mw_1368 mw_1369 ac_88 (by decide) cl_X12 rfl rfl (Nat.le_of_ble_eq_true rfl) (Nat.le_of_ble_eq_true rfl) ⟨Nat.le_refl _, Nat.le_refl _⟩ rfl (w.mono (fun r8 σ7 w => ?_))
      show XX g true (d + 1) P_L_law 258 [(2, 100002), (2, 0), (2, 88), (0, x3)] [(0, r8), (0, r6)] 136 σ7 136 Q
      refine E_icmp_eq 261 938 dL_law_258 rfl rfl (fun h => ?_) (fun h => ?_)
      · have w := w.1 h
        with_reducible exact w
      · have w := w.2 h
        refine E_iconst 262 dL_law_261 (by decide) rfl ?_
        exact E_zret dL_law_262 rfl rfl (Or.inl rfl) w
    · have w := w.2 h
      refine E_iconst 251 dL_law_250 (by decide) rfl ?_
      refine E_goto 255 dL_law_251 rfl ?_
      refine E_callV (as := [(0, ((g.2.2.2.2.2 (w32 (x3 + 1)).toNat).toInt)), (0, ((g.2.2.2.2.2 (w32 (x3 + 2)).toNat).toInt)), (0, ((g.2.2.2.2.2 (w32 (x3 + 3)).toNat).toInt)), (0, 1)]) 258 dL_law_255 cf_X12_place mw_1367 mw_1368 mw_1369 ac_88 (by decide) cl_X12 rfl rfl (Nat.le_of_ble_eq_true rfl) (Nat.le_of_ble_eq_true rfl) ⟨Nat.le_refl _, Nat.le_refl _⟩ rfl (w.mono (fun r10 σ9 w => ?_))
      show XX g true (d + 1) P_L_law 258 [(2, 100002), (2, 0), (2, 88), (0, x3)] [(0, r10), (0, r6)] 136 σ9 136 Q
      refine E_icmp_eq 261 938 dL_law_258 rfl rfl (fun h => ?_) (fun h => ?_)
      · have w := w.1 h
        with_reducible exact w
      · have w := w.2 h
        refine E_iconst 262 dL_law_261 (by decide) rfl ?_
        exact E_zret dL_law_262 rfl rfl (Or.inl rfl) w
  · have w := w.2 h
    refine E_iconst 219 dL_law_218 (by decide) rfl ?_
    refine E_goto 223 dL_law_219 rfl ?_
    refine E_callV (as := [(0, ((g.2.2.2.2.2 (w32 (x3 + 1)).toNat).toInt)), (0, ((g.2.2.2.2.2 (w32 (x3 + 2)).toNat).toInt)), (0, ((g.2.2.2.2.2 (w32 (x3 + 3)).toNat).toInt)), (0, 1)]) 226 dL_law_223 cf_X11_place mw_539 mw_540 mw_541 ac_0 (by decide) cl_X11 rfl rfl (Nat.le_of_ble_eq_true rfl) (Nat.le_of_ble_eq_true rfl) ⟨Nat.le_refl _, Nat.le_refl _⟩ rfl (w.mono (fun r12 σ11 w => ?_))
    show XX g true (d + 1) P_L_law 226 [(2, 100002), (2, 0), (2, 88), (0, x3)] [(0, r12)] 136 σ11 136 Q
    refine E_aload_n 227 dL_law_226 rfl (ac_88.bnd) rfl ?_
    refine E_aload_nX 228 dL_law_227 rfl rfl ?_
    refine E_iload_n 229 dL_law_228 rfl rfl ?_
    refine E_iconst 230 dL_law_229 (by decide) rfl ?_
    refine E_iadd 231 dL_law_230 rfl ?_
    refine E_ialdX 232 dL_law_231 c1 rfl ?_
    refine E_aload_nX 233 dL_law_232 rfl rfl ?_
    refine E_iload_n 234 dL_law_233 rfl rfl ?_
    refine E_iconst 235 dL_law_234 (by decide) rfl ?_
    refine E_iadd 236 dL_law_235 rfl ?_
    refine E_ialdX 237 dL_law_236 c2 rfl ?_
    refine E_aload_nX 238 dL_law_237 rfl rfl ?_
    refine E_iload_n 239 dL_law_238 rfl rfl ?_
    refine E_iconst 240 dL_law_239 (by decide) rfl ?_
    refine E_iadd 241 dL_law_240 rfl ?_
    refine E_ialdX 242 dL_law_241 c3 rfl ?_
    refine E_aload_nX 243 dL_law_242 rfl rfl ?_
    refine E_iload_n 244 dL_law_243 rfl rfl ?_
    refine E_iconst 245 dL_law_244 (by decide) rfl ?_
    refine E_iadd 246 dL_law_245 rfl ?_
    refine E_ialdX 247 dL_law_246 c4 rfl ?_
    refine E_if_eq 250 254 dL_law_247 rfl rfl (fun h => ?_) (fun h => ?_)
    · have w := w.1 h
      refine E_iconst 255 dL_law_254 (by decide) rfl ?_
      refine E_callV (as := [(0, ((g.2.2.2.2.2 (w32 (x3 + 1)).toNat).toInt)), (0, ((g.2.2.2.2.2 (w32 (x3 + 2)).toNat).toInt)), (0, ((g.2.2.2.2.2 (w32 (x3 + 3)).toNat).toInt)), (0, 0)]) 258 dL_law_255 cf_X12_place mw_1367 mw_1368 mw_1369 ac_88 (by decide) cl_X12 rfl rfl (Nat.le_of_ble_eq_true rfl) (Nat.le_of_ble_eq_true rfl) ⟨Nat.le_refl _, Nat.le_refl _⟩ rfl (w.mono (fun r14 σ13 w => ?_))
      show XX g true (d + 1) P_L_law 258 [(2, 100002), (2, 0), (2, 88), (0, x3)] [(0, r14), (0, r12)] 136 σ13 136 Q
      refine E_icmp_eq 261 938 dL_law_258 rfl rfl (fun h => ?_) (fun h => ?_)
      · have w := w.1 h
        with_reducible exact w
      · have w := w.2 h
        refine E_iconst 262 dL_law_261 (by decide) rfl ?_
        exact E_zret dL_law_262 rfl rfl (Or.inl rfl) w
    · have w := w.2 h
      refine E_iconst 251 dL_law_250 (by decide) rfl ?_
      refine E_goto 255 dL_law_251 rfl ?_
      refine E_callV (as := [(0, ((g.2.2.2.2.2 (w32 (x3 + 1)).toNat).toInt)), (0, ((g.2.2.2.2.2 (w32 (x3 + 2)).toNat).toInt)), (0, ((g.2.2.2.2.2 (w32 (x3 + 3)).toNat).toInt)), (0, 1)]) 258 dL_law_255 cf_X12_place mw_1367 mw_1368 mw_1369 ac_88 (by decide) cl_X12 rfl rfl (Nat.le_of_ble_eq_true rfl) (Nat.le_of_ble_eq_true rfl) ⟨Nat.le_refl _, Nat.le_refl _⟩ rfl (w.mono (fun r16 σ15 w => ?_))
      show XX g true (d + 1) P_L_law 258 [(2, 100002), (2, 0), (2, 88), (0, x3)] [(0, r16), (0, r12)] 136 σ15 136 Q
      refine E_icmp_eq 261 938 dL_law_258 rfl rfl (fun h => ?_) (fun h => ?_)
      · have w := w.1 h
        with_reducible exact w
      · have w := w.2 h
        refine E_iconst 262 dL_law_261 (by decide) rfl ?_
        exact E_zret dL_law_262 rfl rfl (Or.inl rfl) w
theorem B_L_law_263 {g : PG} {d : Nat} {σ : PS} {Q : Int → PS → Prop} {x3 : Int} (w : (0 ≤ w32 (x3 + 1) ∧ w32 (x3 + 1) < (g.2.2.2.2.1 : Int)) ∧ (0 ≤ w32 (x3 + 2) ∧ w32 (x3 + 2) < (g.2.2.2.2.1 : Int)) ∧ (0 ≤ w32 (x3 + 3) ∧ w32 (x3 + 3) < (g.2.2.2.2.1 : Int)) ∧ XX g true d P_X11_sort 0 [(2, 0), (0, ((g.2.2.2.2.2 (w32 (x3 + 1)).toNat).toInt)), (0, ((g.2.2.2.2.2 (w32 (x3 + 2)).toNat).toInt)), (0, ((g.2.2.2.2.2 (w32 (x3 + 3)).toNat).toInt))] [] 136 σ 136 (fun r5 σ4 => XX g true d P_X12_sort 0 [(2, 88), (0, ((g.2.2.2.2.2 (w32 (x3 + 1)).toNat).toInt)), (0, ((g.2.2.2.2.2 (w32 (x3 + 2)).toNat).toInt)), (0, ((g.2.2.2.2.2 (w32 (x3 + 3)).toNat).toInt))] [] 136 σ4 136 (fun r7 σ6 => ((r5 = r7 → (XX g true (d + 1) P_L_law 938 [(2, 100002), (2, 0), (2, 88), (0, x3)] [] 136 σ6 136 Q)) ∧ (r5 ≠ r7 → Q 0 σ6))))) : XX g true (d + 1) P_L_law 263 [(2, 100002), (2, 0), (2, 88), (0, x3)] [] 136 σ 136 Q := by
  refine E_aload_n 264 dL_law_263 rfl (ac_0.bnd) rfl ?_
  refine E_aload_nX 265 dL_law_264 rfl rfl ?_
  refine E_iload_n 266 dL_law_265 rfl rfl ?_
  refine E_iconst 267 dL_law_266 (by decide) rfl ?_
  refine E_iadd 268 dL_law_267 rfl ?_
  obtain ⟨c1, w⟩ := w
  refine E_ialdX 269 dL_law_268 c1 rfl ?_
  refine E_aload_nX 270 dL_law_269 rfl rfl ?_
  refine E_iload_n 271 dL_law_270 rfl rfl ?_
  refine E_iconst 272 dL_law_271 (by decide) rfl ?_
  refine E_iadd 273 dL_law_272 rfl ?_
  obtain ⟨c2, w⟩ := w
  refine E_ialdX 274 dL_law_273 c2 rfl ?_
  refine E_aload_nX 275 dL_law_274 rfl rfl ?_
  refine E_iload_n 276 dL_law_275 rfl rfl ?_
  refine E_iconst 277 dL_law_276 (by decide) rfl ?_
  refine E_iadd 278 dL_law_277 rfl ?_
  obtain ⟨c3, w⟩ := w
  refine E_ialdX 279 dL_law_278 c3 rfl ?_
  refine E_callV (as := [(0, ((g.2.2.2.2.2 (w32 (x3 + 1)).toNat).toInt)), (0, ((g.2.2.2.2.2 (w32 (x3 + 2)).toNat).toInt)), (0, ((g.2.2.2.2.2 (w32 (x3 + 3)).toNat).toInt))]) 282 dL_law_279 cf_X11_sort mw_548 mw_549 mw_550 ac_0 (by decide) cl_X11 rfl rfl (Nat.le_of_ble_eq_true rfl) (Nat.le_of_ble_eq_true rfl) ⟨Nat.le_refl _, Nat.le_refl _⟩ rfl (w.mono (fun r5 σ4 w => ?_))
  show XX g true (d + 1) P_L_law 282 [(2, 100002), (2, 0), (2, 88), (0, x3)] [(0, r5)] 136 σ4 136 Q
  refine E_aload_n 283 dL_law_282 rfl (ac_88.bnd) rfl ?_
  refine E_aload_nX 284 dL_law_283 rfl rfl ?_
  refine E_iload_n 285 dL_law_284 rfl rfl ?_
  refine E_iconst 286 dL_law_285 (by decide) rfl ?_
  refine E_iadd 287 dL_law_286 rfl ?_
  refine E_ialdX 288 dL_law_287 c1 rfl ?_
  refine E_aload_nX 289 dL_law_288 rfl rfl ?_
  refine E_iload_n 290 dL_law_289 rfl rfl ?_
  refine E_iconst 291 dL_law_290 (by decide) rfl ?_
  refine E_iadd 292 dL_law_291 rfl ?_
  refine E_ialdX 293 dL_law_292 c2 rfl ?_
  refine E_aload_nX 294 dL_law_293 rfl rfl ?_
  refine E_iload_n 295 dL_law_294 rfl rfl ?_
  refine E_iconst 296 dL_law_295 (by decide) rfl ?_
  refine E_iadd 297 dL_law_296 rfl ?_
  refine E_ialdX 298 dL_law_297 c3 rfl ?_
  refine E_callV (as := [(0, ((g.2.2.2.2.2 (w32 (x3 + 1)).toNat).toInt)), (0, ((g.2.2.2.2.2 (w32 (x3 + 2)).toNat).toInt)), (0, ((g.2.2.2.2.2 (w32 (x3 + 3)).toNat).toInt))]) 301 dL_law_298 cf_X12_sort mw_1375 mw_1376 mw_1377 ac_88 (by decide) cl_X12 rfl rfl (Nat.le_of_ble_eq_true rfl) (Nat.le_of_ble_eq_true rfl) ⟨Nat.le_refl _, Nat.le_refl _⟩ rfl (w.mono (fun r7 σ6 w => ?_))
  show XX g true (d + 1) P_L_law 301 [(2, 100002), (2, 0), (2, 88), (0, x3)] [(0, r7), (0, r5)] 136 σ6 136 Q
  refine E_icmp_eq 304 938 dL_law_301 rfl rfl (fun h => ?_) (fun h => ?_)
  · have w := w.1 h
    with_reducible exact w
  · have w := w.2 h
    refine E_iconst 305 dL_law_304 (by decide) rfl ?_
    exact E_zret dL_law_305 rfl rfl (Or.inl rfl) w
theorem B_L_law_306 {g : PG} {d : Nat} {σ : PS} {Q : Int → PS → Prop} {x3 : Int} (w : (0 ≤ w32 (x3 + 1) ∧ w32 (x3 + 1) < (g.2.2.2.2.1 : Int)) ∧ (0 ≤ w32 (x3 + 2) ∧ w32 (x3 + 2) < (g.2.2.2.2.1 : Int)) ∧ XX g true d P_X11_set 0 [(2, 0), (0, ((g.2.2.2.2.2 (w32 (x3 + 1)).toNat).toInt)), (0, ((g.2.2.2.2.2 (w32 (x3 + 2)).toNat).toInt))] [] 136 σ 136 (fun r4 σ3 => XX g true d P_X12_set 0 [(2, 88), (0, ((g.2.2.2.2.2 (w32 (x3 + 1)).toNat).toInt)), (0, ((g.2.2.2.2.2 (w32 (x3 + 2)).toNat).toInt))] [] 136 σ3 136 (fun r6 σ5 => ((r4 = r6 → (XX g true (d + 1) P_L_law 938 [(2, 100002), (2, 0), (2, 88), (0, x3)] [] 136 σ5 136 Q)) ∧ (r4 ≠ r6 → Q 0 σ5))))) : XX g true (d + 1) P_L_law 306 [(2, 100002), (2, 0), (2, 88), (0, x3)] [] 136 σ 136 Q := by
  refine E_aload_n 307 dL_law_306 rfl (ac_0.bnd) rfl ?_
  refine E_aload_nX 308 dL_law_307 rfl rfl ?_
  refine E_iload_n 309 dL_law_308 rfl rfl ?_
  refine E_iconst 310 dL_law_309 (by decide) rfl ?_
  refine E_iadd 311 dL_law_310 rfl ?_
  obtain ⟨c1, w⟩ := w
  refine E_ialdX 312 dL_law_311 c1 rfl ?_
  refine E_aload_nX 313 dL_law_312 rfl rfl ?_
  refine E_iload_n 314 dL_law_313 rfl rfl ?_
  refine E_iconst 315 dL_law_314 (by decide) rfl ?_
  refine E_iadd 316 dL_law_315 rfl ?_
  obtain ⟨c2, w⟩ := w
  refine E_ialdX 317 dL_law_316 c2 rfl ?_
  refine E_callV (as := [(0, ((g.2.2.2.2.2 (w32 (x3 + 1)).toNat).toInt)), (0, ((g.2.2.2.2.2 (w32 (x3 + 2)).toNat).toInt))]) 320 dL_law_317 cf_X11_set mw_552 mw_553 mw_554 ac_0 (by decide) cl_X11 rfl rfl (Nat.le_of_ble_eq_true rfl) (Nat.le_of_ble_eq_true rfl) ⟨Nat.le_refl _, Nat.le_refl _⟩ rfl (w.mono (fun r4 σ3 w => ?_))
  show XX g true (d + 1) P_L_law 320 [(2, 100002), (2, 0), (2, 88), (0, x3)] [(0, r4)] 136 σ3 136 Q
  refine E_aload_n 321 dL_law_320 rfl (ac_88.bnd) rfl ?_
  refine E_aload_nX 322 dL_law_321 rfl rfl ?_
  refine E_iload_n 323 dL_law_322 rfl rfl ?_
  refine E_iconst 324 dL_law_323 (by decide) rfl ?_
  refine E_iadd 325 dL_law_324 rfl ?_
  refine E_ialdX 326 dL_law_325 c1 rfl ?_
  refine E_aload_nX 327 dL_law_326 rfl rfl ?_
  refine E_iload_n 328 dL_law_327 rfl rfl ?_
  refine E_iconst 329 dL_law_328 (by decide) rfl ?_
  refine E_iadd 330 dL_law_329 rfl ?_
  refine E_ialdX 331 dL_law_330 c2 rfl ?_
  refine E_callV (as := [(0, ((g.2.2.2.2.2 (w32 (x3 + 1)).toNat).toInt)), (0, ((g.2.2.2.2.2 (w32 (x3 + 2)).toNat).toInt))]) 334 dL_law_331 cf_X12_set mw_1379 mw_1380 mw_1381 ac_88 (by decide) cl_X12 rfl rfl (Nat.le_of_ble_eq_true rfl) (Nat.le_of_ble_eq_true rfl) ⟨Nat.le_refl _, Nat.le_refl _⟩ rfl (w.mono (fun r6 σ5 w => ?_))
  show XX g true (d + 1) P_L_law 334 [(2, 100002), (2, 0), (2, 88), (0, x3)] [(0, r6), (0, r4)] 136 σ5 136 Q
  refine E_icmp_eq 337 938 dL_law_334 rfl rfl (fun h => ?_) (fun h => ?_)
  · have w := w.1 h
    with_reducible exact w
  · have w := w.2 h
    refine E_iconst 338 dL_law_337 (by decide) rfl ?_
    exact E_zret dL_law_338 rfl rfl (Or.inl rfl) w
theorem B_L_law_339 {g : PG} {d : Nat} {σ : PS} {Q : Int → PS → Prop} {x3 : Int} (w : (0 ≤ w32 (x3 + 1) ∧ w32 (x3 + 1) < (g.2.2.2.2.1 : Int)) ∧ (0 ≤ w32 (x3 + 2) ∧ w32 (x3 + 2) < (g.2.2.2.2.1 : Int)) ∧ (0 ≤ w32 (x3 + 3) ∧ w32 (x3 + 3) < (g.2.2.2.2.1 : Int)) ∧ (0 ≤ w32 (x3 + 4) ∧ w32 (x3 + 4) < (g.2.2.2.2.1 : Int)) ∧ (0 ≤ w32 (x3 + 5) ∧ w32 (x3 + 5) < (g.2.2.2.2.1 : Int)) ∧ XX g true d P_X11_feed 0 [(2, 0), (0, ((g.2.2.2.2.2 (w32 (x3 + 1)).toNat).toInt)), (0, ((g.2.2.2.2.2 (w32 (x3 + 2)).toNat).toInt)), (0, ((g.2.2.2.2.2 (w32 (x3 + 3)).toNat).toInt)), (0, ((g.2.2.2.2.2 (w32 (x3 + 4)).toNat).toInt)), (0, ((g.2.2.2.2.2 (w32 (x3 + 5)).toNat).toInt))] [] 136 σ 136 (fun r7 σ6 => XX g true d P_X12_feed 0 [(2, 88), (0, ((g.2.2.2.2.2 (w32 (x3 + 1)).toNat).toInt)), (0, ((g.2.2.2.2.2 (w32 (x3 + 2)).toNat).toInt)), (0, ((g.2.2.2.2.2 (w32 (x3 + 3)).toNat).toInt)), (0, ((g.2.2.2.2.2 (w32 (x3 + 4)).toNat).toInt)), (0, ((g.2.2.2.2.2 (w32 (x3 + 5)).toNat).toInt))] [] 136 σ6 136 (fun r9 σ8 => ((r7 = r9 → (XX g true (d + 1) P_L_law 938 [(2, 100002), (2, 0), (2, 88), (0, x3)] [] 136 σ8 136 Q)) ∧ (r7 ≠ r9 → Q 0 σ8))))) : XX g true (d + 1) P_L_law 339 [(2, 100002), (2, 0), (2, 88), (0, x3)] [] 136 σ 136 Q := by
  refine E_aload_n 340 dL_law_339 rfl (ac_0.bnd) rfl ?_
  refine E_aload_nX 341 dL_law_340 rfl rfl ?_
  refine E_iload_n 342 dL_law_341 rfl rfl ?_
  refine E_iconst 343 dL_law_342 (by decide) rfl ?_
  refine E_iadd 344 dL_law_343 rfl ?_
  obtain ⟨c1, w⟩ := w
  refine E_ialdX 345 dL_law_344 c1 rfl ?_
  refine E_aload_nX 346 dL_law_345 rfl rfl ?_
  refine E_iload_n 347 dL_law_346 rfl rfl ?_
  refine E_iconst 348 dL_law_347 (by decide) rfl ?_
  refine E_iadd 349 dL_law_348 rfl ?_
  obtain ⟨c2, w⟩ := w
  refine E_ialdX 350 dL_law_349 c2 rfl ?_
  refine E_aload_nX 351 dL_law_350 rfl rfl ?_
  refine E_iload_n 352 dL_law_351 rfl rfl ?_
  refine E_iconst 353 dL_law_352 (by decide) rfl ?_
  refine E_iadd 354 dL_law_353 rfl ?_
  obtain ⟨c3, w⟩ := w
  refine E_ialdX 355 dL_law_354 c3 rfl ?_
  refine E_aload_nX 356 dL_law_355 rfl rfl ?_
  refine E_iload_n 357 dL_law_356 rfl rfl ?_
  refine E_iconst 358 dL_law_357 (by decide) rfl ?_
  refine E_iadd 359 dL_law_358 rfl ?_
  obtain ⟨c4, w⟩ := w
  refine E_ialdX 360 dL_law_359 c4 rfl ?_
  refine E_aload_nX 361 dL_law_360 rfl rfl ?_
  refine E_iload_n 362 dL_law_361 rfl rfl ?_
  refine E_iconst 363 dL_law_362 (by decide) rfl ?_
  refine E_iadd 364 dL_law_363 rfl ?_
  obtain ⟨c5, w⟩ := w
  refine E_ialdX 365 dL_law_364 c5 rfl ?_
  refine E_callV (as := [(0, ((g.2.2.2.2.2 (w32 (x3 + 1)).toNat).toInt)), (0, ((g.2.2.2.2.2 (w32 (x3 + 2)).toNat).toInt)), (0, ((g.2.2.2.2.2 (w32 (x3 + 3)).toNat).toInt)), (0, ((g.2.2.2.2.2 (w32 (x3 + 4)).toNat).toInt)), (0, ((g.2.2.2.2.2 (w32 (x3 + 5)).toNat).toInt))]) 368 dL_law_365 cf_X11_feed mw_560 mw_561 mw_562 ac_0 (by decide) cl_X11 rfl rfl (Nat.le_of_ble_eq_true rfl) (Nat.le_of_ble_eq_true rfl) ⟨Nat.le_refl _, Nat.le_refl _⟩ rfl (w.mono (fun r7 σ6 w => ?_))
  show XX g true (d + 1) P_L_law 368 [(2, 100002), (2, 0), (2, 88), (0, x3)] [(0, r7)] 136 σ6 136 Q
  refine E_aload_n 369 dL_law_368 rfl (ac_88.bnd) rfl ?_
  refine E_aload_nX 370 dL_law_369 rfl rfl ?_
  refine E_iload_n 371 dL_law_370 rfl rfl ?_
  refine E_iconst 372 dL_law_371 (by decide) rfl ?_
  refine E_iadd 373 dL_law_372 rfl ?_
  refine E_ialdX 374 dL_law_373 c1 rfl ?_
  refine E_aload_nX 375 dL_law_374 rfl rfl ?_
  refine E_iload_n 376 dL_law_375 rfl rfl ?_
  refine E_iconst 377 dL_law_376 (by decide) rfl ?_
  refine E_iadd 378 dL_law_377 rfl ?_
  refine E_ialdX 379 dL_law_378 c2 rfl ?_
  refine E_aload_nX 380 dL_law_379 rfl rfl ?_
  refine E_iload_n 381 dL_law_380 rfl rfl ?_
  refine E_iconst 382 dL_law_381 (by decide) rfl ?_
  refine E_iadd 383 dL_law_382 rfl ?_
  refine E_ialdX 384 dL_law_383 c3 rfl ?_
  refine E_aload_nX 385 dL_law_384 rfl rfl ?_
  refine E_iload_n 386 dL_law_385 rfl rfl ?_
  refine E_iconst 387 dL_law_386 (by decide) rfl ?_
  refine E_iadd 388 dL_law_387 rfl ?_
  refine E_ialdX 389 dL_law_388 c4 rfl ?_
  refine E_aload_nX 390 dL_law_389 rfl rfl ?_
  refine E_iload_n 391 dL_law_390 rfl rfl ?_
  refine E_iconst 392 dL_law_391 (by decide) rfl ?_
  refine E_iadd 393 dL_law_392 rfl ?_
  refine E_ialdX 394 dL_law_393 c5 rfl ?_
  refine E_callV (as := [(0, ((g.2.2.2.2.2 (w32 (x3 + 1)).toNat).toInt)), (0, ((g.2.2.2.2.2 (w32 (x3 + 2)).toNat).toInt)), (0, ((g.2.2.2.2.2 (w32 (x3 + 3)).toNat).toInt)), (0, ((g.2.2.2.2.2 (w32 (x3 + 4)).toNat).toInt)), (0, ((g.2.2.2.2.2 (w32 (x3 + 5)).toNat).toInt))]) 397 dL_law_394 cf_X12_feed mw_1391 mw_1392 mw_1393 ac_88 (by decide) cl_X12 rfl rfl (Nat.le_of_ble_eq_true rfl) (Nat.le_of_ble_eq_true rfl) ⟨Nat.le_refl _, Nat.le_refl _⟩ rfl (w.mono (fun r9 σ8 w => ?_))
  show XX g true (d + 1) P_L_law 397 [(2, 100002), (2, 0), (2, 88), (0, x3)] [(0, r9), (0, r7)] 136 σ8 136 Q
  refine E_icmp_eq 400 938 dL_law_397 rfl rfl (fun h => ?_) (fun h => ?_)
  · have w := w.1 h
    with_reducible exact w
  · have w := w.2 h
    refine E_iconst 401 dL_law_400 (by decide) rfl ?_
    exact E_zret dL_law_401 rfl rfl (Or.inl rfl) w
theorem B_L_law_402 {g : PG} {d : Nat} {σ : PS} {Q : Int → PS → Prop} {x3 : Int} (w : (0 ≤ w32 (x3 + 1) ∧ w32 (x3 + 1) < (g.2.2.2.2.1 : Int)) ∧ XX g true d P_X11_end 0 [(2, 0), (0, ((g.2.2.2.2.2 (w32 (x3 + 1)).toNat).toInt))] [] 136 σ 136 (fun r3 σ2 => XX g true d P_X12_end 0 [(2, 88), (0, ((g.2.2.2.2.2 (w32 (x3 + 1)).toNat).toInt))] [] 136 σ2 136 (fun r5 σ4 => ((r3 = r5 → (XX g true (d + 1) P_L_law 938 [(2, 100002), (2, 0), (2, 88), (0, x3)] [] 136 σ4 136 Q)) ∧ (r3 ≠ r5 → Q 0 σ4))))) : XX g true (d + 1) P_L_law 402 [(2, 100002), (2, 0), (2, 88), (0, x3)] [] 136 σ 136 Q := by
  refine E_aload_n 403 dL_law_402 rfl (ac_0.bnd) rfl ?_
  refine E_aload_nX 404 dL_law_403 rfl rfl ?_
  refine E_iload_n 405 dL_law_404 rfl rfl ?_
  refine E_iconst 406 dL_law_405 (by decide) rfl ?_
  refine E_iadd 407 dL_law_406 rfl ?_
  obtain ⟨c1, w⟩ := w
  refine E_ialdX 408 dL_law_407 c1 rfl ?_
  refine E_callV (as := [(0, ((g.2.2.2.2.2 (w32 (x3 + 1)).toNat).toInt))]) 411 dL_law_408 cf_X11_end mw_568 mw_569 mw_570 ac_0 (by decide) cl_X11 rfl rfl (Nat.le_of_ble_eq_true rfl) (Nat.le_of_ble_eq_true rfl) ⟨Nat.le_refl _, Nat.le_refl _⟩ rfl (w.mono (fun r3 σ2 w => ?_))
  show XX g true (d + 1) P_L_law 411 [(2, 100002), (2, 0), (2, 88), (0, x3)] [(0, r3)] 136 σ2 136 Q
  refine E_aload_n 412 dL_law_411 rfl (ac_88.bnd) rfl ?_
  refine E_aload_nX 413 dL_law_412 rfl rfl ?_
  refine E_iload_n 414 dL_law_413 rfl rfl ?_
  refine E_iconst 415 dL_law_414 (by decide) rfl ?_
  refine E_iadd 416 dL_law_415 rfl ?_
  refine E_ialdX 417 dL_law_416 c1 rfl ?_
  refine E_callV (as := [(0, ((g.2.2.2.2.2 (w32 (x3 + 1)).toNat).toInt))]) 420 dL_law_417 cf_X12_end mw_1399 mw_1400 mw_1401 ac_88 (by decide) cl_X12 rfl rfl (Nat.le_of_ble_eq_true rfl) (Nat.le_of_ble_eq_true rfl) ⟨Nat.le_refl _, Nat.le_refl _⟩ rfl (w.mono (fun r5 σ4 w => ?_))
  show XX g true (d + 1) P_L_law 420 [(2, 100002), (2, 0), (2, 88), (0, x3)] [(0, r5), (0, r3)] 136 σ4 136 Q
  refine E_icmp_eq 423 938 dL_law_420 rfl rfl (fun h => ?_) (fun h => ?_)
  · have w := w.1 h
    with_reducible exact w
  · have w := w.2 h
    refine E_iconst 424 dL_law_423 (by decide) rfl ?_
    exact E_zret dL_law_424 rfl rfl (Or.inl rfl) w
theorem B_L_law_425 {g : PG} {d : Nat} {σ : PS} {Q : Int → PS → Prop} {x3 : Int} (w : (0 ≤ w32 (x3 + 1) ∧ w32 (x3 + 1) < (g.2.2.2.2.1 : Int)) ∧ XX g true d P_X11_text 0 [(2, 0), (0, ((g.2.2.2.2.2 (w32 (x3 + 1)).toNat).toInt)), (9, 0)] [] 136 σ 136 (fun r3 σ2 => XX g true d P_X12_text 0 [(2, 88), (0, ((g.2.2.2.2.2 (w32 (x3 + 1)).toNat).toInt)), (9, 0), (9, 0)] [] 136 σ2 136 (fun r5 σ4 => ((r3 = r5 → (XX g true (d + 1) P_L_law 938 [(2, 100002), (2, 0), (2, 88), (0, x3)] [] 136 σ4 136 Q)) ∧ (r3 ≠ r5 → Q 0 σ4))))) : XX g true (d + 1) P_L_law 425 [(2, 100002), (2, 0), (2, 88), (0, x3)] [] 136 σ 136 Q := by
  refine E_aload_n 426 dL_law_425 rfl (ac_0.bnd) rfl ?_
  refine E_aload_nX 427 dL_law_426 rfl rfl ?_
  refine E_iload_n 428 dL_law_427 rfl rfl ?_
  refine E_iconst 429 dL_law_428 (by decide) rfl ?_
  refine E_iadd 430 dL_law_429 rfl ?_
  obtain ⟨c1, w⟩ := w
  refine E_ialdX 431 dL_law_430 c1 rfl ?_
  refine E_callV (as := [(0, ((g.2.2.2.2.2 (w32 (x3 + 1)).toNat).toInt))]) 434 dL_law_431 cf_X11_text mw_572 mw_573 mw_574 ac_0 (by decide) cl_X11 rfl rfl (Nat.le_of_ble_eq_true rfl) (Nat.le_of_ble_eq_true rfl) ⟨Nat.le_refl _, Nat.le_refl _⟩ rfl (w.mono (fun r3 σ2 w => ?_))
  show XX g true (d + 1) P_L_law 434 [(2, 100002), (2, 0), (2, 88), (0, x3)] [(0, r3)] 136 σ2 136 Q
  refine E_aload_n 435 dL_law_434 rfl (ac_88.bnd) rfl ?_
  refine E_aload_nX 436 dL_law_435 rfl rfl ?_
  refine E_iload_n 437 dL_law_436 rfl rfl ?_
  refine E_iconst 438 dL_law_437 (by decide) rfl ?_
  refine E_iadd 439 dL_law_438 rfl ?_
  refine E_ialdX 440 dL_law_439 c1 rfl ?_
  refine E_callV (as := [(0, ((g.2.2.2.2.2 (w32 (x3 + 1)).toNat).toInt))]) 443 dL_law_440 cf_X12_text mw_1403 mw_1404 mw_1405 ac_88 (by decide) cl_X12 rfl rfl (Nat.le_of_ble_eq_true rfl) (Nat.le_of_ble_eq_true rfl) ⟨Nat.le_refl _, Nat.le_refl _⟩ rfl (w.mono (fun r5 σ4 w => ?_))
  show XX g true (d + 1) P_L_law 443 [(2, 100002), (2, 0), (2, 88), (0, x3)] [(0, r5), (0, r3)] 136 σ4 136 Q
  refine E_icmp_eq 446 938 dL_law_443 rfl rfl (fun h => ?_) (fun h => ?_)
  · have w := w.1 h
    with_reducible exact w
  · have w := w.2 h
    refine E_iconst 447 dL_law_446 (by decide) rfl ?_
    exact E_zret dL_law_447 rfl rfl (Or.inl rfl) w
theorem B_L_law_448 {g : PG} {d : Nat} {σ : PS} {Q : Int → PS → Prop} {x3 : Int} (w : (0 ≤ w32 (x3 + 1) ∧ w32 (x3 + 1) < (g.2.2.2.2.1 : Int)) ∧ XX g true d P_X11_fault 0 [(2, 0), (0, ((g.2.2.2.2.2 (w32 (x3 + 1)).toNat).toInt))] [] 136 σ 136 (fun r3 σ2 => XX g true d P_X12_fault 0 [(2, 88), (0, ((g.2.2.2.2.2 (w32 (x3 + 1)).toNat).toInt))] [] 136 σ2 136 (fun r5 σ4 => ((r3 = r5 → (XX g true (d + 1) P_L_law 938 [(2, 100002), (2, 0), (2, 88), (0, x3)] [] 136 σ4 136 Q)) ∧ (r3 ≠ r5 → Q 0 σ4))))) : XX g true (d + 1) P_L_law 448 [(2, 100002), (2, 0), (2, 88), (0, x3)] [] 136 σ 136 Q := by
  refine E_aload_n 449 dL_law_448 rfl (ac_0.bnd) rfl ?_
  refine E_aload_nX 450 dL_law_449 rfl rfl ?_
  refine E_iload_n 451 dL_law_450 rfl rfl ?_
  refine E_iconst 452 dL_law_451 (by decide) rfl ?_
  refine E_iadd 453 dL_law_452 rfl ?_
  obtain ⟨c1, w⟩ := w
  refine E_ialdX 454 dL_law_453 c1 rfl ?_
  refine E_callV (as := [(0, ((g.2.2.2.2.2 (w32 (x3 + 1)).toNat).toInt))]) 457 dL_law_454 cf_X11_fault mw_799 mw_800 mw_801 ac_0 (by decide) cl_X11 rfl rfl (Nat.le_of_ble_eq_true rfl) (Nat.le_of_ble_eq_true rfl) ⟨Nat.le_refl _, Nat.le_refl _⟩ rfl (w.mono (fun r3 σ2 w => ?_))
  show XX g true (d + 1) P_L_law 457 [(2, 100002), (2, 0), (2, 88), (0, x3)] [(0, r3)] 136 σ2 136 Q
  refine E_aload_n 458 dL_law_457 rfl (ac_88.bnd) rfl ?_
  refine E_aload_nX 459 dL_law_458 rfl rfl ?_
  refine E_iload_n 460 dL_law_459 rfl rfl ?_
  refine E_iconst 461 dL_law_460 (by decide) rfl ?_
  refine E_iadd 462 dL_law_461 rfl ?_
  refine E_ialdX 463 dL_law_462 c1 rfl ?_
  refine E_callV (as := [(0, ((g.2.2.2.2.2 (w32 (x3 + 1)).toNat).toInt))]) 466 dL_law_463 cf_X12_fault mw_1511 mw_1512 mw_1513 ac_88 (by decide) cl_X12 rfl rfl (Nat.le_of_ble_eq_true rfl) (Nat.le_of_ble_eq_true rfl) ⟨Nat.le_refl _, Nat.le_refl _⟩ rfl (w.mono (fun r5 σ4 w => ?_))
  show XX g true (d + 1) P_L_law 466 [(2, 100002), (2, 0), (2, 88), (0, x3)] [(0, r5), (0, r3)] 136 σ4 136 Q
  refine E_icmp_eq 469 938 dL_law_466 rfl rfl (fun h => ?_) (fun h => ?_)
  · have w := w.1 h
    with_reducible exact w
  · have w := w.2 h
    refine E_iconst 470 dL_law_469 (by decide) rfl ?_
    exact E_zret dL_law_470 rfl rfl (Or.inl rfl) w
theorem B_L_law_471 {g : PG} {d : Nat} {σ : PS} {Q : Int → PS → Prop} {x3 : Int} (w : (0 ≤ w32 (x3 + 1) ∧ w32 (x3 + 1) < (g.2.2.2.2.1 : Int)) ∧ (0 ≤ w32 (x3 + 2) ∧ w32 (x3 + 2) < (g.2.2.2.2.1 : Int)) ∧ XX g true d P_X11_of 0 [(2, 0), (0, ((g.2.2.2.2.2 (w32 (x3 + 1)).toNat).toInt)), (0, ((g.2.2.2.2.2 (w32 (x3 + 2)).toNat).toInt))] [] 136 σ 136 (fun r4 σ3 => XX g true d P_X12_of 0 [(2, 88), (0, ((g.2.2.2.2.2 (w32 (x3 + 1)).toNat).toInt)), (0, ((g.2.2.2.2.2 (w32 (x3 + 2)).toNat).toInt))] [] 136 σ3 136 (fun r6 σ5 => ((r4 = r6 → (XX g true (d + 1) P_L_law 938 [(2, 100002), (2, 0), (2, 88), (0, x3)] [] 136 σ5 136 Q)) ∧ (r4 ≠ r6 → Q 0 σ5))))) : XX g true (d + 1) P_L_law 471 [(2, 100002), (2, 0), (2, 88), (0, x3)] [] 136 σ 136 Q := by
  refine E_aload_n 472 dL_law_471 rfl (ac_0.bnd) rfl ?_
  refine E_aload_nX 473 dL_law_472 rfl rfl ?_
  refine E_iload_n 474 dL_law_473 rfl rfl ?_
  refine E_iconst 475 dL_law_474 (by decide) rfl ?_
  refine E_iadd 476 dL_law_475 rfl ?_
  obtain ⟨c1, w⟩ := w
  refine E_ialdX 477 dL_law_476 c1 rfl ?_
  refine E_aload_nX 478 dL_law_477 rfl rfl ?_
  refine E_iload_n 479 dL_law_478 rfl rfl ?_
  refine E_iconst 480 dL_law_479 (by decide) rfl ?_
  refine E_iadd 481 dL_law_480 rfl ?_
  obtain ⟨c2, w⟩ := w
  refine E_ialdX 482 dL_law_481 c2 rfl ?_
  refine E_callV (as := [(0, ((g.2.2.2.2.2 (w32 (x3 + 1)).toNat).toInt)), (0, ((g.2.2.2.2.2 (w32 (x3 + 2)).toNat).toInt))]) 485 dL_law_482 cf_X11_of mw_803 mw_804 mw_805 ac_0 (by decide) cl_X11 rfl rfl (Nat.le_of_ble_eq_true rfl) (Nat.le_of_ble_eq_true rfl) ⟨Nat.le_refl _, Nat.le_refl _⟩ rfl (w.mono (fun r4 σ3 w => ?_))
  show XX g true (d + 1) P_L_law 485 [(2, 100002), (2, 0), (2, 88), (0, x3)] [(0, r4)] 136 σ3 136 Q
  refine E_aload_n 486 dL_law_485 rfl (ac_88.bnd) rfl ?_
  refine E_aload_nX 487 dL_law_486 rfl rfl ?_
  refine E_iload_n 488 dL_law_487 rfl rfl ?_
  refine E_iconst 489 dL_law_488 (by decide) rfl ?_
  refine E_iadd 490 dL_law_489 rfl ?_
  refine E_ialdX 491 dL_law_490 c1 rfl ?_
  refine E_aload_nX 492 dL_law_491 rfl rfl ?_
  refine E_iload_n 493 dL_law_492 rfl rfl ?_
  refine E_iconst 494 dL_law_493 (by decide) rfl ?_
  refine E_iadd 495 dL_law_494 rfl ?_
  refine E_ialdX 496 dL_law_495 c2 rfl ?_
  refine E_callV (as := [(0, ((g.2.2.2.2.2 (w32 (x3 + 1)).toNat).toInt)), (0, ((g.2.2.2.2.2 (w32 (x3 + 2)).toNat).toInt))]) 499 dL_law_496 cf_X12_of mw_1606 mw_1607 mw_1608 ac_88 (by decide) cl_X12 rfl rfl (Nat.le_of_ble_eq_true rfl) (Nat.le_of_ble_eq_true rfl) ⟨Nat.le_refl _, Nat.le_refl _⟩ rfl (w.mono (fun r6 σ5 w => ?_))
  show XX g true (d + 1) P_L_law 499 [(2, 100002), (2, 0), (2, 88), (0, x3)] [(0, r6), (0, r4)] 136 σ5 136 Q
  refine E_icmp_eq 502 938 dL_law_499 rfl rfl (fun h => ?_) (fun h => ?_)
  · have w := w.1 h
    with_reducible exact w
  · have w := w.2 h
    refine E_iconst 503 dL_law_502 (by decide) rfl ?_
    exact E_zret dL_law_503 rfl rfl (Or.inl rfl) w
theorem B_L_law_504 {g : PG} {d : Nat} {σ : PS} {Q : Int → PS → Prop} {x3 : Int} (w : (0 ≤ w32 (x3 + 1) ∧ w32 (x3 + 1) < (g.2.2.2.2.1 : Int)) ∧ XX g true d P_X11_see 0 [(2, 0), (0, ((g.2.2.2.2.2 (w32 (x3 + 1)).toNat).toInt))] [] 136 σ 136 (fun r3 σ2 => XX g true d P_X12_see 0 [(2, 88), (0, ((g.2.2.2.2.2 (w32 (x3 + 1)).toNat).toInt))] [] 136 σ2 136 (fun r5 σ4 => ((r3 = r5 → (XX g true (d + 1) P_L_law 938 [(2, 100002), (2, 0), (2, 88), (0, x3)] [] 136 σ4 136 Q)) ∧ (r3 ≠ r5 → Q 0 σ4))))) : XX g true (d + 1) P_L_law 504 [(2, 100002), (2, 0), (2, 88), (0, x3)] [] 136 σ 136 Q := by
  refine E_aload_n 505 dL_law_504 rfl (ac_0.bnd) rfl ?_
  refine E_aload_nX 506 dL_law_505 rfl rfl ?_
  refine E_iload_n 507 dL_law_506 rfl rfl ?_
  refine E_iconst 508 dL_law_507 (by decide) rfl ?_
  refine E_iadd 509 dL_law_508 rfl ?_
  obtain ⟨c1, w⟩ := w
  refine E_ialdX 510 dL_law_509 c1 rfl ?_
  refine E_callV (as := [(0, ((g.2.2.2.2.2 (w32 (x3 + 1)).toNat).toInt))]) 513 dL_law_510 cf_X11_see mw_850 mw_851 mw_852 ac_0 (by decide) cl_X11 rfl rfl (Nat.le_of_ble_eq_true rfl) (Nat.le_of_ble_eq_true rfl) ⟨Nat.le_refl _, Nat.le_refl _⟩ rfl (w.mono (fun r3 σ2 w => ?_))
  show XX g true (d + 1) P_L_law 513 [(2, 100002), (2, 0), (2, 88), (0, x3)] [(0, r3)] 136 σ2 136 Q
  refine E_aload_n 514 dL_law_513 rfl (ac_88.bnd) rfl ?_
  refine E_aload_nX 515 dL_law_514 rfl rfl ?_
  refine E_iload_n 516 dL_law_515 rfl rfl ?_
  refine E_iconst 517 dL_law_516 (by decide) rfl ?_
  refine E_iadd 518 dL_law_517 rfl ?_
  refine E_ialdX 519 dL_law_518 c1 rfl ?_
  refine E_callV (as := [(0, ((g.2.2.2.2.2 (w32 (x3 + 1)).toNat).toInt))]) 522 dL_law_519 cf_X12_see mw_1602 mw_1603 mw_1604 ac_88 (by decide) cl_X12 rfl rfl (Nat.le_of_ble_eq_true rfl) (Nat.le_of_ble_eq_true rfl) ⟨Nat.le_refl _, Nat.le_refl _⟩ rfl (w.mono (fun r5 σ4 w => ?_))
  show XX g true (d + 1) P_L_law 522 [(2, 100002), (2, 0), (2, 88), (0, x3)] [(0, r5), (0, r3)] 136 σ4 136 Q
  refine E_icmp_eq 525 938 dL_law_522 rfl rfl (fun h => ?_) (fun h => ?_)
  · have w := w.1 h
    with_reducible exact w
  · have w := w.2 h
    refine E_iconst 526 dL_law_525 (by decide) rfl ?_
    exact E_zret dL_law_526 rfl rfl (Or.inl rfl) w
theorem B_L_law_527 {g : PG} {d : Nat} {σ : PS} {Q : Int → PS → Prop} {x3 : Int} (w : (0 ≤ w32 (x3 + 1) ∧ w32 (x3 + 1) < (g.2.2.2.2.1 : Int)) ∧ (0 ≤ w32 (x3 + 2) ∧ w32 (x3 + 2) < (g.2.2.2.2.1 : Int)) ∧ XX g true d P_X11_fails 0 [(2, 0), (0, ((g.2.2.2.2.2 (w32 (x3 + 1)).toNat).toInt)), (0, ((g.2.2.2.2.2 (w32 (x3 + 2)).toNat).toInt)), (9, 0), (9, 0)] [] 136 σ 136 (fun r4 σ3 => XX g true d P_X12_fails 0 [(2, 88), (0, ((g.2.2.2.2.2 (w32 (x3 + 1)).toNat).toInt)), (0, ((g.2.2.2.2.2 (w32 (x3 + 2)).toNat).toInt)), (9, 0)] [] 136 σ3 136 (fun r6 σ5 => ((r4 = r6 → (XX g true (d + 1) P_L_law 938 [(2, 100002), (2, 0), (2, 88), (0, x3)] [] 136 σ5 136 Q)) ∧ (r4 ≠ r6 → Q 0 σ5))))) : XX g true (d + 1) P_L_law 527 [(2, 100002), (2, 0), (2, 88), (0, x3)] [] 136 σ 136 Q := by
  refine E_aload_n 528 dL_law_527 rfl (ac_0.bnd) rfl ?_
  refine E_aload_nX 529 dL_law_528 rfl rfl ?_
  refine E_iload_n 530 dL_law_529 rfl rfl ?_
  refine E_iconst 531 dL_law_530 (by decide) rfl ?_
  refine E_iadd 532 dL_law_531 rfl ?_
  obtain ⟨c1, w⟩ := w
  refine E_ialdX 533 dL_law_532 c1 rfl ?_
  refine E_aload_nX 534 dL_law_533 rfl rfl ?_
  refine E_iload_n 535 dL_law_534 rfl rfl ?_
  refine E_iconst 536 dL_law_535 (by decide) rfl ?_
  refine E_iadd 537 dL_law_536 rfl ?_
  obtain ⟨c2, w⟩ := w
  refine E_ialdX 538 dL_law_537 c2 rfl ?_
  refine E_callV (as := [(0, ((g.2.2.2.2.2 (w32 (x3 + 1)).toNat).toInt)), (0, ((g.2.2.2.2.2 (w32 (x3 + 2)).toNat).toInt))]) 541 dL_law_538 cf_X11_fails mw_859 mw_860 mw_861 ac_0 (by decide) cl_X11 rfl rfl (Nat.le_of_ble_eq_true rfl) (Nat.le_of_ble_eq_true rfl) ⟨Nat.le_refl _, Nat.le_refl _⟩ rfl (w.mono (fun r4 σ3 w => ?_))
  show XX g true (d + 1) P_L_law 541 [(2, 100002), (2, 0), (2, 88), (0, x3)] [(0, r4)] 136 σ3 136 Q
  refine E_aload_n 542 dL_law_541 rfl (ac_88.bnd) rfl ?_
  refine E_aload_nX 543 dL_law_542 rfl rfl ?_
  refine E_iload_n 544 dL_law_543 rfl rfl ?_
  refine E_iconst 545 dL_law_544 (by decide) rfl ?_
  refine E_iadd 546 dL_law_545 rfl ?_
  refine E_ialdX 547 dL_law_546 c1 rfl ?_
  refine E_aload_nX 548 dL_law_547 rfl rfl ?_
  refine E_iload_n 549 dL_law_548 rfl rfl ?_
  refine E_iconst 550 dL_law_549 (by decide) rfl ?_
  refine E_iadd 551 dL_law_550 rfl ?_
  refine E_ialdX 552 dL_law_551 c2 rfl ?_
  refine E_callV (as := [(0, ((g.2.2.2.2.2 (w32 (x3 + 1)).toNat).toInt)), (0, ((g.2.2.2.2.2 (w32 (x3 + 2)).toNat).toInt))]) 555 dL_law_552 cf_X12_fails mw_1515 mw_1516 mw_1517 ac_88 (by decide) cl_X12 rfl rfl (Nat.le_of_ble_eq_true rfl) (Nat.le_of_ble_eq_true rfl) ⟨Nat.le_refl _, Nat.le_refl _⟩ rfl (w.mono (fun r6 σ5 w => ?_))
  show XX g true (d + 1) P_L_law 555 [(2, 100002), (2, 0), (2, 88), (0, x3)] [(0, r6), (0, r4)] 136 σ5 136 Q
  refine E_icmp_eq 558 938 dL_law_555 rfl rfl (fun h => ?_) (fun h => ?_)
  · have w := w.1 h
    with_reducible exact w
  · have w := w.2 h
    refine E_iconst 559 dL_law_558 (by decide) rfl ?_
    exact E_zret dL_law_559 rfl rfl (Or.inl rfl) w
theorem B_L_law_560 {g : PG} {d : Nat} {σ : PS} {Q : Int → PS → Prop} {x3 : Int} (w : (0 ≤ w32 (x3 + 1) ∧ w32 (x3 + 1) < (g.2.2.2.2.1 : Int)) ∧ XX g true d P_X11_days 0 [(2, 0), (0, ((g.2.2.2.2.2 (w32 (x3 + 1)).toNat).toInt)), (9, 0), (9, 0)] [] 136 σ 136 (fun r3 σ2 => XX g true d P_X12_days 0 [(2, 88), (0, ((g.2.2.2.2.2 (w32 (x3 + 1)).toNat).toInt)), (9, 0), (9, 0)] [] 136 σ2 136 (fun r5 σ4 => ((r3 = r5 → (XX g true (d + 1) P_L_law 938 [(2, 100002), (2, 0), (2, 88), (0, x3)] [] 136 σ4 136 Q)) ∧ (r3 ≠ r5 → Q 0 σ4))))) : XX g true (d + 1) P_L_law 560 [(2, 100002), (2, 0), (2, 88), (0, x3)] [] 136 σ 136 Q := by
  refine E_aload_n 561 dL_law_560 rfl (ac_0.bnd) rfl ?_
  refine E_aload_nX 562 dL_law_561 rfl rfl ?_
  refine E_iload_n 563 dL_law_562 rfl rfl ?_
  refine E_iconst 564 dL_law_563 (by decide) rfl ?_
  refine E_iadd 565 dL_law_564 rfl ?_
  obtain ⟨c1, w⟩ := w
  refine E_ialdX 566 dL_law_565 c1 rfl ?_
  refine E_callV (as := [(0, ((g.2.2.2.2.2 (w32 (x3 + 1)).toNat).toInt))]) 569 dL_law_566 cf_X11_days mw_873 mw_874 mw_875 ac_0 (by decide) cl_X11 rfl rfl (Nat.le_of_ble_eq_true rfl) (Nat.le_of_ble_eq_true rfl) ⟨Nat.le_refl _, Nat.le_refl _⟩ rfl (w.mono (fun r3 σ2 w => ?_))
  show XX g true (d + 1) P_L_law 569 [(2, 100002), (2, 0), (2, 88), (0, x3)] [(0, r3)] 136 σ2 136 Q
  refine E_aload_n 570 dL_law_569 rfl (ac_88.bnd) rfl ?_
  refine E_aload_nX 571 dL_law_570 rfl rfl ?_
  refine E_iload_n 572 dL_law_571 rfl rfl ?_
  refine E_iconst 573 dL_law_572 (by decide) rfl ?_
  refine E_iadd 574 dL_law_573 rfl ?_
  refine E_ialdX 575 dL_law_574 c1 rfl ?_
  refine E_callV (as := [(0, ((g.2.2.2.2.2 (w32 (x3 + 1)).toNat).toInt))]) 578 dL_law_575 cf_X12_days mw_1540 mw_1541 mw_1542 ac_88 (by decide) cl_X12 rfl rfl (Nat.le_of_ble_eq_true rfl) (Nat.le_of_ble_eq_true rfl) ⟨Nat.le_refl _, Nat.le_refl _⟩ rfl (w.mono (fun r5 σ4 w => ?_))
  show XX g true (d + 1) P_L_law 578 [(2, 100002), (2, 0), (2, 88), (0, x3)] [(0, r5), (0, r3)] 136 σ4 136 Q
  refine E_icmp_eq 581 938 dL_law_578 rfl rfl (fun h => ?_) (fun h => ?_)
  · have w := w.1 h
    with_reducible exact w
  · have w := w.2 h
    refine E_iconst 582 dL_law_581 (by decide) rfl ?_
    exact E_zret dL_law_582 rfl rfl (Or.inl rfl) w
theorem B_L_law_583 {g : PG} {d : Nat} {σ : PS} {Q : Int → PS → Prop} {x3 : Int} (w : (0 ≤ w32 (x3 + 1) ∧ w32 (x3 + 1) < (g.2.2.2.2.1 : Int)) ∧ XX g true d P_X11_chance 0 [(2, 0), (0, ((g.2.2.2.2.2 (w32 (x3 + 1)).toNat).toInt))] [] 136 σ 136 (fun r3 σ2 => XX g true d P_X12_chance 0 [(2, 88), (0, ((g.2.2.2.2.2 (w32 (x3 + 1)).toNat).toInt)), (9, 0)] [] 136 σ2 136 (fun r5 σ4 => ((r3 = r5 → (XX g true (d + 1) P_L_law 938 [(2, 100002), (2, 0), (2, 88), (0, x3)] [] 136 σ4 136 Q)) ∧ (r3 ≠ r5 → Q 0 σ4))))) : XX g true (d + 1) P_L_law 583 [(2, 100002), (2, 0), (2, 88), (0, x3)] [] 136 σ 136 Q := by
  refine E_aload_n 584 dL_law_583 rfl (ac_0.bnd) rfl ?_
  refine E_aload_nX 585 dL_law_584 rfl rfl ?_
  refine E_iload_n 586 dL_law_585 rfl rfl ?_
  refine E_iconst 587 dL_law_586 (by decide) rfl ?_
  refine E_iadd 588 dL_law_587 rfl ?_
  obtain ⟨c1, w⟩ := w
  refine E_ialdX 589 dL_law_588 c1 rfl ?_
  refine E_callV (as := [(0, ((g.2.2.2.2.2 (w32 (x3 + 1)).toNat).toInt))]) 592 dL_law_589 cf_X11_chance mw_909 mw_910 mw_911 ac_0 (by decide) cl_X11 rfl rfl (Nat.le_of_ble_eq_true rfl) (Nat.le_of_ble_eq_true rfl) ⟨Nat.le_refl _, Nat.le_refl _⟩ rfl (w.mono (fun r3 σ2 w => ?_))
  show XX g true (d + 1) P_L_law 592 [(2, 100002), (2, 0), (2, 88), (0, x3)] [(1, r3)] 136 σ2 136 Q
  refine E_aload_n 593 dL_law_592 rfl (ac_88.bnd) rfl ?_
  refine E_aload_nX 594 dL_law_593 rfl rfl ?_
  refine E_iload_n 595 dL_law_594 rfl rfl ?_
  refine E_iconst 596 dL_law_595 (by decide) rfl ?_
  refine E_iadd 597 dL_law_596 rfl ?_
  refine E_ialdX 598 dL_law_597 c1 rfl ?_
  refine E_callV (as := [(0, ((g.2.2.2.2.2 (w32 (x3 + 1)).toNat).toInt))]) 601 dL_law_598 cf_X12_chance mw_1615 mw_1616 mw_1617 ac_88 (by decide) cl_X12 rfl rfl (Nat.le_of_ble_eq_true rfl) (Nat.le_of_ble_eq_true rfl) ⟨Nat.le_refl _, Nat.le_refl _⟩ rfl (w.mono (fun r5 σ4 w => ?_))
  show XX g true (d + 1) P_L_law 601 [(2, 100002), (2, 0), (2, 88), (0, x3)] [(1, r5), (1, r3)] 136 σ4 136 Q
  refine E_lcmp 602 dL_law_601 rfl ?_
  refine E_if_eq 605 938 dL_law_602 rfl rfl (fun h => ?_) (fun h => ?_)
  · have w := w.1 ((lc_eq _ _).mp h)
    with_reducible exact w
  · have w := w.2 ((lc_ne _ _).mp h)
    refine E_iconst 606 dL_law_605 (by decide) rfl ?_
    exact E_zret dL_law_606 rfl rfl (Or.inl rfl) w
theorem B_L_law_607 {g : PG} {d : Nat} {σ : PS} {Q : Int → PS → Prop} {x3 : Int} (w : (0 ≤ w32 (x3 + 1) ∧ w32 (x3 + 1) < (g.2.2.2.2.1 : Int)) ∧ XX g true d P_X11_left 0 [(2, 0), (0, ((g.2.2.2.2.2 (w32 (x3 + 1)).toNat).toInt))] [] 136 σ 136 (fun r3 σ2 => XX g true d P_X12_left 0 [(2, 88), (0, ((g.2.2.2.2.2 (w32 (x3 + 1)).toNat).toInt)), (9, 0)] [] 136 σ2 136 (fun r5 σ4 => ((r3 = r5 → (XX g true (d + 1) P_L_law 938 [(2, 100002), (2, 0), (2, 88), (0, x3)] [] 136 σ4 136 Q)) ∧ (r3 ≠ r5 → Q 0 σ4))))) : XX g true (d + 1) P_L_law 607 [(2, 100002), (2, 0), (2, 88), (0, x3)] [] 136 σ 136 Q := by
  refine E_aload_n 608 dL_law_607 rfl (ac_0.bnd) rfl ?_
  refine E_aload_nX 609 dL_law_608 rfl rfl ?_
  refine E_iload_n 610 dL_law_609 rfl rfl ?_
  refine E_iconst 611 dL_law_610 (by decide) rfl ?_
  refine E_iadd 612 dL_law_611 rfl ?_
  obtain ⟨c1, w⟩ := w
  refine E_ialdX 613 dL_law_612 c1 rfl ?_
  refine E_callV (as := [(0, ((g.2.2.2.2.2 (w32 (x3 + 1)).toNat).toInt))]) 616 dL_law_613 cf_X11_left mw_943 mw_944 mw_945 ac_0 (by decide) cl_X11 rfl rfl (Nat.le_of_ble_eq_true rfl) (Nat.le_of_ble_eq_true rfl) ⟨Nat.le_refl _, Nat.le_refl _⟩ rfl (w.mono (fun r3 σ2 w => ?_))
  show XX g true (d + 1) P_L_law 616 [(2, 100002), (2, 0), (2, 88), (0, x3)] [(1, r3)] 136 σ2 136 Q
  refine E_aload_n 617 dL_law_616 rfl (ac_88.bnd) rfl ?_
  refine E_aload_nX 618 dL_law_617 rfl rfl ?_
  refine E_iload_n 619 dL_law_618 rfl rfl ?_
  refine E_iconst 620 dL_law_619 (by decide) rfl ?_
  refine E_iadd 621 dL_law_620 rfl ?_
  refine E_ialdX 622 dL_law_621 c1 rfl ?_
  refine E_callV (as := [(0, ((g.2.2.2.2.2 (w32 (x3 + 1)).toNat).toInt))]) 625 dL_law_622 cf_X12_left mw_1630 mw_1631 mw_1632 ac_88 (by decide) cl_X12 rfl rfl (Nat.le_of_ble_eq_true rfl) (Nat.le_of_ble_eq_true rfl) ⟨Nat.le_refl _, Nat.le_refl _⟩ rfl (w.mono (fun r5 σ4 w => ?_))
  show XX g true (d + 1) P_L_law 625 [(2, 100002), (2, 0), (2, 88), (0, x3)] [(1, r5), (1, r3)] 136 σ4 136 Q
  refine E_lcmp 626 dL_law_625 rfl ?_
  refine E_if_eq 629 938 dL_law_626 rfl rfl (fun h => ?_) (fun h => ?_)
  · have w := w.1 ((lc_eq _ _).mp h)
    with_reducible exact w
  · have w := w.2 ((lc_ne _ _).mp h)
    refine E_iconst 630 dL_law_629 (by decide) rfl ?_
    exact E_zret dL_law_630 rfl rfl (Or.inl rfl) w
theorem B_L_law_631 {g : PG} {d : Nat} {σ : PS} {Q : Int → PS → Prop} {x3 : Int} (w : (0 ≤ w32 (x3 + 1) ∧ w32 (x3 + 1) < (g.2.2.2.2.1 : Int)) ∧ (0 ≤ w32 (x3 + 2) ∧ w32 (x3 + 2) < (g.2.2.2.2.1 : Int)) ∧ XX g true d P_X11_ahead 0 [(2, 0), (0, ((g.2.2.2.2.2 (w32 (x3 + 1)).toNat).toInt)), (0, ((g.2.2.2.2.2 (w32 (x3 + 2)).toNat).toInt))] [] 136 σ 136 (fun r4 σ3 => XX g true d P_X12_ahead 0 [(2, 88), (0, ((g.2.2.2.2.2 (w32 (x3 + 1)).toNat).toInt)), (0, ((g.2.2.2.2.2 (w32 (x3 + 2)).toNat).toInt)), (9, 0), (9, 0)] [] 136 σ3 136 (fun r6 σ5 => ((r4 = r6 → (XX g true (d + 1) P_L_law 938 [(2, 100002), (2, 0), (2, 88), (0, x3)] [] 136 σ5 136 Q)) ∧ (r4 ≠ r6 → Q 0 σ5))))) : XX g true (d + 1) P_L_law 631 [(2, 100002), (2, 0), (2, 88), (0, x3)] [] 136 σ 136 Q := by
  refine E_aload_n 632 dL_law_631 rfl (ac_0.bnd) rfl ?_
  refine E_aload_nX 633 dL_law_632 rfl rfl ?_
  refine E_iload_n 634 dL_law_633 rfl rfl ?_
  refine E_iconst 635 dL_law_634 (by decide) rfl ?_
  refine E_iadd 636 dL_law_635 rfl ?_
  obtain ⟨c1, w⟩ := w
  refine E_ialdX 637 dL_law_636 c1 rfl ?_
  refine E_aload_nX 638 dL_law_637 rfl rfl ?_
  refine E_iload_n 639 dL_law_638 rfl rfl ?_
  refine E_iconst 640 dL_law_639 (by decide) rfl ?_
  refine E_iadd 641 dL_law_640 rfl ?_
  obtain ⟨c2, w⟩ := w
  refine E_ialdX 642 dL_law_641 c2 rfl ?_
  refine E_callV (as := [(0, ((g.2.2.2.2.2 (w32 (x3 + 1)).toNat).toInt)), (0, ((g.2.2.2.2.2 (w32 (x3 + 2)).toNat).toInt))]) 645 dL_law_642 cf_X11_ahead mw_979 mw_980 mw_981 ac_0 (by decide) cl_X11 rfl rfl (Nat.le_of_ble_eq_true rfl) (Nat.le_of_ble_eq_true rfl) ⟨Nat.le_refl _, Nat.le_refl _⟩ rfl (w.mono (fun r4 σ3 w => ?_))
  show XX g true (d + 1) P_L_law 645 [(2, 100002), (2, 0), (2, 88), (0, x3)] [(0, r4)] 136 σ3 136 Q
  refine E_aload_n 646 dL_law_645 rfl (ac_88.bnd) rfl ?_
  refine E_aload_nX 647 dL_law_646 rfl rfl ?_
  refine E_iload_n 648 dL_law_647 rfl rfl ?_
  refine E_iconst 649 dL_law_648 (by decide) rfl ?_
  refine E_iadd 650 dL_law_649 rfl ?_
  refine E_ialdX 651 dL_law_650 c1 rfl ?_
  refine E_aload_nX 652 dL_law_651 rfl rfl ?_
  refine E_iload_n 653 dL_law_652 rfl rfl ?_
  refine E_iconst 654 dL_law_653 (by decide) rfl ?_
  refine E_iadd 655 dL_law_654 rfl ?_
  refine E_ialdX 656 dL_law_655 c2 rfl ?_
  refine E_callV (as := [(0, ((g.2.2.2.2.2 (w32 (x3 + 1)).toNat).toInt)), (0, ((g.2.2.2.2.2 (w32 (x3 + 2)).toNat).toInt))]) 659 dL_law_656 cf_X12_ahead mw_1654 mw_1655 mw_1656 ac_88 (by decide) cl_X12 rfl rfl (Nat.le_of_ble_eq_true rfl) (Nat.le_of_ble_eq_true rfl) ⟨Nat.le_refl _, Nat.le_refl _⟩ rfl (w.mono (fun r6 σ5 w => ?_))
  show XX g true (d + 1) P_L_law 659 [(2, 100002), (2, 0), (2, 88), (0, x3)] [(0, r6), (0, r4)] 136 σ5 136 Q
  refine E_icmp_eq 662 938 dL_law_659 rfl rfl (fun h => ?_) (fun h => ?_)
  · have w := w.1 h
    with_reducible exact w
  · have w := w.2 h
    refine E_iconst 663 dL_law_662 (by decide) rfl ?_
    exact E_zret dL_law_663 rfl rfl (Or.inl rfl) w
theorem B_L_law_664 {g : PG} {d : Nat} {σ : PS} {Q : Int → PS → Prop} {x3 : Int} (w : (0 ≤ w32 (x3 + 1) ∧ w32 (x3 + 1) < (g.2.2.2.2.1 : Int)) ∧ XX g true d P_X11_hold 0 [(2, 0), (0, ((g.2.2.2.2.2 (w32 (x3 + 1)).toNat).toInt))] [] 136 σ 136 (fun r3 σ2 => XX g true d P_X12_hold 0 [(2, 88), (0, ((g.2.2.2.2.2 (w32 (x3 + 1)).toNat).toInt)), (9, 0), (9, 0), (9, 0), (9, 0), (9, 0)] [] 136 σ2 136 (fun r5 σ4 => ((r3 = r5 → (XX g true (d + 1) P_L_law 938 [(2, 100002), (2, 0), (2, 88), (0, x3)] [] 136 σ4 136 Q)) ∧ (r3 ≠ r5 → Q 0 σ4))))) : XX g true (d + 1) P_L_law 664 [(2, 100002), (2, 0), (2, 88), (0, x3)] [] 136 σ 136 Q := by
  refine E_aload_n 665 dL_law_664 rfl (ac_0.bnd) rfl ?_
  refine E_aload_nX 666 dL_law_665 rfl rfl ?_
  refine E_iload_n 667 dL_law_666 rfl rfl ?_
  refine E_iconst 668 dL_law_667 (by decide) rfl ?_
  refine E_iadd 669 dL_law_668 rfl ?_
  obtain ⟨c1, w⟩ := w
  refine E_ialdX 670 dL_law_669 c1 rfl ?_
  refine E_callV (as := [(0, ((g.2.2.2.2.2 (w32 (x3 + 1)).toNat).toInt))]) 673 dL_law_670 cf_X11_hold mw_993 mw_994 mw_995 ac_0 (by decide) cl_X11 rfl rfl (Nat.le_of_ble_eq_true rfl) (Nat.le_of_ble_eq_true rfl) ⟨Nat.le_refl _, Nat.le_refl _⟩ rfl (w.mono (fun r3 σ2 w => ?_))
  show XX g true (d + 1) P_L_law 673 [(2, 100002), (2, 0), (2, 88), (0, x3)] [(1, r3)] 136 σ2 136 Q
  refine E_aload_n 674 dL_law_673 rfl (ac_88.bnd) rfl ?_
  refine E_aload_nX 675 dL_law_674 rfl rfl ?_
  refine E_iload_n 676 dL_law_675 rfl rfl ?_
  refine E_iconst 677 dL_law_676 (by decide) rfl ?_
  refine E_iadd 678 dL_law_677 rfl ?_
  refine E_ialdX 679 dL_law_678 c1 rfl ?_
  refine E_callV (as := [(0, ((g.2.2.2.2.2 (w32 (x3 + 1)).toNat).toInt))]) 682 dL_law_679 cf_X12_hold mw_1662 mw_1663 mw_1664 ac_88 (by decide) cl_X12 rfl rfl (Nat.le_of_ble_eq_true rfl) (Nat.le_of_ble_eq_true rfl) ⟨Nat.le_refl _, Nat.le_refl _⟩ rfl (w.mono (fun r5 σ4 w => ?_))
  show XX g true (d + 1) P_L_law 682 [(2, 100002), (2, 0), (2, 88), (0, x3)] [(1, r5), (1, r3)] 136 σ4 136 Q
  refine E_lcmp 683 dL_law_682 rfl ?_
  refine E_if_eq 686 938 dL_law_683 rfl rfl (fun h => ?_) (fun h => ?_)
  · have w := w.1 ((lc_eq _ _).mp h)
    with_reducible exact w
  · have w := w.2 ((lc_ne _ _).mp h)
    refine E_iconst 687 dL_law_686 (by decide) rfl ?_
    exact E_zret dL_law_687 rfl rfl (Or.inl rfl) w
theorem B_L_law_688 {g : PG} {d : Nat} {σ : PS} {Q : Int → PS → Prop} {x3 : Int} (w : (0 ≤ w32 (x3 + 1) ∧ w32 (x3 + 1) < (g.2.2.2.2.1 : Int)) ∧ XX g true d P_X11_which 0 [(2, 0), (0, ((g.2.2.2.2.2 (w32 (x3 + 1)).toNat).toInt))] [] 136 σ 136 (fun r3 σ2 => XX g true d P_X12_which 0 [(2, 88), (0, ((g.2.2.2.2.2 (w32 (x3 + 1)).toNat).toInt)), (9, 0), (9, 0), (9, 0), (9, 0), (9, 0), (9, 0)] [] 136 σ2 136 (fun r5 σ4 => ((r3 = r5 → (XX g true (d + 1) P_L_law 938 [(2, 100002), (2, 0), (2, 88), (0, x3)] [] 136 σ4 136 Q)) ∧ (r3 ≠ r5 → Q 0 σ4))))) : XX g true (d + 1) P_L_law 688 [(2, 100002), (2, 0), (2, 88), (0, x3)] [] 136 σ 136 Q := by
  refine E_aload_n 689 dL_law_688 rfl (ac_0.bnd) rfl ?_
  refine E_aload_nX 690 dL_law_689 rfl rfl ?_
  refine E_iload_n 691 dL_law_690 rfl rfl ?_
  refine E_iconst 692 dL_law_691 (by decide) rfl ?_
  refine E_iadd 693 dL_law_692 rfl ?_
  obtain ⟨c1, w⟩ := w
  refine E_ialdX 694 dL_law_693 c1 rfl ?_
  refine E_callV (as := [(0, ((g.2.2.2.2.2 (w32 (x3 + 1)).toNat).toInt))]) 697 dL_law_694 cf_X11_which mw_1009 mw_1010 mw_1011 ac_0 (by decide) cl_X11 rfl rfl (Nat.le_of_ble_eq_true rfl) (Nat.le_of_ble_eq_true rfl) ⟨Nat.le_refl _, Nat.le_refl _⟩ rfl (w.mono (fun r3 σ2 w => ?_))
  show XX g true (d + 1) P_L_law 697 [(2, 100002), (2, 0), (2, 88), (0, x3)] [(0, r3)] 136 σ2 136 Q
  refine E_aload_n 698 dL_law_697 rfl (ac_88.bnd) rfl ?_
  refine E_aload_nX 699 dL_law_698 rfl rfl ?_
  refine E_iload_n 700 dL_law_699 rfl rfl ?_
  refine E_iconst 701 dL_law_700 (by decide) rfl ?_
  refine E_iadd 702 dL_law_701 rfl ?_
  refine E_ialdX 703 dL_law_702 c1 rfl ?_
  refine E_callV (as := [(0, ((g.2.2.2.2.2 (w32 (x3 + 1)).toNat).toInt))]) 706 dL_law_703 cf_X12_which mw_1666 mw_1667 mw_1668 ac_88 (by decide) cl_X12 rfl rfl (Nat.le_of_ble_eq_true rfl) (Nat.le_of_ble_eq_true rfl) ⟨Nat.le_refl _, Nat.le_refl _⟩ rfl (w.mono (fun r5 σ4 w => ?_))
  show XX g true (d + 1) P_L_law 706 [(2, 100002), (2, 0), (2, 88), (0, x3)] [(0, r5), (0, r3)] 136 σ4 136 Q
  refine E_icmp_eq 709 938 dL_law_706 rfl rfl (fun h => ?_) (fun h => ?_)
  · have w := w.1 h
    with_reducible exact w
  · have w := w.2 h
    refine E_iconst 710 dL_law_709 (by decide) rfl ?_
    exact E_zret dL_law_710 rfl rfl (Or.inl rfl) w
theorem B_L_law_711 {g : PG} {d : Nat} {σ : PS} {Q : Int → PS → Prop} {x3 : Int} (w : (0 ≤ w32 (x3 + 1) ∧ w32 (x3 + 1) < (g.2.2.2.2.1 : Int)) ∧ XX g true d P_X11_where 0 [(2, 0), (0, ((g.2.2.2.2.2 (w32 (x3 + 1)).toNat).toInt))] [] 136 σ 136 (fun r3 σ2 => XX g true d P_X12_where 0 [(2, 88), (0, ((g.2.2.2.2.2 (w32 (x3 + 1)).toNat).toInt)), (9, 0), (9, 0), (9, 0), (9, 0), (9, 0), (9, 0), (9, 0)] [] 136 σ2 136 (fun r5 σ4 => ((r3 = r5 → (XX g true (d + 1) P_L_law 938 [(2, 100002), (2, 0), (2, 88), (0, x3)] [] 136 σ4 136 Q)) ∧ (r3 ≠ r5 → Q 0 σ4))))) : XX g true (d + 1) P_L_law 711 [(2, 100002), (2, 0), (2, 88), (0, x3)] [] 136 σ 136 Q := by
  refine E_aload_n 712 dL_law_711 rfl (ac_0.bnd) rfl ?_
  refine E_aload_nX 713 dL_law_712 rfl rfl ?_
  refine E_iload_n 714 dL_law_713 rfl rfl ?_
  refine E_iconst 715 dL_law_714 (by decide) rfl ?_
  refine E_iadd 716 dL_law_715 rfl ?_
  obtain ⟨c1, w⟩ := w
  refine E_ialdX 717 dL_law_716 c1 rfl ?_
  refine E_callV (as := [(0, ((g.2.2.2.2.2 (w32 (x3 + 1)).toNat).toInt))]) 720 dL_law_717 cf_X11_where mw_1029 mw_1030 mw_1031 ac_0 (by decide) cl_X11 rfl rfl (Nat.le_of_ble_eq_true rfl) (Nat.le_of_ble_eq_true rfl) ⟨Nat.le_refl _, Nat.le_refl _⟩ rfl (w.mono (fun r3 σ2 w => ?_))
  show XX g true (d + 1) P_L_law 720 [(2, 100002), (2, 0), (2, 88), (0, x3)] [(0, r3)] 136 σ2 136 Q
  refine E_aload_n 721 dL_law_720 rfl (ac_88.bnd) rfl ?_
  refine E_aload_nX 722 dL_law_721 rfl rfl ?_
  refine E_iload_n 723 dL_law_722 rfl rfl ?_
  refine E_iconst 724 dL_law_723 (by decide) rfl ?_
  refine E_iadd 725 dL_law_724 rfl ?_
  refine E_ialdX 726 dL_law_725 c1 rfl ?_
  refine E_callV (as := [(0, ((g.2.2.2.2.2 (w32 (x3 + 1)).toNat).toInt))]) 729 dL_law_726 cf_X12_where mw_1678 mw_1679 mw_1680 ac_88 (by decide) cl_X12 rfl rfl (Nat.le_of_ble_eq_true rfl) (Nat.le_of_ble_eq_true rfl) ⟨Nat.le_refl _, Nat.le_refl _⟩ rfl (w.mono (fun r5 σ4 w => ?_))
  show XX g true (d + 1) P_L_law 729 [(2, 100002), (2, 0), (2, 88), (0, x3)] [(0, r5), (0, r3)] 136 σ4 136 Q
  refine E_icmp_eq 732 938 dL_law_729 rfl rfl (fun h => ?_) (fun h => ?_)
  · have w := w.1 h
    with_reducible exact w
  · have w := w.2 h
    refine E_iconst 733 dL_law_732 (by decide) rfl ?_
    exact E_zret dL_law_733 rfl rfl (Or.inl rfl) w
theorem B_L_law_734 {g : PG} {d : Nat} {σ : PS} {Q : Int → PS → Prop} {x3 : Int} (w : (0 ≤ w32 (x3 + 1) ∧ w32 (x3 + 1) < (g.2.2.2.2.1 : Int)) ∧ (0 ≤ w32 (x3 + 2) ∧ w32 (x3 + 2) < (g.2.2.2.2.1 : Int)) ∧ XX g true d P_X11_stocks 0 [(2, 0), (0, ((g.2.2.2.2.2 (w32 (x3 + 1)).toNat).toInt)), (0, ((g.2.2.2.2.2 (w32 (x3 + 2)).toNat).toInt))] [] 136 σ 136 (fun r4 σ3 => XX g true d P_X12_stocks 0 [(2, 88), (0, ((g.2.2.2.2.2 (w32 (x3 + 1)).toNat).toInt)), (0, ((g.2.2.2.2.2 (w32 (x3 + 2)).toNat).toInt)), (9, 0), (9, 0), (9, 0), (9, 0), (9, 0), (9, 0)] [] 136 σ3 136 (fun r6 σ5 => ((r4 = r6 → (XX g true (d + 1) P_L_law 938 [(2, 100002), (2, 0), (2, 88), (0, x3)] [] 136 σ5 136 Q)) ∧ (r4 ≠ r6 → Q 0 σ5))))) : XX g true (d + 1) P_L_law 734 [(2, 100002), (2, 0), (2, 88), (0, x3)] [] 136 σ 136 Q := by
  refine E_aload_n 735 dL_law_734 rfl (ac_0.bnd) rfl ?_
  refine E_aload_nX 736 dL_law_735 rfl rfl ?_
  refine E_iload_n 737 dL_law_736 rfl rfl ?_
  refine E_iconst 738 dL_law_737 (by decide) rfl ?_
  refine E_iadd 739 dL_law_738 rfl ?_
  obtain ⟨c1, w⟩ := w
  refine E_ialdX 740 dL_law_739 c1 rfl ?_
  refine E_aload_nX 741 dL_law_740 rfl rfl ?_
  refine E_iload_n 742 dL_law_741 rfl rfl ?_
  refine E_iconst 743 dL_law_742 (by decide) rfl ?_
  refine E_iadd 744 dL_law_743 rfl ?_
  obtain ⟨c2, w⟩ := w
  refine E_ialdX 745 dL_law_744 c2 rfl ?_
  refine E_callV (as := [(0, ((g.2.2.2.2.2 (w32 (x3 + 1)).toNat).toInt)), (0, ((g.2.2.2.2.2 (w32 (x3 + 2)).toNat).toInt))]) 748 dL_law_745 cf_X11_stocks mw_1050 mw_1051 mw_1052 ac_0 (by decide) cl_X11 rfl rfl (Nat.le_of_ble_eq_true rfl) (Nat.le_of_ble_eq_true rfl) ⟨Nat.le_refl _, Nat.le_refl _⟩ rfl (w.mono (fun r4 σ3 w => ?_))
  show XX g true (d + 1) P_L_law 748 [(2, 100002), (2, 0), (2, 88), (0, x3)] [(0, r4)] 136 σ3 136 Q
  refine E_aload_n 749 dL_law_748 rfl (ac_88.bnd) rfl ?_
  refine E_aload_nX 750 dL_law_749 rfl rfl ?_
  refine E_iload_n 751 dL_law_750 rfl rfl ?_
  refine E_iconst 752 dL_law_751 (by decide) rfl ?_
  refine E_iadd 753 dL_law_752 rfl ?_
  refine E_ialdX 754 dL_law_753 c1 rfl ?_
  refine E_aload_nX 755 dL_law_754 rfl rfl ?_
  refine E_iload_n 756 dL_law_755 rfl rfl ?_
  refine E_iconst 757 dL_law_756 (by decide) rfl ?_
  refine E_iadd 758 dL_law_757 rfl ?_
  refine E_ialdX 759 dL_law_758 c2 rfl ?_
  refine E_callV (as := [(0, ((g.2.2.2.2.2 (w32 (x3 + 1)).toNat).toInt)), (0, ((g.2.2.2.2.2 (w32 (x3 + 2)).toNat).toInt))]) 762 dL_law_759 cf_X12_stocks mw_1690 mw_1691 mw_1692 ac_88 (by decide) cl_X12 rfl rfl (Nat.le_of_ble_eq_true rfl) (Nat.le_of_ble_eq_true rfl) ⟨Nat.le_refl _, Nat.le_refl _⟩ rfl (w.mono (fun r6 σ5 w => ?_))
  show XX g true (d + 1) P_L_law 762 [(2, 100002), (2, 0), (2, 88), (0, x3)] [(0, r6), (0, r4)] 136 σ5 136 Q
  refine E_icmp_eq 765 938 dL_law_762 rfl rfl (fun h => ?_) (fun h => ?_)
  · have w := w.1 h
    with_reducible exact w
  · have w := w.2 h
    refine E_iconst 766 dL_law_765 (by decide) rfl ?_
    exact E_zret dL_law_766 rfl rfl (Or.inl rfl) w
theorem B_L_law_767 {g : PG} {d : Nat} {σ : PS} {Q : Int → PS → Prop} {x3 : Int} (w : (0 ≤ w32 (x3 + 1) ∧ w32 (x3 + 1) < (g.2.2.2.2.1 : Int)) ∧ (0 ≤ w32 (x3 + 2) ∧ w32 (x3 + 2) < (g.2.2.2.2.1 : Int)) ∧ (0 ≤ w32 (x3 + 3) ∧ w32 (x3 + 3) < (g.2.2.2.2.1 : Int)) ∧ (0 ≤ w32 (x3 + 4) ∧ w32 (x3 + 4) < (g.2.2.2.2.1 : Int)) ∧ XX g true d P_X11_thought 0 [(2, 0), (0, ((g.2.2.2.2.2 (w32 (x3 + 1)).toNat).toInt)), (0, ((g.2.2.2.2.2 (w32 (x3 + 2)).toNat).toInt)), (0, ((g.2.2.2.2.2 (w32 (x3 + 3)).toNat).toInt)), (0, ((g.2.2.2.2.2 (w32 (x3 + 4)).toNat).toInt))] [] 136 σ 136 (fun r6 σ5 => XX g true d P_X12_thought 0 [(2, 88), (0, ((g.2.2.2.2.2 (w32 (x3 + 1)).toNat).toInt)), (0, ((g.2.2.2.2.2 (w32 (x3 + 2)).toNat).toInt)), (0, ((g.2.2.2.2.2 (w32 (x3 + 3)).toNat).toInt)), (0, ((g.2.2.2.2.2 (w32 (x3 + 4)).toNat).toInt))] [] 136 σ5 136 (fun r8 σ7 => ((r6 = r8 → (XX g true (d + 1) P_L_law 938 [(2, 100002), (2, 0), (2, 88), (0, x3)] [] 136 σ7 136 Q)) ∧ (r6 ≠ r8 → Q 0 σ7))))) : XX g true (d + 1) P_L_law 767 [(2, 100002), (2, 0), (2, 88), (0, x3)] [] 136 σ 136 Q := by
  refine E_aload_n 768 dL_law_767 rfl (ac_0.bnd) rfl ?_
  refine E_aload_nX 769 dL_law_768 rfl rfl ?_
  refine E_iload_n 770 dL_law_769 rfl rfl ?_
  refine E_iconst 771 dL_law_770 (by decide) rfl ?_
  refine E_iadd 772 dL_law_771 rfl ?_
  obtain ⟨c1, w⟩ := w
  refine E_ialdX 773 dL_law_772 c1 rfl ?_
  refine E_aload_nX 774 dL_law_773 rfl rfl ?_
  refine E_iload_n 775 dL_law_774 rfl rfl ?_
  refine E_iconst 776 dL_law_775 (by decide) rfl ?_
  refine E_iadd 777 dL_law_776 rfl ?_
  obtain ⟨c2, w⟩ := w
  refine E_ialdX 778 dL_law_777 c2 rfl ?_
  refine E_aload_nX 779 dL_law_778 rfl rfl ?_
  refine E_iload_n 780 dL_law_779 rfl rfl ?_
  refine E_iconst 781 dL_law_780 (by decide) rfl ?_
  refine E_iadd 782 dL_law_781 rfl ?_
  obtain ⟨c3, w⟩ := w
  refine E_ialdX 783 dL_law_782 c3 rfl ?_
  refine E_aload_nX 784 dL_law_783 rfl rfl ?_
  refine E_iload_n 785 dL_law_784 rfl rfl ?_
  refine E_iconst 786 dL_law_785 (by decide) rfl ?_
  refine E_iadd 787 dL_law_786 rfl ?_
  obtain ⟨c4, w⟩ := w
  refine E_ialdX 788 dL_law_787 c4 rfl ?_
  refine E_callV (as := [(0, ((g.2.2.2.2.2 (w32 (x3 + 1)).toNat).toInt)), (0, ((g.2.2.2.2.2 (w32 (x3 + 2)).toNat).toInt)), (0, ((g.2.2.2.2.2 (w32 (x3 + 3)).toNat).toInt)), (0, ((g.2.2.2.2.2 (w32 (x3 + 4)).toNat).toInt))]) 791 dL_law_788 cf_X11_thought mw_1062 mw_1063 mw_1064 ac_0 (by decide) cl_X11 rfl rfl (Nat.le_of_ble_eq_true rfl) (Nat.le_of_ble_eq_true rfl) ⟨Nat.le_refl _, Nat.le_refl _⟩ rfl (w.mono (fun r6 σ5 w => ?_))
  show XX g true (d + 1) P_L_law 791 [(2, 100002), (2, 0), (2, 88), (0, x3)] [(0, r6)] 136 σ5 136 Q
  refine E_aload_n 792 dL_law_791 rfl (ac_88.bnd) rfl ?_
  refine E_aload_nX 793 dL_law_792 rfl rfl ?_
  refine E_iload_n 794 dL_law_793 rfl rfl ?_
  refine E_iconst 795 dL_law_794 (by decide) rfl ?_
  refine E_iadd 796 dL_law_795 rfl ?_
  refine E_ialdX 797 dL_law_796 c1 rfl ?_
  refine E_aload_nX 798 dL_law_797 rfl rfl ?_
  refine E_iload_n 799 dL_law_798 rfl rfl ?_
  refine E_iconst 800 dL_law_799 (by decide) rfl ?_
  refine E_iadd 801 dL_law_800 rfl ?_
  refine E_ialdX 802 dL_law_801 c2 rfl ?_
  refine E_aload_nX 803 dL_law_802 rfl rfl ?_
  refine E_iload_n 804 dL_law_803 rfl rfl ?_
  refine E_iconst 805 dL_law_804 (by decide) rfl ?_
  refine E_iadd 806 dL_law_805 rfl ?_
  refine E_ialdX 807 dL_law_806 c3 rfl ?_
  refine E_aload_nX 808 dL_law_807 rfl rfl ?_
  refine E_iload_n 809 dL_law_808 rfl rfl ?_
  refine E_iconst 810 dL_law_809 (by decide) rfl ?_
  refine E_iadd 811 dL_law_810 rfl ?_
  refine E_ialdX 812 dL_law_811 c4 rfl ?_
  refine E_callV (as := [(0, ((g.2.2.2.2.2 (w32 (x3 + 1)).toNat).toInt)), (0, ((g.2.2.2.2.2 (w32 (x3 + 2)).toNat).toInt)), (0, ((g.2.2.2.2.2 (w32 (x3 + 3)).toNat).toInt)), (0, ((g.2.2.2.2.2 (w32 (x3 + 4)).toNat).toInt))]) 815 dL_law_812 cf_X12_thought mw_1694 mw_1695 mw_1696 ac_88 (by decide) cl_X12 rfl rfl (Nat.le_of_ble_eq_true rfl) (Nat.le_of_ble_eq_true rfl) ⟨Nat.le_refl _, Nat.le_refl _⟩ rfl (w.mono (fun r8 σ7 w => ?_))
  show XX g true (d + 1) P_L_law 815 [(2, 100002), (2, 0), (2, 88), (0, x3)] [(0, r8), (0, r6)] 136 σ7 136 Q
  refine E_icmp_eq 818 938 dL_law_815 rfl rfl (fun h => ?_) (fun h => ?_)
  · have w := w.1 h
    with_reducible exact w
  · have w := w.2 h
    refine E_iconst 819 dL_law_818 (by decide) rfl ?_
    exact E_zret dL_law_819 rfl rfl (Or.inl rfl) w
theorem B_L_law_820 {g : PG} {d : Nat} {σ : PS} {Q : Int → PS → Prop} {x3 : Int} (w : (0 ≤ w32 (x3 + 1) ∧ w32 (x3 + 1) < (g.2.2.2.2.1 : Int)) ∧ (0 ≤ w32 (x3 + 2) ∧ w32 (x3 + 2) < (g.2.2.2.2.1 : Int)) ∧ XX g true d P_X11_often 0 [(2, 0), (0, ((g.2.2.2.2.2 (w32 (x3 + 1)).toNat).toInt)), (0, ((g.2.2.2.2.2 (w32 (x3 + 2)).toNat).toInt))] [] 136 σ 136 (fun r4 σ3 => XX g true d P_X12_often 0 [(2, 88), (0, ((g.2.2.2.2.2 (w32 (x3 + 1)).toNat).toInt)), (0, ((g.2.2.2.2.2 (w32 (x3 + 2)).toNat).toInt)), (9, 0), (9, 0), (9, 0)] [] 136 σ3 136 (fun r6 σ5 => ((r4 = r6 → (XX g true (d + 1) P_L_law 938 [(2, 100002), (2, 0), (2, 88), (0, x3)] [] 136 σ5 136 Q)) ∧ (r4 ≠ r6 → Q 0 σ5))))) : XX g true (d + 1) P_L_law 820 [(2, 100002), (2, 0), (2, 88), (0, x3)] [] 136 σ 136 Q := by
  refine E_aload_n 821 dL_law_820 rfl (ac_0.bnd) rfl ?_
  refine E_aload_nX 822 dL_law_821 rfl rfl ?_
  refine E_iload_n 823 dL_law_822 rfl rfl ?_
  refine E_iconst 824 dL_law_823 (by decide) rfl ?_
  refine E_iadd 825 dL_law_824 rfl ?_
  obtain ⟨c1, w⟩ := w
  refine E_ialdX 826 dL_law_825 c1 rfl ?_
  refine E_aload_nX 827 dL_law_826 rfl rfl ?_
  refine E_iload_n 828 dL_law_827 rfl rfl ?_
  refine E_iconst 829 dL_law_828 (by decide) rfl ?_
  refine E_iadd 830 dL_law_829 rfl ?_
  obtain ⟨c2, w⟩ := w
  refine E_ialdX 831 dL_law_830 c2 rfl ?_
  refine E_callV (as := [(0, ((g.2.2.2.2.2 (w32 (x3 + 1)).toNat).toInt)), (0, ((g.2.2.2.2.2 (w32 (x3 + 2)).toNat).toInt))]) 834 dL_law_831 cf_X11_often mw_1074 mw_1075 mw_1076 ac_0 (by decide) cl_X11 rfl rfl (Nat.le_of_ble_eq_true rfl) (Nat.le_of_ble_eq_true rfl) ⟨Nat.le_refl _, Nat.le_refl _⟩ rfl (w.mono (fun r4 σ3 w => ?_))
  show XX g true (d + 1) P_L_law 834 [(2, 100002), (2, 0), (2, 88), (0, x3)] [(0, r4)] 136 σ3 136 Q
  refine E_aload_n 835 dL_law_834 rfl (ac_88.bnd) rfl ?_
  refine E_aload_nX 836 dL_law_835 rfl rfl ?_
  refine E_iload_n 837 dL_law_836 rfl rfl ?_
  refine E_iconst 838 dL_law_837 (by decide) rfl ?_
  refine E_iadd 839 dL_law_838 rfl ?_
  refine E_ialdX 840 dL_law_839 c1 rfl ?_
  refine E_aload_nX 841 dL_law_840 rfl rfl ?_
  refine E_iload_n 842 dL_law_841 rfl rfl ?_
  refine E_iconst 843 dL_law_842 (by decide) rfl ?_
  refine E_iadd 844 dL_law_843 rfl ?_
  refine E_ialdX 845 dL_law_844 c2 rfl ?_
  refine E_callV (as := [(0, ((g.2.2.2.2.2 (w32 (x3 + 1)).toNat).toInt)), (0, ((g.2.2.2.2.2 (w32 (x3 + 2)).toNat).toInt))]) 848 dL_law_845 cf_X12_often mw_1710 mw_1711 mw_1712 ac_88 (by decide) cl_X12 rfl rfl (Nat.le_of_ble_eq_true rfl) (Nat.le_of_ble_eq_true rfl) ⟨Nat.le_refl _, Nat.le_refl _⟩ rfl (w.mono (fun r6 σ5 w => ?_))
  show XX g true (d + 1) P_L_law 848 [(2, 100002), (2, 0), (2, 88), (0, x3)] [(0, r6), (0, r4)] 136 σ5 136 Q
  refine E_icmp_eq 851 938 dL_law_848 rfl rfl (fun h => ?_) (fun h => ?_)
  · have w := w.1 h
    with_reducible exact w
  · have w := w.2 h
    refine E_iconst 852 dL_law_851 (by decide) rfl ?_
    exact E_zret dL_law_852 rfl rfl (Or.inl rfl) w
theorem B_L_law_853 {g : PG} {d : Nat} {σ : PS} {Q : Int → PS → Prop} {x3 : Int} (w : (0 ≤ w32 (x3 + 1) ∧ w32 (x3 + 1) < (g.2.2.2.2.1 : Int)) ∧ XX g true d P_X11_nine 0 [(2, 0), (0, ((g.2.2.2.2.2 (w32 (x3 + 1)).toNat).toInt)), (9, 0), (9, 0), (9, 0), (9, 0), (9, 0)] [] 136 σ 136 (fun r3 σ2 => XX g true d P_X12_nine 0 [(2, 88), (0, ((g.2.2.2.2.2 (w32 (x3 + 1)).toNat).toInt)), (9, 0), (9, 0), (9, 0), (9, 0), (9, 0)] [] 136 σ2 136 (fun r5 σ4 => ((r3 = r5 → (XX g true (d + 1) P_L_law 938 [(2, 100002), (2, 0), (2, 88), (0, x3)] [] 136 σ4 136 Q)) ∧ (r3 ≠ r5 → Q 0 σ4))))) : XX g true (d + 1) P_L_law 853 [(2, 100002), (2, 0), (2, 88), (0, x3)] [] 136 σ 136 Q := by
  refine E_aload_n 854 dL_law_853 rfl (ac_0.bnd) rfl ?_
  refine E_aload_nX 855 dL_law_854 rfl rfl ?_
  refine E_iload_n 856 dL_law_855 rfl rfl ?_
  refine E_iconst 857 dL_law_856 (by decide) rfl ?_
  refine E_iadd 858 dL_law_857 rfl ?_
  obtain ⟨c1, w⟩ := w
  refine E_ialdX 859 dL_law_858 c1 rfl ?_
  refine E_callV (as := [(0, ((g.2.2.2.2.2 (w32 (x3 + 1)).toNat).toInt))]) 862 dL_law_859 cf_X11_nine mw_1086 mw_1087 mw_1088 ac_0 (by decide) cl_X11 rfl rfl (Nat.le_of_ble_eq_true rfl) (Nat.le_of_ble_eq_true rfl) ⟨Nat.le_refl _, Nat.le_refl _⟩ rfl (w.mono (fun r3 σ2 w => ?_))
  show XX g true (d + 1) P_L_law 862 [(2, 100002), (2, 0), (2, 88), (0, x3)] [(0, r3)] 136 σ2 136 Q
  refine E_aload_n 863 dL_law_862 rfl (ac_88.bnd) rfl ?_
  refine E_aload_nX 864 dL_law_863 rfl rfl ?_
  refine E_iload_n 865 dL_law_864 rfl rfl ?_
  refine E_iconst 866 dL_law_865 (by decide) rfl ?_
  refine E_iadd 867 dL_law_866 rfl ?_
  refine E_ialdX 868 dL_law_867 c1 rfl ?_
  refine E_callV (as := [(0, ((g.2.2.2.2.2 (w32 (x3 + 1)).toNat).toInt))]) 871 dL_law_868 cf_X12_nine mw_1714 mw_1715 mw_1716 ac_88 (by decide) cl_X12 rfl rfl (Nat.le_of_ble_eq_true rfl) (Nat.le_of_ble_eq_true rfl) ⟨Nat.le_refl _, Nat.le_refl _⟩ rfl (w.mono (fun r5 σ4 w => ?_))
  show XX g true (d + 1) P_L_law 871 [(2, 100002), (2, 0), (2, 88), (0, x3)] [(0, r5), (0, r3)] 136 σ4 136 Q
  refine E_icmp_eq 874 938 dL_law_871 rfl rfl (fun h => ?_) (fun h => ?_)
  · have w := w.1 h
    with_reducible exact w
  · have w := w.2 h
    refine E_iconst 875 dL_law_874 (by decide) rfl ?_
    exact E_zret dL_law_875 rfl rfl (Or.inl rfl) w
theorem B_L_law_876 {g : PG} {d : Nat} {σ : PS} {Q : Int → PS → Prop} {x3 : Int} (w : (0 ≤ w32 (x3 + 1) ∧ w32 (x3 + 1) < (g.2.2.2.2.1 : Int)) ∧ ((((g.2.2.2.2.2 (w32 (x3 + 1)).toNat).toInt) = 0 → XX g true d P_X11_image 0 [(2, 0), (0, 0)] [] 136 σ 136 (fun r3 σ2 => ((((g.2.2.2.2.2 (w32 (x3 + 1)).toNat).toInt) = 0 → XX g true d P_X12_image 0 [(2, 88), (0, 0), (9, 0)] [] 136 σ2 136 (fun r5 σ4 => ((r3 = r5 → (XX g true (d + 1) P_L_law 938 [(2, 100002), (2, 0), (2, 88), (0, x3)] [] 136 σ4 136 Q)) ∧ (r3 ≠ r5 → Q 0 σ4)))) ∧ (((g.2.2.2.2.2 (w32 (x3 + 1)).toNat).toInt) ≠ 0 → XX g true d P_X12_image 0 [(2, 88), (0, 1), (9, 0)] [] 136 σ2 136 (fun r7 σ6 => ((r3 = r7 → (XX g true (d + 1) P_L_law 938 [(2, 100002), (2, 0), (2, 88), (0, x3)] [] 136 σ6 136 Q)) ∧ (r3 ≠ r7 → Q 0 σ6))))))) ∧ (((g.2.2.2.2.2 (w32 (x3 + 1)).toNat).toInt) ≠ 0 → XX g true d P_X11_image 0 [(2, 0), (0, 1)] [] 136 σ 136 (fun r9 σ8 => ((((g.2.2.2.2.2 (w32 (x3 + 1)).toNat).toInt) = 0 → XX g true d P_X12_image 0 [(2, 88), (0, 0), (9, 0)] [] 136 σ8 136 (fun r11 σ10 => ((r9 = r11 → (XX g true (d + 1) P_L_law 938 [(2, 100002), (2, 0), (2, 88), (0, x3)] [] 136 σ10 136 Q)) ∧ (r9 ≠ r11 → Q 0 σ10)))) ∧ (((g.2.2.2.2.2 (w32 (x3 + 1)).toNat).toInt) ≠ 0 → XX g true d P_X12_image 0 [(2, 88), (0, 1), (9, 0)] [] 136 σ8 136 (fun r13 σ12 => ((r9 = r13 → (XX g true (d + 1) P_L_law 938 [(2, 100002), (2, 0), (2, 88), (0, x3)] [] 136 σ12 136 Q)) ∧ (r9 ≠ r13 → Q 0 σ12))))))))) : XX g true (d + 1) P_L_law 876 [(2, 100002), (2, 0), (2, 88), (0, x3)] [] 136 σ 136 Q := by
  refine E_aload_n 877 dL_law_876 rfl (ac_0.bnd) rfl ?_
  refine E_aload_nX 878 dL_law_877 rfl rfl ?_
  refine E_iload_n 879 dL_law_878 rfl rfl ?_
  refine E_iconst 880 dL_law_879 (by decide) rfl ?_
  refine E_iadd 881 dL_law_880 rfl ?_
  obtain ⟨c1, w⟩ := w
  refine E_ialdX 882 dL_law_881 c1 rfl ?_
  refine E_if_eq 885 889 dL_law_882 rfl rfl (fun h => ?_) (fun h => ?_)
  · have w := w.1 h
    refine E_iconst 890 dL_law_889 (by decide) rfl ?_
    refine E_callV (as := [(0, 0)]) 893 dL_law_890 cf_X11_image mw_1091 mw_1092 mw_1093 ac_0 (by decide) cl_X11 rfl rfl (Nat.le_of_ble_eq_true rfl) (Nat.le_of_ble_eq_true rfl) ⟨Nat.le_refl _, Nat.le_refl _⟩ rfl (w.mono (fun r3 σ2 w => ?_))
    show XX g true (d + 1) P_L_law 893 [(2, 100002), (2, 0), (2, 88), (0, x3)] [(0, r3)] 136 σ2 136 Q
    refine E_aload_n 894 dL_law_893 rfl (ac_88.bnd) rfl ?_
    refine E_aload_nX 895 dL_law_894 rfl rfl ?_
    refine E_iload_n 896 dL_law_895 rfl rfl ?_
    refine E_iconst 897 dL_law_896 (by decide) rfl ?_
    refine E_iadd 898 dL_law_897 rfl ?_
    refine E_ialdX 899 dL_law_898 c1 rfl ?_
    refine E_if_eq 902 906 dL_law_899 rfl rfl (fun h => ?_) (fun h => ?_)
    · have w := w.1 h
      refine E_iconst 907 dL_law_906 (by decide) rfl ?_
      refine E_callV (as := [(0, 0)]) 910 dL_law_907 cf_X12_image mw_1719 mw_1720 mw_1721 ac_88 (by decide) cl_X12 rfl rfl (Nat.le_of_ble_eq_true rfl) (Nat.le_of_ble_eq_true rfl) ⟨Nat.le_refl _, Nat.le_refl _⟩ rfl (w.mono (fun r5 σ4 w => ?_))
      show XX g true (d + 1) P_L_law 910 [(2, 100002), (2, 0), (2, 88), (0, x3)] [(0, r5), (0, r3)] 136 σ4 136 Q
      refine E_icmp_eq 913 938 dL_law_910 rfl rfl (fun h => ?_) (fun h => ?_)
      · have w := w.1 h
        with_reducible exact w
      · have w := w.2 h
        refine E_iconst 914 dL_law_913 (by decide) rfl ?_
        exact E_zret dL_law_914 rfl rfl (Or.inl rfl) w
    · have w := w.2 h
      refine E_iconst 903 dL_law_902 (by decide) rfl ?_
      refine E_goto 907 dL_law_903 rfl ?_
      refine E_callV (as := [(0, 1)]) 910 dL_law_907 cf_X12_image mw_1719 mw_1720 mw_1721 ac_88 (by decide) cl_X12 rfl rfl (Nat.le_of_ble_eq_true rfl) (Nat.le_of_ble_eq_true rfl) ⟨Nat.le_refl _, Nat.le_refl _⟩ rfl (w.mono (fun r7 σ6 w => ?_))
      show XX g true (d + 1) P_L_law 910 [(2, 100002), (2, 0), (2, 88), (0, x3)] [(0, r7), (0, r3)] 136 σ6 136 Q
      refine E_icmp_eq 913 938 dL_law_910 rfl rfl (fun h => ?_) (fun h => ?_)
      · have w := w.1 h
        with_reducible exact w
      · have w := w.2 h
        refine E_iconst 914 dL_law_913 (by decide) rfl ?_
        exact E_zret dL_law_914 rfl rfl (Or.inl rfl) w
  · have w := w.2 h
    refine E_iconst 886 dL_law_885 (by decide) rfl ?_
    refine E_goto 890 dL_law_886 rfl ?_
    refine E_callV (as := [(0, 1)]) 893 dL_law_890 cf_X11_image mw_1091 mw_1092 mw_1093 ac_0 (by decide) cl_X11 rfl rfl (Nat.le_of_ble_eq_true rfl) (Nat.le_of_ble_eq_true rfl) ⟨Nat.le_refl _, Nat.le_refl _⟩ rfl (w.mono (fun r9 σ8 w => ?_))
    show XX g true (d + 1) P_L_law 893 [(2, 100002), (2, 0), (2, 88), (0, x3)] [(0, r9)] 136 σ8 136 Q
    refine E_aload_n 894 dL_law_893 rfl (ac_88.bnd) rfl ?_
    refine E_aload_nX 895 dL_law_894 rfl rfl ?_
    refine E_iload_n 896 dL_law_895 rfl rfl ?_
    refine E_iconst 897 dL_law_896 (by decide) rfl ?_
    refine E_iadd 898 dL_law_897 rfl ?_
    refine E_ialdX 899 dL_law_898 c1 rfl ?_
    refine E_if_eq 902 906 dL_law_899 rfl rfl (fun h => ?_) (fun h => ?_)
    · have w := w.1 h
      refine E_iconst 907 dL_law_906 (by decide) rfl ?_
      refine E_callV (as := [(0, 0)]) 910 dL_law_907 cf_X12_image mw_1719 mw_1720 mw_1721 ac_88 (by decide) cl_X12 rfl rfl (Nat.le_of_ble_eq_true rfl) (Nat.le_of_ble_eq_true rfl) ⟨Nat.le_refl _, Nat.le_refl _⟩ rfl (w.mono (fun r11 σ10 w => ?_))
      show XX g true (d + 1) P_L_law 910 [(2, 100002), (2, 0), (2, 88), (0, x3)] [(0, r11), (0, r9)] 136 σ10 136 Q
      refine E_icmp_eq 913 938 dL_law_910 rfl rfl (fun h => ?_) (fun h => ?_)
      · have w := w.1 h
        with_reducible exact w
      · have w := w.2 h
        refine E_iconst 914 dL_law_913 (by decide) rfl ?_
        exact E_zret dL_law_914 rfl rfl (Or.inl rfl) w
    · have w := w.2 h
      refine E_iconst 903 dL_law_902 (by decide) rfl ?_
      refine E_goto 907 dL_law_903 rfl ?_
      refine E_callV (as := [(0, 1)]) 910 dL_law_907 cf_X12_image mw_1719 mw_1720 mw_1721 ac_88 (by decide) cl_X12 rfl rfl (Nat.le_of_ble_eq_true rfl) (Nat.le_of_ble_eq_true rfl) ⟨Nat.le_refl _, Nat.le_refl _⟩ rfl (w.mono (fun r13 σ12 w => ?_))
      show XX g true (d + 1) P_L_law 910 [(2, 100002), (2, 0), (2, 88), (0, x3)] [(0, r13), (0, r9)] 136 σ12 136 Q
      refine E_icmp_eq 913 938 dL_law_910 rfl rfl (fun h => ?_) (fun h => ?_)
      · have w := w.1 h
        with_reducible exact w
      · have w := w.2 h
        refine E_iconst 914 dL_law_913 (by decide) rfl ?_
        exact E_zret dL_law_914 rfl rfl (Or.inl rfl) w
theorem B_L_law_915 {g : PG} {d : Nat} {σ : PS} {Q : Int → PS → Prop} {x3 : Int} (w : (0 ≤ w32 (x3 + 1) ∧ w32 (x3 + 1) < (g.2.2.2.2.1 : Int)) ∧ XX g true d P_X11_look 0 [(2, 0), (0, ((g.2.2.2.2.2 (w32 (x3 + 1)).toNat).toInt))] [] 136 σ 136 (fun r3 σ2 => XX g true d P_X12_look 0 [(2, 88), (0, ((g.2.2.2.2.2 (w32 (x3 + 1)).toNat).toInt)), (9, 0), (9, 0)] [] 136 σ2 136 (fun r5 σ4 => ((r3 = r5 → (XX g true (d + 1) P_L_law 938 [(2, 100002), (2, 0), (2, 88), (0, x3)] [] 136 σ4 136 Q)) ∧ (r3 ≠ r5 → Q 0 σ4))))) : XX g true (d + 1) P_L_law 915 [(2, 100002), (2, 0), (2, 88), (0, x3)] [] 136 σ 136 Q := by
  refine E_aload_n 916 dL_law_915 rfl (ac_0.bnd) rfl ?_
  refine E_aload_nX 917 dL_law_916 rfl rfl ?_
  refine E_iload_n 918 dL_law_917 rfl rfl ?_
  refine E_iconst 919 dL_law_918 (by decide) rfl ?_
  refine E_iadd 920 dL_law_919 rfl ?_
  obtain ⟨c1, w⟩ := w
  refine E_ialdX 921 dL_law_920 c1 rfl ?_
  refine E_callV (as := [(0, ((g.2.2.2.2.2 (w32 (x3 + 1)).toNat).toInt))]) 924 dL_law_921 cf_X11_look mw_1101 mw_1102 mw_1103 ac_0 (by decide) cl_X11 rfl rfl (Nat.le_of_ble_eq_true rfl) (Nat.le_of_ble_eq_true rfl) ⟨Nat.le_refl _, Nat.le_refl _⟩ rfl (w.mono (fun r3 σ2 w => ?_))
  show XX g true (d + 1) P_L_law 924 [(2, 100002), (2, 0), (2, 88), (0, x3)] [(0, r3)] 136 σ2 136 Q
  refine E_aload_n 925 dL_law_924 rfl (ac_88.bnd) rfl ?_
  refine E_aload_nX 926 dL_law_925 rfl rfl ?_
  refine E_iload_n 927 dL_law_926 rfl rfl ?_
  refine E_iconst 928 dL_law_927 (by decide) rfl ?_
  refine E_iadd 929 dL_law_928 rfl ?_
  refine E_ialdX 930 dL_law_929 c1 rfl ?_
  refine E_callV (as := [(0, ((g.2.2.2.2.2 (w32 (x3 + 1)).toNat).toInt))]) 933 dL_law_930 cf_X12_look mw_1731 mw_1732 mw_1733 ac_88 (by decide) cl_X12 rfl rfl (Nat.le_of_ble_eq_true rfl) (Nat.le_of_ble_eq_true rfl) ⟨Nat.le_refl _, Nat.le_refl _⟩ rfl (w.mono (fun r5 σ4 w => ?_))
  show XX g true (d + 1) P_L_law 933 [(2, 100002), (2, 0), (2, 88), (0, x3)] [(0, r5), (0, r3)] 136 σ4 136 Q
  refine E_icmp_eq 936 938 dL_law_933 rfl rfl (fun h => ?_) (fun h => ?_)
  · have w := w.1 h
    with_reducible exact w
  · have w := w.2 h
    refine E_iconst 937 dL_law_936 (by decide) rfl ?_
    exact E_zret dL_law_937 rfl rfl (Or.inl rfl) w
theorem B_L_law_938 {g : PG} {d : Nat} {σ : PS} {Q : Int → PS → Prop} {x3 : Int} (w : (XX g true (d + 1) P_L_law 18 [(2, 100002), (2, 0), (2, 88), (0, w32 (x3 + 6))] [] 136 σ 136 Q)) : XX g true (d + 1) P_L_law 938 [(2, 100002), (2, 0), (2, 88), (0, x3)] [] 136 σ 136 Q := by
  refine E_iinc (ls' := [(2, 100002), (2, 0), (2, 88), (0, w32 (x3 + 6))]) 941 dL_law_938 (by decide) rfl rfl rfl ?_
  refine E_goto 18 dL_law_941 rfl ?_
  with_reducible exact w
