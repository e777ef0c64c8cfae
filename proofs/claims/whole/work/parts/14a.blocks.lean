/-! BLOCKS, printed by a program of ours: what each stretch of a method asks -/
theorem B_X0_goes_0 {g : PG} {d : Nat} {σ : PS} {Q : Int → PS → Prop} {x3 x4 x5 q1 q2 : Int} (hq1 : RowAt q1) (hq2 : LinAt q2) (w : XX g true d P_X0_name 0 [(2, 67), (2, q1), (0, x3), (0, x4), (0, x5), (9, 0)] [] 136 σ 136 (fun _ σ1 => XX g true d P_X0_firstOf 0 [(2, 67), (2, q2), (9, 0), (9, 0), (9, 0)] [] 136 σ1 136 (fun r4 σ3 => Q (imax 0 (imin 1000 r4)) σ3))) : XX g true (d + 1) P_X0_goes 0 [(2, 67), (2, q1), (2, q2), (0, x3), (0, x4), (0, x5)] [] 136 σ 136 Q := by
  refine E_aload_n 1 dX0_goes_0 rfl (ac_67.bnd) rfl ?_
  refine E_aload_n 2 dX0_goes_1 rfl (RowB hq1) rfl ?_
  refine E_iload_n 3 dX0_goes_2 rfl rfl ?_
  refine E_iload 5 dX0_goes_3 rfl rfl ?_
  refine E_iload 7 dX0_goes_5 rfl rfl ?_
  refine E_callV (as := [(2, q1), (0, x3), (0, x4), (0, x5)]) 10 dX0_goes_7 cf_X0_name mw_818 mw_820 mw_22 ac_67 (by decide) cl_X0 rfl rfl (Nat.le_of_ble_eq_true rfl) (Nat.le_of_ble_eq_true rfl) ⟨Nat.le_refl _, Nat.le_refl _⟩ rfl (w.mono (fun r2 σ1 w => ?_))
  show XX g true (d + 1) P_X0_goes 10 [(2, 67), (2, q1), (2, q2), (0, x3), (0, x4), (0, x5)] [] 136 σ1 136 Q
  refine E_iconst 11 dX0_goes_10 (by decide) rfl ?_
  refine E_sipush 14 dX0_goes_11 (by decide) rfl ?_
  refine E_aload_n 15 dX0_goes_14 rfl (ac_67.bnd) rfl ?_
  refine E_aload_n 16 dX0_goes_15 rfl (LinB hq2) rfl ?_
  refine E_callV (as := [(2, q2)]) 19 dX0_goes_16 cf_X0_firstOf mw_826 mw_828 mw_23 ac_67 (by decide) cl_X0 rfl rfl (Nat.le_of_ble_eq_true rfl) (Nat.le_of_ble_eq_true rfl) ⟨Nat.le_refl _, Nat.le_refl _⟩ rfl (w.mono (fun r4 σ3 w => ?_))
  show XX g true (d + 1) P_X0_goes 19 [(2, 67), (2, q1), (2, q2), (0, x3), (0, x4), (0, x5)] [(0, r4), (0, 1000), (0, 0)] 136 σ3 136 Q
  refine E_mmin 22 dX0_goes_19 mw_834 (Nat.le_of_ble_eq_true rfl) (Nat.le_refl _) rfl ?_
  refine E_mmax 25 dX0_goes_22 mw_837 (Nat.le_of_ble_eq_true rfl) (Nat.le_refl _) rfl ?_
  exact E_iret dX0_goes_25 rfl rfl w
theorem B_X0_urge_0 {g : PG} {d : Nat} {σ : PS} {Q : Int → PS → Prop} {x3 q1 q2 : Int} (hq1 : RowAt q1) (hq2 : LinAt q2) (w : XX g true d P_X11_besideIn 0 [(1, σ q1 5), (9, 0), (0, x3)] [] 136 σ 136 (fun r2 σ1 => XX g true d P_X0_name 0 [(2, 67), (2, q1), (0, x3), (0, r2), (0, 0), (9, 0)] [] 136 σ1 136 (fun _ σ3 => XX g true d P_X0_firstOf 0 [(2, 67), (2, q2), (9, 0), (9, 0), (9, 0)] [] 136 σ3 136 (fun r6 σ5 => Q r6 σ5)))) : XX g true (d + 1) P_X0_urge 0 [(2, 67), (2, q1), (2, q2), (0, x3)] [] 136 σ 136 Q := by
  refine E_aload_n 1 dX0_urge_0 rfl (ac_67.bnd) rfl ?_
  refine E_aload_n 2 dX0_urge_1 rfl (RowB hq1) rfl ?_
  refine E_iload_n 3 dX0_urge_2 rfl rfl ?_
  refine E_aload_n 4 dX0_urge_3 rfl (RowB hq1) rfl ?_
  refine E_get 5 7 dX0_urge_4 fl_X0_37 (RowF0 hq1) rfl (by decide) rfl rfl ?_
  refine E_iload_n 8 dX0_urge_7 rfl rfl ?_
  refine E_callS (as := [(1, σ q1 5), (0, x3)]) 11 dX0_urge_8 cf_X11_besideIn (Or.inr nst_X0_43) mw_812 rfl rfl (Nat.le_of_ble_eq_true rfl) (Nat.le_of_ble_eq_true rfl) ⟨Nat.le_refl _, Nat.le_refl _⟩ rfl (w.mono (fun r2 σ1 w => ?_))
  show XX g true (d + 1) P_X0_urge 11 [(2, 67), (2, q1), (2, q2), (0, x3)] [(0, r2), (0, x3), (2, q1), (2, 67)] 136 σ1 136 Q
  refine E_iconst 12 dX0_urge_11 (by decide) rfl ?_
  refine E_callV (as := [(2, q1), (0, x3), (0, r2), (0, 0)]) 15 dX0_urge_12 cf_X0_name mw_818 mw_820 mw_22 ac_67 (by decide) cl_X0 rfl rfl (Nat.le_of_ble_eq_true rfl) (Nat.le_of_ble_eq_true rfl) ⟨Nat.le_refl _, Nat.le_refl _⟩ rfl (w.mono (fun r4 σ3 w => ?_))
  show XX g true (d + 1) P_X0_urge 15 [(2, 67), (2, q1), (2, q2), (0, x3)] [] 136 σ3 136 Q
  refine E_aload_n 16 dX0_urge_15 rfl (ac_67.bnd) rfl ?_
  refine E_aload_n 17 dX0_urge_16 rfl (LinB hq2) rfl ?_
  refine E_callV (as := [(2, q2)]) 20 dX0_urge_17 cf_X0_firstOf mw_826 mw_828 mw_23 ac_67 (by decide) cl_X0 rfl rfl (Nat.le_of_ble_eq_true rfl) (Nat.le_of_ble_eq_true rfl) ⟨Nat.le_refl _, Nat.le_refl _⟩ rfl (w.mono (fun r6 σ5 w => ?_))
  show XX g true (d + 1) P_X0_urge 20 [(2, 67), (2, q1), (2, q2), (0, x3)] [(0, r6)] 136 σ5 136 Q
  exact E_iret dX0_urge_20 rfl rfl w
theorem B_X0_guess_0 {g : PG} {d : Nat} {σ : PS} {Q : Int → PS → Prop} {x3 q1 q2 : Int} (hq1 : RowAt q1) (hq2 : LinAt q2) (w : (0 ≤ x3 ∧ x3 < 60) ∧ ((σ (q1 + 3) x3 ≠ (-1) → XX g true d P_X11_bit 0 [(1, σ q1 6), (9, 0), (0, x3)] [] 136 σ 136 (fun r3 σ2 => ((r3 ≠ 1 → XX g true d P_X0_goes 0 [(2, 67), (2, q1), (2, q2), (0, x3), (0, 0), (0, 0)] [] 136 σ2 136 (fun r5 σ4 => ∀ y6, y6 = w32 (1000 - r5) → ∀ y7, y7 = σ4 (q1 + 3) x3 → (XX g true (d + 1) P_X0_guess 58 [(9, 0), (2, q1), (9, 0), (9, 0), (0, y6), (0, 1000), (0, y7)] [] 136 σ4 136 Q))) ∧ (r3 = 1 → Q 1000 σ2)))) ∧ (σ (q1 + 3) x3 = (-1) → Q 500 σ))) : XX g true (d + 1) P_X0_guess 0 [(2, 67), (2, q1), (2, q2), (0, x3), (9, 0), (9, 0), (9, 0)] [] 136 σ 136 Q := by
  refine E_aload_n 1 dX0_guess_0 rfl (RowB hq1) rfl ?_
  refine E_getL 4 dX0_guess_1 fl_X0_47 (RowF0 hq1) rfl (by decide) (RowL3 hq1) rfl ?_
  refine E_iload_n 5 dX0_guess_4 rfl rfl ?_
  obtain ⟨c1, w⟩ := w
  refine E_iald 6 dX0_guess_5 (RowF3 hq1) c1 rfl ?_
  refine E_iconst 7 dX0_guess_6 (by decide) rfl ?_
  refine E_icmp_ne 10 14 dX0_guess_7 rfl rfl (fun h => ?_) (fun h => ?_)
  · have w := w.1 h
    refine E_aload_n 15 dX0_guess_14 rfl (RowB hq1) rfl ?_
    refine E_get 6 18 dX0_guess_15 fl_X0_50 (RowF0 hq1) rfl (by decide) rfl rfl ?_
    refine E_iload_n 19 dX0_guess_18 rfl rfl ?_
    refine E_callS (as := [(1, σ q1 6), (0, x3)]) 22 dX0_guess_19 cf_X11_bit (Or.inr nst_X0_53) mw_809 rfl rfl (Nat.le_of_ble_eq_true rfl) (Nat.le_of_ble_eq_true rfl) ⟨Nat.le_refl _, Nat.le_refl _⟩ rfl (w.mono (fun r3 σ2 w => ?_))
    show XX g true (d + 1) P_X0_guess 22 [(2, 67), (2, q1), (2, q2), (0, x3), (9, 0), (9, 0), (9, 0)] [(0, r3)] 136 σ2 136 Q
    refine E_iconst 23 dX0_guess_22 (by decide) rfl ?_
    refine E_icmp_ne 26 30 dX0_guess_23 rfl rfl (fun h => ?_) (fun h => ?_)
    · have w := w.1 h
      refine E_sipush 33 dX0_guess_30 (by decide) rfl ?_
      refine E_aload_n 34 dX0_guess_33 rfl (ac_67.bnd) rfl ?_
      refine E_aload_n 35 dX0_guess_34 rfl (RowB hq1) rfl ?_
      refine E_aload_n 36 dX0_guess_35 rfl (LinB hq2) rfl ?_
      refine E_iload_n 37 dX0_guess_36 rfl rfl ?_
      refine E_iconst 38 dX0_guess_37 (by decide) rfl ?_
      refine E_iconst 39 dX0_guess_38 (by decide) rfl ?_
      refine E_callV (as := [(2, q1), (2, q2), (0, x3), (0, 0), (0, 0)]) 42 dX0_guess_39 cf_X0_goes mw_844 mw_815 mw_816 ac_67 (by decide) cl_X0 rfl rfl (Nat.le_of_ble_eq_true rfl) (Nat.le_of_ble_eq_true rfl) ⟨Nat.le_refl _, Nat.le_refl _⟩ rfl (w.mono (fun r5 σ4 w => ?_))
      show XX g true (d + 1) P_X0_guess 42 [(2, 67), (2, q1), (2, q2), (0, x3), (9, 0), (9, 0), (9, 0)] [(0, r5), (0, 1000)] 136 σ4 136 Q
      refine E_isub 43 dX0_guess_42 rfl ?_
      refine E_top (fun y6 hy6 => ?_)
      have w := w y6 hy6
      refine E_istore (ls' := [(2, 67), (2, q1), (2, q2), (0, x3), (0, y6), (9, 0), (9, 0)]) 45 dX0_guess_43 (by decide) rfl rfl ?_
      refine E_sipush 48 dX0_guess_45 (by decide) rfl ?_
      refine E_istore (ls' := [(2, 67), (2, q1), (2, q2), (0, x3), (0, y6), (0, 1000), (9, 0)]) 50 dX0_guess_48 (by decide) rfl rfl ?_
      refine E_aload_n 51 dX0_guess_50 rfl (RowB hq1) rfl ?_
      refine E_getL 54 dX0_guess_51 fl_X0_47 (RowF0 hq1) rfl (by decide) (RowL3 hq1) rfl ?_
      refine E_iload_n 55 dX0_guess_54 rfl rfl ?_
      refine E_iald 56 dX0_guess_55 (RowF3 hq1) c1 rfl ?_
      refine E_top (fun y7 hy7 => ?_)
      have w := w y7 hy7
      refine E_istore (ls' := [(2, 67), (2, q1), (2, q2), (0, x3), (0, y6), (0, 1000), (0, y7)]) 58 dX0_guess_56 (by decide) rfl rfl ?_
      refine XX.fg [0, 2, 3] [(9, 0), (2, q1), (9, 0), (9, 0), (0, y6), (0, 1000), (0, y7)] rfl ?_
      with_reducible exact w
    · have w := w.2 h
      refine E_sipush 29 dX0_guess_26 (by decide) rfl ?_
      exact E_iret dX0_guess_29 rfl rfl w
  · have w := w.2 h
    refine E_sipush 13 dX0_guess_10 (by decide) rfl ?_
    exact E_iret dX0_guess_13 rfl rfl w
theorem B_X0_guess_58 {g : PG} {d : Nat} {σ : PS} {Q : Int → PS → Prop} {x4 x5 x6 q1 q2 : Int} (hq1 : RowAt q1) (hq2 : LinAt q2) (w : ((σ q1 11 ≤ x6 → Q (w32 (1000 - x5)) σ) ∧ (x6 < σ q1 11 → ∀ y1, y1 = idiv (w32 (x5 * x4)) 1000 → (XX g true (d + 1) P_X0_guess 58 [(9, 0), (2, q1), (9, 0), (9, 0), (0, x4), (0, y1), (0, w32 (x6 + 1))] [] 136 σ 136 Q)))) : XX g true (d + 1) P_X0_guess 58 [(9, 0), (2, q1), (9, 0), (9, 0), (0, x4), (0, x5), (0, x6)] [] 136 σ 136 Q := by
  refine E_iload 60 dX0_guess_58 rfl rfl ?_
  refine E_aload_n 61 dX0_guess_60 rfl (RowB hq1) rfl ?_
  refine E_get 11 64 dX0_guess_61 fl_X0_60 (RowF0 hq1) rfl (by decide) rfl rfl ?_
  refine E_icmp_ge 67 84 dX0_guess_64 rfl rfl (fun h => ?_) (fun h => ?_)
  · have w := w.1 h
    refine E_sipush 87 dX0_guess_84 (by decide) rfl ?_
    refine E_iload 89 dX0_guess_87 rfl rfl ?_
    refine E_isub 90 dX0_guess_89 rfl ?_
    exact E_iret dX0_guess_90 rfl rfl w
  · have w := w.2 h
    refine E_iload 69 dX0_guess_67 rfl rfl ?_
    refine E_iload 71 dX0_guess_69 rfl rfl ?_
    refine E_imul 72 dX0_guess_71 rfl ?_
    refine E_sipush 75 dX0_guess_72 (by decide) rfl ?_
    refine E_idiv 76 dX0_guess_75 (by decide) rfl ?_
    refine E_top (fun y1 hy1 => ?_)
    have w := w y1 hy1
    refine E_istore (ls' := [(9, 0), (2, q1), (9, 0), (9, 0), (0, x4), (0, y1), (0, x6)]) 78 dX0_guess_76 (by decide) rfl rfl ?_
    refine E_iinc (ls' := [(9, 0), (2, q1), (9, 0), (9, 0), (0, x4), (0, y1), (0, w32 (x6 + 1))]) 81 dX0_guess_78 (by decide) rfl rfl rfl ?_
    refine E_goto 58 dX0_guess_81 rfl ?_
    with_reducible exact w
theorem B_X0_name_0 {g : PG} {d : Nat} {σ : PS} {Q : Int → PS → Prop} {x2 x3 x4 q1 : Int} (hq1 : RowAt q1) (w : ∀ y1, y1 = w32 ((σ q1 11) + x4) → (0 ≤ x2 ∧ x2 < 60) ∧ (0 ≤ σ (q1 + 1) x2 ∧ σ (q1 + 1) x2 < 6) ∧ XX g true d P_X11_bit 0 [(1, σ q1 5), (9, 0), (0, x2)] [] 136 (su (su (su (su (su (su (su (su (su σ 68 0 (σ (q1 + 5) (σ (q1 + 1) x2))) 68 1 (w32 ((σ (q1 + 2) x2) + x4))) 68 2 (σ (q1 + 1) x2)) 68 3 x3) 68 4 x2) 68 5 (σ q1 0)) 68 6 (σ (q1 + 7) 0)) 68 7 y1) 68 8 (iabs (w32 ((w32 ((w32 (2 * x2)) + 1)) - (σ q1 0))))) 136 (fun r5 σ4 => ((σ4 (q1 + 7) 1 ≤ 0 → ((σ4 (q1 + 3) x2 ≠ (-1) → Q 0 (su (su (su σ4 68 9 r5) 68 10 0) 68 11 (w32 (y1 - (σ4 (q1 + 3) x2))))) ∧ (σ4 (q1 + 3) x2 = (-1) → Q 0 (su (su (su σ4 68 9 r5) 68 10 0) 68 11 (w32 (y1 + 1)))))) ∧ (0 < σ4 (q1 + 7) 1 → σ4 (q1 + 7) 1 ≠ 0 ∧ ((σ4 (q1 + 3) x2 ≠ (-1) → Q 0 (su (su (su σ4 68 9 r5) 68 10 (irem (w32 (x2 + y1)) (σ4 (q1 + 7) 1))) 68 11 (w32 (y1 - (σ4 (q1 + 3) x2))))) ∧ (σ4 (q1 + 3) x2 = (-1) → Q 0 (su (su (su σ4 68 9 r5) 68 10 (irem (w32 (x2 + y1)) (σ4 (q1 + 7) 1))) 68 11 (w32 (y1 + 1))))))))) : XX g true (d + 1) P_X0_name 0 [(2, 67), (2, q1), (0, x2), (0, x3), (0, x4), (9, 0)] [] 136 σ 136 Q := by
  refine E_aload_n 1 dX0_name_0 rfl (RowB hq1) rfl ?_
  refine E_get 11 4 dX0_name_1 fl_X0_60 (RowF0 hq1) rfl (by decide) rfl rfl ?_
  refine E_iload 6 dX0_name_4 rfl rfl ?_
  refine E_iadd 7 dX0_name_6 rfl ?_
  refine E_top (fun y1 hy1 => ?_)
  have w := w y1 hy1
  refine E_istore (ls' := [(2, 67), (2, q1), (0, x2), (0, x3), (0, x4), (0, y1)]) 9 dX0_name_7 (by decide) rfl rfl ?_
  refine E_aload_n 10 dX0_name_9 rfl (ac_67.bnd) rfl ?_
  refine E_getL 13 dX0_name_10 fl_X0_11 ac_67 rfl (by decide) lay_67_0 rfl ?_
  refine E_iconst 14 dX0_name_13 (by decide) rfl ?_
  refine E_aload_n 15 dX0_name_14 rfl (RowB hq1) rfl ?_
  refine E_getL 18 dX0_name_15 fl_X0_64 (RowF0 hq1) rfl (by decide) (RowL7 hq1) rfl ?_
  refine E_aload_n 19 dX0_name_18 rfl (RowB hq1) rfl ?_
  refine E_getL 22 dX0_name_19 fl_X0_67 (RowF0 hq1) rfl (by decide) (RowL1 hq1) rfl ?_
  refine E_iload_n 23 dX0_name_22 rfl rfl ?_
  obtain ⟨c2, w⟩ := w
  refine E_iald 24 dX0_name_23 (RowF1 hq1) c2 rfl ?_
  obtain ⟨c3, w⟩ := w
  refine E_iald 25 dX0_name_24 (RowF5 hq1) c3 rfl ?_
  refine E_iast 26 dX0_name_25 ac_68 (by decide) rfl ?_
  refine E_aload_n 27 dX0_name_26 rfl (ac_67.bnd) rfl ?_
  refine E_getL 30 dX0_name_27 fl_X0_11 ac_67 rfl (by decide) lay_67_0 rfl ?_
  refine E_iconst 31 dX0_name_30 (by decide) rfl ?_
  refine E_aload_n 32 dX0_name_31 rfl (RowB hq1) rfl ?_
  refine E_getL 35 dX0_name_32 fl_X0_70 (RowF0 hq1) rfl (by decide) (RowL2 hq1) rfl ?_
  refine E_iload_n 36 dX0_name_35 rfl rfl ?_
  refine E_iald 37 dX0_name_36 (RowF2 hq1) c2 rfl ?_
  refine E_conv (su_ne (Or.inl (by have z0 := hq1; unfold RowAt at z0; omega))) ?_
  refine E_iload 39 dX0_name_37 rfl rfl ?_
  refine E_iadd 40 dX0_name_39 rfl ?_
  refine E_iast 41 dX0_name_40 ac_68 (by decide) rfl ?_
  refine E_aload_n 42 dX0_name_41 rfl (ac_67.bnd) rfl ?_
  refine E_getL 45 dX0_name_42 fl_X0_11 ac_67 rfl (by decide) lay_67_0 rfl ?_
  refine E_iconst 46 dX0_name_45 (by decide) rfl ?_
  refine E_aload_n 47 dX0_name_46 rfl (RowB hq1) rfl ?_
  refine E_getL 50 dX0_name_47 fl_X0_67 (RowF0 hq1) rfl (by decide) (RowL1 hq1) rfl ?_
  refine E_iload_n 51 dX0_name_50 rfl rfl ?_
  refine E_iald 52 dX0_name_51 (RowF1 hq1) c2 rfl ?_
  refine E_conv ((su_ne (Or.inl (by have z0 := hq1; unfold RowAt at z0; omega))).trans (su_ne (Or.inl (by have z0 := hq1; unfold RowAt at z0; omega)))) ?_
  refine E_iast 53 dX0_name_52 ac_68 (by decide) rfl ?_
  refine E_aload_n 54 dX0_name_53 rfl (ac_67.bnd) rfl ?_
  refine E_getL 57 dX0_name_54 fl_X0_11 ac_67 rfl (by decide) lay_67_0 rfl ?_
  refine E_iconst 58 dX0_name_57 (by decide) rfl ?_
  refine E_iload_n 59 dX0_name_58 rfl rfl ?_
  refine E_iast 60 dX0_name_59 ac_68 (by decide) rfl ?_
  refine E_aload_n 61 dX0_name_60 rfl (ac_67.bnd) rfl ?_
  refine E_getL 64 dX0_name_61 fl_X0_11 ac_67 rfl (by decide) lay_67_0 rfl ?_
  refine E_iconst 65 dX0_name_64 (by decide) rfl ?_
  refine E_iload_n 66 dX0_name_65 rfl rfl ?_
  refine E_iast 67 dX0_name_66 ac_68 (by decide) rfl ?_
  refine E_aload_n 68 dX0_name_67 rfl (ac_67.bnd) rfl ?_
  refine E_getL 71 dX0_name_68 fl_X0_11 ac_67 rfl (by decide) lay_67_0 rfl ?_
  refine E_iconst 72 dX0_name_71 (by decide) rfl ?_
  refine E_aload_n 73 dX0_name_72 rfl (RowB hq1) rfl ?_
  refine E_get 0 76 dX0_name_73 fl_X0_73 (RowF0 hq1) rfl (by decide) rfl rfl ?_
  refine E_conv ((su_ne (Or.inl (by have z0 := hq1; unfold RowAt at z0; omega))).trans ((su_ne (Or.inl (by have z0 := hq1; unfold RowAt at z0; omega))).trans ((su_ne (Or.inl (by have z0 := hq1; unfold RowAt at z0; omega))).trans ((su_ne (Or.inl (by have z0 := hq1; unfold RowAt at z0; omega))).trans (su_ne (Or.inl (by have z0 := hq1; unfold RowAt at z0; omega))))))) ?_
  refine E_iast 77 dX0_name_76 ac_68 (by decide) rfl ?_
  refine E_aload_n 78 dX0_name_77 rfl (ac_67.bnd) rfl ?_
  refine E_getL 81 dX0_name_78 fl_X0_11 ac_67 rfl (by decide) lay_67_0 rfl ?_
  refine E_bipush 83 dX0_name_81 (by decide) rfl ?_
  refine E_aload_n 84 dX0_name_83 rfl (RowB hq1) rfl ?_
  refine E_getL 87 dX0_name_84 fl_X0_76 (RowF0 hq1) rfl (by decide) (RowL9 hq1) rfl ?_
  refine E_iconst 88 dX0_name_87 (by decide) rfl ?_
  refine E_iald 89 dX0_name_88 (RowF7 hq1) (by decide) rfl ?_
  refine E_conv ((su_ne (Or.inl (by have z0 := hq1; unfold RowAt at z0; omega))).trans ((su_ne (Or.inl (by have z0 := hq1; unfold RowAt at z0; omega))).trans ((su_ne (Or.inl (by have z0 := hq1; unfold RowAt at z0; omega))).trans ((su_ne (Or.inl (by have z0 := hq1; unfold RowAt at z0; omega))).trans ((su_ne (Or.inl (by have z0 := hq1; unfold RowAt at z0; omega))).trans (su_ne (Or.inl (by have z0 := hq1; unfold RowAt at z0; omega)))))))) ?_
  refine E_iast 90 dX0_name_89 ac_68 (by decide) rfl ?_
  refine E_aload_n 91 dX0_name_90 rfl (ac_67.bnd) rfl ?_
  refine E_getL 94 dX0_name_91 fl_X0_11 ac_67 rfl (by decide) lay_67_0 rfl ?_
  refine E_bipush 96 dX0_name_94 (by decide) rfl ?_
  refine E_iload 98 dX0_name_96 rfl rfl ?_
  refine E_iast 99 dX0_name_98 ac_68 (by decide) rfl ?_
  refine E_aload_n 100 dX0_name_99 rfl (ac_67.bnd) rfl ?_
  refine E_getL 103 dX0_name_100 fl_X0_11 ac_67 rfl (by decide) lay_67_0 rfl ?_
  refine E_bipush 105 dX0_name_103 (by decide) rfl ?_
  refine E_iconst 106 dX0_name_105 (by decide) rfl ?_
  refine E_iload_n 107 dX0_name_106 rfl rfl ?_
  refine E_imul 108 dX0_name_107 rfl ?_
  refine E_iconst 109 dX0_name_108 (by decide) rfl ?_
  refine E_iadd 110 dX0_name_109 rfl ?_
  refine E_aload_n 111 dX0_name_110 rfl (RowB hq1) rfl ?_
  refine E_get 0 114 dX0_name_111 fl_X0_73 (RowF0 hq1) rfl (by decide) rfl rfl ?_
  refine E_conv ((su_ne (Or.inl (by have z0 := hq1; unfold RowAt at z0; omega))).trans ((su_ne (Or.inl (by have z0 := hq1; unfold RowAt at z0; omega))).trans ((su_ne (Or.inl (by have z0 := hq1; unfold RowAt at z0; omega))).trans ((su_ne (Or.inl (by have z0 := hq1; unfold RowAt at z0; omega))).trans ((su_ne (Or.inl (by have z0 := hq1; unfold RowAt at z0; omega))).trans ((su_ne (Or.inl (by have z0 := hq1; unfold RowAt at z0; omega))).trans ((su_ne (Or.inl (by have z0 := hq1; unfold RowAt at z0; omega))).trans (su_ne (Or.inl (by have z0 := hq1; unfold RowAt at z0; omega)))))))))) ?_
  refine E_isub 115 dX0_name_114 rfl ?_
  refine E_mabs 118 dX0_name_115 mw_822 (Nat.le_of_ble_eq_true rfl) (Nat.le_refl _) rfl ?_
  refine E_iast 119 dX0_name_118 ac_68 (by decide) rfl ?_
  refine E_aload_n 120 dX0_name_119 rfl (ac_67.bnd) rfl ?_
  refine E_getL 123 dX0_name_120 fl_X0_11 ac_67 rfl (by decide) lay_67_0 rfl ?_
  refine E_bipush 125 dX0_name_123 (by decide) rfl ?_
  refine E_aload_n 126 dX0_name_125 rfl (RowB hq1) rfl ?_
  refine E_get 5 129 dX0_name_126 fl_X0_37 (RowF0 hq1) rfl (by decide) rfl rfl ?_
  refine E_conv ((su_ne (Or.inl (by have z0 := hq1; unfold RowAt at z0; omega))).trans ((su_ne (Or.inl (by have z0 := hq1; unfold RowAt at z0; omega))).trans ((su_ne (Or.inl (by have z0 := hq1; unfold RowAt at z0; omega))).trans ((su_ne (Or.inl (by have z0 := hq1; unfold RowAt at z0; omega))).trans ((su_ne (Or.inl (by have z0 := hq1; unfold RowAt at z0; omega))).trans ((su_ne (Or.inl (by have z0 := hq1; unfold RowAt at z0; omega))).trans ((su_ne (Or.inl (by have z0 := hq1; unfold RowAt at z0; omega))).trans ((su_ne (Or.inl (by have z0 := hq1; unfold RowAt at z0; omega))).trans (su_ne (Or.inl (by have z0 := hq1; unfold RowAt at z0; omega))))))))))) ?_
  refine E_iload_n 130 dX0_name_129 rfl rfl ?_
  refine E_callS (as := [(1, σ q1 5), (0, x2)]) 133 dX0_name_130 cf_X11_bit (Or.inr nst_X0_53) mw_809 rfl rfl (Nat.le_of_ble_eq_true rfl) (Nat.le_of_ble_eq_true rfl) ⟨Nat.le_refl _, Nat.le_refl _⟩ rfl (w.mono (fun r5 σ4 w => ?_))
  show XX g true (d + 1) P_X0_name 133 [(2, 67), (2, q1), (0, x2), (0, x3), (0, x4), (0, y1)] [(0, r5), (0, 9), (2, 68)] 136 σ4 136 Q
  refine E_iast 134 dX0_name_133 ac_68 (by decide) rfl ?_
  refine E_aload_n 135 dX0_name_134 rfl (ac_67.bnd) rfl ?_
  refine E_getL 138 dX0_name_135 fl_X0_11 ac_67 rfl (by decide) lay_67_0 rfl ?_
  refine E_bipush 140 dX0_name_138 (by decide) rfl ?_
  refine E_aload_n 141 dX0_name_140 rfl (RowB hq1) rfl ?_
  refine E_getL 144 dX0_name_141 fl_X0_76 (RowF0 hq1) rfl (by decide) (RowL9 hq1) rfl ?_
  refine E_iconst 145 dX0_name_144 (by decide) rfl ?_
  refine E_iald 146 dX0_name_145 (RowF7 hq1) (by decide) rfl ?_
  refine E_conv (su_ne (Or.inl (by have z0 := hq1; unfold RowAt at z0; omega))) ?_
  refine E_if_le 149 163 dX0_name_146 rfl rfl (fun h => ?_) (fun h => ?_)
  · have w := w.1 h
    refine E_iconst 164 dX0_name_163 (by decide) rfl ?_
    refine E_iast 165 dX0_name_164 ac_68 (by decide) rfl ?_
    refine E_aload_n 166 dX0_name_165 rfl (ac_67.bnd) rfl ?_
    refine E_getL 169 dX0_name_166 fl_X0_11 ac_67 rfl (by decide) lay_67_0 rfl ?_
    refine E_bipush 171 dX0_name_169 (by decide) rfl ?_
    refine E_aload_n 172 dX0_name_171 rfl (RowB hq1) rfl ?_
    refine E_getL 175 dX0_name_172 fl_X0_47 (RowF0 hq1) rfl (by decide) (RowL3 hq1) rfl ?_
    refine E_iload_n 176 dX0_name_175 rfl rfl ?_
    refine E_iald 177 dX0_name_176 (RowF3 hq1) c2 rfl ?_
    refine E_conv ((su_ne (Or.inl (by have z0 := hq1; unfold RowAt at z0; omega))).trans (su_ne (Or.inl (by have z0 := hq1; unfold RowAt at z0; omega)))) ?_
    refine E_iconst 178 dX0_name_177 (by decide) rfl ?_
    refine E_icmp_ne 181 188 dX0_name_178 rfl rfl (fun h => ?_) (fun h => ?_)
    · have w := w.1 h
      refine E_iload 190 dX0_name_188 rfl rfl ?_
      refine E_aload_n 191 dX0_name_190 rfl (RowB hq1) rfl ?_
      refine E_getL 194 dX0_name_191 fl_X0_47 (RowF0 hq1) rfl (by decide) (RowL3 hq1) rfl ?_
      refine E_iload_n 195 dX0_name_194 rfl rfl ?_
      refine E_iald 196 dX0_name_195 (RowF3 hq1) c2 rfl ?_
      refine E_conv ((su_ne (Or.inl (by have z0 := hq1; unfold RowAt at z0; omega))).trans (su_ne (Or.inl (by have z0 := hq1; unfold RowAt at z0; omega)))) ?_
      refine E_isub 197 dX0_name_196 rfl ?_
      refine E_iast 198 dX0_name_197 ac_68 (by decide) rfl ?_
      exact E_vret dX0_name_198 rfl rfl w
    · have w := w.2 h
      refine E_iload 183 dX0_name_181 rfl rfl ?_
      refine E_iconst 184 dX0_name_183 (by decide) rfl ?_
      refine E_iadd 185 dX0_name_184 rfl ?_
      refine E_goto 197 dX0_name_185 rfl ?_
      refine E_iast 198 dX0_name_197 ac_68 (by decide) rfl ?_
      exact E_vret dX0_name_198 rfl rfl w
  · have w := w.2 h
    refine E_iload_n 150 dX0_name_149 rfl rfl ?_
    refine E_iload 152 dX0_name_150 rfl rfl ?_
    refine E_iadd 153 dX0_name_152 rfl ?_
    refine E_aload_n 154 dX0_name_153 rfl (RowB hq1) rfl ?_
    refine E_getL 157 dX0_name_154 fl_X0_76 (RowF0 hq1) rfl (by decide) (RowL9 hq1) rfl ?_
    refine E_iconst 158 dX0_name_157 (by decide) rfl ?_
    refine E_iald 159 dX0_name_158 (RowF7 hq1) (by decide) rfl ?_
    refine E_conv (su_ne (Or.inl (by have z0 := hq1; unfold RowAt at z0; omega))) ?_
    obtain ⟨c6, w⟩ := w
    refine E_irem 160 dX0_name_159 c6 rfl ?_
    refine E_goto 164 dX0_name_160 rfl ?_
    refine E_iast 165 dX0_name_164 ac_68 (by decide) rfl ?_
    refine E_aload_n 166 dX0_name_165 rfl (ac_67.bnd) rfl ?_
    refine E_getL 169 dX0_name_166 fl_X0_11 ac_67 rfl (by decide) lay_67_0 rfl ?_
    refine E_bipush 171 dX0_name_169 (by decide) rfl ?_
    refine E_aload_n 172 dX0_name_171 rfl (RowB hq1) rfl ?_
    refine E_getL 175 dX0_name_172 fl_X0_47 (RowF0 hq1) rfl (by decide) (RowL3 hq1) rfl ?_
    refine E_iload_n 176 dX0_name_175 rfl rfl ?_
    refine E_iald 177 dX0_name_176 (RowF3 hq1) c2 rfl ?_
    refine E_conv ((su_ne (Or.inl (by have z0 := hq1; unfold RowAt at z0; omega))).trans (su_ne (Or.inl (by have z0 := hq1; unfold RowAt at z0; omega)))) ?_
    refine E_iconst 178 dX0_name_177 (by decide) rfl ?_
    refine E_icmp_ne 181 188 dX0_name_178 rfl rfl (fun h => ?_) (fun h => ?_)
    · have w := w.1 h
      refine E_iload 190 dX0_name_188 rfl rfl ?_
      refine E_aload_n 191 dX0_name_190 rfl (RowB hq1) rfl ?_
      refine E_getL 194 dX0_name_191 fl_X0_47 (RowF0 hq1) rfl (by decide) (RowL3 hq1) rfl ?_
      refine E_iload_n 195 dX0_name_194 rfl rfl ?_
      refine E_iald 196 dX0_name_195 (RowF3 hq1) c2 rfl ?_
      refine E_conv ((su_ne (Or.inl (by have z0 := hq1; unfold RowAt at z0; omega))).trans (su_ne (Or.inl (by have z0 := hq1; unfold RowAt at z0; omega)))) ?_
      refine E_isub 197 dX0_name_196 rfl ?_
      refine E_iast 198 dX0_name_197 ac_68 (by decide) rfl ?_
      exact E_vret dX0_name_198 rfl rfl w
    · have w := w.2 h
      refine E_iload 183 dX0_name_181 rfl rfl ?_
      refine E_iconst 184 dX0_name_183 (by decide) rfl ?_
      refine E_iadd 185 dX0_name_184 rfl ?_
      refine E_goto 197 dX0_name_185 rfl ?_
      refine E_iast 198 dX0_name_197 ac_68 (by decide) rfl ?_
      exact E_vret dX0_name_198 rfl rfl w
theorem B_X0_firstOf_0 {g : PG} {d : Nat} {σ : PS} {Q : Int → PS → Prop} {q1 : Int} (hq1 : LinAt q1) (w : (XX g true (d + 1) P_X0_firstOf 2 [(2, 67), (2, q1), (0, 0), (9, 0), (9, 0)] [] 136 σ 136 Q)) : XX g true (d + 1) P_X0_firstOf 0 [(2, 67), (2, q1), (9, 0), (9, 0), (9, 0)] [] 136 σ 136 Q := by
  refine E_iconst 1 dX0_firstOf_0 (by decide) rfl ?_
  refine E_istore_n (ls' := [(2, 67), (2, q1), (0, 0), (9, 0), (9, 0)]) 2 dX0_firstOf_1 (by decide) rfl rfl ?_
  with_reducible exact w
theorem B_X0_firstOf_2 {g : PG} {d : Nat} {σ : PS} {Q : Int → PS → Prop} {x2 q1 : Int} (hq1 : LinAt q1) (w : ((σ q1 3 ≤ x2 → Q 0 σ) ∧ (x2 < σ q1 3 → ((16 ≤ x2 → Q 0 σ) ∧ (x2 < 16 → (0 ≤ x2 ∧ x2 < 16) ∧ ∀ y2, y2 = σ (q1 + 3) x2 → (0 ≤ w32 (x2 + 1) ∧ w32 (x2 + 1) < 17) ∧ ∀ y4, y4 = σ (q1 + 2) (w32 (x2 + 1)) → ((y2 = y4 → (0 ≤ x2 ∧ x2 < 17) ∧ XX g true d P_X0_valueOf 0 [(2, 67), (2, q1), (0, σ (q1 + 2) x2), (0, y2), (9, 0), (9, 0), (9, 0), (9, 0), (9, 0), (9, 0)] [] 136 σ 136 (fun r7 σ6 => Q r7 σ6)) ∧ (y2 ≠ y4 → XX g true d P_X0_valueOf 0 [(2, 67), (2, q1), (0, y2), (0, y4), (9, 0), (9, 0), (9, 0), (9, 0), (9, 0), (9, 0)] [] 136 σ 136 (fun r9 σ8 => ((r9 = 0 → (XX g true (d + 1) P_X0_firstOf 2 [(2, 67), (2, q1), (0, w32 (x2 + 1)), (9, 0), (9, 0)] [] 136 σ8 136 Q)) ∧ (r9 ≠ 0 → (0 ≤ x2 ∧ x2 < 17) ∧ XX g true d P_X0_valueOf 0 [(2, 67), (2, q1), (0, σ8 (q1 + 2) x2), (0, y2), (9, 0), (9, 0), (9, 0), (9, 0), (9, 0), (9, 0)] [] 136 σ8 136 (fun r12 σ11 => Q r12 σ11))))))))))) : XX g true (d + 1) P_X0_firstOf 2 [(2, 67), (2, q1), (0, x2), (9, 0), (9, 0)] [] 136 σ 136 Q := by
  refine E_iload_n 3 dX0_firstOf_2 rfl rfl ?_
  refine E_aload_n 4 dX0_firstOf_3 rfl (LinB hq1) rfl ?_
  refine E_get 3 7 dX0_firstOf_4 fl_X0_83 (LinF0 hq1) rfl (by decide) rfl rfl ?_
  refine E_icmp_ge 10 69 dX0_firstOf_7 rfl rfl (fun h => ?_) (fun h => ?_)
  · have w := w.1 h
    refine E_iconst 70 dX0_firstOf_69 (by decide) rfl ?_
    exact E_iret dX0_firstOf_70 rfl rfl w
  · have w := w.2 h
    refine E_iload_n 11 dX0_firstOf_10 rfl rfl ?_
    refine E_bipush 13 dX0_firstOf_11 (by decide) rfl ?_
    refine E_icmp_ge 16 69 dX0_firstOf_13 rfl rfl (fun h => ?_) (fun h => ?_)
    · have w := w.1 h
      refine E_iconst 70 dX0_firstOf_69 (by decide) rfl ?_
      exact E_iret dX0_firstOf_70 rfl rfl w
    · have w := w.2 h
      refine E_aload_n 17 dX0_firstOf_16 rfl (LinB hq1) rfl ?_
      refine E_getL 20 dX0_firstOf_17 fl_X0_88 (LinF0 hq1) rfl (by decide) (LinL2 hq1) rfl ?_
      refine E_iload_n 21 dX0_firstOf_20 rfl rfl ?_
      obtain ⟨c1, w⟩ := w
      refine E_iald 22 dX0_firstOf_21 (LinF3 hq1) c1 rfl ?_
      refine E_top (fun y2 hy2 => ?_)
      have w := w y2 hy2
      refine E_istore_n (ls' := [(2, 67), (2, q1), (0, x2), (0, y2), (9, 0)]) 23 dX0_firstOf_22 (by decide) rfl rfl ?_
      refine E_aload_n 24 dX0_firstOf_23 rfl (LinB hq1) rfl ?_
      refine E_getL 27 dX0_firstOf_24 fl_X0_91 (LinF0 hq1) rfl (by decide) (LinL1 hq1) rfl ?_
      refine E_iload_n 28 dX0_firstOf_27 rfl rfl ?_
      refine E_iconst 29 dX0_firstOf_28 (by decide) rfl ?_
      refine E_iadd 30 dX0_firstOf_29 rfl ?_
      obtain ⟨c3, w⟩ := w
      refine E_iald 31 dX0_firstOf_30 (LinF2 hq1) c3 rfl ?_
      refine E_top (fun y4 hy4 => ?_)
      have w := w y4 hy4
      refine E_istore (ls' := [(2, 67), (2, q1), (0, x2), (0, y2), (0, y4)]) 33 dX0_firstOf_31 (by decide) rfl rfl ?_
      refine E_iload_n 34 dX0_firstOf_33 rfl rfl ?_
      refine E_iload 36 dX0_firstOf_34 rfl rfl ?_
      refine E_icmp_eq 39 50 dX0_firstOf_36 rfl rfl (fun h => ?_) (fun h => ?_)
      · have w := w.1 h
        refine E_aload_n 51 dX0_firstOf_50 rfl (ac_67.bnd) rfl ?_
        refine E_aload_n 52 dX0_firstOf_51 rfl (LinB hq1) rfl ?_
        refine E_aload_n 53 dX0_firstOf_52 rfl (LinB hq1) rfl ?_
        refine E_getL 56 dX0_firstOf_53 fl_X0_91 (LinF0 hq1) rfl (by decide) (LinL1 hq1) rfl ?_
        refine E_iload_n 57 dX0_firstOf_56 rfl rfl ?_
        obtain ⟨c5, w⟩ := w
        refine E_iald 58 dX0_firstOf_57 (LinF2 hq1) c5 rfl ?_
        refine E_iload_n 59 dX0_firstOf_58 rfl rfl ?_
        refine E_callV (as := [(2, q1), (0, σ (q1 + 2) x2), (0, y2)]) 62 dX0_firstOf_59 cf_X0_valueOf mw_830 mw_832 mw_24 ac_67 (by decide) cl_X0 rfl rfl (Nat.le_of_ble_eq_true rfl) (Nat.le_of_ble_eq_true rfl) ⟨Nat.le_refl _, Nat.le_refl _⟩ rfl (w.mono (fun r7 σ6 w => ?_))
        show XX g true (d + 1) P_X0_firstOf 62 [(2, 67), (2, q1), (0, x2), (0, y2), (0, y4)] [(0, r7)] 136 σ6 136 Q
        exact E_iret dX0_firstOf_62 rfl rfl w
      · have w := w.2 h
        refine E_aload_n 40 dX0_firstOf_39 rfl (ac_67.bnd) rfl ?_
        refine E_aload_n 41 dX0_firstOf_40 rfl (LinB hq1) rfl ?_
        refine E_iload_n 42 dX0_firstOf_41 rfl rfl ?_
        refine E_iload 44 dX0_firstOf_42 rfl rfl ?_
        refine E_callV (as := [(2, q1), (0, y2), (0, y4)]) 47 dX0_firstOf_44 cf_X0_valueOf mw_830 mw_832 mw_24 ac_67 (by decide) cl_X0 rfl rfl (Nat.le_of_ble_eq_true rfl) (Nat.le_of_ble_eq_true rfl) ⟨Nat.le_refl _, Nat.le_refl _⟩ rfl (w.mono (fun r9 σ8 w => ?_))
        show XX g true (d + 1) P_X0_firstOf 47 [(2, 67), (2, q1), (0, x2), (0, y2), (0, y4)] [(0, r9)] 136 σ8 136 Q
        refine E_if_eq 50 63 dX0_firstOf_47 rfl rfl (fun h => ?_) (fun h => ?_)
        · have w := w.1 h
          refine E_iinc (ls' := [(2, 67), (2, q1), (0, w32 (x2 + 1)), (0, y2), (0, y4)]) 66 dX0_firstOf_63 (by decide) rfl rfl rfl ?_
          refine E_goto 2 dX0_firstOf_66 rfl ?_
          refine XX.fg [3, 4] [(2, 67), (2, q1), (0, w32 (x2 + 1)), (9, 0), (9, 0)] rfl ?_
          with_reducible exact w
        · have w := w.2 h
          refine E_aload_n 51 dX0_firstOf_50 rfl (ac_67.bnd) rfl ?_
          refine E_aload_n 52 dX0_firstOf_51 rfl (LinB hq1) rfl ?_
          refine E_aload_n 53 dX0_firstOf_52 rfl (LinB hq1) rfl ?_
          refine E_getL 56 dX0_firstOf_53 fl_X0_91 (LinF0 hq1) rfl (by decide) (LinL1 hq1) rfl ?_
          refine E_iload_n 57 dX0_firstOf_56 rfl rfl ?_
          obtain ⟨c10, w⟩ := w
          refine E_iald 58 dX0_firstOf_57 (LinF2 hq1) c10 rfl ?_
          refine E_iload_n 59 dX0_firstOf_58 rfl rfl ?_
          refine E_callV (as := [(2, q1), (0, σ8 (q1 + 2) x2), (0, y2)]) 62 dX0_firstOf_59 cf_X0_valueOf mw_830 mw_832 mw_24 ac_67 (by decide) cl_X0 rfl rfl (Nat.le_of_ble_eq_true rfl) (Nat.le_of_ble_eq_true rfl) ⟨Nat.le_refl _, Nat.le_refl _⟩ rfl (w.mono (fun r12 σ11 w => ?_))
          show XX g true (d + 1) P_X0_firstOf 62 [(2, 67), (2, q1), (0, x2), (0, y2), (0, y4)] [(0, r12)] 136 σ11 136 Q
          exact E_iret dX0_firstOf_62 rfl rfl w
theorem B_X0_valueOf_0 {g : PG} {d : Nat} {σ : PS} {Q : Int → PS → Prop} {x2 x3 q1 : Int} (hq1 : LinAt q1) (w : (XX g true d P_X0_valueOf 13 [(2, 67), (2, q1), (9, 0), (0, x3), (0, 0), (0, x2), (9, 0), (9, 0), (9, 0), (9, 0)] [] 136 (su σ 69 0 0) 136 Q)) : XX g true d P_X0_valueOf 0 [(2, 67), (2, q1), (0, x2), (0, x3), (9, 0), (9, 0), (9, 0), (9, 0), (9, 0), (9, 0)] [] 136 σ 136 Q := by
  refine E_iconst 1 dX0_valueOf_0 (by decide) rfl ?_
  refine E_istore (ls' := [(2, 67), (2, q1), (0, x2), (0, x3), (0, 0), (9, 0), (9, 0), (9, 0), (9, 0), (9, 0)]) 3 dX0_valueOf_1 (by decide) rfl rfl ?_
  refine E_aload_n 4 dX0_valueOf_3 rfl (ac_67.bnd) rfl ?_
  refine E_getL 7 dX0_valueOf_4 fl_X0_17 ac_67 rfl (by decide) lay_67_1 rfl ?_
  refine E_iconst 8 dX0_valueOf_7 (by decide) rfl ?_
  refine E_iconst 9 dX0_valueOf_8 (by decide) rfl ?_
  refine E_iast 10 dX0_valueOf_9 ac_69 (by decide) rfl ?_
  refine E_iload_n 11 dX0_valueOf_10 rfl rfl ?_
  refine E_istore (ls' := [(2, 67), (2, q1), (0, x2), (0, x3), (0, 0), (0, x2), (9, 0), (9, 0), (9, 0), (9, 0)]) 13 dX0_valueOf_11 (by decide) rfl rfl ?_
  refine XX.fg [2] [(2, 67), (2, q1), (9, 0), (0, x3), (0, 0), (0, x2), (9, 0), (9, 0), (9, 0), (9, 0)] rfl ?_
  with_reducible exact w
theorem B_X0_valueOf_13 {g : PG} {d : Nat} {σ : PS} {Q : Int → PS → Prop} {x3 x4 x5 q1 : Int} (hq1 : LinAt q1) (w : ((x3 ≤ x5 → (XX g true d P_X0_valueOf 442 [(2, 67), (9, 0), (9, 0), (9, 0), (9, 0), (9, 0), (9, 0), (9, 0), (9, 0), (9, 0)] [] 136 σ 136 Q)) ∧ (x5 < x3 → ((500 ≤ x5 → (XX g true d P_X0_valueOf 442 [(2, 67), (9, 0), (9, 0), (9, 0), (9, 0), (9, 0), (9, 0), (9, 0), (9, 0), (9, 0)] [] 136 σ 136 Q)) ∧ (x5 < 500 → (0 ≤ x5 ∧ x5 < 500) ∧ ∀ y2, y2 = σ (q1 + 1) x5 → ∀ y3, y3 = w32 ((w32 (-y2)) - 262) → ((0 ≤ y2 → (XX g true d P_X0_valueOf 67 [(2, 67), (2, q1), (9, 0), (0, x3), (0, x4), (0, x5), (0, y2), (0, y3), (9, 0), (9, 0)] [] 136 σ 136 Q)) ∧ (y2 < 0 → ((y3 < 0 → (XX g true d P_X0_valueOf 104 [(2, 67), (2, q1), (9, 0), (0, x3), (0, x4), (0, x5), (0, y2), (9, 0), (9, 0), (9, 0)] [] 136 σ 136 Q)) ∧ (0 ≤ y3 → ((12 ≤ y3 → (XX g true d P_X0_valueOf 104 [(2, 67), (2, q1), (9, 0), (0, x3), (0, x4), (0, x5), (0, y2), (9, 0), (9, 0), (9, 0)] [] 136 σ 136 Q)) ∧ (y3 < 12 → (XX g true d P_X0_valueOf 67 [(2, 67), (2, q1), (9, 0), (0, x3), (0, x4), (0, x5), (0, y2), (0, y3), (9, 0), (9, 0)] [] 136 σ 136 Q)))))))))))) : XX g true d P_X0_valueOf 13 [(2, 67), (2, q1), (9, 0), (0, x3), (0, x4), (0, x5), (9, 0), (9, 0), (9, 0), (9, 0)] [] 136 σ 136 Q := by
  refine E_iload 15 dX0_valueOf_13 rfl rfl ?_
  refine E_iload_n 16 dX0_valueOf_15 rfl rfl ?_
  refine E_icmp_ge 19 442 dX0_valueOf_16 rfl rfl (fun h => ?_) (fun h => ?_)
  · have w := w.1 h
    refine XX.fg [1, 3, 4, 5] [(2, 67), (9, 0), (9, 0), (9, 0), (9, 0), (9, 0), (9, 0), (9, 0), (9, 0), (9, 0)] rfl ?_
    with_reducible exact w
  · have w := w.2 h
    refine E_iload 21 dX0_valueOf_19 rfl rfl ?_
    refine E_aload_n 22 dX0_valueOf_21 rfl (LinB hq1) rfl ?_
    refine E_getL 25 dX0_valueOf_22 fl_X0_98 (LinF0 hq1) rfl (by decide) (LinL0 hq1) rfl ?_
    refine E_alen 500 26 dX0_valueOf_25 (LinF1 hq1) (by decide) (by decide) rfl rfl ?_
    refine E_icmp_ge 29 442 dX0_valueOf_26 rfl rfl (fun h => ?_) (fun h => ?_)
    · have w := w.1 h
      refine XX.fg [1, 3, 4, 5] [(2, 67), (9, 0), (9, 0), (9, 0), (9, 0), (9, 0), (9, 0), (9, 0), (9, 0), (9, 0)] rfl ?_
      with_reducible exact w
    · have w := w.2 h
      refine E_aload_n 30 dX0_valueOf_29 rfl (LinB hq1) rfl ?_
      refine E_getL 33 dX0_valueOf_30 fl_X0_98 (LinF0 hq1) rfl (by decide) (LinL0 hq1) rfl ?_
      refine E_iload 35 dX0_valueOf_33 rfl rfl ?_
      obtain ⟨c1, w⟩ := w
      refine E_iald 36 dX0_valueOf_35 (LinF1 hq1) c1 rfl ?_
      refine E_top (fun y2 hy2 => ?_)
      have w := w y2 hy2
      refine E_istore (ls' := [(2, 67), (2, q1), (9, 0), (0, x3), (0, x4), (0, x5), (0, y2), (9, 0), (9, 0), (9, 0)]) 38 dX0_valueOf_36 (by decide) rfl rfl ?_
      refine E_iload 40 dX0_valueOf_38 rfl rfl ?_
      refine E_ineg 41 dX0_valueOf_40 rfl ?_
      refine E_sipush 44 dX0_valueOf_41 (by decide) rfl ?_
      refine E_isub 45 dX0_valueOf_44 rfl ?_
      refine E_top (fun y3 hy3 => ?_)
      have w := w y3 hy3
      refine E_istore (ls' := [(2, 67), (2, q1), (9, 0), (0, x3), (0, x4), (0, x5), (0, y2), (0, y3), (9, 0), (9, 0)]) 47 dX0_valueOf_45 (by decide) rfl rfl ?_
      refine E_iload 49 dX0_valueOf_47 rfl rfl ?_
      refine E_if_ge 52 67 dX0_valueOf_49 rfl rfl (fun h => ?_) (fun h => ?_)
      · have w := w.1 h
        with_reducible exact w
      · have w := w.2 h
        refine E_iload 54 dX0_valueOf_52 rfl rfl ?_
        refine E_if_lt 57 104 dX0_valueOf_54 rfl rfl (fun h => ?_) (fun h => ?_)
        · have w := w.1 h
          refine XX.fg [7] [(2, 67), (2, q1), (9, 0), (0, x3), (0, x4), (0, x5), (0, y2), (9, 0), (9, 0), (9, 0)] rfl ?_
          with_reducible exact w
        · have w := w.2 h
          refine E_iload 59 dX0_valueOf_57 rfl rfl ?_
          refine E_aload_n 60 dX0_valueOf_59 rfl (ac_67.bnd) rfl ?_
          refine E_getL 63 dX0_valueOf_60 fl_X0_11 ac_67 rfl (by decide) lay_67_0 rfl ?_
          refine E_alen 12 64 dX0_valueOf_63 ac_68 (by decide) (by decide) rfl rfl ?_
          refine E_icmp_ge 67 104 dX0_valueOf_64 rfl rfl (fun h => ?_) (fun h => ?_)
          · have w := w.1 h
            refine XX.fg [7] [(2, 67), (2, q1), (9, 0), (0, x3), (0, x4), (0, x5), (0, y2), (9, 0), (9, 0), (9, 0)] rfl ?_
            with_reducible exact w
          · have w := w.2 h
            with_reducible exact w
theorem B_X0_valueOf_442 {g : PG} {d : Nat} {σ : PS} {Q : Int → PS → Prop} {q1 : Int} (hq1 : LinAt q1) (w : Q (σ 69 0) σ) : XX g true d P_X0_valueOf 442 [(2, 67), (9, 0), (9, 0), (9, 0), (9, 0), (9, 0), (9, 0), (9, 0), (9, 0), (9, 0)] [] 136 σ 136 Q := by
  refine E_aload_n 443 dX0_valueOf_442 rfl (ac_67.bnd) rfl ?_
  refine E_getL 446 dX0_valueOf_443 fl_X0_17 ac_67 rfl (by decide) lay_67_1 rfl ?_
  refine E_iconst 447 dX0_valueOf_446 (by decide) rfl ?_
  refine E_iald 448 dX0_valueOf_447 ac_69 (by decide) rfl ?_
  exact E_iret dX0_valueOf_448 rfl rfl w
theorem B_X0_valueOf_67 {g : PG} {d : Nat} {σ : PS} {Q : Int → PS → Prop} {x3 x4 x5 x6 x7 q1 : Int} (hq1 : LinAt q1) (w : ((64 ≤ x4 → (XX g true d P_X0_valueOf 436 [(2, 67), (2, q1), (9, 0), (0, x3), (0, x4), (0, x5), (9, 0), (9, 0), (9, 0), (9, 0)] [] 136 σ 136 Q)) ∧ (x4 < 64 → ((x6 < 0 → (0 ≤ x7 ∧ x7 < 12) ∧ (0 ≤ x4 ∧ x4 < 64) ∧ (XX g true d P_X0_valueOf 98 [(2, 67), (2, q1), (9, 0), (0, x3), (0, x4), (0, x5), (9, 0), (9, 0), (9, 0), (9, 0)] [] 136 (su σ 69 x4 (σ 68 x7)) 136 Q)) ∧ (0 ≤ x6 → (0 ≤ x4 ∧ x4 < 64) ∧ (XX g true d P_X0_valueOf 98 [(2, 67), (2, q1), (9, 0), (0, x3), (0, x4), (0, x5), (9, 0), (9, 0), (9, 0), (9, 0)] [] 136 (su σ 69 x4 x6) 136 Q)))))) : XX g true d P_X0_valueOf 67 [(2, 67), (2, q1), (9, 0), (0, x3), (0, x4), (0, x5), (0, x6), (0, x7), (9, 0), (9, 0)] [] 136 σ 136 Q := by
  refine E_iload 69 dX0_valueOf_67 rfl rfl ?_
  refine E_bipush 71 dX0_valueOf_69 (by decide) rfl ?_
  refine E_icmp_ge 74 436 dX0_valueOf_71 rfl rfl (fun h => ?_) (fun h => ?_)
  · have w := w.1 h
    refine XX.fg [6, 7] [(2, 67), (2, q1), (9, 0), (0, x3), (0, x4), (0, x5), (9, 0), (9, 0), (9, 0), (9, 0)] rfl ?_
    with_reducible exact w
  · have w := w.2 h
    refine E_aload_n 75 dX0_valueOf_74 rfl (ac_67.bnd) rfl ?_
    refine E_getL 78 dX0_valueOf_75 fl_X0_17 ac_67 rfl (by decide) lay_67_1 rfl ?_
    refine E_iload 80 dX0_valueOf_78 rfl rfl ?_
    refine E_iload 82 dX0_valueOf_80 rfl rfl ?_
    refine E_if_lt 85 90 dX0_valueOf_82 rfl rfl (fun h => ?_) (fun h => ?_)
    · have w := w.1 h
      refine E_aload_n 91 dX0_valueOf_90 rfl (ac_67.bnd) rfl ?_
      refine E_getL 94 dX0_valueOf_91 fl_X0_11 ac_67 rfl (by decide) lay_67_0 rfl ?_
      refine E_iload 96 dX0_valueOf_94 rfl rfl ?_
      obtain ⟨c1, w⟩ := w
      refine E_iald 97 dX0_valueOf_96 ac_68 c1 rfl ?_
      obtain ⟨c2, w⟩ := w
      refine E_iast 98 dX0_valueOf_97 ac_69 c2 rfl ?_
      refine XX.fg [6, 7] [(2, 67), (2, q1), (9, 0), (0, x3), (0, x4), (0, x5), (9, 0), (9, 0), (9, 0), (9, 0)] rfl ?_
      with_reducible exact w
    · have w := w.2 h
      refine E_iload 87 dX0_valueOf_85 rfl rfl ?_
      refine E_goto 97 dX0_valueOf_87 rfl ?_
      obtain ⟨c3, w⟩ := w
      refine E_iast 98 dX0_valueOf_97 ac_69 c3 rfl ?_
      refine XX.fg [6, 7] [(2, 67), (2, q1), (9, 0), (0, x3), (0, x4), (0, x5), (9, 0), (9, 0), (9, 0), (9, 0)] rfl ?_
      with_reducible exact w
theorem B_X0_valueOf_104 {g : PG} {d : Nat} {σ : PS} {Q : Int → PS → Prop} {x3 x4 x5 x6 q1 : Int} (hq1 : LinAt q1) (w : ((x6 ≠ (-261) → (XX g true d P_X0_valueOf 138 [(2, 67), (2, q1), (9, 0), (0, x3), (0, x4), (0, x5), (0, x6), (9, 0), (9, 0), (9, 0)] [] 136 σ 136 Q)) ∧ (x6 = (-261) → ((x4 < 1 → (XX g true d P_X0_valueOf 138 [(2, 67), (2, q1), (9, 0), (0, x3), (0, x4), (0, x5), (0, x6), (9, 0), (9, 0), (9, 0)] [] 136 σ 136 Q)) ∧ (1 ≤ x4 → (0 ≤ w32 (x4 - 1) ∧ w32 (x4 - 1) < 64) ∧ (XX g true d P_X0_valueOf 138 [(2, 67), (2, q1), (9, 0), (0, x3), (0, x4), (0, x5), (0, x6), (9, 0), (9, 0), (9, 0)] [] 136 (su σ 69 (w32 (x4 - 1)) (w32 (1 - (σ 69 (w32 (x4 - 1)))))) 136 Q)))))) : XX g true d P_X0_valueOf 104 [(2, 67), (2, q1), (9, 0), (0, x3), (0, x4), (0, x5), (0, x6), (9, 0), (9, 0), (9, 0)] [] 136 σ 136 Q := by
  refine E_iload 106 dX0_valueOf_104 rfl rfl ?_
  refine E_sipush 109 dX0_valueOf_106 (by decide) rfl ?_
  refine E_icmp_ne 112 138 dX0_valueOf_109 rfl rfl (fun h => ?_) (fun h => ?_)
  · have w := w.1 h
    with_reducible exact w
  · have w := w.2 h
    refine E_iload 114 dX0_valueOf_112 rfl rfl ?_
    refine E_iconst 115 dX0_valueOf_114 (by decide) rfl ?_
    refine E_icmp_lt 118 138 dX0_valueOf_115 rfl rfl (fun h => ?_) (fun h => ?_)
    · have w := w.1 h
      with_reducible exact w
    · have w := w.2 h
      refine E_aload_n 119 dX0_valueOf_118 rfl (ac_67.bnd) rfl ?_
      refine E_getL 122 dX0_valueOf_119 fl_X0_17 ac_67 rfl (by decide) lay_67_1 rfl ?_
      refine E_iload 124 dX0_valueOf_122 rfl rfl ?_
      refine E_iconst 125 dX0_valueOf_124 (by decide) rfl ?_
      refine E_isub 126 dX0_valueOf_125 rfl ?_
      refine E_iconst 127 dX0_valueOf_126 (by decide) rfl ?_
      refine E_aload_n 128 dX0_valueOf_127 rfl (ac_67.bnd) rfl ?_
      refine E_getL 131 dX0_valueOf_128 fl_X0_17 ac_67 rfl (by decide) lay_67_1 rfl ?_
      refine E_iload 133 dX0_valueOf_131 rfl rfl ?_
      refine E_iconst 134 dX0_valueOf_133 (by decide) rfl ?_
      refine E_isub 135 dX0_valueOf_134 rfl ?_
      obtain ⟨c1, w⟩ := w
      refine E_iald 136 dX0_valueOf_135 ac_69 c1 rfl ?_
      refine E_isub 137 dX0_valueOf_136 rfl ?_
      refine E_iast 138 dX0_valueOf_137 ac_69 c1 rfl ?_
      with_reducible exact w
theorem B_X0_valueOf_436 {g : PG} {d : Nat} {σ : PS} {Q : Int → PS → Prop} {x3 x4 x5 q1 : Int} (hq1 : LinAt q1) (w : (XX g true d P_X0_valueOf 13 [(2, 67), (2, q1), (9, 0), (0, x3), (0, x4), (0, w32 (x5 + 1)), (9, 0), (9, 0), (9, 0), (9, 0)] [] 136 σ 136 Q)) : XX g true d P_X0_valueOf 436 [(2, 67), (2, q1), (9, 0), (0, x3), (0, x4), (0, x5), (9, 0), (9, 0), (9, 0), (9, 0)] [] 136 σ 136 Q := by
  refine E_iinc (ls' := [(2, 67), (2, q1), (9, 0), (0, x3), (0, x4), (0, w32 (x5 + 1)), (9, 0), (9, 0), (9, 0), (9, 0)]) 439 dX0_valueOf_436 (by decide) rfl rfl rfl ?_
  refine E_goto 13 dX0_valueOf_439 rfl ?_
  with_reducible exact w
theorem B_X0_valueOf_98 {g : PG} {d : Nat} {σ : PS} {Q : Int → PS → Prop} {x3 x4 x5 q1 : Int} (hq1 : LinAt q1) (w : (XX g true d P_X0_valueOf 436 [(2, 67), (2, q1), (9, 0), (0, x3), (0, w32 (x4 + 1)), (0, x5), (9, 0), (9, 0), (9, 0), (9, 0)] [] 136 σ 136 Q)) : XX g true d P_X0_valueOf 98 [(2, 67), (2, q1), (9, 0), (0, x3), (0, x4), (0, x5), (9, 0), (9, 0), (9, 0), (9, 0)] [] 136 σ 136 Q := by
  refine E_iinc (ls' := [(2, 67), (2, q1), (9, 0), (0, x3), (0, w32 (x4 + 1)), (0, x5), (9, 0), (9, 0), (9, 0), (9, 0)]) 101 dX0_valueOf_98 (by decide) rfl rfl rfl ?_
  refine E_goto 436 dX0_valueOf_101 rfl ?_
  with_reducible exact w
theorem B_X0_valueOf_138 {g : PG} {d : Nat} {σ : PS} {Q : Int → PS → Prop} {x3 x4 x5 x6 q1 : Int} (hq1 : LinAt q1) (w : ((x6 = (-261) → (XX g true d P_X0_valueOf 436 [(2, 67), (2, q1), (9, 0), (0, x3), (0, x4), (0, x5), (9, 0), (9, 0), (9, 0), (9, 0)] [] 136 σ 136 Q)) ∧ (x6 ≠ (-261) → ((2 ≤ x4 → (0 ≤ w32 ((w32 (x4 + (-1))) - 1) ∧ w32 ((w32 (x4 + (-1))) - 1) < 64) ∧ ∀ y2, y2 = σ 69 (w32 ((w32 (x4 + (-1))) - 1)) → (0 ≤ w32 (x4 + (-1)) ∧ w32 (x4 + (-1)) < 64) ∧ ∀ y4, y4 = σ 69 (w32 (x4 + (-1))) → ((w32 (-x6) = 42 → (XX g true d P_X0_valueOf 436 [(2, 67), (2, q1), (9, 0), (0, x3), (0, w32 (x4 + (-1))), (0, x5), (9, 0), (9, 0), (9, 0), (9, 0)] [] 136 (su σ 69 (w32 ((w32 (x4 + (-1))) - 1)) (w32 (y2 * y4))) 136 Q)) ∧ (w32 (-x6) = 43 → (XX g true d P_X0_valueOf 436 [(2, 67), (2, q1), (9, 0), (0, x3), (0, w32 (x4 + (-1))), (0, x5), (9, 0), (9, 0), (9, 0), (9, 0)] [] 136 (su σ 69 (w32 ((w32 (x4 + (-1))) - 1)) (w32 (y2 + y4))) 136 Q)) ∧ (w32 (-x6) = 45 → (XX g true d P_X0_valueOf 436 [(2, 67), (2, q1), (9, 0), (0, x3), (0, w32 (x4 + (-1))), (0, x5), (9, 0), (9, 0), (9, 0), (9, 0)] [] 136 (su σ 69 (w32 ((w32 (x4 + (-1))) - 1)) (w32 (y2 - y4))) 136 Q)) ∧ (w32 (-x6) = 47 → ((y4 ≠ 0 → y4 ≠ 0 ∧ (XX g true d P_X0_valueOf 330 [(2, 67), (2, q1), (9, 0), (0, x3), (0, w32 (x4 + (-1))), (0, x5), (9, 0), (9, 0), (9, 0), (9, 0)] [] 136 (su σ 69 (w32 ((w32 (x4 + (-1))) - 1)) (idiv y2 y4)) 136 Q)) ∧ (y4 = 0 → (XX g true d P_X0_valueOf 330 [(2, 67), (2, q1), (9, 0), (0, x3), (0, w32 (x4 + (-1))), (0, x5), (9, 0), (9, 0), (9, 0), (9, 0)] [] 136 (su σ 69 (w32 ((w32 (x4 + (-1))) - 1)) 0) 136 Q)))) ∧ (w32 (-x6) = 60 → ((y4 ≤ y2 → (XX g true d P_X0_valueOf 354 [(2, 67), (2, q1), (9, 0), (0, x3), (0, w32 (x4 + (-1))), (0, x5), (9, 0), (9, 0), (9, 0), (9, 0)] [] 136 (su σ 69 (w32 ((w32 (x4 + (-1))) - 1)) 0) 136 Q)) ∧ (y2 < y4 → (XX g true d P_X0_valueOf 354 [(2, 67), (2, q1), (9, 0), (0, x3), (0, w32 (x4 + (-1))), (0, x5), (9, 0), (9, 0), (9, 0), (9, 0)] [] 136 (su σ 69 (w32 ((w32 (x4 + (-1))) - 1)) 1) 136 Q)))) ∧ (w32 (-x6) = 61 → ((y2 ≠ y4 → (XX g true d P_X0_valueOf 378 [(2, 67), (2, q1), (9, 0), (0, x3), (0, w32 (x4 + (-1))), (0, x5), (9, 0), (9, 0), (9, 0), (9, 0)] [] 136 (su σ 69 (w32 ((w32 (x4 + (-1))) - 1)) 0) 136 Q)) ∧ (y2 = y4 → (XX g true d P_X0_valueOf 378 [(2, 67), (2, q1), (9, 0), (0, x3), (0, w32 (x4 + (-1))), (0, x5), (9, 0), (9, 0), (9, 0), (9, 0)] [] 136 (su σ 69 (w32 ((w32 (x4 + (-1))) - 1)) 1) 136 Q)))) ∧ (w32 (-x6) = 62 → ((y2 ≤ y4 → (XX g true d P_X0_valueOf 402 [(2, 67), (2, q1), (9, 0), (0, x3), (0, w32 (x4 + (-1))), (0, x5), (9, 0), (9, 0), (9, 0), (9, 0)] [] 136 (su σ 69 (w32 ((w32 (x4 + (-1))) - 1)) 0) 136 Q)) ∧ (y4 < y2 → (XX g true d P_X0_valueOf 402 [(2, 67), (2, q1), (9, 0), (0, x3), (0, w32 (x4 + (-1))), (0, x5), (9, 0), (9, 0), (9, 0), (9, 0)] [] 136 (su σ 69 (w32 ((w32 (x4 + (-1))) - 1)) 1) 136 Q)))) ∧ (w32 (-x6) = 259 → (XX g true d P_X0_valueOf 436 [(2, 67), (2, q1), (9, 0), (0, x3), (0, w32 (x4 + (-1))), (0, x5), (9, 0), (9, 0), (9, 0), (9, 0)] [] 136 (su σ 69 (w32 ((w32 (x4 + (-1))) - 1)) (iand y2 y4)) 136 Q)) ∧ ((w32 (-x6) ≠ 42 ∧ w32 (-x6) ≠ 43 ∧ w32 (-x6) ≠ 45 ∧ w32 (-x6) ≠ 47 ∧ w32 (-x6) ≠ 60 ∧ w32 (-x6) ≠ 61 ∧ w32 (-x6) ≠ 62 ∧ w32 (-x6) ≠ 259) → (XX g true d P_X0_valueOf 436 [(2, 67), (2, q1), (9, 0), (0, x3), (0, w32 (x4 + (-1))), (0, x5), (9, 0), (9, 0), (9, 0), (9, 0)] [] 136 (su σ 69 (w32 ((w32 (x4 + (-1))) - 1)) (ior y2 y4)) 136 Q)))) ∧ (x4 < 2 → (XX g true d P_X0_valueOf 436 [(2, 67), (2, q1), (9, 0), (0, x3), (0, x4), (0, x5), (9, 0), (9, 0), (9, 0), (9, 0)] [] 136 σ 136 Q)))))) : XX g true d P_X0_valueOf 138 [(2, 67), (2, q1), (9, 0), (0, x3), (0, x4), (0, x5), (0, x6), (9, 0), (9, 0), (9, 0)] [] 136 σ 136 Q := by
  refine E_iload 140 dX0_valueOf_138 rfl rfl ?_
  refine E_sipush 143 dX0_valueOf_140 (by decide) rfl ?_
  refine E_icmp_eq 146 436 dX0_valueOf_143 rfl rfl (fun h => ?_) (fun h => ?_)
  · have w := w.1 h
    refine XX.fg [6] [(2, 67), (2, q1), (9, 0), (0, x3), (0, x4), (0, x5), (9, 0), (9, 0), (9, 0), (9, 0)] rfl ?_
    with_reducible exact w
  · have w := w.2 h
    refine E_iload 148 dX0_valueOf_146 rfl rfl ?_
    refine E_iconst 149 dX0_valueOf_148 (by decide) rfl ?_
    refine E_icmp_ge 152 155 dX0_valueOf_149 rfl rfl (fun h => ?_) (fun h => ?_)
    · have w := w.1 h
      refine E_iinc (ls' := [(2, 67), (2, q1), (9, 0), (0, x3), (0, w32 (x4 + (-1))), (0, x5), (0, x6), (9, 0), (9, 0), (9, 0)]) 158 dX0_valueOf_155 (by decide) rfl rfl rfl ?_
      refine E_aload_n 159 dX0_valueOf_158 rfl (ac_67.bnd) rfl ?_
      refine E_getL 162 dX0_valueOf_159 fl_X0_17 ac_67 rfl (by decide) lay_67_1 rfl ?_
      refine E_iload 164 dX0_valueOf_162 rfl rfl ?_
      refine E_iconst 165 dX0_valueOf_164 (by decide) rfl ?_
      refine E_isub 166 dX0_valueOf_165 rfl ?_
      obtain ⟨c1, w⟩ := w
      refine E_iald 167 dX0_valueOf_166 ac_69 c1 rfl ?_
      refine E_top (fun y2 hy2 => ?_)
      have w := w y2 hy2
      refine E_istore (ls' := [(2, 67), (2, q1), (9, 0), (0, x3), (0, w32 (x4 + (-1))), (0, x5), (0, x6), (9, 0), (0, y2), (9, 0)]) 169 dX0_valueOf_167 (by decide) rfl rfl ?_
      refine E_aload_n 170 dX0_valueOf_169 rfl (ac_67.bnd) rfl ?_
      refine E_getL 173 dX0_valueOf_170 fl_X0_17 ac_67 rfl (by decide) lay_67_1 rfl ?_
      refine E_iload 175 dX0_valueOf_173 rfl rfl ?_
      obtain ⟨c3, w⟩ := w
      refine E_iald 176 dX0_valueOf_175 ac_69 c3 rfl ?_
      refine E_top (fun y4 hy4 => ?_)
      have w := w y4 hy4
      refine E_istore (ls' := [(2, 67), (2, q1), (9, 0), (0, x3), (0, w32 (x4 + (-1))), (0, x5), (0, x6), (9, 0), (0, y2), (0, y4)]) 178 dX0_valueOf_176 (by decide) rfl rfl ?_
      refine E_iload 180 dX0_valueOf_178 rfl rfl ?_
      refine E_ineg 181 dX0_valueOf_180 rfl ?_
      rcases (show w32 (-x6) = 42 ∨ w32 (-x6) = 43 ∨ w32 (-x6) = 45 ∨ w32 (-x6) = 47 ∨ w32 (-x6) = 60 ∨ w32 (-x6) = 61 ∨ w32 (-x6) = 62 ∨ w32 (-x6) = 259 ∨ (w32 (-x6) ≠ 42 ∧ w32 (-x6) ≠ 43 ∧ w32 (-x6) ≠ 45 ∧ w32 (-x6) ≠ 47 ∧ w32 (-x6) ≠ 60 ∧ w32 (-x6) ≠ 61 ∧ w32 (-x6) ≠ 62 ∧ w32 (-x6) ≠ 259) by omega) with h | h | h | h | h | h | h | h | h
      · have w := w.1 h
        refine E_look 290 dX0_valueOf_181 (by decide) (by rw [h] <;> rfl) rfl ?_
        refine E_aload_n 291 dX0_valueOf_290 rfl (ac_67.bnd) rfl ?_
        refine E_getL 294 dX0_valueOf_291 fl_X0_17 ac_67 rfl (by decide) lay_67_1 rfl ?_
        refine E_iload 296 dX0_valueOf_294 rfl rfl ?_
        refine E_iconst 297 dX0_valueOf_296 (by decide) rfl ?_
        refine E_isub 298 dX0_valueOf_297 rfl ?_
        refine E_iload 300 dX0_valueOf_298 rfl rfl ?_
        refine E_iload 302 dX0_valueOf_300 rfl rfl ?_
        refine E_imul 303 dX0_valueOf_302 rfl ?_
        refine E_iast 304 dX0_valueOf_303 ac_69 c1 rfl ?_
        refine E_goto 436 dX0_valueOf_304 rfl ?_
        refine XX.fg [6, 8, 9] [(2, 67), (2, q1), (9, 0), (0, x3), (0, w32 (x4 + (-1))), (0, x5), (9, 0), (9, 0), (9, 0), (9, 0)] rfl ?_
        with_reducible exact w
      · have w := w.2.1 h
        refine E_look 256 dX0_valueOf_181 (by decide) (by rw [h] <;> rfl) rfl ?_
        refine E_aload_n 257 dX0_valueOf_256 rfl (ac_67.bnd) rfl ?_
        refine E_getL 260 dX0_valueOf_257 fl_X0_17 ac_67 rfl (by decide) lay_67_1 rfl ?_
        refine E_iload 262 dX0_valueOf_260 rfl rfl ?_
        refine E_iconst 263 dX0_valueOf_262 (by decide) rfl ?_
        refine E_isub 264 dX0_valueOf_263 rfl ?_
        refine E_iload 266 dX0_valueOf_264 rfl rfl ?_
        refine E_iload 268 dX0_valueOf_266 rfl rfl ?_
        refine E_iadd 269 dX0_valueOf_268 rfl ?_
        refine E_iast 270 dX0_valueOf_269 ac_69 c1 rfl ?_
        refine E_goto 436 dX0_valueOf_270 rfl ?_
        refine XX.fg [6, 8, 9] [(2, 67), (2, q1), (9, 0), (0, x3), (0, w32 (x4 + (-1))), (0, x5), (9, 0), (9, 0), (9, 0), (9, 0)] rfl ?_
        with_reducible exact w
      · have w := w.2.2.1 h
        refine E_look 273 dX0_valueOf_181 (by decide) (by rw [h] <;> rfl) rfl ?_
        refine E_aload_n 274 dX0_valueOf_273 rfl (ac_67.bnd) rfl ?_
        refine E_getL 277 dX0_valueOf_274 fl_X0_17 ac_67 rfl (by decide) lay_67_1 rfl ?_
        refine E_iload 279 dX0_valueOf_277 rfl rfl ?_
        refine E_iconst 280 dX0_valueOf_279 (by decide) rfl ?_
        refine E_isub 281 dX0_valueOf_280 rfl ?_
        refine E_iload 283 dX0_valueOf_281 rfl rfl ?_
        refine E_iload 285 dX0_valueOf_283 rfl rfl ?_
        refine E_isub 286 dX0_valueOf_285 rfl ?_
        refine E_iast 287 dX0_valueOf_286 ac_69 c1 rfl ?_
        refine E_goto 436 dX0_valueOf_287 rfl ?_
        refine XX.fg [6, 8, 9] [(2, 67), (2, q1), (9, 0), (0, x3), (0, w32 (x4 + (-1))), (0, x5), (9, 0), (9, 0), (9, 0), (9, 0)] rfl ?_
        with_reducible exact w
      · have w := w.2.2.2.1 h
        refine E_look 307 dX0_valueOf_181 (by decide) (by rw [h] <;> rfl) rfl ?_
        refine E_aload_n 308 dX0_valueOf_307 rfl (ac_67.bnd) rfl ?_
        refine E_getL 311 dX0_valueOf_308 fl_X0_17 ac_67 rfl (by decide) lay_67_1 rfl ?_
        refine E_iload 313 dX0_valueOf_311 rfl rfl ?_
        refine E_iconst 314 dX0_valueOf_313 (by decide) rfl ?_
        refine E_isub 315 dX0_valueOf_314 rfl ?_
        refine E_iload 317 dX0_valueOf_315 rfl rfl ?_
        refine E_if_ne 320 324 dX0_valueOf_317 rfl rfl (fun h => ?_) (fun h => ?_)
        · have w := w.1 h
          refine E_iload 326 dX0_valueOf_324 rfl rfl ?_
          refine E_iload 328 dX0_valueOf_326 rfl rfl ?_
          obtain ⟨c5, w⟩ := w
          refine E_idiv 329 dX0_valueOf_328 c5 rfl ?_
          refine E_iast 330 dX0_valueOf_329 ac_69 c1 rfl ?_
          refine XX.fg [6, 8, 9] [(2, 67), (2, q1), (9, 0), (0, x3), (0, w32 (x4 + (-1))), (0, x5), (9, 0), (9, 0), (9, 0), (9, 0)] rfl ?_
          with_reducible exact w
        · have w := w.2 h
          refine E_iconst 321 dX0_valueOf_320 (by decide) rfl ?_
          refine E_goto 329 dX0_valueOf_321 rfl ?_
          refine E_iast 330 dX0_valueOf_329 ac_69 c1 rfl ?_
          refine XX.fg [6, 8, 9] [(2, 67), (2, q1), (9, 0), (0, x3), (0, w32 (x4 + (-1))), (0, x5), (9, 0), (9, 0), (9, 0), (9, 0)] rfl ?_
          with_reducible exact w
      · have w := w.2.2.2.2.1 h
        refine E_look 333 dX0_valueOf_181 (by decide) (by rw [h] <;> rfl) rfl ?_
        refine E_aload_n 334 dX0_valueOf_333 rfl (ac_67.bnd) rfl ?_
        refine E_getL 337 dX0_valueOf_334 fl_X0_17 ac_67 rfl (by decide) lay_67_1 rfl ?_
        refine E_iload 339 dX0_valueOf_337 rfl rfl ?_
        refine E_iconst 340 dX0_valueOf_339 (by decide) rfl ?_
        refine E_isub 341 dX0_valueOf_340 rfl ?_
        refine E_iload 343 dX0_valueOf_341 rfl rfl ?_
        refine E_iload 345 dX0_valueOf_343 rfl rfl ?_
        refine E_icmp_ge 348 352 dX0_valueOf_345 rfl rfl (fun h => ?_) (fun h => ?_)
        · have w := w.1 h
          refine E_iconst 353 dX0_valueOf_352 (by decide) rfl ?_
          refine E_iast 354 dX0_valueOf_353 ac_69 c1 rfl ?_
          refine XX.fg [6, 8, 9] [(2, 67), (2, q1), (9, 0), (0, x3), (0, w32 (x4 + (-1))), (0, x5), (9, 0), (9, 0), (9, 0), (9, 0)] rfl ?_
          with_reducible exact w
        · have w := w.2 h
          refine E_iconst 349 dX0_valueOf_348 (by decide) rfl ?_
          refine E_goto 353 dX0_valueOf_349 rfl ?_
          refine E_iast 354 dX0_valueOf_353 ac_69 c1 rfl ?_
          refine XX.fg [6, 8, 9] [(2, 67), (2, q1), (9, 0), (0, x3), (0, w32 (x4 + (-1))), (0, x5), (9, 0), (9, 0), (9, 0), (9, 0)] rfl ?_
          with_reducible exact w
      · have w := w.2.2.2.2.2.1 h
        refine E_look 357 dX0_valueOf_181 (by decide) (by rw [h] <;> rfl) rfl ?_
        refine E_aload_n 358 dX0_valueOf_357 rfl (ac_67.bnd) rfl ?_
        refine E_getL 361 dX0_valueOf_358 fl_X0_17 ac_67 rfl (by decide) lay_67_1 rfl ?_
        refine E_iload 363 dX0_valueOf_361 rfl rfl ?_
        refine E_iconst 364 dX0_valueOf_363 (by decide) rfl ?_
        refine E_isub 365 dX0_valueOf_364 rfl ?_
        refine E_iload 367 dX0_valueOf_365 rfl rfl ?_
        refine E_iload 369 dX0_valueOf_367 rfl rfl ?_
        refine E_icmp_ne 372 376 dX0_valueOf_369 rfl rfl (fun h => ?_) (fun h => ?_)
        · have w := w.1 h
          refine E_iconst 377 dX0_valueOf_376 (by decide) rfl ?_
          refine E_iast 378 dX0_valueOf_377 ac_69 c1 rfl ?_
          refine XX.fg [6, 8, 9] [(2, 67), (2, q1), (9, 0), (0, x3), (0, w32 (x4 + (-1))), (0, x5), (9, 0), (9, 0), (9, 0), (9, 0)] rfl ?_
          with_reducible exact w
        · have w := w.2 h
          refine E_iconst 373 dX0_valueOf_372 (by decide) rfl ?_
          refine E_goto 377 dX0_valueOf_373 rfl ?_
          refine E_iast 378 dX0_valueOf_377 ac_69 c1 rfl ?_
          refine XX.fg [6, 8, 9] [(2, 67), (2, q1), (9, 0), (0, x3), (0, w32 (x4 + (-1))), (0, x5), (9, 0), (9, 0), (9, 0), (9, 0)] rfl ?_
          with_reducible exact w
      · have w := w.2.2.2.2.2.2.1 h
        refine E_look 381 dX0_valueOf_181 (by decide) (by rw [h] <;> rfl) rfl ?_
        refine E_aload_n 382 dX0_valueOf_381 rfl (ac_67.bnd) rfl ?_
        refine E_getL 385 dX0_valueOf_382 fl_X0_17 ac_67 rfl (by decide) lay_67_1 rfl ?_
        refine E_iload 387 dX0_valueOf_385 rfl rfl ?_
        refine E_iconst 388 dX0_valueOf_387 (by decide) rfl ?_
        refine E_isub 389 dX0_valueOf_388 rfl ?_
        refine E_iload 391 dX0_valueOf_389 rfl rfl ?_
        refine E_iload 393 dX0_valueOf_391 rfl rfl ?_
        refine E_icmp_le 396 400 dX0_valueOf_393 rfl rfl (fun h => ?_) (fun h => ?_)
        · have w := w.1 h
          refine E_iconst 401 dX0_valueOf_400 (by decide) rfl ?_
          refine E_iast 402 dX0_valueOf_401 ac_69 c1 rfl ?_
          refine XX.fg [6, 8, 9] [(2, 67), (2, q1), (9, 0), (0, x3), (0, w32 (x4 + (-1))), (0, x5), (9, 0), (9, 0), (9, 0), (9, 0)] rfl ?_
          with_reducible exact w
        · have w := w.2 h
          refine E_iconst 397 dX0_valueOf_396 (by decide) rfl ?_
          refine E_goto 401 dX0_valueOf_397 rfl ?_
          refine E_iast 402 dX0_valueOf_401 ac_69 c1 rfl ?_
          refine XX.fg [6, 8, 9] [(2, 67), (2, q1), (9, 0), (0, x3), (0, w32 (x4 + (-1))), (0, x5), (9, 0), (9, 0), (9, 0), (9, 0)] rfl ?_
          with_reducible exact w
      · have w := w.2.2.2.2.2.2.2.1 h
        refine E_look 405 dX0_valueOf_181 (by decide) (by rw [h] <;> rfl) rfl ?_
        refine E_aload_n 406 dX0_valueOf_405 rfl (ac_67.bnd) rfl ?_
        refine E_getL 409 dX0_valueOf_406 fl_X0_17 ac_67 rfl (by decide) lay_67_1 rfl ?_
        refine E_iload 411 dX0_valueOf_409 rfl rfl ?_
        refine E_iconst 412 dX0_valueOf_411 (by decide) rfl ?_
        refine E_isub 413 dX0_valueOf_412 rfl ?_
        refine E_iload 415 dX0_valueOf_413 rfl rfl ?_
        refine E_iload 417 dX0_valueOf_415 rfl rfl ?_
        refine E_iand 418 dX0_valueOf_417 rfl ?_
        refine E_iast 419 dX0_valueOf_418 ac_69 c1 rfl ?_
        refine E_goto 436 dX0_valueOf_419 rfl ?_
        refine XX.fg [6, 8, 9] [(2, 67), (2, q1), (9, 0), (0, x3), (0, w32 (x4 + (-1))), (0, x5), (9, 0), (9, 0), (9, 0), (9, 0)] rfl ?_
        with_reducible exact w
      · have w := w.2.2.2.2.2.2.2.2 h
        refine E_look (off := 241) 422 dX0_valueOf_181 (by decide) (by have hh : 42 ≠ w32 (-x6) ∧ 43 ≠ w32 (-x6) ∧ 45 ≠ w32 (-x6) ∧ 47 ≠ w32 (-x6) ∧ 60 ≠ w32 (-x6) ∧ 61 ≠ w32 (-x6) ∧ 62 ≠ w32 (-x6) ∧ 259 ≠ w32 (-x6) := (by omega); simp [Op.lookupswitch.offset, hh]) rfl ?_
        refine E_aload_n 423 dX0_valueOf_422 rfl (ac_67.bnd) rfl ?_
        refine E_getL 426 dX0_valueOf_423 fl_X0_17 ac_67 rfl (by decide) lay_67_1 rfl ?_
        refine E_iload 428 dX0_valueOf_426 rfl rfl ?_
        refine E_iconst 429 dX0_valueOf_428 (by decide) rfl ?_
        refine E_isub 430 dX0_valueOf_429 rfl ?_
        refine E_iload 432 dX0_valueOf_430 rfl rfl ?_
        refine E_iload 434 dX0_valueOf_432 rfl rfl ?_
        refine E_ior 435 dX0_valueOf_434 rfl ?_
        refine E_iast 436 dX0_valueOf_435 ac_69 c1 rfl ?_
        refine XX.fg [6, 8, 9] [(2, 67), (2, q1), (9, 0), (0, x3), (0, w32 (x4 + (-1))), (0, x5), (9, 0), (9, 0), (9, 0), (9, 0)] rfl ?_
        with_reducible exact w
    · have w := w.2 h
      refine E_goto 436 dX0_valueOf_152 rfl ?_
      refine XX.fg [6] [(2, 67), (2, q1), (9, 0), (0, x3), (0, x4), (0, x5), (9, 0), (9, 0), (9, 0), (9, 0)] rfl ?_
      with_reducible exact w
theorem B_X0_valueOf_330 {g : PG} {d : Nat} {σ : PS} {Q : Int → PS → Prop} {x3 x4 x5 q1 : Int} (hq1 : LinAt q1) (w : (XX g true d P_X0_valueOf 436 [(2, 67), (2, q1), (9, 0), (0, x3), (0, x4), (0, x5), (9, 0), (9, 0), (9, 0), (9, 0)] [] 136 σ 136 Q)) : XX g true d P_X0_valueOf 330 [(2, 67), (2, q1), (9, 0), (0, x3), (0, x4), (0, x5), (9, 0), (9, 0), (9, 0), (9, 0)] [] 136 σ 136 Q := by
  refine E_goto 436 dX0_valueOf_330 rfl ?_
  with_reducible exact w
theorem B_X0_valueOf_354 {g : PG} {d : Nat} {σ : PS} {Q : Int → PS → Prop} {x3 x4 x5 q1 : Int} (hq1 : LinAt q1) (w : (XX g true d P_X0_valueOf 436 [(2, 67), (2, q1), (9, 0), (0, x3), (0, x4), (0, x5), (9, 0), (9, 0), (9, 0), (9, 0)] [] 136 σ 136 Q)) : XX g true d P_X0_valueOf 354 [(2, 67), (2, q1), (9, 0), (0, x3), (0, x4), (0, x5), (9, 0), (9, 0), (9, 0), (9, 0)] [] 136 σ 136 Q := by
  refine E_goto 436 dX0_valueOf_354 rfl ?_
  with_reducible exact w
theorem B_X0_valueOf_378 {g : PG} {d : Nat} {σ : PS} {Q : Int → PS → Prop} {x3 x4 x5 q1 : Int} (hq1 : LinAt q1) (w : (XX g true d P_X0_valueOf 436 [(2, 67), (2, q1), (9, 0), (0, x3), (0, x4), (0, x5), (9, 0), (9, 0), (9, 0), (9, 0)] [] 136 σ 136 Q)) : XX g true d P_X0_valueOf 378 [(2, 67), (2, q1), (9, 0), (0, x3), (0, x4), (0, x5), (9, 0), (9, 0), (9, 0), (9, 0)] [] 136 σ 136 Q := by
  refine E_goto 436 dX0_valueOf_378 rfl ?_
  with_reducible exact w
theorem B_X0_valueOf_402 {g : PG} {d : Nat} {σ : PS} {Q : Int → PS → Prop} {x3 x4 x5 q1 : Int} (hq1 : LinAt q1) (w : (XX g true d P_X0_valueOf 436 [(2, 67), (2, q1), (9, 0), (0, x3), (0, x4), (0, x5), (9, 0), (9, 0), (9, 0), (9, 0)] [] 136 σ 136 Q)) : XX g true d P_X0_valueOf 402 [(2, 67), (2, q1), (9, 0), (0, x3), (0, x4), (0, x5), (9, 0), (9, 0), (9, 0), (9, 0)] [] 136 σ 136 Q := by
  refine E_goto 436 dX0_valueOf_402 rfl ?_
  with_reducible exact w
theorem B_X1_clear_0 {g : PG} {d : Nat} {σ : PS} {Q : Int → PS → Prop} {q0 : Int} (hq0 : BrkAt q0) (w : XX g true d P_J7_fill_53178 0 [(2, q0 + 1), (0, 9), (9, 0), (9, 0)] [] 136 σ 136 (fun _ σ1 => Q 0 σ1)) : XX g true (d + 1) P_X1_clear 0 [(2, q0)] [] 136 σ 136 Q := by
  refine E_aload_n 1 dX1_clear_0 rfl (BrkB hq0) rfl ?_
  refine E_getL 4 dX1_clear_1 fl_X1_9 (BrkF0 hq0) rfl (by decide) (BrkL0 hq0) rfl ?_
  refine E_bipush 6 dX1_clear_4 (by decide) rfl ?_
  refine E_callS (as := [(2, q0 + 1), (0, 9)]) 9 dX1_clear_6 cf_J7_fill_53178 (Or.inl mw_210) mw_211 rfl rfl (Nat.le_of_ble_eq_true rfl) (Nat.le_of_ble_eq_true rfl) ⟨Nat.le_refl _, Nat.le_refl _⟩ rfl (w.mono (fun r2 σ1 w => ?_))
  show XX g true (d + 1) P_X1_clear 9 [(2, q0)] [] 136 σ1 136 Q
  exact E_vret dX1_clear_9 rfl rfl w
theorem B_X1_addAny_0 {g : PG} {d : Nat} {σ : PS} {Q : Int → PS → Prop} {x1 x2 q0 : Int} (hq0 : BrkAt q0) (w : (XX g true (d + 1) P_X1_addAny 2 [(2, q0), (0, x1), (0, x2), (0, 0), (9, 0)] [] 136 σ 136 Q)) : XX g true (d + 1) P_X1_addAny 0 [(2, q0), (0, x1), (0, x2), (9, 0), (9, 0)] [] 136 σ 136 Q := by
  refine E_iconst 1 dX1_addAny_0 (by decide) rfl ?_
  refine E_istore_n (ls' := [(2, q0), (0, x1), (0, x2), (0, 0), (9, 0)]) 2 dX1_addAny_1 (by decide) rfl rfl ?_
  with_reducible exact w
theorem B_X1_addAny_2 {g : PG} {d : Nat} {σ : PS} {Q : Int → PS → Prop} {x1 x2 x3 q0 : Int} (hq0 : BrkAt q0) (w : ((255 < x3 → Q 0 σ) ∧ (x3 ≤ 255 → (XX g true (d + 1) P_X1_addAny 12 [(2, q0), (0, x1), (0, x2), (0, x3), (0, x1)] [] 136 σ 136 Q)))) : XX g true (d + 1) P_X1_addAny 2 [(2, q0), (0, x1), (0, x2), (0, x3), (9, 0)] [] 136 σ 136 Q := by
  refine E_iload_n 3 dX1_addAny_2 rfl rfl ?_
  refine E_sipush 6 dX1_addAny_3 (by decide) rfl ?_
  refine E_icmp_gt 9 64 dX1_addAny_6 rfl rfl (fun h => ?_) (fun h => ?_)
  · have w := w.1 h
    exact E_vret dX1_addAny_64 rfl rfl w
  · have w := w.2 h
    refine E_iload_n 10 dX1_addAny_9 rfl rfl ?_
    refine E_istore (ls' := [(2, q0), (0, x1), (0, x2), (0, x3), (0, x1)]) 12 dX1_addAny_10 (by decide) rfl rfl ?_
    with_reducible exact w
theorem B_X1_addAny_12 {g : PG} {d : Nat} {σ : PS} {Q : Int → PS → Prop} {x1 x2 x3 x4 q0 : Int} (hq0 : BrkAt q0) (w : ((x2 < x4 → (XX g true (d + 1) P_X1_addAny 2 [(2, q0), (0, x1), (0, x2), (0, w32 (x3 + 1)), (9, 0)] [] 136 σ 136 Q)) ∧ (x4 ≤ x2 → (0 ≤ x3 ∧ x3 < 256) ∧ ((σ (q0 + 1) x3 ≤ x4 → (XX g true (d + 1) P_X1_addAny 2 [(2, q0), (0, x1), (0, x2), (0, w32 (x3 + 1)), (9, 0)] [] 136 σ 136 Q)) ∧ (x4 < σ (q0 + 1) x3 → XX g true d P_J6_bitCount_0f7a4 0 [(0, iand x3 (w32 ((ishl 1 x4) - 1)))] [] 136 σ 136 (fun r3 σ2 => ((r3 < x1 → (XX g true (d + 1) P_X1_addAny 12 [(2, q0), (0, x1), (0, x2), (0, x3), (0, w32 (x4 + 1))] [] 136 σ2 136 Q)) ∧ (x1 ≤ r3 → (XX g true (d + 1) P_X1_addAny 12 [(2, q0), (0, x1), (0, x2), (0, x3), (0, w32 (x4 + 1))] [] 136 (su σ2 (q0 + 1) x3 x4) 136 Q))))))))) : XX g true (d + 1) P_X1_addAny 12 [(2, q0), (0, x1), (0, x2), (0, x3), (0, x4)] [] 136 σ 136 Q := by
  refine E_iload 14 dX1_addAny_12 rfl rfl ?_
  refine E_iload_n 15 dX1_addAny_14 rfl rfl ?_
  refine E_icmp_gt 18 58 dX1_addAny_15 rfl rfl (fun h => ?_) (fun h => ?_)
  · have w := w.1 h
    refine E_iinc (ls' := [(2, q0), (0, x1), (0, x2), (0, w32 (x3 + 1)), (0, x4)]) 61 dX1_addAny_58 (by decide) rfl rfl rfl ?_
    refine E_goto 2 dX1_addAny_61 rfl ?_
    refine XX.fg [4] [(2, q0), (0, x1), (0, x2), (0, w32 (x3 + 1)), (9, 0)] rfl ?_
    with_reducible exact w
  · have w := w.2 h
    refine E_iload 20 dX1_addAny_18 rfl rfl ?_
    refine E_aload_n 21 dX1_addAny_20 rfl (BrkB hq0) rfl ?_
    refine E_getL 24 dX1_addAny_21 fl_X1_9 (BrkF0 hq0) rfl (by decide) (BrkL0 hq0) rfl ?_
    refine E_iload_n 25 dX1_addAny_24 rfl rfl ?_
    obtain ⟨c1, w⟩ := w
    refine E_iald 26 dX1_addAny_25 (BrkF1 hq0) c1 rfl ?_
    refine E_icmp_ge 29 58 dX1_addAny_26 rfl rfl (fun h => ?_) (fun h => ?_)
    · have w := w.1 h
      refine E_iinc (ls' := [(2, q0), (0, x1), (0, x2), (0, w32 (x3 + 1)), (0, x4)]) 61 dX1_addAny_58 (by decide) rfl rfl rfl ?_
      refine E_goto 2 dX1_addAny_61 rfl ?_
      refine XX.fg [4] [(2, q0), (0, x1), (0, x2), (0, w32 (x3 + 1)), (9, 0)] rfl ?_
      with_reducible exact w
    · have w := w.2 h
      refine E_iload_n 30 dX1_addAny_29 rfl rfl ?_
      refine E_iconst 31 dX1_addAny_30 (by decide) rfl ?_
      refine E_iload 33 dX1_addAny_31 rfl rfl ?_
      refine E_ishl 34 dX1_addAny_33 rfl ?_
      refine E_iconst 35 dX1_addAny_34 (by decide) rfl ?_
      refine E_isub 36 dX1_addAny_35 rfl ?_
      refine E_iand 37 dX1_addAny_36 rfl ?_
      refine E_callS (as := [(0, iand x3 (w32 ((ishl 1 x4) - 1)))]) 40 dX1_addAny_37 cf_J6_bitCount_0f7a4 (Or.inl mw_713) mw_714 rfl rfl (Nat.le_of_ble_eq_true rfl) (Nat.le_of_ble_eq_true rfl) ⟨Nat.le_refl _, Nat.le_refl _⟩ rfl (w.mono (fun r3 σ2 w => ?_))
      show XX g true (d + 1) P_X1_addAny 40 [(2, q0), (0, x1), (0, x2), (0, x3), (0, x4)] [(0, r3)] 136 σ2 136 Q
      refine E_iload_n 41 dX1_addAny_40 rfl rfl ?_
      refine E_icmp_lt 44 52 dX1_addAny_41 rfl rfl (fun h => ?_) (fun h => ?_)
      · have w := w.1 h
        refine E_iinc (ls' := [(2, q0), (0, x1), (0, x2), (0, x3), (0, w32 (x4 + 1))]) 55 dX1_addAny_52 (by decide) rfl rfl rfl ?_
        refine E_goto 12 dX1_addAny_55 rfl ?_
        with_reducible exact w
      · have w := w.2 h
        refine E_aload_n 45 dX1_addAny_44 rfl (BrkB hq0) rfl ?_
        refine E_getL 48 dX1_addAny_45 fl_X1_9 (BrkF0 hq0) rfl (by decide) (BrkL0 hq0) rfl ?_
        refine E_iload_n 49 dX1_addAny_48 rfl rfl ?_
        refine E_iload 51 dX1_addAny_49 rfl rfl ?_
        refine E_iast 52 dX1_addAny_51 (BrkF1 hq0) c1 rfl ?_
        refine E_iinc (ls' := [(2, q0), (0, x1), (0, x2), (0, x3), (0, w32 (x4 + 1))]) 55 dX1_addAny_52 (by decide) rfl rfl rfl ?_
        refine E_goto 12 dX1_addAny_55 rfl ?_
        with_reducible exact w
theorem B_X1_addShape_0 {g : PG} {d : Nat} {σ : PS} {Q : Int → PS → Prop} {x1 x2 x3 q0 : Int} (hq0 : BrkAt q0) (w : (XX g true d P_X1_addShape 3 [(2, q0), (0, x1), (0, x2), (0, x3), (0, 0)] [] 136 σ 136 Q)) : XX g true d P_X1_addShape 0 [(2, q0), (0, x1), (0, x2), (0, x3), (9, 0)] [] 136 σ 136 Q := by
  refine E_iconst 1 dX1_addShape_0 (by decide) rfl ?_
  refine E_istore (ls' := [(2, q0), (0, x1), (0, x2), (0, x3), (0, 0)]) 3 dX1_addShape_1 (by decide) rfl rfl ?_
  with_reducible exact w
theorem B_X1_addShape_3 {g : PG} {d : Nat} {σ : PS} {Q : Int → PS → Prop} {x1 x2 x3 x4 q0 : Int} (hq0 : BrkAt q0) (w : ((255 < x4 → Q 0 σ) ∧ (x4 ≤ 255 → ((iand x4 x2 ≠ x3 → (XX g true d P_X1_addShape 3 [(2, q0), (0, x1), (0, x2), (0, x3), (0, w32 (x4 + 1))] [] 136 σ 136 Q)) ∧ (iand x4 x2 = x3 → (0 ≤ x4 ∧ x4 < 256) ∧ ((σ (q0 + 1) x4 ≤ x1 → (XX g true d P_X1_addShape 3 [(2, q0), (0, x1), (0, x2), (0, x3), (0, w32 (x4 + 1))] [] 136 σ 136 Q)) ∧ (x1 < σ (q0 + 1) x4 → (XX g true d P_X1_addShape 3 [(2, q0), (0, x1), (0, x2), (0, x3), (0, w32 (x4 + 1))] [] 136 (su σ (q0 + 1) x4 x1) 136 Q)))))))) : XX g true d P_X1_addShape 3 [(2, q0), (0, x1), (0, x2), (0, x3), (0, x4)] [] 136 σ 136 Q := by
  refine E_iload 5 dX1_addShape_3 rfl rfl ?_
  refine E_sipush 8 dX1_addShape_5 (by decide) rfl ?_
  refine E_icmp_gt 11 44 dX1_addShape_8 rfl rfl (fun h => ?_) (fun h => ?_)
  · have w := w.1 h
    exact E_vret dX1_addShape_44 rfl rfl w
  · have w := w.2 h
    refine E_iload 13 dX1_addShape_11 rfl rfl ?_
    refine E_iload_n 14 dX1_addShape_13 rfl rfl ?_
    refine E_iand 15 dX1_addShape_14 rfl ?_
    refine E_iload_n 16 dX1_addShape_15 rfl rfl ?_
    refine E_icmp_ne 19 38 dX1_addShape_16 rfl rfl (fun h => ?_) (fun h => ?_)
    · have w := w.1 h
      refine E_iinc (ls' := [(2, q0), (0, x1), (0, x2), (0, x3), (0, w32 (x4 + 1))]) 41 dX1_addShape_38 (by decide) rfl rfl rfl ?_
      refine E_goto 3 dX1_addShape_41 rfl ?_
      with_reducible exact w
    · have w := w.2 h
      refine E_iload_n 20 dX1_addShape_19 rfl rfl ?_
      refine E_aload_n 21 dX1_addShape_20 rfl (BrkB hq0) rfl ?_
      refine E_getL 24 dX1_addShape_21 fl_X1_9 (BrkF0 hq0) rfl (by decide) (BrkL0 hq0) rfl ?_
      refine E_iload 26 dX1_addShape_24 rfl rfl ?_
      obtain ⟨c1, w⟩ := w
      refine E_iald 27 dX1_addShape_26 (BrkF1 hq0) c1 rfl ?_
      refine E_icmp_ge 30 38 dX1_addShape_27 rfl rfl (fun h => ?_) (fun h => ?_)
      · have w := w.1 h
        refine E_iinc (ls' := [(2, q0), (0, x1), (0, x2), (0, x3), (0, w32 (x4 + 1))]) 41 dX1_addShape_38 (by decide) rfl rfl rfl ?_
        refine E_goto 3 dX1_addShape_41 rfl ?_
        with_reducible exact w
      · have w := w.2 h
        refine E_aload_n 31 dX1_addShape_30 rfl (BrkB hq0) rfl ?_
        refine E_getL 34 dX1_addShape_31 fl_X1_9 (BrkF0 hq0) rfl (by decide) (BrkL0 hq0) rfl ?_
        refine E_iload 36 dX1_addShape_34 rfl rfl ?_
        refine E_iload_n 37 dX1_addShape_36 rfl rfl ?_
        refine E_iast 38 dX1_addShape_37 (BrkF1 hq0) c1 rfl ?_
        refine E_iinc (ls' := [(2, q0), (0, x1), (0, x2), (0, x3), (0, w32 (x4 + 1))]) 41 dX1_addShape_38 (by decide) rfl rfl rfl ?_
        refine E_goto 3 dX1_addShape_41 rfl ?_
        with_reducible exact w
theorem B_X1_isMet_0 {g : PG} {d : Nat} {σ : PS} {Q : Int → PS → Prop} {x1 x2 q0 : Int} (hq0 : BrkAt q0) (w : (0 ≤ iand x1 255 ∧ iand x1 255 < 256) ∧ ((x2 < σ (q0 + 1) (iand x1 255) → Q 0 σ) ∧ (σ (q0 + 1) (iand x1 255) ≤ x2 → Q 1 σ))) : XX g true d P_X1_isMet 0 [(2, q0), (0, x1), (0, x2)] [] 136 σ 136 Q := by
  refine E_aload_n 1 dX1_isMet_0 rfl (BrkB hq0) rfl ?_
  refine E_getL 4 dX1_isMet_1 fl_X1_9 (BrkF0 hq0) rfl (by decide) (BrkL0 hq0) rfl ?_
  refine E_iload_n 5 dX1_isMet_4 rfl rfl ?_
  refine E_sipush 8 dX1_isMet_5 (by decide) rfl ?_
  refine E_iand 9 dX1_isMet_8 rfl ?_
  obtain ⟨c1, w⟩ := w
  refine E_iald 10 dX1_isMet_9 (BrkF1 hq0) c1 rfl ?_
  refine E_iload_n 11 dX1_isMet_10 rfl rfl ?_
  refine E_icmp_gt 14 18 dX1_isMet_11 rfl rfl (fun h => ?_) (fun h => ?_)
  · have w := w.1 h
    refine E_iconst 19 dX1_isMet_18 (by decide) rfl ?_
    exact E_zret dX1_isMet_19 rfl rfl (Or.inl rfl) w
  · have w := w.2 h
    refine E_iconst 15 dX1_isMet_14 (by decide) rfl ?_
    refine E_goto 19 dX1_isMet_15 rfl ?_
    exact E_zret dX1_isMet_19 rfl rfl (Or.inr rfl) w
theorem B_X1_breaksRow_0 {g : PG} {d : Nat} {σ : PS} {Q : Int → PS → Prop} {x1 x3 q0 : Int} (hq0 : BrkAt q0) (w : (XX g true (d + 1) P_X1_breaksRow 6 [(2, q0), (1, x1), (9, 0), (0, x3), (0, 0), (0, 0)] [] 136 σ 136 Q)) : XX g true (d + 1) P_X1_breaksRow 0 [(2, q0), (1, x1), (9, 0), (0, x3), (9, 0), (9, 0)] [] 136 σ 136 Q := by
  refine E_iconst 1 dX1_breaksRow_0 (by decide) rfl ?_
  refine E_istore (ls' := [(2, q0), (1, x1), (9, 0), (0, x3), (0, 0), (9, 0)]) 3 dX1_breaksRow_1 (by decide) rfl rfl ?_
  refine E_iconst 4 dX1_breaksRow_3 (by decide) rfl ?_
  refine E_istore (ls' := [(2, q0), (1, x1), (9, 0), (0, x3), (0, 0), (0, 0)]) 6 dX1_breaksRow_4 (by decide) rfl rfl ?_
  with_reducible exact w
theorem B_X1_breaksRow_6 {g : PG} {d : Nat} {σ : PS} {Q : Int → PS → Prop} {x1 x3 x4 x5 q0 : Int} (hq0 : BrkAt q0) (w : ((x3 ≤ x5 → Q 0 σ) ∧ (x5 < x3 → XX g true d P_X11_bit 0 [(1, x1), (9, 0), (0, x5)] [] 136 σ 136 (fun r2 σ1 => ∀ y3, y3 = iand (ior (ishl x4 1) r2) 255 → XX g true d P_X1_isMet 0 [(2, q0), (0, y3), (0, imin (w32 (x5 + 1)) 8)] [] 136 σ1 136 (fun r5 σ4 => ((r5 = 0 → (XX g true (d + 1) P_X1_breaksRow 6 [(2, q0), (1, x1), (9, 0), (0, x3), (0, y3), (0, w32 (x5 + 1))] [] 136 σ4 136 Q)) ∧ (r5 ≠ 0 → Q 1 σ4))))))) : XX g true (d + 1) P_X1_breaksRow 6 [(2, q0), (1, x1), (9, 0), (0, x3), (0, x4), (0, x5)] [] 136 σ 136 Q := by
  refine E_iload 8 dX1_breaksRow_6 rfl rfl ?_
  refine E_iload_n 9 dX1_breaksRow_8 rfl rfl ?_
  refine E_icmp_ge 12 55 dX1_breaksRow_9 rfl rfl (fun h => ?_) (fun h => ?_)
  · have w := w.1 h
    refine E_iconst 56 dX1_breaksRow_55 (by decide) rfl ?_
    exact E_zret dX1_breaksRow_56 rfl rfl (Or.inl rfl) w
  · have w := w.2 h
    refine E_iload 14 dX1_breaksRow_12 rfl rfl ?_
    refine E_iconst 15 dX1_breaksRow_14 (by decide) rfl ?_
    refine E_ishl 16 dX1_breaksRow_15 rfl ?_
    refine E_lload_n 17 dX1_breaksRow_16 rfl rfl ?_
    refine E_iload 19 dX1_breaksRow_17 rfl rfl ?_
    refine E_callS (as := [(1, x1), (0, x5)]) 22 dX1_breaksRow_19 cf_X11_bit (Or.inr nst_X1_28) mw_809 rfl rfl (Nat.le_of_ble_eq_true rfl) (Nat.le_of_ble_eq_true rfl) ⟨Nat.le_refl _, Nat.le_refl _⟩ rfl (w.mono (fun r2 σ1 w => ?_))
    show XX g true (d + 1) P_X1_breaksRow 22 [(2, q0), (1, x1), (9, 0), (0, x3), (0, x4), (0, x5)] [(0, r2), (0, ishl x4 1)] 136 σ1 136 Q
    refine E_ior 23 dX1_breaksRow_22 rfl ?_
    refine E_sipush 26 dX1_breaksRow_23 (by decide) rfl ?_
    refine E_iand 27 dX1_breaksRow_26 rfl ?_
    refine E_top (fun y3 hy3 => ?_)
    have w := w y3 hy3
    refine E_istore (ls' := [(2, q0), (1, x1), (9, 0), (0, x3), (0, y3), (0, x5)]) 29 dX1_breaksRow_27 (by decide) rfl rfl ?_
    refine E_aload_n 30 dX1_breaksRow_29 rfl (BrkB hq0) rfl ?_
    refine E_iload 32 dX1_breaksRow_30 rfl rfl ?_
    refine E_iload 34 dX1_breaksRow_32 rfl rfl ?_
    refine E_iconst 35 dX1_breaksRow_34 (by decide) rfl ?_
    refine E_iadd 36 dX1_breaksRow_35 rfl ?_
    refine E_bipush 38 dX1_breaksRow_36 (by decide) rfl ?_
    refine E_mmin 41 dX1_breaksRow_38 mw_868 (Nat.le_of_ble_eq_true rfl) (Nat.le_refl _) rfl ?_
    refine E_callV (as := [(0, y3), (0, imin (w32 (x5 + 1)) 8)]) 44 dX1_breaksRow_41 cf_X1_isMet mw_869 mw_870 mw_871 (BrkF0 hq0) (by decide) cl_X1 rfl rfl (Nat.le_of_ble_eq_true rfl) (Nat.le_of_ble_eq_true rfl) ⟨Nat.le_refl _, Nat.le_refl _⟩ rfl (w.mono (fun r5 σ4 w => ?_))
    show XX g true (d + 1) P_X1_breaksRow 44 [(2, q0), (1, x1), (9, 0), (0, x3), (0, y3), (0, x5)] [(0, r5)] 136 σ4 136 Q
    refine E_if_eq 47 49 dX1_breaksRow_44 rfl rfl (fun h => ?_) (fun h => ?_)
    · have w := w.1 h
      refine E_iinc (ls' := [(2, q0), (1, x1), (9, 0), (0, x3), (0, y3), (0, w32 (x5 + 1))]) 52 dX1_breaksRow_49 (by decide) rfl rfl rfl ?_
      refine E_goto 6 dX1_breaksRow_52 rfl ?_
      with_reducible exact w
    · have w := w.2 h
      refine E_iconst 48 dX1_breaksRow_47 (by decide) rfl ?_
      exact E_zret dX1_breaksRow_48 rfl rfl (Or.inr rfl) w
theorem B_X1_copy_0 {g : PG} {d : Nat} {σ : PS} {Q : Int → PS → Prop} {q0 q1 : Int} (hq0 : BrkAt q0) (hq1 : BrkAt q1) (w : ((0 : Int) ≤ 0 ∧ (0 : Int) ≤ 256 ∧ (0 : Int) + 256 ≤ 256) ∧ ((0 : Int) ≤ 0 ∧ (0 : Int) + 256 ≤ 256) ∧ Q 0 (cpS σ (q1 + 1) 0 (q0 + 1) 0 256)) : XX g true (d + 1) P_X1_copy 0 [(2, q0), (2, q1)] [] 136 σ 136 Q := by
  refine E_aload_n 1 dX1_copy_0 rfl (BrkB hq1) rfl ?_
  refine E_getL 4 dX1_copy_1 fl_X1_9 (BrkF0 hq1) rfl (by decide) (BrkL0 hq1) rfl ?_
  refine E_iconst 5 dX1_copy_4 (by decide) rfl ?_
  refine E_aload_n 6 dX1_copy_5 rfl (BrkB hq0) rfl ?_
  refine E_getL 9 dX1_copy_6 fl_X1_9 (BrkF0 hq0) rfl (by decide) (BrkL0 hq0) rfl ?_
  refine E_iconst 10 dX1_copy_9 (by decide) rfl ?_
  refine E_aload_n 11 dX1_copy_10 rfl (BrkB hq0) rfl ?_
  refine E_getL 14 dX1_copy_11 fl_X1_9 (BrkF0 hq0) rfl (by decide) (BrkL0 hq0) rfl ?_
  refine E_alen 256 15 dX1_copy_14 (BrkF1 hq0) (by decide) (by decide) rfl rfl ?_
  obtain ⟨c1, w⟩ := w
  obtain ⟨c2, w⟩ := w
  refine E_copy 18 dX1_copy_15 mw_787 mw_789 mw_788 mw_127 (BrkF1 hq1) (BrkF1 hq0) c1 c2 (Nat.le_of_ble_eq_true rfl) rfl ?_
  exact E_vret dX1_copy_18 rfl rfl w
theorem B_X2_passDay_0 {g : PG} {d : Nat} {σ : PS} {Q : Int → PS → Prop} {q1 q2 q3 : Int} (hq1 : RowAt q1) (hq2 : TxtAt q2) (hq3 : LinAt q3) (w : (XX g true (d + 1) P_X2_passDay 3 [(2, 83), (2, q1), (2, q2), (2, q3), (0, 0)] [] 136 σ 136 Q)) : XX g true (d + 1) P_X2_passDay 0 [(2, 83), (2, q1), (2, q2), (2, q3), (9, 0)] [] 136 σ 136 Q := by
  refine E_iconst 1 dX2_passDay_0 (by decide) rfl ?_
  refine E_istore (ls' := [(2, 83), (2, q1), (2, q2), (2, q3), (0, 0)]) 3 dX2_passDay_1 (by decide) rfl rfl ?_
  with_reducible exact w
theorem B_X2_passDay_3 {g : PG} {d : Nat} {σ : PS} {Q : Int → PS → Prop} {x4 q1 q2 q3 : Int} (hq1 : RowAt q1) (hq2 : TxtAt q2) (hq3 : LinAt q3) (w : ((σ q1 0 ≤ x4 → (XX g true (d + 1) P_X2_passDay 52 [(2, 83), (2, q1), (2, q2), (2, q3), (0, 0)] [] 136 σ 136 Q)) ∧ (x4 < σ q1 0 → XX g true d P_X11_besideIn 0 [(1, σ q1 5), (9, 0), (0, x4)] [] 136 σ 136 (fun r2 σ1 => XX g true d P_X0_goes 0 [(2, 67), (2, q1), (2, q2 + 1), (0, x4), (0, r2), (0, 0)] [] 136 σ1 136 (fun r4 σ3 => (0 ≤ x4 ∧ x4 < 60) ∧ (XX g true (d + 1) P_X2_passDay 3 [(2, 83), (2, q1), (2, q2), (2, q3), (0, w32 (x4 + 1))] [] 136 (su σ3 84 x4 r4) 136 Q)))))) : XX g true (d + 1) P_X2_passDay 3 [(2, 83), (2, q1), (2, q2), (2, q3), (0, x4)] [] 136 σ 136 Q := by
  refine E_iload 5 dX2_passDay_3 rfl rfl ?_
  refine E_aload_n 6 dX2_passDay_5 rfl (RowB hq1) rfl ?_
  refine E_get 0 9 dX2_passDay_6 fl_X2_24 (RowF0 hq1) rfl (by decide) rfl rfl ?_
  refine E_icmp_ge 12 49 dX2_passDay_9 rfl rfl (fun h => ?_) (fun h => ?_)
  · have w := w.1 h
    refine E_iconst 50 dX2_passDay_49 (by decide) rfl ?_
    refine E_istore (ls' := [(2, 83), (2, q1), (2, q2), (2, q3), (0, 0)]) 52 dX2_passDay_50 (by decide) rfl rfl ?_
    with_reducible exact w
  · have w := w.2 h
    refine E_aload_n 13 dX2_passDay_12 rfl (ac_83.bnd) rfl ?_
    refine E_getL 16 dX2_passDay_13 fl_X2_11 ac_83 rfl (by decide) lay_83_1 rfl ?_
    refine E_iload 18 dX2_passDay_16 rfl rfl ?_
    refine E_aload_n 19 dX2_passDay_18 rfl (ac_83.bnd) rfl ?_
    refine E_getL 22 dX2_passDay_19 fl_X2_20 ac_83 rfl (by decide) lay_83_0 rfl ?_
    refine E_aload_n 23 dX2_passDay_22 rfl (RowB hq1) rfl ?_
    refine E_aload_n 24 dX2_passDay_23 rfl (TxtB hq2) rfl ?_
    refine E_getL 27 dX2_passDay_24 fl_X2_28 (TxtF0 hq2) rfl (by decide) (TxtL0 hq2) rfl ?_
    refine E_iload 29 dX2_passDay_27 rfl rfl ?_
    refine E_aload_n 30 dX2_passDay_29 rfl (RowB hq1) rfl ?_
    refine E_get 5 33 dX2_passDay_30 fl_X2_34 (RowF0 hq1) rfl (by decide) rfl rfl ?_
    refine E_iload 35 dX2_passDay_33 rfl rfl ?_
    refine E_callS (as := [(1, σ q1 5), (0, x4)]) 38 dX2_passDay_35 cf_X11_besideIn (Or.inr nst_X2_38) mw_812 rfl rfl (Nat.le_of_ble_eq_true rfl) (Nat.le_of_ble_eq_true rfl) ⟨Nat.le_refl _, Nat.le_refl _⟩ rfl (w.mono (fun r2 σ1 w => ?_))
    show XX g true (d + 1) P_X2_passDay 38 [(2, 83), (2, q1), (2, q2), (2, q3), (0, x4)] [(0, r2), (0, x4), (2, q2 + 1), (2, q1), (2, 67), (0, x4), (2, 84)] 136 σ1 136 Q
    refine E_iconst 39 dX2_passDay_38 (by decide) rfl ?_
    refine E_callV (as := [(2, q1), (2, q2 + 1), (0, x4), (0, r2), (0, 0)]) 42 dX2_passDay_39 cf_X0_goes mw_882 mw_815 mw_816 ac_67 (by decide) cl_X0 rfl rfl (Nat.le_of_ble_eq_true rfl) (Nat.le_of_ble_eq_true rfl) ⟨Nat.le_refl _, Nat.le_refl _⟩ rfl (w.mono (fun r4 σ3 w => ?_))
    show XX g true (d + 1) P_X2_passDay 42 [(2, 83), (2, q1), (2, q2), (2, q3), (0, x4)] [(0, r4), (0, x4), (2, 84)] 136 σ3 136 Q
    obtain ⟨c5, w⟩ := w
    refine E_iast 43 dX2_passDay_42 ac_84 c5 rfl ?_
    refine E_iinc (ls' := [(2, 83), (2, q1), (2, q2), (2, q3), (0, w32 (x4 + 1))]) 46 dX2_passDay_43 (by decide) rfl rfl rfl ?_
    refine E_goto 3 dX2_passDay_46 rfl ?_
    with_reducible exact w
theorem B_X2_passDay_52 {g : PG} {d : Nat} {σ : PS} {Q : Int → PS → Prop} {x4 q1 q2 q3 : Int} (hq1 : RowAt q1) (hq2 : TxtAt q2) (hq3 : LinAt q3) (w : ((σ q1 0 ≤ x4 → XX g true d P_X1_breaksRow 0 [(2, q2 + 13), (1, σ q1 5), (9, 0), (0, σ q1 0), (9, 0), (9, 0)] [] 136 (su σ q1 11 (w32 ((σ q1 11) + 1))) 136 (fun r2 σ1 => ((r2 = 0 → ((σ1 (q1 + 7) 3 ≤ 0 → Q 0 σ1) ∧ (0 < σ1 (q1 + 7) 3 → σ1 (q1 + 7) 3 ≠ 0 ∧ ((irem (σ1 q1 11) (σ1 (q1 + 7) 3) ≠ 0 → Q 0 σ1) ∧ (irem (σ1 q1 11) (σ1 (q1 + 7) 3) = 0 → XX g true d P_X2_come 0 [(2, 83), (2, q1), (2, q3), (9, 0), (9, 0)] [] 136 σ1 136 (fun _ σ4 => Q 0 σ4)))))) ∧ (r2 ≠ 0 → ((σ1 (q1 + 7) 3 ≤ 0 → Q 0 (su (su σ1 q1 12 (w32 ((σ1 q1 12) + 1))) q1 13 (w32 ((σ1 q1 13) + (σ1 (q1 + 7) 5))))) ∧ (0 < σ1 (q1 + 7) 3 → σ1 (q1 + 7) 3 ≠ 0 ∧ ((irem (σ1 q1 11) (σ1 (q1 + 7) 3) ≠ 0 → Q 0 (su (su σ1 q1 12 (w32 ((σ1 q1 12) + 1))) q1 13 (w32 ((σ1 q1 13) + (σ1 (q1 + 7) 5))))) ∧ (irem (σ1 q1 11) (σ1 (q1 + 7) 3) = 0 → XX g true d P_X2_come 0 [(2, 83), (2, q1), (2, q3), (9, 0), (9, 0)] [] 136 (su (su σ1 q1 12 (w32 ((σ1 q1 12) + 1))) q1 13 (w32 ((σ1 q1 13) + (σ1 (q1 + 7) 5)))) 136 (fun _ σ7 => Q 0 σ7))))))))) ∧ (x4 < σ q1 0 → XX g true d P_X11_bit 0 [(1, σ q1 5), (9, 0), (0, x4)] [] 136 σ 136 (fun r10 σ9 => ((r10 ≠ 0 → (XX g true (d + 1) P_X2_passDay 52 [(2, 83), (2, q1), (2, q2), (2, q3), (0, w32 (x4 + 1))] [] 136 σ9 136 Q)) ∧ (r10 = 0 → XX g true d P_X2_wear 0 [(2, 83), (2, q1), (0, x4)] [] 136 σ9 136 (fun _ σ11 => (XX g true (d + 1) P_X2_passDay 52 [(2, 83), (2, q1), (2, q2), (2, q3), (0, w32 (x4 + 1))] [] 136 σ11 136 Q)))))))) : XX g true (d + 1) P_X2_passDay 52 [(2, 83), (2, q1), (2, q2), (2, q3), (0, x4)] [] 136 σ 136 Q := by
  refine E_iload 54 dX2_passDay_52 rfl rfl ?_
  refine E_aload_n 55 dX2_passDay_54 rfl (RowB hq1) rfl ?_
  refine E_get 0 58 dX2_passDay_55 fl_X2_24 (RowF0 hq1) rfl (by decide) rfl rfl ?_
  refine E_icmp_ge 61 86 dX2_passDay_58 rfl rfl (fun h => ?_) (fun h => ?_)
  · have w := w.1 h
    refine E_aload_n 87 dX2_passDay_86 rfl (RowB hq1) rfl ?_
    refine E_dup 88 dX2_passDay_87 n21 rfl ?_
    refine E_get 11 91 dX2_passDay_88 fl_X2_54 (RowF0 hq1) rfl (by decide) rfl rfl ?_
    refine E_iconst 92 dX2_passDay_91 (by decide) rfl ?_
    refine E_iadd 93 dX2_passDay_92 rfl ?_
    refine E_putI 11 96 dX2_passDay_93 fl_X2_54 (RowF0 hq1) rfl (by decide) (Or.inl rfl) rfl rfl ?_
    refine E_aload_n 97 dX2_passDay_96 rfl (TxtB hq2) rfl ?_
    refine E_getL 100 dX2_passDay_97 fl_X2_57 (TxtF0 hq2) rfl (by decide) (TxtL3 hq2) rfl ?_
    refine E_aload_n 101 dX2_passDay_100 rfl (RowB hq1) rfl ?_
    refine E_get 5 104 dX2_passDay_101 fl_X2_34 (RowF0 hq1) rfl (by decide) rfl rfl ?_
    refine E_conv (su_ne (Or.inr (by decide))) ?_
    refine E_aload_n 105 dX2_passDay_104 rfl (RowB hq1) rfl ?_
    refine E_get 0 108 dX2_passDay_105 fl_X2_24 (RowF0 hq1) rfl (by decide) rfl rfl ?_
    refine E_conv (su_ne (Or.inr (by decide))) ?_
    refine E_callV (as := [(1, σ q1 5), (0, σ q1 0)]) 111 dX2_passDay_108 cf_X1_breaksRow mw_894 mw_864 mw_865 (BrkF0 (Txt_breaks hq2)) (by decide) cl_X1 rfl rfl (Nat.le_of_ble_eq_true rfl) (Nat.le_of_ble_eq_true rfl) ⟨Nat.le_refl _, Nat.le_refl _⟩ rfl (w.mono (fun r2 σ1 w => ?_))
    show XX g true (d + 1) P_X2_passDay 111 [(2, 83), (2, q1), (2, q2), (2, q3), (0, x4)] [(0, r2)] 136 σ1 136 Q
    refine E_if_eq 114 139 dX2_passDay_111 rfl rfl (fun h => ?_) (fun h => ?_)
    · have w := w.1 h
      refine E_aload_n 140 dX2_passDay_139 rfl (RowB hq1) rfl ?_
      refine E_getL 143 dX2_passDay_140 fl_X2_73 (RowF0 hq1) rfl (by decide) (RowL9 hq1) rfl ?_
      refine E_iconst 144 dX2_passDay_143 (by decide) rfl ?_
      refine E_iald 145 dX2_passDay_144 (RowF7 hq1) (by decide) rfl ?_
      refine E_if_le 148 168 dX2_passDay_145 rfl rfl (fun h => ?_) (fun h => ?_)
      · have w := w.1 h
        exact E_vret dX2_passDay_168 rfl rfl w
      · have w := w.2 h
        refine E_aload_n 149 dX2_passDay_148 rfl (RowB hq1) rfl ?_
        refine E_get 11 152 dX2_passDay_149 fl_X2_54 (RowF0 hq1) rfl (by decide) rfl rfl ?_
        refine E_aload_n 153 dX2_passDay_152 rfl (RowB hq1) rfl ?_
        refine E_getL 156 dX2_passDay_153 fl_X2_73 (RowF0 hq1) rfl (by decide) (RowL9 hq1) rfl ?_
        refine E_iconst 157 dX2_passDay_156 (by decide) rfl ?_
        refine E_iald 158 dX2_passDay_157 (RowF7 hq1) (by decide) rfl ?_
        obtain ⟨c3, w⟩ := w
        refine E_irem 159 dX2_passDay_158 c3 rfl ?_
        refine E_if_ne 162 168 dX2_passDay_159 rfl rfl (fun h => ?_) (fun h => ?_)
        · have w := w.1 h
          exact E_vret dX2_passDay_168 rfl rfl w
        · have w := w.2 h
          refine E_aload_n 163 dX2_passDay_162 rfl (ac_83.bnd) rfl ?_
          refine E_aload_n 164 dX2_passDay_163 rfl (RowB hq1) rfl ?_
          refine E_aload_n 165 dX2_passDay_164 rfl (LinB hq3) rfl ?_
          refine E_callV (as := [(2, q1), (2, q3)]) 168 dX2_passDay_165 cf_X2_come mw_895 mw_897 mw_26 ac_83 (by decide) cl_X2 rfl rfl (Nat.le_of_ble_eq_true rfl) (Nat.le_of_ble_eq_true rfl) ⟨Nat.le_refl _, Nat.le_refl _⟩ rfl (w.mono (fun r5 σ4 w => ?_))
          show XX g true (d + 1) P_X2_passDay 168 [(2, 83), (2, q1), (2, q2), (2, q3), (0, x4)] [] 136 σ4 136 Q
          exact E_vret dX2_passDay_168 rfl rfl w
    · have w := w.2 h
      refine E_aload_n 115 dX2_passDay_114 rfl (RowB hq1) rfl ?_
      refine E_dup 116 dX2_passDay_115 n21 rfl ?_
      refine E_get 12 119 dX2_passDay_116 fl_X2_67 (RowF0 hq1) rfl (by decide) rfl rfl ?_
      refine E_iconst 120 dX2_passDay_119 (by decide) rfl ?_
      refine E_iadd 121 dX2_passDay_120 rfl ?_
      refine E_putI 12 124 dX2_passDay_121 fl_X2_67 (RowF0 hq1) rfl (by decide) (Or.inl rfl) rfl rfl ?_
      refine E_aload_n 125 dX2_passDay_124 rfl (RowB hq1) rfl ?_
      refine E_dup 126 dX2_passDay_125 n21 rfl ?_
      refine E_get 13 129 dX2_passDay_126 fl_X2_70 (RowF0 hq1) rfl (by decide) rfl rfl ?_
      refine E_conv (su_ne (Or.inr (by decide))) ?_
      refine E_aload_n 130 dX2_passDay_129 rfl (RowB hq1) rfl ?_
      refine E_getL 133 dX2_passDay_130 fl_X2_73 (RowF0 hq1) rfl (by decide) (RowL9 hq1) rfl ?_
      refine E_iconst 134 dX2_passDay_133 (by decide) rfl ?_
      refine E_iald 135 dX2_passDay_134 (RowF7 hq1) (by decide) rfl ?_
      refine E_conv (su_ne (Or.inl (by omega))) ?_
      refine E_iadd 136 dX2_passDay_135 rfl ?_
      refine E_putI 13 139 dX2_passDay_136 fl_X2_70 (RowF0 hq1) rfl (by decide) (Or.inl rfl) rfl rfl ?_
      refine E_aload_n 140 dX2_passDay_139 rfl (RowB hq1) rfl ?_
      refine E_getL 143 dX2_passDay_140 fl_X2_73 (RowF0 hq1) rfl (by decide) (RowL9 hq1) rfl ?_
      refine E_iconst 144 dX2_passDay_143 (by decide) rfl ?_
      refine E_iald 145 dX2_passDay_144 (RowF7 hq1) (by decide) rfl ?_
      refine E_conv ((su_ne (Or.inl (by omega))).trans (su_ne (Or.inl (by omega)))) ?_
      refine E_if_le 148 168 dX2_passDay_145 rfl rfl (fun h => ?_) (fun h => ?_)
      · have w := w.1 h
        exact E_vret dX2_passDay_168 rfl rfl w
      · have w := w.2 h
        refine E_aload_n 149 dX2_passDay_148 rfl (RowB hq1) rfl ?_
        refine E_get 11 152 dX2_passDay_149 fl_X2_54 (RowF0 hq1) rfl (by decide) rfl rfl ?_
        refine E_conv ((su_ne (Or.inr (by decide))).trans (su_ne (Or.inr (by decide)))) ?_
        refine E_aload_n 153 dX2_passDay_152 rfl (RowB hq1) rfl ?_
        refine E_getL 156 dX2_passDay_153 fl_X2_73 (RowF0 hq1) rfl (by decide) (RowL9 hq1) rfl ?_
        refine E_iconst 157 dX2_passDay_156 (by decide) rfl ?_
        refine E_iald 158 dX2_passDay_157 (RowF7 hq1) (by decide) rfl ?_
        refine E_conv ((su_ne (Or.inl (by omega))).trans (su_ne (Or.inl (by omega)))) ?_
        obtain ⟨c6, w⟩ := w
        refine E_irem 159 dX2_passDay_158 c6 rfl ?_
        refine E_if_ne 162 168 dX2_passDay_159 rfl rfl (fun h => ?_) (fun h => ?_)
        · have w := w.1 h
          exact E_vret dX2_passDay_168 rfl rfl w
        · have w := w.2 h
          refine E_aload_n 163 dX2_passDay_162 rfl (ac_83.bnd) rfl ?_
          refine E_aload_n 164 dX2_passDay_163 rfl (RowB hq1) rfl ?_
          refine E_aload_n 165 dX2_passDay_164 rfl (LinB hq3) rfl ?_
          refine E_callV (as := [(2, q1), (2, q3)]) 168 dX2_passDay_165 cf_X2_come mw_895 mw_897 mw_26 ac_83 (by decide) cl_X2 rfl rfl (Nat.le_of_ble_eq_true rfl) (Nat.le_of_ble_eq_true rfl) ⟨Nat.le_refl _, Nat.le_refl _⟩ rfl (w.mono (fun r8 σ7 w => ?_))
          show XX g true (d + 1) P_X2_passDay 168 [(2, 83), (2, q1), (2, q2), (2, q3), (0, x4)] [] 136 σ7 136 Q
          exact E_vret dX2_passDay_168 rfl rfl w
  · have w := w.2 h
    refine E_aload_n 62 dX2_passDay_61 rfl (RowB hq1) rfl ?_
    refine E_get 5 65 dX2_passDay_62 fl_X2_34 (RowF0 hq1) rfl (by decide) rfl rfl ?_
    refine E_iload 67 dX2_passDay_65 rfl rfl ?_
    refine E_callS (as := [(1, σ q1 5), (0, x4)]) 70 dX2_passDay_67 cf_X11_bit (Or.inr nst_X2_47) mw_809 rfl rfl (Nat.le_of_ble_eq_true rfl) (Nat.le_of_ble_eq_true rfl) ⟨Nat.le_refl _, Nat.le_refl _⟩ rfl (w.mono (fun r10 σ9 w => ?_))
    show XX g true (d + 1) P_X2_passDay 70 [(2, 83), (2, q1), (2, q2), (2, q3), (0, x4)] [(0, r10)] 136 σ9 136 Q
    refine E_if_ne 73 80 dX2_passDay_70 rfl rfl (fun h => ?_) (fun h => ?_)
    · have w := w.1 h
      refine E_iinc (ls' := [(2, 83), (2, q1), (2, q2), (2, q3), (0, w32 (x4 + 1))]) 83 dX2_passDay_80 (by decide) rfl rfl rfl ?_
      refine E_goto 52 dX2_passDay_83 rfl ?_
      with_reducible exact w
    · have w := w.2 h
      refine E_aload_n 74 dX2_passDay_73 rfl (ac_83.bnd) rfl ?_
      refine E_aload_n 75 dX2_passDay_74 rfl (RowB hq1) rfl ?_
      refine E_iload 77 dX2_passDay_75 rfl rfl ?_
      refine E_callV (as := [(2, q1), (0, x4)]) 80 dX2_passDay_77 cf_X2_wear mw_884 mw_886 mw_25 ac_83 (by decide) cl_X2 rfl rfl (Nat.le_of_ble_eq_true rfl) (Nat.le_of_ble_eq_true rfl) ⟨Nat.le_refl _, Nat.le_refl _⟩ rfl (w.mono (fun r12 σ11 w => ?_))
      show XX g true (d + 1) P_X2_passDay 80 [(2, 83), (2, q1), (2, q2), (2, q3), (0, x4)] [] 136 σ11 136 Q
      refine E_iinc (ls' := [(2, 83), (2, q1), (2, q2), (2, q3), (0, w32 (x4 + 1))]) 83 dX2_passDay_80 (by decide) rfl rfl rfl ?_
      refine E_goto 52 dX2_passDay_83 rfl ?_
      with_reducible exact w
theorem B_X2_wear_0 {g : PG} {d : Nat} {σ : PS} {Q : Int → PS → Prop} {x2 q1 : Int} (hq1 : RowAt q1) (w : XX g true d P_X7_draw 0 [(2, q1), (0, 1000)] [] 136 σ 136 (fun r2 σ1 => (0 ≤ x2 ∧ x2 < 60) ∧ ((σ1 84 x2 ≤ r2 → ((w32 ((σ1 (q1 + 2) x2) + 1) ≤ σ1 q1 15 → Q 0 (su σ1 (q1 + 2) x2 (w32 ((σ1 (q1 + 2) x2) + 1)))) ∧ (σ1 q1 15 < w32 ((σ1 (q1 + 2) x2) + 1) → Q 0 (su (su (su σ1 (q1 + 2) x2 (w32 ((σ1 (q1 + 2) x2) + 1))) q1 15 (w32 ((σ1 (q1 + 2) x2) + 1))) q1 16 x2)))) ∧ (r2 < σ1 84 x2 → Q 0 (su σ1 q1 5 (lor (σ1 q1 5) (lshl 1 x2))))))) : XX g true (d + 1) P_X2_wear 0 [(2, 83), (2, q1), (0, x2)] [] 136 σ 136 Q := by
  refine E_aload_n 1 dX2_wear_0 rfl (RowB hq1) rfl ?_
  refine E_sipush 4 dX2_wear_1 (by decide) rfl ?_
  refine E_callV (as := [(0, 1000)]) 7 dX2_wear_4 cf_X7_draw mw_888 mw_889 mw_890 (RowF0 hq1) (by decide) cl_X7 rfl rfl (Nat.le_of_ble_eq_true rfl) (Nat.le_of_ble_eq_true rfl) ⟨Nat.le_refl _, Nat.le_refl _⟩ rfl (w.mono (fun r2 σ1 w => ?_))
  show XX g true (d + 1) P_X2_wear 7 [(2, 83), (2, q1), (0, x2)] [(0, r2)] 136 σ1 136 Q
  refine E_aload_n 8 dX2_wear_7 rfl (ac_83.bnd) rfl ?_
  refine E_getL 11 dX2_wear_8 fl_X2_11 ac_83 rfl (by decide) lay_83_1 rfl ?_
  refine E_iload_n 12 dX2_wear_11 rfl rfl ?_
  obtain ⟨c3, w⟩ := w
  refine E_iald 13 dX2_wear_12 ac_84 c3 rfl ?_
  refine E_icmp_ge 16 29 dX2_wear_13 rfl rfl (fun h => ?_) (fun h => ?_)
  · have w := w.1 h
    refine E_aload_n 30 dX2_wear_29 rfl (RowB hq1) rfl ?_
    refine E_getL 33 dX2_wear_30 fl_X2_84 (RowF0 hq1) rfl (by decide) (RowL2 hq1) rfl ?_
    refine E_iload_n 34 dX2_wear_33 rfl rfl ?_
    refine E_dup2 35 dX2_wear_34 n01 n21 rfl ?_
    refine E_iald 36 dX2_wear_35 (RowF2 hq1) c3 rfl ?_
    refine E_iconst 37 dX2_wear_36 (by decide) rfl ?_
    refine E_iadd 38 dX2_wear_37 rfl ?_
    refine E_iast 39 dX2_wear_38 (RowF2 hq1) c3 rfl ?_
    refine E_aload_n 40 dX2_wear_39 rfl (RowB hq1) rfl ?_
    refine E_getL 43 dX2_wear_40 fl_X2_84 (RowF0 hq1) rfl (by decide) (RowL2 hq1) rfl ?_
    refine E_iload_n 44 dX2_wear_43 rfl rfl ?_
    refine E_iald 45 dX2_wear_44 (RowF2 hq1) c3 rfl ?_
    refine E_conv (su_eq) ?_
    refine E_aload_n 46 dX2_wear_45 rfl (RowB hq1) rfl ?_
    refine E_get 15 49 dX2_wear_46 fl_X2_87 (RowF0 hq1) rfl (by decide) rfl rfl ?_
    refine E_conv (su_ne (Or.inl (by omega))) ?_
    refine E_icmp_le 52 67 dX2_wear_49 rfl rfl (fun h => ?_) (fun h => ?_)
    · have w := w.1 h
      exact E_vret dX2_wear_67 rfl rfl w
    · have w := w.2 h
      refine E_aload_n 53 dX2_wear_52 rfl (RowB hq1) rfl ?_
      refine E_aload_n 54 dX2_wear_53 rfl (RowB hq1) rfl ?_
      refine E_getL 57 dX2_wear_54 fl_X2_84 (RowF0 hq1) rfl (by decide) (RowL2 hq1) rfl ?_
      refine E_iload_n 58 dX2_wear_57 rfl rfl ?_
      refine E_iald 59 dX2_wear_58 (RowF2 hq1) c3 rfl ?_
      refine E_conv (su_eq) ?_
      refine E_putI 15 62 dX2_wear_59 fl_X2_87 (RowF0 hq1) rfl (by decide) (Or.inl rfl) rfl rfl ?_
      refine E_aload_n 63 dX2_wear_62 rfl (RowB hq1) rfl ?_
      refine E_iload_n 64 dX2_wear_63 rfl rfl ?_
      refine E_putI 16 67 dX2_wear_64 fl_X2_90 (RowF0 hq1) rfl (by decide) (Or.inl rfl) rfl rfl ?_
      exact E_vret dX2_wear_67 rfl rfl w
  · have w := w.2 h
    refine E_aload_n 17 dX2_wear_16 rfl (RowB hq1) rfl ?_
    refine E_dup 18 dX2_wear_17 n21 rfl ?_
    refine E_get 5 21 dX2_wear_18 fl_X2_34 (RowF0 hq1) rfl (by decide) rfl rfl ?_
    refine E_lconst (x := 1) 22 dX2_wear_21 rfl rfl ?_
    refine E_iload_n 23 dX2_wear_22 rfl rfl ?_
    refine E_lshl 24 dX2_wear_23 rfl ?_
    refine E_lor 25 dX2_wear_24 rfl ?_
    refine E_putJ 5 28 dX2_wear_25 fl_X2_34 (RowF0 hq1) rfl (by decide) (Or.inl rfl) rfl rfl ?_
    exact E_vret dX2_wear_28 rfl rfl w
theorem B_X2_come_0 {g : PG} {d : Nat} {σ : PS} {Q : Int → PS → Prop} {q1 q2 : Int} (hq1 : RowAt q1) (hq2 : LinAt q2) (w : (XX g true (d + 1) P_X2_come 2 [(2, 83), (2, q1), (2, q2), (0, 0), (9, 0)] [] 136 σ 136 Q)) : XX g true (d + 1) P_X2_come 0 [(2, 83), (2, q1), (2, q2), (9, 0), (9, 0)] [] 136 σ 136 Q := by
  refine E_iconst 1 dX2_come_0 (by decide) rfl ?_
  refine E_istore_n (ls' := [(2, 83), (2, q1), (2, q2), (0, 0), (9, 0)]) 2 dX2_come_1 (by decide) rfl rfl ?_
  with_reducible exact w
theorem B_X2_come_2 {g : PG} {d : Nat} {σ : PS} {Q : Int → PS → Prop} {x3 q1 q2 : Int} (hq1 : RowAt q1) (hq2 : LinAt q2) (w : ((σ q1 0 ≤ x3 → (XX g true (d + 1) P_X2_come 34 [(2, 83), (2, q1), (9, 0), (0, 0), (9, 0)] [] 136 σ 136 Q)) ∧ (x3 < σ q1 0 → XX g true d P_X0_urge 0 [(2, 67), (2, q1), (2, q2), (0, x3)] [] 136 σ 136 (fun r2 σ1 => (0 ≤ x3 ∧ x3 < 60) ∧ (XX g true (d + 1) P_X2_come 2 [(2, 83), (2, q1), (2, q2), (0, w32 (x3 + 1)), (9, 0)] [] 136 (su σ1 85 x3 r2) 136 Q))))) : XX g true (d + 1) P_X2_come 2 [(2, 83), (2, q1), (2, q2), (0, x3), (9, 0)] [] 136 σ 136 Q := by
  refine E_iload_n 3 dX2_come_2 rfl rfl ?_
  refine E_aload_n 4 dX2_come_3 rfl (RowB hq1) rfl ?_
  refine E_get 0 7 dX2_come_4 fl_X2_24 (RowF0 hq1) rfl (by decide) rfl rfl ?_
  refine E_icmp_ge 10 32 dX2_come_7 rfl rfl (fun h => ?_) (fun h => ?_)
  · have w := w.1 h
    refine E_iconst 33 dX2_come_32 (by decide) rfl ?_
    refine E_istore_n (ls' := [(2, 83), (2, q1), (2, q2), (0, 0), (9, 0)]) 34 dX2_come_33 (by decide) rfl rfl ?_
    refine XX.fg [2] [(2, 83), (2, q1), (9, 0), (0, 0), (9, 0)] rfl ?_
    with_reducible exact w
  · have w := w.2 h
    refine E_aload_n 11 dX2_come_10 rfl (ac_83.bnd) rfl ?_
    refine E_getL 14 dX2_come_11 fl_X2_17 ac_83 rfl (by decide) lay_83_2 rfl ?_
    refine E_iload_n 15 dX2_come_14 rfl rfl ?_
    refine E_aload_n 16 dX2_come_15 rfl (ac_83.bnd) rfl ?_
    refine E_getL 19 dX2_come_16 fl_X2_20 ac_83 rfl (by decide) lay_83_0 rfl ?_
    refine E_aload_n 20 dX2_come_19 rfl (RowB hq1) rfl ?_
    refine E_aload_n 21 dX2_come_20 rfl (LinB hq2) rfl ?_
    refine E_iload_n 22 dX2_come_21 rfl rfl ?_
    refine E_callV (as := [(2, q1), (2, q2), (0, x3)]) 25 dX2_come_22 cf_X0_urge mw_899 mw_846 mw_847 ac_67 (by decide) cl_X0 rfl rfl (Nat.le_of_ble_eq_true rfl) (Nat.le_of_ble_eq_true rfl) ⟨Nat.le_refl _, Nat.le_refl _⟩ rfl (w.mono (fun r2 σ1 w => ?_))
    show XX g true (d + 1) P_X2_come 25 [(2, 83), (2, q1), (2, q2), (0, x3), (9, 0)] [(0, r2), (0, x3), (2, 85)] 136 σ1 136 Q
    obtain ⟨c3, w⟩ := w
    refine E_iast 26 dX2_come_25 ac_85 c3 rfl ?_
    refine E_iinc (ls' := [(2, 83), (2, q1), (2, q2), (0, w32 (x3 + 1)), (9, 0)]) 29 dX2_come_26 (by decide) rfl rfl rfl ?_
    refine E_goto 2 dX2_come_29 rfl ?_
    with_reducible exact w
theorem B_X2_come_34 {g : PG} {d : Nat} {σ : PS} {Q : Int → PS → Prop} {x3 q1 q2 : Int} (hq1 : RowAt q1) (hq2 : LinAt q2) (w : ((σ q1 0 ≤ x3 → (XX g true (d + 1) P_X2_come 55 [(2, 83), (2, q1), (9, 0), (0, 0), (9, 0)] [] 136 σ 136 Q)) ∧ (x3 < σ q1 0 → XX g true d P_X7_lookAt 0 [(2, q1), (0, x3)] [] 136 σ 136 (fun _ σ1 => (XX g true (d + 1) P_X2_come 34 [(2, 83), (2, q1), (9, 0), (0, w32 (x3 + 1)), (9, 0)] [] 136 σ1 136 Q))))) : XX g true (d + 1) P_X2_come 34 [(2, 83), (2, q1), (9, 0), (0, x3), (9, 0)] [] 136 σ 136 Q := by
  refine E_iload_n 35 dX2_come_34 rfl rfl ?_
  refine E_aload_n 36 dX2_come_35 rfl (RowB hq1) rfl ?_
  refine E_get 0 39 dX2_come_36 fl_X2_24 (RowF0 hq1) rfl (by decide) rfl rfl ?_
  refine E_icmp_ge 42 53 dX2_come_39 rfl rfl (fun h => ?_) (fun h => ?_)
  · have w := w.1 h
    refine E_iconst 54 dX2_come_53 (by decide) rfl ?_
    refine E_istore_n (ls' := [(2, 83), (2, q1), (9, 0), (0, 0), (9, 0)]) 55 dX2_come_54 (by decide) rfl rfl ?_
    with_reducible exact w
  · have w := w.2 h
    refine E_aload_n 43 dX2_come_42 rfl (RowB hq1) rfl ?_
    refine E_iload_n 44 dX2_come_43 rfl rfl ?_
    refine E_callV (as := [(0, x3)]) 47 dX2_come_44 cf_X7_lookAt mw_900 mw_855 mw_856 (RowF0 hq1) (by decide) cl_X7 rfl rfl (Nat.le_of_ble_eq_true rfl) (Nat.le_of_ble_eq_true rfl) ⟨Nat.le_refl _, Nat.le_refl _⟩ rfl (w.mono (fun r2 σ1 w => ?_))
    show XX g true (d + 1) P_X2_come 47 [(2, 83), (2, q1), (9, 0), (0, x3), (9, 0)] [] 136 σ1 136 Q
    refine E_iinc (ls' := [(2, 83), (2, q1), (9, 0), (0, w32 (x3 + 1)), (9, 0)]) 50 dX2_come_47 (by decide) rfl rfl rfl ?_
    refine E_goto 34 dX2_come_50 rfl ?_
    with_reducible exact w
theorem B_X2_come_55 {g : PG} {d : Nat} {σ : PS} {Q : Int → PS → Prop} {x3 q1 q2 : Int} (hq1 : RowAt q1) (hq2 : LinAt q2) (w : ((σ (q1 + 7) 2 ≤ x3 → Q 0 σ) ∧ (x3 < σ (q1 + 7) 2 → ((w32 ((σ (q1 + 7) 6) + (σ (q1 + 7) 7)) ≤ 0 → Q 0 σ) ∧ (0 < w32 ((σ (q1 + 7) 6) + (σ (q1 + 7) 7)) → XX g true d P_X2_mostUrgent 0 [(2, 83), (0, σ q1 0), (9, 0), (9, 0), (9, 0)] [] 136 σ 136 (fun r2 σ1 => ((r2 ≠ (-1) → (0 ≤ r2 ∧ r2 < 60) ∧ XX g true d P_X2_change 0 [(2, q1), (0, r2), (9, 0), (9, 0), (9, 0)] [] 136 (su σ1 85 r2 0) 136 (fun _ σ4 => (XX g true (d + 1) P_X2_come 55 [(2, 83), (2, q1), (9, 0), (0, w32 (x3 + 1)), (9, 0)] [] 136 σ4 136 Q))) ∧ (r2 = (-1) → Q 0 σ1)))))))) : XX g true (d + 1) P_X2_come 55 [(2, 83), (2, q1), (9, 0), (0, x3), (9, 0)] [] 136 σ 136 Q := by
  refine E_iload_n 56 dX2_come_55 rfl rfl ?_
  refine E_aload_n 57 dX2_come_56 rfl (RowB hq1) rfl ?_
  refine E_getL 60 dX2_come_57 fl_X2_73 (RowF0 hq1) rfl (by decide) (RowL9 hq1) rfl ?_
  refine E_iconst 61 dX2_come_60 (by decide) rfl ?_
  refine E_iald 62 dX2_come_61 (RowF7 hq1) (by decide) rfl ?_
  refine E_icmp_ge 65 120 dX2_come_62 rfl rfl (fun h => ?_) (fun h => ?_)
  · have w := w.1 h
    exact E_vret dX2_come_120 rfl rfl w
  · have w := w.2 h
    refine E_aload_n 66 dX2_come_65 rfl (RowB hq1) rfl ?_
    refine E_getL 69 dX2_come_66 fl_X2_73 (RowF0 hq1) rfl (by decide) (RowL9 hq1) rfl ?_
    refine E_bipush 71 dX2_come_69 (by decide) rfl ?_
    refine E_iald 72 dX2_come_71 (RowF7 hq1) (by decide) rfl ?_
    refine E_aload_n 73 dX2_come_72 rfl (RowB hq1) rfl ?_
    refine E_getL 76 dX2_come_73 fl_X2_73 (RowF0 hq1) rfl (by decide) (RowL9 hq1) rfl ?_
    refine E_bipush 78 dX2_come_76 (by decide) rfl ?_
    refine E_iald 79 dX2_come_78 (RowF7 hq1) (by decide) rfl ?_
    refine E_iadd 80 dX2_come_79 rfl ?_
    refine E_if_le 83 120 dX2_come_80 rfl rfl (fun h => ?_) (fun h => ?_)
    · have w := w.1 h
      exact E_vret dX2_come_120 rfl rfl w
    · have w := w.2 h
      refine E_aload_n 84 dX2_come_83 rfl (ac_83.bnd) rfl ?_
      refine E_aload_n 85 dX2_come_84 rfl (RowB hq1) rfl ?_
      refine E_get 0 88 dX2_come_85 fl_X2_24 (RowF0 hq1) rfl (by decide) rfl rfl ?_
      refine E_callV (as := [(0, σ q1 0)]) 91 dX2_come_88 cf_X2_mostUrgent mw_901 mw_903 mw_27 ac_83 (by decide) cl_X2 rfl rfl (Nat.le_of_ble_eq_true rfl) (Nat.le_of_ble_eq_true rfl) ⟨Nat.le_refl _, Nat.le_refl _⟩ rfl (w.mono (fun r2 σ1 w => ?_))
      show XX g true (d + 1) P_X2_come 91 [(2, 83), (2, q1), (9, 0), (0, x3), (9, 0)] [(0, r2)] 136 σ1 136 Q
      refine E_istore (ls' := [(2, 83), (2, q1), (9, 0), (0, x3), (0, r2)]) 93 dX2_come_91 (by decide) rfl rfl ?_
      refine E_iload 95 dX2_come_93 rfl rfl ?_
      refine E_iconst 96 dX2_come_95 (by decide) rfl ?_
      refine E_icmp_ne 99 100 dX2_come_96 rfl rfl (fun h => ?_) (fun h => ?_)
      · have w := w.1 h
        refine E_aload_n 101 dX2_come_100 rfl (ac_83.bnd) rfl ?_
        refine E_getL 104 dX2_come_101 fl_X2_17 ac_83 rfl (by decide) lay_83_2 rfl ?_
        refine E_iload 106 dX2_come_104 rfl rfl ?_
        refine E_iconst 107 dX2_come_106 (by decide) rfl ?_
        obtain ⟨c3, w⟩ := w
        refine E_iast 108 dX2_come_107 ac_85 c3 rfl ?_
        refine E_aload_n 109 dX2_come_108 rfl (RowB hq1) rfl ?_
        refine E_iload 111 dX2_come_109 rfl rfl ?_
        refine E_callS (as := [(2, q1), (0, r2)]) 114 dX2_come_111 cf_X2_change (Or.inl mw_905) mw_906 rfl rfl (Nat.le_of_ble_eq_true rfl) (Nat.le_of_ble_eq_true rfl) ⟨Nat.le_refl _, Nat.le_refl _⟩ rfl (w.mono (fun r5 σ4 w => ?_))
        show XX g true (d + 1) P_X2_come 114 [(2, 83), (2, q1), (9, 0), (0, x3), (0, r2)] [] 136 σ4 136 Q
        refine E_iinc (ls' := [(2, 83), (2, q1), (9, 0), (0, w32 (x3 + 1)), (0, r2)]) 117 dX2_come_114 (by decide) rfl rfl rfl ?_
        refine E_goto 55 dX2_come_117 rfl ?_
        refine XX.fg [4] [(2, 83), (2, q1), (9, 0), (0, w32 (x3 + 1)), (9, 0)] rfl ?_
        with_reducible exact w
      · have w := w.2 h
        exact E_vret dX2_come_99 rfl rfl w
theorem B_X2_mostUrgent_0 {g : PG} {d : Nat} {σ : PS} {Q : Int → PS → Prop} {x1 : Int}  (w : (XX g true d P_X2_mostUrgent 7 [(2, 83), (0, x1), (0, (-1)), (0, 0), (0, 0)] [] 136 σ 136 Q)) : XX g true d P_X2_mostUrgent 0 [(2, 83), (0, x1), (9, 0), (9, 0), (9, 0)] [] 136 σ 136 Q := by
  refine E_iconst 1 dX2_mostUrgent_0 (by decide) rfl ?_
  refine E_istore_n (ls' := [(2, 83), (0, x1), (0, (-1)), (9, 0), (9, 0)]) 2 dX2_mostUrgent_1 (by decide) rfl rfl ?_
  refine E_iconst 3 dX2_mostUrgent_2 (by decide) rfl ?_
  refine E_istore_n (ls' := [(2, 83), (0, x1), (0, (-1)), (0, 0), (9, 0)]) 4 dX2_mostUrgent_3 (by decide) rfl rfl ?_
  refine E_iconst 5 dX2_mostUrgent_4 (by decide) rfl ?_
  refine E_istore (ls' := [(2, 83), (0, x1), (0, (-1)), (0, 0), (0, 0)]) 7 dX2_mostUrgent_5 (by decide) rfl rfl ?_
  with_reducible exact w
theorem B_X2_mostUrgent_7 {g : PG} {d : Nat} {σ : PS} {Q : Int → PS → Prop} {x1 x2 x3 x4 : Int}  (w : ((x1 ≤ x4 → Q x2 σ) ∧ (x4 < x1 → (0 ≤ x4 ∧ x4 < 60) ∧ ((σ 85 x4 ≤ x3 → (XX g true d P_X2_mostUrgent 7 [(2, 83), (0, x1), (0, x2), (0, x3), (0, w32 (x4 + 1))] [] 136 σ 136 Q)) ∧ (x3 < σ 85 x4 → ∀ y2, y2 = σ 85 x4 → (XX g true d P_X2_mostUrgent 7 [(2, 83), (0, x1), (0, x4), (0, y2), (0, w32 (x4 + 1))] [] 136 σ 136 Q)))))) : XX g true d P_X2_mostUrgent 7 [(2, 83), (0, x1), (0, x2), (0, x3), (0, x4)] [] 136 σ 136 Q := by
  refine E_iload 9 dX2_mostUrgent_7 rfl rfl ?_
  refine E_iload_n 10 dX2_mostUrgent_9 rfl rfl ?_
  refine E_icmp_ge 13 41 dX2_mostUrgent_10 rfl rfl (fun h => ?_) (fun h => ?_)
  · have w := w.1 h
    refine E_iload_n 42 dX2_mostUrgent_41 rfl rfl ?_
    exact E_iret dX2_mostUrgent_42 rfl rfl w
  · have w := w.2 h
    refine E_aload_n 14 dX2_mostUrgent_13 rfl (ac_83.bnd) rfl ?_
    refine E_getL 17 dX2_mostUrgent_14 fl_X2_17 ac_83 rfl (by decide) lay_83_2 rfl ?_
    refine E_iload 19 dX2_mostUrgent_17 rfl rfl ?_
    obtain ⟨c1, w⟩ := w
    refine E_iald 20 dX2_mostUrgent_19 ac_85 c1 rfl ?_
    refine E_iload_n 21 dX2_mostUrgent_20 rfl rfl ?_
    refine E_icmp_le 24 35 dX2_mostUrgent_21 rfl rfl (fun h => ?_) (fun h => ?_)
    · have w := w.1 h
      refine E_iinc (ls' := [(2, 83), (0, x1), (0, x2), (0, x3), (0, w32 (x4 + 1))]) 38 dX2_mostUrgent_35 (by decide) rfl rfl rfl ?_
      refine E_goto 7 dX2_mostUrgent_38 rfl ?_
      with_reducible exact w
    · have w := w.2 h
      refine E_iload 26 dX2_mostUrgent_24 rfl rfl ?_
      refine E_istore_n (ls' := [(2, 83), (0, x1), (0, x4), (0, x3), (0, x4)]) 27 dX2_mostUrgent_26 (by decide) rfl rfl ?_
      refine E_aload_n 28 dX2_mostUrgent_27 rfl (ac_83.bnd) rfl ?_
      refine E_getL 31 dX2_mostUrgent_28 fl_X2_17 ac_83 rfl (by decide) lay_83_2 rfl ?_
      refine E_iload 33 dX2_mostUrgent_31 rfl rfl ?_
      refine E_iald 34 dX2_mostUrgent_33 ac_85 c1 rfl ?_
      refine E_top (fun y2 hy2 => ?_)
      have w := w y2 hy2
      refine E_istore_n (ls' := [(2, 83), (0, x1), (0, x4), (0, y2), (0, x4)]) 35 dX2_mostUrgent_34 (by decide) rfl rfl ?_
      refine E_iinc (ls' := [(2, 83), (0, x1), (0, x4), (0, y2), (0, w32 (x4 + 1))]) 38 dX2_mostUrgent_35 (by decide) rfl rfl rfl ?_
      refine E_goto 7 dX2_mostUrgent_38 rfl ?_
      with_reducible exact w
theorem B_X2_change_0 {g : PG} {d : Nat} {σ : PS} {Q : Int → PS → Prop} {x1 q0 : Int} (hq0 : RowAt q0) (w : ∀ y1, y1 = w32 (x1 + 1) → ∀ y2, y2 = w32 ((σ q0 0) - x1) → ((σ (q0 + 7) 6 ≤ 0 → (XX g true (d + 1) P_X2_change 40 [(2, q0), (0, x1), (0, y1), (0, y2), (9, 0)] [] 136 σ 136 Q)) ∧ (0 < σ (q0 + 7) 6 → ((y1 ≤ y2 → (XX g true (d + 1) P_X2_change 36 [(2, q0), (0, x1), (0, y1), (0, y2), (9, 0)] [] 136 σ 136 Q)) ∧ (y2 < y1 → ((0 < σ (q0 + 7) 7 → (XX g true (d + 1) P_X2_change 40 [(2, q0), (0, x1), (0, y1), (0, y2), (9, 0)] [] 136 σ 136 Q)) ∧ (σ (q0 + 7) 7 ≤ 0 → (XX g true (d + 1) P_X2_change 36 [(2, q0), (0, x1), (0, y1), (0, y2), (9, 0)] [] 136 σ 136 Q)))))))) : XX g true (d + 1) P_X2_change 0 [(2, q0), (0, x1), (9, 0), (9, 0), (9, 0)] [] 136 σ 136 Q := by
  refine E_iload_n 1 dX2_change_0 rfl rfl ?_
  refine E_iconst 2 dX2_change_1 (by decide) rfl ?_
  refine E_iadd 3 dX2_change_2 rfl ?_
  refine E_top (fun y1 hy1 => ?_)
  have w := w y1 hy1
  refine E_istore_n (ls' := [(2, q0), (0, x1), (0, y1), (9, 0), (9, 0)]) 4 dX2_change_3 (by decide) rfl rfl ?_
  refine E_aload_n 5 dX2_change_4 rfl (RowB hq0) rfl ?_
  refine E_get 0 8 dX2_change_5 fl_X2_24 (RowF0 hq0) rfl (by decide) rfl rfl ?_
  refine E_iload_n 9 dX2_change_8 rfl rfl ?_
  refine E_isub 10 dX2_change_9 rfl ?_
  refine E_top (fun y2 hy2 => ?_)
  have w := w y2 hy2
  refine E_istore_n (ls' := [(2, q0), (0, x1), (0, y1), (0, y2), (9, 0)]) 11 dX2_change_10 (by decide) rfl rfl ?_
  refine E_aload_n 12 dX2_change_11 rfl (RowB hq0) rfl ?_
  refine E_getL 15 dX2_change_12 fl_X2_73 (RowF0 hq0) rfl (by decide) (RowL9 hq0) rfl ?_
  refine E_bipush 17 dX2_change_15 (by decide) rfl ?_
  refine E_iald 18 dX2_change_17 (RowF7 hq0) (by decide) rfl ?_
  refine E_if_le 21 40 dX2_change_18 rfl rfl (fun h => ?_) (fun h => ?_)
  · have w := w.1 h
    with_reducible exact w
  · have w := w.2 h
    refine E_iload_n 22 dX2_change_21 rfl rfl ?_
    refine E_iload_n 23 dX2_change_22 rfl rfl ?_
    refine E_icmp_le 26 36 dX2_change_23 rfl rfl (fun h => ?_) (fun h => ?_)
    · have w := w.1 h
      with_reducible exact w
    · have w := w.2 h
      refine E_aload_n 27 dX2_change_26 rfl (RowB hq0) rfl ?_
      refine E_getL 30 dX2_change_27 fl_X2_73 (RowF0 hq0) rfl (by decide) (RowL9 hq0) rfl ?_
      refine E_bipush 32 dX2_change_30 (by decide) rfl ?_
      refine E_iald 33 dX2_change_32 (RowF7 hq0) (by decide) rfl ?_
      refine E_if_gt 36 40 dX2_change_33 rfl rfl (fun h => ?_) (fun h => ?_)
      · have w := w.1 h
        with_reducible exact w
      · have w := w.2 h
        with_reducible exact w
theorem B_X2_change_40 {g : PG} {d : Nat} {σ : PS} {Q : Int → PS → Prop} {x1 x2 x3 q0 : Int} (hq0 : RowAt q0) (w : (XX g true (d + 1) P_X2_change 43 [(2, q0), (0, x1), (0, x2), (0, x3), (0, 0)] [] 136 σ 136 Q)) : XX g true (d + 1) P_X2_change 40 [(2, q0), (0, x1), (0, x2), (0, x3), (9, 0)] [] 136 σ 136 Q := by
  refine E_iconst 41 dX2_change_40 (by decide) rfl ?_
  refine E_istore (ls' := [(2, q0), (0, x1), (0, x2), (0, x3), (0, 0)]) 43 dX2_change_41 (by decide) rfl rfl ?_
  with_reducible exact w
theorem B_X2_change_36 {g : PG} {d : Nat} {σ : PS} {Q : Int → PS → Prop} {x1 x2 x3 q0 : Int} (hq0 : RowAt q0) (w : (XX g true (d + 1) P_X2_change 43 [(2, q0), (0, x1), (0, x2), (0, x3), (0, 1)] [] 136 σ 136 Q)) : XX g true (d + 1) P_X2_change 36 [(2, q0), (0, x1), (0, x2), (0, x3), (9, 0)] [] 136 σ 136 Q := by
  refine E_iconst 37 dX2_change_36 (by decide) rfl ?_
  refine E_goto 41 dX2_change_37 rfl ?_
  refine E_istore (ls' := [(2, q0), (0, x1), (0, x2), (0, x3), (0, 1)]) 43 dX2_change_41 (by decide) rfl rfl ?_
  with_reducible exact w
theorem B_X2_change_43 {g : PG} {d : Nat} {σ : PS} {Q : Int → PS → Prop} {x1 x2 x3 x4 q0 : Int} (hq0 : RowAt q0) (w : ((x4 = 0 → (XX g true (d + 1) P_X2_change 64 [(2, q0), (0, x1), (0, x2), (0, x3), (0, x4)] [] 136 (su σ (q0 + 7) 7 (w32 ((σ (q0 + 7) 7) - 1))) 136 Q)) ∧ (x4 ≠ 0 → (XX g true (d + 1) P_X2_change 64 [(2, q0), (0, x1), (0, x2), (0, x3), (0, x4)] [] 136 (su σ (q0 + 7) 6 (w32 ((σ (q0 + 7) 6) - 1))) 136 Q)))) : XX g true (d + 1) P_X2_change 43 [(2, q0), (0, x1), (0, x2), (0, x3), (0, x4)] [] 136 σ 136 Q := by
  refine E_aload_n 44 dX2_change_43 rfl (RowB hq0) rfl ?_
  refine E_getL 47 dX2_change_44 fl_X2_73 (RowF0 hq0) rfl (by decide) (RowL9 hq0) rfl ?_
  refine E_iload 49 dX2_change_47 rfl rfl ?_
  refine E_if_eq 52 57 dX2_change_49 rfl rfl (fun h => ?_) (fun h => ?_)
  · have w := w.1 h
    refine E_bipush 59 dX2_change_57 (by decide) rfl ?_
    refine E_dup2 60 dX2_change_59 n01 n21 rfl ?_
    refine E_iald 61 dX2_change_60 (RowF7 hq0) (by decide) rfl ?_
    refine E_iconst 62 dX2_change_61 (by decide) rfl ?_
    refine E_isub 63 dX2_change_62 rfl ?_
    refine E_iast 64 dX2_change_63 (RowF7 hq0) (by decide) rfl ?_
    with_reducible exact w
  · have w := w.2 h
    refine E_bipush 54 dX2_change_52 (by decide) rfl ?_
    refine E_goto 59 dX2_change_54 rfl ?_
    refine E_dup2 60 dX2_change_59 n01 n21 rfl ?_
    refine E_iald 61 dX2_change_60 (RowF7 hq0) (by decide) rfl ?_
    refine E_iconst 62 dX2_change_61 (by decide) rfl ?_
    refine E_isub 63 dX2_change_62 rfl ?_
    refine E_iast 64 dX2_change_63 (RowF7 hq0) (by decide) rfl ?_
    with_reducible exact w
theorem B_X2_change_64 {g : PG} {d : Nat} {σ : PS} {Q : Int → PS → Prop} {x1 x2 x3 x4 q0 : Int} (hq0 : RowAt q0) (w : (0 ≤ x1 ∧ x1 < 60) ∧ (0 ≤ σ (q0 + 1) x1 ∧ σ (q0 + 1) x1 < 6) ∧ ((x4 = 0 → (XX g true (d + 1) P_X2_change 102 [(2, q0), (0, x1), (9, 0), (9, 0), (9, 0)] [] 136 (su σ q0 13 (w32 ((σ q0 13) + (w32 ((σ (q0 + 6) (σ (q0 + 1) x1)) + (w32 ((σ (q0 + 7) 4) * x3))))))) 136 Q)) ∧ (x4 ≠ 0 → (XX g true (d + 1) P_X2_change 102 [(2, q0), (0, x1), (9, 0), (9, 0), (9, 0)] [] 136 (su σ q0 13 (w32 ((σ q0 13) + (w32 ((σ (q0 + 6) (σ (q0 + 1) x1)) + (w32 ((σ (q0 + 7) 4) * x2))))))) 136 Q)))) : XX g true (d + 1) P_X2_change 64 [(2, q0), (0, x1), (0, x2), (0, x3), (0, x4)] [] 136 σ 136 Q := by
  refine E_aload_n 65 dX2_change_64 rfl (RowB hq0) rfl ?_
  refine E_dup 66 dX2_change_65 n21 rfl ?_
  refine E_get 13 69 dX2_change_66 fl_X2_70 (RowF0 hq0) rfl (by decide) rfl rfl ?_
  refine E_aload_n 70 dX2_change_69 rfl (RowB hq0) rfl ?_
  refine E_getL 73 dX2_change_70 fl_X2_107 (RowF0 hq0) rfl (by decide) (RowL8 hq0) rfl ?_
  refine E_aload_n 74 dX2_change_73 rfl (RowB hq0) rfl ?_
  refine E_getL 77 dX2_change_74 fl_X2_110 (RowF0 hq0) rfl (by decide) (RowL1 hq0) rfl ?_
  refine E_iload_n 78 dX2_change_77 rfl rfl ?_
  obtain ⟨c1, w⟩ := w
  refine E_iald 79 dX2_change_78 (RowF1 hq0) c1 rfl ?_
  obtain ⟨c2, w⟩ := w
  refine E_iald 80 dX2_change_79 (RowF6 hq0) c2 rfl ?_
  refine E_aload_n 81 dX2_change_80 rfl (RowB hq0) rfl ?_
  refine E_getL 84 dX2_change_81 fl_X2_73 (RowF0 hq0) rfl (by decide) (RowL9 hq0) rfl ?_
  refine E_iconst 85 dX2_change_84 (by decide) rfl ?_
  refine E_iald 86 dX2_change_85 (RowF7 hq0) (by decide) rfl ?_
  refine E_iload 88 dX2_change_86 rfl rfl ?_
  refine E_if_eq 91 95 dX2_change_88 rfl rfl (fun h => ?_) (fun h => ?_)
  · have w := w.1 h
    refine E_iload_n 96 dX2_change_95 rfl rfl ?_
    refine E_imul 97 dX2_change_96 rfl ?_
    refine E_iadd 98 dX2_change_97 rfl ?_
    refine E_iadd 99 dX2_change_98 rfl ?_
    refine E_putI 13 102 dX2_change_99 fl_X2_70 (RowF0 hq0) rfl (by decide) (Or.inl rfl) rfl rfl ?_
    refine XX.fg [2, 3, 4] [(2, q0), (0, x1), (9, 0), (9, 0), (9, 0)] rfl ?_
    with_reducible exact w
  · have w := w.2 h
    refine E_iload_n 92 dX2_change_91 rfl rfl ?_
    refine E_goto 96 dX2_change_92 rfl ?_
    refine E_imul 97 dX2_change_96 rfl ?_
    refine E_iadd 98 dX2_change_97 rfl ?_
    refine E_iadd 99 dX2_change_98 rfl ?_
    refine E_putI 13 102 dX2_change_99 fl_X2_70 (RowF0 hq0) rfl (by decide) (Or.inl rfl) rfl rfl ?_
    refine XX.fg [2, 3, 4] [(2, q0), (0, x1), (9, 0), (9, 0), (9, 0)] rfl ?_
    with_reducible exact w
theorem B_X2_change_102 {g : PG} {d : Nat} {σ : PS} {Q : Int → PS → Prop} {x1 q0 : Int} (hq0 : RowAt q0) (w : (0 ≤ x1 ∧ x1 < 60) ∧ XX g true d P_X7_lookAt 0 [(2, q0), (0, x1)] [] 136 (su (su (su (su σ q0 14 (w32 ((σ q0 14) + 1))) (q0 + 4) x1 (w32 ((σ (q0 + 4) x1) + 1))) (q0 + 2) x1 0) q0 5 (land (σ q0 5) (lxor (lshl 1 x1) (-1)))) 136 (fun _ σ2 => Q 0 σ2)) : XX g true (d + 1) P_X2_change 102 [(2, q0), (0, x1), (9, 0), (9, 0), (9, 0)] [] 136 σ 136 Q := by
  refine E_aload_n 103 dX2_change_102 rfl (RowB hq0) rfl ?_
  refine E_dup 104 dX2_change_103 n21 rfl ?_
  refine E_get 14 107 dX2_change_104 fl_X2_113 (RowF0 hq0) rfl (by decide) rfl rfl ?_
  refine E_iconst 108 dX2_change_107 (by decide) rfl ?_
  refine E_iadd 109 dX2_change_108 rfl ?_
  refine E_putI 14 112 dX2_change_109 fl_X2_113 (RowF0 hq0) rfl (by decide) (Or.inl rfl) rfl rfl ?_
  refine E_aload_n 113 dX2_change_112 rfl (RowB hq0) rfl ?_
  refine E_getL 116 dX2_change_113 fl_X2_116 (RowF0 hq0) rfl (by decide) (RowL4 hq0) rfl ?_
  refine E_iload_n 117 dX2_change_116 rfl rfl ?_
  refine E_dup2 118 dX2_change_117 n01 n21 rfl ?_
  obtain ⟨c1, w⟩ := w
  refine E_iald 119 dX2_change_118 (RowF4 hq0) c1 rfl ?_
  refine E_conv (su_ne (Or.inl (by omega))) ?_
  refine E_iconst 120 dX2_change_119 (by decide) rfl ?_
  refine E_iadd 121 dX2_change_120 rfl ?_
  refine E_iast 122 dX2_change_121 (RowF4 hq0) c1 rfl ?_
  refine E_aload_n 123 dX2_change_122 rfl (RowB hq0) rfl ?_
  refine E_getL 126 dX2_change_123 fl_X2_84 (RowF0 hq0) rfl (by decide) (RowL2 hq0) rfl ?_
  refine E_iload_n 127 dX2_change_126 rfl rfl ?_
  refine E_iconst 128 dX2_change_127 (by decide) rfl ?_
  refine E_iast 129 dX2_change_128 (RowF2 hq0) c1 rfl ?_
  refine E_aload_n 130 dX2_change_129 rfl (RowB hq0) rfl ?_
  refine E_dup 131 dX2_change_130 n21 rfl ?_
  refine E_get 5 134 dX2_change_131 fl_X2_34 (RowF0 hq0) rfl (by decide) rfl rfl ?_
  refine E_conv ((su_ne (Or.inl (by omega))).trans ((su_ne (Or.inl (by omega))).trans (su_ne (Or.inr (by decide))))) ?_
  refine E_lconst (x := 1) 135 dX2_change_134 rfl rfl ?_
  refine E_iload_n 136 dX2_change_135 rfl rfl ?_
  refine E_lshl 137 dX2_change_136 rfl ?_
  refine E_ldc2_w (x := (-1)) 140 dX2_change_137 mw_908 (by decide) (by unfold in64; decide) rfl ?_
  refine E_lxor 141 dX2_change_140 rfl ?_
  refine E_land 142 dX2_change_141 rfl ?_
  refine E_putJ 5 145 dX2_change_142 fl_X2_34 (RowF0 hq0) rfl (by decide) (Or.inl rfl) rfl rfl ?_
  refine E_aload_n 146 dX2_change_145 rfl (RowB hq0) rfl ?_
  refine E_iload_n 147 dX2_change_146 rfl rfl ?_
  refine E_callV (as := [(0, x1)]) 150 dX2_change_147 cf_X7_lookAt mw_900 mw_855 mw_856 (RowF0 hq0) (by decide) cl_X7 rfl rfl (Nat.le_of_ble_eq_true rfl) (Nat.le_of_ble_eq_true rfl) ⟨Nat.le_refl _, Nat.le_refl _⟩ rfl (w.mono (fun r3 σ2 w => ?_))
  show XX g true (d + 1) P_X2_change 150 [(2, q0), (0, x1), (9, 0), (9, 0), (9, 0)] [] 136 σ2 136 Q
  exact E_vret dX2_change_150 rfl rfl w
theorem B_X3_begin_0 {g : PG} {d : Nat} {σ : PS} {Q : Int → PS → Prop} {q1 q2 : Int} (hq1 : RowAt q1) (hq2 : BrkAt q2) (w : ∀ u1, u1 = σ 76 1 → Fat 136 u1 (21, 1024) ∧ XX g true d P_J7_fill_d0a16 0 [(2, u1), (1, 0), (9, 0), (9, 0), (9, 0)] [] 136 (su (su σ 76 7 (imin (σ q1 0) 10)) 76 8 (ishl 1 (imin (σ q1 0) 10))) 136 (fun _ σ2 => (XX g true (d + 1) P_X3_begin 33 [(2, 76), (2, q1), (2, q2), (0, 0)] [] 136 σ2 136 Q))) : XX g true (d + 1) P_X3_begin 0 [(2, 76), (2, q1), (2, q2), (9, 0)] [] 136 σ 136 Q := by
  refine E_aload_n 1 dX3_begin_0 rfl (ac_76.bnd) rfl ?_
  refine E_aload_n 2 dX3_begin_1 rfl (RowB hq1) rfl ?_
  refine E_get 0 5 dX3_begin_2 fl_X3_36 (RowF0 hq1) rfl (by decide) rfl rfl ?_
  refine E_bipush 7 dX3_begin_5 (by decide) rfl ?_
  refine E_mmin 10 dX3_begin_7 mw_955 (Nat.le_of_ble_eq_true rfl) (Nat.le_refl _) rfl ?_
  refine E_putI 7 13 dX3_begin_10 fl_X3_48 ac_76 rfl (by decide) (Or.inl rfl) rfl rfl ?_
  refine E_aload_n 14 dX3_begin_13 rfl (ac_76.bnd) rfl ?_
  refine E_iconst 15 dX3_begin_14 (by decide) rfl ?_
  refine E_aload_n 16 dX3_begin_15 rfl (ac_76.bnd) rfl ?_
  refine E_get 7 19 dX3_begin_16 fl_X3_48 ac_76 rfl (by decide) rfl rfl ?_
  refine E_conv (su_eq) ?_
  refine E_ishl 20 dX3_begin_19 rfl ?_
  refine E_putI 8 23 dX3_begin_20 fl_X3_49 ac_76 rfl (by decide) (Or.inl rfl) rfl rfl ?_
  refine E_aload_n 24 dX3_begin_23 rfl (ac_76.bnd) rfl ?_
  refine E_get 1 27 dX3_begin_24 fl_X3_11 ac_76 rfl (by decide) rfl rfl ?_
  refine E_conv ((su_ne (Or.inr (by decide))).trans (su_ne (Or.inr (by decide)))) ?_
  refine E_top (fun u1 hu1 => ?_)
  obtain ⟨fu1, w⟩ := w u1 hu1
  refine E_lconst (x := 0) 28 dX3_begin_27 rfl rfl ?_
  refine E_callS (as := [(2, u1), (1, 0)]) 31 dX3_begin_28 cf_J7_fill_d0a16 (Or.inl mw_956) mw_934 rfl rfl (Nat.le_of_ble_eq_true rfl) (Nat.le_of_ble_eq_true rfl) ⟨Nat.le_refl _, Nat.le_refl _⟩ rfl (w.mono (fun r3 σ2 w => ?_))
  show XX g true (d + 1) P_X3_begin 31 [(2, 76), (2, q1), (2, q2), (9, 0)] [] 136 σ2 136 Q
  refine E_iconst 32 dX3_begin_31 (by decide) rfl ?_
  refine E_istore_n (ls' := [(2, 76), (2, q1), (2, q2), (0, 0)]) 33 dX3_begin_32 (by decide) rfl rfl ?_
  with_reducible exact w
theorem B_X3_begin_33 {g : PG} {d : Nat} {σ : PS} {Q : Int → PS → Prop} {x3 q1 q2 : Int} (hq1 : RowAt q1) (hq2 : BrkAt q2) (w : ((σ 76 8 ≤ x3 → ∀ y1, y1 = iand (l2i (σ q1 5)) (w32 ((σ 76 8) - 1)) → (0 ≤ y1 ∧ y1 < 1024) ∧ ((σ 79 y1 ≠ 0 → Q 0 σ) ∧ (σ 79 y1 = 0 → ∀ u3, u3 = σ 76 1 → Fat 136 u3 (21, 1024) ∧ Q 0 (su σ u3 y1 1000000000000)))) ∧ (x3 < σ 76 8 → XX g true d P_X1_breaksRow 0 [(2, q2), (1, x3), (9, 0), (0, σ 76 7), (9, 0), (9, 0)] [] 136 σ 136 (fun r5 σ4 => (0 ≤ x3 ∧ x3 < 1024) ∧ (r5 = 0 ∨ r5 = 1) ∧ (XX g true (d + 1) P_X3_begin 33 [(2, 76), (2, q1), (2, q2), (0, w32 (x3 + 1))] [] 136 (su σ4 79 x3 r5) 136 Q))))) : XX g true (d + 1) P_X3_begin 33 [(2, 76), (2, q1), (2, q2), (0, x3)] [] 136 σ 136 Q := by
  refine E_iload_n 34 dX3_begin_33 rfl rfl ?_
  refine E_aload_n 35 dX3_begin_34 rfl (ac_76.bnd) rfl ?_
  refine E_get 8 38 dX3_begin_35 fl_X3_49 ac_76 rfl (by decide) rfl rfl ?_
  refine E_icmp_ge 41 63 dX3_begin_38 rfl rfl (fun h => ?_) (fun h => ?_)
  · have w := w.1 h
    refine E_aload_n 64 dX3_begin_63 rfl (RowB hq1) rfl ?_
    refine E_get 5 67 dX3_begin_64 fl_X3_64 (RowF0 hq1) rfl (by decide) rfl rfl ?_
    refine E_l2i 68 dX3_begin_67 rfl ?_
    refine E_aload_n 69 dX3_begin_68 rfl (ac_76.bnd) rfl ?_
    refine E_get 8 72 dX3_begin_69 fl_X3_49 ac_76 rfl (by decide) rfl rfl ?_
    refine E_iconst 73 dX3_begin_72 (by decide) rfl ?_
    refine E_isub 74 dX3_begin_73 rfl ?_
    refine E_iand 75 dX3_begin_74 rfl ?_
    refine E_top (fun y1 hy1 => ?_)
    have w := w y1 hy1
    refine E_istore_n (ls' := [(2, 76), (2, q1), (2, q2), (0, y1)]) 76 dX3_begin_75 (by decide) rfl rfl ?_
    refine E_aload_n 77 dX3_begin_76 rfl (ac_76.bnd) rfl ?_
    refine E_getL 80 dX3_begin_77 fl_X3_18 ac_76 rfl (by decide) lay_76_3 rfl ?_
    refine E_iload_n 81 dX3_begin_80 rfl rfl ?_
    obtain ⟨c2, w⟩ := w
    refine E_zald 82 dX3_begin_81 ac_79 c2 rfl ?_
    refine E_if_ne 85 94 dX3_begin_82 rfl rfl (fun h => ?_) (fun h => ?_)
    · have w := w.1 h
      exact E_vret dX3_begin_94 rfl rfl w
    · have w := w.2 h
      refine E_aload_n 86 dX3_begin_85 rfl (ac_76.bnd) rfl ?_
      refine E_get 1 89 dX3_begin_86 fl_X3_11 ac_76 rfl (by decide) rfl rfl ?_
      refine E_top (fun u3 hu3 => ?_)
      obtain ⟨fu3, w⟩ := w u3 hu3
      refine E_iload_n 90 dX3_begin_89 rfl rfl ?_
      refine E_ldc2_w (x := 1000000000000) 93 dX3_begin_90 mw_958 (by decide) (by unfold in64; decide) rfl ?_
      refine E_last 94 dX3_begin_93 fu3 c2 rfl ?_
      exact E_vret dX3_begin_94 rfl rfl w
  · have w := w.2 h
    refine E_aload_n 42 dX3_begin_41 rfl (ac_76.bnd) rfl ?_
    refine E_getL 45 dX3_begin_42 fl_X3_18 ac_76 rfl (by decide) lay_76_3 rfl ?_
    refine E_iload_n 46 dX3_begin_45 rfl rfl ?_
    refine E_aload_n 47 dX3_begin_46 rfl (BrkB hq2) rfl ?_
    refine E_iload_n 48 dX3_begin_47 rfl rfl ?_
    refine E_i2l 49 dX3_begin_48 rfl ?_
    refine E_aload_n 50 dX3_begin_49 rfl (ac_76.bnd) rfl ?_
    refine E_get 7 53 dX3_begin_50 fl_X3_48 ac_76 rfl (by decide) rfl rfl ?_
    refine E_callV (as := [(1, x3), (0, σ 76 7)]) 56 dX3_begin_53 cf_X1_breaksRow mw_957 mw_864 mw_865 (BrkF0 hq2) (by decide) cl_X1 rfl rfl (Nat.le_of_ble_eq_true rfl) (Nat.le_of_ble_eq_true rfl) ⟨Nat.le_refl _, Nat.le_refl _⟩ rfl (w.mono (fun r5 σ4 w => ?_))
    show XX g true (d + 1) P_X3_begin 56 [(2, 76), (2, q1), (2, q2), (0, x3)] [(0, r5), (0, x3), (2, 79)] 136 σ4 136 Q
    obtain ⟨c6, w⟩ := w
    obtain ⟨c7, w⟩ := w
    refine E_zast 57 dX3_begin_56 ac_79 c6 c7 rfl ?_
    refine E_iinc (ls' := [(2, 76), (2, q1), (2, q2), (0, w32 (x3 + 1))]) 60 dX3_begin_57 (by decide) rfl rfl rfl ?_
    refine E_goto 33 dX3_begin_60 rfl ?_
    with_reducible exact w
theorem B_X3_passDay_0 {g : PG} {d : Nat} {σ : PS} {Q : Int → PS → Prop} {x3 q1 q2 : Int} (hq1 : RowAt q1) (hq2 : LinAt q2) (w : (XX g true (d + 1) P_X3_passDay 3 [(2, 76), (2, q1), (2, q2), (0, x3), (0, 0), (9, 0)] [] 136 σ 136 Q)) : XX g true (d + 1) P_X3_passDay 0 [(2, 76), (2, q1), (2, q2), (0, x3), (9, 0), (9, 0)] [] 136 σ 136 Q := by
  refine E_iconst 1 dX3_passDay_0 (by decide) rfl ?_
  refine E_istore (ls' := [(2, 76), (2, q1), (2, q2), (0, x3), (0, 0), (9, 0)]) 3 dX3_passDay_1 (by decide) rfl rfl ?_
  with_reducible exact w
theorem B_X3_passDay_3 {g : PG} {d : Nat} {σ : PS} {Q : Int → PS → Prop} {x3 x4 q1 q2 : Int} (hq1 : RowAt q1) (hq2 : LinAt q2) (w : ((σ 76 7 ≤ x4 → ∀ u1, u1 = σ 76 2 → Fat 136 u1 (21, 1024) ∧ XX g true d P_J7_fill_d0a16 0 [(2, u1), (1, 0), (9, 0), (9, 0), (9, 0)] [] 136 σ 136 (fun _ σ2 => (XX g true (d + 1) P_X3_passDay 70 [(2, 76), (9, 0), (9, 0), (9, 0), (0, 0), (9, 0)] [] 136 σ2 136 Q))) ∧ (x4 < σ 76 7 → (XX g true (d + 1) P_X3_passDay 15 [(2, 76), (2, q1), (2, q2), (0, x3), (0, x4), (0, 0)] [] 136 σ 136 Q)))) : XX g true (d + 1) P_X3_passDay 3 [(2, 76), (2, q1), (2, q2), (0, x3), (0, x4), (9, 0)] [] 136 σ 136 Q := by
  refine E_iload 5 dX3_passDay_3 rfl rfl ?_
  refine E_aload_n 6 dX3_passDay_5 rfl (ac_76.bnd) rfl ?_
  refine E_get 7 9 dX3_passDay_6 fl_X3_48 ac_76 rfl (by decide) rfl rfl ?_
  refine E_icmp_ge 12 59 dX3_passDay_9 rfl rfl (fun h => ?_) (fun h => ?_)
  · have w := w.1 h
    refine E_aload_n 60 dX3_passDay_59 rfl (ac_76.bnd) rfl ?_
    refine E_get 2 63 dX3_passDay_60 fl_X3_15 ac_76 rfl (by decide) rfl rfl ?_
    refine E_top (fun u1 hu1 => ?_)
    obtain ⟨fu1, w⟩ := w u1 hu1
    refine E_lconst (x := 0) 64 dX3_passDay_63 rfl rfl ?_
    refine E_callS (as := [(2, u1), (1, 0)]) 67 dX3_passDay_64 cf_J7_fill_d0a16 (Or.inl mw_956) mw_934 rfl rfl (Nat.le_of_ble_eq_true rfl) (Nat.le_of_ble_eq_true rfl) ⟨Nat.le_refl _, Nat.le_refl _⟩ rfl (w.mono (fun r3 σ2 w => ?_))
    show XX g true (d + 1) P_X3_passDay 67 [(2, 76), (2, q1), (2, q2), (0, x3), (0, x4), (9, 0)] [] 136 σ2 136 Q
    refine E_iconst 68 dX3_passDay_67 (by decide) rfl ?_
    refine E_istore (ls' := [(2, 76), (2, q1), (2, q2), (0, x3), (0, 0), (9, 0)]) 70 dX3_passDay_68 (by decide) rfl rfl ?_
    refine XX.fg [1, 2, 3] [(2, 76), (9, 0), (9, 0), (9, 0), (0, 0), (9, 0)] rfl ?_
    with_reducible exact w
  · have w := w.2 h
    refine E_iconst 13 dX3_passDay_12 (by decide) rfl ?_
    refine E_istore (ls' := [(2, 76), (2, q1), (2, q2), (0, x3), (0, x4), (0, 0)]) 15 dX3_passDay_13 (by decide) rfl rfl ?_
    with_reducible exact w
theorem B_X3_passDay_70 {g : PG} {d : Nat} {σ : PS} {Q : Int → PS → Prop} {x4 q1 q2 : Int} (hq1 : RowAt q1) (hq2 : LinAt q2) (w : ((σ 76 8 ≤ x4 → ∀ u1, u1 = σ 76 1 → Fat 136 u1 (21, 1024) ∧ ∀ u2, u2 = σ 76 2 → Fat 136 u2 (21, 1024) ∧ Q 0 (su (su σ 76 1 u2) 76 2 u1)) ∧ (x4 < σ 76 8 → ∀ u3, u3 = σ 76 1 → Fat 136 u3 (21, 1024) ∧ (0 ≤ x4 ∧ x4 < 1024) ∧ ((σ u3 x4 = 0 → (XX g true (d + 1) P_X3_passDay 70 [(2, 76), (9, 0), (9, 0), (9, 0), (0, w32 (x4 + 1)), (9, 0)] [] 136 σ 136 Q)) ∧ (σ u3 x4 ≠ 0 → XX g true d P_X3_split 0 [(2, 76), (0, x4), (9, 0), (9, 0), (9, 0)] [] 136 σ 136 (fun _ σ5 => (XX g true (d + 1) P_X3_passDay 70 [(2, 76), (9, 0), (9, 0), (9, 0), (0, w32 (x4 + 1)), (9, 0)] [] 136 σ5 136 Q))))))) : XX g true (d + 1) P_X3_passDay 70 [(2, 76), (9, 0), (9, 0), (9, 0), (0, x4), (9, 0)] [] 136 σ 136 Q := by
  refine E_iload 72 dX3_passDay_70 rfl rfl ?_
  refine E_aload_n 73 dX3_passDay_72 rfl (ac_76.bnd) rfl ?_
  refine E_get 8 76 dX3_passDay_73 fl_X3_49 ac_76 rfl (by decide) rfl rfl ?_
  refine E_icmp_ge 79 103 dX3_passDay_76 rfl rfl (fun h => ?_) (fun h => ?_)
  · have w := w.1 h
    refine E_aload_n 104 dX3_passDay_103 rfl (ac_76.bnd) rfl ?_
    refine E_get 1 107 dX3_passDay_104 fl_X3_11 ac_76 rfl (by decide) rfl rfl ?_
    refine E_top (fun u1 hu1 => ?_)
    obtain ⟨fu1, w⟩ := w u1 hu1
    refine E_astore (ls' := [(2, 76), (9, 0), (9, 0), (9, 0), (2, u1), (9, 0)]) 109 dX3_passDay_107 (by decide) rfl fu1.bnd rfl ?_
    refine E_aload_n 110 dX3_passDay_109 rfl (ac_76.bnd) rfl ?_
    refine E_aload_n 111 dX3_passDay_110 rfl (ac_76.bnd) rfl ?_
    refine E_get 2 114 dX3_passDay_111 fl_X3_15 ac_76 rfl (by decide) rfl rfl ?_
    refine E_top (fun u2 hu2 => ?_)
    obtain ⟨fu2, w⟩ := w u2 hu2
    refine E_putR (ty := .array .long) 1 117 dX3_passDay_114 fl_X3_11 ac_76 rfl (by decide) (Or.inl rfl) (by decide +kernel) (Or.inr ⟨_, rfl⟩) (fun _ => by decide +kernel) rfl rfl ?_
    refine E_aload_n 118 dX3_passDay_117 rfl (ac_76.bnd) rfl ?_
    refine E_aload 120 dX3_passDay_118 rfl fu1.bnd rfl ?_
    refine E_putR (ty := .array .long) 2 123 dX3_passDay_120 fl_X3_15 ac_76 rfl (by decide) (Or.inl rfl) (by decide +kernel) (Or.inr ⟨_, rfl⟩) (fun _ => by decide +kernel) rfl rfl ?_
    exact E_vret dX3_passDay_123 rfl rfl w
  · have w := w.2 h
    refine E_aload_n 80 dX3_passDay_79 rfl (ac_76.bnd) rfl ?_
    refine E_get 1 83 dX3_passDay_80 fl_X3_11 ac_76 rfl (by decide) rfl rfl ?_
    refine E_top (fun u3 hu3 => ?_)
    obtain ⟨fu3, w⟩ := w u3 hu3
    refine E_iload 85 dX3_passDay_83 rfl rfl ?_
    obtain ⟨c4, w⟩ := w
    refine E_lald 86 dX3_passDay_85 fu3 c4 rfl ?_
    refine E_lconst (x := 0) 87 dX3_passDay_86 rfl rfl ?_
    refine E_lcmp 88 dX3_passDay_87 rfl ?_
    refine E_if_eq 91 97 dX3_passDay_88 rfl rfl (fun h => ?_) (fun h => ?_)
    · have w := w.1 ((lc_eq _ _).mp h)
      refine E_iinc (ls' := [(2, 76), (9, 0), (9, 0), (9, 0), (0, w32 (x4 + 1)), (9, 0)]) 100 dX3_passDay_97 (by decide) rfl rfl rfl ?_
      refine E_goto 70 dX3_passDay_100 rfl ?_
      with_reducible exact w
    · have w := w.2 ((lc_ne _ _).mp h)
      refine E_aload_n 92 dX3_passDay_91 rfl (ac_76.bnd) rfl ?_
      refine E_iload 94 dX3_passDay_92 rfl rfl ?_
      refine E_callV (as := [(0, x4)]) 97 dX3_passDay_94 cf_X3_split mw_964 mw_966 mw_31 ac_76 (by decide) cl_X3 rfl rfl (Nat.le_of_ble_eq_true rfl) (Nat.le_of_ble_eq_true rfl) ⟨Nat.le_refl _, Nat.le_refl _⟩ rfl (w.mono (fun r6 σ5 w => ?_))
      show XX g true (d + 1) P_X3_passDay 97 [(2, 76), (9, 0), (9, 0), (9, 0), (0, x4), (9, 0)] [] 136 σ5 136 Q
      refine E_iinc (ls' := [(2, 76), (9, 0), (9, 0), (9, 0), (0, w32 (x4 + 1)), (9, 0)]) 100 dX3_passDay_97 (by decide) rfl rfl rfl ?_
      refine E_goto 70 dX3_passDay_100 rfl ?_
      with_reducible exact w
theorem B_X3_passDay_15 {g : PG} {d : Nat} {σ : PS} {Q : Int → PS → Prop} {x3 x4 x5 q1 q2 : Int} (hq1 : RowAt q1) (hq2 : LinAt q2) (w : ((3 ≤ x5 → (XX g true (d + 1) P_X3_passDay 3 [(2, 76), (2, q1), (2, q2), (0, x3), (0, w32 (x4 + 1)), (9, 0)] [] 136 σ 136 Q)) ∧ (x5 < 3 → XX g true d P_X0_goes 0 [(2, 67), (2, q1), (2, q2), (0, x4), (0, x5), (0, x3)] [] 136 σ 136 (fun r2 σ1 => (0 ≤ w32 ((w32 (3 * x4)) + x5) ∧ w32 ((w32 (3 * x4)) + x5) < 30) ∧ (XX g true (d + 1) P_X3_passDay 15 [(2, 76), (2, q1), (2, q2), (0, x3), (0, x4), (0, w32 (x5 + 1))] [] 136 (su σ1 80 (w32 ((w32 (3 * x4)) + x5)) r2) 136 Q))))) : XX g true (d + 1) P_X3_passDay 15 [(2, 76), (2, q1), (2, q2), (0, x3), (0, x4), (0, x5)] [] 136 σ 136 Q := by
  refine E_iload 17 dX3_passDay_15 rfl rfl ?_
  refine E_iconst 18 dX3_passDay_17 (by decide) rfl ?_
  refine E_icmp_ge 21 53 dX3_passDay_18 rfl rfl (fun h => ?_) (fun h => ?_)
  · have w := w.1 h
    refine E_iinc (ls' := [(2, 76), (2, q1), (2, q2), (0, x3), (0, w32 (x4 + 1)), (0, x5)]) 56 dX3_passDay_53 (by decide) rfl rfl rfl ?_
    refine E_goto 3 dX3_passDay_56 rfl ?_
    refine XX.fg [5] [(2, 76), (2, q1), (2, q2), (0, x3), (0, w32 (x4 + 1)), (9, 0)] rfl ?_
    with_reducible exact w
  · have w := w.2 h
    refine E_aload_n 22 dX3_passDay_21 rfl (ac_76.bnd) rfl ?_
    refine E_getL 25 dX3_passDay_22 fl_X3_22 ac_76 rfl (by decide) lay_76_4 rfl ?_
    refine E_iconst 26 dX3_passDay_25 (by decide) rfl ?_
    refine E_iload 28 dX3_passDay_26 rfl rfl ?_
    refine E_imul 29 dX3_passDay_28 rfl ?_
    refine E_iload 31 dX3_passDay_29 rfl rfl ?_
    refine E_iadd 32 dX3_passDay_31 rfl ?_
    refine E_aload_n 33 dX3_passDay_32 rfl (ac_76.bnd) rfl ?_
    refine E_getL 36 dX3_passDay_33 fl_X3_32 ac_76 rfl (by decide) lay_76_0 rfl ?_
    refine E_aload_n 37 dX3_passDay_36 rfl (RowB hq1) rfl ?_
    refine E_aload_n 38 dX3_passDay_37 rfl (LinB hq2) rfl ?_
    refine E_iload 40 dX3_passDay_38 rfl rfl ?_
    refine E_iload 42 dX3_passDay_40 rfl rfl ?_
    refine E_iload_n 43 dX3_passDay_42 rfl rfl ?_
    refine E_callV (as := [(2, q1), (2, q2), (0, x4), (0, x5), (0, x3)]) 46 dX3_passDay_43 cf_X0_goes mw_963 mw_815 mw_816 ac_67 (by decide) cl_X0 rfl rfl (Nat.le_of_ble_eq_true rfl) (Nat.le_of_ble_eq_true rfl) ⟨Nat.le_refl _, Nat.le_refl _⟩ rfl (w.mono (fun r2 σ1 w => ?_))
    show XX g true (d + 1) P_X3_passDay 46 [(2, 76), (2, q1), (2, q2), (0, x3), (0, x4), (0, x5)] [(0, r2), (0, w32 ((w32 (3 * x4)) + x5)), (2, 80)] 136 σ1 136 Q
    obtain ⟨c3, w⟩ := w
    refine E_iast 47 dX3_passDay_46 ac_80 c3 rfl ?_
    refine E_iinc (ls' := [(2, 76), (2, q1), (2, q2), (0, x3), (0, x4), (0, w32 (x5 + 1))]) 50 dX3_passDay_47 (by decide) rfl rfl rfl ?_
    refine E_goto 15 dX3_passDay_50 rfl ?_
    with_reducible exact w
theorem B_X3_split_0 {g : PG} {d : Nat} {σ : PS} {Q : Int → PS → Prop} {x1 : Int}  (w : ∀ u1, u1 = σ 76 1 → Fat 136 u1 (21, 1024) ∧ (0 ≤ x1 ∧ x1 < 1024) ∧ (XX g true (d + 1) P_X3_split 23 [(2, 76), (0, x1), (0, 1), (0, 0), (9, 0)] [] 136 (su (su σ 81 0 x1) 82 0 ((su σ 81 0 x1) u1 x1)) 136 Q)) : XX g true (d + 1) P_X3_split 0 [(2, 76), (0, x1), (9, 0), (9, 0), (9, 0)] [] 136 σ 136 Q := by
  refine E_iconst 1 dX3_split_0 (by decide) rfl ?_
  refine E_istore_n (ls' := [(2, 76), (0, x1), (0, 1), (9, 0), (9, 0)]) 2 dX3_split_1 (by decide) rfl rfl ?_
  refine E_aload_n 3 dX3_split_2 rfl (ac_76.bnd) rfl ?_
  refine E_getL 6 dX3_split_3 fl_X3_26 ac_76 rfl (by decide) lay_76_5 rfl ?_
  refine E_iconst 7 dX3_split_6 (by decide) rfl ?_
  refine E_iload_n 8 dX3_split_7 rfl rfl ?_
  refine E_iast 9 dX3_split_8 ac_81 (by decide) rfl ?_
  refine E_aload_n 10 dX3_split_9 rfl (ac_76.bnd) rfl ?_
  refine E_getL 13 dX3_split_10 fl_X3_29 ac_76 rfl (by decide) lay_76_6 rfl ?_
  refine E_iconst 14 dX3_split_13 (by decide) rfl ?_
  refine E_aload_n 15 dX3_split_14 rfl (ac_76.bnd) rfl ?_
  refine E_get 1 18 dX3_split_15 fl_X3_11 ac_76 rfl (by decide) rfl rfl ?_
  refine E_conv (su_ne (Or.inl (by decide))) ?_
  refine E_top (fun u1 hu1 => ?_)
  obtain ⟨fu1, w⟩ := w u1 hu1
  refine E_iload_n 19 dX3_split_18 rfl rfl ?_
  obtain ⟨c2, w⟩ := w
  refine E_lald 20 dX3_split_19 fu1 c2 rfl ?_
  refine E_last 21 dX3_split_20 ac_82 (by decide) rfl ?_
  refine E_iconst 22 dX3_split_21 (by decide) rfl ?_
  refine E_istore_n (ls' := [(2, 76), (0, x1), (0, 1), (0, 0), (9, 0)]) 23 dX3_split_22 (by decide) rfl rfl ?_
  with_reducible exact w
theorem B_X3_split_23 {g : PG} {d : Nat} {σ : PS} {Q : Int → PS → Prop} {x1 x2 x3 : Int}  (w : ((σ 76 7 ≤ x3 → (XX g true (d + 1) P_X3_split 84 [(2, 76), (9, 0), (0, x2), (0, 0), (9, 0)] [] 136 σ 136 Q)) ∧ (x3 < σ 76 7 → XX g true d P_X11_bit 0 [(1, x1), (9, 0), (0, x3)] [] 136 σ 136 (fun r2 σ1 => ((r2 ≠ 1 → XX g true d P_X11_besideIn 0 [(1, x1), (9, 0), (0, x3)] [] 136 σ1 136 (fun r4 σ3 => (0 ≤ w32 ((w32 (3 * x3)) + r4) ∧ w32 ((w32 (3 * x3)) + r4) < 30) ∧ ∀ y6, y6 = σ3 80 (w32 ((w32 (3 * x3)) + r4)) → ((y6 ≤ 0 → (XX g true (d + 1) P_X3_split 23 [(2, 76), (0, x1), (0, x2), (0, w32 (x3 + 1)), (9, 0)] [] 136 σ3 136 Q)) ∧ (0 < y6 → XX g true d P_X3_splitBy 0 [(2, 76), (0, x3), (0, y6), (0, x2), (9, 0), (9, 0), (9, 0), (9, 0)] [] 136 σ3 136 (fun r8 σ7 => (XX g true (d + 1) P_X3_split 23 [(2, 76), (0, x1), (0, r8), (0, w32 (x3 + 1)), (9, 0)] [] 136 σ7 136 Q)))))) ∧ (r2 = 1 → (XX g true (d + 1) P_X3_split 23 [(2, 76), (0, x1), (0, x2), (0, w32 (x3 + 1)), (9, 0)] [] 136 σ1 136 Q))))))) : XX g true (d + 1) P_X3_split 23 [(2, 76), (0, x1), (0, x2), (0, x3), (9, 0)] [] 136 σ 136 Q := by
  refine E_iload_n 24 dX3_split_23 rfl rfl ?_
  refine E_aload_n 25 dX3_split_24 rfl (ac_76.bnd) rfl ?_
  refine E_get 7 28 dX3_split_25 fl_X3_48 ac_76 rfl (by decide) rfl rfl ?_
  refine E_icmp_ge 31 82 dX3_split_28 rfl rfl (fun h => ?_) (fun h => ?_)
  · have w := w.1 h
    refine E_iconst 83 dX3_split_82 (by decide) rfl ?_
    refine E_istore_n (ls' := [(2, 76), (0, x1), (0, x2), (0, 0), (9, 0)]) 84 dX3_split_83 (by decide) rfl rfl ?_
    refine XX.fg [1] [(2, 76), (9, 0), (0, x2), (0, 0), (9, 0)] rfl ?_
    with_reducible exact w
  · have w := w.2 h
    refine E_iload_n 32 dX3_split_31 rfl rfl ?_
    refine E_i2l 33 dX3_split_32 rfl ?_
    refine E_iload_n 34 dX3_split_33 rfl rfl ?_
    refine E_callS (as := [(1, x1), (0, x3)]) 37 dX3_split_34 cf_X11_bit (Or.inr nst_X3_79) mw_809 rfl rfl (Nat.le_of_ble_eq_true rfl) (Nat.le_of_ble_eq_true rfl) ⟨Nat.le_refl _, Nat.le_refl _⟩ rfl (w.mono (fun r2 σ1 w => ?_))
    show XX g true (d + 1) P_X3_split 37 [(2, 76), (0, x1), (0, x2), (0, x3), (9, 0)] [(0, r2)] 136 σ1 136 Q
    refine E_iconst 38 dX3_split_37 (by decide) rfl ?_
    refine E_icmp_ne 41 45 dX3_split_38 rfl rfl (fun h => ?_) (fun h => ?_)
    · have w := w.1 h
      refine E_aload_n 46 dX3_split_45 rfl (ac_76.bnd) rfl ?_
      refine E_getL 49 dX3_split_46 fl_X3_22 ac_76 rfl (by decide) lay_76_4 rfl ?_
      refine E_iconst 50 dX3_split_49 (by decide) rfl ?_
      refine E_iload_n 51 dX3_split_50 rfl rfl ?_
      refine E_imul 52 dX3_split_51 rfl ?_
      refine E_iload_n 53 dX3_split_52 rfl rfl ?_
      refine E_i2l 54 dX3_split_53 rfl ?_
      refine E_iload_n 55 dX3_split_54 rfl rfl ?_
      refine E_callS (as := [(1, x1), (0, x3)]) 58 dX3_split_55 cf_X11_besideIn (Or.inr nst_X3_83) mw_812 rfl rfl (Nat.le_of_ble_eq_true rfl) (Nat.le_of_ble_eq_true rfl) ⟨Nat.le_refl _, Nat.le_refl _⟩ rfl (w.mono (fun r4 σ3 w => ?_))
      show XX g true (d + 1) P_X3_split 58 [(2, 76), (0, x1), (0, x2), (0, x3), (9, 0)] [(0, r4), (0, w32 (3 * x3)), (2, 80)] 136 σ3 136 Q
      refine E_iadd 59 dX3_split_58 rfl ?_
      obtain ⟨c5, w⟩ := w
      refine E_iald 60 dX3_split_59 ac_80 c5 rfl ?_
      refine E_top (fun y6 hy6 => ?_)
      have w := w y6 hy6
      refine E_istore (ls' := [(2, 76), (0, x1), (0, x2), (0, x3), (0, y6)]) 62 dX3_split_60 (by decide) rfl rfl ?_
      refine E_iload 64 dX3_split_62 rfl rfl ?_
      refine E_if_le 67 76 dX3_split_64 rfl rfl (fun h => ?_) (fun h => ?_)
      · have w := w.1 h
        refine E_iinc (ls' := [(2, 76), (0, x1), (0, x2), (0, w32 (x3 + 1)), (0, y6)]) 79 dX3_split_76 (by decide) rfl rfl rfl ?_
        refine E_goto 23 dX3_split_79 rfl ?_
        refine XX.fg [4] [(2, 76), (0, x1), (0, x2), (0, w32 (x3 + 1)), (9, 0)] rfl ?_
        with_reducible exact w
      · have w := w.2 h
        refine E_aload_n 68 dX3_split_67 rfl (ac_76.bnd) rfl ?_
        refine E_iload_n 69 dX3_split_68 rfl rfl ?_
        refine E_iload 71 dX3_split_69 rfl rfl ?_
        refine E_iload_n 72 dX3_split_71 rfl rfl ?_
        refine E_callV (as := [(0, x3), (0, y6), (0, x2)]) 75 dX3_split_72 cf_X3_splitBy mw_970 mw_972 mw_32 ac_76 (by decide) cl_X3 rfl rfl (Nat.le_of_ble_eq_true rfl) (Nat.le_of_ble_eq_true rfl) ⟨Nat.le_refl _, Nat.le_refl _⟩ rfl (w.mono (fun r8 σ7 w => ?_))
        show XX g true (d + 1) P_X3_split 75 [(2, 76), (0, x1), (0, x2), (0, x3), (0, y6)] [(0, r8)] 136 σ7 136 Q
        refine E_istore_n (ls' := [(2, 76), (0, x1), (0, r8), (0, x3), (0, y6)]) 76 dX3_split_75 (by decide) rfl rfl ?_
        refine E_iinc (ls' := [(2, 76), (0, x1), (0, r8), (0, w32 (x3 + 1)), (0, y6)]) 79 dX3_split_76 (by decide) rfl rfl rfl ?_
        refine E_goto 23 dX3_split_79 rfl ?_
        refine XX.fg [4] [(2, 76), (0, x1), (0, r8), (0, w32 (x3 + 1)), (9, 0)] rfl ?_
        with_reducible exact w
    · have w := w.2 h
      refine E_iconst 42 dX3_split_41 (by decide) rfl ?_
      refine E_goto 60 dX3_split_42 rfl ?_
      refine E_istore (ls' := [(2, 76), (0, x1), (0, x2), (0, x3), (0, 0)]) 62 dX3_split_60 (by decide) rfl rfl ?_
      refine E_iload 64 dX3_split_62 rfl rfl ?_
      refine E_if_le 67 76 dX3_split_64 rfl rfl (fun h => ?_) (fun h => ?_)
      · refine E_iinc (ls' := [(2, 76), (0, x1), (0, x2), (0, w32 (x3 + 1)), (0, 0)]) 79 dX3_split_76 (by decide) rfl rfl rfl ?_
        refine E_goto 23 dX3_split_79 rfl ?_
        refine XX.fg [4] [(2, 76), (0, x1), (0, x2), (0, w32 (x3 + 1)), (9, 0)] rfl ?_
        with_reducible exact w
      · exact absurd h (by decide)
theorem B_X3_split_84 {g : PG} {d : Nat} {σ : PS} {Q : Int → PS → Prop} {x2 x3 : Int}  (w : ((x2 ≤ x3 → Q 0 σ) ∧ (x3 < x2 → (0 ≤ x3 ∧ x3 < 1024) ∧ (0 ≤ σ 81 x3 ∧ σ 81 x3 < 1024) ∧ ((σ 79 (σ 81 x3) ≠ 0 → (XX g true (d + 1) P_X3_split 84 [(2, 76), (9, 0), (0, x2), (0, w32 (x3 + 1)), (9, 0)] [] 136 σ 136 Q)) ∧ (σ 79 (σ 81 x3) = 0 → ∀ u3, u3 = σ 76 2 → Fat 136 u3 (21, 1024) ∧ (XX g true (d + 1) P_X3_split 84 [(2, 76), (9, 0), (0, x2), (0, w32 (x3 + 1)), (9, 0)] [] 136 (su σ u3 (σ 81 x3) (w64 ((σ u3 (σ 81 x3)) + (σ 82 x3)))) 136 Q)))))) : XX g true (d + 1) P_X3_split 84 [(2, 76), (9, 0), (0, x2), (0, x3), (9, 0)] [] 136 σ 136 Q := by
  refine E_iload_n 85 dX3_split_84 rfl rfl ?_
  refine E_iload_n 86 dX3_split_85 rfl rfl ?_
  refine E_icmp_ge 89 129 dX3_split_86 rfl rfl (fun h => ?_) (fun h => ?_)
  · have w := w.1 h
    exact E_vret dX3_split_129 rfl rfl w
  · have w := w.2 h
    refine E_aload_n 90 dX3_split_89 rfl (ac_76.bnd) rfl ?_
    refine E_getL 93 dX3_split_90 fl_X3_18 ac_76 rfl (by decide) lay_76_3 rfl ?_
    refine E_aload_n 94 dX3_split_93 rfl (ac_76.bnd) rfl ?_
    refine E_getL 97 dX3_split_94 fl_X3_26 ac_76 rfl (by decide) lay_76_5 rfl ?_
    refine E_iload_n 98 dX3_split_97 rfl rfl ?_
    obtain ⟨c1, w⟩ := w
    refine E_iald 99 dX3_split_98 ac_81 c1 rfl ?_
    obtain ⟨c2, w⟩ := w
    refine E_zald 100 dX3_split_99 ac_79 c2 rfl ?_
    refine E_if_ne 103 123 dX3_split_100 rfl rfl (fun h => ?_) (fun h => ?_)
    · have w := w.1 h
      refine E_iinc (ls' := [(2, 76), (9, 0), (0, x2), (0, w32 (x3 + 1)), (9, 0)]) 126 dX3_split_123 (by decide) rfl rfl rfl ?_
      refine E_goto 84 dX3_split_126 rfl ?_
      with_reducible exact w
    · have w := w.2 h
      refine E_aload_n 104 dX3_split_103 rfl (ac_76.bnd) rfl ?_
      refine E_get 2 107 dX3_split_104 fl_X3_15 ac_76 rfl (by decide) rfl rfl ?_
      refine E_top (fun u3 hu3 => ?_)
      obtain ⟨fu3, w⟩ := w u3 hu3
      refine E_aload_n 108 dX3_split_107 rfl (ac_76.bnd) rfl ?_
      refine E_getL 111 dX3_split_108 fl_X3_26 ac_76 rfl (by decide) lay_76_5 rfl ?_
      refine E_iload_n 112 dX3_split_111 rfl rfl ?_
      refine E_iald 113 dX3_split_112 ac_81 c1 rfl ?_
      refine E_dup2 114 dX3_split_113 n01 n21 rfl ?_
      refine E_lald 115 dX3_split_114 fu3 c2 rfl ?_
      refine E_aload_n 116 dX3_split_115 rfl (ac_76.bnd) rfl ?_
      refine E_getL 119 dX3_split_116 fl_X3_29 ac_76 rfl (by decide) lay_76_6 rfl ?_
      refine E_iload_n 120 dX3_split_119 rfl rfl ?_
      refine E_lald 121 dX3_split_120 ac_82 c1 rfl ?_
      refine E_ladd 122 dX3_split_121 rfl ?_
      refine E_last 123 dX3_split_122 fu3 c2 rfl ?_
      refine E_iinc (ls' := [(2, 76), (9, 0), (0, x2), (0, w32 (x3 + 1)), (9, 0)]) 126 dX3_split_123 (by decide) rfl rfl rfl ?_
      refine E_goto 84 dX3_split_126 rfl ?_
      with_reducible exact w
theorem B_X3_splitBy_0 {g : PG} {d : Nat} {σ : PS} {Q : Int → PS → Prop} {x1 x2 x3 : Int}  (w : (XX g true d P_X3_splitBy 6 [(2, 76), (0, x1), (0, x2), (0, x3), (0, x3), (0, 0), (9, 0), (9, 0)] [] 136 σ 136 Q)) : XX g true d P_X3_splitBy 0 [(2, 76), (0, x1), (0, x2), (0, x3), (9, 0), (9, 0), (9, 0), (9, 0)] [] 136 σ 136 Q := by
  refine E_iload_n 1 dX3_splitBy_0 rfl rfl ?_
  refine E_istore (ls' := [(2, 76), (0, x1), (0, x2), (0, x3), (0, x3), (9, 0), (9, 0), (9, 0)]) 3 dX3_splitBy_1 (by decide) rfl rfl ?_
  refine E_iconst 4 dX3_splitBy_3 (by decide) rfl ?_
  refine E_istore (ls' := [(2, 76), (0, x1), (0, x2), (0, x3), (0, x3), (0, 0), (9, 0), (9, 0)]) 6 dX3_splitBy_4 (by decide) rfl rfl ?_
  with_reducible exact w
theorem B_X3_splitBy_6 {g : PG} {d : Nat} {σ : PS} {Q : Int → PS → Prop} {x1 x2 x3 x4 x5 : Int}  (w : ((x3 ≤ x5 → Q x4 σ) ∧ (x5 < x3 → (0 ≤ x5 ∧ x5 < 1024) ∧ ∀ y2, y2 = ldiv (w64 ((σ 82 x5) * x2)) 1000 → ((y2 = 0 → (XX g true d P_X3_splitBy 6 [(2, 76), (0, x1), (0, x2), (0, x3), (0, x4), (0, w32 (x5 + 1)), (9, 0), (9, 0)] [] 136 σ 136 Q)) ∧ (y2 ≠ 0 → ((1024 ≤ x4 → (XX g true d P_X3_splitBy 6 [(2, 76), (0, x1), (0, x2), (0, x3), (0, x4), (0, w32 (x5 + 1)), (9, 0), (9, 0)] [] 136 σ 136 Q)) ∧ (x4 < 1024 → (0 ≤ x4 ∧ x4 < 1024) ∧ (XX g true d P_X3_splitBy 6 [(2, 76), (0, x1), (0, x2), (0, x3), (0, w32 (x4 + 1)), (0, w32 (x5 + 1)), (9, 0), (9, 0)] [] 136 (su (su (su σ 82 x5 (w64 ((σ 82 x5) - y2))) 81 x4 (ior (σ 81 x5) (ishl 1 x1))) 82 x4 y2) 136 Q)))))))) : XX g true d P_X3_splitBy 6 [(2, 76), (0, x1), (0, x2), (0, x3), (0, x4), (0, x5), (9, 0), (9, 0)] [] 136 σ 136 Q := by
  refine E_iload 8 dX3_splitBy_6 rfl rfl ?_
  refine E_iload_n 9 dX3_splitBy_8 rfl rfl ?_
  refine E_icmp_ge 12 91 dX3_splitBy_9 rfl rfl (fun h => ?_) (fun h => ?_)
  · have w := w.1 h
    refine E_iload 93 dX3_splitBy_91 rfl rfl ?_
    exact E_iret dX3_splitBy_93 rfl rfl w
  · have w := w.2 h
    refine E_aload_n 13 dX3_splitBy_12 rfl (ac_76.bnd) rfl ?_
    refine E_getL 16 dX3_splitBy_13 fl_X3_29 ac_76 rfl (by decide) lay_76_6 rfl ?_
    refine E_iload 18 dX3_splitBy_16 rfl rfl ?_
    obtain ⟨c1, w⟩ := w
    refine E_lald 19 dX3_splitBy_18 ac_82 c1 rfl ?_
    refine E_iload_n 20 dX3_splitBy_19 rfl rfl ?_
    refine E_i2l 21 dX3_splitBy_20 rfl ?_
    refine E_lmul 22 dX3_splitBy_21 rfl ?_
    refine E_ldc2_w (x := 1000) 25 dX3_splitBy_22 mw_974 (by decide) (by unfold in64; decide) rfl ?_
    refine E_ldiv 26 dX3_splitBy_25 (by decide) rfl ?_
    refine E_top (fun y2 hy2 => ?_)
    have w := w y2 hy2
    refine E_lstore (ls' := [(2, 76), (0, x1), (0, x2), (0, x3), (0, x4), (0, x5), (1, y2), (9, 0)]) 28 dX3_splitBy_26 (by decide) rfl rfl ?_
    refine E_lload 30 dX3_splitBy_28 rfl rfl ?_
    refine E_lconst (x := 0) 31 dX3_splitBy_30 rfl rfl ?_
    refine E_lcmp 32 dX3_splitBy_31 rfl ?_
    refine E_if_eq 35 85 dX3_splitBy_32 rfl rfl (fun h => ?_) (fun h => ?_)
    · have w := w.1 ((lc_eq _ _).mp h)
      refine E_iinc (ls' := [(2, 76), (0, x1), (0, x2), (0, x3), (0, x4), (0, w32 (x5 + 1)), (1, y2), (9, 0)]) 88 dX3_splitBy_85 (by decide) rfl rfl rfl ?_
      refine E_goto 6 dX3_splitBy_88 rfl ?_
      refine XX.fg [6] [(2, 76), (0, x1), (0, x2), (0, x3), (0, x4), (0, w32 (x5 + 1)), (9, 0), (9, 0)] rfl ?_
      with_reducible exact w
    · have w := w.2 ((lc_ne _ _).mp h)
      refine E_iload 37 dX3_splitBy_35 rfl rfl ?_
      refine E_sipush 40 dX3_splitBy_37 (by decide) rfl ?_
      refine E_icmp_ge 43 85 dX3_splitBy_40 rfl rfl (fun h => ?_) (fun h => ?_)
      · have w := w.1 h
        refine E_iinc (ls' := [(2, 76), (0, x1), (0, x2), (0, x3), (0, x4), (0, w32 (x5 + 1)), (1, y2), (9, 0)]) 88 dX3_splitBy_85 (by decide) rfl rfl rfl ?_
        refine E_goto 6 dX3_splitBy_88 rfl ?_
        refine XX.fg [6] [(2, 76), (0, x1), (0, x2), (0, x3), (0, x4), (0, w32 (x5 + 1)), (9, 0), (9, 0)] rfl ?_
        with_reducible exact w
      · have w := w.2 h
        refine E_aload_n 44 dX3_splitBy_43 rfl (ac_76.bnd) rfl ?_
        refine E_getL 47 dX3_splitBy_44 fl_X3_29 ac_76 rfl (by decide) lay_76_6 rfl ?_
        refine E_iload 49 dX3_splitBy_47 rfl rfl ?_
        refine E_dup2 50 dX3_splitBy_49 n01 n21 rfl ?_
        refine E_lald 51 dX3_splitBy_50 ac_82 c1 rfl ?_
        refine E_lload 53 dX3_splitBy_51 rfl rfl ?_
        refine E_lsub 54 dX3_splitBy_53 rfl ?_
        refine E_last 55 dX3_splitBy_54 ac_82 c1 rfl ?_
        refine E_aload_n 56 dX3_splitBy_55 rfl (ac_76.bnd) rfl ?_
        refine E_getL 59 dX3_splitBy_56 fl_X3_26 ac_76 rfl (by decide) lay_76_5 rfl ?_
        refine E_iload 61 dX3_splitBy_59 rfl rfl ?_
        refine E_aload_n 62 dX3_splitBy_61 rfl (ac_76.bnd) rfl ?_
        refine E_getL 65 dX3_splitBy_62 fl_X3_26 ac_76 rfl (by decide) lay_76_5 rfl ?_
        refine E_iload 67 dX3_splitBy_65 rfl rfl ?_
        refine E_iald 68 dX3_splitBy_67 ac_81 c1 rfl ?_
        refine E_conv (su_ne (Or.inl (by decide))) ?_
        refine E_iconst 69 dX3_splitBy_68 (by decide) rfl ?_
        refine E_iload_n 70 dX3_splitBy_69 rfl rfl ?_
        refine E_ishl 71 dX3_splitBy_70 rfl ?_
        refine E_ior 72 dX3_splitBy_71 rfl ?_
        obtain ⟨c3, w⟩ := w
        refine E_iast 73 dX3_splitBy_72 ac_81 c3 rfl ?_
        refine E_aload_n 74 dX3_splitBy_73 rfl (ac_76.bnd) rfl ?_
        refine E_getL 77 dX3_splitBy_74 fl_X3_29 ac_76 rfl (by decide) lay_76_6 rfl ?_
        refine E_iload 79 dX3_splitBy_77 rfl rfl ?_
        refine E_lload 81 dX3_splitBy_79 rfl rfl ?_
        refine E_last 82 dX3_splitBy_81 ac_82 c3 rfl ?_
        refine E_iinc (ls' := [(2, 76), (0, x1), (0, x2), (0, x3), (0, w32 (x4 + 1)), (0, x5), (1, y2), (9, 0)]) 85 dX3_splitBy_82 (by decide) rfl rfl rfl ?_
        refine E_iinc (ls' := [(2, 76), (0, x1), (0, x2), (0, x3), (0, w32 (x4 + 1)), (0, w32 (x5 + 1)), (1, y2), (9, 0)]) 88 dX3_splitBy_85 (by decide) rfl rfl rfl ?_
        refine E_goto 6 dX3_splitBy_88 rfl ?_
        refine XX.fg [6] [(2, 76), (0, x1), (0, x2), (0, x3), (0, w32 (x4 + 1)), (0, w32 (x5 + 1)), (9, 0), (9, 0)] rfl ?_
        with_reducible exact w
theorem B_X3_remaining_0 {g : PG} {d : Nat} {σ : PS} {Q : Int → PS → Prop}  (w : (XX g true d P_X3_remaining 4 [(2, 76), (1, 0), (9, 0), (0, 0)] [] 136 σ 136 Q)) : XX g true d P_X3_remaining 0 [(2, 76), (9, 0), (9, 0), (9, 0)] [] 136 σ 136 Q := by
  refine E_lconst (x := 0) 1 dX3_remaining_0 rfl rfl ?_
  refine E_lstore_n (ls' := [(2, 76), (1, 0), (9, 0), (9, 0)]) 2 dX3_remaining_1 (by decide) rfl rfl ?_
  refine E_iconst 3 dX3_remaining_2 (by decide) rfl ?_
  refine E_istore_n (ls' := [(2, 76), (1, 0), (9, 0), (0, 0)]) 4 dX3_remaining_3 (by decide) rfl rfl ?_
  with_reducible exact w
theorem B_X3_remaining_4 {g : PG} {d : Nat} {σ : PS} {Q : Int → PS → Prop} {x1 x3 : Int}  (w : ((σ 76 8 ≤ x3 → Q x1 σ) ∧ (x3 < σ 76 8 → ∀ u1, u1 = σ 76 1 → Fat 136 u1 (21, 1024) ∧ (0 ≤ x3 ∧ x3 < 1024) ∧ ∀ y3, y3 = w64 (x1 + (σ u1 x3)) → (XX g true d P_X3_remaining 4 [(2, 76), (1, y3), (9, 0), (0, w32 (x3 + 1))] [] 136 σ 136 Q)))) : XX g true d P_X3_remaining 4 [(2, 76), (1, x1), (9, 0), (0, x3)] [] 136 σ 136 Q := by
  refine E_iload_n 5 dX3_remaining_4 rfl rfl ?_
  refine E_aload_n 6 dX3_remaining_5 rfl (ac_76.bnd) rfl ?_
  refine E_get 8 9 dX3_remaining_6 fl_X3_49 ac_76 rfl (by decide) rfl rfl ?_
  refine E_icmp_ge 12 27 dX3_remaining_9 rfl rfl (fun h => ?_) (fun h => ?_)
  · have w := w.1 h
    refine E_lload_n 28 dX3_remaining_27 rfl rfl ?_
    exact E_lret dX3_remaining_28 rfl rfl w
  · have w := w.2 h
    refine E_lload_n 13 dX3_remaining_12 rfl rfl ?_
    refine E_aload_n 14 dX3_remaining_13 rfl (ac_76.bnd) rfl ?_
    refine E_get 1 17 dX3_remaining_14 fl_X3_11 ac_76 rfl (by decide) rfl rfl ?_
    refine E_top (fun u1 hu1 => ?_)
    obtain ⟨fu1, w⟩ := w u1 hu1
    refine E_iload_n 18 dX3_remaining_17 rfl rfl ?_
    obtain ⟨c2, w⟩ := w
    refine E_lald 19 dX3_remaining_18 fu1 c2 rfl ?_
    refine E_ladd 20 dX3_remaining_19 rfl ?_
    refine E_top (fun y3 hy3 => ?_)
    have w := w y3 hy3
    refine E_lstore_n (ls' := [(2, 76), (1, y3), (9, 0), (0, x3)]) 21 dX3_remaining_20 (by decide) rfl rfl ?_
    refine E_iinc (ls' := [(2, 76), (1, y3), (9, 0), (0, w32 (x3 + 1))]) 24 dX3_remaining_21 (by decide) rfl rfl rfl ?_
    refine E_goto 4 dX3_remaining_24 rfl ?_
    with_reducible exact w
theorem B_X3_mostLikely_0 {g : PG} {d : Nat} {σ : PS} {Q : Int → PS → Prop}  (w : (XX g true d P_X3_mostLikely 7 [(2, 76), (0, (-1)), (1, 0), (9, 0), (0, 0)] [] 136 σ 136 Q)) : XX g true d P_X3_mostLikely 0 [(2, 76), (9, 0), (9, 0), (9, 0), (9, 0)] [] 136 σ 136 Q := by
  refine E_iconst 1 dX3_mostLikely_0 (by decide) rfl ?_
  refine E_istore_n (ls' := [(2, 76), (0, (-1)), (9, 0), (9, 0), (9, 0)]) 2 dX3_mostLikely_1 (by decide) rfl rfl ?_
  refine E_lconst (x := 0) 3 dX3_mostLikely_2 rfl rfl ?_
  refine E_lstore_n (ls' := [(2, 76), (0, (-1)), (1, 0), (9, 0), (9, 0)]) 4 dX3_mostLikely_3 (by decide) rfl rfl ?_
  refine E_iconst 5 dX3_mostLikely_4 (by decide) rfl ?_
  refine E_istore (ls' := [(2, 76), (0, (-1)), (1, 0), (9, 0), (0, 0)]) 7 dX3_mostLikely_5 (by decide) rfl rfl ?_
  with_reducible exact w
theorem B_X3_mostLikely_7 {g : PG} {d : Nat} {σ : PS} {Q : Int → PS → Prop} {x1 x2 x4 : Int}  (w : ((σ 76 8 ≤ x4 → Q x1 σ) ∧ (x4 < σ 76 8 → ∀ u1, u1 = σ 76 1 → Fat 136 u1 (21, 1024) ∧ (0 ≤ x4 ∧ x4 < 1024) ∧ ((σ u1 x4 ≤ x2 → (XX g true d P_X3_mostLikely 7 [(2, 76), (0, x1), (1, x2), (9, 0), (0, w32 (x4 + 1))] [] 136 σ 136 Q)) ∧ (x2 < σ u1 x4 → ∀ u3, u3 = σ 76 1 → Fat 136 u3 (21, 1024) ∧ ∀ y4, y4 = σ u3 x4 → (XX g true d P_X3_mostLikely 7 [(2, 76), (0, x4), (1, y4), (9, 0), (0, w32 (x4 + 1))] [] 136 σ 136 Q)))))) : XX g true d P_X3_mostLikely 7 [(2, 76), (0, x1), (1, x2), (9, 0), (0, x4)] [] 136 σ 136 Q := by
  refine E_iload 9 dX3_mostLikely_7 rfl rfl ?_
  refine E_aload_n 10 dX3_mostLikely_9 rfl (ac_76.bnd) rfl ?_
  refine E_get 8 13 dX3_mostLikely_10 fl_X3_49 ac_76 rfl (by decide) rfl rfl ?_
  refine E_icmp_ge 16 45 dX3_mostLikely_13 rfl rfl (fun h => ?_) (fun h => ?_)
  · have w := w.1 h
    refine E_iload_n 46 dX3_mostLikely_45 rfl rfl ?_
    exact E_iret dX3_mostLikely_46 rfl rfl w
  · have w := w.2 h
    refine E_aload_n 17 dX3_mostLikely_16 rfl (ac_76.bnd) rfl ?_
    refine E_get 1 20 dX3_mostLikely_17 fl_X3_11 ac_76 rfl (by decide) rfl rfl ?_
    refine E_top (fun u1 hu1 => ?_)
    obtain ⟨fu1, w⟩ := w u1 hu1
    refine E_iload 22 dX3_mostLikely_20 rfl rfl ?_
    obtain ⟨c2, w⟩ := w
    refine E_lald 23 dX3_mostLikely_22 fu1 c2 rfl ?_
    refine E_lload_n 24 dX3_mostLikely_23 rfl rfl ?_
    refine E_lcmp 25 dX3_mostLikely_24 rfl ?_
    refine E_if_le 28 39 dX3_mostLikely_25 rfl rfl (fun h => ?_) (fun h => ?_)
    · have w := w.1 ((lc_le _ _).mp h)
      refine E_iinc (ls' := [(2, 76), (0, x1), (1, x2), (9, 0), (0, w32 (x4 + 1))]) 42 dX3_mostLikely_39 (by decide) rfl rfl rfl ?_
      refine E_goto 7 dX3_mostLikely_42 rfl ?_
      with_reducible exact w
    · have w := w.2 ((lc_gt _ _).mp h)
      refine E_iload 30 dX3_mostLikely_28 rfl rfl ?_
      refine E_istore_n (ls' := [(2, 76), (0, x4), (1, x2), (9, 0), (0, x4)]) 31 dX3_mostLikely_30 (by decide) rfl rfl ?_
      refine E_aload_n 32 dX3_mostLikely_31 rfl (ac_76.bnd) rfl ?_
      refine E_get 1 35 dX3_mostLikely_32 fl_X3_11 ac_76 rfl (by decide) rfl rfl ?_
      refine E_top (fun u3 hu3 => ?_)
      obtain ⟨fu3, w⟩ := w u3 hu3
      refine E_iload 37 dX3_mostLikely_35 rfl rfl ?_
      refine E_lald 38 dX3_mostLikely_37 fu3 c2 rfl ?_
      refine E_top (fun y4 hy4 => ?_)
      have w := w y4 hy4
      refine E_lstore_n (ls' := [(2, 76), (0, x4), (1, y4), (9, 0), (0, x4)]) 39 dX3_mostLikely_38 (by decide) rfl rfl ?_
      refine E_iinc (ls' := [(2, 76), (0, x4), (1, y4), (9, 0), (0, w32 (x4 + 1))]) 42 dX3_mostLikely_39 (by decide) rfl rfl rfl ?_
      refine E_goto 7 dX3_mostLikely_42 rfl ?_
      with_reducible exact w
theorem B_X4_clear_0 {g : PG} {d : Nat} {σ : PS} {Q : Int → PS → Prop} {q0 : Int} (hq0 : LinAt q0) (w : Q 0 (su (su σ q0 3 0) q0 4 0)) : XX g true d P_X4_clear 0 [(2, q0)] [] 136 σ 136 Q := by
  refine E_aload_n 1 dX4_clear_0 rfl (LinB hq0) rfl ?_
  refine E_iconst 2 dX4_clear_1 (by decide) rfl ?_
  refine E_putI 3 5 dX4_clear_2 fl_X4_21 (LinF0 hq0) rfl (by decide) (Or.inl rfl) rfl rfl ?_
  refine E_aload_n 6 dX4_clear_5 rfl (LinB hq0) rfl ?_
  refine E_iconst 7 dX4_clear_6 (by decide) rfl ?_
  refine E_putI 4 10 dX4_clear_7 fl_X4_25 (LinF0 hq0) rfl (by decide) (Or.inl rfl) rfl rfl ?_
  exact E_vret dX4_clear_10 rfl rfl w
theorem B_X4_put_0 {g : PG} {d : Nat} {σ : PS} {Q : Int → PS → Prop} {x1 q0 : Int} (hq0 : LinAt q0) (w : ((σ q0 4 < 500 → (0 ≤ σ q0 4 ∧ σ q0 4 < 500) ∧ Q 1 (su (su σ (q0 + 1) (σ q0 4) x1) q0 4 (w32 ((σ q0 4) + 1)))) ∧ (500 ≤ σ q0 4 → Q 0 σ))) : XX g true d P_X4_put 0 [(2, q0), (0, x1)] [] 136 σ 136 Q := by
  refine E_aload_n 1 dX4_put_0 rfl (LinB hq0) rfl ?_
  refine E_get 4 4 dX4_put_1 fl_X4_25 (LinF0 hq0) rfl (by decide) rfl rfl ?_
  refine E_aload_n 5 dX4_put_4 rfl (LinB hq0) rfl ?_
  refine E_getL 8 dX4_put_5 fl_X4_9 (LinF0 hq0) rfl (by decide) (LinL0 hq0) rfl ?_
  refine E_alen 500 9 dX4_put_8 (LinF1 hq0) (by decide) (by decide) rfl rfl ?_
  refine E_icmp_lt 12 14 dX4_put_9 rfl rfl (fun h => ?_) (fun h => ?_)
  · have w := w.1 h
    refine E_aload_n 15 dX4_put_14 rfl (LinB hq0) rfl ?_
    refine E_getL 18 dX4_put_15 fl_X4_9 (LinF0 hq0) rfl (by decide) (LinL0 hq0) rfl ?_
    refine E_aload_n 19 dX4_put_18 rfl (LinB hq0) rfl ?_
    refine E_get 4 22 dX4_put_19 fl_X4_25 (LinF0 hq0) rfl (by decide) rfl rfl ?_
    refine E_iload_n 23 dX4_put_22 rfl rfl ?_
    obtain ⟨c1, w⟩ := w
    refine E_iast 24 dX4_put_23 (LinF1 hq0) c1 rfl ?_
    refine E_aload_n 25 dX4_put_24 rfl (LinB hq0) rfl ?_
    refine E_dup 26 dX4_put_25 n21 rfl ?_
    refine E_get 4 29 dX4_put_26 fl_X4_25 (LinF0 hq0) rfl (by decide) rfl rfl ?_
    refine E_conv (su_ne (Or.inl (by omega))) ?_
    refine E_iconst 30 dX4_put_29 (by decide) rfl ?_
    refine E_iadd 31 dX4_put_30 rfl ?_
    refine E_putI 4 34 dX4_put_31 fl_X4_25 (LinF0 hq0) rfl (by decide) (Or.inl rfl) rfl rfl ?_
    refine E_iconst 35 dX4_put_34 (by decide) rfl ?_
    exact E_zret dX4_put_35 rfl rfl (Or.inr rfl) w
  · have w := w.2 h
    refine E_iconst 13 dX4_put_12 (by decide) rfl ?_
    exact E_zret dX4_put_13 rfl rfl (Or.inl rfl) w
theorem B_X4_beginWhen_0 {g : PG} {d : Nat} {σ : PS} {Q : Int → PS → Prop} {x1 q0 : Int} (hq0 : LinAt q0) (w : ((x1 < 0 → Q 0 σ) ∧ (0 ≤ x1 → ((16 ≤ x1 → Q 0 σ) ∧ (x1 < 16 → (0 ≤ x1 ∧ x1 < 16) ∧ Q 0 (su σ (q0 + 3) x1 (σ q0 4))))))) : XX g true d P_X4_beginWhen 0 [(2, q0), (0, x1)] [] 136 σ 136 Q := by
  refine E_iload_n 1 dX4_beginWhen_0 rfl rfl ?_
  refine E_if_lt 4 20 dX4_beginWhen_1 rfl rfl (fun h => ?_) (fun h => ?_)
  · have w := w.1 h
    exact E_vret dX4_beginWhen_20 rfl rfl w
  · have w := w.2 h
    refine E_iload_n 5 dX4_beginWhen_4 rfl rfl ?_
    refine E_bipush 7 dX4_beginWhen_5 (by decide) rfl ?_
    refine E_icmp_ge 10 20 dX4_beginWhen_7 rfl rfl (fun h => ?_) (fun h => ?_)
    · have w := w.1 h
      exact E_vret dX4_beginWhen_20 rfl rfl w
    · have w := w.2 h
      refine E_aload_n 11 dX4_beginWhen_10 rfl (LinB hq0) rfl ?_
      refine E_getL 14 dX4_beginWhen_11 fl_X4_18 (LinF0 hq0) rfl (by decide) (LinL2 hq0) rfl ?_
      refine E_iload_n 15 dX4_beginWhen_14 rfl rfl ?_
      refine E_aload_n 16 dX4_beginWhen_15 rfl (LinB hq0) rfl ?_
      refine E_get 4 19 dX4_beginWhen_16 fl_X4_25 (LinF0 hq0) rfl (by decide) rfl rfl ?_
      obtain ⟨c1, w⟩ := w
      refine E_iast 20 dX4_beginWhen_19 (LinF3 hq0) c1 rfl ?_
      exact E_vret dX4_beginWhen_20 rfl rfl w
theorem B_X4_endLine_0 {g : PG} {d : Nat} {σ : PS} {Q : Int → PS → Prop} {x1 q0 : Int} (hq0 : LinAt q0) (w : ((x1 < 0 → Q 0 σ) ∧ (0 ≤ x1 → ((16 ≤ x1 → Q 0 σ) ∧ (x1 < 16 → (0 ≤ w32 (x1 + 1) ∧ w32 (x1 + 1) < 17) ∧ Q 0 (su (su σ (q0 + 2) (w32 (x1 + 1)) (σ q0 4)) q0 3 (w32 (x1 + 1)))))))) : XX g true d P_X4_endLine 0 [(2, q0), (0, x1)] [] 136 σ 136 Q := by
  refine E_iload_n 1 dX4_endLine_0 rfl rfl ?_
  refine E_if_lt 4 29 dX4_endLine_1 rfl rfl (fun h => ?_) (fun h => ?_)
  · have w := w.1 h
    exact E_vret dX4_endLine_29 rfl rfl w
  · have w := w.2 h
    refine E_iload_n 5 dX4_endLine_4 rfl rfl ?_
    refine E_bipush 7 dX4_endLine_5 (by decide) rfl ?_
    refine E_icmp_ge 10 29 dX4_endLine_7 rfl rfl (fun h => ?_) (fun h => ?_)
    · have w := w.1 h
      exact E_vret dX4_endLine_29 rfl rfl w
    · have w := w.2 h
      refine E_aload_n 11 dX4_endLine_10 rfl (LinB hq0) rfl ?_
      refine E_getL 14 dX4_endLine_11 fl_X4_15 (LinF0 hq0) rfl (by decide) (LinL1 hq0) rfl ?_
      refine E_iload_n 15 dX4_endLine_14 rfl rfl ?_
      refine E_iconst 16 dX4_endLine_15 (by decide) rfl ?_
      refine E_iadd 17 dX4_endLine_16 rfl ?_
      refine E_aload_n 18 dX4_endLine_17 rfl (LinB hq0) rfl ?_
      refine E_get 4 21 dX4_endLine_18 fl_X4_25 (LinF0 hq0) rfl (by decide) rfl rfl ?_
      obtain ⟨c1, w⟩ := w
      refine E_iast 22 dX4_endLine_21 (LinF2 hq0) c1 rfl ?_
      refine E_aload_n 23 dX4_endLine_22 rfl (LinB hq0) rfl ?_
      refine E_iload_n 24 dX4_endLine_23 rfl rfl ?_
      refine E_iconst 25 dX4_endLine_24 (by decide) rfl ?_
      refine E_iadd 26 dX4_endLine_25 rfl ?_
      refine E_putI 3 29 dX4_endLine_26 fl_X4_21 (LinF0 hq0) rfl (by decide) (Or.inl rfl) rfl rfl ?_
      exact E_vret dX4_endLine_29 rfl rfl w
theorem B_X4_copy_0 {g : PG} {d : Nat} {σ : PS} {Q : Int → PS → Prop} {q0 q1 : Int} (hq0 : LinAt q0) (hq1 : LinAt q1) (w : ((0 : Int) ≤ 0 ∧ (0 : Int) ≤ σ q1 4 ∧ (0 : Int) + σ q1 4 ≤ 500) ∧ ((0 : Int) ≤ 0 ∧ (0 : Int) + σ q1 4 ≤ 500) ∧ ((0 : Int) ≤ 0 ∧ (0 : Int) ≤ 17 ∧ (0 : Int) + 17 ≤ 17) ∧ ((0 : Int) ≤ 0 ∧ (0 : Int) + 17 ≤ 17) ∧ ((0 : Int) ≤ 0 ∧ (0 : Int) ≤ 16 ∧ (0 : Int) + 16 ≤ 16) ∧ ((0 : Int) ≤ 0 ∧ (0 : Int) + 16 ≤ 16) ∧ Q 0 (su (su (cpS (cpS (cpS σ (q1 + 1) 0 (q0 + 1) 0 (σ q1 4)) (q1 + 2) 0 (q0 + 2) 0 17) (q1 + 3) 0 (q0 + 3) 0 16) q0 3 ((cpS (cpS (cpS σ (q1 + 1) 0 (q0 + 1) 0 (σ q1 4)) (q1 + 2) 0 (q0 + 2) 0 17) (q1 + 3) 0 (q0 + 3) 0 16) q1 3)) q0 4 ((su (cpS (cpS (cpS σ (q1 + 1) 0 (q0 + 1) 0 (σ q1 4)) (q1 + 2) 0 (q0 + 2) 0 17) (q1 + 3) 0 (q0 + 3) 0 16) q0 3 ((cpS (cpS (cpS σ (q1 + 1) 0 (q0 + 1) 0 (σ q1 4)) (q1 + 2) 0 (q0 + 2) 0 17) (q1 + 3) 0 (q0 + 3) 0 16) q1 3)) q1 4))) : XX g true (d + 1) P_X4_copy 0 [(2, q0), (2, q1)] [] 136 σ 136 Q := by
  refine E_aload_n 1 dX4_copy_0 rfl (LinB hq1) rfl ?_
  refine E_getL 4 dX4_copy_1 fl_X4_9 (LinF0 hq1) rfl (by decide) (LinL0 hq1) rfl ?_
  refine E_iconst 5 dX4_copy_4 (by decide) rfl ?_
  refine E_aload_n 6 dX4_copy_5 rfl (LinB hq0) rfl ?_
  refine E_getL 9 dX4_copy_6 fl_X4_9 (LinF0 hq0) rfl (by decide) (LinL0 hq0) rfl ?_
  refine E_iconst 10 dX4_copy_9 (by decide) rfl ?_
  refine E_aload_n 11 dX4_copy_10 rfl (LinB hq1) rfl ?_
  refine E_get 4 14 dX4_copy_11 fl_X4_25 (LinF0 hq1) rfl (by decide) rfl rfl ?_
  obtain ⟨c1, w⟩ := w
  obtain ⟨c2, w⟩ := w
  refine E_copy 17 dX4_copy_14 mw_798 mw_789 mw_788 mw_127 (LinF1 hq1) (LinF1 hq0) c1 c2 (Nat.le_of_ble_eq_true rfl) rfl ?_
  refine E_aload_n 18 dX4_copy_17 rfl (LinB hq1) rfl ?_
  refine E_getL 21 dX4_copy_18 fl_X4_15 (LinF0 hq1) rfl (by decide) (LinL1 hq1) rfl ?_
  refine E_iconst 22 dX4_copy_21 (by decide) rfl ?_
  refine E_aload_n 23 dX4_copy_22 rfl (LinB hq0) rfl ?_
  refine E_getL 26 dX4_copy_23 fl_X4_15 (LinF0 hq0) rfl (by decide) (LinL1 hq0) rfl ?_
  refine E_iconst 27 dX4_copy_26 (by decide) rfl ?_
  refine E_aload_n 28 dX4_copy_27 rfl (LinB hq0) rfl ?_
  refine E_getL 31 dX4_copy_28 fl_X4_15 (LinF0 hq0) rfl (by decide) (LinL1 hq0) rfl ?_
  refine E_alen 17 32 dX4_copy_31 (LinF2 hq0) (by decide) (by decide) rfl rfl ?_
  obtain ⟨c3, w⟩ := w
  obtain ⟨c4, w⟩ := w
  refine E_copy 35 dX4_copy_32 mw_798 mw_789 mw_788 mw_127 (LinF2 hq1) (LinF2 hq0) c3 c4 (Nat.le_of_ble_eq_true rfl) rfl ?_
  refine E_aload_n 36 dX4_copy_35 rfl (LinB hq1) rfl ?_
  refine E_getL 39 dX4_copy_36 fl_X4_18 (LinF0 hq1) rfl (by decide) (LinL2 hq1) rfl ?_
  refine E_iconst 40 dX4_copy_39 (by decide) rfl ?_
  refine E_aload_n 41 dX4_copy_40 rfl (LinB hq0) rfl ?_
  refine E_getL 44 dX4_copy_41 fl_X4_18 (LinF0 hq0) rfl (by decide) (LinL2 hq0) rfl ?_
  refine E_iconst 45 dX4_copy_44 (by decide) rfl ?_
  refine E_aload_n 46 dX4_copy_45 rfl (LinB hq0) rfl ?_
  refine E_getL 49 dX4_copy_46 fl_X4_18 (LinF0 hq0) rfl (by decide) (LinL2 hq0) rfl ?_
  refine E_alen 16 50 dX4_copy_49 (LinF3 hq0) (by decide) (by decide) rfl rfl ?_
  obtain ⟨c5, w⟩ := w
  obtain ⟨c6, w⟩ := w
  refine E_copy 53 dX4_copy_50 mw_798 mw_789 mw_788 mw_127 (LinF3 hq1) (LinF3 hq0) c5 c6 (Nat.le_of_ble_eq_true rfl) rfl ?_
  refine E_aload_n 54 dX4_copy_53 rfl (LinB hq0) rfl ?_
  refine E_aload_n 55 dX4_copy_54 rfl (LinB hq1) rfl ?_
  refine E_get 3 58 dX4_copy_55 fl_X4_21 (LinF0 hq1) rfl (by decide) rfl rfl ?_
  refine E_putI 3 61 dX4_copy_58 fl_X4_21 (LinF0 hq0) rfl (by decide) (Or.inl rfl) rfl rfl ?_
  refine E_aload_n 62 dX4_copy_61 rfl (LinB hq0) rfl ?_
  refine E_aload_n 63 dX4_copy_62 rfl (LinB hq1) rfl ?_
  refine E_get 4 66 dX4_copy_63 fl_X4_25 (LinF0 hq1) rfl (by decide) rfl rfl ?_
  refine E_putI 4 69 dX4_copy_66 fl_X4_25 (LinF0 hq0) rfl (by decide) (Or.inl rfl) rfl rfl ?_
  exact E_vret dX4_copy_69 rfl rfl w
theorem B_X5_ofNow_0 {g : PG} {d : Nat} {σ : PS} {Q : Int → PS → Prop} {q1 q2 : Int} (hq1 : RowAt q1) (hq2 : TxtAt q2) (w : (XX g true (d + 1) P_X5_ofNow 2 [(2, 70), (2, q1), (2, q2), (0, 0)] [] 136 σ 136 Q)) : XX g true (d + 1) P_X5_ofNow 0 [(2, 70), (2, q1), (2, q2), (9, 0)] [] 136 σ 136 Q := by
  refine E_iconst 1 dX5_ofNow_0 (by decide) rfl ?_
  refine E_istore_n (ls' := [(2, 70), (2, q1), (2, q2), (0, 0)]) 2 dX5_ofNow_1 (by decide) rfl rfl ?_
  with_reducible exact w
theorem B_X5_ofNow_2 {g : PG} {d : Nat} {σ : PS} {Q : Int → PS → Prop} {x3 q1 q2 : Int} (hq1 : RowAt q1) (hq2 : TxtAt q2) (w : ((σ q1 0 ≤ x3 → XX g true d P_X5_out 0 [(2, 70), (0, σ q1 0), (2, q2 + 13), (9, 0), (9, 0), (9, 0), (9, 0)] [] 136 σ 136 (fun r2 σ1 => Q r2 σ1)) ∧ (x3 < σ q1 0 → XX g true d P_X11_bit 0 [(1, σ q1 5), (9, 0), (0, x3)] [] 136 σ 136 (fun r4 σ3 => ((r4 ≠ 1 → XX g true d P_X11_besideIn 0 [(1, σ3 q1 5), (9, 0), (0, x3)] [] 136 σ3 136 (fun r6 σ5 => XX g true d P_X0_goes 0 [(2, 67), (2, q1), (2, q2 + 1), (0, x3), (0, r6), (0, 0)] [] 136 σ5 136 (fun r8 σ7 => (0 ≤ x3 ∧ x3 < 60) ∧ (XX g true (d + 1) P_X5_ofNow 2 [(2, 70), (2, q1), (2, q2), (0, w32 (x3 + 1))] [] 136 (su σ7 71 x3 r8) 136 Q)))) ∧ (r4 = 1 → (0 ≤ x3 ∧ x3 < 60) ∧ (XX g true (d + 1) P_X5_ofNow 2 [(2, 70), (2, q1), (2, q2), (0, w32 (x3 + 1))] [] 136 (su σ3 71 x3 1000) 136 Q))))))) : XX g true (d + 1) P_X5_ofNow 2 [(2, 70), (2, q1), (2, q2), (0, x3)] [] 136 σ 136 Q := by
  refine E_iload_n 3 dX5_ofNow_2 rfl rfl ?_
  refine E_aload_n 4 dX5_ofNow_3 rfl (RowB hq1) rfl ?_
  refine E_get 0 7 dX5_ofNow_4 fl_X5_34 (RowF0 hq1) rfl (by decide) rfl rfl ?_
  refine E_icmp_ge 10 62 dX5_ofNow_7 rfl rfl (fun h => ?_) (fun h => ?_)
  · have w := w.1 h
    refine E_aload_n 63 dX5_ofNow_62 rfl (ac_70.bnd) rfl ?_
    refine E_aload_n 64 dX5_ofNow_63 rfl (RowB hq1) rfl ?_
    refine E_get 0 67 dX5_ofNow_64 fl_X5_34 (RowF0 hq1) rfl (by decide) rfl rfl ?_
    refine E_aload_n 68 dX5_ofNow_67 rfl (TxtB hq2) rfl ?_
    refine E_getL 71 dX5_ofNow_68 fl_X5_61 (TxtF0 hq2) rfl (by decide) (TxtL3 hq2) rfl ?_
    refine E_callV (as := [(0, σ q1 0), (2, q2 + 13)]) 74 dX5_ofNow_71 cf_X5_out mw_920 mw_922 mw_28 ac_70 (by decide) cl_X5 rfl rfl (Nat.le_of_ble_eq_true rfl) (Nat.le_of_ble_eq_true rfl) ⟨Nat.le_refl _, Nat.le_refl _⟩ rfl (w.mono (fun r2 σ1 w => ?_))
    show XX g true (d + 1) P_X5_ofNow 74 [(2, 70), (2, q1), (2, q2), (0, x3)] [(1, r2)] 136 σ1 136 Q
    exact E_lret dX5_ofNow_74 rfl rfl w
  · have w := w.2 h
    refine E_aload_n 11 dX5_ofNow_10 rfl (ac_70.bnd) rfl ?_
    refine E_getL 14 dX5_ofNow_11 fl_X5_11 ac_70 rfl (by decide) lay_70_1 rfl ?_
    refine E_iload_n 15 dX5_ofNow_14 rfl rfl ?_
    refine E_aload_n 16 dX5_ofNow_15 rfl (RowB hq1) rfl ?_
    refine E_get 5 19 dX5_ofNow_16 fl_X5_38 (RowF0 hq1) rfl (by decide) rfl rfl ?_
    refine E_iload_n 20 dX5_ofNow_19 rfl rfl ?_
    refine E_callS (as := [(1, σ q1 5), (0, x3)]) 23 dX5_ofNow_20 cf_X11_bit (Or.inr nst_X5_42) mw_809 rfl rfl (Nat.le_of_ble_eq_true rfl) (Nat.le_of_ble_eq_true rfl) ⟨Nat.le_refl _, Nat.le_refl _⟩ rfl (w.mono (fun r4 σ3 w => ?_))
    show XX g true (d + 1) P_X5_ofNow 23 [(2, 70), (2, q1), (2, q2), (0, x3)] [(0, r4), (0, x3), (2, 71)] 136 σ3 136 Q
    refine E_iconst 24 dX5_ofNow_23 (by decide) rfl ?_
    refine E_icmp_ne 27 33 dX5_ofNow_24 rfl rfl (fun h => ?_) (fun h => ?_)
    · have w := w.1 h
      refine E_aload_n 34 dX5_ofNow_33 rfl (ac_70.bnd) rfl ?_
      refine E_getL 37 dX5_ofNow_34 fl_X5_30 ac_70 rfl (by decide) lay_70_0 rfl ?_
      refine E_aload_n 38 dX5_ofNow_37 rfl (RowB hq1) rfl ?_
      refine E_aload_n 39 dX5_ofNow_38 rfl (TxtB hq2) rfl ?_
      refine E_getL 42 dX5_ofNow_39 fl_X5_46 (TxtF0 hq2) rfl (by decide) (TxtL0 hq2) rfl ?_
      refine E_iload_n 43 dX5_ofNow_42 rfl rfl ?_
      refine E_aload_n 44 dX5_ofNow_43 rfl (RowB hq1) rfl ?_
      refine E_get 5 47 dX5_ofNow_44 fl_X5_38 (RowF0 hq1) rfl (by decide) rfl rfl ?_
      refine E_iload_n 48 dX5_ofNow_47 rfl rfl ?_
      refine E_callS (as := [(1, σ3 q1 5), (0, x3)]) 51 dX5_ofNow_48 cf_X11_besideIn (Or.inr nst_X5_52) mw_812 rfl rfl (Nat.le_of_ble_eq_true rfl) (Nat.le_of_ble_eq_true rfl) ⟨Nat.le_refl _, Nat.le_refl _⟩ rfl (w.mono (fun r6 σ5 w => ?_))
      show XX g true (d + 1) P_X5_ofNow 51 [(2, 70), (2, q1), (2, q2), (0, x3)] [(0, r6), (0, x3), (2, q2 + 1), (2, q1), (2, 67), (0, x3), (2, 71)] 136 σ5 136 Q
      refine E_iconst 52 dX5_ofNow_51 (by decide) rfl ?_
      refine E_callV (as := [(2, q1), (2, q2 + 1), (0, x3), (0, r6), (0, 0)]) 55 dX5_ofNow_52 cf_X0_goes mw_919 mw_815 mw_816 ac_67 (by decide) cl_X0 rfl rfl (Nat.le_of_ble_eq_true rfl) (Nat.le_of_ble_eq_true rfl) ⟨Nat.le_refl _, Nat.le_refl _⟩ rfl (w.mono (fun r8 σ7 w => ?_))
      show XX g true (d + 1) P_X5_ofNow 55 [(2, 70), (2, q1), (2, q2), (0, x3)] [(0, r8), (0, x3), (2, 71)] 136 σ7 136 Q
      obtain ⟨c9, w⟩ := w
      refine E_iast 56 dX5_ofNow_55 ac_71 c9 rfl ?_
      refine E_iinc (ls' := [(2, 70), (2, q1), (2, q2), (0, w32 (x3 + 1))]) 59 dX5_ofNow_56 (by decide) rfl rfl rfl ?_
      refine E_goto 2 dX5_ofNow_59 rfl ?_
      with_reducible exact w
    · have w := w.2 h
      refine E_sipush 30 dX5_ofNow_27 (by decide) rfl ?_
      refine E_goto 55 dX5_ofNow_30 rfl ?_
      obtain ⟨c10, w⟩ := w
      refine E_iast 56 dX5_ofNow_55 ac_71 c10 rfl ?_
      refine E_iinc (ls' := [(2, 70), (2, q1), (2, q2), (0, w32 (x3 + 1))]) 59 dX5_ofNow_56 (by decide) rfl rfl rfl ?_
      refine E_goto 2 dX5_ofNow_59 rfl ?_
      with_reducible exact w
theorem B_X5_ofThought_0 {g : PG} {d : Nat} {σ : PS} {Q : Int → PS → Prop} {q1 q2 : Int} (hq1 : RowAt q1) (hq2 : TxtAt q2) (w : (XX g true (d + 1) P_X5_ofThought 2 [(2, 70), (2, q1), (2, q2), (0, 0)] [] 136 σ 136 Q)) : XX g true (d + 1) P_X5_ofThought 0 [(2, 70), (2, q1), (2, q2), (9, 0)] [] 136 σ 136 Q := by
  refine E_iconst 1 dX5_ofThought_0 (by decide) rfl ?_
  refine E_istore_n (ls' := [(2, 70), (2, q1), (2, q2), (0, 0)]) 2 dX5_ofThought_1 (by decide) rfl rfl ?_
  with_reducible exact w
theorem B_X5_ofThought_2 {g : PG} {d : Nat} {σ : PS} {Q : Int → PS → Prop} {x3 q1 q2 : Int} (hq1 : RowAt q1) (hq2 : TxtAt q2) (w : ((σ q1 0 ≤ x3 → XX g true d P_X5_out 0 [(2, 70), (0, σ q1 0), (2, q2 + 13), (9, 0), (9, 0), (9, 0), (9, 0)] [] 136 σ 136 (fun r2 σ1 => Q r2 σ1)) ∧ (x3 < σ q1 0 → XX g true d P_X0_guess 0 [(2, 67), (2, q1), (2, q2 + 1), (0, x3), (9, 0), (9, 0), (9, 0)] [] 136 σ 136 (fun r4 σ3 => (0 ≤ x3 ∧ x3 < 60) ∧ (XX g true (d + 1) P_X5_ofThought 2 [(2, 70), (2, q1), (2, q2), (0, w32 (x3 + 1))] [] 136 (su σ3 71 x3 r4) 136 Q))))) : XX g true (d + 1) P_X5_ofThought 2 [(2, 70), (2, q1), (2, q2), (0, x3)] [] 136 σ 136 Q := by
  refine E_iload_n 3 dX5_ofThought_2 rfl rfl ?_
  refine E_aload_n 4 dX5_ofThought_3 rfl (RowB hq1) rfl ?_
  refine E_get 0 7 dX5_ofThought_4 fl_X5_34 (RowF0 hq1) rfl (by decide) rfl rfl ?_
  refine E_icmp_ge 10 35 dX5_ofThought_7 rfl rfl (fun h => ?_) (fun h => ?_)
  · have w := w.1 h
    refine E_aload_n 36 dX5_ofThought_35 rfl (ac_70.bnd) rfl ?_
    refine E_aload_n 37 dX5_ofThought_36 rfl (RowB hq1) rfl ?_
    refine E_get 0 40 dX5_ofThought_37 fl_X5_34 (RowF0 hq1) rfl (by decide) rfl rfl ?_
    refine E_aload_n 41 dX5_ofThought_40 rfl (TxtB hq2) rfl ?_
    refine E_getL 44 dX5_ofThought_41 fl_X5_61 (TxtF0 hq2) rfl (by decide) (TxtL3 hq2) rfl ?_
    refine E_callV (as := [(0, σ q1 0), (2, q2 + 13)]) 47 dX5_ofThought_44 cf_X5_out mw_920 mw_922 mw_28 ac_70 (by decide) cl_X5 rfl rfl (Nat.le_of_ble_eq_true rfl) (Nat.le_of_ble_eq_true rfl) ⟨Nat.le_refl _, Nat.le_refl _⟩ rfl (w.mono (fun r2 σ1 w => ?_))
    show XX g true (d + 1) P_X5_ofThought 47 [(2, 70), (2, q1), (2, q2), (0, x3)] [(1, r2)] 136 σ1 136 Q
    exact E_lret dX5_ofThought_47 rfl rfl w
  · have w := w.2 h
    refine E_aload_n 11 dX5_ofThought_10 rfl (ac_70.bnd) rfl ?_
    refine E_getL 14 dX5_ofThought_11 fl_X5_11 ac_70 rfl (by decide) lay_70_1 rfl ?_
    refine E_iload_n 15 dX5_ofThought_14 rfl rfl ?_
    refine E_aload_n 16 dX5_ofThought_15 rfl (ac_70.bnd) rfl ?_
    refine E_getL 19 dX5_ofThought_16 fl_X5_30 ac_70 rfl (by decide) lay_70_0 rfl ?_
    refine E_aload_n 20 dX5_ofThought_19 rfl (RowB hq1) rfl ?_
    refine E_aload_n 21 dX5_ofThought_20 rfl (TxtB hq2) rfl ?_
    refine E_getL 24 dX5_ofThought_21 fl_X5_46 (TxtF0 hq2) rfl (by decide) (TxtL0 hq2) rfl ?_
    refine E_iload_n 25 dX5_ofThought_24 rfl rfl ?_
    refine E_callV (as := [(2, q1), (2, q2 + 1), (0, x3)]) 28 dX5_ofThought_25 cf_X0_guess mw_942 mw_841 mw_842 ac_67 (by decide) cl_X0 rfl rfl (Nat.le_of_ble_eq_true rfl) (Nat.le_of_ble_eq_true rfl) ⟨Nat.le_refl _, Nat.le_refl _⟩ rfl (w.mono (fun r4 σ3 w => ?_))
    show XX g true (d + 1) P_X5_ofThought 28 [(2, 70), (2, q1), (2, q2), (0, x3)] [(0, r4), (0, x3), (2, 71)] 136 σ3 136 Q
    obtain ⟨c5, w⟩ := w
    refine E_iast 29 dX5_ofThought_28 ac_71 c5 rfl ?_
    refine E_iinc (ls' := [(2, 70), (2, q1), (2, q2), (0, w32 (x3 + 1))]) 32 dX5_ofThought_29 (by decide) rfl rfl rfl ?_
    refine E_goto 2 dX5_ofThought_32 rfl ?_
    with_reducible exact w
theorem B_X5_out_0 {g : PG} {d : Nat} {σ : PS} {Q : Int → PS → Prop} {x1 q2 : Int} (hq2 : BrkAt q2) (w : ∀ u1, u1 = σ 70 2 → Fat 136 u1 (21, 128) ∧ (XX g true (d + 1) P_X5_out 14 [(2, 70), (0, x1), (2, q2), (1, 0), (9, 0), (0, 0), (9, 0)] [] 136 (su σ u1 0 1000000000000) 136 Q)) : XX g true (d + 1) P_X5_out 0 [(2, 70), (0, x1), (2, q2), (9, 0), (9, 0), (9, 0), (9, 0)] [] 136 σ 136 Q := by
  refine E_lconst (x := 0) 1 dX5_out_0 rfl rfl ?_
  refine E_lstore_n (ls' := [(2, 70), (0, x1), (2, q2), (1, 0), (9, 0), (9, 0), (9, 0)]) 2 dX5_out_1 (by decide) rfl rfl ?_
  refine E_aload_n 3 dX5_out_2 rfl (ac_70.bnd) rfl ?_
  refine E_get 2 6 dX5_out_3 fl_X5_17 ac_70 rfl (by decide) rfl rfl ?_
  refine E_top (fun u1 hu1 => ?_)
  obtain ⟨fu1, w⟩ := w u1 hu1
  refine E_iconst 7 dX5_out_6 (by decide) rfl ?_
  refine E_ldc2_w (x := 1000000000000) 10 dX5_out_7 mw_924 (by decide) (by unfold in64; decide) rfl ?_
  refine E_last 11 dX5_out_10 fu1 (by decide) rfl ?_
  refine E_iconst 12 dX5_out_11 (by decide) rfl ?_
  refine E_istore (ls' := [(2, 70), (0, x1), (2, q2), (1, 0), (9, 0), (0, 0), (9, 0)]) 14 dX5_out_12 (by decide) rfl rfl ?_
  with_reducible exact w
theorem B_X5_out_14 {g : PG} {d : Nat} {σ : PS} {Q : Int → PS → Prop} {x1 x3 x5 q2 : Int} (hq2 : BrkAt q2) (w : ((x1 ≤ x5 → Q x3 σ) ∧ (x5 < x1 → XX g true d P_X5_pass 0 [(2, 70), (0, x5), (2, q2), (9, 0), (9, 0), (9, 0), (9, 0), (9, 0), (9, 0), (9, 0), (9, 0), (9, 0), (9, 0)] [] 136 σ 136 (fun r2 σ1 => ∀ y3, y3 = w64 (x3 + r2) → ∀ u4, u4 = σ1 70 2 → Fat 136 u4 (21, 128) ∧ ∀ u5, u5 = σ1 70 3 → Fat 136 u5 (21, 128) ∧ (XX g true (d + 1) P_X5_out 14 [(2, 70), (0, x1), (2, q2), (1, y3), (9, 0), (0, w32 (x5 + 1)), (9, 0)] [] 136 (su (su σ1 70 2 u5) 70 3 u4) 136 Q))))) : XX g true (d + 1) P_X5_out 14 [(2, 70), (0, x1), (2, q2), (1, x3), (9, 0), (0, x5), (9, 0)] [] 136 σ 136 Q := by
  refine E_iload 16 dX5_out_14 rfl rfl ?_
  refine E_iload_n 17 dX5_out_16 rfl rfl ?_
  refine E_icmp_ge 20 56 dX5_out_17 rfl rfl (fun h => ?_) (fun h => ?_)
  · have w := w.1 h
    refine E_lload_n 57 dX5_out_56 rfl rfl ?_
    exact E_lret dX5_out_57 rfl rfl w
  · have w := w.2 h
    refine E_lload_n 21 dX5_out_20 rfl rfl ?_
    refine E_aload_n 22 dX5_out_21 rfl (ac_70.bnd) rfl ?_
    refine E_iload 24 dX5_out_22 rfl rfl ?_
    refine E_aload_n 25 dX5_out_24 rfl (BrkB hq2) rfl ?_
    refine E_callV (as := [(0, x5), (2, q2)]) 28 dX5_out_25 cf_X5_pass mw_925 mw_927 mw_29 ac_70 (by decide) cl_X5 rfl rfl (Nat.le_of_ble_eq_true rfl) (Nat.le_of_ble_eq_true rfl) ⟨Nat.le_refl _, Nat.le_refl _⟩ rfl (w.mono (fun r2 σ1 w => ?_))
    show XX g true (d + 1) P_X5_out 28 [(2, 70), (0, x1), (2, q2), (1, x3), (9, 0), (0, x5), (9, 0)] [(1, r2), (1, x3)] 136 σ1 136 Q
    refine E_ladd 29 dX5_out_28 rfl ?_
    refine E_top (fun y3 hy3 => ?_)
    have w := w y3 hy3
    refine E_lstore_n (ls' := [(2, 70), (0, x1), (2, q2), (1, y3), (9, 0), (0, x5), (9, 0)]) 30 dX5_out_29 (by decide) rfl rfl ?_
    refine E_aload_n 31 dX5_out_30 rfl (ac_70.bnd) rfl ?_
    refine E_get 2 34 dX5_out_31 fl_X5_17 ac_70 rfl (by decide) rfl rfl ?_
    refine E_top (fun u4 hu4 => ?_)
    obtain ⟨fu4, w⟩ := w u4 hu4
    refine E_astore (ls' := [(2, 70), (0, x1), (2, q2), (1, y3), (9, 0), (0, x5), (2, u4)]) 36 dX5_out_34 (by decide) rfl fu4.bnd rfl ?_
    refine E_aload_n 37 dX5_out_36 rfl (ac_70.bnd) rfl ?_
    refine E_aload_n 38 dX5_out_37 rfl (ac_70.bnd) rfl ?_
    refine E_get 3 41 dX5_out_38 fl_X5_21 ac_70 rfl (by decide) rfl rfl ?_
    refine E_top (fun u5 hu5 => ?_)
    obtain ⟨fu5, w⟩ := w u5 hu5
    refine E_putR (ty := .array .long) 2 44 dX5_out_41 fl_X5_17 ac_70 rfl (by decide) (Or.inl rfl) (by decide +kernel) (Or.inr ⟨_, rfl⟩) (fun _ => by decide +kernel) rfl rfl ?_
    refine E_aload_n 45 dX5_out_44 rfl (ac_70.bnd) rfl ?_
    refine E_aload 47 dX5_out_45 rfl fu4.bnd rfl ?_
    refine E_putR (ty := .array .long) 3 50 dX5_out_47 fl_X5_21 ac_70 rfl (by decide) (Or.inl rfl) (by decide +kernel) (Or.inr ⟨_, rfl⟩) (fun _ => by decide +kernel) rfl rfl ?_
    refine E_iinc (ls' := [(2, 70), (0, x1), (2, q2), (1, y3), (9, 0), (0, w32 (x5 + 1)), (2, u4)]) 53 dX5_out_50 (by decide) rfl rfl rfl ?_
    refine E_goto 14 dX5_out_53 rfl ?_
    refine XX.fg [6] [(2, 70), (0, x1), (2, q2), (1, y3), (9, 0), (0, w32 (x5 + 1)), (9, 0)] rfl ?_
    with_reducible exact w
theorem B_X5_setsAhead_0 {g : PG} {d : Nat} {σ : PS} {Q : Int → PS → Prop} {x0 : Int}  (w : Q (ishl 1 (imin x0 7)) σ) : XX g true (d + 1) P_X5_setsAhead 0 [(0, x0)] [] 136 σ 136 Q := by
  refine E_iconst 1 dX5_setsAhead_0 (by decide) rfl ?_
  refine E_iload_n 2 dX5_setsAhead_1 rfl rfl ?_
  refine E_bipush 4 dX5_setsAhead_2 (by decide) rfl ?_
  refine E_mmin 7 dX5_setsAhead_4 mw_929 (Nat.le_of_ble_eq_true rfl) (Nat.le_refl _) rfl ?_
  refine E_ishl 8 dX5_setsAhead_7 rfl ?_
  exact E_iret dX5_setsAhead_8 rfl rfl w
theorem B_X5_pass_0 {g : PG} {d : Nat} {σ : PS} {Q : Int → PS → Prop} {x1 q2 : Int} (hq2 : BrkAt q2) (w : ∀ y1, y1 = imin (w32 (x1 + 1)) 8 → XX g true d P_X5_setsAhead 0 [(0, x1)] [] 136 σ 136 (fun r3 σ2 => ∀ u4, u4 = σ2 70 3 → Fat 136 u4 (21, 128) ∧ XX g true d P_J7_fill_d0a16 0 [(2, u4), (1, 0), (9, 0), (9, 0), (9, 0)] [] 136 σ2 136 (fun _ σ5 => (XX g true (d + 1) P_X5_pass 29 [(2, 70), (0, x1), (2, q2), (1, 0), (9, 0), (0, y1), (0, r3), (0, 0), (9, 0), (9, 0), (9, 0), (9, 0), (9, 0)] [] 136 σ5 136 Q)))) : XX g true (d + 1) P_X5_pass 0 [(2, 70), (0, x1), (2, q2), (9, 0), (9, 0), (9, 0), (9, 0), (9, 0), (9, 0), (9, 0), (9, 0), (9, 0), (9, 0)] [] 136 σ 136 Q := by
  refine E_lconst (x := 0) 1 dX5_pass_0 rfl rfl ?_
  refine E_lstore_n (ls' := [(2, 70), (0, x1), (2, q2), (1, 0), (9, 0), (9, 0), (9, 0), (9, 0), (9, 0), (9, 0), (9, 0), (9, 0), (9, 0)]) 2 dX5_pass_1 (by decide) rfl rfl ?_
  refine E_iload_n 3 dX5_pass_2 rfl rfl ?_
  refine E_iconst 4 dX5_pass_3 (by decide) rfl ?_
  refine E_iadd 5 dX5_pass_4 rfl ?_
  refine E_bipush 7 dX5_pass_5 (by decide) rfl ?_
  refine E_mmin 10 dX5_pass_7 mw_929 (Nat.le_of_ble_eq_true rfl) (Nat.le_refl _) rfl ?_
  refine E_top (fun y1 hy1 => ?_)
  have w := w y1 hy1
  refine E_istore (ls' := [(2, 70), (0, x1), (2, q2), (1, 0), (9, 0), (0, y1), (9, 0), (9, 0), (9, 0), (9, 0), (9, 0), (9, 0), (9, 0)]) 12 dX5_pass_10 (by decide) rfl rfl ?_
  refine E_iload_n 13 dX5_pass_12 rfl rfl ?_
  refine E_callS (as := [(0, x1)]) 16 dX5_pass_13 cf_X5_setsAhead (Or.inl mw_930) mw_931 rfl rfl (Nat.le_of_ble_eq_true rfl) (Nat.le_of_ble_eq_true rfl) ⟨Nat.le_refl _, Nat.le_refl _⟩ rfl (w.mono (fun r3 σ2 w => ?_))
  show XX g true (d + 1) P_X5_pass 16 [(2, 70), (0, x1), (2, q2), (1, 0), (9, 0), (0, y1), (9, 0), (9, 0), (9, 0), (9, 0), (9, 0), (9, 0), (9, 0)] [(0, r3)] 136 σ2 136 Q
  refine E_istore (ls' := [(2, 70), (0, x1), (2, q2), (1, 0), (9, 0), (0, y1), (0, r3), (9, 0), (9, 0), (9, 0), (9, 0), (9, 0), (9, 0)]) 18 dX5_pass_16 (by decide) rfl rfl ?_
  refine E_aload_n 19 dX5_pass_18 rfl (ac_70.bnd) rfl ?_
  refine E_get 3 22 dX5_pass_19 fl_X5_21 ac_70 rfl (by decide) rfl rfl ?_
  refine E_top (fun u4 hu4 => ?_)
  obtain ⟨fu4, w⟩ := w u4 hu4
  refine E_lconst (x := 0) 23 dX5_pass_22 rfl rfl ?_
  refine E_callS (as := [(2, u4), (1, 0)]) 26 dX5_pass_23 cf_J7_fill_d0a16 (Or.inl mw_933) mw_934 rfl rfl (Nat.le_of_ble_eq_true rfl) (Nat.le_of_ble_eq_true rfl) ⟨Nat.le_refl _, Nat.le_refl _⟩ rfl (w.mono (fun r6 σ5 w => ?_))
  show XX g true (d + 1) P_X5_pass 26 [(2, 70), (0, x1), (2, q2), (1, 0), (9, 0), (0, y1), (0, r3), (9, 0), (9, 0), (9, 0), (9, 0), (9, 0), (9, 0)] [] 136 σ5 136 Q
  refine E_iconst 27 dX5_pass_26 (by decide) rfl ?_
  refine E_istore (ls' := [(2, 70), (0, x1), (2, q2), (1, 0), (9, 0), (0, y1), (0, r3), (0, 0), (9, 0), (9, 0), (9, 0), (9, 0), (9, 0)]) 29 dX5_pass_27 (by decide) rfl rfl ?_
  with_reducible exact w
theorem B_X5_pass_29 {g : PG} {d : Nat} {σ : PS} {Q : Int → PS → Prop} {x1 x3 x5 x6 x7 q2 : Int} (hq2 : BrkAt q2) (w : ((x6 ≤ x7 → Q x3 σ) ∧ (x7 < x6 → ∀ u1, u1 = σ 70 2 → Fat 136 u1 (21, 128) ∧ (0 ≤ x7 ∧ x7 < 128) ∧ ∀ y3, y3 = σ u1 x7 → ((y3 ≠ 0 → (0 ≤ x1 ∧ x1 < 60) ∧ ∀ y5, y5 = ldiv (w64 (y3 * (σ 71 x1))) 1000 → ∀ y6, y6 = ishl x7 1 → XX g true d P_X1_isMet 0 [(2, q2), (0, ior y6 1), (0, x5)] [] 136 σ 136 (fun r8 σ7 => ((r8 = 0 → ∀ u9, u9 = σ7 70 3 → Fat 136 u9 (21, 128) ∧ (0 ≤ iand (ior y6 1) 127 ∧ iand (ior y6 1) 127 < 128) ∧ XX g true d P_X1_isMet 0 [(2, q2), (0, y6), (0, x5)] [] 136 (su σ7 u9 (iand (ior y6 1) 127) (w64 ((σ7 u9 (iand (ior y6 1) 127)) + y5))) 136 (fun r12 σ11 => ((r12 = 0 → ∀ u13, u13 = σ11 70 3 → Fat 136 u13 (21, 128) ∧ (0 ≤ iand y6 127 ∧ iand y6 127 < 128) ∧ (XX g true (d + 1) P_X5_pass 29 [(2, 70), (0, x1), (2, q2), (1, x3), (9, 0), (0, x5), (0, x6), (0, w32 (x7 + 1)), (9, 0), (9, 0), (9, 0), (9, 0), (9, 0)] [] 136 (su σ11 u13 (iand y6 127) (w64 ((σ11 u13 (iand y6 127)) + (w64 (y3 - y5))))) 136 Q)) ∧ (r12 ≠ 0 → ∀ y15, y15 = w64 (x3 + (w64 (y3 - y5))) → (XX g true (d + 1) P_X5_pass 29 [(2, 70), (0, x1), (2, q2), (1, y15), (9, 0), (0, x5), (0, x6), (0, w32 (x7 + 1)), (9, 0), (9, 0), (9, 0), (9, 0), (9, 0)] [] 136 σ11 136 Q))))) ∧ (r8 ≠ 0 → ∀ y16, y16 = w64 (x3 + y5) → XX g true d P_X1_isMet 0 [(2, q2), (0, y6), (0, x5)] [] 136 σ7 136 (fun r18 σ17 => ((r18 = 0 → ∀ u19, u19 = σ17 70 3 → Fat 136 u19 (21, 128) ∧ (0 ≤ iand y6 127 ∧ iand y6 127 < 128) ∧ (XX g true (d + 1) P_X5_pass 29 [(2, 70), (0, x1), (2, q2), (1, y16), (9, 0), (0, x5), (0, x6), (0, w32 (x7 + 1)), (9, 0), (9, 0), (9, 0), (9, 0), (9, 0)] [] 136 (su σ17 u19 (iand y6 127) (w64 ((σ17 u19 (iand y6 127)) + (w64 (y3 - y5))))) 136 Q)) ∧ (r18 ≠ 0 → ∀ y21, y21 = w64 (y16 + (w64 (y3 - y5))) → (XX g true (d + 1) P_X5_pass 29 [(2, 70), (0, x1), (2, q2), (1, y21), (9, 0), (0, x5), (0, x6), (0, w32 (x7 + 1)), (9, 0), (9, 0), (9, 0), (9, 0), (9, 0)] [] 136 σ17 136 Q)))))))) ∧ (y3 = 0 → (XX g true (d + 1) P_X5_pass 29 [(2, 70), (0, x1), (2, q2), (1, x3), (9, 0), (0, x5), (0, x6), (0, w32 (x7 + 1)), (9, 0), (9, 0), (9, 0), (9, 0), (9, 0)] [] 136 σ 136 Q)))))) : XX g true (d + 1) P_X5_pass 29 [(2, 70), (0, x1), (2, q2), (1, x3), (9, 0), (0, x5), (0, x6), (0, x7), (9, 0), (9, 0), (9, 0), (9, 0), (9, 0)] [] 136 σ 136 Q := by
  refine E_iload 31 dX5_pass_29 rfl rfl ?_
  refine E_iload 33 dX5_pass_31 rfl rfl ?_
  refine E_icmp_ge 36 161 dX5_pass_33 rfl rfl (fun h => ?_) (fun h => ?_)
  · have w := w.1 h
    refine E_lload_n 162 dX5_pass_161 rfl rfl ?_
    exact E_lret dX5_pass_162 rfl rfl w
  · have w := w.2 h
    refine E_aload_n 37 dX5_pass_36 rfl (ac_70.bnd) rfl ?_
    refine E_get 2 40 dX5_pass_37 fl_X5_17 ac_70 rfl (by decide) rfl rfl ?_
    refine E_top (fun u1 hu1 => ?_)
    obtain ⟨fu1, w⟩ := w u1 hu1
    refine E_iload 42 dX5_pass_40 rfl rfl ?_
    obtain ⟨c2, w⟩ := w
    refine E_lald 43 dX5_pass_42 fu1 c2 rfl ?_
    refine E_top (fun y3 hy3 => ?_)
    have w := w y3 hy3
    refine E_lstore (ls' := [(2, 70), (0, x1), (2, q2), (1, x3), (9, 0), (0, x5), (0, x6), (0, x7), (1, y3), (9, 0), (9, 0), (9, 0), (9, 0)]) 45 dX5_pass_43 (by decide) rfl rfl ?_
    refine E_lload 47 dX5_pass_45 rfl rfl ?_
    refine E_lconst (x := 0) 48 dX5_pass_47 rfl rfl ?_
    refine E_lcmp 49 dX5_pass_48 rfl ?_
    refine E_if_ne 52 55 dX5_pass_49 rfl rfl (fun h => ?_) (fun h => ?_)
    · have w := w.1 ((lc_ne _ _).mp h)
      refine E_lload 57 dX5_pass_55 rfl rfl ?_
      refine E_aload_n 58 dX5_pass_57 rfl (ac_70.bnd) rfl ?_
      refine E_getL 61 dX5_pass_58 fl_X5_11 ac_70 rfl (by decide) lay_70_1 rfl ?_
      refine E_iload_n 62 dX5_pass_61 rfl rfl ?_
      obtain ⟨c4, w⟩ := w
      refine E_iald 63 dX5_pass_62 ac_71 c4 rfl ?_
      refine E_i2l 64 dX5_pass_63 rfl ?_
      refine E_lmul 65 dX5_pass_64 rfl ?_
      refine E_ldc2_w (x := 1000) 68 dX5_pass_65 mw_936 (by decide) (by unfold in64; decide) rfl ?_
      refine E_ldiv 69 dX5_pass_68 (by decide) rfl ?_
      refine E_top (fun y5 hy5 => ?_)
      have w := w y5 hy5
      refine E_lstore (ls' := [(2, 70), (0, x1), (2, q2), (1, x3), (9, 0), (0, x5), (0, x6), (0, x7), (1, y3), (9, 0), (1, y5), (9, 0), (9, 0)]) 71 dX5_pass_69 (by decide) rfl rfl ?_
      refine E_iload 73 dX5_pass_71 rfl rfl ?_
      refine E_iconst 74 dX5_pass_73 (by decide) rfl ?_
      refine E_ishl 75 dX5_pass_74 rfl ?_
      refine E_top (fun y6 hy6 => ?_)
      have w := w y6 hy6
      refine E_istore (ls' := [(2, 70), (0, x1), (2, q2), (1, x3), (9, 0), (0, x5), (0, x6), (0, x7), (1, y3), (9, 0), (1, y5), (9, 0), (0, y6)]) 77 dX5_pass_75 (by decide) rfl rfl ?_
      refine E_aload_n 78 dX5_pass_77 rfl (BrkB hq2) rfl ?_
      refine E_iload 80 dX5_pass_78 rfl rfl ?_
      refine E_iconst 81 dX5_pass_80 (by decide) rfl ?_
      refine E_ior 82 dX5_pass_81 rfl ?_
      refine E_iload 84 dX5_pass_82 rfl rfl ?_
      refine E_callV (as := [(0, ior y6 1), (0, x5)]) 87 dX5_pass_84 cf_X1_isMet mw_937 mw_870 mw_871 (BrkF0 hq2) (by decide) cl_X1 rfl rfl (Nat.le_of_ble_eq_true rfl) (Nat.le_of_ble_eq_true rfl) ⟨Nat.le_refl _, Nat.le_refl _⟩ rfl (w.mono (fun r8 σ7 w => ?_))
      show XX g true (d + 1) P_X5_pass 87 [(2, 70), (0, x1), (2, q2), (1, x3), (9, 0), (0, x5), (0, x6), (0, x7), (1, y3), (9, 0), (1, y5), (9, 0), (0, y6)] [(0, r8)] 136 σ7 136 Q
      refine E_if_eq 90 98 dX5_pass_87 rfl rfl (fun h => ?_) (fun h => ?_)
      · have w := w.1 h
        refine E_aload_n 99 dX5_pass_98 rfl (ac_70.bnd) rfl ?_
        refine E_get 3 102 dX5_pass_99 fl_X5_21 ac_70 rfl (by decide) rfl rfl ?_
        refine E_top (fun u9 hu9 => ?_)
        obtain ⟨fu9, w⟩ := w u9 hu9
        refine E_iload 104 dX5_pass_102 rfl rfl ?_
        refine E_iconst 105 dX5_pass_104 (by decide) rfl ?_
        refine E_ior 106 dX5_pass_105 rfl ?_
        refine E_bipush 108 dX5_pass_106 (by decide) rfl ?_
        refine E_iand 109 dX5_pass_108 rfl ?_
        refine E_dup2 110 dX5_pass_109 n01 n21 rfl ?_
        obtain ⟨c10, w⟩ := w
        refine E_lald 111 dX5_pass_110 fu9 c10 rfl ?_
        refine E_lload 113 dX5_pass_111 rfl rfl ?_
        refine E_ladd 114 dX5_pass_113 rfl ?_
        refine E_last 115 dX5_pass_114 fu9 c10 rfl ?_
        refine E_aload_n 116 dX5_pass_115 rfl (BrkB hq2) rfl ?_
        refine E_iload 118 dX5_pass_116 rfl rfl ?_
        refine E_iload 120 dX5_pass_118 rfl rfl ?_
        refine E_callV (as := [(0, y6), (0, x5)]) 123 dX5_pass_120 cf_X1_isMet mw_937 mw_870 mw_871 (BrkF0 hq2) (by decide) cl_X1 rfl rfl (Nat.le_of_ble_eq_true rfl) (Nat.le_of_ble_eq_true rfl) ⟨Nat.le_refl _, Nat.le_refl _⟩ rfl (w.mono (fun r12 σ11 w => ?_))
        show XX g true (d + 1) P_X5_pass 123 [(2, 70), (0, x1), (2, q2), (1, x3), (9, 0), (0, x5), (0, x6), (0, x7), (1, y3), (9, 0), (1, y5), (9, 0), (0, y6)] [(0, r12)] 136 σ11 136 Q
        refine E_if_eq 126 137 dX5_pass_123 rfl rfl (fun h => ?_) (fun h => ?_)
        · have w := w.1 h
          refine E_aload_n 138 dX5_pass_137 rfl (ac_70.bnd) rfl ?_
          refine E_get 3 141 dX5_pass_138 fl_X5_21 ac_70 rfl (by decide) rfl rfl ?_
          refine E_top (fun u13 hu13 => ?_)
          obtain ⟨fu13, w⟩ := w u13 hu13
          refine E_iload 143 dX5_pass_141 rfl rfl ?_
          refine E_bipush 145 dX5_pass_143 (by decide) rfl ?_
          refine E_iand 146 dX5_pass_145 rfl ?_
          refine E_dup2 147 dX5_pass_146 n01 n21 rfl ?_
          obtain ⟨c14, w⟩ := w
          refine E_lald 148 dX5_pass_147 fu13 c14 rfl ?_
          refine E_lload 150 dX5_pass_148 rfl rfl ?_
          refine E_lload 152 dX5_pass_150 rfl rfl ?_
          refine E_lsub 153 dX5_pass_152 rfl ?_
          refine E_ladd 154 dX5_pass_153 rfl ?_
          refine E_last 155 dX5_pass_154 fu13 c14 rfl ?_
          refine E_iinc (ls' := [(2, 70), (0, x1), (2, q2), (1, x3), (9, 0), (0, x5), (0, x6), (0, w32 (x7 + 1)), (1, y3), (9, 0), (1, y5), (9, 0), (0, y6)]) 158 dX5_pass_155 (by decide) rfl rfl rfl ?_
          refine E_goto 29 dX5_pass_158 rfl ?_
          refine XX.fg [8, 10, 12] [(2, 70), (0, x1), (2, q2), (1, x3), (9, 0), (0, x5), (0, x6), (0, w32 (x7 + 1)), (9, 0), (9, 0), (9, 0), (9, 0), (9, 0)] rfl ?_
          with_reducible exact w
        · have w := w.2 h
          refine E_lload_n 127 dX5_pass_126 rfl rfl ?_
          refine E_lload 129 dX5_pass_127 rfl rfl ?_
          refine E_lload 131 dX5_pass_129 rfl rfl ?_
          refine E_lsub 132 dX5_pass_131 rfl ?_
          refine E_ladd 133 dX5_pass_132 rfl ?_
          refine E_top (fun y15 hy15 => ?_)
          have w := w y15 hy15
          refine E_lstore_n (ls' := [(2, 70), (0, x1), (2, q2), (1, y15), (9, 0), (0, x5), (0, x6), (0, x7), (1, y3), (9, 0), (1, y5), (9, 0), (0, y6)]) 134 dX5_pass_133 (by decide) rfl rfl ?_
          refine E_goto 155 dX5_pass_134 rfl ?_
          refine E_iinc (ls' := [(2, 70), (0, x1), (2, q2), (1, y15), (9, 0), (0, x5), (0, x6), (0, w32 (x7 + 1)), (1, y3), (9, 0), (1, y5), (9, 0), (0, y6)]) 158 dX5_pass_155 (by decide) rfl rfl rfl ?_
          refine E_goto 29 dX5_pass_158 rfl ?_
          refine XX.fg [8, 10, 12] [(2, 70), (0, x1), (2, q2), (1, y15), (9, 0), (0, x5), (0, x6), (0, w32 (x7 + 1)), (9, 0), (9, 0), (9, 0), (9, 0), (9, 0)] rfl ?_
          with_reducible exact w
      · have w := w.2 h
        refine E_lload_n 91 dX5_pass_90 rfl rfl ?_
        refine E_lload 93 dX5_pass_91 rfl rfl ?_
        refine E_ladd 94 dX5_pass_93 rfl ?_
        refine E_top (fun y16 hy16 => ?_)
        have w := w y16 hy16
        refine E_lstore_n (ls' := [(2, 70), (0, x1), (2, q2), (1, y16), (9, 0), (0, x5), (0, x6), (0, x7), (1, y3), (9, 0), (1, y5), (9, 0), (0, y6)]) 95 dX5_pass_94 (by decide) rfl rfl ?_
        refine E_goto 115 dX5_pass_95 rfl ?_
        refine E_aload_n 116 dX5_pass_115 rfl (BrkB hq2) rfl ?_
        refine E_iload 118 dX5_pass_116 rfl rfl ?_
        refine E_iload 120 dX5_pass_118 rfl rfl ?_
        refine E_callV (as := [(0, y6), (0, x5)]) 123 dX5_pass_120 cf_X1_isMet mw_937 mw_870 mw_871 (BrkF0 hq2) (by decide) cl_X1 rfl rfl (Nat.le_of_ble_eq_true rfl) (Nat.le_of_ble_eq_true rfl) ⟨Nat.le_refl _, Nat.le_refl _⟩ rfl (w.mono (fun r18 σ17 w => ?_))
        show XX g true (d + 1) P_X5_pass 123 [(2, 70), (0, x1), (2, q2), (1, y16), (9, 0), (0, x5), (0, x6), (0, x7), (1, y3), (9, 0), (1, y5), (9, 0), (0, y6)] [(0, r18)] 136 σ17 136 Q
        refine E_if_eq 126 137 dX5_pass_123 rfl rfl (fun h => ?_) (fun h => ?_)
        · have w := w.1 h
          refine E_aload_n 138 dX5_pass_137 rfl (ac_70.bnd) rfl ?_
          refine E_get 3 141 dX5_pass_138 fl_X5_21 ac_70 rfl (by decide) rfl rfl ?_
          refine E_top (fun u19 hu19 => ?_)
          obtain ⟨fu19, w⟩ := w u19 hu19
          refine E_iload 143 dX5_pass_141 rfl rfl ?_
          refine E_bipush 145 dX5_pass_143 (by decide) rfl ?_
          refine E_iand 146 dX5_pass_145 rfl ?_
          refine E_dup2 147 dX5_pass_146 n01 n21 rfl ?_
          obtain ⟨c20, w⟩ := w
          refine E_lald 148 dX5_pass_147 fu19 c20 rfl ?_
          refine E_lload 150 dX5_pass_148 rfl rfl ?_
          refine E_lload 152 dX5_pass_150 rfl rfl ?_
          refine E_lsub 153 dX5_pass_152 rfl ?_
          refine E_ladd 154 dX5_pass_153 rfl ?_
          refine E_last 155 dX5_pass_154 fu19 c20 rfl ?_
          refine E_iinc (ls' := [(2, 70), (0, x1), (2, q2), (1, y16), (9, 0), (0, x5), (0, x6), (0, w32 (x7 + 1)), (1, y3), (9, 0), (1, y5), (9, 0), (0, y6)]) 158 dX5_pass_155 (by decide) rfl rfl rfl ?_
          refine E_goto 29 dX5_pass_158 rfl ?_
          refine XX.fg [8, 10, 12] [(2, 70), (0, x1), (2, q2), (1, y16), (9, 0), (0, x5), (0, x6), (0, w32 (x7 + 1)), (9, 0), (9, 0), (9, 0), (9, 0), (9, 0)] rfl ?_
          with_reducible exact w
        · have w := w.2 h
          refine E_lload_n 127 dX5_pass_126 rfl rfl ?_
          refine E_lload 129 dX5_pass_127 rfl rfl ?_
          refine E_lload 131 dX5_pass_129 rfl rfl ?_
          refine E_lsub 132 dX5_pass_131 rfl ?_
          refine E_ladd 133 dX5_pass_132 rfl ?_
          refine E_top (fun y21 hy21 => ?_)
          have w := w y21 hy21
          refine E_lstore_n (ls' := [(2, 70), (0, x1), (2, q2), (1, y21), (9, 0), (0, x5), (0, x6), (0, x7), (1, y3), (9, 0), (1, y5), (9, 0), (0, y6)]) 134 dX5_pass_133 (by decide) rfl rfl ?_
          refine E_goto 155 dX5_pass_134 rfl ?_
          refine E_iinc (ls' := [(2, 70), (0, x1), (2, q2), (1, y21), (9, 0), (0, x5), (0, x6), (0, w32 (x7 + 1)), (1, y3), (9, 0), (1, y5), (9, 0), (0, y6)]) 158 dX5_pass_155 (by decide) rfl rfl rfl ?_
          refine E_goto 29 dX5_pass_158 rfl ?_
          refine XX.fg [8, 10, 12] [(2, 70), (0, x1), (2, q2), (1, y21), (9, 0), (0, x5), (0, x6), (0, w32 (x7 + 1)), (9, 0), (9, 0), (9, 0), (9, 0), (9, 0)] rfl ?_
          with_reducible exact w
    · have w := w.2 ((lc_eq _ _).mp h)
      refine E_goto 155 dX5_pass_52 rfl ?_
      refine E_iinc (ls' := [(2, 70), (0, x1), (2, q2), (1, x3), (9, 0), (0, x5), (0, x6), (0, w32 (x7 + 1)), (1, y3), (9, 0), (9, 0), (9, 0), (9, 0)]) 158 dX5_pass_155 (by decide) rfl rfl rfl ?_
      refine E_goto 29 dX5_pass_158 rfl ?_
      refine XX.fg [8] [(2, 70), (0, x1), (2, q2), (1, x3), (9, 0), (0, x5), (0, x6), (0, w32 (x7 + 1)), (9, 0), (9, 0), (9, 0), (9, 0), (9, 0)] rfl ?_
      with_reducible exact w
theorem B_X5_holding_0 {g : PG} {d : Nat} {σ : PS} {Q : Int → PS → Prop} {x1 x2 q3 : Int} (hq3 : BrkAt q3) (w : ∀ u1, u1 = σ 70 4 → Fat 136 u1 (21, 7808) ∧ (XX g true (d + 1) P_X5_holding 10 [(2, 70), (0, x1), (0, x2), (2, q3), (0, 0), (9, 0), (9, 0)] [] 136 (su σ u1 0 1) 136 Q)) : XX g true (d + 1) P_X5_holding 0 [(2, 70), (0, x1), (0, x2), (2, q3), (9, 0), (9, 0), (9, 0)] [] 136 σ 136 Q := by
  refine E_aload_n 1 dX5_holding_0 rfl (ac_70.bnd) rfl ?_
  refine E_get 4 4 dX5_holding_1 fl_X5_24 ac_70 rfl (by decide) rfl rfl ?_
  refine E_top (fun u1 hu1 => ?_)
  obtain ⟨fu1, w⟩ := w u1 hu1
  refine E_iconst 5 dX5_holding_4 (by decide) rfl ?_
  refine E_lconst (x := 1) 6 dX5_holding_5 rfl rfl ?_
  refine E_last 7 dX5_holding_6 fu1 (by decide) rfl ?_
  refine E_iconst 8 dX5_holding_7 (by decide) rfl ?_
  refine E_istore (ls' := [(2, 70), (0, x1), (0, x2), (2, q3), (0, 0), (9, 0), (9, 0)]) 10 dX5_holding_8 (by decide) rfl rfl ?_
  with_reducible exact w
theorem B_X5_holding_10 {g : PG} {d : Nat} {σ : PS} {Q : Int → PS → Prop} {x1 x2 x4 q3 : Int} (hq3 : BrkAt q3) (w : ((x1 ≤ x4 → (XX g true (d + 1) P_X5_holding 89 [(2, 70), (9, 0), (0, x2), (9, 0), (1, 0), (9, 0), (0, 0)] [] 136 σ 136 Q)) ∧ (x4 < x1 → ∀ y1, y1 = imin x4 x2 → XX g true d P_X5_clearRows 0 [(2, 70), (0, w32 (y1 + 1)), (9, 0)] [] 136 σ 136 (fun _ σ2 => (XX g true (d + 1) P_X5_holding 35 [(2, 70), (0, x1), (0, x2), (2, q3), (0, x4), (0, y1), (0, 0)] [] 136 σ2 136 Q))))) : XX g true (d + 1) P_X5_holding 10 [(2, 70), (0, x1), (0, x2), (2, q3), (0, x4), (9, 0), (9, 0)] [] 136 σ 136 Q := by
  refine E_iload 12 dX5_holding_10 rfl rfl ?_
  refine E_iload_n 13 dX5_holding_12 rfl rfl ?_
  refine E_icmp_ge 16 83 dX5_holding_13 rfl rfl (fun h => ?_) (fun h => ?_)
  · have w := w.1 h
    refine E_lconst (x := 0) 84 dX5_holding_83 rfl rfl ?_
    refine E_lstore (ls' := [(2, 70), (0, x1), (0, x2), (2, q3), (1, 0), (9, 0), (9, 0)]) 86 dX5_holding_84 (by decide) rfl rfl ?_
    refine E_iconst 87 dX5_holding_86 (by decide) rfl ?_
    refine E_istore (ls' := [(2, 70), (0, x1), (0, x2), (2, q3), (1, 0), (9, 0), (0, 0)]) 89 dX5_holding_87 (by decide) rfl rfl ?_
    refine XX.fg [1, 3] [(2, 70), (9, 0), (0, x2), (9, 0), (1, 0), (9, 0), (0, 0)] rfl ?_
    with_reducible exact w
  · have w := w.2 h
    refine E_iload 18 dX5_holding_16 rfl rfl ?_
    refine E_iload_n 19 dX5_holding_18 rfl rfl ?_
    refine E_mmin 22 dX5_holding_19 mw_929 (Nat.le_of_ble_eq_true rfl) (Nat.le_refl _) rfl ?_
    refine E_top (fun y1 hy1 => ?_)
    have w := w y1 hy1
    refine E_istore (ls' := [(2, 70), (0, x1), (0, x2), (2, q3), (0, x4), (0, y1), (9, 0)]) 24 dX5_holding_22 (by decide) rfl rfl ?_
    refine E_aload_n 25 dX5_holding_24 rfl (ac_70.bnd) rfl ?_
    refine E_iload 27 dX5_holding_25 rfl rfl ?_
    refine E_iconst 28 dX5_holding_27 (by decide) rfl ?_
    refine E_iadd 29 dX5_holding_28 rfl ?_
    refine E_callV (as := [(0, w32 (y1 + 1))]) 32 dX5_holding_29 cf_X5_clearRows mw_1001 mw_1003 mw_34 ac_70 (by decide) cl_X5 rfl rfl (Nat.le_of_ble_eq_true rfl) (Nat.le_of_ble_eq_true rfl) ⟨Nat.le_refl _, Nat.le_refl _⟩ rfl (w.mono (fun r3 σ2 w => ?_))
    show XX g true (d + 1) P_X5_holding 32 [(2, 70), (0, x1), (0, x2), (2, q3), (0, x4), (0, y1), (9, 0)] [] 136 σ2 136 Q
    refine E_iconst 33 dX5_holding_32 (by decide) rfl ?_
    refine E_istore (ls' := [(2, 70), (0, x1), (0, x2), (2, q3), (0, x4), (0, y1), (0, 0)]) 35 dX5_holding_33 (by decide) rfl rfl ?_
    with_reducible exact w
theorem B_X5_holding_89 {g : PG} {d : Nat} {σ : PS} {Q : Int → PS → Prop} {x2 x4 x6 q3 : Int} (hq3 : BrkAt q3) (w : ((127 < x6 → Q x4 σ) ∧ (x6 ≤ 127 → ∀ u1, u1 = σ 70 4 → Fat 136 u1 (21, 7808) ∧ (0 ≤ ior (ishl x2 7) x6 ∧ ior (ishl x2 7) x6 < 7808) ∧ ∀ y3, y3 = w64 (x4 + (σ u1 (ior (ishl x2 7) x6))) → (XX g true (d + 1) P_X5_holding 89 [(2, 70), (9, 0), (0, x2), (9, 0), (1, y3), (9, 0), (0, w32 (x6 + 1))] [] 136 σ 136 Q)))) : XX g true (d + 1) P_X5_holding 89 [(2, 70), (9, 0), (0, x2), (9, 0), (1, x4), (9, 0), (0, x6)] [] 136 σ 136 Q := by
  refine E_iload 91 dX5_holding_89 rfl rfl ?_
  refine E_bipush 93 dX5_holding_91 (by decide) rfl ?_
  refine E_icmp_gt 96 119 dX5_holding_93 rfl rfl (fun h => ?_) (fun h => ?_)
  · have w := w.1 h
    refine E_lload 121 dX5_holding_119 rfl rfl ?_
    exact E_lret dX5_holding_121 rfl rfl w
  · have w := w.2 h
    refine E_lload 98 dX5_holding_96 rfl rfl ?_
    refine E_aload_n 99 dX5_holding_98 rfl (ac_70.bnd) rfl ?_
    refine E_get 4 102 dX5_holding_99 fl_X5_24 ac_70 rfl (by decide) rfl rfl ?_
    refine E_top (fun u1 hu1 => ?_)
    obtain ⟨fu1, w⟩ := w u1 hu1
    refine E_iload_n 103 dX5_holding_102 rfl rfl ?_
    refine E_bipush 105 dX5_holding_103 (by decide) rfl ?_
    refine E_ishl 106 dX5_holding_105 rfl ?_
    refine E_iload 108 dX5_holding_106 rfl rfl ?_
    refine E_ior 109 dX5_holding_108 rfl ?_
    obtain ⟨c2, w⟩ := w
    refine E_lald 110 dX5_holding_109 fu1 c2 rfl ?_
    refine E_ladd 111 dX5_holding_110 rfl ?_
    refine E_top (fun y3 hy3 => ?_)
    have w := w y3 hy3
    refine E_lstore (ls' := [(2, 70), (9, 0), (0, x2), (9, 0), (1, y3), (9, 0), (0, x6)]) 113 dX5_holding_111 (by decide) rfl rfl ?_
    refine E_iinc (ls' := [(2, 70), (9, 0), (0, x2), (9, 0), (1, y3), (9, 0), (0, w32 (x6 + 1))]) 116 dX5_holding_113 (by decide) rfl rfl rfl ?_
    refine E_goto 89 dX5_holding_116 rfl ?_
    with_reducible exact w
theorem B_X5_holding_35 {g : PG} {d : Nat} {σ : PS} {Q : Int → PS → Prop} {x1 x2 x4 x5 x6 q3 : Int} (hq3 : BrkAt q3) (w : ((x5 < x6 → ∀ u1, u1 = σ 70 4 → Fat 136 u1 (21, 7808) ∧ ∀ u2, u2 = σ 70 5 → Fat 136 u2 (21, 7808) ∧ (XX g true (d + 1) P_X5_holding 10 [(2, 70), (0, x1), (0, x2), (2, q3), (0, w32 (x4 + 1)), (9, 0), (9, 0)] [] 136 (su (su σ 70 4 u2) 70 5 u1) 136 Q)) ∧ (x6 ≤ x5 → XX g true d P_X5_addRows 0 [(2, 70), (0, x4), (0, x6), (2, q3), (9, 0), (9, 0), (9, 0), (9, 0), (9, 0), (9, 0)] [] 136 σ 136 (fun _ σ3 => (XX g true (d + 1) P_X5_holding 35 [(2, 70), (0, x1), (0, x2), (2, q3), (0, x4), (0, x5), (0, w32 (x6 + 1))] [] 136 σ3 136 Q))))) : XX g true (d + 1) P_X5_holding 35 [(2, 70), (0, x1), (0, x2), (2, q3), (0, x4), (0, x5), (0, x6)] [] 136 σ 136 Q := by
  refine E_iload 37 dX5_holding_35 rfl rfl ?_
  refine E_iload 39 dX5_holding_37 rfl rfl ?_
  refine E_icmp_gt 42 57 dX5_holding_39 rfl rfl (fun h => ?_) (fun h => ?_)
  · have w := w.1 h
    refine E_aload_n 58 dX5_holding_57 rfl (ac_70.bnd) rfl ?_
    refine E_get 4 61 dX5_holding_58 fl_X5_24 ac_70 rfl (by decide) rfl rfl ?_
    refine E_top (fun u1 hu1 => ?_)
    obtain ⟨fu1, w⟩ := w u1 hu1
    refine E_astore (ls' := [(2, 70), (0, x1), (0, x2), (2, q3), (0, x4), (0, x5), (2, u1)]) 63 dX5_holding_61 (by decide) rfl fu1.bnd rfl ?_
    refine E_aload_n 64 dX5_holding_63 rfl (ac_70.bnd) rfl ?_
    refine E_aload_n 65 dX5_holding_64 rfl (ac_70.bnd) rfl ?_
    refine E_get 5 68 dX5_holding_65 fl_X5_27 ac_70 rfl (by decide) rfl rfl ?_
    refine E_top (fun u2 hu2 => ?_)
    obtain ⟨fu2, w⟩ := w u2 hu2
    refine E_putR (ty := .array .long) 4 71 dX5_holding_68 fl_X5_24 ac_70 rfl (by decide) (Or.inl rfl) (by decide +kernel) (Or.inr ⟨_, rfl⟩) (fun _ => by decide +kernel) rfl rfl ?_
    refine E_aload_n 72 dX5_holding_71 rfl (ac_70.bnd) rfl ?_
    refine E_aload 74 dX5_holding_72 rfl fu1.bnd rfl ?_
    refine E_putR (ty := .array .long) 5 77 dX5_holding_74 fl_X5_27 ac_70 rfl (by decide) (Or.inl rfl) (by decide +kernel) (Or.inr ⟨_, rfl⟩) (fun _ => by decide +kernel) rfl rfl ?_
    refine E_iinc (ls' := [(2, 70), (0, x1), (0, x2), (2, q3), (0, w32 (x4 + 1)), (0, x5), (2, u1)]) 80 dX5_holding_77 (by decide) rfl rfl rfl ?_
    refine E_goto 10 dX5_holding_80 rfl ?_
    refine XX.fg [5, 6] [(2, 70), (0, x1), (0, x2), (2, q3), (0, w32 (x4 + 1)), (9, 0), (9, 0)] rfl ?_
    with_reducible exact w
  · have w := w.2 h
    refine E_aload_n 43 dX5_holding_42 rfl (ac_70.bnd) rfl ?_
    refine E_iload 45 dX5_holding_43 rfl rfl ?_
    refine E_iload 47 dX5_holding_45 rfl rfl ?_
    refine E_aload_n 48 dX5_holding_47 rfl (BrkB hq3) rfl ?_
    refine E_callV (as := [(0, x4), (0, x6), (2, q3)]) 51 dX5_holding_48 cf_X5_addRows mw_1005 mw_1007 mw_35 ac_70 (by decide) cl_X5 rfl rfl (Nat.le_of_ble_eq_true rfl) (Nat.le_of_ble_eq_true rfl) ⟨Nat.le_refl _, Nat.le_refl _⟩ rfl (w.mono (fun r4 σ3 w => ?_))
    show XX g true (d + 1) P_X5_holding 51 [(2, 70), (0, x1), (0, x2), (2, q3), (0, x4), (0, x5), (0, x6)] [] 136 σ3 136 Q
    refine E_iinc (ls' := [(2, 70), (0, x1), (0, x2), (2, q3), (0, x4), (0, x5), (0, w32 (x6 + 1))]) 54 dX5_holding_51 (by decide) rfl rfl rfl ?_
    refine E_goto 35 dX5_holding_54 rfl ?_
    with_reducible exact w
theorem B_X5_clearRows_0 {g : PG} {d : Nat} {σ : PS} {Q : Int → PS → Prop} {x1 : Int}  (w : (XX g true d P_X5_clearRows 2 [(2, 70), (0, x1), (0, 0)] [] 136 σ 136 Q)) : XX g true d P_X5_clearRows 0 [(2, 70), (0, x1), (9, 0)] [] 136 σ 136 Q := by
  refine E_iconst 1 dX5_clearRows_0 (by decide) rfl ?_
  refine E_istore_n (ls' := [(2, 70), (0, x1), (0, 0)]) 2 dX5_clearRows_1 (by decide) rfl rfl ?_
  with_reducible exact w
theorem B_X5_clearRows_2 {g : PG} {d : Nat} {σ : PS} {Q : Int → PS → Prop} {x1 x2 : Int}  (w : ((ior (ishl x1 7) 127 < x2 → Q 0 σ) ∧ (x2 ≤ ior (ishl x1 7) 127 → ∀ u1, u1 = σ 70 5 → Fat 136 u1 (21, 7808) ∧ ((7808 ≤ x2 → Q 0 σ) ∧ (x2 < 7808 → ∀ u2, u2 = σ 70 5 → Fat 136 u2 (21, 7808) ∧ (0 ≤ x2 ∧ x2 < 7808) ∧ (XX g true d P_X5_clearRows 2 [(2, 70), (0, x1), (0, w32 (x2 + 1))] [] 136 (su σ u2 x2 0) 136 Q)))))) : XX g true d P_X5_clearRows 2 [(2, 70), (0, x1), (0, x2)] [] 136 σ 136 Q := by
  refine E_iload_n 3 dX5_clearRows_2 rfl rfl ?_
  refine E_iload_n 4 dX5_clearRows_3 rfl rfl ?_
  refine E_bipush 6 dX5_clearRows_4 (by decide) rfl ?_
  refine E_ishl 7 dX5_clearRows_6 rfl ?_
  refine E_bipush 9 dX5_clearRows_7 (by decide) rfl ?_
  refine E_ior 10 dX5_clearRows_9 rfl ?_
  refine E_icmp_gt 13 35 dX5_clearRows_10 rfl rfl (fun h => ?_) (fun h => ?_)
  · have w := w.1 h
    exact E_vret dX5_clearRows_35 rfl rfl w
  · have w := w.2 h
    refine E_iload_n 14 dX5_clearRows_13 rfl rfl ?_
    refine E_aload_n 15 dX5_clearRows_14 rfl (ac_70.bnd) rfl ?_
    refine E_get 5 18 dX5_clearRows_15 fl_X5_27 ac_70 rfl (by decide) rfl rfl ?_
    refine E_top (fun u1 hu1 => ?_)
    obtain ⟨fu1, w⟩ := w u1 hu1
    refine E_alen 7808 19 dX5_clearRows_18 fu1 (by decide) (by decide) rfl rfl ?_
    refine E_icmp_ge 22 35 dX5_clearRows_19 rfl rfl (fun h => ?_) (fun h => ?_)
    · have w := w.1 h
      exact E_vret dX5_clearRows_35 rfl rfl w
    · have w := w.2 h
      refine E_aload_n 23 dX5_clearRows_22 rfl (ac_70.bnd) rfl ?_
      refine E_get 5 26 dX5_clearRows_23 fl_X5_27 ac_70 rfl (by decide) rfl rfl ?_
      refine E_top (fun u2 hu2 => ?_)
      obtain ⟨fu2, w⟩ := w u2 hu2
      refine E_iload_n 27 dX5_clearRows_26 rfl rfl ?_
      refine E_lconst (x := 0) 28 dX5_clearRows_27 rfl rfl ?_
      obtain ⟨c3, w⟩ := w
      refine E_last 29 dX5_clearRows_28 fu2 c3 rfl ?_
      refine E_iinc (ls' := [(2, 70), (0, x1), (0, w32 (x2 + 1))]) 32 dX5_clearRows_29 (by decide) rfl rfl rfl ?_
      refine E_goto 2 dX5_clearRows_32 rfl ?_
      with_reducible exact w
theorem B_X5_addRows_0 {g : PG} {d : Nat} {σ : PS} {Q : Int → PS → Prop} {x1 x2 q3 : Int} (hq3 : BrkAt q3) (w : ∀ y1, y1 = imin (w32 (x1 + 1)) 8 → XX g true d P_X5_setsAhead 0 [(0, x1)] [] 136 σ 136 (fun r3 σ2 => (XX g true (d + 1) P_X5_addRows 19 [(2, 70), (9, 0), (0, x2), (2, q3), (0, y1), (0, r3), (0, 0), (9, 0), (9, 0), (9, 0)] [] 136 σ2 136 Q))) : XX g true (d + 1) P_X5_addRows 0 [(2, 70), (0, x1), (0, x2), (2, q3), (9, 0), (9, 0), (9, 0), (9, 0), (9, 0), (9, 0)] [] 136 σ 136 Q := by
  refine E_iload_n 1 dX5_addRows_0 rfl rfl ?_
  refine E_iconst 2 dX5_addRows_1 (by decide) rfl ?_
  refine E_iadd 3 dX5_addRows_2 rfl ?_
  refine E_bipush 5 dX5_addRows_3 (by decide) rfl ?_
  refine E_mmin 8 dX5_addRows_5 mw_929 (Nat.le_of_ble_eq_true rfl) (Nat.le_refl _) rfl ?_
  refine E_top (fun y1 hy1 => ?_)
  have w := w y1 hy1
  refine E_istore (ls' := [(2, 70), (0, x1), (0, x2), (2, q3), (0, y1), (9, 0), (9, 0), (9, 0), (9, 0), (9, 0)]) 10 dX5_addRows_8 (by decide) rfl rfl ?_
  refine E_iload_n 11 dX5_addRows_10 rfl rfl ?_
  refine E_callS (as := [(0, x1)]) 14 dX5_addRows_11 cf_X5_setsAhead (Or.inl mw_930) mw_931 rfl rfl (Nat.le_of_ble_eq_true rfl) (Nat.le_of_ble_eq_true rfl) ⟨Nat.le_refl _, Nat.le_refl _⟩ rfl (w.mono (fun r3 σ2 w => ?_))
  show XX g true (d + 1) P_X5_addRows 14 [(2, 70), (0, x1), (0, x2), (2, q3), (0, y1), (9, 0), (9, 0), (9, 0), (9, 0), (9, 0)] [(0, r3)] 136 σ2 136 Q
  refine E_istore (ls' := [(2, 70), (0, x1), (0, x2), (2, q3), (0, y1), (0, r3), (9, 0), (9, 0), (9, 0), (9, 0)]) 16 dX5_addRows_14 (by decide) rfl rfl ?_
  refine E_iconst 17 dX5_addRows_16 (by decide) rfl ?_
  refine E_istore (ls' := [(2, 70), (0, x1), (0, x2), (2, q3), (0, y1), (0, r3), (0, 0), (9, 0), (9, 0), (9, 0)]) 19 dX5_addRows_17 (by decide) rfl rfl ?_
  refine XX.fg [1] [(2, 70), (9, 0), (0, x2), (2, q3), (0, y1), (0, r3), (0, 0), (9, 0), (9, 0), (9, 0)] rfl ?_
  with_reducible exact w
theorem B_X5_addRows_19 {g : PG} {d : Nat} {σ : PS} {Q : Int → PS → Prop} {x2 x4 x5 x6 q3 : Int} (hq3 : BrkAt q3) (w : ((x5 ≤ x6 → Q 0 σ) ∧ (x6 < x5 → ∀ u1, u1 = σ 70 4 → Fat 136 u1 (21, 7808) ∧ (0 ≤ ior (ishl x2 7) x6 ∧ ior (ishl x2 7) x6 < 7808) ∧ ∀ y3, y3 = σ u1 (ior (ishl x2 7) x6) → ((y3 ≠ 0 → ∀ y4, y4 = ishl x6 1 → XX g true d P_X1_isMet 0 [(2, q3), (0, y4), (0, x4)] [] 136 σ 136 (fun r6 σ5 => ((r6 ≠ 0 → XX g true d P_X1_isMet 0 [(2, q3), (0, ior y4 1), (0, x4)] [] 136 σ5 136 (fun r8 σ7 => ((r8 ≠ 0 → (XX g true (d + 1) P_X5_addRows 19 [(2, 70), (9, 0), (0, x2), (2, q3), (0, x4), (0, x5), (0, w32 (x6 + 1)), (9, 0), (9, 0), (9, 0)] [] 136 σ7 136 Q)) ∧ (r8 = 0 → ((60 ≤ x2 → (XX g true (d + 1) P_X5_addRows 19 [(2, 70), (9, 0), (0, x2), (2, q3), (0, x4), (0, x5), (0, w32 (x6 + 1)), (9, 0), (9, 0), (9, 0)] [] 136 σ7 136 Q)) ∧ (x2 < 60 → ∀ u9, u9 = σ7 70 5 → Fat 136 u9 (21, 7808) ∧ (0 ≤ ior (ishl (w32 (x2 + 1)) 7) (iand (ior y4 1) 127) ∧ ior (ishl (w32 (x2 + 1)) 7) (iand (ior y4 1) 127) < 7808) ∧ (XX g true (d + 1) P_X5_addRows 19 [(2, 70), (9, 0), (0, x2), (2, q3), (0, x4), (0, x5), (0, w32 (x6 + 1)), (9, 0), (9, 0), (9, 0)] [] 136 (su σ7 u9 (ior (ishl (w32 (x2 + 1)) 7) (iand (ior y4 1) 127)) (w64 ((σ7 u9 (ior (ishl (w32 (x2 + 1)) 7) (iand (ior y4 1) 127))) + y3))) 136 Q))))))) ∧ (r6 = 0 → ∀ u11, u11 = σ5 70 5 → Fat 136 u11 (21, 7808) ∧ (0 ≤ ior (ishl x2 7) (iand y4 127) ∧ ior (ishl x2 7) (iand y4 127) < 7808) ∧ XX g true d P_X1_isMet 0 [(2, q3), (0, ior y4 1), (0, x4)] [] 136 (su σ5 u11 (ior (ishl x2 7) (iand y4 127)) (w64 ((σ5 u11 (ior (ishl x2 7) (iand y4 127))) + y3))) 136 (fun r14 σ13 => ((r14 ≠ 0 → (XX g true (d + 1) P_X5_addRows 19 [(2, 70), (9, 0), (0, x2), (2, q3), (0, x4), (0, x5), (0, w32 (x6 + 1)), (9, 0), (9, 0), (9, 0)] [] 136 σ13 136 Q)) ∧ (r14 = 0 → ((60 ≤ x2 → (XX g true (d + 1) P_X5_addRows 19 [(2, 70), (9, 0), (0, x2), (2, q3), (0, x4), (0, x5), (0, w32 (x6 + 1)), (9, 0), (9, 0), (9, 0)] [] 136 σ13 136 Q)) ∧ (x2 < 60 → ∀ u15, u15 = σ13 70 5 → Fat 136 u15 (21, 7808) ∧ (0 ≤ ior (ishl (w32 (x2 + 1)) 7) (iand (ior y4 1) 127) ∧ ior (ishl (w32 (x2 + 1)) 7) (iand (ior y4 1) 127) < 7808) ∧ (XX g true (d + 1) P_X5_addRows 19 [(2, 70), (9, 0), (0, x2), (2, q3), (0, x4), (0, x5), (0, w32 (x6 + 1)), (9, 0), (9, 0), (9, 0)] [] 136 (su σ13 u15 (ior (ishl (w32 (x2 + 1)) 7) (iand (ior y4 1) 127)) (w64 ((σ13 u15 (ior (ishl (w32 (x2 + 1)) 7) (iand (ior y4 1) 127))) + y3))) 136 Q)))))))))) ∧ (y3 = 0 → (XX g true (d + 1) P_X5_addRows 19 [(2, 70), (9, 0), (0, x2), (2, q3), (0, x4), (0, x5), (0, w32 (x6 + 1)), (9, 0), (9, 0), (9, 0)] [] 136 σ 136 Q)))))) : XX g true (d + 1) P_X5_addRows 19 [(2, 70), (9, 0), (0, x2), (2, q3), (0, x4), (0, x5), (0, x6), (9, 0), (9, 0), (9, 0)] [] 136 σ 136 Q := by
  refine E_iload 21 dX5_addRows_19 rfl rfl ?_
  refine E_iload 23 dX5_addRows_21 rfl rfl ?_
  refine E_icmp_ge 26 136 dX5_addRows_23 rfl rfl (fun h => ?_) (fun h => ?_)
  · have w := w.1 h
    exact E_vret dX5_addRows_136 rfl rfl w
  · have w := w.2 h
    refine E_aload_n 27 dX5_addRows_26 rfl (ac_70.bnd) rfl ?_
    refine E_get 4 30 dX5_addRows_27 fl_X5_24 ac_70 rfl (by decide) rfl rfl ?_
    refine E_top (fun u1 hu1 => ?_)
    obtain ⟨fu1, w⟩ := w u1 hu1
    refine E_iload_n 31 dX5_addRows_30 rfl rfl ?_
    refine E_bipush 33 dX5_addRows_31 (by decide) rfl ?_
    refine E_ishl 34 dX5_addRows_33 rfl ?_
    refine E_iload 36 dX5_addRows_34 rfl rfl ?_
    refine E_ior 37 dX5_addRows_36 rfl ?_
    obtain ⟨c2, w⟩ := w
    refine E_lald 38 dX5_addRows_37 fu1 c2 rfl ?_
    refine E_top (fun y3 hy3 => ?_)
    have w := w y3 hy3
    refine E_lstore (ls' := [(2, 70), (9, 0), (0, x2), (2, q3), (0, x4), (0, x5), (0, x6), (1, y3), (9, 0), (9, 0)]) 40 dX5_addRows_38 (by decide) rfl rfl ?_
    refine E_lload 42 dX5_addRows_40 rfl rfl ?_
    refine E_lconst (x := 0) 43 dX5_addRows_42 rfl rfl ?_
    refine E_lcmp 44 dX5_addRows_43 rfl ?_
    refine E_if_ne 47 50 dX5_addRows_44 rfl rfl (fun h => ?_) (fun h => ?_)
    · have w := w.1 ((lc_ne _ _).mp h)
      refine E_iload 52 dX5_addRows_50 rfl rfl ?_
      refine E_iconst 53 dX5_addRows_52 (by decide) rfl ?_
      refine E_ishl 54 dX5_addRows_53 rfl ?_
      refine E_top (fun y4 hy4 => ?_)
      have w := w y4 hy4
      refine E_istore (ls' := [(2, 70), (9, 0), (0, x2), (2, q3), (0, x4), (0, x5), (0, x6), (1, y3), (9, 0), (0, y4)]) 56 dX5_addRows_54 (by decide) rfl rfl ?_
      refine E_aload_n 57 dX5_addRows_56 rfl (BrkB hq3) rfl ?_
      refine E_iload 59 dX5_addRows_57 rfl rfl ?_
      refine E_iload 61 dX5_addRows_59 rfl rfl ?_
      refine E_callV (as := [(0, y4), (0, x4)]) 64 dX5_addRows_61 cf_X1_isMet mw_937 mw_870 mw_871 (BrkF0 hq3) (by decide) cl_X1 rfl rfl (Nat.le_of_ble_eq_true rfl) (Nat.le_of_ble_eq_true rfl) ⟨Nat.le_refl _, Nat.le_refl _⟩ rfl (w.mono (fun r6 σ5 w => ?_))
      show XX g true (d + 1) P_X5_addRows 64 [(2, 70), (9, 0), (0, x2), (2, q3), (0, x4), (0, x5), (0, x6), (1, y3), (9, 0), (0, y4)] [(0, r6)] 136 σ5 136 Q
      refine E_if_ne 67 87 dX5_addRows_64 rfl rfl (fun h => ?_) (fun h => ?_)
      · have w := w.1 h
        refine E_aload_n 88 dX5_addRows_87 rfl (BrkB hq3) rfl ?_
        refine E_iload 90 dX5_addRows_88 rfl rfl ?_
        refine E_iconst 91 dX5_addRows_90 (by decide) rfl ?_
        refine E_ior 92 dX5_addRows_91 rfl ?_
        refine E_iload 94 dX5_addRows_92 rfl rfl ?_
        refine E_callV (as := [(0, ior y4 1), (0, x4)]) 97 dX5_addRows_94 cf_X1_isMet mw_937 mw_870 mw_871 (BrkF0 hq3) (by decide) cl_X1 rfl rfl (Nat.le_of_ble_eq_true rfl) (Nat.le_of_ble_eq_true rfl) ⟨Nat.le_refl _, Nat.le_refl _⟩ rfl (w.mono (fun r8 σ7 w => ?_))
        show XX g true (d + 1) P_X5_addRows 97 [(2, 70), (9, 0), (0, x2), (2, q3), (0, x4), (0, x5), (0, x6), (1, y3), (9, 0), (0, y4)] [(0, r8)] 136 σ7 136 Q
        refine E_if_ne 100 130 dX5_addRows_97 rfl rfl (fun h => ?_) (fun h => ?_)
        · have w := w.1 h
          refine E_iinc (ls' := [(2, 70), (9, 0), (0, x2), (2, q3), (0, x4), (0, x5), (0, w32 (x6 + 1)), (1, y3), (9, 0), (0, y4)]) 133 dX5_addRows_130 (by decide) rfl rfl rfl ?_
          refine E_goto 19 dX5_addRows_133 rfl ?_
          refine XX.fg [7, 9] [(2, 70), (9, 0), (0, x2), (2, q3), (0, x4), (0, x5), (0, w32 (x6 + 1)), (9, 0), (9, 0), (9, 0)] rfl ?_
          with_reducible exact w
        · have w := w.2 h
          refine E_iload_n 101 dX5_addRows_100 rfl rfl ?_
          refine E_bipush 103 dX5_addRows_101 (by decide) rfl ?_
          refine E_icmp_ge 106 130 dX5_addRows_103 rfl rfl (fun h => ?_) (fun h => ?_)
          · have w := w.1 h
            refine E_iinc (ls' := [(2, 70), (9, 0), (0, x2), (2, q3), (0, x4), (0, x5), (0, w32 (x6 + 1)), (1, y3), (9, 0), (0, y4)]) 133 dX5_addRows_130 (by decide) rfl rfl rfl ?_
            refine E_goto 19 dX5_addRows_133 rfl ?_
            refine XX.fg [7, 9] [(2, 70), (9, 0), (0, x2), (2, q3), (0, x4), (0, x5), (0, w32 (x6 + 1)), (9, 0), (9, 0), (9, 0)] rfl ?_
            with_reducible exact w
          · have w := w.2 h
            refine E_aload_n 107 dX5_addRows_106 rfl (ac_70.bnd) rfl ?_
            refine E_get 5 110 dX5_addRows_107 fl_X5_27 ac_70 rfl (by decide) rfl rfl ?_
            refine E_top (fun u9 hu9 => ?_)
            obtain ⟨fu9, w⟩ := w u9 hu9
            refine E_iload_n 111 dX5_addRows_110 rfl rfl ?_
            refine E_iconst 112 dX5_addRows_111 (by decide) rfl ?_
            refine E_iadd 113 dX5_addRows_112 rfl ?_
            refine E_bipush 115 dX5_addRows_113 (by decide) rfl ?_
            refine E_ishl 116 dX5_addRows_115 rfl ?_
            refine E_iload 118 dX5_addRows_116 rfl rfl ?_
            refine E_iconst 119 dX5_addRows_118 (by decide) rfl ?_
            refine E_ior 120 dX5_addRows_119 rfl ?_
            refine E_bipush 122 dX5_addRows_120 (by decide) rfl ?_
            refine E_iand 123 dX5_addRows_122 rfl ?_
            refine E_ior 124 dX5_addRows_123 rfl ?_
            refine E_dup2 125 dX5_addRows_124 n01 n21 rfl ?_
            obtain ⟨c10, w⟩ := w
            refine E_lald 126 dX5_addRows_125 fu9 c10 rfl ?_
            refine E_lload 128 dX5_addRows_126 rfl rfl ?_
            refine E_ladd 129 dX5_addRows_128 rfl ?_
            refine E_last 130 dX5_addRows_129 fu9 c10 rfl ?_
            refine E_iinc (ls' := [(2, 70), (9, 0), (0, x2), (2, q3), (0, x4), (0, x5), (0, w32 (x6 + 1)), (1, y3), (9, 0), (0, y4)]) 133 dX5_addRows_130 (by decide) rfl rfl rfl ?_
            refine E_goto 19 dX5_addRows_133 rfl ?_
            refine XX.fg [7, 9] [(2, 70), (9, 0), (0, x2), (2, q3), (0, x4), (0, x5), (0, w32 (x6 + 1)), (9, 0), (9, 0), (9, 0)] rfl ?_
            with_reducible exact w
      · have w := w.2 h
        refine E_aload_n 68 dX5_addRows_67 rfl (ac_70.bnd) rfl ?_
        refine E_get 5 71 dX5_addRows_68 fl_X5_27 ac_70 rfl (by decide) rfl rfl ?_
        refine E_top (fun u11 hu11 => ?_)
        obtain ⟨fu11, w⟩ := w u11 hu11
        refine E_iload_n 72 dX5_addRows_71 rfl rfl ?_
        refine E_bipush 74 dX5_addRows_72 (by decide) rfl ?_
        refine E_ishl 75 dX5_addRows_74 rfl ?_
        refine E_iload 77 dX5_addRows_75 rfl rfl ?_
        refine E_bipush 79 dX5_addRows_77 (by decide) rfl ?_
        refine E_iand 80 dX5_addRows_79 rfl ?_
        refine E_ior 81 dX5_addRows_80 rfl ?_
        refine E_dup2 82 dX5_addRows_81 n01 n21 rfl ?_
        obtain ⟨c12, w⟩ := w
        refine E_lald 83 dX5_addRows_82 fu11 c12 rfl ?_
        refine E_lload 85 dX5_addRows_83 rfl rfl ?_
        refine E_ladd 86 dX5_addRows_85 rfl ?_
        refine E_last 87 dX5_addRows_86 fu11 c12 rfl ?_
        refine E_aload_n 88 dX5_addRows_87 rfl (BrkB hq3) rfl ?_
        refine E_iload 90 dX5_addRows_88 rfl rfl ?_
        refine E_iconst 91 dX5_addRows_90 (by decide) rfl ?_
        refine E_ior 92 dX5_addRows_91 rfl ?_
        refine E_iload 94 dX5_addRows_92 rfl rfl ?_
        refine E_callV (as := [(0, ior y4 1), (0, x4)]) 97 dX5_addRows_94 cf_X1_isMet mw_937 mw_870 mw_871 (BrkF0 hq3) (by decide) cl_X1 rfl rfl (Nat.le_of_ble_eq_true rfl) (Nat.le_of_ble_eq_true rfl) ⟨Nat.le_refl _, Nat.le_refl _⟩ rfl (w.mono (fun r14 σ13 w => ?_))
        show XX g true (d + 1) P_X5_addRows 97 [(2, 70), (9, 0), (0, x2), (2, q3), (0, x4), (0, x5), (0, x6), (1, y3), (9, 0), (0, y4)] [(0, r14)] 136 σ13 136 Q
        refine E_if_ne 100 130 dX5_addRows_97 rfl rfl (fun h => ?_) (fun h => ?_)
        · have w := w.1 h
          refine E_iinc (ls' := [(2, 70), (9, 0), (0, x2), (2, q3), (0, x4), (0, x5), (0, w32 (x6 + 1)), (1, y3), (9, 0), (0, y4)]) 133 dX5_addRows_130 (by decide) rfl rfl rfl ?_
          refine E_goto 19 dX5_addRows_133 rfl ?_
          refine XX.fg [7, 9] [(2, 70), (9, 0), (0, x2), (2, q3), (0, x4), (0, x5), (0, w32 (x6 + 1)), (9, 0), (9, 0), (9, 0)] rfl ?_
          with_reducible exact w
        · have w := w.2 h
          refine E_iload_n 101 dX5_addRows_100 rfl rfl ?_
          refine E_bipush 103 dX5_addRows_101 (by decide) rfl ?_
          refine E_icmp_ge 106 130 dX5_addRows_103 rfl rfl (fun h => ?_) (fun h => ?_)
          · have w := w.1 h
            refine E_iinc (ls' := [(2, 70), (9, 0), (0, x2), (2, q3), (0, x4), (0, x5), (0, w32 (x6 + 1)), (1, y3), (9, 0), (0, y4)]) 133 dX5_addRows_130 (by decide) rfl rfl rfl ?_
            refine E_goto 19 dX5_addRows_133 rfl ?_
            refine XX.fg [7, 9] [(2, 70), (9, 0), (0, x2), (2, q3), (0, x4), (0, x5), (0, w32 (x6 + 1)), (9, 0), (9, 0), (9, 0)] rfl ?_
            with_reducible exact w
          · have w := w.2 h
            refine E_aload_n 107 dX5_addRows_106 rfl (ac_70.bnd) rfl ?_
            refine E_get 5 110 dX5_addRows_107 fl_X5_27 ac_70 rfl (by decide) rfl rfl ?_
            refine E_top (fun u15 hu15 => ?_)
            obtain ⟨fu15, w⟩ := w u15 hu15
            refine E_iload_n 111 dX5_addRows_110 rfl rfl ?_
            refine E_iconst 112 dX5_addRows_111 (by decide) rfl ?_
            refine E_iadd 113 dX5_addRows_112 rfl ?_
            refine E_bipush 115 dX5_addRows_113 (by decide) rfl ?_
            refine E_ishl 116 dX5_addRows_115 rfl ?_
            refine E_iload 118 dX5_addRows_116 rfl rfl ?_
            refine E_iconst 119 dX5_addRows_118 (by decide) rfl ?_
            refine E_ior 120 dX5_addRows_119 rfl ?_
            refine E_bipush 122 dX5_addRows_120 (by decide) rfl ?_
            refine E_iand 123 dX5_addRows_122 rfl ?_
            refine E_ior 124 dX5_addRows_123 rfl ?_
            refine E_dup2 125 dX5_addRows_124 n01 n21 rfl ?_
            obtain ⟨c16, w⟩ := w
            refine E_lald 126 dX5_addRows_125 fu15 c16 rfl ?_
            refine E_lload 128 dX5_addRows_126 rfl rfl ?_
            refine E_ladd 129 dX5_addRows_128 rfl ?_
            refine E_last 130 dX5_addRows_129 fu15 c16 rfl ?_
            refine E_iinc (ls' := [(2, 70), (9, 0), (0, x2), (2, q3), (0, x4), (0, x5), (0, w32 (x6 + 1)), (1, y3), (9, 0), (0, y4)]) 133 dX5_addRows_130 (by decide) rfl rfl rfl ?_
            refine E_goto 19 dX5_addRows_133 rfl ?_
            refine XX.fg [7, 9] [(2, 70), (9, 0), (0, x2), (2, q3), (0, x4), (0, x5), (0, w32 (x6 + 1)), (9, 0), (9, 0), (9, 0)] rfl ?_
            with_reducible exact w
    · have w := w.2 ((lc_eq _ _).mp h)
      refine E_goto 130 dX5_addRows_47 rfl ?_
      refine E_iinc (ls' := [(2, 70), (9, 0), (0, x2), (2, q3), (0, x4), (0, x5), (0, w32 (x6 + 1)), (1, y3), (9, 0), (9, 0)]) 133 dX5_addRows_130 (by decide) rfl rfl rfl ?_
      refine E_goto 19 dX5_addRows_133 rfl ?_
      refine XX.fg [7] [(2, 70), (9, 0), (0, x2), (2, q3), (0, x4), (0, x5), (0, w32 (x6 + 1)), (9, 0), (9, 0), (9, 0)] rfl ?_
      with_reducible exact w
theorem B_X6_readLines_0 {g : PG} {d : Nat} {σ : PS} {Q : Int → PS → Prop} {x1 : Int}  (w : XX g true d P_X6_begin 0 [(2, 6)] [] 136 σ 136 (fun _ σ1 => (x1 = 0 ∨ x1 = 1) ∧ XX g true d P_X4_clear 0 [(2, 7)] [] 136 (su σ1 6 5 x1) 136 (fun _ σ4 => (XX g true (d + 1) P_X6_readLines 18 [(2, 6), (9, 0), (0, 0)] [] 136 σ4 136 Q)))) : XX g true (d + 1) P_X6_readLines 0 [(2, 6), (0, x1), (9, 0)] [] 136 σ 136 Q := by
  refine E_aload_n 1 dX6_readLines_0 rfl (ac_6.bnd) rfl ?_
  refine E_callV (as := []) 4 dX6_readLines_1 cf_X6_begin mw_580 mw_582 mw_0 ac_6 (by decide) cl_X6 rfl rfl (Nat.le_of_ble_eq_true rfl) (Nat.le_of_ble_eq_true rfl) ⟨Nat.le_refl _, Nat.le_refl _⟩ rfl (w.mono (fun r2 σ1 w => ?_))
  show XX g true (d + 1) P_X6_readLines 4 [(2, 6), (0, x1), (9, 0)] [] 136 σ1 136 Q
  refine E_aload_n 5 dX6_readLines_4 rfl (ac_6.bnd) rfl ?_
  refine E_iload_n 6 dX6_readLines_5 rfl rfl ?_
  obtain ⟨c3, w⟩ := w
  refine E_putZ 5 9 dX6_readLines_6 fl_X6_32 ac_6 rfl (by decide) (Or.inl rfl) c3 rfl rfl ?_
  refine E_aload_n 10 dX6_readLines_9 rfl (ac_6.bnd) rfl ?_
  refine E_getL 13 dX6_readLines_10 fl_X6_12 ac_6 rfl (by decide) lay_6_1 rfl ?_
  refine E_callV (as := []) 16 dX6_readLines_13 cf_X4_clear mw_727 mw_728 mw_729 ac_7 (by decide) cl_X4 rfl rfl (Nat.le_of_ble_eq_true rfl) (Nat.le_of_ble_eq_true rfl) ⟨Nat.le_refl _, Nat.le_refl _⟩ rfl (w.mono (fun r5 σ4 w => ?_))
  show XX g true (d + 1) P_X6_readLines 16 [(2, 6), (0, x1), (9, 0)] [] 136 σ4 136 Q
  refine E_iconst 17 dX6_readLines_16 (by decide) rfl ?_
  refine E_istore_n (ls' := [(2, 6), (0, x1), (0, 0)]) 18 dX6_readLines_17 (by decide) rfl rfl ?_
  refine XX.fg [1] [(2, 6), (9, 0), (0, 0)] rfl ?_
  with_reducible exact w
theorem B_X6_readLines_18 {g : PG} {d : Nat} {σ : PS} {Q : Int → PS → Prop} {x2 : Int}  (w : ((16 < x2 → Q x2 σ) ∧ (x2 ≤ 16 → XX g true d P_X8_kind 0 [(2, 1)] [] 136 σ 136 (fun r2 σ1 => ((r2 = 0 → Q x2 σ1) ∧ (r2 ≠ 0 → XX g true d P_X6_readLine 0 [(2, 6), (0, x2)] [] 136 σ1 136 (fun r4 σ3 => ((r4 ≠ 0 → (XX g true (d + 1) P_X6_readLines 18 [(2, 6), (9, 0), (0, w32 (x2 + 1))] [] 136 σ3 136 Q)) ∧ (r4 = 0 → Q (-1) σ3))))))))) : XX g true (d + 1) P_X6_readLines 18 [(2, 6), (9, 0), (0, x2)] [] 136 σ 136 Q := by
  refine E_iload_n 19 dX6_readLines_18 rfl rfl ?_
  refine E_bipush 21 dX6_readLines_19 (by decide) rfl ?_
  refine E_icmp_gt 24 50 dX6_readLines_21 rfl rfl (fun h => ?_) (fun h => ?_)
  · have w := w.1 h
    refine E_iload_n 51 dX6_readLines_50 rfl rfl ?_
    exact E_iret dX6_readLines_51 rfl rfl w
  · have w := w.2 h
    refine E_aload_n 25 dX6_readLines_24 rfl (ac_6.bnd) rfl ?_
    refine E_getL 28 dX6_readLines_25 fl_X6_25 ac_6 rfl (by decide) lay_6_0 rfl ?_
    refine E_callV (as := []) 31 dX6_readLines_28 cf_X8_kind mw_666 mw_667 mw_668 ac_1 (by decide) cl_X8 rfl rfl (Nat.le_of_ble_eq_true rfl) (Nat.le_of_ble_eq_true rfl) ⟨Nat.le_refl _, Nat.le_refl _⟩ rfl (w.mono (fun r2 σ1 w => ?_))
    show XX g true (d + 1) P_X6_readLines 31 [(2, 6), (9, 0), (0, x2)] [(0, r2)] 136 σ1 136 Q
    refine E_if_eq 34 50 dX6_readLines_31 rfl rfl (fun h => ?_) (fun h => ?_)
    · have w := w.1 h
      refine E_iload_n 51 dX6_readLines_50 rfl rfl ?_
      exact E_iret dX6_readLines_51 rfl rfl w
    · have w := w.2 h
      refine E_aload_n 35 dX6_readLines_34 rfl (ac_6.bnd) rfl ?_
      refine E_iload_n 36 dX6_readLines_35 rfl rfl ?_
      refine E_callV (as := [(0, x2)]) 39 dX6_readLines_36 cf_X6_readLine mw_731 mw_733 mw_12 ac_6 (by decide) cl_X6 rfl rfl (Nat.le_of_ble_eq_true rfl) (Nat.le_of_ble_eq_true rfl) ⟨Nat.le_refl _, Nat.le_refl _⟩ rfl (w.mono (fun r4 σ3 w => ?_))
      show XX g true (d + 1) P_X6_readLines 39 [(2, 6), (9, 0), (0, x2)] [(0, r4)] 136 σ3 136 Q
      refine E_if_ne 42 44 dX6_readLines_39 rfl rfl (fun h => ?_) (fun h => ?_)
      · have w := w.1 h
        refine E_iinc (ls' := [(2, 6), (9, 0), (0, w32 (x2 + 1))]) 47 dX6_readLines_44 (by decide) rfl rfl rfl ?_
        refine E_goto 18 dX6_readLines_47 rfl ?_
        with_reducible exact w
      · have w := w.2 h
        refine E_iconst 43 dX6_readLines_42 (by decide) rfl ?_
        exact E_iret dX6_readLines_43 rfl rfl w
theorem B_X6_readBreaks_0 {g : PG} {d : Nat} {σ : PS} {Q : Int → PS → Prop}  (w : XX g true d P_X6_begin 0 [(2, 6)] [] 136 σ 136 (fun _ σ1 => XX g true d P_X1_clear 0 [(2, 11)] [] 136 σ1 136 (fun _ σ3 => (XX g true (d + 1) P_X6_readBreaks 13 [(2, 6), (0, 0)] [] 136 σ3 136 Q)))) : XX g true (d + 1) P_X6_readBreaks 0 [(2, 6), (9, 0)] [] 136 σ 136 Q := by
  refine E_aload_n 1 dX6_readBreaks_0 rfl (ac_6.bnd) rfl ?_
  refine E_callV (as := []) 4 dX6_readBreaks_1 cf_X6_begin mw_580 mw_582 mw_0 ac_6 (by decide) cl_X6 rfl rfl (Nat.le_of_ble_eq_true rfl) (Nat.le_of_ble_eq_true rfl) ⟨Nat.le_refl _, Nat.le_refl _⟩ rfl (w.mono (fun r2 σ1 w => ?_))
  show XX g true (d + 1) P_X6_readBreaks 4 [(2, 6), (9, 0)] [] 136 σ1 136 Q
  refine E_aload_n 5 dX6_readBreaks_4 rfl (ac_6.bnd) rfl ?_
  refine E_getL 8 dX6_readBreaks_5 fl_X6_21 ac_6 rfl (by decide) lay_6_2 rfl ?_
  refine E_callV (as := []) 11 dX6_readBreaks_8 cf_X1_clear mw_665 mw_207 mw_208 ac_11 (by decide) cl_X1 rfl rfl (Nat.le_of_ble_eq_true rfl) (Nat.le_of_ble_eq_true rfl) ⟨Nat.le_refl _, Nat.le_refl _⟩ rfl (w.mono (fun r4 σ3 w => ?_))
  show XX g true (d + 1) P_X6_readBreaks 11 [(2, 6), (9, 0)] [] 136 σ3 136 Q
  refine E_iconst 12 dX6_readBreaks_11 (by decide) rfl ?_
  refine E_istore_n (ls' := [(2, 6), (0, 0)]) 13 dX6_readBreaks_12 (by decide) rfl rfl ?_
  with_reducible exact w
theorem B_X6_readBreaks_13 {g : PG} {d : Nat} {σ : PS} {Q : Int → PS → Prop} {x1 : Int}  (w : ((8 < x1 → Q x1 σ) ∧ (x1 ≤ 8 → XX g true d P_X8_kind 0 [(2, 1)] [] 136 σ 136 (fun r2 σ1 => ((r2 = 0 → Q x1 σ1) ∧ (r2 ≠ 0 → XX g true d P_X6_readBreak 0 [(2, 6), (0, x1), (9, 0)] [] 136 σ1 136 (fun r4 σ3 => ((r4 ≠ 0 → (XX g true (d + 1) P_X6_readBreaks 13 [(2, 6), (0, w32 (x1 + 1))] [] 136 σ3 136 Q)) ∧ (r4 = 0 → Q (-1) σ3))))))))) : XX g true (d + 1) P_X6_readBreaks 13 [(2, 6), (0, x1)] [] 136 σ 136 Q := by
  refine E_iload_n 14 dX6_readBreaks_13 rfl rfl ?_
  refine E_bipush 16 dX6_readBreaks_14 (by decide) rfl ?_
  refine E_icmp_gt 19 45 dX6_readBreaks_16 rfl rfl (fun h => ?_) (fun h => ?_)
  · have w := w.1 h
    refine E_iload_n 46 dX6_readBreaks_45 rfl rfl ?_
    exact E_iret dX6_readBreaks_46 rfl rfl w
  · have w := w.2 h
    refine E_aload_n 20 dX6_readBreaks_19 rfl (ac_6.bnd) rfl ?_
    refine E_getL 23 dX6_readBreaks_20 fl_X6_25 ac_6 rfl (by decide) lay_6_0 rfl ?_
    refine E_callV (as := []) 26 dX6_readBreaks_23 cf_X8_kind mw_666 mw_667 mw_668 ac_1 (by decide) cl_X8 rfl rfl (Nat.le_of_ble_eq_true rfl) (Nat.le_of_ble_eq_true rfl) ⟨Nat.le_refl _, Nat.le_refl _⟩ rfl (w.mono (fun r2 σ1 w => ?_))
    show XX g true (d + 1) P_X6_readBreaks 26 [(2, 6), (0, x1)] [(0, r2)] 136 σ1 136 Q
    refine E_if_eq 29 45 dX6_readBreaks_26 rfl rfl (fun h => ?_) (fun h => ?_)
    · have w := w.1 h
      refine E_iload_n 46 dX6_readBreaks_45 rfl rfl ?_
      exact E_iret dX6_readBreaks_46 rfl rfl w
    · have w := w.2 h
      refine E_aload_n 30 dX6_readBreaks_29 rfl (ac_6.bnd) rfl ?_
      refine E_iload_n 31 dX6_readBreaks_30 rfl rfl ?_
      refine E_callV (as := [(0, x1)]) 34 dX6_readBreaks_31 cf_X6_readBreak mw_670 mw_672 mw_5 ac_6 (by decide) cl_X6 rfl rfl (Nat.le_of_ble_eq_true rfl) (Nat.le_of_ble_eq_true rfl) ⟨Nat.le_refl _, Nat.le_refl _⟩ rfl (w.mono (fun r4 σ3 w => ?_))
      show XX g true (d + 1) P_X6_readBreaks 34 [(2, 6), (0, x1)] [(0, r4)] 136 σ3 136 Q
      refine E_if_ne 37 39 dX6_readBreaks_34 rfl rfl (fun h => ?_) (fun h => ?_)
      · have w := w.1 h
        refine E_iinc (ls' := [(2, 6), (0, w32 (x1 + 1))]) 42 dX6_readBreaks_39 (by decide) rfl rfl rfl ?_
        refine E_goto 13 dX6_readBreaks_42 rfl ?_
        with_reducible exact w
      · have w := w.2 h
        refine E_iconst 38 dX6_readBreaks_37 (by decide) rfl ?_
        exact E_iret dX6_readBreaks_38 rfl rfl w
theorem B_X6_begin_0 {g : PG} {d : Nat} {σ : PS} {Q : Int → PS → Prop}  (w : XX g true d P_X8_cutTokens 0 [(2, 1), (9, 0), (9, 0), (9, 0)] [] 136 σ 136 (fun _ σ1 => Q 0 (su (su σ1 6 3 0) 6 4 (-1)))) : XX g true (d + 1) P_X6_begin 0 [(2, 6)] [] 136 σ 136 Q := by
  refine E_aload_n 1 dX6_begin_0 rfl (ac_6.bnd) rfl ?_
  refine E_getL 4 dX6_begin_1 fl_X6_25 ac_6 rfl (by decide) lay_6_0 rfl ?_
  refine E_callV (as := []) 7 dX6_begin_4 cf_X8_cutTokens mw_584 mw_585 mw_586 ac_1 (by decide) cl_X8 rfl rfl (Nat.le_of_ble_eq_true rfl) (Nat.le_of_ble_eq_true rfl) ⟨Nat.le_refl _, Nat.le_refl _⟩ rfl (w.mono (fun r2 σ1 w => ?_))
  show XX g true (d + 1) P_X6_begin 7 [(2, 6)] [] 136 σ1 136 Q
  refine E_aload_n 8 dX6_begin_7 rfl (ac_6.bnd) rfl ?_
  refine E_iconst 9 dX6_begin_8 (by decide) rfl ?_
  refine E_putI 3 12 dX6_begin_9 fl_X6_56 ac_6 rfl (by decide) (Or.inl rfl) rfl rfl ?_
  refine E_aload_n 13 dX6_begin_12 rfl (ac_6.bnd) rfl ?_
  refine E_iconst 14 dX6_begin_13 (by decide) rfl ?_
  refine E_putI 4 17 dX6_begin_14 fl_X6_60 ac_6 rfl (by decide) (Or.inl rfl) rfl rfl ?_
  exact E_vret dX6_begin_17 rfl rfl w
theorem B_X6_stop_0 {g : PG} {d : Nat} {σ : PS} {Q : Int → PS → Prop} {x1 : Int}  (w : (0 ≤ σ 1 5 ∧ σ 1 5 < 501) ∧ Q 0 (su (su σ 6 3 x1) 6 4 (σ 4 (σ 1 5)))) : XX g true d P_X6_stop 0 [(2, 6), (0, x1)] [] 136 σ 136 Q := by
  refine E_aload_n 1 dX6_stop_0 rfl (ac_6.bnd) rfl ?_
  refine E_iload_n 2 dX6_stop_1 rfl rfl ?_
  refine E_putI 3 5 dX6_stop_2 fl_X6_56 ac_6 rfl (by decide) (Or.inl rfl) rfl rfl ?_
  refine E_aload_n 6 dX6_stop_5 rfl (ac_6.bnd) rfl ?_
  refine E_aload_n 7 dX6_stop_6 rfl (ac_6.bnd) rfl ?_
  refine E_getL 10 dX6_stop_7 fl_X6_25 ac_6 rfl (by decide) lay_6_0 rfl ?_
  refine E_getL 13 dX6_stop_10 fl_X6_63 ac_1 rfl (by decide) lay_1_2 rfl ?_
  refine E_aload_n 14 dX6_stop_13 rfl (ac_6.bnd) rfl ?_
  refine E_getL 17 dX6_stop_14 fl_X6_25 ac_6 rfl (by decide) lay_6_0 rfl ?_
  refine E_get 5 20 dX6_stop_17 fl_X6_67 ac_1 rfl (by decide) rfl rfl ?_
  refine E_conv (su_ne (Or.inl (by decide))) ?_
  obtain ⟨c1, w⟩ := w
  refine E_iald 21 dX6_stop_20 ac_4 c1 rfl ?_
  refine E_conv (su_ne (Or.inl (by decide))) ?_
  refine E_putI 4 24 dX6_stop_21 fl_X6_60 ac_6 rfl (by decide) (Or.inl rfl) rfl rfl ?_
  refine E_iconst 25 dX6_stop_24 (by decide) rfl ?_
  exact E_zret dX6_stop_25 rfl rfl (Or.inl rfl) w
theorem B_X6_pass_0 {g : PG} {d : Nat} {σ : PS} {Q : Int → PS → Prop} {x1 : Int}  (w : XX g true d P_X8_kind 0 [(2, 1)] [] 136 σ 136 (fun r2 σ1 => ((r2 = x1 → XX g true d P_X8_next 0 [(2, 1)] [] 136 σ1 136 (fun _ σ3 => Q 1 σ3)) ∧ (r2 ≠ x1 → XX g true d P_X6_stop 0 [(2, 6), (0, 1)] [] 136 σ1 136 (fun r6 σ5 => (r6 = 0 ∨ r6 = 1) ∧ Q r6 σ5))))) : XX g true (d + 1) P_X6_pass 0 [(2, 6), (0, x1)] [] 136 σ 136 Q := by
  refine E_aload_n 1 dX6_pass_0 rfl (ac_6.bnd) rfl ?_
  refine E_getL 4 dX6_pass_1 fl_X6_25 ac_6 rfl (by decide) lay_6_0 rfl ?_
  refine E_callV (as := []) 7 dX6_pass_4 cf_X8_kind mw_666 mw_667 mw_668 ac_1 (by decide) cl_X8 rfl rfl (Nat.le_of_ble_eq_true rfl) (Nat.le_of_ble_eq_true rfl) ⟨Nat.le_refl _, Nat.le_refl _⟩ rfl (w.mono (fun r2 σ1 w => ?_))
  show XX g true (d + 1) P_X6_pass 7 [(2, 6), (0, x1)] [(0, r2)] 136 σ1 136 Q
  refine E_iload_n 8 dX6_pass_7 rfl rfl ?_
  refine E_icmp_eq 11 17 dX6_pass_8 rfl rfl (fun h => ?_) (fun h => ?_)
  · have w := w.1 h
    refine E_aload_n 18 dX6_pass_17 rfl (ac_6.bnd) rfl ?_
    refine E_getL 21 dX6_pass_18 fl_X6_25 ac_6 rfl (by decide) lay_6_0 rfl ?_
    refine E_callV (as := []) 24 dX6_pass_21 cf_X8_next mw_678 mw_679 mw_680 ac_1 (by decide) cl_X8 rfl rfl (Nat.le_of_ble_eq_true rfl) (Nat.le_of_ble_eq_true rfl) ⟨Nat.le_refl _, Nat.le_refl _⟩ rfl (w.mono (fun r4 σ3 w => ?_))
    show XX g true (d + 1) P_X6_pass 24 [(2, 6), (0, x1)] [] 136 σ3 136 Q
    refine E_iconst 25 dX6_pass_24 (by decide) rfl ?_
    exact E_zret dX6_pass_25 rfl rfl (Or.inr rfl) w
  · have w := w.2 h
    refine E_aload_n 12 dX6_pass_11 rfl (ac_6.bnd) rfl ?_
    refine E_iconst 13 dX6_pass_12 (by decide) rfl ?_
    refine E_callV (as := [(0, 1)]) 16 dX6_pass_13 cf_X6_stop mw_674 mw_676 mw_6 ac_6 (by decide) cl_X6 rfl rfl (Nat.le_of_ble_eq_true rfl) (Nat.le_of_ble_eq_true rfl) ⟨Nat.le_refl _, Nat.le_refl _⟩ rfl (w.mono (fun r6 σ5 w => ?_))
    show XX g true (d + 1) P_X6_pass 16 [(2, 6), (0, x1)] [(0, r6)] 136 σ5 136 Q
    obtain ⟨c7, w⟩ := w
    exact E_zret dX6_pass_16 rfl rfl c7 w
theorem B_X6_readLine_0 {g : PG} {d : Nat} {σ : PS} {Q : Int → PS → Prop} {x1 : Int}  (w : XX g true d P_X8_kind 0 [(2, 1)] [] 136 σ 136 (fun r2 σ1 => ((σ1 6 5 = 0 → ((r2 = 257 → ((x1 < 16 → XX g true d P_X8_next 0 [(2, 1)] [] 136 σ1 136 (fun _ σ3 => XX g true d P_X6_readSum 0 [(2, 6), (9, 0), (9, 0), (9, 0)] [] 136 σ3 136 (fun r6 σ5 => ((r6 ≠ 0 → XX g true d P_X4_beginWhen 0 [(2, 7), (0, x1)] [] 136 σ5 136 (fun _ σ7 => XX g true d P_X8_kind 0 [(2, 1)] [] 136 σ7 136 (fun r10 σ9 => ((r10 ≠ 258 → XX g true d P_X4_endLine 0 [(2, 7), (0, x1)] [] 136 σ9 136 (fun _ σ11 => XX g true d P_X6_pass 0 [(2, 6), (0, 59)] [] 136 σ11 136 (fun r14 σ13 => (r14 = 0 ∨ r14 = 1) ∧ Q r14 σ13))) ∧ (r10 = 258 → XX g true d P_X8_next 0 [(2, 1)] [] 136 σ9 136 (fun _ σ16 => XX g true d P_X6_readOr 0 [(2, 6), (0, 0), (9, 0), (9, 0)] [] 136 σ16 136 (fun r19 σ18 => ((r19 ≠ 0 → XX g true d P_X4_endLine 0 [(2, 7), (0, x1)] [] 136 σ18 136 (fun _ σ20 => XX g true d P_X6_pass 0 [(2, 6), (0, 59)] [] 136 σ20 136 (fun r23 σ22 => (r23 = 0 ∨ r23 = 1) ∧ Q r23 σ22))) ∧ (r19 = 0 → Q 0 σ18))))))))) ∧ (r6 = 0 → Q 0 σ5))))) ∧ (16 ≤ x1 → XX g true d P_X6_stop 0 [(2, 6), (0, 3)] [] 136 σ1 136 (fun r26 σ25 => (r26 = 0 ∨ r26 = 1) ∧ Q r26 σ25)))) ∧ (r2 ≠ 257 → XX g true d P_X6_stop 0 [(2, 6), (0, 1)] [] 136 σ1 136 (fun r29 σ28 => (r29 = 0 ∨ r29 = 1) ∧ Q r29 σ28)))) ∧ (σ1 6 5 ≠ 0 → ((r2 = 256 → ((x1 < 16 → XX g true d P_X8_next 0 [(2, 1)] [] 136 σ1 136 (fun _ σ31 => XX g true d P_X6_readSum 0 [(2, 6), (9, 0), (9, 0), (9, 0)] [] 136 σ31 136 (fun r34 σ33 => ((r34 ≠ 0 → XX g true d P_X4_beginWhen 0 [(2, 7), (0, x1)] [] 136 σ33 136 (fun _ σ35 => XX g true d P_X8_kind 0 [(2, 1)] [] 136 σ35 136 (fun r38 σ37 => ((r38 ≠ 258 → XX g true d P_X4_endLine 0 [(2, 7), (0, x1)] [] 136 σ37 136 (fun _ σ39 => XX g true d P_X6_pass 0 [(2, 6), (0, 59)] [] 136 σ39 136 (fun r42 σ41 => (r42 = 0 ∨ r42 = 1) ∧ Q r42 σ41))) ∧ (r38 = 258 → XX g true d P_X8_next 0 [(2, 1)] [] 136 σ37 136 (fun _ σ44 => XX g true d P_X6_readOr 0 [(2, 6), (0, 0), (9, 0), (9, 0)] [] 136 σ44 136 (fun r47 σ46 => ((r47 ≠ 0 → XX g true d P_X4_endLine 0 [(2, 7), (0, x1)] [] 136 σ46 136 (fun _ σ48 => XX g true d P_X6_pass 0 [(2, 6), (0, 59)] [] 136 σ48 136 (fun r51 σ50 => (r51 = 0 ∨ r51 = 1) ∧ Q r51 σ50))) ∧ (r47 = 0 → Q 0 σ46))))))))) ∧ (r34 = 0 → Q 0 σ33))))) ∧ (16 ≤ x1 → XX g true d P_X6_stop 0 [(2, 6), (0, 3)] [] 136 σ1 136 (fun r54 σ53 => (r54 = 0 ∨ r54 = 1) ∧ Q r54 σ53)))) ∧ (r2 ≠ 256 → XX g true d P_X6_stop 0 [(2, 6), (0, 1)] [] 136 σ1 136 (fun r57 σ56 => (r57 = 0 ∨ r57 = 1) ∧ Q r57 σ56))))))) : XX g true (d + 1) P_X6_readLine 0 [(2, 6), (0, x1)] [] 136 σ 136 Q := by
  refine E_aload_n 1 dX6_readLine_0 rfl (ac_6.bnd) rfl ?_
  refine E_getL 4 dX6_readLine_1 fl_X6_25 ac_6 rfl (by decide) lay_6_0 rfl ?_
  refine E_callV (as := []) 7 dX6_readLine_4 cf_X8_kind mw_666 mw_667 mw_668 ac_1 (by decide) cl_X8 rfl rfl (Nat.le_of_ble_eq_true rfl) (Nat.le_of_ble_eq_true rfl) ⟨Nat.le_refl _, Nat.le_refl _⟩ rfl (w.mono (fun r2 σ1 w => ?_))
  show XX g true (d + 1) P_X6_readLine 7 [(2, 6), (0, x1)] [(0, r2)] 136 σ1 136 Q
  refine E_aload_n 8 dX6_readLine_7 rfl (ac_6.bnd) rfl ?_
  refine E_get 5 11 dX6_readLine_8 fl_X6_32 ac_6 rfl (by decide) rfl rfl ?_
  refine E_if_eq 14 20 dX6_readLine_11 rfl rfl (fun h => ?_) (fun h => ?_)
  · have w := w.1 h
    refine E_sipush 23 dX6_readLine_20 (by decide) rfl ?_
    refine E_icmp_eq 26 32 dX6_readLine_23 rfl rfl (fun h => ?_) (fun h => ?_)
    · have w := w.1 h
      refine E_iload_n 33 dX6_readLine_32 rfl rfl ?_
      refine E_bipush 35 dX6_readLine_33 (by decide) rfl ?_
      refine E_icmp_lt 38 44 dX6_readLine_35 rfl rfl (fun h => ?_) (fun h => ?_)
      · have w := w.1 h
        refine E_aload_n 45 dX6_readLine_44 rfl (ac_6.bnd) rfl ?_
        refine E_getL 48 dX6_readLine_45 fl_X6_25 ac_6 rfl (by decide) lay_6_0 rfl ?_
        refine E_callV (as := []) 51 dX6_readLine_48 cf_X8_next mw_678 mw_679 mw_680 ac_1 (by decide) cl_X8 rfl rfl (Nat.le_of_ble_eq_true rfl) (Nat.le_of_ble_eq_true rfl) ⟨Nat.le_refl _, Nat.le_refl _⟩ rfl (w.mono (fun r4 σ3 w => ?_))
        show XX g true (d + 1) P_X6_readLine 51 [(2, 6), (0, x1)] [] 136 σ3 136 Q
        refine E_aload_n 52 dX6_readLine_51 rfl (ac_6.bnd) rfl ?_
        refine E_callV (as := []) 55 dX6_readLine_52 cf_X6_readSum mw_735 mw_737 mw_13 ac_6 (by decide) cl_X6 rfl rfl (Nat.le_of_ble_eq_true rfl) (Nat.le_of_ble_eq_true rfl) ⟨Nat.le_refl _, Nat.le_refl _⟩ rfl (w.mono (fun r6 σ5 w => ?_))
        show XX g true (d + 1) P_X6_readLine 55 [(2, 6), (0, x1)] [(0, r6)] 136 σ5 136 Q
        refine E_if_ne 58 60 dX6_readLine_55 rfl rfl (fun h => ?_) (fun h => ?_)
        · have w := w.1 h
          refine E_aload_n 61 dX6_readLine_60 rfl (ac_6.bnd) rfl ?_
          refine E_getL 64 dX6_readLine_61 fl_X6_12 ac_6 rfl (by decide) lay_6_1 rfl ?_
          refine E_iload_n 65 dX6_readLine_64 rfl rfl ?_
          refine E_callV (as := [(0, x1)]) 68 dX6_readLine_65 cf_X4_beginWhen mw_759 mw_760 mw_761 ac_7 (by decide) cl_X4 rfl rfl (Nat.le_of_ble_eq_true rfl) (Nat.le_of_ble_eq_true rfl) ⟨Nat.le_refl _, Nat.le_refl _⟩ rfl (w.mono (fun r8 σ7 w => ?_))
          show XX g true (d + 1) P_X6_readLine 68 [(2, 6), (0, x1)] [] 136 σ7 136 Q
          refine E_aload_n 69 dX6_readLine_68 rfl (ac_6.bnd) rfl ?_
          refine E_getL 72 dX6_readLine_69 fl_X6_25 ac_6 rfl (by decide) lay_6_0 rfl ?_
          refine E_callV (as := []) 75 dX6_readLine_72 cf_X8_kind mw_666 mw_667 mw_668 ac_1 (by decide) cl_X8 rfl rfl (Nat.le_of_ble_eq_true rfl) (Nat.le_of_ble_eq_true rfl) ⟨Nat.le_refl _, Nat.le_refl _⟩ rfl (w.mono (fun r10 σ9 w => ?_))
          show XX g true (d + 1) P_X6_readLine 75 [(2, 6), (0, x1)] [(0, r10)] 136 σ9 136 Q
          refine E_sipush 78 dX6_readLine_75 (by decide) rfl ?_
          refine E_icmp_ne 81 98 dX6_readLine_78 rfl rfl (fun h => ?_) (fun h => ?_)
          · have w := w.1 h
            refine E_aload_n 99 dX6_readLine_98 rfl (ac_6.bnd) rfl ?_
            refine E_getL 102 dX6_readLine_99 fl_X6_12 ac_6 rfl (by decide) lay_6_1 rfl ?_
            refine E_iload_n 103 dX6_readLine_102 rfl rfl ?_
            refine E_callV (as := [(0, x1)]) 106 dX6_readLine_103 cf_X4_endLine mw_775 mw_776 mw_777 ac_7 (by decide) cl_X4 rfl rfl (Nat.le_of_ble_eq_true rfl) (Nat.le_of_ble_eq_true rfl) ⟨Nat.le_refl _, Nat.le_refl _⟩ rfl (w.mono (fun r12 σ11 w => ?_))
            show XX g true (d + 1) P_X6_readLine 106 [(2, 6), (0, x1)] [] 136 σ11 136 Q
            refine E_aload_n 107 dX6_readLine_106 rfl (ac_6.bnd) rfl ?_
            refine E_bipush 109 dX6_readLine_107 (by decide) rfl ?_
            refine E_callV (as := [(0, 59)]) 112 dX6_readLine_109 cf_X6_pass mw_693 mw_695 mw_8 ac_6 (by decide) cl_X6 rfl rfl (Nat.le_of_ble_eq_true rfl) (Nat.le_of_ble_eq_true rfl) ⟨Nat.le_refl _, Nat.le_refl _⟩ rfl (w.mono (fun r14 σ13 w => ?_))
            show XX g true (d + 1) P_X6_readLine 112 [(2, 6), (0, x1)] [(0, r14)] 136 σ13 136 Q
            obtain ⟨c15, w⟩ := w
            exact E_zret dX6_readLine_112 rfl rfl c15 w
          · have w := w.2 h
            refine E_aload_n 82 dX6_readLine_81 rfl (ac_6.bnd) rfl ?_
            refine E_getL 85 dX6_readLine_82 fl_X6_25 ac_6 rfl (by decide) lay_6_0 rfl ?_
            refine E_callV (as := []) 88 dX6_readLine_85 cf_X8_next mw_678 mw_679 mw_680 ac_1 (by decide) cl_X8 rfl rfl (Nat.le_of_ble_eq_true rfl) (Nat.le_of_ble_eq_true rfl) ⟨Nat.le_refl _, Nat.le_refl _⟩ rfl (w.mono (fun r17 σ16 w => ?_))
            show XX g true (d + 1) P_X6_readLine 88 [(2, 6), (0, x1)] [] 136 σ16 136 Q
            refine E_aload_n 89 dX6_readLine_88 rfl (ac_6.bnd) rfl ?_
            refine E_iconst 90 dX6_readLine_89 (by decide) rfl ?_
            refine E_callV (as := [(0, 0)]) 93 dX6_readLine_90 cf_X6_readOr mw_763 mw_765 mw_18 ac_6 (by decide) cl_X6 rfl rfl (Nat.le_of_ble_eq_true rfl) (Nat.le_of_ble_eq_true rfl) ⟨Nat.le_refl _, Nat.le_refl _⟩ rfl (w.mono (fun r19 σ18 w => ?_))
            show XX g true (d + 1) P_X6_readLine 93 [(2, 6), (0, x1)] [(0, r19)] 136 σ18 136 Q
            refine E_if_ne 96 98 dX6_readLine_93 rfl rfl (fun h => ?_) (fun h => ?_)
            · have w := w.1 h
              refine E_aload_n 99 dX6_readLine_98 rfl (ac_6.bnd) rfl ?_
              refine E_getL 102 dX6_readLine_99 fl_X6_12 ac_6 rfl (by decide) lay_6_1 rfl ?_
              refine E_iload_n 103 dX6_readLine_102 rfl rfl ?_
              refine E_callV (as := [(0, x1)]) 106 dX6_readLine_103 cf_X4_endLine mw_775 mw_776 mw_777 ac_7 (by decide) cl_X4 rfl rfl (Nat.le_of_ble_eq_true rfl) (Nat.le_of_ble_eq_true rfl) ⟨Nat.le_refl _, Nat.le_refl _⟩ rfl (w.mono (fun r21 σ20 w => ?_))
              show XX g true (d + 1) P_X6_readLine 106 [(2, 6), (0, x1)] [] 136 σ20 136 Q
              refine E_aload_n 107 dX6_readLine_106 rfl (ac_6.bnd) rfl ?_
              refine E_bipush 109 dX6_readLine_107 (by decide) rfl ?_
              refine E_callV (as := [(0, 59)]) 112 dX6_readLine_109 cf_X6_pass mw_693 mw_695 mw_8 ac_6 (by decide) cl_X6 rfl rfl (Nat.le_of_ble_eq_true rfl) (Nat.le_of_ble_eq_true rfl) ⟨Nat.le_refl _, Nat.le_refl _⟩ rfl (w.mono (fun r23 σ22 w => ?_))
              show XX g true (d + 1) P_X6_readLine 112 [(2, 6), (0, x1)] [(0, r23)] 136 σ22 136 Q
              obtain ⟨c24, w⟩ := w
              exact E_zret dX6_readLine_112 rfl rfl c24 w
            · have w := w.2 h
              refine E_iconst 97 dX6_readLine_96 (by decide) rfl ?_
              exact E_zret dX6_readLine_97 rfl rfl (Or.inl rfl) w
        · have w := w.2 h
          refine E_iconst 59 dX6_readLine_58 (by decide) rfl ?_
          exact E_zret dX6_readLine_59 rfl rfl (Or.inl rfl) w
      · have w := w.2 h
        refine E_aload_n 39 dX6_readLine_38 rfl (ac_6.bnd) rfl ?_
        refine E_iconst 40 dX6_readLine_39 (by decide) rfl ?_
        refine E_callV (as := [(0, 3)]) 43 dX6_readLine_40 cf_X6_stop mw_674 mw_676 mw_6 ac_6 (by decide) cl_X6 rfl rfl (Nat.le_of_ble_eq_true rfl) (Nat.le_of_ble_eq_true rfl) ⟨Nat.le_refl _, Nat.le_refl _⟩ rfl (w.mono (fun r26 σ25 w => ?_))
        show XX g true (d + 1) P_X6_readLine 43 [(2, 6), (0, x1)] [(0, r26)] 136 σ25 136 Q
        obtain ⟨c27, w⟩ := w
        exact E_zret dX6_readLine_43 rfl rfl c27 w
    · have w := w.2 h
      refine E_aload_n 27 dX6_readLine_26 rfl (ac_6.bnd) rfl ?_
      refine E_iconst 28 dX6_readLine_27 (by decide) rfl ?_
      refine E_callV (as := [(0, 1)]) 31 dX6_readLine_28 cf_X6_stop mw_674 mw_676 mw_6 ac_6 (by decide) cl_X6 rfl rfl (Nat.le_of_ble_eq_true rfl) (Nat.le_of_ble_eq_true rfl) ⟨Nat.le_refl _, Nat.le_refl _⟩ rfl (w.mono (fun r29 σ28 w => ?_))
      show XX g true (d + 1) P_X6_readLine 31 [(2, 6), (0, x1)] [(0, r29)] 136 σ28 136 Q
      obtain ⟨c30, w⟩ := w
      exact E_zret dX6_readLine_31 rfl rfl c30 w
  · have w := w.2 h
    refine E_sipush 17 dX6_readLine_14 (by decide) rfl ?_
    refine E_goto 23 dX6_readLine_17 rfl ?_
    refine E_icmp_eq 26 32 dX6_readLine_23 rfl rfl (fun h => ?_) (fun h => ?_)
    · have w := w.1 h
      refine E_iload_n 33 dX6_readLine_32 rfl rfl ?_
      refine E_bipush 35 dX6_readLine_33 (by decide) rfl ?_
      refine E_icmp_lt 38 44 dX6_readLine_35 rfl rfl (fun h => ?_) (fun h => ?_)
      · have w := w.1 h
        refine E_aload_n 45 dX6_readLine_44 rfl (ac_6.bnd) rfl ?_
        refine E_getL 48 dX6_readLine_45 fl_X6_25 ac_6 rfl (by decide) lay_6_0 rfl ?_
        refine E_callV (as := []) 51 dX6_readLine_48 cf_X8_next mw_678 mw_679 mw_680 ac_1 (by decide) cl_X8 rfl rfl (Nat.le_of_ble_eq_true rfl) (Nat.le_of_ble_eq_true rfl) ⟨Nat.le_refl _, Nat.le_refl _⟩ rfl (w.mono (fun r32 σ31 w => ?_))
        show XX g true (d + 1) P_X6_readLine 51 [(2, 6), (0, x1)] [] 136 σ31 136 Q
        refine E_aload_n 52 dX6_readLine_51 rfl (ac_6.bnd) rfl ?_
        refine E_callV (as := []) 55 dX6_readLine_52 cf_X6_readSum mw_735 mw_737 mw_13 ac_6 (by decide) cl_X6 rfl rfl (Nat.le_of_ble_eq_true rfl) (Nat.le_of_ble_eq_true rfl) ⟨Nat.le_refl _, Nat.le_refl _⟩ rfl (w.mono (fun r34 σ33 w => ?_))
        show XX g true (d + 1) P_X6_readLine 55 [(2, 6), (0, x1)] [(0, r34)] 136 σ33 136 Q
        refine E_if_ne 58 60 dX6_readLine_55 rfl rfl (fun h => ?_) (fun h => ?_)
        · have w := w.1 h
          refine E_aload_n 61 dX6_readLine_60 rfl (ac_6.bnd) rfl ?_
          refine E_getL 64 dX6_readLine_61 fl_X6_12 ac_6 rfl (by decide) lay_6_1 rfl ?_
          refine E_iload_n 65 dX6_readLine_64 rfl rfl ?_
          refine E_callV (as := [(0, x1)]) 68 dX6_readLine_65 cf_X4_beginWhen mw_759 mw_760 mw_761 ac_7 (by decide) cl_X4 rfl rfl (Nat.le_of_ble_eq_true rfl) (Nat.le_of_ble_eq_true rfl) ⟨Nat.le_refl _, Nat.le_refl _⟩ rfl (w.mono (fun r36 σ35 w => ?_))
          show XX g true (d + 1) P_X6_readLine 68 [(2, 6), (0, x1)] [] 136 σ35 136 Q
          refine E_aload_n 69 dX6_readLine_68 rfl (ac_6.bnd) rfl ?_
          refine E_getL 72 dX6_readLine_69 fl_X6_25 ac_6 rfl (by decide) lay_6_0 rfl ?_
          refine E_callV (as := []) 75 dX6_readLine_72 cf_X8_kind mw_666 mw_667 mw_668 ac_1 (by decide) cl_X8 rfl rfl (Nat.le_of_ble_eq_true rfl) (Nat.le_of_ble_eq_true rfl) ⟨Nat.le_refl _, Nat.le_refl _⟩ rfl (w.mono (fun r38 σ37 w => ?_))
          show XX g true (d + 1) P_X6_readLine 75 [(2, 6), (0, x1)] [(0, r38)] 136 σ37 136 Q
          refine E_sipush 78 dX6_readLine_75 (by decide) rfl ?_
          refine E_icmp_ne 81 98 dX6_readLine_78 rfl rfl (fun h => ?_) (fun h => ?_)
          · have w := w.1 h
            refine E_aload_n 99 dX6_readLine_98 rfl (ac_6.bnd) rfl ?_
            refine E_getL 102 dX6_readLine_99 fl_X6_12 ac_6 rfl (by decide) lay_6_1 rfl ?_
            refine E_iload_n 103 dX6_readLine_102 rfl rfl ?_
            refine E_callV (as := [(0, x1)]) 106 dX6_readLine_103 cf_X4_endLine mw_775 mw_776 mw_777 ac_7 (by decide) cl_X4 rfl rfl (Nat.le_of_ble_eq_true rfl) (Nat.le_of_ble_eq_true rfl) ⟨Nat.le_refl _, Nat.le_refl _⟩ rfl (w.mono (fun r40 σ39 w => ?_))
            show XX g true (d + 1) P_X6_readLine 106 [(2, 6), (0, x1)] [] 136 σ39 136 Q
            refine E_aload_n 107 dX6_readLine_106 rfl (ac_6.bnd) rfl ?_
            refine E_bipush 109 dX6_readLine_107 (by decide) rfl ?_
            refine E_callV (as := [(0, 59)]) 112 dX6_readLine_109 cf_X6_pass mw_693 mw_695 mw_8 ac_6 (by decide) cl_X6 rfl rfl (Nat.le_of_ble_eq_true rfl) (Nat.le_of_ble_eq_true rfl) ⟨Nat.le_refl _, Nat.le_refl _⟩ rfl (w.mono (fun r42 σ41 w => ?_))
            show XX g true (d + 1) P_X6_readLine 112 [(2, 6), (0, x1)] [(0, r42)] 136 σ41 136 Q
            obtain ⟨c43, w⟩ := w
            exact E_zret dX6_readLine_112 rfl rfl c43 w
          · have w := w.2 h
            refine E_aload_n 82 dX6_readLine_81 rfl (ac_6.bnd) rfl ?_
            refine E_getL 85 dX6_readLine_82 fl_X6_25 ac_6 rfl (by decide) lay_6_0 rfl ?_
            refine E_callV (as := []) 88 dX6_readLine_85 cf_X8_next mw_678 mw_679 mw_680 ac_1 (by decide) cl_X8 rfl rfl (Nat.le_of_ble_eq_true rfl) (Nat.le_of_ble_eq_true rfl) ⟨Nat.le_refl _, Nat.le_refl _⟩ rfl (w.mono (fun r45 σ44 w => ?_))
            show XX g true (d + 1) P_X6_readLine 88 [(2, 6), (0, x1)] [] 136 σ44 136 Q
            refine E_aload_n 89 dX6_readLine_88 rfl (ac_6.bnd) rfl ?_
            refine E_iconst 90 dX6_readLine_89 (by decide) rfl ?_
            refine E_callV (as := [(0, 0)]) 93 dX6_readLine_90 cf_X6_readOr mw_763 mw_765 mw_18 ac_6 (by decide) cl_X6 rfl rfl (Nat.le_of_ble_eq_true rfl) (Nat.le_of_ble_eq_true rfl) ⟨Nat.le_refl _, Nat.le_refl _⟩ rfl (w.mono (fun r47 σ46 w => ?_))
            show XX g true (d + 1) P_X6_readLine 93 [(2, 6), (0, x1)] [(0, r47)] 136 σ46 136 Q
            refine E_if_ne 96 98 dX6_readLine_93 rfl rfl (fun h => ?_) (fun h => ?_)
            · have w := w.1 h
              refine E_aload_n 99 dX6_readLine_98 rfl (ac_6.bnd) rfl ?_
              refine E_getL 102 dX6_readLine_99 fl_X6_12 ac_6 rfl (by decide) lay_6_1 rfl ?_
              refine E_iload_n 103 dX6_readLine_102 rfl rfl ?_
              refine E_callV (as := [(0, x1)]) 106 dX6_readLine_103 cf_X4_endLine mw_775 mw_776 mw_777 ac_7 (by decide) cl_X4 rfl rfl (Nat.le_of_ble_eq_true rfl) (Nat.le_of_ble_eq_true rfl) ⟨Nat.le_refl _, Nat.le_refl _⟩ rfl (w.mono (fun r49 σ48 w => ?_))
              show XX g true (d + 1) P_X6_readLine 106 [(2, 6), (0, x1)] [] 136 σ48 136 Q
              refine E_aload_n 107 dX6_readLine_106 rfl (ac_6.bnd) rfl ?_
              refine E_bipush 109 dX6_readLine_107 (by decide) rfl ?_
              refine E_callV (as := [(0, 59)]) 112 dX6_readLine_109 cf_X6_pass mw_693 mw_695 mw_8 ac_6 (by decide) cl_X6 rfl rfl (Nat.le_of_ble_eq_true rfl) (Nat.le_of_ble_eq_true rfl) ⟨Nat.le_refl _, Nat.le_refl _⟩ rfl (w.mono (fun r51 σ50 w => ?_))
              show XX g true (d + 1) P_X6_readLine 112 [(2, 6), (0, x1)] [(0, r51)] 136 σ50 136 Q
              obtain ⟨c52, w⟩ := w
              exact E_zret dX6_readLine_112 rfl rfl c52 w
            · have w := w.2 h
              refine E_iconst 97 dX6_readLine_96 (by decide) rfl ?_
              exact E_zret dX6_readLine_97 rfl rfl (Or.inl rfl) w
        · have w := w.2 h
          refine E_iconst 59 dX6_readLine_58 (by decide) rfl ?_
          exact E_zret dX6_readLine_59 rfl rfl (Or.inl rfl) w
      · have w := w.2 h
        refine E_aload_n 39 dX6_readLine_38 rfl (ac_6.bnd) rfl ?_
        refine E_iconst 40 dX6_readLine_39 (by decide) rfl ?_
        refine E_callV (as := [(0, 3)]) 43 dX6_readLine_40 cf_X6_stop mw_674 mw_676 mw_6 ac_6 (by decide) cl_X6 rfl rfl (Nat.le_of_ble_eq_true rfl) (Nat.le_of_ble_eq_true rfl) ⟨Nat.le_refl _, Nat.le_refl _⟩ rfl (w.mono (fun r54 σ53 w => ?_))
        show XX g true (d + 1) P_X6_readLine 43 [(2, 6), (0, x1)] [(0, r54)] 136 σ53 136 Q
        obtain ⟨c55, w⟩ := w
        exact E_zret dX6_readLine_43 rfl rfl c55 w
    · have w := w.2 h
      refine E_aload_n 27 dX6_readLine_26 rfl (ac_6.bnd) rfl ?_
      refine E_iconst 28 dX6_readLine_27 (by decide) rfl ?_
      refine E_callV (as := [(0, 1)]) 31 dX6_readLine_28 cf_X6_stop mw_674 mw_676 mw_6 ac_6 (by decide) cl_X6 rfl rfl (Nat.le_of_ble_eq_true rfl) (Nat.le_of_ble_eq_true rfl) ⟨Nat.le_refl _, Nat.le_refl _⟩ rfl (w.mono (fun r57 σ56 w => ?_))
      show XX g true (d + 1) P_X6_readLine 31 [(2, 6), (0, x1)] [(0, r57)] 136 σ56 136 Q
      obtain ⟨c58, w⟩ := w
      exact E_zret dX6_readLine_31 rfl rfl c58 w
theorem B_X6_readSum_0 {g : PG} {d : Nat} {σ : PS} {Q : Int → PS → Prop}  (w : XX g true d P_X6_readProduct 0 [(2, 6), (9, 0), (9, 0), (9, 0)] [] 136 σ 136 (fun r2 σ1 => (XX g true (d + 1) P_X6_readSum 7 [(2, 6), (0, r2), (0, 0), (9, 0)] [] 136 σ1 136 Q))) : XX g true (d + 1) P_X6_readSum 0 [(2, 6), (9, 0), (9, 0), (9, 0)] [] 136 σ 136 Q := by
  refine E_aload_n 1 dX6_readSum_0 rfl (ac_6.bnd) rfl ?_
  refine E_callV (as := []) 4 dX6_readSum_1 cf_X6_readProduct mw_739 mw_741 mw_14 ac_6 (by decide) cl_X6 rfl rfl (Nat.le_of_ble_eq_true rfl) (Nat.le_of_ble_eq_true rfl) ⟨Nat.le_refl _, Nat.le_refl _⟩ rfl (w.mono (fun r2 σ1 w => ?_))
  show XX g true (d + 1) P_X6_readSum 4 [(2, 6), (9, 0), (9, 0), (9, 0)] [(0, r2)] 136 σ1 136 Q
  refine E_istore_n (ls' := [(2, 6), (0, r2), (9, 0), (9, 0)]) 5 dX6_readSum_4 (by decide) rfl rfl ?_
  refine E_iconst 6 dX6_readSum_5 (by decide) rfl ?_
  refine E_istore_n (ls' := [(2, 6), (0, r2), (0, 0), (9, 0)]) 7 dX6_readSum_6 (by decide) rfl rfl ?_
  with_reducible exact w
theorem B_X6_readSum_7 {g : PG} {d : Nat} {σ : PS} {Q : Int → PS → Prop} {x1 x2 : Int}  (w : ((500 ≤ x2 → (x1 = 0 ∨ x1 = 1) ∧ Q x1 σ) ∧ (x2 < 500 → ((x1 = 0 → (x1 = 0 ∨ x1 = 1) ∧ Q x1 σ) ∧ (x1 ≠ 0 → XX g true d P_X8_kind 0 [(2, 1)] [] 136 σ 136 (fun r4 σ3 => ((r4 = 43 → XX g true d P_X8_kind 0 [(2, 1)] [] 136 σ3 136 (fun r6 σ5 => XX g true d P_X8_next 0 [(2, 1)] [] 136 σ5 136 (fun _ σ7 => XX g true d P_X6_readProduct 0 [(2, 6), (9, 0), (9, 0), (9, 0)] [] 136 σ7 136 (fun r10 σ9 => ((r10 = 0 → (XX g true (d + 1) P_X6_readSum 7 [(2, 6), (0, 0), (0, w32 (x2 + 1)), (9, 0)] [] 136 σ9 136 Q)) ∧ (r10 ≠ 0 → XX g true d P_X4_put 0 [(2, 7), (0, w32 (-r6))] [] 136 σ9 136 (fun r12 σ11 => ((r12 = 0 → (XX g true (d + 1) P_X6_readSum 7 [(2, 6), (0, 0), (0, w32 (x2 + 1)), (9, 0)] [] 136 σ11 136 Q)) ∧ (r12 ≠ 0 → (XX g true (d + 1) P_X6_readSum 7 [(2, 6), (0, 1), (0, w32 (x2 + 1)), (9, 0)] [] 136 σ11 136 Q)))))))))) ∧ (r4 ≠ 43 → XX g true d P_X8_kind 0 [(2, 1)] [] 136 σ3 136 (fun r14 σ13 => ((r14 ≠ 45 → (x1 = 0 ∨ x1 = 1) ∧ Q x1 σ13) ∧ (r14 = 45 → XX g true d P_X8_kind 0 [(2, 1)] [] 136 σ13 136 (fun r17 σ16 => XX g true d P_X8_next 0 [(2, 1)] [] 136 σ16 136 (fun _ σ18 => XX g true d P_X6_readProduct 0 [(2, 6), (9, 0), (9, 0), (9, 0)] [] 136 σ18 136 (fun r21 σ20 => ((r21 = 0 → (XX g true (d + 1) P_X6_readSum 7 [(2, 6), (0, 0), (0, w32 (x2 + 1)), (9, 0)] [] 136 σ20 136 Q)) ∧ (r21 ≠ 0 → XX g true d P_X4_put 0 [(2, 7), (0, w32 (-r17))] [] 136 σ20 136 (fun r23 σ22 => ((r23 = 0 → (XX g true (d + 1) P_X6_readSum 7 [(2, 6), (0, 0), (0, w32 (x2 + 1)), (9, 0)] [] 136 σ22 136 Q)) ∧ (r23 ≠ 0 → (XX g true (d + 1) P_X6_readSum 7 [(2, 6), (0, 1), (0, w32 (x2 + 1)), (9, 0)] [] 136 σ22 136 Q)))))))))))))))))))) : XX g true (d + 1) P_X6_readSum 7 [(2, 6), (0, x1), (0, x2), (9, 0)] [] 136 σ 136 Q := by
  refine E_iload_n 8 dX6_readSum_7 rfl rfl ?_
  refine E_sipush 11 dX6_readSum_8 (by decide) rfl ?_
  refine E_icmp_ge 14 88 dX6_readSum_11 rfl rfl (fun h => ?_) (fun h => ?_)
  · have w := w.1 h
    refine E_iload_n 89 dX6_readSum_88 rfl rfl ?_
    obtain ⟨c1, w⟩ := w
    exact E_zret dX6_readSum_89 rfl rfl c1 w
  · have w := w.2 h
    refine E_iload_n 15 dX6_readSum_14 rfl rfl ?_
    refine E_if_eq 18 88 dX6_readSum_15 rfl rfl (fun h => ?_) (fun h => ?_)
    · have w := w.1 h
      refine E_iload_n 89 dX6_readSum_88 rfl rfl ?_
      obtain ⟨c2, w⟩ := w
      exact E_zret dX6_readSum_89 rfl rfl c2 w
    · have w := w.2 h
      refine E_aload_n 19 dX6_readSum_18 rfl (ac_6.bnd) rfl ?_
      refine E_getL 22 dX6_readSum_19 fl_X6_25 ac_6 rfl (by decide) lay_6_0 rfl ?_
      refine E_callV (as := []) 25 dX6_readSum_22 cf_X8_kind mw_666 mw_667 mw_668 ac_1 (by decide) cl_X8 rfl rfl (Nat.le_of_ble_eq_true rfl) (Nat.le_of_ble_eq_true rfl) ⟨Nat.le_refl _, Nat.le_refl _⟩ rfl (w.mono (fun r4 σ3 w => ?_))
      show XX g true (d + 1) P_X6_readSum 25 [(2, 6), (0, x1), (0, x2), (9, 0)] [(0, r4)] 136 σ3 136 Q
      refine E_bipush 27 dX6_readSum_25 (by decide) rfl ?_
      refine E_icmp_eq 30 42 dX6_readSum_27 rfl rfl (fun h => ?_) (fun h => ?_)
      · have w := w.1 h
        refine E_aload_n 43 dX6_readSum_42 rfl (ac_6.bnd) rfl ?_
        refine E_getL 46 dX6_readSum_43 fl_X6_25 ac_6 rfl (by decide) lay_6_0 rfl ?_
        refine E_callV (as := []) 49 dX6_readSum_46 cf_X8_kind mw_666 mw_667 mw_668 ac_1 (by decide) cl_X8 rfl rfl (Nat.le_of_ble_eq_true rfl) (Nat.le_of_ble_eq_true rfl) ⟨Nat.le_refl _, Nat.le_refl _⟩ rfl (w.mono (fun r6 σ5 w => ?_))
        show XX g true (d + 1) P_X6_readSum 49 [(2, 6), (0, x1), (0, x2), (9, 0)] [(0, r6)] 136 σ5 136 Q
        refine E_istore_n (ls' := [(2, 6), (0, x1), (0, x2), (0, r6)]) 50 dX6_readSum_49 (by decide) rfl rfl ?_
        refine E_aload_n 51 dX6_readSum_50 rfl (ac_6.bnd) rfl ?_
        refine E_getL 54 dX6_readSum_51 fl_X6_25 ac_6 rfl (by decide) lay_6_0 rfl ?_
        refine E_callV (as := []) 57 dX6_readSum_54 cf_X8_next mw_678 mw_679 mw_680 ac_1 (by decide) cl_X8 rfl rfl (Nat.le_of_ble_eq_true rfl) (Nat.le_of_ble_eq_true rfl) ⟨Nat.le_refl _, Nat.le_refl _⟩ rfl (w.mono (fun r8 σ7 w => ?_))
        show XX g true (d + 1) P_X6_readSum 57 [(2, 6), (0, x1), (0, x2), (0, r6)] [] 136 σ7 136 Q
        refine E_aload_n 58 dX6_readSum_57 rfl (ac_6.bnd) rfl ?_
        refine E_callV (as := []) 61 dX6_readSum_58 cf_X6_readProduct mw_739 mw_741 mw_14 ac_6 (by decide) cl_X6 rfl rfl (Nat.le_of_ble_eq_true rfl) (Nat.le_of_ble_eq_true rfl) ⟨Nat.le_refl _, Nat.le_refl _⟩ rfl (w.mono (fun r10 σ9 w => ?_))
        show XX g true (d + 1) P_X6_readSum 61 [(2, 6), (0, x1), (0, x2), (0, r6)] [(0, r10)] 136 σ9 136 Q
        refine E_if_eq 64 80 dX6_readSum_61 rfl rfl (fun h => ?_) (fun h => ?_)
        · have w := w.1 h
          refine E_iconst 81 dX6_readSum_80 (by decide) rfl ?_
          refine E_istore_n (ls' := [(2, 6), (0, 0), (0, x2), (0, r6)]) 82 dX6_readSum_81 (by decide) rfl rfl ?_
          refine E_iinc (ls' := [(2, 6), (0, 0), (0, w32 (x2 + 1)), (0, r6)]) 85 dX6_readSum_82 (by decide) rfl rfl rfl ?_
          refine E_goto 7 dX6_readSum_85 rfl ?_
          refine XX.fg [3] [(2, 6), (0, 0), (0, w32 (x2 + 1)), (9, 0)] rfl ?_
          with_reducible exact w
        · have w := w.2 h
          refine E_aload_n 65 dX6_readSum_64 rfl (ac_6.bnd) rfl ?_
          refine E_getL 68 dX6_readSum_65 fl_X6_12 ac_6 rfl (by decide) lay_6_1 rfl ?_
          refine E_iload_n 69 dX6_readSum_68 rfl rfl ?_
          refine E_ineg 70 dX6_readSum_69 rfl ?_
          refine E_callV (as := [(0, w32 (-r6))]) 73 dX6_readSum_70 cf_X4_put mw_747 mw_748 mw_749 ac_7 (by decide) cl_X4 rfl rfl (Nat.le_of_ble_eq_true rfl) (Nat.le_of_ble_eq_true rfl) ⟨Nat.le_refl _, Nat.le_refl _⟩ rfl (w.mono (fun r12 σ11 w => ?_))
          show XX g true (d + 1) P_X6_readSum 73 [(2, 6), (0, x1), (0, x2), (0, r6)] [(0, r12)] 136 σ11 136 Q
          refine E_if_eq 76 80 dX6_readSum_73 rfl rfl (fun h => ?_) (fun h => ?_)
          · have w := w.1 h
            refine E_iconst 81 dX6_readSum_80 (by decide) rfl ?_
            refine E_istore_n (ls' := [(2, 6), (0, 0), (0, x2), (0, r6)]) 82 dX6_readSum_81 (by decide) rfl rfl ?_
            refine E_iinc (ls' := [(2, 6), (0, 0), (0, w32 (x2 + 1)), (0, r6)]) 85 dX6_readSum_82 (by decide) rfl rfl rfl ?_
            refine E_goto 7 dX6_readSum_85 rfl ?_
            refine XX.fg [3] [(2, 6), (0, 0), (0, w32 (x2 + 1)), (9, 0)] rfl ?_
            with_reducible exact w
          · have w := w.2 h
            refine E_iconst 77 dX6_readSum_76 (by decide) rfl ?_
            refine E_goto 81 dX6_readSum_77 rfl ?_
            refine E_istore_n (ls' := [(2, 6), (0, 1), (0, x2), (0, r6)]) 82 dX6_readSum_81 (by decide) rfl rfl ?_
            refine E_iinc (ls' := [(2, 6), (0, 1), (0, w32 (x2 + 1)), (0, r6)]) 85 dX6_readSum_82 (by decide) rfl rfl rfl ?_
            refine E_goto 7 dX6_readSum_85 rfl ?_
            refine XX.fg [3] [(2, 6), (0, 1), (0, w32 (x2 + 1)), (9, 0)] rfl ?_
            with_reducible exact w
      · have w := w.2 h
        refine E_aload_n 31 dX6_readSum_30 rfl (ac_6.bnd) rfl ?_
        refine E_getL 34 dX6_readSum_31 fl_X6_25 ac_6 rfl (by decide) lay_6_0 rfl ?_
        refine E_callV (as := []) 37 dX6_readSum_34 cf_X8_kind mw_666 mw_667 mw_668 ac_1 (by decide) cl_X8 rfl rfl (Nat.le_of_ble_eq_true rfl) (Nat.le_of_ble_eq_true rfl) ⟨Nat.le_refl _, Nat.le_refl _⟩ rfl (w.mono (fun r14 σ13 w => ?_))
        show XX g true (d + 1) P_X6_readSum 37 [(2, 6), (0, x1), (0, x2), (9, 0)] [(0, r14)] 136 σ13 136 Q
        refine E_bipush 39 dX6_readSum_37 (by decide) rfl ?_
        refine E_icmp_ne 42 88 dX6_readSum_39 rfl rfl (fun h => ?_) (fun h => ?_)
        · have w := w.1 h
          refine E_iload_n 89 dX6_readSum_88 rfl rfl ?_
          obtain ⟨c15, w⟩ := w
          exact E_zret dX6_readSum_89 rfl rfl c15 w
        · have w := w.2 h
          refine E_aload_n 43 dX6_readSum_42 rfl (ac_6.bnd) rfl ?_
          refine E_getL 46 dX6_readSum_43 fl_X6_25 ac_6 rfl (by decide) lay_6_0 rfl ?_
          refine E_callV (as := []) 49 dX6_readSum_46 cf_X8_kind mw_666 mw_667 mw_668 ac_1 (by decide) cl_X8 rfl rfl (Nat.le_of_ble_eq_true rfl) (Nat.le_of_ble_eq_true rfl) ⟨Nat.le_refl _, Nat.le_refl _⟩ rfl (w.mono (fun r17 σ16 w => ?_))
          show XX g true (d + 1) P_X6_readSum 49 [(2, 6), (0, x1), (0, x2), (9, 0)] [(0, r17)] 136 σ16 136 Q
          refine E_istore_n (ls' := [(2, 6), (0, x1), (0, x2), (0, r17)]) 50 dX6_readSum_49 (by decide) rfl rfl ?_
          refine E_aload_n 51 dX6_readSum_50 rfl (ac_6.bnd) rfl ?_
          refine E_getL 54 dX6_readSum_51 fl_X6_25 ac_6 rfl (by decide) lay_6_0 rfl ?_
          refine E_callV (as := []) 57 dX6_readSum_54 cf_X8_next mw_678 mw_679 mw_680 ac_1 (by decide) cl_X8 rfl rfl (Nat.le_of_ble_eq_true rfl) (Nat.le_of_ble_eq_true rfl) ⟨Nat.le_refl _, Nat.le_refl _⟩ rfl (w.mono (fun r19 σ18 w => ?_))
          show XX g true (d + 1) P_X6_readSum 57 [(2, 6), (0, x1), (0, x2), (0, r17)] [] 136 σ18 136 Q
          refine E_aload_n 58 dX6_readSum_57 rfl (ac_6.bnd) rfl ?_
          refine E_callV (as := []) 61 dX6_readSum_58 cf_X6_readProduct mw_739 mw_741 mw_14 ac_6 (by decide) cl_X6 rfl rfl (Nat.le_of_ble_eq_true rfl) (Nat.le_of_ble_eq_true rfl) ⟨Nat.le_refl _, Nat.le_refl _⟩ rfl (w.mono (fun r21 σ20 w => ?_))
          show XX g true (d + 1) P_X6_readSum 61 [(2, 6), (0, x1), (0, x2), (0, r17)] [(0, r21)] 136 σ20 136 Q
          refine E_if_eq 64 80 dX6_readSum_61 rfl rfl (fun h => ?_) (fun h => ?_)
          · have w := w.1 h
            refine E_iconst 81 dX6_readSum_80 (by decide) rfl ?_
            refine E_istore_n (ls' := [(2, 6), (0, 0), (0, x2), (0, r17)]) 82 dX6_readSum_81 (by decide) rfl rfl ?_
            refine E_iinc (ls' := [(2, 6), (0, 0), (0, w32 (x2 + 1)), (0, r17)]) 85 dX6_readSum_82 (by decide) rfl rfl rfl ?_
            refine E_goto 7 dX6_readSum_85 rfl ?_
            refine XX.fg [3] [(2, 6), (0, 0), (0, w32 (x2 + 1)), (9, 0)] rfl ?_
            with_reducible exact w
          · have w := w.2 h
            refine E_aload_n 65 dX6_readSum_64 rfl (ac_6.bnd) rfl ?_
            refine E_getL 68 dX6_readSum_65 fl_X6_12 ac_6 rfl (by decide) lay_6_1 rfl ?_
            refine E_iload_n 69 dX6_readSum_68 rfl rfl ?_
            refine E_ineg 70 dX6_readSum_69 rfl ?_
            refine E_callV (as := [(0, w32 (-r17))]) 73 dX6_readSum_70 cf_X4_put mw_747 mw_748 mw_749 ac_7 (by decide) cl_X4 rfl rfl (Nat.le_of_ble_eq_true rfl) (Nat.le_of_ble_eq_true rfl) ⟨Nat.le_refl _, Nat.le_refl _⟩ rfl (w.mono (fun r23 σ22 w => ?_))
            show XX g true (d + 1) P_X6_readSum 73 [(2, 6), (0, x1), (0, x2), (0, r17)] [(0, r23)] 136 σ22 136 Q
            refine E_if_eq 76 80 dX6_readSum_73 rfl rfl (fun h => ?_) (fun h => ?_)
            · have w := w.1 h
              refine E_iconst 81 dX6_readSum_80 (by decide) rfl ?_
              refine E_istore_n (ls' := [(2, 6), (0, 0), (0, x2), (0, r17)]) 82 dX6_readSum_81 (by decide) rfl rfl ?_
              refine E_iinc (ls' := [(2, 6), (0, 0), (0, w32 (x2 + 1)), (0, r17)]) 85 dX6_readSum_82 (by decide) rfl rfl rfl ?_
              refine E_goto 7 dX6_readSum_85 rfl ?_
              refine XX.fg [3] [(2, 6), (0, 0), (0, w32 (x2 + 1)), (9, 0)] rfl ?_
              with_reducible exact w
            · have w := w.2 h
              refine E_iconst 77 dX6_readSum_76 (by decide) rfl ?_
              refine E_goto 81 dX6_readSum_77 rfl ?_
              refine E_istore_n (ls' := [(2, 6), (0, 1), (0, x2), (0, r17)]) 82 dX6_readSum_81 (by decide) rfl rfl ?_
              refine E_iinc (ls' := [(2, 6), (0, 1), (0, w32 (x2 + 1)), (0, r17)]) 85 dX6_readSum_82 (by decide) rfl rfl rfl ?_
              refine E_goto 7 dX6_readSum_85 rfl ?_
              refine XX.fg [3] [(2, 6), (0, 1), (0, w32 (x2 + 1)), (9, 0)] rfl ?_
              with_reducible exact w
theorem B_X6_readProduct_0 {g : PG} {d : Nat} {σ : PS} {Q : Int → PS → Prop}  (w : XX g true d P_X6_readUnit 0 [(2, 6)] [] 136 σ 136 (fun r2 σ1 => (XX g true (d + 1) P_X6_readProduct 7 [(2, 6), (0, r2), (0, 0), (9, 0)] [] 136 σ1 136 Q))) : XX g true (d + 1) P_X6_readProduct 0 [(2, 6), (9, 0), (9, 0), (9, 0)] [] 136 σ 136 Q := by
  refine E_aload_n 1 dX6_readProduct_0 rfl (ac_6.bnd) rfl ?_
  refine E_callV (as := []) 4 dX6_readProduct_1 cf_X6_readUnit mw_743 mw_745 mw_15 ac_6 (by decide) cl_X6 rfl rfl (Nat.le_of_ble_eq_true rfl) (Nat.le_of_ble_eq_true rfl) ⟨Nat.le_refl _, Nat.le_refl _⟩ rfl (w.mono (fun r2 σ1 w => ?_))
  show XX g true (d + 1) P_X6_readProduct 4 [(2, 6), (9, 0), (9, 0), (9, 0)] [(0, r2)] 136 σ1 136 Q
  refine E_istore_n (ls' := [(2, 6), (0, r2), (9, 0), (9, 0)]) 5 dX6_readProduct_4 (by decide) rfl rfl ?_
  refine E_iconst 6 dX6_readProduct_5 (by decide) rfl ?_
  refine E_istore_n (ls' := [(2, 6), (0, r2), (0, 0), (9, 0)]) 7 dX6_readProduct_6 (by decide) rfl rfl ?_
  with_reducible exact w
theorem B_X6_readProduct_7 {g : PG} {d : Nat} {σ : PS} {Q : Int → PS → Prop} {x1 x2 : Int}  (w : ((500 ≤ x2 → (x1 = 0 ∨ x1 = 1) ∧ Q x1 σ) ∧ (x2 < 500 → ((x1 = 0 → (x1 = 0 ∨ x1 = 1) ∧ Q x1 σ) ∧ (x1 ≠ 0 → XX g true d P_X8_kind 0 [(2, 1)] [] 136 σ 136 (fun r4 σ3 => ((r4 = 42 → XX g true d P_X8_kind 0 [(2, 1)] [] 136 σ3 136 (fun r6 σ5 => XX g true d P_X8_next 0 [(2, 1)] [] 136 σ5 136 (fun _ σ7 => ((r6 = 42 → XX g true d P_X6_readUnit 0 [(2, 6)] [] 136 σ7 136 (fun r10 σ9 => ((r10 = 0 → (XX g true (d + 1) P_X6_readProduct 7 [(2, 6), (0, 0), (0, w32 (x2 + 1)), (9, 0)] [] 136 σ9 136 Q)) ∧ (r10 ≠ 0 → XX g true d P_X4_put 0 [(2, 7), (0, w32 (-r6))] [] 136 σ9 136 (fun r12 σ11 => ((r12 = 0 → (XX g true (d + 1) P_X6_readProduct 7 [(2, 6), (0, 0), (0, w32 (x2 + 1)), (9, 0)] [] 136 σ11 136 Q)) ∧ (r12 ≠ 0 → (XX g true (d + 1) P_X6_readProduct 7 [(2, 6), (0, 1), (0, w32 (x2 + 1)), (9, 0)] [] 136 σ11 136 Q)))))))) ∧ (r6 ≠ 42 → XX g true d P_X6_isDivisor 0 [(2, 6)] [] 136 σ7 136 (fun r14 σ13 => ((r14 = 0 → (XX g true (d + 1) P_X6_readProduct 7 [(2, 6), (0, 0), (0, w32 (x2 + 1)), (9, 0)] [] 136 σ13 136 Q)) ∧ (r14 ≠ 0 → XX g true d P_X6_readUnit 0 [(2, 6)] [] 136 σ13 136 (fun r16 σ15 => ((r16 = 0 → (XX g true (d + 1) P_X6_readProduct 7 [(2, 6), (0, 0), (0, w32 (x2 + 1)), (9, 0)] [] 136 σ15 136 Q)) ∧ (r16 ≠ 0 → XX g true d P_X4_put 0 [(2, 7), (0, w32 (-r6))] [] 136 σ15 136 (fun r18 σ17 => ((r18 = 0 → (XX g true (d + 1) P_X6_readProduct 7 [(2, 6), (0, 0), (0, w32 (x2 + 1)), (9, 0)] [] 136 σ17 136 Q)) ∧ (r18 ≠ 0 → (XX g true (d + 1) P_X6_readProduct 7 [(2, 6), (0, 1), (0, w32 (x2 + 1)), (9, 0)] [] 136 σ17 136 Q))))))))))))))) ∧ (r4 ≠ 42 → XX g true d P_X8_kind 0 [(2, 1)] [] 136 σ3 136 (fun r20 σ19 => ((r20 ≠ 47 → (x1 = 0 ∨ x1 = 1) ∧ Q x1 σ19) ∧ (r20 = 47 → XX g true d P_X8_kind 0 [(2, 1)] [] 136 σ19 136 (fun r23 σ22 => XX g true d P_X8_next 0 [(2, 1)] [] 136 σ22 136 (fun _ σ24 => ((r23 = 42 → XX g true d P_X6_readUnit 0 [(2, 6)] [] 136 σ24 136 (fun r27 σ26 => ((r27 = 0 → (XX g true (d + 1) P_X6_readProduct 7 [(2, 6), (0, 0), (0, w32 (x2 + 1)), (9, 0)] [] 136 σ26 136 Q)) ∧ (r27 ≠ 0 → XX g true d P_X4_put 0 [(2, 7), (0, w32 (-r23))] [] 136 σ26 136 (fun r29 σ28 => ((r29 = 0 → (XX g true (d + 1) P_X6_readProduct 7 [(2, 6), (0, 0), (0, w32 (x2 + 1)), (9, 0)] [] 136 σ28 136 Q)) ∧ (r29 ≠ 0 → (XX g true (d + 1) P_X6_readProduct 7 [(2, 6), (0, 1), (0, w32 (x2 + 1)), (9, 0)] [] 136 σ28 136 Q)))))))) ∧ (r23 ≠ 42 → XX g true d P_X6_isDivisor 0 [(2, 6)] [] 136 σ24 136 (fun r31 σ30 => ((r31 = 0 → (XX g true (d + 1) P_X6_readProduct 7 [(2, 6), (0, 0), (0, w32 (x2 + 1)), (9, 0)] [] 136 σ30 136 Q)) ∧ (r31 ≠ 0 → XX g true d P_X6_readUnit 0 [(2, 6)] [] 136 σ30 136 (fun r33 σ32 => ((r33 = 0 → (XX g true (d + 1) P_X6_readProduct 7 [(2, 6), (0, 0), (0, w32 (x2 + 1)), (9, 0)] [] 136 σ32 136 Q)) ∧ (r33 ≠ 0 → XX g true d P_X4_put 0 [(2, 7), (0, w32 (-r23))] [] 136 σ32 136 (fun r35 σ34 => ((r35 = 0 → (XX g true (d + 1) P_X6_readProduct 7 [(2, 6), (0, 0), (0, w32 (x2 + 1)), (9, 0)] [] 136 σ34 136 Q)) ∧ (r35 ≠ 0 → (XX g true (d + 1) P_X6_readProduct 7 [(2, 6), (0, 1), (0, w32 (x2 + 1)), (9, 0)] [] 136 σ34 136 Q))))))))))))))))))))))))) : XX g true (d + 1) P_X6_readProduct 7 [(2, 6), (0, x1), (0, x2), (9, 0)] [] 136 σ 136 Q := by
  refine E_iload_n 8 dX6_readProduct_7 rfl rfl ?_
  refine E_sipush 11 dX6_readProduct_8 (by decide) rfl ?_
  refine E_icmp_ge 14 101 dX6_readProduct_11 rfl rfl (fun h => ?_) (fun h => ?_)
  · have w := w.1 h
    refine E_iload_n 102 dX6_readProduct_101 rfl rfl ?_
    obtain ⟨c1, w⟩ := w
    exact E_zret dX6_readProduct_102 rfl rfl c1 w
  · have w := w.2 h
    refine E_iload_n 15 dX6_readProduct_14 rfl rfl ?_
    refine E_if_eq 18 101 dX6_readProduct_15 rfl rfl (fun h => ?_) (fun h => ?_)
    · have w := w.1 h
      refine E_iload_n 102 dX6_readProduct_101 rfl rfl ?_
      obtain ⟨c2, w⟩ := w
      exact E_zret dX6_readProduct_102 rfl rfl c2 w
    · have w := w.2 h
      refine E_aload_n 19 dX6_readProduct_18 rfl (ac_6.bnd) rfl ?_
      refine E_getL 22 dX6_readProduct_19 fl_X6_25 ac_6 rfl (by decide) lay_6_0 rfl ?_
      refine E_callV (as := []) 25 dX6_readProduct_22 cf_X8_kind mw_666 mw_667 mw_668 ac_1 (by decide) cl_X8 rfl rfl (Nat.le_of_ble_eq_true rfl) (Nat.le_of_ble_eq_true rfl) ⟨Nat.le_refl _, Nat.le_refl _⟩ rfl (w.mono (fun r4 σ3 w => ?_))
      show XX g true (d + 1) P_X6_readProduct 25 [(2, 6), (0, x1), (0, x2), (9, 0)] [(0, r4)] 136 σ3 136 Q
      refine E_bipush 27 dX6_readProduct_25 (by decide) rfl ?_
      refine E_icmp_eq 30 42 dX6_readProduct_27 rfl rfl (fun h => ?_) (fun h => ?_)
      · have w := w.1 h
        refine E_aload_n 43 dX6_readProduct_42 rfl (ac_6.bnd) rfl ?_
        refine E_getL 46 dX6_readProduct_43 fl_X6_25 ac_6 rfl (by decide) lay_6_0 rfl ?_
        refine E_callV (as := []) 49 dX6_readProduct_46 cf_X8_kind mw_666 mw_667 mw_668 ac_1 (by decide) cl_X8 rfl rfl (Nat.le_of_ble_eq_true rfl) (Nat.le_of_ble_eq_true rfl) ⟨Nat.le_refl _, Nat.le_refl _⟩ rfl (w.mono (fun r6 σ5 w => ?_))
        show XX g true (d + 1) P_X6_readProduct 49 [(2, 6), (0, x1), (0, x2), (9, 0)] [(0, r6)] 136 σ5 136 Q
        refine E_istore_n (ls' := [(2, 6), (0, x1), (0, x2), (0, r6)]) 50 dX6_readProduct_49 (by decide) rfl rfl ?_
        refine E_aload_n 51 dX6_readProduct_50 rfl (ac_6.bnd) rfl ?_
        refine E_getL 54 dX6_readProduct_51 fl_X6_25 ac_6 rfl (by decide) lay_6_0 rfl ?_
        refine E_callV (as := []) 57 dX6_readProduct_54 cf_X8_next mw_678 mw_679 mw_680 ac_1 (by decide) cl_X8 rfl rfl (Nat.le_of_ble_eq_true rfl) (Nat.le_of_ble_eq_true rfl) ⟨Nat.le_refl _, Nat.le_refl _⟩ rfl (w.mono (fun r8 σ7 w => ?_))
        show XX g true (d + 1) P_X6_readProduct 57 [(2, 6), (0, x1), (0, x2), (0, r6)] [] 136 σ7 136 Q
        refine E_iload_n 58 dX6_readProduct_57 rfl rfl ?_
        refine E_bipush 60 dX6_readProduct_58 (by decide) rfl ?_
        refine E_icmp_eq 63 70 dX6_readProduct_60 rfl rfl (fun h => ?_) (fun h => ?_)
        · have w := w.1 h
          refine E_aload_n 71 dX6_readProduct_70 rfl (ac_6.bnd) rfl ?_
          refine E_callV (as := []) 74 dX6_readProduct_71 cf_X6_readUnit mw_743 mw_745 mw_15 ac_6 (by decide) cl_X6 rfl rfl (Nat.le_of_ble_eq_true rfl) (Nat.le_of_ble_eq_true rfl) ⟨Nat.le_refl _, Nat.le_refl _⟩ rfl (w.mono (fun r10 σ9 w => ?_))
          show XX g true (d + 1) P_X6_readProduct 74 [(2, 6), (0, x1), (0, x2), (0, r6)] [(0, r10)] 136 σ9 136 Q
          refine E_if_eq 77 93 dX6_readProduct_74 rfl rfl (fun h => ?_) (fun h => ?_)
          · have w := w.1 h
            refine E_iconst 94 dX6_readProduct_93 (by decide) rfl ?_
            refine E_istore_n (ls' := [(2, 6), (0, 0), (0, x2), (0, r6)]) 95 dX6_readProduct_94 (by decide) rfl rfl ?_
            refine E_iinc (ls' := [(2, 6), (0, 0), (0, w32 (x2 + 1)), (0, r6)]) 98 dX6_readProduct_95 (by decide) rfl rfl rfl ?_
            refine E_goto 7 dX6_readProduct_98 rfl ?_
            refine XX.fg [3] [(2, 6), (0, 0), (0, w32 (x2 + 1)), (9, 0)] rfl ?_
            with_reducible exact w
          · have w := w.2 h
            refine E_aload_n 78 dX6_readProduct_77 rfl (ac_6.bnd) rfl ?_
            refine E_getL 81 dX6_readProduct_78 fl_X6_12 ac_6 rfl (by decide) lay_6_1 rfl ?_
            refine E_iload_n 82 dX6_readProduct_81 rfl rfl ?_
            refine E_ineg 83 dX6_readProduct_82 rfl ?_
            refine E_callV (as := [(0, w32 (-r6))]) 86 dX6_readProduct_83 cf_X4_put mw_747 mw_748 mw_749 ac_7 (by decide) cl_X4 rfl rfl (Nat.le_of_ble_eq_true rfl) (Nat.le_of_ble_eq_true rfl) ⟨Nat.le_refl _, Nat.le_refl _⟩ rfl (w.mono (fun r12 σ11 w => ?_))
            show XX g true (d + 1) P_X6_readProduct 86 [(2, 6), (0, x1), (0, x2), (0, r6)] [(0, r12)] 136 σ11 136 Q
            refine E_if_eq 89 93 dX6_readProduct_86 rfl rfl (fun h => ?_) (fun h => ?_)
            · have w := w.1 h
              refine E_iconst 94 dX6_readProduct_93 (by decide) rfl ?_
              refine E_istore_n (ls' := [(2, 6), (0, 0), (0, x2), (0, r6)]) 95 dX6_readProduct_94 (by decide) rfl rfl ?_
              refine E_iinc (ls' := [(2, 6), (0, 0), (0, w32 (x2 + 1)), (0, r6)]) 98 dX6_readProduct_95 (by decide) rfl rfl rfl ?_
              refine E_goto 7 dX6_readProduct_98 rfl ?_
              refine XX.fg [3] [(2, 6), (0, 0), (0, w32 (x2 + 1)), (9, 0)] rfl ?_
              with_reducible exact w
            · have w := w.2 h
              refine E_iconst 90 dX6_readProduct_89 (by decide) rfl ?_
              refine E_goto 94 dX6_readProduct_90 rfl ?_
              refine E_istore_n (ls' := [(2, 6), (0, 1), (0, x2), (0, r6)]) 95 dX6_readProduct_94 (by decide) rfl rfl ?_
              refine E_iinc (ls' := [(2, 6), (0, 1), (0, w32 (x2 + 1)), (0, r6)]) 98 dX6_readProduct_95 (by decide) rfl rfl rfl ?_
              refine E_goto 7 dX6_readProduct_98 rfl ?_
              refine XX.fg [3] [(2, 6), (0, 1), (0, w32 (x2 + 1)), (9, 0)] rfl ?_
              with_reducible exact w
        · have w := w.2 h
          refine E_aload_n 64 dX6_readProduct_63 rfl (ac_6.bnd) rfl ?_
          refine E_callV (as := []) 67 dX6_readProduct_64 cf_X6_isDivisor mw_755 mw_757 mw_17 ac_6 (by decide) cl_X6 rfl rfl (Nat.le_of_ble_eq_true rfl) (Nat.le_of_ble_eq_true rfl) ⟨Nat.le_refl _, Nat.le_refl _⟩ rfl (w.mono (fun r14 σ13 w => ?_))
          show XX g true (d + 1) P_X6_readProduct 67 [(2, 6), (0, x1), (0, x2), (0, r6)] [(0, r14)] 136 σ13 136 Q
          refine E_if_eq 70 93 dX6_readProduct_67 rfl rfl (fun h => ?_) (fun h => ?_)
          · have w := w.1 h
            refine E_iconst 94 dX6_readProduct_93 (by decide) rfl ?_
            refine E_istore_n (ls' := [(2, 6), (0, 0), (0, x2), (0, r6)]) 95 dX6_readProduct_94 (by decide) rfl rfl ?_
            refine E_iinc (ls' := [(2, 6), (0, 0), (0, w32 (x2 + 1)), (0, r6)]) 98 dX6_readProduct_95 (by decide) rfl rfl rfl ?_
            refine E_goto 7 dX6_readProduct_98 rfl ?_
            refine XX.fg [3] [(2, 6), (0, 0), (0, w32 (x2 + 1)), (9, 0)] rfl ?_
            with_reducible exact w
          · have w := w.2 h
            refine E_aload_n 71 dX6_readProduct_70 rfl (ac_6.bnd) rfl ?_
            refine E_callV (as := []) 74 dX6_readProduct_71 cf_X6_readUnit mw_743 mw_745 mw_15 ac_6 (by decide) cl_X6 rfl rfl (Nat.le_of_ble_eq_true rfl) (Nat.le_of_ble_eq_true rfl) ⟨Nat.le_refl _, Nat.le_refl _⟩ rfl (w.mono (fun r16 σ15 w => ?_))
            show XX g true (d + 1) P_X6_readProduct 74 [(2, 6), (0, x1), (0, x2), (0, r6)] [(0, r16)] 136 σ15 136 Q
            refine E_if_eq 77 93 dX6_readProduct_74 rfl rfl (fun h => ?_) (fun h => ?_)
            · have w := w.1 h
              refine E_iconst 94 dX6_readProduct_93 (by decide) rfl ?_
              refine E_istore_n (ls' := [(2, 6), (0, 0), (0, x2), (0, r6)]) 95 dX6_readProduct_94 (by decide) rfl rfl ?_
              refine E_iinc (ls' := [(2, 6), (0, 0), (0, w32 (x2 + 1)), (0, r6)]) 98 dX6_readProduct_95 (by decide) rfl rfl rfl ?_
              refine E_goto 7 dX6_readProduct_98 rfl ?_
              refine XX.fg [3] [(2, 6), (0, 0), (0, w32 (x2 + 1)), (9, 0)] rfl ?_
              with_reducible exact w
            · have w := w.2 h
              refine E_aload_n 78 dX6_readProduct_77 rfl (ac_6.bnd) rfl ?_
              refine E_getL 81 dX6_readProduct_78 fl_X6_12 ac_6 rfl (by decide) lay_6_1 rfl ?_
              refine E_iload_n 82 dX6_readProduct_81 rfl rfl ?_
              refine E_ineg 83 dX6_readProduct_82 rfl ?_
              refine E_callV (as := [(0, w32 (-r6))]) 86 dX6_readProduct_83 cf_X4_put mw_747 mw_748 mw_749 ac_7 (by decide) cl_X4 rfl rfl (Nat.le_of_ble_eq_true rfl) (Nat.le_of_ble_eq_true rfl) ⟨Nat.le_refl _, Nat.le_refl _⟩ rfl (w.mono (fun r18 σ17 w => ?_))
              show XX g true (d + 1) P_X6_readProduct 86 [(2, 6), (0, x1), (0, x2), (0, r6)] [(0, r18)] 136 σ17 136 Q
              refine E_if_eq 89 93 dX6_readProduct_86 rfl rfl (fun h => ?_) (fun h => ?_)
              · have w := w.1 h
                refine E_iconst 94 dX6_readProduct_93 (by decide) rfl ?_
                refine E_istore_n (ls' := [(2, 6), (0, 0), (0, x2), (0, r6)]) 95 dX6_readProduct_94 (by decide) rfl rfl ?_
                refine E_iinc (ls' := [(2, 6), (0, 0), (0, w32 (x2 + 1)), (0, r6)]) 98 dX6_readProduct_95 (by decide) rfl rfl rfl ?_
                refine E_goto 7 dX6_readProduct_98 rfl ?_
                refine XX.fg [3] [(2, 6), (0, 0), (0, w32 (x2 + 1)), (9, 0)] rfl ?_
                with_reducible exact w
              · have w := w.2 h
                refine E_iconst 90 dX6_readProduct_89 (by decide) rfl ?_
                refine E_goto 94 dX6_readProduct_90 rfl ?_
                refine E_istore_n (ls' := [(2, 6), (0, 1), (0, x2), (0, r6)]) 95 dX6_readProduct_94 (by decide) rfl rfl ?_
                refine E_iinc (ls' := [(2, 6), (0, 1), (0, w32 (x2 + 1)), (0, r6)]) 98 dX6_readProduct_95 (by decide) rfl rfl rfl ?_
                refine E_goto 7 dX6_readProduct_98 rfl ?_
                refine XX.fg [3] [(2, 6), (0, 1), (0, w32 (x2 + 1)), (9, 0)] rfl ?_
                with_reducible exact w
      · have w := w.2 h
        refine E_aload_n 31 dX6_readProduct_30 rfl (ac_6.bnd) rfl ?_
        refine E_getL 34 dX6_readProduct_31 fl_X6_25 ac_6 rfl (by decide) lay_6_0 rfl ?_
        refine E_callV (as := []) 37 dX6_readProduct_34 cf_X8_kind mw_666 mw_667 mw_668 ac_1 (by decide) cl_X8 rfl rfl (Nat.le_of_ble_eq_true rfl) (Nat.le_of_ble_eq_true rfl) ⟨Nat.le_refl _, Nat.le_refl _⟩ rfl (w.mono (fun r20 σ19 w => ?_))
        show XX g true (d + 1) P_X6_readProduct 37 [(2, 6), (0, x1), (0, x2), (9, 0)] [(0, r20)] 136 σ19 136 Q
        refine E_bipush 39 dX6_readProduct_37 (by decide) rfl ?_
        refine E_icmp_ne 42 101 dX6_readProduct_39 rfl rfl (fun h => ?_) (fun h => ?_)
        · have w := w.1 h
          refine E_iload_n 102 dX6_readProduct_101 rfl rfl ?_
          obtain ⟨c21, w⟩ := w
          exact E_zret dX6_readProduct_102 rfl rfl c21 w
        · have w := w.2 h
          refine E_aload_n 43 dX6_readProduct_42 rfl (ac_6.bnd) rfl ?_
          refine E_getL 46 dX6_readProduct_43 fl_X6_25 ac_6 rfl (by decide) lay_6_0 rfl ?_
          refine E_callV (as := []) 49 dX6_readProduct_46 cf_X8_kind mw_666 mw_667 mw_668 ac_1 (by decide) cl_X8 rfl rfl (Nat.le_of_ble_eq_true rfl) (Nat.le_of_ble_eq_true rfl) ⟨Nat.le_refl _, Nat.le_refl _⟩ rfl (w.mono (fun r23 σ22 w => ?_))
          show XX g true (d + 1) P_X6_readProduct 49 [(2, 6), (0, x1), (0, x2), (9, 0)] [(0, r23)] 136 σ22 136 Q
          refine E_istore_n (ls' := [(2, 6), (0, x1), (0, x2), (0, r23)]) 50 dX6_readProduct_49 (by decide) rfl rfl ?_
          refine E_aload_n 51 dX6_readProduct_50 rfl (ac_6.bnd) rfl ?_
          refine E_getL 54 dX6_readProduct_51 fl_X6_25 ac_6 rfl (by decide) lay_6_0 rfl ?_
          refine E_callV (as := []) 57 dX6_readProduct_54 cf_X8_next mw_678 mw_679 mw_680 ac_1 (by decide) cl_X8 rfl rfl (Nat.le_of_ble_eq_true rfl) (Nat.le_of_ble_eq_true rfl) ⟨Nat.le_refl _, Nat.le_refl _⟩ rfl (w.mono (fun r25 σ24 w => ?_))
          show XX g true (d + 1) P_X6_readProduct 57 [(2, 6), (0, x1), (0, x2), (0, r23)] [] 136 σ24 136 Q
          refine E_iload_n 58 dX6_readProduct_57 rfl rfl ?_
          refine E_bipush 60 dX6_readProduct_58 (by decide) rfl ?_
          refine E_icmp_eq 63 70 dX6_readProduct_60 rfl rfl (fun h => ?_) (fun h => ?_)
          · have w := w.1 h
            refine E_aload_n 71 dX6_readProduct_70 rfl (ac_6.bnd) rfl ?_
            refine E_callV (as := []) 74 dX6_readProduct_71 cf_X6_readUnit mw_743 mw_745 mw_15 ac_6 (by decide) cl_X6 rfl rfl (Nat.le_of_ble_eq_true rfl) (Nat.le_of_ble_eq_true rfl) ⟨Nat.le_refl _, Nat.le_refl _⟩ rfl (w.mono (fun r27 σ26 w => ?_))
            show XX g true (d + 1) P_X6_readProduct 74 [(2, 6), (0, x1), (0, x2), (0, r23)] [(0, r27)] 136 σ26 136 Q
            refine E_if_eq 77 93 dX6_readProduct_74 rfl rfl (fun h => ?_) (fun h => ?_)
            · have w := w.1 h
              refine E_iconst 94 dX6_readProduct_93 (by decide) rfl ?_
              refine E_istore_n (ls' := [(2, 6), (0, 0), (0, x2), (0, r23)]) 95 dX6_readProduct_94 (by decide) rfl rfl ?_
              refine E_iinc (ls' := [(2, 6), (0, 0), (0, w32 (x2 + 1)), (0, r23)]) 98 dX6_readProduct_95 (by decide) rfl rfl rfl ?_
              refine E_goto 7 dX6_readProduct_98 rfl ?_
              refine XX.fg [3] [(2, 6), (0, 0), (0, w32 (x2 + 1)), (9, 0)] rfl ?_
              with_reducible exact w
            · have w := w.2 h
              refine E_aload_n 78 dX6_readProduct_77 rfl (ac_6.bnd) rfl ?_
              refine E_getL 81 dX6_readProduct_78 fl_X6_12 ac_6 rfl (by decide) lay_6_1 rfl ?_
              refine E_iload_n 82 dX6_readProduct_81 rfl rfl ?_
              refine E_ineg 83 dX6_readProduct_82 rfl ?_
              refine E_callV (as := [(0, w32 (-r23))]) 86 dX6_readProduct_83 cf_X4_put mw_747 mw_748 mw_749 ac_7 (by decide) cl_X4 rfl rfl (Nat.le_of_ble_eq_true rfl) (Nat.le_of_ble_eq_true rfl) ⟨Nat.le_refl _, Nat.le_refl _⟩ rfl (w.mono (fun r29 σ28 w => ?_))
              show XX g true (d + 1) P_X6_readProduct 86 [(2, 6), (0, x1), (0, x2), (0, r23)] [(0, r29)] 136 σ28 136 Q
              refine E_if_eq 89 93 dX6_readProduct_86 rfl rfl (fun h => ?_) (fun h => ?_)
              · have w := w.1 h
                refine E_iconst 94 dX6_readProduct_93 (by decide) rfl ?_
                refine E_istore_n (ls' := [(2, 6), (0, 0), (0, x2), (0, r23)]) 95 dX6_readProduct_94 (by decide) rfl rfl ?_
                refine E_iinc (ls' := [(2, 6), (0, 0), (0, w32 (x2 + 1)), (0, r23)]) 98 dX6_readProduct_95 (by decide) rfl rfl rfl ?_
                refine E_goto 7 dX6_readProduct_98 rfl ?_
                refine XX.fg [3] [(2, 6), (0, 0), (0, w32 (x2 + 1)), (9, 0)] rfl ?_
                with_reducible exact w
              · have w := w.2 h
                refine E_iconst 90 dX6_readProduct_89 (by decide) rfl ?_
                refine E_goto 94 dX6_readProduct_90 rfl ?_
                refine E_istore_n (ls' := [(2, 6), (0, 1), (0, x2), (0, r23)]) 95 dX6_readProduct_94 (by decide) rfl rfl ?_
                refine E_iinc (ls' := [(2, 6), (0, 1), (0, w32 (x2 + 1)), (0, r23)]) 98 dX6_readProduct_95 (by decide) rfl rfl rfl ?_
                refine E_goto 7 dX6_readProduct_98 rfl ?_
                refine XX.fg [3] [(2, 6), (0, 1), (0, w32 (x2 + 1)), (9, 0)] rfl ?_
                with_reducible exact w
          · have w := w.2 h
            refine E_aload_n 64 dX6_readProduct_63 rfl (ac_6.bnd) rfl ?_
            refine E_callV (as := []) 67 dX6_readProduct_64 cf_X6_isDivisor mw_755 mw_757 mw_17 ac_6 (by decide) cl_X6 rfl rfl (Nat.le_of_ble_eq_true rfl) (Nat.le_of_ble_eq_true rfl) ⟨Nat.le_refl _, Nat.le_refl _⟩ rfl (w.mono (fun r31 σ30 w => ?_))
            show XX g true (d + 1) P_X6_readProduct 67 [(2, 6), (0, x1), (0, x2), (0, r23)] [(0, r31)] 136 σ30 136 Q
            refine E_if_eq 70 93 dX6_readProduct_67 rfl rfl (fun h => ?_) (fun h => ?_)
            · have w := w.1 h
              refine E_iconst 94 dX6_readProduct_93 (by decide) rfl ?_
              refine E_istore_n (ls' := [(2, 6), (0, 0), (0, x2), (0, r23)]) 95 dX6_readProduct_94 (by decide) rfl rfl ?_
              refine E_iinc (ls' := [(2, 6), (0, 0), (0, w32 (x2 + 1)), (0, r23)]) 98 dX6_readProduct_95 (by decide) rfl rfl rfl ?_
              refine E_goto 7 dX6_readProduct_98 rfl ?_
              refine XX.fg [3] [(2, 6), (0, 0), (0, w32 (x2 + 1)), (9, 0)] rfl ?_
              with_reducible exact w
            · have w := w.2 h
              refine E_aload_n 71 dX6_readProduct_70 rfl (ac_6.bnd) rfl ?_
              refine E_callV (as := []) 74 dX6_readProduct_71 cf_X6_readUnit mw_743 mw_745 mw_15 ac_6 (by decide) cl_X6 rfl rfl (Nat.le_of_ble_eq_true rfl) (Nat.le_of_ble_eq_true rfl) ⟨Nat.le_refl _, Nat.le_refl _⟩ rfl (w.mono (fun r33 σ32 w => ?_))
              show XX g true (d + 1) P_X6_readProduct 74 [(2, 6), (0, x1), (0, x2), (0, r23)] [(0, r33)] 136 σ32 136 Q
              refine E_if_eq 77 93 dX6_readProduct_74 rfl rfl (fun h => ?_) (fun h => ?_)
              · have w := w.1 h
                refine E_iconst 94 dX6_readProduct_93 (by decide) rfl ?_
                refine E_istore_n (ls' := [(2, 6), (0, 0), (0, x2), (0, r23)]) 95 dX6_readProduct_94 (by decide) rfl rfl ?_
                refine E_iinc (ls' := [(2, 6), (0, 0), (0, w32 (x2 + 1)), (0, r23)]) 98 dX6_readProduct_95 (by decide) rfl rfl rfl ?_
                refine E_goto 7 dX6_readProduct_98 rfl ?_
                refine XX.fg [3] [(2, 6), (0, 0), (0, w32 (x2 + 1)), (9, 0)] rfl ?_
                with_reducible exact w
              · have w := w.2 h
                refine E_aload_n 78 dX6_readProduct_77 rfl (ac_6.bnd) rfl ?_
                refine E_getL 81 dX6_readProduct_78 fl_X6_12 ac_6 rfl (by decide) lay_6_1 rfl ?_
                refine E_iload_n 82 dX6_readProduct_81 rfl rfl ?_
                refine E_ineg 83 dX6_readProduct_82 rfl ?_
                refine E_callV (as := [(0, w32 (-r23))]) 86 dX6_readProduct_83 cf_X4_put mw_747 mw_748 mw_749 ac_7 (by decide) cl_X4 rfl rfl (Nat.le_of_ble_eq_true rfl) (Nat.le_of_ble_eq_true rfl) ⟨Nat.le_refl _, Nat.le_refl _⟩ rfl (w.mono (fun r35 σ34 w => ?_))
                show XX g true (d + 1) P_X6_readProduct 86 [(2, 6), (0, x1), (0, x2), (0, r23)] [(0, r35)] 136 σ34 136 Q
                refine E_if_eq 89 93 dX6_readProduct_86 rfl rfl (fun h => ?_) (fun h => ?_)
                · have w := w.1 h
                  refine E_iconst 94 dX6_readProduct_93 (by decide) rfl ?_
                  refine E_istore_n (ls' := [(2, 6), (0, 0), (0, x2), (0, r23)]) 95 dX6_readProduct_94 (by decide) rfl rfl ?_
                  refine E_iinc (ls' := [(2, 6), (0, 0), (0, w32 (x2 + 1)), (0, r23)]) 98 dX6_readProduct_95 (by decide) rfl rfl rfl ?_
                  refine E_goto 7 dX6_readProduct_98 rfl ?_
                  refine XX.fg [3] [(2, 6), (0, 0), (0, w32 (x2 + 1)), (9, 0)] rfl ?_
                  with_reducible exact w
                · have w := w.2 h
                  refine E_iconst 90 dX6_readProduct_89 (by decide) rfl ?_
                  refine E_goto 94 dX6_readProduct_90 rfl ?_
                  refine E_istore_n (ls' := [(2, 6), (0, 1), (0, x2), (0, r23)]) 95 dX6_readProduct_94 (by decide) rfl rfl ?_
                  refine E_iinc (ls' := [(2, 6), (0, 1), (0, w32 (x2 + 1)), (0, r23)]) 98 dX6_readProduct_95 (by decide) rfl rfl rfl ?_
                  refine E_goto 7 dX6_readProduct_98 rfl ?_
                  refine XX.fg [3] [(2, 6), (0, 1), (0, w32 (x2 + 1)), (9, 0)] rfl ?_
                  with_reducible exact w
