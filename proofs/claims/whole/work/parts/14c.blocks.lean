/-! BLOCKS, printed by a program of ours: what each stretch of a method asks -/
theorem B_X10_bestChange_0 {g : PG} {d : Nat} {σ : PS} {Q : Int → PS → Prop} {x1 q2 q3 q4 : Int} (hq2 : RowAt q2) (hq3 : RowAt q3) (hq4 : TxtAt q4) (w : XX g true d P_X7_copy 0 [(2, q3), (2, q2)] [] 136 σ 136 (fun _ σ1 => XX g true d P_X5_ofNow 0 [(2, 70), (2, q2), (2, q4), (9, 0)] [] 136 σ1 136 (fun r4 σ3 => (XX g true (d + 1) P_X10_bestChange 23 [(2, 86), (0, x1), (2, q2), (2, q3), (2, q4), (0, 0), (1, r4), (9, 0), (0, 1), (9, 0), (9, 0), (9, 0)] [] 136 σ3 136 Q)))) : XX g true (d + 1) P_X10_bestChange 0 [(2, 86), (0, x1), (2, q2), (2, q3), (2, q4), (9, 0), (9, 0), (9, 0), (9, 0), (9, 0), (9, 0), (9, 0)] [] 136 σ 136 Q := by
  refine E_aload_n 1 dX10_bestChange_0 rfl (RowB hq3) rfl ?_
  refine E_aload_n 2 dX10_bestChange_1 rfl (RowB hq2) rfl ?_
  refine E_callV (as := [(2, q2)]) 5 dX10_bestChange_2 cf_X7_copy mw_1017 mw_1018 mw_1019 (RowF0 hq3) (by decide) cl_X7 rfl rfl (Nat.le_of_ble_eq_true rfl) (Nat.le_of_ble_eq_true rfl) ⟨Nat.le_refl _, Nat.le_refl _⟩ rfl (w.mono (fun r2 σ1 w => ?_))
  show XX g true (d + 1) P_X10_bestChange 5 [(2, 86), (0, x1), (2, q2), (2, q3), (2, q4), (9, 0), (9, 0), (9, 0), (9, 0), (9, 0), (9, 0), (9, 0)] [] 136 σ1 136 Q
  refine E_iconst 6 dX10_bestChange_5 (by decide) rfl ?_
  refine E_istore (ls' := [(2, 86), (0, x1), (2, q2), (2, q3), (2, q4), (0, 0), (9, 0), (9, 0), (9, 0), (9, 0), (9, 0), (9, 0)]) 8 dX10_bestChange_6 (by decide) rfl rfl ?_
  refine E_aload_n 9 dX10_bestChange_8 rfl (ac_86.bnd) rfl ?_
  refine E_getL 12 dX10_bestChange_9 fl_X10_15 ac_86 rfl (by decide) lay_86_0 rfl ?_
  refine E_aload_n 13 dX10_bestChange_12 rfl (RowB hq2) rfl ?_
  refine E_aload 15 dX10_bestChange_13 rfl (TxtB hq4) rfl ?_
  refine E_callV (as := [(2, q2), (2, q4)]) 18 dX10_bestChange_15 cf_X5_ofNow mw_1022 mw_914 mw_915 ac_70 (by decide) cl_X5 rfl rfl (Nat.le_of_ble_eq_true rfl) (Nat.le_of_ble_eq_true rfl) ⟨Nat.le_refl _, Nat.le_refl _⟩ rfl (w.mono (fun r4 σ3 w => ?_))
  show XX g true (d + 1) P_X10_bestChange 18 [(2, 86), (0, x1), (2, q2), (2, q3), (2, q4), (0, 0), (9, 0), (9, 0), (9, 0), (9, 0), (9, 0), (9, 0)] [(1, r4)] 136 σ3 136 Q
  refine E_lstore (ls' := [(2, 86), (0, x1), (2, q2), (2, q3), (2, q4), (0, 0), (1, r4), (9, 0), (9, 0), (9, 0), (9, 0), (9, 0)]) 20 dX10_bestChange_18 (by decide) rfl rfl ?_
  refine E_iconst 21 dX10_bestChange_20 (by decide) rfl ?_
  refine E_istore (ls' := [(2, 86), (0, x1), (2, q2), (2, q3), (2, q4), (0, 0), (1, r4), (9, 0), (0, 1), (9, 0), (9, 0), (9, 0)]) 23 dX10_bestChange_21 (by decide) rfl rfl ?_
  with_reducible exact w
theorem B_X10_bestChange_23 {g : PG} {d : Nat} {σ : PS} {Q : Int → PS → Prop} {x1 x5 x6 x8 q2 q3 q4 : Int} (hq2 : RowAt q2) (hq3 : RowAt q3) (hq4 : TxtAt q4) (w : ((ishl 1 (σ q2 0) ≤ x8 → Q x5 σ) ∧ (x8 < ishl 1 (σ q2 0) → XX g true d P_J6_bitCount_0f7a4 0 [(0, x8)] [] 136 σ 136 (fun r2 σ1 => ((r2 ≤ x1 → XX g true d P_X10_renew 0 [(2, q3), (2, q2), (0, x8), (9, 0)] [] 136 σ1 136 (fun _ σ3 => XX g true d P_X5_ofNow 0 [(2, 70), (2, q3), (2, q4), (9, 0)] [] 136 σ3 136 (fun r6 σ5 => ((r6 < x6 → (XX g true (d + 1) P_X10_bestChange 23 [(2, 86), (0, x1), (2, q2), (2, q3), (2, q4), (0, x8), (1, r6), (9, 0), (0, w32 (x8 + 1)), (9, 0), (9, 0), (9, 0)] [] 136 σ5 136 Q)) ∧ (x6 ≤ r6 → ((r6 ≠ x6 → (XX g true (d + 1) P_X10_bestChange 23 [(2, 86), (0, x1), (2, q2), (2, q3), (2, q4), (0, x5), (1, x6), (9, 0), (0, w32 (x8 + 1)), (9, 0), (9, 0), (9, 0)] [] 136 σ5 136 Q)) ∧ (r6 = x6 → XX g true d P_J6_bitCount_0f7a4 0 [(0, x5)] [] 136 σ5 136 (fun r8 σ7 => ((r8 ≤ r2 → (XX g true (d + 1) P_X10_bestChange 23 [(2, 86), (0, x1), (2, q2), (2, q3), (2, q4), (0, x5), (1, x6), (9, 0), (0, w32 (x8 + 1)), (9, 0), (9, 0), (9, 0)] [] 136 σ7 136 Q)) ∧ (r2 < r8 → (XX g true (d + 1) P_X10_bestChange 23 [(2, 86), (0, x1), (2, q2), (2, q3), (2, q4), (0, x8), (1, r6), (9, 0), (0, w32 (x8 + 1)), (9, 0), (9, 0), (9, 0)] [] 136 σ7 136 Q))))))))))) ∧ (x1 < r2 → (XX g true (d + 1) P_X10_bestChange 23 [(2, 86), (0, x1), (2, q2), (2, q3), (2, q4), (0, x5), (1, x6), (9, 0), (0, w32 (x8 + 1)), (9, 0), (9, 0), (9, 0)] [] 136 σ1 136 Q))))))) : XX g true (d + 1) P_X10_bestChange 23 [(2, 86), (0, x1), (2, q2), (2, q3), (2, q4), (0, x5), (1, x6), (9, 0), (0, x8), (9, 0), (9, 0), (9, 0)] [] 136 σ 136 Q := by
  refine E_iload 25 dX10_bestChange_23 rfl rfl ?_
  refine E_iconst 26 dX10_bestChange_25 (by decide) rfl ?_
  refine E_aload_n 27 dX10_bestChange_26 rfl (RowB hq2) rfl ?_
  refine E_get 0 30 dX10_bestChange_27 fl_X10_31 (RowF0 hq2) rfl (by decide) rfl rfl ?_
  refine E_ishl 31 dX10_bestChange_30 rfl ?_
  refine E_icmp_ge 34 109 dX10_bestChange_31 rfl rfl (fun h => ?_) (fun h => ?_)
  · have w := w.1 h
    refine E_iload 111 dX10_bestChange_109 rfl rfl ?_
    exact E_iret dX10_bestChange_111 rfl rfl w
  · have w := w.2 h
    refine E_iload 36 dX10_bestChange_34 rfl rfl ?_
    refine E_callS (as := [(0, x8)]) 39 dX10_bestChange_36 cf_J6_bitCount_0f7a4 (Or.inl mw_1023) mw_714 rfl rfl (Nat.le_of_ble_eq_true rfl) (Nat.le_of_ble_eq_true rfl) ⟨Nat.le_refl _, Nat.le_refl _⟩ rfl (w.mono (fun r2 σ1 w => ?_))
    show XX g true (d + 1) P_X10_bestChange 39 [(2, 86), (0, x1), (2, q2), (2, q3), (2, q4), (0, x5), (1, x6), (9, 0), (0, x8), (9, 0), (9, 0), (9, 0)] [(0, r2)] 136 σ1 136 Q
    refine E_istore (ls' := [(2, 86), (0, x1), (2, q2), (2, q3), (2, q4), (0, x5), (1, x6), (9, 0), (0, x8), (0, r2), (9, 0), (9, 0)]) 41 dX10_bestChange_39 (by decide) rfl rfl ?_
    refine E_iload 43 dX10_bestChange_41 rfl rfl ?_
    refine E_iload_n 44 dX10_bestChange_43 rfl rfl ?_
    refine E_icmp_le 47 50 dX10_bestChange_44 rfl rfl (fun h => ?_) (fun h => ?_)
    · have w := w.1 h
      refine E_aload_n 51 dX10_bestChange_50 rfl (RowB hq3) rfl ?_
      refine E_aload_n 52 dX10_bestChange_51 rfl (RowB hq2) rfl ?_
      refine E_iload 54 dX10_bestChange_52 rfl rfl ?_
      refine E_callS (as := [(2, q3), (2, q2), (0, x8)]) 57 dX10_bestChange_54 cf_X10_renew (Or.inl mw_1024) mw_1025 rfl rfl (Nat.le_of_ble_eq_true rfl) (Nat.le_of_ble_eq_true rfl) ⟨Nat.le_refl _, Nat.le_refl _⟩ rfl (w.mono (fun r4 σ3 w => ?_))
      show XX g true (d + 1) P_X10_bestChange 57 [(2, 86), (0, x1), (2, q2), (2, q3), (2, q4), (0, x5), (1, x6), (9, 0), (0, x8), (0, r2), (9, 0), (9, 0)] [] 136 σ3 136 Q
      refine E_aload_n 58 dX10_bestChange_57 rfl (ac_86.bnd) rfl ?_
      refine E_getL 61 dX10_bestChange_58 fl_X10_15 ac_86 rfl (by decide) lay_86_0 rfl ?_
      refine E_aload_n 62 dX10_bestChange_61 rfl (RowB hq3) rfl ?_
      refine E_aload 64 dX10_bestChange_62 rfl (TxtB hq4) rfl ?_
      refine E_callV (as := [(2, q3), (2, q4)]) 67 dX10_bestChange_64 cf_X5_ofNow mw_1022 mw_914 mw_915 ac_70 (by decide) cl_X5 rfl rfl (Nat.le_of_ble_eq_true rfl) (Nat.le_of_ble_eq_true rfl) ⟨Nat.le_refl _, Nat.le_refl _⟩ rfl (w.mono (fun r6 σ5 w => ?_))
      show XX g true (d + 1) P_X10_bestChange 67 [(2, 86), (0, x1), (2, q2), (2, q3), (2, q4), (0, x5), (1, x6), (9, 0), (0, x8), (0, r2), (9, 0), (9, 0)] [(1, r6)] 136 σ5 136 Q
      refine E_lstore (ls' := [(2, 86), (0, x1), (2, q2), (2, q3), (2, q4), (0, x5), (1, x6), (9, 0), (0, x8), (0, r2), (1, r6), (9, 0)]) 69 dX10_bestChange_67 (by decide) rfl rfl ?_
      refine E_lload 71 dX10_bestChange_69 rfl rfl ?_
      refine E_lload 73 dX10_bestChange_71 rfl rfl ?_
      refine E_lcmp 74 dX10_bestChange_73 rfl ?_
      refine E_if_lt 77 95 dX10_bestChange_74 rfl rfl (fun h => ?_) (fun h => ?_)
      · have w := w.1 ((lc_lt _ _).mp h)
        refine E_iload 97 dX10_bestChange_95 rfl rfl ?_
        refine E_istore (ls' := [(2, 86), (0, x1), (2, q2), (2, q3), (2, q4), (0, x8), (1, x6), (9, 0), (0, x8), (0, r2), (1, r6), (9, 0)]) 99 dX10_bestChange_97 (by decide) rfl rfl ?_
        refine E_lload 101 dX10_bestChange_99 rfl rfl ?_
        refine E_lstore (ls' := [(2, 86), (0, x1), (2, q2), (2, q3), (2, q4), (0, x8), (1, r6), (9, 0), (0, x8), (0, r2), (1, r6), (9, 0)]) 103 dX10_bestChange_101 (by decide) rfl rfl ?_
        refine E_iinc (ls' := [(2, 86), (0, x1), (2, q2), (2, q3), (2, q4), (0, x8), (1, r6), (9, 0), (0, w32 (x8 + 1)), (0, r2), (1, r6), (9, 0)]) 106 dX10_bestChange_103 (by decide) rfl rfl rfl ?_
        refine E_goto 23 dX10_bestChange_106 rfl ?_
        refine XX.fg [9, 10] [(2, 86), (0, x1), (2, q2), (2, q3), (2, q4), (0, x8), (1, r6), (9, 0), (0, w32 (x8 + 1)), (9, 0), (9, 0), (9, 0)] rfl ?_
        with_reducible exact w
      · have w := w.2 ((lc_ge _ _).mp h)
        refine E_lload 79 dX10_bestChange_77 rfl rfl ?_
        refine E_lload 81 dX10_bestChange_79 rfl rfl ?_
        refine E_lcmp 82 dX10_bestChange_81 rfl ?_
        refine E_if_ne 85 103 dX10_bestChange_82 rfl rfl (fun h => ?_) (fun h => ?_)
        · have w := w.1 ((lc_ne _ _).mp h)
          refine E_iinc (ls' := [(2, 86), (0, x1), (2, q2), (2, q3), (2, q4), (0, x5), (1, x6), (9, 0), (0, w32 (x8 + 1)), (0, r2), (1, r6), (9, 0)]) 106 dX10_bestChange_103 (by decide) rfl rfl rfl ?_
          refine E_goto 23 dX10_bestChange_106 rfl ?_
          refine XX.fg [9, 10] [(2, 86), (0, x1), (2, q2), (2, q3), (2, q4), (0, x5), (1, x6), (9, 0), (0, w32 (x8 + 1)), (9, 0), (9, 0), (9, 0)] rfl ?_
          with_reducible exact w
        · have w := w.2 ((lc_eq _ _).mp h)
          refine E_iload 87 dX10_bestChange_85 rfl rfl ?_
          refine E_iload 89 dX10_bestChange_87 rfl rfl ?_
          refine E_callS (as := [(0, x5)]) 92 dX10_bestChange_89 cf_J6_bitCount_0f7a4 (Or.inl mw_1023) mw_714 rfl rfl (Nat.le_of_ble_eq_true rfl) (Nat.le_of_ble_eq_true rfl) ⟨Nat.le_refl _, Nat.le_refl _⟩ rfl (w.mono (fun r8 σ7 w => ?_))
          show XX g true (d + 1) P_X10_bestChange 92 [(2, 86), (0, x1), (2, q2), (2, q3), (2, q4), (0, x5), (1, x6), (9, 0), (0, x8), (0, r2), (1, r6), (9, 0)] [(0, r8), (0, r2)] 136 σ7 136 Q
          refine E_icmp_ge 95 103 dX10_bestChange_92 rfl rfl (fun h => ?_) (fun h => ?_)
          · have w := w.1 h
            refine E_iinc (ls' := [(2, 86), (0, x1), (2, q2), (2, q3), (2, q4), (0, x5), (1, x6), (9, 0), (0, w32 (x8 + 1)), (0, r2), (1, r6), (9, 0)]) 106 dX10_bestChange_103 (by decide) rfl rfl rfl ?_
            refine E_goto 23 dX10_bestChange_106 rfl ?_
            refine XX.fg [9, 10] [(2, 86), (0, x1), (2, q2), (2, q3), (2, q4), (0, x5), (1, x6), (9, 0), (0, w32 (x8 + 1)), (9, 0), (9, 0), (9, 0)] rfl ?_
            with_reducible exact w
          · have w := w.2 h
            refine E_iload 97 dX10_bestChange_95 rfl rfl ?_
            refine E_istore (ls' := [(2, 86), (0, x1), (2, q2), (2, q3), (2, q4), (0, x8), (1, x6), (9, 0), (0, x8), (0, r2), (1, r6), (9, 0)]) 99 dX10_bestChange_97 (by decide) rfl rfl ?_
            refine E_lload 101 dX10_bestChange_99 rfl rfl ?_
            refine E_lstore (ls' := [(2, 86), (0, x1), (2, q2), (2, q3), (2, q4), (0, x8), (1, r6), (9, 0), (0, x8), (0, r2), (1, r6), (9, 0)]) 103 dX10_bestChange_101 (by decide) rfl rfl ?_
            refine E_iinc (ls' := [(2, 86), (0, x1), (2, q2), (2, q3), (2, q4), (0, x8), (1, r6), (9, 0), (0, w32 (x8 + 1)), (0, r2), (1, r6), (9, 0)]) 106 dX10_bestChange_103 (by decide) rfl rfl rfl ?_
            refine E_goto 23 dX10_bestChange_106 rfl ?_
            refine XX.fg [9, 10] [(2, 86), (0, x1), (2, q2), (2, q3), (2, q4), (0, x8), (1, r6), (9, 0), (0, w32 (x8 + 1)), (9, 0), (9, 0), (9, 0)] rfl ?_
            with_reducible exact w
    · have w := w.2 h
      refine E_goto 103 dX10_bestChange_47 rfl ?_
      refine E_iinc (ls' := [(2, 86), (0, x1), (2, q2), (2, q3), (2, q4), (0, x5), (1, x6), (9, 0), (0, w32 (x8 + 1)), (0, r2), (9, 0), (9, 0)]) 106 dX10_bestChange_103 (by decide) rfl rfl rfl ?_
      refine E_goto 23 dX10_bestChange_106 rfl ?_
      refine XX.fg [9] [(2, 86), (0, x1), (2, q2), (2, q3), (2, q4), (0, x5), (1, x6), (9, 0), (0, w32 (x8 + 1)), (9, 0), (9, 0), (9, 0)] rfl ?_
      with_reducible exact w
theorem B_X10_renew_0 {g : PG} {d : Nat} {σ : PS} {Q : Int → PS → Prop} {x2 q0 q1 : Int} (hq0 : RowAt q0) (hq1 : RowAt q1) (w : (XX g true (d + 1) P_X10_renew 17 [(2, q0), (2, q1), (0, x2), (0, 0)] [] 136 (su σ q0 5 (land (σ q1 5) (lxor x2 (-1)))) 136 Q)) : XX g true (d + 1) P_X10_renew 0 [(2, q0), (2, q1), (0, x2), (9, 0)] [] 136 σ 136 Q := by
  refine E_aload_n 1 dX10_renew_0 rfl (RowB hq0) rfl ?_
  refine E_aload_n 2 dX10_renew_1 rfl (RowB hq1) rfl ?_
  refine E_get 5 5 dX10_renew_2 fl_X10_45 (RowF0 hq1) rfl (by decide) rfl rfl ?_
  refine E_iload_n 6 dX10_renew_5 rfl rfl ?_
  refine E_i2l 7 dX10_renew_6 rfl ?_
  refine E_ldc2_w (x := (-1)) 10 dX10_renew_7 mw_1027 (by decide) (by unfold in64; decide) rfl ?_
  refine E_lxor 11 dX10_renew_10 rfl ?_
  refine E_land 12 dX10_renew_11 rfl ?_
  refine E_putJ 5 15 dX10_renew_12 fl_X10_45 (RowF0 hq0) rfl (by decide) (Or.inl rfl) rfl rfl ?_
  refine E_iconst 16 dX10_renew_15 (by decide) rfl ?_
  refine E_istore_n (ls' := [(2, q0), (2, q1), (0, x2), (0, 0)]) 17 dX10_renew_16 (by decide) rfl rfl ?_
  with_reducible exact w
theorem B_X10_renew_17 {g : PG} {d : Nat} {σ : PS} {Q : Int → PS → Prop} {x2 x3 q0 q1 : Int} (hq0 : RowAt q0) (hq1 : RowAt q1) (w : ((σ q1 0 ≤ x3 → Q 0 σ) ∧ (x3 < σ q1 0 → XX g true d P_X11_bit 0 [(1, x2), (9, 0), (0, x3)] [] 136 σ 136 (fun r2 σ1 => ((r2 ≠ 1 → (0 ≤ x3 ∧ x3 < 60) ∧ (XX g true (d + 1) P_X10_renew 17 [(2, q0), (2, q1), (0, x2), (0, w32 (x3 + 1))] [] 136 (su σ1 (q0 + 2) x3 (σ1 (q1 + 2) x3)) 136 Q)) ∧ (r2 = 1 → (0 ≤ x3 ∧ x3 < 60) ∧ (XX g true (d + 1) P_X10_renew 17 [(2, q0), (2, q1), (0, x2), (0, w32 (x3 + 1))] [] 136 (su σ1 (q0 + 2) x3 0) 136 Q))))))) : XX g true (d + 1) P_X10_renew 17 [(2, q0), (2, q1), (0, x2), (0, x3)] [] 136 σ 136 Q := by
  refine E_iload_n 18 dX10_renew_17 rfl rfl ?_
  refine E_aload_n 19 dX10_renew_18 rfl (RowB hq1) rfl ?_
  refine E_get 0 22 dX10_renew_19 fl_X10_31 (RowF0 hq1) rfl (by decide) rfl rfl ?_
  refine E_icmp_ge 25 57 dX10_renew_22 rfl rfl (fun h => ?_) (fun h => ?_)
  · have w := w.1 h
    exact E_vret dX10_renew_57 rfl rfl w
  · have w := w.2 h
    refine E_aload_n 26 dX10_renew_25 rfl (RowB hq0) rfl ?_
    refine E_getL 29 dX10_renew_26 fl_X10_51 (RowF0 hq0) rfl (by decide) (RowL2 hq0) rfl ?_
    refine E_iload_n 30 dX10_renew_29 rfl rfl ?_
    refine E_iload_n 31 dX10_renew_30 rfl rfl ?_
    refine E_i2l 32 dX10_renew_31 rfl ?_
    refine E_iload_n 33 dX10_renew_32 rfl rfl ?_
    refine E_callS (as := [(1, x2), (0, x3)]) 36 dX10_renew_33 cf_X11_bit (Or.inr nst_X10_54) mw_809 rfl rfl (Nat.le_of_ble_eq_true rfl) (Nat.le_of_ble_eq_true rfl) ⟨Nat.le_refl _, Nat.le_refl _⟩ rfl (w.mono (fun r2 σ1 w => ?_))
    show XX g true (d + 1) P_X10_renew 36 [(2, q0), (2, q1), (0, x2), (0, x3)] [(0, r2), (0, x3), (2, q0 + 2)] 136 σ1 136 Q
    refine E_iconst 37 dX10_renew_36 (by decide) rfl ?_
    refine E_icmp_ne 40 44 dX10_renew_37 rfl rfl (fun h => ?_) (fun h => ?_)
    · have w := w.1 h
      refine E_aload_n 45 dX10_renew_44 rfl (RowB hq1) rfl ?_
      refine E_getL 48 dX10_renew_45 fl_X10_51 (RowF0 hq1) rfl (by decide) (RowL2 hq1) rfl ?_
      refine E_iload_n 49 dX10_renew_48 rfl rfl ?_
      obtain ⟨c3, w⟩ := w
      refine E_iald 50 dX10_renew_49 (RowF2 hq1) c3 rfl ?_
      refine E_iast 51 dX10_renew_50 (RowF2 hq0) c3 rfl ?_
      refine E_iinc (ls' := [(2, q0), (2, q1), (0, x2), (0, w32 (x3 + 1))]) 54 dX10_renew_51 (by decide) rfl rfl rfl ?_
      refine E_goto 17 dX10_renew_54 rfl ?_
      with_reducible exact w
    · have w := w.2 h
      refine E_iconst 41 dX10_renew_40 (by decide) rfl ?_
      refine E_goto 50 dX10_renew_41 rfl ?_
      obtain ⟨c4, w⟩ := w
      refine E_iast 51 dX10_renew_50 (RowF2 hq0) c4 rfl ?_
      refine E_iinc (ls' := [(2, q0), (2, q1), (0, x2), (0, w32 (x3 + 1))]) 54 dX10_renew_51 (by decide) rfl rfl rfl ?_
      refine E_goto 17 dX10_renew_54 rfl ?_
      with_reducible exact w
theorem B_X10_bestOrder_0 {g : PG} {d : Nat} {σ : PS} {Q : Int → PS → Prop} {x1 q2 q3 q4 : Int} (hq2 : RowAt q2) (hq3 : RowAt q3) (hq4 : TxtAt q4) (w : XX g true d P_X7_copy 0 [(2, q3), (2, q2)] [] 136 σ 136 (fun _ σ1 => XX g true d P_J7_fill_53178 0 [(2, q3 + 2), (0, 0), (9, 0), (9, 0)] [] 136 (su σ1 q3 5 0) 136 (fun _ σ3 => XX g true d P_X10_sortUp 0 [(2, q3 + 1), (0, σ3 q2 0), (9, 0), (9, 0)] [] 136 σ3 136 (fun _ σ5 => (XX g true (d + 1) P_X10_bestOrder 37 [(2, 86), (0, x1), (2, q2), (2, q3), (2, q4), (1, 1000000000001), (9, 0), (0, 0), (9, 0), (9, 0)] [] 136 σ5 136 Q))))) : XX g true (d + 1) P_X10_bestOrder 0 [(2, 86), (0, x1), (2, q2), (2, q3), (2, q4), (9, 0), (9, 0), (9, 0), (9, 0), (9, 0)] [] 136 σ 136 Q := by
  refine E_aload_n 1 dX10_bestOrder_0 rfl (RowB hq3) rfl ?_
  refine E_aload_n 2 dX10_bestOrder_1 rfl (RowB hq2) rfl ?_
  refine E_callV (as := [(2, q2)]) 5 dX10_bestOrder_2 cf_X7_copy mw_1017 mw_1018 mw_1019 (RowF0 hq3) (by decide) cl_X7 rfl rfl (Nat.le_of_ble_eq_true rfl) (Nat.le_of_ble_eq_true rfl) ⟨Nat.le_refl _, Nat.le_refl _⟩ rfl (w.mono (fun r2 σ1 w => ?_))
  show XX g true (d + 1) P_X10_bestOrder 5 [(2, 86), (0, x1), (2, q2), (2, q3), (2, q4), (9, 0), (9, 0), (9, 0), (9, 0), (9, 0)] [] 136 σ1 136 Q
  refine E_aload_n 6 dX10_bestOrder_5 rfl (RowB hq3) rfl ?_
  refine E_lconst (x := 0) 7 dX10_bestOrder_6 rfl rfl ?_
  refine E_putJ 5 10 dX10_bestOrder_7 fl_X10_45 (RowF0 hq3) rfl (by decide) (Or.inl rfl) rfl rfl ?_
  refine E_aload_n 11 dX10_bestOrder_10 rfl (RowB hq3) rfl ?_
  refine E_getL 14 dX10_bestOrder_11 fl_X10_51 (RowF0 hq3) rfl (by decide) (RowL2 hq3) rfl ?_
  refine E_iconst 15 dX10_bestOrder_14 (by decide) rfl ?_
  refine E_callS (as := [(2, q3 + 2), (0, 0)]) 18 dX10_bestOrder_15 cf_J7_fill_53178 (Or.inl mw_1037) mw_211 rfl rfl (Nat.le_of_ble_eq_true rfl) (Nat.le_of_ble_eq_true rfl) ⟨Nat.le_refl _, Nat.le_refl _⟩ rfl (w.mono (fun r4 σ3 w => ?_))
  show XX g true (d + 1) P_X10_bestOrder 18 [(2, 86), (0, x1), (2, q2), (2, q3), (2, q4), (9, 0), (9, 0), (9, 0), (9, 0), (9, 0)] [] 136 σ3 136 Q
  refine E_aload_n 19 dX10_bestOrder_18 rfl (RowB hq3) rfl ?_
  refine E_getL 22 dX10_bestOrder_19 fl_X10_64 (RowF0 hq3) rfl (by decide) (RowL1 hq3) rfl ?_
  refine E_aload_n 23 dX10_bestOrder_22 rfl (RowB hq2) rfl ?_
  refine E_get 0 26 dX10_bestOrder_23 fl_X10_31 (RowF0 hq2) rfl (by decide) rfl rfl ?_
  refine E_callS (as := [(2, q3 + 1), (0, σ3 q2 0)]) 29 dX10_bestOrder_26 cf_X10_sortUp (Or.inl mw_1038) mw_1039 rfl rfl (Nat.le_of_ble_eq_true rfl) (Nat.le_of_ble_eq_true rfl) ⟨Nat.le_refl _, Nat.le_refl _⟩ rfl (w.mono (fun r6 σ5 w => ?_))
  show XX g true (d + 1) P_X10_bestOrder 29 [(2, 86), (0, x1), (2, q2), (2, q3), (2, q4), (9, 0), (9, 0), (9, 0), (9, 0), (9, 0)] [] 136 σ5 136 Q
  refine E_ldc2_w (x := 1000000000001) 32 dX10_bestOrder_29 mw_1044 (by decide) (by unfold in64; decide) rfl ?_
  refine E_lstore (ls' := [(2, 86), (0, x1), (2, q2), (2, q3), (2, q4), (1, 1000000000001), (9, 0), (9, 0), (9, 0), (9, 0)]) 34 dX10_bestOrder_32 (by decide) rfl rfl ?_
  refine E_iconst 35 dX10_bestOrder_34 (by decide) rfl ?_
  refine E_istore (ls' := [(2, 86), (0, x1), (2, q2), (2, q3), (2, q4), (1, 1000000000001), (9, 0), (0, 0), (9, 0), (9, 0)]) 37 dX10_bestOrder_35 (by decide) rfl rfl ?_
  with_reducible exact w
theorem B_X10_bestOrder_37 {g : PG} {d : Nat} {σ : PS} {Q : Int → PS → Prop} {x1 x5 x7 q2 q3 q4 : Int} (hq2 : RowAt q2) (hq3 : RowAt q3) (hq4 : TxtAt q4) (w : ((5040 ≤ x7 → ((7 ≤ x1 → Q (-1) σ) ∧ (x1 < 7 → (0 ≤ x1 ∧ x1 < 7) ∧ Q (σ 87 x1) σ))) ∧ (x7 < 5040 → XX g true d P_X5_ofNow 0 [(2, 70), (2, q3), (2, q4), (9, 0)] [] 136 σ 136 (fun r3 σ2 => ((x5 ≤ r3 → XX g true d P_X10_nextOrder 0 [(2, q3 + 1), (0, σ2 q2 0), (9, 0), (9, 0), (9, 0), (9, 0)] [] 136 σ2 136 (fun r5 σ4 => ((r5 ≠ 0 → (XX g true (d + 1) P_X10_bestOrder 37 [(2, 86), (0, x1), (2, q2), (2, q3), (2, q4), (1, x5), (9, 0), (0, w32 (x7 + 1)), (9, 0), (9, 0)] [] 136 σ4 136 Q)) ∧ (r5 = 0 → ((7 ≤ x1 → Q (-1) σ4) ∧ (x1 < 7 → (0 ≤ x1 ∧ x1 < 7) ∧ Q (σ4 87 x1) σ4)))))) ∧ (r3 < x5 → ((0 : Int) ≤ 0 ∧ (0 : Int) ≤ imin (σ2 q2 0) 7 ∧ (0 : Int) + imin (σ2 q2 0) 7 ≤ 60) ∧ ((0 : Int) ≤ 0 ∧ (0 : Int) + imin (σ2 q2 0) 7 ≤ 7) ∧ XX g true d P_X10_nextOrder 0 [(2, q3 + 1), (0, (cpS σ2 (q3 + 1) 0 87 0 (imin (σ2 q2 0) 7)) q2 0), (9, 0), (9, 0), (9, 0), (9, 0)] [] 136 (cpS σ2 (q3 + 1) 0 87 0 (imin (σ2 q2 0) 7)) 136 (fun r10 σ9 => ((r10 ≠ 0 → (XX g true (d + 1) P_X10_bestOrder 37 [(2, 86), (0, x1), (2, q2), (2, q3), (2, q4), (1, r3), (9, 0), (0, w32 (x7 + 1)), (9, 0), (9, 0)] [] 136 σ9 136 Q)) ∧ (r10 = 0 → ((7 ≤ x1 → Q (-1) σ9) ∧ (x1 < 7 → (0 ≤ x1 ∧ x1 < 7) ∧ Q (σ9 87 x1) σ9))))))))))) : XX g true (d + 1) P_X10_bestOrder 37 [(2, 86), (0, x1), (2, q2), (2, q3), (2, q4), (1, x5), (9, 0), (0, x7), (9, 0), (9, 0)] [] 136 σ 136 Q := by
  refine E_iload 39 dX10_bestOrder_37 rfl rfl ?_
  refine E_sipush 42 dX10_bestOrder_39 (by decide) rfl ?_
  refine E_icmp_ge 45 114 dX10_bestOrder_42 rfl rfl (fun h => ?_) (fun h => ?_)
  · have w := w.1 h
    refine E_iload_n 115 dX10_bestOrder_114 rfl rfl ?_
    refine E_bipush 117 dX10_bestOrder_115 (by decide) rfl ?_
    refine E_icmp_ge 120 129 dX10_bestOrder_117 rfl rfl (fun h => ?_) (fun h => ?_)
    · have w := w.1 h
      refine E_iconst 130 dX10_bestOrder_129 (by decide) rfl ?_
      exact E_iret dX10_bestOrder_130 rfl rfl w
    · have w := w.2 h
      refine E_aload_n 121 dX10_bestOrder_120 rfl (ac_86.bnd) rfl ?_
      refine E_getL 124 dX10_bestOrder_121 fl_X10_11 ac_86 rfl (by decide) lay_86_1 rfl ?_
      refine E_iload_n 125 dX10_bestOrder_124 rfl rfl ?_
      obtain ⟨c1, w⟩ := w
      refine E_iald 126 dX10_bestOrder_125 ac_87 c1 rfl ?_
      refine E_goto 130 dX10_bestOrder_126 rfl ?_
      exact E_iret dX10_bestOrder_130 rfl rfl w
  · have w := w.2 h
    refine E_aload_n 46 dX10_bestOrder_45 rfl (ac_86.bnd) rfl ?_
    refine E_getL 49 dX10_bestOrder_46 fl_X10_15 ac_86 rfl (by decide) lay_86_0 rfl ?_
    refine E_aload_n 50 dX10_bestOrder_49 rfl (RowB hq3) rfl ?_
    refine E_aload 52 dX10_bestOrder_50 rfl (TxtB hq4) rfl ?_
    refine E_callV (as := [(2, q3), (2, q4)]) 55 dX10_bestOrder_52 cf_X5_ofNow mw_1022 mw_914 mw_915 ac_70 (by decide) cl_X5 rfl rfl (Nat.le_of_ble_eq_true rfl) (Nat.le_of_ble_eq_true rfl) ⟨Nat.le_refl _, Nat.le_refl _⟩ rfl (w.mono (fun r3 σ2 w => ?_))
    show XX g true (d + 1) P_X10_bestOrder 55 [(2, 86), (0, x1), (2, q2), (2, q3), (2, q4), (1, x5), (9, 0), (0, x7), (9, 0), (9, 0)] [(1, r3)] 136 σ2 136 Q
    refine E_lstore (ls' := [(2, 86), (0, x1), (2, q2), (2, q3), (2, q4), (1, x5), (9, 0), (0, x7), (1, r3), (9, 0)]) 57 dX10_bestOrder_55 (by decide) rfl rfl ?_
    refine E_lload 59 dX10_bestOrder_57 rfl rfl ?_
    refine E_lload 61 dX10_bestOrder_59 rfl rfl ?_
    refine E_lcmp 62 dX10_bestOrder_61 rfl ?_
    refine E_if_ge 65 91 dX10_bestOrder_62 rfl rfl (fun h => ?_) (fun h => ?_)
    · have w := w.1 ((lc_ge _ _).mp h)
      refine E_aload_n 92 dX10_bestOrder_91 rfl (RowB hq3) rfl ?_
      refine E_getL 95 dX10_bestOrder_92 fl_X10_64 (RowF0 hq3) rfl (by decide) (RowL1 hq3) rfl ?_
      refine E_aload_n 96 dX10_bestOrder_95 rfl (RowB hq2) rfl ?_
      refine E_get 0 99 dX10_bestOrder_96 fl_X10_31 (RowF0 hq2) rfl (by decide) rfl rfl ?_
      refine E_callS (as := [(2, q3 + 1), (0, σ2 q2 0)]) 102 dX10_bestOrder_99 cf_X10_nextOrder (Or.inl mw_1047) mw_1048 rfl rfl (Nat.le_of_ble_eq_true rfl) (Nat.le_of_ble_eq_true rfl) ⟨Nat.le_refl _, Nat.le_refl _⟩ rfl (w.mono (fun r5 σ4 w => ?_))
      show XX g true (d + 1) P_X10_bestOrder 102 [(2, 86), (0, x1), (2, q2), (2, q3), (2, q4), (1, x5), (9, 0), (0, x7), (1, r3), (9, 0)] [(0, r5)] 136 σ4 136 Q
      refine E_if_ne 105 108 dX10_bestOrder_102 rfl rfl (fun h => ?_) (fun h => ?_)
      · have w := w.1 h
        refine E_iinc (ls' := [(2, 86), (0, x1), (2, q2), (2, q3), (2, q4), (1, x5), (9, 0), (0, w32 (x7 + 1)), (1, r3), (9, 0)]) 111 dX10_bestOrder_108 (by decide) rfl rfl rfl ?_
        refine E_goto 37 dX10_bestOrder_111 rfl ?_
        refine XX.fg [8] [(2, 86), (0, x1), (2, q2), (2, q3), (2, q4), (1, x5), (9, 0), (0, w32 (x7 + 1)), (9, 0), (9, 0)] rfl ?_
        with_reducible exact w
      · have w := w.2 h
        refine E_goto 114 dX10_bestOrder_105 rfl ?_
        refine E_iload_n 115 dX10_bestOrder_114 rfl rfl ?_
        refine E_bipush 117 dX10_bestOrder_115 (by decide) rfl ?_
        refine E_icmp_ge 120 129 dX10_bestOrder_117 rfl rfl (fun h => ?_) (fun h => ?_)
        · have w := w.1 h
          refine E_iconst 130 dX10_bestOrder_129 (by decide) rfl ?_
          exact E_iret dX10_bestOrder_130 rfl rfl w
        · have w := w.2 h
          refine E_aload_n 121 dX10_bestOrder_120 rfl (ac_86.bnd) rfl ?_
          refine E_getL 124 dX10_bestOrder_121 fl_X10_11 ac_86 rfl (by decide) lay_86_1 rfl ?_
          refine E_iload_n 125 dX10_bestOrder_124 rfl rfl ?_
          obtain ⟨c6, w⟩ := w
          refine E_iald 126 dX10_bestOrder_125 ac_87 c6 rfl ?_
          refine E_goto 130 dX10_bestOrder_126 rfl ?_
          exact E_iret dX10_bestOrder_130 rfl rfl w
    · have w := w.2 ((lc_lt _ _).mp h)
      refine E_lload 67 dX10_bestOrder_65 rfl rfl ?_
      refine E_lstore (ls' := [(2, 86), (0, x1), (2, q2), (2, q3), (2, q4), (1, r3), (9, 0), (0, x7), (1, r3), (9, 0)]) 69 dX10_bestOrder_67 (by decide) rfl rfl ?_
      refine E_aload_n 70 dX10_bestOrder_69 rfl (RowB hq3) rfl ?_
      refine E_getL 73 dX10_bestOrder_70 fl_X10_64 (RowF0 hq3) rfl (by decide) (RowL1 hq3) rfl ?_
      refine E_iconst 74 dX10_bestOrder_73 (by decide) rfl ?_
      refine E_aload_n 75 dX10_bestOrder_74 rfl (ac_86.bnd) rfl ?_
      refine E_getL 78 dX10_bestOrder_75 fl_X10_11 ac_86 rfl (by decide) lay_86_1 rfl ?_
      refine E_iconst 79 dX10_bestOrder_78 (by decide) rfl ?_
      refine E_aload_n 80 dX10_bestOrder_79 rfl (RowB hq2) rfl ?_
      refine E_get 0 83 dX10_bestOrder_80 fl_X10_31 (RowF0 hq2) rfl (by decide) rfl rfl ?_
      refine E_bipush 85 dX10_bestOrder_83 (by decide) rfl ?_
      refine E_mmin 88 dX10_bestOrder_85 mw_1045 (Nat.le_of_ble_eq_true rfl) (Nat.le_refl _) rfl ?_
      obtain ⟨c7, w⟩ := w
      obtain ⟨c8, w⟩ := w
      refine E_copy 91 dX10_bestOrder_88 mw_1046 mw_789 mw_788 mw_127 (RowF1 hq3) ac_87 c7 c8 (Nat.le_of_ble_eq_true rfl) rfl ?_
      refine E_aload_n 92 dX10_bestOrder_91 rfl (RowB hq3) rfl ?_
      refine E_getL 95 dX10_bestOrder_92 fl_X10_64 (RowF0 hq3) rfl (by decide) (RowL1 hq3) rfl ?_
      refine E_aload_n 96 dX10_bestOrder_95 rfl (RowB hq2) rfl ?_
      refine E_get 0 99 dX10_bestOrder_96 fl_X10_31 (RowF0 hq2) rfl (by decide) rfl rfl ?_
      refine E_callS (as := [(2, q3 + 1), (0, (cpS σ2 (q3 + 1) 0 87 0 (imin (σ2 q2 0) 7)) q2 0)]) 102 dX10_bestOrder_99 cf_X10_nextOrder (Or.inl mw_1047) mw_1048 rfl rfl (Nat.le_of_ble_eq_true rfl) (Nat.le_of_ble_eq_true rfl) ⟨Nat.le_refl _, Nat.le_refl _⟩ rfl (w.mono (fun r10 σ9 w => ?_))
      show XX g true (d + 1) P_X10_bestOrder 102 [(2, 86), (0, x1), (2, q2), (2, q3), (2, q4), (1, r3), (9, 0), (0, x7), (1, r3), (9, 0)] [(0, r10)] 136 σ9 136 Q
      refine E_if_ne 105 108 dX10_bestOrder_102 rfl rfl (fun h => ?_) (fun h => ?_)
      · have w := w.1 h
        refine E_iinc (ls' := [(2, 86), (0, x1), (2, q2), (2, q3), (2, q4), (1, r3), (9, 0), (0, w32 (x7 + 1)), (1, r3), (9, 0)]) 111 dX10_bestOrder_108 (by decide) rfl rfl rfl ?_
        refine E_goto 37 dX10_bestOrder_111 rfl ?_
        refine XX.fg [8] [(2, 86), (0, x1), (2, q2), (2, q3), (2, q4), (1, r3), (9, 0), (0, w32 (x7 + 1)), (9, 0), (9, 0)] rfl ?_
        with_reducible exact w
      · have w := w.2 h
        refine E_goto 114 dX10_bestOrder_105 rfl ?_
        refine E_iload_n 115 dX10_bestOrder_114 rfl rfl ?_
        refine E_bipush 117 dX10_bestOrder_115 (by decide) rfl ?_
        refine E_icmp_ge 120 129 dX10_bestOrder_117 rfl rfl (fun h => ?_) (fun h => ?_)
        · have w := w.1 h
          refine E_iconst 130 dX10_bestOrder_129 (by decide) rfl ?_
          exact E_iret dX10_bestOrder_130 rfl rfl w
        · have w := w.2 h
          refine E_aload_n 121 dX10_bestOrder_120 rfl (ac_86.bnd) rfl ?_
          refine E_getL 124 dX10_bestOrder_121 fl_X10_11 ac_86 rfl (by decide) lay_86_1 rfl ?_
          refine E_iload_n 125 dX10_bestOrder_124 rfl rfl ?_
          obtain ⟨c11, w⟩ := w
          refine E_iald 126 dX10_bestOrder_125 ac_87 c11 rfl ?_
          refine E_goto 130 dX10_bestOrder_126 rfl ?_
          exact E_iret dX10_bestOrder_130 rfl rfl w
theorem B_X10_sortUp_0 {g : PG} {d : Nat} {σ : PS} {Q : Int → PS → Prop} {x1 : Int}  (w : (XX g true (d + 1) P_X10_sortUp 2 [(2, 60), (0, x1), (0, 1), (9, 0)] [] 136 σ 136 Q)) : XX g true (d + 1) P_X10_sortUp 0 [(2, 60), (0, x1), (9, 0), (9, 0)] [] 136 σ 136 Q := by
  refine E_iconst 1 dX10_sortUp_0 (by decide) rfl ?_
  refine E_istore_n (ls' := [(2, 60), (0, x1), (0, 1), (9, 0)]) 2 dX10_sortUp_1 (by decide) rfl rfl ?_
  with_reducible exact w
theorem B_X10_sortUp_2 {g : PG} {d : Nat} {σ : PS} {Q : Int → PS → Prop} {x1 x2 : Int}  (w : ((x1 ≤ x2 → Q 0 σ) ∧ (x2 < x1 → (XX g true (d + 1) P_X10_sortUp 9 [(2, 60), (0, x1), (0, x2), (0, x2)] [] 136 σ 136 Q)))) : XX g true (d + 1) P_X10_sortUp 2 [(2, 60), (0, x1), (0, x2), (9, 0)] [] 136 σ 136 Q := by
  refine E_iload_n 3 dX10_sortUp_2 rfl rfl ?_
  refine E_iload_n 4 dX10_sortUp_3 rfl rfl ?_
  refine E_icmp_ge 7 44 dX10_sortUp_4 rfl rfl (fun h => ?_) (fun h => ?_)
  · have w := w.1 h
    exact E_vret dX10_sortUp_44 rfl rfl w
  · have w := w.2 h
    refine E_iload_n 8 dX10_sortUp_7 rfl rfl ?_
    refine E_istore_n (ls' := [(2, 60), (0, x1), (0, x2), (0, x2)]) 9 dX10_sortUp_8 (by decide) rfl rfl ?_
    with_reducible exact w
theorem B_X10_sortUp_9 {g : PG} {d : Nat} {σ : PS} {Q : Int → PS → Prop} {x1 x2 x3 : Int}  (w : ((x3 ≤ 0 → (XX g true (d + 1) P_X10_sortUp 2 [(2, 60), (0, x1), (0, w32 (x2 + 1)), (9, 0)] [] 136 σ 136 Q)) ∧ (0 < x3 → (0 ≤ w32 (x3 - 1) ∧ w32 (x3 - 1) < 60) ∧ (0 ≤ x3 ∧ x3 < 60) ∧ ((σ 60 (w32 (x3 - 1)) ≤ σ 60 x3 → (XX g true (d + 1) P_X10_sortUp 2 [(2, 60), (0, x1), (0, w32 (x2 + 1)), (9, 0)] [] 136 σ 136 Q)) ∧ (σ 60 x3 < σ 60 (w32 (x3 - 1)) → XX g true d P_X10_swap 0 [(2, 60), (0, w32 (x3 - 1)), (0, x3), (9, 0)] [] 136 σ 136 (fun _ σ3 => (XX g true (d + 1) P_X10_sortUp 9 [(2, 60), (0, x1), (0, x2), (0, w32 (x3 + (-1)))] [] 136 σ3 136 Q))))))) : XX g true (d + 1) P_X10_sortUp 9 [(2, 60), (0, x1), (0, x2), (0, x3)] [] 136 σ 136 Q := by
  refine E_iload_n 10 dX10_sortUp_9 rfl rfl ?_
  refine E_if_le 13 38 dX10_sortUp_10 rfl rfl (fun h => ?_) (fun h => ?_)
  · have w := w.1 h
    refine E_iinc (ls' := [(2, 60), (0, x1), (0, w32 (x2 + 1)), (0, x3)]) 41 dX10_sortUp_38 (by decide) rfl rfl rfl ?_
    refine E_goto 2 dX10_sortUp_41 rfl ?_
    refine XX.fg [3] [(2, 60), (0, x1), (0, w32 (x2 + 1)), (9, 0)] rfl ?_
    with_reducible exact w
  · have w := w.2 h
    refine E_aload_n 14 dX10_sortUp_13 rfl (ac_60.bnd) rfl ?_
    refine E_iload_n 15 dX10_sortUp_14 rfl rfl ?_
    refine E_iconst 16 dX10_sortUp_15 (by decide) rfl ?_
    refine E_isub 17 dX10_sortUp_16 rfl ?_
    obtain ⟨c1, w⟩ := w
    refine E_iald 18 dX10_sortUp_17 ac_60 c1 rfl ?_
    refine E_aload_n 19 dX10_sortUp_18 rfl (ac_60.bnd) rfl ?_
    refine E_iload_n 20 dX10_sortUp_19 rfl rfl ?_
    obtain ⟨c2, w⟩ := w
    refine E_iald 21 dX10_sortUp_20 ac_60 c2 rfl ?_
    refine E_icmp_le 24 38 dX10_sortUp_21 rfl rfl (fun h => ?_) (fun h => ?_)
    · have w := w.1 h
      refine E_iinc (ls' := [(2, 60), (0, x1), (0, w32 (x2 + 1)), (0, x3)]) 41 dX10_sortUp_38 (by decide) rfl rfl rfl ?_
      refine E_goto 2 dX10_sortUp_41 rfl ?_
      refine XX.fg [3] [(2, 60), (0, x1), (0, w32 (x2 + 1)), (9, 0)] rfl ?_
      with_reducible exact w
    · have w := w.2 h
      refine E_aload_n 25 dX10_sortUp_24 rfl (ac_60.bnd) rfl ?_
      refine E_iload_n 26 dX10_sortUp_25 rfl rfl ?_
      refine E_iconst 27 dX10_sortUp_26 (by decide) rfl ?_
      refine E_isub 28 dX10_sortUp_27 rfl ?_
      refine E_iload_n 29 dX10_sortUp_28 rfl rfl ?_
      refine E_callS (as := [(2, 60), (0, w32 (x3 - 1)), (0, x3)]) 32 dX10_sortUp_29 cf_X10_swap (Or.inl mw_1041) mw_1042 rfl rfl (Nat.le_of_ble_eq_true rfl) (Nat.le_of_ble_eq_true rfl) ⟨Nat.le_refl _, Nat.le_refl _⟩ rfl (w.mono (fun r4 σ3 w => ?_))
      show XX g true (d + 1) P_X10_sortUp 32 [(2, 60), (0, x1), (0, x2), (0, x3)] [] 136 σ3 136 Q
      refine E_iinc (ls' := [(2, 60), (0, x1), (0, x2), (0, w32 (x3 + (-1)))]) 35 dX10_sortUp_32 (by decide) rfl rfl rfl ?_
      refine E_goto 9 dX10_sortUp_35 rfl ?_
      with_reducible exact w
theorem B_X10_nextOrder_0 {g : PG} {d : Nat} {σ : PS} {Q : Int → PS → Prop} {x1 : Int}  (w : ∀ y1, y1 = w32 (x1 - 2) → (XX g true (d + 1) P_X10_nextOrder 4 [(2, 60), (0, x1), (0, y1), (9, 0), (9, 0), (9, 0)] [] 136 σ 136 Q)) : XX g true (d + 1) P_X10_nextOrder 0 [(2, 60), (0, x1), (9, 0), (9, 0), (9, 0), (9, 0)] [] 136 σ 136 Q := by
  refine E_iload_n 1 dX10_nextOrder_0 rfl rfl ?_
  refine E_iconst 2 dX10_nextOrder_1 (by decide) rfl ?_
  refine E_isub 3 dX10_nextOrder_2 rfl ?_
  refine E_top (fun y1 hy1 => ?_)
  have w := w y1 hy1
  refine E_istore_n (ls' := [(2, 60), (0, x1), (0, y1), (9, 0), (9, 0), (9, 0)]) 4 dX10_nextOrder_3 (by decide) rfl rfl ?_
  with_reducible exact w
theorem B_X10_nextOrder_4 {g : PG} {d : Nat} {σ : PS} {Q : Int → PS → Prop} {x1 x2 : Int}  (w : ((x2 < 0 → ((0 ≤ x2 → ∀ y1, y1 = w32 (x1 - 1) → (XX g true (d + 1) P_X10_nextOrder 35 [(2, 60), (0, x1), (0, x2), (0, y1), (9, 0), (9, 0)] [] 136 σ 136 Q)) ∧ (x2 < 0 → Q 0 σ))) ∧ (0 ≤ x2 → (0 ≤ x2 ∧ x2 < 60) ∧ (0 ≤ w32 (x2 + 1) ∧ w32 (x2 + 1) < 60) ∧ ((σ 60 x2 < σ 60 (w32 (x2 + 1)) → ((0 ≤ x2 → ∀ y4, y4 = w32 (x1 - 1) → (XX g true (d + 1) P_X10_nextOrder 35 [(2, 60), (0, x1), (0, x2), (0, y4), (9, 0), (9, 0)] [] 136 σ 136 Q)) ∧ (x2 < 0 → Q 0 σ))) ∧ (σ 60 (w32 (x2 + 1)) ≤ σ 60 x2 → (XX g true (d + 1) P_X10_nextOrder 4 [(2, 60), (0, x1), (0, w32 (x2 + (-1))), (9, 0), (9, 0), (9, 0)] [] 136 σ 136 Q)))))) : XX g true (d + 1) P_X10_nextOrder 4 [(2, 60), (0, x1), (0, x2), (9, 0), (9, 0), (9, 0)] [] 136 σ 136 Q := by
  refine E_iload_n 5 dX10_nextOrder_4 rfl rfl ?_
  refine E_if_lt 8 25 dX10_nextOrder_5 rfl rfl (fun h => ?_) (fun h => ?_)
  · have w := w.1 h
    refine E_iload_n 26 dX10_nextOrder_25 rfl rfl ?_
    refine E_if_ge 29 31 dX10_nextOrder_26 rfl rfl (fun h => ?_) (fun h => ?_)
    · have w := w.1 h
      refine E_iload_n 32 dX10_nextOrder_31 rfl rfl ?_
      refine E_iconst 33 dX10_nextOrder_32 (by decide) rfl ?_
      refine E_isub 34 dX10_nextOrder_33 rfl ?_
      refine E_top (fun y1 hy1 => ?_)
      have w := w y1 hy1
      refine E_istore_n (ls' := [(2, 60), (0, x1), (0, x2), (0, y1), (9, 0), (9, 0)]) 35 dX10_nextOrder_34 (by decide) rfl rfl ?_
      with_reducible exact w
    · have w := w.2 h
      refine E_iconst 30 dX10_nextOrder_29 (by decide) rfl ?_
      exact E_zret dX10_nextOrder_30 rfl rfl (Or.inl rfl) w
  · have w := w.2 h
    refine E_aload_n 9 dX10_nextOrder_8 rfl (ac_60.bnd) rfl ?_
    refine E_iload_n 10 dX10_nextOrder_9 rfl rfl ?_
    obtain ⟨c2, w⟩ := w
    refine E_iald 11 dX10_nextOrder_10 ac_60 c2 rfl ?_
    refine E_aload_n 12 dX10_nextOrder_11 rfl (ac_60.bnd) rfl ?_
    refine E_iload_n 13 dX10_nextOrder_12 rfl rfl ?_
    refine E_iconst 14 dX10_nextOrder_13 (by decide) rfl ?_
    refine E_iadd 15 dX10_nextOrder_14 rfl ?_
    obtain ⟨c3, w⟩ := w
    refine E_iald 16 dX10_nextOrder_15 ac_60 c3 rfl ?_
    refine E_icmp_lt 19 25 dX10_nextOrder_16 rfl rfl (fun h => ?_) (fun h => ?_)
    · have w := w.1 h
      refine E_iload_n 26 dX10_nextOrder_25 rfl rfl ?_
      refine E_if_ge 29 31 dX10_nextOrder_26 rfl rfl (fun h => ?_) (fun h => ?_)
      · have w := w.1 h
        refine E_iload_n 32 dX10_nextOrder_31 rfl rfl ?_
        refine E_iconst 33 dX10_nextOrder_32 (by decide) rfl ?_
        refine E_isub 34 dX10_nextOrder_33 rfl ?_
        refine E_top (fun y4 hy4 => ?_)
        have w := w y4 hy4
        refine E_istore_n (ls' := [(2, 60), (0, x1), (0, x2), (0, y4), (9, 0), (9, 0)]) 35 dX10_nextOrder_34 (by decide) rfl rfl ?_
        with_reducible exact w
      · have w := w.2 h
        refine E_iconst 30 dX10_nextOrder_29 (by decide) rfl ?_
        exact E_zret dX10_nextOrder_30 rfl rfl (Or.inl rfl) w
    · have w := w.2 h
      refine E_iinc (ls' := [(2, 60), (0, x1), (0, w32 (x2 + (-1))), (9, 0), (9, 0), (9, 0)]) 22 dX10_nextOrder_19 (by decide) rfl rfl rfl ?_
      refine E_goto 4 dX10_nextOrder_22 rfl ?_
      with_reducible exact w
theorem B_X10_nextOrder_35 {g : PG} {d : Nat} {σ : PS} {Q : Int → PS → Prop} {x1 x2 x3 : Int}  (w : ((x3 ≤ x2 → XX g true d P_X10_swap 0 [(2, 60), (0, x2), (0, x3), (9, 0)] [] 136 σ 136 (fun _ σ1 => ∀ y3, y3 = w32 (x2 + 1) → ∀ y4, y4 = w32 (x1 - 1) → (XX g true (d + 1) P_X10_nextOrder 71 [(2, 60), (9, 0), (9, 0), (9, 0), (0, y3), (0, y4)] [] 136 σ1 136 Q))) ∧ (x2 < x3 → (0 ≤ x3 ∧ x3 < 60) ∧ (0 ≤ x2 ∧ x2 < 60) ∧ ((σ 60 x2 < σ 60 x3 → XX g true d P_X10_swap 0 [(2, 60), (0, x2), (0, x3), (9, 0)] [] 136 σ 136 (fun _ σ7 => ∀ y9, y9 = w32 (x2 + 1) → ∀ y10, y10 = w32 (x1 - 1) → (XX g true (d + 1) P_X10_nextOrder 71 [(2, 60), (9, 0), (9, 0), (9, 0), (0, y9), (0, y10)] [] 136 σ7 136 Q))) ∧ (σ 60 x3 ≤ σ 60 x2 → (XX g true (d + 1) P_X10_nextOrder 35 [(2, 60), (0, x1), (0, x2), (0, w32 (x3 + (-1))), (9, 0), (9, 0)] [] 136 σ 136 Q)))))) : XX g true (d + 1) P_X10_nextOrder 35 [(2, 60), (0, x1), (0, x2), (0, x3), (9, 0), (9, 0)] [] 136 σ 136 Q := by
  refine E_iload_n 36 dX10_nextOrder_35 rfl rfl ?_
  refine E_iload_n 37 dX10_nextOrder_36 rfl rfl ?_
  refine E_icmp_le 40 55 dX10_nextOrder_37 rfl rfl (fun h => ?_) (fun h => ?_)
  · have w := w.1 h
    refine E_aload_n 56 dX10_nextOrder_55 rfl (ac_60.bnd) rfl ?_
    refine E_iload_n 57 dX10_nextOrder_56 rfl rfl ?_
    refine E_iload_n 58 dX10_nextOrder_57 rfl rfl ?_
    refine E_callS (as := [(2, 60), (0, x2), (0, x3)]) 61 dX10_nextOrder_58 cf_X10_swap (Or.inl mw_1041) mw_1042 rfl rfl (Nat.le_of_ble_eq_true rfl) (Nat.le_of_ble_eq_true rfl) ⟨Nat.le_refl _, Nat.le_refl _⟩ rfl (w.mono (fun r2 σ1 w => ?_))
    show XX g true (d + 1) P_X10_nextOrder 61 [(2, 60), (0, x1), (0, x2), (0, x3), (9, 0), (9, 0)] [] 136 σ1 136 Q
    refine E_iload_n 62 dX10_nextOrder_61 rfl rfl ?_
    refine E_iconst 63 dX10_nextOrder_62 (by decide) rfl ?_
    refine E_iadd 64 dX10_nextOrder_63 rfl ?_
    refine E_top (fun y3 hy3 => ?_)
    have w := w y3 hy3
    refine E_istore (ls' := [(2, 60), (0, x1), (0, x2), (0, x3), (0, y3), (9, 0)]) 66 dX10_nextOrder_64 (by decide) rfl rfl ?_
    refine E_iload_n 67 dX10_nextOrder_66 rfl rfl ?_
    refine E_iconst 68 dX10_nextOrder_67 (by decide) rfl ?_
    refine E_isub 69 dX10_nextOrder_68 rfl ?_
    refine E_top (fun y4 hy4 => ?_)
    have w := w y4 hy4
    refine E_istore (ls' := [(2, 60), (0, x1), (0, x2), (0, x3), (0, y3), (0, y4)]) 71 dX10_nextOrder_69 (by decide) rfl rfl ?_
    refine XX.fg [1, 2, 3] [(2, 60), (9, 0), (9, 0), (9, 0), (0, y3), (0, y4)] rfl ?_
    with_reducible exact w
  · have w := w.2 h
    refine E_aload_n 41 dX10_nextOrder_40 rfl (ac_60.bnd) rfl ?_
    refine E_iload_n 42 dX10_nextOrder_41 rfl rfl ?_
    obtain ⟨c5, w⟩ := w
    refine E_iald 43 dX10_nextOrder_42 ac_60 c5 rfl ?_
    refine E_aload_n 44 dX10_nextOrder_43 rfl (ac_60.bnd) rfl ?_
    refine E_iload_n 45 dX10_nextOrder_44 rfl rfl ?_
    obtain ⟨c6, w⟩ := w
    refine E_iald 46 dX10_nextOrder_45 ac_60 c6 rfl ?_
    refine E_icmp_gt 49 55 dX10_nextOrder_46 rfl rfl (fun h => ?_) (fun h => ?_)
    · have w := w.1 h
      refine E_aload_n 56 dX10_nextOrder_55 rfl (ac_60.bnd) rfl ?_
      refine E_iload_n 57 dX10_nextOrder_56 rfl rfl ?_
      refine E_iload_n 58 dX10_nextOrder_57 rfl rfl ?_
      refine E_callS (as := [(2, 60), (0, x2), (0, x3)]) 61 dX10_nextOrder_58 cf_X10_swap (Or.inl mw_1041) mw_1042 rfl rfl (Nat.le_of_ble_eq_true rfl) (Nat.le_of_ble_eq_true rfl) ⟨Nat.le_refl _, Nat.le_refl _⟩ rfl (w.mono (fun r8 σ7 w => ?_))
      show XX g true (d + 1) P_X10_nextOrder 61 [(2, 60), (0, x1), (0, x2), (0, x3), (9, 0), (9, 0)] [] 136 σ7 136 Q
      refine E_iload_n 62 dX10_nextOrder_61 rfl rfl ?_
      refine E_iconst 63 dX10_nextOrder_62 (by decide) rfl ?_
      refine E_iadd 64 dX10_nextOrder_63 rfl ?_
      refine E_top (fun y9 hy9 => ?_)
      have w := w y9 hy9
      refine E_istore (ls' := [(2, 60), (0, x1), (0, x2), (0, x3), (0, y9), (9, 0)]) 66 dX10_nextOrder_64 (by decide) rfl rfl ?_
      refine E_iload_n 67 dX10_nextOrder_66 rfl rfl ?_
      refine E_iconst 68 dX10_nextOrder_67 (by decide) rfl ?_
      refine E_isub 69 dX10_nextOrder_68 rfl ?_
      refine E_top (fun y10 hy10 => ?_)
      have w := w y10 hy10
      refine E_istore (ls' := [(2, 60), (0, x1), (0, x2), (0, x3), (0, y9), (0, y10)]) 71 dX10_nextOrder_69 (by decide) rfl rfl ?_
      refine XX.fg [1, 2, 3] [(2, 60), (9, 0), (9, 0), (9, 0), (0, y9), (0, y10)] rfl ?_
      with_reducible exact w
    · have w := w.2 h
      refine E_iinc (ls' := [(2, 60), (0, x1), (0, x2), (0, w32 (x3 + (-1))), (9, 0), (9, 0)]) 52 dX10_nextOrder_49 (by decide) rfl rfl rfl ?_
      refine E_goto 35 dX10_nextOrder_52 rfl ?_
      with_reducible exact w
theorem B_X10_nextOrder_71 {g : PG} {d : Nat} {σ : PS} {Q : Int → PS → Prop} {x4 x5 : Int}  (w : ((x5 ≤ x4 → Q 1 σ) ∧ (x4 < x5 → XX g true d P_X10_swap 0 [(2, 60), (0, x4), (0, x5), (9, 0)] [] 136 σ 136 (fun _ σ1 => (XX g true (d + 1) P_X10_nextOrder 71 [(2, 60), (9, 0), (9, 0), (9, 0), (0, w32 (x4 + 1)), (0, w32 (x5 + (-1)))] [] 136 σ1 136 Q))))) : XX g true (d + 1) P_X10_nextOrder 71 [(2, 60), (9, 0), (9, 0), (9, 0), (0, x4), (0, x5)] [] 136 σ 136 Q := by
  refine E_iload 73 dX10_nextOrder_71 rfl rfl ?_
  refine E_iload 75 dX10_nextOrder_73 rfl rfl ?_
  refine E_icmp_ge 78 95 dX10_nextOrder_75 rfl rfl (fun h => ?_) (fun h => ?_)
  · have w := w.1 h
    refine E_iconst 96 dX10_nextOrder_95 (by decide) rfl ?_
    exact E_zret dX10_nextOrder_96 rfl rfl (Or.inr rfl) w
  · have w := w.2 h
    refine E_aload_n 79 dX10_nextOrder_78 rfl (ac_60.bnd) rfl ?_
    refine E_iload 81 dX10_nextOrder_79 rfl rfl ?_
    refine E_iload 83 dX10_nextOrder_81 rfl rfl ?_
    refine E_callS (as := [(2, 60), (0, x4), (0, x5)]) 86 dX10_nextOrder_83 cf_X10_swap (Or.inl mw_1041) mw_1042 rfl rfl (Nat.le_of_ble_eq_true rfl) (Nat.le_of_ble_eq_true rfl) ⟨Nat.le_refl _, Nat.le_refl _⟩ rfl (w.mono (fun r2 σ1 w => ?_))
    show XX g true (d + 1) P_X10_nextOrder 86 [(2, 60), (9, 0), (9, 0), (9, 0), (0, x4), (0, x5)] [] 136 σ1 136 Q
    refine E_iinc (ls' := [(2, 60), (9, 0), (9, 0), (9, 0), (0, w32 (x4 + 1)), (0, x5)]) 89 dX10_nextOrder_86 (by decide) rfl rfl rfl ?_
    refine E_iinc (ls' := [(2, 60), (9, 0), (9, 0), (9, 0), (0, w32 (x4 + 1)), (0, w32 (x5 + (-1)))]) 92 dX10_nextOrder_89 (by decide) rfl rfl rfl ?_
    refine E_goto 71 dX10_nextOrder_92 rfl ?_
    with_reducible exact w
theorem B_X10_swap_0 {g : PG} {d : Nat} {σ : PS} {Q : Int → PS → Prop} {x1 x2 : Int}  (w : (0 ≤ x1 ∧ x1 < 60) ∧ ∀ y2, y2 = σ 60 x1 → (0 ≤ x2 ∧ x2 < 60) ∧ Q 0 (su (su σ 60 x1 (σ 60 x2)) 60 x2 y2)) : XX g true d P_X10_swap 0 [(2, 60), (0, x1), (0, x2), (9, 0)] [] 136 σ 136 Q := by
  refine E_aload_n 1 dX10_swap_0 rfl (ac_60.bnd) rfl ?_
  refine E_iload_n 2 dX10_swap_1 rfl rfl ?_
  obtain ⟨c1, w⟩ := w
  refine E_iald 3 dX10_swap_2 ac_60 c1 rfl ?_
  refine E_top (fun y2 hy2 => ?_)
  have w := w y2 hy2
  refine E_istore_n (ls' := [(2, 60), (0, x1), (0, x2), (0, y2)]) 4 dX10_swap_3 (by decide) rfl rfl ?_
  refine E_aload_n 5 dX10_swap_4 rfl (ac_60.bnd) rfl ?_
  refine E_iload_n 6 dX10_swap_5 rfl rfl ?_
  refine E_aload_n 7 dX10_swap_6 rfl (ac_60.bnd) rfl ?_
  refine E_iload_n 8 dX10_swap_7 rfl rfl ?_
  obtain ⟨c3, w⟩ := w
  refine E_iald 9 dX10_swap_8 ac_60 c3 rfl ?_
  refine E_iast 10 dX10_swap_9 ac_60 c1 rfl ?_
  refine E_aload_n 11 dX10_swap_10 rfl (ac_60.bnd) rfl ?_
  refine E_iload_n 12 dX10_swap_11 rfl rfl ?_
  refine E_iload_n 13 dX10_swap_12 rfl rfl ?_
  refine E_iast 14 dX10_swap_13 ac_60 c3 rfl ?_
  exact E_vret dX10_swap_14 rfl rfl w
theorem B_X10_leastWay_0 {g : PG} {d : Nat} {σ : PS} {Q : Int → PS → Prop} {x1 x2 q3 : Int} (hq3 : RowAt q3) (w : XX g true d P_J6_bitCount_0f7a4 0 [(0, x1)] [] 136 σ 136 (fun r2 σ1 => ∀ y3, y3 = imax 0 (w32 (r2 - (σ1 (q3 + 7) 7))) → ∀ y4, y4 = imin r2 (σ1 (q3 + 7) 6) → (XX g true (d + 1) P_X10_leastWay 46 [(9, 0), (0, x1), (0, x2), (2, q3), (9, 0), (9, 0), (0, y4), (0, (-1)), (0, (-1)), (0, y3), (9, 0)] [] 136 σ1 136 Q))) : XX g true (d + 1) P_X10_leastWay 0 [(2, 86), (0, x1), (0, x2), (2, q3), (9, 0), (9, 0), (9, 0), (9, 0), (9, 0), (9, 0), (9, 0)] [] 136 σ 136 Q := by
  refine E_iload_n 1 dX10_leastWay_0 rfl rfl ?_
  refine E_callS (as := [(0, x1)]) 4 dX10_leastWay_1 cf_J6_bitCount_0f7a4 (Or.inl mw_1023) mw_714 rfl rfl (Nat.le_of_ble_eq_true rfl) (Nat.le_of_ble_eq_true rfl) ⟨Nat.le_refl _, Nat.le_refl _⟩ rfl (w.mono (fun r2 σ1 w => ?_))
  show XX g true (d + 1) P_X10_leastWay 4 [(2, 86), (0, x1), (0, x2), (2, q3), (9, 0), (9, 0), (9, 0), (9, 0), (9, 0), (9, 0), (9, 0)] [(0, r2)] 136 σ1 136 Q
  refine E_istore (ls' := [(2, 86), (0, x1), (0, x2), (2, q3), (0, r2), (9, 0), (9, 0), (9, 0), (9, 0), (9, 0), (9, 0)]) 6 dX10_leastWay_4 (by decide) rfl rfl ?_
  refine E_iconst 7 dX10_leastWay_6 (by decide) rfl ?_
  refine E_iload 9 dX10_leastWay_7 rfl rfl ?_
  refine E_aload_n 10 dX10_leastWay_9 rfl (RowB hq3) rfl ?_
  refine E_getL 13 dX10_leastWay_10 fl_X10_92 (RowF0 hq3) rfl (by decide) (RowL9 hq3) rfl ?_
  refine E_bipush 15 dX10_leastWay_13 (by decide) rfl ?_
  refine E_iald 16 dX10_leastWay_15 (RowF7 hq3) (by decide) rfl ?_
  refine E_isub 17 dX10_leastWay_16 rfl ?_
  refine E_mmax 20 dX10_leastWay_17 mw_1058 (Nat.le_of_ble_eq_true rfl) (Nat.le_refl _) rfl ?_
  refine E_top (fun y3 hy3 => ?_)
  have w := w y3 hy3
  refine E_istore (ls' := [(2, 86), (0, x1), (0, x2), (2, q3), (0, r2), (0, y3), (9, 0), (9, 0), (9, 0), (9, 0), (9, 0)]) 22 dX10_leastWay_20 (by decide) rfl rfl ?_
  refine E_iload 24 dX10_leastWay_22 rfl rfl ?_
  refine E_aload_n 25 dX10_leastWay_24 rfl (RowB hq3) rfl ?_
  refine E_getL 28 dX10_leastWay_25 fl_X10_92 (RowF0 hq3) rfl (by decide) (RowL9 hq3) rfl ?_
  refine E_bipush 30 dX10_leastWay_28 (by decide) rfl ?_
  refine E_iald 31 dX10_leastWay_30 (RowF7 hq3) (by decide) rfl ?_
  refine E_mmin 34 dX10_leastWay_31 mw_1045 (Nat.le_of_ble_eq_true rfl) (Nat.le_refl _) rfl ?_
  refine E_top (fun y4 hy4 => ?_)
  have w := w y4 hy4
  refine E_istore (ls' := [(2, 86), (0, x1), (0, x2), (2, q3), (0, r2), (0, y3), (0, y4), (9, 0), (9, 0), (9, 0), (9, 0)]) 36 dX10_leastWay_34 (by decide) rfl rfl ?_
  refine E_iconst 37 dX10_leastWay_36 (by decide) rfl ?_
  refine E_istore (ls' := [(2, 86), (0, x1), (0, x2), (2, q3), (0, r2), (0, y3), (0, y4), (0, (-1)), (9, 0), (9, 0), (9, 0)]) 39 dX10_leastWay_37 (by decide) rfl rfl ?_
  refine E_iconst 40 dX10_leastWay_39 (by decide) rfl ?_
  refine E_istore (ls' := [(2, 86), (0, x1), (0, x2), (2, q3), (0, r2), (0, y3), (0, y4), (0, (-1)), (0, (-1)), (9, 0), (9, 0)]) 42 dX10_leastWay_40 (by decide) rfl rfl ?_
  refine E_iload 44 dX10_leastWay_42 rfl rfl ?_
  refine E_istore (ls' := [(2, 86), (0, x1), (0, x2), (2, q3), (0, r2), (0, y3), (0, y4), (0, (-1)), (0, (-1)), (0, y3), (9, 0)]) 46 dX10_leastWay_44 (by decide) rfl rfl ?_
  refine XX.fg [0, 4, 5] [(9, 0), (0, x1), (0, x2), (2, q3), (9, 0), (9, 0), (0, y4), (0, (-1)), (0, (-1)), (0, y3), (9, 0)] rfl ?_
  with_reducible exact w
theorem B_X10_leastWay_46 {g : PG} {d : Nat} {σ : PS} {Q : Int → PS → Prop} {x1 x2 x6 x7 x8 x9 q3 : Int} (hq3 : RowAt q3) (w : ((x6 < x9 → ((x2 ≠ 0 → Q x7 σ) ∧ (x2 = 0 → Q x8 σ))) ∧ (x9 ≤ x6 → XX g true d P_X10_wayOf 0 [(0, x1), (0, x9), (0, σ q3 0), (9, 0), (9, 0), (9, 0)] [] 136 σ 136 (fun r2 σ1 => ((x7 = (-1) → (XX g true (d + 1) P_X10_leastWay 46 [(9, 0), (0, x1), (0, x2), (2, q3), (9, 0), (9, 0), (0, x6), (0, x9), (0, r2), (0, w32 (x9 + 1)), (9, 0)] [] 136 σ1 136 Q)) ∧ (x7 ≠ (-1) → ((x8 ≤ r2 → (XX g true (d + 1) P_X10_leastWay 46 [(9, 0), (0, x1), (0, x2), (2, q3), (9, 0), (9, 0), (0, x6), (0, x7), (0, x8), (0, w32 (x9 + 1)), (9, 0)] [] 136 σ1 136 Q)) ∧ (r2 < x8 → (XX g true (d + 1) P_X10_leastWay 46 [(9, 0), (0, x1), (0, x2), (2, q3), (9, 0), (9, 0), (0, x6), (0, x9), (0, r2), (0, w32 (x9 + 1)), (9, 0)] [] 136 σ1 136 Q))))))))) : XX g true (d + 1) P_X10_leastWay 46 [(9, 0), (0, x1), (0, x2), (2, q3), (9, 0), (9, 0), (0, x6), (0, x7), (0, x8), (0, x9), (9, 0)] [] 136 σ 136 Q := by
  refine E_iload 48 dX10_leastWay_46 rfl rfl ?_
  refine E_iload 50 dX10_leastWay_48 rfl rfl ?_
  refine E_icmp_gt 53 92 dX10_leastWay_50 rfl rfl (fun h => ?_) (fun h => ?_)
  · have w := w.1 h
    refine E_iload_n 93 dX10_leastWay_92 rfl rfl ?_
    refine E_if_ne 96 101 dX10_leastWay_93 rfl rfl (fun h => ?_) (fun h => ?_)
    · have w := w.1 h
      refine E_iload 103 dX10_leastWay_101 rfl rfl ?_
      exact E_iret dX10_leastWay_103 rfl rfl w
    · have w := w.2 h
      refine E_iload 98 dX10_leastWay_96 rfl rfl ?_
      refine E_goto 103 dX10_leastWay_98 rfl ?_
      exact E_iret dX10_leastWay_103 rfl rfl w
  · have w := w.2 h
    refine E_iload_n 54 dX10_leastWay_53 rfl rfl ?_
    refine E_iload 56 dX10_leastWay_54 rfl rfl ?_
    refine E_aload_n 57 dX10_leastWay_56 rfl (RowB hq3) rfl ?_
    refine E_get 0 60 dX10_leastWay_57 fl_X10_31 (RowF0 hq3) rfl (by decide) rfl rfl ?_
    refine E_callS (as := [(0, x1), (0, x9), (0, σ q3 0)]) 63 dX10_leastWay_60 cf_X10_wayOf (Or.inl mw_1059) mw_1060 rfl rfl (Nat.le_of_ble_eq_true rfl) (Nat.le_of_ble_eq_true rfl) ⟨Nat.le_refl _, Nat.le_refl _⟩ rfl (w.mono (fun r2 σ1 w => ?_))
    show XX g true (d + 1) P_X10_leastWay 63 [(9, 0), (0, x1), (0, x2), (2, q3), (9, 0), (9, 0), (0, x6), (0, x7), (0, x8), (0, x9), (9, 0)] [(0, r2)] 136 σ1 136 Q
    refine E_istore (ls' := [(9, 0), (0, x1), (0, x2), (2, q3), (9, 0), (9, 0), (0, x6), (0, x7), (0, x8), (0, x9), (0, r2)]) 65 dX10_leastWay_63 (by decide) rfl rfl ?_
    refine E_iload 67 dX10_leastWay_65 rfl rfl ?_
    refine E_iconst 68 dX10_leastWay_67 (by decide) rfl ?_
    refine E_icmp_eq 71 78 dX10_leastWay_68 rfl rfl (fun h => ?_) (fun h => ?_)
    · have w := w.1 h
      refine E_iload 80 dX10_leastWay_78 rfl rfl ?_
      refine E_istore (ls' := [(9, 0), (0, x1), (0, x2), (2, q3), (9, 0), (9, 0), (0, x6), (0, x9), (0, x8), (0, x9), (0, r2)]) 82 dX10_leastWay_80 (by decide) rfl rfl ?_
      refine E_iload 84 dX10_leastWay_82 rfl rfl ?_
      refine E_istore (ls' := [(9, 0), (0, x1), (0, x2), (2, q3), (9, 0), (9, 0), (0, x6), (0, x9), (0, r2), (0, x9), (0, r2)]) 86 dX10_leastWay_84 (by decide) rfl rfl ?_
      refine E_iinc (ls' := [(9, 0), (0, x1), (0, x2), (2, q3), (9, 0), (9, 0), (0, x6), (0, x9), (0, r2), (0, w32 (x9 + 1)), (0, r2)]) 89 dX10_leastWay_86 (by decide) rfl rfl rfl ?_
      refine E_goto 46 dX10_leastWay_89 rfl ?_
      refine XX.fg [10] [(9, 0), (0, x1), (0, x2), (2, q3), (9, 0), (9, 0), (0, x6), (0, x9), (0, r2), (0, w32 (x9 + 1)), (9, 0)] rfl ?_
      with_reducible exact w
    · have w := w.2 h
      refine E_iload 73 dX10_leastWay_71 rfl rfl ?_
      refine E_iload 75 dX10_leastWay_73 rfl rfl ?_
      refine E_icmp_ge 78 86 dX10_leastWay_75 rfl rfl (fun h => ?_) (fun h => ?_)
      · have w := w.1 h
        refine E_iinc (ls' := [(9, 0), (0, x1), (0, x2), (2, q3), (9, 0), (9, 0), (0, x6), (0, x7), (0, x8), (0, w32 (x9 + 1)), (0, r2)]) 89 dX10_leastWay_86 (by decide) rfl rfl rfl ?_
        refine E_goto 46 dX10_leastWay_89 rfl ?_
        refine XX.fg [10] [(9, 0), (0, x1), (0, x2), (2, q3), (9, 0), (9, 0), (0, x6), (0, x7), (0, x8), (0, w32 (x9 + 1)), (9, 0)] rfl ?_
        with_reducible exact w
      · have w := w.2 h
        refine E_iload 80 dX10_leastWay_78 rfl rfl ?_
        refine E_istore (ls' := [(9, 0), (0, x1), (0, x2), (2, q3), (9, 0), (9, 0), (0, x6), (0, x9), (0, x8), (0, x9), (0, r2)]) 82 dX10_leastWay_80 (by decide) rfl rfl ?_
        refine E_iload 84 dX10_leastWay_82 rfl rfl ?_
        refine E_istore (ls' := [(9, 0), (0, x1), (0, x2), (2, q3), (9, 0), (9, 0), (0, x6), (0, x9), (0, r2), (0, x9), (0, r2)]) 86 dX10_leastWay_84 (by decide) rfl rfl ?_
        refine E_iinc (ls' := [(9, 0), (0, x1), (0, x2), (2, q3), (9, 0), (9, 0), (0, x6), (0, x9), (0, r2), (0, w32 (x9 + 1)), (0, r2)]) 89 dX10_leastWay_86 (by decide) rfl rfl rfl ?_
        refine E_goto 46 dX10_leastWay_89 rfl ?_
        refine XX.fg [10] [(9, 0), (0, x1), (0, x2), (2, q3), (9, 0), (9, 0), (0, x6), (0, x9), (0, r2), (0, w32 (x9 + 1)), (9, 0)] rfl ?_
        with_reducible exact w
theorem B_X10_wayOf_0 {g : PG} {d : Nat} {σ : PS} {Q : Int → PS → Prop} {x0 x1 x2 : Int}  (w : (XX g true (d + 1) P_X10_wayOf 8 [(0, x0), (0, x1), (0, x2), (0, 0), (0, 0), (0, 0)] [] 136 σ 136 Q)) : XX g true (d + 1) P_X10_wayOf 0 [(0, x0), (0, x1), (0, x2), (9, 0), (9, 0), (9, 0)] [] 136 σ 136 Q := by
  refine E_iconst 1 dX10_wayOf_0 (by decide) rfl ?_
  refine E_istore_n (ls' := [(0, x0), (0, x1), (0, x2), (0, 0), (9, 0), (9, 0)]) 2 dX10_wayOf_1 (by decide) rfl rfl ?_
  refine E_iconst 3 dX10_wayOf_2 (by decide) rfl ?_
  refine E_istore (ls' := [(0, x0), (0, x1), (0, x2), (0, 0), (0, 0), (9, 0)]) 5 dX10_wayOf_3 (by decide) rfl rfl ?_
  refine E_iconst 6 dX10_wayOf_5 (by decide) rfl ?_
  refine E_istore (ls' := [(0, x0), (0, x1), (0, x2), (0, 0), (0, 0), (0, 0)]) 8 dX10_wayOf_6 (by decide) rfl rfl ?_
  with_reducible exact w
theorem B_X10_wayOf_8 {g : PG} {d : Nat} {σ : PS} {Q : Int → PS → Prop} {x0 x1 x2 x3 x4 x5 : Int}  (w : ((x2 ≤ x5 → Q x3 σ) ∧ (x5 < x2 → XX g true d P_X11_bit 0 [(1, x0), (9, 0), (0, x5)] [] 136 σ 136 (fun r2 σ1 => ((r2 ≠ 1 → (XX g true (d + 1) P_X10_wayOf 8 [(0, x0), (0, x1), (0, x2), (0, x3), (0, x4), (0, w32 (x5 + 1))] [] 136 σ1 136 Q)) ∧ (r2 = 1 → ((x1 ≤ x4 → ∀ y3, y3 = w32 (x3 + (w32 (x2 - x5))) → (XX g true (d + 1) P_X10_wayOf 8 [(0, x0), (0, x1), (0, x2), (0, y3), (0, w32 (x4 + 1)), (0, w32 (x5 + 1))] [] 136 σ1 136 Q)) ∧ (x4 < x1 → ∀ y4, y4 = w32 (x3 + (w32 (x5 + 1))) → (XX g true (d + 1) P_X10_wayOf 8 [(0, x0), (0, x1), (0, x2), (0, y4), (0, w32 (x4 + 1)), (0, w32 (x5 + 1))] [] 136 σ1 136 Q))))))))) : XX g true (d + 1) P_X10_wayOf 8 [(0, x0), (0, x1), (0, x2), (0, x3), (0, x4), (0, x5)] [] 136 σ 136 Q := by
  refine E_iload 10 dX10_wayOf_8 rfl rfl ?_
  refine E_iload_n 11 dX10_wayOf_10 rfl rfl ?_
  refine E_icmp_ge 14 54 dX10_wayOf_11 rfl rfl (fun h => ?_) (fun h => ?_)
  · have w := w.1 h
    refine E_iload_n 55 dX10_wayOf_54 rfl rfl ?_
    exact E_iret dX10_wayOf_55 rfl rfl w
  · have w := w.2 h
    refine E_iload_n 15 dX10_wayOf_14 rfl rfl ?_
    refine E_i2l 16 dX10_wayOf_15 rfl ?_
    refine E_iload 18 dX10_wayOf_16 rfl rfl ?_
    refine E_callS (as := [(1, x0), (0, x5)]) 21 dX10_wayOf_18 cf_X11_bit (Or.inr nst_X10_54) mw_809 rfl rfl (Nat.le_of_ble_eq_true rfl) (Nat.le_of_ble_eq_true rfl) ⟨Nat.le_refl _, Nat.le_refl _⟩ rfl (w.mono (fun r2 σ1 w => ?_))
    show XX g true (d + 1) P_X10_wayOf 21 [(0, x0), (0, x1), (0, x2), (0, x3), (0, x4), (0, x5)] [(0, r2)] 136 σ1 136 Q
    refine E_iconst 22 dX10_wayOf_21 (by decide) rfl ?_
    refine E_icmp_ne 25 48 dX10_wayOf_22 rfl rfl (fun h => ?_) (fun h => ?_)
    · have w := w.1 h
      refine E_iinc (ls' := [(0, x0), (0, x1), (0, x2), (0, x3), (0, x4), (0, w32 (x5 + 1))]) 51 dX10_wayOf_48 (by decide) rfl rfl rfl ?_
      refine E_goto 8 dX10_wayOf_51 rfl ?_
      with_reducible exact w
    · have w := w.2 h
      refine E_iload_n 26 dX10_wayOf_25 rfl rfl ?_
      refine E_iload 28 dX10_wayOf_26 rfl rfl ?_
      refine E_iload_n 29 dX10_wayOf_28 rfl rfl ?_
      refine E_icmp_ge 32 39 dX10_wayOf_29 rfl rfl (fun h => ?_) (fun h => ?_)
      · have w := w.1 h
        refine E_iload_n 40 dX10_wayOf_39 rfl rfl ?_
        refine E_iload 42 dX10_wayOf_40 rfl rfl ?_
        refine E_isub 43 dX10_wayOf_42 rfl ?_
        refine E_iadd 44 dX10_wayOf_43 rfl ?_
        refine E_top (fun y3 hy3 => ?_)
        have w := w y3 hy3
        refine E_istore_n (ls' := [(0, x0), (0, x1), (0, x2), (0, y3), (0, x4), (0, x5)]) 45 dX10_wayOf_44 (by decide) rfl rfl ?_
        refine E_iinc (ls' := [(0, x0), (0, x1), (0, x2), (0, y3), (0, w32 (x4 + 1)), (0, x5)]) 48 dX10_wayOf_45 (by decide) rfl rfl rfl ?_
        refine E_iinc (ls' := [(0, x0), (0, x1), (0, x2), (0, y3), (0, w32 (x4 + 1)), (0, w32 (x5 + 1))]) 51 dX10_wayOf_48 (by decide) rfl rfl rfl ?_
        refine E_goto 8 dX10_wayOf_51 rfl ?_
        with_reducible exact w
      · have w := w.2 h
        refine E_iload 34 dX10_wayOf_32 rfl rfl ?_
        refine E_iconst 35 dX10_wayOf_34 (by decide) rfl ?_
        refine E_iadd 36 dX10_wayOf_35 rfl ?_
        refine E_goto 43 dX10_wayOf_36 rfl ?_
        refine E_iadd 44 dX10_wayOf_43 rfl ?_
        refine E_top (fun y4 hy4 => ?_)
        have w := w y4 hy4
        refine E_istore_n (ls' := [(0, x0), (0, x1), (0, x2), (0, y4), (0, x4), (0, x5)]) 45 dX10_wayOf_44 (by decide) rfl rfl ?_
        refine E_iinc (ls' := [(0, x0), (0, x1), (0, x2), (0, y4), (0, w32 (x4 + 1)), (0, x5)]) 48 dX10_wayOf_45 (by decide) rfl rfl rfl ?_
        refine E_iinc (ls' := [(0, x0), (0, x1), (0, x2), (0, y4), (0, w32 (x4 + 1)), (0, w32 (x5 + 1))]) 51 dX10_wayOf_48 (by decide) rfl rfl rfl ?_
        refine E_goto 8 dX10_wayOf_51 rfl ?_
        with_reducible exact w
theorem B_X11_state_0 {g : PG} {d : Nat} {σ : PS} {Q : Int → PS → Prop} {x1 : Int}  (w : ∀ y1, y1 = σ 43 10 → Q y1 (su σ 43 10 x1)) : XX g true d P_X11_state 0 [(2, 0), (0, x1), (9, 0)] [] 136 σ 136 Q := by
  refine E_aload_n 1 dX11_state_0 rfl (ac_0.bnd) rfl ?_
  refine E_getL 4 dX11_state_1 fl_X11_38 ac_0 rfl (by decide) lay_0_4 rfl ?_
  refine E_get 10 7 dX11_state_4 fl_X11_95 ac_43 rfl (by decide) rfl rfl ?_
  refine E_top (fun y1 hy1 => ?_)
  have w := w y1 hy1
  refine E_istore_n (ls' := [(2, 0), (0, x1), (0, y1)]) 8 dX11_state_7 (by decide) rfl rfl ?_
  refine E_aload_n 9 dX11_state_8 rfl (ac_0.bnd) rfl ?_
  refine E_getL 12 dX11_state_9 fl_X11_38 ac_0 rfl (by decide) lay_0_4 rfl ?_
  refine E_iload_n 13 dX11_state_12 rfl rfl ?_
  refine E_putI 10 16 dX11_state_13 fl_X11_95 ac_43 rfl (by decide) (Or.inl rfl) rfl rfl ?_
  refine E_iload_n 17 dX11_state_16 rfl rfl ?_
  exact E_iret dX11_state_17 rfl rfl w
theorem B_X11_row_0 {g : PG} {d : Nat} {σ : PS} {Q : Int → PS → Prop} {x1 : Int}  (w : ((x1 < 2 → Q 0 σ) ∧ (2 ≤ x1 → ((x1 ≤ 60 → XX g true d P_X7_begin 0 [(2, 43), (0, x1)] [] 136 σ 136 (fun _ σ1 => Q 1 σ1)) ∧ (60 < x1 → Q 0 σ))))) : XX g true (d + 1) P_X11_row 0 [(2, 0), (0, x1)] [] 136 σ 136 Q := by
  refine E_iload_n 1 dX11_row_0 rfl rfl ?_
  refine E_iconst 2 dX11_row_1 (by decide) rfl ?_
  refine E_icmp_lt 5 11 dX11_row_2 rfl rfl (fun h => ?_) (fun h => ?_)
  · have w := w.1 h
    refine E_iconst 12 dX11_row_11 (by decide) rfl ?_
    exact E_zret dX11_row_12 rfl rfl (Or.inl rfl) w
  · have w := w.2 h
    refine E_iload_n 6 dX11_row_5 rfl rfl ?_
    refine E_bipush 8 dX11_row_6 (by decide) rfl ?_
    refine E_icmp_le 11 13 dX11_row_8 rfl rfl (fun h => ?_) (fun h => ?_)
    · have w := w.1 h
      refine E_aload_n 14 dX11_row_13 rfl (ac_0.bnd) rfl ?_
      refine E_getL 17 dX11_row_14 fl_X11_38 ac_0 rfl (by decide) lay_0_4 rfl ?_
      refine E_iload_n 18 dX11_row_17 rfl rfl ?_
      refine E_callV (as := [(0, x1)]) 21 dX11_row_18 cf_X7_begin mw_480 mw_481 mw_482 ac_43 (by decide) cl_X7 rfl rfl (Nat.le_of_ble_eq_true rfl) (Nat.le_of_ble_eq_true rfl) ⟨Nat.le_refl _, Nat.le_refl _⟩ rfl (w.mono (fun r2 σ1 w => ?_))
      show XX g true (d + 1) P_X11_row 21 [(2, 0), (0, x1)] [] 136 σ1 136 Q
      refine E_iconst 22 dX11_row_21 (by decide) rfl ?_
      exact E_zret dX11_row_22 rfl rfl (Or.inr rfl) w
    · have w := w.2 h
      refine E_iconst 12 dX11_row_11 (by decide) rfl ?_
      exact E_zret dX11_row_12 rfl rfl (Or.inl rfl) w
theorem B_X11_place_0 {g : PG} {d : Nat} {σ : PS} {Q : Int → PS → Prop} {x1 x2 x3 x4 : Int}  (w : XX g true d P_X7_has 0 [(2, 43), (0, x1)] [] 136 σ 136 (fun r2 σ1 => ((r2 = 0 → Q 0 σ1) ∧ (r2 ≠ 0 → ((x2 < 0 → Q 0 σ1) ∧ (0 ≤ x2 → ((6 ≤ x2 → Q 0 σ1) ∧ (x2 < 6 → ((x3 < 0 → Q 0 σ1) ∧ (0 ≤ x3 → ((x3 ≤ 999 → (0 ≤ x1 ∧ x1 < 60) ∧ ((x4 = 0 → Q 1 (su (su (su σ1 44 x1 x2) 45 x1 x3) 43 5 (land (σ1 43 5) (lxor (lshl 1 x1) (-1))))) ∧ (x4 ≠ 0 → Q 1 (su (su (su σ1 44 x1 x2) 45 x1 x3) 43 5 (lor (σ1 43 5) (lshl 1 x1)))))) ∧ (999 < x3 → Q 0 σ1)))))))))))) : XX g true (d + 1) P_X11_place 0 [(2, 0), (0, x1), (0, x2), (0, x3), (0, x4)] [] 136 σ 136 Q := by
  refine E_aload_n 1 dX11_place_0 rfl (ac_0.bnd) rfl ?_
  refine E_getL 4 dX11_place_1 fl_X11_38 ac_0 rfl (by decide) lay_0_4 rfl ?_
  refine E_iload_n 5 dX11_place_4 rfl rfl ?_
  refine E_callV (as := [(0, x1)]) 8 dX11_place_5 cf_X7_has mw_543 mw_544 mw_545 ac_43 (by decide) cl_X7 rfl rfl (Nat.le_of_ble_eq_true rfl) (Nat.le_of_ble_eq_true rfl) ⟨Nat.le_refl _, Nat.le_refl _⟩ rfl (w.mono (fun r2 σ1 w => ?_))
  show XX g true (d + 1) P_X11_place 8 [(2, 0), (0, x1), (0, x2), (0, x3), (0, x4)] [(0, r2)] 136 σ1 136 Q
  refine E_if_eq 11 32 dX11_place_8 rfl rfl (fun h => ?_) (fun h => ?_)
  · have w := w.1 h
    refine E_iconst 33 dX11_place_32 (by decide) rfl ?_
    exact E_zret dX11_place_33 rfl rfl (Or.inl rfl) w
  · have w := w.2 h
    refine E_iload_n 12 dX11_place_11 rfl rfl ?_
    refine E_if_lt 15 32 dX11_place_12 rfl rfl (fun h => ?_) (fun h => ?_)
    · have w := w.1 h
      refine E_iconst 33 dX11_place_32 (by decide) rfl ?_
      exact E_zret dX11_place_33 rfl rfl (Or.inl rfl) w
    · have w := w.2 h
      refine E_iload_n 16 dX11_place_15 rfl rfl ?_
      refine E_bipush 18 dX11_place_16 (by decide) rfl ?_
      refine E_icmp_ge 21 32 dX11_place_18 rfl rfl (fun h => ?_) (fun h => ?_)
      · have w := w.1 h
        refine E_iconst 33 dX11_place_32 (by decide) rfl ?_
        exact E_zret dX11_place_33 rfl rfl (Or.inl rfl) w
      · have w := w.2 h
        refine E_iload_n 22 dX11_place_21 rfl rfl ?_
        refine E_if_lt 25 32 dX11_place_22 rfl rfl (fun h => ?_) (fun h => ?_)
        · have w := w.1 h
          refine E_iconst 33 dX11_place_32 (by decide) rfl ?_
          exact E_zret dX11_place_33 rfl rfl (Or.inl rfl) w
        · have w := w.2 h
          refine E_iload_n 26 dX11_place_25 rfl rfl ?_
          refine E_sipush 29 dX11_place_26 (by decide) rfl ?_
          refine E_icmp_le 32 34 dX11_place_29 rfl rfl (fun h => ?_) (fun h => ?_)
          · have w := w.1 h
            refine E_aload_n 35 dX11_place_34 rfl (ac_0.bnd) rfl ?_
            refine E_getL 38 dX11_place_35 fl_X11_38 ac_0 rfl (by decide) lay_0_4 rfl ?_
            refine E_getL 41 dX11_place_38 fl_X11_102 ac_43 rfl (by decide) lay_43_1 rfl ?_
            refine E_iload_n 42 dX11_place_41 rfl rfl ?_
            refine E_iload_n 43 dX11_place_42 rfl rfl ?_
            obtain ⟨c3, w⟩ := w
            refine E_iast 44 dX11_place_43 ac_44 c3 rfl ?_
            refine E_aload_n 45 dX11_place_44 rfl (ac_0.bnd) rfl ?_
            refine E_getL 48 dX11_place_45 fl_X11_38 ac_0 rfl (by decide) lay_0_4 rfl ?_
            refine E_getL 51 dX11_place_48 fl_X11_106 ac_43 rfl (by decide) lay_43_2 rfl ?_
            refine E_iload_n 52 dX11_place_51 rfl rfl ?_
            refine E_iload_n 53 dX11_place_52 rfl rfl ?_
            refine E_iast 54 dX11_place_53 ac_45 c3 rfl ?_
            refine E_aload_n 55 dX11_place_54 rfl (ac_0.bnd) rfl ?_
            refine E_getL 58 dX11_place_55 fl_X11_38 ac_0 rfl (by decide) lay_0_4 rfl ?_
            refine E_iload 60 dX11_place_58 rfl rfl ?_
            refine E_if_eq 63 77 dX11_place_60 rfl rfl (fun h => ?_) (fun h => ?_)
            · have w := w.1 h
              refine E_aload_n 78 dX11_place_77 rfl (ac_0.bnd) rfl ?_
              refine E_getL 81 dX11_place_78 fl_X11_38 ac_0 rfl (by decide) lay_0_4 rfl ?_
              refine E_get 5 84 dX11_place_81 fl_X11_109 ac_43 rfl (by decide) rfl rfl ?_
              refine E_conv ((su_ne (Or.inl (by decide))).trans (su_ne (Or.inl (by decide)))) ?_
              refine E_lconst (x := 1) 85 dX11_place_84 rfl rfl ?_
              refine E_iload_n 86 dX11_place_85 rfl rfl ?_
              refine E_lshl 87 dX11_place_86 rfl ?_
              refine E_ldc2_w (x := (-1)) 90 dX11_place_87 mw_547 (by decide) (by unfold in64; decide) rfl ?_
              refine E_lxor 91 dX11_place_90 rfl ?_
              refine E_land 92 dX11_place_91 rfl ?_
              refine E_putJ 5 95 dX11_place_92 fl_X11_109 ac_43 rfl (by decide) (Or.inl rfl) rfl rfl ?_
              refine E_iconst 96 dX11_place_95 (by decide) rfl ?_
              exact E_zret dX11_place_96 rfl rfl (Or.inr rfl) w
            · have w := w.2 h
              refine E_aload_n 64 dX11_place_63 rfl (ac_0.bnd) rfl ?_
              refine E_getL 67 dX11_place_64 fl_X11_38 ac_0 rfl (by decide) lay_0_4 rfl ?_
              refine E_get 5 70 dX11_place_67 fl_X11_109 ac_43 rfl (by decide) rfl rfl ?_
              refine E_conv ((su_ne (Or.inl (by decide))).trans (su_ne (Or.inl (by decide)))) ?_
              refine E_lconst (x := 1) 71 dX11_place_70 rfl rfl ?_
              refine E_iload_n 72 dX11_place_71 rfl rfl ?_
              refine E_lshl 73 dX11_place_72 rfl ?_
              refine E_lor 74 dX11_place_73 rfl ?_
              refine E_goto 92 dX11_place_74 rfl ?_
              refine E_putJ 5 95 dX11_place_92 fl_X11_109 ac_43 rfl (by decide) (Or.inl rfl) rfl rfl ?_
              refine E_iconst 96 dX11_place_95 (by decide) rfl ?_
              exact E_zret dX11_place_96 rfl rfl (Or.inr rfl) w
          · have w := w.2 h
            refine E_iconst 33 dX11_place_32 (by decide) rfl ?_
            exact E_zret dX11_place_33 rfl rfl (Or.inl rfl) w
theorem B_X11_sort_0 {g : PG} {d : Nat} {σ : PS} {Q : Int → PS → Prop} {x1 x2 x3 : Int}  (w : ((x1 < 0 → Q 0 σ) ∧ (0 ≤ x1 → ((6 ≤ x1 → Q 0 σ) ∧ (x1 < 6 → ((x2 < 0 → Q 0 σ) ∧ (0 ≤ x2 → ((1000 < x2 → Q 0 σ) ∧ (x2 ≤ 1000 → ((x3 < 0 → Q 0 σ) ∧ (0 ≤ x3 → ((x3 ≤ 99 → (0 ≤ x1 ∧ x1 < 6) ∧ Q 1 (su (su σ 48 x1 x2) 49 x1 x3)) ∧ (99 < x3 → Q 0 σ))))))))))))) : XX g true d P_X11_sort 0 [(2, 0), (0, x1), (0, x2), (0, x3)] [] 136 σ 136 Q := by
  refine E_iload_n 1 dX11_sort_0 rfl rfl ?_
  refine E_if_lt 4 31 dX11_sort_1 rfl rfl (fun h => ?_) (fun h => ?_)
  · have w := w.1 h
    refine E_iconst 32 dX11_sort_31 (by decide) rfl ?_
    exact E_zret dX11_sort_32 rfl rfl (Or.inl rfl) w
  · have w := w.2 h
    refine E_iload_n 5 dX11_sort_4 rfl rfl ?_
    refine E_bipush 7 dX11_sort_5 (by decide) rfl ?_
    refine E_icmp_ge 10 31 dX11_sort_7 rfl rfl (fun h => ?_) (fun h => ?_)
    · have w := w.1 h
      refine E_iconst 32 dX11_sort_31 (by decide) rfl ?_
      exact E_zret dX11_sort_32 rfl rfl (Or.inl rfl) w
    · have w := w.2 h
      refine E_iload_n 11 dX11_sort_10 rfl rfl ?_
      refine E_if_lt 14 31 dX11_sort_11 rfl rfl (fun h => ?_) (fun h => ?_)
      · have w := w.1 h
        refine E_iconst 32 dX11_sort_31 (by decide) rfl ?_
        exact E_zret dX11_sort_32 rfl rfl (Or.inl rfl) w
      · have w := w.2 h
        refine E_iload_n 15 dX11_sort_14 rfl rfl ?_
        refine E_sipush 18 dX11_sort_15 (by decide) rfl ?_
        refine E_icmp_gt 21 31 dX11_sort_18 rfl rfl (fun h => ?_) (fun h => ?_)
        · have w := w.1 h
          refine E_iconst 32 dX11_sort_31 (by decide) rfl ?_
          exact E_zret dX11_sort_32 rfl rfl (Or.inl rfl) w
        · have w := w.2 h
          refine E_iload_n 22 dX11_sort_21 rfl rfl ?_
          refine E_if_lt 25 31 dX11_sort_22 rfl rfl (fun h => ?_) (fun h => ?_)
          · have w := w.1 h
            refine E_iconst 32 dX11_sort_31 (by decide) rfl ?_
            exact E_zret dX11_sort_32 rfl rfl (Or.inl rfl) w
          · have w := w.2 h
            refine E_iload_n 26 dX11_sort_25 rfl rfl ?_
            refine E_bipush 28 dX11_sort_26 (by decide) rfl ?_
            refine E_icmp_le 31 33 dX11_sort_28 rfl rfl (fun h => ?_) (fun h => ?_)
            · have w := w.1 h
              refine E_aload_n 34 dX11_sort_33 rfl (ac_0.bnd) rfl ?_
              refine E_getL 37 dX11_sort_34 fl_X11_38 ac_0 rfl (by decide) lay_0_4 rfl ?_
              refine E_getL 40 dX11_sort_37 fl_X11_115 ac_43 rfl (by decide) lay_43_7 rfl ?_
              refine E_iload_n 41 dX11_sort_40 rfl rfl ?_
              refine E_iload_n 42 dX11_sort_41 rfl rfl ?_
              obtain ⟨c1, w⟩ := w
              refine E_iast 43 dX11_sort_42 ac_48 c1 rfl ?_
              refine E_aload_n 44 dX11_sort_43 rfl (ac_0.bnd) rfl ?_
              refine E_getL 47 dX11_sort_44 fl_X11_38 ac_0 rfl (by decide) lay_0_4 rfl ?_
              refine E_getL 50 dX11_sort_47 fl_X11_118 ac_43 rfl (by decide) lay_43_8 rfl ?_
              refine E_iload_n 51 dX11_sort_50 rfl rfl ?_
              refine E_iload_n 52 dX11_sort_51 rfl rfl ?_
              refine E_iast 53 dX11_sort_52 ac_49 c1 rfl ?_
              refine E_iconst 54 dX11_sort_53 (by decide) rfl ?_
              exact E_zret dX11_sort_54 rfl rfl (Or.inr rfl) w
            · have w := w.2 h
              refine E_iconst 32 dX11_sort_31 (by decide) rfl ?_
              exact E_zret dX11_sort_32 rfl rfl (Or.inl rfl) w
theorem B_X11_set_0 {g : PG} {d : Nat} {σ : PS} {Q : Int → PS → Prop} {x1 x2 : Int}  (w : ((x1 < 0 → Q 0 σ) ∧ (0 ≤ x1 → ((8 ≤ x1 → Q 0 σ) ∧ (x1 < 8 → (0 ≤ x1 ∧ x1 < 8) ∧ ((x2 < statT 0 x1.toNat → Q 0 σ) ∧ (statT 0 x1.toNat ≤ x2 → ((x2 ≤ statT 1 x1.toNat → Q 1 (su σ 50 x1 x2)) ∧ (statT 1 x1.toNat < x2 → Q 0 σ))))))))) : XX g true d P_X11_set 0 [(2, 0), (0, x1), (0, x2)] [] 136 σ 136 Q := by
  refine E_iload_n 1 dX11_set_0 rfl rfl ?_
  refine E_if_lt 4 30 dX11_set_1 rfl rfl (fun h => ?_) (fun h => ?_)
  · have w := w.1 h
    refine E_iconst 31 dX11_set_30 (by decide) rfl ?_
    exact E_zret dX11_set_31 rfl rfl (Or.inl rfl) w
  · have w := w.2 h
    refine E_iload_n 5 dX11_set_4 rfl rfl ?_
    refine E_getsA (q := 0) 100000 8 dX11_set_5 (by decide) mw_556 rfl rfl ?_
    refine E_alenS (q := 0) 9 dX11_set_8 (by decide) rfl ?_
    refine E_icmp_ge 12 30 dX11_set_9 rfl rfl (fun h => ?_) (fun h => ?_)
    · have w := w.1 h
      refine E_iconst 31 dX11_set_30 (by decide) rfl ?_
      exact E_zret dX11_set_31 rfl rfl (Or.inl rfl) w
    · have w := w.2 h
      refine E_iload_n 13 dX11_set_12 rfl rfl ?_
      refine E_getsA (q := 0) 100000 16 dX11_set_13 (by decide) mw_556 rfl rfl ?_
      refine E_iload_n 17 dX11_set_16 rfl rfl ?_
      obtain ⟨c1, w⟩ := w
      refine E_ialdS (q := 0) (statT 0 x1.toNat) 18 dX11_set_17 (by decide) c1 rfl rfl ?_
      refine E_icmp_lt 21 30 dX11_set_18 rfl rfl (fun h => ?_) (fun h => ?_)
      · have w := w.1 h
        refine E_iconst 31 dX11_set_30 (by decide) rfl ?_
        exact E_zret dX11_set_31 rfl rfl (Or.inl rfl) w
      · have w := w.2 h
        refine E_iload_n 22 dX11_set_21 rfl rfl ?_
        refine E_getsA (q := 1) 100001 25 dX11_set_22 (by decide) mw_558 rfl rfl ?_
        refine E_iload_n 26 dX11_set_25 rfl rfl ?_
        refine E_ialdS (q := 1) (statT 1 x1.toNat) 27 dX11_set_26 (by decide) c1 rfl rfl ?_
        refine E_icmp_le 30 32 dX11_set_27 rfl rfl (fun h => ?_) (fun h => ?_)
        · have w := w.1 h
          refine E_aload_n 33 dX11_set_32 rfl (ac_0.bnd) rfl ?_
          refine E_getL 36 dX11_set_33 fl_X11_38 ac_0 rfl (by decide) lay_0_4 rfl ?_
          refine E_getL 39 dX11_set_36 fl_X11_127 ac_43 rfl (by decide) lay_43_9 rfl ?_
          refine E_iload_n 40 dX11_set_39 rfl rfl ?_
          refine E_iload_n 41 dX11_set_40 rfl rfl ?_
          refine E_iast 42 dX11_set_41 ac_50 c1 rfl ?_
          refine E_iconst 43 dX11_set_42 (by decide) rfl ?_
          exact E_zret dX11_set_43 rfl rfl (Or.inr rfl) w
        · have w := w.2 h
          refine E_iconst 31 dX11_set_30 (by decide) rfl ?_
          exact E_zret dX11_set_31 rfl rfl (Or.inl rfl) w
theorem B_X11_feed_0 {g : PG} {d : Nat} {σ : PS} {Q : Int → PS → Prop} {x1 x2 x3 x4 x5 : Int}  (w : ((w32 ((σ 1 4) + 20) ≤ 500 → XX g true d P_X8_add 0 [(2, 1), (0, x1), (9, 0)] [] 136 σ 136 (fun _ σ1 => XX g true d P_X8_add 0 [(2, 1), (0, x2), (9, 0)] [] 136 σ1 136 (fun _ σ3 => XX g true d P_X8_add 0 [(2, 1), (0, x3), (9, 0)] [] 136 σ3 136 (fun _ σ5 => XX g true d P_X8_add 0 [(2, 1), (0, x4), (9, 0)] [] 136 σ5 136 (fun _ σ7 => XX g true d P_X8_add 0 [(2, 1), (0, x5), (9, 0)] [] 136 σ7 136 (fun _ σ9 => Q (σ9 1 4) σ9)))))) ∧ (500 < w32 ((σ 1 4) + 20) → Q (-1) σ))) : XX g true (d + 1) P_X11_feed 0 [(2, 0), (0, x1), (0, x2), (0, x3), (0, x4), (0, x5)] [] 136 σ 136 Q := by
  refine E_aload_n 1 dX11_feed_0 rfl (ac_0.bnd) rfl ?_
  refine E_getL 4 dX11_feed_1 fl_X11_12 ac_0 rfl (by decide) lay_0_0 rfl ?_
  refine E_get 4 7 dX11_feed_4 fl_X11_130 ac_1 rfl (by decide) rfl rfl ?_
  refine E_bipush 9 dX11_feed_7 (by decide) rfl ?_
  refine E_iadd 10 dX11_feed_9 rfl ?_
  refine E_sipush 13 dX11_feed_10 (by decide) rfl ?_
  refine E_icmp_le 16 18 dX11_feed_13 rfl rfl (fun h => ?_) (fun h => ?_)
  · have w := w.1 h
    refine E_aload_n 19 dX11_feed_18 rfl (ac_0.bnd) rfl ?_
    refine E_getL 22 dX11_feed_19 fl_X11_12 ac_0 rfl (by decide) lay_0_0 rfl ?_
    refine E_iload_n 23 dX11_feed_22 rfl rfl ?_
    refine E_callV (as := [(0, x1)]) 26 dX11_feed_23 cf_X8_add mw_564 mw_565 mw_566 ac_1 (by decide) cl_X8 rfl rfl (Nat.le_of_ble_eq_true rfl) (Nat.le_of_ble_eq_true rfl) ⟨Nat.le_refl _, Nat.le_refl _⟩ rfl (w.mono (fun r2 σ1 w => ?_))
    show XX g true (d + 1) P_X11_feed 26 [(2, 0), (0, x1), (0, x2), (0, x3), (0, x4), (0, x5)] [] 136 σ1 136 Q
    refine E_aload_n 27 dX11_feed_26 rfl (ac_0.bnd) rfl ?_
    refine E_getL 30 dX11_feed_27 fl_X11_12 ac_0 rfl (by decide) lay_0_0 rfl ?_
    refine E_iload_n 31 dX11_feed_30 rfl rfl ?_
    refine E_callV (as := [(0, x2)]) 34 dX11_feed_31 cf_X8_add mw_564 mw_565 mw_566 ac_1 (by decide) cl_X8 rfl rfl (Nat.le_of_ble_eq_true rfl) (Nat.le_of_ble_eq_true rfl) ⟨Nat.le_refl _, Nat.le_refl _⟩ rfl (w.mono (fun r4 σ3 w => ?_))
    show XX g true (d + 1) P_X11_feed 34 [(2, 0), (0, x1), (0, x2), (0, x3), (0, x4), (0, x5)] [] 136 σ3 136 Q
    refine E_aload_n 35 dX11_feed_34 rfl (ac_0.bnd) rfl ?_
    refine E_getL 38 dX11_feed_35 fl_X11_12 ac_0 rfl (by decide) lay_0_0 rfl ?_
    refine E_iload_n 39 dX11_feed_38 rfl rfl ?_
    refine E_callV (as := [(0, x3)]) 42 dX11_feed_39 cf_X8_add mw_564 mw_565 mw_566 ac_1 (by decide) cl_X8 rfl rfl (Nat.le_of_ble_eq_true rfl) (Nat.le_of_ble_eq_true rfl) ⟨Nat.le_refl _, Nat.le_refl _⟩ rfl (w.mono (fun r6 σ5 w => ?_))
    show XX g true (d + 1) P_X11_feed 42 [(2, 0), (0, x1), (0, x2), (0, x3), (0, x4), (0, x5)] [] 136 σ5 136 Q
    refine E_aload_n 43 dX11_feed_42 rfl (ac_0.bnd) rfl ?_
    refine E_getL 46 dX11_feed_43 fl_X11_12 ac_0 rfl (by decide) lay_0_0 rfl ?_
    refine E_iload 48 dX11_feed_46 rfl rfl ?_
    refine E_callV (as := [(0, x4)]) 51 dX11_feed_48 cf_X8_add mw_564 mw_565 mw_566 ac_1 (by decide) cl_X8 rfl rfl (Nat.le_of_ble_eq_true rfl) (Nat.le_of_ble_eq_true rfl) ⟨Nat.le_refl _, Nat.le_refl _⟩ rfl (w.mono (fun r8 σ7 w => ?_))
    show XX g true (d + 1) P_X11_feed 51 [(2, 0), (0, x1), (0, x2), (0, x3), (0, x4), (0, x5)] [] 136 σ7 136 Q
    refine E_aload_n 52 dX11_feed_51 rfl (ac_0.bnd) rfl ?_
    refine E_getL 55 dX11_feed_52 fl_X11_12 ac_0 rfl (by decide) lay_0_0 rfl ?_
    refine E_iload 57 dX11_feed_55 rfl rfl ?_
    refine E_callV (as := [(0, x5)]) 60 dX11_feed_57 cf_X8_add mw_564 mw_565 mw_566 ac_1 (by decide) cl_X8 rfl rfl (Nat.le_of_ble_eq_true rfl) (Nat.le_of_ble_eq_true rfl) ⟨Nat.le_refl _, Nat.le_refl _⟩ rfl (w.mono (fun r10 σ9 w => ?_))
    show XX g true (d + 1) P_X11_feed 60 [(2, 0), (0, x1), (0, x2), (0, x3), (0, x4), (0, x5)] [] 136 σ9 136 Q
    refine E_aload_n 61 dX11_feed_60 rfl (ac_0.bnd) rfl ?_
    refine E_getL 64 dX11_feed_61 fl_X11_12 ac_0 rfl (by decide) lay_0_0 rfl ?_
    refine E_get 4 67 dX11_feed_64 fl_X11_130 ac_1 rfl (by decide) rfl rfl ?_
    exact E_iret dX11_feed_67 rfl rfl w
  · have w := w.2 h
    refine E_iconst 17 dX11_feed_16 (by decide) rfl ?_
    exact E_iret dX11_feed_17 rfl rfl w
theorem B_X11_end_0 {g : PG} {d : Nat} {σ : PS} {Q : Int → PS → Prop} {x1 : Int}  (w : ((x1 < 0 → Q 0 σ) ∧ (0 ≤ x1 → ((x1 ≤ σ 1 4 → Q 1 (su σ 1 4 x1)) ∧ (σ 1 4 < x1 → Q 0 σ))))) : XX g true d P_X11_end 0 [(2, 0), (0, x1)] [] 136 σ 136 Q := by
  refine E_iload_n 1 dX11_end_0 rfl rfl ?_
  refine E_if_lt 4 15 dX11_end_1 rfl rfl (fun h => ?_) (fun h => ?_)
  · have w := w.1 h
    refine E_iconst 16 dX11_end_15 (by decide) rfl ?_
    exact E_zret dX11_end_16 rfl rfl (Or.inl rfl) w
  · have w := w.2 h
    refine E_iload_n 5 dX11_end_4 rfl rfl ?_
    refine E_aload_n 6 dX11_end_5 rfl (ac_0.bnd) rfl ?_
    refine E_getL 9 dX11_end_6 fl_X11_12 ac_0 rfl (by decide) lay_0_0 rfl ?_
    refine E_get 4 12 dX11_end_9 fl_X11_130 ac_1 rfl (by decide) rfl rfl ?_
    refine E_icmp_le 15 17 dX11_end_12 rfl rfl (fun h => ?_) (fun h => ?_)
    · have w := w.1 h
      refine E_aload_n 18 dX11_end_17 rfl (ac_0.bnd) rfl ?_
      refine E_getL 21 dX11_end_18 fl_X11_12 ac_0 rfl (by decide) lay_0_0 rfl ?_
      refine E_iload_n 22 dX11_end_21 rfl rfl ?_
      refine E_putI 4 25 dX11_end_22 fl_X11_130 ac_1 rfl (by decide) (Or.inl rfl) rfl rfl ?_
      refine E_iconst 26 dX11_end_25 (by decide) rfl ?_
      exact E_zret dX11_end_26 rfl rfl (Or.inr rfl) w
    · have w := w.2 h
      refine E_iconst 16 dX11_end_15 (by decide) rfl ?_
      exact E_zret dX11_end_16 rfl rfl (Or.inl rfl) w
theorem B_X11_text_0 {g : PG} {d : Nat} {σ : PS} {Q : Int → PS → Prop} {x1 : Int}  (w : ((x1 < 0 → Q (-1) (su (su (su σ 0 13 0) 0 14 (-1)) 1 4 0)) ∧ (0 ≤ x1 → ((3 < x1 → Q (-1) (su (su (su σ 0 13 0) 0 14 (-1)) 1 4 0)) ∧ (x1 ≤ 3 → ((x1 ≠ 3 → ((x1 ≠ 0 → XX g true d P_X6_readLines 0 [(2, 6), (0, 0), (9, 0)] [] 136 (su (su σ 0 13 0) 0 14 (-1)) 136 (fun r2 σ1 => ((r2 = (-1) → Q r2 (su (su (su σ1 0 13 (σ1 6 3)) 0 14 (σ1 6 4)) 1 4 0)) ∧ (r2 ≠ (-1) → XX g true d P_X11_keepRead 0 [(2, 0), (0, x1)] [] 136 (su (su σ1 0 13 (σ1 6 3)) 0 14 (σ1 6 4)) 136 (fun _ σ3 => Q r2 (su σ3 1 4 0)))))) ∧ (x1 = 0 → XX g true d P_X6_readLines 0 [(2, 6), (0, 1), (9, 0)] [] 136 (su (su σ 0 13 0) 0 14 (-1)) 136 (fun r6 σ5 => ((r6 = (-1) → Q r6 (su (su (su σ5 0 13 (σ5 6 3)) 0 14 (σ5 6 4)) 1 4 0)) ∧ (r6 ≠ (-1) → XX g true d P_X11_keepRead 0 [(2, 0), (0, x1)] [] 136 (su (su σ5 0 13 (σ5 6 3)) 0 14 (σ5 6 4)) 136 (fun _ σ7 => Q r6 (su σ7 1 4 0)))))))) ∧ (x1 = 3 → XX g true d P_X6_readBreaks 0 [(2, 6), (9, 0)] [] 136 (su (su σ 0 13 0) 0 14 (-1)) 136 (fun r10 σ9 => ((r10 = (-1) → Q r10 (su (su (su σ9 0 13 (σ9 6 3)) 0 14 (σ9 6 4)) 1 4 0)) ∧ (r10 ≠ (-1) → XX g true d P_X11_keepRead 0 [(2, 0), (0, x1)] [] 136 (su (su σ9 0 13 (σ9 6 3)) 0 14 (σ9 6 4)) 136 (fun _ σ11 => Q r10 (su σ11 1 4 0)))))))))))) : XX g true (d + 1) P_X11_text 0 [(2, 0), (0, x1), (9, 0)] [] 136 σ 136 Q := by
  refine E_iconst 1 dX11_text_0 (by decide) rfl ?_
  refine E_istore_n (ls' := [(2, 0), (0, x1), (0, (-1))]) 2 dX11_text_1 (by decide) rfl rfl ?_
  refine E_aload_n 3 dX11_text_2 rfl (ac_0.bnd) rfl ?_
  refine E_iconst 4 dX11_text_3 (by decide) rfl ?_
  refine E_putI 13 7 dX11_text_4 fl_X11_136 ac_0 rfl (by decide) (Or.inl rfl) rfl rfl ?_
  refine E_aload_n 8 dX11_text_7 rfl (ac_0.bnd) rfl ?_
  refine E_iconst 9 dX11_text_8 (by decide) rfl ?_
  refine E_putI 14 12 dX11_text_9 fl_X11_87 ac_0 rfl (by decide) (Or.inl rfl) rfl rfl ?_
  refine E_iload_n 13 dX11_text_12 rfl rfl ?_
  refine E_if_lt 16 75 dX11_text_13 rfl rfl (fun h => ?_) (fun h => ?_)
  · have w := w.1 h
    refine E_iload_n 76 dX11_text_75 rfl rfl ?_
    refine E_iconst 77 dX11_text_76 (by decide) rfl ?_
    refine E_icmp_eq 80 85 dX11_text_77 rfl rfl (fun h => ?_) (fun h => ?_)
    · refine E_aload_n 86 dX11_text_85 rfl (ac_0.bnd) rfl ?_
      refine E_getL 89 dX11_text_86 fl_X11_12 ac_0 rfl (by decide) lay_0_0 rfl ?_
      refine E_iconst 90 dX11_text_89 (by decide) rfl ?_
      refine E_putI 4 93 dX11_text_90 fl_X11_130 ac_1 rfl (by decide) (Or.inl rfl) rfl rfl ?_
      refine E_iload_n 94 dX11_text_93 rfl rfl ?_
      exact E_iret dX11_text_94 rfl rfl w
    · exact absurd h (by decide)
  · have w := w.2 h
    refine E_iload_n 17 dX11_text_16 rfl rfl ?_
    refine E_iconst 18 dX11_text_17 (by decide) rfl ?_
    refine E_icmp_gt 21 75 dX11_text_18 rfl rfl (fun h => ?_) (fun h => ?_)
    · have w := w.1 h
      refine E_iload_n 76 dX11_text_75 rfl rfl ?_
      refine E_iconst 77 dX11_text_76 (by decide) rfl ?_
      refine E_icmp_eq 80 85 dX11_text_77 rfl rfl (fun h => ?_) (fun h => ?_)
      · refine E_aload_n 86 dX11_text_85 rfl (ac_0.bnd) rfl ?_
        refine E_getL 89 dX11_text_86 fl_X11_12 ac_0 rfl (by decide) lay_0_0 rfl ?_
        refine E_iconst 90 dX11_text_89 (by decide) rfl ?_
        refine E_putI 4 93 dX11_text_90 fl_X11_130 ac_1 rfl (by decide) (Or.inl rfl) rfl rfl ?_
        refine E_iload_n 94 dX11_text_93 rfl rfl ?_
        exact E_iret dX11_text_94 rfl rfl w
      · exact absurd h (by decide)
    · have w := w.2 h
      refine E_iload_n 22 dX11_text_21 rfl rfl ?_
      refine E_iconst 23 dX11_text_22 (by decide) rfl ?_
      refine E_icmp_ne 26 36 dX11_text_23 rfl rfl (fun h => ?_) (fun h => ?_)
      · have w := w.1 h
        refine E_aload_n 37 dX11_text_36 rfl (ac_0.bnd) rfl ?_
        refine E_getL 40 dX11_text_37 fl_X11_21 ac_0 rfl (by decide) lay_0_1 rfl ?_
        refine E_iload_n 41 dX11_text_40 rfl rfl ?_
        refine E_if_ne 44 48 dX11_text_41 rfl rfl (fun h => ?_) (fun h => ?_)
        · have w := w.1 h
          refine E_iconst 49 dX11_text_48 (by decide) rfl ?_
          refine E_callV (as := [(0, 0)]) 52 dX11_text_49 cf_X6_readLines mw_723 mw_724 mw_725 ac_6 (by decide) cl_X6 rfl rfl (Nat.le_of_ble_eq_true rfl) (Nat.le_of_ble_eq_true rfl) ⟨Nat.le_refl _, Nat.le_refl _⟩ rfl (w.mono (fun r2 σ1 w => ?_))
          show XX g true (d + 1) P_X11_text 52 [(2, 0), (0, x1), (0, (-1))] [(0, r2)] 136 σ1 136 Q
          refine E_istore_n (ls' := [(2, 0), (0, x1), (0, r2)]) 53 dX11_text_52 (by decide) rfl rfl ?_
          refine E_aload_n 54 dX11_text_53 rfl (ac_0.bnd) rfl ?_
          refine E_aload_n 55 dX11_text_54 rfl (ac_0.bnd) rfl ?_
          refine E_getL 58 dX11_text_55 fl_X11_21 ac_0 rfl (by decide) lay_0_1 rfl ?_
          refine E_get 3 61 dX11_text_58 fl_X11_147 ac_6 rfl (by decide) rfl rfl ?_
          refine E_putI 13 64 dX11_text_61 fl_X11_136 ac_0 rfl (by decide) (Or.inl rfl) rfl rfl ?_
          refine E_aload_n 65 dX11_text_64 rfl (ac_0.bnd) rfl ?_
          refine E_aload_n 66 dX11_text_65 rfl (ac_0.bnd) rfl ?_
          refine E_getL 69 dX11_text_66 fl_X11_21 ac_0 rfl (by decide) lay_0_1 rfl ?_
          refine E_get 4 72 dX11_text_69 fl_X11_148 ac_6 rfl (by decide) rfl rfl ?_
          refine E_conv (su_ne (Or.inl (by decide))) ?_
          refine E_putI 14 75 dX11_text_72 fl_X11_87 ac_0 rfl (by decide) (Or.inl rfl) rfl rfl ?_
          refine E_iload_n 76 dX11_text_75 rfl rfl ?_
          refine E_iconst 77 dX11_text_76 (by decide) rfl ?_
          refine E_icmp_eq 80 85 dX11_text_77 rfl rfl (fun h => ?_) (fun h => ?_)
          · have w := w.1 h
            refine E_aload_n 86 dX11_text_85 rfl (ac_0.bnd) rfl ?_
            refine E_getL 89 dX11_text_86 fl_X11_12 ac_0 rfl (by decide) lay_0_0 rfl ?_
            refine E_iconst 90 dX11_text_89 (by decide) rfl ?_
            refine E_putI 4 93 dX11_text_90 fl_X11_130 ac_1 rfl (by decide) (Or.inl rfl) rfl rfl ?_
            refine E_iload_n 94 dX11_text_93 rfl rfl ?_
            exact E_iret dX11_text_94 rfl rfl w
          · have w := w.2 h
            refine E_aload_n 81 dX11_text_80 rfl (ac_0.bnd) rfl ?_
            refine E_iload_n 82 dX11_text_81 rfl rfl ?_
            refine E_callV (as := [(0, x1)]) 85 dX11_text_82 cf_X11_keepRead mw_779 mw_781 mw_21 ac_0 (by decide) cl_X11 rfl rfl (Nat.le_of_ble_eq_true rfl) (Nat.le_of_ble_eq_true rfl) ⟨Nat.le_refl _, Nat.le_refl _⟩ rfl (w.mono (fun r4 σ3 w => ?_))
            show XX g true (d + 1) P_X11_text 85 [(2, 0), (0, x1), (0, r2)] [] 136 σ3 136 Q
            refine E_aload_n 86 dX11_text_85 rfl (ac_0.bnd) rfl ?_
            refine E_getL 89 dX11_text_86 fl_X11_12 ac_0 rfl (by decide) lay_0_0 rfl ?_
            refine E_iconst 90 dX11_text_89 (by decide) rfl ?_
            refine E_putI 4 93 dX11_text_90 fl_X11_130 ac_1 rfl (by decide) (Or.inl rfl) rfl rfl ?_
            refine E_iload_n 94 dX11_text_93 rfl rfl ?_
            exact E_iret dX11_text_94 rfl rfl w
        · have w := w.2 h
          refine E_iconst 45 dX11_text_44 (by decide) rfl ?_
          refine E_goto 49 dX11_text_45 rfl ?_
          refine E_callV (as := [(0, 1)]) 52 dX11_text_49 cf_X6_readLines mw_723 mw_724 mw_725 ac_6 (by decide) cl_X6 rfl rfl (Nat.le_of_ble_eq_true rfl) (Nat.le_of_ble_eq_true rfl) ⟨Nat.le_refl _, Nat.le_refl _⟩ rfl (w.mono (fun r6 σ5 w => ?_))
          show XX g true (d + 1) P_X11_text 52 [(2, 0), (0, x1), (0, (-1))] [(0, r6)] 136 σ5 136 Q
          refine E_istore_n (ls' := [(2, 0), (0, x1), (0, r6)]) 53 dX11_text_52 (by decide) rfl rfl ?_
          refine E_aload_n 54 dX11_text_53 rfl (ac_0.bnd) rfl ?_
          refine E_aload_n 55 dX11_text_54 rfl (ac_0.bnd) rfl ?_
          refine E_getL 58 dX11_text_55 fl_X11_21 ac_0 rfl (by decide) lay_0_1 rfl ?_
          refine E_get 3 61 dX11_text_58 fl_X11_147 ac_6 rfl (by decide) rfl rfl ?_
          refine E_putI 13 64 dX11_text_61 fl_X11_136 ac_0 rfl (by decide) (Or.inl rfl) rfl rfl ?_
          refine E_aload_n 65 dX11_text_64 rfl (ac_0.bnd) rfl ?_
          refine E_aload_n 66 dX11_text_65 rfl (ac_0.bnd) rfl ?_
          refine E_getL 69 dX11_text_66 fl_X11_21 ac_0 rfl (by decide) lay_0_1 rfl ?_
          refine E_get 4 72 dX11_text_69 fl_X11_148 ac_6 rfl (by decide) rfl rfl ?_
          refine E_conv (su_ne (Or.inl (by decide))) ?_
          refine E_putI 14 75 dX11_text_72 fl_X11_87 ac_0 rfl (by decide) (Or.inl rfl) rfl rfl ?_
          refine E_iload_n 76 dX11_text_75 rfl rfl ?_
          refine E_iconst 77 dX11_text_76 (by decide) rfl ?_
          refine E_icmp_eq 80 85 dX11_text_77 rfl rfl (fun h => ?_) (fun h => ?_)
          · have w := w.1 h
            refine E_aload_n 86 dX11_text_85 rfl (ac_0.bnd) rfl ?_
            refine E_getL 89 dX11_text_86 fl_X11_12 ac_0 rfl (by decide) lay_0_0 rfl ?_
            refine E_iconst 90 dX11_text_89 (by decide) rfl ?_
            refine E_putI 4 93 dX11_text_90 fl_X11_130 ac_1 rfl (by decide) (Or.inl rfl) rfl rfl ?_
            refine E_iload_n 94 dX11_text_93 rfl rfl ?_
            exact E_iret dX11_text_94 rfl rfl w
          · have w := w.2 h
            refine E_aload_n 81 dX11_text_80 rfl (ac_0.bnd) rfl ?_
            refine E_iload_n 82 dX11_text_81 rfl rfl ?_
            refine E_callV (as := [(0, x1)]) 85 dX11_text_82 cf_X11_keepRead mw_779 mw_781 mw_21 ac_0 (by decide) cl_X11 rfl rfl (Nat.le_of_ble_eq_true rfl) (Nat.le_of_ble_eq_true rfl) ⟨Nat.le_refl _, Nat.le_refl _⟩ rfl (w.mono (fun r8 σ7 w => ?_))
            show XX g true (d + 1) P_X11_text 85 [(2, 0), (0, x1), (0, r6)] [] 136 σ7 136 Q
            refine E_aload_n 86 dX11_text_85 rfl (ac_0.bnd) rfl ?_
            refine E_getL 89 dX11_text_86 fl_X11_12 ac_0 rfl (by decide) lay_0_0 rfl ?_
            refine E_iconst 90 dX11_text_89 (by decide) rfl ?_
            refine E_putI 4 93 dX11_text_90 fl_X11_130 ac_1 rfl (by decide) (Or.inl rfl) rfl rfl ?_
            refine E_iload_n 94 dX11_text_93 rfl rfl ?_
            exact E_iret dX11_text_94 rfl rfl w
      · have w := w.2 h
        refine E_aload_n 27 dX11_text_26 rfl (ac_0.bnd) rfl ?_
        refine E_getL 30 dX11_text_27 fl_X11_21 ac_0 rfl (by decide) lay_0_1 rfl ?_
        refine E_callV (as := []) 33 dX11_text_30 cf_X6_readBreaks mw_576 mw_577 mw_578 ac_6 (by decide) cl_X6 rfl rfl (Nat.le_of_ble_eq_true rfl) (Nat.le_of_ble_eq_true rfl) ⟨Nat.le_refl _, Nat.le_refl _⟩ rfl (w.mono (fun r10 σ9 w => ?_))
        show XX g true (d + 1) P_X11_text 33 [(2, 0), (0, x1), (0, (-1))] [(0, r10)] 136 σ9 136 Q
        refine E_goto 52 dX11_text_33 rfl ?_
        refine E_istore_n (ls' := [(2, 0), (0, x1), (0, r10)]) 53 dX11_text_52 (by decide) rfl rfl ?_
        refine E_aload_n 54 dX11_text_53 rfl (ac_0.bnd) rfl ?_
        refine E_aload_n 55 dX11_text_54 rfl (ac_0.bnd) rfl ?_
        refine E_getL 58 dX11_text_55 fl_X11_21 ac_0 rfl (by decide) lay_0_1 rfl ?_
        refine E_get 3 61 dX11_text_58 fl_X11_147 ac_6 rfl (by decide) rfl rfl ?_
        refine E_putI 13 64 dX11_text_61 fl_X11_136 ac_0 rfl (by decide) (Or.inl rfl) rfl rfl ?_
        refine E_aload_n 65 dX11_text_64 rfl (ac_0.bnd) rfl ?_
        refine E_aload_n 66 dX11_text_65 rfl (ac_0.bnd) rfl ?_
        refine E_getL 69 dX11_text_66 fl_X11_21 ac_0 rfl (by decide) lay_0_1 rfl ?_
        refine E_get 4 72 dX11_text_69 fl_X11_148 ac_6 rfl (by decide) rfl rfl ?_
        refine E_conv (su_ne (Or.inl (by decide))) ?_
        refine E_putI 14 75 dX11_text_72 fl_X11_87 ac_0 rfl (by decide) (Or.inl rfl) rfl rfl ?_
        refine E_iload_n 76 dX11_text_75 rfl rfl ?_
        refine E_iconst 77 dX11_text_76 (by decide) rfl ?_
        refine E_icmp_eq 80 85 dX11_text_77 rfl rfl (fun h => ?_) (fun h => ?_)
        · have w := w.1 h
          refine E_aload_n 86 dX11_text_85 rfl (ac_0.bnd) rfl ?_
          refine E_getL 89 dX11_text_86 fl_X11_12 ac_0 rfl (by decide) lay_0_0 rfl ?_
          refine E_iconst 90 dX11_text_89 (by decide) rfl ?_
          refine E_putI 4 93 dX11_text_90 fl_X11_130 ac_1 rfl (by decide) (Or.inl rfl) rfl rfl ?_
          refine E_iload_n 94 dX11_text_93 rfl rfl ?_
          exact E_iret dX11_text_94 rfl rfl w
        · have w := w.2 h
          refine E_aload_n 81 dX11_text_80 rfl (ac_0.bnd) rfl ?_
          refine E_iload_n 82 dX11_text_81 rfl rfl ?_
          refine E_callV (as := [(0, x1)]) 85 dX11_text_82 cf_X11_keepRead mw_779 mw_781 mw_21 ac_0 (by decide) cl_X11 rfl rfl (Nat.le_of_ble_eq_true rfl) (Nat.le_of_ble_eq_true rfl) ⟨Nat.le_refl _, Nat.le_refl _⟩ rfl (w.mono (fun r12 σ11 w => ?_))
          show XX g true (d + 1) P_X11_text 85 [(2, 0), (0, x1), (0, r10)] [] 136 σ11 136 Q
          refine E_aload_n 86 dX11_text_85 rfl (ac_0.bnd) rfl ?_
          refine E_getL 89 dX11_text_86 fl_X11_12 ac_0 rfl (by decide) lay_0_0 rfl ?_
          refine E_iconst 90 dX11_text_89 (by decide) rfl ?_
          refine E_putI 4 93 dX11_text_90 fl_X11_130 ac_1 rfl (by decide) (Or.inl rfl) rfl rfl ?_
          refine E_iload_n 94 dX11_text_93 rfl rfl ?_
          exact E_iret dX11_text_94 rfl rfl w
theorem B_X11_fault_0 {g : PG} {d : Nat} {σ : PS} {Q : Int → PS → Prop} {x1 : Int}  (w : ((x1 ≠ 0 → ((x1 ≠ 1 → Q (-1) σ) ∧ (x1 = 1 → Q (σ 0 14) σ))) ∧ (x1 = 0 → Q (σ 0 13) σ))) : XX g true d P_X11_fault 0 [(2, 0), (0, x1)] [] 136 σ 136 Q := by
  refine E_iload_n 1 dX11_fault_0 rfl rfl ?_
  refine E_if_ne 4 9 dX11_fault_1 rfl rfl (fun h => ?_) (fun h => ?_)
  · have w := w.1 h
    refine E_iload_n 10 dX11_fault_9 rfl rfl ?_
    refine E_iconst 11 dX11_fault_10 (by decide) rfl ?_
    refine E_icmp_ne 14 21 dX11_fault_11 rfl rfl (fun h => ?_) (fun h => ?_)
    · have w := w.1 h
      refine E_iconst 22 dX11_fault_21 (by decide) rfl ?_
      exact E_iret dX11_fault_22 rfl rfl w
    · have w := w.2 h
      refine E_aload_n 15 dX11_fault_14 rfl (ac_0.bnd) rfl ?_
      refine E_get 14 18 dX11_fault_15 fl_X11_87 ac_0 rfl (by decide) rfl rfl ?_
      refine E_goto 22 dX11_fault_18 rfl ?_
      exact E_iret dX11_fault_22 rfl rfl w
  · have w := w.2 h
    refine E_aload_n 5 dX11_fault_4 rfl (ac_0.bnd) rfl ?_
    refine E_get 13 8 dX11_fault_5 fl_X11_136 ac_0 rfl (by decide) rfl rfl ?_
    exact E_iret dX11_fault_8 rfl rfl w
theorem B_X11_of_0 {g : PG} {d : Nat} {σ : PS} {Q : Int → PS → Prop} {x1 x2 : Int}  (w : XX g true d P_X7_has 0 [(2, 43), (0, x1)] [] 136 σ 136 (fun r2 σ1 => ((r2 ≠ 0 → ((x2 = 0 → (0 ≤ x1 ∧ x1 < 60) ∧ Q (σ1 44 x1) σ1) ∧ (x2 = 1 → (0 ≤ x1 ∧ x1 < 60) ∧ Q (σ1 45 x1) σ1) ∧ (x2 = 2 → XX g true d P_X11_bit 0 [(1, σ1 43 5), (9, 0), (0, x1)] [] 136 σ1 136 (fun r6 σ5 => Q r6 σ5)) ∧ (x2 = 3 → (0 ≤ x1 ∧ x1 < 60) ∧ Q (σ1 46 x1) σ1) ∧ (x2 = 4 → XX g true d P_X11_bit 0 [(1, σ1 43 6), (9, 0), (0, x1)] [] 136 σ1 136 (fun r9 σ8 => Q r9 σ8)) ∧ (x2 = 5 → XX g true d P_X11_besideIn 0 [(1, σ1 43 5), (9, 0), (0, x1)] [] 136 σ1 136 (fun r11 σ10 => XX g true d P_X0_goes 0 [(2, 67), (2, 43), (2, 14), (0, x1), (0, r11), (0, 0)] [] 136 σ10 136 (fun r13 σ12 => Q r13 σ12))) ∧ (x2 = 6 → XX g true d P_X0_guess 0 [(2, 67), (2, 43), (2, 14), (0, x1), (9, 0), (9, 0), (9, 0)] [] 136 σ1 136 (fun r15 σ14 => Q r15 σ14)) ∧ (x2 = 7 → XX g true d P_X0_urge 0 [(2, 67), (2, 43), (2, 18), (0, x1)] [] 136 σ1 136 (fun r17 σ16 => Q r17 σ16)) ∧ (x2 = 8 → XX g true d P_X0_urge 0 [(2, 67), (2, 43), (2, 22), (0, x1)] [] 136 σ1 136 (fun r19 σ18 => Q r19 σ18)) ∧ (x2 = 9 → (0 ≤ x1 ∧ x1 < 60) ∧ Q (σ1 47 x1) σ1) ∧ ((x2 < 0 ∨ 9 < x2) → Q (-1000000) σ1))) ∧ (r2 = 0 → Q (-1000000) σ1)))) : XX g true (d + 1) P_X11_of 0 [(2, 0), (0, x1), (0, x2)] [] 136 σ 136 Q := by
  refine E_aload_n 1 dX11_of_0 rfl (ac_0.bnd) rfl ?_
  refine E_getL 4 dX11_of_1 fl_X11_38 ac_0 rfl (by decide) lay_0_4 rfl ?_
  refine E_iload_n 5 dX11_of_4 rfl rfl ?_
  refine E_callV (as := [(0, x1)]) 8 dX11_of_5 cf_X7_has mw_543 mw_544 mw_545 ac_43 (by decide) cl_X7 rfl rfl (Nat.le_of_ble_eq_true rfl) (Nat.le_of_ble_eq_true rfl) ⟨Nat.le_refl _, Nat.le_refl _⟩ rfl (w.mono (fun r2 σ1 w => ?_))
  show XX g true (d + 1) P_X11_of 8 [(2, 0), (0, x1), (0, x2)] [(0, r2)] 136 σ1 136 Q
  refine E_if_ne 11 14 dX11_of_8 rfl rfl (fun h => ?_) (fun h => ?_)
  · have w := w.1 h
    refine E_iload_n 15 dX11_of_14 rfl rfl ?_
    rcases (show x2 = 0 ∨ x2 = 1 ∨ x2 = 2 ∨ x2 = 3 ∨ x2 = 4 ∨ x2 = 5 ∨ x2 = 6 ∨ x2 = 7 ∨ x2 = 8 ∨ x2 = 9 ∨ (x2 < 0 ∨ 9 < x2) by omega) with h | h | h | h | h | h | h | h | h | h | h
    · have w := w.1 h
      refine E_tabIn 68 dX11_of_15 (by rw [h]; decide) (by rw [h]; decide) (by rw [h] <;> rfl) rfl ?_
      refine E_aload_n 69 dX11_of_68 rfl (ac_0.bnd) rfl ?_
      refine E_getL 72 dX11_of_69 fl_X11_38 ac_0 rfl (by decide) lay_0_4 rfl ?_
      refine E_getL 75 dX11_of_72 fl_X11_102 ac_43 rfl (by decide) lay_43_1 rfl ?_
      refine E_iload_n 76 dX11_of_75 rfl rfl ?_
      obtain ⟨c3, w⟩ := w
      refine E_iald 77 dX11_of_76 ac_44 c3 rfl ?_
      exact E_iret dX11_of_77 rfl rfl w
    · have w := w.2.1 h
      refine E_tabIn 78 dX11_of_15 (by rw [h]; decide) (by rw [h]; decide) (by rw [h] <;> rfl) rfl ?_
      refine E_aload_n 79 dX11_of_78 rfl (ac_0.bnd) rfl ?_
      refine E_getL 82 dX11_of_79 fl_X11_38 ac_0 rfl (by decide) lay_0_4 rfl ?_
      refine E_getL 85 dX11_of_82 fl_X11_106 ac_43 rfl (by decide) lay_43_2 rfl ?_
      refine E_iload_n 86 dX11_of_85 rfl rfl ?_
      obtain ⟨c4, w⟩ := w
      refine E_iald 87 dX11_of_86 ac_45 c4 rfl ?_
      exact E_iret dX11_of_87 rfl rfl w
    · have w := w.2.2.1 h
      refine E_tabIn 88 dX11_of_15 (by rw [h]; decide) (by rw [h]; decide) (by rw [h] <;> rfl) rfl ?_
      refine E_aload_n 89 dX11_of_88 rfl (ac_0.bnd) rfl ?_
      refine E_getL 92 dX11_of_89 fl_X11_38 ac_0 rfl (by decide) lay_0_4 rfl ?_
      refine E_get 5 95 dX11_of_92 fl_X11_109 ac_43 rfl (by decide) rfl rfl ?_
      refine E_iload_n 96 dX11_of_95 rfl rfl ?_
      refine E_callS (as := [(1, σ1 43 5), (0, x1)]) 99 dX11_of_96 cf_X11_bit (Or.inl mw_808) mw_809 rfl rfl (Nat.le_of_ble_eq_true rfl) (Nat.le_of_ble_eq_true rfl) ⟨Nat.le_refl _, Nat.le_refl _⟩ rfl (w.mono (fun r6 σ5 w => ?_))
      show XX g true (d + 1) P_X11_of 99 [(2, 0), (0, x1), (0, x2)] [(0, r6)] 136 σ5 136 Q
      exact E_iret dX11_of_99 rfl rfl w
    · have w := w.2.2.2.1 h
      refine E_tabIn 100 dX11_of_15 (by rw [h]; decide) (by rw [h]; decide) (by rw [h] <;> rfl) rfl ?_
      refine E_aload_n 101 dX11_of_100 rfl (ac_0.bnd) rfl ?_
      refine E_getL 104 dX11_of_101 fl_X11_38 ac_0 rfl (by decide) lay_0_4 rfl ?_
      refine E_getL 107 dX11_of_104 fl_X11_157 ac_43 rfl (by decide) lay_43_3 rfl ?_
      refine E_iload_n 108 dX11_of_107 rfl rfl ?_
      obtain ⟨c7, w⟩ := w
      refine E_iald 109 dX11_of_108 ac_46 c7 rfl ?_
      exact E_iret dX11_of_109 rfl rfl w
    · have w := w.2.2.2.2.1 h
      refine E_tabIn 110 dX11_of_15 (by rw [h]; decide) (by rw [h]; decide) (by rw [h] <;> rfl) rfl ?_
      refine E_aload_n 111 dX11_of_110 rfl (ac_0.bnd) rfl ?_
      refine E_getL 114 dX11_of_111 fl_X11_38 ac_0 rfl (by decide) lay_0_4 rfl ?_
      refine E_get 6 117 dX11_of_114 fl_X11_160 ac_43 rfl (by decide) rfl rfl ?_
      refine E_iload_n 118 dX11_of_117 rfl rfl ?_
      refine E_callS (as := [(1, σ1 43 6), (0, x1)]) 121 dX11_of_118 cf_X11_bit (Or.inl mw_808) mw_809 rfl rfl (Nat.le_of_ble_eq_true rfl) (Nat.le_of_ble_eq_true rfl) ⟨Nat.le_refl _, Nat.le_refl _⟩ rfl (w.mono (fun r9 σ8 w => ?_))
      show XX g true (d + 1) P_X11_of 121 [(2, 0), (0, x1), (0, x2)] [(0, r9)] 136 σ8 136 Q
      exact E_iret dX11_of_121 rfl rfl w
    · have w := w.2.2.2.2.2.1 h
      refine E_tabIn 122 dX11_of_15 (by rw [h]; decide) (by rw [h]; decide) (by rw [h] <;> rfl) rfl ?_
      refine E_aload_n 123 dX11_of_122 rfl (ac_0.bnd) rfl ?_
      refine E_getL 126 dX11_of_123 fl_X11_51 ac_0 rfl (by decide) lay_0_7 rfl ?_
      refine E_aload_n 127 dX11_of_126 rfl (ac_0.bnd) rfl ?_
      refine E_getL 130 dX11_of_127 fl_X11_38 ac_0 rfl (by decide) lay_0_4 rfl ?_
      refine E_aload_n 131 dX11_of_130 rfl (ac_0.bnd) rfl ?_
      refine E_getL 134 dX11_of_131 fl_X11_28 ac_0 rfl (by decide) lay_0_2 rfl ?_
      refine E_getL 137 dX11_of_134 fl_X11_163 ac_13 rfl (by decide) lay_13_0 rfl ?_
      refine E_iload_n 138 dX11_of_137 rfl rfl ?_
      refine E_aload_n 139 dX11_of_138 rfl (ac_0.bnd) rfl ?_
      refine E_getL 142 dX11_of_139 fl_X11_38 ac_0 rfl (by decide) lay_0_4 rfl ?_
      refine E_get 5 145 dX11_of_142 fl_X11_109 ac_43 rfl (by decide) rfl rfl ?_
      refine E_iload_n 146 dX11_of_145 rfl rfl ?_
      refine E_callS (as := [(1, σ1 43 5), (0, x1)]) 149 dX11_of_146 cf_X11_besideIn (Or.inl mw_811) mw_812 rfl rfl (Nat.le_of_ble_eq_true rfl) (Nat.le_of_ble_eq_true rfl) ⟨Nat.le_refl _, Nat.le_refl _⟩ rfl (w.mono (fun r11 σ10 w => ?_))
      show XX g true (d + 1) P_X11_of 149 [(2, 0), (0, x1), (0, x2)] [(0, r11), (0, x1), (2, 14), (2, 43), (2, 67)] 136 σ10 136 Q
      refine E_iconst 150 dX11_of_149 (by decide) rfl ?_
      refine E_callV (as := [(2, 43), (2, 14), (0, x1), (0, r11), (0, 0)]) 153 dX11_of_150 cf_X0_goes mw_814 mw_815 mw_816 ac_67 (by decide) cl_X0 rfl rfl (Nat.le_of_ble_eq_true rfl) (Nat.le_of_ble_eq_true rfl) ⟨Nat.le_refl _, Nat.le_refl _⟩ rfl (w.mono (fun r13 σ12 w => ?_))
      show XX g true (d + 1) P_X11_of 153 [(2, 0), (0, x1), (0, x2)] [(0, r13)] 136 σ12 136 Q
      exact E_iret dX11_of_153 rfl rfl w
    · have w := w.2.2.2.2.2.2.1 h
      refine E_tabIn 154 dX11_of_15 (by rw [h]; decide) (by rw [h]; decide) (by rw [h] <;> rfl) rfl ?_
      refine E_aload_n 155 dX11_of_154 rfl (ac_0.bnd) rfl ?_
      refine E_getL 158 dX11_of_155 fl_X11_51 ac_0 rfl (by decide) lay_0_7 rfl ?_
      refine E_aload_n 159 dX11_of_158 rfl (ac_0.bnd) rfl ?_
      refine E_getL 162 dX11_of_159 fl_X11_38 ac_0 rfl (by decide) lay_0_4 rfl ?_
      refine E_aload_n 163 dX11_of_162 rfl (ac_0.bnd) rfl ?_
      refine E_getL 166 dX11_of_163 fl_X11_28 ac_0 rfl (by decide) lay_0_2 rfl ?_
      refine E_getL 169 dX11_of_166 fl_X11_163 ac_13 rfl (by decide) lay_13_0 rfl ?_
      refine E_iload_n 170 dX11_of_169 rfl rfl ?_
      refine E_callV (as := [(2, 43), (2, 14), (0, x1)]) 173 dX11_of_170 cf_X0_guess mw_840 mw_841 mw_842 ac_67 (by decide) cl_X0 rfl rfl (Nat.le_of_ble_eq_true rfl) (Nat.le_of_ble_eq_true rfl) ⟨Nat.le_refl _, Nat.le_refl _⟩ rfl (w.mono (fun r15 σ14 w => ?_))
      show XX g true (d + 1) P_X11_of 173 [(2, 0), (0, x1), (0, x2)] [(0, r15)] 136 σ14 136 Q
      exact E_iret dX11_of_173 rfl rfl w
    · have w := w.2.2.2.2.2.2.2.1 h
      refine E_tabIn 174 dX11_of_15 (by rw [h]; decide) (by rw [h]; decide) (by rw [h] <;> rfl) rfl ?_
      refine E_aload_n 175 dX11_of_174 rfl (ac_0.bnd) rfl ?_
      refine E_getL 178 dX11_of_175 fl_X11_51 ac_0 rfl (by decide) lay_0_7 rfl ?_
      refine E_aload_n 179 dX11_of_178 rfl (ac_0.bnd) rfl ?_
      refine E_getL 182 dX11_of_179 fl_X11_38 ac_0 rfl (by decide) lay_0_4 rfl ?_
      refine E_aload_n 183 dX11_of_182 rfl (ac_0.bnd) rfl ?_
      refine E_getL 186 dX11_of_183 fl_X11_28 ac_0 rfl (by decide) lay_0_2 rfl ?_
      refine E_getL 189 dX11_of_186 fl_X11_178 ac_13 rfl (by decide) lay_13_1 rfl ?_
      refine E_iload_n 190 dX11_of_189 rfl rfl ?_
      refine E_callV (as := [(2, 43), (2, 18), (0, x1)]) 193 dX11_of_190 cf_X0_urge mw_845 mw_846 mw_847 ac_67 (by decide) cl_X0 rfl rfl (Nat.le_of_ble_eq_true rfl) (Nat.le_of_ble_eq_true rfl) ⟨Nat.le_refl _, Nat.le_refl _⟩ rfl (w.mono (fun r17 σ16 w => ?_))
      show XX g true (d + 1) P_X11_of 193 [(2, 0), (0, x1), (0, x2)] [(0, r17)] 136 σ16 136 Q
      exact E_iret dX11_of_193 rfl rfl w
    · have w := w.2.2.2.2.2.2.2.2.1 h
      refine E_tabIn 194 dX11_of_15 (by rw [h]; decide) (by rw [h]; decide) (by rw [h] <;> rfl) rfl ?_
      refine E_aload_n 195 dX11_of_194 rfl (ac_0.bnd) rfl ?_
      refine E_getL 198 dX11_of_195 fl_X11_51 ac_0 rfl (by decide) lay_0_7 rfl ?_
      refine E_aload_n 199 dX11_of_198 rfl (ac_0.bnd) rfl ?_
      refine E_getL 202 dX11_of_199 fl_X11_38 ac_0 rfl (by decide) lay_0_4 rfl ?_
      refine E_aload_n 203 dX11_of_202 rfl (ac_0.bnd) rfl ?_
      refine E_getL 206 dX11_of_203 fl_X11_28 ac_0 rfl (by decide) lay_0_2 rfl ?_
      refine E_getL 209 dX11_of_206 fl_X11_184 ac_13 rfl (by decide) lay_13_2 rfl ?_
      refine E_iload_n 210 dX11_of_209 rfl rfl ?_
      refine E_callV (as := [(2, 43), (2, 22), (0, x1)]) 213 dX11_of_210 cf_X0_urge mw_845 mw_846 mw_847 ac_67 (by decide) cl_X0 rfl rfl (Nat.le_of_ble_eq_true rfl) (Nat.le_of_ble_eq_true rfl) ⟨Nat.le_refl _, Nat.le_refl _⟩ rfl (w.mono (fun r19 σ18 w => ?_))
      show XX g true (d + 1) P_X11_of 213 [(2, 0), (0, x1), (0, x2)] [(0, r19)] 136 σ18 136 Q
      exact E_iret dX11_of_213 rfl rfl w
    · have w := w.2.2.2.2.2.2.2.2.2.1 h
      refine E_tabIn 214 dX11_of_15 (by rw [h]; decide) (by rw [h]; decide) (by rw [h] <;> rfl) rfl ?_
      refine E_aload_n 215 dX11_of_214 rfl (ac_0.bnd) rfl ?_
      refine E_getL 218 dX11_of_215 fl_X11_38 ac_0 rfl (by decide) lay_0_4 rfl ?_
      refine E_getL 221 dX11_of_218 fl_X11_187 ac_43 rfl (by decide) lay_43_4 rfl ?_
      refine E_iload_n 222 dX11_of_221 rfl rfl ?_
      obtain ⟨c20, w⟩ := w
      refine E_iald 223 dX11_of_222 ac_47 c20 rfl ?_
      exact E_iret dX11_of_223 rfl rfl w
    · have w := w.2.2.2.2.2.2.2.2.2.2 h
      refine E_tabOut 224 dX11_of_15 h rfl ?_
      refine E_ldc (x := (-1000000)) 226 dX11_of_224 mw_807 rfl (by unfold in32; decide) rfl ?_
      exact E_iret dX11_of_226 rfl rfl w
  · have w := w.2 h
    refine E_ldc (x := (-1000000)) 13 dX11_of_11 mw_807 rfl (by unfold in32; decide) rfl ?_
    exact E_iret dX11_of_13 rfl rfl w
theorem B_X11_see_0 {g : PG} {d : Nat} {σ : PS} {Q : Int → PS → Prop} {x1 : Int}  (w : XX g true d P_X7_has 0 [(2, 43), (0, x1)] [] 136 σ 136 (fun r2 σ1 => ((r2 ≠ 0 → XX g true d P_X7_lookAt 0 [(2, 43), (0, x1)] [] 136 σ1 136 (fun _ σ3 => Q 1 σ3)) ∧ (r2 = 0 → Q 0 σ1)))) : XX g true (d + 1) P_X11_see 0 [(2, 0), (0, x1)] [] 136 σ 136 Q := by
  refine E_aload_n 1 dX11_see_0 rfl (ac_0.bnd) rfl ?_
  refine E_getL 4 dX11_see_1 fl_X11_38 ac_0 rfl (by decide) lay_0_4 rfl ?_
  refine E_iload_n 5 dX11_see_4 rfl rfl ?_
  refine E_callV (as := [(0, x1)]) 8 dX11_see_5 cf_X7_has mw_543 mw_544 mw_545 ac_43 (by decide) cl_X7 rfl rfl (Nat.le_of_ble_eq_true rfl) (Nat.le_of_ble_eq_true rfl) ⟨Nat.le_refl _, Nat.le_refl _⟩ rfl (w.mono (fun r2 σ1 w => ?_))
  show XX g true (d + 1) P_X11_see 8 [(2, 0), (0, x1)] [(0, r2)] 136 σ1 136 Q
  refine E_if_ne 11 13 dX11_see_8 rfl rfl (fun h => ?_) (fun h => ?_)
  · have w := w.1 h
    refine E_aload_n 14 dX11_see_13 rfl (ac_0.bnd) rfl ?_
    refine E_getL 17 dX11_see_14 fl_X11_38 ac_0 rfl (by decide) lay_0_4 rfl ?_
    refine E_iload_n 18 dX11_see_17 rfl rfl ?_
    refine E_callV (as := [(0, x1)]) 21 dX11_see_18 cf_X7_lookAt mw_854 mw_855 mw_856 ac_43 (by decide) cl_X7 rfl rfl (Nat.le_of_ble_eq_true rfl) (Nat.le_of_ble_eq_true rfl) ⟨Nat.le_refl _, Nat.le_refl _⟩ rfl (w.mono (fun r4 σ3 w => ?_))
    show XX g true (d + 1) P_X11_see 21 [(2, 0), (0, x1)] [] 136 σ3 136 Q
    refine E_iconst 22 dX11_see_21 (by decide) rfl ?_
    exact E_zret dX11_see_22 rfl rfl (Or.inr rfl) w
  · have w := w.2 h
    refine E_iconst 12 dX11_see_11 (by decide) rfl ?_
    exact E_zret dX11_see_12 rfl rfl (Or.inl rfl) w
theorem B_X11_fails_0 {g : PG} {d : Nat} {σ : PS} {Q : Int → PS → Prop} {x1 x2 : Int}  (w : ((iushr x1 30 ≠ 0 → Q (-1) σ) ∧ (iushr x1 30 = 0 → ((iushr x2 30 = 0 → ∀ y1, y1 = lor (lshl x2 30) x1 → ((lushr y1 (σ 43 0) = 0 → XX g true d P_X1_breaksRow 0 [(2, 26), (1, y1), (9, 0), (0, σ 43 0), (9, 0), (9, 0)] [] 136 σ 136 (fun r3 σ2 => ((r3 = 0 → Q 0 σ2) ∧ (r3 ≠ 0 → Q 1 σ2)))) ∧ (lushr y1 (σ 43 0) ≠ 0 → Q (-1) σ))) ∧ (iushr x2 30 ≠ 0 → Q (-1) σ))))) : XX g true (d + 1) P_X11_fails 0 [(2, 0), (0, x1), (0, x2), (9, 0), (9, 0)] [] 136 σ 136 Q := by
  refine E_iload_n 1 dX11_fails_0 rfl rfl ?_
  refine E_bipush 3 dX11_fails_1 (by decide) rfl ?_
  refine E_iushr 4 dX11_fails_3 rfl ?_
  refine E_if_ne 7 14 dX11_fails_4 rfl rfl (fun h => ?_) (fun h => ?_)
  · have w := w.1 h
    refine E_iconst 15 dX11_fails_14 (by decide) rfl ?_
    exact E_iret dX11_fails_15 rfl rfl w
  · have w := w.2 h
    refine E_iload_n 8 dX11_fails_7 rfl rfl ?_
    refine E_bipush 10 dX11_fails_8 (by decide) rfl ?_
    refine E_iushr 11 dX11_fails_10 rfl ?_
    refine E_if_eq 14 16 dX11_fails_11 rfl rfl (fun h => ?_) (fun h => ?_)
    · have w := w.1 h
      refine E_iload_n 17 dX11_fails_16 rfl rfl ?_
      refine E_i2l 18 dX11_fails_17 rfl ?_
      refine E_bipush 20 dX11_fails_18 (by decide) rfl ?_
      refine E_lshl 21 dX11_fails_20 rfl ?_
      refine E_iload_n 22 dX11_fails_21 rfl rfl ?_
      refine E_i2l 23 dX11_fails_22 rfl ?_
      refine E_lor 24 dX11_fails_23 rfl ?_
      refine E_top (fun y1 hy1 => ?_)
      have w := w y1 hy1
      refine E_lstore_n (ls' := [(2, 0), (0, x1), (0, x2), (1, y1), (9, 0)]) 25 dX11_fails_24 (by decide) rfl rfl ?_
      refine E_lload_n 26 dX11_fails_25 rfl rfl ?_
      refine E_aload_n 27 dX11_fails_26 rfl (ac_0.bnd) rfl ?_
      refine E_getL 30 dX11_fails_27 fl_X11_38 ac_0 rfl (by decide) lay_0_4 rfl ?_
      refine E_get 0 33 dX11_fails_30 fl_X11_193 ac_43 rfl (by decide) rfl rfl ?_
      refine E_lushr 34 dX11_fails_33 rfl ?_
      refine E_lconst (x := 0) 35 dX11_fails_34 rfl rfl ?_
      refine E_lcmp 36 dX11_fails_35 rfl ?_
      refine E_if_eq 39 41 dX11_fails_36 rfl rfl (fun h => ?_) (fun h => ?_)
      · have w := w.1 ((lc_eq _ _).mp h)
        refine E_aload_n 42 dX11_fails_41 rfl (ac_0.bnd) rfl ?_
        refine E_getL 45 dX11_fails_42 fl_X11_28 ac_0 rfl (by decide) lay_0_2 rfl ?_
        refine E_getL 48 dX11_fails_45 fl_X11_196 ac_13 rfl (by decide) lay_13_3 rfl ?_
        refine E_lload_n 49 dX11_fails_48 rfl rfl ?_
        refine E_aload_n 50 dX11_fails_49 rfl (ac_0.bnd) rfl ?_
        refine E_getL 53 dX11_fails_50 fl_X11_38 ac_0 rfl (by decide) lay_0_4 rfl ?_
        refine E_get 0 56 dX11_fails_53 fl_X11_193 ac_43 rfl (by decide) rfl rfl ?_
        refine E_callV (as := [(1, y1), (0, σ 43 0)]) 59 dX11_fails_56 cf_X1_breaksRow mw_863 mw_864 mw_865 ac_26 (by decide) cl_X1 rfl rfl (Nat.le_of_ble_eq_true rfl) (Nat.le_of_ble_eq_true rfl) ⟨Nat.le_refl _, Nat.le_refl _⟩ rfl (w.mono (fun r3 σ2 w => ?_))
        show XX g true (d + 1) P_X11_fails 59 [(2, 0), (0, x1), (0, x2), (1, y1), (9, 0)] [(0, r3)] 136 σ2 136 Q
        refine E_if_eq 62 66 dX11_fails_59 rfl rfl (fun h => ?_) (fun h => ?_)
        · have w := w.1 h
          refine E_iconst 67 dX11_fails_66 (by decide) rfl ?_
          exact E_iret dX11_fails_67 rfl rfl w
        · have w := w.2 h
          refine E_iconst 63 dX11_fails_62 (by decide) rfl ?_
          refine E_goto 67 dX11_fails_63 rfl ?_
          exact E_iret dX11_fails_67 rfl rfl w
      · have w := w.2 ((lc_ne _ _).mp h)
        refine E_iconst 40 dX11_fails_39 (by decide) rfl ?_
        exact E_iret dX11_fails_40 rfl rfl w
    · have w := w.2 h
      refine E_iconst 15 dX11_fails_14 (by decide) rfl ?_
      exact E_iret dX11_fails_15 rfl rfl w
theorem B_X11_days_0 {g : PG} {d : Nat} {σ : PS} {Q : Int → PS → Prop} {x1 : Int}  (w : ((x1 < 1 → Q (-1) σ) ∧ (1 ≤ x1 → ((99 < x1 → Q (-1) σ) ∧ (x1 ≤ 99 → ((w32 ((σ 43 11) + x1) ≤ 9999 → ∀ y1, y1 = σ 43 12 → (XX g true (d + 1) P_X11_days 38 [(2, 0), (0, x1), (0, y1), (0, 0)] [] 136 σ 136 Q)) ∧ (9999 < w32 ((σ 43 11) + x1) → Q (-1) σ))))))) : XX g true (d + 1) P_X11_days 0 [(2, 0), (0, x1), (9, 0), (9, 0)] [] 136 σ 136 Q := by
  refine E_iload_n 1 dX11_days_0 rfl rfl ?_
  refine E_iconst 2 dX11_days_1 (by decide) rfl ?_
  refine E_icmp_lt 5 26 dX11_days_2 rfl rfl (fun h => ?_) (fun h => ?_)
  · have w := w.1 h
    refine E_iconst 27 dX11_days_26 (by decide) rfl ?_
    exact E_iret dX11_days_27 rfl rfl w
  · have w := w.2 h
    refine E_iload_n 6 dX11_days_5 rfl rfl ?_
    refine E_bipush 8 dX11_days_6 (by decide) rfl ?_
    refine E_icmp_gt 11 26 dX11_days_8 rfl rfl (fun h => ?_) (fun h => ?_)
    · have w := w.1 h
      refine E_iconst 27 dX11_days_26 (by decide) rfl ?_
      exact E_iret dX11_days_27 rfl rfl w
    · have w := w.2 h
      refine E_aload_n 12 dX11_days_11 rfl (ac_0.bnd) rfl ?_
      refine E_getL 15 dX11_days_12 fl_X11_38 ac_0 rfl (by decide) lay_0_4 rfl ?_
      refine E_get 11 18 dX11_days_15 fl_X11_206 ac_43 rfl (by decide) rfl rfl ?_
      refine E_iload_n 19 dX11_days_18 rfl rfl ?_
      refine E_iadd 20 dX11_days_19 rfl ?_
      refine E_sipush 23 dX11_days_20 (by decide) rfl ?_
      refine E_icmp_le 26 28 dX11_days_23 rfl rfl (fun h => ?_) (fun h => ?_)
      · have w := w.1 h
        refine E_aload_n 29 dX11_days_28 rfl (ac_0.bnd) rfl ?_
        refine E_getL 32 dX11_days_29 fl_X11_38 ac_0 rfl (by decide) lay_0_4 rfl ?_
        refine E_get 12 35 dX11_days_32 fl_X11_209 ac_43 rfl (by decide) rfl rfl ?_
        refine E_top (fun y1 hy1 => ?_)
        have w := w y1 hy1
        refine E_istore_n (ls' := [(2, 0), (0, x1), (0, y1), (9, 0)]) 36 dX11_days_35 (by decide) rfl rfl ?_
        refine E_iconst 37 dX11_days_36 (by decide) rfl ?_
        refine E_istore_n (ls' := [(2, 0), (0, x1), (0, y1), (0, 0)]) 38 dX11_days_37 (by decide) rfl rfl ?_
        with_reducible exact w
      · have w := w.2 h
        refine E_iconst 27 dX11_days_26 (by decide) rfl ?_
        exact E_iret dX11_days_27 rfl rfl w
theorem B_X11_days_38 {g : PG} {d : Nat} {σ : PS} {Q : Int → PS → Prop} {x1 x2 x3 : Int}  (w : ((x1 ≤ x3 → Q (w32 ((σ 43 12) - x2)) σ) ∧ (x3 < x1 → XX g true d P_X2_passDay 0 [(2, 83), (2, 43), (2, 13), (2, 18), (9, 0)] [] 136 σ 136 (fun _ σ1 => (XX g true (d + 1) P_X11_days 38 [(2, 0), (0, x1), (0, x2), (0, w32 (x3 + 1))] [] 136 σ1 136 Q))))) : XX g true (d + 1) P_X11_days 38 [(2, 0), (0, x1), (0, x2), (0, x3)] [] 136 σ 136 Q := by
  refine E_iload_n 39 dX11_days_38 rfl rfl ?_
  refine E_iload_n 40 dX11_days_39 rfl rfl ?_
  refine E_icmp_ge 43 71 dX11_days_40 rfl rfl (fun h => ?_) (fun h => ?_)
  · have w := w.1 h
    refine E_aload_n 72 dX11_days_71 rfl (ac_0.bnd) rfl ?_
    refine E_getL 75 dX11_days_72 fl_X11_38 ac_0 rfl (by decide) lay_0_4 rfl ?_
    refine E_get 12 78 dX11_days_75 fl_X11_209 ac_43 rfl (by decide) rfl rfl ?_
    refine E_iload_n 79 dX11_days_78 rfl rfl ?_
    refine E_isub 80 dX11_days_79 rfl ?_
    exact E_iret dX11_days_80 rfl rfl w
  · have w := w.2 h
    refine E_aload_n 44 dX11_days_43 rfl (ac_0.bnd) rfl ?_
    refine E_getL 47 dX11_days_44 fl_X11_74 ac_0 rfl (by decide) lay_0_10 rfl ?_
    refine E_aload_n 48 dX11_days_47 rfl (ac_0.bnd) rfl ?_
    refine E_getL 51 dX11_days_48 fl_X11_38 ac_0 rfl (by decide) lay_0_4 rfl ?_
    refine E_aload_n 52 dX11_days_51 rfl (ac_0.bnd) rfl ?_
    refine E_getL 55 dX11_days_52 fl_X11_28 ac_0 rfl (by decide) lay_0_2 rfl ?_
    refine E_aload_n 56 dX11_days_55 rfl (ac_0.bnd) rfl ?_
    refine E_getL 59 dX11_days_56 fl_X11_28 ac_0 rfl (by decide) lay_0_2 rfl ?_
    refine E_getL 62 dX11_days_59 fl_X11_178 ac_13 rfl (by decide) lay_13_1 rfl ?_
    refine E_callV (as := [(2, 43), (2, 13), (2, 18)]) 65 dX11_days_62 cf_X2_passDay mw_877 mw_878 mw_879 ac_83 (by decide) cl_X2 rfl rfl (Nat.le_of_ble_eq_true rfl) (Nat.le_of_ble_eq_true rfl) ⟨Nat.le_refl _, Nat.le_refl _⟩ rfl (w.mono (fun r2 σ1 w => ?_))
    show XX g true (d + 1) P_X11_days 65 [(2, 0), (0, x1), (0, x2), (0, x3)] [] 136 σ1 136 Q
    refine E_iinc (ls' := [(2, 0), (0, x1), (0, x2), (0, w32 (x3 + 1))]) 68 dX11_days_65 (by decide) rfl rfl rfl ?_
    refine E_goto 38 dX11_days_68 rfl ?_
    with_reducible exact w
theorem B_X11_chance_0 {g : PG} {d : Nat} {σ : PS} {Q : Int → PS → Prop} {x1 : Int}  (w : ((x1 ≠ 0 → ((x1 ≠ 1 → Q (-1) σ) ∧ (x1 = 1 → XX g true d P_X5_ofThought 0 [(2, 70), (2, 43), (2, 13), (9, 0)] [] 136 σ 136 (fun r2 σ1 => Q r2 σ1)))) ∧ (x1 = 0 → XX g true d P_X5_ofNow 0 [(2, 70), (2, 43), (2, 13), (9, 0)] [] 136 σ 136 (fun r4 σ3 => Q r4 σ3)))) : XX g true (d + 1) P_X11_chance 0 [(2, 0), (0, x1)] [] 136 σ 136 Q := by
  refine E_iload_n 1 dX11_chance_0 rfl rfl ?_
  refine E_if_ne 4 20 dX11_chance_1 rfl rfl (fun h => ?_) (fun h => ?_)
  · have w := w.1 h
    refine E_iload_n 21 dX11_chance_20 rfl rfl ?_
    refine E_iconst 22 dX11_chance_21 (by decide) rfl ?_
    refine E_icmp_ne 25 43 dX11_chance_22 rfl rfl (fun h => ?_) (fun h => ?_)
    · have w := w.1 h
      refine E_ldc2_w (x := (-1)) 46 dX11_chance_43 mw_547 (by decide) (by unfold in64; decide) rfl ?_
      exact E_lret dX11_chance_46 rfl rfl w
    · have w := w.2 h
      refine E_aload_n 26 dX11_chance_25 rfl (ac_0.bnd) rfl ?_
      refine E_getL 29 dX11_chance_26 fl_X11_60 ac_0 rfl (by decide) lay_0_8 rfl ?_
      refine E_aload_n 30 dX11_chance_29 rfl (ac_0.bnd) rfl ?_
      refine E_getL 33 dX11_chance_30 fl_X11_38 ac_0 rfl (by decide) lay_0_4 rfl ?_
      refine E_aload_n 34 dX11_chance_33 rfl (ac_0.bnd) rfl ?_
      refine E_getL 37 dX11_chance_34 fl_X11_28 ac_0 rfl (by decide) lay_0_2 rfl ?_
      refine E_callV (as := [(2, 43), (2, 13)]) 40 dX11_chance_37 cf_X5_ofThought mw_938 mw_939 mw_940 ac_70 (by decide) cl_X5 rfl rfl (Nat.le_of_ble_eq_true rfl) (Nat.le_of_ble_eq_true rfl) ⟨Nat.le_refl _, Nat.le_refl _⟩ rfl (w.mono (fun r2 σ1 w => ?_))
      show XX g true (d + 1) P_X11_chance 40 [(2, 0), (0, x1)] [(1, r2)] 136 σ1 136 Q
      refine E_goto 46 dX11_chance_40 rfl ?_
      exact E_lret dX11_chance_46 rfl rfl w
  · have w := w.2 h
    refine E_aload_n 5 dX11_chance_4 rfl (ac_0.bnd) rfl ?_
    refine E_getL 8 dX11_chance_5 fl_X11_60 ac_0 rfl (by decide) lay_0_8 rfl ?_
    refine E_aload_n 9 dX11_chance_8 rfl (ac_0.bnd) rfl ?_
    refine E_getL 12 dX11_chance_9 fl_X11_38 ac_0 rfl (by decide) lay_0_4 rfl ?_
    refine E_aload_n 13 dX11_chance_12 rfl (ac_0.bnd) rfl ?_
    refine E_getL 16 dX11_chance_13 fl_X11_28 ac_0 rfl (by decide) lay_0_2 rfl ?_
    refine E_callV (as := [(2, 43), (2, 13)]) 19 dX11_chance_16 cf_X5_ofNow mw_913 mw_914 mw_915 ac_70 (by decide) cl_X5 rfl rfl (Nat.le_of_ble_eq_true rfl) (Nat.le_of_ble_eq_true rfl) ⟨Nat.le_refl _, Nat.le_refl _⟩ rfl (w.mono (fun r4 σ3 w => ?_))
    show XX g true (d + 1) P_X11_chance 19 [(2, 0), (0, x1)] [(1, r4)] 136 σ3 136 Q
    exact E_lret dX11_chance_19 rfl rfl w
theorem B_X11_left_0 {g : PG} {d : Nat} {σ : PS} {Q : Int → PS → Prop} {x1 : Int}  (w : ((10 < σ 43 0 → Q (-1) σ) ∧ (σ 43 0 ≤ 10 → ((x1 < 0 → Q (-1) σ) ∧ (0 ≤ x1 → ((x1 ≤ 60 → XX g true d P_X11_goAhead 0 [(2, 0), (0, x1), (9, 0)] [] 136 σ 136 (fun _ σ1 => XX g true d P_X3_remaining 0 [(2, 76), (9, 0), (9, 0), (9, 0)] [] 136 σ1 136 (fun r4 σ3 => Q r4 σ3))) ∧ (60 < x1 → Q (-1) σ))))))) : XX g true (d + 1) P_X11_left 0 [(2, 0), (0, x1)] [] 136 σ 136 Q := by
  refine E_aload_n 1 dX11_left_0 rfl (ac_0.bnd) rfl ?_
  refine E_getL 4 dX11_left_1 fl_X11_38 ac_0 rfl (by decide) lay_0_4 rfl ?_
  refine E_get 0 7 dX11_left_4 fl_X11_193 ac_43 rfl (by decide) rfl rfl ?_
  refine E_bipush 9 dX11_left_7 (by decide) rfl ?_
  refine E_icmp_gt 12 22 dX11_left_9 rfl rfl (fun h => ?_) (fun h => ?_)
  · have w := w.1 h
    refine E_ldc2_w (x := (-1)) 25 dX11_left_22 mw_547 (by decide) (by unfold in64; decide) rfl ?_
    exact E_lret dX11_left_25 rfl rfl w
  · have w := w.2 h
    refine E_iload_n 13 dX11_left_12 rfl rfl ?_
    refine E_if_lt 16 22 dX11_left_13 rfl rfl (fun h => ?_) (fun h => ?_)
    · have w := w.1 h
      refine E_ldc2_w (x := (-1)) 25 dX11_left_22 mw_547 (by decide) (by unfold in64; decide) rfl ?_
      exact E_lret dX11_left_25 rfl rfl w
    · have w := w.2 h
      refine E_iload_n 17 dX11_left_16 rfl rfl ?_
      refine E_bipush 19 dX11_left_17 (by decide) rfl ?_
      refine E_icmp_le 22 26 dX11_left_19 rfl rfl (fun h => ?_) (fun h => ?_)
      · have w := w.1 h
        refine E_aload_n 27 dX11_left_26 rfl (ac_0.bnd) rfl ?_
        refine E_iload_n 28 dX11_left_27 rfl rfl ?_
        refine E_callV (as := [(0, x1)]) 31 dX11_left_28 cf_X11_goAhead mw_947 mw_949 mw_30 ac_0 (by decide) cl_X11 rfl rfl (Nat.le_of_ble_eq_true rfl) (Nat.le_of_ble_eq_true rfl) ⟨Nat.le_refl _, Nat.le_refl _⟩ rfl (w.mono (fun r2 σ1 w => ?_))
        show XX g true (d + 1) P_X11_left 31 [(2, 0), (0, x1)] [] 136 σ1 136 Q
        refine E_aload_n 32 dX11_left_31 rfl (ac_0.bnd) rfl ?_
        refine E_getL 35 dX11_left_32 fl_X11_67 ac_0 rfl (by decide) lay_0_9 rfl ?_
        refine E_callV (as := []) 38 dX11_left_35 cf_X3_remaining mw_975 mw_976 mw_977 ac_76 (by decide) cl_X3 rfl rfl (Nat.le_of_ble_eq_true rfl) (Nat.le_of_ble_eq_true rfl) ⟨Nat.le_refl _, Nat.le_refl _⟩ rfl (w.mono (fun r4 σ3 w => ?_))
        show XX g true (d + 1) P_X11_left 38 [(2, 0), (0, x1)] [(1, r4)] 136 σ3 136 Q
        exact E_lret dX11_left_38 rfl rfl w
      · have w := w.2 h
        refine E_ldc2_w (x := (-1)) 25 dX11_left_22 mw_547 (by decide) (by unfold in64; decide) rfl ?_
        exact E_lret dX11_left_25 rfl rfl w
theorem B_X11_ahead_0 {g : PG} {d : Nat} {σ : PS} {Q : Int → PS → Prop} {x1 x2 : Int}  (w : ((σ 43 0 ≤ 10 → ((x1 ≠ 0 → ((x1 ≠ 1 → Q (-1) σ) ∧ (x1 = 1 → ((x2 < 0 → Q (-1) σ) ∧ (0 ≤ x2 → ((x2 ≤ 60 → XX g true d P_X11_goAhead 0 [(2, 0), (0, x2), (9, 0)] [] 136 σ 136 (fun _ σ1 => XX g true d P_X3_mostLikely 0 [(2, 76), (9, 0), (9, 0), (9, 0), (9, 0)] [] 136 σ1 136 (fun r4 σ3 => Q r4 σ3))) ∧ (60 < x2 → Q (-1) σ))))))) ∧ (x1 = 0 → XX g true d P_X11_lasts 0 [(2, 0), (9, 0), (9, 0), (9, 0)] [] 136 σ 136 (fun r6 σ5 => Q r6 σ5)))) ∧ (10 < σ 43 0 → Q (-1) σ))) : XX g true (d + 1) P_X11_ahead 0 [(2, 0), (0, x1), (0, x2)] [] 136 σ 136 Q := by
  refine E_aload_n 1 dX11_ahead_0 rfl (ac_0.bnd) rfl ?_
  refine E_getL 4 dX11_ahead_1 fl_X11_38 ac_0 rfl (by decide) lay_0_4 rfl ?_
  refine E_get 0 7 dX11_ahead_4 fl_X11_193 ac_43 rfl (by decide) rfl rfl ?_
  refine E_bipush 9 dX11_ahead_7 (by decide) rfl ?_
  refine E_icmp_le 12 14 dX11_ahead_9 rfl rfl (fun h => ?_) (fun h => ?_)
  · have w := w.1 h
    refine E_iload_n 15 dX11_ahead_14 rfl rfl ?_
    refine E_if_ne 18 23 dX11_ahead_15 rfl rfl (fun h => ?_) (fun h => ?_)
    · have w := w.1 h
      refine E_iload_n 24 dX11_ahead_23 rfl rfl ?_
      refine E_iconst 25 dX11_ahead_24 (by decide) rfl ?_
      refine E_icmp_ne 28 38 dX11_ahead_25 rfl rfl (fun h => ?_) (fun h => ?_)
      · have w := w.1 h
        refine E_iconst 39 dX11_ahead_38 (by decide) rfl ?_
        exact E_iret dX11_ahead_39 rfl rfl w
      · have w := w.2 h
        refine E_iload_n 29 dX11_ahead_28 rfl rfl ?_
        refine E_if_lt 32 38 dX11_ahead_29 rfl rfl (fun h => ?_) (fun h => ?_)
        · have w := w.1 h
          refine E_iconst 39 dX11_ahead_38 (by decide) rfl ?_
          exact E_iret dX11_ahead_39 rfl rfl w
        · have w := w.2 h
          refine E_iload_n 33 dX11_ahead_32 rfl rfl ?_
          refine E_bipush 35 dX11_ahead_33 (by decide) rfl ?_
          refine E_icmp_le 38 40 dX11_ahead_35 rfl rfl (fun h => ?_) (fun h => ?_)
          · have w := w.1 h
            refine E_aload_n 41 dX11_ahead_40 rfl (ac_0.bnd) rfl ?_
            refine E_iload_n 42 dX11_ahead_41 rfl rfl ?_
            refine E_callV (as := [(0, x2)]) 45 dX11_ahead_42 cf_X11_goAhead mw_947 mw_949 mw_30 ac_0 (by decide) cl_X11 rfl rfl (Nat.le_of_ble_eq_true rfl) (Nat.le_of_ble_eq_true rfl) ⟨Nat.le_refl _, Nat.le_refl _⟩ rfl (w.mono (fun r2 σ1 w => ?_))
            show XX g true (d + 1) P_X11_ahead 45 [(2, 0), (0, x1), (0, x2)] [] 136 σ1 136 Q
            refine E_aload_n 46 dX11_ahead_45 rfl (ac_0.bnd) rfl ?_
            refine E_getL 49 dX11_ahead_46 fl_X11_67 ac_0 rfl (by decide) lay_0_9 rfl ?_
            refine E_callV (as := []) 52 dX11_ahead_49 cf_X3_mostLikely mw_989 mw_990 mw_991 ac_76 (by decide) cl_X3 rfl rfl (Nat.le_of_ble_eq_true rfl) (Nat.le_of_ble_eq_true rfl) ⟨Nat.le_refl _, Nat.le_refl _⟩ rfl (w.mono (fun r4 σ3 w => ?_))
            show XX g true (d + 1) P_X11_ahead 52 [(2, 0), (0, x1), (0, x2)] [(0, r4)] 136 σ3 136 Q
            exact E_iret dX11_ahead_52 rfl rfl w
          · have w := w.2 h
            refine E_iconst 39 dX11_ahead_38 (by decide) rfl ?_
            exact E_iret dX11_ahead_39 rfl rfl w
    · have w := w.2 h
      refine E_aload_n 19 dX11_ahead_18 rfl (ac_0.bnd) rfl ?_
      refine E_callV (as := []) 22 dX11_ahead_19 cf_X11_lasts mw_983 mw_985 mw_33 ac_0 (by decide) cl_X11 rfl rfl (Nat.le_of_ble_eq_true rfl) (Nat.le_of_ble_eq_true rfl) ⟨Nat.le_refl _, Nat.le_refl _⟩ rfl (w.mono (fun r6 σ5 w => ?_))
      show XX g true (d + 1) P_X11_ahead 22 [(2, 0), (0, x1), (0, x2)] [(0, r6)] 136 σ5 136 Q
      exact E_iret dX11_ahead_22 rfl rfl w
  · have w := w.2 h
    refine E_iconst 13 dX11_ahead_12 (by decide) rfl ?_
    exact E_iret dX11_ahead_13 rfl rfl w
theorem B_X11_hold_0 {g : PG} {d : Nat} {σ : PS} {Q : Int → PS → Prop} {x1 : Int}  (w : ((x1 < 0 → Q (-1) σ) ∧ (0 ≤ x1 → ((x1 ≤ σ 43 0 → XX g true d P_X5_holding 0 [(2, 70), (0, σ 43 0), (0, x1), (2, 26), (9, 0), (9, 0), (9, 0)] [] 136 σ 136 (fun r2 σ1 => Q r2 σ1)) ∧ (σ 43 0 < x1 → Q (-1) σ))))) : XX g true (d + 1) P_X11_hold 0 [(2, 0), (0, x1)] [] 136 σ 136 Q := by
  refine E_iload_n 1 dX11_hold_0 rfl rfl ?_
  refine E_if_lt 4 15 dX11_hold_1 rfl rfl (fun h => ?_) (fun h => ?_)
  · have w := w.1 h
    refine E_ldc2_w (x := (-1)) 18 dX11_hold_15 mw_547 (by decide) (by unfold in64; decide) rfl ?_
    exact E_lret dX11_hold_18 rfl rfl w
  · have w := w.2 h
    refine E_iload_n 5 dX11_hold_4 rfl rfl ?_
    refine E_aload_n 6 dX11_hold_5 rfl (ac_0.bnd) rfl ?_
    refine E_getL 9 dX11_hold_6 fl_X11_38 ac_0 rfl (by decide) lay_0_4 rfl ?_
    refine E_get 0 12 dX11_hold_9 fl_X11_193 ac_43 rfl (by decide) rfl rfl ?_
    refine E_icmp_le 15 19 dX11_hold_12 rfl rfl (fun h => ?_) (fun h => ?_)
    · have w := w.1 h
      refine E_aload_n 20 dX11_hold_19 rfl (ac_0.bnd) rfl ?_
      refine E_getL 23 dX11_hold_20 fl_X11_60 ac_0 rfl (by decide) lay_0_8 rfl ?_
      refine E_aload_n 24 dX11_hold_23 rfl (ac_0.bnd) rfl ?_
      refine E_getL 27 dX11_hold_24 fl_X11_38 ac_0 rfl (by decide) lay_0_4 rfl ?_
      refine E_get 0 30 dX11_hold_27 fl_X11_193 ac_43 rfl (by decide) rfl rfl ?_
      refine E_iload_n 31 dX11_hold_30 rfl rfl ?_
      refine E_aload_n 32 dX11_hold_31 rfl (ac_0.bnd) rfl ?_
      refine E_getL 35 dX11_hold_32 fl_X11_28 ac_0 rfl (by decide) lay_0_2 rfl ?_
      refine E_getL 38 dX11_hold_35 fl_X11_196 ac_13 rfl (by decide) lay_13_3 rfl ?_
      refine E_callV (as := [(0, σ 43 0), (0, x1), (2, 26)]) 41 dX11_hold_38 cf_X5_holding mw_997 mw_998 mw_999 ac_70 (by decide) cl_X5 rfl rfl (Nat.le_of_ble_eq_true rfl) (Nat.le_of_ble_eq_true rfl) ⟨Nat.le_refl _, Nat.le_refl _⟩ rfl (w.mono (fun r2 σ1 w => ?_))
      show XX g true (d + 1) P_X11_hold 41 [(2, 0), (0, x1)] [(1, r2)] 136 σ1 136 Q
      exact E_lret dX11_hold_41 rfl rfl w
    · have w := w.2 h
      refine E_ldc2_w (x := (-1)) 18 dX11_hold_15 mw_547 (by decide) (by unfold in64; decide) rfl ?_
      exact E_lret dX11_hold_18 rfl rfl w
theorem B_X11_which_0 {g : PG} {d : Nat} {σ : PS} {Q : Int → PS → Prop} {x1 : Int}  (w : ((x1 < 0 → Q (-1) σ) ∧ (0 ≤ x1 → ((4 < x1 → Q (-1) σ) ∧ (x1 ≤ 4 → ((σ 43 0 ≤ 12 → XX g true d P_X10_bestChange 0 [(2, 86), (0, x1), (2, 43), (2, 59), (2, 13), (9, 0), (9, 0), (9, 0), (9, 0), (9, 0), (9, 0), (9, 0)] [] 136 σ 136 (fun r2 σ1 => Q r2 σ1)) ∧ (12 < σ 43 0 → Q (-1) σ))))))) : XX g true (d + 1) P_X11_which 0 [(2, 0), (0, x1)] [] 136 σ 136 Q := by
  refine E_iload_n 1 dX11_which_0 rfl rfl ?_
  refine E_if_lt 4 21 dX11_which_1 rfl rfl (fun h => ?_) (fun h => ?_)
  · have w := w.1 h
    refine E_iconst 22 dX11_which_21 (by decide) rfl ?_
    exact E_iret dX11_which_22 rfl rfl w
  · have w := w.2 h
    refine E_iload_n 5 dX11_which_4 rfl rfl ?_
    refine E_iconst 6 dX11_which_5 (by decide) rfl ?_
    refine E_icmp_gt 9 21 dX11_which_6 rfl rfl (fun h => ?_) (fun h => ?_)
    · have w := w.1 h
      refine E_iconst 22 dX11_which_21 (by decide) rfl ?_
      exact E_iret dX11_which_22 rfl rfl w
    · have w := w.2 h
      refine E_aload_n 10 dX11_which_9 rfl (ac_0.bnd) rfl ?_
      refine E_getL 13 dX11_which_10 fl_X11_38 ac_0 rfl (by decide) lay_0_4 rfl ?_
      refine E_get 0 16 dX11_which_13 fl_X11_193 ac_43 rfl (by decide) rfl rfl ?_
      refine E_bipush 18 dX11_which_16 (by decide) rfl ?_
      refine E_icmp_le 21 23 dX11_which_18 rfl rfl (fun h => ?_) (fun h => ?_)
      · have w := w.1 h
        refine E_aload_n 24 dX11_which_23 rfl (ac_0.bnd) rfl ?_
        refine E_getL 27 dX11_which_24 fl_X11_83 ac_0 rfl (by decide) lay_0_11 rfl ?_
        refine E_iload_n 28 dX11_which_27 rfl rfl ?_
        refine E_aload_n 29 dX11_which_28 rfl (ac_0.bnd) rfl ?_
        refine E_getL 32 dX11_which_29 fl_X11_38 ac_0 rfl (by decide) lay_0_4 rfl ?_
        refine E_aload_n 33 dX11_which_32 rfl (ac_0.bnd) rfl ?_
        refine E_getL 36 dX11_which_33 fl_X11_45 ac_0 rfl (by decide) lay_0_6 rfl ?_
        refine E_aload_n 37 dX11_which_36 rfl (ac_0.bnd) rfl ?_
        refine E_getL 40 dX11_which_37 fl_X11_28 ac_0 rfl (by decide) lay_0_2 rfl ?_
        refine E_callV (as := [(0, x1), (2, 43), (2, 59), (2, 13)]) 43 dX11_which_40 cf_X10_bestChange mw_1013 mw_1014 mw_1015 ac_86 (by decide) cl_X10 rfl rfl (Nat.le_of_ble_eq_true rfl) (Nat.le_of_ble_eq_true rfl) ⟨Nat.le_refl _, Nat.le_refl _⟩ rfl (w.mono (fun r2 σ1 w => ?_))
        show XX g true (d + 1) P_X11_which 43 [(2, 0), (0, x1)] [(0, r2)] 136 σ1 136 Q
        exact E_iret dX11_which_43 rfl rfl w
      · have w := w.2 h
        refine E_iconst 22 dX11_which_21 (by decide) rfl ?_
        exact E_iret dX11_which_22 rfl rfl w
theorem B_X11_where_0 {g : PG} {d : Nat} {σ : PS} {Q : Int → PS → Prop} {x1 : Int}  (w : XX g true d P_X7_has 0 [(2, 43), (0, x1)] [] 136 σ 136 (fun r2 σ1 => ((r2 = 0 → Q (-1) σ1) ∧ (r2 ≠ 0 → ((σ1 43 0 ≤ 7 → XX g true d P_X10_bestOrder 0 [(2, 86), (0, x1), (2, 43), (2, 59), (2, 13), (9, 0), (9, 0), (9, 0), (9, 0), (9, 0)] [] 136 σ1 136 (fun r4 σ3 => Q r4 σ3)) ∧ (7 < σ1 43 0 → Q (-1) σ1)))))) : XX g true (d + 1) P_X11_where 0 [(2, 0), (0, x1)] [] 136 σ 136 Q := by
  refine E_aload_n 1 dX11_where_0 rfl (ac_0.bnd) rfl ?_
  refine E_getL 4 dX11_where_1 fl_X11_38 ac_0 rfl (by decide) lay_0_4 rfl ?_
  refine E_iload_n 5 dX11_where_4 rfl rfl ?_
  refine E_callV (as := [(0, x1)]) 8 dX11_where_5 cf_X7_has mw_543 mw_544 mw_545 ac_43 (by decide) cl_X7 rfl rfl (Nat.le_of_ble_eq_true rfl) (Nat.le_of_ble_eq_true rfl) ⟨Nat.le_refl _, Nat.le_refl _⟩ rfl (w.mono (fun r2 σ1 w => ?_))
  show XX g true (d + 1) P_X11_where 8 [(2, 0), (0, x1)] [(0, r2)] 136 σ1 136 Q
  refine E_if_eq 11 23 dX11_where_8 rfl rfl (fun h => ?_) (fun h => ?_)
  · have w := w.1 h
    refine E_iconst 24 dX11_where_23 (by decide) rfl ?_
    exact E_iret dX11_where_24 rfl rfl w
  · have w := w.2 h
    refine E_aload_n 12 dX11_where_11 rfl (ac_0.bnd) rfl ?_
    refine E_getL 15 dX11_where_12 fl_X11_38 ac_0 rfl (by decide) lay_0_4 rfl ?_
    refine E_get 0 18 dX11_where_15 fl_X11_193 ac_43 rfl (by decide) rfl rfl ?_
    refine E_bipush 20 dX11_where_18 (by decide) rfl ?_
    refine E_icmp_le 23 25 dX11_where_20 rfl rfl (fun h => ?_) (fun h => ?_)
    · have w := w.1 h
      refine E_aload_n 26 dX11_where_25 rfl (ac_0.bnd) rfl ?_
      refine E_getL 29 dX11_where_26 fl_X11_83 ac_0 rfl (by decide) lay_0_11 rfl ?_
      refine E_iload_n 30 dX11_where_29 rfl rfl ?_
      refine E_aload_n 31 dX11_where_30 rfl (ac_0.bnd) rfl ?_
      refine E_getL 34 dX11_where_31 fl_X11_38 ac_0 rfl (by decide) lay_0_4 rfl ?_
      refine E_aload_n 35 dX11_where_34 rfl (ac_0.bnd) rfl ?_
      refine E_getL 38 dX11_where_35 fl_X11_45 ac_0 rfl (by decide) lay_0_6 rfl ?_
      refine E_aload_n 39 dX11_where_38 rfl (ac_0.bnd) rfl ?_
      refine E_getL 42 dX11_where_39 fl_X11_28 ac_0 rfl (by decide) lay_0_2 rfl ?_
      refine E_callV (as := [(0, x1), (2, 43), (2, 59), (2, 13)]) 45 dX11_where_42 cf_X10_bestOrder mw_1033 mw_1034 mw_1035 ac_86 (by decide) cl_X10 rfl rfl (Nat.le_of_ble_eq_true rfl) (Nat.le_of_ble_eq_true rfl) ⟨Nat.le_refl _, Nat.le_refl _⟩ rfl (w.mono (fun r4 σ3 w => ?_))
      show XX g true (d + 1) P_X11_where 45 [(2, 0), (0, x1)] [(0, r4)] 136 σ3 136 Q
      exact E_iret dX11_where_45 rfl rfl w
    · have w := w.2 h
      refine E_iconst 24 dX11_where_23 (by decide) rfl ?_
      exact E_iret dX11_where_24 rfl rfl w
theorem B_X11_stocks_0 {g : PG} {d : Nat} {σ : PS} {Q : Int → PS → Prop} {x1 x2 : Int}  (w : ((x2 < 0 → Q (-1) σ) ∧ (0 ≤ x2 → ((1 < x2 → Q (-1) σ) ∧ (x2 ≤ 1 → ((30 < σ 43 0 → Q (-1) σ) ∧ (σ 43 0 ≤ 30 → ((x1 < 0 → Q (-1) σ) ∧ (0 ≤ x1 → ((iushr x1 (σ 43 0) = 0 → XX g true d P_X10_leastWay 0 [(2, 86), (0, x1), (0, x2), (2, 43), (9, 0), (9, 0), (9, 0), (9, 0), (9, 0), (9, 0), (9, 0)] [] 136 σ 136 (fun r2 σ1 => Q r2 σ1)) ∧ (iushr x1 (σ 43 0) ≠ 0 → Q (-1) σ))))))))))) : XX g true (d + 1) P_X11_stocks 0 [(2, 0), (0, x1), (0, x2)] [] 136 σ 136 Q := by
  refine E_iload_n 1 dX11_stocks_0 rfl rfl ?_
  refine E_if_lt 4 37 dX11_stocks_1 rfl rfl (fun h => ?_) (fun h => ?_)
  · have w := w.1 h
    refine E_iconst 38 dX11_stocks_37 (by decide) rfl ?_
    exact E_iret dX11_stocks_38 rfl rfl w
  · have w := w.2 h
    refine E_iload_n 5 dX11_stocks_4 rfl rfl ?_
    refine E_iconst 6 dX11_stocks_5 (by decide) rfl ?_
    refine E_icmp_gt 9 37 dX11_stocks_6 rfl rfl (fun h => ?_) (fun h => ?_)
    · have w := w.1 h
      refine E_iconst 38 dX11_stocks_37 (by decide) rfl ?_
      exact E_iret dX11_stocks_38 rfl rfl w
    · have w := w.2 h
      refine E_aload_n 10 dX11_stocks_9 rfl (ac_0.bnd) rfl ?_
      refine E_getL 13 dX11_stocks_10 fl_X11_38 ac_0 rfl (by decide) lay_0_4 rfl ?_
      refine E_get 0 16 dX11_stocks_13 fl_X11_193 ac_43 rfl (by decide) rfl rfl ?_
      refine E_bipush 18 dX11_stocks_16 (by decide) rfl ?_
      refine E_icmp_gt 21 37 dX11_stocks_18 rfl rfl (fun h => ?_) (fun h => ?_)
      · have w := w.1 h
        refine E_iconst 38 dX11_stocks_37 (by decide) rfl ?_
        exact E_iret dX11_stocks_38 rfl rfl w
      · have w := w.2 h
        refine E_iload_n 22 dX11_stocks_21 rfl rfl ?_
        refine E_if_lt 25 37 dX11_stocks_22 rfl rfl (fun h => ?_) (fun h => ?_)
        · have w := w.1 h
          refine E_iconst 38 dX11_stocks_37 (by decide) rfl ?_
          exact E_iret dX11_stocks_38 rfl rfl w
        · have w := w.2 h
          refine E_iload_n 26 dX11_stocks_25 rfl rfl ?_
          refine E_aload_n 27 dX11_stocks_26 rfl (ac_0.bnd) rfl ?_
          refine E_getL 30 dX11_stocks_27 fl_X11_38 ac_0 rfl (by decide) lay_0_4 rfl ?_
          refine E_get 0 33 dX11_stocks_30 fl_X11_193 ac_43 rfl (by decide) rfl rfl ?_
          refine E_iushr 34 dX11_stocks_33 rfl ?_
          refine E_if_eq 37 39 dX11_stocks_34 rfl rfl (fun h => ?_) (fun h => ?_)
          · have w := w.1 h
            refine E_aload_n 40 dX11_stocks_39 rfl (ac_0.bnd) rfl ?_
            refine E_getL 43 dX11_stocks_40 fl_X11_83 ac_0 rfl (by decide) lay_0_11 rfl ?_
            refine E_iload_n 44 dX11_stocks_43 rfl rfl ?_
            refine E_iload_n 45 dX11_stocks_44 rfl rfl ?_
            refine E_aload_n 46 dX11_stocks_45 rfl (ac_0.bnd) rfl ?_
            refine E_getL 49 dX11_stocks_46 fl_X11_38 ac_0 rfl (by decide) lay_0_4 rfl ?_
            refine E_callV (as := [(0, x1), (0, x2), (2, 43)]) 52 dX11_stocks_49 cf_X10_leastWay mw_1054 mw_1055 mw_1056 ac_86 (by decide) cl_X10 rfl rfl (Nat.le_of_ble_eq_true rfl) (Nat.le_of_ble_eq_true rfl) ⟨Nat.le_refl _, Nat.le_refl _⟩ rfl (w.mono (fun r2 σ1 w => ?_))
            show XX g true (d + 1) P_X11_stocks 52 [(2, 0), (0, x1), (0, x2)] [(0, r2)] 136 σ1 136 Q
            exact E_iret dX11_stocks_52 rfl rfl w
          · have w := w.2 h
            refine E_iconst 38 dX11_stocks_37 (by decide) rfl ?_
            exact E_iret dX11_stocks_38 rfl rfl w
theorem B_X11_thought_0 {g : PG} {d : Nat} {σ : PS} {Q : Int → PS → Prop} {x1 x2 x3 x4 : Int}  (w : ((x1 < 1 → Q (-1) σ) ∧ (1 ≤ x1 → ((2 < x1 → Q (-1) σ) ∧ (x1 ≤ 2 → XX g true d P_X11_isEvery 0 [(0, x2)] [] 136 σ 136 (fun r2 σ1 => ((r2 = 0 → Q (-1) σ1) ∧ (r2 ≠ 0 → ((x3 < 1 → Q (-1) σ1) ∧ (1 ≤ x3 → ((x3 ≤ 99 → ((x4 < 0 → Q (-1) σ1) ∧ (0 ≤ x4 → ((x4 ≤ 2 → XX g true d P_X11_think 0 [(2, 0), (0, x1), (0, x2), (0, x3), (9, 0)] [] 136 σ1 136 (fun _ σ3 => ((x4 ≠ 0 → ((x4 ≠ 1 → Q (w32 ((σ3 59 14) - (σ3 43 14))) σ3) ∧ (x4 = 1 → Q (w32 ((σ3 59 12) - (σ3 43 12))) σ3))) ∧ (x4 = 0 → Q (w32 ((σ3 59 13) - (σ3 43 13))) σ3)))) ∧ (2 < x4 → Q (-1) σ1))))) ∧ (99 < x3 → Q (-1) σ1)))))))))))) : XX g true (d + 1) P_X11_thought 0 [(2, 0), (0, x1), (0, x2), (0, x3), (0, x4)] [] 136 σ 136 Q := by
  refine E_iload_n 1 dX11_thought_0 rfl rfl ?_
  refine E_iconst 2 dX11_thought_1 (by decide) rfl ?_
  refine E_icmp_lt 5 28 dX11_thought_2 rfl rfl (fun h => ?_) (fun h => ?_)
  · have w := w.1 h
    refine E_iconst 29 dX11_thought_28 (by decide) rfl ?_
    exact E_iret dX11_thought_29 rfl rfl w
  · have w := w.2 h
    refine E_iload_n 6 dX11_thought_5 rfl rfl ?_
    refine E_iconst 7 dX11_thought_6 (by decide) rfl ?_
    refine E_icmp_gt 10 28 dX11_thought_7 rfl rfl (fun h => ?_) (fun h => ?_)
    · have w := w.1 h
      refine E_iconst 29 dX11_thought_28 (by decide) rfl ?_
      exact E_iret dX11_thought_29 rfl rfl w
    · have w := w.2 h
      refine E_iload_n 11 dX11_thought_10 rfl rfl ?_
      refine E_callS (as := [(0, x2)]) 14 dX11_thought_11 cf_X11_isEvery (Or.inl mw_1066) mw_1067 rfl rfl (Nat.le_of_ble_eq_true rfl) (Nat.le_of_ble_eq_true rfl) ⟨Nat.le_refl _, Nat.le_refl _⟩ rfl (w.mono (fun r2 σ1 w => ?_))
      show XX g true (d + 1) P_X11_thought 14 [(2, 0), (0, x1), (0, x2), (0, x3), (0, x4)] [(0, r2)] 136 σ1 136 Q
      refine E_if_eq 17 28 dX11_thought_14 rfl rfl (fun h => ?_) (fun h => ?_)
      · have w := w.1 h
        refine E_iconst 29 dX11_thought_28 (by decide) rfl ?_
        exact E_iret dX11_thought_29 rfl rfl w
      · have w := w.2 h
        refine E_iload_n 18 dX11_thought_17 rfl rfl ?_
        refine E_iconst 19 dX11_thought_18 (by decide) rfl ?_
        refine E_icmp_lt 22 28 dX11_thought_19 rfl rfl (fun h => ?_) (fun h => ?_)
        · have w := w.1 h
          refine E_iconst 29 dX11_thought_28 (by decide) rfl ?_
          exact E_iret dX11_thought_29 rfl rfl w
        · have w := w.2 h
          refine E_iload_n 23 dX11_thought_22 rfl rfl ?_
          refine E_bipush 25 dX11_thought_23 (by decide) rfl ?_
          refine E_icmp_le 28 30 dX11_thought_25 rfl rfl (fun h => ?_) (fun h => ?_)
          · have w := w.1 h
            refine E_iload 32 dX11_thought_30 rfl rfl ?_
            refine E_if_lt 35 41 dX11_thought_32 rfl rfl (fun h => ?_) (fun h => ?_)
            · have w := w.1 h
              refine E_iconst 42 dX11_thought_41 (by decide) rfl ?_
              exact E_iret dX11_thought_42 rfl rfl w
            · have w := w.2 h
              refine E_iload 37 dX11_thought_35 rfl rfl ?_
              refine E_iconst 38 dX11_thought_37 (by decide) rfl ?_
              refine E_icmp_le 41 43 dX11_thought_38 rfl rfl (fun h => ?_) (fun h => ?_)
              · have w := w.1 h
                refine E_aload_n 44 dX11_thought_43 rfl (ac_0.bnd) rfl ?_
                refine E_iload_n 45 dX11_thought_44 rfl rfl ?_
                refine E_iload_n 46 dX11_thought_45 rfl rfl ?_
                refine E_iload_n 47 dX11_thought_46 rfl rfl ?_
                refine E_callV (as := [(0, x1), (0, x2), (0, x3)]) 50 dX11_thought_47 cf_X11_think mw_1069 mw_1071 mw_36 ac_0 (by decide) cl_X11 rfl rfl (Nat.le_of_ble_eq_true rfl) (Nat.le_of_ble_eq_true rfl) ⟨Nat.le_refl _, Nat.le_refl _⟩ rfl (w.mono (fun r4 σ3 w => ?_))
                show XX g true (d + 1) P_X11_thought 50 [(2, 0), (0, x1), (0, x2), (0, x3), (0, x4)] [] 136 σ3 136 Q
                refine E_iload 52 dX11_thought_50 rfl rfl ?_
                refine E_if_ne 55 71 dX11_thought_52 rfl rfl (fun h => ?_) (fun h => ?_)
                · have w := w.1 h
                  refine E_iload 73 dX11_thought_71 rfl rfl ?_
                  refine E_iconst 74 dX11_thought_73 (by decide) rfl ?_
                  refine E_icmp_ne 77 95 dX11_thought_74 rfl rfl (fun h => ?_) (fun h => ?_)
                  · have w := w.1 h
                    refine E_aload_n 96 dX11_thought_95 rfl (ac_0.bnd) rfl ?_
                    refine E_getL 99 dX11_thought_96 fl_X11_45 ac_0 rfl (by decide) lay_0_6 rfl ?_
                    refine E_get 14 102 dX11_thought_99 fl_X11_261 ac_59 rfl (by decide) rfl rfl ?_
                    refine E_aload_n 103 dX11_thought_102 rfl (ac_0.bnd) rfl ?_
                    refine E_getL 106 dX11_thought_103 fl_X11_38 ac_0 rfl (by decide) lay_0_4 rfl ?_
                    refine E_get 14 109 dX11_thought_106 fl_X11_261 ac_43 rfl (by decide) rfl rfl ?_
                    refine E_isub 110 dX11_thought_109 rfl ?_
                    exact E_iret dX11_thought_110 rfl rfl w
                  · have w := w.2 h
                    refine E_aload_n 78 dX11_thought_77 rfl (ac_0.bnd) rfl ?_
                    refine E_getL 81 dX11_thought_78 fl_X11_45 ac_0 rfl (by decide) lay_0_6 rfl ?_
                    refine E_get 12 84 dX11_thought_81 fl_X11_209 ac_59 rfl (by decide) rfl rfl ?_
                    refine E_aload_n 85 dX11_thought_84 rfl (ac_0.bnd) rfl ?_
                    refine E_getL 88 dX11_thought_85 fl_X11_38 ac_0 rfl (by decide) lay_0_4 rfl ?_
                    refine E_get 12 91 dX11_thought_88 fl_X11_209 ac_43 rfl (by decide) rfl rfl ?_
                    refine E_isub 92 dX11_thought_91 rfl ?_
                    refine E_goto 110 dX11_thought_92 rfl ?_
                    exact E_iret dX11_thought_110 rfl rfl w
                · have w := w.2 h
                  refine E_aload_n 56 dX11_thought_55 rfl (ac_0.bnd) rfl ?_
                  refine E_getL 59 dX11_thought_56 fl_X11_45 ac_0 rfl (by decide) lay_0_6 rfl ?_
                  refine E_get 13 62 dX11_thought_59 fl_X11_258 ac_59 rfl (by decide) rfl rfl ?_
                  refine E_aload_n 63 dX11_thought_62 rfl (ac_0.bnd) rfl ?_
                  refine E_getL 66 dX11_thought_63 fl_X11_38 ac_0 rfl (by decide) lay_0_4 rfl ?_
                  refine E_get 13 69 dX11_thought_66 fl_X11_258 ac_43 rfl (by decide) rfl rfl ?_
                  refine E_isub 70 dX11_thought_69 rfl ?_
                  exact E_iret dX11_thought_70 rfl rfl w
              · have w := w.2 h
                refine E_iconst 42 dX11_thought_41 (by decide) rfl ?_
                exact E_iret dX11_thought_42 rfl rfl w
          · have w := w.2 h
            refine E_iconst 29 dX11_thought_28 (by decide) rfl ?_
            exact E_iret dX11_thought_29 rfl rfl w
theorem B_X11_often_0 {g : PG} {d : Nat} {σ : PS} {Q : Int → PS → Prop} {x1 x2 : Int}  (w : ((x1 < 1 → Q (-1) σ) ∧ (1 ≤ x1 → ((99 < x1 → Q (-1) σ) ∧ (x1 ≤ 99 → ((x2 < 0 → Q (-1) σ) ∧ (0 ≤ x2 → ((x2 ≤ 1 → ((x2 ≠ 0 → XX g true d P_X11_cheaperRule 0 [(2, 0), (0, x1), (9, 0), (9, 0)] [] 136 σ 136 (fun r2 σ1 => Q r2 σ1)) ∧ (x2 = 0 → XX g true d P_X11_cheapestEvery 0 [(2, 0), (0, x1), (9, 0), (9, 0), (9, 0), (9, 0)] [] 136 σ 136 (fun r4 σ3 => Q r4 σ3)))) ∧ (1 < x2 → Q (-1) σ))))))))) : XX g true (d + 1) P_X11_often 0 [(2, 0), (0, x1), (0, x2)] [] 136 σ 136 Q := by
  refine E_iload_n 1 dX11_often_0 rfl rfl ?_
  refine E_iconst 2 dX11_often_1 (by decide) rfl ?_
  refine E_icmp_lt 5 20 dX11_often_2 rfl rfl (fun h => ?_) (fun h => ?_)
  · have w := w.1 h
    refine E_iconst 21 dX11_often_20 (by decide) rfl ?_
    exact E_iret dX11_often_21 rfl rfl w
  · have w := w.2 h
    refine E_iload_n 6 dX11_often_5 rfl rfl ?_
    refine E_bipush 8 dX11_often_6 (by decide) rfl ?_
    refine E_icmp_gt 11 20 dX11_often_8 rfl rfl (fun h => ?_) (fun h => ?_)
    · have w := w.1 h
      refine E_iconst 21 dX11_often_20 (by decide) rfl ?_
      exact E_iret dX11_often_21 rfl rfl w
    · have w := w.2 h
      refine E_iload_n 12 dX11_often_11 rfl rfl ?_
      refine E_if_lt 15 20 dX11_often_12 rfl rfl (fun h => ?_) (fun h => ?_)
      · have w := w.1 h
        refine E_iconst 21 dX11_often_20 (by decide) rfl ?_
        exact E_iret dX11_often_21 rfl rfl w
      · have w := w.2 h
        refine E_iload_n 16 dX11_often_15 rfl rfl ?_
        refine E_iconst 17 dX11_often_16 (by decide) rfl ?_
        refine E_icmp_le 20 22 dX11_often_17 rfl rfl (fun h => ?_) (fun h => ?_)
        · have w := w.1 h
          refine E_iload_n 23 dX11_often_22 rfl rfl ?_
          refine E_if_ne 26 34 dX11_often_23 rfl rfl (fun h => ?_) (fun h => ?_)
          · have w := w.1 h
            refine E_aload_n 35 dX11_often_34 rfl (ac_0.bnd) rfl ?_
            refine E_iload_n 36 dX11_often_35 rfl rfl ?_
            refine E_callV (as := [(0, x1)]) 39 dX11_often_36 cf_X11_cheaperRule mw_1082 mw_1084 mw_38 ac_0 (by decide) cl_X11 rfl rfl (Nat.le_of_ble_eq_true rfl) (Nat.le_of_ble_eq_true rfl) ⟨Nat.le_refl _, Nat.le_refl _⟩ rfl (w.mono (fun r2 σ1 w => ?_))
            show XX g true (d + 1) P_X11_often 39 [(2, 0), (0, x1), (0, x2)] [(0, r2)] 136 σ1 136 Q
            exact E_iret dX11_often_39 rfl rfl w
          · have w := w.2 h
            refine E_aload_n 27 dX11_often_26 rfl (ac_0.bnd) rfl ?_
            refine E_iload_n 28 dX11_often_27 rfl rfl ?_
            refine E_callV (as := [(0, x1)]) 31 dX11_often_28 cf_X11_cheapestEvery mw_1078 mw_1080 mw_37 ac_0 (by decide) cl_X11 rfl rfl (Nat.le_of_ble_eq_true rfl) (Nat.le_of_ble_eq_true rfl) ⟨Nat.le_refl _, Nat.le_refl _⟩ rfl (w.mono (fun r4 σ3 w => ?_))
            show XX g true (d + 1) P_X11_often 31 [(2, 0), (0, x1), (0, x2)] [(0, r4)] 136 σ3 136 Q
            refine E_goto 39 dX11_often_31 rfl ?_
            exact E_iret dX11_often_39 rfl rfl w
        · have w := w.2 h
          refine E_iconst 21 dX11_often_20 (by decide) rfl ?_
          exact E_iret dX11_often_21 rfl rfl w
theorem B_X11_nine_0 {g : PG} {d : Nat} {σ : PS} {Q : Int → PS → Prop} {x1 : Int}  (w : ((x1 < 1 → Q (-1) σ) ∧ (1 ≤ x1 → ((x1 ≤ 99 → XX g true d P_X5_ofNow 0 [(2, 70), (2, 43), (2, 13), (9, 0)] [] 136 σ 136 (fun r2 σ1 => ∀ y3, y3 = w64 (1000000 - (ldiv r2 1000000)) → (XX g true (d + 1) P_X11_nine 45 [(9, 0), (0, x1), (1, y3), (9, 0), (1, 1000000), (9, 0), (0, 0)] [] 136 σ1 136 Q))) ∧ (99 < x1 → Q (-1) σ))))) : XX g true (d + 1) P_X11_nine 0 [(2, 0), (0, x1), (9, 0), (9, 0), (9, 0), (9, 0), (9, 0)] [] 136 σ 136 Q := by
  refine E_iload_n 1 dX11_nine_0 rfl rfl ?_
  refine E_iconst 2 dX11_nine_1 (by decide) rfl ?_
  refine E_icmp_lt 5 11 dX11_nine_2 rfl rfl (fun h => ?_) (fun h => ?_)
  · have w := w.1 h
    refine E_iconst 12 dX11_nine_11 (by decide) rfl ?_
    exact E_iret dX11_nine_12 rfl rfl w
  · have w := w.2 h
    refine E_iload_n 6 dX11_nine_5 rfl rfl ?_
    refine E_bipush 8 dX11_nine_6 (by decide) rfl ?_
    refine E_icmp_le 11 13 dX11_nine_8 rfl rfl (fun h => ?_) (fun h => ?_)
    · have w := w.1 h
      refine E_ldc2_w (x := 1000000) 16 dX11_nine_13 mw_1090 (by decide) (by unfold in64; decide) rfl ?_
      refine E_aload_n 17 dX11_nine_16 rfl (ac_0.bnd) rfl ?_
      refine E_getL 20 dX11_nine_17 fl_X11_60 ac_0 rfl (by decide) lay_0_8 rfl ?_
      refine E_aload_n 21 dX11_nine_20 rfl (ac_0.bnd) rfl ?_
      refine E_getL 24 dX11_nine_21 fl_X11_38 ac_0 rfl (by decide) lay_0_4 rfl ?_
      refine E_aload_n 25 dX11_nine_24 rfl (ac_0.bnd) rfl ?_
      refine E_getL 28 dX11_nine_25 fl_X11_28 ac_0 rfl (by decide) lay_0_2 rfl ?_
      refine E_callV (as := [(2, 43), (2, 13)]) 31 dX11_nine_28 cf_X5_ofNow mw_913 mw_914 mw_915 ac_70 (by decide) cl_X5 rfl rfl (Nat.le_of_ble_eq_true rfl) (Nat.le_of_ble_eq_true rfl) ⟨Nat.le_refl _, Nat.le_refl _⟩ rfl (w.mono (fun r2 σ1 w => ?_))
      show XX g true (d + 1) P_X11_nine 31 [(2, 0), (0, x1), (9, 0), (9, 0), (9, 0), (9, 0), (9, 0)] [(1, r2), (1, 1000000)] 136 σ1 136 Q
      refine E_ldc2_w (x := 1000000) 34 dX11_nine_31 mw_1090 (by decide) (by unfold in64; decide) rfl ?_
      refine E_ldiv 35 dX11_nine_34 (by decide) rfl ?_
      refine E_lsub 36 dX11_nine_35 rfl ?_
      refine E_top (fun y3 hy3 => ?_)
      have w := w y3 hy3
      refine E_lstore_n (ls' := [(2, 0), (0, x1), (1, y3), (9, 0), (9, 0), (9, 0), (9, 0)]) 37 dX11_nine_36 (by decide) rfl rfl ?_
      refine E_ldc2_w (x := 1000000) 40 dX11_nine_37 mw_1090 (by decide) (by unfold in64; decide) rfl ?_
      refine E_lstore (ls' := [(2, 0), (0, x1), (1, y3), (9, 0), (1, 1000000), (9, 0), (9, 0)]) 42 dX11_nine_40 (by decide) rfl rfl ?_
      refine E_iconst 43 dX11_nine_42 (by decide) rfl ?_
      refine E_istore (ls' := [(2, 0), (0, x1), (1, y3), (9, 0), (1, 1000000), (9, 0), (0, 0)]) 45 dX11_nine_43 (by decide) rfl rfl ?_
      refine XX.fg [0] [(9, 0), (0, x1), (1, y3), (9, 0), (1, 1000000), (9, 0), (0, 0)] rfl ?_
      with_reducible exact w
    · have w := w.2 h
      refine E_iconst 12 dX11_nine_11 (by decide) rfl ?_
      exact E_iret dX11_nine_12 rfl rfl w
theorem B_X11_nine_45 {g : PG} {d : Nat} {σ : PS} {Q : Int → PS → Prop} {x1 x2 x4 x6 : Int}  (w : ((x1 ≤ x6 → Q (l2i x4) σ) ∧ (x6 < x1 → ∀ y1, y1 = ldiv (w64 (x4 * x2)) 1000000 → (XX g true (d + 1) P_X11_nine 45 [(9, 0), (0, x1), (1, x2), (9, 0), (1, y1), (9, 0), (0, w32 (x6 + 1))] [] 136 σ 136 Q)))) : XX g true (d + 1) P_X11_nine 45 [(9, 0), (0, x1), (1, x2), (9, 0), (1, x4), (9, 0), (0, x6)] [] 136 σ 136 Q := by
  refine E_iload 47 dX11_nine_45 rfl rfl ?_
  refine E_iload_n 48 dX11_nine_47 rfl rfl ?_
  refine E_icmp_ge 51 67 dX11_nine_48 rfl rfl (fun h => ?_) (fun h => ?_)
  · have w := w.1 h
    refine E_lload 69 dX11_nine_67 rfl rfl ?_
    refine E_l2i 70 dX11_nine_69 rfl ?_
    exact E_iret dX11_nine_70 rfl rfl w
  · have w := w.2 h
    refine E_lload 53 dX11_nine_51 rfl rfl ?_
    refine E_lload_n 54 dX11_nine_53 rfl rfl ?_
    refine E_lmul 55 dX11_nine_54 rfl ?_
    refine E_ldc2_w (x := 1000000) 58 dX11_nine_55 mw_1090 (by decide) (by unfold in64; decide) rfl ?_
    refine E_ldiv 59 dX11_nine_58 (by decide) rfl ?_
    refine E_top (fun y1 hy1 => ?_)
    have w := w y1 hy1
    refine E_lstore (ls' := [(9, 0), (0, x1), (1, x2), (9, 0), (1, y1), (9, 0), (0, x6)]) 61 dX11_nine_59 (by decide) rfl rfl ?_
    refine E_iinc (ls' := [(9, 0), (0, x1), (1, x2), (9, 0), (1, y1), (9, 0), (0, w32 (x6 + 1))]) 64 dX11_nine_61 (by decide) rfl rfl rfl ?_
    refine E_goto 45 dX11_nine_64 rfl ?_
    with_reducible exact w
theorem B_X11_image_0 {g : PG} {d : Nat} {σ : PS} {Q : Int → PS → Prop} {x1 : Int}  (w : ((x1 = 0 → ((σ 0 12 = 0 → (σ 0 12 = 0 ∨ σ 0 12 = 1) ∧ Q (σ 0 12) σ) ∧ (σ 0 12 ≠ 0 → XX g true d P_X7_copy 0 [(2, 43), (2, 51)] [] 136 σ 136 (fun _ σ2 => XX g true d P_X9_copy 0 [(2, 13), (2, 28)] [] 136 σ2 136 (fun _ σ4 => (σ4 0 12 = 0 ∨ σ4 0 12 = 1) ∧ Q (σ4 0 12) σ4))))) ∧ (x1 ≠ 0 → XX g true d P_X7_copy 0 [(2, 51), (2, 43)] [] 136 σ 136 (fun _ σ7 => XX g true d P_X9_copy 0 [(2, 28), (2, 13)] [] 136 σ7 136 (fun _ σ9 => Q 1 (su σ9 0 12 1)))))) : XX g true (d + 1) P_X11_image 0 [(2, 0), (0, x1)] [] 136 σ 136 Q := by
  refine E_iload_n 1 dX11_image_0 rfl rfl ?_
  refine E_if_eq 4 34 dX11_image_1 rfl rfl (fun h => ?_) (fun h => ?_)
  · have w := w.1 h
    refine E_aload_n 35 dX11_image_34 rfl (ac_0.bnd) rfl ?_
    refine E_get 12 38 dX11_image_35 fl_X11_280 ac_0 rfl (by decide) rfl rfl ?_
    refine E_if_eq 41 63 dX11_image_38 rfl rfl (fun h => ?_) (fun h => ?_)
    · have w := w.1 h
      refine E_aload_n 64 dX11_image_63 rfl (ac_0.bnd) rfl ?_
      refine E_get 12 67 dX11_image_64 fl_X11_280 ac_0 rfl (by decide) rfl rfl ?_
      obtain ⟨c1, w⟩ := w
      exact E_zret dX11_image_67 rfl rfl c1 w
    · have w := w.2 h
      refine E_aload_n 42 dX11_image_41 rfl (ac_0.bnd) rfl ?_
      refine E_getL 45 dX11_image_42 fl_X11_38 ac_0 rfl (by decide) lay_0_4 rfl ?_
      refine E_aload_n 46 dX11_image_45 rfl (ac_0.bnd) rfl ?_
      refine E_getL 49 dX11_image_46 fl_X11_42 ac_0 rfl (by decide) lay_0_5 rfl ?_
      refine E_callV (as := [(2, 51)]) 52 dX11_image_49 cf_X7_copy mw_1073 mw_1018 mw_1019 ac_43 (by decide) cl_X7 rfl rfl (Nat.le_of_ble_eq_true rfl) (Nat.le_of_ble_eq_true rfl) ⟨Nat.le_refl _, Nat.le_refl _⟩ rfl (w.mono (fun r3 σ2 w => ?_))
      show XX g true (d + 1) P_X11_image 52 [(2, 0), (0, x1)] [] 136 σ2 136 Q
      refine E_aload_n 53 dX11_image_52 rfl (ac_0.bnd) rfl ?_
      refine E_getL 56 dX11_image_53 fl_X11_28 ac_0 rfl (by decide) lay_0_2 rfl ?_
      refine E_aload_n 57 dX11_image_56 rfl (ac_0.bnd) rfl ?_
      refine E_getL 60 dX11_image_57 fl_X11_32 ac_0 rfl (by decide) lay_0_3 rfl ?_
      refine E_callV (as := [(2, 28)]) 63 dX11_image_60 cf_X9_copy mw_1095 mw_1096 mw_1097 ac_13 (by decide) cl_X9 rfl rfl (Nat.le_of_ble_eq_true rfl) (Nat.le_of_ble_eq_true rfl) ⟨Nat.le_refl _, Nat.le_refl _⟩ rfl (w.mono (fun r5 σ4 w => ?_))
      show XX g true (d + 1) P_X11_image 63 [(2, 0), (0, x1)] [] 136 σ4 136 Q
      refine E_aload_n 64 dX11_image_63 rfl (ac_0.bnd) rfl ?_
      refine E_get 12 67 dX11_image_64 fl_X11_280 ac_0 rfl (by decide) rfl rfl ?_
      obtain ⟨c6, w⟩ := w
      exact E_zret dX11_image_67 rfl rfl c6 w
  · have w := w.2 h
    refine E_aload_n 5 dX11_image_4 rfl (ac_0.bnd) rfl ?_
    refine E_getL 8 dX11_image_5 fl_X11_42 ac_0 rfl (by decide) lay_0_5 rfl ?_
    refine E_aload_n 9 dX11_image_8 rfl (ac_0.bnd) rfl ?_
    refine E_getL 12 dX11_image_9 fl_X11_38 ac_0 rfl (by decide) lay_0_4 rfl ?_
    refine E_callV (as := [(2, 43)]) 15 dX11_image_12 cf_X7_copy mw_1073 mw_1018 mw_1019 ac_51 (by decide) cl_X7 rfl rfl (Nat.le_of_ble_eq_true rfl) (Nat.le_of_ble_eq_true rfl) ⟨Nat.le_refl _, Nat.le_refl _⟩ rfl (w.mono (fun r8 σ7 w => ?_))
    show XX g true (d + 1) P_X11_image 15 [(2, 0), (0, x1)] [] 136 σ7 136 Q
    refine E_aload_n 16 dX11_image_15 rfl (ac_0.bnd) rfl ?_
    refine E_getL 19 dX11_image_16 fl_X11_32 ac_0 rfl (by decide) lay_0_3 rfl ?_
    refine E_aload_n 20 dX11_image_19 rfl (ac_0.bnd) rfl ?_
    refine E_getL 23 dX11_image_20 fl_X11_28 ac_0 rfl (by decide) lay_0_2 rfl ?_
    refine E_callV (as := [(2, 13)]) 26 dX11_image_23 cf_X9_copy mw_1095 mw_1096 mw_1097 ac_28 (by decide) cl_X9 rfl rfl (Nat.le_of_ble_eq_true rfl) (Nat.le_of_ble_eq_true rfl) ⟨Nat.le_refl _, Nat.le_refl _⟩ rfl (w.mono (fun r10 σ9 w => ?_))
    show XX g true (d + 1) P_X11_image 26 [(2, 0), (0, x1)] [] 136 σ9 136 Q
    refine E_aload_n 27 dX11_image_26 rfl (ac_0.bnd) rfl ?_
    refine E_iconst 28 dX11_image_27 (by decide) rfl ?_
    refine E_putZ 12 31 dX11_image_28 fl_X11_280 ac_0 rfl (by decide) (Or.inl rfl) (Or.inr rfl) rfl rfl ?_
    refine E_goto 63 dX11_image_31 rfl ?_
    refine E_aload_n 64 dX11_image_63 rfl (ac_0.bnd) rfl ?_
    refine E_get 12 67 dX11_image_64 fl_X11_280 ac_0 rfl (by decide) rfl rfl ?_
    refine E_conv (su_eq) ?_
    exact E_zret dX11_image_67 rfl rfl (Or.inr rfl) w
theorem B_X11_look_0 {g : PG} {d : Nat} {σ : PS} {Q : Int → PS → Prop} {x1 : Int}  (w : ((x1 = 0 → Q (σ 43 0) σ) ∧ (x1 = 1 → Q (σ 43 11) σ) ∧ (x1 = 2 → Q (σ 43 12) σ) ∧ (x1 = 3 → Q (σ 43 13) σ) ∧ (x1 = 4 → Q (σ 43 14) σ) ∧ (x1 = 5 → XX g true d P_J13_bitCount_95d88 0 [(1, σ 43 5), (9, 0)] [] 136 σ 136 (fun r2 σ1 => Q r2 σ1)) ∧ (x1 = 6 → XX g true d P_X1_breaksRow 0 [(2, 26), (1, σ 43 5), (9, 0), (0, σ 43 0), (9, 0), (9, 0)] [] 136 σ 136 (fun r4 σ3 => ((r4 = 0 → Q 0 σ3) ∧ (r4 ≠ 0 → Q 1 σ3)))) ∧ (x1 = 7 → Q (σ 43 15) σ) ∧ (x1 = 8 → Q (σ 43 16) σ) ∧ ((x1 < 0 ∨ 8 < x1) → ((x1 < 9 → Q (-1) σ) ∧ (9 ≤ x1 → ((w32 (x1 - 9) < 8 → (0 ≤ w32 (x1 - 9) ∧ w32 (x1 - 9) < 8) ∧ Q (σ 50 (w32 (x1 - 9))) σ) ∧ (8 ≤ w32 (x1 - 9) → Q (-1) σ))))))) : XX g true (d + 1) P_X11_look 0 [(2, 0), (0, x1)] [] 136 σ 136 Q := by
  refine E_iload_n 1 dX11_look_0 rfl rfl ?_
  rcases (show x1 = 0 ∨ x1 = 1 ∨ x1 = 2 ∨ x1 = 3 ∨ x1 = 4 ∨ x1 = 5 ∨ x1 = 6 ∨ x1 = 7 ∨ x1 = 8 ∨ (x1 < 0 ∨ 8 < x1) by omega) with h | h | h | h | h | h | h | h | h | h
  · have w := w.1 h
    refine E_tabIn 52 dX11_look_1 (by rw [h]; decide) (by rw [h]; decide) (by rw [h] <;> rfl) rfl ?_
    refine E_aload_n 53 dX11_look_52 rfl (ac_0.bnd) rfl ?_
    refine E_getL 56 dX11_look_53 fl_X11_38 ac_0 rfl (by decide) lay_0_4 rfl ?_
    refine E_get 0 59 dX11_look_56 fl_X11_193 ac_43 rfl (by decide) rfl rfl ?_
    exact E_iret dX11_look_59 rfl rfl w
  · have w := w.2.1 h
    refine E_tabIn 60 dX11_look_1 (by rw [h]; decide) (by rw [h]; decide) (by rw [h] <;> rfl) rfl ?_
    refine E_aload_n 61 dX11_look_60 rfl (ac_0.bnd) rfl ?_
    refine E_getL 64 dX11_look_61 fl_X11_38 ac_0 rfl (by decide) lay_0_4 rfl ?_
    refine E_get 11 67 dX11_look_64 fl_X11_206 ac_43 rfl (by decide) rfl rfl ?_
    exact E_iret dX11_look_67 rfl rfl w
  · have w := w.2.2.1 h
    refine E_tabIn 68 dX11_look_1 (by rw [h]; decide) (by rw [h]; decide) (by rw [h] <;> rfl) rfl ?_
    refine E_aload_n 69 dX11_look_68 rfl (ac_0.bnd) rfl ?_
    refine E_getL 72 dX11_look_69 fl_X11_38 ac_0 rfl (by decide) lay_0_4 rfl ?_
    refine E_get 12 75 dX11_look_72 fl_X11_209 ac_43 rfl (by decide) rfl rfl ?_
    exact E_iret dX11_look_75 rfl rfl w
  · have w := w.2.2.2.1 h
    refine E_tabIn 76 dX11_look_1 (by rw [h]; decide) (by rw [h]; decide) (by rw [h] <;> rfl) rfl ?_
    refine E_aload_n 77 dX11_look_76 rfl (ac_0.bnd) rfl ?_
    refine E_getL 80 dX11_look_77 fl_X11_38 ac_0 rfl (by decide) lay_0_4 rfl ?_
    refine E_get 13 83 dX11_look_80 fl_X11_258 ac_43 rfl (by decide) rfl rfl ?_
    exact E_iret dX11_look_83 rfl rfl w
  · have w := w.2.2.2.2.1 h
    refine E_tabIn 84 dX11_look_1 (by rw [h]; decide) (by rw [h]; decide) (by rw [h] <;> rfl) rfl ?_
    refine E_aload_n 85 dX11_look_84 rfl (ac_0.bnd) rfl ?_
    refine E_getL 88 dX11_look_85 fl_X11_38 ac_0 rfl (by decide) lay_0_4 rfl ?_
    refine E_get 14 91 dX11_look_88 fl_X11_261 ac_43 rfl (by decide) rfl rfl ?_
    exact E_iret dX11_look_91 rfl rfl w
  · have w := w.2.2.2.2.2.1 h
    refine E_tabIn 92 dX11_look_1 (by rw [h]; decide) (by rw [h]; decide) (by rw [h] <;> rfl) rfl ?_
    refine E_aload_n 93 dX11_look_92 rfl (ac_0.bnd) rfl ?_
    refine E_getL 96 dX11_look_93 fl_X11_38 ac_0 rfl (by decide) lay_0_4 rfl ?_
    refine E_get 5 99 dX11_look_96 fl_X11_109 ac_43 rfl (by decide) rfl rfl ?_
    refine E_callS (as := [(1, σ 43 5)]) 102 dX11_look_99 cf_J13_bitCount_95d88 (Or.inl mw_1105) mw_1106 rfl rfl (Nat.le_of_ble_eq_true rfl) (Nat.le_of_ble_eq_true rfl) ⟨Nat.le_refl _, Nat.le_refl _⟩ rfl (w.mono (fun r2 σ1 w => ?_))
    show XX g true (d + 1) P_X11_look 102 [(2, 0), (0, x1)] [(0, r2)] 136 σ1 136 Q
    exact E_iret dX11_look_102 rfl rfl w
  · have w := w.2.2.2.2.2.2.1 h
    refine E_tabIn 103 dX11_look_1 (by rw [h]; decide) (by rw [h]; decide) (by rw [h] <;> rfl) rfl ?_
    refine E_aload_n 104 dX11_look_103 rfl (ac_0.bnd) rfl ?_
    refine E_getL 107 dX11_look_104 fl_X11_28 ac_0 rfl (by decide) lay_0_2 rfl ?_
    refine E_getL 110 dX11_look_107 fl_X11_196 ac_13 rfl (by decide) lay_13_3 rfl ?_
    refine E_aload_n 111 dX11_look_110 rfl (ac_0.bnd) rfl ?_
    refine E_getL 114 dX11_look_111 fl_X11_38 ac_0 rfl (by decide) lay_0_4 rfl ?_
    refine E_get 5 117 dX11_look_114 fl_X11_109 ac_43 rfl (by decide) rfl rfl ?_
    refine E_aload_n 118 dX11_look_117 rfl (ac_0.bnd) rfl ?_
    refine E_getL 121 dX11_look_118 fl_X11_38 ac_0 rfl (by decide) lay_0_4 rfl ?_
    refine E_get 0 124 dX11_look_121 fl_X11_193 ac_43 rfl (by decide) rfl rfl ?_
    refine E_callV (as := [(1, σ 43 5), (0, σ 43 0)]) 127 dX11_look_124 cf_X1_breaksRow mw_863 mw_864 mw_865 ac_26 (by decide) cl_X1 rfl rfl (Nat.le_of_ble_eq_true rfl) (Nat.le_of_ble_eq_true rfl) ⟨Nat.le_refl _, Nat.le_refl _⟩ rfl (w.mono (fun r4 σ3 w => ?_))
    show XX g true (d + 1) P_X11_look 127 [(2, 0), (0, x1)] [(0, r4)] 136 σ3 136 Q
    refine E_if_eq 130 134 dX11_look_127 rfl rfl (fun h => ?_) (fun h => ?_)
    · have w := w.1 h
      refine E_iconst 135 dX11_look_134 (by decide) rfl ?_
      exact E_iret dX11_look_135 rfl rfl w
    · have w := w.2 h
      refine E_iconst 131 dX11_look_130 (by decide) rfl ?_
      refine E_goto 135 dX11_look_131 rfl ?_
      exact E_iret dX11_look_135 rfl rfl w
  · have w := w.2.2.2.2.2.2.2.1 h
    refine E_tabIn 136 dX11_look_1 (by rw [h]; decide) (by rw [h]; decide) (by rw [h] <;> rfl) rfl ?_
    refine E_aload_n 137 dX11_look_136 rfl (ac_0.bnd) rfl ?_
    refine E_getL 140 dX11_look_137 fl_X11_38 ac_0 rfl (by decide) lay_0_4 rfl ?_
    refine E_get 15 143 dX11_look_140 fl_X11_290 ac_43 rfl (by decide) rfl rfl ?_
    exact E_iret dX11_look_143 rfl rfl w
  · have w := w.2.2.2.2.2.2.2.2.1 h
    refine E_tabIn 144 dX11_look_1 (by rw [h]; decide) (by rw [h]; decide) (by rw [h] <;> rfl) rfl ?_
    refine E_aload_n 145 dX11_look_144 rfl (ac_0.bnd) rfl ?_
    refine E_getL 148 dX11_look_145 fl_X11_38 ac_0 rfl (by decide) lay_0_4 rfl ?_
    refine E_get 16 151 dX11_look_148 fl_X11_293 ac_43 rfl (by decide) rfl rfl ?_
    exact E_iret dX11_look_151 rfl rfl w
  · have w := w.2.2.2.2.2.2.2.2.2 h
    refine E_tabOut 152 dX11_look_1 h rfl ?_
    refine E_iload_n 153 dX11_look_152 rfl rfl ?_
    refine E_bipush 155 dX11_look_153 (by decide) rfl ?_
    refine E_icmp_lt 158 173 dX11_look_155 rfl rfl (fun h => ?_) (fun h => ?_)
    · have w := w.1 h
      refine E_iconst 174 dX11_look_173 (by decide) rfl ?_
      refine E_goto 189 dX11_look_174 rfl ?_
      exact E_iret dX11_look_189 rfl rfl w
    · have w := w.2 h
      refine E_iload_n 159 dX11_look_158 rfl rfl ?_
      refine E_bipush 161 dX11_look_159 (by decide) rfl ?_
      refine E_isub 162 dX11_look_161 rfl ?_
      refine E_aload_n 163 dX11_look_162 rfl (ac_0.bnd) rfl ?_
      refine E_getL 166 dX11_look_163 fl_X11_38 ac_0 rfl (by decide) lay_0_4 rfl ?_
      refine E_getL 169 dX11_look_166 fl_X11_127 ac_43 rfl (by decide) lay_43_9 rfl ?_
      refine E_alen 8 170 dX11_look_169 ac_50 (by decide) (by decide) rfl rfl ?_
      refine E_icmp_lt 173 177 dX11_look_170 rfl rfl (fun h => ?_) (fun h => ?_)
      · have w := w.1 h
        refine E_aload_n 178 dX11_look_177 rfl (ac_0.bnd) rfl ?_
        refine E_getL 181 dX11_look_178 fl_X11_38 ac_0 rfl (by decide) lay_0_4 rfl ?_
        refine E_getL 184 dX11_look_181 fl_X11_127 ac_43 rfl (by decide) lay_43_9 rfl ?_
        refine E_iload_n 185 dX11_look_184 rfl rfl ?_
        refine E_bipush 187 dX11_look_185 (by decide) rfl ?_
        refine E_isub 188 dX11_look_187 rfl ?_
        obtain ⟨c5, w⟩ := w
        refine E_iald 189 dX11_look_188 ac_50 c5 rfl ?_
        exact E_iret dX11_look_189 rfl rfl w
      · have w := w.2 h
        refine E_iconst 174 dX11_look_173 (by decide) rfl ?_
        refine E_goto 189 dX11_look_174 rfl ?_
        exact E_iret dX11_look_189 rfl rfl w
theorem B_X11_keepRead_0 {g : PG} {d : Nat} {σ : PS} {Q : Int → PS → Prop} {x1 : Int}  (w : ((x1 ≠ 3 → XX g true d P_X9_lines 0 [(2, 13), (0, x1)] [] 136 σ 136 (fun r2 σ1 => LinAt r2 ∧ XX g true d P_X4_copy 0 [(2, r2), (2, 7)] [] 136 σ1 136 (fun _ σ3 => Q 0 σ3))) ∧ (x1 = 3 → XX g true d P_X1_copy 0 [(2, 26), (2, 11)] [] 136 σ 136 (fun _ σ5 => Q 0 σ5)))) : XX g true (d + 1) P_X11_keepRead 0 [(2, 0), (0, x1)] [] 136 σ 136 Q := by
  refine E_iload_n 1 dX11_keepRead_0 rfl rfl ?_
  refine E_iconst 2 dX11_keepRead_1 (by decide) rfl ?_
  refine E_icmp_ne 5 25 dX11_keepRead_2 rfl rfl (fun h => ?_) (fun h => ?_)
  · have w := w.1 h
    refine E_aload_n 26 dX11_keepRead_25 rfl (ac_0.bnd) rfl ?_
    refine E_getL 29 dX11_keepRead_26 fl_X11_28 ac_0 rfl (by decide) lay_0_2 rfl ?_
    refine E_iload_n 30 dX11_keepRead_29 rfl rfl ?_
    refine E_callV (as := [(0, x1)]) 33 dX11_keepRead_30 cf_X9_lines mw_790 mw_791 mw_792 ac_13 (by decide) cl_X9 rfl rfl (Nat.le_of_ble_eq_true rfl) (Nat.le_of_ble_eq_true rfl) ⟨Nat.le_refl _, Nat.le_refl _⟩ rfl (w.mono (fun r2 σ1 w => ?_))
    obtain ⟨hr2, w⟩ := w
    show XX g true (d + 1) P_X11_keepRead 33 [(2, 0), (0, x1)] [(2, r2)] 136 σ1 136 Q
    refine E_aload_n 34 dX11_keepRead_33 rfl (ac_0.bnd) rfl ?_
    refine E_getL 37 dX11_keepRead_34 fl_X11_21 ac_0 rfl (by decide) lay_0_1 rfl ?_
    refine E_getL 40 dX11_keepRead_37 fl_X11_304 ac_6 rfl (by decide) lay_6_1 rfl ?_
    refine E_callV (as := [(2, 7)]) 43 dX11_keepRead_40 cf_X4_copy mw_794 mw_795 mw_796 (LinF0 hr2) (by decide) cl_X4 rfl rfl (Nat.le_of_ble_eq_true rfl) (Nat.le_of_ble_eq_true rfl) ⟨Nat.le_refl _, Nat.le_refl _⟩ rfl (w.mono (fun r4 σ3 w => ?_))
    show XX g true (d + 1) P_X11_keepRead 43 [(2, 0), (0, x1)] [] 136 σ3 136 Q
    exact E_vret dX11_keepRead_43 rfl rfl w
  · have w := w.2 h
    refine E_aload_n 6 dX11_keepRead_5 rfl (ac_0.bnd) rfl ?_
    refine E_getL 9 dX11_keepRead_6 fl_X11_28 ac_0 rfl (by decide) lay_0_2 rfl ?_
    refine E_getL 12 dX11_keepRead_9 fl_X11_196 ac_13 rfl (by decide) lay_13_3 rfl ?_
    refine E_aload_n 13 dX11_keepRead_12 rfl (ac_0.bnd) rfl ?_
    refine E_getL 16 dX11_keepRead_13 fl_X11_21 ac_0 rfl (by decide) lay_0_1 rfl ?_
    refine E_getL 19 dX11_keepRead_16 fl_X11_296 ac_6 rfl (by decide) lay_6_2 rfl ?_
    refine E_callV (as := [(2, 11)]) 22 dX11_keepRead_19 cf_X1_copy mw_783 mw_784 mw_785 ac_26 (by decide) cl_X1 rfl rfl (Nat.le_of_ble_eq_true rfl) (Nat.le_of_ble_eq_true rfl) ⟨Nat.le_refl _, Nat.le_refl _⟩ rfl (w.mono (fun r6 σ5 w => ?_))
    show XX g true (d + 1) P_X11_keepRead 22 [(2, 0), (0, x1)] [] 136 σ5 136 Q
    refine E_goto 43 dX11_keepRead_22 rfl ?_
    exact E_vret dX11_keepRead_43 rfl rfl w
theorem B_X11_goAhead_0 {g : PG} {d : Nat} {σ : PS} {Q : Int → PS → Prop} {x1 : Int}  (w : XX g true d P_X3_begin 0 [(2, 76), (2, 43), (2, 26), (9, 0)] [] 136 σ 136 (fun _ σ1 => (XX g true (d + 1) P_X11_goAhead 20 [(2, 0), (0, x1), (0, 0)] [] 136 σ1 136 Q))) : XX g true (d + 1) P_X11_goAhead 0 [(2, 0), (0, x1), (9, 0)] [] 136 σ 136 Q := by
  refine E_aload_n 1 dX11_goAhead_0 rfl (ac_0.bnd) rfl ?_
  refine E_getL 4 dX11_goAhead_1 fl_X11_67 ac_0 rfl (by decide) lay_0_9 rfl ?_
  refine E_aload_n 5 dX11_goAhead_4 rfl (ac_0.bnd) rfl ?_
  refine E_getL 8 dX11_goAhead_5 fl_X11_38 ac_0 rfl (by decide) lay_0_4 rfl ?_
  refine E_aload_n 9 dX11_goAhead_8 rfl (ac_0.bnd) rfl ?_
  refine E_getL 12 dX11_goAhead_9 fl_X11_28 ac_0 rfl (by decide) lay_0_2 rfl ?_
  refine E_getL 15 dX11_goAhead_12 fl_X11_196 ac_13 rfl (by decide) lay_13_3 rfl ?_
  refine E_callV (as := [(2, 43), (2, 26)]) 18 dX11_goAhead_15 cf_X3_begin mw_951 mw_952 mw_953 ac_76 (by decide) cl_X3 rfl rfl (Nat.le_of_ble_eq_true rfl) (Nat.le_of_ble_eq_true rfl) ⟨Nat.le_refl _, Nat.le_refl _⟩ rfl (w.mono (fun r2 σ1 w => ?_))
  show XX g true (d + 1) P_X11_goAhead 18 [(2, 0), (0, x1), (9, 0)] [] 136 σ1 136 Q
  refine E_iconst 19 dX11_goAhead_18 (by decide) rfl ?_
  refine E_istore_n (ls' := [(2, 0), (0, x1), (0, 0)]) 20 dX11_goAhead_19 (by decide) rfl rfl ?_
  with_reducible exact w
theorem B_X11_goAhead_20 {g : PG} {d : Nat} {σ : PS} {Q : Int → PS → Prop} {x1 x2 : Int}  (w : ((x1 ≤ x2 → Q 0 σ) ∧ (x2 < x1 → XX g true d P_X3_passDay 0 [(2, 76), (2, 43), (2, 14), (0, x2), (9, 0), (9, 0)] [] 136 σ 136 (fun _ σ1 => (XX g true (d + 1) P_X11_goAhead 20 [(2, 0), (0, x1), (0, w32 (x2 + 1))] [] 136 σ1 136 Q))))) : XX g true (d + 1) P_X11_goAhead 20 [(2, 0), (0, x1), (0, x2)] [] 136 σ 136 Q := by
  refine E_iload_n 21 dX11_goAhead_20 rfl rfl ?_
  refine E_iload_n 22 dX11_goAhead_21 rfl rfl ?_
  refine E_icmp_ge 25 50 dX11_goAhead_22 rfl rfl (fun h => ?_) (fun h => ?_)
  · have w := w.1 h
    exact E_vret dX11_goAhead_50 rfl rfl w
  · have w := w.2 h
    refine E_aload_n 26 dX11_goAhead_25 rfl (ac_0.bnd) rfl ?_
    refine E_getL 29 dX11_goAhead_26 fl_X11_67 ac_0 rfl (by decide) lay_0_9 rfl ?_
    refine E_aload_n 30 dX11_goAhead_29 rfl (ac_0.bnd) rfl ?_
    refine E_getL 33 dX11_goAhead_30 fl_X11_38 ac_0 rfl (by decide) lay_0_4 rfl ?_
    refine E_aload_n 34 dX11_goAhead_33 rfl (ac_0.bnd) rfl ?_
    refine E_getL 37 dX11_goAhead_34 fl_X11_28 ac_0 rfl (by decide) lay_0_2 rfl ?_
    refine E_getL 40 dX11_goAhead_37 fl_X11_163 ac_13 rfl (by decide) lay_13_0 rfl ?_
    refine E_iload_n 41 dX11_goAhead_40 rfl rfl ?_
    refine E_callV (as := [(2, 43), (2, 14), (0, x2)]) 44 dX11_goAhead_41 cf_X3_passDay mw_959 mw_960 mw_961 ac_76 (by decide) cl_X3 rfl rfl (Nat.le_of_ble_eq_true rfl) (Nat.le_of_ble_eq_true rfl) ⟨Nat.le_refl _, Nat.le_refl _⟩ rfl (w.mono (fun r2 σ1 w => ?_))
    show XX g true (d + 1) P_X11_goAhead 44 [(2, 0), (0, x1), (0, x2)] [] 136 σ1 136 Q
    refine E_iinc (ls' := [(2, 0), (0, x1), (0, w32 (x2 + 1))]) 47 dX11_goAhead_44 (by decide) rfl rfl rfl ?_
    refine E_goto 20 dX11_goAhead_47 rfl ?_
    with_reducible exact w
theorem B_X11_lasts_0 {g : PG} {d : Nat} {σ : PS} {Q : Int → PS → Prop}  (w : XX g true d P_X3_begin 0 [(2, 76), (2, 43), (2, 26), (9, 0)] [] 136 σ 136 (fun _ σ1 => XX g true d P_X3_remaining 0 [(2, 76), (9, 0), (9, 0), (9, 0)] [] 136 σ1 136 (fun r4 σ3 => (XX g true (d + 1) P_X11_lasts 28 [(2, 0), (1, r4), (9, 0), (0, 0)] [] 136 σ3 136 Q)))) : XX g true (d + 1) P_X11_lasts 0 [(2, 0), (9, 0), (9, 0), (9, 0)] [] 136 σ 136 Q := by
  refine E_aload_n 1 dX11_lasts_0 rfl (ac_0.bnd) rfl ?_
  refine E_getL 4 dX11_lasts_1 fl_X11_67 ac_0 rfl (by decide) lay_0_9 rfl ?_
  refine E_aload_n 5 dX11_lasts_4 rfl (ac_0.bnd) rfl ?_
  refine E_getL 8 dX11_lasts_5 fl_X11_38 ac_0 rfl (by decide) lay_0_4 rfl ?_
  refine E_aload_n 9 dX11_lasts_8 rfl (ac_0.bnd) rfl ?_
  refine E_getL 12 dX11_lasts_9 fl_X11_28 ac_0 rfl (by decide) lay_0_2 rfl ?_
  refine E_getL 15 dX11_lasts_12 fl_X11_196 ac_13 rfl (by decide) lay_13_3 rfl ?_
  refine E_callV (as := [(2, 43), (2, 26)]) 18 dX11_lasts_15 cf_X3_begin mw_951 mw_952 mw_953 ac_76 (by decide) cl_X3 rfl rfl (Nat.le_of_ble_eq_true rfl) (Nat.le_of_ble_eq_true rfl) ⟨Nat.le_refl _, Nat.le_refl _⟩ rfl (w.mono (fun r2 σ1 w => ?_))
  show XX g true (d + 1) P_X11_lasts 18 [(2, 0), (9, 0), (9, 0), (9, 0)] [] 136 σ1 136 Q
  refine E_aload_n 19 dX11_lasts_18 rfl (ac_0.bnd) rfl ?_
  refine E_getL 22 dX11_lasts_19 fl_X11_67 ac_0 rfl (by decide) lay_0_9 rfl ?_
  refine E_callV (as := []) 25 dX11_lasts_22 cf_X3_remaining mw_975 mw_976 mw_977 ac_76 (by decide) cl_X3 rfl rfl (Nat.le_of_ble_eq_true rfl) (Nat.le_of_ble_eq_true rfl) ⟨Nat.le_refl _, Nat.le_refl _⟩ rfl (w.mono (fun r4 σ3 w => ?_))
  show XX g true (d + 1) P_X11_lasts 25 [(2, 0), (9, 0), (9, 0), (9, 0)] [(1, r4)] 136 σ3 136 Q
  refine E_lstore_n (ls' := [(2, 0), (1, r4), (9, 0), (9, 0)]) 26 dX11_lasts_25 (by decide) rfl rfl ?_
  refine E_iconst 27 dX11_lasts_26 (by decide) rfl ?_
  refine E_istore_n (ls' := [(2, 0), (1, r4), (9, 0), (0, 0)]) 28 dX11_lasts_27 (by decide) rfl rfl ?_
  with_reducible exact w
theorem B_X11_lasts_28 {g : PG} {d : Nat} {σ : PS} {Q : Int → PS → Prop} {x1 x3 : Int}  (w : ((59 ≤ x3 → Q (l2i (ldiv (w64 (x1 * 1000)) 1000000000000)) σ) ∧ (x3 < 59 → XX g true d P_X3_passDay 0 [(2, 76), (2, 43), (2, 14), (0, x3), (9, 0), (9, 0)] [] 136 σ 136 (fun _ σ1 => XX g true d P_X3_remaining 0 [(2, 76), (9, 0), (9, 0), (9, 0)] [] 136 σ1 136 (fun r4 σ3 => ∀ y5, y5 = w64 (x1 + r4) → (XX g true (d + 1) P_X11_lasts 28 [(2, 0), (1, y5), (9, 0), (0, w32 (x3 + 1))] [] 136 σ3 136 Q)))))) : XX g true (d + 1) P_X11_lasts 28 [(2, 0), (1, x1), (9, 0), (0, x3)] [] 136 σ 136 Q := by
  refine E_iload_n 29 dX11_lasts_28 rfl rfl ?_
  refine E_bipush 31 dX11_lasts_29 (by decide) rfl ?_
  refine E_icmp_ge 34 69 dX11_lasts_31 rfl rfl (fun h => ?_) (fun h => ?_)
  · have w := w.1 h
    refine E_lload_n 70 dX11_lasts_69 rfl rfl ?_
    refine E_ldc2_w (x := 1000) 73 dX11_lasts_70 mw_987 (by decide) (by unfold in64; decide) rfl ?_
    refine E_lmul 74 dX11_lasts_73 rfl ?_
    refine E_ldc2_w (x := 1000000000000) 77 dX11_lasts_74 mw_988 (by decide) (by unfold in64; decide) rfl ?_
    refine E_ldiv 78 dX11_lasts_77 (by decide) rfl ?_
    refine E_l2i 79 dX11_lasts_78 rfl ?_
    exact E_iret dX11_lasts_79 rfl rfl w
  · have w := w.2 h
    refine E_aload_n 35 dX11_lasts_34 rfl (ac_0.bnd) rfl ?_
    refine E_getL 38 dX11_lasts_35 fl_X11_67 ac_0 rfl (by decide) lay_0_9 rfl ?_
    refine E_aload_n 39 dX11_lasts_38 rfl (ac_0.bnd) rfl ?_
    refine E_getL 42 dX11_lasts_39 fl_X11_38 ac_0 rfl (by decide) lay_0_4 rfl ?_
    refine E_aload_n 43 dX11_lasts_42 rfl (ac_0.bnd) rfl ?_
    refine E_getL 46 dX11_lasts_43 fl_X11_28 ac_0 rfl (by decide) lay_0_2 rfl ?_
    refine E_getL 49 dX11_lasts_46 fl_X11_163 ac_13 rfl (by decide) lay_13_0 rfl ?_
    refine E_iload_n 50 dX11_lasts_49 rfl rfl ?_
    refine E_callV (as := [(2, 43), (2, 14), (0, x3)]) 53 dX11_lasts_50 cf_X3_passDay mw_959 mw_960 mw_961 ac_76 (by decide) cl_X3 rfl rfl (Nat.le_of_ble_eq_true rfl) (Nat.le_of_ble_eq_true rfl) ⟨Nat.le_refl _, Nat.le_refl _⟩ rfl (w.mono (fun r2 σ1 w => ?_))
    show XX g true (d + 1) P_X11_lasts 53 [(2, 0), (1, x1), (9, 0), (0, x3)] [] 136 σ1 136 Q
    refine E_lload_n 54 dX11_lasts_53 rfl rfl ?_
    refine E_aload_n 55 dX11_lasts_54 rfl (ac_0.bnd) rfl ?_
    refine E_getL 58 dX11_lasts_55 fl_X11_67 ac_0 rfl (by decide) lay_0_9 rfl ?_
    refine E_callV (as := []) 61 dX11_lasts_58 cf_X3_remaining mw_975 mw_976 mw_977 ac_76 (by decide) cl_X3 rfl rfl (Nat.le_of_ble_eq_true rfl) (Nat.le_of_ble_eq_true rfl) ⟨Nat.le_refl _, Nat.le_refl _⟩ rfl (w.mono (fun r4 σ3 w => ?_))
    show XX g true (d + 1) P_X11_lasts 61 [(2, 0), (1, x1), (9, 0), (0, x3)] [(1, r4), (1, x1)] 136 σ3 136 Q
    refine E_ladd 62 dX11_lasts_61 rfl ?_
    refine E_top (fun y5 hy5 => ?_)
    have w := w y5 hy5
    refine E_lstore_n (ls' := [(2, 0), (1, y5), (9, 0), (0, x3)]) 63 dX11_lasts_62 (by decide) rfl rfl ?_
    refine E_iinc (ls' := [(2, 0), (1, y5), (9, 0), (0, w32 (x3 + 1))]) 66 dX11_lasts_63 (by decide) rfl rfl rfl ?_
    refine E_goto 28 dX11_lasts_66 rfl ?_
    with_reducible exact w
theorem B_X11_think_0 {g : PG} {d : Nat} {σ : PS} {Q : Int → PS → Prop} {x1 x2 x3 : Int}  (w : XX g true d P_X7_copy 0 [(2, 59), (2, 43)] [] 136 σ 136 (fun _ σ1 => (XX g true (d + 1) P_X11_think 24 [(2, 0), (0, x1), (9, 0), (0, x3), (0, 0)] [] 136 (su σ1 66 3 x2) 136 Q))) : XX g true (d + 1) P_X11_think 0 [(2, 0), (0, x1), (0, x2), (0, x3), (9, 0)] [] 136 σ 136 Q := by
  refine E_aload_n 1 dX11_think_0 rfl (ac_0.bnd) rfl ?_
  refine E_getL 4 dX11_think_1 fl_X11_45 ac_0 rfl (by decide) lay_0_6 rfl ?_
  refine E_aload_n 5 dX11_think_4 rfl (ac_0.bnd) rfl ?_
  refine E_getL 8 dX11_think_5 fl_X11_38 ac_0 rfl (by decide) lay_0_4 rfl ?_
  refine E_callV (as := [(2, 43)]) 11 dX11_think_8 cf_X7_copy mw_1073 mw_1018 mw_1019 ac_59 (by decide) cl_X7 rfl rfl (Nat.le_of_ble_eq_true rfl) (Nat.le_of_ble_eq_true rfl) ⟨Nat.le_refl _, Nat.le_refl _⟩ rfl (w.mono (fun r2 σ1 w => ?_))
  show XX g true (d + 1) P_X11_think 11 [(2, 0), (0, x1), (0, x2), (0, x3), (9, 0)] [] 136 σ1 136 Q
  refine E_aload_n 12 dX11_think_11 rfl (ac_0.bnd) rfl ?_
  refine E_getL 15 dX11_think_12 fl_X11_45 ac_0 rfl (by decide) lay_0_6 rfl ?_
  refine E_getL 18 dX11_think_15 fl_X11_127 ac_59 rfl (by decide) lay_59_9 rfl ?_
  refine E_iconst 19 dX11_think_18 (by decide) rfl ?_
  refine E_iload_n 20 dX11_think_19 rfl rfl ?_
  refine E_iast 21 dX11_think_20 ac_66 (by decide) rfl ?_
  refine E_iconst 22 dX11_think_21 (by decide) rfl ?_
  refine E_istore (ls' := [(2, 0), (0, x1), (0, x2), (0, x3), (0, 0)]) 24 dX11_think_22 (by decide) rfl rfl ?_
  refine XX.fg [2] [(2, 0), (0, x1), (9, 0), (0, x3), (0, 0)] rfl ?_
  with_reducible exact w
theorem B_X11_think_24 {g : PG} {d : Nat} {σ : PS} {Q : Int → PS → Prop} {x1 x3 x4 : Int}  (w : ((x3 ≤ x4 → Q 0 σ) ∧ (x4 < x3 → XX g true d P_X9_lines 0 [(2, 13), (0, x1)] [] 136 σ 136 (fun r2 σ1 => LinAt r2 ∧ XX g true d P_X2_passDay 0 [(2, 83), (2, 59), (2, 13), (2, r2), (9, 0)] [] 136 σ1 136 (fun _ σ3 => (XX g true (d + 1) P_X11_think 24 [(2, 0), (0, x1), (9, 0), (0, x3), (0, w32 (x4 + 1))] [] 136 σ3 136 Q)))))) : XX g true (d + 1) P_X11_think 24 [(2, 0), (0, x1), (9, 0), (0, x3), (0, x4)] [] 136 σ 136 Q := by
  refine E_iload 26 dX11_think_24 rfl rfl ?_
  refine E_iload_n 27 dX11_think_26 rfl rfl ?_
  refine E_icmp_ge 30 59 dX11_think_27 rfl rfl (fun h => ?_) (fun h => ?_)
  · have w := w.1 h
    exact E_vret dX11_think_59 rfl rfl w
  · have w := w.2 h
    refine E_aload_n 31 dX11_think_30 rfl (ac_0.bnd) rfl ?_
    refine E_getL 34 dX11_think_31 fl_X11_74 ac_0 rfl (by decide) lay_0_10 rfl ?_
    refine E_aload_n 35 dX11_think_34 rfl (ac_0.bnd) rfl ?_
    refine E_getL 38 dX11_think_35 fl_X11_45 ac_0 rfl (by decide) lay_0_6 rfl ?_
    refine E_aload_n 39 dX11_think_38 rfl (ac_0.bnd) rfl ?_
    refine E_getL 42 dX11_think_39 fl_X11_28 ac_0 rfl (by decide) lay_0_2 rfl ?_
    refine E_aload_n 43 dX11_think_42 rfl (ac_0.bnd) rfl ?_
    refine E_getL 46 dX11_think_43 fl_X11_28 ac_0 rfl (by decide) lay_0_2 rfl ?_
    refine E_iload_n 47 dX11_think_46 rfl rfl ?_
    refine E_callV (as := [(0, x1)]) 50 dX11_think_47 cf_X9_lines mw_790 mw_791 mw_792 ac_13 (by decide) cl_X9 rfl rfl (Nat.le_of_ble_eq_true rfl) (Nat.le_of_ble_eq_true rfl) ⟨Nat.le_refl _, Nat.le_refl _⟩ rfl (w.mono (fun r2 σ1 w => ?_))
    obtain ⟨hr2, w⟩ := w
    show XX g true (d + 1) P_X11_think 50 [(2, 0), (0, x1), (9, 0), (0, x3), (0, x4)] [(2, r2), (2, 13), (2, 59), (2, 83)] 136 σ1 136 Q
    refine E_callV (as := [(2, 59), (2, 13), (2, r2)]) 53 dX11_think_50 cf_X2_passDay mw_877 mw_878 mw_879 ac_83 (by decide) cl_X2 rfl rfl (Nat.le_of_ble_eq_true rfl) (Nat.le_of_ble_eq_true rfl) ⟨Nat.le_refl _, Nat.le_refl _⟩ rfl (w.mono (fun r4 σ3 w => ?_))
    show XX g true (d + 1) P_X11_think 53 [(2, 0), (0, x1), (9, 0), (0, x3), (0, x4)] [] 136 σ3 136 Q
    refine E_iinc (ls' := [(2, 0), (0, x1), (9, 0), (0, x3), (0, w32 (x4 + 1))]) 56 dX11_think_53 (by decide) rfl rfl rfl ?_
    refine E_goto 24 dX11_think_56 rfl ?_
    with_reducible exact w
theorem B_X11_cheapestEvery_0 {g : PG} {d : Nat} {σ : PS} {Q : Int → PS → Prop} {x1 : Int}  (w : (XX g true (d + 1) P_X11_cheapestEvery 9 [(2, 0), (0, x1), (0, 9), (0, 0), (0, 9), (9, 0)] [] 136 σ 136 Q)) : XX g true (d + 1) P_X11_cheapestEvery 0 [(2, 0), (0, x1), (9, 0), (9, 0), (9, 0), (9, 0)] [] 136 σ 136 Q := by
  refine E_bipush 2 dX11_cheapestEvery_0 (by decide) rfl ?_
  refine E_istore_n (ls' := [(2, 0), (0, x1), (0, 9), (9, 0), (9, 0), (9, 0)]) 3 dX11_cheapestEvery_2 (by decide) rfl rfl ?_
  refine E_iconst 4 dX11_cheapestEvery_3 (by decide) rfl ?_
  refine E_istore_n (ls' := [(2, 0), (0, x1), (0, 9), (0, 0), (9, 0), (9, 0)]) 5 dX11_cheapestEvery_4 (by decide) rfl rfl ?_
  refine E_bipush 7 dX11_cheapestEvery_5 (by decide) rfl ?_
  refine E_istore (ls' := [(2, 0), (0, x1), (0, 9), (0, 0), (0, 9), (9, 0)]) 9 dX11_cheapestEvery_7 (by decide) rfl rfl ?_
  with_reducible exact w
theorem B_X11_cheapestEvery_9 {g : PG} {d : Nat} {σ : PS} {Q : Int → PS → Prop} {x1 x2 x3 x4 : Int}  (w : ((x4 < 1 → Q x2 σ) ∧ (1 ≤ x4 → XX g true d P_X11_think 0 [(2, 0), (0, 1), (0, x4), (0, x1), (9, 0)] [] 136 σ 136 (fun _ σ1 => ∀ y3, y3 = w32 ((σ1 59 13) - (σ1 43 13)) → ((x4 = 9 → (XX g true (d + 1) P_X11_cheapestEvery 9 [(2, 0), (0, x1), (0, x4), (0, y3), (0, w32 (x4 + (-1))), (9, 0)] [] 136 σ1 136 Q)) ∧ (x4 ≠ 9 → ((x3 ≤ y3 → (XX g true (d + 1) P_X11_cheapestEvery 9 [(2, 0), (0, x1), (0, x2), (0, x3), (0, w32 (x4 + (-1))), (9, 0)] [] 136 σ1 136 Q)) ∧ (y3 < x3 → (XX g true (d + 1) P_X11_cheapestEvery 9 [(2, 0), (0, x1), (0, x4), (0, y3), (0, w32 (x4 + (-1))), (9, 0)] [] 136 σ1 136 Q))))))))) : XX g true (d + 1) P_X11_cheapestEvery 9 [(2, 0), (0, x1), (0, x2), (0, x3), (0, x4), (9, 0)] [] 136 σ 136 Q := by
  refine E_iload 11 dX11_cheapestEvery_9 rfl rfl ?_
  refine E_iconst 12 dX11_cheapestEvery_11 (by decide) rfl ?_
  refine E_icmp_lt 15 65 dX11_cheapestEvery_12 rfl rfl (fun h => ?_) (fun h => ?_)
  · have w := w.1 h
    refine E_iload_n 66 dX11_cheapestEvery_65 rfl rfl ?_
    exact E_iret dX11_cheapestEvery_66 rfl rfl w
  · have w := w.2 h
    refine E_aload_n 16 dX11_cheapestEvery_15 rfl (ac_0.bnd) rfl ?_
    refine E_iconst 17 dX11_cheapestEvery_16 (by decide) rfl ?_
    refine E_iload 19 dX11_cheapestEvery_17 rfl rfl ?_
    refine E_iload_n 20 dX11_cheapestEvery_19 rfl rfl ?_
    refine E_callV (as := [(0, 1), (0, x4), (0, x1)]) 23 dX11_cheapestEvery_20 cf_X11_think mw_1069 mw_1071 mw_36 ac_0 (by decide) cl_X11 rfl rfl (Nat.le_of_ble_eq_true rfl) (Nat.le_of_ble_eq_true rfl) ⟨Nat.le_refl _, Nat.le_refl _⟩ rfl (w.mono (fun r2 σ1 w => ?_))
    show XX g true (d + 1) P_X11_cheapestEvery 23 [(2, 0), (0, x1), (0, x2), (0, x3), (0, x4), (9, 0)] [] 136 σ1 136 Q
    refine E_aload_n 24 dX11_cheapestEvery_23 rfl (ac_0.bnd) rfl ?_
    refine E_getL 27 dX11_cheapestEvery_24 fl_X11_45 ac_0 rfl (by decide) lay_0_6 rfl ?_
    refine E_get 13 30 dX11_cheapestEvery_27 fl_X11_258 ac_59 rfl (by decide) rfl rfl ?_
    refine E_aload_n 31 dX11_cheapestEvery_30 rfl (ac_0.bnd) rfl ?_
    refine E_getL 34 dX11_cheapestEvery_31 fl_X11_38 ac_0 rfl (by decide) lay_0_4 rfl ?_
    refine E_get 13 37 dX11_cheapestEvery_34 fl_X11_258 ac_43 rfl (by decide) rfl rfl ?_
    refine E_isub 38 dX11_cheapestEvery_37 rfl ?_
    refine E_top (fun y3 hy3 => ?_)
    have w := w y3 hy3
    refine E_istore (ls' := [(2, 0), (0, x1), (0, x2), (0, x3), (0, x4), (0, y3)]) 40 dX11_cheapestEvery_38 (by decide) rfl rfl ?_
    refine E_iload 42 dX11_cheapestEvery_40 rfl rfl ?_
    refine E_bipush 44 dX11_cheapestEvery_42 (by decide) rfl ?_
    refine E_icmp_eq 47 53 dX11_cheapestEvery_44 rfl rfl (fun h => ?_) (fun h => ?_)
    · have w := w.1 h
      refine E_iload 55 dX11_cheapestEvery_53 rfl rfl ?_
      refine E_istore_n (ls' := [(2, 0), (0, x1), (0, x4), (0, x3), (0, x4), (0, y3)]) 56 dX11_cheapestEvery_55 (by decide) rfl rfl ?_
      refine E_iload 58 dX11_cheapestEvery_56 rfl rfl ?_
      refine E_istore_n (ls' := [(2, 0), (0, x1), (0, x4), (0, y3), (0, x4), (0, y3)]) 59 dX11_cheapestEvery_58 (by decide) rfl rfl ?_
      refine E_iinc (ls' := [(2, 0), (0, x1), (0, x4), (0, y3), (0, w32 (x4 + (-1))), (0, y3)]) 62 dX11_cheapestEvery_59 (by decide) rfl rfl rfl ?_
      refine E_goto 9 dX11_cheapestEvery_62 rfl ?_
      refine XX.fg [5] [(2, 0), (0, x1), (0, x4), (0, y3), (0, w32 (x4 + (-1))), (9, 0)] rfl ?_
      with_reducible exact w
    · have w := w.2 h
      refine E_iload 49 dX11_cheapestEvery_47 rfl rfl ?_
      refine E_iload_n 50 dX11_cheapestEvery_49 rfl rfl ?_
      refine E_icmp_ge 53 59 dX11_cheapestEvery_50 rfl rfl (fun h => ?_) (fun h => ?_)
      · have w := w.1 h
        refine E_iinc (ls' := [(2, 0), (0, x1), (0, x2), (0, x3), (0, w32 (x4 + (-1))), (0, y3)]) 62 dX11_cheapestEvery_59 (by decide) rfl rfl rfl ?_
        refine E_goto 9 dX11_cheapestEvery_62 rfl ?_
        refine XX.fg [5] [(2, 0), (0, x1), (0, x2), (0, x3), (0, w32 (x4 + (-1))), (9, 0)] rfl ?_
        with_reducible exact w
      · have w := w.2 h
        refine E_iload 55 dX11_cheapestEvery_53 rfl rfl ?_
        refine E_istore_n (ls' := [(2, 0), (0, x1), (0, x4), (0, x3), (0, x4), (0, y3)]) 56 dX11_cheapestEvery_55 (by decide) rfl rfl ?_
        refine E_iload 58 dX11_cheapestEvery_56 rfl rfl ?_
        refine E_istore_n (ls' := [(2, 0), (0, x1), (0, x4), (0, y3), (0, x4), (0, y3)]) 59 dX11_cheapestEvery_58 (by decide) rfl rfl ?_
        refine E_iinc (ls' := [(2, 0), (0, x1), (0, x4), (0, y3), (0, w32 (x4 + (-1))), (0, y3)]) 62 dX11_cheapestEvery_59 (by decide) rfl rfl rfl ?_
        refine E_goto 9 dX11_cheapestEvery_62 rfl ?_
        refine XX.fg [5] [(2, 0), (0, x1), (0, x4), (0, y3), (0, w32 (x4 + (-1))), (9, 0)] rfl ?_
        with_reducible exact w
theorem B_X11_cheaperRule_0 {g : PG} {d : Nat} {σ : PS} {Q : Int → PS → Prop} {x1 : Int}  (w : XX g true d P_X11_think 0 [(2, 0), (0, 1), (0, σ 50 3), (0, x1), (9, 0)] [] 136 σ 136 (fun _ σ1 => ∀ y3, y3 = w32 ((σ1 59 13) - (σ1 43 13)) → XX g true d P_X11_think 0 [(2, 0), (0, 2), (0, σ1 50 3), (0, x1), (9, 0)] [] 136 σ1 136 (fun _ σ4 => ∀ y6, y6 = w32 ((σ4 59 13) - (σ4 43 13)) → ((y3 ≤ y6 → Q 1 σ4) ∧ (y6 < y3 → Q 2 σ4))))) : XX g true (d + 1) P_X11_cheaperRule 0 [(2, 0), (0, x1), (9, 0), (9, 0)] [] 136 σ 136 Q := by
  refine E_aload_n 1 dX11_cheaperRule_0 rfl (ac_0.bnd) rfl ?_
  refine E_iconst 2 dX11_cheaperRule_1 (by decide) rfl ?_
  refine E_aload_n 3 dX11_cheaperRule_2 rfl (ac_0.bnd) rfl ?_
  refine E_getL 6 dX11_cheaperRule_3 fl_X11_38 ac_0 rfl (by decide) lay_0_4 rfl ?_
  refine E_getL 9 dX11_cheaperRule_6 fl_X11_127 ac_43 rfl (by decide) lay_43_9 rfl ?_
  refine E_iconst 10 dX11_cheaperRule_9 (by decide) rfl ?_
  refine E_iald 11 dX11_cheaperRule_10 ac_50 (by decide) rfl ?_
  refine E_iload_n 12 dX11_cheaperRule_11 rfl rfl ?_
  refine E_callV (as := [(0, 1), (0, σ 50 3), (0, x1)]) 15 dX11_cheaperRule_12 cf_X11_think mw_1069 mw_1071 mw_36 ac_0 (by decide) cl_X11 rfl rfl (Nat.le_of_ble_eq_true rfl) (Nat.le_of_ble_eq_true rfl) ⟨Nat.le_refl _, Nat.le_refl _⟩ rfl (w.mono (fun r2 σ1 w => ?_))
  show XX g true (d + 1) P_X11_cheaperRule 15 [(2, 0), (0, x1), (9, 0), (9, 0)] [] 136 σ1 136 Q
  refine E_aload_n 16 dX11_cheaperRule_15 rfl (ac_0.bnd) rfl ?_
  refine E_getL 19 dX11_cheaperRule_16 fl_X11_45 ac_0 rfl (by decide) lay_0_6 rfl ?_
  refine E_get 13 22 dX11_cheaperRule_19 fl_X11_258 ac_59 rfl (by decide) rfl rfl ?_
  refine E_aload_n 23 dX11_cheaperRule_22 rfl (ac_0.bnd) rfl ?_
  refine E_getL 26 dX11_cheaperRule_23 fl_X11_38 ac_0 rfl (by decide) lay_0_4 rfl ?_
  refine E_get 13 29 dX11_cheaperRule_26 fl_X11_258 ac_43 rfl (by decide) rfl rfl ?_
  refine E_isub 30 dX11_cheaperRule_29 rfl ?_
  refine E_top (fun y3 hy3 => ?_)
  have w := w y3 hy3
  refine E_istore_n (ls' := [(2, 0), (0, x1), (0, y3), (9, 0)]) 31 dX11_cheaperRule_30 (by decide) rfl rfl ?_
  refine E_aload_n 32 dX11_cheaperRule_31 rfl (ac_0.bnd) rfl ?_
  refine E_iconst 33 dX11_cheaperRule_32 (by decide) rfl ?_
  refine E_aload_n 34 dX11_cheaperRule_33 rfl (ac_0.bnd) rfl ?_
  refine E_getL 37 dX11_cheaperRule_34 fl_X11_38 ac_0 rfl (by decide) lay_0_4 rfl ?_
  refine E_getL 40 dX11_cheaperRule_37 fl_X11_127 ac_43 rfl (by decide) lay_43_9 rfl ?_
  refine E_iconst 41 dX11_cheaperRule_40 (by decide) rfl ?_
  refine E_iald 42 dX11_cheaperRule_41 ac_50 (by decide) rfl ?_
  refine E_iload_n 43 dX11_cheaperRule_42 rfl rfl ?_
  refine E_callV (as := [(0, 2), (0, σ1 50 3), (0, x1)]) 46 dX11_cheaperRule_43 cf_X11_think mw_1069 mw_1071 mw_36 ac_0 (by decide) cl_X11 rfl rfl (Nat.le_of_ble_eq_true rfl) (Nat.le_of_ble_eq_true rfl) ⟨Nat.le_refl _, Nat.le_refl _⟩ rfl (w.mono (fun r5 σ4 w => ?_))
  show XX g true (d + 1) P_X11_cheaperRule 46 [(2, 0), (0, x1), (0, y3), (9, 0)] [] 136 σ4 136 Q
  refine E_aload_n 47 dX11_cheaperRule_46 rfl (ac_0.bnd) rfl ?_
  refine E_getL 50 dX11_cheaperRule_47 fl_X11_45 ac_0 rfl (by decide) lay_0_6 rfl ?_
  refine E_get 13 53 dX11_cheaperRule_50 fl_X11_258 ac_59 rfl (by decide) rfl rfl ?_
  refine E_aload_n 54 dX11_cheaperRule_53 rfl (ac_0.bnd) rfl ?_
  refine E_getL 57 dX11_cheaperRule_54 fl_X11_38 ac_0 rfl (by decide) lay_0_4 rfl ?_
  refine E_get 13 60 dX11_cheaperRule_57 fl_X11_258 ac_43 rfl (by decide) rfl rfl ?_
  refine E_isub 61 dX11_cheaperRule_60 rfl ?_
  refine E_top (fun y6 hy6 => ?_)
  have w := w y6 hy6
  refine E_istore_n (ls' := [(2, 0), (0, x1), (0, y3), (0, y6)]) 62 dX11_cheaperRule_61 (by decide) rfl rfl ?_
  refine E_iload_n 63 dX11_cheaperRule_62 rfl rfl ?_
  refine E_iload_n 64 dX11_cheaperRule_63 rfl rfl ?_
  refine E_icmp_ge 67 71 dX11_cheaperRule_64 rfl rfl (fun h => ?_) (fun h => ?_)
  · have w := w.1 h
    refine E_iconst 72 dX11_cheaperRule_71 (by decide) rfl ?_
    exact E_iret dX11_cheaperRule_72 rfl rfl w
  · have w := w.2 h
    refine E_iconst 68 dX11_cheaperRule_67 (by decide) rfl ?_
    refine E_goto 72 dX11_cheaperRule_68 rfl ?_
    exact E_iret dX11_cheaperRule_72 rfl rfl w
theorem B_X11_isEvery_0 {g : PG} {d : Nat} {σ : PS} {Q : Int → PS → Prop} {x0 : Int}  (w : ((x0 < 1 → Q 0 σ) ∧ (1 ≤ x0 → ((99 < x0 → Q 0 σ) ∧ (x0 ≤ 99 → Q 1 σ))))) : XX g true d P_X11_isEvery 0 [(0, x0)] [] 136 σ 136 Q := by
  refine E_iload_n 1 dX11_isEvery_0 rfl rfl ?_
  refine E_getsA (q := 0) 100000 4 dX11_isEvery_1 (by decide) mw_556 rfl rfl ?_
  refine E_iconst 5 dX11_isEvery_4 (by decide) rfl ?_
  refine E_ialdS (q := 0) (1) 6 dX11_isEvery_5 (by decide) (by decide) rfl rfl ?_
  refine E_icmp_lt 9 22 dX11_isEvery_6 rfl rfl (fun h => ?_) (fun h => ?_)
  · have w := w.1 h
    refine E_iconst 23 dX11_isEvery_22 (by decide) rfl ?_
    exact E_zret dX11_isEvery_23 rfl rfl (Or.inl rfl) w
  · have w := w.2 h
    refine E_iload_n 10 dX11_isEvery_9 rfl rfl ?_
    refine E_getsA (q := 1) 100001 13 dX11_isEvery_10 (by decide) mw_558 rfl rfl ?_
    refine E_iconst 14 dX11_isEvery_13 (by decide) rfl ?_
    refine E_ialdS (q := 1) (99) 15 dX11_isEvery_14 (by decide) (by decide) rfl rfl ?_
    refine E_icmp_gt 18 22 dX11_isEvery_15 rfl rfl (fun h => ?_) (fun h => ?_)
    · have w := w.1 h
      refine E_iconst 23 dX11_isEvery_22 (by decide) rfl ?_
      exact E_zret dX11_isEvery_23 rfl rfl (Or.inl rfl) w
    · have w := w.2 h
      refine E_iconst 19 dX11_isEvery_18 (by decide) rfl ?_
      refine E_goto 23 dX11_isEvery_19 rfl ?_
      exact E_zret dX11_isEvery_23 rfl rfl (Or.inr rfl) w
theorem B_X11_bit_0 {g : PG} {d : Nat} {σ : PS} {Q : Int → PS → Prop} {x0 x2 : Int}  (w : Q (l2i (land (lushr x0 x2) 1)) σ) : XX g true d P_X11_bit 0 [(1, x0), (9, 0), (0, x2)] [] 136 σ 136 Q := by
  refine E_lload_n 1 dX11_bit_0 rfl rfl ?_
  refine E_iload_n 2 dX11_bit_1 rfl rfl ?_
  refine E_lushr 3 dX11_bit_2 rfl ?_
  refine E_lconst (x := 1) 4 dX11_bit_3 rfl rfl ?_
  refine E_land 5 dX11_bit_4 rfl ?_
  refine E_l2i 6 dX11_bit_5 rfl ?_
  exact E_iret dX11_bit_6 rfl rfl w
theorem B_X11_besideIn_0 {g : PG} {d : Nat} {σ : PS} {Q : Int → PS → Prop} {x0 x2 : Int}  (w : ((x2 ≤ 0 → XX g true d P_X11_bit 0 [(1, x0), (9, 0), (0, w32 (x2 + 1))] [] 136 σ 136 (fun r2 σ1 => Q (w32 (0 + r2)) σ1)) ∧ (0 < x2 → XX g true d P_X11_bit 0 [(1, x0), (9, 0), (0, w32 (x2 - 1))] [] 136 σ 136 (fun r4 σ3 => XX g true d P_X11_bit 0 [(1, x0), (9, 0), (0, w32 (x2 + 1))] [] 136 σ3 136 (fun r6 σ5 => Q (w32 (r4 + r6)) σ5))))) : XX g true (d + 1) P_X11_besideIn 0 [(1, x0), (9, 0), (0, x2)] [] 136 σ 136 Q := by
  refine E_iload_n 1 dX11_besideIn_0 rfl rfl ?_
  refine E_if_le 4 14 dX11_besideIn_1 rfl rfl (fun h => ?_) (fun h => ?_)
  · have w := w.1 h
    refine E_iconst 15 dX11_besideIn_14 (by decide) rfl ?_
    refine E_lload_n 16 dX11_besideIn_15 rfl rfl ?_
    refine E_iload_n 17 dX11_besideIn_16 rfl rfl ?_
    refine E_iconst 18 dX11_besideIn_17 (by decide) rfl ?_
    refine E_iadd 19 dX11_besideIn_18 rfl ?_
    refine E_callS (as := [(1, x0), (0, w32 (x2 + 1))]) 22 dX11_besideIn_19 cf_X11_bit (Or.inl mw_808) mw_809 rfl rfl (Nat.le_of_ble_eq_true rfl) (Nat.le_of_ble_eq_true rfl) ⟨Nat.le_refl _, Nat.le_refl _⟩ rfl (w.mono (fun r2 σ1 w => ?_))
    show XX g true (d + 1) P_X11_besideIn 22 [(1, x0), (9, 0), (0, x2)] [(0, r2), (0, 0)] 136 σ1 136 Q
    refine E_iadd 23 dX11_besideIn_22 rfl ?_
    exact E_iret dX11_besideIn_23 rfl rfl w
  · have w := w.2 h
    refine E_lload_n 5 dX11_besideIn_4 rfl rfl ?_
    refine E_iload_n 6 dX11_besideIn_5 rfl rfl ?_
    refine E_iconst 7 dX11_besideIn_6 (by decide) rfl ?_
    refine E_isub 8 dX11_besideIn_7 rfl ?_
    refine E_callS (as := [(1, x0), (0, w32 (x2 - 1))]) 11 dX11_besideIn_8 cf_X11_bit (Or.inl mw_808) mw_809 rfl rfl (Nat.le_of_ble_eq_true rfl) (Nat.le_of_ble_eq_true rfl) ⟨Nat.le_refl _, Nat.le_refl _⟩ rfl (w.mono (fun r4 σ3 w => ?_))
    show XX g true (d + 1) P_X11_besideIn 11 [(1, x0), (9, 0), (0, x2)] [(0, r4)] 136 σ3 136 Q
    refine E_goto 15 dX11_besideIn_11 rfl ?_
    refine E_lload_n 16 dX11_besideIn_15 rfl rfl ?_
    refine E_iload_n 17 dX11_besideIn_16 rfl rfl ?_
    refine E_iconst 18 dX11_besideIn_17 (by decide) rfl ?_
    refine E_iadd 19 dX11_besideIn_18 rfl ?_
    refine E_callS (as := [(1, x0), (0, w32 (x2 + 1))]) 22 dX11_besideIn_19 cf_X11_bit (Or.inl mw_808) mw_809 rfl rfl (Nat.le_of_ble_eq_true rfl) (Nat.le_of_ble_eq_true rfl) ⟨Nat.le_refl _, Nat.le_refl _⟩ rfl (w.mono (fun r6 σ5 w => ?_))
    show XX g true (d + 1) P_X11_besideIn 22 [(1, x0), (9, 0), (0, x2)] [(0, r6), (0, r4)] 136 σ5 136 Q
    refine E_iadd 23 dX11_besideIn_22 rfl ?_
    exact E_iret dX11_besideIn_23 rfl rfl w
theorem B_J7_fill_53178_0 {g : PG} {b : Bool} {d N : Nat} {σ : PS} {Q : Int → PS → Prop} {x1 q0 : Int} {n0 : Nat} (hq0 : Fat N q0 (20, n0)) (hn0 : n0 < 100000) (w : ∀ y1, y1 = (n0 : Int) → (XX g b d P_J7_fill_53178 5 [(2, q0), (0, x1), (0, 0), (0, y1)] [] N σ N Q)) : XX g b d P_J7_fill_53178 0 [(2, q0), (0, x1), (9, 0), (9, 0)] [] N σ N Q := by
  refine E_iconst 1 dJ7_fill_53178_0 (by decide) rfl ?_
  refine E_istore_n (ls' := [(2, q0), (0, x1), (0, 0), (9, 0)]) 2 dJ7_fill_53178_1 (by decide) rfl rfl ?_
  refine E_aload_n 3 dJ7_fill_53178_2 rfl hq0.bnd rfl ?_
  refine E_alen (n0 : Int) 4 dJ7_fill_53178_3 hq0 (by decide) hn0 rfl rfl ?_
  refine E_top (fun y1 hy1 => ?_)
  have w := w y1 hy1
  refine E_istore_n (ls' := [(2, q0), (0, x1), (0, 0), (0, y1)]) 5 dJ7_fill_53178_4 (by decide) rfl rfl ?_
  with_reducible exact w
theorem B_J7_fill_53178_5 {g : PG} {b : Bool} {d N : Nat} {σ : PS} {Q : Int → PS → Prop} {x1 x2 x3 q0 : Int} {n0 : Nat} (hq0 : Fat N q0 (20, n0)) (hn0 : n0 < 100000) (w : ((x3 ≤ x2 → Q 0 σ) ∧ (x2 < x3 → (0 ≤ x2 ∧ x2 < (n0 : Int)) ∧ (XX g b d P_J7_fill_53178 5 [(2, q0), (0, x1), (0, w32 (x2 + 1)), (0, x3)] [] N (su σ q0 x2 x1) N Q)))) : XX g b d P_J7_fill_53178 5 [(2, q0), (0, x1), (0, x2), (0, x3)] [] N σ N Q := by
  refine E_iload_n 6 dJ7_fill_53178_5 rfl rfl ?_
  refine E_iload_n 7 dJ7_fill_53178_6 rfl rfl ?_
  refine E_icmp_ge 10 20 dJ7_fill_53178_7 rfl rfl (fun h => ?_) (fun h => ?_)
  · have w := w.1 h
    exact E_vret dJ7_fill_53178_20 rfl rfl w
  · have w := w.2 h
    refine E_aload_n 11 dJ7_fill_53178_10 rfl hq0.bnd rfl ?_
    refine E_iload_n 12 dJ7_fill_53178_11 rfl rfl ?_
    refine E_iload_n 13 dJ7_fill_53178_12 rfl rfl ?_
    obtain ⟨c1, w⟩ := w
    refine E_iast 14 dJ7_fill_53178_13 hq0 c1 rfl ?_
    refine E_iinc (ls' := [(2, q0), (0, x1), (0, w32 (x2 + 1)), (0, x3)]) 17 dJ7_fill_53178_14 (by decide) rfl rfl rfl ?_
    refine E_goto 5 dJ7_fill_53178_17 rfl ?_
    with_reducible exact w
theorem B_J7_fill_d0a16_0 {g : PG} {b : Bool} {d N : Nat} {σ : PS} {Q : Int → PS → Prop} {x1 q0 : Int} {n0 : Nat} (hq0 : Fat N q0 (21, n0)) (hn0 : n0 < 100000) (w : ∀ y1, y1 = (n0 : Int) → (XX g b d P_J7_fill_d0a16 6 [(2, q0), (1, x1), (9, 0), (0, 0), (0, y1)] [] N σ N Q)) : XX g b d P_J7_fill_d0a16 0 [(2, q0), (1, x1), (9, 0), (9, 0), (9, 0)] [] N σ N Q := by
  refine E_iconst 1 dJ7_fill_d0a16_0 (by decide) rfl ?_
  refine E_istore_n (ls' := [(2, q0), (1, x1), (9, 0), (0, 0), (9, 0)]) 2 dJ7_fill_d0a16_1 (by decide) rfl rfl ?_
  refine E_aload_n 3 dJ7_fill_d0a16_2 rfl hq0.bnd rfl ?_
  refine E_alen (n0 : Int) 4 dJ7_fill_d0a16_3 hq0 (by decide) hn0 rfl rfl ?_
  refine E_top (fun y1 hy1 => ?_)
  have w := w y1 hy1
  refine E_istore (ls' := [(2, q0), (1, x1), (9, 0), (0, 0), (0, y1)]) 6 dJ7_fill_d0a16_4 (by decide) rfl rfl ?_
  with_reducible exact w
theorem B_J7_fill_d0a16_6 {g : PG} {b : Bool} {d N : Nat} {σ : PS} {Q : Int → PS → Prop} {x1 x3 x4 q0 : Int} {n0 : Nat} (hq0 : Fat N q0 (21, n0)) (hn0 : n0 < 100000) (w : ((x4 ≤ x3 → Q 0 σ) ∧ (x3 < x4 → (0 ≤ x3 ∧ x3 < (n0 : Int)) ∧ (XX g b d P_J7_fill_d0a16 6 [(2, q0), (1, x1), (9, 0), (0, w32 (x3 + 1)), (0, x4)] [] N (su σ q0 x3 x1) N Q)))) : XX g b d P_J7_fill_d0a16 6 [(2, q0), (1, x1), (9, 0), (0, x3), (0, x4)] [] N σ N Q := by
  refine E_iload_n 7 dJ7_fill_d0a16_6 rfl rfl ?_
  refine E_iload 9 dJ7_fill_d0a16_7 rfl rfl ?_
  refine E_icmp_ge 12 22 dJ7_fill_d0a16_9 rfl rfl (fun h => ?_) (fun h => ?_)
  · have w := w.1 h
    exact E_vret dJ7_fill_d0a16_22 rfl rfl w
  · have w := w.2 h
    refine E_aload_n 13 dJ7_fill_d0a16_12 rfl hq0.bnd rfl ?_
    refine E_iload_n 14 dJ7_fill_d0a16_13 rfl rfl ?_
    refine E_lload_n 15 dJ7_fill_d0a16_14 rfl rfl ?_
    obtain ⟨c1, w⟩ := w
    refine E_last 16 dJ7_fill_d0a16_15 hq0 c1 rfl ?_
    refine E_iinc (ls' := [(2, q0), (1, x1), (9, 0), (0, w32 (x3 + 1)), (0, x4)]) 19 dJ7_fill_d0a16_16 (by decide) rfl rfl rfl ?_
    refine E_goto 6 dJ7_fill_d0a16_19 rfl ?_
    with_reducible exact w
theorem B_J6_bitCount_0f7a4_0 {g : PG} {d : Nat} {σ : PS} {Q : Int → PS → Prop} {x0 : Int}  (w : ∀ y1, y1 = w32 (x0 - (iand (iushr x0 1) 1431655765)) → ∀ y2, y2 = w32 ((iand y1 858993459) + (iand (iushr y1 2) 858993459)) → ∀ y3, y3 = iand (w32 (y2 + (iushr y2 4))) 252645135 → ∀ y4, y4 = w32 (y3 + (iushr y3 8)) → ∀ y5, y5 = w32 (y4 + (iushr y4 16)) → Q (iand y5 63) σ) : XX g true d P_J6_bitCount_0f7a4 0 [(0, x0)] [] 136 σ 136 Q := by
  refine E_iload_n 1 dJ6_bitCount_0f7a4_0 rfl rfl ?_
  refine E_iload_n 2 dJ6_bitCount_0f7a4_1 rfl rfl ?_
  refine E_iconst 3 dJ6_bitCount_0f7a4_2 (by decide) rfl ?_
  refine E_iushr 4 dJ6_bitCount_0f7a4_3 rfl ?_
  refine E_ldc_w (x := 1431655765) 7 dJ6_bitCount_0f7a4_4 mw_716 rfl (by unfold in32; decide) rfl ?_
  refine E_iand 8 dJ6_bitCount_0f7a4_7 rfl ?_
  refine E_isub 9 dJ6_bitCount_0f7a4_8 rfl ?_
  refine E_top (fun y1 hy1 => ?_)
  have w := w y1 hy1
  refine E_istore_n (ls' := [(0, y1)]) 10 dJ6_bitCount_0f7a4_9 (by decide) rfl rfl ?_
  refine E_iload_n 11 dJ6_bitCount_0f7a4_10 rfl rfl ?_
  refine E_ldc_w (x := 858993459) 14 dJ6_bitCount_0f7a4_11 mw_717 rfl (by unfold in32; decide) rfl ?_
  refine E_iand 15 dJ6_bitCount_0f7a4_14 rfl ?_
  refine E_iload_n 16 dJ6_bitCount_0f7a4_15 rfl rfl ?_
  refine E_iconst 17 dJ6_bitCount_0f7a4_16 (by decide) rfl ?_
  refine E_iushr 18 dJ6_bitCount_0f7a4_17 rfl ?_
  refine E_ldc_w (x := 858993459) 21 dJ6_bitCount_0f7a4_18 mw_717 rfl (by unfold in32; decide) rfl ?_
  refine E_iand 22 dJ6_bitCount_0f7a4_21 rfl ?_
  refine E_iadd 23 dJ6_bitCount_0f7a4_22 rfl ?_
  refine E_top (fun y2 hy2 => ?_)
  have w := w y2 hy2
  refine E_istore_n (ls' := [(0, y2)]) 24 dJ6_bitCount_0f7a4_23 (by decide) rfl rfl ?_
  refine E_iload_n 25 dJ6_bitCount_0f7a4_24 rfl rfl ?_
  refine E_iload_n 26 dJ6_bitCount_0f7a4_25 rfl rfl ?_
  refine E_iconst 27 dJ6_bitCount_0f7a4_26 (by decide) rfl ?_
  refine E_iushr 28 dJ6_bitCount_0f7a4_27 rfl ?_
  refine E_iadd 29 dJ6_bitCount_0f7a4_28 rfl ?_
  refine E_ldc_w (x := 252645135) 32 dJ6_bitCount_0f7a4_29 mw_718 rfl (by unfold in32; decide) rfl ?_
  refine E_iand 33 dJ6_bitCount_0f7a4_32 rfl ?_
  refine E_top (fun y3 hy3 => ?_)
  have w := w y3 hy3
  refine E_istore_n (ls' := [(0, y3)]) 34 dJ6_bitCount_0f7a4_33 (by decide) rfl rfl ?_
  refine E_iload_n 35 dJ6_bitCount_0f7a4_34 rfl rfl ?_
  refine E_iload_n 36 dJ6_bitCount_0f7a4_35 rfl rfl ?_
  refine E_bipush 38 dJ6_bitCount_0f7a4_36 (by decide) rfl ?_
  refine E_iushr 39 dJ6_bitCount_0f7a4_38 rfl ?_
  refine E_iadd 40 dJ6_bitCount_0f7a4_39 rfl ?_
  refine E_top (fun y4 hy4 => ?_)
  have w := w y4 hy4
  refine E_istore_n (ls' := [(0, y4)]) 41 dJ6_bitCount_0f7a4_40 (by decide) rfl rfl ?_
  refine E_iload_n 42 dJ6_bitCount_0f7a4_41 rfl rfl ?_
  refine E_iload_n 43 dJ6_bitCount_0f7a4_42 rfl rfl ?_
  refine E_bipush 45 dJ6_bitCount_0f7a4_43 (by decide) rfl ?_
  refine E_iushr 46 dJ6_bitCount_0f7a4_45 rfl ?_
  refine E_iadd 47 dJ6_bitCount_0f7a4_46 rfl ?_
  refine E_top (fun y5 hy5 => ?_)
  have w := w y5 hy5
  refine E_istore_n (ls' := [(0, y5)]) 48 dJ6_bitCount_0f7a4_47 (by decide) rfl rfl ?_
  refine E_iload_n 49 dJ6_bitCount_0f7a4_48 rfl rfl ?_
  refine E_bipush 51 dJ6_bitCount_0f7a4_49 (by decide) rfl ?_
  refine E_iand 52 dJ6_bitCount_0f7a4_51 rfl ?_
  exact E_iret dJ6_bitCount_0f7a4_52 rfl rfl w
theorem B_J13_bitCount_95d88_0 {g : PG} {d : Nat} {σ : PS} {Q : Int → PS → Prop} {x0 : Int}  (w : ∀ y1, y1 = w64 (x0 - (land (lushr x0 1) 6148914691236517205)) → ∀ y2, y2 = w64 ((land y1 3689348814741910323) + (land (lushr y1 2) 3689348814741910323)) → ∀ y3, y3 = land (w64 (y2 + (lushr y2 4))) 1085102592571150095 → ∀ y4, y4 = w64 (y3 + (lushr y3 8)) → ∀ y5, y5 = w64 (y4 + (lushr y4 16)) → ∀ y6, y6 = w64 (y5 + (lushr y5 32)) → Q (iand (l2i y6) 127) σ) : XX g true d P_J13_bitCount_95d88 0 [(1, x0), (9, 0)] [] 136 σ 136 Q := by
  refine E_lload_n 1 dJ13_bitCount_95d88_0 rfl rfl ?_
  refine E_lload_n 2 dJ13_bitCount_95d88_1 rfl rfl ?_
  refine E_iconst 3 dJ13_bitCount_95d88_2 (by decide) rfl ?_
  refine E_lushr 4 dJ13_bitCount_95d88_3 rfl ?_
  refine E_ldc2_w (x := 6148914691236517205) 7 dJ13_bitCount_95d88_4 mw_1108 (by decide) (by unfold in64; decide) rfl ?_
  refine E_land 8 dJ13_bitCount_95d88_7 rfl ?_
  refine E_lsub 9 dJ13_bitCount_95d88_8 rfl ?_
  refine E_top (fun y1 hy1 => ?_)
  have w := w y1 hy1
  refine E_lstore_n (ls' := [(1, y1), (9, 0)]) 10 dJ13_bitCount_95d88_9 (by decide) rfl rfl ?_
  refine E_lload_n 11 dJ13_bitCount_95d88_10 rfl rfl ?_
  refine E_ldc2_w (x := 3689348814741910323) 14 dJ13_bitCount_95d88_11 mw_1109 (by decide) (by unfold in64; decide) rfl ?_
  refine E_land 15 dJ13_bitCount_95d88_14 rfl ?_
  refine E_lload_n 16 dJ13_bitCount_95d88_15 rfl rfl ?_
  refine E_iconst 17 dJ13_bitCount_95d88_16 (by decide) rfl ?_
  refine E_lushr 18 dJ13_bitCount_95d88_17 rfl ?_
  refine E_ldc2_w (x := 3689348814741910323) 21 dJ13_bitCount_95d88_18 mw_1109 (by decide) (by unfold in64; decide) rfl ?_
  refine E_land 22 dJ13_bitCount_95d88_21 rfl ?_
  refine E_ladd 23 dJ13_bitCount_95d88_22 rfl ?_
  refine E_top (fun y2 hy2 => ?_)
  have w := w y2 hy2
  refine E_lstore_n (ls' := [(1, y2), (9, 0)]) 24 dJ13_bitCount_95d88_23 (by decide) rfl rfl ?_
  refine E_lload_n 25 dJ13_bitCount_95d88_24 rfl rfl ?_
  refine E_lload_n 26 dJ13_bitCount_95d88_25 rfl rfl ?_
  refine E_iconst 27 dJ13_bitCount_95d88_26 (by decide) rfl ?_
  refine E_lushr 28 dJ13_bitCount_95d88_27 rfl ?_
  refine E_ladd 29 dJ13_bitCount_95d88_28 rfl ?_
  refine E_ldc2_w (x := 1085102592571150095) 32 dJ13_bitCount_95d88_29 mw_1110 (by decide) (by unfold in64; decide) rfl ?_
  refine E_land 33 dJ13_bitCount_95d88_32 rfl ?_
  refine E_top (fun y3 hy3 => ?_)
  have w := w y3 hy3
  refine E_lstore_n (ls' := [(1, y3), (9, 0)]) 34 dJ13_bitCount_95d88_33 (by decide) rfl rfl ?_
  refine E_lload_n 35 dJ13_bitCount_95d88_34 rfl rfl ?_
  refine E_lload_n 36 dJ13_bitCount_95d88_35 rfl rfl ?_
  refine E_bipush 38 dJ13_bitCount_95d88_36 (by decide) rfl ?_
  refine E_lushr 39 dJ13_bitCount_95d88_38 rfl ?_
  refine E_ladd 40 dJ13_bitCount_95d88_39 rfl ?_
  refine E_top (fun y4 hy4 => ?_)
  have w := w y4 hy4
  refine E_lstore_n (ls' := [(1, y4), (9, 0)]) 41 dJ13_bitCount_95d88_40 (by decide) rfl rfl ?_
  refine E_lload_n 42 dJ13_bitCount_95d88_41 rfl rfl ?_
  refine E_lload_n 43 dJ13_bitCount_95d88_42 rfl rfl ?_
  refine E_bipush 45 dJ13_bitCount_95d88_43 (by decide) rfl ?_
  refine E_lushr 46 dJ13_bitCount_95d88_45 rfl ?_
  refine E_ladd 47 dJ13_bitCount_95d88_46 rfl ?_
  refine E_top (fun y5 hy5 => ?_)
  have w := w y5 hy5
  refine E_lstore_n (ls' := [(1, y5), (9, 0)]) 48 dJ13_bitCount_95d88_47 (by decide) rfl rfl ?_
  refine E_lload_n 49 dJ13_bitCount_95d88_48 rfl rfl ?_
  refine E_lload_n 50 dJ13_bitCount_95d88_49 rfl rfl ?_
  refine E_bipush 52 dJ13_bitCount_95d88_50 (by decide) rfl ?_
  refine E_lushr 53 dJ13_bitCount_95d88_52 rfl ?_
  refine E_ladd 54 dJ13_bitCount_95d88_53 rfl ?_
  refine E_top (fun y6 hy6 => ?_)
  have w := w y6 hy6
  refine E_lstore_n (ls' := [(1, y6), (9, 0)]) 55 dJ13_bitCount_95d88_54 (by decide) rfl rfl ?_
  refine E_lload_n 56 dJ13_bitCount_95d88_55 rfl rfl ?_
  refine E_l2i 57 dJ13_bitCount_95d88_56 rfl ?_
  refine E_bipush 59 dJ13_bitCount_95d88_57 (by decide) rfl ?_
  refine E_iand 60 dJ13_bitCount_95d88_59 rfl ?_
  exact E_iret dJ13_bitCount_95d88_60 rfl rfl w
theorem B_J0_length_8abf5_0 {g : PG} {d : Nat} {σ : PS} {Q : Int → PS → Prop}  (w : XX g true d P_J0_coder_7d493 0 [(2, 100003)] [] 136 σ 136 (fun r2 σ1 => Q (ishr 116 r2) σ1)) : XX g true (d + 1) P_J0_length_8abf5 0 [(2, 100003)] [] 136 σ 136 Q := by
  refine E_aload_nT (t := 3) 1 dJ0_length_8abf5_0 rfl ⟨by decide, rfl⟩ rfl ?_
  refine E_getSV 4 dJ0_length_8abf5_1 mw_1735 rfl ?_
  refine E_alenSV 5 dJ0_length_8abf5_4 rfl ?_
  refine E_aload_nT (t := 3) 6 dJ0_length_8abf5_5 rfl ⟨by decide, rfl⟩ rfl ?_
  refine E_callT (as := []) 9 dJ0_length_8abf5_6 cf_J0_coder_7d493 mw_614 mw_615 mw_616 rfl rfl rfl (Nat.le_of_ble_eq_true rfl) (Nat.le_of_ble_eq_true rfl) ⟨Nat.le_refl _, Nat.le_refl _⟩ rfl (w.mono (fun r2 σ1 w => ?_))
  show XX g true (d + 1) P_J0_length_8abf5 9 [(2, 100003)] [(0, r2), (0, 116)] 136 σ1 136 Q
  refine E_ishr 10 dJ0_length_8abf5_9 rfl ?_
  exact E_iret dJ0_length_8abf5_10 rfl rfl w
theorem B_J0_charAt_5068e_0 {g : PG} {d : Nat} {σ : PS} {Q : Int → PS → Prop} {x1 : Int}  (w : XX g true d P_J0_isLatin1_aae02 0 [(2, 100003)] [] 136 σ 136 (fun r2 σ1 => ((r2 = 0 → False) ∧ (r2 ≠ 0 → XX g true d P_J1_charAt_3b067 0 [(2, 100004), (0, x1)] [] 136 σ1 136 (fun r4 σ3 => narrow .char (.int (Int32.ofInt r4)) = .int (Int32.ofInt r4) ∧ Q r4 σ3))))) : XX g true (d + 1) P_J0_charAt_5068e 0 [(2, 100003), (0, x1)] [] 136 σ 136 Q := by
  refine E_aload_nT (t := 3) 1 dJ0_charAt_5068e_0 rfl ⟨by decide, rfl⟩ rfl ?_
  refine E_callT (as := []) 4 dJ0_charAt_5068e_1 cf_J0_isLatin1_aae02 mw_624 mw_625 mw_626 rfl rfl rfl (Nat.le_of_ble_eq_true rfl) (Nat.le_of_ble_eq_true rfl) ⟨Nat.le_refl _, Nat.le_refl _⟩ rfl (w.mono (fun r2 σ1 w => ?_))
  show XX g true (d + 1) P_J0_charAt_5068e 4 [(2, 100003), (0, x1)] [(0, r2)] 136 σ1 136 Q
  refine E_if_eq 7 16 dJ0_charAt_5068e_4 rfl rfl (fun h => ?_) (fun h => ?_)
  · have w := w.1 h
    refine E_aload_nT (t := 3) 17 dJ0_charAt_5068e_16 rfl ⟨by decide, rfl⟩ rfl ?_
    refine E_getSV 20 dJ0_charAt_5068e_17 mw_1735 rfl ?_
    refine E_iload_n 21 dJ0_charAt_5068e_20 rfl rfl ?_
    exact w.elim
  · have w := w.2 h
    refine E_aload_nT (t := 3) 8 dJ0_charAt_5068e_7 rfl ⟨by decide, rfl⟩ rfl ?_
    refine E_getSV 11 dJ0_charAt_5068e_8 mw_1735 rfl ?_
    refine E_iload_n 12 dJ0_charAt_5068e_11 rfl rfl ?_
    refine E_callS (as := [(2, 100004), (0, x1)]) 15 dJ0_charAt_5068e_12 cf_J1_charAt_3b067 (Or.inl mw_628) mw_629 rfl rfl (Nat.le_of_ble_eq_true rfl) (Nat.le_of_ble_eq_true rfl) ⟨Nat.le_refl _, Nat.le_refl _⟩ rfl (w.mono (fun r4 σ3 w => ?_))
    show XX g true (d + 1) P_J0_charAt_5068e 15 [(2, 100003), (0, x1)] [(0, r4)] 136 σ3 136 Q
    obtain ⟨c5, w⟩ := w
    exact E_nret dJ0_charAt_5068e_15 rfl (by decide) rfl c5 w
theorem B_J0_coder_7d493_0 {g : PG} {d : Nat} {σ : PS} {Q : Int → PS → Prop}  (w : narrow .byte (.int (Int32.ofInt 0)) = .int (Int32.ofInt 0) ∧ Q 0 σ) : XX g true d P_J0_coder_7d493 0 [(2, 100003)] [] 136 σ 136 Q := by
  refine E_getsCS 3 dJ0_coder_7d493_0 mw_618 rfl ?_
  refine E_if_eq 6 13 dJ0_coder_7d493_3 rfl rfl (fun h => ?_) (fun h => ?_)
  · exact absurd h (by decide)
  · refine E_aload_nT (t := 3) 7 dJ0_coder_7d493_6 rfl ⟨by decide, rfl⟩ rfl ?_
    refine E_getSC 10 dJ0_coder_7d493_7 mw_1736 rfl ?_
    refine E_goto 14 dJ0_coder_7d493_10 rfl ?_
    obtain ⟨c1, w⟩ := w
    exact E_nret dJ0_coder_7d493_14 rfl (by decide) rfl c1 w
theorem B_J0_isLatin1_aae02_0 {g : PG} {d : Nat} {σ : PS} {Q : Int → PS → Prop}  (w : Q 1 σ) : XX g true d P_J0_isLatin1_aae02 0 [(2, 100003)] [] 136 σ 136 Q := by
  refine E_getsCS 3 dJ0_isLatin1_aae02_0 mw_618 rfl ?_
  refine E_if_eq 6 17 dJ0_isLatin1_aae02_3 rfl rfl (fun h => ?_) (fun h => ?_)
  · exact absurd h (by decide)
  · refine E_aload_nT (t := 3) 7 dJ0_isLatin1_aae02_6 rfl ⟨by decide, rfl⟩ rfl ?_
    refine E_getSC 10 dJ0_isLatin1_aae02_7 mw_1736 rfl ?_
    refine E_if_ne 13 17 dJ0_isLatin1_aae02_10 rfl rfl (fun h => ?_) (fun h => ?_)
    · exact absurd h (by decide)
    · refine E_iconst 14 dJ0_isLatin1_aae02_13 (by decide) rfl ?_
      refine E_goto 18 dJ0_isLatin1_aae02_14 rfl ?_
      exact E_zret dJ0_isLatin1_aae02_18 rfl rfl (Or.inr rfl) w
theorem B_J0_checkIndex_df160_0 {g : PG} {d : Nat} {σ : PS} {Q : Int → PS → Prop} {x0 x1 : Int}  (w : XX g true d P_J3_checkIndex_8e157 0 [(0, x0), (0, x1), (2, 100005)] [] 136 σ 136 (fun r2 σ1 => Q 0 σ1)) : XX g true (d + 1) P_J0_checkIndex_df160 0 [(0, x0), (0, x1)] [] 136 σ 136 Q := by
  refine E_iload_n 1 dJ0_checkIndex_df160_0 rfl rfl ?_
  refine E_iload_n 2 dJ0_checkIndex_df160_1 rfl rfl ?_
  refine E_getsSI 5 dJ0_checkIndex_df160_2 mw_634 rfl ?_
  refine E_callS (as := [(0, x0), (0, x1), (2, 100005)]) 8 dJ0_checkIndex_df160_5 cf_J3_checkIndex_8e157 (Or.inl mw_636) mw_637 rfl rfl (Nat.le_of_ble_eq_true rfl) (Nat.le_of_ble_eq_true rfl) ⟨Nat.le_refl _, Nat.le_refl _⟩ rfl (w.mono (fun r2 σ1 w => ?_))
  show XX g true (d + 1) P_J0_checkIndex_df160 8 [(0, x0), (0, x1)] [(0, r2)] 136 σ1 136 Q
  refine E_pop 9 dJ0_checkIndex_df160_8 n01 rfl ?_
  exact E_vret dJ0_checkIndex_df160_9 rfl rfl w
theorem B_J1_charAt_3b067_0 {g : PG} {d : Nat} {σ : PS} {Q : Int → PS → Prop} {x1 : Int}  (w : XX g true d P_J0_checkIndex_df160 0 [(0, x1), (0, 116)] [] 136 σ 136 (fun _ σ1 => (0 ≤ x1 ∧ x1 < 116) ∧ narrow .char (.int (Int32.ofInt (ic16 (iand (wordsT.getD x1.toNat 0) 255)))) = .int (Int32.ofInt (ic16 (iand (wordsT.getD x1.toNat 0) 255))) ∧ Q (ic16 (iand (wordsT.getD x1.toNat 0) 255)) σ1)) : XX g true (d + 1) P_J1_charAt_3b067 0 [(2, 100004), (0, x1)] [] 136 σ 136 Q := by
  refine E_iload_n 1 dJ1_charAt_3b067_0 rfl rfl ?_
  refine E_aload_nT (t := 4) 2 dJ1_charAt_3b067_1 rfl ⟨by decide, rfl⟩ rfl ?_
  refine E_alenSV 3 dJ1_charAt_3b067_2 rfl ?_
  refine E_callS (as := [(0, x1), (0, 116)]) 6 dJ1_charAt_3b067_3 cf_J0_checkIndex_df160 (Or.inl mw_631) mw_632 rfl rfl (Nat.le_of_ble_eq_true rfl) (Nat.le_of_ble_eq_true rfl) ⟨Nat.le_refl _, Nat.le_refl _⟩ rfl (w.mono (fun r2 σ1 w => ?_))
  show XX g true (d + 1) P_J1_charAt_3b067 6 [(2, 100004), (0, x1)] [] 136 σ1 136 Q
  refine E_aload_nT (t := 4) 7 dJ1_charAt_3b067_6 rfl ⟨by decide, rfl⟩ rfl ?_
  refine E_iload_n 8 dJ1_charAt_3b067_7 rfl rfl ?_
  obtain ⟨c3, w⟩ := w
  refine E_baldSV 9 dJ1_charAt_3b067_8 c3 rfl ?_
  refine E_sipush 12 dJ1_charAt_3b067_9 (by decide) rfl ?_
  refine E_iand 13 dJ1_charAt_3b067_12 rfl ?_
  refine E_i2c 14 dJ1_charAt_3b067_13 rfl ?_
  obtain ⟨c4, w⟩ := w
  exact E_nret dJ1_charAt_3b067_14 rfl (by decide) rfl c4 w
theorem B_J3_checkIndex_8e157_0 {g : PG} {d : Nat} {σ : PS} {Q : Int → PS → Prop} {x0 x1 : Int}  (w : ((x0 < 0 → False) ∧ (0 ≤ x0 → ((x0 < x1 → Q x0 σ) ∧ (x1 ≤ x0 → False))))) : XX g true (d + 1) P_J3_checkIndex_8e157 0 [(0, x0), (0, x1), (2, 100005)] [] 136 σ 136 Q := by
  refine E_iload_n 1 dJ3_checkIndex_8e157_0 rfl rfl ?_
  refine E_if_lt 4 9 dJ3_checkIndex_8e157_1 rfl rfl (fun h => ?_) (fun h => ?_)
  · have w := w.1 h
    exact w.elim
  · have w := w.2 h
    refine E_iload_n 5 dJ3_checkIndex_8e157_4 rfl rfl ?_
    refine E_iload_n 6 dJ3_checkIndex_8e157_5 rfl rfl ?_
    refine E_icmp_lt 9 16 dJ3_checkIndex_8e157_6 rfl rfl (fun h => ?_) (fun h => ?_)
    · have w := w.1 h
      refine E_iload_n 17 dJ3_checkIndex_8e157_16 rfl rfl ?_
      exact E_iret dJ3_checkIndex_8e157_17 rfl rfl w
    · have w := w.2 h
      exact w.elim
theorem B_X12_isIn_0 {g : PG} {d : Nat} {σ : PS} {Q : Int → PS → Prop} {x1 x2 x3 : Int}  (w : ((x1 < x2 → Q 0 σ) ∧ (x2 ≤ x1 → ((x3 < x1 → Q 0 σ) ∧ (x1 ≤ x3 → Q 1 σ))))) : XX g true d P_X12_isIn 0 [(2, 88), (0, x1), (0, x2), (0, x3)] [] 136 σ 136 Q := by
  refine E_iload_n 1 dX12_isIn_0 rfl rfl ?_
  refine E_iload_n 2 dX12_isIn_1 rfl rfl ?_
  refine E_icmp_lt 5 14 dX12_isIn_2 rfl rfl (fun h => ?_) (fun h => ?_)
  · have w := w.1 h
    refine E_iconst 15 dX12_isIn_14 (by decide) rfl ?_
    exact E_zret dX12_isIn_15 rfl rfl (Or.inl rfl) w
  · have w := w.2 h
    refine E_iload_n 6 dX12_isIn_5 rfl rfl ?_
    refine E_iload_n 7 dX12_isIn_6 rfl rfl ?_
    refine E_icmp_gt 10 14 dX12_isIn_7 rfl rfl (fun h => ?_) (fun h => ?_)
    · have w := w.1 h
      refine E_iconst 15 dX12_isIn_14 (by decide) rfl ?_
      exact E_zret dX12_isIn_15 rfl rfl (Or.inl rfl) w
    · have w := w.2 h
      refine E_iconst 11 dX12_isIn_10 (by decide) rfl ?_
      refine E_goto 15 dX12_isIn_11 rfl ?_
      exact E_zret dX12_isIn_15 rfl rfl (Or.inr rfl) w
theorem B_X12_ones_0 {g : PG} {d : Nat} {σ : PS} {Q : Int → PS → Prop} {x1 : Int}  (w : (XX g true d P_X12_ones 4 [(9, 0), (9, 0), (0, 0), (0, x1)] [] 136 σ 136 Q)) : XX g true d P_X12_ones 0 [(2, 88), (0, x1), (9, 0), (9, 0)] [] 136 σ 136 Q := by
  refine E_iconst 1 dX12_ones_0 (by decide) rfl ?_
  refine E_istore_n (ls' := [(2, 88), (0, x1), (0, 0), (9, 0)]) 2 dX12_ones_1 (by decide) rfl rfl ?_
  refine E_iload_n 3 dX12_ones_2 rfl rfl ?_
  refine E_istore_n (ls' := [(2, 88), (0, x1), (0, 0), (0, x1)]) 4 dX12_ones_3 (by decide) rfl rfl ?_
  refine XX.fg [0, 1] [(9, 0), (9, 0), (0, 0), (0, x1)] rfl ?_
  with_reducible exact w
theorem B_X12_ones_4 {g : PG} {d : Nat} {σ : PS} {Q : Int → PS → Prop} {x2 x3 : Int}  (w : ((x3 = 0 → Q x2 σ) ∧ (x3 ≠ 0 → ∀ y1, y1 = w32 (x2 + 1) → ∀ y2, y2 = iand x3 (w32 (x3 - 1)) → (XX g true d P_X12_ones 4 [(9, 0), (9, 0), (0, y1), (0, y2)] [] 136 σ 136 Q)))) : XX g true d P_X12_ones 4 [(9, 0), (9, 0), (0, x2), (0, x3)] [] 136 σ 136 Q := by
  refine E_iload_n 5 dX12_ones_4 rfl rfl ?_
  refine E_if_eq 8 21 dX12_ones_5 rfl rfl (fun h => ?_) (fun h => ?_)
  · have w := w.1 h
    refine E_iload_n 22 dX12_ones_21 rfl rfl ?_
    exact E_iret dX12_ones_22 rfl rfl w
  · have w := w.2 h
    refine E_iload_n 9 dX12_ones_8 rfl rfl ?_
    refine E_iconst 10 dX12_ones_9 (by decide) rfl ?_
    refine E_iadd 11 dX12_ones_10 rfl ?_
    refine E_top (fun y1 hy1 => ?_)
    have w := w y1 hy1
    refine E_istore_n (ls' := [(9, 0), (9, 0), (0, y1), (0, x3)]) 12 dX12_ones_11 (by decide) rfl rfl ?_
    refine E_iload_n 13 dX12_ones_12 rfl rfl ?_
    refine E_iload_n 14 dX12_ones_13 rfl rfl ?_
    refine E_iconst 15 dX12_ones_14 (by decide) rfl ?_
    refine E_isub 16 dX12_ones_15 rfl ?_
    refine E_iand 17 dX12_ones_16 rfl ?_
    refine E_top (fun y2 hy2 => ?_)
    have w := w y2 hy2
    refine E_istore_n (ls' := [(9, 0), (9, 0), (0, y1), (0, y2)]) 18 dX12_ones_17 (by decide) rfl rfl ?_
    refine E_goto 4 dX12_ones_18 rfl ?_
    with_reducible exact w
theorem B_X12_size_0 {g : PG} {d : Nat} {σ : PS} {Q : Int → PS → Prop} {x1 : Int}  (w : ((0 ≤ x1 → Q x1 σ) ∧ (x1 < 0 → Q (w32 (-x1)) σ))) : XX g true d P_X12_size 0 [(2, 88), (0, x1)] [] 136 σ 136 Q := by
  refine E_iload_n 1 dX12_size_0 rfl rfl ?_
  refine E_if_ge 4 9 dX12_size_1 rfl rfl (fun h => ?_) (fun h => ?_)
  · have w := w.1 h
    refine E_iload_n 10 dX12_size_9 rfl rfl ?_
    exact E_iret dX12_size_10 rfl rfl w
  · have w := w.2 h
    refine E_iload_n 5 dX12_size_4 rfl rfl ?_
    refine E_ineg 6 dX12_size_5 rfl ?_
    refine E_goto 10 dX12_size_6 rfl ?_
    exact E_iret dX12_size_10 rfl rfl w
theorem B_X12_state_0 {g : PG} {d : Nat} {σ : PS} {Q : Int → PS → Prop} {x1 : Int}  (w : ∀ y1, y1 = σ 88 1 → Q y1 (su (su σ 88 0 0) 88 1 x1)) : XX g true d P_X12_state 0 [(2, 88), (0, x1), (9, 0)] [] 136 σ 136 Q := by
  refine E_aload_n 1 dX12_state_0 rfl (ac_88.bnd) rfl ?_
  refine E_iconst 2 dX12_state_1 (by decide) rfl ?_
  refine E_putI 0 5 dX12_state_2 fl_X12_166 ac_88 rfl (by decide) (Or.inl rfl) rfl rfl ?_
  refine E_aload_n 6 dX12_state_5 rfl (ac_88.bnd) rfl ?_
  refine E_get 1 9 dX12_state_6 fl_X12_169 ac_88 rfl (by decide) rfl rfl ?_
  refine E_conv (su_ne (Or.inr (by decide))) ?_
  refine E_top (fun y1 hy1 => ?_)
  have w := w y1 hy1
  refine E_istore_n (ls' := [(2, 88), (0, x1), (0, y1)]) 10 dX12_state_9 (by decide) rfl rfl ?_
  refine E_aload_n 11 dX12_state_10 rfl (ac_88.bnd) rfl ?_
  refine E_iload_n 12 dX12_state_11 rfl rfl ?_
  refine E_putI 1 15 dX12_state_12 fl_X12_169 ac_88 rfl (by decide) (Or.inl rfl) rfl rfl ?_
  refine E_iload_n 16 dX12_state_15 rfl rfl ?_
  exact E_iret dX12_state_16 rfl rfl w
theorem B_X12_draw_0 {g : PG} {d : Nat} {σ : PS} {Q : Int → PS → Prop} {x1 : Int}  (w : x1 ≠ 0 ∧ Q (irem (iushr (w32 ((w32 (1664525 * (σ 88 1))) + 1013904223)) 8) x1) (su σ 88 1 (w32 ((w32 (1664525 * (σ 88 1))) + 1013904223)))) : XX g true d P_X12_draw 0 [(2, 88), (0, x1)] [] 136 σ 136 Q := by
  refine E_aload_n 1 dX12_draw_0 rfl (ac_88.bnd) rfl ?_
  refine E_ldc (x := 1664525) 3 dX12_draw_1 mw_1580 rfl (by unfold in32; decide) rfl ?_
  refine E_aload_n 4 dX12_draw_3 rfl (ac_88.bnd) rfl ?_
  refine E_get 1 7 dX12_draw_4 fl_X12_169 ac_88 rfl (by decide) rfl rfl ?_
  refine E_imul 8 dX12_draw_7 rfl ?_
  refine E_ldc (x := 1013904223) 10 dX12_draw_8 mw_1581 rfl (by unfold in32; decide) rfl ?_
  refine E_iadd 11 dX12_draw_10 rfl ?_
  refine E_putI 1 14 dX12_draw_11 fl_X12_169 ac_88 rfl (by decide) (Or.inl rfl) rfl rfl ?_
  refine E_aload_n 15 dX12_draw_14 rfl (ac_88.bnd) rfl ?_
  refine E_get 1 18 dX12_draw_15 fl_X12_169 ac_88 rfl (by decide) rfl rfl ?_
  refine E_conv (su_eq) ?_
  refine E_bipush 20 dX12_draw_18 (by decide) rfl ?_
  refine E_iushr 21 dX12_draw_20 rfl ?_
  refine E_iload_n 22 dX12_draw_21 rfl rfl ?_
  obtain ⟨c1, w⟩ := w
  refine E_irem 23 dX12_draw_22 c1 rfl ?_
  exact E_iret dX12_draw_23 rfl rfl w
theorem B_X12_isPlace_0 {g : PG} {d : Nat} {σ : PS} {Q : Int → PS → Prop} {x1 : Int}  (w : ((x1 < 0 → Q 0 σ) ∧ (0 ≤ x1 → ((σ 88 2 ≤ x1 → Q 0 σ) ∧ (x1 < σ 88 2 → Q 1 σ))))) : XX g true d P_X12_isPlace 0 [(2, 88), (0, x1)] [] 136 σ 136 Q := by
  refine E_iload_n 1 dX12_isPlace_0 rfl rfl ?_
  refine E_if_lt 4 16 dX12_isPlace_1 rfl rfl (fun h => ?_) (fun h => ?_)
  · have w := w.1 h
    refine E_iconst 17 dX12_isPlace_16 (by decide) rfl ?_
    exact E_zret dX12_isPlace_17 rfl rfl (Or.inl rfl) w
  · have w := w.2 h
    refine E_iload_n 5 dX12_isPlace_4 rfl rfl ?_
    refine E_aload_n 6 dX12_isPlace_5 rfl (ac_88.bnd) rfl ?_
    refine E_get 2 9 dX12_isPlace_6 fl_X12_7 ac_88 rfl (by decide) rfl rfl ?_
    refine E_icmp_ge 12 16 dX12_isPlace_9 rfl rfl (fun h => ?_) (fun h => ?_)
    · have w := w.1 h
      refine E_iconst 17 dX12_isPlace_16 (by decide) rfl ?_
      exact E_zret dX12_isPlace_17 rfl rfl (Or.inl rfl) w
    · have w := w.2 h
      refine E_iconst 13 dX12_isPlace_12 (by decide) rfl ?_
      refine E_goto 17 dX12_isPlace_13 rfl ?_
      exact E_zret dX12_isPlace_17 rfl rfl (Or.inr rfl) w
theorem B_X12_row_0 {g : PG} {d : Nat} {σ : PS} {Q : Int → PS → Prop} {x1 : Int}  (w : XX g true d P_X12_isIn 0 [(2, 88), (0, x1), (0, 2), (0, 60)] [] 136 (su σ 88 0 0) 136 (fun r2 σ1 => ((r2 ≠ 0 → (XX g true (d + 1) P_X12_row 25 [(2, 88), (9, 0), (0, 0)] [] 136 (su σ1 88 2 x1) 136 Q)) ∧ (r2 = 0 → Q 0 σ1)))) : XX g true (d + 1) P_X12_row 0 [(2, 88), (0, x1), (9, 0)] [] 136 σ 136 Q := by
  refine E_aload_n 1 dX12_row_0 rfl (ac_88.bnd) rfl ?_
  refine E_iconst 2 dX12_row_1 (by decide) rfl ?_
  refine E_putI 0 5 dX12_row_2 fl_X12_166 ac_88 rfl (by decide) (Or.inl rfl) rfl rfl ?_
  refine E_aload_n 6 dX12_row_5 rfl (ac_88.bnd) rfl ?_
  refine E_iload_n 7 dX12_row_6 rfl rfl ?_
  refine E_iconst 8 dX12_row_7 (by decide) rfl ?_
  refine E_bipush 10 dX12_row_8 (by decide) rfl ?_
  refine E_callV (as := [(0, x1), (0, 2), (0, 60)]) 13 dX12_row_10 cf_X12_isIn mw_1363 mw_1365 mw_39 ac_88 (by decide) cl_X12 rfl rfl (Nat.le_of_ble_eq_true rfl) (Nat.le_of_ble_eq_true rfl) ⟨Nat.le_refl _, Nat.le_refl _⟩ rfl (w.mono (fun r2 σ1 w => ?_))
  show XX g true (d + 1) P_X12_row 13 [(2, 88), (0, x1), (9, 0)] [(0, r2)] 136 σ1 136 Q
  refine E_if_ne 16 18 dX12_row_13 rfl rfl (fun h => ?_) (fun h => ?_)
  · have w := w.1 h
    refine E_aload_n 19 dX12_row_18 rfl (ac_88.bnd) rfl ?_
    refine E_iload_n 20 dX12_row_19 rfl rfl ?_
    refine E_putI 2 23 dX12_row_20 fl_X12_7 ac_88 rfl (by decide) (Or.inl rfl) rfl rfl ?_
    refine E_iconst 24 dX12_row_23 (by decide) rfl ?_
    refine E_istore_n (ls' := [(2, 88), (0, x1), (0, 0)]) 25 dX12_row_24 (by decide) rfl rfl ?_
    refine XX.fg [1] [(2, 88), (9, 0), (0, 0)] rfl ?_
    with_reducible exact w
  · have w := w.2 h
    refine E_iconst 17 dX12_row_16 (by decide) rfl ?_
    exact E_zret dX12_row_17 rfl rfl (Or.inl rfl) w
theorem B_X12_row_25 {g : PG} {d : Nat} {σ : PS} {Q : Int → PS → Prop} {x2 : Int}  (w : ((60 ≤ x2 → Q 1 (su (su σ 88 16 0) 88 17 (-1))) ∧ (x2 < 60 → (0 ≤ x2 ∧ x2 < 60) ∧ (XX g true (d + 1) P_X12_row 25 [(2, 88), (9, 0), (0, w32 (x2 + 1))] [] 136 (su (su (su (su (su (su σ 89 x2 0) 90 x2 0) 91 x2 0) 92 x2 0) 93 x2 0) 94 x2 0) 136 Q)))) : XX g true (d + 1) P_X12_row 25 [(2, 88), (9, 0), (0, x2)] [] 136 σ 136 Q := by
  refine E_iload_n 26 dX12_row_25 rfl rfl ?_
  refine E_bipush 28 dX12_row_26 (by decide) rfl ?_
  refine E_icmp_ge 31 79 dX12_row_28 rfl rfl (fun h => ?_) (fun h => ?_)
  · have w := w.1 h
    refine E_aload_n 80 dX12_row_79 rfl (ac_88.bnd) rfl ?_
    refine E_iconst 81 dX12_row_80 (by decide) rfl ?_
    refine E_putI 16 84 dX12_row_81 fl_X12_178 ac_88 rfl (by decide) (Or.inl rfl) rfl rfl ?_
    refine E_aload_n 85 dX12_row_84 rfl (ac_88.bnd) rfl ?_
    refine E_iconst 86 dX12_row_85 (by decide) rfl ?_
    refine E_putI 17 89 dX12_row_86 fl_X12_41 ac_88 rfl (by decide) (Or.inl rfl) rfl rfl ?_
    refine E_iconst 90 dX12_row_89 (by decide) rfl ?_
    exact E_zret dX12_row_90 rfl rfl (Or.inr rfl) w
  · have w := w.2 h
    refine E_aload_n 32 dX12_row_31 rfl (ac_88.bnd) rfl ?_
    refine E_getL 35 dX12_row_32 fl_X12_13 ac_88 rfl (by decide) lay_88_3 rfl ?_
    refine E_iload_n 36 dX12_row_35 rfl rfl ?_
    refine E_iconst 37 dX12_row_36 (by decide) rfl ?_
    obtain ⟨c1, w⟩ := w
    refine E_iast 38 dX12_row_37 ac_89 c1 rfl ?_
    refine E_aload_n 39 dX12_row_38 rfl (ac_88.bnd) rfl ?_
    refine E_getL 42 dX12_row_39 fl_X12_17 ac_88 rfl (by decide) lay_88_4 rfl ?_
    refine E_iload_n 43 dX12_row_42 rfl rfl ?_
    refine E_iconst 44 dX12_row_43 (by decide) rfl ?_
    refine E_iast 45 dX12_row_44 ac_90 c1 rfl ?_
    refine E_aload_n 46 dX12_row_45 rfl (ac_88.bnd) rfl ?_
    refine E_getL 49 dX12_row_46 fl_X12_20 ac_88 rfl (by decide) lay_88_5 rfl ?_
    refine E_iload_n 50 dX12_row_49 rfl rfl ?_
    refine E_iconst 51 dX12_row_50 (by decide) rfl ?_
    refine E_iast 52 dX12_row_51 ac_91 c1 rfl ?_
    refine E_aload_n 53 dX12_row_52 rfl (ac_88.bnd) rfl ?_
    refine E_getL 56 dX12_row_53 fl_X12_23 ac_88 rfl (by decide) lay_88_6 rfl ?_
    refine E_iload_n 57 dX12_row_56 rfl rfl ?_
    refine E_iconst 58 dX12_row_57 (by decide) rfl ?_
    refine E_iast 59 dX12_row_58 ac_92 c1 rfl ?_
    refine E_aload_n 60 dX12_row_59 rfl (ac_88.bnd) rfl ?_
    refine E_getL 63 dX12_row_60 fl_X12_26 ac_88 rfl (by decide) lay_88_7 rfl ?_
    refine E_iload_n 64 dX12_row_63 rfl rfl ?_
    refine E_iconst 65 dX12_row_64 (by decide) rfl ?_
    refine E_iast 66 dX12_row_65 ac_93 c1 rfl ?_
    refine E_aload_n 67 dX12_row_66 rfl (ac_88.bnd) rfl ?_
    refine E_getL 70 dX12_row_67 fl_X12_29 ac_88 rfl (by decide) lay_88_8 rfl ?_
    refine E_iload_n 71 dX12_row_70 rfl rfl ?_
    refine E_iconst 72 dX12_row_71 (by decide) rfl ?_
    refine E_iast 73 dX12_row_72 ac_94 c1 rfl ?_
    refine E_iinc (ls' := [(2, 88), (9, 0), (0, w32 (x2 + 1))]) 76 dX12_row_73 (by decide) rfl rfl rfl ?_
    refine E_goto 25 dX12_row_76 rfl ?_
    with_reducible exact w
theorem B_X12_place_0 {g : PG} {d : Nat} {σ : PS} {Q : Int → PS → Prop} {x1 x2 x3 x4 : Int}  (w : XX g true d P_X12_isPlace 0 [(2, 88), (0, x1)] [] 136 (su σ 88 0 0) 136 (fun r2 σ1 => ((r2 = 0 → Q 0 σ1) ∧ (r2 ≠ 0 → XX g true d P_X12_isIn 0 [(2, 88), (0, x2), (0, 0), (0, 5)] [] 136 σ1 136 (fun r4 σ3 => ((r4 = 0 → Q 0 σ3) ∧ (r4 ≠ 0 → XX g true d P_X12_isIn 0 [(2, 88), (0, x3), (0, 0), (0, 999)] [] 136 σ3 136 (fun r6 σ5 => ((r6 ≠ 0 → (0 ≤ x1 ∧ x1 < 60) ∧ ((x4 = 0 → Q 1 (su (su (su σ5 89 x1 x2) 90 x1 x3) 91 x1 0)) ∧ (x4 ≠ 0 → Q 1 (su (su (su σ5 89 x1 x2) 90 x1 x3) 91 x1 1)))) ∧ (r6 = 0 → Q 0 σ5)))))))))) : XX g true (d + 1) P_X12_place 0 [(2, 88), (0, x1), (0, x2), (0, x3), (0, x4)] [] 136 σ 136 Q := by
  refine E_aload_n 1 dX12_place_0 rfl (ac_88.bnd) rfl ?_
  refine E_iconst 2 dX12_place_1 (by decide) rfl ?_
  refine E_putI 0 5 dX12_place_2 fl_X12_166 ac_88 rfl (by decide) (Or.inl rfl) rfl rfl ?_
  refine E_aload_n 6 dX12_place_5 rfl (ac_88.bnd) rfl ?_
  refine E_iload_n 7 dX12_place_6 rfl rfl ?_
  refine E_callV (as := [(0, x1)]) 10 dX12_place_7 cf_X12_isPlace mw_1371 mw_1373 mw_40 ac_88 (by decide) cl_X12 rfl rfl (Nat.le_of_ble_eq_true rfl) (Nat.le_of_ble_eq_true rfl) ⟨Nat.le_refl _, Nat.le_refl _⟩ rfl (w.mono (fun r2 σ1 w => ?_))
  show XX g true (d + 1) P_X12_place 10 [(2, 88), (0, x1), (0, x2), (0, x3), (0, x4)] [(0, r2)] 136 σ1 136 Q
  refine E_if_eq 13 35 dX12_place_10 rfl rfl (fun h => ?_) (fun h => ?_)
  · have w := w.1 h
    refine E_iconst 36 dX12_place_35 (by decide) rfl ?_
    exact E_zret dX12_place_36 rfl rfl (Or.inl rfl) w
  · have w := w.2 h
    refine E_aload_n 14 dX12_place_13 rfl (ac_88.bnd) rfl ?_
    refine E_iload_n 15 dX12_place_14 rfl rfl ?_
    refine E_iconst 16 dX12_place_15 (by decide) rfl ?_
    refine E_iconst 17 dX12_place_16 (by decide) rfl ?_
    refine E_callV (as := [(0, x2), (0, 0), (0, 5)]) 20 dX12_place_17 cf_X12_isIn mw_1363 mw_1365 mw_39 ac_88 (by decide) cl_X12 rfl rfl (Nat.le_of_ble_eq_true rfl) (Nat.le_of_ble_eq_true rfl) ⟨Nat.le_refl _, Nat.le_refl _⟩ rfl (w.mono (fun r4 σ3 w => ?_))
    show XX g true (d + 1) P_X12_place 20 [(2, 88), (0, x1), (0, x2), (0, x3), (0, x4)] [(0, r4)] 136 σ3 136 Q
    refine E_if_eq 23 35 dX12_place_20 rfl rfl (fun h => ?_) (fun h => ?_)
    · have w := w.1 h
      refine E_iconst 36 dX12_place_35 (by decide) rfl ?_
      exact E_zret dX12_place_36 rfl rfl (Or.inl rfl) w
    · have w := w.2 h
      refine E_aload_n 24 dX12_place_23 rfl (ac_88.bnd) rfl ?_
      refine E_iload_n 25 dX12_place_24 rfl rfl ?_
      refine E_iconst 26 dX12_place_25 (by decide) rfl ?_
      refine E_sipush 29 dX12_place_26 (by decide) rfl ?_
      refine E_callV (as := [(0, x3), (0, 0), (0, 999)]) 32 dX12_place_29 cf_X12_isIn mw_1363 mw_1365 mw_39 ac_88 (by decide) cl_X12 rfl rfl (Nat.le_of_ble_eq_true rfl) (Nat.le_of_ble_eq_true rfl) ⟨Nat.le_refl _, Nat.le_refl _⟩ rfl (w.mono (fun r6 σ5 w => ?_))
      show XX g true (d + 1) P_X12_place 32 [(2, 88), (0, x1), (0, x2), (0, x3), (0, x4)] [(0, r6)] 136 σ5 136 Q
      refine E_if_ne 35 37 dX12_place_32 rfl rfl (fun h => ?_) (fun h => ?_)
      · have w := w.1 h
        refine E_aload_n 38 dX12_place_37 rfl (ac_88.bnd) rfl ?_
        refine E_getL 41 dX12_place_38 fl_X12_13 ac_88 rfl (by decide) lay_88_3 rfl ?_
        refine E_iload_n 42 dX12_place_41 rfl rfl ?_
        refine E_iload_n 43 dX12_place_42 rfl rfl ?_
        obtain ⟨c7, w⟩ := w
        refine E_iast 44 dX12_place_43 ac_89 c7 rfl ?_
        refine E_aload_n 45 dX12_place_44 rfl (ac_88.bnd) rfl ?_
        refine E_getL 48 dX12_place_45 fl_X12_17 ac_88 rfl (by decide) lay_88_4 rfl ?_
        refine E_iload_n 49 dX12_place_48 rfl rfl ?_
        refine E_iload_n 50 dX12_place_49 rfl rfl ?_
        refine E_iast 51 dX12_place_50 ac_90 c7 rfl ?_
        refine E_aload_n 52 dX12_place_51 rfl (ac_88.bnd) rfl ?_
        refine E_getL 55 dX12_place_52 fl_X12_20 ac_88 rfl (by decide) lay_88_5 rfl ?_
        refine E_iload_n 56 dX12_place_55 rfl rfl ?_
        refine E_iload 58 dX12_place_56 rfl rfl ?_
        refine E_if_eq 61 65 dX12_place_58 rfl rfl (fun h => ?_) (fun h => ?_)
        · have w := w.1 h
          refine E_iconst 66 dX12_place_65 (by decide) rfl ?_
          refine E_iast 67 dX12_place_66 ac_91 c7 rfl ?_
          refine E_iconst 68 dX12_place_67 (by decide) rfl ?_
          exact E_zret dX12_place_68 rfl rfl (Or.inr rfl) w
        · have w := w.2 h
          refine E_iconst 62 dX12_place_61 (by decide) rfl ?_
          refine E_goto 66 dX12_place_62 rfl ?_
          refine E_iast 67 dX12_place_66 ac_91 c7 rfl ?_
          refine E_iconst 68 dX12_place_67 (by decide) rfl ?_
          exact E_zret dX12_place_68 rfl rfl (Or.inr rfl) w
      · have w := w.2 h
        refine E_iconst 36 dX12_place_35 (by decide) rfl ?_
        exact E_zret dX12_place_36 rfl rfl (Or.inl rfl) w
theorem B_X12_sort_0 {g : PG} {d : Nat} {σ : PS} {Q : Int → PS → Prop} {x1 x2 x3 : Int}  (w : XX g true d P_X12_isIn 0 [(2, 88), (0, x1), (0, 0), (0, 5)] [] 136 (su σ 88 0 0) 136 (fun r2 σ1 => ((r2 = 0 → Q 0 σ1) ∧ (r2 ≠ 0 → XX g true d P_X12_isIn 0 [(2, 88), (0, x2), (0, 0), (0, 1000)] [] 136 σ1 136 (fun r4 σ3 => ((r4 = 0 → Q 0 σ3) ∧ (r4 ≠ 0 → XX g true d P_X12_isIn 0 [(2, 88), (0, x3), (0, 0), (0, 99)] [] 136 σ3 136 (fun r6 σ5 => ((r6 ≠ 0 → (0 ≤ x1 ∧ x1 < 6) ∧ Q 1 (su (su σ5 95 x1 x2) 96 x1 x3)) ∧ (r6 = 0 → Q 0 σ5)))))))))) : XX g true (d + 1) P_X12_sort 0 [(2, 88), (0, x1), (0, x2), (0, x3)] [] 136 σ 136 Q := by
  refine E_aload_n 1 dX12_sort_0 rfl (ac_88.bnd) rfl ?_
  refine E_iconst 2 dX12_sort_1 (by decide) rfl ?_
  refine E_putI 0 5 dX12_sort_2 fl_X12_166 ac_88 rfl (by decide) (Or.inl rfl) rfl rfl ?_
  refine E_aload_n 6 dX12_sort_5 rfl (ac_88.bnd) rfl ?_
  refine E_iload_n 7 dX12_sort_6 rfl rfl ?_
  refine E_iconst 8 dX12_sort_7 (by decide) rfl ?_
  refine E_iconst 9 dX12_sort_8 (by decide) rfl ?_
  refine E_callV (as := [(0, x1), (0, 0), (0, 5)]) 12 dX12_sort_9 cf_X12_isIn mw_1363 mw_1365 mw_39 ac_88 (by decide) cl_X12 rfl rfl (Nat.le_of_ble_eq_true rfl) (Nat.le_of_ble_eq_true rfl) ⟨Nat.le_refl _, Nat.le_refl _⟩ rfl (w.mono (fun r2 σ1 w => ?_))
  show XX g true (d + 1) P_X12_sort 12 [(2, 88), (0, x1), (0, x2), (0, x3)] [(0, r2)] 136 σ1 136 Q
  refine E_if_eq 15 38 dX12_sort_12 rfl rfl (fun h => ?_) (fun h => ?_)
  · have w := w.1 h
    refine E_iconst 39 dX12_sort_38 (by decide) rfl ?_
    exact E_zret dX12_sort_39 rfl rfl (Or.inl rfl) w
  · have w := w.2 h
    refine E_aload_n 16 dX12_sort_15 rfl (ac_88.bnd) rfl ?_
    refine E_iload_n 17 dX12_sort_16 rfl rfl ?_
    refine E_iconst 18 dX12_sort_17 (by decide) rfl ?_
    refine E_sipush 21 dX12_sort_18 (by decide) rfl ?_
    refine E_callV (as := [(0, x2), (0, 0), (0, 1000)]) 24 dX12_sort_21 cf_X12_isIn mw_1363 mw_1365 mw_39 ac_88 (by decide) cl_X12 rfl rfl (Nat.le_of_ble_eq_true rfl) (Nat.le_of_ble_eq_true rfl) ⟨Nat.le_refl _, Nat.le_refl _⟩ rfl (w.mono (fun r4 σ3 w => ?_))
    show XX g true (d + 1) P_X12_sort 24 [(2, 88), (0, x1), (0, x2), (0, x3)] [(0, r4)] 136 σ3 136 Q
    refine E_if_eq 27 38 dX12_sort_24 rfl rfl (fun h => ?_) (fun h => ?_)
    · have w := w.1 h
      refine E_iconst 39 dX12_sort_38 (by decide) rfl ?_
      exact E_zret dX12_sort_39 rfl rfl (Or.inl rfl) w
    · have w := w.2 h
      refine E_aload_n 28 dX12_sort_27 rfl (ac_88.bnd) rfl ?_
      refine E_iload_n 29 dX12_sort_28 rfl rfl ?_
      refine E_iconst 30 dX12_sort_29 (by decide) rfl ?_
      refine E_bipush 32 dX12_sort_30 (by decide) rfl ?_
      refine E_callV (as := [(0, x3), (0, 0), (0, 99)]) 35 dX12_sort_32 cf_X12_isIn mw_1363 mw_1365 mw_39 ac_88 (by decide) cl_X12 rfl rfl (Nat.le_of_ble_eq_true rfl) (Nat.le_of_ble_eq_true rfl) ⟨Nat.le_refl _, Nat.le_refl _⟩ rfl (w.mono (fun r6 σ5 w => ?_))
      show XX g true (d + 1) P_X12_sort 35 [(2, 88), (0, x1), (0, x2), (0, x3)] [(0, r6)] 136 σ5 136 Q
      refine E_if_ne 38 40 dX12_sort_35 rfl rfl (fun h => ?_) (fun h => ?_)
      · have w := w.1 h
        refine E_aload_n 41 dX12_sort_40 rfl (ac_88.bnd) rfl ?_
        refine E_getL 44 dX12_sort_41 fl_X12_32 ac_88 rfl (by decide) lay_88_9 rfl ?_
        refine E_iload_n 45 dX12_sort_44 rfl rfl ?_
        refine E_iload_n 46 dX12_sort_45 rfl rfl ?_
        obtain ⟨c7, w⟩ := w
        refine E_iast 47 dX12_sort_46 ac_95 c7 rfl ?_
        refine E_aload_n 48 dX12_sort_47 rfl (ac_88.bnd) rfl ?_
        refine E_getL 51 dX12_sort_48 fl_X12_35 ac_88 rfl (by decide) lay_88_10 rfl ?_
        refine E_iload_n 52 dX12_sort_51 rfl rfl ?_
        refine E_iload_n 53 dX12_sort_52 rfl rfl ?_
        refine E_iast 54 dX12_sort_53 ac_96 c7 rfl ?_
        refine E_iconst 55 dX12_sort_54 (by decide) rfl ?_
        exact E_zret dX12_sort_55 rfl rfl (Or.inr rfl) w
      · have w := w.2 h
        refine E_iconst 39 dX12_sort_38 (by decide) rfl ?_
        exact E_zret dX12_sort_39 rfl rfl (Or.inl rfl) w
theorem B_X12_leastOf_0 {g : PG} {d : Nat} {σ : PS} {Q : Int → PS → Prop} {x1 : Int}  (w : ((x1 = 1 → Q 1 σ) ∧ (x1 ≠ 1 → ((x1 ≠ 3 → Q 0 σ) ∧ (x1 = 3 → Q 1 σ))))) : XX g true d P_X12_leastOf 0 [(2, 88), (0, x1)] [] 136 σ 136 Q := by
  refine E_iload_n 1 dX12_leastOf_0 rfl rfl ?_
  refine E_iconst 2 dX12_leastOf_1 (by decide) rfl ?_
  refine E_icmp_eq 5 10 dX12_leastOf_2 rfl rfl (fun h => ?_) (fun h => ?_)
  · have w := w.1 h
    refine E_iconst 11 dX12_leastOf_10 (by decide) rfl ?_
    refine E_goto 15 dX12_leastOf_11 rfl ?_
    exact E_iret dX12_leastOf_15 rfl rfl w
  · have w := w.2 h
    refine E_iload_n 6 dX12_leastOf_5 rfl rfl ?_
    refine E_iconst 7 dX12_leastOf_6 (by decide) rfl ?_
    refine E_icmp_ne 10 14 dX12_leastOf_7 rfl rfl (fun h => ?_) (fun h => ?_)
    · have w := w.1 h
      refine E_iconst 15 dX12_leastOf_14 (by decide) rfl ?_
      exact E_iret dX12_leastOf_15 rfl rfl w
    · have w := w.2 h
      refine E_iconst 11 dX12_leastOf_10 (by decide) rfl ?_
      refine E_goto 15 dX12_leastOf_11 rfl ?_
      exact E_iret dX12_leastOf_15 rfl rfl w
theorem B_X12_mostOf_0 {g : PG} {d : Nat} {σ : PS} {Q : Int → PS → Prop} {x1 : Int}  (w : ((x1 ≠ 1 → ((x1 ≠ 2 → ((x1 ≠ 5 → ((x1 < 6 → Q 99 σ) ∧ (6 ≤ x1 → Q 999 σ))) ∧ (x1 = 5 → Q 9999 σ))) ∧ (x1 = 2 → Q 20 σ))) ∧ (x1 = 1 → Q 9 σ))) : XX g true d P_X12_mostOf 0 [(2, 88), (0, x1)] [] 136 σ 136 Q := by
  refine E_iload_n 1 dX12_mostOf_0 rfl rfl ?_
  refine E_iconst 2 dX12_mostOf_1 (by decide) rfl ?_
  refine E_icmp_ne 5 8 dX12_mostOf_2 rfl rfl (fun h => ?_) (fun h => ?_)
  · have w := w.1 h
    refine E_iload_n 9 dX12_mostOf_8 rfl rfl ?_
    refine E_iconst 10 dX12_mostOf_9 (by decide) rfl ?_
    refine E_icmp_ne 13 16 dX12_mostOf_10 rfl rfl (fun h => ?_) (fun h => ?_)
    · have w := w.1 h
      refine E_iload_n 17 dX12_mostOf_16 rfl rfl ?_
      refine E_iconst 18 dX12_mostOf_17 (by decide) rfl ?_
      refine E_icmp_ne 21 25 dX12_mostOf_18 rfl rfl (fun h => ?_) (fun h => ?_)
      · have w := w.1 h
        refine E_iload_n 26 dX12_mostOf_25 rfl rfl ?_
        refine E_bipush 28 dX12_mostOf_26 (by decide) rfl ?_
        refine E_icmp_lt 31 37 dX12_mostOf_28 rfl rfl (fun h => ?_) (fun h => ?_)
        · have w := w.1 h
          refine E_bipush 39 dX12_mostOf_37 (by decide) rfl ?_
          exact E_iret dX12_mostOf_39 rfl rfl w
        · have w := w.2 h
          refine E_sipush 34 dX12_mostOf_31 (by decide) rfl ?_
          refine E_goto 39 dX12_mostOf_34 rfl ?_
          exact E_iret dX12_mostOf_39 rfl rfl w
      · have w := w.2 h
        refine E_sipush 24 dX12_mostOf_21 (by decide) rfl ?_
        exact E_iret dX12_mostOf_24 rfl rfl w
    · have w := w.2 h
      refine E_bipush 15 dX12_mostOf_13 (by decide) rfl ?_
      exact E_iret dX12_mostOf_15 rfl rfl w
  · have w := w.2 h
    refine E_bipush 7 dX12_mostOf_5 (by decide) rfl ?_
    exact E_iret dX12_mostOf_7 rfl rfl w
theorem B_X12_set_0 {g : PG} {d : Nat} {σ : PS} {Q : Int → PS → Prop} {x1 x2 : Int}  (w : XX g true d P_X12_isIn 0 [(2, 88), (0, x1), (0, 0), (0, 7)] [] 136 (su σ 88 0 0) 136 (fun r2 σ1 => ((r2 = 0 → Q 0 σ1) ∧ (r2 ≠ 0 → XX g true d P_X12_leastOf 0 [(2, 88), (0, x1)] [] 136 σ1 136 (fun r4 σ3 => XX g true d P_X12_mostOf 0 [(2, 88), (0, x1)] [] 136 σ3 136 (fun r6 σ5 => XX g true d P_X12_isIn 0 [(2, 88), (0, x2), (0, r4), (0, r6)] [] 136 σ5 136 (fun r8 σ7 => ((r8 ≠ 0 → (0 ≤ x1 ∧ x1 < 8) ∧ Q 1 (su σ7 97 x1 x2)) ∧ (r8 = 0 → Q 0 σ7))))))))) : XX g true (d + 1) P_X12_set 0 [(2, 88), (0, x1), (0, x2)] [] 136 σ 136 Q := by
  refine E_aload_n 1 dX12_set_0 rfl (ac_88.bnd) rfl ?_
  refine E_iconst 2 dX12_set_1 (by decide) rfl ?_
  refine E_putI 0 5 dX12_set_2 fl_X12_166 ac_88 rfl (by decide) (Or.inl rfl) rfl rfl ?_
  refine E_aload_n 6 dX12_set_5 rfl (ac_88.bnd) rfl ?_
  refine E_iload_n 7 dX12_set_6 rfl rfl ?_
  refine E_iconst 8 dX12_set_7 (by decide) rfl ?_
  refine E_bipush 10 dX12_set_8 (by decide) rfl ?_
  refine E_callV (as := [(0, x1), (0, 0), (0, 7)]) 13 dX12_set_10 cf_X12_isIn mw_1363 mw_1365 mw_39 ac_88 (by decide) cl_X12 rfl rfl (Nat.le_of_ble_eq_true rfl) (Nat.le_of_ble_eq_true rfl) ⟨Nat.le_refl _, Nat.le_refl _⟩ rfl (w.mono (fun r2 σ1 w => ?_))
  show XX g true (d + 1) P_X12_set 13 [(2, 88), (0, x1), (0, x2)] [(0, r2)] 136 σ1 136 Q
  refine E_if_eq 16 34 dX12_set_13 rfl rfl (fun h => ?_) (fun h => ?_)
  · have w := w.1 h
    refine E_iconst 35 dX12_set_34 (by decide) rfl ?_
    exact E_zret dX12_set_35 rfl rfl (Or.inl rfl) w
  · have w := w.2 h
    refine E_aload_n 17 dX12_set_16 rfl (ac_88.bnd) rfl ?_
    refine E_iload_n 18 dX12_set_17 rfl rfl ?_
    refine E_aload_n 19 dX12_set_18 rfl (ac_88.bnd) rfl ?_
    refine E_iload_n 20 dX12_set_19 rfl rfl ?_
    refine E_callV (as := [(0, x1)]) 23 dX12_set_20 cf_X12_leastOf mw_1383 mw_1385 mw_41 ac_88 (by decide) cl_X12 rfl rfl (Nat.le_of_ble_eq_true rfl) (Nat.le_of_ble_eq_true rfl) ⟨Nat.le_refl _, Nat.le_refl _⟩ rfl (w.mono (fun r4 σ3 w => ?_))
    show XX g true (d + 1) P_X12_set 23 [(2, 88), (0, x1), (0, x2)] [(0, r4), (0, x2), (2, 88)] 136 σ3 136 Q
    refine E_aload_n 24 dX12_set_23 rfl (ac_88.bnd) rfl ?_
    refine E_iload_n 25 dX12_set_24 rfl rfl ?_
    refine E_callV (as := [(0, x1)]) 28 dX12_set_25 cf_X12_mostOf mw_1387 mw_1389 mw_42 ac_88 (by decide) cl_X12 rfl rfl (Nat.le_of_ble_eq_true rfl) (Nat.le_of_ble_eq_true rfl) ⟨Nat.le_refl _, Nat.le_refl _⟩ rfl (w.mono (fun r6 σ5 w => ?_))
    show XX g true (d + 1) P_X12_set 28 [(2, 88), (0, x1), (0, x2)] [(0, r6), (0, r4), (0, x2), (2, 88)] 136 σ5 136 Q
    refine E_callV (as := [(0, x2), (0, r4), (0, r6)]) 31 dX12_set_28 cf_X12_isIn mw_1363 mw_1365 mw_39 ac_88 (by decide) cl_X12 rfl rfl (Nat.le_of_ble_eq_true rfl) (Nat.le_of_ble_eq_true rfl) ⟨Nat.le_refl _, Nat.le_refl _⟩ rfl (w.mono (fun r8 σ7 w => ?_))
    show XX g true (d + 1) P_X12_set 31 [(2, 88), (0, x1), (0, x2)] [(0, r8)] 136 σ7 136 Q
    refine E_if_ne 34 36 dX12_set_31 rfl rfl (fun h => ?_) (fun h => ?_)
    · have w := w.1 h
      refine E_aload_n 37 dX12_set_36 rfl (ac_88.bnd) rfl ?_
      refine E_getL 40 dX12_set_37 fl_X12_38 ac_88 rfl (by decide) lay_88_11 rfl ?_
      refine E_iload_n 41 dX12_set_40 rfl rfl ?_
      refine E_iload_n 42 dX12_set_41 rfl rfl ?_
      obtain ⟨c9, w⟩ := w
      refine E_iast 43 dX12_set_42 ac_97 c9 rfl ?_
      refine E_iconst 44 dX12_set_43 (by decide) rfl ?_
      exact E_zret dX12_set_44 rfl rfl (Or.inr rfl) w
    · have w := w.2 h
      refine E_iconst 35 dX12_set_34 (by decide) rfl ?_
      exact E_zret dX12_set_35 rfl rfl (Or.inl rfl) w
theorem B_X12_puts_0 {g : PG} {d : Nat} {σ : PS} {Q : Int → PS → Prop} {x1 : Int}  (w : (XX g true d P_X12_puts 3 [(2, 88), (0, x1), (0, 24)] [] 136 σ 136 Q)) : XX g true d P_X12_puts 0 [(2, 88), (0, x1), (9, 0)] [] 136 σ 136 Q := by
  refine E_bipush 2 dX12_puts_0 (by decide) rfl ?_
  refine E_istore_n (ls' := [(2, 88), (0, x1), (0, 24)]) 3 dX12_puts_2 (by decide) rfl rfl ?_
  with_reducible exact w
theorem B_X12_puts_3 {g : PG} {d : Nat} {σ : PS} {Q : Int → PS → Prop} {x1 x2 : Int}  (w : ((x2 < 0 → Q 0 σ) ∧ (0 ≤ x2 → (0 ≤ σ 88 19 ∧ σ 88 19 < 500) ∧ (XX g true d P_X12_puts 3 [(2, 88), (0, x1), (0, w32 (x2 + (-8)))] [] 136 (su (su σ 98 (σ 88 19) (iand (ishr x1 x2) 255)) 88 19 (w32 ((σ 88 19) + 1))) 136 Q)))) : XX g true d P_X12_puts 3 [(2, 88), (0, x1), (0, x2)] [] 136 σ 136 Q := by
  refine E_iload_n 4 dX12_puts_3 rfl rfl ?_
  refine E_if_lt 7 39 dX12_puts_4 rfl rfl (fun h => ?_) (fun h => ?_)
  · have w := w.1 h
    exact E_vret dX12_puts_39 rfl rfl w
  · have w := w.2 h
    refine E_aload_n 8 dX12_puts_7 rfl (ac_88.bnd) rfl ?_
    refine E_getL 11 dX12_puts_8 fl_X12_44 ac_88 rfl (by decide) lay_88_18 rfl ?_
    refine E_aload_n 12 dX12_puts_11 rfl (ac_88.bnd) rfl ?_
    refine E_get 19 15 dX12_puts_12 fl_X12_192 ac_88 rfl (by decide) rfl rfl ?_
    refine E_iload_n 16 dX12_puts_15 rfl rfl ?_
    refine E_iload_n 17 dX12_puts_16 rfl rfl ?_
    refine E_ishr 18 dX12_puts_17 rfl ?_
    refine E_sipush 21 dX12_puts_18 (by decide) rfl ?_
    refine E_iand 22 dX12_puts_21 rfl ?_
    obtain ⟨c1, w⟩ := w
    refine E_iast 23 dX12_puts_22 ac_98 c1 rfl ?_
    refine E_aload_n 24 dX12_puts_23 rfl (ac_88.bnd) rfl ?_
    refine E_aload_n 25 dX12_puts_24 rfl (ac_88.bnd) rfl ?_
    refine E_get 19 28 dX12_puts_25 fl_X12_192 ac_88 rfl (by decide) rfl rfl ?_
    refine E_conv (su_ne (Or.inl (by decide))) ?_
    refine E_iconst 29 dX12_puts_28 (by decide) rfl ?_
    refine E_iadd 30 dX12_puts_29 rfl ?_
    refine E_putI 19 33 dX12_puts_30 fl_X12_192 ac_88 rfl (by decide) (Or.inl rfl) rfl rfl ?_
    refine E_iinc (ls' := [(2, 88), (0, x1), (0, w32 (x2 + (-8)))]) 36 dX12_puts_33 (by decide) rfl rfl rfl ?_
    refine E_goto 3 dX12_puts_36 rfl ?_
    with_reducible exact w
theorem B_X12_feed_0 {g : PG} {d : Nat} {σ : PS} {Q : Int → PS → Prop} {x1 x2 x3 x4 x5 : Int}  (w : ((σ 88 19 ≤ 480 → XX g true d P_X12_puts 0 [(2, 88), (0, x1), (9, 0)] [] 136 (su σ 88 0 0) 136 (fun _ σ1 => XX g true d P_X12_puts 0 [(2, 88), (0, x2), (9, 0)] [] 136 σ1 136 (fun _ σ3 => XX g true d P_X12_puts 0 [(2, 88), (0, x3), (9, 0)] [] 136 σ3 136 (fun _ σ5 => XX g true d P_X12_puts 0 [(2, 88), (0, x4), (9, 0)] [] 136 σ5 136 (fun _ σ7 => XX g true d P_X12_puts 0 [(2, 88), (0, x5), (9, 0)] [] 136 σ7 136 (fun _ σ9 => Q (σ9 88 19) σ9)))))) ∧ (480 < σ 88 19 → Q (-1) (su σ 88 0 0)))) : XX g true (d + 1) P_X12_feed 0 [(2, 88), (0, x1), (0, x2), (0, x3), (0, x4), (0, x5)] [] 136 σ 136 Q := by
  refine E_aload_n 1 dX12_feed_0 rfl (ac_88.bnd) rfl ?_
  refine E_iconst 2 dX12_feed_1 (by decide) rfl ?_
  refine E_putI 0 5 dX12_feed_2 fl_X12_166 ac_88 rfl (by decide) (Or.inl rfl) rfl rfl ?_
  refine E_aload_n 6 dX12_feed_5 rfl (ac_88.bnd) rfl ?_
  refine E_get 19 9 dX12_feed_6 fl_X12_192 ac_88 rfl (by decide) rfl rfl ?_
  refine E_conv (su_ne (Or.inr (by decide))) ?_
  refine E_sipush 12 dX12_feed_9 (by decide) rfl ?_
  refine E_icmp_le 15 17 dX12_feed_12 rfl rfl (fun h => ?_) (fun h => ?_)
  · have w := w.1 h
    refine E_aload_n 18 dX12_feed_17 rfl (ac_88.bnd) rfl ?_
    refine E_iload_n 19 dX12_feed_18 rfl rfl ?_
    refine E_callV (as := [(0, x1)]) 22 dX12_feed_19 cf_X12_puts mw_1395 mw_1397 mw_43 ac_88 (by decide) cl_X12 rfl rfl (Nat.le_of_ble_eq_true rfl) (Nat.le_of_ble_eq_true rfl) ⟨Nat.le_refl _, Nat.le_refl _⟩ rfl (w.mono (fun r2 σ1 w => ?_))
    show XX g true (d + 1) P_X12_feed 22 [(2, 88), (0, x1), (0, x2), (0, x3), (0, x4), (0, x5)] [] 136 σ1 136 Q
    refine E_aload_n 23 dX12_feed_22 rfl (ac_88.bnd) rfl ?_
    refine E_iload_n 24 dX12_feed_23 rfl rfl ?_
    refine E_callV (as := [(0, x2)]) 27 dX12_feed_24 cf_X12_puts mw_1395 mw_1397 mw_43 ac_88 (by decide) cl_X12 rfl rfl (Nat.le_of_ble_eq_true rfl) (Nat.le_of_ble_eq_true rfl) ⟨Nat.le_refl _, Nat.le_refl _⟩ rfl (w.mono (fun r4 σ3 w => ?_))
    show XX g true (d + 1) P_X12_feed 27 [(2, 88), (0, x1), (0, x2), (0, x3), (0, x4), (0, x5)] [] 136 σ3 136 Q
    refine E_aload_n 28 dX12_feed_27 rfl (ac_88.bnd) rfl ?_
    refine E_iload_n 29 dX12_feed_28 rfl rfl ?_
    refine E_callV (as := [(0, x3)]) 32 dX12_feed_29 cf_X12_puts mw_1395 mw_1397 mw_43 ac_88 (by decide) cl_X12 rfl rfl (Nat.le_of_ble_eq_true rfl) (Nat.le_of_ble_eq_true rfl) ⟨Nat.le_refl _, Nat.le_refl _⟩ rfl (w.mono (fun r6 σ5 w => ?_))
    show XX g true (d + 1) P_X12_feed 32 [(2, 88), (0, x1), (0, x2), (0, x3), (0, x4), (0, x5)] [] 136 σ5 136 Q
    refine E_aload_n 33 dX12_feed_32 rfl (ac_88.bnd) rfl ?_
    refine E_iload 35 dX12_feed_33 rfl rfl ?_
    refine E_callV (as := [(0, x4)]) 38 dX12_feed_35 cf_X12_puts mw_1395 mw_1397 mw_43 ac_88 (by decide) cl_X12 rfl rfl (Nat.le_of_ble_eq_true rfl) (Nat.le_of_ble_eq_true rfl) ⟨Nat.le_refl _, Nat.le_refl _⟩ rfl (w.mono (fun r8 σ7 w => ?_))
    show XX g true (d + 1) P_X12_feed 38 [(2, 88), (0, x1), (0, x2), (0, x3), (0, x4), (0, x5)] [] 136 σ7 136 Q
    refine E_aload_n 39 dX12_feed_38 rfl (ac_88.bnd) rfl ?_
    refine E_iload 41 dX12_feed_39 rfl rfl ?_
    refine E_callV (as := [(0, x5)]) 44 dX12_feed_41 cf_X12_puts mw_1395 mw_1397 mw_43 ac_88 (by decide) cl_X12 rfl rfl (Nat.le_of_ble_eq_true rfl) (Nat.le_of_ble_eq_true rfl) ⟨Nat.le_refl _, Nat.le_refl _⟩ rfl (w.mono (fun r10 σ9 w => ?_))
    show XX g true (d + 1) P_X12_feed 44 [(2, 88), (0, x1), (0, x2), (0, x3), (0, x4), (0, x5)] [] 136 σ9 136 Q
    refine E_aload_n 45 dX12_feed_44 rfl (ac_88.bnd) rfl ?_
    refine E_get 19 48 dX12_feed_45 fl_X12_192 ac_88 rfl (by decide) rfl rfl ?_
    exact E_iret dX12_feed_48 rfl rfl w
  · have w := w.2 h
    refine E_iconst 16 dX12_feed_15 (by decide) rfl ?_
    exact E_iret dX12_feed_16 rfl rfl w
theorem B_X12_end_0 {g : PG} {d : Nat} {σ : PS} {Q : Int → PS → Prop} {x1 : Int}  (w : XX g true d P_X12_isIn 0 [(2, 88), (0, x1), (0, 0), (0, σ 88 19)] [] 136 (su σ 88 0 0) 136 (fun r2 σ1 => ((r2 ≠ 0 → Q 1 (su σ1 88 19 x1)) ∧ (r2 = 0 → Q 0 σ1)))) : XX g true (d + 1) P_X12_end 0 [(2, 88), (0, x1)] [] 136 σ 136 Q := by
  refine E_aload_n 1 dX12_end_0 rfl (ac_88.bnd) rfl ?_
  refine E_iconst 2 dX12_end_1 (by decide) rfl ?_
  refine E_putI 0 5 dX12_end_2 fl_X12_166 ac_88 rfl (by decide) (Or.inl rfl) rfl rfl ?_
  refine E_aload_n 6 dX12_end_5 rfl (ac_88.bnd) rfl ?_
  refine E_iload_n 7 dX12_end_6 rfl rfl ?_
  refine E_iconst 8 dX12_end_7 (by decide) rfl ?_
  refine E_aload_n 9 dX12_end_8 rfl (ac_88.bnd) rfl ?_
  refine E_get 19 12 dX12_end_9 fl_X12_192 ac_88 rfl (by decide) rfl rfl ?_
  refine E_conv (su_ne (Or.inr (by decide))) ?_
  refine E_callV (as := [(0, x1), (0, 0), (0, σ 88 19)]) 15 dX12_end_12 cf_X12_isIn mw_1363 mw_1365 mw_39 ac_88 (by decide) cl_X12 rfl rfl (Nat.le_of_ble_eq_true rfl) (Nat.le_of_ble_eq_true rfl) ⟨Nat.le_refl _, Nat.le_refl _⟩ rfl (w.mono (fun r2 σ1 w => ?_))
  show XX g true (d + 1) P_X12_end 15 [(2, 88), (0, x1)] [(0, r2)] 136 σ1 136 Q
  refine E_if_ne 18 20 dX12_end_15 rfl rfl (fun h => ?_) (fun h => ?_)
  · have w := w.1 h
    refine E_aload_n 21 dX12_end_20 rfl (ac_88.bnd) rfl ?_
    refine E_iload_n 22 dX12_end_21 rfl rfl ?_
    refine E_putI 19 25 dX12_end_22 fl_X12_192 ac_88 rfl (by decide) (Or.inl rfl) rfl rfl ?_
    refine E_iconst 26 dX12_end_25 (by decide) rfl ?_
    exact E_zret dX12_end_26 rfl rfl (Or.inr rfl) w
  · have w := w.2 h
    refine E_iconst 19 dX12_end_18 (by decide) rfl ?_
    exact E_zret dX12_end_19 rfl rfl (Or.inl rfl) w
theorem B_X12_raw_0 {g : PG} {d : Nat} {σ : PS} {Q : Int → PS → Prop} {x1 : Int}  (w : ((σ 88 19 ≤ x1 → Q (-1) σ) ∧ (x1 < σ 88 19 → (0 ≤ x1 ∧ x1 < 500) ∧ Q (σ 98 x1) σ))) : XX g true d P_X12_raw 0 [(2, 88), (0, x1)] [] 136 σ 136 Q := by
  refine E_iload_n 1 dX12_raw_0 rfl rfl ?_
  refine E_aload_n 2 dX12_raw_1 rfl (ac_88.bnd) rfl ?_
  refine E_get 19 5 dX12_raw_2 fl_X12_192 ac_88 rfl (by decide) rfl rfl ?_
  refine E_icmp_ge 8 17 dX12_raw_5 rfl rfl (fun h => ?_) (fun h => ?_)
  · have w := w.1 h
    refine E_iconst 18 dX12_raw_17 (by decide) rfl ?_
    exact E_iret dX12_raw_18 rfl rfl w
  · have w := w.2 h
    refine E_aload_n 9 dX12_raw_8 rfl (ac_88.bnd) rfl ?_
    refine E_getL 12 dX12_raw_9 fl_X12_44 ac_88 rfl (by decide) lay_88_18 rfl ?_
    refine E_iload_n 13 dX12_raw_12 rfl rfl ?_
    obtain ⟨c1, w⟩ := w
    refine E_iald 14 dX12_raw_13 ac_98 c1 rfl ?_
    refine E_goto 18 dX12_raw_14 rfl ?_
    exact E_iret dX12_raw_18 rfl rfl w
theorem B_X12_isLetter_0 {g : PG} {d : Nat} {σ : PS} {Q : Int → PS → Prop} {x1 : Int}  (w : XX g true d P_X12_isIn 0 [(2, 88), (0, x1), (0, 97), (0, 122)] [] 136 σ 136 (fun r2 σ1 => ((r2 ≠ 0 → Q 1 σ1) ∧ (r2 = 0 → XX g true d P_X12_isIn 0 [(2, 88), (0, x1), (0, 65), (0, 90)] [] 136 σ1 136 (fun r4 σ3 => ((r4 = 0 → Q 0 σ3) ∧ (r4 ≠ 0 → Q 1 σ3))))))) : XX g true (d + 1) P_X12_isLetter 0 [(2, 88), (0, x1)] [] 136 σ 136 Q := by
  refine E_aload_n 1 dX12_isLetter_0 rfl (ac_88.bnd) rfl ?_
  refine E_iload_n 2 dX12_isLetter_1 rfl rfl ?_
  refine E_bipush 4 dX12_isLetter_2 (by decide) rfl ?_
  refine E_bipush 6 dX12_isLetter_4 (by decide) rfl ?_
  refine E_callV (as := [(0, x1), (0, 97), (0, 122)]) 9 dX12_isLetter_6 cf_X12_isIn mw_1363 mw_1365 mw_39 ac_88 (by decide) cl_X12 rfl rfl (Nat.le_of_ble_eq_true rfl) (Nat.le_of_ble_eq_true rfl) ⟨Nat.le_refl _, Nat.le_refl _⟩ rfl (w.mono (fun r2 σ1 w => ?_))
  show XX g true (d + 1) P_X12_isLetter 9 [(2, 88), (0, x1)] [(0, r2)] 136 σ1 136 Q
  refine E_if_ne 12 24 dX12_isLetter_9 rfl rfl (fun h => ?_) (fun h => ?_)
  · have w := w.1 h
    refine E_iconst 25 dX12_isLetter_24 (by decide) rfl ?_
    refine E_goto 29 dX12_isLetter_25 rfl ?_
    exact E_zret dX12_isLetter_29 rfl rfl (Or.inr rfl) w
  · have w := w.2 h
    refine E_aload_n 13 dX12_isLetter_12 rfl (ac_88.bnd) rfl ?_
    refine E_iload_n 14 dX12_isLetter_13 rfl rfl ?_
    refine E_bipush 16 dX12_isLetter_14 (by decide) rfl ?_
    refine E_bipush 18 dX12_isLetter_16 (by decide) rfl ?_
    refine E_callV (as := [(0, x1), (0, 65), (0, 90)]) 21 dX12_isLetter_18 cf_X12_isIn mw_1363 mw_1365 mw_39 ac_88 (by decide) cl_X12 rfl rfl (Nat.le_of_ble_eq_true rfl) (Nat.le_of_ble_eq_true rfl) ⟨Nat.le_refl _, Nat.le_refl _⟩ rfl (w.mono (fun r4 σ3 w => ?_))
    show XX g true (d + 1) P_X12_isLetter 21 [(2, 88), (0, x1)] [(0, r4)] 136 σ3 136 Q
    refine E_if_eq 24 28 dX12_isLetter_21 rfl rfl (fun h => ?_) (fun h => ?_)
    · have w := w.1 h
      refine E_iconst 29 dX12_isLetter_28 (by decide) rfl ?_
      exact E_zret dX12_isLetter_29 rfl rfl (Or.inl rfl) w
    · have w := w.2 h
      refine E_iconst 25 dX12_isLetter_24 (by decide) rfl ?_
      refine E_goto 29 dX12_isLetter_25 rfl ?_
      exact E_zret dX12_isLetter_29 rfl rfl (Or.inr rfl) w
theorem B_X12_isDigit_0 {g : PG} {d : Nat} {σ : PS} {Q : Int → PS → Prop} {x1 : Int}  (w : XX g true d P_X12_isIn 0 [(2, 88), (0, x1), (0, 48), (0, 57)] [] 136 σ 136 (fun r2 σ1 => (r2 = 0 ∨ r2 = 1) ∧ Q r2 σ1)) : XX g true (d + 1) P_X12_isDigit 0 [(2, 88), (0, x1)] [] 136 σ 136 Q := by
  refine E_aload_n 1 dX12_isDigit_0 rfl (ac_88.bnd) rfl ?_
  refine E_iload_n 2 dX12_isDigit_1 rfl rfl ?_
  refine E_bipush 4 dX12_isDigit_2 (by decide) rfl ?_
  refine E_bipush 6 dX12_isDigit_4 (by decide) rfl ?_
  refine E_callV (as := [(0, x1), (0, 48), (0, 57)]) 9 dX12_isDigit_6 cf_X12_isIn mw_1363 mw_1365 mw_39 ac_88 (by decide) cl_X12 rfl rfl (Nat.le_of_ble_eq_true rfl) (Nat.le_of_ble_eq_true rfl) ⟨Nat.le_refl _, Nat.le_refl _⟩ rfl (w.mono (fun r2 σ1 w => ?_))
  show XX g true (d + 1) P_X12_isDigit 9 [(2, 88), (0, x1)] [(0, r2)] 136 σ1 136 Q
  obtain ⟨c3, w⟩ := w
  exact E_zret dX12_isDigit_9 rfl rfl c3 w
theorem B_X12_isMarkSign_0 {g : PG} {d : Nat} {σ : PS} {Q : Int → PS → Prop} {x1 : Int}  (w : ((x1 = 59 → Q 1 σ) ∧ (x1 ≠ 59 → ((x1 = 43 → Q 1 σ) ∧ (x1 ≠ 43 → ((x1 = 45 → Q 1 σ) ∧ (x1 ≠ 45 → ((x1 = 42 → Q 1 σ) ∧ (x1 ≠ 42 → ((x1 = 47 → Q 1 σ) ∧ (x1 ≠ 47 → ((x1 = 40 → Q 1 σ) ∧ (x1 ≠ 40 → ((x1 = 41 → Q 1 σ) ∧ (x1 ≠ 41 → ((x1 = 60 → Q 1 σ) ∧ (x1 ≠ 60 → ((x1 = 61 → Q 1 σ) ∧ (x1 ≠ 61 → ((x1 ≠ 62 → Q 0 σ) ∧ (x1 = 62 → Q 1 σ))))))))))))))))))))) : XX g true d P_X12_isMarkSign 0 [(2, 88), (0, x1)] [] 136 σ 136 Q := by
  refine E_iload_n 1 dX12_isMarkSign_0 rfl rfl ?_
  refine E_bipush 3 dX12_isMarkSign_1 (by decide) rfl ?_
  refine E_icmp_eq 6 60 dX12_isMarkSign_3 rfl rfl (fun h => ?_) (fun h => ?_)
  · have w := w.1 h
    refine E_iconst 61 dX12_isMarkSign_60 (by decide) rfl ?_
    refine E_goto 65 dX12_isMarkSign_61 rfl ?_
    exact E_zret dX12_isMarkSign_65 rfl rfl (Or.inr rfl) w
  · have w := w.2 h
    refine E_iload_n 7 dX12_isMarkSign_6 rfl rfl ?_
    refine E_bipush 9 dX12_isMarkSign_7 (by decide) rfl ?_
    refine E_icmp_eq 12 60 dX12_isMarkSign_9 rfl rfl (fun h => ?_) (fun h => ?_)
    · have w := w.1 h
      refine E_iconst 61 dX12_isMarkSign_60 (by decide) rfl ?_
      refine E_goto 65 dX12_isMarkSign_61 rfl ?_
      exact E_zret dX12_isMarkSign_65 rfl rfl (Or.inr rfl) w
    · have w := w.2 h
      refine E_iload_n 13 dX12_isMarkSign_12 rfl rfl ?_
      refine E_bipush 15 dX12_isMarkSign_13 (by decide) rfl ?_
      refine E_icmp_eq 18 60 dX12_isMarkSign_15 rfl rfl (fun h => ?_) (fun h => ?_)
      · have w := w.1 h
        refine E_iconst 61 dX12_isMarkSign_60 (by decide) rfl ?_
        refine E_goto 65 dX12_isMarkSign_61 rfl ?_
        exact E_zret dX12_isMarkSign_65 rfl rfl (Or.inr rfl) w
      · have w := w.2 h
        refine E_iload_n 19 dX12_isMarkSign_18 rfl rfl ?_
        refine E_bipush 21 dX12_isMarkSign_19 (by decide) rfl ?_
        refine E_icmp_eq 24 60 dX12_isMarkSign_21 rfl rfl (fun h => ?_) (fun h => ?_)
        · have w := w.1 h
          refine E_iconst 61 dX12_isMarkSign_60 (by decide) rfl ?_
          refine E_goto 65 dX12_isMarkSign_61 rfl ?_
          exact E_zret dX12_isMarkSign_65 rfl rfl (Or.inr rfl) w
        · have w := w.2 h
          refine E_iload_n 25 dX12_isMarkSign_24 rfl rfl ?_
          refine E_bipush 27 dX12_isMarkSign_25 (by decide) rfl ?_
          refine E_icmp_eq 30 60 dX12_isMarkSign_27 rfl rfl (fun h => ?_) (fun h => ?_)
          · have w := w.1 h
            refine E_iconst 61 dX12_isMarkSign_60 (by decide) rfl ?_
            refine E_goto 65 dX12_isMarkSign_61 rfl ?_
            exact E_zret dX12_isMarkSign_65 rfl rfl (Or.inr rfl) w
          · have w := w.2 h
            refine E_iload_n 31 dX12_isMarkSign_30 rfl rfl ?_
            refine E_bipush 33 dX12_isMarkSign_31 (by decide) rfl ?_
            refine E_icmp_eq 36 60 dX12_isMarkSign_33 rfl rfl (fun h => ?_) (fun h => ?_)
            · have w := w.1 h
              refine E_iconst 61 dX12_isMarkSign_60 (by decide) rfl ?_
              refine E_goto 65 dX12_isMarkSign_61 rfl ?_
              exact E_zret dX12_isMarkSign_65 rfl rfl (Or.inr rfl) w
            · have w := w.2 h
              refine E_iload_n 37 dX12_isMarkSign_36 rfl rfl ?_
              refine E_bipush 39 dX12_isMarkSign_37 (by decide) rfl ?_
              refine E_icmp_eq 42 60 dX12_isMarkSign_39 rfl rfl (fun h => ?_) (fun h => ?_)
              · have w := w.1 h
                refine E_iconst 61 dX12_isMarkSign_60 (by decide) rfl ?_
                refine E_goto 65 dX12_isMarkSign_61 rfl ?_
                exact E_zret dX12_isMarkSign_65 rfl rfl (Or.inr rfl) w
              · have w := w.2 h
                refine E_iload_n 43 dX12_isMarkSign_42 rfl rfl ?_
                refine E_bipush 45 dX12_isMarkSign_43 (by decide) rfl ?_
                refine E_icmp_eq 48 60 dX12_isMarkSign_45 rfl rfl (fun h => ?_) (fun h => ?_)
                · have w := w.1 h
                  refine E_iconst 61 dX12_isMarkSign_60 (by decide) rfl ?_
                  refine E_goto 65 dX12_isMarkSign_61 rfl ?_
                  exact E_zret dX12_isMarkSign_65 rfl rfl (Or.inr rfl) w
                · have w := w.2 h
                  refine E_iload_n 49 dX12_isMarkSign_48 rfl rfl ?_
                  refine E_bipush 51 dX12_isMarkSign_49 (by decide) rfl ?_
                  refine E_icmp_eq 54 60 dX12_isMarkSign_51 rfl rfl (fun h => ?_) (fun h => ?_)
                  · have w := w.1 h
                    refine E_iconst 61 dX12_isMarkSign_60 (by decide) rfl ?_
                    refine E_goto 65 dX12_isMarkSign_61 rfl ?_
                    exact E_zret dX12_isMarkSign_65 rfl rfl (Or.inr rfl) w
                  · have w := w.2 h
                    refine E_iload_n 55 dX12_isMarkSign_54 rfl rfl ?_
                    refine E_bipush 57 dX12_isMarkSign_55 (by decide) rfl ?_
                    refine E_icmp_ne 60 64 dX12_isMarkSign_57 rfl rfl (fun h => ?_) (fun h => ?_)
                    · have w := w.1 h
                      refine E_iconst 65 dX12_isMarkSign_64 (by decide) rfl ?_
                      exact E_zret dX12_isMarkSign_65 rfl rfl (Or.inl rfl) w
                    · have w := w.2 h
                      refine E_iconst 61 dX12_isMarkSign_60 (by decide) rfl ?_
                      refine E_goto 65 dX12_isMarkSign_61 rfl ?_
                      exact E_zret dX12_isMarkSign_65 rfl rfl (Or.inr rfl) w
theorem B_X12_wordAt_0 {g : PG} {d : Nat} {σ : PS} {Q : Int → PS → Prop} {x1 x2 : Int}  (w : (XX g true d P_X12_wordAt 5 [(2, 88), (0, x1), (0, x2), (0, (-1)), (0, 0), (9, 0)] [] 136 σ 136 Q)) : XX g true d P_X12_wordAt 0 [(2, 88), (0, x1), (0, x2), (9, 0), (9, 0), (9, 0)] [] 136 σ 136 Q := by
  refine E_iconst 1 dX12_wordAt_0 (by decide) rfl ?_
  refine E_istore_n (ls' := [(2, 88), (0, x1), (0, x2), (0, (-1)), (9, 0), (9, 0)]) 2 dX12_wordAt_1 (by decide) rfl rfl ?_
  refine E_iconst 3 dX12_wordAt_2 (by decide) rfl ?_
  refine E_istore (ls' := [(2, 88), (0, x1), (0, x2), (0, (-1)), (0, 0), (9, 0)]) 5 dX12_wordAt_3 (by decide) rfl rfl ?_
  with_reducible exact w
theorem B_X12_wordAt_5 {g : PG} {d : Nat} {σ : PS} {Q : Int → PS → Prop} {x1 x2 x3 x4 : Int}  (w : ((116 ≤ x4 → Q (-1) σ) ∧ (x4 < 116 → ∀ y1, y1 = w32 (x3 + 1) → (XX g true d P_X12_wordAt 19 [(2, 88), (0, x1), (0, x2), (0, y1), (0, x4), (0, 0)] [] 136 σ 136 Q)))) : XX g true d P_X12_wordAt 5 [(2, 88), (0, x1), (0, x2), (0, x3), (0, x4), (9, 0)] [] 136 σ 136 Q := by
  refine E_iload 7 dX12_wordAt_5 rfl rfl ?_
  refine E_bipush 9 dX12_wordAt_7 (by decide) rfl ?_
  refine E_icmp_ge 12 117 dX12_wordAt_9 rfl rfl (fun h => ?_) (fun h => ?_)
  · have w := w.1 h
    refine E_iconst 118 dX12_wordAt_117 (by decide) rfl ?_
    exact E_iret dX12_wordAt_118 rfl rfl w
  · have w := w.2 h
    refine E_iconst 13 dX12_wordAt_12 (by decide) rfl ?_
    refine E_istore (ls' := [(2, 88), (0, x1), (0, x2), (0, x3), (0, x4), (0, 0)]) 15 dX12_wordAt_13 (by decide) rfl rfl ?_
    refine E_iload_n 16 dX12_wordAt_15 rfl rfl ?_
    refine E_iconst 17 dX12_wordAt_16 (by decide) rfl ?_
    refine E_iadd 18 dX12_wordAt_17 rfl ?_
    refine E_top (fun y1 hy1 => ?_)
    have w := w y1 hy1
    refine E_istore_n (ls' := [(2, 88), (0, x1), (0, x2), (0, y1), (0, x4), (0, 0)]) 19 dX12_wordAt_18 (by decide) rfl rfl ?_
    with_reducible exact w
theorem B_X12_wordAt_19 {g : PG} {d : Nat} {σ : PS} {Q : Int → PS → Prop} {x1 x2 x3 x4 x5 : Int}  (w : ((x2 ≤ w32 (x1 + x5) → ((w32 (x1 + x5) ≠ x2 → ∀ y1, y1 = w32 (x4 + 1) → (XX g true d P_X12_wordAt 93 [(2, 88), (0, x1), (0, x2), (0, x3), (0, y1), (9, 0)] [] 136 σ 136 Q)) ∧ (w32 (x1 + x5) = x2 → (0 ≤ w32 ((w32 (x4 + 1)) + x5) ∧ w32 ((w32 (x4 + 1)) + x5) < 117) ∧ ((σ 99 (w32 ((w32 (x4 + 1)) + x5)) ≠ 32 → ∀ y3, y3 = w32 (x4 + 1) → (XX g true d P_X12_wordAt 93 [(2, 88), (0, x1), (0, x2), (0, x3), (0, y3), (9, 0)] [] 136 σ 136 Q)) ∧ (σ 99 (w32 ((w32 (x4 + 1)) + x5)) = 32 → Q x3 σ))))) ∧ (w32 (x1 + x5) < x2 → (0 ≤ w32 ((w32 (x4 + 1)) + x5) ∧ w32 ((w32 (x4 + 1)) + x5) < 117) ∧ (0 ≤ w32 (x1 + x5) ∧ w32 (x1 + x5) < 500) ∧ ((σ 99 (w32 ((w32 (x4 + 1)) + x5)) ≠ σ 98 (w32 (x1 + x5)) → ((w32 (x1 + x5) ≠ x2 → ∀ y6, y6 = w32 (x4 + 1) → (XX g true d P_X12_wordAt 93 [(2, 88), (0, x1), (0, x2), (0, x3), (0, y6), (9, 0)] [] 136 σ 136 Q)) ∧ (w32 (x1 + x5) = x2 → ((σ 99 (w32 ((w32 (x4 + 1)) + x5)) ≠ 32 → ∀ y7, y7 = w32 (x4 + 1) → (XX g true d P_X12_wordAt 93 [(2, 88), (0, x1), (0, x2), (0, x3), (0, y7), (9, 0)] [] 136 σ 136 Q)) ∧ (σ 99 (w32 ((w32 (x4 + 1)) + x5)) = 32 → Q x3 σ))))) ∧ (σ 99 (w32 ((w32 (x4 + 1)) + x5)) = σ 98 (w32 (x1 + x5)) → ∀ y8, y8 = w32 (x5 + 1) → (XX g true d P_X12_wordAt 19 [(2, 88), (0, x1), (0, x2), (0, x3), (0, x4), (0, y8)] [] 136 σ 136 Q)))))) : XX g true d P_X12_wordAt 19 [(2, 88), (0, x1), (0, x2), (0, x3), (0, x4), (0, x5)] [] 136 σ 136 Q := by
  refine E_iload_n 20 dX12_wordAt_19 rfl rfl ?_
  refine E_iload 22 dX12_wordAt_20 rfl rfl ?_
  refine E_iadd 23 dX12_wordAt_22 rfl ?_
  refine E_iload_n 24 dX12_wordAt_23 rfl rfl ?_
  refine E_icmp_ge 27 60 dX12_wordAt_24 rfl rfl (fun h => ?_) (fun h => ?_)
  · have w := w.1 h
    refine E_iload_n 61 dX12_wordAt_60 rfl rfl ?_
    refine E_iload 63 dX12_wordAt_61 rfl rfl ?_
    refine E_iadd 64 dX12_wordAt_63 rfl ?_
    refine E_iload_n 65 dX12_wordAt_64 rfl rfl ?_
    refine E_icmp_ne 68 87 dX12_wordAt_65 rfl rfl (fun h => ?_) (fun h => ?_)
    · have w := w.1 h
      refine E_iload 89 dX12_wordAt_87 rfl rfl ?_
      refine E_iconst 90 dX12_wordAt_89 (by decide) rfl ?_
      refine E_iadd 91 dX12_wordAt_90 rfl ?_
      refine E_top (fun y1 hy1 => ?_)
      have w := w y1 hy1
      refine E_istore (ls' := [(2, 88), (0, x1), (0, x2), (0, x3), (0, y1), (0, x5)]) 93 dX12_wordAt_91 (by decide) rfl rfl ?_
      refine XX.fg [5] [(2, 88), (0, x1), (0, x2), (0, x3), (0, y1), (9, 0)] rfl ?_
      with_reducible exact w
    · have w := w.2 h
      refine E_aload_n 69 dX12_wordAt_68 rfl (ac_88.bnd) rfl ?_
      refine E_getL 72 dX12_wordAt_69 fl_X12_47 ac_88 rfl (by decide) lay_88_24 rfl ?_
      refine E_iload 74 dX12_wordAt_72 rfl rfl ?_
      refine E_iconst 75 dX12_wordAt_74 (by decide) rfl ?_
      refine E_iadd 76 dX12_wordAt_75 rfl ?_
      refine E_iload 78 dX12_wordAt_76 rfl rfl ?_
      refine E_iadd 79 dX12_wordAt_78 rfl ?_
      obtain ⟨c2, w⟩ := w
      refine E_iald 80 dX12_wordAt_79 ac_99 c2 rfl ?_
      refine E_bipush 82 dX12_wordAt_80 (by decide) rfl ?_
      refine E_icmp_ne 85 87 dX12_wordAt_82 rfl rfl (fun h => ?_) (fun h => ?_)
      · have w := w.1 h
        refine E_iload 89 dX12_wordAt_87 rfl rfl ?_
        refine E_iconst 90 dX12_wordAt_89 (by decide) rfl ?_
        refine E_iadd 91 dX12_wordAt_90 rfl ?_
        refine E_top (fun y3 hy3 => ?_)
        have w := w y3 hy3
        refine E_istore (ls' := [(2, 88), (0, x1), (0, x2), (0, x3), (0, y3), (0, x5)]) 93 dX12_wordAt_91 (by decide) rfl rfl ?_
        refine XX.fg [5] [(2, 88), (0, x1), (0, x2), (0, x3), (0, y3), (9, 0)] rfl ?_
        with_reducible exact w
      · have w := w.2 h
        refine E_iload_n 86 dX12_wordAt_85 rfl rfl ?_
        exact E_iret dX12_wordAt_86 rfl rfl w
  · have w := w.2 h
    refine E_aload_n 28 dX12_wordAt_27 rfl (ac_88.bnd) rfl ?_
    refine E_getL 31 dX12_wordAt_28 fl_X12_47 ac_88 rfl (by decide) lay_88_24 rfl ?_
    refine E_iload 33 dX12_wordAt_31 rfl rfl ?_
    refine E_iconst 34 dX12_wordAt_33 (by decide) rfl ?_
    refine E_iadd 35 dX12_wordAt_34 rfl ?_
    refine E_iload 37 dX12_wordAt_35 rfl rfl ?_
    refine E_iadd 38 dX12_wordAt_37 rfl ?_
    obtain ⟨c4, w⟩ := w
    refine E_iald 39 dX12_wordAt_38 ac_99 c4 rfl ?_
    refine E_aload_n 40 dX12_wordAt_39 rfl (ac_88.bnd) rfl ?_
    refine E_getL 43 dX12_wordAt_40 fl_X12_44 ac_88 rfl (by decide) lay_88_18 rfl ?_
    refine E_iload_n 44 dX12_wordAt_43 rfl rfl ?_
    refine E_iload 46 dX12_wordAt_44 rfl rfl ?_
    refine E_iadd 47 dX12_wordAt_46 rfl ?_
    obtain ⟨c5, w⟩ := w
    refine E_iald 48 dX12_wordAt_47 ac_98 c5 rfl ?_
    refine E_icmp_ne 51 60 dX12_wordAt_48 rfl rfl (fun h => ?_) (fun h => ?_)
    · have w := w.1 h
      refine E_iload_n 61 dX12_wordAt_60 rfl rfl ?_
      refine E_iload 63 dX12_wordAt_61 rfl rfl ?_
      refine E_iadd 64 dX12_wordAt_63 rfl ?_
      refine E_iload_n 65 dX12_wordAt_64 rfl rfl ?_
      refine E_icmp_ne 68 87 dX12_wordAt_65 rfl rfl (fun h => ?_) (fun h => ?_)
      · have w := w.1 h
        refine E_iload 89 dX12_wordAt_87 rfl rfl ?_
        refine E_iconst 90 dX12_wordAt_89 (by decide) rfl ?_
        refine E_iadd 91 dX12_wordAt_90 rfl ?_
        refine E_top (fun y6 hy6 => ?_)
        have w := w y6 hy6
        refine E_istore (ls' := [(2, 88), (0, x1), (0, x2), (0, x3), (0, y6), (0, x5)]) 93 dX12_wordAt_91 (by decide) rfl rfl ?_
        refine XX.fg [5] [(2, 88), (0, x1), (0, x2), (0, x3), (0, y6), (9, 0)] rfl ?_
        with_reducible exact w
      · have w := w.2 h
        refine E_aload_n 69 dX12_wordAt_68 rfl (ac_88.bnd) rfl ?_
        refine E_getL 72 dX12_wordAt_69 fl_X12_47 ac_88 rfl (by decide) lay_88_24 rfl ?_
        refine E_iload 74 dX12_wordAt_72 rfl rfl ?_
        refine E_iconst 75 dX12_wordAt_74 (by decide) rfl ?_
        refine E_iadd 76 dX12_wordAt_75 rfl ?_
        refine E_iload 78 dX12_wordAt_76 rfl rfl ?_
        refine E_iadd 79 dX12_wordAt_78 rfl ?_
        refine E_iald 80 dX12_wordAt_79 ac_99 c4 rfl ?_
        refine E_bipush 82 dX12_wordAt_80 (by decide) rfl ?_
        refine E_icmp_ne 85 87 dX12_wordAt_82 rfl rfl (fun h => ?_) (fun h => ?_)
        · have w := w.1 h
          refine E_iload 89 dX12_wordAt_87 rfl rfl ?_
          refine E_iconst 90 dX12_wordAt_89 (by decide) rfl ?_
          refine E_iadd 91 dX12_wordAt_90 rfl ?_
          refine E_top (fun y7 hy7 => ?_)
          have w := w y7 hy7
          refine E_istore (ls' := [(2, 88), (0, x1), (0, x2), (0, x3), (0, y7), (0, x5)]) 93 dX12_wordAt_91 (by decide) rfl rfl ?_
          refine XX.fg [5] [(2, 88), (0, x1), (0, x2), (0, x3), (0, y7), (9, 0)] rfl ?_
          with_reducible exact w
        · have w := w.2 h
          refine E_iload_n 86 dX12_wordAt_85 rfl rfl ?_
          exact E_iret dX12_wordAt_86 rfl rfl w
    · have w := w.2 h
      refine E_iload 53 dX12_wordAt_51 rfl rfl ?_
      refine E_iconst 54 dX12_wordAt_53 (by decide) rfl ?_
      refine E_iadd 55 dX12_wordAt_54 rfl ?_
      refine E_top (fun y8 hy8 => ?_)
      have w := w y8 hy8
      refine E_istore (ls' := [(2, 88), (0, x1), (0, x2), (0, x3), (0, x4), (0, y8)]) 57 dX12_wordAt_55 (by decide) rfl rfl ?_
      refine E_goto 19 dX12_wordAt_57 rfl ?_
      with_reducible exact w
theorem B_X12_wordAt_93 {g : PG} {d : Nat} {σ : PS} {Q : Int → PS → Prop} {x1 x2 x3 x4 : Int}  (w : (0 ≤ x4 ∧ x4 < 117) ∧ ((σ 99 x4 = 32 → (XX g true d P_X12_wordAt 5 [(2, 88), (0, x1), (0, x2), (0, x3), (0, x4), (9, 0)] [] 136 σ 136 Q)) ∧ (σ 99 x4 ≠ 32 → ∀ y2, y2 = w32 (x4 + 1) → (XX g true d P_X12_wordAt 93 [(2, 88), (0, x1), (0, x2), (0, x3), (0, y2), (9, 0)] [] 136 σ 136 Q)))) : XX g true d P_X12_wordAt 93 [(2, 88), (0, x1), (0, x2), (0, x3), (0, x4), (9, 0)] [] 136 σ 136 Q := by
  refine E_aload_n 94 dX12_wordAt_93 rfl (ac_88.bnd) rfl ?_
  refine E_getL 97 dX12_wordAt_94 fl_X12_47 ac_88 rfl (by decide) lay_88_24 rfl ?_
  refine E_iload 99 dX12_wordAt_97 rfl rfl ?_
  obtain ⟨c1, w⟩ := w
  refine E_iald 100 dX12_wordAt_99 ac_99 c1 rfl ?_
  refine E_bipush 102 dX12_wordAt_100 (by decide) rfl ?_
  refine E_icmp_eq 105 114 dX12_wordAt_102 rfl rfl (fun h => ?_) (fun h => ?_)
  · have w := w.1 h
    refine E_goto 5 dX12_wordAt_114 rfl ?_
    with_reducible exact w
  · have w := w.2 h
    refine E_iload 107 dX12_wordAt_105 rfl rfl ?_
    refine E_iconst 108 dX12_wordAt_107 (by decide) rfl ?_
    refine E_iadd 109 dX12_wordAt_108 rfl ?_
    refine E_top (fun y2 hy2 => ?_)
    have w := w y2 hy2
    refine E_istore (ls' := [(2, 88), (0, x1), (0, x2), (0, x3), (0, y2), (9, 0)]) 111 dX12_wordAt_109 (by decide) rfl rfl ?_
    refine E_goto 93 dX12_wordAt_111 rfl ?_
    with_reducible exact w
