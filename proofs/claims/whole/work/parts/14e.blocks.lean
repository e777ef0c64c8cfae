/-! BLOCKS, printed by a program of ours: what each stretch of a method asks -/
theorem B_X12_tells_0 {g : PG} {d : Nat} {σ : PS} {Q : Int → PS → Prop} {x1 : Int}  (w : ∀ y1, y1 = w32 (16 * x1) → (XX g true (d + 1) P_X12_tells 5 [(2, 88), (0, x1), (0, y1)] [] 136 σ 136 Q)) : XX g true (d + 1) P_X12_tells 0 [(2, 88), (0, x1), (9, 0)] [] 136 σ 136 Q := by
  refine E_bipush 2 dX12_tells_0 (by decide) rfl ?_
  refine E_iload_n 3 dX12_tells_2 rfl rfl ?_
  refine E_imul 4 dX12_tells_3 rfl ?_
  refine E_top (fun y1 hy1 => ?_)
  have w := w y1 hy1
  refine E_istore_n (ls' := [(2, 88), (0, x1), (0, y1)]) 5 dX12_tells_4 (by decide) rfl rfl ?_
  with_reducible exact w
theorem B_X12_tells_5 {g : PG} {d : Nat} {σ : PS} {Q : Int → PS → Prop} {x1 x2 : Int}  (w : (0 ≤ x1 ∧ x1 < 4) ∧ ((w32 ((w32 (16 * x1)) + (σ 100 x1)) ≤ x2 → Q 0 σ) ∧ (x2 < w32 ((w32 (16 * x1)) + (σ 100 x1)) → (0 ≤ x2 ∧ x2 < 64) ∧ ((σ 103 x2 = σ 102 x2 → XX g true d P_X12_worth 0 [(2, 88), (0, x1), (0, σ 101 x2), (0, σ 102 x2), (9, 0), (9, 0)] [] 136 σ 136 (fun r4 σ3 => Q r4 σ3)) ∧ (σ 103 x2 ≠ σ 102 x2 → XX g true d P_X12_worth 0 [(2, 88), (0, x1), (0, σ 102 x2), (0, σ 103 x2), (9, 0), (9, 0)] [] 136 σ 136 (fun r6 σ5 => ((r6 = 0 → (XX g true (d + 1) P_X12_tells 5 [(2, 88), (0, x1), (0, w32 (x2 + 1))] [] 136 σ5 136 Q)) ∧ (r6 ≠ 0 → XX g true d P_X12_worth 0 [(2, 88), (0, x1), (0, σ5 101 x2), (0, σ5 102 x2), (9, 0), (9, 0)] [] 136 σ5 136 (fun r8 σ7 => Q r8 σ7))))))))) : XX g true (d + 1) P_X12_tells 5 [(2, 88), (0, x1), (0, x2)] [] 136 σ 136 Q := by
  refine E_iload_n 6 dX12_tells_5 rfl rfl ?_
  refine E_bipush 8 dX12_tells_6 (by decide) rfl ?_
  refine E_iload_n 9 dX12_tells_8 rfl rfl ?_
  refine E_imul 10 dX12_tells_9 rfl ?_
  refine E_aload_n 11 dX12_tells_10 rfl (ac_88.bnd) rfl ?_
  refine E_getL 14 dX12_tells_11 fl_X12_50 ac_88 rfl (by decide) lay_88_25 rfl ?_
  refine E_iload_n 15 dX12_tells_14 rfl rfl ?_
  obtain ⟨c1, w⟩ := w
  refine E_iald 16 dX12_tells_15 ac_100 c1 rfl ?_
  refine E_iadd 17 dX12_tells_16 rfl ?_
  refine E_icmp_ge 20 79 dX12_tells_17 rfl rfl (fun h => ?_) (fun h => ?_)
  · have w := w.1 h
    refine E_iconst 80 dX12_tells_79 (by decide) rfl ?_
    exact E_iret dX12_tells_80 rfl rfl w
  · have w := w.2 h
    refine E_aload_n 21 dX12_tells_20 rfl (ac_88.bnd) rfl ?_
    refine E_getL 24 dX12_tells_21 fl_X12_59 ac_88 rfl (by decide) lay_88_28 rfl ?_
    refine E_iload_n 25 dX12_tells_24 rfl rfl ?_
    obtain ⟨c2, w⟩ := w
    refine E_iald 26 dX12_tells_25 ac_103 c2 rfl ?_
    refine E_aload_n 27 dX12_tells_26 rfl (ac_88.bnd) rfl ?_
    refine E_getL 30 dX12_tells_27 fl_X12_56 ac_88 rfl (by decide) lay_88_27 rfl ?_
    refine E_iload_n 31 dX12_tells_30 rfl rfl ?_
    refine E_iald 32 dX12_tells_31 ac_102 c2 rfl ?_
    refine E_icmp_eq 35 55 dX12_tells_32 rfl rfl (fun h => ?_) (fun h => ?_)
    · have w := w.1 h
      refine E_aload_n 56 dX12_tells_55 rfl (ac_88.bnd) rfl ?_
      refine E_iload_n 57 dX12_tells_56 rfl rfl ?_
      refine E_aload_n 58 dX12_tells_57 rfl (ac_88.bnd) rfl ?_
      refine E_getL 61 dX12_tells_58 fl_X12_53 ac_88 rfl (by decide) lay_88_26 rfl ?_
      refine E_iload_n 62 dX12_tells_61 rfl rfl ?_
      refine E_iald 63 dX12_tells_62 ac_101 c2 rfl ?_
      refine E_aload_n 64 dX12_tells_63 rfl (ac_88.bnd) rfl ?_
      refine E_getL 67 dX12_tells_64 fl_X12_56 ac_88 rfl (by decide) lay_88_27 rfl ?_
      refine E_iload_n 68 dX12_tells_67 rfl rfl ?_
      refine E_iald 69 dX12_tells_68 ac_102 c2 rfl ?_
      refine E_callV (as := [(0, x1), (0, σ 101 x2), (0, σ 102 x2)]) 72 dX12_tells_69 cf_X12_worth mw_1568 mw_1570 mw_81 ac_88 (by decide) cl_X12 rfl rfl (Nat.le_of_ble_eq_true rfl) (Nat.le_of_ble_eq_true rfl) ⟨Nat.le_refl _, Nat.le_refl _⟩ rfl (w.mono (fun r4 σ3 w => ?_))
      show XX g true (d + 1) P_X12_tells 72 [(2, 88), (0, x1), (0, x2)] [(0, r4)] 136 σ3 136 Q
      exact E_iret dX12_tells_72 rfl rfl w
    · have w := w.2 h
      refine E_aload_n 36 dX12_tells_35 rfl (ac_88.bnd) rfl ?_
      refine E_iload_n 37 dX12_tells_36 rfl rfl ?_
      refine E_aload_n 38 dX12_tells_37 rfl (ac_88.bnd) rfl ?_
      refine E_getL 41 dX12_tells_38 fl_X12_56 ac_88 rfl (by decide) lay_88_27 rfl ?_
      refine E_iload_n 42 dX12_tells_41 rfl rfl ?_
      refine E_iald 43 dX12_tells_42 ac_102 c2 rfl ?_
      refine E_aload_n 44 dX12_tells_43 rfl (ac_88.bnd) rfl ?_
      refine E_getL 47 dX12_tells_44 fl_X12_59 ac_88 rfl (by decide) lay_88_28 rfl ?_
      refine E_iload_n 48 dX12_tells_47 rfl rfl ?_
      refine E_iald 49 dX12_tells_48 ac_103 c2 rfl ?_
      refine E_callV (as := [(0, x1), (0, σ 102 x2), (0, σ 103 x2)]) 52 dX12_tells_49 cf_X12_worth mw_1568 mw_1570 mw_81 ac_88 (by decide) cl_X12 rfl rfl (Nat.le_of_ble_eq_true rfl) (Nat.le_of_ble_eq_true rfl) ⟨Nat.le_refl _, Nat.le_refl _⟩ rfl (w.mono (fun r6 σ5 w => ?_))
      show XX g true (d + 1) P_X12_tells 52 [(2, 88), (0, x1), (0, x2)] [(0, r6)] 136 σ5 136 Q
      refine E_if_eq 55 73 dX12_tells_52 rfl rfl (fun h => ?_) (fun h => ?_)
      · have w := w.1 h
        refine E_iinc (ls' := [(2, 88), (0, x1), (0, w32 (x2 + 1))]) 76 dX12_tells_73 (by decide) rfl rfl rfl ?_
        refine E_goto 5 dX12_tells_76 rfl ?_
        with_reducible exact w
      · have w := w.2 h
        refine E_aload_n 56 dX12_tells_55 rfl (ac_88.bnd) rfl ?_
        refine E_iload_n 57 dX12_tells_56 rfl rfl ?_
        refine E_aload_n 58 dX12_tells_57 rfl (ac_88.bnd) rfl ?_
        refine E_getL 61 dX12_tells_58 fl_X12_53 ac_88 rfl (by decide) lay_88_26 rfl ?_
        refine E_iload_n 62 dX12_tells_61 rfl rfl ?_
        refine E_iald 63 dX12_tells_62 ac_101 c2 rfl ?_
        refine E_aload_n 64 dX12_tells_63 rfl (ac_88.bnd) rfl ?_
        refine E_getL 67 dX12_tells_64 fl_X12_56 ac_88 rfl (by decide) lay_88_27 rfl ?_
        refine E_iload_n 68 dX12_tells_67 rfl rfl ?_
        refine E_iald 69 dX12_tells_68 ac_102 c2 rfl ?_
        refine E_callV (as := [(0, x1), (0, σ5 101 x2), (0, σ5 102 x2)]) 72 dX12_tells_69 cf_X12_worth mw_1568 mw_1570 mw_81 ac_88 (by decide) cl_X12 rfl rfl (Nat.le_of_ble_eq_true rfl) (Nat.le_of_ble_eq_true rfl) ⟨Nat.le_refl _, Nat.le_refl _⟩ rfl (w.mono (fun r8 σ7 w => ?_))
        show XX g true (d + 1) P_X12_tells 72 [(2, 88), (0, x1), (0, x2)] [(0, r8)] 136 σ7 136 Q
        exact E_iret dX12_tells_72 rfl rfl w
theorem B_X12_goesOf_0 {g : PG} {d : Nat} {σ : PS} {Q : Int → PS → Prop} {x1 x2 x3 x4 x5 : Int}  (w : (0 ≤ x1 ∧ x1 < 6) ∧ XX g true d P_X12_size 0 [(2, 88), (0, w32 ((w32 ((w32 (2 * x4)) + 1)) - (σ 88 2)))] [] 136 (su (su (su (su (su (su (su (su σ 111 0 (σ 95 x1)) 111 1 x2) 111 2 x1) 111 3 x3) 111 4 x4) 111 5 (σ 88 2)) 111 6 (σ 97 0)) 111 7 x5) 136 (fun r3 σ2 => XX g true d P_X12_tells 0 [(2, 88), (0, 0), (9, 0)] [] 136 (su σ2 111 8 r3) 136 (fun r5 σ4 => ((0 ≤ r5 → ((r5 ≤ 1000 → Q r5 σ4) ∧ (1000 < r5 → Q 1000 σ4))) ∧ (r5 < 0 → Q 0 σ4))))) : XX g true (d + 1) P_X12_goesOf 0 [(2, 88), (0, x1), (0, x2), (0, x3), (0, x4), (0, x5), (9, 0)] [] 136 σ 136 Q := by
  refine E_aload_n 1 dX12_goesOf_0 rfl (ac_88.bnd) rfl ?_
  refine E_getL 4 dX12_goesOf_1 fl_X12_86 ac_88 rfl (by decide) lay_88_45 rfl ?_
  refine E_iconst 5 dX12_goesOf_4 (by decide) rfl ?_
  refine E_aload_n 6 dX12_goesOf_5 rfl (ac_88.bnd) rfl ?_
  refine E_getL 9 dX12_goesOf_6 fl_X12_32 ac_88 rfl (by decide) lay_88_9 rfl ?_
  refine E_iload_n 10 dX12_goesOf_9 rfl rfl ?_
  obtain ⟨c1, w⟩ := w
  refine E_iald 11 dX12_goesOf_10 ac_95 c1 rfl ?_
  refine E_iast 12 dX12_goesOf_11 ac_111 (by decide) rfl ?_
  refine E_aload_n 13 dX12_goesOf_12 rfl (ac_88.bnd) rfl ?_
  refine E_getL 16 dX12_goesOf_13 fl_X12_86 ac_88 rfl (by decide) lay_88_45 rfl ?_
  refine E_iconst 17 dX12_goesOf_16 (by decide) rfl ?_
  refine E_iload_n 18 dX12_goesOf_17 rfl rfl ?_
  refine E_iast 19 dX12_goesOf_18 ac_111 (by decide) rfl ?_
  refine E_aload_n 20 dX12_goesOf_19 rfl (ac_88.bnd) rfl ?_
  refine E_getL 23 dX12_goesOf_20 fl_X12_86 ac_88 rfl (by decide) lay_88_45 rfl ?_
  refine E_iconst 24 dX12_goesOf_23 (by decide) rfl ?_
  refine E_iload_n 25 dX12_goesOf_24 rfl rfl ?_
  refine E_iast 26 dX12_goesOf_25 ac_111 (by decide) rfl ?_
  refine E_aload_n 27 dX12_goesOf_26 rfl (ac_88.bnd) rfl ?_
  refine E_getL 30 dX12_goesOf_27 fl_X12_86 ac_88 rfl (by decide) lay_88_45 rfl ?_
  refine E_iconst 31 dX12_goesOf_30 (by decide) rfl ?_
  refine E_iload_n 32 dX12_goesOf_31 rfl rfl ?_
  refine E_iast 33 dX12_goesOf_32 ac_111 (by decide) rfl ?_
  refine E_aload_n 34 dX12_goesOf_33 rfl (ac_88.bnd) rfl ?_
  refine E_getL 37 dX12_goesOf_34 fl_X12_86 ac_88 rfl (by decide) lay_88_45 rfl ?_
  refine E_iconst 38 dX12_goesOf_37 (by decide) rfl ?_
  refine E_iload 40 dX12_goesOf_38 rfl rfl ?_
  refine E_iast 41 dX12_goesOf_40 ac_111 (by decide) rfl ?_
  refine E_aload_n 42 dX12_goesOf_41 rfl (ac_88.bnd) rfl ?_
  refine E_getL 45 dX12_goesOf_42 fl_X12_86 ac_88 rfl (by decide) lay_88_45 rfl ?_
  refine E_iconst 46 dX12_goesOf_45 (by decide) rfl ?_
  refine E_aload_n 47 dX12_goesOf_46 rfl (ac_88.bnd) rfl ?_
  refine E_get 2 50 dX12_goesOf_47 fl_X12_7 ac_88 rfl (by decide) rfl rfl ?_
  refine E_conv ((su_ne (Or.inl (by decide))).trans ((su_ne (Or.inl (by decide))).trans ((su_ne (Or.inl (by decide))).trans ((su_ne (Or.inl (by decide))).trans (su_ne (Or.inl (by decide))))))) ?_
  refine E_iast 51 dX12_goesOf_50 ac_111 (by decide) rfl ?_
  refine E_aload_n 52 dX12_goesOf_51 rfl (ac_88.bnd) rfl ?_
  refine E_getL 55 dX12_goesOf_52 fl_X12_86 ac_88 rfl (by decide) lay_88_45 rfl ?_
  refine E_bipush 57 dX12_goesOf_55 (by decide) rfl ?_
  refine E_aload_n 58 dX12_goesOf_57 rfl (ac_88.bnd) rfl ?_
  refine E_getL 61 dX12_goesOf_58 fl_X12_38 ac_88 rfl (by decide) lay_88_11 rfl ?_
  refine E_iconst 62 dX12_goesOf_61 (by decide) rfl ?_
  refine E_iald 63 dX12_goesOf_62 ac_97 (by decide) rfl ?_
  refine E_conv ((su_ne (Or.inl (by decide))).trans ((su_ne (Or.inl (by decide))).trans ((su_ne (Or.inl (by decide))).trans ((su_ne (Or.inl (by decide))).trans ((su_ne (Or.inl (by decide))).trans (su_ne (Or.inl (by decide)))))))) ?_
  refine E_iast 64 dX12_goesOf_63 ac_111 (by decide) rfl ?_
  refine E_aload_n 65 dX12_goesOf_64 rfl (ac_88.bnd) rfl ?_
  refine E_getL 68 dX12_goesOf_65 fl_X12_86 ac_88 rfl (by decide) lay_88_45 rfl ?_
  refine E_bipush 70 dX12_goesOf_68 (by decide) rfl ?_
  refine E_iload 72 dX12_goesOf_70 rfl rfl ?_
  refine E_iast 73 dX12_goesOf_72 ac_111 (by decide) rfl ?_
  refine E_aload_n 74 dX12_goesOf_73 rfl (ac_88.bnd) rfl ?_
  refine E_getL 77 dX12_goesOf_74 fl_X12_86 ac_88 rfl (by decide) lay_88_45 rfl ?_
  refine E_bipush 79 dX12_goesOf_77 (by decide) rfl ?_
  refine E_aload_n 80 dX12_goesOf_79 rfl (ac_88.bnd) rfl ?_
  refine E_iconst 81 dX12_goesOf_80 (by decide) rfl ?_
  refine E_iload 83 dX12_goesOf_81 rfl rfl ?_
  refine E_imul 84 dX12_goesOf_83 rfl ?_
  refine E_iconst 85 dX12_goesOf_84 (by decide) rfl ?_
  refine E_iadd 86 dX12_goesOf_85 rfl ?_
  refine E_aload_n 87 dX12_goesOf_86 rfl (ac_88.bnd) rfl ?_
  refine E_get 2 90 dX12_goesOf_87 fl_X12_7 ac_88 rfl (by decide) rfl rfl ?_
  refine E_conv ((su_ne (Or.inl (by decide))).trans ((su_ne (Or.inl (by decide))).trans ((su_ne (Or.inl (by decide))).trans ((su_ne (Or.inl (by decide))).trans ((su_ne (Or.inl (by decide))).trans ((su_ne (Or.inl (by decide))).trans ((su_ne (Or.inl (by decide))).trans (su_ne (Or.inl (by decide)))))))))) ?_
  refine E_isub 91 dX12_goesOf_90 rfl ?_
  refine E_callV (as := [(0, w32 ((w32 ((w32 (2 * x4)) + 1)) - (σ 88 2)))]) 94 dX12_goesOf_91 cf_X12_size mw_1560 mw_1562 mw_79 ac_88 (by decide) cl_X12 rfl rfl (Nat.le_of_ble_eq_true rfl) (Nat.le_of_ble_eq_true rfl) ⟨Nat.le_refl _, Nat.le_refl _⟩ rfl (w.mono (fun r3 σ2 w => ?_))
  show XX g true (d + 1) P_X12_goesOf 94 [(2, 88), (0, x1), (0, x2), (0, x3), (0, x4), (0, x5), (9, 0)] [(0, r3), (0, 8), (2, 111)] 136 σ2 136 Q
  refine E_iast 95 dX12_goesOf_94 ac_111 (by decide) rfl ?_
  refine E_aload_n 96 dX12_goesOf_95 rfl (ac_88.bnd) rfl ?_
  refine E_iconst 97 dX12_goesOf_96 (by decide) rfl ?_
  refine E_callV (as := [(0, 0)]) 100 dX12_goesOf_97 cf_X12_tells mw_1564 mw_1566 mw_80 ac_88 (by decide) cl_X12 rfl rfl (Nat.le_of_ble_eq_true rfl) (Nat.le_of_ble_eq_true rfl) ⟨Nat.le_refl _, Nat.le_refl _⟩ rfl (w.mono (fun r5 σ4 w => ?_))
  show XX g true (d + 1) P_X12_goesOf 100 [(2, 88), (0, x1), (0, x2), (0, x3), (0, x4), (0, x5), (9, 0)] [(0, r5)] 136 σ4 136 Q
  refine E_istore (ls' := [(2, 88), (0, x1), (0, x2), (0, x3), (0, x4), (0, x5), (0, r5)]) 102 dX12_goesOf_100 (by decide) rfl rfl ?_
  refine E_iload 104 dX12_goesOf_102 rfl rfl ?_
  refine E_if_ge 107 111 dX12_goesOf_104 rfl rfl (fun h => ?_) (fun h => ?_)
  · have w := w.1 h
    refine E_iload 113 dX12_goesOf_111 rfl rfl ?_
    refine E_sipush 116 dX12_goesOf_113 (by decide) rfl ?_
    refine E_icmp_le 119 125 dX12_goesOf_116 rfl rfl (fun h => ?_) (fun h => ?_)
    · have w := w.1 h
      refine E_iload 127 dX12_goesOf_125 rfl rfl ?_
      exact E_iret dX12_goesOf_127 rfl rfl w
    · have w := w.2 h
      refine E_sipush 122 dX12_goesOf_119 (by decide) rfl ?_
      refine E_goto 127 dX12_goesOf_122 rfl ?_
      exact E_iret dX12_goesOf_127 rfl rfl w
  · have w := w.2 h
    refine E_iconst 108 dX12_goesOf_107 (by decide) rfl ?_
    refine E_goto 127 dX12_goesOf_108 rfl ?_
    exact E_iret dX12_goesOf_127 rfl rfl w
theorem B_X12_besideOf_0 {g : PG} {d : Nat} {σ : PS} {Q : Int → PS → Prop} {x1 : Int}  (w : ((x1 ≤ 0 → ((w32 ((σ 88 2) - 1) ≤ x1 → Q (w32 (0 + 0)) σ) ∧ (x1 < w32 ((σ 88 2) - 1) → (0 ≤ w32 (x1 + 1) ∧ w32 (x1 + 1) < 60) ∧ Q (w32 (0 + (σ 91 (w32 (x1 + 1))))) σ))) ∧ (0 < x1 → (0 ≤ w32 (x1 - 1) ∧ w32 (x1 - 1) < 60) ∧ ((w32 ((σ 88 2) - 1) ≤ x1 → Q (w32 ((σ 91 (w32 (x1 - 1))) + 0)) σ) ∧ (x1 < w32 ((σ 88 2) - 1) → (0 ≤ w32 (x1 + 1) ∧ w32 (x1 + 1) < 60) ∧ Q (w32 ((σ 91 (w32 (x1 - 1))) + (σ 91 (w32 (x1 + 1))))) σ))))) : XX g true d P_X12_besideOf 0 [(2, 88), (0, x1)] [] 136 σ 136 Q := by
  refine E_iload_n 1 dX12_besideOf_0 rfl rfl ?_
  refine E_if_le 4 15 dX12_besideOf_1 rfl rfl (fun h => ?_) (fun h => ?_)
  · have w := w.1 h
    refine E_iconst 16 dX12_besideOf_15 (by decide) rfl ?_
    refine E_iload_n 17 dX12_besideOf_16 rfl rfl ?_
    refine E_aload_n 18 dX12_besideOf_17 rfl (ac_88.bnd) rfl ?_
    refine E_get 2 21 dX12_besideOf_18 fl_X12_7 ac_88 rfl (by decide) rfl rfl ?_
    refine E_iconst 22 dX12_besideOf_21 (by decide) rfl ?_
    refine E_isub 23 dX12_besideOf_22 rfl ?_
    refine E_icmp_ge 26 37 dX12_besideOf_23 rfl rfl (fun h => ?_) (fun h => ?_)
    · have w := w.1 h
      refine E_iconst 38 dX12_besideOf_37 (by decide) rfl ?_
      refine E_iadd 39 dX12_besideOf_38 rfl ?_
      exact E_iret dX12_besideOf_39 rfl rfl w
    · have w := w.2 h
      refine E_aload_n 27 dX12_besideOf_26 rfl (ac_88.bnd) rfl ?_
      refine E_getL 30 dX12_besideOf_27 fl_X12_20 ac_88 rfl (by decide) lay_88_5 rfl ?_
      refine E_iload_n 31 dX12_besideOf_30 rfl rfl ?_
      refine E_iconst 32 dX12_besideOf_31 (by decide) rfl ?_
      refine E_iadd 33 dX12_besideOf_32 rfl ?_
      obtain ⟨c1, w⟩ := w
      refine E_iald 34 dX12_besideOf_33 ac_91 c1 rfl ?_
      refine E_goto 38 dX12_besideOf_34 rfl ?_
      refine E_iadd 39 dX12_besideOf_38 rfl ?_
      exact E_iret dX12_besideOf_39 rfl rfl w
  · have w := w.2 h
    refine E_aload_n 5 dX12_besideOf_4 rfl (ac_88.bnd) rfl ?_
    refine E_getL 8 dX12_besideOf_5 fl_X12_20 ac_88 rfl (by decide) lay_88_5 rfl ?_
    refine E_iload_n 9 dX12_besideOf_8 rfl rfl ?_
    refine E_iconst 10 dX12_besideOf_9 (by decide) rfl ?_
    refine E_isub 11 dX12_besideOf_10 rfl ?_
    obtain ⟨c2, w⟩ := w
    refine E_iald 12 dX12_besideOf_11 ac_91 c2 rfl ?_
    refine E_goto 16 dX12_besideOf_12 rfl ?_
    refine E_iload_n 17 dX12_besideOf_16 rfl rfl ?_
    refine E_aload_n 18 dX12_besideOf_17 rfl (ac_88.bnd) rfl ?_
    refine E_get 2 21 dX12_besideOf_18 fl_X12_7 ac_88 rfl (by decide) rfl rfl ?_
    refine E_iconst 22 dX12_besideOf_21 (by decide) rfl ?_
    refine E_isub 23 dX12_besideOf_22 rfl ?_
    refine E_icmp_ge 26 37 dX12_besideOf_23 rfl rfl (fun h => ?_) (fun h => ?_)
    · have w := w.1 h
      refine E_iconst 38 dX12_besideOf_37 (by decide) rfl ?_
      refine E_iadd 39 dX12_besideOf_38 rfl ?_
      exact E_iret dX12_besideOf_39 rfl rfl w
    · have w := w.2 h
      refine E_aload_n 27 dX12_besideOf_26 rfl (ac_88.bnd) rfl ?_
      refine E_getL 30 dX12_besideOf_27 fl_X12_20 ac_88 rfl (by decide) lay_88_5 rfl ?_
      refine E_iload_n 31 dX12_besideOf_30 rfl rfl ?_
      refine E_iconst 32 dX12_besideOf_31 (by decide) rfl ?_
      refine E_iadd 33 dX12_besideOf_32 rfl ?_
      obtain ⟨c3, w⟩ := w
      refine E_iald 34 dX12_besideOf_33 ac_91 c3 rfl ?_
      refine E_goto 38 dX12_besideOf_34 rfl ?_
      refine E_iadd 39 dX12_besideOf_38 rfl ?_
      exact E_iret dX12_besideOf_39 rfl rfl w
theorem B_X12_goesNow_0 {g : PG} {d : Nat} {σ : PS} {Q : Int → PS → Prop} {x1 : Int}  (w : (0 ≤ x1 ∧ x1 < 60) ∧ XX g true d P_X12_besideOf 0 [(2, 88), (0, x1)] [] 136 σ 136 (fun r3 σ2 => XX g true d P_X12_goesOf 0 [(2, 88), (0, σ 89 x1), (0, σ 90 x1), (0, r3), (0, x1), (0, σ2 88 12), (9, 0)] [] 136 σ2 136 (fun r5 σ4 => Q r5 σ4))) : XX g true (d + 1) P_X12_goesNow 0 [(2, 88), (0, x1)] [] 136 σ 136 Q := by
  refine E_aload_n 1 dX12_goesNow_0 rfl (ac_88.bnd) rfl ?_
  refine E_aload_n 2 dX12_goesNow_1 rfl (ac_88.bnd) rfl ?_
  refine E_getL 5 dX12_goesNow_2 fl_X12_13 ac_88 rfl (by decide) lay_88_3 rfl ?_
  refine E_iload_n 6 dX12_goesNow_5 rfl rfl ?_
  obtain ⟨c1, w⟩ := w
  refine E_iald 7 dX12_goesNow_6 ac_89 c1 rfl ?_
  refine E_aload_n 8 dX12_goesNow_7 rfl (ac_88.bnd) rfl ?_
  refine E_getL 11 dX12_goesNow_8 fl_X12_17 ac_88 rfl (by decide) lay_88_4 rfl ?_
  refine E_iload_n 12 dX12_goesNow_11 rfl rfl ?_
  refine E_iald 13 dX12_goesNow_12 ac_90 c1 rfl ?_
  refine E_aload_n 14 dX12_goesNow_13 rfl (ac_88.bnd) rfl ?_
  refine E_iload_n 15 dX12_goesNow_14 rfl rfl ?_
  refine E_callV (as := [(0, x1)]) 18 dX12_goesNow_15 cf_X12_besideOf mw_1552 mw_1554 mw_77 ac_88 (by decide) cl_X12 rfl rfl (Nat.le_of_ble_eq_true rfl) (Nat.le_of_ble_eq_true rfl) ⟨Nat.le_refl _, Nat.le_refl _⟩ rfl (w.mono (fun r3 σ2 w => ?_))
  show XX g true (d + 1) P_X12_goesNow 18 [(2, 88), (0, x1)] [(0, r3), (0, σ 90 x1), (0, σ 89 x1), (2, 88)] 136 σ2 136 Q
  refine E_iload_n 19 dX12_goesNow_18 rfl rfl ?_
  refine E_aload_n 20 dX12_goesNow_19 rfl (ac_88.bnd) rfl ?_
  refine E_get 12 23 dX12_goesNow_20 fl_X12_334 ac_88 rfl (by decide) rfl rfl ?_
  refine E_callV (as := [(0, σ 89 x1), (0, σ 90 x1), (0, r3), (0, x1), (0, σ2 88 12)]) 26 dX12_goesNow_23 cf_X12_goesOf mw_1556 mw_1558 mw_78 ac_88 (by decide) cl_X12 rfl rfl (Nat.le_of_ble_eq_true rfl) (Nat.le_of_ble_eq_true rfl) ⟨Nat.le_refl _, Nat.le_refl _⟩ rfl (w.mono (fun r5 σ4 w => ?_))
  show XX g true (d + 1) P_X12_goesNow 26 [(2, 88), (0, x1)] [(0, r5)] 136 σ4 136 Q
  exact E_iret dX12_goesNow_26 rfl rfl w
theorem B_X12_urgeOf_0 {g : PG} {d : Nat} {σ : PS} {Q : Int → PS → Prop} {x1 x2 : Int}  (w : (0 ≤ x2 ∧ x2 < 60) ∧ XX g true d P_X12_besideOf 0 [(2, 88), (0, x2)] [] 136 (su (su σ 111 1 (σ 90 x2)) 111 2 (σ 89 x2)) 136 (fun r3 σ2 => σ2 97 1 ≠ 0 ∧ ((σ2 92 x2 ≠ 0 → XX g true d P_X12_tells 0 [(2, 88), (0, x1), (9, 0)] [] 136 (su (su (su (su (su (su (su σ2 111 3 r3) 111 4 x2) 111 5 (σ2 88 2)) 111 7 (σ2 88 12)) 111 9 (irem (w32 (x2 + (σ2 88 12))) (σ2 97 1))) 111 10 (w32 ((w32 ((σ2 88 12) + 1)) - (σ2 92 x2)))) 111 11 (σ2 91 x2)) 136 (fun r6 σ5 => Q r6 σ5)) ∧ (σ2 92 x2 = 0 → XX g true d P_X12_tells 0 [(2, 88), (0, x1), (9, 0)] [] 136 (su (su (su (su (su (su (su σ2 111 3 r3) 111 4 x2) 111 5 (σ2 88 2)) 111 7 (σ2 88 12)) 111 9 (irem (w32 (x2 + (σ2 88 12))) (σ2 97 1))) 111 10 (w32 ((σ2 88 12) + 1))) 111 11 (σ2 91 x2)) 136 (fun r8 σ7 => Q r8 σ7))))) : XX g true (d + 1) P_X12_urgeOf 0 [(2, 88), (0, x1), (0, x2)] [] 136 σ 136 Q := by
  refine E_aload_n 1 dX12_urgeOf_0 rfl (ac_88.bnd) rfl ?_
  refine E_getL 4 dX12_urgeOf_1 fl_X12_86 ac_88 rfl (by decide) lay_88_45 rfl ?_
  refine E_iconst 5 dX12_urgeOf_4 (by decide) rfl ?_
  refine E_aload_n 6 dX12_urgeOf_5 rfl (ac_88.bnd) rfl ?_
  refine E_getL 9 dX12_urgeOf_6 fl_X12_17 ac_88 rfl (by decide) lay_88_4 rfl ?_
  refine E_iload_n 10 dX12_urgeOf_9 rfl rfl ?_
  obtain ⟨c1, w⟩ := w
  refine E_iald 11 dX12_urgeOf_10 ac_90 c1 rfl ?_
  refine E_iast 12 dX12_urgeOf_11 ac_111 (by decide) rfl ?_
  refine E_aload_n 13 dX12_urgeOf_12 rfl (ac_88.bnd) rfl ?_
  refine E_getL 16 dX12_urgeOf_13 fl_X12_86 ac_88 rfl (by decide) lay_88_45 rfl ?_
  refine E_iconst 17 dX12_urgeOf_16 (by decide) rfl ?_
  refine E_aload_n 18 dX12_urgeOf_17 rfl (ac_88.bnd) rfl ?_
  refine E_getL 21 dX12_urgeOf_18 fl_X12_13 ac_88 rfl (by decide) lay_88_3 rfl ?_
  refine E_iload_n 22 dX12_urgeOf_21 rfl rfl ?_
  refine E_iald 23 dX12_urgeOf_22 ac_89 c1 rfl ?_
  refine E_conv (su_ne (Or.inl (by decide))) ?_
  refine E_iast 24 dX12_urgeOf_23 ac_111 (by decide) rfl ?_
  refine E_aload_n 25 dX12_urgeOf_24 rfl (ac_88.bnd) rfl ?_
  refine E_getL 28 dX12_urgeOf_25 fl_X12_86 ac_88 rfl (by decide) lay_88_45 rfl ?_
  refine E_iconst 29 dX12_urgeOf_28 (by decide) rfl ?_
  refine E_aload_n 30 dX12_urgeOf_29 rfl (ac_88.bnd) rfl ?_
  refine E_iload_n 31 dX12_urgeOf_30 rfl rfl ?_
  refine E_callV (as := [(0, x2)]) 34 dX12_urgeOf_31 cf_X12_besideOf mw_1552 mw_1554 mw_77 ac_88 (by decide) cl_X12 rfl rfl (Nat.le_of_ble_eq_true rfl) (Nat.le_of_ble_eq_true rfl) ⟨Nat.le_refl _, Nat.le_refl _⟩ rfl (w.mono (fun r3 σ2 w => ?_))
  show XX g true (d + 1) P_X12_urgeOf 34 [(2, 88), (0, x1), (0, x2)] [(0, r3), (0, 3), (2, 111)] 136 σ2 136 Q
  refine E_iast 35 dX12_urgeOf_34 ac_111 (by decide) rfl ?_
  refine E_aload_n 36 dX12_urgeOf_35 rfl (ac_88.bnd) rfl ?_
  refine E_getL 39 dX12_urgeOf_36 fl_X12_86 ac_88 rfl (by decide) lay_88_45 rfl ?_
  refine E_iconst 40 dX12_urgeOf_39 (by decide) rfl ?_
  refine E_iload_n 41 dX12_urgeOf_40 rfl rfl ?_
  refine E_iast 42 dX12_urgeOf_41 ac_111 (by decide) rfl ?_
  refine E_aload_n 43 dX12_urgeOf_42 rfl (ac_88.bnd) rfl ?_
  refine E_getL 46 dX12_urgeOf_43 fl_X12_86 ac_88 rfl (by decide) lay_88_45 rfl ?_
  refine E_iconst 47 dX12_urgeOf_46 (by decide) rfl ?_
  refine E_aload_n 48 dX12_urgeOf_47 rfl (ac_88.bnd) rfl ?_
  refine E_get 2 51 dX12_urgeOf_48 fl_X12_7 ac_88 rfl (by decide) rfl rfl ?_
  refine E_conv ((su_ne (Or.inl (by decide))).trans (su_ne (Or.inl (by decide)))) ?_
  refine E_iast 52 dX12_urgeOf_51 ac_111 (by decide) rfl ?_
  refine E_aload_n 53 dX12_urgeOf_52 rfl (ac_88.bnd) rfl ?_
  refine E_getL 56 dX12_urgeOf_53 fl_X12_86 ac_88 rfl (by decide) lay_88_45 rfl ?_
  refine E_bipush 58 dX12_urgeOf_56 (by decide) rfl ?_
  refine E_aload_n 59 dX12_urgeOf_58 rfl (ac_88.bnd) rfl ?_
  refine E_get 12 62 dX12_urgeOf_59 fl_X12_334 ac_88 rfl (by decide) rfl rfl ?_
  refine E_conv ((su_ne (Or.inl (by decide))).trans ((su_ne (Or.inl (by decide))).trans (su_ne (Or.inl (by decide))))) ?_
  refine E_iast 63 dX12_urgeOf_62 ac_111 (by decide) rfl ?_
  refine E_aload_n 64 dX12_urgeOf_63 rfl (ac_88.bnd) rfl ?_
  refine E_getL 67 dX12_urgeOf_64 fl_X12_86 ac_88 rfl (by decide) lay_88_45 rfl ?_
  refine E_bipush 69 dX12_urgeOf_67 (by decide) rfl ?_
  refine E_iload_n 70 dX12_urgeOf_69 rfl rfl ?_
  refine E_aload_n 71 dX12_urgeOf_70 rfl (ac_88.bnd) rfl ?_
  refine E_get 12 74 dX12_urgeOf_71 fl_X12_334 ac_88 rfl (by decide) rfl rfl ?_
  refine E_conv ((su_ne (Or.inl (by decide))).trans ((su_ne (Or.inl (by decide))).trans ((su_ne (Or.inl (by decide))).trans (su_ne (Or.inl (by decide)))))) ?_
  refine E_iadd 75 dX12_urgeOf_74 rfl ?_
  refine E_aload_n 76 dX12_urgeOf_75 rfl (ac_88.bnd) rfl ?_
  refine E_getL 79 dX12_urgeOf_76 fl_X12_38 ac_88 rfl (by decide) lay_88_11 rfl ?_
  refine E_iconst 80 dX12_urgeOf_79 (by decide) rfl ?_
  refine E_iald 81 dX12_urgeOf_80 ac_97 (by decide) rfl ?_
  refine E_conv ((su_ne (Or.inl (by decide))).trans ((su_ne (Or.inl (by decide))).trans ((su_ne (Or.inl (by decide))).trans (su_ne (Or.inl (by decide)))))) ?_
  obtain ⟨c4, w⟩ := w
  refine E_irem 82 dX12_urgeOf_81 c4 rfl ?_
  refine E_iast 83 dX12_urgeOf_82 ac_111 (by decide) rfl ?_
  refine E_aload_n 84 dX12_urgeOf_83 rfl (ac_88.bnd) rfl ?_
  refine E_getL 87 dX12_urgeOf_84 fl_X12_86 ac_88 rfl (by decide) lay_88_45 rfl ?_
  refine E_bipush 89 dX12_urgeOf_87 (by decide) rfl ?_
  refine E_aload_n 90 dX12_urgeOf_89 rfl (ac_88.bnd) rfl ?_
  refine E_getL 93 dX12_urgeOf_90 fl_X12_23 ac_88 rfl (by decide) lay_88_6 rfl ?_
  refine E_iload_n 94 dX12_urgeOf_93 rfl rfl ?_
  refine E_iald 95 dX12_urgeOf_94 ac_92 c1 rfl ?_
  refine E_conv ((su_ne (Or.inl (by decide))).trans ((su_ne (Or.inl (by decide))).trans ((su_ne (Or.inl (by decide))).trans ((su_ne (Or.inl (by decide))).trans (su_ne (Or.inl (by decide))))))) ?_
  refine E_if_ne 98 107 dX12_urgeOf_95 rfl rfl (fun h => ?_) (fun h => ?_)
  · have w := w.1 h
    refine E_aload_n 108 dX12_urgeOf_107 rfl (ac_88.bnd) rfl ?_
    refine E_get 12 111 dX12_urgeOf_108 fl_X12_334 ac_88 rfl (by decide) rfl rfl ?_
    refine E_conv ((su_ne (Or.inl (by decide))).trans ((su_ne (Or.inl (by decide))).trans ((su_ne (Or.inl (by decide))).trans ((su_ne (Or.inl (by decide))).trans (su_ne (Or.inl (by decide))))))) ?_
    refine E_iconst 112 dX12_urgeOf_111 (by decide) rfl ?_
    refine E_iadd 113 dX12_urgeOf_112 rfl ?_
    refine E_aload_n 114 dX12_urgeOf_113 rfl (ac_88.bnd) rfl ?_
    refine E_getL 117 dX12_urgeOf_114 fl_X12_23 ac_88 rfl (by decide) lay_88_6 rfl ?_
    refine E_iload_n 118 dX12_urgeOf_117 rfl rfl ?_
    refine E_iald 119 dX12_urgeOf_118 ac_92 c1 rfl ?_
    refine E_conv ((su_ne (Or.inl (by decide))).trans ((su_ne (Or.inl (by decide))).trans ((su_ne (Or.inl (by decide))).trans ((su_ne (Or.inl (by decide))).trans (su_ne (Or.inl (by decide))))))) ?_
    refine E_isub 120 dX12_urgeOf_119 rfl ?_
    refine E_iast 121 dX12_urgeOf_120 ac_111 (by decide) rfl ?_
    refine E_aload_n 122 dX12_urgeOf_121 rfl (ac_88.bnd) rfl ?_
    refine E_getL 125 dX12_urgeOf_122 fl_X12_86 ac_88 rfl (by decide) lay_88_45 rfl ?_
    refine E_bipush 127 dX12_urgeOf_125 (by decide) rfl ?_
    refine E_aload_n 128 dX12_urgeOf_127 rfl (ac_88.bnd) rfl ?_
    refine E_getL 131 dX12_urgeOf_128 fl_X12_20 ac_88 rfl (by decide) lay_88_5 rfl ?_
    refine E_iload_n 132 dX12_urgeOf_131 rfl rfl ?_
    refine E_iald 133 dX12_urgeOf_132 ac_91 c1 rfl ?_
    refine E_conv ((su_ne (Or.inl (by decide))).trans ((su_ne (Or.inl (by decide))).trans ((su_ne (Or.inl (by decide))).trans ((su_ne (Or.inl (by decide))).trans ((su_ne (Or.inl (by decide))).trans (su_ne (Or.inl (by decide)))))))) ?_
    refine E_iast 134 dX12_urgeOf_133 ac_111 (by decide) rfl ?_
    refine E_aload_n 135 dX12_urgeOf_134 rfl (ac_88.bnd) rfl ?_
    refine E_iload_n 136 dX12_urgeOf_135 rfl rfl ?_
    refine E_callV (as := [(0, x1)]) 139 dX12_urgeOf_136 cf_X12_tells mw_1564 mw_1566 mw_80 ac_88 (by decide) cl_X12 rfl rfl (Nat.le_of_ble_eq_true rfl) (Nat.le_of_ble_eq_true rfl) ⟨Nat.le_refl _, Nat.le_refl _⟩ rfl (w.mono (fun r6 σ5 w => ?_))
    show XX g true (d + 1) P_X12_urgeOf 139 [(2, 88), (0, x1), (0, x2)] [(0, r6)] 136 σ5 136 Q
    exact E_iret dX12_urgeOf_139 rfl rfl w
  · have w := w.2 h
    refine E_aload_n 99 dX12_urgeOf_98 rfl (ac_88.bnd) rfl ?_
    refine E_get 12 102 dX12_urgeOf_99 fl_X12_334 ac_88 rfl (by decide) rfl rfl ?_
    refine E_conv ((su_ne (Or.inl (by decide))).trans ((su_ne (Or.inl (by decide))).trans ((su_ne (Or.inl (by decide))).trans ((su_ne (Or.inl (by decide))).trans (su_ne (Or.inl (by decide))))))) ?_
    refine E_iconst 103 dX12_urgeOf_102 (by decide) rfl ?_
    refine E_iadd 104 dX12_urgeOf_103 rfl ?_
    refine E_goto 120 dX12_urgeOf_104 rfl ?_
    refine E_iast 121 dX12_urgeOf_120 ac_111 (by decide) rfl ?_
    refine E_aload_n 122 dX12_urgeOf_121 rfl (ac_88.bnd) rfl ?_
    refine E_getL 125 dX12_urgeOf_122 fl_X12_86 ac_88 rfl (by decide) lay_88_45 rfl ?_
    refine E_bipush 127 dX12_urgeOf_125 (by decide) rfl ?_
    refine E_aload_n 128 dX12_urgeOf_127 rfl (ac_88.bnd) rfl ?_
    refine E_getL 131 dX12_urgeOf_128 fl_X12_20 ac_88 rfl (by decide) lay_88_5 rfl ?_
    refine E_iload_n 132 dX12_urgeOf_131 rfl rfl ?_
    refine E_iald 133 dX12_urgeOf_132 ac_91 c1 rfl ?_
    refine E_conv ((su_ne (Or.inl (by decide))).trans ((su_ne (Or.inl (by decide))).trans ((su_ne (Or.inl (by decide))).trans ((su_ne (Or.inl (by decide))).trans ((su_ne (Or.inl (by decide))).trans (su_ne (Or.inl (by decide)))))))) ?_
    refine E_iast 134 dX12_urgeOf_133 ac_111 (by decide) rfl ?_
    refine E_aload_n 135 dX12_urgeOf_134 rfl (ac_88.bnd) rfl ?_
    refine E_iload_n 136 dX12_urgeOf_135 rfl rfl ?_
    refine E_callV (as := [(0, x1)]) 139 dX12_urgeOf_136 cf_X12_tells mw_1564 mw_1566 mw_80 ac_88 (by decide) cl_X12 rfl rfl (Nat.le_of_ble_eq_true rfl) (Nat.le_of_ble_eq_true rfl) ⟨Nat.le_refl _, Nat.le_refl _⟩ rfl (w.mono (fun r8 σ7 w => ?_))
    show XX g true (d + 1) P_X12_urgeOf 139 [(2, 88), (0, x1), (0, x2)] [(0, r8)] 136 σ7 136 Q
    exact E_iret dX12_urgeOf_139 rfl rfl w
theorem B_X12_guessOf_0 {g : PG} {d : Nat} {σ : PS} {Q : Int → PS → Prop} {x1 : Int}  (w : (0 ≤ x1 ∧ x1 < 60) ∧ ((σ 92 x1 ≠ 0 → ((σ 93 x1 ≠ 1 → XX g true d P_X12_goesOf 0 [(2, 88), (0, σ 89 x1), (0, σ 90 x1), (0, 0), (0, x1), (0, σ 88 12), (9, 0)] [] 136 σ 136 (fun r3 σ2 => ∀ y4, y4 = w32 ((σ2 92 x1) - 1) → (XX g true (d + 1) P_X12_guessOf 64 [(2, 88), (9, 0), (0, 1000), (0, r3), (0, y4)] [] 136 σ2 136 Q))) ∧ (σ 93 x1 = 1 → Q 1000 σ))) ∧ (σ 92 x1 = 0 → Q 500 σ))) : XX g true (d + 1) P_X12_guessOf 0 [(2, 88), (0, x1), (9, 0), (9, 0), (9, 0)] [] 136 σ 136 Q := by
  refine E_aload_n 1 dX12_guessOf_0 rfl (ac_88.bnd) rfl ?_
  refine E_getL 4 dX12_guessOf_1 fl_X12_23 ac_88 rfl (by decide) lay_88_6 rfl ?_
  refine E_iload_n 5 dX12_guessOf_4 rfl rfl ?_
  obtain ⟨c1, w⟩ := w
  refine E_iald 6 dX12_guessOf_5 ac_92 c1 rfl ?_
  refine E_if_ne 9 13 dX12_guessOf_6 rfl rfl (fun h => ?_) (fun h => ?_)
  · have w := w.1 h
    refine E_aload_n 14 dX12_guessOf_13 rfl (ac_88.bnd) rfl ?_
    refine E_getL 17 dX12_guessOf_14 fl_X12_26 ac_88 rfl (by decide) lay_88_7 rfl ?_
    refine E_iload_n 18 dX12_guessOf_17 rfl rfl ?_
    refine E_iald 19 dX12_guessOf_18 ac_93 c1 rfl ?_
    refine E_iconst 20 dX12_guessOf_19 (by decide) rfl ?_
    refine E_icmp_ne 23 27 dX12_guessOf_20 rfl rfl (fun h => ?_) (fun h => ?_)
    · have w := w.1 h
      refine E_sipush 30 dX12_guessOf_27 (by decide) rfl ?_
      refine E_istore_n (ls' := [(2, 88), (0, x1), (0, 1000), (9, 0), (9, 0)]) 31 dX12_guessOf_30 (by decide) rfl rfl ?_
      refine E_aload_n 32 dX12_guessOf_31 rfl (ac_88.bnd) rfl ?_
      refine E_aload_n 33 dX12_guessOf_32 rfl (ac_88.bnd) rfl ?_
      refine E_getL 36 dX12_guessOf_33 fl_X12_13 ac_88 rfl (by decide) lay_88_3 rfl ?_
      refine E_iload_n 37 dX12_guessOf_36 rfl rfl ?_
      refine E_iald 38 dX12_guessOf_37 ac_89 c1 rfl ?_
      refine E_aload_n 39 dX12_guessOf_38 rfl (ac_88.bnd) rfl ?_
      refine E_getL 42 dX12_guessOf_39 fl_X12_17 ac_88 rfl (by decide) lay_88_4 rfl ?_
      refine E_iload_n 43 dX12_guessOf_42 rfl rfl ?_
      refine E_iald 44 dX12_guessOf_43 ac_90 c1 rfl ?_
      refine E_iconst 45 dX12_guessOf_44 (by decide) rfl ?_
      refine E_iload_n 46 dX12_guessOf_45 rfl rfl ?_
      refine E_aload_n 47 dX12_guessOf_46 rfl (ac_88.bnd) rfl ?_
      refine E_get 12 50 dX12_guessOf_47 fl_X12_334 ac_88 rfl (by decide) rfl rfl ?_
      refine E_callV (as := [(0, σ 89 x1), (0, σ 90 x1), (0, 0), (0, x1), (0, σ 88 12)]) 53 dX12_guessOf_50 cf_X12_goesOf mw_1556 mw_1558 mw_78 ac_88 (by decide) cl_X12 rfl rfl (Nat.le_of_ble_eq_true rfl) (Nat.le_of_ble_eq_true rfl) ⟨Nat.le_refl _, Nat.le_refl _⟩ rfl (w.mono (fun r3 σ2 w => ?_))
      show XX g true (d + 1) P_X12_guessOf 53 [(2, 88), (0, x1), (0, 1000), (9, 0), (9, 0)] [(0, r3)] 136 σ2 136 Q
      refine E_istore_n (ls' := [(2, 88), (0, x1), (0, 1000), (0, r3), (9, 0)]) 54 dX12_guessOf_53 (by decide) rfl rfl ?_
      refine E_aload_n 55 dX12_guessOf_54 rfl (ac_88.bnd) rfl ?_
      refine E_getL 58 dX12_guessOf_55 fl_X12_23 ac_88 rfl (by decide) lay_88_6 rfl ?_
      refine E_iload_n 59 dX12_guessOf_58 rfl rfl ?_
      refine E_iald 60 dX12_guessOf_59 ac_92 c1 rfl ?_
      refine E_iconst 61 dX12_guessOf_60 (by decide) rfl ?_
      refine E_isub 62 dX12_guessOf_61 rfl ?_
      refine E_top (fun y4 hy4 => ?_)
      have w := w y4 hy4
      refine E_istore (ls' := [(2, 88), (0, x1), (0, 1000), (0, r3), (0, y4)]) 64 dX12_guessOf_62 (by decide) rfl rfl ?_
      refine XX.fg [1] [(2, 88), (9, 0), (0, 1000), (0, r3), (0, y4)] rfl ?_
      with_reducible exact w
    · have w := w.2 h
      refine E_sipush 26 dX12_guessOf_23 (by decide) rfl ?_
      exact E_iret dX12_guessOf_26 rfl rfl w
  · have w := w.2 h
    refine E_sipush 12 dX12_guessOf_9 (by decide) rfl ?_
    exact E_iret dX12_guessOf_12 rfl rfl w
theorem B_X12_guessOf_64 {g : PG} {d : Nat} {σ : PS} {Q : Int → PS → Prop} {x2 x3 x4 : Int}  (w : ((σ 88 12 ≤ x4 → Q (w32 (1000 - x2)) σ) ∧ (x4 < σ 88 12 → ((x2 ≤ 0 → Q (w32 (1000 - x2)) σ) ∧ (0 < x2 → ((x3 ≤ 0 → Q (w32 (1000 - x2)) σ) ∧ (0 < x3 → ∀ y1, y1 = idiv (w32 (x2 * (w32 (1000 - x3)))) 1000 → (XX g true (d + 1) P_X12_guessOf 64 [(2, 88), (9, 0), (0, y1), (0, x3), (0, w32 (x4 + 1))] [] 136 σ 136 Q)))))))) : XX g true (d + 1) P_X12_guessOf 64 [(2, 88), (9, 0), (0, x2), (0, x3), (0, x4)] [] 136 σ 136 Q := by
  refine E_iload 66 dX12_guessOf_64 rfl rfl ?_
  refine E_aload_n 67 dX12_guessOf_66 rfl (ac_88.bnd) rfl ?_
  refine E_get 12 70 dX12_guessOf_67 fl_X12_334 ac_88 rfl (by decide) rfl rfl ?_
  refine E_icmp_ge 73 99 dX12_guessOf_70 rfl rfl (fun h => ?_) (fun h => ?_)
  · have w := w.1 h
    refine E_sipush 102 dX12_guessOf_99 (by decide) rfl ?_
    refine E_iload_n 103 dX12_guessOf_102 rfl rfl ?_
    refine E_isub 104 dX12_guessOf_103 rfl ?_
    exact E_iret dX12_guessOf_104 rfl rfl w
  · have w := w.2 h
    refine E_iload_n 74 dX12_guessOf_73 rfl rfl ?_
    refine E_if_le 77 99 dX12_guessOf_74 rfl rfl (fun h => ?_) (fun h => ?_)
    · have w := w.1 h
      refine E_sipush 102 dX12_guessOf_99 (by decide) rfl ?_
      refine E_iload_n 103 dX12_guessOf_102 rfl rfl ?_
      refine E_isub 104 dX12_guessOf_103 rfl ?_
      exact E_iret dX12_guessOf_104 rfl rfl w
    · have w := w.2 h
      refine E_iload_n 78 dX12_guessOf_77 rfl rfl ?_
      refine E_if_le 81 99 dX12_guessOf_78 rfl rfl (fun h => ?_) (fun h => ?_)
      · have w := w.1 h
        refine E_sipush 102 dX12_guessOf_99 (by decide) rfl ?_
        refine E_iload_n 103 dX12_guessOf_102 rfl rfl ?_
        refine E_isub 104 dX12_guessOf_103 rfl ?_
        exact E_iret dX12_guessOf_104 rfl rfl w
      · have w := w.2 h
        refine E_iload_n 82 dX12_guessOf_81 rfl rfl ?_
        refine E_sipush 85 dX12_guessOf_82 (by decide) rfl ?_
        refine E_iload_n 86 dX12_guessOf_85 rfl rfl ?_
        refine E_isub 87 dX12_guessOf_86 rfl ?_
        refine E_imul 88 dX12_guessOf_87 rfl ?_
        refine E_sipush 91 dX12_guessOf_88 (by decide) rfl ?_
        refine E_idiv 92 dX12_guessOf_91 (by decide) rfl ?_
        refine E_top (fun y1 hy1 => ?_)
        have w := w y1 hy1
        refine E_istore_n (ls' := [(2, 88), (9, 0), (0, y1), (0, x3), (0, x4)]) 93 dX12_guessOf_92 (by decide) rfl rfl ?_
        refine E_iinc (ls' := [(2, 88), (9, 0), (0, y1), (0, x3), (0, w32 (x4 + 1))]) 96 dX12_guessOf_93 (by decide) rfl rfl rfl ?_
        refine E_goto 64 dX12_guessOf_96 rfl ?_
        with_reducible exact w
theorem B_X12_isShape_0 {g : PG} {d : Nat} {σ : PS} {Q : Int → PS → Prop} {x1 x2 : Int}  (w : (0 ≤ x1 ∧ x1 < 16) ∧ ∀ y2, y2 = σ 108 x1 → (XX g true d P_X12_isShape 10 [(2, 88), (0, x1), (0, x2), (0, y2), (0, 0), (9, 0), (9, 0)] [] 136 σ 136 Q)) : XX g true d P_X12_isShape 0 [(2, 88), (0, x1), (0, x2), (9, 0), (9, 0), (9, 0), (9, 0)] [] 136 σ 136 Q := by
  refine E_aload_n 1 dX12_isShape_0 rfl (ac_88.bnd) rfl ?_
  refine E_getL 4 dX12_isShape_1 fl_X12_77 ac_88 rfl (by decide) lay_88_42 rfl ?_
  refine E_iload_n 5 dX12_isShape_4 rfl rfl ?_
  obtain ⟨c1, w⟩ := w
  refine E_iald 6 dX12_isShape_5 ac_108 c1 rfl ?_
  refine E_top (fun y2 hy2 => ?_)
  have w := w y2 hy2
  refine E_istore_n (ls' := [(2, 88), (0, x1), (0, x2), (0, y2), (9, 0), (9, 0), (9, 0)]) 7 dX12_isShape_6 (by decide) rfl rfl ?_
  refine E_iconst 8 dX12_isShape_7 (by decide) rfl ?_
  refine E_istore (ls' := [(2, 88), (0, x1), (0, x2), (0, y2), (0, 0), (9, 0), (9, 0)]) 10 dX12_isShape_8 (by decide) rfl rfl ?_
  with_reducible exact w
theorem B_X12_isShape_10 {g : PG} {d : Nat} {σ : PS} {Q : Int → PS → Prop} {x1 x2 x3 x4 : Int}  (w : ((x3 ≤ x4 → Q 1 σ) ∧ (x4 < x3 → (0 ≤ w32 ((w32 (8 * x1)) + x4) ∧ w32 ((w32 (8 * x1)) + x4) < 128) ∧ ∀ y2, y2 = σ 110 (w32 ((w32 (8 * x1)) + x4)) → ∀ y3, y3 = iand (ishr x2 (w32 ((w32 (x3 - 1)) - x4))) 1 → ((y2 ≠ 6 → ((y2 ≠ 7 → (XX g true d P_X12_isShape 10 [(2, 88), (0, x1), (0, x2), (0, x3), (0, w32 (x4 + 1)), (9, 0), (9, 0)] [] 136 σ 136 Q)) ∧ (y2 = 7 → ((y3 ≠ 1 → (XX g true d P_X12_isShape 10 [(2, 88), (0, x1), (0, x2), (0, x3), (0, w32 (x4 + 1)), (9, 0), (9, 0)] [] 136 σ 136 Q)) ∧ (y3 = 1 → Q 0 σ))))) ∧ (y2 = 6 → ((y3 = 0 → Q 0 σ) ∧ (y3 ≠ 0 → ((y2 ≠ 7 → (XX g true d P_X12_isShape 10 [(2, 88), (0, x1), (0, x2), (0, x3), (0, w32 (x4 + 1)), (9, 0), (9, 0)] [] 136 σ 136 Q)) ∧ (y2 = 7 → ((y3 ≠ 1 → (XX g true d P_X12_isShape 10 [(2, 88), (0, x1), (0, x2), (0, x3), (0, w32 (x4 + 1)), (9, 0), (9, 0)] [] 136 σ 136 Q)) ∧ (y3 = 1 → Q 0 σ))))))))))) : XX g true d P_X12_isShape 10 [(2, 88), (0, x1), (0, x2), (0, x3), (0, x4), (9, 0), (9, 0)] [] 136 σ 136 Q := by
  refine E_iload 12 dX12_isShape_10 rfl rfl ?_
  refine E_iload_n 13 dX12_isShape_12 rfl rfl ?_
  refine E_icmp_ge 16 75 dX12_isShape_13 rfl rfl (fun h => ?_) (fun h => ?_)
  · have w := w.1 h
    refine E_iconst 76 dX12_isShape_75 (by decide) rfl ?_
    exact E_zret dX12_isShape_76 rfl rfl (Or.inr rfl) w
  · have w := w.2 h
    refine E_aload_n 17 dX12_isShape_16 rfl (ac_88.bnd) rfl ?_
    refine E_getL 20 dX12_isShape_17 fl_X12_83 ac_88 rfl (by decide) lay_88_44 rfl ?_
    refine E_bipush 22 dX12_isShape_20 (by decide) rfl ?_
    refine E_iload_n 23 dX12_isShape_22 rfl rfl ?_
    refine E_imul 24 dX12_isShape_23 rfl ?_
    refine E_iload 26 dX12_isShape_24 rfl rfl ?_
    refine E_iadd 27 dX12_isShape_26 rfl ?_
    obtain ⟨c1, w⟩ := w
    refine E_iald 28 dX12_isShape_27 ac_110 c1 rfl ?_
    refine E_top (fun y2 hy2 => ?_)
    have w := w y2 hy2
    refine E_istore (ls' := [(2, 88), (0, x1), (0, x2), (0, x3), (0, x4), (0, y2), (9, 0)]) 30 dX12_isShape_28 (by decide) rfl rfl ?_
    refine E_iload_n 31 dX12_isShape_30 rfl rfl ?_
    refine E_iload_n 32 dX12_isShape_31 rfl rfl ?_
    refine E_iconst 33 dX12_isShape_32 (by decide) rfl ?_
    refine E_isub 34 dX12_isShape_33 rfl ?_
    refine E_iload 36 dX12_isShape_34 rfl rfl ?_
    refine E_isub 37 dX12_isShape_36 rfl ?_
    refine E_ishr 38 dX12_isShape_37 rfl ?_
    refine E_iconst 39 dX12_isShape_38 (by decide) rfl ?_
    refine E_iand 40 dX12_isShape_39 rfl ?_
    refine E_top (fun y3 hy3 => ?_)
    have w := w y3 hy3
    refine E_istore (ls' := [(2, 88), (0, x1), (0, x2), (0, x3), (0, x4), (0, y2), (0, y3)]) 42 dX12_isShape_40 (by decide) rfl rfl ?_
    refine E_iload 44 dX12_isShape_42 rfl rfl ?_
    refine E_bipush 46 dX12_isShape_44 (by decide) rfl ?_
    refine E_icmp_ne 49 54 dX12_isShape_46 rfl rfl (fun h => ?_) (fun h => ?_)
    · have w := w.1 h
      refine E_iload 56 dX12_isShape_54 rfl rfl ?_
      refine E_bipush 58 dX12_isShape_56 (by decide) rfl ?_
      refine E_icmp_ne 61 69 dX12_isShape_58 rfl rfl (fun h => ?_) (fun h => ?_)
      · have w := w.1 h
        refine E_iinc (ls' := [(2, 88), (0, x1), (0, x2), (0, x3), (0, w32 (x4 + 1)), (0, y2), (0, y3)]) 72 dX12_isShape_69 (by decide) rfl rfl rfl ?_
        refine E_goto 10 dX12_isShape_72 rfl ?_
        refine XX.fg [5, 6] [(2, 88), (0, x1), (0, x2), (0, x3), (0, w32 (x4 + 1)), (9, 0), (9, 0)] rfl ?_
        with_reducible exact w
      · have w := w.2 h
        refine E_iload 63 dX12_isShape_61 rfl rfl ?_
        refine E_iconst 64 dX12_isShape_63 (by decide) rfl ?_
        refine E_icmp_ne 67 69 dX12_isShape_64 rfl rfl (fun h => ?_) (fun h => ?_)
        · have w := w.1 h
          refine E_iinc (ls' := [(2, 88), (0, x1), (0, x2), (0, x3), (0, w32 (x4 + 1)), (0, y2), (0, y3)]) 72 dX12_isShape_69 (by decide) rfl rfl rfl ?_
          refine E_goto 10 dX12_isShape_72 rfl ?_
          refine XX.fg [5, 6] [(2, 88), (0, x1), (0, x2), (0, x3), (0, w32 (x4 + 1)), (9, 0), (9, 0)] rfl ?_
          with_reducible exact w
        · have w := w.2 h
          refine E_iconst 68 dX12_isShape_67 (by decide) rfl ?_
          exact E_zret dX12_isShape_68 rfl rfl (Or.inl rfl) w
    · have w := w.2 h
      refine E_iload 51 dX12_isShape_49 rfl rfl ?_
      refine E_if_eq 54 67 dX12_isShape_51 rfl rfl (fun h => ?_) (fun h => ?_)
      · have w := w.1 h
        refine E_iconst 68 dX12_isShape_67 (by decide) rfl ?_
        exact E_zret dX12_isShape_68 rfl rfl (Or.inl rfl) w
      · have w := w.2 h
        refine E_iload 56 dX12_isShape_54 rfl rfl ?_
        refine E_bipush 58 dX12_isShape_56 (by decide) rfl ?_
        refine E_icmp_ne 61 69 dX12_isShape_58 rfl rfl (fun h => ?_) (fun h => ?_)
        · have w := w.1 h
          refine E_iinc (ls' := [(2, 88), (0, x1), (0, x2), (0, x3), (0, w32 (x4 + 1)), (0, y2), (0, y3)]) 72 dX12_isShape_69 (by decide) rfl rfl rfl ?_
          refine E_goto 10 dX12_isShape_72 rfl ?_
          refine XX.fg [5, 6] [(2, 88), (0, x1), (0, x2), (0, x3), (0, w32 (x4 + 1)), (9, 0), (9, 0)] rfl ?_
          with_reducible exact w
        · have w := w.2 h
          refine E_iload 63 dX12_isShape_61 rfl rfl ?_
          refine E_iconst 64 dX12_isShape_63 (by decide) rfl ?_
          refine E_icmp_ne 67 69 dX12_isShape_64 rfl rfl (fun h => ?_) (fun h => ?_)
          · have w := w.1 h
            refine E_iinc (ls' := [(2, 88), (0, x1), (0, x2), (0, x3), (0, w32 (x4 + 1)), (0, y2), (0, y3)]) 72 dX12_isShape_69 (by decide) rfl rfl rfl ?_
            refine E_goto 10 dX12_isShape_72 rfl ?_
            refine XX.fg [5, 6] [(2, 88), (0, x1), (0, x2), (0, x3), (0, w32 (x4 + 1)), (9, 0), (9, 0)] rfl ?_
            with_reducible exact w
          · have w := w.2 h
            refine E_iconst 68 dX12_isShape_67 (by decide) rfl ?_
            exact E_zret dX12_isShape_68 rfl rfl (Or.inl rfl) w
theorem B_X12_isMet_0 {g : PG} {d : Nat} {σ : PS} {Q : Int → PS → Prop} {x1 x2 : Int}  (w : (XX g true (d + 1) P_X12_isMet 2 [(2, 88), (0, x1), (0, x2), (0, 0), (9, 0)] [] 136 σ 136 Q)) : XX g true (d + 1) P_X12_isMet 0 [(2, 88), (0, x1), (0, x2), (9, 0), (9, 0)] [] 136 σ 136 Q := by
  refine E_iconst 1 dX12_isMet_0 (by decide) rfl ?_
  refine E_istore_n (ls' := [(2, 88), (0, x1), (0, x2), (0, 0), (9, 0)]) 2 dX12_isMet_1 (by decide) rfl rfl ?_
  with_reducible exact w
theorem B_X12_isMet_2 {g : PG} {d : Nat} {σ : PS} {Q : Int → PS → Prop} {x1 x2 x3 : Int}  (w : ((σ 88 40 ≤ x3 → Q 0 σ) ∧ (x3 < σ 88 40 → (0 ≤ x3 ∧ x3 < 16) ∧ ∀ y2, y2 = σ 108 x3 → ((σ 107 x3 ≠ 2 → ((σ 107 x3 ≠ 3 → ((σ 107 x3 ≠ 5 → (XX g true (d + 1) P_X12_isMet 2 [(2, 88), (0, x1), (0, x2), (0, w32 (x3 + 1)), (9, 0)] [] 136 σ 136 Q)) ∧ (σ 107 x3 = 5 → ((x2 < y2 → (XX g true (d + 1) P_X12_isMet 2 [(2, 88), (0, x1), (0, x2), (0, w32 (x3 + 1)), (9, 0)] [] 136 σ 136 Q)) ∧ (y2 ≤ x2 → XX g true d P_X12_isShape 0 [(2, 88), (0, x3), (0, x1), (9, 0), (9, 0), (9, 0), (9, 0)] [] 136 σ 136 (fun r4 σ3 => ((r4 = 0 → (XX g true (d + 1) P_X12_isMet 2 [(2, 88), (0, x1), (0, x2), (0, w32 (x3 + 1)), (9, 0)] [] 136 σ3 136 Q)) ∧ (r4 ≠ 0 → Q 1 σ3)))))))) ∧ (σ 107 x3 = 3 → XX g true d P_X12_ones 0 [(2, 88), (0, iand x1 (w32 ((ishl 1 (σ 109 x3)) - 1))), (9, 0), (9, 0)] [] 136 σ 136 (fun r6 σ5 => ((r6 < y2 → ((σ5 107 x3 ≠ 5 → (XX g true (d + 1) P_X12_isMet 2 [(2, 88), (0, x1), (0, x2), (0, w32 (x3 + 1)), (9, 0)] [] 136 σ5 136 Q)) ∧ (σ5 107 x3 = 5 → ((x2 < y2 → (XX g true (d + 1) P_X12_isMet 2 [(2, 88), (0, x1), (0, x2), (0, w32 (x3 + 1)), (9, 0)] [] 136 σ5 136 Q)) ∧ (y2 ≤ x2 → XX g true d P_X12_isShape 0 [(2, 88), (0, x3), (0, x1), (9, 0), (9, 0), (9, 0), (9, 0)] [] 136 σ5 136 (fun r8 σ7 => ((r8 = 0 → (XX g true (d + 1) P_X12_isMet 2 [(2, 88), (0, x1), (0, x2), (0, w32 (x3 + 1)), (9, 0)] [] 136 σ7 136 Q)) ∧ (r8 ≠ 0 → Q 1 σ7)))))))) ∧ (y2 ≤ r6 → Q 1 σ5)))))) ∧ (σ 107 x3 = 2 → ((x2 < y2 → ((σ 107 x3 ≠ 3 → ((σ 107 x3 ≠ 5 → (XX g true (d + 1) P_X12_isMet 2 [(2, 88), (0, x1), (0, x2), (0, w32 (x3 + 1)), (9, 0)] [] 136 σ 136 Q)) ∧ (σ 107 x3 = 5 → ((x2 < y2 → (XX g true (d + 1) P_X12_isMet 2 [(2, 88), (0, x1), (0, x2), (0, w32 (x3 + 1)), (9, 0)] [] 136 σ 136 Q)) ∧ (y2 ≤ x2 → XX g true d P_X12_isShape 0 [(2, 88), (0, x3), (0, x1), (9, 0), (9, 0), (9, 0), (9, 0)] [] 136 σ 136 (fun r10 σ9 => ((r10 = 0 → (XX g true (d + 1) P_X12_isMet 2 [(2, 88), (0, x1), (0, x2), (0, w32 (x3 + 1)), (9, 0)] [] 136 σ9 136 Q)) ∧ (r10 ≠ 0 → Q 1 σ9)))))))) ∧ (σ 107 x3 = 3 → XX g true d P_X12_ones 0 [(2, 88), (0, iand x1 (w32 ((ishl 1 (σ 109 x3)) - 1))), (9, 0), (9, 0)] [] 136 σ 136 (fun r12 σ11 => ((r12 < y2 → ((σ11 107 x3 ≠ 5 → (XX g true (d + 1) P_X12_isMet 2 [(2, 88), (0, x1), (0, x2), (0, w32 (x3 + 1)), (9, 0)] [] 136 σ11 136 Q)) ∧ (σ11 107 x3 = 5 → ((x2 < y2 → (XX g true (d + 1) P_X12_isMet 2 [(2, 88), (0, x1), (0, x2), (0, w32 (x3 + 1)), (9, 0)] [] 136 σ11 136 Q)) ∧ (y2 ≤ x2 → XX g true d P_X12_isShape 0 [(2, 88), (0, x3), (0, x1), (9, 0), (9, 0), (9, 0), (9, 0)] [] 136 σ11 136 (fun r14 σ13 => ((r14 = 0 → (XX g true (d + 1) P_X12_isMet 2 [(2, 88), (0, x1), (0, x2), (0, w32 (x3 + 1)), (9, 0)] [] 136 σ13 136 Q)) ∧ (r14 ≠ 0 → Q 1 σ13)))))))) ∧ (y2 ≤ r12 → Q 1 σ11)))))) ∧ (y2 ≤ x2 → ((iand x1 (w32 ((ishl 1 y2) - 1)) ≠ w32 ((ishl 1 y2) - 1) → ((σ 107 x3 ≠ 3 → ((σ 107 x3 ≠ 5 → (XX g true (d + 1) P_X12_isMet 2 [(2, 88), (0, x1), (0, x2), (0, w32 (x3 + 1)), (9, 0)] [] 136 σ 136 Q)) ∧ (σ 107 x3 = 5 → ((x2 < y2 → (XX g true (d + 1) P_X12_isMet 2 [(2, 88), (0, x1), (0, x2), (0, w32 (x3 + 1)), (9, 0)] [] 136 σ 136 Q)) ∧ (y2 ≤ x2 → XX g true d P_X12_isShape 0 [(2, 88), (0, x3), (0, x1), (9, 0), (9, 0), (9, 0), (9, 0)] [] 136 σ 136 (fun r16 σ15 => ((r16 = 0 → (XX g true (d + 1) P_X12_isMet 2 [(2, 88), (0, x1), (0, x2), (0, w32 (x3 + 1)), (9, 0)] [] 136 σ15 136 Q)) ∧ (r16 ≠ 0 → Q 1 σ15)))))))) ∧ (σ 107 x3 = 3 → XX g true d P_X12_ones 0 [(2, 88), (0, iand x1 (w32 ((ishl 1 (σ 109 x3)) - 1))), (9, 0), (9, 0)] [] 136 σ 136 (fun r18 σ17 => ((r18 < y2 → ((σ17 107 x3 ≠ 5 → (XX g true (d + 1) P_X12_isMet 2 [(2, 88), (0, x1), (0, x2), (0, w32 (x3 + 1)), (9, 0)] [] 136 σ17 136 Q)) ∧ (σ17 107 x3 = 5 → ((x2 < y2 → (XX g true (d + 1) P_X12_isMet 2 [(2, 88), (0, x1), (0, x2), (0, w32 (x3 + 1)), (9, 0)] [] 136 σ17 136 Q)) ∧ (y2 ≤ x2 → XX g true d P_X12_isShape 0 [(2, 88), (0, x3), (0, x1), (9, 0), (9, 0), (9, 0), (9, 0)] [] 136 σ17 136 (fun r20 σ19 => ((r20 = 0 → (XX g true (d + 1) P_X12_isMet 2 [(2, 88), (0, x1), (0, x2), (0, w32 (x3 + 1)), (9, 0)] [] 136 σ19 136 Q)) ∧ (r20 ≠ 0 → Q 1 σ19)))))))) ∧ (y2 ≤ r18 → Q 1 σ17)))))) ∧ (iand x1 (w32 ((ishl 1 y2) - 1)) = w32 ((ishl 1 y2) - 1) → Q 1 σ))))))))) : XX g true (d + 1) P_X12_isMet 2 [(2, 88), (0, x1), (0, x2), (0, x3), (9, 0)] [] 136 σ 136 Q := by
  refine E_iload_n 3 dX12_isMet_2 rfl rfl ?_
  refine E_aload_n 4 dX12_isMet_3 rfl (ac_88.bnd) rfl ?_
  refine E_get 40 7 dX12_isMet_4 fl_X12_300 ac_88 rfl (by decide) rfl rfl ?_
  refine E_icmp_ge 10 119 dX12_isMet_7 rfl rfl (fun h => ?_) (fun h => ?_)
  · have w := w.1 h
    refine E_iconst 120 dX12_isMet_119 (by decide) rfl ?_
    exact E_zret dX12_isMet_120 rfl rfl (Or.inl rfl) w
  · have w := w.2 h
    refine E_aload_n 11 dX12_isMet_10 rfl (ac_88.bnd) rfl ?_
    refine E_getL 14 dX12_isMet_11 fl_X12_77 ac_88 rfl (by decide) lay_88_42 rfl ?_
    refine E_iload_n 15 dX12_isMet_14 rfl rfl ?_
    obtain ⟨c1, w⟩ := w
    refine E_iald 16 dX12_isMet_15 ac_108 c1 rfl ?_
    refine E_top (fun y2 hy2 => ?_)
    have w := w y2 hy2
    refine E_istore (ls' := [(2, 88), (0, x1), (0, x2), (0, x3), (0, y2)]) 18 dX12_isMet_16 (by decide) rfl rfl ?_
    refine E_aload_n 19 dX12_isMet_18 rfl (ac_88.bnd) rfl ?_
    refine E_getL 22 dX12_isMet_19 fl_X12_74 ac_88 rfl (by decide) lay_88_41 rfl ?_
    refine E_iload_n 23 dX12_isMet_22 rfl rfl ?_
    refine E_iald 24 dX12_isMet_23 ac_107 c1 rfl ?_
    refine E_iconst 25 dX12_isMet_24 (by decide) rfl ?_
    refine E_icmp_ne 28 53 dX12_isMet_25 rfl rfl (fun h => ?_) (fun h => ?_)
    · have w := w.1 h
      refine E_aload_n 54 dX12_isMet_53 rfl (ac_88.bnd) rfl ?_
      refine E_getL 57 dX12_isMet_54 fl_X12_74 ac_88 rfl (by decide) lay_88_41 rfl ?_
      refine E_iload_n 58 dX12_isMet_57 rfl rfl ?_
      refine E_iald 59 dX12_isMet_58 ac_107 c1 rfl ?_
      refine E_iconst 60 dX12_isMet_59 (by decide) rfl ?_
      refine E_icmp_ne 63 86 dX12_isMet_60 rfl rfl (fun h => ?_) (fun h => ?_)
      · have w := w.1 h
        refine E_aload_n 87 dX12_isMet_86 rfl (ac_88.bnd) rfl ?_
        refine E_getL 90 dX12_isMet_87 fl_X12_74 ac_88 rfl (by decide) lay_88_41 rfl ?_
        refine E_iload_n 91 dX12_isMet_90 rfl rfl ?_
        refine E_iald 92 dX12_isMet_91 ac_107 c1 rfl ?_
        refine E_iconst 93 dX12_isMet_92 (by decide) rfl ?_
        refine E_icmp_ne 96 113 dX12_isMet_93 rfl rfl (fun h => ?_) (fun h => ?_)
        · have w := w.1 h
          refine E_iinc (ls' := [(2, 88), (0, x1), (0, x2), (0, w32 (x3 + 1)), (0, y2)]) 116 dX12_isMet_113 (by decide) rfl rfl rfl ?_
          refine E_goto 2 dX12_isMet_116 rfl ?_
          refine XX.fg [4] [(2, 88), (0, x1), (0, x2), (0, w32 (x3 + 1)), (9, 0)] rfl ?_
          with_reducible exact w
        · have w := w.2 h
          refine E_iload_n 97 dX12_isMet_96 rfl rfl ?_
          refine E_iload 99 dX12_isMet_97 rfl rfl ?_
          refine E_icmp_lt 102 113 dX12_isMet_99 rfl rfl (fun h => ?_) (fun h => ?_)
          · have w := w.1 h
            refine E_iinc (ls' := [(2, 88), (0, x1), (0, x2), (0, w32 (x3 + 1)), (0, y2)]) 116 dX12_isMet_113 (by decide) rfl rfl rfl ?_
            refine E_goto 2 dX12_isMet_116 rfl ?_
            refine XX.fg [4] [(2, 88), (0, x1), (0, x2), (0, w32 (x3 + 1)), (9, 0)] rfl ?_
            with_reducible exact w
          · have w := w.2 h
            refine E_aload_n 103 dX12_isMet_102 rfl (ac_88.bnd) rfl ?_
            refine E_iload_n 104 dX12_isMet_103 rfl rfl ?_
            refine E_iload_n 105 dX12_isMet_104 rfl rfl ?_
            refine E_callV (as := [(0, x3), (0, x1)]) 108 dX12_isMet_105 cf_X12_isShape mw_1536 mw_1538 mw_74 ac_88 (by decide) cl_X12 rfl rfl (Nat.le_of_ble_eq_true rfl) (Nat.le_of_ble_eq_true rfl) ⟨Nat.le_refl _, Nat.le_refl _⟩ rfl (w.mono (fun r4 σ3 w => ?_))
            show XX g true (d + 1) P_X12_isMet 108 [(2, 88), (0, x1), (0, x2), (0, x3), (0, y2)] [(0, r4)] 136 σ3 136 Q
            refine E_if_eq 111 113 dX12_isMet_108 rfl rfl (fun h => ?_) (fun h => ?_)
            · have w := w.1 h
              refine E_iinc (ls' := [(2, 88), (0, x1), (0, x2), (0, w32 (x3 + 1)), (0, y2)]) 116 dX12_isMet_113 (by decide) rfl rfl rfl ?_
              refine E_goto 2 dX12_isMet_116 rfl ?_
              refine XX.fg [4] [(2, 88), (0, x1), (0, x2), (0, w32 (x3 + 1)), (9, 0)] rfl ?_
              with_reducible exact w
            · have w := w.2 h
              refine E_iconst 112 dX12_isMet_111 (by decide) rfl ?_
              exact E_zret dX12_isMet_112 rfl rfl (Or.inr rfl) w
      · have w := w.2 h
        refine E_aload_n 64 dX12_isMet_63 rfl (ac_88.bnd) rfl ?_
        refine E_iload_n 65 dX12_isMet_64 rfl rfl ?_
        refine E_iconst 66 dX12_isMet_65 (by decide) rfl ?_
        refine E_aload_n 67 dX12_isMet_66 rfl (ac_88.bnd) rfl ?_
        refine E_getL 70 dX12_isMet_67 fl_X12_80 ac_88 rfl (by decide) lay_88_43 rfl ?_
        refine E_iload_n 71 dX12_isMet_70 rfl rfl ?_
        refine E_iald 72 dX12_isMet_71 ac_109 c1 rfl ?_
        refine E_ishl 73 dX12_isMet_72 rfl ?_
        refine E_iconst 74 dX12_isMet_73 (by decide) rfl ?_
        refine E_isub 75 dX12_isMet_74 rfl ?_
        refine E_iand 76 dX12_isMet_75 rfl ?_
        refine E_callV (as := [(0, iand x1 (w32 ((ishl 1 (σ 109 x3)) - 1)))]) 79 dX12_isMet_76 cf_X12_ones mw_1532 mw_1534 mw_73 ac_88 (by decide) cl_X12 rfl rfl (Nat.le_of_ble_eq_true rfl) (Nat.le_of_ble_eq_true rfl) ⟨Nat.le_refl _, Nat.le_refl _⟩ rfl (w.mono (fun r6 σ5 w => ?_))
        show XX g true (d + 1) P_X12_isMet 79 [(2, 88), (0, x1), (0, x2), (0, x3), (0, y2)] [(0, r6)] 136 σ5 136 Q
        refine E_iload 81 dX12_isMet_79 rfl rfl ?_
        refine E_icmp_lt 84 86 dX12_isMet_81 rfl rfl (fun h => ?_) (fun h => ?_)
        · have w := w.1 h
          refine E_aload_n 87 dX12_isMet_86 rfl (ac_88.bnd) rfl ?_
          refine E_getL 90 dX12_isMet_87 fl_X12_74 ac_88 rfl (by decide) lay_88_41 rfl ?_
          refine E_iload_n 91 dX12_isMet_90 rfl rfl ?_
          refine E_iald 92 dX12_isMet_91 ac_107 c1 rfl ?_
          refine E_iconst 93 dX12_isMet_92 (by decide) rfl ?_
          refine E_icmp_ne 96 113 dX12_isMet_93 rfl rfl (fun h => ?_) (fun h => ?_)
          · have w := w.1 h
            refine E_iinc (ls' := [(2, 88), (0, x1), (0, x2), (0, w32 (x3 + 1)), (0, y2)]) 116 dX12_isMet_113 (by decide) rfl rfl rfl ?_
            refine E_goto 2 dX12_isMet_116 rfl ?_
            refine XX.fg [4] [(2, 88), (0, x1), (0, x2), (0, w32 (x3 + 1)), (9, 0)] rfl ?_
            with_reducible exact w
          · have w := w.2 h
            refine E_iload_n 97 dX12_isMet_96 rfl rfl ?_
            refine E_iload 99 dX12_isMet_97 rfl rfl ?_
            refine E_icmp_lt 102 113 dX12_isMet_99 rfl rfl (fun h => ?_) (fun h => ?_)
            · have w := w.1 h
              refine E_iinc (ls' := [(2, 88), (0, x1), (0, x2), (0, w32 (x3 + 1)), (0, y2)]) 116 dX12_isMet_113 (by decide) rfl rfl rfl ?_
              refine E_goto 2 dX12_isMet_116 rfl ?_
              refine XX.fg [4] [(2, 88), (0, x1), (0, x2), (0, w32 (x3 + 1)), (9, 0)] rfl ?_
              with_reducible exact w
            · have w := w.2 h
              refine E_aload_n 103 dX12_isMet_102 rfl (ac_88.bnd) rfl ?_
              refine E_iload_n 104 dX12_isMet_103 rfl rfl ?_
              refine E_iload_n 105 dX12_isMet_104 rfl rfl ?_
              refine E_callV (as := [(0, x3), (0, x1)]) 108 dX12_isMet_105 cf_X12_isShape mw_1536 mw_1538 mw_74 ac_88 (by decide) cl_X12 rfl rfl (Nat.le_of_ble_eq_true rfl) (Nat.le_of_ble_eq_true rfl) ⟨Nat.le_refl _, Nat.le_refl _⟩ rfl (w.mono (fun r8 σ7 w => ?_))
              show XX g true (d + 1) P_X12_isMet 108 [(2, 88), (0, x1), (0, x2), (0, x3), (0, y2)] [(0, r8)] 136 σ7 136 Q
              refine E_if_eq 111 113 dX12_isMet_108 rfl rfl (fun h => ?_) (fun h => ?_)
              · have w := w.1 h
                refine E_iinc (ls' := [(2, 88), (0, x1), (0, x2), (0, w32 (x3 + 1)), (0, y2)]) 116 dX12_isMet_113 (by decide) rfl rfl rfl ?_
                refine E_goto 2 dX12_isMet_116 rfl ?_
                refine XX.fg [4] [(2, 88), (0, x1), (0, x2), (0, w32 (x3 + 1)), (9, 0)] rfl ?_
                with_reducible exact w
              · have w := w.2 h
                refine E_iconst 112 dX12_isMet_111 (by decide) rfl ?_
                exact E_zret dX12_isMet_112 rfl rfl (Or.inr rfl) w
        · have w := w.2 h
          refine E_iconst 85 dX12_isMet_84 (by decide) rfl ?_
          exact E_zret dX12_isMet_85 rfl rfl (Or.inr rfl) w
    · have w := w.2 h
      refine E_iload_n 29 dX12_isMet_28 rfl rfl ?_
      refine E_iload 31 dX12_isMet_29 rfl rfl ?_
      refine E_icmp_lt 34 53 dX12_isMet_31 rfl rfl (fun h => ?_) (fun h => ?_)
      · have w := w.1 h
        refine E_aload_n 54 dX12_isMet_53 rfl (ac_88.bnd) rfl ?_
        refine E_getL 57 dX12_isMet_54 fl_X12_74 ac_88 rfl (by decide) lay_88_41 rfl ?_
        refine E_iload_n 58 dX12_isMet_57 rfl rfl ?_
        refine E_iald 59 dX12_isMet_58 ac_107 c1 rfl ?_
        refine E_iconst 60 dX12_isMet_59 (by decide) rfl ?_
        refine E_icmp_ne 63 86 dX12_isMet_60 rfl rfl (fun h => ?_) (fun h => ?_)
        · have w := w.1 h
          refine E_aload_n 87 dX12_isMet_86 rfl (ac_88.bnd) rfl ?_
          refine E_getL 90 dX12_isMet_87 fl_X12_74 ac_88 rfl (by decide) lay_88_41 rfl ?_
          refine E_iload_n 91 dX12_isMet_90 rfl rfl ?_
          refine E_iald 92 dX12_isMet_91 ac_107 c1 rfl ?_
          refine E_iconst 93 dX12_isMet_92 (by decide) rfl ?_
          refine E_icmp_ne 96 113 dX12_isMet_93 rfl rfl (fun h => ?_) (fun h => ?_)
          · have w := w.1 h
            refine E_iinc (ls' := [(2, 88), (0, x1), (0, x2), (0, w32 (x3 + 1)), (0, y2)]) 116 dX12_isMet_113 (by decide) rfl rfl rfl ?_
            refine E_goto 2 dX12_isMet_116 rfl ?_
            refine XX.fg [4] [(2, 88), (0, x1), (0, x2), (0, w32 (x3 + 1)), (9, 0)] rfl ?_
            with_reducible exact w
          · have w := w.2 h
            refine E_iload_n 97 dX12_isMet_96 rfl rfl ?_
            refine E_iload 99 dX12_isMet_97 rfl rfl ?_
            refine E_icmp_lt 102 113 dX12_isMet_99 rfl rfl (fun h => ?_) (fun h => ?_)
            · have w := w.1 h
              refine E_iinc (ls' := [(2, 88), (0, x1), (0, x2), (0, w32 (x3 + 1)), (0, y2)]) 116 dX12_isMet_113 (by decide) rfl rfl rfl ?_
              refine E_goto 2 dX12_isMet_116 rfl ?_
              refine XX.fg [4] [(2, 88), (0, x1), (0, x2), (0, w32 (x3 + 1)), (9, 0)] rfl ?_
              with_reducible exact w
            · have w := w.2 h
              refine E_aload_n 103 dX12_isMet_102 rfl (ac_88.bnd) rfl ?_
              refine E_iload_n 104 dX12_isMet_103 rfl rfl ?_
              refine E_iload_n 105 dX12_isMet_104 rfl rfl ?_
              refine E_callV (as := [(0, x3), (0, x1)]) 108 dX12_isMet_105 cf_X12_isShape mw_1536 mw_1538 mw_74 ac_88 (by decide) cl_X12 rfl rfl (Nat.le_of_ble_eq_true rfl) (Nat.le_of_ble_eq_true rfl) ⟨Nat.le_refl _, Nat.le_refl _⟩ rfl (w.mono (fun r10 σ9 w => ?_))
              show XX g true (d + 1) P_X12_isMet 108 [(2, 88), (0, x1), (0, x2), (0, x3), (0, y2)] [(0, r10)] 136 σ9 136 Q
              refine E_if_eq 111 113 dX12_isMet_108 rfl rfl (fun h => ?_) (fun h => ?_)
              · have w := w.1 h
                refine E_iinc (ls' := [(2, 88), (0, x1), (0, x2), (0, w32 (x3 + 1)), (0, y2)]) 116 dX12_isMet_113 (by decide) rfl rfl rfl ?_
                refine E_goto 2 dX12_isMet_116 rfl ?_
                refine XX.fg [4] [(2, 88), (0, x1), (0, x2), (0, w32 (x3 + 1)), (9, 0)] rfl ?_
                with_reducible exact w
              · have w := w.2 h
                refine E_iconst 112 dX12_isMet_111 (by decide) rfl ?_
                exact E_zret dX12_isMet_112 rfl rfl (Or.inr rfl) w
        · have w := w.2 h
          refine E_aload_n 64 dX12_isMet_63 rfl (ac_88.bnd) rfl ?_
          refine E_iload_n 65 dX12_isMet_64 rfl rfl ?_
          refine E_iconst 66 dX12_isMet_65 (by decide) rfl ?_
          refine E_aload_n 67 dX12_isMet_66 rfl (ac_88.bnd) rfl ?_
          refine E_getL 70 dX12_isMet_67 fl_X12_80 ac_88 rfl (by decide) lay_88_43 rfl ?_
          refine E_iload_n 71 dX12_isMet_70 rfl rfl ?_
          refine E_iald 72 dX12_isMet_71 ac_109 c1 rfl ?_
          refine E_ishl 73 dX12_isMet_72 rfl ?_
          refine E_iconst 74 dX12_isMet_73 (by decide) rfl ?_
          refine E_isub 75 dX12_isMet_74 rfl ?_
          refine E_iand 76 dX12_isMet_75 rfl ?_
          refine E_callV (as := [(0, iand x1 (w32 ((ishl 1 (σ 109 x3)) - 1)))]) 79 dX12_isMet_76 cf_X12_ones mw_1532 mw_1534 mw_73 ac_88 (by decide) cl_X12 rfl rfl (Nat.le_of_ble_eq_true rfl) (Nat.le_of_ble_eq_true rfl) ⟨Nat.le_refl _, Nat.le_refl _⟩ rfl (w.mono (fun r12 σ11 w => ?_))
          show XX g true (d + 1) P_X12_isMet 79 [(2, 88), (0, x1), (0, x2), (0, x3), (0, y2)] [(0, r12)] 136 σ11 136 Q
          refine E_iload 81 dX12_isMet_79 rfl rfl ?_
          refine E_icmp_lt 84 86 dX12_isMet_81 rfl rfl (fun h => ?_) (fun h => ?_)
          · have w := w.1 h
            refine E_aload_n 87 dX12_isMet_86 rfl (ac_88.bnd) rfl ?_
            refine E_getL 90 dX12_isMet_87 fl_X12_74 ac_88 rfl (by decide) lay_88_41 rfl ?_
            refine E_iload_n 91 dX12_isMet_90 rfl rfl ?_
            refine E_iald 92 dX12_isMet_91 ac_107 c1 rfl ?_
            refine E_iconst 93 dX12_isMet_92 (by decide) rfl ?_
            refine E_icmp_ne 96 113 dX12_isMet_93 rfl rfl (fun h => ?_) (fun h => ?_)
            · have w := w.1 h
              refine E_iinc (ls' := [(2, 88), (0, x1), (0, x2), (0, w32 (x3 + 1)), (0, y2)]) 116 dX12_isMet_113 (by decide) rfl rfl rfl ?_
              refine E_goto 2 dX12_isMet_116 rfl ?_
              refine XX.fg [4] [(2, 88), (0, x1), (0, x2), (0, w32 (x3 + 1)), (9, 0)] rfl ?_
              with_reducible exact w
            · have w := w.2 h
              refine E_iload_n 97 dX12_isMet_96 rfl rfl ?_
              refine E_iload 99 dX12_isMet_97 rfl rfl ?_
              refine E_icmp_lt 102 113 dX12_isMet_99 rfl rfl (fun h => ?_) (fun h => ?_)
              · have w := w.1 h
                refine E_iinc (ls' := [(2, 88), (0, x1), (0, x2), (0, w32 (x3 + 1)), (0, y2)]) 116 dX12_isMet_113 (by decide) rfl rfl rfl ?_
                refine E_goto 2 dX12_isMet_116 rfl ?_
                refine XX.fg [4] [(2, 88), (0, x1), (0, x2), (0, w32 (x3 + 1)), (9, 0)] rfl ?_
                with_reducible exact w
              · have w := w.2 h
                refine E_aload_n 103 dX12_isMet_102 rfl (ac_88.bnd) rfl ?_
                refine E_iload_n 104 dX12_isMet_103 rfl rfl ?_
                refine E_iload_n 105 dX12_isMet_104 rfl rfl ?_
                refine E_callV (as := [(0, x3), (0, x1)]) 108 dX12_isMet_105 cf_X12_isShape mw_1536 mw_1538 mw_74 ac_88 (by decide) cl_X12 rfl rfl (Nat.le_of_ble_eq_true rfl) (Nat.le_of_ble_eq_true rfl) ⟨Nat.le_refl _, Nat.le_refl _⟩ rfl (w.mono (fun r14 σ13 w => ?_))
                show XX g true (d + 1) P_X12_isMet 108 [(2, 88), (0, x1), (0, x2), (0, x3), (0, y2)] [(0, r14)] 136 σ13 136 Q
                refine E_if_eq 111 113 dX12_isMet_108 rfl rfl (fun h => ?_) (fun h => ?_)
                · have w := w.1 h
                  refine E_iinc (ls' := [(2, 88), (0, x1), (0, x2), (0, w32 (x3 + 1)), (0, y2)]) 116 dX12_isMet_113 (by decide) rfl rfl rfl ?_
                  refine E_goto 2 dX12_isMet_116 rfl ?_
                  refine XX.fg [4] [(2, 88), (0, x1), (0, x2), (0, w32 (x3 + 1)), (9, 0)] rfl ?_
                  with_reducible exact w
                · have w := w.2 h
                  refine E_iconst 112 dX12_isMet_111 (by decide) rfl ?_
                  exact E_zret dX12_isMet_112 rfl rfl (Or.inr rfl) w
          · have w := w.2 h
            refine E_iconst 85 dX12_isMet_84 (by decide) rfl ?_
            exact E_zret dX12_isMet_85 rfl rfl (Or.inr rfl) w
      · have w := w.2 h
        refine E_iload_n 35 dX12_isMet_34 rfl rfl ?_
        refine E_iconst 36 dX12_isMet_35 (by decide) rfl ?_
        refine E_iload 38 dX12_isMet_36 rfl rfl ?_
        refine E_ishl 39 dX12_isMet_38 rfl ?_
        refine E_iconst 40 dX12_isMet_39 (by decide) rfl ?_
        refine E_isub 41 dX12_isMet_40 rfl ?_
        refine E_iand 42 dX12_isMet_41 rfl ?_
        refine E_iconst 43 dX12_isMet_42 (by decide) rfl ?_
        refine E_iload 45 dX12_isMet_43 rfl rfl ?_
        refine E_ishl 46 dX12_isMet_45 rfl ?_
        refine E_iconst 47 dX12_isMet_46 (by decide) rfl ?_
        refine E_isub 48 dX12_isMet_47 rfl ?_
        refine E_icmp_ne 51 53 dX12_isMet_48 rfl rfl (fun h => ?_) (fun h => ?_)
        · have w := w.1 h
          refine E_aload_n 54 dX12_isMet_53 rfl (ac_88.bnd) rfl ?_
          refine E_getL 57 dX12_isMet_54 fl_X12_74 ac_88 rfl (by decide) lay_88_41 rfl ?_
          refine E_iload_n 58 dX12_isMet_57 rfl rfl ?_
          refine E_iald 59 dX12_isMet_58 ac_107 c1 rfl ?_
          refine E_iconst 60 dX12_isMet_59 (by decide) rfl ?_
          refine E_icmp_ne 63 86 dX12_isMet_60 rfl rfl (fun h => ?_) (fun h => ?_)
          · have w := w.1 h
            refine E_aload_n 87 dX12_isMet_86 rfl (ac_88.bnd) rfl ?_
            refine E_getL 90 dX12_isMet_87 fl_X12_74 ac_88 rfl (by decide) lay_88_41 rfl ?_
            refine E_iload_n 91 dX12_isMet_90 rfl rfl ?_
            refine E_iald 92 dX12_isMet_91 ac_107 c1 rfl ?_
            refine E_iconst 93 dX12_isMet_92 (by decide) rfl ?_
            refine E_icmp_ne 96 113 dX12_isMet_93 rfl rfl (fun h => ?_) (fun h => ?_)
            · have w := w.1 h
              refine E_iinc (ls' := [(2, 88), (0, x1), (0, x2), (0, w32 (x3 + 1)), (0, y2)]) 116 dX12_isMet_113 (by decide) rfl rfl rfl ?_
              refine E_goto 2 dX12_isMet_116 rfl ?_
              refine XX.fg [4] [(2, 88), (0, x1), (0, x2), (0, w32 (x3 + 1)), (9, 0)] rfl ?_
              with_reducible exact w
            · have w := w.2 h
              refine E_iload_n 97 dX12_isMet_96 rfl rfl ?_
              refine E_iload 99 dX12_isMet_97 rfl rfl ?_
              refine E_icmp_lt 102 113 dX12_isMet_99 rfl rfl (fun h => ?_) (fun h => ?_)
              · have w := w.1 h
                refine E_iinc (ls' := [(2, 88), (0, x1), (0, x2), (0, w32 (x3 + 1)), (0, y2)]) 116 dX12_isMet_113 (by decide) rfl rfl rfl ?_
                refine E_goto 2 dX12_isMet_116 rfl ?_
                refine XX.fg [4] [(2, 88), (0, x1), (0, x2), (0, w32 (x3 + 1)), (9, 0)] rfl ?_
                with_reducible exact w
              · have w := w.2 h
                refine E_aload_n 103 dX12_isMet_102 rfl (ac_88.bnd) rfl ?_
                refine E_iload_n 104 dX12_isMet_103 rfl rfl ?_
                refine E_iload_n 105 dX12_isMet_104 rfl rfl ?_
                refine E_callV (as := [(0, x3), (0, x1)]) 108 dX12_isMet_105 cf_X12_isShape mw_1536 mw_1538 mw_74 ac_88 (by decide) cl_X12 rfl rfl (Nat.le_of_ble_eq_true rfl) (Nat.le_of_ble_eq_true rfl) ⟨Nat.le_refl _, Nat.le_refl _⟩ rfl (w.mono (fun r16 σ15 w => ?_))
                show XX g true (d + 1) P_X12_isMet 108 [(2, 88), (0, x1), (0, x2), (0, x3), (0, y2)] [(0, r16)] 136 σ15 136 Q
                refine E_if_eq 111 113 dX12_isMet_108 rfl rfl (fun h => ?_) (fun h => ?_)
                · have w := w.1 h
                  refine E_iinc (ls' := [(2, 88), (0, x1), (0, x2), (0, w32 (x3 + 1)), (0, y2)]) 116 dX12_isMet_113 (by decide) rfl rfl rfl ?_
                  refine E_goto 2 dX12_isMet_116 rfl ?_
                  refine XX.fg [4] [(2, 88), (0, x1), (0, x2), (0, w32 (x3 + 1)), (9, 0)] rfl ?_
                  with_reducible exact w
                · have w := w.2 h
                  refine E_iconst 112 dX12_isMet_111 (by decide) rfl ?_
                  exact E_zret dX12_isMet_112 rfl rfl (Or.inr rfl) w
          · have w := w.2 h
            refine E_aload_n 64 dX12_isMet_63 rfl (ac_88.bnd) rfl ?_
            refine E_iload_n 65 dX12_isMet_64 rfl rfl ?_
            refine E_iconst 66 dX12_isMet_65 (by decide) rfl ?_
            refine E_aload_n 67 dX12_isMet_66 rfl (ac_88.bnd) rfl ?_
            refine E_getL 70 dX12_isMet_67 fl_X12_80 ac_88 rfl (by decide) lay_88_43 rfl ?_
            refine E_iload_n 71 dX12_isMet_70 rfl rfl ?_
            refine E_iald 72 dX12_isMet_71 ac_109 c1 rfl ?_
            refine E_ishl 73 dX12_isMet_72 rfl ?_
            refine E_iconst 74 dX12_isMet_73 (by decide) rfl ?_
            refine E_isub 75 dX12_isMet_74 rfl ?_
            refine E_iand 76 dX12_isMet_75 rfl ?_
            refine E_callV (as := [(0, iand x1 (w32 ((ishl 1 (σ 109 x3)) - 1)))]) 79 dX12_isMet_76 cf_X12_ones mw_1532 mw_1534 mw_73 ac_88 (by decide) cl_X12 rfl rfl (Nat.le_of_ble_eq_true rfl) (Nat.le_of_ble_eq_true rfl) ⟨Nat.le_refl _, Nat.le_refl _⟩ rfl (w.mono (fun r18 σ17 w => ?_))
            show XX g true (d + 1) P_X12_isMet 79 [(2, 88), (0, x1), (0, x2), (0, x3), (0, y2)] [(0, r18)] 136 σ17 136 Q
            refine E_iload 81 dX12_isMet_79 rfl rfl ?_
            refine E_icmp_lt 84 86 dX12_isMet_81 rfl rfl (fun h => ?_) (fun h => ?_)
            · have w := w.1 h
              refine E_aload_n 87 dX12_isMet_86 rfl (ac_88.bnd) rfl ?_
              refine E_getL 90 dX12_isMet_87 fl_X12_74 ac_88 rfl (by decide) lay_88_41 rfl ?_
              refine E_iload_n 91 dX12_isMet_90 rfl rfl ?_
              refine E_iald 92 dX12_isMet_91 ac_107 c1 rfl ?_
              refine E_iconst 93 dX12_isMet_92 (by decide) rfl ?_
              refine E_icmp_ne 96 113 dX12_isMet_93 rfl rfl (fun h => ?_) (fun h => ?_)
              · have w := w.1 h
                refine E_iinc (ls' := [(2, 88), (0, x1), (0, x2), (0, w32 (x3 + 1)), (0, y2)]) 116 dX12_isMet_113 (by decide) rfl rfl rfl ?_
                refine E_goto 2 dX12_isMet_116 rfl ?_
                refine XX.fg [4] [(2, 88), (0, x1), (0, x2), (0, w32 (x3 + 1)), (9, 0)] rfl ?_
                with_reducible exact w
              · have w := w.2 h
                refine E_iload_n 97 dX12_isMet_96 rfl rfl ?_
                refine E_iload 99 dX12_isMet_97 rfl rfl ?_
                refine E_icmp_lt 102 113 dX12_isMet_99 rfl rfl (fun h => ?_) (fun h => ?_)
                · have w := w.1 h
                  refine E_iinc (ls' := [(2, 88), (0, x1), (0, x2), (0, w32 (x3 + 1)), (0, y2)]) 116 dX12_isMet_113 (by decide) rfl rfl rfl ?_
                  refine E_goto 2 dX12_isMet_116 rfl ?_
                  refine XX.fg [4] [(2, 88), (0, x1), (0, x2), (0, w32 (x3 + 1)), (9, 0)] rfl ?_
                  with_reducible exact w
                · have w := w.2 h
                  refine E_aload_n 103 dX12_isMet_102 rfl (ac_88.bnd) rfl ?_
                  refine E_iload_n 104 dX12_isMet_103 rfl rfl ?_
                  refine E_iload_n 105 dX12_isMet_104 rfl rfl ?_
                  refine E_callV (as := [(0, x3), (0, x1)]) 108 dX12_isMet_105 cf_X12_isShape mw_1536 mw_1538 mw_74 ac_88 (by decide) cl_X12 rfl rfl (Nat.le_of_ble_eq_true rfl) (Nat.le_of_ble_eq_true rfl) ⟨Nat.le_refl _, Nat.le_refl _⟩ rfl (w.mono (fun r20 σ19 w => ?_))
                  show XX g true (d + 1) P_X12_isMet 108 [(2, 88), (0, x1), (0, x2), (0, x3), (0, y2)] [(0, r20)] 136 σ19 136 Q
                  refine E_if_eq 111 113 dX12_isMet_108 rfl rfl (fun h => ?_) (fun h => ?_)
                  · have w := w.1 h
                    refine E_iinc (ls' := [(2, 88), (0, x1), (0, x2), (0, w32 (x3 + 1)), (0, y2)]) 116 dX12_isMet_113 (by decide) rfl rfl rfl ?_
                    refine E_goto 2 dX12_isMet_116 rfl ?_
                    refine XX.fg [4] [(2, 88), (0, x1), (0, x2), (0, w32 (x3 + 1)), (9, 0)] rfl ?_
                    with_reducible exact w
                  · have w := w.2 h
                    refine E_iconst 112 dX12_isMet_111 (by decide) rfl ?_
                    exact E_zret dX12_isMet_112 rfl rfl (Or.inr rfl) w
            · have w := w.2 h
              refine E_iconst 85 dX12_isMet_84 (by decide) rfl ?_
              exact E_zret dX12_isMet_85 rfl rfl (Or.inr rfl) w
        · have w := w.2 h
          refine E_iconst 52 dX12_isMet_51 (by decide) rfl ?_
          exact E_zret dX12_isMet_52 rfl rfl (Or.inr rfl) w
theorem B_X12_failsTrial_0 {g : PG} {d : Nat} {σ : PS} {Q : Int → PS → Prop}  (w : (XX g true (d + 1) P_X12_failsTrial 4 [(2, 88), (0, 0), (0, 0)] [] 136 σ 136 Q)) : XX g true (d + 1) P_X12_failsTrial 0 [(2, 88), (9, 0), (9, 0)] [] 136 σ 136 Q := by
  refine E_iconst 1 dX12_failsTrial_0 (by decide) rfl ?_
  refine E_istore_n (ls' := [(2, 88), (0, 0), (9, 0)]) 2 dX12_failsTrial_1 (by decide) rfl rfl ?_
  refine E_iconst 3 dX12_failsTrial_2 (by decide) rfl ?_
  refine E_istore_n (ls' := [(2, 88), (0, 0), (0, 0)]) 4 dX12_failsTrial_3 (by decide) rfl rfl ?_
  with_reducible exact w
theorem B_X12_failsTrial_4 {g : PG} {d : Nat} {σ : PS} {Q : Int → PS → Prop} {x1 x2 : Int}  (w : ((σ 88 2 ≤ x2 → Q 0 σ) ∧ (x2 < σ 88 2 → (0 ≤ x2 ∧ x2 < 60) ∧ ∀ y2, y2 = iand (ior (ishl x1 1) (σ 113 x2)) 255 → XX g true d P_X12_isMet 0 [(2, 88), (0, y2), (0, w32 (x2 + 1)), (9, 0), (9, 0)] [] 136 σ 136 (fun r4 σ3 => ((r4 = 0 → (XX g true (d + 1) P_X12_failsTrial 4 [(2, 88), (0, y2), (0, w32 (x2 + 1))] [] 136 σ3 136 Q)) ∧ (r4 ≠ 0 → Q 1 σ3)))))) : XX g true (d + 1) P_X12_failsTrial 4 [(2, 88), (0, x1), (0, x2)] [] 136 σ 136 Q := by
  refine E_iload_n 5 dX12_failsTrial_4 rfl rfl ?_
  refine E_aload_n 6 dX12_failsTrial_5 rfl (ac_88.bnd) rfl ?_
  refine E_get 2 9 dX12_failsTrial_6 fl_X12_7 ac_88 rfl (by decide) rfl rfl ?_
  refine E_icmp_ge 12 46 dX12_failsTrial_9 rfl rfl (fun h => ?_) (fun h => ?_)
  · have w := w.1 h
    refine E_iconst 47 dX12_failsTrial_46 (by decide) rfl ?_
    exact E_zret dX12_failsTrial_47 rfl rfl (Or.inl rfl) w
  · have w := w.2 h
    refine E_iload_n 13 dX12_failsTrial_12 rfl rfl ?_
    refine E_iconst 14 dX12_failsTrial_13 (by decide) rfl ?_
    refine E_ishl 15 dX12_failsTrial_14 rfl ?_
    refine E_aload_n 16 dX12_failsTrial_15 rfl (ac_88.bnd) rfl ?_
    refine E_getL 19 dX12_failsTrial_16 fl_X12_92 ac_88 rfl (by decide) lay_88_47 rfl ?_
    refine E_iload_n 20 dX12_failsTrial_19 rfl rfl ?_
    obtain ⟨c1, w⟩ := w
    refine E_iald 21 dX12_failsTrial_20 ac_113 c1 rfl ?_
    refine E_ior 22 dX12_failsTrial_21 rfl ?_
    refine E_sipush 25 dX12_failsTrial_22 (by decide) rfl ?_
    refine E_iand 26 dX12_failsTrial_25 rfl ?_
    refine E_top (fun y2 hy2 => ?_)
    have w := w y2 hy2
    refine E_istore_n (ls' := [(2, 88), (0, y2), (0, x2)]) 27 dX12_failsTrial_26 (by decide) rfl rfl ?_
    refine E_aload_n 28 dX12_failsTrial_27 rfl (ac_88.bnd) rfl ?_
    refine E_iload_n 29 dX12_failsTrial_28 rfl rfl ?_
    refine E_iload_n 30 dX12_failsTrial_29 rfl rfl ?_
    refine E_iconst 31 dX12_failsTrial_30 (by decide) rfl ?_
    refine E_iadd 32 dX12_failsTrial_31 rfl ?_
    refine E_callV (as := [(0, y2), (0, w32 (x2 + 1))]) 35 dX12_failsTrial_32 cf_X12_isMet mw_1528 mw_1530 mw_72 ac_88 (by decide) cl_X12 rfl rfl (Nat.le_of_ble_eq_true rfl) (Nat.le_of_ble_eq_true rfl) ⟨Nat.le_refl _, Nat.le_refl _⟩ rfl (w.mono (fun r4 σ3 w => ?_))
    show XX g true (d + 1) P_X12_failsTrial 35 [(2, 88), (0, y2), (0, x2)] [(0, r4)] 136 σ3 136 Q
    refine E_if_eq 38 40 dX12_failsTrial_35 rfl rfl (fun h => ?_) (fun h => ?_)
    · have w := w.1 h
      refine E_iinc (ls' := [(2, 88), (0, y2), (0, w32 (x2 + 1))]) 43 dX12_failsTrial_40 (by decide) rfl rfl rfl ?_
      refine E_goto 4 dX12_failsTrial_43 rfl ?_
      with_reducible exact w
    · have w := w.2 h
      refine E_iconst 39 dX12_failsTrial_38 (by decide) rfl ?_
      exact E_zret dX12_failsTrial_39 rfl rfl (Or.inr rfl) w
theorem B_X12_failsNow_0 {g : PG} {d : Nat} {σ : PS} {Q : Int → PS → Prop}  (w : (XX g true (d + 1) P_X12_failsNow 2 [(2, 88), (0, 0)] [] 136 σ 136 Q)) : XX g true (d + 1) P_X12_failsNow 0 [(2, 88), (9, 0)] [] 136 σ 136 Q := by
  refine E_iconst 1 dX12_failsNow_0 (by decide) rfl ?_
  refine E_istore_n (ls' := [(2, 88), (0, 0)]) 2 dX12_failsNow_1 (by decide) rfl rfl ?_
  with_reducible exact w
theorem B_X12_failsNow_2 {g : PG} {d : Nat} {σ : PS} {Q : Int → PS → Prop} {x1 : Int}  (w : ((σ 88 2 ≤ x1 → XX g true d P_X12_failsTrial 0 [(2, 88), (9, 0), (9, 0)] [] 136 σ 136 (fun r2 σ1 => (r2 = 0 ∨ r2 = 1) ∧ Q r2 σ1)) ∧ (x1 < σ 88 2 → (0 ≤ x1 ∧ x1 < 60) ∧ (XX g true (d + 1) P_X12_failsNow 2 [(2, 88), (0, w32 (x1 + 1))] [] 136 (su σ 113 x1 (σ 91 x1)) 136 Q)))) : XX g true (d + 1) P_X12_failsNow 2 [(2, 88), (0, x1)] [] 136 σ 136 Q := by
  refine E_iload_n 3 dX12_failsNow_2 rfl rfl ?_
  refine E_aload_n 4 dX12_failsNow_3 rfl (ac_88.bnd) rfl ?_
  refine E_get 2 7 dX12_failsNow_4 fl_X12_7 ac_88 rfl (by decide) rfl rfl ?_
  refine E_icmp_ge 10 28 dX12_failsNow_7 rfl rfl (fun h => ?_) (fun h => ?_)
  · have w := w.1 h
    refine E_aload_n 29 dX12_failsNow_28 rfl (ac_88.bnd) rfl ?_
    refine E_callV (as := []) 32 dX12_failsNow_29 cf_X12_failsTrial mw_1524 mw_1526 mw_71 ac_88 (by decide) cl_X12 rfl rfl (Nat.le_of_ble_eq_true rfl) (Nat.le_of_ble_eq_true rfl) ⟨Nat.le_refl _, Nat.le_refl _⟩ rfl (w.mono (fun r2 σ1 w => ?_))
    show XX g true (d + 1) P_X12_failsNow 32 [(2, 88), (0, x1)] [(0, r2)] 136 σ1 136 Q
    obtain ⟨c3, w⟩ := w
    exact E_zret dX12_failsNow_32 rfl rfl c3 w
  · have w := w.2 h
    refine E_aload_n 11 dX12_failsNow_10 rfl (ac_88.bnd) rfl ?_
    refine E_getL 14 dX12_failsNow_11 fl_X12_92 ac_88 rfl (by decide) lay_88_47 rfl ?_
    refine E_iload_n 15 dX12_failsNow_14 rfl rfl ?_
    refine E_aload_n 16 dX12_failsNow_15 rfl (ac_88.bnd) rfl ?_
    refine E_getL 19 dX12_failsNow_16 fl_X12_20 ac_88 rfl (by decide) lay_88_5 rfl ?_
    refine E_iload_n 20 dX12_failsNow_19 rfl rfl ?_
    obtain ⟨c4, w⟩ := w
    refine E_iald 21 dX12_failsNow_20 ac_91 c4 rfl ?_
    refine E_iast 22 dX12_failsNow_21 ac_113 c4 rfl ?_
    refine E_iinc (ls' := [(2, 88), (0, w32 (x1 + 1))]) 25 dX12_failsNow_22 (by decide) rfl rfl rfl ?_
    refine E_goto 2 dX12_failsNow_25 rfl ?_
    with_reducible exact w
theorem B_X12_areBits_0 {g : PG} {d : Nat} {σ : PS} {Q : Int → PS → Prop} {x1 x2 : Int}  (w : ((x1 < 0 → Q 0 σ) ∧ (0 ≤ x1 → ((x1 < 1073741824 → (XX g true d P_X12_areBits 15 [(2, 88), (0, x1), (0, x2), (0, 0)] [] 136 σ 136 Q)) ∧ (1073741824 ≤ x1 → Q 0 σ))))) : XX g true d P_X12_areBits 0 [(2, 88), (0, x1), (0, x2), (9, 0)] [] 136 σ 136 Q := by
  refine E_iload_n 1 dX12_areBits_0 rfl rfl ?_
  refine E_if_lt 4 11 dX12_areBits_1 rfl rfl (fun h => ?_) (fun h => ?_)
  · have w := w.1 h
    refine E_iconst 12 dX12_areBits_11 (by decide) rfl ?_
    exact E_zret dX12_areBits_12 rfl rfl (Or.inl rfl) w
  · have w := w.2 h
    refine E_iload_n 5 dX12_areBits_4 rfl rfl ?_
    refine E_ldc_w (x := 1073741824) 8 dX12_areBits_5 mw_1523 rfl (by unfold in32; decide) rfl ?_
    refine E_icmp_lt 11 13 dX12_areBits_8 rfl rfl (fun h => ?_) (fun h => ?_)
    · have w := w.1 h
      refine E_iconst 14 dX12_areBits_13 (by decide) rfl ?_
      refine E_istore_n (ls' := [(2, 88), (0, x1), (0, x2), (0, 0)]) 15 dX12_areBits_14 (by decide) rfl rfl ?_
      with_reducible exact w
    · have w := w.2 h
      refine E_iconst 12 dX12_areBits_11 (by decide) rfl ?_
      exact E_zret dX12_areBits_12 rfl rfl (Or.inl rfl) w
theorem B_X12_areBits_15 {g : PG} {d : Nat} {σ : PS} {Q : Int → PS → Prop} {x1 x2 x3 : Int}  (w : ((30 ≤ x3 → Q 1 σ) ∧ (x3 < 30 → ((iand (ishr x1 x3) 1 ≠ 1 → (XX g true d P_X12_areBits 15 [(2, 88), (0, x1), (0, x2), (0, w32 (x3 + 1))] [] 136 σ 136 Q)) ∧ (iand (ishr x1 x3) 1 = 1 → ((w32 (x2 + x3) < σ 88 2 → (XX g true d P_X12_areBits 15 [(2, 88), (0, x1), (0, x2), (0, w32 (x3 + 1))] [] 136 σ 136 Q)) ∧ (σ 88 2 ≤ w32 (x2 + x3) → Q 0 σ))))))) : XX g true d P_X12_areBits 15 [(2, 88), (0, x1), (0, x2), (0, x3)] [] 136 σ 136 Q := by
  refine E_iload_n 16 dX12_areBits_15 rfl rfl ?_
  refine E_bipush 18 dX12_areBits_16 (by decide) rfl ?_
  refine E_icmp_ge 21 48 dX12_areBits_18 rfl rfl (fun h => ?_) (fun h => ?_)
  · have w := w.1 h
    refine E_iconst 49 dX12_areBits_48 (by decide) rfl ?_
    exact E_zret dX12_areBits_49 rfl rfl (Or.inr rfl) w
  · have w := w.2 h
    refine E_iload_n 22 dX12_areBits_21 rfl rfl ?_
    refine E_iload_n 23 dX12_areBits_22 rfl rfl ?_
    refine E_ishr 24 dX12_areBits_23 rfl ?_
    refine E_iconst 25 dX12_areBits_24 (by decide) rfl ?_
    refine E_iand 26 dX12_areBits_25 rfl ?_
    refine E_iconst 27 dX12_areBits_26 (by decide) rfl ?_
    refine E_icmp_ne 30 42 dX12_areBits_27 rfl rfl (fun h => ?_) (fun h => ?_)
    · have w := w.1 h
      refine E_iinc (ls' := [(2, 88), (0, x1), (0, x2), (0, w32 (x3 + 1))]) 45 dX12_areBits_42 (by decide) rfl rfl rfl ?_
      refine E_goto 15 dX12_areBits_45 rfl ?_
      with_reducible exact w
    · have w := w.2 h
      refine E_iload_n 31 dX12_areBits_30 rfl rfl ?_
      refine E_iload_n 32 dX12_areBits_31 rfl rfl ?_
      refine E_iadd 33 dX12_areBits_32 rfl ?_
      refine E_aload_n 34 dX12_areBits_33 rfl (ac_88.bnd) rfl ?_
      refine E_get 2 37 dX12_areBits_34 fl_X12_7 ac_88 rfl (by decide) rfl rfl ?_
      refine E_icmp_lt 40 42 dX12_areBits_37 rfl rfl (fun h => ?_) (fun h => ?_)
      · have w := w.1 h
        refine E_iinc (ls' := [(2, 88), (0, x1), (0, x2), (0, w32 (x3 + 1))]) 45 dX12_areBits_42 (by decide) rfl rfl rfl ?_
        refine E_goto 15 dX12_areBits_45 rfl ?_
        with_reducible exact w
      · have w := w.2 h
        refine E_iconst 41 dX12_areBits_40 (by decide) rfl ?_
        exact E_zret dX12_areBits_41 rfl rfl (Or.inl rfl) w
theorem B_X12_fails_0 {g : PG} {d : Nat} {σ : PS} {Q : Int → PS → Prop} {x1 x2 : Int}  (w : XX g true d P_X12_areBits 0 [(2, 88), (0, x1), (0, 0), (9, 0)] [] 136 (su σ 88 0 0) 136 (fun r2 σ1 => ((r2 = 0 → Q (-1) σ1) ∧ (r2 ≠ 0 → XX g true d P_X12_areBits 0 [(2, 88), (0, x2), (0, 30), (9, 0)] [] 136 σ1 136 (fun r4 σ3 => ((r4 ≠ 0 → (XX g true (d + 1) P_X12_fails 28 [(2, 88), (0, x1), (0, x2), (0, 0)] [] 136 σ3 136 Q)) ∧ (r4 = 0 → Q (-1) σ3))))))) : XX g true (d + 1) P_X12_fails 0 [(2, 88), (0, x1), (0, x2), (9, 0)] [] 136 σ 136 Q := by
  refine E_aload_n 1 dX12_fails_0 rfl (ac_88.bnd) rfl ?_
  refine E_iconst 2 dX12_fails_1 (by decide) rfl ?_
  refine E_putI 0 5 dX12_fails_2 fl_X12_166 ac_88 rfl (by decide) (Or.inl rfl) rfl rfl ?_
  refine E_aload_n 6 dX12_fails_5 rfl (ac_88.bnd) rfl ?_
  refine E_iload_n 7 dX12_fails_6 rfl rfl ?_
  refine E_iconst 8 dX12_fails_7 (by decide) rfl ?_
  refine E_callV (as := [(0, x1), (0, 0)]) 11 dX12_fails_8 cf_X12_areBits mw_1519 mw_1521 mw_70 ac_88 (by decide) cl_X12 rfl rfl (Nat.le_of_ble_eq_true rfl) (Nat.le_of_ble_eq_true rfl) ⟨Nat.le_refl _, Nat.le_refl _⟩ rfl (w.mono (fun r2 σ1 w => ?_))
  show XX g true (d + 1) P_X12_fails 11 [(2, 88), (0, x1), (0, x2), (9, 0)] [(0, r2)] 136 σ1 136 Q
  refine E_if_eq 14 24 dX12_fails_11 rfl rfl (fun h => ?_) (fun h => ?_)
  · have w := w.1 h
    refine E_iconst 25 dX12_fails_24 (by decide) rfl ?_
    exact E_iret dX12_fails_25 rfl rfl w
  · have w := w.2 h
    refine E_aload_n 15 dX12_fails_14 rfl (ac_88.bnd) rfl ?_
    refine E_iload_n 16 dX12_fails_15 rfl rfl ?_
    refine E_bipush 18 dX12_fails_16 (by decide) rfl ?_
    refine E_callV (as := [(0, x2), (0, 30)]) 21 dX12_fails_18 cf_X12_areBits mw_1519 mw_1521 mw_70 ac_88 (by decide) cl_X12 rfl rfl (Nat.le_of_ble_eq_true rfl) (Nat.le_of_ble_eq_true rfl) ⟨Nat.le_refl _, Nat.le_refl _⟩ rfl (w.mono (fun r4 σ3 w => ?_))
    show XX g true (d + 1) P_X12_fails 21 [(2, 88), (0, x1), (0, x2), (9, 0)] [(0, r4)] 136 σ3 136 Q
    refine E_if_ne 24 26 dX12_fails_21 rfl rfl (fun h => ?_) (fun h => ?_)
    · have w := w.1 h
      refine E_iconst 27 dX12_fails_26 (by decide) rfl ?_
      refine E_istore_n (ls' := [(2, 88), (0, x1), (0, x2), (0, 0)]) 28 dX12_fails_27 (by decide) rfl rfl ?_
      with_reducible exact w
    · have w := w.2 h
      refine E_iconst 25 dX12_fails_24 (by decide) rfl ?_
      exact E_iret dX12_fails_25 rfl rfl w
theorem B_X12_fails_28 {g : PG} {d : Nat} {σ : PS} {Q : Int → PS → Prop} {x1 x2 x3 : Int}  (w : ((σ 88 2 ≤ x3 → XX g true d P_X12_failsTrial 0 [(2, 88), (9, 0), (9, 0)] [] 136 σ 136 (fun r2 σ1 => ((r2 = 0 → Q 0 σ1) ∧ (r2 ≠ 0 → Q 1 σ1)))) ∧ (x3 < σ 88 2 → ((30 ≤ x3 → (0 ≤ x3 ∧ x3 < 60) ∧ (XX g true (d + 1) P_X12_fails 28 [(2, 88), (0, x1), (0, x2), (0, w32 (x3 + 1))] [] 136 (su σ 113 x3 (iand (ishr x2 (w32 (x3 - 30))) 1)) 136 Q)) ∧ (x3 < 30 → (0 ≤ x3 ∧ x3 < 60) ∧ (XX g true (d + 1) P_X12_fails 28 [(2, 88), (0, x1), (0, x2), (0, w32 (x3 + 1))] [] 136 (su σ 113 x3 (iand (ishr x1 x3) 1)) 136 Q)))))) : XX g true (d + 1) P_X12_fails 28 [(2, 88), (0, x1), (0, x2), (0, x3)] [] 136 σ 136 Q := by
  refine E_iload_n 29 dX12_fails_28 rfl rfl ?_
  refine E_aload_n 30 dX12_fails_29 rfl (ac_88.bnd) rfl ?_
  refine E_get 2 33 dX12_fails_30 fl_X12_7 ac_88 rfl (by decide) rfl rfl ?_
  refine E_icmp_ge 36 70 dX12_fails_33 rfl rfl (fun h => ?_) (fun h => ?_)
  · have w := w.1 h
    refine E_aload_n 71 dX12_fails_70 rfl (ac_88.bnd) rfl ?_
    refine E_callV (as := []) 74 dX12_fails_71 cf_X12_failsTrial mw_1524 mw_1526 mw_71 ac_88 (by decide) cl_X12 rfl rfl (Nat.le_of_ble_eq_true rfl) (Nat.le_of_ble_eq_true rfl) ⟨Nat.le_refl _, Nat.le_refl _⟩ rfl (w.mono (fun r2 σ1 w => ?_))
    show XX g true (d + 1) P_X12_fails 74 [(2, 88), (0, x1), (0, x2), (0, x3)] [(0, r2)] 136 σ1 136 Q
    refine E_if_eq 77 81 dX12_fails_74 rfl rfl (fun h => ?_) (fun h => ?_)
    · have w := w.1 h
      refine E_iconst 82 dX12_fails_81 (by decide) rfl ?_
      exact E_iret dX12_fails_82 rfl rfl w
    · have w := w.2 h
      refine E_iconst 78 dX12_fails_77 (by decide) rfl ?_
      refine E_goto 82 dX12_fails_78 rfl ?_
      exact E_iret dX12_fails_82 rfl rfl w
  · have w := w.2 h
    refine E_aload_n 37 dX12_fails_36 rfl (ac_88.bnd) rfl ?_
    refine E_getL 40 dX12_fails_37 fl_X12_92 ac_88 rfl (by decide) lay_88_47 rfl ?_
    refine E_iload_n 41 dX12_fails_40 rfl rfl ?_
    refine E_iload_n 42 dX12_fails_41 rfl rfl ?_
    refine E_bipush 44 dX12_fails_42 (by decide) rfl ?_
    refine E_icmp_ge 47 55 dX12_fails_44 rfl rfl (fun h => ?_) (fun h => ?_)
    · have w := w.1 h
      refine E_iload_n 56 dX12_fails_55 rfl rfl ?_
      refine E_iload_n 57 dX12_fails_56 rfl rfl ?_
      refine E_bipush 59 dX12_fails_57 (by decide) rfl ?_
      refine E_isub 60 dX12_fails_59 rfl ?_
      refine E_ishr 61 dX12_fails_60 rfl ?_
      refine E_iconst 62 dX12_fails_61 (by decide) rfl ?_
      refine E_iand 63 dX12_fails_62 rfl ?_
      obtain ⟨c3, w⟩ := w
      refine E_iast 64 dX12_fails_63 ac_113 c3 rfl ?_
      refine E_iinc (ls' := [(2, 88), (0, x1), (0, x2), (0, w32 (x3 + 1))]) 67 dX12_fails_64 (by decide) rfl rfl rfl ?_
      refine E_goto 28 dX12_fails_67 rfl ?_
      with_reducible exact w
    · have w := w.2 h
      refine E_iload_n 48 dX12_fails_47 rfl rfl ?_
      refine E_iload_n 49 dX12_fails_48 rfl rfl ?_
      refine E_ishr 50 dX12_fails_49 rfl ?_
      refine E_iconst 51 dX12_fails_50 (by decide) rfl ?_
      refine E_iand 52 dX12_fails_51 rfl ?_
      refine E_goto 63 dX12_fails_52 rfl ?_
      obtain ⟨c4, w⟩ := w
      refine E_iast 64 dX12_fails_63 ac_113 c4 rfl ?_
      refine E_iinc (ls' := [(2, 88), (0, x1), (0, x2), (0, w32 (x3 + 1))]) 67 dX12_fails_64 (by decide) rfl rfl rfl ?_
      refine E_goto 28 dX12_fails_67 rfl ?_
      with_reducible exact w
theorem B_X12_bestUrge_0 {g : PG} {d : Nat} {σ : PS} {Q : Int → PS → Prop}  (w : (XX g true d P_X12_bestUrge 4 [(2, 88), (0, (-1)), (0, 0)] [] 136 σ 136 Q)) : XX g true d P_X12_bestUrge 0 [(2, 88), (9, 0), (9, 0)] [] 136 σ 136 Q := by
  refine E_iconst 1 dX12_bestUrge_0 (by decide) rfl ?_
  refine E_istore_n (ls' := [(2, 88), (0, (-1)), (9, 0)]) 2 dX12_bestUrge_1 (by decide) rfl rfl ?_
  refine E_iconst 3 dX12_bestUrge_2 (by decide) rfl ?_
  refine E_istore_n (ls' := [(2, 88), (0, (-1)), (0, 0)]) 4 dX12_bestUrge_3 (by decide) rfl rfl ?_
  with_reducible exact w
theorem B_X12_bestUrge_4 {g : PG} {d : Nat} {σ : PS} {Q : Int → PS → Prop} {x1 x2 : Int}  (w : ((σ 88 2 ≤ x2 → Q x1 σ) ∧ (x2 < σ 88 2 → (0 ≤ x2 ∧ x2 < 60) ∧ ((σ 115 x2 ≤ 0 → (XX g true d P_X12_bestUrge 4 [(2, 88), (0, x1), (0, w32 (x2 + 1))] [] 136 σ 136 Q)) ∧ (0 < σ 115 x2 → ((x1 = (-1) → (XX g true d P_X12_bestUrge 4 [(2, 88), (0, x2), (0, w32 (x2 + 1))] [] 136 σ 136 Q)) ∧ (x1 ≠ (-1) → (0 ≤ x1 ∧ x1 < 60) ∧ ((σ 115 x2 ≤ σ 115 x1 → (XX g true d P_X12_bestUrge 4 [(2, 88), (0, x1), (0, w32 (x2 + 1))] [] 136 σ 136 Q)) ∧ (σ 115 x1 < σ 115 x2 → (XX g true d P_X12_bestUrge 4 [(2, 88), (0, x2), (0, w32 (x2 + 1))] [] 136 σ 136 Q)))))))))) : XX g true d P_X12_bestUrge 4 [(2, 88), (0, x1), (0, x2)] [] 136 σ 136 Q := by
  refine E_iload_n 5 dX12_bestUrge_4 rfl rfl ?_
  refine E_aload_n 6 dX12_bestUrge_5 rfl (ac_88.bnd) rfl ?_
  refine E_get 2 9 dX12_bestUrge_6 fl_X12_7 ac_88 rfl (by decide) rfl rfl ?_
  refine E_icmp_ge 12 49 dX12_bestUrge_9 rfl rfl (fun h => ?_) (fun h => ?_)
  · have w := w.1 h
    refine E_iload_n 50 dX12_bestUrge_49 rfl rfl ?_
    exact E_iret dX12_bestUrge_50 rfl rfl w
  · have w := w.2 h
    refine E_aload_n 13 dX12_bestUrge_12 rfl (ac_88.bnd) rfl ?_
    refine E_getL 16 dX12_bestUrge_13 fl_X12_98 ac_88 rfl (by decide) lay_88_49 rfl ?_
    refine E_iload_n 17 dX12_bestUrge_16 rfl rfl ?_
    obtain ⟨c1, w⟩ := w
    refine E_iald 18 dX12_bestUrge_17 ac_115 c1 rfl ?_
    refine E_if_le 21 43 dX12_bestUrge_18 rfl rfl (fun h => ?_) (fun h => ?_)
    · have w := w.1 h
      refine E_iinc (ls' := [(2, 88), (0, x1), (0, w32 (x2 + 1))]) 46 dX12_bestUrge_43 (by decide) rfl rfl rfl ?_
      refine E_goto 4 dX12_bestUrge_46 rfl ?_
      with_reducible exact w
    · have w := w.2 h
      refine E_iload_n 22 dX12_bestUrge_21 rfl rfl ?_
      refine E_iconst 23 dX12_bestUrge_22 (by decide) rfl ?_
      refine E_icmp_eq 26 41 dX12_bestUrge_23 rfl rfl (fun h => ?_) (fun h => ?_)
      · have w := w.1 h
        refine E_iload_n 42 dX12_bestUrge_41 rfl rfl ?_
        refine E_istore_n (ls' := [(2, 88), (0, x2), (0, x2)]) 43 dX12_bestUrge_42 (by decide) rfl rfl ?_
        refine E_iinc (ls' := [(2, 88), (0, x2), (0, w32 (x2 + 1))]) 46 dX12_bestUrge_43 (by decide) rfl rfl rfl ?_
        refine E_goto 4 dX12_bestUrge_46 rfl ?_
        with_reducible exact w
      · have w := w.2 h
        refine E_aload_n 27 dX12_bestUrge_26 rfl (ac_88.bnd) rfl ?_
        refine E_getL 30 dX12_bestUrge_27 fl_X12_98 ac_88 rfl (by decide) lay_88_49 rfl ?_
        refine E_iload_n 31 dX12_bestUrge_30 rfl rfl ?_
        refine E_iald 32 dX12_bestUrge_31 ac_115 c1 rfl ?_
        refine E_aload_n 33 dX12_bestUrge_32 rfl (ac_88.bnd) rfl ?_
        refine E_getL 36 dX12_bestUrge_33 fl_X12_98 ac_88 rfl (by decide) lay_88_49 rfl ?_
        refine E_iload_n 37 dX12_bestUrge_36 rfl rfl ?_
        obtain ⟨c2, w⟩ := w
        refine E_iald 38 dX12_bestUrge_37 ac_115 c2 rfl ?_
        refine E_icmp_le 41 43 dX12_bestUrge_38 rfl rfl (fun h => ?_) (fun h => ?_)
        · have w := w.1 h
          refine E_iinc (ls' := [(2, 88), (0, x1), (0, w32 (x2 + 1))]) 46 dX12_bestUrge_43 (by decide) rfl rfl rfl ?_
          refine E_goto 4 dX12_bestUrge_46 rfl ?_
          with_reducible exact w
        · have w := w.2 h
          refine E_iload_n 42 dX12_bestUrge_41 rfl rfl ?_
          refine E_istore_n (ls' := [(2, 88), (0, x2), (0, x2)]) 43 dX12_bestUrge_42 (by decide) rfl rfl ?_
          refine E_iinc (ls' := [(2, 88), (0, x2), (0, w32 (x2 + 1))]) 46 dX12_bestUrge_43 (by decide) rfl rfl rfl ?_
          refine E_goto 4 dX12_bestUrge_46 rfl ?_
          with_reducible exact w
theorem B_X12_changes_0 {g : PG} {d : Nat} {σ : PS} {Q : Int → PS → Prop} {x1 : Int}  (w : ((w32 ((σ 88 2) - x1) < w32 (x1 + 1) → ((σ 97 7 ≠ 0 → (XX g true d P_X12_changes 54 [(2, 88), (0, x1), (9, 0), (9, 0)] [] 136 σ 136 Q)) ∧ (σ 97 7 = 0 → ((σ 97 6 ≤ 0 → (XX g true d P_X12_changes 54 [(2, 88), (0, x1), (9, 0), (9, 0)] [] 136 σ 136 Q)) ∧ (0 < σ 97 6 → (XX g true d P_X12_changes 56 [(2, 88), (0, x1), (0, 1), (9, 0)] [] 136 σ 136 Q)))))) ∧ (w32 (x1 + 1) ≤ w32 ((σ 88 2) - x1) → ((σ 97 6 ≤ 0 → (XX g true d P_X12_changes 56 [(2, 88), (0, x1), (0, 0), (9, 0)] [] 136 σ 136 Q)) ∧ (0 < σ 97 6 → (XX g true d P_X12_changes 56 [(2, 88), (0, x1), (0, 1), (9, 0)] [] 136 σ 136 Q)))))) : XX g true d P_X12_changes 0 [(2, 88), (0, x1), (9, 0), (9, 0)] [] 136 σ 136 Q := by
  refine E_iload_n 1 dX12_changes_0 rfl rfl ?_
  refine E_iconst 2 dX12_changes_1 (by decide) rfl ?_
  refine E_iadd 3 dX12_changes_2 rfl ?_
  refine E_aload_n 4 dX12_changes_3 rfl (ac_88.bnd) rfl ?_
  refine E_get 2 7 dX12_changes_4 fl_X12_7 ac_88 rfl (by decide) rfl rfl ?_
  refine E_iload_n 8 dX12_changes_7 rfl rfl ?_
  refine E_isub 9 dX12_changes_8 rfl ?_
  refine E_icmp_gt 12 30 dX12_changes_9 rfl rfl (fun h => ?_) (fun h => ?_)
  · have w := w.1 h
    refine E_aload_n 31 dX12_changes_30 rfl (ac_88.bnd) rfl ?_
    refine E_getL 34 dX12_changes_31 fl_X12_38 ac_88 rfl (by decide) lay_88_11 rfl ?_
    refine E_bipush 36 dX12_changes_34 (by decide) rfl ?_
    refine E_iald 37 dX12_changes_36 ac_97 (by decide) rfl ?_
    refine E_if_ne 40 54 dX12_changes_37 rfl rfl (fun h => ?_) (fun h => ?_)
    · have w := w.1 h
      with_reducible exact w
    · have w := w.2 h
      refine E_aload_n 41 dX12_changes_40 rfl (ac_88.bnd) rfl ?_
      refine E_getL 44 dX12_changes_41 fl_X12_38 ac_88 rfl (by decide) lay_88_11 rfl ?_
      refine E_bipush 46 dX12_changes_44 (by decide) rfl ?_
      refine E_iald 47 dX12_changes_46 ac_97 (by decide) rfl ?_
      refine E_if_le 50 54 dX12_changes_47 rfl rfl (fun h => ?_) (fun h => ?_)
      · have w := w.1 h
        with_reducible exact w
      · have w := w.2 h
        refine E_iconst 51 dX12_changes_50 (by decide) rfl ?_
        refine E_goto 55 dX12_changes_51 rfl ?_
        refine E_istore_n (ls' := [(2, 88), (0, x1), (0, 1), (9, 0)]) 56 dX12_changes_55 (by decide) rfl rfl ?_
        with_reducible exact w
  · have w := w.2 h
    refine E_aload_n 13 dX12_changes_12 rfl (ac_88.bnd) rfl ?_
    refine E_getL 16 dX12_changes_13 fl_X12_38 ac_88 rfl (by decide) lay_88_11 rfl ?_
    refine E_bipush 18 dX12_changes_16 (by decide) rfl ?_
    refine E_iald 19 dX12_changes_18 ac_97 (by decide) rfl ?_
    refine E_if_le 22 26 dX12_changes_19 rfl rfl (fun h => ?_) (fun h => ?_)
    · have w := w.1 h
      refine E_iconst 27 dX12_changes_26 (by decide) rfl ?_
      refine E_goto 55 dX12_changes_27 rfl ?_
      refine E_istore_n (ls' := [(2, 88), (0, x1), (0, 0), (9, 0)]) 56 dX12_changes_55 (by decide) rfl rfl ?_
      with_reducible exact w
    · have w := w.2 h
      refine E_iconst 23 dX12_changes_22 (by decide) rfl ?_
      refine E_goto 55 dX12_changes_23 rfl ?_
      refine E_istore_n (ls' := [(2, 88), (0, x1), (0, 1), (9, 0)]) 56 dX12_changes_55 (by decide) rfl rfl ?_
      with_reducible exact w
theorem B_X12_changes_54 {g : PG} {d : Nat} {σ : PS} {Q : Int → PS → Prop} {x1 : Int}  (w : (XX g true d P_X12_changes 56 [(2, 88), (0, x1), (0, 0), (9, 0)] [] 136 σ 136 Q)) : XX g true d P_X12_changes 54 [(2, 88), (0, x1), (9, 0), (9, 0)] [] 136 σ 136 Q := by
  refine E_iconst 55 dX12_changes_54 (by decide) rfl ?_
  refine E_istore_n (ls' := [(2, 88), (0, x1), (0, 0), (9, 0)]) 56 dX12_changes_55 (by decide) rfl rfl ?_
  with_reducible exact w
theorem B_X12_changes_56 {g : PG} {d : Nat} {σ : PS} {Q : Int → PS → Prop} {x1 x2 : Int}  (w : ((x2 ≠ 0 → (XX g true d P_X12_changes 72 [(2, 88), (0, x1), (0, x2), (9, 0)] [] 136 σ 136 Q)) ∧ (x2 = 0 → ((σ 97 7 ≠ 0 → (XX g true d P_X12_changes 72 [(2, 88), (0, x1), (0, x2), (9, 0)] [] 136 σ 136 Q)) ∧ (σ 97 7 = 0 → Q 0 σ))))) : XX g true d P_X12_changes 56 [(2, 88), (0, x1), (0, x2), (9, 0)] [] 136 σ 136 Q := by
  refine E_iload_n 57 dX12_changes_56 rfl rfl ?_
  refine E_if_ne 60 72 dX12_changes_57 rfl rfl (fun h => ?_) (fun h => ?_)
  · have w := w.1 h
    with_reducible exact w
  · have w := w.2 h
    refine E_aload_n 61 dX12_changes_60 rfl (ac_88.bnd) rfl ?_
    refine E_getL 64 dX12_changes_61 fl_X12_38 ac_88 rfl (by decide) lay_88_11 rfl ?_
    refine E_bipush 66 dX12_changes_64 (by decide) rfl ?_
    refine E_iald 67 dX12_changes_66 ac_97 (by decide) rfl ?_
    refine E_if_ne 70 72 dX12_changes_67 rfl rfl (fun h => ?_) (fun h => ?_)
    · have w := w.1 h
      with_reducible exact w
    · have w := w.2 h
      refine E_iconst 71 dX12_changes_70 (by decide) rfl ?_
      exact E_zret dX12_changes_71 rfl rfl (Or.inl rfl) w
theorem B_X12_changes_72 {g : PG} {d : Nat} {σ : PS} {Q : Int → PS → Prop} {x1 x2 : Int}  (w : ((x2 = 0 → (XX g true d P_X12_changes 84 [(2, 88), (0, x1), (0, x2), (0, 7)] [] 136 σ 136 Q)) ∧ (x2 ≠ 0 → (XX g true d P_X12_changes 84 [(2, 88), (0, x1), (0, x2), (0, 6)] [] 136 σ 136 Q)))) : XX g true d P_X12_changes 72 [(2, 88), (0, x1), (0, x2), (9, 0)] [] 136 σ 136 Q := by
  refine E_iload_n 73 dX12_changes_72 rfl rfl ?_
  refine E_if_eq 76 81 dX12_changes_73 rfl rfl (fun h => ?_) (fun h => ?_)
  · have w := w.1 h
    refine E_bipush 83 dX12_changes_81 (by decide) rfl ?_
    refine E_istore_n (ls' := [(2, 88), (0, x1), (0, x2), (0, 7)]) 84 dX12_changes_83 (by decide) rfl rfl ?_
    with_reducible exact w
  · have w := w.2 h
    refine E_bipush 78 dX12_changes_76 (by decide) rfl ?_
    refine E_goto 83 dX12_changes_78 rfl ?_
    refine E_istore_n (ls' := [(2, 88), (0, x1), (0, x2), (0, 6)]) 84 dX12_changes_83 (by decide) rfl rfl ?_
    with_reducible exact w
theorem B_X12_changes_84 {g : PG} {d : Nat} {σ : PS} {Q : Int → PS → Prop} {x1 x2 x3 : Int}  (w : (0 ≤ x3 ∧ x3 < 8) ∧ (0 ≤ x1 ∧ x1 < 60) ∧ (0 ≤ σ 89 x1 ∧ σ 89 x1 < 6) ∧ ((x2 = 0 → (XX g true d P_X12_changes 142 [(2, 88), (0, x1), (9, 0), (9, 0)] [] 136 (su (su σ 97 x3 (w32 ((σ 97 x3) - 1))) 88 14 (w32 ((w32 ((σ 88 14) + (σ 96 (σ 89 x1)))) + (w32 (((su σ 97 x3 (w32 ((σ 97 x3) - 1))) 97 4) * (w32 ((σ 88 2) - x1))))))) 136 Q)) ∧ (x2 ≠ 0 → (XX g true d P_X12_changes 142 [(2, 88), (0, x1), (9, 0), (9, 0)] [] 136 (su (su σ 97 x3 (w32 ((σ 97 x3) - 1))) 88 14 (w32 ((w32 ((σ 88 14) + (σ 96 (σ 89 x1)))) + (w32 (((su σ 97 x3 (w32 ((σ 97 x3) - 1))) 97 4) * (w32 (x1 + 1))))))) 136 Q)))) : XX g true d P_X12_changes 84 [(2, 88), (0, x1), (0, x2), (0, x3)] [] 136 σ 136 Q := by
  refine E_aload_n 85 dX12_changes_84 rfl (ac_88.bnd) rfl ?_
  refine E_getL 88 dX12_changes_85 fl_X12_38 ac_88 rfl (by decide) lay_88_11 rfl ?_
  refine E_iload_n 89 dX12_changes_88 rfl rfl ?_
  refine E_aload_n 90 dX12_changes_89 rfl (ac_88.bnd) rfl ?_
  refine E_getL 93 dX12_changes_90 fl_X12_38 ac_88 rfl (by decide) lay_88_11 rfl ?_
  refine E_iload_n 94 dX12_changes_93 rfl rfl ?_
  obtain ⟨c1, w⟩ := w
  refine E_iald 95 dX12_changes_94 ac_97 c1 rfl ?_
  refine E_iconst 96 dX12_changes_95 (by decide) rfl ?_
  refine E_isub 97 dX12_changes_96 rfl ?_
  refine E_iast 98 dX12_changes_97 ac_97 c1 rfl ?_
  refine E_aload_n 99 dX12_changes_98 rfl (ac_88.bnd) rfl ?_
  refine E_aload_n 100 dX12_changes_99 rfl (ac_88.bnd) rfl ?_
  refine E_get 14 103 dX12_changes_100 fl_X12_358 ac_88 rfl (by decide) rfl rfl ?_
  refine E_conv (su_ne (Or.inl (by decide))) ?_
  refine E_aload_n 104 dX12_changes_103 rfl (ac_88.bnd) rfl ?_
  refine E_getL 107 dX12_changes_104 fl_X12_35 ac_88 rfl (by decide) lay_88_10 rfl ?_
  refine E_aload_n 108 dX12_changes_107 rfl (ac_88.bnd) rfl ?_
  refine E_getL 111 dX12_changes_108 fl_X12_13 ac_88 rfl (by decide) lay_88_3 rfl ?_
  refine E_iload_n 112 dX12_changes_111 rfl rfl ?_
  obtain ⟨c2, w⟩ := w
  refine E_iald 113 dX12_changes_112 ac_89 c2 rfl ?_
  refine E_conv (su_ne (Or.inl (by decide))) ?_
  obtain ⟨c3, w⟩ := w
  refine E_iald 114 dX12_changes_113 ac_96 c3 rfl ?_
  refine E_conv (su_ne (Or.inl (by decide))) ?_
  refine E_iadd 115 dX12_changes_114 rfl ?_
  refine E_aload_n 116 dX12_changes_115 rfl (ac_88.bnd) rfl ?_
  refine E_getL 119 dX12_changes_116 fl_X12_38 ac_88 rfl (by decide) lay_88_11 rfl ?_
  refine E_iconst 120 dX12_changes_119 (by decide) rfl ?_
  refine E_iald 121 dX12_changes_120 ac_97 (by decide) rfl ?_
  refine E_iload_n 122 dX12_changes_121 rfl rfl ?_
  refine E_if_eq 125 131 dX12_changes_122 rfl rfl (fun h => ?_) (fun h => ?_)
  · have w := w.1 h
    refine E_aload_n 132 dX12_changes_131 rfl (ac_88.bnd) rfl ?_
    refine E_get 2 135 dX12_changes_132 fl_X12_7 ac_88 rfl (by decide) rfl rfl ?_
    refine E_conv (su_ne (Or.inl (by decide))) ?_
    refine E_iload_n 136 dX12_changes_135 rfl rfl ?_
    refine E_isub 137 dX12_changes_136 rfl ?_
    refine E_imul 138 dX12_changes_137 rfl ?_
    refine E_iadd 139 dX12_changes_138 rfl ?_
    refine E_putI 14 142 dX12_changes_139 fl_X12_358 ac_88 rfl (by decide) (Or.inl rfl) rfl rfl ?_
    refine XX.fg [2, 3] [(2, 88), (0, x1), (9, 0), (9, 0)] rfl ?_
    with_reducible exact w
  · have w := w.2 h
    refine E_iload_n 126 dX12_changes_125 rfl rfl ?_
    refine E_iconst 127 dX12_changes_126 (by decide) rfl ?_
    refine E_iadd 128 dX12_changes_127 rfl ?_
    refine E_goto 137 dX12_changes_128 rfl ?_
    refine E_imul 138 dX12_changes_137 rfl ?_
    refine E_iadd 139 dX12_changes_138 rfl ?_
    refine E_putI 14 142 dX12_changes_139 fl_X12_358 ac_88 rfl (by decide) (Or.inl rfl) rfl rfl ?_
    refine XX.fg [2, 3] [(2, 88), (0, x1), (9, 0), (9, 0)] rfl ?_
    with_reducible exact w
theorem B_X12_changes_142 {g : PG} {d : Nat} {σ : PS} {Q : Int → PS → Prop} {x1 : Int}  (w : (0 ≤ x1 ∧ x1 < 60) ∧ Q 1 (su (su (su (su (su (su σ 88 15 (w32 ((σ 88 15) + 1))) 94 x1 (w32 ((σ 94 x1) + 1))) 90 x1 0) 91 x1 0) 93 x1 0) 115 x1 0)) : XX g true d P_X12_changes 142 [(2, 88), (0, x1), (9, 0), (9, 0)] [] 136 σ 136 Q := by
  refine E_aload_n 143 dX12_changes_142 rfl (ac_88.bnd) rfl ?_
  refine E_aload_n 144 dX12_changes_143 rfl (ac_88.bnd) rfl ?_
  refine E_get 15 147 dX12_changes_144 fl_X12_361 ac_88 rfl (by decide) rfl rfl ?_
  refine E_iconst 148 dX12_changes_147 (by decide) rfl ?_
  refine E_iadd 149 dX12_changes_148 rfl ?_
  refine E_putI 15 152 dX12_changes_149 fl_X12_361 ac_88 rfl (by decide) (Or.inl rfl) rfl rfl ?_
  refine E_aload_n 153 dX12_changes_152 rfl (ac_88.bnd) rfl ?_
  refine E_getL 156 dX12_changes_153 fl_X12_29 ac_88 rfl (by decide) lay_88_8 rfl ?_
  refine E_iload_n 157 dX12_changes_156 rfl rfl ?_
  refine E_aload_n 158 dX12_changes_157 rfl (ac_88.bnd) rfl ?_
  refine E_getL 161 dX12_changes_158 fl_X12_29 ac_88 rfl (by decide) lay_88_8 rfl ?_
  refine E_iload_n 162 dX12_changes_161 rfl rfl ?_
  obtain ⟨c1, w⟩ := w
  refine E_iald 163 dX12_changes_162 ac_94 c1 rfl ?_
  refine E_conv (su_ne (Or.inl (by decide))) ?_
  refine E_iconst 164 dX12_changes_163 (by decide) rfl ?_
  refine E_iadd 165 dX12_changes_164 rfl ?_
  refine E_iast 166 dX12_changes_165 ac_94 c1 rfl ?_
  refine E_aload_n 167 dX12_changes_166 rfl (ac_88.bnd) rfl ?_
  refine E_getL 170 dX12_changes_167 fl_X12_17 ac_88 rfl (by decide) lay_88_4 rfl ?_
  refine E_iload_n 171 dX12_changes_170 rfl rfl ?_
  refine E_iconst 172 dX12_changes_171 (by decide) rfl ?_
  refine E_iast 173 dX12_changes_172 ac_90 c1 rfl ?_
  refine E_aload_n 174 dX12_changes_173 rfl (ac_88.bnd) rfl ?_
  refine E_getL 177 dX12_changes_174 fl_X12_20 ac_88 rfl (by decide) lay_88_5 rfl ?_
  refine E_iload_n 178 dX12_changes_177 rfl rfl ?_
  refine E_iconst 179 dX12_changes_178 (by decide) rfl ?_
  refine E_iast 180 dX12_changes_179 ac_91 c1 rfl ?_
  refine E_aload_n 181 dX12_changes_180 rfl (ac_88.bnd) rfl ?_
  refine E_getL 184 dX12_changes_181 fl_X12_26 ac_88 rfl (by decide) lay_88_7 rfl ?_
  refine E_iload_n 185 dX12_changes_184 rfl rfl ?_
  refine E_iconst 186 dX12_changes_185 (by decide) rfl ?_
  refine E_iast 187 dX12_changes_186 ac_93 c1 rfl ?_
  refine E_aload_n 188 dX12_changes_187 rfl (ac_88.bnd) rfl ?_
  refine E_getL 191 dX12_changes_188 fl_X12_98 ac_88 rfl (by decide) lay_88_49 rfl ?_
  refine E_iload_n 192 dX12_changes_191 rfl rfl ?_
  refine E_iconst 193 dX12_changes_192 (by decide) rfl ?_
  refine E_iast 194 dX12_changes_193 ac_115 c1 rfl ?_
  refine E_iconst 195 dX12_changes_194 (by decide) rfl ?_
  exact E_zret dX12_changes_195 rfl rfl (Or.inr rfl) w
theorem B_X12_heComes_0 {g : PG} {d : Nat} {σ : PS} {Q : Int → PS → Prop}  (w : (XX g true (d + 1) P_X12_heComes 2 [(2, 88), (0, 0), (9, 0)] [] 136 σ 136 Q)) : XX g true (d + 1) P_X12_heComes 0 [(2, 88), (9, 0), (9, 0)] [] 136 σ 136 Q := by
  refine E_iconst 1 dX12_heComes_0 (by decide) rfl ?_
  refine E_istore_n (ls' := [(2, 88), (0, 0), (9, 0)]) 2 dX12_heComes_1 (by decide) rfl rfl ?_
  with_reducible exact w
theorem B_X12_heComes_2 {g : PG} {d : Nat} {σ : PS} {Q : Int → PS → Prop} {x1 : Int}  (w : ((σ 88 2 ≤ x1 → (XX g true (d + 1) P_X12_heComes 33 [(2, 88), (0, 0), (9, 0)] [] 136 σ 136 Q)) ∧ (x1 < σ 88 2 → XX g true d P_X12_urgeOf 0 [(2, 88), (0, σ 88 50), (0, x1)] [] 136 σ 136 (fun r2 σ1 => (0 ≤ x1 ∧ x1 < 60) ∧ (XX g true (d + 1) P_X12_heComes 2 [(2, 88), (0, w32 (x1 + 1)), (9, 0)] [] 136 (su σ1 115 x1 r2) 136 Q))))) : XX g true (d + 1) P_X12_heComes 2 [(2, 88), (0, x1), (9, 0)] [] 136 σ 136 Q := by
  refine E_iload_n 3 dX12_heComes_2 rfl rfl ?_
  refine E_aload_n 4 dX12_heComes_3 rfl (ac_88.bnd) rfl ?_
  refine E_get 2 7 dX12_heComes_4 fl_X12_7 ac_88 rfl (by decide) rfl rfl ?_
  refine E_icmp_ge 10 31 dX12_heComes_7 rfl rfl (fun h => ?_) (fun h => ?_)
  · have w := w.1 h
    refine E_iconst 32 dX12_heComes_31 (by decide) rfl ?_
    refine E_istore_n (ls' := [(2, 88), (0, 0), (9, 0)]) 33 dX12_heComes_32 (by decide) rfl rfl ?_
    with_reducible exact w
  · have w := w.2 h
    refine E_aload_n 11 dX12_heComes_10 rfl (ac_88.bnd) rfl ?_
    refine E_getL 14 dX12_heComes_11 fl_X12_98 ac_88 rfl (by decide) lay_88_49 rfl ?_
    refine E_iload_n 15 dX12_heComes_14 rfl rfl ?_
    refine E_aload_n 16 dX12_heComes_15 rfl (ac_88.bnd) rfl ?_
    refine E_aload_n 17 dX12_heComes_16 rfl (ac_88.bnd) rfl ?_
    refine E_get 50 20 dX12_heComes_17 fl_X12_101 ac_88 rfl (by decide) rfl rfl ?_
    refine E_iload_n 21 dX12_heComes_20 rfl rfl ?_
    refine E_callV (as := [(0, σ 88 50), (0, x1)]) 24 dX12_heComes_21 cf_X12_urgeOf mw_1590 mw_1592 mw_86 ac_88 (by decide) cl_X12 rfl rfl (Nat.le_of_ble_eq_true rfl) (Nat.le_of_ble_eq_true rfl) ⟨Nat.le_refl _, Nat.le_refl _⟩ rfl (w.mono (fun r2 σ1 w => ?_))
    show XX g true (d + 1) P_X12_heComes 24 [(2, 88), (0, x1), (9, 0)] [(0, r2), (0, x1), (2, 115)] 136 σ1 136 Q
    obtain ⟨c3, w⟩ := w
    refine E_iast 25 dX12_heComes_24 ac_115 c3 rfl ?_
    refine E_iinc (ls' := [(2, 88), (0, w32 (x1 + 1)), (9, 0)]) 28 dX12_heComes_25 (by decide) rfl rfl rfl ?_
    refine E_goto 2 dX12_heComes_28 rfl ?_
    with_reducible exact w
theorem B_X12_heComes_33 {g : PG} {d : Nat} {σ : PS} {Q : Int → PS → Prop} {x1 : Int}  (w : ((σ 88 2 ≤ x1 → (XX g true (d + 1) P_X12_heComes 73 [(2, 88), (0, 0), (9, 0)] [] 136 σ 136 Q)) ∧ (x1 < σ 88 2 → (0 ≤ x1 ∧ x1 < 60) ∧ (XX g true (d + 1) P_X12_heComes 33 [(2, 88), (0, w32 (x1 + 1)), (9, 0)] [] 136 (su (su σ 92 x1 (w32 ((σ 88 12) + 1))) 93 x1 (σ 91 x1)) 136 Q)))) : XX g true (d + 1) P_X12_heComes 33 [(2, 88), (0, x1), (9, 0)] [] 136 σ 136 Q := by
  refine E_iload_n 34 dX12_heComes_33 rfl rfl ?_
  refine E_aload_n 35 dX12_heComes_34 rfl (ac_88.bnd) rfl ?_
  refine E_get 2 38 dX12_heComes_35 fl_X12_7 ac_88 rfl (by decide) rfl rfl ?_
  refine E_icmp_ge 41 71 dX12_heComes_38 rfl rfl (fun h => ?_) (fun h => ?_)
  · have w := w.1 h
    refine E_iconst 72 dX12_heComes_71 (by decide) rfl ?_
    refine E_istore_n (ls' := [(2, 88), (0, 0), (9, 0)]) 73 dX12_heComes_72 (by decide) rfl rfl ?_
    with_reducible exact w
  · have w := w.2 h
    refine E_aload_n 42 dX12_heComes_41 rfl (ac_88.bnd) rfl ?_
    refine E_getL 45 dX12_heComes_42 fl_X12_23 ac_88 rfl (by decide) lay_88_6 rfl ?_
    refine E_iload_n 46 dX12_heComes_45 rfl rfl ?_
    refine E_aload_n 47 dX12_heComes_46 rfl (ac_88.bnd) rfl ?_
    refine E_get 12 50 dX12_heComes_47 fl_X12_334 ac_88 rfl (by decide) rfl rfl ?_
    refine E_iconst 51 dX12_heComes_50 (by decide) rfl ?_
    refine E_iadd 52 dX12_heComes_51 rfl ?_
    obtain ⟨c1, w⟩ := w
    refine E_iast 53 dX12_heComes_52 ac_92 c1 rfl ?_
    refine E_aload_n 54 dX12_heComes_53 rfl (ac_88.bnd) rfl ?_
    refine E_getL 57 dX12_heComes_54 fl_X12_26 ac_88 rfl (by decide) lay_88_7 rfl ?_
    refine E_iload_n 58 dX12_heComes_57 rfl rfl ?_
    refine E_aload_n 59 dX12_heComes_58 rfl (ac_88.bnd) rfl ?_
    refine E_getL 62 dX12_heComes_59 fl_X12_20 ac_88 rfl (by decide) lay_88_5 rfl ?_
    refine E_iload_n 63 dX12_heComes_62 rfl rfl ?_
    refine E_iald 64 dX12_heComes_63 ac_91 c1 rfl ?_
    refine E_conv (su_ne (Or.inl (by decide))) ?_
    refine E_iast 65 dX12_heComes_64 ac_93 c1 rfl ?_
    refine E_iinc (ls' := [(2, 88), (0, w32 (x1 + 1)), (9, 0)]) 68 dX12_heComes_65 (by decide) rfl rfl rfl ?_
    refine E_goto 33 dX12_heComes_68 rfl ?_
    with_reducible exact w
theorem B_X12_heComes_73 {g : PG} {d : Nat} {σ : PS} {Q : Int → PS → Prop} {x1 : Int}  (w : ((σ 97 2 ≤ x1 → Q 0 σ) ∧ (x1 < σ 97 2 → XX g true d P_X12_bestUrge 0 [(2, 88), (9, 0), (9, 0)] [] 136 σ 136 (fun r2 σ1 => ((r2 = (-1) → Q 0 σ1) ∧ (r2 ≠ (-1) → XX g true d P_X12_changes 0 [(2, 88), (0, r2), (9, 0), (9, 0)] [] 136 σ1 136 (fun r4 σ3 => ((r4 ≠ 0 → (XX g true (d + 1) P_X12_heComes 73 [(2, 88), (0, w32 (x1 + 1)), (9, 0)] [] 136 σ3 136 Q)) ∧ (r4 = 0 → Q 0 σ3))))))))) : XX g true (d + 1) P_X12_heComes 73 [(2, 88), (0, x1), (9, 0)] [] 136 σ 136 Q := by
  refine E_iload_n 74 dX12_heComes_73 rfl rfl ?_
  refine E_aload_n 75 dX12_heComes_74 rfl (ac_88.bnd) rfl ?_
  refine E_getL 78 dX12_heComes_75 fl_X12_38 ac_88 rfl (by decide) lay_88_11 rfl ?_
  refine E_iconst 79 dX12_heComes_78 (by decide) rfl ?_
  refine E_iald 80 dX12_heComes_79 ac_97 (by decide) rfl ?_
  refine E_icmp_ge 83 108 dX12_heComes_80 rfl rfl (fun h => ?_) (fun h => ?_)
  · have w := w.1 h
    exact E_vret dX12_heComes_108 rfl rfl w
  · have w := w.2 h
    refine E_aload_n 84 dX12_heComes_83 rfl (ac_88.bnd) rfl ?_
    refine E_callV (as := []) 87 dX12_heComes_84 cf_X12_bestUrge mw_1594 mw_1596 mw_87 ac_88 (by decide) cl_X12 rfl rfl (Nat.le_of_ble_eq_true rfl) (Nat.le_of_ble_eq_true rfl) ⟨Nat.le_refl _, Nat.le_refl _⟩ rfl (w.mono (fun r2 σ1 w => ?_))
    show XX g true (d + 1) P_X12_heComes 87 [(2, 88), (0, x1), (9, 0)] [(0, r2)] 136 σ1 136 Q
    refine E_istore_n (ls' := [(2, 88), (0, x1), (0, r2)]) 88 dX12_heComes_87 (by decide) rfl rfl ?_
    refine E_iload_n 89 dX12_heComes_88 rfl rfl ?_
    refine E_iconst 90 dX12_heComes_89 (by decide) rfl ?_
    refine E_icmp_eq 93 101 dX12_heComes_90 rfl rfl (fun h => ?_) (fun h => ?_)
    · have w := w.1 h
      exact E_vret dX12_heComes_101 rfl rfl w
    · have w := w.2 h
      refine E_aload_n 94 dX12_heComes_93 rfl (ac_88.bnd) rfl ?_
      refine E_iload_n 95 dX12_heComes_94 rfl rfl ?_
      refine E_callV (as := [(0, r2)]) 98 dX12_heComes_95 cf_X12_changes mw_1598 mw_1600 mw_88 ac_88 (by decide) cl_X12 rfl rfl (Nat.le_of_ble_eq_true rfl) (Nat.le_of_ble_eq_true rfl) ⟨Nat.le_refl _, Nat.le_refl _⟩ rfl (w.mono (fun r4 σ3 w => ?_))
      show XX g true (d + 1) P_X12_heComes 98 [(2, 88), (0, x1), (0, r2)] [(0, r4)] 136 σ3 136 Q
      refine E_if_ne 101 102 dX12_heComes_98 rfl rfl (fun h => ?_) (fun h => ?_)
      · have w := w.1 h
        refine E_iinc (ls' := [(2, 88), (0, w32 (x1 + 1)), (0, r2)]) 105 dX12_heComes_102 (by decide) rfl rfl rfl ?_
        refine E_goto 73 dX12_heComes_105 rfl ?_
        refine XX.fg [2] [(2, 88), (0, w32 (x1 + 1)), (9, 0)] rfl ?_
        with_reducible exact w
      · have w := w.2 h
        exact E_vret dX12_heComes_101 rfl rfl w
theorem B_X12_goesBy_0 {g : PG} {d : Nat} {σ : PS} {Q : Int → PS → Prop}  (w : (XX g true (d + 1) P_X12_goesBy 2 [(2, 88), (0, 0)] [] 136 σ 136 Q)) : XX g true (d + 1) P_X12_goesBy 0 [(2, 88), (9, 0)] [] 136 σ 136 Q := by
  refine E_iconst 1 dX12_goesBy_0 (by decide) rfl ?_
  refine E_istore_n (ls' := [(2, 88), (0, 0)]) 2 dX12_goesBy_1 (by decide) rfl rfl ?_
  with_reducible exact w
theorem B_X12_goesBy_2 {g : PG} {d : Nat} {σ : PS} {Q : Int → PS → Prop} {x1 : Int}  (w : ((σ 88 2 ≤ x1 → (XX g true (d + 1) P_X12_goesBy 29 [(2, 88), (0, 0)] [] 136 σ 136 Q)) ∧ (x1 < σ 88 2 → XX g true d P_X12_goesNow 0 [(2, 88), (0, x1)] [] 136 σ 136 (fun r2 σ1 => (0 ≤ x1 ∧ x1 < 60) ∧ (XX g true (d + 1) P_X12_goesBy 2 [(2, 88), (0, w32 (x1 + 1))] [] 136 (su σ1 114 x1 r2) 136 Q))))) : XX g true (d + 1) P_X12_goesBy 2 [(2, 88), (0, x1)] [] 136 σ 136 Q := by
  refine E_iload_n 3 dX12_goesBy_2 rfl rfl ?_
  refine E_aload_n 4 dX12_goesBy_3 rfl (ac_88.bnd) rfl ?_
  refine E_get 2 7 dX12_goesBy_4 fl_X12_7 ac_88 rfl (by decide) rfl rfl ?_
  refine E_icmp_ge 10 27 dX12_goesBy_7 rfl rfl (fun h => ?_) (fun h => ?_)
  · have w := w.1 h
    refine E_iconst 28 dX12_goesBy_27 (by decide) rfl ?_
    refine E_istore_n (ls' := [(2, 88), (0, 0)]) 29 dX12_goesBy_28 (by decide) rfl rfl ?_
    with_reducible exact w
  · have w := w.2 h
    refine E_aload_n 11 dX12_goesBy_10 rfl (ac_88.bnd) rfl ?_
    refine E_getL 14 dX12_goesBy_11 fl_X12_95 ac_88 rfl (by decide) lay_88_48 rfl ?_
    refine E_iload_n 15 dX12_goesBy_14 rfl rfl ?_
    refine E_aload_n 16 dX12_goesBy_15 rfl (ac_88.bnd) rfl ?_
    refine E_iload_n 17 dX12_goesBy_16 rfl rfl ?_
    refine E_callV (as := [(0, x1)]) 20 dX12_goesBy_17 cf_X12_goesNow mw_1548 mw_1550 mw_76 ac_88 (by decide) cl_X12 rfl rfl (Nat.le_of_ble_eq_true rfl) (Nat.le_of_ble_eq_true rfl) ⟨Nat.le_refl _, Nat.le_refl _⟩ rfl (w.mono (fun r2 σ1 w => ?_))
    show XX g true (d + 1) P_X12_goesBy 20 [(2, 88), (0, x1)] [(0, r2), (0, x1), (2, 114)] 136 σ1 136 Q
    obtain ⟨c3, w⟩ := w
    refine E_iast 21 dX12_goesBy_20 ac_114 c3 rfl ?_
    refine E_iinc (ls' := [(2, 88), (0, w32 (x1 + 1))]) 24 dX12_goesBy_21 (by decide) rfl rfl rfl ?_
    refine E_goto 2 dX12_goesBy_24 rfl ?_
    with_reducible exact w
theorem B_X12_goesBy_29 {g : PG} {d : Nat} {σ : PS} {Q : Int → PS → Prop} {x1 : Int}  (w : ((σ 88 2 ≤ x1 → XX g true d P_X12_failsNow 0 [(2, 88), (9, 0)] [] 136 (su σ 88 12 (w32 ((σ 88 12) + 1))) 136 (fun r2 σ1 => ((r2 = 0 → σ1 88 51 ≠ 0 ∧ ((irem (σ1 88 12) (σ1 88 51) ≠ 0 → Q 0 σ1) ∧ (irem (σ1 88 12) (σ1 88 51) = 0 → XX g true d P_X12_heComes 0 [(2, 88), (9, 0), (9, 0)] [] 136 σ1 136 (fun _ σ4 => Q 0 σ4)))) ∧ (r2 ≠ 0 → σ1 88 51 ≠ 0 ∧ ((irem (σ1 88 12) (σ1 88 51) ≠ 0 → Q 0 (su (su σ1 88 13 (w32 ((σ1 88 13) + 1))) 88 14 (w32 ((σ1 88 14) + (σ1 97 5))))) ∧ (irem (σ1 88 12) (σ1 88 51) = 0 → XX g true d P_X12_heComes 0 [(2, 88), (9, 0), (9, 0)] [] 136 (su (su σ1 88 13 (w32 ((σ1 88 13) + 1))) 88 14 (w32 ((σ1 88 14) + (σ1 97 5)))) 136 (fun _ σ7 => Q 0 σ7))))))) ∧ (x1 < σ 88 2 → (0 ≤ x1 ∧ x1 < 60) ∧ ((σ 91 x1 ≠ 1 → XX g true d P_X12_draw 0 [(2, 88), (0, 1000)] [] 136 σ 136 (fun r11 σ10 => ((σ10 114 x1 ≤ r11 → ((w32 ((σ10 90 x1) + 1) ≤ σ10 88 16 → (XX g true (d + 1) P_X12_goesBy 29 [(2, 88), (0, w32 (x1 + 1))] [] 136 (su σ10 90 x1 (w32 ((σ10 90 x1) + 1))) 136 Q)) ∧ (σ10 88 16 < w32 ((σ10 90 x1) + 1) → (XX g true (d + 1) P_X12_goesBy 29 [(2, 88), (0, w32 (x1 + 1))] [] 136 (su (su (su σ10 90 x1 (w32 ((σ10 90 x1) + 1))) 88 16 (w32 ((σ10 90 x1) + 1))) 88 17 x1) 136 Q)))) ∧ (r11 < σ10 114 x1 → (XX g true (d + 1) P_X12_goesBy 29 [(2, 88), (0, w32 (x1 + 1))] [] 136 (su σ10 91 x1 1) 136 Q))))) ∧ (σ 91 x1 = 1 → (XX g true (d + 1) P_X12_goesBy 29 [(2, 88), (0, w32 (x1 + 1))] [] 136 σ 136 Q)))))) : XX g true (d + 1) P_X12_goesBy 29 [(2, 88), (0, x1)] [] 136 σ 136 Q := by
  refine E_iload_n 30 dX12_goesBy_29 rfl rfl ?_
  refine E_aload_n 31 dX12_goesBy_30 rfl (ac_88.bnd) rfl ?_
  refine E_get 2 34 dX12_goesBy_31 fl_X12_7 ac_88 rfl (by decide) rfl rfl ?_
  refine E_icmp_ge 37 124 dX12_goesBy_34 rfl rfl (fun h => ?_) (fun h => ?_)
  · have w := w.1 h
    refine E_aload_n 125 dX12_goesBy_124 rfl (ac_88.bnd) rfl ?_
    refine E_aload_n 126 dX12_goesBy_125 rfl (ac_88.bnd) rfl ?_
    refine E_get 12 129 dX12_goesBy_126 fl_X12_334 ac_88 rfl (by decide) rfl rfl ?_
    refine E_iconst 130 dX12_goesBy_129 (by decide) rfl ?_
    refine E_iadd 131 dX12_goesBy_130 rfl ?_
    refine E_putI 12 134 dX12_goesBy_131 fl_X12_334 ac_88 rfl (by decide) (Or.inl rfl) rfl rfl ?_
    refine E_aload_n 135 dX12_goesBy_134 rfl (ac_88.bnd) rfl ?_
    refine E_callV (as := []) 138 dX12_goesBy_135 cf_X12_failsNow mw_1582 mw_1584 mw_84 ac_88 (by decide) cl_X12 rfl rfl (Nat.le_of_ble_eq_true rfl) (Nat.le_of_ble_eq_true rfl) ⟨Nat.le_refl _, Nat.le_refl _⟩ rfl (w.mono (fun r2 σ1 w => ?_))
    show XX g true (d + 1) P_X12_goesBy 138 [(2, 88), (0, x1)] [(0, r2)] 136 σ1 136 Q
    refine E_if_eq 141 166 dX12_goesBy_138 rfl rfl (fun h => ?_) (fun h => ?_)
    · have w := w.1 h
      refine E_aload_n 167 dX12_goesBy_166 rfl (ac_88.bnd) rfl ?_
      refine E_get 12 170 dX12_goesBy_167 fl_X12_334 ac_88 rfl (by decide) rfl rfl ?_
      refine E_aload_n 171 dX12_goesBy_170 rfl (ac_88.bnd) rfl ?_
      refine E_get 51 174 dX12_goesBy_171 fl_X12_385 ac_88 rfl (by decide) rfl rfl ?_
      obtain ⟨c3, w⟩ := w
      refine E_irem 175 dX12_goesBy_174 c3 rfl ?_
      refine E_if_ne 178 182 dX12_goesBy_175 rfl rfl (fun h => ?_) (fun h => ?_)
      · have w := w.1 h
        exact E_vret dX12_goesBy_182 rfl rfl w
      · have w := w.2 h
        refine E_aload_n 179 dX12_goesBy_178 rfl (ac_88.bnd) rfl ?_
        refine E_callV (as := []) 182 dX12_goesBy_179 cf_X12_heComes mw_1586 mw_1588 mw_85 ac_88 (by decide) cl_X12 rfl rfl (Nat.le_of_ble_eq_true rfl) (Nat.le_of_ble_eq_true rfl) ⟨Nat.le_refl _, Nat.le_refl _⟩ rfl (w.mono (fun r5 σ4 w => ?_))
        show XX g true (d + 1) P_X12_goesBy 182 [(2, 88), (0, x1)] [] 136 σ4 136 Q
        exact E_vret dX12_goesBy_182 rfl rfl w
    · have w := w.2 h
      refine E_aload_n 142 dX12_goesBy_141 rfl (ac_88.bnd) rfl ?_
      refine E_aload_n 143 dX12_goesBy_142 rfl (ac_88.bnd) rfl ?_
      refine E_get 13 146 dX12_goesBy_143 fl_X12_382 ac_88 rfl (by decide) rfl rfl ?_
      refine E_iconst 147 dX12_goesBy_146 (by decide) rfl ?_
      refine E_iadd 148 dX12_goesBy_147 rfl ?_
      refine E_putI 13 151 dX12_goesBy_148 fl_X12_382 ac_88 rfl (by decide) (Or.inl rfl) rfl rfl ?_
      refine E_aload_n 152 dX12_goesBy_151 rfl (ac_88.bnd) rfl ?_
      refine E_aload_n 153 dX12_goesBy_152 rfl (ac_88.bnd) rfl ?_
      refine E_get 14 156 dX12_goesBy_153 fl_X12_358 ac_88 rfl (by decide) rfl rfl ?_
      refine E_conv (su_ne (Or.inr (by decide))) ?_
      refine E_aload_n 157 dX12_goesBy_156 rfl (ac_88.bnd) rfl ?_
      refine E_getL 160 dX12_goesBy_157 fl_X12_38 ac_88 rfl (by decide) lay_88_11 rfl ?_
      refine E_iconst 161 dX12_goesBy_160 (by decide) rfl ?_
      refine E_iald 162 dX12_goesBy_161 ac_97 (by decide) rfl ?_
      refine E_conv (su_ne (Or.inl (by decide))) ?_
      refine E_iadd 163 dX12_goesBy_162 rfl ?_
      refine E_putI 14 166 dX12_goesBy_163 fl_X12_358 ac_88 rfl (by decide) (Or.inl rfl) rfl rfl ?_
      refine E_aload_n 167 dX12_goesBy_166 rfl (ac_88.bnd) rfl ?_
      refine E_get 12 170 dX12_goesBy_167 fl_X12_334 ac_88 rfl (by decide) rfl rfl ?_
      refine E_conv ((su_ne (Or.inr (by decide))).trans (su_ne (Or.inr (by decide)))) ?_
      refine E_aload_n 171 dX12_goesBy_170 rfl (ac_88.bnd) rfl ?_
      refine E_get 51 174 dX12_goesBy_171 fl_X12_385 ac_88 rfl (by decide) rfl rfl ?_
      refine E_conv ((su_ne (Or.inr (by decide))).trans (su_ne (Or.inr (by decide)))) ?_
      obtain ⟨c6, w⟩ := w
      refine E_irem 175 dX12_goesBy_174 c6 rfl ?_
      refine E_if_ne 178 182 dX12_goesBy_175 rfl rfl (fun h => ?_) (fun h => ?_)
      · have w := w.1 h
        exact E_vret dX12_goesBy_182 rfl rfl w
      · have w := w.2 h
        refine E_aload_n 179 dX12_goesBy_178 rfl (ac_88.bnd) rfl ?_
        refine E_callV (as := []) 182 dX12_goesBy_179 cf_X12_heComes mw_1586 mw_1588 mw_85 ac_88 (by decide) cl_X12 rfl rfl (Nat.le_of_ble_eq_true rfl) (Nat.le_of_ble_eq_true rfl) ⟨Nat.le_refl _, Nat.le_refl _⟩ rfl (w.mono (fun r8 σ7 w => ?_))
        show XX g true (d + 1) P_X12_goesBy 182 [(2, 88), (0, x1)] [] 136 σ7 136 Q
        exact E_vret dX12_goesBy_182 rfl rfl w
  · have w := w.2 h
    refine E_aload_n 38 dX12_goesBy_37 rfl (ac_88.bnd) rfl ?_
    refine E_getL 41 dX12_goesBy_38 fl_X12_20 ac_88 rfl (by decide) lay_88_5 rfl ?_
    refine E_iload_n 42 dX12_goesBy_41 rfl rfl ?_
    obtain ⟨c9, w⟩ := w
    refine E_iald 43 dX12_goesBy_42 ac_91 c9 rfl ?_
    refine E_iconst 44 dX12_goesBy_43 (by decide) rfl ?_
    refine E_icmp_ne 47 50 dX12_goesBy_44 rfl rfl (fun h => ?_) (fun h => ?_)
    · have w := w.1 h
      refine E_aload_n 51 dX12_goesBy_50 rfl (ac_88.bnd) rfl ?_
      refine E_sipush 54 dX12_goesBy_51 (by decide) rfl ?_
      refine E_callV (as := [(0, 1000)]) 57 dX12_goesBy_54 cf_X12_draw mw_1576 mw_1578 mw_83 ac_88 (by decide) cl_X12 rfl rfl (Nat.le_of_ble_eq_true rfl) (Nat.le_of_ble_eq_true rfl) ⟨Nat.le_refl _, Nat.le_refl _⟩ rfl (w.mono (fun r11 σ10 w => ?_))
      show XX g true (d + 1) P_X12_goesBy 57 [(2, 88), (0, x1)] [(0, r11)] 136 σ10 136 Q
      refine E_aload_n 58 dX12_goesBy_57 rfl (ac_88.bnd) rfl ?_
      refine E_getL 61 dX12_goesBy_58 fl_X12_95 ac_88 rfl (by decide) lay_88_48 rfl ?_
      refine E_iload_n 62 dX12_goesBy_61 rfl rfl ?_
      refine E_iald 63 dX12_goesBy_62 ac_114 c9 rfl ?_
      refine E_icmp_ge 66 76 dX12_goesBy_63 rfl rfl (fun h => ?_) (fun h => ?_)
      · have w := w.1 h
        refine E_aload_n 77 dX12_goesBy_76 rfl (ac_88.bnd) rfl ?_
        refine E_getL 80 dX12_goesBy_77 fl_X12_17 ac_88 rfl (by decide) lay_88_4 rfl ?_
        refine E_iload_n 81 dX12_goesBy_80 rfl rfl ?_
        refine E_aload_n 82 dX12_goesBy_81 rfl (ac_88.bnd) rfl ?_
        refine E_getL 85 dX12_goesBy_82 fl_X12_17 ac_88 rfl (by decide) lay_88_4 rfl ?_
        refine E_iload_n 86 dX12_goesBy_85 rfl rfl ?_
        refine E_iald 87 dX12_goesBy_86 ac_90 c9 rfl ?_
        refine E_iconst 88 dX12_goesBy_87 (by decide) rfl ?_
        refine E_iadd 89 dX12_goesBy_88 rfl ?_
        refine E_iast 90 dX12_goesBy_89 ac_90 c9 rfl ?_
        refine E_aload_n 91 dX12_goesBy_90 rfl (ac_88.bnd) rfl ?_
        refine E_getL 94 dX12_goesBy_91 fl_X12_17 ac_88 rfl (by decide) lay_88_4 rfl ?_
        refine E_iload_n 95 dX12_goesBy_94 rfl rfl ?_
        refine E_iald 96 dX12_goesBy_95 ac_90 c9 rfl ?_
        refine E_conv (su_eq) ?_
        refine E_aload_n 97 dX12_goesBy_96 rfl (ac_88.bnd) rfl ?_
        refine E_get 16 100 dX12_goesBy_97 fl_X12_178 ac_88 rfl (by decide) rfl rfl ?_
        refine E_conv (su_ne (Or.inl (by decide))) ?_
        refine E_icmp_le 103 118 dX12_goesBy_100 rfl rfl (fun h => ?_) (fun h => ?_)
        · have w := w.1 h
          refine E_iinc (ls' := [(2, 88), (0, w32 (x1 + 1))]) 121 dX12_goesBy_118 (by decide) rfl rfl rfl ?_
          refine E_goto 29 dX12_goesBy_121 rfl ?_
          with_reducible exact w
        · have w := w.2 h
          refine E_aload_n 104 dX12_goesBy_103 rfl (ac_88.bnd) rfl ?_
          refine E_aload_n 105 dX12_goesBy_104 rfl (ac_88.bnd) rfl ?_
          refine E_getL 108 dX12_goesBy_105 fl_X12_17 ac_88 rfl (by decide) lay_88_4 rfl ?_
          refine E_iload_n 109 dX12_goesBy_108 rfl rfl ?_
          refine E_iald 110 dX12_goesBy_109 ac_90 c9 rfl ?_
          refine E_conv (su_eq) ?_
          refine E_putI 16 113 dX12_goesBy_110 fl_X12_178 ac_88 rfl (by decide) (Or.inl rfl) rfl rfl ?_
          refine E_aload_n 114 dX12_goesBy_113 rfl (ac_88.bnd) rfl ?_
          refine E_iload_n 115 dX12_goesBy_114 rfl rfl ?_
          refine E_putI 17 118 dX12_goesBy_115 fl_X12_41 ac_88 rfl (by decide) (Or.inl rfl) rfl rfl ?_
          refine E_iinc (ls' := [(2, 88), (0, w32 (x1 + 1))]) 121 dX12_goesBy_118 (by decide) rfl rfl rfl ?_
          refine E_goto 29 dX12_goesBy_121 rfl ?_
          with_reducible exact w
      · have w := w.2 h
        refine E_aload_n 67 dX12_goesBy_66 rfl (ac_88.bnd) rfl ?_
        refine E_getL 70 dX12_goesBy_67 fl_X12_20 ac_88 rfl (by decide) lay_88_5 rfl ?_
        refine E_iload_n 71 dX12_goesBy_70 rfl rfl ?_
        refine E_iconst 72 dX12_goesBy_71 (by decide) rfl ?_
        refine E_iast 73 dX12_goesBy_72 ac_91 c9 rfl ?_
        refine E_goto 118 dX12_goesBy_73 rfl ?_
        refine E_iinc (ls' := [(2, 88), (0, w32 (x1 + 1))]) 121 dX12_goesBy_118 (by decide) rfl rfl rfl ?_
        refine E_goto 29 dX12_goesBy_121 rfl ?_
        with_reducible exact w
    · have w := w.2 h
      refine E_goto 118 dX12_goesBy_47 rfl ?_
      refine E_iinc (ls' := [(2, 88), (0, w32 (x1 + 1))]) 121 dX12_goesBy_118 (by decide) rfl rfl rfl ?_
      refine E_goto 29 dX12_goesBy_121 rfl ?_
      with_reducible exact w
theorem B_X12_days_0 {g : PG} {d : Nat} {σ : PS} {Q : Int → PS → Prop} {x1 : Int}  (w : XX g true d P_X12_isIn 0 [(2, 88), (0, x1), (0, 1), (0, 99)] [] 136 (su σ 88 0 0) 136 (fun r2 σ1 => ((r2 = 0 → Q (-1) σ1) ∧ (r2 ≠ 0 → ((w32 ((σ1 88 12) + x1) ≤ 9999 → ∀ y3, y3 = σ1 88 13 → (XX g true (d + 1) P_X12_days 52 [(2, 88), (0, x1), (0, y3), (0, 0)] [] 136 (su (su σ1 88 50 1) 88 51 (σ1 97 3)) 136 Q)) ∧ (9999 < w32 ((σ1 88 12) + x1) → Q (-1) σ1)))))) : XX g true (d + 1) P_X12_days 0 [(2, 88), (0, x1), (9, 0), (9, 0)] [] 136 σ 136 Q := by
  refine E_aload_n 1 dX12_days_0 rfl (ac_88.bnd) rfl ?_
  refine E_iconst 2 dX12_days_1 (by decide) rfl ?_
  refine E_putI 0 5 dX12_days_2 fl_X12_166 ac_88 rfl (by decide) (Or.inl rfl) rfl rfl ?_
  refine E_aload_n 6 dX12_days_5 rfl (ac_88.bnd) rfl ?_
  refine E_iload_n 7 dX12_days_6 rfl rfl ?_
  refine E_iconst 8 dX12_days_7 (by decide) rfl ?_
  refine E_bipush 10 dX12_days_8 (by decide) rfl ?_
  refine E_callV (as := [(0, x1), (0, 1), (0, 99)]) 13 dX12_days_10 cf_X12_isIn mw_1363 mw_1365 mw_39 ac_88 (by decide) cl_X12 rfl rfl (Nat.le_of_ble_eq_true rfl) (Nat.le_of_ble_eq_true rfl) ⟨Nat.le_refl _, Nat.le_refl _⟩ rfl (w.mono (fun r2 σ1 w => ?_))
  show XX g true (d + 1) P_X12_days 13 [(2, 88), (0, x1), (9, 0), (9, 0)] [(0, r2)] 136 σ1 136 Q
  refine E_if_eq 16 28 dX12_days_13 rfl rfl (fun h => ?_) (fun h => ?_)
  · have w := w.1 h
    refine E_iconst 29 dX12_days_28 (by decide) rfl ?_
    exact E_iret dX12_days_29 rfl rfl w
  · have w := w.2 h
    refine E_aload_n 17 dX12_days_16 rfl (ac_88.bnd) rfl ?_
    refine E_get 12 20 dX12_days_17 fl_X12_334 ac_88 rfl (by decide) rfl rfl ?_
    refine E_iload_n 21 dX12_days_20 rfl rfl ?_
    refine E_iadd 22 dX12_days_21 rfl ?_
    refine E_sipush 25 dX12_days_22 (by decide) rfl ?_
    refine E_icmp_le 28 30 dX12_days_25 rfl rfl (fun h => ?_) (fun h => ?_)
    · have w := w.1 h
      refine E_aload_n 31 dX12_days_30 rfl (ac_88.bnd) rfl ?_
      refine E_get 13 34 dX12_days_31 fl_X12_382 ac_88 rfl (by decide) rfl rfl ?_
      refine E_top (fun y3 hy3 => ?_)
      have w := w y3 hy3
      refine E_istore_n (ls' := [(2, 88), (0, x1), (0, y3), (9, 0)]) 35 dX12_days_34 (by decide) rfl rfl ?_
      refine E_aload_n 36 dX12_days_35 rfl (ac_88.bnd) rfl ?_
      refine E_iconst 37 dX12_days_36 (by decide) rfl ?_
      refine E_putI 50 40 dX12_days_37 fl_X12_101 ac_88 rfl (by decide) (Or.inl rfl) rfl rfl ?_
      refine E_aload_n 41 dX12_days_40 rfl (ac_88.bnd) rfl ?_
      refine E_aload_n 42 dX12_days_41 rfl (ac_88.bnd) rfl ?_
      refine E_getL 45 dX12_days_42 fl_X12_38 ac_88 rfl (by decide) lay_88_11 rfl ?_
      refine E_iconst 46 dX12_days_45 (by decide) rfl ?_
      refine E_iald 47 dX12_days_46 ac_97 (by decide) rfl ?_
      refine E_conv (su_ne (Or.inl (by decide))) ?_
      refine E_putI 51 50 dX12_days_47 fl_X12_385 ac_88 rfl (by decide) (Or.inl rfl) rfl rfl ?_
      refine E_iconst 51 dX12_days_50 (by decide) rfl ?_
      refine E_istore_n (ls' := [(2, 88), (0, x1), (0, y3), (0, 0)]) 52 dX12_days_51 (by decide) rfl rfl ?_
      with_reducible exact w
    · have w := w.2 h
      refine E_iconst 29 dX12_days_28 (by decide) rfl ?_
      exact E_iret dX12_days_29 rfl rfl w
theorem B_X12_days_52 {g : PG} {d : Nat} {σ : PS} {Q : Int → PS → Prop} {x1 x2 x3 : Int}  (w : ((x1 ≤ x3 → Q (w32 ((σ 88 13) - x2)) σ) ∧ (x3 < x1 → XX g true d P_X12_goesBy 0 [(2, 88), (9, 0)] [] 136 σ 136 (fun _ σ1 => (XX g true (d + 1) P_X12_days 52 [(2, 88), (0, x1), (0, x2), (0, w32 (x3 + 1))] [] 136 σ1 136 Q))))) : XX g true (d + 1) P_X12_days 52 [(2, 88), (0, x1), (0, x2), (0, x3)] [] 136 σ 136 Q := by
  refine E_iload_n 53 dX12_days_52 rfl rfl ?_
  refine E_iload_n 54 dX12_days_53 rfl rfl ?_
  refine E_icmp_ge 57 67 dX12_days_54 rfl rfl (fun h => ?_) (fun h => ?_)
  · have w := w.1 h
    refine E_aload_n 68 dX12_days_67 rfl (ac_88.bnd) rfl ?_
    refine E_get 13 71 dX12_days_68 fl_X12_382 ac_88 rfl (by decide) rfl rfl ?_
    refine E_iload_n 72 dX12_days_71 rfl rfl ?_
    refine E_isub 73 dX12_days_72 rfl ?_
    exact E_iret dX12_days_73 rfl rfl w
  · have w := w.2 h
    refine E_aload_n 58 dX12_days_57 rfl (ac_88.bnd) rfl ?_
    refine E_callV (as := []) 61 dX12_days_58 cf_X12_goesBy mw_1544 mw_1546 mw_75 ac_88 (by decide) cl_X12 rfl rfl (Nat.le_of_ble_eq_true rfl) (Nat.le_of_ble_eq_true rfl) ⟨Nat.le_refl _, Nat.le_refl _⟩ rfl (w.mono (fun r2 σ1 w => ?_))
    show XX g true (d + 1) P_X12_days 61 [(2, 88), (0, x1), (0, x2), (0, x3)] [] 136 σ1 136 Q
    refine E_iinc (ls' := [(2, 88), (0, x1), (0, x2), (0, w32 (x3 + 1))]) 64 dX12_days_61 (by decide) rfl rfl rfl ?_
    refine E_goto 52 dX12_days_64 rfl ?_
    with_reducible exact w
theorem B_X12_see_0 {g : PG} {d : Nat} {σ : PS} {Q : Int → PS → Prop} {x1 : Int}  (w : XX g true d P_X12_isPlace 0 [(2, 88), (0, x1)] [] 136 (su σ 88 0 0) 136 (fun r2 σ1 => ((r2 ≠ 0 → (0 ≤ x1 ∧ x1 < 60) ∧ Q 1 (su (su σ1 92 x1 (w32 ((σ1 88 12) + 1))) 93 x1 (σ1 91 x1))) ∧ (r2 = 0 → Q 0 σ1)))) : XX g true (d + 1) P_X12_see 0 [(2, 88), (0, x1)] [] 136 σ 136 Q := by
  refine E_aload_n 1 dX12_see_0 rfl (ac_88.bnd) rfl ?_
  refine E_iconst 2 dX12_see_1 (by decide) rfl ?_
  refine E_putI 0 5 dX12_see_2 fl_X12_166 ac_88 rfl (by decide) (Or.inl rfl) rfl rfl ?_
  refine E_aload_n 6 dX12_see_5 rfl (ac_88.bnd) rfl ?_
  refine E_iload_n 7 dX12_see_6 rfl rfl ?_
  refine E_callV (as := [(0, x1)]) 10 dX12_see_7 cf_X12_isPlace mw_1371 mw_1373 mw_40 ac_88 (by decide) cl_X12 rfl rfl (Nat.le_of_ble_eq_true rfl) (Nat.le_of_ble_eq_true rfl) ⟨Nat.le_refl _, Nat.le_refl _⟩ rfl (w.mono (fun r2 σ1 w => ?_))
  show XX g true (d + 1) P_X12_see 10 [(2, 88), (0, x1)] [(0, r2)] 136 σ1 136 Q
  refine E_if_ne 13 15 dX12_see_10 rfl rfl (fun h => ?_) (fun h => ?_)
  · have w := w.1 h
    refine E_aload_n 16 dX12_see_15 rfl (ac_88.bnd) rfl ?_
    refine E_getL 19 dX12_see_16 fl_X12_23 ac_88 rfl (by decide) lay_88_6 rfl ?_
    refine E_iload_n 20 dX12_see_19 rfl rfl ?_
    refine E_aload_n 21 dX12_see_20 rfl (ac_88.bnd) rfl ?_
    refine E_get 12 24 dX12_see_21 fl_X12_334 ac_88 rfl (by decide) rfl rfl ?_
    refine E_iconst 25 dX12_see_24 (by decide) rfl ?_
    refine E_iadd 26 dX12_see_25 rfl ?_
    obtain ⟨c3, w⟩ := w
    refine E_iast 27 dX12_see_26 ac_92 c3 rfl ?_
    refine E_aload_n 28 dX12_see_27 rfl (ac_88.bnd) rfl ?_
    refine E_getL 31 dX12_see_28 fl_X12_26 ac_88 rfl (by decide) lay_88_7 rfl ?_
    refine E_iload_n 32 dX12_see_31 rfl rfl ?_
    refine E_aload_n 33 dX12_see_32 rfl (ac_88.bnd) rfl ?_
    refine E_getL 36 dX12_see_33 fl_X12_20 ac_88 rfl (by decide) lay_88_5 rfl ?_
    refine E_iload_n 37 dX12_see_36 rfl rfl ?_
    refine E_iald 38 dX12_see_37 ac_91 c3 rfl ?_
    refine E_conv (su_ne (Or.inl (by decide))) ?_
    refine E_iast 39 dX12_see_38 ac_93 c3 rfl ?_
    refine E_iconst 40 dX12_see_39 (by decide) rfl ?_
    exact E_zret dX12_see_40 rfl rfl (Or.inr rfl) w
  · have w := w.2 h
    refine E_iconst 14 dX12_see_13 (by decide) rfl ?_
    exact E_zret dX12_see_14 rfl rfl (Or.inl rfl) w
theorem B_X12_of_0 {g : PG} {d : Nat} {σ : PS} {Q : Int → PS → Prop} {x1 x2 : Int}  (w : XX g true d P_X12_isPlace 0 [(2, 88), (0, x1)] [] 136 (su σ 88 0 0) 136 (fun r2 σ1 => ((r2 ≠ 0 → ((x2 ≠ 0 → ((x2 ≠ 1 → ((x2 ≠ 2 → ((x2 ≠ 3 → ((x2 ≠ 4 → ((x2 ≠ 5 → ((x2 ≠ 6 → ((x2 = 7 → XX g true d P_X12_urgeOf 0 [(2, 88), (0, w32 (x2 - 6)), (0, x1)] [] 136 σ1 136 (fun r4 σ3 => Q r4 σ3)) ∧ (x2 ≠ 7 → ((x2 ≠ 8 → ((x2 ≠ 9 → Q (-1000000) σ1) ∧ (x2 = 9 → (0 ≤ x1 ∧ x1 < 60) ∧ Q (σ1 94 x1) σ1))) ∧ (x2 = 8 → XX g true d P_X12_urgeOf 0 [(2, 88), (0, w32 (x2 - 6)), (0, x1)] [] 136 σ1 136 (fun r7 σ6 => Q r7 σ6)))))) ∧ (x2 = 6 → XX g true d P_X12_guessOf 0 [(2, 88), (0, x1), (9, 0), (9, 0), (9, 0)] [] 136 σ1 136 (fun r9 σ8 => Q r9 σ8)))) ∧ (x2 = 5 → XX g true d P_X12_goesNow 0 [(2, 88), (0, x1)] [] 136 σ1 136 (fun r11 σ10 => Q r11 σ10)))) ∧ (x2 = 4 → (0 ≤ x1 ∧ x1 < 60) ∧ Q (σ1 93 x1) σ1))) ∧ (x2 = 3 → (0 ≤ x1 ∧ x1 < 60) ∧ Q (w32 ((σ1 92 x1) - 1)) σ1))) ∧ (x2 = 2 → (0 ≤ x1 ∧ x1 < 60) ∧ Q (σ1 91 x1) σ1))) ∧ (x2 = 1 → (0 ≤ x1 ∧ x1 < 60) ∧ Q (σ1 90 x1) σ1))) ∧ (x2 = 0 → (0 ≤ x1 ∧ x1 < 60) ∧ Q (σ1 89 x1) σ1))) ∧ (r2 = 0 → Q (-1000000) σ1)))) : XX g true (d + 1) P_X12_of 0 [(2, 88), (0, x1), (0, x2)] [] 136 σ 136 Q := by
  refine E_aload_n 1 dX12_of_0 rfl (ac_88.bnd) rfl ?_
  refine E_iconst 2 dX12_of_1 (by decide) rfl ?_
  refine E_putI 0 5 dX12_of_2 fl_X12_166 ac_88 rfl (by decide) (Or.inl rfl) rfl rfl ?_
  refine E_aload_n 6 dX12_of_5 rfl (ac_88.bnd) rfl ?_
  refine E_iload_n 7 dX12_of_6 rfl rfl ?_
  refine E_callV (as := [(0, x1)]) 10 dX12_of_7 cf_X12_isPlace mw_1371 mw_1373 mw_40 ac_88 (by decide) cl_X12 rfl rfl (Nat.le_of_ble_eq_true rfl) (Nat.le_of_ble_eq_true rfl) ⟨Nat.le_refl _, Nat.le_refl _⟩ rfl (w.mono (fun r2 σ1 w => ?_))
  show XX g true (d + 1) P_X12_of 10 [(2, 88), (0, x1), (0, x2)] [(0, r2)] 136 σ1 136 Q
  refine E_if_ne 13 17 dX12_of_10 rfl rfl (fun h => ?_) (fun h => ?_)
  · have w := w.1 h
    refine E_iload_n 18 dX12_of_17 rfl rfl ?_
    refine E_if_ne 21 28 dX12_of_18 rfl rfl (fun h => ?_) (fun h => ?_)
    · have w := w.1 h
      refine E_iload_n 29 dX12_of_28 rfl rfl ?_
      refine E_iconst 30 dX12_of_29 (by decide) rfl ?_
      refine E_icmp_ne 33 40 dX12_of_30 rfl rfl (fun h => ?_) (fun h => ?_)
      · have w := w.1 h
        refine E_iload_n 41 dX12_of_40 rfl rfl ?_
        refine E_iconst 42 dX12_of_41 (by decide) rfl ?_
        refine E_icmp_ne 45 52 dX12_of_42 rfl rfl (fun h => ?_) (fun h => ?_)
        · have w := w.1 h
          refine E_iload_n 53 dX12_of_52 rfl rfl ?_
          refine E_iconst 54 dX12_of_53 (by decide) rfl ?_
          refine E_icmp_ne 57 66 dX12_of_54 rfl rfl (fun h => ?_) (fun h => ?_)
          · have w := w.1 h
            refine E_iload_n 67 dX12_of_66 rfl rfl ?_
            refine E_iconst 68 dX12_of_67 (by decide) rfl ?_
            refine E_icmp_ne 71 78 dX12_of_68 rfl rfl (fun h => ?_) (fun h => ?_)
            · have w := w.1 h
              refine E_iload_n 79 dX12_of_78 rfl rfl ?_
              refine E_iconst 80 dX12_of_79 (by decide) rfl ?_
              refine E_icmp_ne 83 89 dX12_of_80 rfl rfl (fun h => ?_) (fun h => ?_)
              · have w := w.1 h
                refine E_iload_n 90 dX12_of_89 rfl rfl ?_
                refine E_bipush 92 dX12_of_90 (by decide) rfl ?_
                refine E_icmp_ne 95 101 dX12_of_92 rfl rfl (fun h => ?_) (fun h => ?_)
                · have w := w.1 h
                  refine E_iload_n 102 dX12_of_101 rfl rfl ?_
                  refine E_bipush 104 dX12_of_102 (by decide) rfl ?_
                  refine E_icmp_eq 107 113 dX12_of_104 rfl rfl (fun h => ?_) (fun h => ?_)
                  · have w := w.1 h
                    refine E_aload_n 114 dX12_of_113 rfl (ac_88.bnd) rfl ?_
                    refine E_iload_n 115 dX12_of_114 rfl rfl ?_
                    refine E_bipush 117 dX12_of_115 (by decide) rfl ?_
                    refine E_isub 118 dX12_of_117 rfl ?_
                    refine E_iload_n 119 dX12_of_118 rfl rfl ?_
                    refine E_callV (as := [(0, w32 (x2 - 6)), (0, x1)]) 122 dX12_of_119 cf_X12_urgeOf mw_1590 mw_1592 mw_86 ac_88 (by decide) cl_X12 rfl rfl (Nat.le_of_ble_eq_true rfl) (Nat.le_of_ble_eq_true rfl) ⟨Nat.le_refl _, Nat.le_refl _⟩ rfl (w.mono (fun r4 σ3 w => ?_))
                    show XX g true (d + 1) P_X12_of 122 [(2, 88), (0, x1), (0, x2)] [(0, r4)] 136 σ3 136 Q
                    exact E_iret dX12_of_122 rfl rfl w
                  · have w := w.2 h
                    refine E_iload_n 108 dX12_of_107 rfl rfl ?_
                    refine E_bipush 110 dX12_of_108 (by decide) rfl ?_
                    refine E_icmp_ne 113 123 dX12_of_110 rfl rfl (fun h => ?_) (fun h => ?_)
                    · have w := w.1 h
                      refine E_iload_n 124 dX12_of_123 rfl rfl ?_
                      refine E_bipush 126 dX12_of_124 (by decide) rfl ?_
                      refine E_icmp_ne 129 138 dX12_of_126 rfl rfl (fun h => ?_) (fun h => ?_)
                      · have w := w.1 h
                        refine E_ldc_w (x := (-1000000)) 141 dX12_of_138 mw_1610 rfl (by unfold in32; decide) rfl ?_
                        exact E_iret dX12_of_141 rfl rfl w
                      · have w := w.2 h
                        refine E_aload_n 130 dX12_of_129 rfl (ac_88.bnd) rfl ?_
                        refine E_getL 133 dX12_of_130 fl_X12_29 ac_88 rfl (by decide) lay_88_8 rfl ?_
                        refine E_iload_n 134 dX12_of_133 rfl rfl ?_
                        obtain ⟨c5, w⟩ := w
                        refine E_iald 135 dX12_of_134 ac_94 c5 rfl ?_
                        refine E_goto 141 dX12_of_135 rfl ?_
                        exact E_iret dX12_of_141 rfl rfl w
                    · have w := w.2 h
                      refine E_aload_n 114 dX12_of_113 rfl (ac_88.bnd) rfl ?_
                      refine E_iload_n 115 dX12_of_114 rfl rfl ?_
                      refine E_bipush 117 dX12_of_115 (by decide) rfl ?_
                      refine E_isub 118 dX12_of_117 rfl ?_
                      refine E_iload_n 119 dX12_of_118 rfl rfl ?_
                      refine E_callV (as := [(0, w32 (x2 - 6)), (0, x1)]) 122 dX12_of_119 cf_X12_urgeOf mw_1590 mw_1592 mw_86 ac_88 (by decide) cl_X12 rfl rfl (Nat.le_of_ble_eq_true rfl) (Nat.le_of_ble_eq_true rfl) ⟨Nat.le_refl _, Nat.le_refl _⟩ rfl (w.mono (fun r7 σ6 w => ?_))
                      show XX g true (d + 1) P_X12_of 122 [(2, 88), (0, x1), (0, x2)] [(0, r7)] 136 σ6 136 Q
                      exact E_iret dX12_of_122 rfl rfl w
                · have w := w.2 h
                  refine E_aload_n 96 dX12_of_95 rfl (ac_88.bnd) rfl ?_
                  refine E_iload_n 97 dX12_of_96 rfl rfl ?_
                  refine E_callV (as := [(0, x1)]) 100 dX12_of_97 cf_X12_guessOf mw_1611 mw_1613 mw_89 ac_88 (by decide) cl_X12 rfl rfl (Nat.le_of_ble_eq_true rfl) (Nat.le_of_ble_eq_true rfl) ⟨Nat.le_refl _, Nat.le_refl _⟩ rfl (w.mono (fun r9 σ8 w => ?_))
                  show XX g true (d + 1) P_X12_of 100 [(2, 88), (0, x1), (0, x2)] [(0, r9)] 136 σ8 136 Q
                  exact E_iret dX12_of_100 rfl rfl w
              · have w := w.2 h
                refine E_aload_n 84 dX12_of_83 rfl (ac_88.bnd) rfl ?_
                refine E_iload_n 85 dX12_of_84 rfl rfl ?_
                refine E_callV (as := [(0, x1)]) 88 dX12_of_85 cf_X12_goesNow mw_1548 mw_1550 mw_76 ac_88 (by decide) cl_X12 rfl rfl (Nat.le_of_ble_eq_true rfl) (Nat.le_of_ble_eq_true rfl) ⟨Nat.le_refl _, Nat.le_refl _⟩ rfl (w.mono (fun r11 σ10 w => ?_))
                show XX g true (d + 1) P_X12_of 88 [(2, 88), (0, x1), (0, x2)] [(0, r11)] 136 σ10 136 Q
                exact E_iret dX12_of_88 rfl rfl w
            · have w := w.2 h
              refine E_aload_n 72 dX12_of_71 rfl (ac_88.bnd) rfl ?_
              refine E_getL 75 dX12_of_72 fl_X12_26 ac_88 rfl (by decide) lay_88_7 rfl ?_
              refine E_iload_n 76 dX12_of_75 rfl rfl ?_
              obtain ⟨c12, w⟩ := w
              refine E_iald 77 dX12_of_76 ac_93 c12 rfl ?_
              exact E_iret dX12_of_77 rfl rfl w
          · have w := w.2 h
            refine E_aload_n 58 dX12_of_57 rfl (ac_88.bnd) rfl ?_
            refine E_getL 61 dX12_of_58 fl_X12_23 ac_88 rfl (by decide) lay_88_6 rfl ?_
            refine E_iload_n 62 dX12_of_61 rfl rfl ?_
            obtain ⟨c13, w⟩ := w
            refine E_iald 63 dX12_of_62 ac_92 c13 rfl ?_
            refine E_iconst 64 dX12_of_63 (by decide) rfl ?_
            refine E_isub 65 dX12_of_64 rfl ?_
            exact E_iret dX12_of_65 rfl rfl w
        · have w := w.2 h
          refine E_aload_n 46 dX12_of_45 rfl (ac_88.bnd) rfl ?_
          refine E_getL 49 dX12_of_46 fl_X12_20 ac_88 rfl (by decide) lay_88_5 rfl ?_
          refine E_iload_n 50 dX12_of_49 rfl rfl ?_
          obtain ⟨c14, w⟩ := w
          refine E_iald 51 dX12_of_50 ac_91 c14 rfl ?_
          exact E_iret dX12_of_51 rfl rfl w
      · have w := w.2 h
        refine E_aload_n 34 dX12_of_33 rfl (ac_88.bnd) rfl ?_
        refine E_getL 37 dX12_of_34 fl_X12_17 ac_88 rfl (by decide) lay_88_4 rfl ?_
        refine E_iload_n 38 dX12_of_37 rfl rfl ?_
        obtain ⟨c15, w⟩ := w
        refine E_iald 39 dX12_of_38 ac_90 c15 rfl ?_
        exact E_iret dX12_of_39 rfl rfl w
    · have w := w.2 h
      refine E_aload_n 22 dX12_of_21 rfl (ac_88.bnd) rfl ?_
      refine E_getL 25 dX12_of_22 fl_X12_13 ac_88 rfl (by decide) lay_88_3 rfl ?_
      refine E_iload_n 26 dX12_of_25 rfl rfl ?_
      obtain ⟨c16, w⟩ := w
      refine E_iald 27 dX12_of_26 ac_89 c16 rfl ?_
      exact E_iret dX12_of_27 rfl rfl w
  · have w := w.2 h
    refine E_ldc_w (x := (-1000000)) 16 dX12_of_13 mw_1610 rfl (by unfold in32; decide) rfl ?_
    exact E_iret dX12_of_16 rfl rfl w
theorem B_X12_chanceOf_0 {g : PG} {d : Nat} {σ : PS} {Q : Int → PS → Prop}  (w : (XX g true (d + 1) P_X12_chanceOf 2 [(2, 88), (0, 0), (9, 0), (9, 0), (9, 0), (9, 0), (9, 0), (9, 0), (9, 0), (9, 0)] [] 136 σ 136 Q)) : XX g true (d + 1) P_X12_chanceOf 0 [(2, 88), (9, 0), (9, 0), (9, 0), (9, 0), (9, 0), (9, 0), (9, 0), (9, 0), (9, 0)] [] 136 σ 136 Q := by
  refine E_iconst 1 dX12_chanceOf_0 (by decide) rfl ?_
  refine E_istore_n (ls' := [(2, 88), (0, 0), (9, 0), (9, 0), (9, 0), (9, 0), (9, 0), (9, 0), (9, 0), (9, 0)]) 2 dX12_chanceOf_1 (by decide) rfl rfl ?_
  with_reducible exact w
theorem B_X12_chanceOf_2 {g : PG} {d : Nat} {σ : PS} {Q : Int → PS → Prop} {x1 : Int}  (w : ((128 ≤ x1 → (XX g true (d + 1) P_X12_chanceOf 35 [(2, 88), (1, 0), (9, 0), (0, 0), (9, 0), (9, 0), (9, 0), (9, 0), (9, 0), (9, 0)] [] 136 (su σ 116 0 1000000000000) 136 Q)) ∧ (x1 < 128 → (0 ≤ x1 ∧ x1 < 128) ∧ (XX g true (d + 1) P_X12_chanceOf 2 [(2, 88), (0, w32 (x1 + 1)), (9, 0), (9, 0), (9, 0), (9, 0), (9, 0), (9, 0), (9, 0), (9, 0)] [] 136 (su σ 116 x1 0) 136 Q)))) : XX g true (d + 1) P_X12_chanceOf 2 [(2, 88), (0, x1), (9, 0), (9, 0), (9, 0), (9, 0), (9, 0), (9, 0), (9, 0), (9, 0)] [] 136 σ 136 Q := by
  refine E_iload_n 3 dX12_chanceOf_2 rfl rfl ?_
  refine E_sipush 6 dX12_chanceOf_3 (by decide) rfl ?_
  refine E_icmp_ge 9 22 dX12_chanceOf_6 rfl rfl (fun h => ?_) (fun h => ?_)
  · have w := w.1 h
    refine E_aload_n 23 dX12_chanceOf_22 rfl (ac_88.bnd) rfl ?_
    refine E_getL 26 dX12_chanceOf_23 fl_X12_104 ac_88 rfl (by decide) lay_88_52 rfl ?_
    refine E_iconst 27 dX12_chanceOf_26 (by decide) rfl ?_
    refine E_ldc2_w (x := 1000000000000) 30 dX12_chanceOf_27 mw_1627 (by decide) (by unfold in64; decide) rfl ?_
    refine E_last 31 dX12_chanceOf_30 ac_116 (by decide) rfl ?_
    refine E_lconst (x := 0) 32 dX12_chanceOf_31 rfl rfl ?_
    refine E_lstore_n (ls' := [(2, 88), (1, 0), (9, 0), (9, 0), (9, 0), (9, 0), (9, 0), (9, 0), (9, 0), (9, 0)]) 33 dX12_chanceOf_32 (by decide) rfl rfl ?_
    refine E_iconst 34 dX12_chanceOf_33 (by decide) rfl ?_
    refine E_istore_n (ls' := [(2, 88), (1, 0), (9, 0), (0, 0), (9, 0), (9, 0), (9, 0), (9, 0), (9, 0), (9, 0)]) 35 dX12_chanceOf_34 (by decide) rfl rfl ?_
    with_reducible exact w
  · have w := w.2 h
    refine E_aload_n 10 dX12_chanceOf_9 rfl (ac_88.bnd) rfl ?_
    refine E_getL 13 dX12_chanceOf_10 fl_X12_104 ac_88 rfl (by decide) lay_88_52 rfl ?_
    refine E_iload_n 14 dX12_chanceOf_13 rfl rfl ?_
    refine E_lconst (x := 0) 15 dX12_chanceOf_14 rfl rfl ?_
    obtain ⟨c1, w⟩ := w
    refine E_last 16 dX12_chanceOf_15 ac_116 c1 rfl ?_
    refine E_iinc (ls' := [(2, 88), (0, w32 (x1 + 1)), (9, 0), (9, 0), (9, 0), (9, 0), (9, 0), (9, 0), (9, 0), (9, 0)]) 19 dX12_chanceOf_16 (by decide) rfl rfl rfl ?_
    refine E_goto 2 dX12_chanceOf_19 rfl ?_
    with_reducible exact w
theorem B_X12_chanceOf_35 {g : PG} {d : Nat} {σ : PS} {Q : Int → PS → Prop} {x1 x3 : Int}  (w : ((σ 88 2 ≤ x3 → Q x1 σ) ∧ (x3 < σ 88 2 → (XX g true (d + 1) P_X12_chanceOf 46 [(2, 88), (1, x1), (9, 0), (0, x3), (0, 0), (9, 0), (9, 0), (9, 0), (9, 0), (9, 0)] [] 136 σ 136 Q)))) : XX g true (d + 1) P_X12_chanceOf 35 [(2, 88), (1, x1), (9, 0), (0, x3), (9, 0), (9, 0), (9, 0), (9, 0), (9, 0), (9, 0)] [] 136 σ 136 Q := by
  refine E_iload_n 36 dX12_chanceOf_35 rfl rfl ?_
  refine E_aload_n 37 dX12_chanceOf_36 rfl (ac_88.bnd) rfl ?_
  refine E_get 2 40 dX12_chanceOf_37 fl_X12_7 ac_88 rfl (by decide) rfl rfl ?_
  refine E_icmp_ge 43 254 dX12_chanceOf_40 rfl rfl (fun h => ?_) (fun h => ?_)
  · have w := w.1 h
    refine E_lload_n 255 dX12_chanceOf_254 rfl rfl ?_
    exact E_lret dX12_chanceOf_255 rfl rfl w
  · have w := w.2 h
    refine E_iconst 44 dX12_chanceOf_43 (by decide) rfl ?_
    refine E_istore (ls' := [(2, 88), (1, x1), (9, 0), (0, x3), (0, 0), (9, 0), (9, 0), (9, 0), (9, 0), (9, 0)]) 46 dX12_chanceOf_44 (by decide) rfl rfl ?_
    with_reducible exact w
theorem B_X12_chanceOf_46 {g : PG} {d : Nat} {σ : PS} {Q : Int → PS → Prop} {x1 x3 x4 : Int}  (w : ((128 ≤ x4 → (XX g true (d + 1) P_X12_chanceOf 71 [(2, 88), (1, x1), (9, 0), (0, x3), (0, 0), (9, 0), (9, 0), (9, 0), (9, 0), (9, 0)] [] 136 σ 136 Q)) ∧ (x4 < 128 → (0 ≤ x4 ∧ x4 < 128) ∧ (XX g true (d + 1) P_X12_chanceOf 46 [(2, 88), (1, x1), (9, 0), (0, x3), (0, w32 (x4 + 1)), (9, 0), (9, 0), (9, 0), (9, 0), (9, 0)] [] 136 (su σ 117 x4 0) 136 Q)))) : XX g true (d + 1) P_X12_chanceOf 46 [(2, 88), (1, x1), (9, 0), (0, x3), (0, x4), (9, 0), (9, 0), (9, 0), (9, 0), (9, 0)] [] 136 σ 136 Q := by
  refine E_iload 48 dX12_chanceOf_46 rfl rfl ?_
  refine E_sipush 51 dX12_chanceOf_48 (by decide) rfl ?_
  refine E_icmp_ge 54 68 dX12_chanceOf_51 rfl rfl (fun h => ?_) (fun h => ?_)
  · have w := w.1 h
    refine E_iconst 69 dX12_chanceOf_68 (by decide) rfl ?_
    refine E_istore (ls' := [(2, 88), (1, x1), (9, 0), (0, x3), (0, 0), (9, 0), (9, 0), (9, 0), (9, 0), (9, 0)]) 71 dX12_chanceOf_69 (by decide) rfl rfl ?_
    with_reducible exact w
  · have w := w.2 h
    refine E_aload_n 55 dX12_chanceOf_54 rfl (ac_88.bnd) rfl ?_
    refine E_getL 58 dX12_chanceOf_55 fl_X12_108 ac_88 rfl (by decide) lay_88_53 rfl ?_
    refine E_iload 60 dX12_chanceOf_58 rfl rfl ?_
    refine E_lconst (x := 0) 61 dX12_chanceOf_60 rfl rfl ?_
    obtain ⟨c1, w⟩ := w
    refine E_last 62 dX12_chanceOf_61 ac_117 c1 rfl ?_
    refine E_iinc (ls' := [(2, 88), (1, x1), (9, 0), (0, x3), (0, w32 (x4 + 1)), (9, 0), (9, 0), (9, 0), (9, 0), (9, 0)]) 65 dX12_chanceOf_62 (by decide) rfl rfl rfl ?_
    refine E_goto 46 dX12_chanceOf_65 rfl ?_
    with_reducible exact w
theorem B_X12_chanceOf_71 {g : PG} {d : Nat} {σ : PS} {Q : Int → PS → Prop} {x1 x3 x4 : Int}  (w : ((128 ≤ x4 → (XX g true (d + 1) P_X12_chanceOf 220 [(2, 88), (1, x1), (9, 0), (0, x3), (0, 0), (9, 0), (9, 0), (9, 0), (9, 0), (9, 0)] [] 136 σ 136 Q)) ∧ (x4 < 128 → (0 ≤ x4 ∧ x4 < 128) ∧ ((σ 116 x4 ≠ 0 → (0 ≤ x3 ∧ x3 < 60) ∧ ∀ y3, y3 = ldiv (w64 ((σ 116 x4) * (σ 118 x3))) 1000 → (XX g true (d + 1) P_X12_chanceOf 118 [(2, 88), (1, x1), (9, 0), (0, x3), (0, x4), (1, y3), (9, 0), (0, 0), (9, 0), (9, 0)] [] 136 σ 136 Q)) ∧ (σ 116 x4 = 0 → (XX g true (d + 1) P_X12_chanceOf 71 [(2, 88), (1, x1), (9, 0), (0, x3), (0, w32 (x4 + 1)), (9, 0), (9, 0), (9, 0), (9, 0), (9, 0)] [] 136 σ 136 Q)))))) : XX g true (d + 1) P_X12_chanceOf 71 [(2, 88), (1, x1), (9, 0), (0, x3), (0, x4), (9, 0), (9, 0), (9, 0), (9, 0), (9, 0)] [] 136 σ 136 Q := by
  refine E_iload 73 dX12_chanceOf_71 rfl rfl ?_
  refine E_sipush 76 dX12_chanceOf_73 (by decide) rfl ?_
  refine E_icmp_ge 79 217 dX12_chanceOf_76 rfl rfl (fun h => ?_) (fun h => ?_)
  · have w := w.1 h
    refine E_iconst 218 dX12_chanceOf_217 (by decide) rfl ?_
    refine E_istore (ls' := [(2, 88), (1, x1), (9, 0), (0, x3), (0, 0), (9, 0), (9, 0), (9, 0), (9, 0), (9, 0)]) 220 dX12_chanceOf_218 (by decide) rfl rfl ?_
    with_reducible exact w
  · have w := w.2 h
    refine E_aload_n 80 dX12_chanceOf_79 rfl (ac_88.bnd) rfl ?_
    refine E_getL 83 dX12_chanceOf_80 fl_X12_104 ac_88 rfl (by decide) lay_88_52 rfl ?_
    refine E_iload 85 dX12_chanceOf_83 rfl rfl ?_
    obtain ⟨c1, w⟩ := w
    refine E_lald 86 dX12_chanceOf_85 ac_116 c1 rfl ?_
    refine E_lconst (x := 0) 87 dX12_chanceOf_86 rfl rfl ?_
    refine E_lcmp 88 dX12_chanceOf_87 rfl ?_
    refine E_if_ne 91 94 dX12_chanceOf_88 rfl rfl (fun h => ?_) (fun h => ?_)
    · have w := w.1 ((lc_ne _ _).mp h)
      refine E_aload_n 95 dX12_chanceOf_94 rfl (ac_88.bnd) rfl ?_
      refine E_getL 98 dX12_chanceOf_95 fl_X12_104 ac_88 rfl (by decide) lay_88_52 rfl ?_
      refine E_iload 100 dX12_chanceOf_98 rfl rfl ?_
      refine E_lald 101 dX12_chanceOf_100 ac_116 c1 rfl ?_
      refine E_aload_n 102 dX12_chanceOf_101 rfl (ac_88.bnd) rfl ?_
      refine E_getL 105 dX12_chanceOf_102 fl_X12_111 ac_88 rfl (by decide) lay_88_54 rfl ?_
      refine E_iload_n 106 dX12_chanceOf_105 rfl rfl ?_
      obtain ⟨c2, w⟩ := w
      refine E_iald 107 dX12_chanceOf_106 ac_118 c2 rfl ?_
      refine E_i2l 108 dX12_chanceOf_107 rfl ?_
      refine E_lmul 109 dX12_chanceOf_108 rfl ?_
      refine E_ldc2_w (x := 1000) 112 dX12_chanceOf_109 mw_1628 (by decide) (by unfold in64; decide) rfl ?_
      refine E_ldiv 113 dX12_chanceOf_112 (by decide) rfl ?_
      refine E_top (fun y3 hy3 => ?_)
      have w := w y3 hy3
      refine E_lstore (ls' := [(2, 88), (1, x1), (9, 0), (0, x3), (0, x4), (1, y3), (9, 0), (9, 0), (9, 0), (9, 0)]) 115 dX12_chanceOf_113 (by decide) rfl rfl ?_
      refine E_iconst 116 dX12_chanceOf_115 (by decide) rfl ?_
      refine E_istore (ls' := [(2, 88), (1, x1), (9, 0), (0, x3), (0, x4), (1, y3), (9, 0), (0, 0), (9, 0), (9, 0)]) 118 dX12_chanceOf_116 (by decide) rfl rfl ?_
      with_reducible exact w
    · have w := w.2 ((lc_eq _ _).mp h)
      refine E_goto 211 dX12_chanceOf_91 rfl ?_
      refine E_iinc (ls' := [(2, 88), (1, x1), (9, 0), (0, x3), (0, w32 (x4 + 1)), (9, 0), (9, 0), (9, 0), (9, 0), (9, 0)]) 214 dX12_chanceOf_211 (by decide) rfl rfl rfl ?_
      refine E_goto 71 dX12_chanceOf_214 rfl ?_
      with_reducible exact w
theorem B_X12_chanceOf_220 {g : PG} {d : Nat} {σ : PS} {Q : Int → PS → Prop} {x1 x3 x4 : Int}  (w : ((128 ≤ x4 → (XX g true (d + 1) P_X12_chanceOf 35 [(2, 88), (1, x1), (9, 0), (0, w32 (x3 + 1)), (9, 0), (9, 0), (9, 0), (9, 0), (9, 0), (9, 0)] [] 136 σ 136 Q)) ∧ (x4 < 128 → (0 ≤ x4 ∧ x4 < 128) ∧ (XX g true (d + 1) P_X12_chanceOf 220 [(2, 88), (1, x1), (9, 0), (0, x3), (0, w32 (x4 + 1)), (9, 0), (9, 0), (9, 0), (9, 0), (9, 0)] [] 136 (su σ 116 x4 (σ 117 x4)) 136 Q)))) : XX g true (d + 1) P_X12_chanceOf 220 [(2, 88), (1, x1), (9, 0), (0, x3), (0, x4), (9, 0), (9, 0), (9, 0), (9, 0), (9, 0)] [] 136 σ 136 Q := by
  refine E_iload 222 dX12_chanceOf_220 rfl rfl ?_
  refine E_sipush 225 dX12_chanceOf_222 (by decide) rfl ?_
  refine E_icmp_ge 228 248 dX12_chanceOf_225 rfl rfl (fun h => ?_) (fun h => ?_)
  · have w := w.1 h
    refine E_iinc (ls' := [(2, 88), (1, x1), (9, 0), (0, w32 (x3 + 1)), (0, x4), (9, 0), (9, 0), (9, 0), (9, 0), (9, 0)]) 251 dX12_chanceOf_248 (by decide) rfl rfl rfl ?_
    refine E_goto 35 dX12_chanceOf_251 rfl ?_
    refine XX.fg [4] [(2, 88), (1, x1), (9, 0), (0, w32 (x3 + 1)), (9, 0), (9, 0), (9, 0), (9, 0), (9, 0), (9, 0)] rfl ?_
    with_reducible exact w
  · have w := w.2 h
    refine E_aload_n 229 dX12_chanceOf_228 rfl (ac_88.bnd) rfl ?_
    refine E_getL 232 dX12_chanceOf_229 fl_X12_104 ac_88 rfl (by decide) lay_88_52 rfl ?_
    refine E_iload 234 dX12_chanceOf_232 rfl rfl ?_
    refine E_aload_n 235 dX12_chanceOf_234 rfl (ac_88.bnd) rfl ?_
    refine E_getL 238 dX12_chanceOf_235 fl_X12_108 ac_88 rfl (by decide) lay_88_53 rfl ?_
    refine E_iload 240 dX12_chanceOf_238 rfl rfl ?_
    obtain ⟨c1, w⟩ := w
    refine E_lald 241 dX12_chanceOf_240 ac_117 c1 rfl ?_
    refine E_last 242 dX12_chanceOf_241 ac_116 c1 rfl ?_
    refine E_iinc (ls' := [(2, 88), (1, x1), (9, 0), (0, x3), (0, w32 (x4 + 1)), (9, 0), (9, 0), (9, 0), (9, 0), (9, 0)]) 245 dX12_chanceOf_242 (by decide) rfl rfl rfl ?_
    refine E_goto 220 dX12_chanceOf_245 rfl ?_
    with_reducible exact w
theorem B_X12_chanceOf_118 {g : PG} {d : Nat} {σ : PS} {Q : Int → PS → Prop} {x1 x3 x4 x5 x7 : Int}  (w : ((2 ≤ x7 → (XX g true (d + 1) P_X12_chanceOf 71 [(2, 88), (1, x1), (9, 0), (0, x3), (0, w32 (x4 + 1)), (9, 0), (9, 0), (9, 0), (9, 0), (9, 0)] [] 136 σ 136 Q)) ∧ (x7 < 2 → ((x7 ≠ 1 → (0 ≤ x4 ∧ x4 < 128) ∧ ∀ y2, y2 = w64 ((σ 116 x4) - x5) → XX g true d P_X12_isMet 0 [(2, 88), (0, ior (ishl x4 1) x7), (0, w32 (x3 + 1)), (9, 0), (9, 0)] [] 136 σ 136 (fun r4 σ3 => ((r4 = 0 → (0 ≤ iand (ior (ishl x4 1) x7) 127 ∧ iand (ior (ishl x4 1) x7) 127 < 128) ∧ (XX g true (d + 1) P_X12_chanceOf 118 [(2, 88), (1, x1), (9, 0), (0, x3), (0, x4), (1, x5), (9, 0), (0, w32 (x7 + 1)), (9, 0), (9, 0)] [] 136 (su σ3 117 (iand (ior (ishl x4 1) x7) 127) (w64 ((σ3 117 (iand (ior (ishl x4 1) x7) 127)) + y2))) 136 Q)) ∧ (r4 ≠ 0 → ∀ y6, y6 = w64 (x1 + y2) → (XX g true (d + 1) P_X12_chanceOf 118 [(2, 88), (1, y6), (9, 0), (0, x3), (0, x4), (1, x5), (9, 0), (0, w32 (x7 + 1)), (9, 0), (9, 0)] [] 136 σ3 136 Q))))) ∧ (x7 = 1 → XX g true d P_X12_isMet 0 [(2, 88), (0, ior (ishl x4 1) x7), (0, w32 (x3 + 1)), (9, 0), (9, 0)] [] 136 σ 136 (fun r8 σ7 => ((r8 = 0 → (0 ≤ iand (ior (ishl x4 1) x7) 127 ∧ iand (ior (ishl x4 1) x7) 127 < 128) ∧ (XX g true (d + 1) P_X12_chanceOf 118 [(2, 88), (1, x1), (9, 0), (0, x3), (0, x4), (1, x5), (9, 0), (0, w32 (x7 + 1)), (9, 0), (9, 0)] [] 136 (su σ7 117 (iand (ior (ishl x4 1) x7) 127) (w64 ((σ7 117 (iand (ior (ishl x4 1) x7) 127)) + x5))) 136 Q)) ∧ (r8 ≠ 0 → ∀ y10, y10 = w64 (x1 + x5) → (XX g true (d + 1) P_X12_chanceOf 118 [(2, 88), (1, y10), (9, 0), (0, x3), (0, x4), (1, x5), (9, 0), (0, w32 (x7 + 1)), (9, 0), (9, 0)] [] 136 σ7 136 Q))))))))) : XX g true (d + 1) P_X12_chanceOf 118 [(2, 88), (1, x1), (9, 0), (0, x3), (0, x4), (1, x5), (9, 0), (0, x7), (9, 0), (9, 0)] [] 136 σ 136 Q := by
  refine E_iload 120 dX12_chanceOf_118 rfl rfl ?_
  refine E_iconst 121 dX12_chanceOf_120 (by decide) rfl ?_
  refine E_icmp_ge 124 211 dX12_chanceOf_121 rfl rfl (fun h => ?_) (fun h => ?_)
  · have w := w.1 h
    refine E_iinc (ls' := [(2, 88), (1, x1), (9, 0), (0, x3), (0, w32 (x4 + 1)), (1, x5), (9, 0), (0, x7), (9, 0), (9, 0)]) 214 dX12_chanceOf_211 (by decide) rfl rfl rfl ?_
    refine E_goto 71 dX12_chanceOf_214 rfl ?_
    refine XX.fg [5, 7] [(2, 88), (1, x1), (9, 0), (0, x3), (0, w32 (x4 + 1)), (9, 0), (9, 0), (9, 0), (9, 0), (9, 0)] rfl ?_
    with_reducible exact w
  · have w := w.2 h
    refine E_iload 126 dX12_chanceOf_124 rfl rfl ?_
    refine E_iconst 127 dX12_chanceOf_126 (by decide) rfl ?_
    refine E_icmp_ne 130 135 dX12_chanceOf_127 rfl rfl (fun h => ?_) (fun h => ?_)
    · have w := w.1 h
      refine E_aload_n 136 dX12_chanceOf_135 rfl (ac_88.bnd) rfl ?_
      refine E_getL 139 dX12_chanceOf_136 fl_X12_104 ac_88 rfl (by decide) lay_88_52 rfl ?_
      refine E_iload 141 dX12_chanceOf_139 rfl rfl ?_
      obtain ⟨c1, w⟩ := w
      refine E_lald 142 dX12_chanceOf_141 ac_116 c1 rfl ?_
      refine E_lload 144 dX12_chanceOf_142 rfl rfl ?_
      refine E_lsub 145 dX12_chanceOf_144 rfl ?_
      refine E_top (fun y2 hy2 => ?_)
      have w := w y2 hy2
      refine E_lstore (ls' := [(2, 88), (1, x1), (9, 0), (0, x3), (0, x4), (1, x5), (9, 0), (0, x7), (1, y2), (9, 0)]) 147 dX12_chanceOf_145 (by decide) rfl rfl ?_
      refine E_aload_n 148 dX12_chanceOf_147 rfl (ac_88.bnd) rfl ?_
      refine E_iload 150 dX12_chanceOf_148 rfl rfl ?_
      refine E_iconst 151 dX12_chanceOf_150 (by decide) rfl ?_
      refine E_ishl 152 dX12_chanceOf_151 rfl ?_
      refine E_iload 154 dX12_chanceOf_152 rfl rfl ?_
      refine E_ior 155 dX12_chanceOf_154 rfl ?_
      refine E_iload_n 156 dX12_chanceOf_155 rfl rfl ?_
      refine E_iconst 157 dX12_chanceOf_156 (by decide) rfl ?_
      refine E_iadd 158 dX12_chanceOf_157 rfl ?_
      refine E_callV (as := [(0, ior (ishl x4 1) x7), (0, w32 (x3 + 1))]) 161 dX12_chanceOf_158 cf_X12_isMet mw_1528 mw_1530 mw_72 ac_88 (by decide) cl_X12 rfl rfl (Nat.le_of_ble_eq_true rfl) (Nat.le_of_ble_eq_true rfl) ⟨Nat.le_refl _, Nat.le_refl _⟩ rfl (w.mono (fun r4 σ3 w => ?_))
      show XX g true (d + 1) P_X12_chanceOf 161 [(2, 88), (1, x1), (9, 0), (0, x3), (0, x4), (1, x5), (9, 0), (0, x7), (1, y2), (9, 0)] [(0, r4)] 136 σ3 136 Q
      refine E_if_eq 164 172 dX12_chanceOf_161 rfl rfl (fun h => ?_) (fun h => ?_)
      · have w := w.1 h
        refine E_aload_n 173 dX12_chanceOf_172 rfl (ac_88.bnd) rfl ?_
        refine E_getL 176 dX12_chanceOf_173 fl_X12_108 ac_88 rfl (by decide) lay_88_53 rfl ?_
        refine E_iload 178 dX12_chanceOf_176 rfl rfl ?_
        refine E_iconst 179 dX12_chanceOf_178 (by decide) rfl ?_
        refine E_ishl 180 dX12_chanceOf_179 rfl ?_
        refine E_iload 182 dX12_chanceOf_180 rfl rfl ?_
        refine E_ior 183 dX12_chanceOf_182 rfl ?_
        refine E_bipush 185 dX12_chanceOf_183 (by decide) rfl ?_
        refine E_iand 186 dX12_chanceOf_185 rfl ?_
        refine E_aload_n 187 dX12_chanceOf_186 rfl (ac_88.bnd) rfl ?_
        refine E_getL 190 dX12_chanceOf_187 fl_X12_108 ac_88 rfl (by decide) lay_88_53 rfl ?_
        refine E_iload 192 dX12_chanceOf_190 rfl rfl ?_
        refine E_iconst 193 dX12_chanceOf_192 (by decide) rfl ?_
        refine E_ishl 194 dX12_chanceOf_193 rfl ?_
        refine E_iload 196 dX12_chanceOf_194 rfl rfl ?_
        refine E_ior 197 dX12_chanceOf_196 rfl ?_
        refine E_bipush 199 dX12_chanceOf_197 (by decide) rfl ?_
        refine E_iand 200 dX12_chanceOf_199 rfl ?_
        obtain ⟨c5, w⟩ := w
        refine E_lald 201 dX12_chanceOf_200 ac_117 c5 rfl ?_
        refine E_lload 203 dX12_chanceOf_201 rfl rfl ?_
        refine E_ladd 204 dX12_chanceOf_203 rfl ?_
        refine E_last 205 dX12_chanceOf_204 ac_117 c5 rfl ?_
        refine E_iinc (ls' := [(2, 88), (1, x1), (9, 0), (0, x3), (0, x4), (1, x5), (9, 0), (0, w32 (x7 + 1)), (1, y2), (9, 0)]) 208 dX12_chanceOf_205 (by decide) rfl rfl rfl ?_
        refine E_goto 118 dX12_chanceOf_208 rfl ?_
        refine XX.fg [8] [(2, 88), (1, x1), (9, 0), (0, x3), (0, x4), (1, x5), (9, 0), (0, w32 (x7 + 1)), (9, 0), (9, 0)] rfl ?_
        with_reducible exact w
      · have w := w.2 h
        refine E_lload_n 165 dX12_chanceOf_164 rfl rfl ?_
        refine E_lload 167 dX12_chanceOf_165 rfl rfl ?_
        refine E_ladd 168 dX12_chanceOf_167 rfl ?_
        refine E_top (fun y6 hy6 => ?_)
        have w := w y6 hy6
        refine E_lstore_n (ls' := [(2, 88), (1, y6), (9, 0), (0, x3), (0, x4), (1, x5), (9, 0), (0, x7), (1, y2), (9, 0)]) 169 dX12_chanceOf_168 (by decide) rfl rfl ?_
        refine E_goto 205 dX12_chanceOf_169 rfl ?_
        refine E_iinc (ls' := [(2, 88), (1, y6), (9, 0), (0, x3), (0, x4), (1, x5), (9, 0), (0, w32 (x7 + 1)), (1, y2), (9, 0)]) 208 dX12_chanceOf_205 (by decide) rfl rfl rfl ?_
        refine E_goto 118 dX12_chanceOf_208 rfl ?_
        refine XX.fg [8] [(2, 88), (1, y6), (9, 0), (0, x3), (0, x4), (1, x5), (9, 0), (0, w32 (x7 + 1)), (9, 0), (9, 0)] rfl ?_
        with_reducible exact w
    · have w := w.2 h
      refine E_lload 132 dX12_chanceOf_130 rfl rfl ?_
      refine E_goto 145 dX12_chanceOf_132 rfl ?_
      refine E_lstore (ls' := [(2, 88), (1, x1), (9, 0), (0, x3), (0, x4), (1, x5), (9, 0), (0, x7), (1, x5), (9, 0)]) 147 dX12_chanceOf_145 (by decide) rfl rfl ?_
      refine E_aload_n 148 dX12_chanceOf_147 rfl (ac_88.bnd) rfl ?_
      refine E_iload 150 dX12_chanceOf_148 rfl rfl ?_
      refine E_iconst 151 dX12_chanceOf_150 (by decide) rfl ?_
      refine E_ishl 152 dX12_chanceOf_151 rfl ?_
      refine E_iload 154 dX12_chanceOf_152 rfl rfl ?_
      refine E_ior 155 dX12_chanceOf_154 rfl ?_
      refine E_iload_n 156 dX12_chanceOf_155 rfl rfl ?_
      refine E_iconst 157 dX12_chanceOf_156 (by decide) rfl ?_
      refine E_iadd 158 dX12_chanceOf_157 rfl ?_
      refine E_callV (as := [(0, ior (ishl x4 1) x7), (0, w32 (x3 + 1))]) 161 dX12_chanceOf_158 cf_X12_isMet mw_1528 mw_1530 mw_72 ac_88 (by decide) cl_X12 rfl rfl (Nat.le_of_ble_eq_true rfl) (Nat.le_of_ble_eq_true rfl) ⟨Nat.le_refl _, Nat.le_refl _⟩ rfl (w.mono (fun r8 σ7 w => ?_))
      show XX g true (d + 1) P_X12_chanceOf 161 [(2, 88), (1, x1), (9, 0), (0, x3), (0, x4), (1, x5), (9, 0), (0, x7), (1, x5), (9, 0)] [(0, r8)] 136 σ7 136 Q
      refine E_if_eq 164 172 dX12_chanceOf_161 rfl rfl (fun h => ?_) (fun h => ?_)
      · have w := w.1 h
        refine E_aload_n 173 dX12_chanceOf_172 rfl (ac_88.bnd) rfl ?_
        refine E_getL 176 dX12_chanceOf_173 fl_X12_108 ac_88 rfl (by decide) lay_88_53 rfl ?_
        refine E_iload 178 dX12_chanceOf_176 rfl rfl ?_
        refine E_iconst 179 dX12_chanceOf_178 (by decide) rfl ?_
        refine E_ishl 180 dX12_chanceOf_179 rfl ?_
        refine E_iload 182 dX12_chanceOf_180 rfl rfl ?_
        refine E_ior 183 dX12_chanceOf_182 rfl ?_
        refine E_bipush 185 dX12_chanceOf_183 (by decide) rfl ?_
        refine E_iand 186 dX12_chanceOf_185 rfl ?_
        refine E_aload_n 187 dX12_chanceOf_186 rfl (ac_88.bnd) rfl ?_
        refine E_getL 190 dX12_chanceOf_187 fl_X12_108 ac_88 rfl (by decide) lay_88_53 rfl ?_
        refine E_iload 192 dX12_chanceOf_190 rfl rfl ?_
        refine E_iconst 193 dX12_chanceOf_192 (by decide) rfl ?_
        refine E_ishl 194 dX12_chanceOf_193 rfl ?_
        refine E_iload 196 dX12_chanceOf_194 rfl rfl ?_
        refine E_ior 197 dX12_chanceOf_196 rfl ?_
        refine E_bipush 199 dX12_chanceOf_197 (by decide) rfl ?_
        refine E_iand 200 dX12_chanceOf_199 rfl ?_
        obtain ⟨c9, w⟩ := w
        refine E_lald 201 dX12_chanceOf_200 ac_117 c9 rfl ?_
        refine E_lload 203 dX12_chanceOf_201 rfl rfl ?_
        refine E_ladd 204 dX12_chanceOf_203 rfl ?_
        refine E_last 205 dX12_chanceOf_204 ac_117 c9 rfl ?_
        refine E_iinc (ls' := [(2, 88), (1, x1), (9, 0), (0, x3), (0, x4), (1, x5), (9, 0), (0, w32 (x7 + 1)), (1, x5), (9, 0)]) 208 dX12_chanceOf_205 (by decide) rfl rfl rfl ?_
        refine E_goto 118 dX12_chanceOf_208 rfl ?_
        refine XX.fg [8] [(2, 88), (1, x1), (9, 0), (0, x3), (0, x4), (1, x5), (9, 0), (0, w32 (x7 + 1)), (9, 0), (9, 0)] rfl ?_
        with_reducible exact w
      · have w := w.2 h
        refine E_lload_n 165 dX12_chanceOf_164 rfl rfl ?_
        refine E_lload 167 dX12_chanceOf_165 rfl rfl ?_
        refine E_ladd 168 dX12_chanceOf_167 rfl ?_
        refine E_top (fun y10 hy10 => ?_)
        have w := w y10 hy10
        refine E_lstore_n (ls' := [(2, 88), (1, y10), (9, 0), (0, x3), (0, x4), (1, x5), (9, 0), (0, x7), (1, x5), (9, 0)]) 169 dX12_chanceOf_168 (by decide) rfl rfl ?_
        refine E_goto 205 dX12_chanceOf_169 rfl ?_
        refine E_iinc (ls' := [(2, 88), (1, y10), (9, 0), (0, x3), (0, x4), (1, x5), (9, 0), (0, w32 (x7 + 1)), (1, x5), (9, 0)]) 208 dX12_chanceOf_205 (by decide) rfl rfl rfl ?_
        refine E_goto 118 dX12_chanceOf_208 rfl ?_
        refine XX.fg [8] [(2, 88), (1, y10), (9, 0), (0, x3), (0, x4), (1, x5), (9, 0), (0, w32 (x7 + 1)), (9, 0), (9, 0)] rfl ?_
        with_reducible exact w
theorem B_X12_chanceNow_0 {g : PG} {d : Nat} {σ : PS} {Q : Int → PS → Prop}  (w : (XX g true (d + 1) P_X12_chanceNow 2 [(2, 88), (0, 0)] [] 136 σ 136 Q)) : XX g true (d + 1) P_X12_chanceNow 0 [(2, 88), (9, 0)] [] 136 σ 136 Q := by
  refine E_iconst 1 dX12_chanceNow_0 (by decide) rfl ?_
  refine E_istore_n (ls' := [(2, 88), (0, 0)]) 2 dX12_chanceNow_1 (by decide) rfl rfl ?_
  with_reducible exact w
theorem B_X12_chanceNow_2 {g : PG} {d : Nat} {σ : PS} {Q : Int → PS → Prop} {x1 : Int}  (w : ((σ 88 2 ≤ x1 → XX g true d P_X12_chanceOf 0 [(2, 88), (9, 0), (9, 0), (9, 0), (9, 0), (9, 0), (9, 0), (9, 0), (9, 0), (9, 0)] [] 136 σ 136 (fun r2 σ1 => Q r2 σ1)) ∧ (x1 < σ 88 2 → (0 ≤ x1 ∧ x1 < 60) ∧ ((σ 91 x1 ≠ 1 → XX g true d P_X12_goesNow 0 [(2, 88), (0, x1)] [] 136 σ 136 (fun r5 σ4 => (XX g true (d + 1) P_X12_chanceNow 2 [(2, 88), (0, w32 (x1 + 1))] [] 136 (su σ4 118 x1 r5) 136 Q))) ∧ (σ 91 x1 = 1 → (XX g true (d + 1) P_X12_chanceNow 2 [(2, 88), (0, w32 (x1 + 1))] [] 136 (su σ 118 x1 1000) 136 Q)))))) : XX g true (d + 1) P_X12_chanceNow 2 [(2, 88), (0, x1)] [] 136 σ 136 Q := by
  refine E_iload_n 3 dX12_chanceNow_2 rfl rfl ?_
  refine E_aload_n 4 dX12_chanceNow_3 rfl (ac_88.bnd) rfl ?_
  refine E_get 2 7 dX12_chanceNow_4 fl_X12_7 ac_88 rfl (by decide) rfl rfl ?_
  refine E_icmp_ge 10 43 dX12_chanceNow_7 rfl rfl (fun h => ?_) (fun h => ?_)
  · have w := w.1 h
    refine E_aload_n 44 dX12_chanceNow_43 rfl (ac_88.bnd) rfl ?_
    refine E_callV (as := []) 47 dX12_chanceNow_44 cf_X12_chanceOf mw_1623 mw_1625 mw_91 ac_88 (by decide) cl_X12 rfl rfl (Nat.le_of_ble_eq_true rfl) (Nat.le_of_ble_eq_true rfl) ⟨Nat.le_refl _, Nat.le_refl _⟩ rfl (w.mono (fun r2 σ1 w => ?_))
    show XX g true (d + 1) P_X12_chanceNow 47 [(2, 88), (0, x1)] [(1, r2)] 136 σ1 136 Q
    exact E_lret dX12_chanceNow_47 rfl rfl w
  · have w := w.2 h
    refine E_aload_n 11 dX12_chanceNow_10 rfl (ac_88.bnd) rfl ?_
    refine E_getL 14 dX12_chanceNow_11 fl_X12_111 ac_88 rfl (by decide) lay_88_54 rfl ?_
    refine E_iload_n 15 dX12_chanceNow_14 rfl rfl ?_
    refine E_aload_n 16 dX12_chanceNow_15 rfl (ac_88.bnd) rfl ?_
    refine E_getL 19 dX12_chanceNow_16 fl_X12_20 ac_88 rfl (by decide) lay_88_5 rfl ?_
    refine E_iload_n 20 dX12_chanceNow_19 rfl rfl ?_
    obtain ⟨c3, w⟩ := w
    refine E_iald 21 dX12_chanceNow_20 ac_91 c3 rfl ?_
    refine E_iconst 22 dX12_chanceNow_21 (by decide) rfl ?_
    refine E_icmp_ne 25 31 dX12_chanceNow_22 rfl rfl (fun h => ?_) (fun h => ?_)
    · have w := w.1 h
      refine E_aload_n 32 dX12_chanceNow_31 rfl (ac_88.bnd) rfl ?_
      refine E_iload_n 33 dX12_chanceNow_32 rfl rfl ?_
      refine E_callV (as := [(0, x1)]) 36 dX12_chanceNow_33 cf_X12_goesNow mw_1548 mw_1550 mw_76 ac_88 (by decide) cl_X12 rfl rfl (Nat.le_of_ble_eq_true rfl) (Nat.le_of_ble_eq_true rfl) ⟨Nat.le_refl _, Nat.le_refl _⟩ rfl (w.mono (fun r5 σ4 w => ?_))
      show XX g true (d + 1) P_X12_chanceNow 36 [(2, 88), (0, x1)] [(0, r5), (0, x1), (2, 118)] 136 σ4 136 Q
      refine E_iast 37 dX12_chanceNow_36 ac_118 c3 rfl ?_
      refine E_iinc (ls' := [(2, 88), (0, w32 (x1 + 1))]) 40 dX12_chanceNow_37 (by decide) rfl rfl rfl ?_
      refine E_goto 2 dX12_chanceNow_40 rfl ?_
      with_reducible exact w
    · have w := w.2 h
      refine E_sipush 28 dX12_chanceNow_25 (by decide) rfl ?_
      refine E_goto 36 dX12_chanceNow_28 rfl ?_
      refine E_iast 37 dX12_chanceNow_36 ac_118 c3 rfl ?_
      refine E_iinc (ls' := [(2, 88), (0, w32 (x1 + 1))]) 40 dX12_chanceNow_37 (by decide) rfl rfl rfl ?_
      refine E_goto 2 dX12_chanceNow_40 rfl ?_
      with_reducible exact w
theorem B_X12_chance_0 {g : PG} {d : Nat} {σ : PS} {Q : Int → PS → Prop} {x1 : Int}  (w : ((x1 ≠ 0 → ((x1 = 1 → (XX g true (d + 1) P_X12_chance 25 [(2, 88), (9, 0), (0, 0)] [] 136 (su σ 88 0 0) 136 Q)) ∧ (x1 ≠ 1 → Q (-1) (su σ 88 0 0)))) ∧ (x1 = 0 → XX g true d P_X12_chanceNow 0 [(2, 88), (9, 0)] [] 136 (su σ 88 0 0) 136 (fun r2 σ1 => Q r2 σ1)))) : XX g true (d + 1) P_X12_chance 0 [(2, 88), (0, x1), (9, 0)] [] 136 σ 136 Q := by
  refine E_aload_n 1 dX12_chance_0 rfl (ac_88.bnd) rfl ?_
  refine E_iconst 2 dX12_chance_1 (by decide) rfl ?_
  refine E_putI 0 5 dX12_chance_2 fl_X12_166 ac_88 rfl (by decide) (Or.inl rfl) rfl rfl ?_
  refine E_iload_n 6 dX12_chance_5 rfl rfl ?_
  refine E_if_ne 9 14 dX12_chance_6 rfl rfl (fun h => ?_) (fun h => ?_)
  · have w := w.1 h
    refine E_iload_n 15 dX12_chance_14 rfl rfl ?_
    refine E_iconst 16 dX12_chance_15 (by decide) rfl ?_
    refine E_icmp_eq 19 23 dX12_chance_16 rfl rfl (fun h => ?_) (fun h => ?_)
    · have w := w.1 h
      refine E_iconst 24 dX12_chance_23 (by decide) rfl ?_
      refine E_istore_n (ls' := [(2, 88), (0, x1), (0, 0)]) 25 dX12_chance_24 (by decide) rfl rfl ?_
      refine XX.fg [1] [(2, 88), (9, 0), (0, 0)] rfl ?_
      with_reducible exact w
    · have w := w.2 h
      refine E_ldc2_w (x := (-1)) 22 dX12_chance_19 mw_1629 (by decide) (by unfold in64; decide) rfl ?_
      exact E_lret dX12_chance_22 rfl rfl w
  · have w := w.2 h
    refine E_aload_n 10 dX12_chance_9 rfl (ac_88.bnd) rfl ?_
    refine E_callV (as := []) 13 dX12_chance_10 cf_X12_chanceNow mw_1619 mw_1621 mw_90 ac_88 (by decide) cl_X12 rfl rfl (Nat.le_of_ble_eq_true rfl) (Nat.le_of_ble_eq_true rfl) ⟨Nat.le_refl _, Nat.le_refl _⟩ rfl (w.mono (fun r2 σ1 w => ?_))
    show XX g true (d + 1) P_X12_chance 13 [(2, 88), (0, x1), (9, 0)] [(1, r2)] 136 σ1 136 Q
    exact E_lret dX12_chance_13 rfl rfl w
theorem B_X12_chance_25 {g : PG} {d : Nat} {σ : PS} {Q : Int → PS → Prop} {x2 : Int}  (w : ((σ 88 2 ≤ x2 → XX g true d P_X12_chanceOf 0 [(2, 88), (9, 0), (9, 0), (9, 0), (9, 0), (9, 0), (9, 0), (9, 0), (9, 0), (9, 0)] [] 136 σ 136 (fun r2 σ1 => Q r2 σ1)) ∧ (x2 < σ 88 2 → XX g true d P_X12_guessOf 0 [(2, 88), (0, x2), (9, 0), (9, 0), (9, 0)] [] 136 σ 136 (fun r4 σ3 => (0 ≤ x2 ∧ x2 < 60) ∧ (XX g true (d + 1) P_X12_chance 25 [(2, 88), (9, 0), (0, w32 (x2 + 1))] [] 136 (su σ3 118 x2 r4) 136 Q))))) : XX g true (d + 1) P_X12_chance 25 [(2, 88), (9, 0), (0, x2)] [] 136 σ 136 Q := by
  refine E_iload_n 26 dX12_chance_25 rfl rfl ?_
  refine E_aload_n 27 dX12_chance_26 rfl (ac_88.bnd) rfl ?_
  refine E_get 2 30 dX12_chance_27 fl_X12_7 ac_88 rfl (by decide) rfl rfl ?_
  refine E_icmp_ge 33 50 dX12_chance_30 rfl rfl (fun h => ?_) (fun h => ?_)
  · have w := w.1 h
    refine E_aload_n 51 dX12_chance_50 rfl (ac_88.bnd) rfl ?_
    refine E_callV (as := []) 54 dX12_chance_51 cf_X12_chanceOf mw_1623 mw_1625 mw_91 ac_88 (by decide) cl_X12 rfl rfl (Nat.le_of_ble_eq_true rfl) (Nat.le_of_ble_eq_true rfl) ⟨Nat.le_refl _, Nat.le_refl _⟩ rfl (w.mono (fun r2 σ1 w => ?_))
    show XX g true (d + 1) P_X12_chance 54 [(2, 88), (9, 0), (0, x2)] [(1, r2)] 136 σ1 136 Q
    exact E_lret dX12_chance_54 rfl rfl w
  · have w := w.2 h
    refine E_aload_n 34 dX12_chance_33 rfl (ac_88.bnd) rfl ?_
    refine E_getL 37 dX12_chance_34 fl_X12_111 ac_88 rfl (by decide) lay_88_54 rfl ?_
    refine E_iload_n 38 dX12_chance_37 rfl rfl ?_
    refine E_aload_n 39 dX12_chance_38 rfl (ac_88.bnd) rfl ?_
    refine E_iload_n 40 dX12_chance_39 rfl rfl ?_
    refine E_callV (as := [(0, x2)]) 43 dX12_chance_40 cf_X12_guessOf mw_1611 mw_1613 mw_89 ac_88 (by decide) cl_X12 rfl rfl (Nat.le_of_ble_eq_true rfl) (Nat.le_of_ble_eq_true rfl) ⟨Nat.le_refl _, Nat.le_refl _⟩ rfl (w.mono (fun r4 σ3 w => ?_))
    show XX g true (d + 1) P_X12_chance 43 [(2, 88), (9, 0), (0, x2)] [(0, r4), (0, x2), (2, 118)] 136 σ3 136 Q
    obtain ⟨c5, w⟩ := w
    refine E_iast 44 dX12_chance_43 ac_118 c5 rfl ?_
    refine E_iinc (ls' := [(2, 88), (9, 0), (0, w32 (x2 + 1))]) 47 dX12_chance_44 (by decide) rfl rfl rfl ?_
    refine E_goto 25 dX12_chance_47 rfl ?_
    with_reducible exact w
theorem B_X12_findsSetFails_0 {g : PG} {d : Nat} {σ : PS} {Q : Int → PS → Prop}  (w : (XX g true (d + 1) P_X12_findsSetFails 2 [(2, 88), (0, 0), (9, 0)] [] 136 σ 136 Q)) : XX g true (d + 1) P_X12_findsSetFails 0 [(2, 88), (9, 0), (9, 0)] [] 136 σ 136 Q := by
  refine E_iconst 1 dX12_findsSetFails_0 (by decide) rfl ?_
  refine E_istore_n (ls' := [(2, 88), (0, 0), (9, 0)]) 2 dX12_findsSetFails_1 (by decide) rfl rfl ?_
  with_reducible exact w
theorem B_X12_findsSetFails_2 {g : PG} {d : Nat} {σ : PS} {Q : Int → PS → Prop} {x1 : Int}  (w : ((ishl 1 (σ 88 2) ≤ x1 → Q 0 σ) ∧ (x1 < ishl 1 (σ 88 2) → (XX g true (d + 1) P_X12_findsSetFails 14 [(2, 88), (0, x1), (0, 0)] [] 136 σ 136 Q)))) : XX g true (d + 1) P_X12_findsSetFails 2 [(2, 88), (0, x1), (9, 0)] [] 136 σ 136 Q := by
  refine E_iload_n 3 dX12_findsSetFails_2 rfl rfl ?_
  refine E_iconst 4 dX12_findsSetFails_3 (by decide) rfl ?_
  refine E_aload_n 5 dX12_findsSetFails_4 rfl (ac_88.bnd) rfl ?_
  refine E_get 2 8 dX12_findsSetFails_5 fl_X12_7 ac_88 rfl (by decide) rfl rfl ?_
  refine E_ishl 9 dX12_findsSetFails_8 rfl ?_
  refine E_icmp_ge 12 55 dX12_findsSetFails_9 rfl rfl (fun h => ?_) (fun h => ?_)
  · have w := w.1 h
    exact E_vret dX12_findsSetFails_55 rfl rfl w
  · have w := w.2 h
    refine E_iconst 13 dX12_findsSetFails_12 (by decide) rfl ?_
    refine E_istore_n (ls' := [(2, 88), (0, x1), (0, 0)]) 14 dX12_findsSetFails_13 (by decide) rfl rfl ?_
    with_reducible exact w
theorem B_X12_findsSetFails_14 {g : PG} {d : Nat} {σ : PS} {Q : Int → PS → Prop} {x1 x2 : Int}  (w : ((σ 88 2 ≤ x2 → XX g true d P_X12_failsTrial 0 [(2, 88), (9, 0), (9, 0)] [] 136 σ 136 (fun r2 σ1 => (0 ≤ x1 ∧ x1 < 1024) ∧ (r2 = 0 ∨ r2 = 1) ∧ (XX g true (d + 1) P_X12_findsSetFails 2 [(2, 88), (0, w32 (x1 + 1)), (9, 0)] [] 136 (su σ1 124 x1 r2) 136 Q))) ∧ (x2 < σ 88 2 → (0 ≤ x2 ∧ x2 < 60) ∧ (XX g true (d + 1) P_X12_findsSetFails 14 [(2, 88), (0, x1), (0, w32 (x2 + 1))] [] 136 (su σ 113 x2 (iand (ishr x1 x2) 1)) 136 Q)))) : XX g true (d + 1) P_X12_findsSetFails 14 [(2, 88), (0, x1), (0, x2)] [] 136 σ 136 Q := by
  refine E_iload_n 15 dX12_findsSetFails_14 rfl rfl ?_
  refine E_aload_n 16 dX12_findsSetFails_15 rfl (ac_88.bnd) rfl ?_
  refine E_get 2 19 dX12_findsSetFails_16 fl_X12_7 ac_88 rfl (by decide) rfl rfl ?_
  refine E_icmp_ge 22 39 dX12_findsSetFails_19 rfl rfl (fun h => ?_) (fun h => ?_)
  · have w := w.1 h
    refine E_aload_n 40 dX12_findsSetFails_39 rfl (ac_88.bnd) rfl ?_
    refine E_getL 43 dX12_findsSetFails_40 fl_X12_129 ac_88 rfl (by decide) lay_88_60 rfl ?_
    refine E_iload_n 44 dX12_findsSetFails_43 rfl rfl ?_
    refine E_aload_n 45 dX12_findsSetFails_44 rfl (ac_88.bnd) rfl ?_
    refine E_callV (as := []) 48 dX12_findsSetFails_45 cf_X12_failsTrial mw_1524 mw_1526 mw_71 ac_88 (by decide) cl_X12 rfl rfl (Nat.le_of_ble_eq_true rfl) (Nat.le_of_ble_eq_true rfl) ⟨Nat.le_refl _, Nat.le_refl _⟩ rfl (w.mono (fun r2 σ1 w => ?_))
    show XX g true (d + 1) P_X12_findsSetFails 48 [(2, 88), (0, x1), (0, x2)] [(0, r2), (0, x1), (2, 124)] 136 σ1 136 Q
    obtain ⟨c3, w⟩ := w
    obtain ⟨c4, w⟩ := w
    refine E_zast 49 dX12_findsSetFails_48 ac_124 c3 c4 rfl ?_
    refine E_iinc (ls' := [(2, 88), (0, w32 (x1 + 1)), (0, x2)]) 52 dX12_findsSetFails_49 (by decide) rfl rfl rfl ?_
    refine E_goto 2 dX12_findsSetFails_52 rfl ?_
    refine XX.fg [2] [(2, 88), (0, w32 (x1 + 1)), (9, 0)] rfl ?_
    with_reducible exact w
  · have w := w.2 h
    refine E_aload_n 23 dX12_findsSetFails_22 rfl (ac_88.bnd) rfl ?_
    refine E_getL 26 dX12_findsSetFails_23 fl_X12_92 ac_88 rfl (by decide) lay_88_47 rfl ?_
    refine E_iload_n 27 dX12_findsSetFails_26 rfl rfl ?_
    refine E_iload_n 28 dX12_findsSetFails_27 rfl rfl ?_
    refine E_iload_n 29 dX12_findsSetFails_28 rfl rfl ?_
    refine E_ishr 30 dX12_findsSetFails_29 rfl ?_
    refine E_iconst 31 dX12_findsSetFails_30 (by decide) rfl ?_
    refine E_iand 32 dX12_findsSetFails_31 rfl ?_
    obtain ⟨c5, w⟩ := w
    refine E_iast 33 dX12_findsSetFails_32 ac_113 c5 rfl ?_
    refine E_iinc (ls' := [(2, 88), (0, x1), (0, w32 (x2 + 1))]) 36 dX12_findsSetFails_33 (by decide) rfl rfl rfl ?_
    refine E_goto 14 dX12_findsSetFails_36 rfl ?_
    with_reducible exact w
theorem B_X12_beginsAhead_0 {g : PG} {d : Nat} {σ : PS} {Q : Int → PS → Prop}  (w : XX g true d P_X12_findsSetFails 0 [(2, 88), (9, 0), (9, 0)] [] 136 σ 136 (fun _ σ1 => (XX g true (d + 1) P_X12_beginsAhead 8 [(2, 88), (0, 0), (0, 0)] [] 136 σ1 136 Q))) : XX g true (d + 1) P_X12_beginsAhead 0 [(2, 88), (9, 0), (9, 0)] [] 136 σ 136 Q := by
  refine E_aload_n 1 dX12_beginsAhead_0 rfl (ac_88.bnd) rfl ?_
  refine E_callV (as := []) 4 dX12_beginsAhead_1 cf_X12_findsSetFails mw_1638 mw_1640 mw_93 ac_88 (by decide) cl_X12 rfl rfl (Nat.le_of_ble_eq_true rfl) (Nat.le_of_ble_eq_true rfl) ⟨Nat.le_refl _, Nat.le_refl _⟩ rfl (w.mono (fun r2 σ1 w => ?_))
  show XX g true (d + 1) P_X12_beginsAhead 4 [(2, 88), (9, 0), (9, 0)] [] 136 σ1 136 Q
  refine E_iconst 5 dX12_beginsAhead_4 (by decide) rfl ?_
  refine E_istore_n (ls' := [(2, 88), (0, 0), (9, 0)]) 6 dX12_beginsAhead_5 (by decide) rfl rfl ?_
  refine E_iconst 7 dX12_beginsAhead_6 (by decide) rfl ?_
  refine E_istore_n (ls' := [(2, 88), (0, 0), (0, 0)]) 8 dX12_beginsAhead_7 (by decide) rfl rfl ?_
  with_reducible exact w
theorem B_X12_beginsAhead_8 {g : PG} {d : Nat} {σ : PS} {Q : Int → PS → Prop} {x1 x2 : Int}  (w : ((σ 88 2 ≤ x2 → (XX g true (d + 1) P_X12_beginsAhead 35 [(2, 88), (0, x1), (0, 0)] [] 136 σ 136 Q)) ∧ (x2 < σ 88 2 → (0 ≤ x2 ∧ x2 < 60) ∧ ∀ y2, y2 = ior x1 (ishl (σ 91 x2) x2) → (XX g true (d + 1) P_X12_beginsAhead 8 [(2, 88), (0, y2), (0, w32 (x2 + 1))] [] 136 σ 136 Q)))) : XX g true (d + 1) P_X12_beginsAhead 8 [(2, 88), (0, x1), (0, x2)] [] 136 σ 136 Q := by
  refine E_iload_n 9 dX12_beginsAhead_8 rfl rfl ?_
  refine E_aload_n 10 dX12_beginsAhead_9 rfl (ac_88.bnd) rfl ?_
  refine E_get 2 13 dX12_beginsAhead_10 fl_X12_7 ac_88 rfl (by decide) rfl rfl ?_
  refine E_icmp_ge 16 33 dX12_beginsAhead_13 rfl rfl (fun h => ?_) (fun h => ?_)
  · have w := w.1 h
    refine E_iconst 34 dX12_beginsAhead_33 (by decide) rfl ?_
    refine E_istore_n (ls' := [(2, 88), (0, x1), (0, 0)]) 35 dX12_beginsAhead_34 (by decide) rfl rfl ?_
    with_reducible exact w
  · have w := w.2 h
    refine E_iload_n 17 dX12_beginsAhead_16 rfl rfl ?_
    refine E_aload_n 18 dX12_beginsAhead_17 rfl (ac_88.bnd) rfl ?_
    refine E_getL 21 dX12_beginsAhead_18 fl_X12_20 ac_88 rfl (by decide) lay_88_5 rfl ?_
    refine E_iload_n 22 dX12_beginsAhead_21 rfl rfl ?_
    obtain ⟨c1, w⟩ := w
    refine E_iald 23 dX12_beginsAhead_22 ac_91 c1 rfl ?_
    refine E_iload_n 24 dX12_beginsAhead_23 rfl rfl ?_
    refine E_ishl 25 dX12_beginsAhead_24 rfl ?_
    refine E_ior 26 dX12_beginsAhead_25 rfl ?_
    refine E_top (fun y2 hy2 => ?_)
    have w := w y2 hy2
    refine E_istore_n (ls' := [(2, 88), (0, y2), (0, x2)]) 27 dX12_beginsAhead_26 (by decide) rfl rfl ?_
    refine E_iinc (ls' := [(2, 88), (0, y2), (0, w32 (x2 + 1))]) 30 dX12_beginsAhead_27 (by decide) rfl rfl rfl ?_
    refine E_goto 8 dX12_beginsAhead_30 rfl ?_
    with_reducible exact w
theorem B_X12_beginsAhead_35 {g : PG} {d : Nat} {σ : PS} {Q : Int → PS → Prop} {x1 x2 : Int}  (w : ((1024 ≤ x2 → (0 ≤ x1 ∧ x1 < 1024) ∧ ((σ 124 x1 ≠ 0 → Q 0 σ) ∧ (σ 124 x1 = 0 → Q 0 (su σ 119 x1 1000000000000)))) ∧ (x2 < 1024 → (0 ≤ x2 ∧ x2 < 1024) ∧ (XX g true (d + 1) P_X12_beginsAhead 35 [(2, 88), (0, x1), (0, w32 (x2 + 1))] [] 136 (su σ 119 x2 0) 136 Q)))) : XX g true (d + 1) P_X12_beginsAhead 35 [(2, 88), (0, x1), (0, x2)] [] 136 σ 136 Q := by
  refine E_iload_n 36 dX12_beginsAhead_35 rfl rfl ?_
  refine E_sipush 39 dX12_beginsAhead_36 (by decide) rfl ?_
  refine E_icmp_ge 42 55 dX12_beginsAhead_39 rfl rfl (fun h => ?_) (fun h => ?_)
  · have w := w.1 h
    refine E_aload_n 56 dX12_beginsAhead_55 rfl (ac_88.bnd) rfl ?_
    refine E_getL 59 dX12_beginsAhead_56 fl_X12_129 ac_88 rfl (by decide) lay_88_60 rfl ?_
    refine E_iload_n 60 dX12_beginsAhead_59 rfl rfl ?_
    obtain ⟨c1, w⟩ := w
    refine E_zald 61 dX12_beginsAhead_60 ac_124 c1 rfl ?_
    refine E_if_ne 64 73 dX12_beginsAhead_61 rfl rfl (fun h => ?_) (fun h => ?_)
    · have w := w.1 h
      exact E_vret dX12_beginsAhead_73 rfl rfl w
    · have w := w.2 h
      refine E_aload_n 65 dX12_beginsAhead_64 rfl (ac_88.bnd) rfl ?_
      refine E_getL 68 dX12_beginsAhead_65 fl_X12_114 ac_88 rfl (by decide) lay_88_55 rfl ?_
      refine E_iload_n 69 dX12_beginsAhead_68 rfl rfl ?_
      refine E_ldc2_w (x := 1000000000000) 72 dX12_beginsAhead_69 mw_1627 (by decide) (by unfold in64; decide) rfl ?_
      refine E_last 73 dX12_beginsAhead_72 ac_119 c1 rfl ?_
      exact E_vret dX12_beginsAhead_73 rfl rfl w
  · have w := w.2 h
    refine E_aload_n 43 dX12_beginsAhead_42 rfl (ac_88.bnd) rfl ?_
    refine E_getL 46 dX12_beginsAhead_43 fl_X12_114 ac_88 rfl (by decide) lay_88_55 rfl ?_
    refine E_iload_n 47 dX12_beginsAhead_46 rfl rfl ?_
    refine E_lconst (x := 0) 48 dX12_beginsAhead_47 rfl rfl ?_
    obtain ⟨c2, w⟩ := w
    refine E_last 49 dX12_beginsAhead_48 ac_119 c2 rfl ?_
    refine E_iinc (ls' := [(2, 88), (0, x1), (0, w32 (x2 + 1))]) 52 dX12_beginsAhead_49 (by decide) rfl rfl rfl ?_
    refine E_goto 35 dX12_beginsAhead_52 rfl ?_
    with_reducible exact w
theorem B_X12_splits_0 {g : PG} {d : Nat} {σ : PS} {Q : Int → PS → Prop} {x1 x2 : Int}  (w : (XX g true (d + 1) P_X12_splits 2 [(2, 88), (0, x1), (0, x2), (0, 0), (9, 0), (9, 0), (9, 0), (9, 0)] [] 136 σ 136 Q)) : XX g true (d + 1) P_X12_splits 0 [(2, 88), (0, x1), (0, x2), (9, 0), (9, 0), (9, 0), (9, 0), (9, 0)] [] 136 σ 136 Q := by
  refine E_iconst 1 dX12_splits_0 (by decide) rfl ?_
  refine E_istore_n (ls' := [(2, 88), (0, x1), (0, x2), (0, 0), (9, 0), (9, 0), (9, 0), (9, 0)]) 2 dX12_splits_1 (by decide) rfl rfl ?_
  with_reducible exact w
theorem B_X12_splits_2 {g : PG} {d : Nat} {σ : PS} {Q : Int → PS → Prop} {x1 x2 x3 : Int}  (w : ((σ 88 2 ≤ x3 → (0 ≤ x1 ∧ x1 < 1024) ∧ (XX g true (d + 1) P_X12_splits 112 [(2, 88), (0, x1), (9, 0), (0, 1), (0, 0), (9, 0), (9, 0), (9, 0)] [] 136 (su (su σ 121 0 x1) 122 0 (σ 119 x1)) 136 Q)) ∧ (x3 < σ 88 2 → ((x3 ≤ 0 → ((w32 ((σ 88 2) - 1) ≤ x3 → ∀ y2, y2 = w32 (0 + 0) → (0 ≤ x3 ∧ x3 < 60) ∧ XX g true d P_X12_goesOf 0 [(2, 88), (0, σ 89 x3), (0, w32 ((σ 90 x3) + x2)), (0, y2), (0, x3), (0, w32 ((σ 88 12) + x2)), (9, 0)] [] 136 σ 136 (fun r5 σ4 => (0 ≤ x3 ∧ x3 < 10) ∧ (XX g true (d + 1) P_X12_splits 2 [(2, 88), (0, x1), (0, x2), (0, w32 (x3 + 1)), (9, 0), (9, 0), (9, 0), (9, 0)] [] 136 (su σ4 123 x3 r5) 136 Q))) ∧ (x3 < w32 ((σ 88 2) - 1) → ∀ y7, y7 = w32 (0 + (iand (ishr x1 (w32 (x3 + 1))) 1)) → (0 ≤ x3 ∧ x3 < 60) ∧ XX g true d P_X12_goesOf 0 [(2, 88), (0, σ 89 x3), (0, w32 ((σ 90 x3) + x2)), (0, y7), (0, x3), (0, w32 ((σ 88 12) + x2)), (9, 0)] [] 136 σ 136 (fun r10 σ9 => (0 ≤ x3 ∧ x3 < 10) ∧ (XX g true (d + 1) P_X12_splits 2 [(2, 88), (0, x1), (0, x2), (0, w32 (x3 + 1)), (9, 0), (9, 0), (9, 0), (9, 0)] [] 136 (su σ9 123 x3 r10) 136 Q))))) ∧ (0 < x3 → ((w32 ((σ 88 2) - 1) ≤ x3 → ∀ y12, y12 = w32 ((iand (ishr x1 (w32 (x3 - 1))) 1) + 0) → (0 ≤ x3 ∧ x3 < 60) ∧ XX g true d P_X12_goesOf 0 [(2, 88), (0, σ 89 x3), (0, w32 ((σ 90 x3) + x2)), (0, y12), (0, x3), (0, w32 ((σ 88 12) + x2)), (9, 0)] [] 136 σ 136 (fun r15 σ14 => (0 ≤ x3 ∧ x3 < 10) ∧ (XX g true (d + 1) P_X12_splits 2 [(2, 88), (0, x1), (0, x2), (0, w32 (x3 + 1)), (9, 0), (9, 0), (9, 0), (9, 0)] [] 136 (su σ14 123 x3 r15) 136 Q))) ∧ (x3 < w32 ((σ 88 2) - 1) → ∀ y17, y17 = w32 ((iand (ishr x1 (w32 (x3 - 1))) 1) + (iand (ishr x1 (w32 (x3 + 1))) 1)) → (0 ≤ x3 ∧ x3 < 60) ∧ XX g true d P_X12_goesOf 0 [(2, 88), (0, σ 89 x3), (0, w32 ((σ 90 x3) + x2)), (0, y17), (0, x3), (0, w32 ((σ 88 12) + x2)), (9, 0)] [] 136 σ 136 (fun r20 σ19 => (0 ≤ x3 ∧ x3 < 10) ∧ (XX g true (d + 1) P_X12_splits 2 [(2, 88), (0, x1), (0, x2), (0, w32 (x3 + 1)), (9, 0), (9, 0), (9, 0), (9, 0)] [] 136 (su σ19 123 x3 r20) 136 Q))))))))) : XX g true (d + 1) P_X12_splits 2 [(2, 88), (0, x1), (0, x2), (0, x3), (9, 0), (9, 0), (9, 0), (9, 0)] [] 136 σ 136 Q := by
  refine E_iload_n 3 dX12_splits_2 rfl rfl ?_
  refine E_aload_n 4 dX12_splits_3 rfl (ac_88.bnd) rfl ?_
  refine E_get 2 7 dX12_splits_4 fl_X12_7 ac_88 rfl (by decide) rfl rfl ?_
  refine E_icmp_ge 10 88 dX12_splits_7 rfl rfl (fun h => ?_) (fun h => ?_)
  · have w := w.1 h
    refine E_aload_n 89 dX12_splits_88 rfl (ac_88.bnd) rfl ?_
    refine E_getL 92 dX12_splits_89 fl_X12_120 ac_88 rfl (by decide) lay_88_57 rfl ?_
    refine E_iconst 93 dX12_splits_92 (by decide) rfl ?_
    refine E_iload_n 94 dX12_splits_93 rfl rfl ?_
    refine E_iast 95 dX12_splits_94 ac_121 (by decide) rfl ?_
    refine E_aload_n 96 dX12_splits_95 rfl (ac_88.bnd) rfl ?_
    refine E_getL 99 dX12_splits_96 fl_X12_123 ac_88 rfl (by decide) lay_88_58 rfl ?_
    refine E_iconst 100 dX12_splits_99 (by decide) rfl ?_
    refine E_aload_n 101 dX12_splits_100 rfl (ac_88.bnd) rfl ?_
    refine E_getL 104 dX12_splits_101 fl_X12_114 ac_88 rfl (by decide) lay_88_55 rfl ?_
    refine E_iload_n 105 dX12_splits_104 rfl rfl ?_
    obtain ⟨c1, w⟩ := w
    refine E_lald 106 dX12_splits_105 ac_119 c1 rfl ?_
    refine E_conv (su_ne (Or.inl (by decide))) ?_
    refine E_last 107 dX12_splits_106 ac_122 (by decide) rfl ?_
    refine E_iconst 108 dX12_splits_107 (by decide) rfl ?_
    refine E_istore_n (ls' := [(2, 88), (0, x1), (0, x2), (0, 1), (9, 0), (9, 0), (9, 0), (9, 0)]) 109 dX12_splits_108 (by decide) rfl rfl ?_
    refine E_iconst 110 dX12_splits_109 (by decide) rfl ?_
    refine E_istore (ls' := [(2, 88), (0, x1), (0, x2), (0, 1), (0, 0), (9, 0), (9, 0), (9, 0)]) 112 dX12_splits_110 (by decide) rfl rfl ?_
    refine XX.fg [2] [(2, 88), (0, x1), (9, 0), (0, 1), (0, 0), (9, 0), (9, 0), (9, 0)] rfl ?_
    with_reducible exact w
  · have w := w.2 h
    refine E_iload_n 11 dX12_splits_10 rfl rfl ?_
    refine E_if_le 14 24 dX12_splits_11 rfl rfl (fun h => ?_) (fun h => ?_)
    · have w := w.1 h
      refine E_iconst 25 dX12_splits_24 (by decide) rfl ?_
      refine E_iload_n 26 dX12_splits_25 rfl rfl ?_
      refine E_aload_n 27 dX12_splits_26 rfl (ac_88.bnd) rfl ?_
      refine E_get 2 30 dX12_splits_27 fl_X12_7 ac_88 rfl (by decide) rfl rfl ?_
      refine E_iconst 31 dX12_splits_30 (by decide) rfl ?_
      refine E_isub 32 dX12_splits_31 rfl ?_
      refine E_icmp_ge 35 45 dX12_splits_32 rfl rfl (fun h => ?_) (fun h => ?_)
      · have w := w.1 h
        refine E_iconst 46 dX12_splits_45 (by decide) rfl ?_
        refine E_iadd 47 dX12_splits_46 rfl ?_
        refine E_top (fun y2 hy2 => ?_)
        have w := w y2 hy2
        refine E_istore (ls' := [(2, 88), (0, x1), (0, x2), (0, x3), (0, y2), (9, 0), (9, 0), (9, 0)]) 49 dX12_splits_47 (by decide) rfl rfl ?_
        refine E_aload_n 50 dX12_splits_49 rfl (ac_88.bnd) rfl ?_
        refine E_getL 53 dX12_splits_50 fl_X12_126 ac_88 rfl (by decide) lay_88_59 rfl ?_
        refine E_iload_n 54 dX12_splits_53 rfl rfl ?_
        refine E_aload_n 55 dX12_splits_54 rfl (ac_88.bnd) rfl ?_
        refine E_aload_n 56 dX12_splits_55 rfl (ac_88.bnd) rfl ?_
        refine E_getL 59 dX12_splits_56 fl_X12_13 ac_88 rfl (by decide) lay_88_3 rfl ?_
        refine E_iload_n 60 dX12_splits_59 rfl rfl ?_
        obtain ⟨c3, w⟩ := w
        refine E_iald 61 dX12_splits_60 ac_89 c3 rfl ?_
        refine E_aload_n 62 dX12_splits_61 rfl (ac_88.bnd) rfl ?_
        refine E_getL 65 dX12_splits_62 fl_X12_17 ac_88 rfl (by decide) lay_88_4 rfl ?_
        refine E_iload_n 66 dX12_splits_65 rfl rfl ?_
        refine E_iald 67 dX12_splits_66 ac_90 c3 rfl ?_
        refine E_iload_n 68 dX12_splits_67 rfl rfl ?_
        refine E_iadd 69 dX12_splits_68 rfl ?_
        refine E_iload 71 dX12_splits_69 rfl rfl ?_
        refine E_iload_n 72 dX12_splits_71 rfl rfl ?_
        refine E_aload_n 73 dX12_splits_72 rfl (ac_88.bnd) rfl ?_
        refine E_get 12 76 dX12_splits_73 fl_X12_334 ac_88 rfl (by decide) rfl rfl ?_
        refine E_iload_n 77 dX12_splits_76 rfl rfl ?_
        refine E_iadd 78 dX12_splits_77 rfl ?_
        refine E_callV (as := [(0, σ 89 x3), (0, w32 ((σ 90 x3) + x2)), (0, y2), (0, x3), (0, w32 ((σ 88 12) + x2))]) 81 dX12_splits_78 cf_X12_goesOf mw_1556 mw_1558 mw_78 ac_88 (by decide) cl_X12 rfl rfl (Nat.le_of_ble_eq_true rfl) (Nat.le_of_ble_eq_true rfl) ⟨Nat.le_refl _, Nat.le_refl _⟩ rfl (w.mono (fun r5 σ4 w => ?_))
        show XX g true (d + 1) P_X12_splits 81 [(2, 88), (0, x1), (0, x2), (0, x3), (0, y2), (9, 0), (9, 0), (9, 0)] [(0, r5), (0, x3), (2, 123)] 136 σ4 136 Q
        obtain ⟨c6, w⟩ := w
        refine E_iast 82 dX12_splits_81 ac_123 c6 rfl ?_
        refine E_iinc (ls' := [(2, 88), (0, x1), (0, x2), (0, w32 (x3 + 1)), (0, y2), (9, 0), (9, 0), (9, 0)]) 85 dX12_splits_82 (by decide) rfl rfl rfl ?_
        refine E_goto 2 dX12_splits_85 rfl ?_
        refine XX.fg [4] [(2, 88), (0, x1), (0, x2), (0, w32 (x3 + 1)), (9, 0), (9, 0), (9, 0), (9, 0)] rfl ?_
        with_reducible exact w
      · have w := w.2 h
        refine E_iload_n 36 dX12_splits_35 rfl rfl ?_
        refine E_iload_n 37 dX12_splits_36 rfl rfl ?_
        refine E_iconst 38 dX12_splits_37 (by decide) rfl ?_
        refine E_iadd 39 dX12_splits_38 rfl ?_
        refine E_ishr 40 dX12_splits_39 rfl ?_
        refine E_iconst 41 dX12_splits_40 (by decide) rfl ?_
        refine E_iand 42 dX12_splits_41 rfl ?_
        refine E_goto 46 dX12_splits_42 rfl ?_
        refine E_iadd 47 dX12_splits_46 rfl ?_
        refine E_top (fun y7 hy7 => ?_)
        have w := w y7 hy7
        refine E_istore (ls' := [(2, 88), (0, x1), (0, x2), (0, x3), (0, y7), (9, 0), (9, 0), (9, 0)]) 49 dX12_splits_47 (by decide) rfl rfl ?_
        refine E_aload_n 50 dX12_splits_49 rfl (ac_88.bnd) rfl ?_
        refine E_getL 53 dX12_splits_50 fl_X12_126 ac_88 rfl (by decide) lay_88_59 rfl ?_
        refine E_iload_n 54 dX12_splits_53 rfl rfl ?_
        refine E_aload_n 55 dX12_splits_54 rfl (ac_88.bnd) rfl ?_
        refine E_aload_n 56 dX12_splits_55 rfl (ac_88.bnd) rfl ?_
        refine E_getL 59 dX12_splits_56 fl_X12_13 ac_88 rfl (by decide) lay_88_3 rfl ?_
        refine E_iload_n 60 dX12_splits_59 rfl rfl ?_
        obtain ⟨c8, w⟩ := w
        refine E_iald 61 dX12_splits_60 ac_89 c8 rfl ?_
        refine E_aload_n 62 dX12_splits_61 rfl (ac_88.bnd) rfl ?_
        refine E_getL 65 dX12_splits_62 fl_X12_17 ac_88 rfl (by decide) lay_88_4 rfl ?_
        refine E_iload_n 66 dX12_splits_65 rfl rfl ?_
        refine E_iald 67 dX12_splits_66 ac_90 c8 rfl ?_
        refine E_iload_n 68 dX12_splits_67 rfl rfl ?_
        refine E_iadd 69 dX12_splits_68 rfl ?_
        refine E_iload 71 dX12_splits_69 rfl rfl ?_
        refine E_iload_n 72 dX12_splits_71 rfl rfl ?_
        refine E_aload_n 73 dX12_splits_72 rfl (ac_88.bnd) rfl ?_
        refine E_get 12 76 dX12_splits_73 fl_X12_334 ac_88 rfl (by decide) rfl rfl ?_
        refine E_iload_n 77 dX12_splits_76 rfl rfl ?_
        refine E_iadd 78 dX12_splits_77 rfl ?_
        refine E_callV (as := [(0, σ 89 x3), (0, w32 ((σ 90 x3) + x2)), (0, y7), (0, x3), (0, w32 ((σ 88 12) + x2))]) 81 dX12_splits_78 cf_X12_goesOf mw_1556 mw_1558 mw_78 ac_88 (by decide) cl_X12 rfl rfl (Nat.le_of_ble_eq_true rfl) (Nat.le_of_ble_eq_true rfl) ⟨Nat.le_refl _, Nat.le_refl _⟩ rfl (w.mono (fun r10 σ9 w => ?_))
        show XX g true (d + 1) P_X12_splits 81 [(2, 88), (0, x1), (0, x2), (0, x3), (0, y7), (9, 0), (9, 0), (9, 0)] [(0, r10), (0, x3), (2, 123)] 136 σ9 136 Q
        obtain ⟨c11, w⟩ := w
        refine E_iast 82 dX12_splits_81 ac_123 c11 rfl ?_
        refine E_iinc (ls' := [(2, 88), (0, x1), (0, x2), (0, w32 (x3 + 1)), (0, y7), (9, 0), (9, 0), (9, 0)]) 85 dX12_splits_82 (by decide) rfl rfl rfl ?_
        refine E_goto 2 dX12_splits_85 rfl ?_
        refine XX.fg [4] [(2, 88), (0, x1), (0, x2), (0, w32 (x3 + 1)), (9, 0), (9, 0), (9, 0), (9, 0)] rfl ?_
        with_reducible exact w
    · have w := w.2 h
      refine E_iload_n 15 dX12_splits_14 rfl rfl ?_
      refine E_iload_n 16 dX12_splits_15 rfl rfl ?_
      refine E_iconst 17 dX12_splits_16 (by decide) rfl ?_
      refine E_isub 18 dX12_splits_17 rfl ?_
      refine E_ishr 19 dX12_splits_18 rfl ?_
      refine E_iconst 20 dX12_splits_19 (by decide) rfl ?_
      refine E_iand 21 dX12_splits_20 rfl ?_
      refine E_goto 25 dX12_splits_21 rfl ?_
      refine E_iload_n 26 dX12_splits_25 rfl rfl ?_
      refine E_aload_n 27 dX12_splits_26 rfl (ac_88.bnd) rfl ?_
      refine E_get 2 30 dX12_splits_27 fl_X12_7 ac_88 rfl (by decide) rfl rfl ?_
      refine E_iconst 31 dX12_splits_30 (by decide) rfl ?_
      refine E_isub 32 dX12_splits_31 rfl ?_
      refine E_icmp_ge 35 45 dX12_splits_32 rfl rfl (fun h => ?_) (fun h => ?_)
      · have w := w.1 h
        refine E_iconst 46 dX12_splits_45 (by decide) rfl ?_
        refine E_iadd 47 dX12_splits_46 rfl ?_
        refine E_top (fun y12 hy12 => ?_)
        have w := w y12 hy12
        refine E_istore (ls' := [(2, 88), (0, x1), (0, x2), (0, x3), (0, y12), (9, 0), (9, 0), (9, 0)]) 49 dX12_splits_47 (by decide) rfl rfl ?_
        refine E_aload_n 50 dX12_splits_49 rfl (ac_88.bnd) rfl ?_
        refine E_getL 53 dX12_splits_50 fl_X12_126 ac_88 rfl (by decide) lay_88_59 rfl ?_
        refine E_iload_n 54 dX12_splits_53 rfl rfl ?_
        refine E_aload_n 55 dX12_splits_54 rfl (ac_88.bnd) rfl ?_
        refine E_aload_n 56 dX12_splits_55 rfl (ac_88.bnd) rfl ?_
        refine E_getL 59 dX12_splits_56 fl_X12_13 ac_88 rfl (by decide) lay_88_3 rfl ?_
        refine E_iload_n 60 dX12_splits_59 rfl rfl ?_
        obtain ⟨c13, w⟩ := w
        refine E_iald 61 dX12_splits_60 ac_89 c13 rfl ?_
        refine E_aload_n 62 dX12_splits_61 rfl (ac_88.bnd) rfl ?_
        refine E_getL 65 dX12_splits_62 fl_X12_17 ac_88 rfl (by decide) lay_88_4 rfl ?_
        refine E_iload_n 66 dX12_splits_65 rfl rfl ?_
        refine E_iald 67 dX12_splits_66 ac_90 c13 rfl ?_
        refine E_iload_n 68 dX12_splits_67 rfl rfl ?_
        refine E_iadd 69 dX12_splits_68 rfl ?_
        refine E_iload 71 dX12_splits_69 rfl rfl ?_
        refine E_iload_n 72 dX12_splits_71 rfl rfl ?_
        refine E_aload_n 73 dX12_splits_72 rfl (ac_88.bnd) rfl ?_
        refine E_get 12 76 dX12_splits_73 fl_X12_334 ac_88 rfl (by decide) rfl rfl ?_
        refine E_iload_n 77 dX12_splits_76 rfl rfl ?_
        refine E_iadd 78 dX12_splits_77 rfl ?_
        refine E_callV (as := [(0, σ 89 x3), (0, w32 ((σ 90 x3) + x2)), (0, y12), (0, x3), (0, w32 ((σ 88 12) + x2))]) 81 dX12_splits_78 cf_X12_goesOf mw_1556 mw_1558 mw_78 ac_88 (by decide) cl_X12 rfl rfl (Nat.le_of_ble_eq_true rfl) (Nat.le_of_ble_eq_true rfl) ⟨Nat.le_refl _, Nat.le_refl _⟩ rfl (w.mono (fun r15 σ14 w => ?_))
        show XX g true (d + 1) P_X12_splits 81 [(2, 88), (0, x1), (0, x2), (0, x3), (0, y12), (9, 0), (9, 0), (9, 0)] [(0, r15), (0, x3), (2, 123)] 136 σ14 136 Q
        obtain ⟨c16, w⟩ := w
        refine E_iast 82 dX12_splits_81 ac_123 c16 rfl ?_
        refine E_iinc (ls' := [(2, 88), (0, x1), (0, x2), (0, w32 (x3 + 1)), (0, y12), (9, 0), (9, 0), (9, 0)]) 85 dX12_splits_82 (by decide) rfl rfl rfl ?_
        refine E_goto 2 dX12_splits_85 rfl ?_
        refine XX.fg [4] [(2, 88), (0, x1), (0, x2), (0, w32 (x3 + 1)), (9, 0), (9, 0), (9, 0), (9, 0)] rfl ?_
        with_reducible exact w
      · have w := w.2 h
        refine E_iload_n 36 dX12_splits_35 rfl rfl ?_
        refine E_iload_n 37 dX12_splits_36 rfl rfl ?_
        refine E_iconst 38 dX12_splits_37 (by decide) rfl ?_
        refine E_iadd 39 dX12_splits_38 rfl ?_
        refine E_ishr 40 dX12_splits_39 rfl ?_
        refine E_iconst 41 dX12_splits_40 (by decide) rfl ?_
        refine E_iand 42 dX12_splits_41 rfl ?_
        refine E_goto 46 dX12_splits_42 rfl ?_
        refine E_iadd 47 dX12_splits_46 rfl ?_
        refine E_top (fun y17 hy17 => ?_)
        have w := w y17 hy17
        refine E_istore (ls' := [(2, 88), (0, x1), (0, x2), (0, x3), (0, y17), (9, 0), (9, 0), (9, 0)]) 49 dX12_splits_47 (by decide) rfl rfl ?_
        refine E_aload_n 50 dX12_splits_49 rfl (ac_88.bnd) rfl ?_
        refine E_getL 53 dX12_splits_50 fl_X12_126 ac_88 rfl (by decide) lay_88_59 rfl ?_
        refine E_iload_n 54 dX12_splits_53 rfl rfl ?_
        refine E_aload_n 55 dX12_splits_54 rfl (ac_88.bnd) rfl ?_
        refine E_aload_n 56 dX12_splits_55 rfl (ac_88.bnd) rfl ?_
        refine E_getL 59 dX12_splits_56 fl_X12_13 ac_88 rfl (by decide) lay_88_3 rfl ?_
        refine E_iload_n 60 dX12_splits_59 rfl rfl ?_
        obtain ⟨c18, w⟩ := w
        refine E_iald 61 dX12_splits_60 ac_89 c18 rfl ?_
        refine E_aload_n 62 dX12_splits_61 rfl (ac_88.bnd) rfl ?_
        refine E_getL 65 dX12_splits_62 fl_X12_17 ac_88 rfl (by decide) lay_88_4 rfl ?_
        refine E_iload_n 66 dX12_splits_65 rfl rfl ?_
        refine E_iald 67 dX12_splits_66 ac_90 c18 rfl ?_
        refine E_iload_n 68 dX12_splits_67 rfl rfl ?_
        refine E_iadd 69 dX12_splits_68 rfl ?_
        refine E_iload 71 dX12_splits_69 rfl rfl ?_
        refine E_iload_n 72 dX12_splits_71 rfl rfl ?_
        refine E_aload_n 73 dX12_splits_72 rfl (ac_88.bnd) rfl ?_
        refine E_get 12 76 dX12_splits_73 fl_X12_334 ac_88 rfl (by decide) rfl rfl ?_
        refine E_iload_n 77 dX12_splits_76 rfl rfl ?_
        refine E_iadd 78 dX12_splits_77 rfl ?_
        refine E_callV (as := [(0, σ 89 x3), (0, w32 ((σ 90 x3) + x2)), (0, y17), (0, x3), (0, w32 ((σ 88 12) + x2))]) 81 dX12_splits_78 cf_X12_goesOf mw_1556 mw_1558 mw_78 ac_88 (by decide) cl_X12 rfl rfl (Nat.le_of_ble_eq_true rfl) (Nat.le_of_ble_eq_true rfl) ⟨Nat.le_refl _, Nat.le_refl _⟩ rfl (w.mono (fun r20 σ19 w => ?_))
        show XX g true (d + 1) P_X12_splits 81 [(2, 88), (0, x1), (0, x2), (0, x3), (0, y17), (9, 0), (9, 0), (9, 0)] [(0, r20), (0, x3), (2, 123)] 136 σ19 136 Q
        obtain ⟨c21, w⟩ := w
        refine E_iast 82 dX12_splits_81 ac_123 c21 rfl ?_
        refine E_iinc (ls' := [(2, 88), (0, x1), (0, x2), (0, w32 (x3 + 1)), (0, y17), (9, 0), (9, 0), (9, 0)]) 85 dX12_splits_82 (by decide) rfl rfl rfl ?_
        refine E_goto 2 dX12_splits_85 rfl ?_
        refine XX.fg [4] [(2, 88), (0, x1), (0, x2), (0, w32 (x3 + 1)), (9, 0), (9, 0), (9, 0), (9, 0)] rfl ?_
        with_reducible exact w
theorem B_X12_splits_112 {g : PG} {d : Nat} {σ : PS} {Q : Int → PS → Prop} {x1 x3 x4 : Int}  (w : ((σ 88 2 ≤ x4 → (XX g true (d + 1) P_X12_splits 233 [(2, 88), (9, 0), (9, 0), (0, x3), (0, 0), (9, 0), (9, 0), (9, 0)] [] 136 σ 136 Q)) ∧ (x4 < σ 88 2 → ((iand (ishr x1 x4) 1 ≠ 1 → (XX g true (d + 1) P_X12_splits 137 [(2, 88), (0, x1), (9, 0), (0, x3), (0, x4), (0, 0), (9, 0), (9, 0)] [] 136 σ 136 Q)) ∧ (iand (ishr x1 x4) 1 = 1 → (XX g true (d + 1) P_X12_splits 112 [(2, 88), (0, x1), (9, 0), (0, x3), (0, w32 (x4 + 1)), (9, 0), (9, 0), (9, 0)] [] 136 σ 136 Q)))))) : XX g true (d + 1) P_X12_splits 112 [(2, 88), (0, x1), (9, 0), (0, x3), (0, x4), (9, 0), (9, 0), (9, 0)] [] 136 σ 136 Q := by
  refine E_iload 114 dX12_splits_112 rfl rfl ?_
  refine E_aload_n 115 dX12_splits_114 rfl (ac_88.bnd) rfl ?_
  refine E_get 2 118 dX12_splits_115 fl_X12_7 ac_88 rfl (by decide) rfl rfl ?_
  refine E_icmp_ge 121 230 dX12_splits_118 rfl rfl (fun h => ?_) (fun h => ?_)
  · have w := w.1 h
    refine E_iconst 231 dX12_splits_230 (by decide) rfl ?_
    refine E_istore (ls' := [(2, 88), (0, x1), (9, 0), (0, x3), (0, 0), (9, 0), (9, 0), (9, 0)]) 233 dX12_splits_231 (by decide) rfl rfl ?_
    refine XX.fg [1] [(2, 88), (9, 0), (9, 0), (0, x3), (0, 0), (9, 0), (9, 0), (9, 0)] rfl ?_
    with_reducible exact w
  · have w := w.2 h
    refine E_iload_n 122 dX12_splits_121 rfl rfl ?_
    refine E_iload 124 dX12_splits_122 rfl rfl ?_
    refine E_ishr 125 dX12_splits_124 rfl ?_
    refine E_iconst 126 dX12_splits_125 (by decide) rfl ?_
    refine E_iand 127 dX12_splits_126 rfl ?_
    refine E_iconst 128 dX12_splits_127 (by decide) rfl ?_
    refine E_icmp_ne 131 134 dX12_splits_128 rfl rfl (fun h => ?_) (fun h => ?_)
    · have w := w.1 h
      refine E_iconst 135 dX12_splits_134 (by decide) rfl ?_
      refine E_istore (ls' := [(2, 88), (0, x1), (9, 0), (0, x3), (0, x4), (0, 0), (9, 0), (9, 0)]) 137 dX12_splits_135 (by decide) rfl rfl ?_
      with_reducible exact w
    · have w := w.2 h
      refine E_goto 224 dX12_splits_131 rfl ?_
      refine E_iinc (ls' := [(2, 88), (0, x1), (9, 0), (0, x3), (0, w32 (x4 + 1)), (9, 0), (9, 0), (9, 0)]) 227 dX12_splits_224 (by decide) rfl rfl rfl ?_
      refine E_goto 112 dX12_splits_227 rfl ?_
      with_reducible exact w
theorem B_X12_splits_233 {g : PG} {d : Nat} {σ : PS} {Q : Int → PS → Prop} {x3 x4 : Int}  (w : ((x3 ≤ x4 → Q 0 σ) ∧ (x4 < x3 → (0 ≤ x4 ∧ x4 < 1024) ∧ (0 ≤ σ 121 x4 ∧ σ 121 x4 < 1024) ∧ ((σ 124 (σ 121 x4) ≠ 0 → (XX g true (d + 1) P_X12_splits 233 [(2, 88), (9, 0), (9, 0), (0, x3), (0, w32 (x4 + 1)), (9, 0), (9, 0), (9, 0)] [] 136 σ 136 Q)) ∧ (σ 124 (σ 121 x4) = 0 → (XX g true (d + 1) P_X12_splits 233 [(2, 88), (9, 0), (9, 0), (0, x3), (0, w32 (x4 + 1)), (9, 0), (9, 0), (9, 0)] [] 136 (su σ 120 (σ 121 x4) (w64 ((σ 120 (σ 121 x4)) + (σ 122 x4)))) 136 Q)))))) : XX g true (d + 1) P_X12_splits 233 [(2, 88), (9, 0), (9, 0), (0, x3), (0, x4), (9, 0), (9, 0), (9, 0)] [] 136 σ 136 Q := by
  refine E_iload 235 dX12_splits_233 rfl rfl ?_
  refine E_iload_n 236 dX12_splits_235 rfl rfl ?_
  refine E_icmp_ge 239 292 dX12_splits_236 rfl rfl (fun h => ?_) (fun h => ?_)
  · have w := w.1 h
    exact E_vret dX12_splits_292 rfl rfl w
  · have w := w.2 h
    refine E_aload_n 240 dX12_splits_239 rfl (ac_88.bnd) rfl ?_
    refine E_getL 243 dX12_splits_240 fl_X12_129 ac_88 rfl (by decide) lay_88_60 rfl ?_
    refine E_aload_n 244 dX12_splits_243 rfl (ac_88.bnd) rfl ?_
    refine E_getL 247 dX12_splits_244 fl_X12_120 ac_88 rfl (by decide) lay_88_57 rfl ?_
    refine E_iload 249 dX12_splits_247 rfl rfl ?_
    obtain ⟨c1, w⟩ := w
    refine E_iald 250 dX12_splits_249 ac_121 c1 rfl ?_
    obtain ⟨c2, w⟩ := w
    refine E_zald 251 dX12_splits_250 ac_124 c2 rfl ?_
    refine E_if_ne 254 286 dX12_splits_251 rfl rfl (fun h => ?_) (fun h => ?_)
    · have w := w.1 h
      refine E_iinc (ls' := [(2, 88), (9, 0), (9, 0), (0, x3), (0, w32 (x4 + 1)), (9, 0), (9, 0), (9, 0)]) 289 dX12_splits_286 (by decide) rfl rfl rfl ?_
      refine E_goto 233 dX12_splits_289 rfl ?_
      with_reducible exact w
    · have w := w.2 h
      refine E_aload_n 255 dX12_splits_254 rfl (ac_88.bnd) rfl ?_
      refine E_getL 258 dX12_splits_255 fl_X12_117 ac_88 rfl (by decide) lay_88_56 rfl ?_
      refine E_aload_n 259 dX12_splits_258 rfl (ac_88.bnd) rfl ?_
      refine E_getL 262 dX12_splits_259 fl_X12_120 ac_88 rfl (by decide) lay_88_57 rfl ?_
      refine E_iload 264 dX12_splits_262 rfl rfl ?_
      refine E_iald 265 dX12_splits_264 ac_121 c1 rfl ?_
      refine E_aload_n 266 dX12_splits_265 rfl (ac_88.bnd) rfl ?_
      refine E_getL 269 dX12_splits_266 fl_X12_117 ac_88 rfl (by decide) lay_88_56 rfl ?_
      refine E_aload_n 270 dX12_splits_269 rfl (ac_88.bnd) rfl ?_
      refine E_getL 273 dX12_splits_270 fl_X12_120 ac_88 rfl (by decide) lay_88_57 rfl ?_
      refine E_iload 275 dX12_splits_273 rfl rfl ?_
      refine E_iald 276 dX12_splits_275 ac_121 c1 rfl ?_
      refine E_lald 277 dX12_splits_276 ac_120 c2 rfl ?_
      refine E_aload_n 278 dX12_splits_277 rfl (ac_88.bnd) rfl ?_
      refine E_getL 281 dX12_splits_278 fl_X12_123 ac_88 rfl (by decide) lay_88_58 rfl ?_
      refine E_iload 283 dX12_splits_281 rfl rfl ?_
      refine E_lald 284 dX12_splits_283 ac_122 c1 rfl ?_
      refine E_ladd 285 dX12_splits_284 rfl ?_
      refine E_last 286 dX12_splits_285 ac_120 c2 rfl ?_
      refine E_iinc (ls' := [(2, 88), (9, 0), (9, 0), (0, x3), (0, w32 (x4 + 1)), (9, 0), (9, 0), (9, 0)]) 289 dX12_splits_286 (by decide) rfl rfl rfl ?_
      refine E_goto 233 dX12_splits_289 rfl ?_
      with_reducible exact w
theorem B_X12_splits_137 {g : PG} {d : Nat} {σ : PS} {Q : Int → PS → Prop} {x1 x3 x4 x5 : Int}  (w : ((x3 ≤ x5 → ∀ y1, y1 = w32 (2 * x3) → (XX g true (d + 1) P_X12_splits 112 [(2, 88), (0, x1), (9, 0), (0, y1), (0, w32 (x4 + 1)), (9, 0), (9, 0), (9, 0)] [] 136 σ 136 Q)) ∧ (x5 < x3 → (0 ≤ x5 ∧ x5 < 1024) ∧ (0 ≤ x4 ∧ x4 < 10) ∧ ∀ y4, y4 = ldiv (w64 ((σ 122 x5) * (σ 123 x4))) 1000 → (0 ≤ w32 (x3 + x5) ∧ w32 (x3 + x5) < 1024) ∧ (XX g true (d + 1) P_X12_splits 137 [(2, 88), (0, x1), (9, 0), (0, x3), (0, x4), (0, w32 (x5 + 1)), (9, 0), (9, 0)] [] 136 (su (su (su σ 121 (w32 (x3 + x5)) (ior (σ 121 x5) (ishl 1 x4))) 122 (w32 (x3 + x5)) y4) 122 x5 (w64 (((su (su σ 121 (w32 (x3 + x5)) (ior (σ 121 x5) (ishl 1 x4))) 122 (w32 (x3 + x5)) y4) 122 x5) - y4))) 136 Q)))) : XX g true (d + 1) P_X12_splits 137 [(2, 88), (0, x1), (9, 0), (0, x3), (0, x4), (0, x5), (9, 0), (9, 0)] [] 136 σ 136 Q := by
  refine E_iload 139 dX12_splits_137 rfl rfl ?_
  refine E_iload_n 140 dX12_splits_139 rfl rfl ?_
  refine E_icmp_ge 143 220 dX12_splits_140 rfl rfl (fun h => ?_) (fun h => ?_)
  · have w := w.1 h
    refine E_iconst 221 dX12_splits_220 (by decide) rfl ?_
    refine E_iload_n 222 dX12_splits_221 rfl rfl ?_
    refine E_imul 223 dX12_splits_222 rfl ?_
    refine E_top (fun y1 hy1 => ?_)
    have w := w y1 hy1
    refine E_istore_n (ls' := [(2, 88), (0, x1), (9, 0), (0, y1), (0, x4), (0, x5), (9, 0), (9, 0)]) 224 dX12_splits_223 (by decide) rfl rfl ?_
    refine E_iinc (ls' := [(2, 88), (0, x1), (9, 0), (0, y1), (0, w32 (x4 + 1)), (0, x5), (9, 0), (9, 0)]) 227 dX12_splits_224 (by decide) rfl rfl rfl ?_
    refine E_goto 112 dX12_splits_227 rfl ?_
    refine XX.fg [5] [(2, 88), (0, x1), (9, 0), (0, y1), (0, w32 (x4 + 1)), (9, 0), (9, 0), (9, 0)] rfl ?_
    with_reducible exact w
  · have w := w.2 h
    refine E_aload_n 144 dX12_splits_143 rfl (ac_88.bnd) rfl ?_
    refine E_getL 147 dX12_splits_144 fl_X12_123 ac_88 rfl (by decide) lay_88_58 rfl ?_
    refine E_iload 149 dX12_splits_147 rfl rfl ?_
    obtain ⟨c2, w⟩ := w
    refine E_lald 150 dX12_splits_149 ac_122 c2 rfl ?_
    refine E_aload_n 151 dX12_splits_150 rfl (ac_88.bnd) rfl ?_
    refine E_getL 154 dX12_splits_151 fl_X12_126 ac_88 rfl (by decide) lay_88_59 rfl ?_
    refine E_iload 156 dX12_splits_154 rfl rfl ?_
    obtain ⟨c3, w⟩ := w
    refine E_iald 157 dX12_splits_156 ac_123 c3 rfl ?_
    refine E_i2l 158 dX12_splits_157 rfl ?_
    refine E_lmul 159 dX12_splits_158 rfl ?_
    refine E_ldc2_w (x := 1000) 162 dX12_splits_159 mw_1628 (by decide) (by unfold in64; decide) rfl ?_
    refine E_ldiv 163 dX12_splits_162 (by decide) rfl ?_
    refine E_top (fun y4 hy4 => ?_)
    have w := w y4 hy4
    refine E_lstore (ls' := [(2, 88), (0, x1), (9, 0), (0, x3), (0, x4), (0, x5), (1, y4), (9, 0)]) 165 dX12_splits_163 (by decide) rfl rfl ?_
    refine E_aload_n 166 dX12_splits_165 rfl (ac_88.bnd) rfl ?_
    refine E_getL 169 dX12_splits_166 fl_X12_120 ac_88 rfl (by decide) lay_88_57 rfl ?_
    refine E_iload_n 170 dX12_splits_169 rfl rfl ?_
    refine E_iload 172 dX12_splits_170 rfl rfl ?_
    refine E_iadd 173 dX12_splits_172 rfl ?_
    refine E_aload_n 174 dX12_splits_173 rfl (ac_88.bnd) rfl ?_
    refine E_getL 177 dX12_splits_174 fl_X12_120 ac_88 rfl (by decide) lay_88_57 rfl ?_
    refine E_iload 179 dX12_splits_177 rfl rfl ?_
    refine E_iald 180 dX12_splits_179 ac_121 c2 rfl ?_
    refine E_iconst 181 dX12_splits_180 (by decide) rfl ?_
    refine E_iload 183 dX12_splits_181 rfl rfl ?_
    refine E_ishl 184 dX12_splits_183 rfl ?_
    refine E_ior 185 dX12_splits_184 rfl ?_
    obtain ⟨c5, w⟩ := w
    refine E_iast 186 dX12_splits_185 ac_121 c5 rfl ?_
    refine E_aload_n 187 dX12_splits_186 rfl (ac_88.bnd) rfl ?_
    refine E_getL 190 dX12_splits_187 fl_X12_123 ac_88 rfl (by decide) lay_88_58 rfl ?_
    refine E_iload_n 191 dX12_splits_190 rfl rfl ?_
    refine E_iload 193 dX12_splits_191 rfl rfl ?_
    refine E_iadd 194 dX12_splits_193 rfl ?_
    refine E_lload 196 dX12_splits_194 rfl rfl ?_
    refine E_last 197 dX12_splits_196 ac_122 c5 rfl ?_
    refine E_aload_n 198 dX12_splits_197 rfl (ac_88.bnd) rfl ?_
    refine E_getL 201 dX12_splits_198 fl_X12_123 ac_88 rfl (by decide) lay_88_58 rfl ?_
    refine E_iload 203 dX12_splits_201 rfl rfl ?_
    refine E_aload_n 204 dX12_splits_203 rfl (ac_88.bnd) rfl ?_
    refine E_getL 207 dX12_splits_204 fl_X12_123 ac_88 rfl (by decide) lay_88_58 rfl ?_
    refine E_iload 209 dX12_splits_207 rfl rfl ?_
    refine E_lald 210 dX12_splits_209 ac_122 c2 rfl ?_
    refine E_lload 212 dX12_splits_210 rfl rfl ?_
    refine E_lsub 213 dX12_splits_212 rfl ?_
    refine E_last 214 dX12_splits_213 ac_122 c2 rfl ?_
    refine E_iinc (ls' := [(2, 88), (0, x1), (9, 0), (0, x3), (0, x4), (0, w32 (x5 + 1)), (1, y4), (9, 0)]) 217 dX12_splits_214 (by decide) rfl rfl rfl ?_
    refine E_goto 137 dX12_splits_217 rfl ?_
    refine XX.fg [6] [(2, 88), (0, x1), (9, 0), (0, x3), (0, x4), (0, w32 (x5 + 1)), (9, 0), (9, 0)] rfl ?_
    with_reducible exact w
theorem B_X12_aDayAhead_0 {g : PG} {d : Nat} {σ : PS} {Q : Int → PS → Prop} {x1 : Int}  (w : (XX g true (d + 1) P_X12_aDayAhead 2 [(2, 88), (0, x1), (0, 0)] [] 136 σ 136 Q)) : XX g true (d + 1) P_X12_aDayAhead 0 [(2, 88), (0, x1), (9, 0)] [] 136 σ 136 Q := by
  refine E_iconst 1 dX12_aDayAhead_0 (by decide) rfl ?_
  refine E_istore_n (ls' := [(2, 88), (0, x1), (0, 0)]) 2 dX12_aDayAhead_1 (by decide) rfl rfl ?_
  with_reducible exact w
theorem B_X12_aDayAhead_2 {g : PG} {d : Nat} {σ : PS} {Q : Int → PS → Prop} {x1 x2 : Int}  (w : ((ishl 1 (σ 88 2) ≤ x2 → (XX g true (d + 1) P_X12_aDayAhead 27 [(2, 88), (0, x1), (0, 0)] [] 136 σ 136 Q)) ∧ (x2 < ishl 1 (σ 88 2) → (0 ≤ x2 ∧ x2 < 1024) ∧ (XX g true (d + 1) P_X12_aDayAhead 2 [(2, 88), (0, x1), (0, w32 (x2 + 1))] [] 136 (su σ 120 x2 0) 136 Q)))) : XX g true (d + 1) P_X12_aDayAhead 2 [(2, 88), (0, x1), (0, x2)] [] 136 σ 136 Q := by
  refine E_iload_n 3 dX12_aDayAhead_2 rfl rfl ?_
  refine E_iconst 4 dX12_aDayAhead_3 (by decide) rfl ?_
  refine E_aload_n 5 dX12_aDayAhead_4 rfl (ac_88.bnd) rfl ?_
  refine E_get 2 8 dX12_aDayAhead_5 fl_X12_7 ac_88 rfl (by decide) rfl rfl ?_
  refine E_ishl 9 dX12_aDayAhead_8 rfl ?_
  refine E_icmp_ge 12 25 dX12_aDayAhead_9 rfl rfl (fun h => ?_) (fun h => ?_)
  · have w := w.1 h
    refine E_iconst 26 dX12_aDayAhead_25 (by decide) rfl ?_
    refine E_istore_n (ls' := [(2, 88), (0, x1), (0, 0)]) 27 dX12_aDayAhead_26 (by decide) rfl rfl ?_
    with_reducible exact w
  · have w := w.2 h
    refine E_aload_n 13 dX12_aDayAhead_12 rfl (ac_88.bnd) rfl ?_
    refine E_getL 16 dX12_aDayAhead_13 fl_X12_117 ac_88 rfl (by decide) lay_88_56 rfl ?_
    refine E_iload_n 17 dX12_aDayAhead_16 rfl rfl ?_
    refine E_lconst (x := 0) 18 dX12_aDayAhead_17 rfl rfl ?_
    obtain ⟨c1, w⟩ := w
    refine E_last 19 dX12_aDayAhead_18 ac_120 c1 rfl ?_
    refine E_iinc (ls' := [(2, 88), (0, x1), (0, w32 (x2 + 1))]) 22 dX12_aDayAhead_19 (by decide) rfl rfl rfl ?_
    refine E_goto 2 dX12_aDayAhead_22 rfl ?_
    with_reducible exact w
theorem B_X12_aDayAhead_27 {g : PG} {d : Nat} {σ : PS} {Q : Int → PS → Prop} {x1 x2 : Int}  (w : ((ishl 1 (σ 88 2) ≤ x2 → (XX g true (d + 1) P_X12_aDayAhead 62 [(2, 88), (9, 0), (0, 0)] [] 136 σ 136 Q)) ∧ (x2 < ishl 1 (σ 88 2) → (0 ≤ x2 ∧ x2 < 1024) ∧ ((σ 119 x2 ≤ 0 → (XX g true (d + 1) P_X12_aDayAhead 27 [(2, 88), (0, x1), (0, w32 (x2 + 1))] [] 136 σ 136 Q)) ∧ (0 < σ 119 x2 → XX g true d P_X12_splits 0 [(2, 88), (0, x2), (0, x1), (9, 0), (9, 0), (9, 0), (9, 0), (9, 0)] [] 136 σ 136 (fun _ σ2 => (XX g true (d + 1) P_X12_aDayAhead 27 [(2, 88), (0, x1), (0, w32 (x2 + 1))] [] 136 σ2 136 Q))))))) : XX g true (d + 1) P_X12_aDayAhead 27 [(2, 88), (0, x1), (0, x2)] [] 136 σ 136 Q := by
  refine E_iload_n 28 dX12_aDayAhead_27 rfl rfl ?_
  refine E_iconst 29 dX12_aDayAhead_28 (by decide) rfl ?_
  refine E_aload_n 30 dX12_aDayAhead_29 rfl (ac_88.bnd) rfl ?_
  refine E_get 2 33 dX12_aDayAhead_30 fl_X12_7 ac_88 rfl (by decide) rfl rfl ?_
  refine E_ishl 34 dX12_aDayAhead_33 rfl ?_
  refine E_icmp_ge 37 60 dX12_aDayAhead_34 rfl rfl (fun h => ?_) (fun h => ?_)
  · have w := w.1 h
    refine E_iconst 61 dX12_aDayAhead_60 (by decide) rfl ?_
    refine E_istore_n (ls' := [(2, 88), (0, x1), (0, 0)]) 62 dX12_aDayAhead_61 (by decide) rfl rfl ?_
    refine XX.fg [1] [(2, 88), (9, 0), (0, 0)] rfl ?_
    with_reducible exact w
  · have w := w.2 h
    refine E_aload_n 38 dX12_aDayAhead_37 rfl (ac_88.bnd) rfl ?_
    refine E_getL 41 dX12_aDayAhead_38 fl_X12_114 ac_88 rfl (by decide) lay_88_55 rfl ?_
    refine E_iload_n 42 dX12_aDayAhead_41 rfl rfl ?_
    obtain ⟨c1, w⟩ := w
    refine E_lald 43 dX12_aDayAhead_42 ac_119 c1 rfl ?_
    refine E_lconst (x := 0) 44 dX12_aDayAhead_43 rfl rfl ?_
    refine E_lcmp 45 dX12_aDayAhead_44 rfl ?_
    refine E_if_le 48 54 dX12_aDayAhead_45 rfl rfl (fun h => ?_) (fun h => ?_)
    · have w := w.1 ((lc_le _ _).mp h)
      refine E_iinc (ls' := [(2, 88), (0, x1), (0, w32 (x2 + 1))]) 57 dX12_aDayAhead_54 (by decide) rfl rfl rfl ?_
      refine E_goto 27 dX12_aDayAhead_57 rfl ?_
      with_reducible exact w
    · have w := w.2 ((lc_gt _ _).mp h)
      refine E_aload_n 49 dX12_aDayAhead_48 rfl (ac_88.bnd) rfl ?_
      refine E_iload_n 50 dX12_aDayAhead_49 rfl rfl ?_
      refine E_iload_n 51 dX12_aDayAhead_50 rfl rfl ?_
      refine E_callV (as := [(0, x2), (0, x1)]) 54 dX12_aDayAhead_51 cf_X12_splits mw_1646 mw_1648 mw_95 ac_88 (by decide) cl_X12 rfl rfl (Nat.le_of_ble_eq_true rfl) (Nat.le_of_ble_eq_true rfl) ⟨Nat.le_refl _, Nat.le_refl _⟩ rfl (w.mono (fun r3 σ2 w => ?_))
      show XX g true (d + 1) P_X12_aDayAhead 54 [(2, 88), (0, x1), (0, x2)] [] 136 σ2 136 Q
      refine E_iinc (ls' := [(2, 88), (0, x1), (0, w32 (x2 + 1))]) 57 dX12_aDayAhead_54 (by decide) rfl rfl rfl ?_
      refine E_goto 27 dX12_aDayAhead_57 rfl ?_
      with_reducible exact w
theorem B_X12_aDayAhead_62 {g : PG} {d : Nat} {σ : PS} {Q : Int → PS → Prop} {x2 : Int}  (w : ((ishl 1 (σ 88 2) ≤ x2 → Q 0 σ) ∧ (x2 < ishl 1 (σ 88 2) → (0 ≤ x2 ∧ x2 < 1024) ∧ (XX g true (d + 1) P_X12_aDayAhead 62 [(2, 88), (9, 0), (0, w32 (x2 + 1))] [] 136 (su σ 119 x2 (σ 120 x2)) 136 Q)))) : XX g true (d + 1) P_X12_aDayAhead 62 [(2, 88), (9, 0), (0, x2)] [] 136 σ 136 Q := by
  refine E_iload_n 63 dX12_aDayAhead_62 rfl rfl ?_
  refine E_iconst 64 dX12_aDayAhead_63 (by decide) rfl ?_
  refine E_aload_n 65 dX12_aDayAhead_64 rfl (ac_88.bnd) rfl ?_
  refine E_get 2 68 dX12_aDayAhead_65 fl_X12_7 ac_88 rfl (by decide) rfl rfl ?_
  refine E_ishl 69 dX12_aDayAhead_68 rfl ?_
  refine E_icmp_ge 72 90 dX12_aDayAhead_69 rfl rfl (fun h => ?_) (fun h => ?_)
  · have w := w.1 h
    exact E_vret dX12_aDayAhead_90 rfl rfl w
  · have w := w.2 h
    refine E_aload_n 73 dX12_aDayAhead_72 rfl (ac_88.bnd) rfl ?_
    refine E_getL 76 dX12_aDayAhead_73 fl_X12_114 ac_88 rfl (by decide) lay_88_55 rfl ?_
    refine E_iload_n 77 dX12_aDayAhead_76 rfl rfl ?_
    refine E_aload_n 78 dX12_aDayAhead_77 rfl (ac_88.bnd) rfl ?_
    refine E_getL 81 dX12_aDayAhead_78 fl_X12_117 ac_88 rfl (by decide) lay_88_56 rfl ?_
    refine E_iload_n 82 dX12_aDayAhead_81 rfl rfl ?_
    obtain ⟨c1, w⟩ := w
    refine E_lald 83 dX12_aDayAhead_82 ac_120 c1 rfl ?_
    refine E_last 84 dX12_aDayAhead_83 ac_119 c1 rfl ?_
    refine E_iinc (ls' := [(2, 88), (9, 0), (0, w32 (x2 + 1))]) 87 dX12_aDayAhead_84 (by decide) rfl rfl rfl ?_
    refine E_goto 62 dX12_aDayAhead_87 rfl ?_
    with_reducible exact w
theorem B_X12_leftNow_0 {g : PG} {d : Nat} {σ : PS} {Q : Int → PS → Prop}  (w : (XX g true d P_X12_leftNow 4 [(2, 88), (1, 0), (9, 0), (0, 0)] [] 136 σ 136 Q)) : XX g true d P_X12_leftNow 0 [(2, 88), (9, 0), (9, 0), (9, 0)] [] 136 σ 136 Q := by
  refine E_lconst (x := 0) 1 dX12_leftNow_0 rfl rfl ?_
  refine E_lstore_n (ls' := [(2, 88), (1, 0), (9, 0), (9, 0)]) 2 dX12_leftNow_1 (by decide) rfl rfl ?_
  refine E_iconst 3 dX12_leftNow_2 (by decide) rfl ?_
  refine E_istore_n (ls' := [(2, 88), (1, 0), (9, 0), (0, 0)]) 4 dX12_leftNow_3 (by decide) rfl rfl ?_
  with_reducible exact w
theorem B_X12_leftNow_4 {g : PG} {d : Nat} {σ : PS} {Q : Int → PS → Prop} {x1 x3 : Int}  (w : ((ishl 1 (σ 88 2) ≤ x3 → Q x1 σ) ∧ (x3 < ishl 1 (σ 88 2) → (0 ≤ x3 ∧ x3 < 1024) ∧ ∀ y2, y2 = w64 (x1 + (σ 119 x3)) → (XX g true d P_X12_leftNow 4 [(2, 88), (1, y2), (9, 0), (0, w32 (x3 + 1))] [] 136 σ 136 Q)))) : XX g true d P_X12_leftNow 4 [(2, 88), (1, x1), (9, 0), (0, x3)] [] 136 σ 136 Q := by
  refine E_iload_n 5 dX12_leftNow_4 rfl rfl ?_
  refine E_iconst 6 dX12_leftNow_5 (by decide) rfl ?_
  refine E_aload_n 7 dX12_leftNow_6 rfl (ac_88.bnd) rfl ?_
  refine E_get 2 10 dX12_leftNow_7 fl_X12_7 ac_88 rfl (by decide) rfl rfl ?_
  refine E_ishl 11 dX12_leftNow_10 rfl ?_
  refine E_icmp_ge 14 29 dX12_leftNow_11 rfl rfl (fun h => ?_) (fun h => ?_)
  · have w := w.1 h
    refine E_lload_n 30 dX12_leftNow_29 rfl rfl ?_
    exact E_lret dX12_leftNow_30 rfl rfl w
  · have w := w.2 h
    refine E_lload_n 15 dX12_leftNow_14 rfl rfl ?_
    refine E_aload_n 16 dX12_leftNow_15 rfl (ac_88.bnd) rfl ?_
    refine E_getL 19 dX12_leftNow_16 fl_X12_114 ac_88 rfl (by decide) lay_88_55 rfl ?_
    refine E_iload_n 20 dX12_leftNow_19 rfl rfl ?_
    obtain ⟨c1, w⟩ := w
    refine E_lald 21 dX12_leftNow_20 ac_119 c1 rfl ?_
    refine E_ladd 22 dX12_leftNow_21 rfl ?_
    refine E_top (fun y2 hy2 => ?_)
    have w := w y2 hy2
    refine E_lstore_n (ls' := [(2, 88), (1, y2), (9, 0), (0, x3)]) 23 dX12_leftNow_22 (by decide) rfl rfl ?_
    refine E_iinc (ls' := [(2, 88), (1, y2), (9, 0), (0, w32 (x3 + 1))]) 26 dX12_leftNow_23 (by decide) rfl rfl rfl ?_
    refine E_goto 4 dX12_leftNow_26 rfl ?_
    with_reducible exact w
theorem B_X12_left_0 {g : PG} {d : Nat} {σ : PS} {Q : Int → PS → Prop} {x1 : Int}  (w : ((10 < σ 88 2 → Q (-1) (su σ 88 0 0)) ∧ (σ 88 2 ≤ 10 → XX g true d P_X12_isIn 0 [(2, 88), (0, x1), (0, 0), (0, 60)] [] 136 (su σ 88 0 0) 136 (fun r2 σ1 => ((r2 ≠ 0 → XX g true d P_X12_beginsAhead 0 [(2, 88), (9, 0), (9, 0)] [] 136 σ1 136 (fun _ σ3 => (XX g true (d + 1) P_X12_left 35 [(2, 88), (0, x1), (0, 0)] [] 136 σ3 136 Q))) ∧ (r2 = 0 → Q (-1) σ1)))))) : XX g true (d + 1) P_X12_left 0 [(2, 88), (0, x1), (9, 0)] [] 136 σ 136 Q := by
  refine E_aload_n 1 dX12_left_0 rfl (ac_88.bnd) rfl ?_
  refine E_iconst 2 dX12_left_1 (by decide) rfl ?_
  refine E_putI 0 5 dX12_left_2 fl_X12_166 ac_88 rfl (by decide) (Or.inl rfl) rfl rfl ?_
  refine E_aload_n 6 dX12_left_5 rfl (ac_88.bnd) rfl ?_
  refine E_get 2 9 dX12_left_6 fl_X12_7 ac_88 rfl (by decide) rfl rfl ?_
  refine E_conv (su_ne (Or.inr (by decide))) ?_
  refine E_bipush 11 dX12_left_9 (by decide) rfl ?_
  refine E_icmp_gt 14 25 dX12_left_11 rfl rfl (fun h => ?_) (fun h => ?_)
  · have w := w.1 h
    refine E_ldc2_w (x := (-1)) 28 dX12_left_25 mw_1629 (by decide) (by unfold in64; decide) rfl ?_
    exact E_lret dX12_left_28 rfl rfl w
  · have w := w.2 h
    refine E_aload_n 15 dX12_left_14 rfl (ac_88.bnd) rfl ?_
    refine E_iload_n 16 dX12_left_15 rfl rfl ?_
    refine E_iconst 17 dX12_left_16 (by decide) rfl ?_
    refine E_bipush 19 dX12_left_17 (by decide) rfl ?_
    refine E_callV (as := [(0, x1), (0, 0), (0, 60)]) 22 dX12_left_19 cf_X12_isIn mw_1363 mw_1365 mw_39 ac_88 (by decide) cl_X12 rfl rfl (Nat.le_of_ble_eq_true rfl) (Nat.le_of_ble_eq_true rfl) ⟨Nat.le_refl _, Nat.le_refl _⟩ rfl (w.mono (fun r2 σ1 w => ?_))
    show XX g true (d + 1) P_X12_left 22 [(2, 88), (0, x1), (9, 0)] [(0, r2)] 136 σ1 136 Q
    refine E_if_ne 25 29 dX12_left_22 rfl rfl (fun h => ?_) (fun h => ?_)
    · have w := w.1 h
      refine E_aload_n 30 dX12_left_29 rfl (ac_88.bnd) rfl ?_
      refine E_callV (as := []) 33 dX12_left_30 cf_X12_beginsAhead mw_1634 mw_1636 mw_92 ac_88 (by decide) cl_X12 rfl rfl (Nat.le_of_ble_eq_true rfl) (Nat.le_of_ble_eq_true rfl) ⟨Nat.le_refl _, Nat.le_refl _⟩ rfl (w.mono (fun r4 σ3 w => ?_))
      show XX g true (d + 1) P_X12_left 33 [(2, 88), (0, x1), (9, 0)] [] 136 σ3 136 Q
      refine E_iconst 34 dX12_left_33 (by decide) rfl ?_
      refine E_istore_n (ls' := [(2, 88), (0, x1), (0, 0)]) 35 dX12_left_34 (by decide) rfl rfl ?_
      with_reducible exact w
    · have w := w.2 h
      refine E_ldc2_w (x := (-1)) 28 dX12_left_25 mw_1629 (by decide) (by unfold in64; decide) rfl ?_
      exact E_lret dX12_left_28 rfl rfl w
theorem B_X12_left_35 {g : PG} {d : Nat} {σ : PS} {Q : Int → PS → Prop} {x1 x2 : Int}  (w : ((x1 ≤ x2 → XX g true d P_X12_leftNow 0 [(2, 88), (9, 0), (9, 0), (9, 0)] [] 136 σ 136 (fun r2 σ1 => Q r2 σ1)) ∧ (x2 < x1 → XX g true d P_X12_aDayAhead 0 [(2, 88), (0, x2), (9, 0)] [] 136 σ 136 (fun _ σ3 => (XX g true (d + 1) P_X12_left 35 [(2, 88), (0, x1), (0, w32 (x2 + 1))] [] 136 σ3 136 Q))))) : XX g true (d + 1) P_X12_left 35 [(2, 88), (0, x1), (0, x2)] [] 136 σ 136 Q := by
  refine E_iload_n 36 dX12_left_35 rfl rfl ?_
  refine E_iload_n 37 dX12_left_36 rfl rfl ?_
  refine E_icmp_ge 40 51 dX12_left_37 rfl rfl (fun h => ?_) (fun h => ?_)
  · have w := w.1 h
    refine E_aload_n 52 dX12_left_51 rfl (ac_88.bnd) rfl ?_
    refine E_callV (as := []) 55 dX12_left_52 cf_X12_leftNow mw_1650 mw_1652 mw_96 ac_88 (by decide) cl_X12 rfl rfl (Nat.le_of_ble_eq_true rfl) (Nat.le_of_ble_eq_true rfl) ⟨Nat.le_refl _, Nat.le_refl _⟩ rfl (w.mono (fun r2 σ1 w => ?_))
    show XX g true (d + 1) P_X12_left 55 [(2, 88), (0, x1), (0, x2)] [(1, r2)] 136 σ1 136 Q
    exact E_lret dX12_left_55 rfl rfl w
  · have w := w.2 h
    refine E_aload_n 41 dX12_left_40 rfl (ac_88.bnd) rfl ?_
    refine E_iload_n 42 dX12_left_41 rfl rfl ?_
    refine E_callV (as := [(0, x2)]) 45 dX12_left_42 cf_X12_aDayAhead mw_1642 mw_1644 mw_94 ac_88 (by decide) cl_X12 rfl rfl (Nat.le_of_ble_eq_true rfl) (Nat.le_of_ble_eq_true rfl) ⟨Nat.le_refl _, Nat.le_refl _⟩ rfl (w.mono (fun r4 σ3 w => ?_))
    show XX g true (d + 1) P_X12_left 45 [(2, 88), (0, x1), (0, x2)] [] 136 σ3 136 Q
    refine E_iinc (ls' := [(2, 88), (0, x1), (0, w32 (x2 + 1))]) 48 dX12_left_45 (by decide) rfl rfl rfl ?_
    refine E_goto 35 dX12_left_48 rfl ?_
    with_reducible exact w
theorem B_X12_lasts_0 {g : PG} {d : Nat} {σ : PS} {Q : Int → PS → Prop}  (w : XX g true d P_X12_beginsAhead 0 [(2, 88), (9, 0), (9, 0)] [] 136 σ 136 (fun _ σ1 => (XX g true (d + 1) P_X12_lasts 8 [(2, 88), (1, 0), (9, 0), (0, 0)] [] 136 σ1 136 Q))) : XX g true (d + 1) P_X12_lasts 0 [(2, 88), (9, 0), (9, 0), (9, 0)] [] 136 σ 136 Q := by
  refine E_aload_n 1 dX12_lasts_0 rfl (ac_88.bnd) rfl ?_
  refine E_callV (as := []) 4 dX12_lasts_1 cf_X12_beginsAhead mw_1634 mw_1636 mw_92 ac_88 (by decide) cl_X12 rfl rfl (Nat.le_of_ble_eq_true rfl) (Nat.le_of_ble_eq_true rfl) ⟨Nat.le_refl _, Nat.le_refl _⟩ rfl (w.mono (fun r2 σ1 w => ?_))
  show XX g true (d + 1) P_X12_lasts 4 [(2, 88), (9, 0), (9, 0), (9, 0)] [] 136 σ1 136 Q
  refine E_lconst (x := 0) 5 dX12_lasts_4 rfl rfl ?_
  refine E_lstore_n (ls' := [(2, 88), (1, 0), (9, 0), (9, 0)]) 6 dX12_lasts_5 (by decide) rfl rfl ?_
  refine E_iconst 7 dX12_lasts_6 (by decide) rfl ?_
  refine E_istore_n (ls' := [(2, 88), (1, 0), (9, 0), (0, 0)]) 8 dX12_lasts_7 (by decide) rfl rfl ?_
  with_reducible exact w
theorem B_X12_lasts_8 {g : PG} {d : Nat} {σ : PS} {Q : Int → PS → Prop} {x1 x3 : Int}  (w : ((60 ≤ x3 → Q (l2i (ldiv (w64 (x1 * 1000)) 1000000000000)) σ) ∧ (x3 < 60 → XX g true d P_X12_leftNow 0 [(2, 88), (9, 0), (9, 0), (9, 0)] [] 136 σ 136 (fun r2 σ1 => ∀ y3, y3 = w64 (x1 + r2) → XX g true d P_X12_aDayAhead 0 [(2, 88), (0, x3), (9, 0)] [] 136 σ1 136 (fun _ σ4 => (XX g true (d + 1) P_X12_lasts 8 [(2, 88), (1, y3), (9, 0), (0, w32 (x3 + 1))] [] 136 σ4 136 Q)))))) : XX g true (d + 1) P_X12_lasts 8 [(2, 88), (1, x1), (9, 0), (0, x3)] [] 136 σ 136 Q := by
  refine E_iload_n 9 dX12_lasts_8 rfl rfl ?_
  refine E_bipush 11 dX12_lasts_9 (by decide) rfl ?_
  refine E_icmp_ge 14 32 dX12_lasts_11 rfl rfl (fun h => ?_) (fun h => ?_)
  · have w := w.1 h
    refine E_lload_n 33 dX12_lasts_32 rfl rfl ?_
    refine E_ldc2_w (x := 1000) 36 dX12_lasts_33 mw_1628 (by decide) (by unfold in64; decide) rfl ?_
    refine E_lmul 37 dX12_lasts_36 rfl ?_
    refine E_ldc2_w (x := 1000000000000) 40 dX12_lasts_37 mw_1627 (by decide) (by unfold in64; decide) rfl ?_
    refine E_ldiv 41 dX12_lasts_40 (by decide) rfl ?_
    refine E_l2i 42 dX12_lasts_41 rfl ?_
    exact E_iret dX12_lasts_42 rfl rfl w
  · have w := w.2 h
    refine E_lload_n 15 dX12_lasts_14 rfl rfl ?_
    refine E_aload_n 16 dX12_lasts_15 rfl (ac_88.bnd) rfl ?_
    refine E_callV (as := []) 19 dX12_lasts_16 cf_X12_leftNow mw_1650 mw_1652 mw_96 ac_88 (by decide) cl_X12 rfl rfl (Nat.le_of_ble_eq_true rfl) (Nat.le_of_ble_eq_true rfl) ⟨Nat.le_refl _, Nat.le_refl _⟩ rfl (w.mono (fun r2 σ1 w => ?_))
    show XX g true (d + 1) P_X12_lasts 19 [(2, 88), (1, x1), (9, 0), (0, x3)] [(1, r2), (1, x1)] 136 σ1 136 Q
    refine E_ladd 20 dX12_lasts_19 rfl ?_
    refine E_top (fun y3 hy3 => ?_)
    have w := w y3 hy3
    refine E_lstore_n (ls' := [(2, 88), (1, y3), (9, 0), (0, x3)]) 21 dX12_lasts_20 (by decide) rfl rfl ?_
    refine E_aload_n 22 dX12_lasts_21 rfl (ac_88.bnd) rfl ?_
    refine E_iload_n 23 dX12_lasts_22 rfl rfl ?_
    refine E_callV (as := [(0, x3)]) 26 dX12_lasts_23 cf_X12_aDayAhead mw_1642 mw_1644 mw_94 ac_88 (by decide) cl_X12 rfl rfl (Nat.le_of_ble_eq_true rfl) (Nat.le_of_ble_eq_true rfl) ⟨Nat.le_refl _, Nat.le_refl _⟩ rfl (w.mono (fun r5 σ4 w => ?_))
    show XX g true (d + 1) P_X12_lasts 26 [(2, 88), (1, y3), (9, 0), (0, x3)] [] 136 σ4 136 Q
    refine E_iinc (ls' := [(2, 88), (1, y3), (9, 0), (0, w32 (x3 + 1))]) 29 dX12_lasts_26 (by decide) rfl rfl rfl ?_
    refine E_goto 8 dX12_lasts_29 rfl ?_
    with_reducible exact w
theorem B_X12_ahead_0 {g : PG} {d : Nat} {σ : PS} {Q : Int → PS → Prop} {x1 x2 : Int}  (w : ((10 < σ 88 2 → Q (-1) (su σ 88 0 0)) ∧ (σ 88 2 ≤ 10 → XX g true d P_X12_isIn 0 [(2, 88), (0, x1), (0, 0), (0, 1)] [] 136 (su σ 88 0 0) 136 (fun r2 σ1 => ((r2 ≠ 0 → ((x1 ≠ 0 → XX g true d P_X12_isIn 0 [(2, 88), (0, x2), (0, 0), (0, 60)] [] 136 σ1 136 (fun r4 σ3 => ((r4 ≠ 0 → XX g true d P_X12_beginsAhead 0 [(2, 88), (9, 0), (9, 0)] [] 136 σ3 136 (fun _ σ5 => (XX g true (d + 1) P_X12_ahead 54 [(2, 88), (9, 0), (0, x2), (0, 0), (9, 0)] [] 136 σ5 136 Q))) ∧ (r4 = 0 → Q (-1) σ3)))) ∧ (x1 = 0 → XX g true d P_X12_lasts 0 [(2, 88), (9, 0), (9, 0), (9, 0)] [] 136 σ1 136 (fun r8 σ7 => Q r8 σ7)))) ∧ (r2 = 0 → Q (-1) σ1)))))) : XX g true (d + 1) P_X12_ahead 0 [(2, 88), (0, x1), (0, x2), (9, 0), (9, 0)] [] 136 σ 136 Q := by
  refine E_aload_n 1 dX12_ahead_0 rfl (ac_88.bnd) rfl ?_
  refine E_iconst 2 dX12_ahead_1 (by decide) rfl ?_
  refine E_putI 0 5 dX12_ahead_2 fl_X12_166 ac_88 rfl (by decide) (Or.inl rfl) rfl rfl ?_
  refine E_aload_n 6 dX12_ahead_5 rfl (ac_88.bnd) rfl ?_
  refine E_get 2 9 dX12_ahead_6 fl_X12_7 ac_88 rfl (by decide) rfl rfl ?_
  refine E_conv (su_ne (Or.inr (by decide))) ?_
  refine E_bipush 11 dX12_ahead_9 (by decide) rfl ?_
  refine E_icmp_gt 14 24 dX12_ahead_11 rfl rfl (fun h => ?_) (fun h => ?_)
  · have w := w.1 h
    refine E_iconst 25 dX12_ahead_24 (by decide) rfl ?_
    exact E_iret dX12_ahead_25 rfl rfl w
  · have w := w.2 h
    refine E_aload_n 15 dX12_ahead_14 rfl (ac_88.bnd) rfl ?_
    refine E_iload_n 16 dX12_ahead_15 rfl rfl ?_
    refine E_iconst 17 dX12_ahead_16 (by decide) rfl ?_
    refine E_iconst 18 dX12_ahead_17 (by decide) rfl ?_
    refine E_callV (as := [(0, x1), (0, 0), (0, 1)]) 21 dX12_ahead_18 cf_X12_isIn mw_1363 mw_1365 mw_39 ac_88 (by decide) cl_X12 rfl rfl (Nat.le_of_ble_eq_true rfl) (Nat.le_of_ble_eq_true rfl) ⟨Nat.le_refl _, Nat.le_refl _⟩ rfl (w.mono (fun r2 σ1 w => ?_))
    show XX g true (d + 1) P_X12_ahead 21 [(2, 88), (0, x1), (0, x2), (9, 0), (9, 0)] [(0, r2)] 136 σ1 136 Q
    refine E_if_ne 24 26 dX12_ahead_21 rfl rfl (fun h => ?_) (fun h => ?_)
    · have w := w.1 h
      refine E_iload_n 27 dX12_ahead_26 rfl rfl ?_
      refine E_if_ne 30 35 dX12_ahead_27 rfl rfl (fun h => ?_) (fun h => ?_)
      · have w := w.1 h
        refine E_aload_n 36 dX12_ahead_35 rfl (ac_88.bnd) rfl ?_
        refine E_iload_n 37 dX12_ahead_36 rfl rfl ?_
        refine E_iconst 38 dX12_ahead_37 (by decide) rfl ?_
        refine E_bipush 40 dX12_ahead_38 (by decide) rfl ?_
        refine E_callV (as := [(0, x2), (0, 0), (0, 60)]) 43 dX12_ahead_40 cf_X12_isIn mw_1363 mw_1365 mw_39 ac_88 (by decide) cl_X12 rfl rfl (Nat.le_of_ble_eq_true rfl) (Nat.le_of_ble_eq_true rfl) ⟨Nat.le_refl _, Nat.le_refl _⟩ rfl (w.mono (fun r4 σ3 w => ?_))
        show XX g true (d + 1) P_X12_ahead 43 [(2, 88), (0, x1), (0, x2), (9, 0), (9, 0)] [(0, r4)] 136 σ3 136 Q
        refine E_if_ne 46 48 dX12_ahead_43 rfl rfl (fun h => ?_) (fun h => ?_)
        · have w := w.1 h
          refine E_aload_n 49 dX12_ahead_48 rfl (ac_88.bnd) rfl ?_
          refine E_callV (as := []) 52 dX12_ahead_49 cf_X12_beginsAhead mw_1634 mw_1636 mw_92 ac_88 (by decide) cl_X12 rfl rfl (Nat.le_of_ble_eq_true rfl) (Nat.le_of_ble_eq_true rfl) ⟨Nat.le_refl _, Nat.le_refl _⟩ rfl (w.mono (fun r6 σ5 w => ?_))
          show XX g true (d + 1) P_X12_ahead 52 [(2, 88), (0, x1), (0, x2), (9, 0), (9, 0)] [] 136 σ5 136 Q
          refine E_iconst 53 dX12_ahead_52 (by decide) rfl ?_
          refine E_istore_n (ls' := [(2, 88), (0, x1), (0, x2), (0, 0), (9, 0)]) 54 dX12_ahead_53 (by decide) rfl rfl ?_
          refine XX.fg [1] [(2, 88), (9, 0), (0, x2), (0, 0), (9, 0)] rfl ?_
          with_reducible exact w
        · have w := w.2 h
          refine E_iconst 47 dX12_ahead_46 (by decide) rfl ?_
          exact E_iret dX12_ahead_47 rfl rfl w
      · have w := w.2 h
        refine E_aload_n 31 dX12_ahead_30 rfl (ac_88.bnd) rfl ?_
        refine E_callV (as := []) 34 dX12_ahead_31 cf_X12_lasts mw_1658 mw_1660 mw_97 ac_88 (by decide) cl_X12 rfl rfl (Nat.le_of_ble_eq_true rfl) (Nat.le_of_ble_eq_true rfl) ⟨Nat.le_refl _, Nat.le_refl _⟩ rfl (w.mono (fun r8 σ7 w => ?_))
        show XX g true (d + 1) P_X12_ahead 34 [(2, 88), (0, x1), (0, x2), (9, 0), (9, 0)] [(0, r8)] 136 σ7 136 Q
        exact E_iret dX12_ahead_34 rfl rfl w
    · have w := w.2 h
      refine E_iconst 25 dX12_ahead_24 (by decide) rfl ?_
      exact E_iret dX12_ahead_25 rfl rfl w
theorem B_X12_ahead_54 {g : PG} {d : Nat} {σ : PS} {Q : Int → PS → Prop} {x2 x3 : Int}  (w : ((x2 ≤ x3 → (XX g true (d + 1) P_X12_ahead 75 [(2, 88), (9, 0), (9, 0), (0, (-1)), (0, 0)] [] 136 σ 136 Q)) ∧ (x3 < x2 → XX g true d P_X12_aDayAhead 0 [(2, 88), (0, x3), (9, 0)] [] 136 σ 136 (fun _ σ1 => (XX g true (d + 1) P_X12_ahead 54 [(2, 88), (9, 0), (0, x2), (0, w32 (x3 + 1)), (9, 0)] [] 136 σ1 136 Q))))) : XX g true (d + 1) P_X12_ahead 54 [(2, 88), (9, 0), (0, x2), (0, x3), (9, 0)] [] 136 σ 136 Q := by
  refine E_iload_n 55 dX12_ahead_54 rfl rfl ?_
  refine E_iload_n 56 dX12_ahead_55 rfl rfl ?_
  refine E_icmp_ge 59 70 dX12_ahead_56 rfl rfl (fun h => ?_) (fun h => ?_)
  · have w := w.1 h
    refine E_iconst 71 dX12_ahead_70 (by decide) rfl ?_
    refine E_istore_n (ls' := [(2, 88), (9, 0), (0, x2), (0, (-1)), (9, 0)]) 72 dX12_ahead_71 (by decide) rfl rfl ?_
    refine E_iconst 73 dX12_ahead_72 (by decide) rfl ?_
    refine E_istore (ls' := [(2, 88), (9, 0), (0, x2), (0, (-1)), (0, 0)]) 75 dX12_ahead_73 (by decide) rfl rfl ?_
    refine XX.fg [2] [(2, 88), (9, 0), (9, 0), (0, (-1)), (0, 0)] rfl ?_
    with_reducible exact w
  · have w := w.2 h
    refine E_aload_n 60 dX12_ahead_59 rfl (ac_88.bnd) rfl ?_
    refine E_iload_n 61 dX12_ahead_60 rfl rfl ?_
    refine E_callV (as := [(0, x3)]) 64 dX12_ahead_61 cf_X12_aDayAhead mw_1642 mw_1644 mw_94 ac_88 (by decide) cl_X12 rfl rfl (Nat.le_of_ble_eq_true rfl) (Nat.le_of_ble_eq_true rfl) ⟨Nat.le_refl _, Nat.le_refl _⟩ rfl (w.mono (fun r2 σ1 w => ?_))
    show XX g true (d + 1) P_X12_ahead 64 [(2, 88), (9, 0), (0, x2), (0, x3), (9, 0)] [] 136 σ1 136 Q
    refine E_iinc (ls' := [(2, 88), (9, 0), (0, x2), (0, w32 (x3 + 1)), (9, 0)]) 67 dX12_ahead_64 (by decide) rfl rfl rfl ?_
    refine E_goto 54 dX12_ahead_67 rfl ?_
    with_reducible exact w
theorem B_X12_ahead_75 {g : PG} {d : Nat} {σ : PS} {Q : Int → PS → Prop} {x3 x4 : Int}  (w : ((ishl 1 (σ 88 2) ≤ x4 → Q x3 σ) ∧ (x4 < ishl 1 (σ 88 2) → (0 ≤ x4 ∧ x4 < 1024) ∧ ((σ 119 x4 ≤ 0 → (XX g true (d + 1) P_X12_ahead 75 [(2, 88), (9, 0), (9, 0), (0, x3), (0, w32 (x4 + 1))] [] 136 σ 136 Q)) ∧ (0 < σ 119 x4 → ((x3 = (-1) → (XX g true (d + 1) P_X12_ahead 75 [(2, 88), (9, 0), (9, 0), (0, x4), (0, w32 (x4 + 1))] [] 136 σ 136 Q)) ∧ (x3 ≠ (-1) → (0 ≤ x3 ∧ x3 < 1024) ∧ ((σ 119 x4 ≤ σ 119 x3 → (XX g true (d + 1) P_X12_ahead 75 [(2, 88), (9, 0), (9, 0), (0, x3), (0, w32 (x4 + 1))] [] 136 σ 136 Q)) ∧ (σ 119 x3 < σ 119 x4 → (XX g true (d + 1) P_X12_ahead 75 [(2, 88), (9, 0), (9, 0), (0, x4), (0, w32 (x4 + 1))] [] 136 σ 136 Q)))))))))) : XX g true (d + 1) P_X12_ahead 75 [(2, 88), (9, 0), (9, 0), (0, x3), (0, x4)] [] 136 σ 136 Q := by
  refine E_iload 77 dX12_ahead_75 rfl rfl ?_
  refine E_iconst 78 dX12_ahead_77 (by decide) rfl ?_
  refine E_aload_n 79 dX12_ahead_78 rfl (ac_88.bnd) rfl ?_
  refine E_get 2 82 dX12_ahead_79 fl_X12_7 ac_88 rfl (by decide) rfl rfl ?_
  refine E_ishl 83 dX12_ahead_82 rfl ?_
  refine E_icmp_ge 86 129 dX12_ahead_83 rfl rfl (fun h => ?_) (fun h => ?_)
  · have w := w.1 h
    refine E_iload_n 130 dX12_ahead_129 rfl rfl ?_
    exact E_iret dX12_ahead_130 rfl rfl w
  · have w := w.2 h
    refine E_aload_n 87 dX12_ahead_86 rfl (ac_88.bnd) rfl ?_
    refine E_getL 90 dX12_ahead_87 fl_X12_114 ac_88 rfl (by decide) lay_88_55 rfl ?_
    refine E_iload 92 dX12_ahead_90 rfl rfl ?_
    obtain ⟨c1, w⟩ := w
    refine E_lald 93 dX12_ahead_92 ac_119 c1 rfl ?_
    refine E_lconst (x := 0) 94 dX12_ahead_93 rfl rfl ?_
    refine E_lcmp 95 dX12_ahead_94 rfl ?_
    refine E_if_le 98 123 dX12_ahead_95 rfl rfl (fun h => ?_) (fun h => ?_)
    · have w := w.1 ((lc_le _ _).mp h)
      refine E_iinc (ls' := [(2, 88), (9, 0), (9, 0), (0, x3), (0, w32 (x4 + 1))]) 126 dX12_ahead_123 (by decide) rfl rfl rfl ?_
      refine E_goto 75 dX12_ahead_126 rfl ?_
      with_reducible exact w
    · have w := w.2 ((lc_gt _ _).mp h)
      refine E_iload_n 99 dX12_ahead_98 rfl rfl ?_
      refine E_iconst 100 dX12_ahead_99 (by decide) rfl ?_
      refine E_icmp_eq 103 120 dX12_ahead_100 rfl rfl (fun h => ?_) (fun h => ?_)
      · have w := w.1 h
        refine E_iload 122 dX12_ahead_120 rfl rfl ?_
        refine E_istore_n (ls' := [(2, 88), (9, 0), (9, 0), (0, x4), (0, x4)]) 123 dX12_ahead_122 (by decide) rfl rfl ?_
        refine E_iinc (ls' := [(2, 88), (9, 0), (9, 0), (0, x4), (0, w32 (x4 + 1))]) 126 dX12_ahead_123 (by decide) rfl rfl rfl ?_
        refine E_goto 75 dX12_ahead_126 rfl ?_
        with_reducible exact w
      · have w := w.2 h
        refine E_aload_n 104 dX12_ahead_103 rfl (ac_88.bnd) rfl ?_
        refine E_getL 107 dX12_ahead_104 fl_X12_114 ac_88 rfl (by decide) lay_88_55 rfl ?_
        refine E_iload 109 dX12_ahead_107 rfl rfl ?_
        refine E_lald 110 dX12_ahead_109 ac_119 c1 rfl ?_
        refine E_aload_n 111 dX12_ahead_110 rfl (ac_88.bnd) rfl ?_
        refine E_getL 114 dX12_ahead_111 fl_X12_114 ac_88 rfl (by decide) lay_88_55 rfl ?_
        refine E_iload_n 115 dX12_ahead_114 rfl rfl ?_
        obtain ⟨c2, w⟩ := w
        refine E_lald 116 dX12_ahead_115 ac_119 c2 rfl ?_
        refine E_lcmp 117 dX12_ahead_116 rfl ?_
        refine E_if_le 120 123 dX12_ahead_117 rfl rfl (fun h => ?_) (fun h => ?_)
        · have w := w.1 ((lc_le _ _).mp h)
          refine E_iinc (ls' := [(2, 88), (9, 0), (9, 0), (0, x3), (0, w32 (x4 + 1))]) 126 dX12_ahead_123 (by decide) rfl rfl rfl ?_
          refine E_goto 75 dX12_ahead_126 rfl ?_
          with_reducible exact w
        · have w := w.2 ((lc_gt _ _).mp h)
          refine E_iload 122 dX12_ahead_120 rfl rfl ?_
          refine E_istore_n (ls' := [(2, 88), (9, 0), (9, 0), (0, x4), (0, x4)]) 123 dX12_ahead_122 (by decide) rfl rfl ?_
          refine E_iinc (ls' := [(2, 88), (9, 0), (9, 0), (0, x4), (0, w32 (x4 + 1))]) 126 dX12_ahead_123 (by decide) rfl rfl rfl ?_
          refine E_goto 75 dX12_ahead_126 rfl ?_
          with_reducible exact w
theorem B_X12_hold_0 {g : PG} {d : Nat} {σ : PS} {Q : Int → PS → Prop} {x1 : Int}  (w : XX g true d P_X12_isIn 0 [(2, 88), (0, x1), (0, 0), (0, σ 88 2)] [] 136 (su σ 88 0 0) 136 (fun r2 σ1 => ((r2 ≠ 0 → (XX g true (d + 1) P_X12_hold 24 [(2, 88), (0, x1), (0, 0), (9, 0), (9, 0), (9, 0), (9, 0)] [] 136 σ1 136 Q)) ∧ (r2 = 0 → Q (-1) σ1)))) : XX g true (d + 1) P_X12_hold 0 [(2, 88), (0, x1), (9, 0), (9, 0), (9, 0), (9, 0), (9, 0)] [] 136 σ 136 Q := by
  refine E_aload_n 1 dX12_hold_0 rfl (ac_88.bnd) rfl ?_
  refine E_iconst 2 dX12_hold_1 (by decide) rfl ?_
  refine E_putI 0 5 dX12_hold_2 fl_X12_166 ac_88 rfl (by decide) (Or.inl rfl) rfl rfl ?_
  refine E_aload_n 6 dX12_hold_5 rfl (ac_88.bnd) rfl ?_
  refine E_iload_n 7 dX12_hold_6 rfl rfl ?_
  refine E_iconst 8 dX12_hold_7 (by decide) rfl ?_
  refine E_aload_n 9 dX12_hold_8 rfl (ac_88.bnd) rfl ?_
  refine E_get 2 12 dX12_hold_9 fl_X12_7 ac_88 rfl (by decide) rfl rfl ?_
  refine E_conv (su_ne (Or.inr (by decide))) ?_
  refine E_callV (as := [(0, x1), (0, 0), (0, σ 88 2)]) 15 dX12_hold_12 cf_X12_isIn mw_1363 mw_1365 mw_39 ac_88 (by decide) cl_X12 rfl rfl (Nat.le_of_ble_eq_true rfl) (Nat.le_of_ble_eq_true rfl) ⟨Nat.le_refl _, Nat.le_refl _⟩ rfl (w.mono (fun r2 σ1 w => ?_))
  show XX g true (d + 1) P_X12_hold 15 [(2, 88), (0, x1), (9, 0), (9, 0), (9, 0), (9, 0), (9, 0)] [(0, r2)] 136 σ1 136 Q
  refine E_if_ne 18 22 dX12_hold_15 rfl rfl (fun h => ?_) (fun h => ?_)
  · have w := w.1 h
    refine E_iconst 23 dX12_hold_22 (by decide) rfl ?_
    refine E_istore_n (ls' := [(2, 88), (0, x1), (0, 0), (9, 0), (9, 0), (9, 0), (9, 0)]) 24 dX12_hold_23 (by decide) rfl rfl ?_
    with_reducible exact w
  · have w := w.2 h
    refine E_ldc2_w (x := (-1)) 21 dX12_hold_18 mw_1629 (by decide) (by unfold in64; decide) rfl ?_
    exact E_lret dX12_hold_21 rfl rfl w
theorem B_X12_hold_24 {g : PG} {d : Nat} {σ : PS} {Q : Int → PS → Prop} {x1 x2 : Int}  (w : ((7808 ≤ x2 → (XX g true (d + 1) P_X12_hold 53 [(2, 88), (0, x1), (0, 0), (9, 0), (9, 0), (9, 0), (9, 0)] [] 136 (su σ 125 0 1) 136 Q)) ∧ (x2 < 7808 → (0 ≤ x2 ∧ x2 < 7808) ∧ (XX g true (d + 1) P_X12_hold 24 [(2, 88), (0, x1), (0, w32 (x2 + 1)), (9, 0), (9, 0), (9, 0), (9, 0)] [] 136 (su σ 125 x2 0) 136 Q)))) : XX g true (d + 1) P_X12_hold 24 [(2, 88), (0, x1), (0, x2), (9, 0), (9, 0), (9, 0), (9, 0)] [] 136 σ 136 Q := by
  refine E_iload_n 25 dX12_hold_24 rfl rfl ?_
  refine E_sipush 28 dX12_hold_25 (by decide) rfl ?_
  refine E_icmp_ge 31 44 dX12_hold_28 rfl rfl (fun h => ?_) (fun h => ?_)
  · have w := w.1 h
    refine E_aload_n 45 dX12_hold_44 rfl (ac_88.bnd) rfl ?_
    refine E_getL 48 dX12_hold_45 fl_X12_133 ac_88 rfl (by decide) lay_88_61 rfl ?_
    refine E_iconst 49 dX12_hold_48 (by decide) rfl ?_
    refine E_lconst (x := 1) 50 dX12_hold_49 rfl rfl ?_
    refine E_last 51 dX12_hold_50 ac_125 (by decide) rfl ?_
    refine E_iconst 52 dX12_hold_51 (by decide) rfl ?_
    refine E_istore_n (ls' := [(2, 88), (0, x1), (0, 0), (9, 0), (9, 0), (9, 0), (9, 0)]) 53 dX12_hold_52 (by decide) rfl rfl ?_
    with_reducible exact w
  · have w := w.2 h
    refine E_aload_n 32 dX12_hold_31 rfl (ac_88.bnd) rfl ?_
    refine E_getL 35 dX12_hold_32 fl_X12_133 ac_88 rfl (by decide) lay_88_61 rfl ?_
    refine E_iload_n 36 dX12_hold_35 rfl rfl ?_
    refine E_lconst (x := 0) 37 dX12_hold_36 rfl rfl ?_
    obtain ⟨c1, w⟩ := w
    refine E_last 38 dX12_hold_37 ac_125 c1 rfl ?_
    refine E_iinc (ls' := [(2, 88), (0, x1), (0, w32 (x2 + 1)), (9, 0), (9, 0), (9, 0), (9, 0)]) 41 dX12_hold_38 (by decide) rfl rfl rfl ?_
    refine E_goto 24 dX12_hold_41 rfl ?_
    with_reducible exact w
theorem B_X12_hold_53 {g : PG} {d : Nat} {σ : PS} {Q : Int → PS → Prop} {x1 x2 : Int}  (w : ((σ 88 2 ≤ x2 → (XX g true (d + 1) P_X12_hold 261 [(2, 88), (0, x1), (1, 0), (9, 0), (0, 0), (9, 0), (9, 0)] [] 136 σ 136 Q)) ∧ (x2 < σ 88 2 → (XX g true (d + 1) P_X12_hold 63 [(2, 88), (0, x1), (0, x2), (0, 0), (9, 0), (9, 0), (9, 0)] [] 136 σ 136 Q)))) : XX g true (d + 1) P_X12_hold 53 [(2, 88), (0, x1), (0, x2), (9, 0), (9, 0), (9, 0), (9, 0)] [] 136 σ 136 Q := by
  refine E_iload_n 54 dX12_hold_53 rfl rfl ?_
  refine E_aload_n 55 dX12_hold_54 rfl (ac_88.bnd) rfl ?_
  refine E_get 2 58 dX12_hold_55 fl_X12_7 ac_88 rfl (by decide) rfl rfl ?_
  refine E_icmp_ge 61 256 dX12_hold_58 rfl rfl (fun h => ?_) (fun h => ?_)
  · have w := w.1 h
    refine E_lconst (x := 0) 257 dX12_hold_256 rfl rfl ?_
    refine E_lstore_n (ls' := [(2, 88), (0, x1), (1, 0), (9, 0), (9, 0), (9, 0), (9, 0)]) 258 dX12_hold_257 (by decide) rfl rfl ?_
    refine E_iconst 259 dX12_hold_258 (by decide) rfl ?_
    refine E_istore (ls' := [(2, 88), (0, x1), (1, 0), (9, 0), (0, 0), (9, 0), (9, 0)]) 261 dX12_hold_259 (by decide) rfl rfl ?_
    with_reducible exact w
  · have w := w.2 h
    refine E_iconst 62 dX12_hold_61 (by decide) rfl ?_
    refine E_istore_n (ls' := [(2, 88), (0, x1), (0, x2), (0, 0), (9, 0), (9, 0), (9, 0)]) 63 dX12_hold_62 (by decide) rfl rfl ?_
    with_reducible exact w
theorem B_X12_hold_261 {g : PG} {d : Nat} {σ : PS} {Q : Int → PS → Prop} {x1 x2 x4 : Int}  (w : ((128 ≤ x4 → Q x2 σ) ∧ (x4 < 128 → (0 ≤ w32 ((w32 (128 * x1)) + x4) ∧ w32 ((w32 (128 * x1)) + x4) < 7808) ∧ ∀ y2, y2 = w64 (x2 + (σ 125 (w32 ((w32 (128 * x1)) + x4)))) → (XX g true (d + 1) P_X12_hold 261 [(2, 88), (0, x1), (1, y2), (9, 0), (0, w32 (x4 + 1)), (9, 0), (9, 0)] [] 136 σ 136 Q)))) : XX g true (d + 1) P_X12_hold 261 [(2, 88), (0, x1), (1, x2), (9, 0), (0, x4), (9, 0), (9, 0)] [] 136 σ 136 Q := by
  refine E_iload 263 dX12_hold_261 rfl rfl ?_
  refine E_sipush 266 dX12_hold_263 (by decide) rfl ?_
  refine E_icmp_ge 269 291 dX12_hold_266 rfl rfl (fun h => ?_) (fun h => ?_)
  · have w := w.1 h
    refine E_lload_n 292 dX12_hold_291 rfl rfl ?_
    exact E_lret dX12_hold_292 rfl rfl w
  · have w := w.2 h
    refine E_lload_n 270 dX12_hold_269 rfl rfl ?_
    refine E_aload_n 271 dX12_hold_270 rfl (ac_88.bnd) rfl ?_
    refine E_getL 274 dX12_hold_271 fl_X12_133 ac_88 rfl (by decide) lay_88_61 rfl ?_
    refine E_sipush 277 dX12_hold_274 (by decide) rfl ?_
    refine E_iload_n 278 dX12_hold_277 rfl rfl ?_
    refine E_imul 279 dX12_hold_278 rfl ?_
    refine E_iload 281 dX12_hold_279 rfl rfl ?_
    refine E_iadd 282 dX12_hold_281 rfl ?_
    obtain ⟨c1, w⟩ := w
    refine E_lald 283 dX12_hold_282 ac_125 c1 rfl ?_
    refine E_ladd 284 dX12_hold_283 rfl ?_
    refine E_top (fun y2 hy2 => ?_)
    have w := w y2 hy2
    refine E_lstore_n (ls' := [(2, 88), (0, x1), (1, y2), (9, 0), (0, x4), (9, 0), (9, 0)]) 285 dX12_hold_284 (by decide) rfl rfl ?_
    refine E_iinc (ls' := [(2, 88), (0, x1), (1, y2), (9, 0), (0, w32 (x4 + 1)), (9, 0), (9, 0)]) 288 dX12_hold_285 (by decide) rfl rfl rfl ?_
    refine E_goto 261 dX12_hold_288 rfl ?_
    with_reducible exact w
theorem B_X12_hold_63 {g : PG} {d : Nat} {σ : PS} {Q : Int → PS → Prop} {x1 x2 x3 : Int}  (w : ((7808 ≤ x3 → (XX g true (d + 1) P_X12_hold 85 [(2, 88), (0, x1), (0, x2), (0, 0), (9, 0), (9, 0), (9, 0)] [] 136 σ 136 Q)) ∧ (x3 < 7808 → (0 ≤ x3 ∧ x3 < 7808) ∧ (XX g true (d + 1) P_X12_hold 63 [(2, 88), (0, x1), (0, x2), (0, w32 (x3 + 1)), (9, 0), (9, 0), (9, 0)] [] 136 (su σ 126 x3 0) 136 Q)))) : XX g true (d + 1) P_X12_hold 63 [(2, 88), (0, x1), (0, x2), (0, x3), (9, 0), (9, 0), (9, 0)] [] 136 σ 136 Q := by
  refine E_iload_n 64 dX12_hold_63 rfl rfl ?_
  refine E_sipush 67 dX12_hold_64 (by decide) rfl ?_
  refine E_icmp_ge 70 83 dX12_hold_67 rfl rfl (fun h => ?_) (fun h => ?_)
  · have w := w.1 h
    refine E_iconst 84 dX12_hold_83 (by decide) rfl ?_
    refine E_istore_n (ls' := [(2, 88), (0, x1), (0, x2), (0, 0), (9, 0), (9, 0), (9, 0)]) 85 dX12_hold_84 (by decide) rfl rfl ?_
    with_reducible exact w
  · have w := w.2 h
    refine E_aload_n 71 dX12_hold_70 rfl (ac_88.bnd) rfl ?_
    refine E_getL 74 dX12_hold_71 fl_X12_136 ac_88 rfl (by decide) lay_88_62 rfl ?_
    refine E_iload_n 75 dX12_hold_74 rfl rfl ?_
    refine E_lconst (x := 0) 76 dX12_hold_75 rfl rfl ?_
    obtain ⟨c1, w⟩ := w
    refine E_last 77 dX12_hold_76 ac_126 c1 rfl ?_
    refine E_iinc (ls' := [(2, 88), (0, x1), (0, x2), (0, w32 (x3 + 1)), (9, 0), (9, 0), (9, 0)]) 80 dX12_hold_77 (by decide) rfl rfl rfl ?_
    refine E_goto 63 dX12_hold_80 rfl ?_
    with_reducible exact w
theorem B_X12_hold_85 {g : PG} {d : Nat} {σ : PS} {Q : Int → PS → Prop} {x1 x2 x3 : Int}  (w : ((x2 < x3 → (XX g true (d + 1) P_X12_hold 225 [(2, 88), (0, x1), (0, x2), (0, 0), (9, 0), (9, 0), (9, 0)] [] 136 σ 136 Q)) ∧ (x3 ≤ x2 → ((x1 < x3 → (XX g true (d + 1) P_X12_hold 225 [(2, 88), (0, x1), (0, x2), (0, 0), (9, 0), (9, 0), (9, 0)] [] 136 σ 136 Q)) ∧ (x3 ≤ x1 → (XX g true (d + 1) P_X12_hold 98 [(2, 88), (0, x1), (0, x2), (0, x3), (0, 0), (9, 0), (9, 0)] [] 136 σ 136 Q)))))) : XX g true (d + 1) P_X12_hold 85 [(2, 88), (0, x1), (0, x2), (0, x3), (9, 0), (9, 0), (9, 0)] [] 136 σ 136 Q := by
  refine E_iload_n 86 dX12_hold_85 rfl rfl ?_
  refine E_iload_n 87 dX12_hold_86 rfl rfl ?_
  refine E_icmp_gt 90 223 dX12_hold_87 rfl rfl (fun h => ?_) (fun h => ?_)
  · have w := w.1 h
    refine E_iconst 224 dX12_hold_223 (by decide) rfl ?_
    refine E_istore_n (ls' := [(2, 88), (0, x1), (0, x2), (0, 0), (9, 0), (9, 0), (9, 0)]) 225 dX12_hold_224 (by decide) rfl rfl ?_
    with_reducible exact w
  · have w := w.2 h
    refine E_iload_n 91 dX12_hold_90 rfl rfl ?_
    refine E_iload_n 92 dX12_hold_91 rfl rfl ?_
    refine E_icmp_gt 95 223 dX12_hold_92 rfl rfl (fun h => ?_) (fun h => ?_)
    · have w := w.1 h
      refine E_iconst 224 dX12_hold_223 (by decide) rfl ?_
      refine E_istore_n (ls' := [(2, 88), (0, x1), (0, x2), (0, 0), (9, 0), (9, 0), (9, 0)]) 225 dX12_hold_224 (by decide) rfl rfl ?_
      with_reducible exact w
    · have w := w.2 h
      refine E_iconst 96 dX12_hold_95 (by decide) rfl ?_
      refine E_istore (ls' := [(2, 88), (0, x1), (0, x2), (0, x3), (0, 0), (9, 0), (9, 0)]) 98 dX12_hold_96 (by decide) rfl rfl ?_
      with_reducible exact w
theorem B_X12_hold_225 {g : PG} {d : Nat} {σ : PS} {Q : Int → PS → Prop} {x1 x2 x3 : Int}  (w : ((7808 ≤ x3 → (XX g true (d + 1) P_X12_hold 53 [(2, 88), (0, x1), (0, w32 (x2 + 1)), (9, 0), (9, 0), (9, 0), (9, 0)] [] 136 σ 136 Q)) ∧ (x3 < 7808 → (0 ≤ x3 ∧ x3 < 7808) ∧ (XX g true (d + 1) P_X12_hold 225 [(2, 88), (0, x1), (0, x2), (0, w32 (x3 + 1)), (9, 0), (9, 0), (9, 0)] [] 136 (su σ 125 x3 (σ 126 x3)) 136 Q)))) : XX g true (d + 1) P_X12_hold 225 [(2, 88), (0, x1), (0, x2), (0, x3), (9, 0), (9, 0), (9, 0)] [] 136 σ 136 Q := by
  refine E_iload_n 226 dX12_hold_225 rfl rfl ?_
  refine E_sipush 229 dX12_hold_226 (by decide) rfl ?_
  refine E_icmp_ge 232 250 dX12_hold_229 rfl rfl (fun h => ?_) (fun h => ?_)
  · have w := w.1 h
    refine E_iinc (ls' := [(2, 88), (0, x1), (0, w32 (x2 + 1)), (0, x3), (9, 0), (9, 0), (9, 0)]) 253 dX12_hold_250 (by decide) rfl rfl rfl ?_
    refine E_goto 53 dX12_hold_253 rfl ?_
    refine XX.fg [3] [(2, 88), (0, x1), (0, w32 (x2 + 1)), (9, 0), (9, 0), (9, 0), (9, 0)] rfl ?_
    with_reducible exact w
  · have w := w.2 h
    refine E_aload_n 233 dX12_hold_232 rfl (ac_88.bnd) rfl ?_
    refine E_getL 236 dX12_hold_233 fl_X12_133 ac_88 rfl (by decide) lay_88_61 rfl ?_
    refine E_iload_n 237 dX12_hold_236 rfl rfl ?_
    refine E_aload_n 238 dX12_hold_237 rfl (ac_88.bnd) rfl ?_
    refine E_getL 241 dX12_hold_238 fl_X12_136 ac_88 rfl (by decide) lay_88_62 rfl ?_
    refine E_iload_n 242 dX12_hold_241 rfl rfl ?_
    obtain ⟨c1, w⟩ := w
    refine E_lald 243 dX12_hold_242 ac_126 c1 rfl ?_
    refine E_last 244 dX12_hold_243 ac_125 c1 rfl ?_
    refine E_iinc (ls' := [(2, 88), (0, x1), (0, x2), (0, w32 (x3 + 1)), (9, 0), (9, 0), (9, 0)]) 247 dX12_hold_244 (by decide) rfl rfl rfl ?_
    refine E_goto 225 dX12_hold_247 rfl ?_
    with_reducible exact w
theorem B_X12_hold_98 {g : PG} {d : Nat} {σ : PS} {Q : Int → PS → Prop} {x1 x2 x3 x4 : Int}  (w : ((128 ≤ x4 → (XX g true (d + 1) P_X12_hold 85 [(2, 88), (0, x1), (0, x2), (0, w32 (x3 + 1)), (9, 0), (9, 0), (9, 0)] [] 136 σ 136 Q)) ∧ (x4 < 128 → (0 ≤ w32 ((w32 (128 * x3)) + x4) ∧ w32 ((w32 (128 * x3)) + x4) < 7808) ∧ ((σ 125 (w32 ((w32 (128 * x3)) + x4)) ≠ 0 → (XX g true (d + 1) P_X12_hold 130 [(2, 88), (0, x1), (0, x2), (0, x3), (0, x4), (0, 0), (9, 0)] [] 136 σ 136 Q)) ∧ (σ 125 (w32 ((w32 (128 * x3)) + x4)) = 0 → (XX g true (d + 1) P_X12_hold 98 [(2, 88), (0, x1), (0, x2), (0, x3), (0, w32 (x4 + 1)), (9, 0), (9, 0)] [] 136 σ 136 Q)))))) : XX g true (d + 1) P_X12_hold 98 [(2, 88), (0, x1), (0, x2), (0, x3), (0, x4), (9, 0), (9, 0)] [] 136 σ 136 Q := by
  refine E_iload 100 dX12_hold_98 rfl rfl ?_
  refine E_sipush 103 dX12_hold_100 (by decide) rfl ?_
  refine E_icmp_ge 106 217 dX12_hold_103 rfl rfl (fun h => ?_) (fun h => ?_)
  · have w := w.1 h
    refine E_iinc (ls' := [(2, 88), (0, x1), (0, x2), (0, w32 (x3 + 1)), (0, x4), (9, 0), (9, 0)]) 220 dX12_hold_217 (by decide) rfl rfl rfl ?_
    refine E_goto 85 dX12_hold_220 rfl ?_
    refine XX.fg [4] [(2, 88), (0, x1), (0, x2), (0, w32 (x3 + 1)), (9, 0), (9, 0), (9, 0)] rfl ?_
    with_reducible exact w
  · have w := w.2 h
    refine E_aload_n 107 dX12_hold_106 rfl (ac_88.bnd) rfl ?_
    refine E_getL 110 dX12_hold_107 fl_X12_133 ac_88 rfl (by decide) lay_88_61 rfl ?_
    refine E_sipush 113 dX12_hold_110 (by decide) rfl ?_
    refine E_iload_n 114 dX12_hold_113 rfl rfl ?_
    refine E_imul 115 dX12_hold_114 rfl ?_
    refine E_iload 117 dX12_hold_115 rfl rfl ?_
    refine E_iadd 118 dX12_hold_117 rfl ?_
    obtain ⟨c1, w⟩ := w
    refine E_lald 119 dX12_hold_118 ac_125 c1 rfl ?_
    refine E_lconst (x := 0) 120 dX12_hold_119 rfl rfl ?_
    refine E_lcmp 121 dX12_hold_120 rfl ?_
    refine E_if_ne 124 127 dX12_hold_121 rfl rfl (fun h => ?_) (fun h => ?_)
    · have w := w.1 ((lc_ne _ _).mp h)
      refine E_iconst 128 dX12_hold_127 (by decide) rfl ?_
      refine E_istore (ls' := [(2, 88), (0, x1), (0, x2), (0, x3), (0, x4), (0, 0), (9, 0)]) 130 dX12_hold_128 (by decide) rfl rfl ?_
      with_reducible exact w
    · have w := w.2 ((lc_eq _ _).mp h)
      refine E_goto 211 dX12_hold_124 rfl ?_
      refine E_iinc (ls' := [(2, 88), (0, x1), (0, x2), (0, x3), (0, w32 (x4 + 1)), (9, 0), (9, 0)]) 214 dX12_hold_211 (by decide) rfl rfl rfl ?_
      refine E_goto 98 dX12_hold_214 rfl ?_
      with_reducible exact w
theorem B_X12_hold_130 {g : PG} {d : Nat} {σ : PS} {Q : Int → PS → Prop} {x1 x2 x3 x4 x5 : Int}  (w : ((2 ≤ x5 → (XX g true (d + 1) P_X12_hold 98 [(2, 88), (0, x1), (0, x2), (0, x3), (0, w32 (x4 + 1)), (9, 0), (9, 0)] [] 136 σ 136 Q)) ∧ (x5 < 2 → XX g true d P_X12_isMet 0 [(2, 88), (0, ior (ishl x4 1) x5), (0, w32 (x2 + 1)), (9, 0), (9, 0)] [] 136 σ 136 (fun r2 σ1 => ((r2 = 0 → ∀ y3, y3 = w32 ((w32 (128 * (w32 (x3 + x5)))) + (iand (ior (ishl x4 1) x5) 127)) → (0 ≤ y3 ∧ y3 < 7808) ∧ (0 ≤ w32 ((w32 (128 * x3)) + x4) ∧ w32 ((w32 (128 * x3)) + x4) < 7808) ∧ (XX g true (d + 1) P_X12_hold 130 [(2, 88), (0, x1), (0, x2), (0, x3), (0, x4), (0, w32 (x5 + 1)), (9, 0)] [] 136 (su σ1 126 y3 (w64 ((σ1 126 y3) + (σ1 125 (w32 ((w32 (128 * x3)) + x4)))))) 136 Q)) ∧ (r2 ≠ 0 → (XX g true (d + 1) P_X12_hold 130 [(2, 88), (0, x1), (0, x2), (0, x3), (0, x4), (0, w32 (x5 + 1)), (9, 0)] [] 136 σ1 136 Q))))))) : XX g true (d + 1) P_X12_hold 130 [(2, 88), (0, x1), (0, x2), (0, x3), (0, x4), (0, x5), (9, 0)] [] 136 σ 136 Q := by
  refine E_iload 132 dX12_hold_130 rfl rfl ?_
  refine E_iconst 133 dX12_hold_132 (by decide) rfl ?_
  refine E_icmp_ge 136 211 dX12_hold_133 rfl rfl (fun h => ?_) (fun h => ?_)
  · have w := w.1 h
    refine E_iinc (ls' := [(2, 88), (0, x1), (0, x2), (0, x3), (0, w32 (x4 + 1)), (0, x5), (9, 0)]) 214 dX12_hold_211 (by decide) rfl rfl rfl ?_
    refine E_goto 98 dX12_hold_214 rfl ?_
    refine XX.fg [5] [(2, 88), (0, x1), (0, x2), (0, x3), (0, w32 (x4 + 1)), (9, 0), (9, 0)] rfl ?_
    with_reducible exact w
  · have w := w.2 h
    refine E_aload_n 137 dX12_hold_136 rfl (ac_88.bnd) rfl ?_
    refine E_iload 139 dX12_hold_137 rfl rfl ?_
    refine E_iconst 140 dX12_hold_139 (by decide) rfl ?_
    refine E_ishl 141 dX12_hold_140 rfl ?_
    refine E_iload 143 dX12_hold_141 rfl rfl ?_
    refine E_ior 144 dX12_hold_143 rfl ?_
    refine E_iload_n 145 dX12_hold_144 rfl rfl ?_
    refine E_iconst 146 dX12_hold_145 (by decide) rfl ?_
    refine E_iadd 147 dX12_hold_146 rfl ?_
    refine E_callV (as := [(0, ior (ishl x4 1) x5), (0, w32 (x2 + 1))]) 150 dX12_hold_147 cf_X12_isMet mw_1528 mw_1530 mw_72 ac_88 (by decide) cl_X12 rfl rfl (Nat.le_of_ble_eq_true rfl) (Nat.le_of_ble_eq_true rfl) ⟨Nat.le_refl _, Nat.le_refl _⟩ rfl (w.mono (fun r2 σ1 w => ?_))
    show XX g true (d + 1) P_X12_hold 150 [(2, 88), (0, x1), (0, x2), (0, x3), (0, x4), (0, x5), (9, 0)] [(0, r2)] 136 σ1 136 Q
    refine E_if_eq 153 156 dX12_hold_150 rfl rfl (fun h => ?_) (fun h => ?_)
    · have w := w.1 h
      refine E_sipush 159 dX12_hold_156 (by decide) rfl ?_
      refine E_iload_n 160 dX12_hold_159 rfl rfl ?_
      refine E_iload 162 dX12_hold_160 rfl rfl ?_
      refine E_iadd 163 dX12_hold_162 rfl ?_
      refine E_imul 164 dX12_hold_163 rfl ?_
      refine E_iload 166 dX12_hold_164 rfl rfl ?_
      refine E_iconst 167 dX12_hold_166 (by decide) rfl ?_
      refine E_ishl 168 dX12_hold_167 rfl ?_
      refine E_iload 170 dX12_hold_168 rfl rfl ?_
      refine E_ior 171 dX12_hold_170 rfl ?_
      refine E_bipush 173 dX12_hold_171 (by decide) rfl ?_
      refine E_iand 174 dX12_hold_173 rfl ?_
      refine E_iadd 175 dX12_hold_174 rfl ?_
      refine E_top (fun y3 hy3 => ?_)
      have w := w y3 hy3
      refine E_istore (ls' := [(2, 88), (0, x1), (0, x2), (0, x3), (0, x4), (0, x5), (0, y3)]) 177 dX12_hold_175 (by decide) rfl rfl ?_
      refine E_aload_n 178 dX12_hold_177 rfl (ac_88.bnd) rfl ?_
      refine E_getL 181 dX12_hold_178 fl_X12_136 ac_88 rfl (by decide) lay_88_62 rfl ?_
      refine E_iload 183 dX12_hold_181 rfl rfl ?_
      refine E_aload_n 184 dX12_hold_183 rfl (ac_88.bnd) rfl ?_
      refine E_getL 187 dX12_hold_184 fl_X12_136 ac_88 rfl (by decide) lay_88_62 rfl ?_
      refine E_iload 189 dX12_hold_187 rfl rfl ?_
      obtain ⟨c4, w⟩ := w
      refine E_lald 190 dX12_hold_189 ac_126 c4 rfl ?_
      refine E_aload_n 191 dX12_hold_190 rfl (ac_88.bnd) rfl ?_
      refine E_getL 194 dX12_hold_191 fl_X12_133 ac_88 rfl (by decide) lay_88_61 rfl ?_
      refine E_sipush 197 dX12_hold_194 (by decide) rfl ?_
      refine E_iload_n 198 dX12_hold_197 rfl rfl ?_
      refine E_imul 199 dX12_hold_198 rfl ?_
      refine E_iload 201 dX12_hold_199 rfl rfl ?_
      refine E_iadd 202 dX12_hold_201 rfl ?_
      obtain ⟨c5, w⟩ := w
      refine E_lald 203 dX12_hold_202 ac_125 c5 rfl ?_
      refine E_ladd 204 dX12_hold_203 rfl ?_
      refine E_last 205 dX12_hold_204 ac_126 c4 rfl ?_
      refine E_iinc (ls' := [(2, 88), (0, x1), (0, x2), (0, x3), (0, x4), (0, w32 (x5 + 1)), (0, y3)]) 208 dX12_hold_205 (by decide) rfl rfl rfl ?_
      refine E_goto 130 dX12_hold_208 rfl ?_
      refine XX.fg [6] [(2, 88), (0, x1), (0, x2), (0, x3), (0, x4), (0, w32 (x5 + 1)), (9, 0)] rfl ?_
      with_reducible exact w
    · have w := w.2 h
      refine E_goto 205 dX12_hold_153 rfl ?_
      refine E_iinc (ls' := [(2, 88), (0, x1), (0, x2), (0, x3), (0, x4), (0, w32 (x5 + 1)), (9, 0)]) 208 dX12_hold_205 (by decide) rfl rfl rfl ?_
      refine E_goto 130 dX12_hold_208 rfl ?_
      with_reducible exact w
theorem B_X12_keepsRow_0 {g : PG} {d : Nat} {σ : PS} {Q : Int → PS → Prop}  (w : (XX g true d P_X12_keepsRow 2 [(2, 88), (0, 0)] [] 136 σ 136 Q)) : XX g true d P_X12_keepsRow 0 [(2, 88), (9, 0)] [] 136 σ 136 Q := by
  refine E_iconst 1 dX12_keepsRow_0 (by decide) rfl ?_
  refine E_istore_n (ls' := [(2, 88), (0, 0)]) 2 dX12_keepsRow_1 (by decide) rfl rfl ?_
  with_reducible exact w
theorem B_X12_keepsRow_2 {g : PG} {d : Nat} {σ : PS} {Q : Int → PS → Prop} {x1 : Int}  (w : ((σ 88 2 ≤ x1 → Q 0 σ) ∧ (x1 < σ 88 2 → (0 ≤ x1 ∧ x1 < 60) ∧ (XX g true d P_X12_keepsRow 2 [(2, 88), (0, w32 (x1 + 1))] [] 136 (su (su (su σ 127 x1 (σ 89 x1)) 128 x1 (σ 90 x1)) 129 x1 (σ 91 x1)) 136 Q)))) : XX g true d P_X12_keepsRow 2 [(2, 88), (0, x1)] [] 136 σ 136 Q := by
  refine E_iload_n 3 dX12_keepsRow_2 rfl rfl ?_
  refine E_aload_n 4 dX12_keepsRow_3 rfl (ac_88.bnd) rfl ?_
  refine E_get 2 7 dX12_keepsRow_4 fl_X12_7 ac_88 rfl (by decide) rfl rfl ?_
  refine E_icmp_ge 10 52 dX12_keepsRow_7 rfl rfl (fun h => ?_) (fun h => ?_)
  · have w := w.1 h
    exact E_vret dX12_keepsRow_52 rfl rfl w
  · have w := w.2 h
    refine E_aload_n 11 dX12_keepsRow_10 rfl (ac_88.bnd) rfl ?_
    refine E_getL 14 dX12_keepsRow_11 fl_X12_139 ac_88 rfl (by decide) lay_88_63 rfl ?_
    refine E_iload_n 15 dX12_keepsRow_14 rfl rfl ?_
    refine E_aload_n 16 dX12_keepsRow_15 rfl (ac_88.bnd) rfl ?_
    refine E_getL 19 dX12_keepsRow_16 fl_X12_13 ac_88 rfl (by decide) lay_88_3 rfl ?_
    refine E_iload_n 20 dX12_keepsRow_19 rfl rfl ?_
    obtain ⟨c1, w⟩ := w
    refine E_iald 21 dX12_keepsRow_20 ac_89 c1 rfl ?_
    refine E_iast 22 dX12_keepsRow_21 ac_127 c1 rfl ?_
    refine E_aload_n 23 dX12_keepsRow_22 rfl (ac_88.bnd) rfl ?_
    refine E_getL 26 dX12_keepsRow_23 fl_X12_142 ac_88 rfl (by decide) lay_88_64 rfl ?_
    refine E_iload_n 27 dX12_keepsRow_26 rfl rfl ?_
    refine E_aload_n 28 dX12_keepsRow_27 rfl (ac_88.bnd) rfl ?_
    refine E_getL 31 dX12_keepsRow_28 fl_X12_17 ac_88 rfl (by decide) lay_88_4 rfl ?_
    refine E_iload_n 32 dX12_keepsRow_31 rfl rfl ?_
    refine E_iald 33 dX12_keepsRow_32 ac_90 c1 rfl ?_
    refine E_conv (su_ne (Or.inl (by decide))) ?_
    refine E_iast 34 dX12_keepsRow_33 ac_128 c1 rfl ?_
    refine E_aload_n 35 dX12_keepsRow_34 rfl (ac_88.bnd) rfl ?_
    refine E_getL 38 dX12_keepsRow_35 fl_X12_145 ac_88 rfl (by decide) lay_88_65 rfl ?_
    refine E_iload_n 39 dX12_keepsRow_38 rfl rfl ?_
    refine E_aload_n 40 dX12_keepsRow_39 rfl (ac_88.bnd) rfl ?_
    refine E_getL 43 dX12_keepsRow_40 fl_X12_20 ac_88 rfl (by decide) lay_88_5 rfl ?_
    refine E_iload_n 44 dX12_keepsRow_43 rfl rfl ?_
    refine E_iald 45 dX12_keepsRow_44 ac_91 c1 rfl ?_
    refine E_conv ((su_ne (Or.inl (by decide))).trans (su_ne (Or.inl (by decide)))) ?_
    refine E_iast 46 dX12_keepsRow_45 ac_129 c1 rfl ?_
    refine E_iinc (ls' := [(2, 88), (0, w32 (x1 + 1))]) 49 dX12_keepsRow_46 (by decide) rfl rfl rfl ?_
    refine E_goto 2 dX12_keepsRow_49 rfl ?_
    with_reducible exact w
theorem B_X12_givesRowBack_0 {g : PG} {d : Nat} {σ : PS} {Q : Int → PS → Prop}  (w : (XX g true d P_X12_givesRowBack 2 [(2, 88), (0, 0)] [] 136 σ 136 Q)) : XX g true d P_X12_givesRowBack 0 [(2, 88), (9, 0)] [] 136 σ 136 Q := by
  refine E_iconst 1 dX12_givesRowBack_0 (by decide) rfl ?_
  refine E_istore_n (ls' := [(2, 88), (0, 0)]) 2 dX12_givesRowBack_1 (by decide) rfl rfl ?_
  with_reducible exact w
theorem B_X12_givesRowBack_2 {g : PG} {d : Nat} {σ : PS} {Q : Int → PS → Prop} {x1 : Int}  (w : ((σ 88 2 ≤ x1 → Q 0 σ) ∧ (x1 < σ 88 2 → (0 ≤ x1 ∧ x1 < 60) ∧ (XX g true d P_X12_givesRowBack 2 [(2, 88), (0, w32 (x1 + 1))] [] 136 (su (su (su σ 89 x1 (σ 127 x1)) 90 x1 (σ 128 x1)) 91 x1 (σ 129 x1)) 136 Q)))) : XX g true d P_X12_givesRowBack 2 [(2, 88), (0, x1)] [] 136 σ 136 Q := by
  refine E_iload_n 3 dX12_givesRowBack_2 rfl rfl ?_
  refine E_aload_n 4 dX12_givesRowBack_3 rfl (ac_88.bnd) rfl ?_
  refine E_get 2 7 dX12_givesRowBack_4 fl_X12_7 ac_88 rfl (by decide) rfl rfl ?_
  refine E_icmp_ge 10 52 dX12_givesRowBack_7 rfl rfl (fun h => ?_) (fun h => ?_)
  · have w := w.1 h
    exact E_vret dX12_givesRowBack_52 rfl rfl w
  · have w := w.2 h
    refine E_aload_n 11 dX12_givesRowBack_10 rfl (ac_88.bnd) rfl ?_
    refine E_getL 14 dX12_givesRowBack_11 fl_X12_13 ac_88 rfl (by decide) lay_88_3 rfl ?_
    refine E_iload_n 15 dX12_givesRowBack_14 rfl rfl ?_
    refine E_aload_n 16 dX12_givesRowBack_15 rfl (ac_88.bnd) rfl ?_
    refine E_getL 19 dX12_givesRowBack_16 fl_X12_139 ac_88 rfl (by decide) lay_88_63 rfl ?_
    refine E_iload_n 20 dX12_givesRowBack_19 rfl rfl ?_
    obtain ⟨c1, w⟩ := w
    refine E_iald 21 dX12_givesRowBack_20 ac_127 c1 rfl ?_
    refine E_iast 22 dX12_givesRowBack_21 ac_89 c1 rfl ?_
    refine E_aload_n 23 dX12_givesRowBack_22 rfl (ac_88.bnd) rfl ?_
    refine E_getL 26 dX12_givesRowBack_23 fl_X12_17 ac_88 rfl (by decide) lay_88_4 rfl ?_
    refine E_iload_n 27 dX12_givesRowBack_26 rfl rfl ?_
    refine E_aload_n 28 dX12_givesRowBack_27 rfl (ac_88.bnd) rfl ?_
    refine E_getL 31 dX12_givesRowBack_28 fl_X12_142 ac_88 rfl (by decide) lay_88_64 rfl ?_
    refine E_iload_n 32 dX12_givesRowBack_31 rfl rfl ?_
    refine E_iald 33 dX12_givesRowBack_32 ac_128 c1 rfl ?_
    refine E_conv (su_ne (Or.inl (by decide))) ?_
    refine E_iast 34 dX12_givesRowBack_33 ac_90 c1 rfl ?_
    refine E_aload_n 35 dX12_givesRowBack_34 rfl (ac_88.bnd) rfl ?_
    refine E_getL 38 dX12_givesRowBack_35 fl_X12_20 ac_88 rfl (by decide) lay_88_5 rfl ?_
    refine E_iload_n 39 dX12_givesRowBack_38 rfl rfl ?_
    refine E_aload_n 40 dX12_givesRowBack_39 rfl (ac_88.bnd) rfl ?_
    refine E_getL 43 dX12_givesRowBack_40 fl_X12_145 ac_88 rfl (by decide) lay_88_65 rfl ?_
    refine E_iload_n 44 dX12_givesRowBack_43 rfl rfl ?_
    refine E_iald 45 dX12_givesRowBack_44 ac_129 c1 rfl ?_
    refine E_conv ((su_ne (Or.inl (by decide))).trans (su_ne (Or.inl (by decide)))) ?_
    refine E_iast 46 dX12_givesRowBack_45 ac_91 c1 rfl ?_
    refine E_iinc (ls' := [(2, 88), (0, w32 (x1 + 1))]) 49 dX12_givesRowBack_46 (by decide) rfl rfl rfl ?_
    refine E_goto 2 dX12_givesRowBack_49 rfl ?_
    with_reducible exact w
theorem B_X12_which_0 {g : PG} {d : Nat} {σ : PS} {Q : Int → PS → Prop} {x1 : Int}  (w : ((12 < σ 88 2 → Q (-1) (su σ 88 0 0)) ∧ (σ 88 2 ≤ 12 → XX g true d P_X12_isIn 0 [(2, 88), (0, x1), (0, 0), (0, 4)] [] 136 (su σ 88 0 0) 136 (fun r2 σ1 => ((r2 ≠ 0 → XX g true d P_X12_keepsRow 0 [(2, 88), (9, 0)] [] 136 σ1 136 (fun _ σ3 => (XX g true (d + 1) P_X12_which 37 [(2, 88), (0, x1), (0, (-1)), (1, 0), (9, 0), (0, 0), (9, 0), (9, 0)] [] 136 σ3 136 Q))) ∧ (r2 = 0 → Q (-1) σ1)))))) : XX g true (d + 1) P_X12_which 0 [(2, 88), (0, x1), (9, 0), (9, 0), (9, 0), (9, 0), (9, 0), (9, 0)] [] 136 σ 136 Q := by
  refine E_aload_n 1 dX12_which_0 rfl (ac_88.bnd) rfl ?_
  refine E_iconst 2 dX12_which_1 (by decide) rfl ?_
  refine E_putI 0 5 dX12_which_2 fl_X12_166 ac_88 rfl (by decide) (Or.inl rfl) rfl rfl ?_
  refine E_aload_n 6 dX12_which_5 rfl (ac_88.bnd) rfl ?_
  refine E_get 2 9 dX12_which_6 fl_X12_7 ac_88 rfl (by decide) rfl rfl ?_
  refine E_conv (su_ne (Or.inr (by decide))) ?_
  refine E_bipush 11 dX12_which_9 (by decide) rfl ?_
  refine E_icmp_gt 14 24 dX12_which_11 rfl rfl (fun h => ?_) (fun h => ?_)
  · have w := w.1 h
    refine E_iconst 25 dX12_which_24 (by decide) rfl ?_
    exact E_iret dX12_which_25 rfl rfl w
  · have w := w.2 h
    refine E_aload_n 15 dX12_which_14 rfl (ac_88.bnd) rfl ?_
    refine E_iload_n 16 dX12_which_15 rfl rfl ?_
    refine E_iconst 17 dX12_which_16 (by decide) rfl ?_
    refine E_iconst 18 dX12_which_17 (by decide) rfl ?_
    refine E_callV (as := [(0, x1), (0, 0), (0, 4)]) 21 dX12_which_18 cf_X12_isIn mw_1363 mw_1365 mw_39 ac_88 (by decide) cl_X12 rfl rfl (Nat.le_of_ble_eq_true rfl) (Nat.le_of_ble_eq_true rfl) ⟨Nat.le_refl _, Nat.le_refl _⟩ rfl (w.mono (fun r2 σ1 w => ?_))
    show XX g true (d + 1) P_X12_which 21 [(2, 88), (0, x1), (9, 0), (9, 0), (9, 0), (9, 0), (9, 0), (9, 0)] [(0, r2)] 136 σ1 136 Q
    refine E_if_ne 24 26 dX12_which_21 rfl rfl (fun h => ?_) (fun h => ?_)
    · have w := w.1 h
      refine E_aload_n 27 dX12_which_26 rfl (ac_88.bnd) rfl ?_
      refine E_callV (as := []) 30 dX12_which_27 cf_X12_keepsRow mw_1670 mw_1672 mw_98 ac_88 (by decide) cl_X12 rfl rfl (Nat.le_of_ble_eq_true rfl) (Nat.le_of_ble_eq_true rfl) ⟨Nat.le_refl _, Nat.le_refl _⟩ rfl (w.mono (fun r4 σ3 w => ?_))
      show XX g true (d + 1) P_X12_which 30 [(2, 88), (0, x1), (9, 0), (9, 0), (9, 0), (9, 0), (9, 0), (9, 0)] [] 136 σ3 136 Q
      refine E_iconst 31 dX12_which_30 (by decide) rfl ?_
      refine E_istore_n (ls' := [(2, 88), (0, x1), (0, (-1)), (9, 0), (9, 0), (9, 0), (9, 0), (9, 0)]) 32 dX12_which_31 (by decide) rfl rfl ?_
      refine E_lconst (x := 0) 33 dX12_which_32 rfl rfl ?_
      refine E_lstore_n (ls' := [(2, 88), (0, x1), (0, (-1)), (1, 0), (9, 0), (9, 0), (9, 0), (9, 0)]) 34 dX12_which_33 (by decide) rfl rfl ?_
      refine E_iconst 35 dX12_which_34 (by decide) rfl ?_
      refine E_istore (ls' := [(2, 88), (0, x1), (0, (-1)), (1, 0), (9, 0), (0, 0), (9, 0), (9, 0)]) 37 dX12_which_35 (by decide) rfl rfl ?_
      with_reducible exact w
    · have w := w.2 h
      refine E_iconst 25 dX12_which_24 (by decide) rfl ?_
      exact E_iret dX12_which_25 rfl rfl w
theorem B_X12_which_37 {g : PG} {d : Nat} {σ : PS} {Q : Int → PS → Prop} {x1 x2 x3 x5 : Int}  (w : ((ishl 1 (σ 88 2) ≤ x5 → XX g true d P_X12_givesRowBack 0 [(2, 88), (9, 0)] [] 136 σ 136 (fun _ σ1 => Q x2 σ1)) ∧ (x5 < ishl 1 (σ 88 2) → XX g true d P_X12_ones 0 [(2, 88), (0, x5), (9, 0), (9, 0)] [] 136 σ 136 (fun r4 σ3 => ((r4 ≤ x1 → (XX g true (d + 1) P_X12_which 64 [(2, 88), (0, x1), (0, x2), (1, x3), (9, 0), (0, x5), (0, 0), (9, 0)] [] 136 σ3 136 Q)) ∧ (x1 < r4 → (XX g true (d + 1) P_X12_which 37 [(2, 88), (0, x1), (0, x2), (1, x3), (9, 0), (0, w32 (x5 + 1)), (9, 0), (9, 0)] [] 136 σ3 136 Q))))))) : XX g true (d + 1) P_X12_which 37 [(2, 88), (0, x1), (0, x2), (1, x3), (9, 0), (0, x5), (9, 0), (9, 0)] [] 136 σ 136 Q := by
  refine E_iload 39 dX12_which_37 rfl rfl ?_
  refine E_iconst 40 dX12_which_39 (by decide) rfl ?_
  refine E_aload_n 41 dX12_which_40 rfl (ac_88.bnd) rfl ?_
  refine E_get 2 44 dX12_which_41 fl_X12_7 ac_88 rfl (by decide) rfl rfl ?_
  refine E_ishl 45 dX12_which_44 rfl ?_
  refine E_icmp_ge 48 191 dX12_which_45 rfl rfl (fun h => ?_) (fun h => ?_)
  · have w := w.1 h
    refine E_aload_n 192 dX12_which_191 rfl (ac_88.bnd) rfl ?_
    refine E_callV (as := []) 195 dX12_which_192 cf_X12_givesRowBack mw_1674 mw_1676 mw_99 ac_88 (by decide) cl_X12 rfl rfl (Nat.le_of_ble_eq_true rfl) (Nat.le_of_ble_eq_true rfl) ⟨Nat.le_refl _, Nat.le_refl _⟩ rfl (w.mono (fun r2 σ1 w => ?_))
    show XX g true (d + 1) P_X12_which 195 [(2, 88), (0, x1), (0, x2), (1, x3), (9, 0), (0, x5), (9, 0), (9, 0)] [] 136 σ1 136 Q
    refine E_iload_n 196 dX12_which_195 rfl rfl ?_
    exact E_iret dX12_which_196 rfl rfl w
  · have w := w.2 h
    refine E_aload_n 49 dX12_which_48 rfl (ac_88.bnd) rfl ?_
    refine E_iload 51 dX12_which_49 rfl rfl ?_
    refine E_callV (as := [(0, x5)]) 54 dX12_which_51 cf_X12_ones mw_1532 mw_1534 mw_73 ac_88 (by decide) cl_X12 rfl rfl (Nat.le_of_ble_eq_true rfl) (Nat.le_of_ble_eq_true rfl) ⟨Nat.le_refl _, Nat.le_refl _⟩ rfl (w.mono (fun r4 σ3 w => ?_))
    show XX g true (d + 1) P_X12_which 54 [(2, 88), (0, x1), (0, x2), (1, x3), (9, 0), (0, x5), (9, 0), (9, 0)] [(0, r4)] 136 σ3 136 Q
    refine E_iload_n 55 dX12_which_54 rfl rfl ?_
    refine E_icmp_le 58 61 dX12_which_55 rfl rfl (fun h => ?_) (fun h => ?_)
    · have w := w.1 h
      refine E_iconst 62 dX12_which_61 (by decide) rfl ?_
      refine E_istore (ls' := [(2, 88), (0, x1), (0, x2), (1, x3), (9, 0), (0, x5), (0, 0), (9, 0)]) 64 dX12_which_62 (by decide) rfl rfl ?_
      with_reducible exact w
    · have w := w.2 h
      refine E_goto 185 dX12_which_58 rfl ?_
      refine E_iinc (ls' := [(2, 88), (0, x1), (0, x2), (1, x3), (9, 0), (0, w32 (x5 + 1)), (9, 0), (9, 0)]) 188 dX12_which_185 (by decide) rfl rfl rfl ?_
      refine E_goto 37 dX12_which_188 rfl ?_
      with_reducible exact w
theorem B_X12_which_64 {g : PG} {d : Nat} {σ : PS} {Q : Int → PS → Prop} {x1 x2 x3 x5 x6 : Int}  (w : ((σ 88 2 ≤ x6 → XX g true d P_X12_chanceNow 0 [(2, 88), (9, 0)] [] 136 σ 136 (fun r2 σ1 => ((x2 = (-1) → (XX g true (d + 1) P_X12_which 37 [(2, 88), (0, x1), (0, x5), (1, r2), (9, 0), (0, w32 (x5 + 1)), (9, 0), (9, 0)] [] 136 σ1 136 Q)) ∧ (x2 ≠ (-1) → ((x3 < r2 → (XX g true (d + 1) P_X12_which 37 [(2, 88), (0, x1), (0, x2), (1, x3), (9, 0), (0, w32 (x5 + 1)), (9, 0), (9, 0)] [] 136 σ1 136 Q)) ∧ (r2 ≤ x3 → ((r2 ≠ x3 → (XX g true (d + 1) P_X12_which 37 [(2, 88), (0, x1), (0, x5), (1, r2), (9, 0), (0, w32 (x5 + 1)), (9, 0), (9, 0)] [] 136 σ1 136 Q)) ∧ (r2 = x3 → XX g true d P_X12_ones 0 [(2, 88), (0, x5), (9, 0), (9, 0)] [] 136 σ1 136 (fun r4 σ3 => XX g true d P_X12_ones 0 [(2, 88), (0, x2), (9, 0), (9, 0)] [] 136 σ3 136 (fun r6 σ5 => ((r4 < r6 → (XX g true (d + 1) P_X12_which 37 [(2, 88), (0, x1), (0, x5), (1, r2), (9, 0), (0, w32 (x5 + 1)), (9, 0), (9, 0)] [] 136 σ5 136 Q)) ∧ (r6 ≤ r4 → (XX g true (d + 1) P_X12_which 37 [(2, 88), (0, x1), (0, x2), (1, x3), (9, 0), (0, w32 (x5 + 1)), (9, 0), (9, 0)] [] 136 σ5 136 Q))))))))))))) ∧ (x6 < σ 88 2 → ((iand (ishr x5 x6) 1 ≠ 1 → (0 ≤ x6 ∧ x6 < 60) ∧ ((iand (ishr x5 x6) 1 ≠ 1 → (XX g true (d + 1) P_X12_which 64 [(2, 88), (0, x1), (0, x2), (1, x3), (9, 0), (0, x5), (0, w32 (x6 + 1)), (9, 0)] [] 136 (su (su σ 90 x6 (σ 128 x6)) 91 x6 (σ 129 x6)) 136 Q)) ∧ (iand (ishr x5 x6) 1 = 1 → (XX g true (d + 1) P_X12_which 64 [(2, 88), (0, x1), (0, x2), (1, x3), (9, 0), (0, x5), (0, w32 (x6 + 1)), (9, 0)] [] 136 (su (su σ 90 x6 (σ 128 x6)) 91 x6 0) 136 Q)))) ∧ (iand (ishr x5 x6) 1 = 1 → (0 ≤ x6 ∧ x6 < 60) ∧ ((iand (ishr x5 x6) 1 ≠ 1 → (XX g true (d + 1) P_X12_which 64 [(2, 88), (0, x1), (0, x2), (1, x3), (9, 0), (0, x5), (0, w32 (x6 + 1)), (9, 0)] [] 136 (su (su σ 90 x6 0) 91 x6 (σ 129 x6)) 136 Q)) ∧ (iand (ishr x5 x6) 1 = 1 → (XX g true (d + 1) P_X12_which 64 [(2, 88), (0, x1), (0, x2), (1, x3), (9, 0), (0, x5), (0, w32 (x6 + 1)), (9, 0)] [] 136 (su (su σ 90 x6 0) 91 x6 0) 136 Q)))))))) : XX g true (d + 1) P_X12_which 64 [(2, 88), (0, x1), (0, x2), (1, x3), (9, 0), (0, x5), (0, x6), (9, 0)] [] 136 σ 136 Q := by
  refine E_iload 66 dX12_which_64 rfl rfl ?_
  refine E_aload_n 67 dX12_which_66 rfl (ac_88.bnd) rfl ?_
  refine E_get 2 70 dX12_which_67 fl_X12_7 ac_88 rfl (by decide) rfl rfl ?_
  refine E_icmp_ge 73 137 dX12_which_70 rfl rfl (fun h => ?_) (fun h => ?_)
  · have w := w.1 h
    refine E_aload_n 138 dX12_which_137 rfl (ac_88.bnd) rfl ?_
    refine E_callV (as := []) 141 dX12_which_138 cf_X12_chanceNow mw_1619 mw_1621 mw_90 ac_88 (by decide) cl_X12 rfl rfl (Nat.le_of_ble_eq_true rfl) (Nat.le_of_ble_eq_true rfl) ⟨Nat.le_refl _, Nat.le_refl _⟩ rfl (w.mono (fun r2 σ1 w => ?_))
    show XX g true (d + 1) P_X12_which 141 [(2, 88), (0, x1), (0, x2), (1, x3), (9, 0), (0, x5), (0, x6), (9, 0)] [(1, r2)] 136 σ1 136 Q
    refine E_lstore (ls' := [(2, 88), (0, x1), (0, x2), (1, x3), (9, 0), (0, x5), (1, r2), (9, 0)]) 143 dX12_which_141 (by decide) rfl rfl ?_
    refine E_iload_n 144 dX12_which_143 rfl rfl ?_
    refine E_iconst 145 dX12_which_144 (by decide) rfl ?_
    refine E_icmp_eq 148 179 dX12_which_145 rfl rfl (fun h => ?_) (fun h => ?_)
    · have w := w.1 h
      refine E_iload 181 dX12_which_179 rfl rfl ?_
      refine E_istore_n (ls' := [(2, 88), (0, x1), (0, x5), (1, x3), (9, 0), (0, x5), (1, r2), (9, 0)]) 182 dX12_which_181 (by decide) rfl rfl ?_
      refine E_lload 184 dX12_which_182 rfl rfl ?_
      refine E_lstore_n (ls' := [(2, 88), (0, x1), (0, x5), (1, r2), (9, 0), (0, x5), (1, r2), (9, 0)]) 185 dX12_which_184 (by decide) rfl rfl ?_
      refine E_iinc (ls' := [(2, 88), (0, x1), (0, x5), (1, r2), (9, 0), (0, w32 (x5 + 1)), (1, r2), (9, 0)]) 188 dX12_which_185 (by decide) rfl rfl rfl ?_
      refine E_goto 37 dX12_which_188 rfl ?_
      refine XX.fg [6] [(2, 88), (0, x1), (0, x5), (1, r2), (9, 0), (0, w32 (x5 + 1)), (9, 0), (9, 0)] rfl ?_
      with_reducible exact w
    · have w := w.2 h
      refine E_lload 150 dX12_which_148 rfl rfl ?_
      refine E_lload_n 151 dX12_which_150 rfl rfl ?_
      refine E_lcmp 152 dX12_which_151 rfl ?_
      refine E_if_gt 155 185 dX12_which_152 rfl rfl (fun h => ?_) (fun h => ?_)
      · have w := w.1 ((lc_gt _ _).mp h)
        refine E_iinc (ls' := [(2, 88), (0, x1), (0, x2), (1, x3), (9, 0), (0, w32 (x5 + 1)), (1, r2), (9, 0)]) 188 dX12_which_185 (by decide) rfl rfl rfl ?_
        refine E_goto 37 dX12_which_188 rfl ?_
        refine XX.fg [6] [(2, 88), (0, x1), (0, x2), (1, x3), (9, 0), (0, w32 (x5 + 1)), (9, 0), (9, 0)] rfl ?_
        with_reducible exact w
      · have w := w.2 ((lc_le _ _).mp h)
        refine E_lload 157 dX12_which_155 rfl rfl ?_
        refine E_lload_n 158 dX12_which_157 rfl rfl ?_
        refine E_lcmp 159 dX12_which_158 rfl ?_
        refine E_if_ne 162 179 dX12_which_159 rfl rfl (fun h => ?_) (fun h => ?_)
        · have w := w.1 ((lc_ne _ _).mp h)
          refine E_iload 181 dX12_which_179 rfl rfl ?_
          refine E_istore_n (ls' := [(2, 88), (0, x1), (0, x5), (1, x3), (9, 0), (0, x5), (1, r2), (9, 0)]) 182 dX12_which_181 (by decide) rfl rfl ?_
          refine E_lload 184 dX12_which_182 rfl rfl ?_
          refine E_lstore_n (ls' := [(2, 88), (0, x1), (0, x5), (1, r2), (9, 0), (0, x5), (1, r2), (9, 0)]) 185 dX12_which_184 (by decide) rfl rfl ?_
          refine E_iinc (ls' := [(2, 88), (0, x1), (0, x5), (1, r2), (9, 0), (0, w32 (x5 + 1)), (1, r2), (9, 0)]) 188 dX12_which_185 (by decide) rfl rfl rfl ?_
          refine E_goto 37 dX12_which_188 rfl ?_
          refine XX.fg [6] [(2, 88), (0, x1), (0, x5), (1, r2), (9, 0), (0, w32 (x5 + 1)), (9, 0), (9, 0)] rfl ?_
          with_reducible exact w
        · have w := w.2 ((lc_eq _ _).mp h)
          refine E_aload_n 163 dX12_which_162 rfl (ac_88.bnd) rfl ?_
          refine E_iload 165 dX12_which_163 rfl rfl ?_
          refine E_callV (as := [(0, x5)]) 168 dX12_which_165 cf_X12_ones mw_1532 mw_1534 mw_73 ac_88 (by decide) cl_X12 rfl rfl (Nat.le_of_ble_eq_true rfl) (Nat.le_of_ble_eq_true rfl) ⟨Nat.le_refl _, Nat.le_refl _⟩ rfl (w.mono (fun r4 σ3 w => ?_))
          show XX g true (d + 1) P_X12_which 168 [(2, 88), (0, x1), (0, x2), (1, x3), (9, 0), (0, x5), (1, r2), (9, 0)] [(0, r4)] 136 σ3 136 Q
          refine E_aload_n 169 dX12_which_168 rfl (ac_88.bnd) rfl ?_
          refine E_iload_n 170 dX12_which_169 rfl rfl ?_
          refine E_callV (as := [(0, x2)]) 173 dX12_which_170 cf_X12_ones mw_1532 mw_1534 mw_73 ac_88 (by decide) cl_X12 rfl rfl (Nat.le_of_ble_eq_true rfl) (Nat.le_of_ble_eq_true rfl) ⟨Nat.le_refl _, Nat.le_refl _⟩ rfl (w.mono (fun r6 σ5 w => ?_))
          show XX g true (d + 1) P_X12_which 173 [(2, 88), (0, x1), (0, x2), (1, x3), (9, 0), (0, x5), (1, r2), (9, 0)] [(0, r6), (0, r4)] 136 σ5 136 Q
          refine E_icmp_lt 176 179 dX12_which_173 rfl rfl (fun h => ?_) (fun h => ?_)
          · have w := w.1 h
            refine E_iload 181 dX12_which_179 rfl rfl ?_
            refine E_istore_n (ls' := [(2, 88), (0, x1), (0, x5), (1, x3), (9, 0), (0, x5), (1, r2), (9, 0)]) 182 dX12_which_181 (by decide) rfl rfl ?_
            refine E_lload 184 dX12_which_182 rfl rfl ?_
            refine E_lstore_n (ls' := [(2, 88), (0, x1), (0, x5), (1, r2), (9, 0), (0, x5), (1, r2), (9, 0)]) 185 dX12_which_184 (by decide) rfl rfl ?_
            refine E_iinc (ls' := [(2, 88), (0, x1), (0, x5), (1, r2), (9, 0), (0, w32 (x5 + 1)), (1, r2), (9, 0)]) 188 dX12_which_185 (by decide) rfl rfl rfl ?_
            refine E_goto 37 dX12_which_188 rfl ?_
            refine XX.fg [6] [(2, 88), (0, x1), (0, x5), (1, r2), (9, 0), (0, w32 (x5 + 1)), (9, 0), (9, 0)] rfl ?_
            with_reducible exact w
          · have w := w.2 h
            refine E_goto 185 dX12_which_176 rfl ?_
            refine E_iinc (ls' := [(2, 88), (0, x1), (0, x2), (1, x3), (9, 0), (0, w32 (x5 + 1)), (1, r2), (9, 0)]) 188 dX12_which_185 (by decide) rfl rfl rfl ?_
            refine E_goto 37 dX12_which_188 rfl ?_
            refine XX.fg [6] [(2, 88), (0, x1), (0, x2), (1, x3), (9, 0), (0, w32 (x5 + 1)), (9, 0), (9, 0)] rfl ?_
            with_reducible exact w
  · have w := w.2 h
    refine E_aload_n 74 dX12_which_73 rfl (ac_88.bnd) rfl ?_
    refine E_getL 77 dX12_which_74 fl_X12_17 ac_88 rfl (by decide) lay_88_4 rfl ?_
    refine E_iload 79 dX12_which_77 rfl rfl ?_
    refine E_iload 81 dX12_which_79 rfl rfl ?_
    refine E_iload 83 dX12_which_81 rfl rfl ?_
    refine E_ishr 84 dX12_which_83 rfl ?_
    refine E_iconst 85 dX12_which_84 (by decide) rfl ?_
    refine E_iand 86 dX12_which_85 rfl ?_
    refine E_iconst 87 dX12_which_86 (by decide) rfl ?_
    refine E_icmp_ne 90 94 dX12_which_87 rfl rfl (fun h => ?_) (fun h => ?_)
    · have w := w.1 h
      refine E_aload_n 95 dX12_which_94 rfl (ac_88.bnd) rfl ?_
      refine E_getL 98 dX12_which_95 fl_X12_142 ac_88 rfl (by decide) lay_88_64 rfl ?_
      refine E_iload 100 dX12_which_98 rfl rfl ?_
      obtain ⟨c7, w⟩ := w
      refine E_iald 101 dX12_which_100 ac_128 c7 rfl ?_
      refine E_iast 102 dX12_which_101 ac_90 c7 rfl ?_
      refine E_aload_n 103 dX12_which_102 rfl (ac_88.bnd) rfl ?_
      refine E_getL 106 dX12_which_103 fl_X12_20 ac_88 rfl (by decide) lay_88_5 rfl ?_
      refine E_iload 108 dX12_which_106 rfl rfl ?_
      refine E_iload 110 dX12_which_108 rfl rfl ?_
      refine E_iload 112 dX12_which_110 rfl rfl ?_
      refine E_ishr 113 dX12_which_112 rfl ?_
      refine E_iconst 114 dX12_which_113 (by decide) rfl ?_
      refine E_iand 115 dX12_which_114 rfl ?_
      refine E_iconst 116 dX12_which_115 (by decide) rfl ?_
      refine E_icmp_ne 119 123 dX12_which_116 rfl rfl (fun h => ?_) (fun h => ?_)
      · have w := w.1 h
        refine E_aload_n 124 dX12_which_123 rfl (ac_88.bnd) rfl ?_
        refine E_getL 127 dX12_which_124 fl_X12_145 ac_88 rfl (by decide) lay_88_65 rfl ?_
        refine E_iload 129 dX12_which_127 rfl rfl ?_
        refine E_iald 130 dX12_which_129 ac_129 c7 rfl ?_
        refine E_conv (su_ne (Or.inl (by decide))) ?_
        refine E_iast 131 dX12_which_130 ac_91 c7 rfl ?_
        refine E_iinc (ls' := [(2, 88), (0, x1), (0, x2), (1, x3), (9, 0), (0, x5), (0, w32 (x6 + 1)), (9, 0)]) 134 dX12_which_131 (by decide) rfl rfl rfl ?_
        refine E_goto 64 dX12_which_134 rfl ?_
        with_reducible exact w
      · have w := w.2 h
        refine E_iconst 120 dX12_which_119 (by decide) rfl ?_
        refine E_goto 130 dX12_which_120 rfl ?_
        refine E_iast 131 dX12_which_130 ac_91 c7 rfl ?_
        refine E_iinc (ls' := [(2, 88), (0, x1), (0, x2), (1, x3), (9, 0), (0, x5), (0, w32 (x6 + 1)), (9, 0)]) 134 dX12_which_131 (by decide) rfl rfl rfl ?_
        refine E_goto 64 dX12_which_134 rfl ?_
        with_reducible exact w
    · have w := w.2 h
      refine E_iconst 91 dX12_which_90 (by decide) rfl ?_
      refine E_goto 101 dX12_which_91 rfl ?_
      obtain ⟨c8, w⟩ := w
      refine E_iast 102 dX12_which_101 ac_90 c8 rfl ?_
      refine E_aload_n 103 dX12_which_102 rfl (ac_88.bnd) rfl ?_
      refine E_getL 106 dX12_which_103 fl_X12_20 ac_88 rfl (by decide) lay_88_5 rfl ?_
      refine E_iload 108 dX12_which_106 rfl rfl ?_
      refine E_iload 110 dX12_which_108 rfl rfl ?_
      refine E_iload 112 dX12_which_110 rfl rfl ?_
      refine E_ishr 113 dX12_which_112 rfl ?_
      refine E_iconst 114 dX12_which_113 (by decide) rfl ?_
      refine E_iand 115 dX12_which_114 rfl ?_
      refine E_iconst 116 dX12_which_115 (by decide) rfl ?_
      refine E_icmp_ne 119 123 dX12_which_116 rfl rfl (fun h => ?_) (fun h => ?_)
      · have w := w.1 h
        refine E_aload_n 124 dX12_which_123 rfl (ac_88.bnd) rfl ?_
        refine E_getL 127 dX12_which_124 fl_X12_145 ac_88 rfl (by decide) lay_88_65 rfl ?_
        refine E_iload 129 dX12_which_127 rfl rfl ?_
        refine E_iald 130 dX12_which_129 ac_129 c8 rfl ?_
        refine E_conv (su_ne (Or.inl (by decide))) ?_
        refine E_iast 131 dX12_which_130 ac_91 c8 rfl ?_
        refine E_iinc (ls' := [(2, 88), (0, x1), (0, x2), (1, x3), (9, 0), (0, x5), (0, w32 (x6 + 1)), (9, 0)]) 134 dX12_which_131 (by decide) rfl rfl rfl ?_
        refine E_goto 64 dX12_which_134 rfl ?_
        with_reducible exact w
      · have w := w.2 h
        refine E_iconst 120 dX12_which_119 (by decide) rfl ?_
        refine E_goto 130 dX12_which_120 rfl ?_
        refine E_iast 131 dX12_which_130 ac_91 c8 rfl ?_
        refine E_iinc (ls' := [(2, 88), (0, x1), (0, x2), (1, x3), (9, 0), (0, x5), (0, w32 (x6 + 1)), (9, 0)]) 134 dX12_which_131 (by decide) rfl rfl rfl ?_
        refine E_goto 64 dX12_which_134 rfl ?_
        with_reducible exact w
