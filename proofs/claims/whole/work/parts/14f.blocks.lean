/-! BLOCKS, printed by a program of ours: what each stretch of a method asks -/
theorem B_X12_goesOn_0 {g : PG} {d : Nat} {σ : PS} {Q : Int → PS → Prop}  (w : ∀ y1, y1 = w32 ((σ 88 2) - 2) → (XX g true d P_X12_goesOn 7 [(2, 88), (0, y1), (9, 0), (9, 0), (9, 0), (9, 0)] [] 136 σ 136 Q)) : XX g true d P_X12_goesOn 0 [(2, 88), (9, 0), (9, 0), (9, 0), (9, 0), (9, 0)] [] 136 σ 136 Q := by
  refine E_aload_n 1 dX12_goesOn_0 rfl (ac_88.bnd) rfl ?_
  refine E_get 2 4 dX12_goesOn_1 fl_X12_7 ac_88 rfl (by decide) rfl rfl ?_
  refine E_iconst 5 dX12_goesOn_4 (by decide) rfl ?_
  refine E_isub 6 dX12_goesOn_5 rfl ?_
  refine E_top (fun y1 hy1 => ?_)
  have w := w y1 hy1
  refine E_istore_n (ls' := [(2, 88), (0, y1), (9, 0), (9, 0), (9, 0), (9, 0)]) 7 dX12_goesOn_6 (by decide) rfl rfl ?_
  with_reducible exact w
theorem B_X12_goesOn_7 {g : PG} {d : Nat} {σ : PS} {Q : Int → PS → Prop} {x1 : Int}  (w : ((x1 < 0 → ((0 ≤ x1 → ∀ y1, y1 = w32 ((σ 88 2) - 1) → (XX g true d P_X12_goesOn 48 [(2, 88), (0, x1), (0, y1), (9, 0), (9, 0), (9, 0)] [] 136 σ 136 Q)) ∧ (x1 < 0 → Q 0 σ))) ∧ (0 ≤ x1 → (0 ≤ x1 ∧ x1 < 7) ∧ (0 ≤ w32 (x1 + 1) ∧ w32 (x1 + 1) < 7) ∧ ((σ 130 x1 < σ 130 (w32 (x1 + 1)) → ((0 ≤ x1 → ∀ y4, y4 = w32 ((σ 88 2) - 1) → (XX g true d P_X12_goesOn 48 [(2, 88), (0, x1), (0, y4), (9, 0), (9, 0), (9, 0)] [] 136 σ 136 Q)) ∧ (x1 < 0 → Q 0 σ))) ∧ (σ 130 (w32 (x1 + 1)) ≤ σ 130 x1 → ∀ y5, y5 = w32 (x1 - 1) → (XX g true d P_X12_goesOn 7 [(2, 88), (0, y5), (9, 0), (9, 0), (9, 0), (9, 0)] [] 136 σ 136 Q)))))) : XX g true d P_X12_goesOn 7 [(2, 88), (0, x1), (9, 0), (9, 0), (9, 0), (9, 0)] [] 136 σ 136 Q := by
  refine E_iload_n 8 dX12_goesOn_7 rfl rfl ?_
  refine E_if_lt 11 35 dX12_goesOn_8 rfl rfl (fun h => ?_) (fun h => ?_)
  · have w := w.1 h
    refine E_iload_n 36 dX12_goesOn_35 rfl rfl ?_
    refine E_if_ge 39 41 dX12_goesOn_36 rfl rfl (fun h => ?_) (fun h => ?_)
    · have w := w.1 h
      refine E_aload_n 42 dX12_goesOn_41 rfl (ac_88.bnd) rfl ?_
      refine E_get 2 45 dX12_goesOn_42 fl_X12_7 ac_88 rfl (by decide) rfl rfl ?_
      refine E_iconst 46 dX12_goesOn_45 (by decide) rfl ?_
      refine E_isub 47 dX12_goesOn_46 rfl ?_
      refine E_top (fun y1 hy1 => ?_)
      have w := w y1 hy1
      refine E_istore_n (ls' := [(2, 88), (0, x1), (0, y1), (9, 0), (9, 0), (9, 0)]) 48 dX12_goesOn_47 (by decide) rfl rfl ?_
      with_reducible exact w
    · have w := w.2 h
      refine E_iconst 40 dX12_goesOn_39 (by decide) rfl ?_
      exact E_zret dX12_goesOn_40 rfl rfl (Or.inl rfl) w
  · have w := w.2 h
    refine E_aload_n 12 dX12_goesOn_11 rfl (ac_88.bnd) rfl ?_
    refine E_getL 15 dX12_goesOn_12 fl_X12_148 ac_88 rfl (by decide) lay_88_66 rfl ?_
    refine E_iload_n 16 dX12_goesOn_15 rfl rfl ?_
    obtain ⟨c2, w⟩ := w
    refine E_iald 17 dX12_goesOn_16 ac_130 c2 rfl ?_
    refine E_aload_n 18 dX12_goesOn_17 rfl (ac_88.bnd) rfl ?_
    refine E_getL 21 dX12_goesOn_18 fl_X12_148 ac_88 rfl (by decide) lay_88_66 rfl ?_
    refine E_iload_n 22 dX12_goesOn_21 rfl rfl ?_
    refine E_iconst 23 dX12_goesOn_22 (by decide) rfl ?_
    refine E_iadd 24 dX12_goesOn_23 rfl ?_
    obtain ⟨c3, w⟩ := w
    refine E_iald 25 dX12_goesOn_24 ac_130 c3 rfl ?_
    refine E_icmp_lt 28 35 dX12_goesOn_25 rfl rfl (fun h => ?_) (fun h => ?_)
    · have w := w.1 h
      refine E_iload_n 36 dX12_goesOn_35 rfl rfl ?_
      refine E_if_ge 39 41 dX12_goesOn_36 rfl rfl (fun h => ?_) (fun h => ?_)
      · have w := w.1 h
        refine E_aload_n 42 dX12_goesOn_41 rfl (ac_88.bnd) rfl ?_
        refine E_get 2 45 dX12_goesOn_42 fl_X12_7 ac_88 rfl (by decide) rfl rfl ?_
        refine E_iconst 46 dX12_goesOn_45 (by decide) rfl ?_
        refine E_isub 47 dX12_goesOn_46 rfl ?_
        refine E_top (fun y4 hy4 => ?_)
        have w := w y4 hy4
        refine E_istore_n (ls' := [(2, 88), (0, x1), (0, y4), (9, 0), (9, 0), (9, 0)]) 48 dX12_goesOn_47 (by decide) rfl rfl ?_
        with_reducible exact w
      · have w := w.2 h
        refine E_iconst 40 dX12_goesOn_39 (by decide) rfl ?_
        exact E_zret dX12_goesOn_40 rfl rfl (Or.inl rfl) w
    · have w := w.2 h
      refine E_iload_n 29 dX12_goesOn_28 rfl rfl ?_
      refine E_iconst 30 dX12_goesOn_29 (by decide) rfl ?_
      refine E_isub 31 dX12_goesOn_30 rfl ?_
      refine E_top (fun y5 hy5 => ?_)
      have w := w y5 hy5
      refine E_istore_n (ls' := [(2, 88), (0, y5), (9, 0), (9, 0), (9, 0), (9, 0)]) 32 dX12_goesOn_31 (by decide) rfl rfl ?_
      refine E_goto 7 dX12_goesOn_32 rfl ?_
      with_reducible exact w
theorem B_X12_goesOn_48 {g : PG} {d : Nat} {σ : PS} {Q : Int → PS → Prop} {x1 x2 : Int}  (w : (0 ≤ x2 ∧ x2 < 7) ∧ (0 ≤ x1 ∧ x1 < 7) ∧ ((σ 130 x1 < σ 130 x2 → ∀ y3, y3 = σ 130 x1 → ∀ y4, y4 = w32 (x1 + 1) → ∀ y5, y5 = w32 ((σ 88 2) - 1) → (XX g true d P_X12_goesOn 109 [(2, 88), (9, 0), (9, 0), (9, 0), (0, y4), (0, y5)] [] 136 (su (su σ 130 x1 (σ 130 x2)) 130 x2 y3) 136 Q)) ∧ (σ 130 x2 ≤ σ 130 x1 → ∀ y6, y6 = w32 (x2 - 1) → (XX g true d P_X12_goesOn 48 [(2, 88), (0, x1), (0, y6), (9, 0), (9, 0), (9, 0)] [] 136 σ 136 Q)))) : XX g true d P_X12_goesOn 48 [(2, 88), (0, x1), (0, x2), (9, 0), (9, 0), (9, 0)] [] 136 σ 136 Q := by
  refine E_aload_n 49 dX12_goesOn_48 rfl (ac_88.bnd) rfl ?_
  refine E_getL 52 dX12_goesOn_49 fl_X12_148 ac_88 rfl (by decide) lay_88_66 rfl ?_
  refine E_iload_n 53 dX12_goesOn_52 rfl rfl ?_
  obtain ⟨c1, w⟩ := w
  refine E_iald 54 dX12_goesOn_53 ac_130 c1 rfl ?_
  refine E_aload_n 55 dX12_goesOn_54 rfl (ac_88.bnd) rfl ?_
  refine E_getL 58 dX12_goesOn_55 fl_X12_148 ac_88 rfl (by decide) lay_88_66 rfl ?_
  refine E_iload_n 59 dX12_goesOn_58 rfl rfl ?_
  obtain ⟨c2, w⟩ := w
  refine E_iald 60 dX12_goesOn_59 ac_130 c2 rfl ?_
  refine E_icmp_gt 63 70 dX12_goesOn_60 rfl rfl (fun h => ?_) (fun h => ?_)
  · have w := w.1 h
    refine E_aload_n 71 dX12_goesOn_70 rfl (ac_88.bnd) rfl ?_
    refine E_getL 74 dX12_goesOn_71 fl_X12_148 ac_88 rfl (by decide) lay_88_66 rfl ?_
    refine E_iload_n 75 dX12_goesOn_74 rfl rfl ?_
    refine E_iald 76 dX12_goesOn_75 ac_130 c2 rfl ?_
    refine E_top (fun y3 hy3 => ?_)
    have w := w y3 hy3
    refine E_istore_n (ls' := [(2, 88), (0, x1), (0, x2), (0, y3), (9, 0), (9, 0)]) 77 dX12_goesOn_76 (by decide) rfl rfl ?_
    refine E_aload_n 78 dX12_goesOn_77 rfl (ac_88.bnd) rfl ?_
    refine E_getL 81 dX12_goesOn_78 fl_X12_148 ac_88 rfl (by decide) lay_88_66 rfl ?_
    refine E_iload_n 82 dX12_goesOn_81 rfl rfl ?_
    refine E_aload_n 83 dX12_goesOn_82 rfl (ac_88.bnd) rfl ?_
    refine E_getL 86 dX12_goesOn_83 fl_X12_148 ac_88 rfl (by decide) lay_88_66 rfl ?_
    refine E_iload_n 87 dX12_goesOn_86 rfl rfl ?_
    refine E_iald 88 dX12_goesOn_87 ac_130 c1 rfl ?_
    refine E_iast 89 dX12_goesOn_88 ac_130 c2 rfl ?_
    refine E_aload_n 90 dX12_goesOn_89 rfl (ac_88.bnd) rfl ?_
    refine E_getL 93 dX12_goesOn_90 fl_X12_148 ac_88 rfl (by decide) lay_88_66 rfl ?_
    refine E_iload_n 94 dX12_goesOn_93 rfl rfl ?_
    refine E_iload_n 95 dX12_goesOn_94 rfl rfl ?_
    refine E_iast 96 dX12_goesOn_95 ac_130 c1 rfl ?_
    refine E_iload_n 97 dX12_goesOn_96 rfl rfl ?_
    refine E_iconst 98 dX12_goesOn_97 (by decide) rfl ?_
    refine E_iadd 99 dX12_goesOn_98 rfl ?_
    refine E_top (fun y4 hy4 => ?_)
    have w := w y4 hy4
    refine E_istore (ls' := [(2, 88), (0, x1), (0, x2), (0, y3), (0, y4), (9, 0)]) 101 dX12_goesOn_99 (by decide) rfl rfl ?_
    refine E_aload_n 102 dX12_goesOn_101 rfl (ac_88.bnd) rfl ?_
    refine E_get 2 105 dX12_goesOn_102 fl_X12_7 ac_88 rfl (by decide) rfl rfl ?_
    refine E_conv ((su_ne (Or.inl (by decide))).trans (su_ne (Or.inl (by decide)))) ?_
    refine E_iconst 106 dX12_goesOn_105 (by decide) rfl ?_
    refine E_isub 107 dX12_goesOn_106 rfl ?_
    refine E_top (fun y5 hy5 => ?_)
    have w := w y5 hy5
    refine E_istore (ls' := [(2, 88), (0, x1), (0, x2), (0, y3), (0, y4), (0, y5)]) 109 dX12_goesOn_107 (by decide) rfl rfl ?_
    refine XX.fg [1, 2, 3] [(2, 88), (9, 0), (9, 0), (9, 0), (0, y4), (0, y5)] rfl ?_
    with_reducible exact w
  · have w := w.2 h
    refine E_iload_n 64 dX12_goesOn_63 rfl rfl ?_
    refine E_iconst 65 dX12_goesOn_64 (by decide) rfl ?_
    refine E_isub 66 dX12_goesOn_65 rfl ?_
    refine E_top (fun y6 hy6 => ?_)
    have w := w y6 hy6
    refine E_istore_n (ls' := [(2, 88), (0, x1), (0, y6), (9, 0), (9, 0), (9, 0)]) 67 dX12_goesOn_66 (by decide) rfl rfl ?_
    refine E_goto 48 dX12_goesOn_67 rfl ?_
    with_reducible exact w
theorem B_X12_goesOn_109 {g : PG} {d : Nat} {σ : PS} {Q : Int → PS → Prop} {x4 x5 : Int}  (w : ((x5 ≤ x4 → Q 1 σ) ∧ (x4 < x5 → (0 ≤ x4 ∧ x4 < 7) ∧ ∀ y2, y2 = σ 130 x4 → (0 ≤ x5 ∧ x5 < 7) ∧ ∀ y4, y4 = w32 (x4 + 1) → ∀ y5, y5 = w32 (x5 - 1) → (XX g true d P_X12_goesOn 109 [(2, 88), (9, 0), (9, 0), (9, 0), (0, y4), (0, y5)] [] 136 (su (su σ 130 x4 (σ 130 x5)) 130 x5 y2) 136 Q)))) : XX g true d P_X12_goesOn 109 [(2, 88), (9, 0), (9, 0), (9, 0), (0, x4), (0, x5)] [] 136 σ 136 Q := by
  refine E_iload 111 dX12_goesOn_109 rfl rfl ?_
  refine E_iload 113 dX12_goesOn_111 rfl rfl ?_
  refine E_icmp_ge 116 161 dX12_goesOn_113 rfl rfl (fun h => ?_) (fun h => ?_)
  · have w := w.1 h
    refine E_iconst 162 dX12_goesOn_161 (by decide) rfl ?_
    exact E_zret dX12_goesOn_162 rfl rfl (Or.inr rfl) w
  · have w := w.2 h
    refine E_aload_n 117 dX12_goesOn_116 rfl (ac_88.bnd) rfl ?_
    refine E_getL 120 dX12_goesOn_117 fl_X12_148 ac_88 rfl (by decide) lay_88_66 rfl ?_
    refine E_iload 122 dX12_goesOn_120 rfl rfl ?_
    obtain ⟨c1, w⟩ := w
    refine E_iald 123 dX12_goesOn_122 ac_130 c1 rfl ?_
    refine E_top (fun y2 hy2 => ?_)
    have w := w y2 hy2
    refine E_istore_n (ls' := [(2, 88), (9, 0), (9, 0), (0, y2), (0, x4), (0, x5)]) 124 dX12_goesOn_123 (by decide) rfl rfl ?_
    refine E_aload_n 125 dX12_goesOn_124 rfl (ac_88.bnd) rfl ?_
    refine E_getL 128 dX12_goesOn_125 fl_X12_148 ac_88 rfl (by decide) lay_88_66 rfl ?_
    refine E_iload 130 dX12_goesOn_128 rfl rfl ?_
    refine E_aload_n 131 dX12_goesOn_130 rfl (ac_88.bnd) rfl ?_
    refine E_getL 134 dX12_goesOn_131 fl_X12_148 ac_88 rfl (by decide) lay_88_66 rfl ?_
    refine E_iload 136 dX12_goesOn_134 rfl rfl ?_
    obtain ⟨c3, w⟩ := w
    refine E_iald 137 dX12_goesOn_136 ac_130 c3 rfl ?_
    refine E_iast 138 dX12_goesOn_137 ac_130 c1 rfl ?_
    refine E_aload_n 139 dX12_goesOn_138 rfl (ac_88.bnd) rfl ?_
    refine E_getL 142 dX12_goesOn_139 fl_X12_148 ac_88 rfl (by decide) lay_88_66 rfl ?_
    refine E_iload 144 dX12_goesOn_142 rfl rfl ?_
    refine E_iload_n 145 dX12_goesOn_144 rfl rfl ?_
    refine E_iast 146 dX12_goesOn_145 ac_130 c3 rfl ?_
    refine E_iload 148 dX12_goesOn_146 rfl rfl ?_
    refine E_iconst 149 dX12_goesOn_148 (by decide) rfl ?_
    refine E_iadd 150 dX12_goesOn_149 rfl ?_
    refine E_top (fun y4 hy4 => ?_)
    have w := w y4 hy4
    refine E_istore (ls' := [(2, 88), (9, 0), (9, 0), (0, y2), (0, y4), (0, x5)]) 152 dX12_goesOn_150 (by decide) rfl rfl ?_
    refine E_iload 154 dX12_goesOn_152 rfl rfl ?_
    refine E_iconst 155 dX12_goesOn_154 (by decide) rfl ?_
    refine E_isub 156 dX12_goesOn_155 rfl ?_
    refine E_top (fun y5 hy5 => ?_)
    have w := w y5 hy5
    refine E_istore (ls' := [(2, 88), (9, 0), (9, 0), (0, y2), (0, y4), (0, y5)]) 158 dX12_goesOn_156 (by decide) rfl rfl ?_
    refine E_goto 109 dX12_goesOn_158 rfl ?_
    refine XX.fg [3] [(2, 88), (9, 0), (9, 0), (9, 0), (0, y4), (0, y5)] rfl ?_
    with_reducible exact w
theorem B_X12_sortsOrder_0 {g : PG} {d : Nat} {σ : PS} {Q : Int → PS → Prop}  (w : (XX g true d P_X12_sortsOrder 4 [(2, 88), (0, 0), (0, 0), (9, 0)] [] 136 σ 136 Q)) : XX g true d P_X12_sortsOrder 0 [(2, 88), (9, 0), (9, 0), (9, 0)] [] 136 σ 136 Q := by
  refine E_iconst 1 dX12_sortsOrder_0 (by decide) rfl ?_
  refine E_istore_n (ls' := [(2, 88), (0, 0), (9, 0), (9, 0)]) 2 dX12_sortsOrder_1 (by decide) rfl rfl ?_
  refine E_iconst 3 dX12_sortsOrder_2 (by decide) rfl ?_
  refine E_istore_n (ls' := [(2, 88), (0, 0), (0, 0), (9, 0)]) 4 dX12_sortsOrder_3 (by decide) rfl rfl ?_
  with_reducible exact w
theorem B_X12_sortsOrder_4 {g : PG} {d : Nat} {σ : PS} {Q : Int → PS → Prop} {x1 x2 : Int}  (w : ((6 ≤ x2 → Q 0 σ) ∧ (x2 < 6 → (XX g true d P_X12_sortsOrder 12 [(2, 88), (0, x1), (0, x2), (0, 0)] [] 136 σ 136 Q)))) : XX g true d P_X12_sortsOrder 4 [(2, 88), (0, x1), (0, x2), (9, 0)] [] 136 σ 136 Q := by
  refine E_iload_n 5 dX12_sortsOrder_4 rfl rfl ?_
  refine E_bipush 7 dX12_sortsOrder_5 (by decide) rfl ?_
  refine E_icmp_ge 10 56 dX12_sortsOrder_7 rfl rfl (fun h => ?_) (fun h => ?_)
  · have w := w.1 h
    exact E_vret dX12_sortsOrder_56 rfl rfl w
  · have w := w.2 h
    refine E_iconst 11 dX12_sortsOrder_10 (by decide) rfl ?_
    refine E_istore_n (ls' := [(2, 88), (0, x1), (0, x2), (0, 0)]) 12 dX12_sortsOrder_11 (by decide) rfl rfl ?_
    with_reducible exact w
theorem B_X12_sortsOrder_12 {g : PG} {d : Nat} {σ : PS} {Q : Int → PS → Prop} {x1 x2 x3 : Int}  (w : ((σ 88 2 ≤ x3 → (XX g true d P_X12_sortsOrder 4 [(2, 88), (0, x1), (0, w32 (x2 + 1)), (9, 0)] [] 136 σ 136 Q)) ∧ (x3 < σ 88 2 → (0 ≤ x3 ∧ x3 < 60) ∧ ((σ 89 x3 = x2 → (0 ≤ x1 ∧ x1 < 7) ∧ ∀ y3, y3 = w32 (x1 + 1) → (XX g true d P_X12_sortsOrder 12 [(2, 88), (0, y3), (0, x2), (0, w32 (x3 + 1))] [] 136 (su σ 130 x1 x2) 136 Q)) ∧ (σ 89 x3 ≠ x2 → (XX g true d P_X12_sortsOrder 12 [(2, 88), (0, x1), (0, x2), (0, w32 (x3 + 1))] [] 136 σ 136 Q)))))) : XX g true d P_X12_sortsOrder 12 [(2, 88), (0, x1), (0, x2), (0, x3)] [] 136 σ 136 Q := by
  refine E_iload_n 13 dX12_sortsOrder_12 rfl rfl ?_
  refine E_aload_n 14 dX12_sortsOrder_13 rfl (ac_88.bnd) rfl ?_
  refine E_get 2 17 dX12_sortsOrder_14 fl_X12_7 ac_88 rfl (by decide) rfl rfl ?_
  refine E_icmp_ge 20 50 dX12_sortsOrder_17 rfl rfl (fun h => ?_) (fun h => ?_)
  · have w := w.1 h
    refine E_iinc (ls' := [(2, 88), (0, x1), (0, w32 (x2 + 1)), (0, x3)]) 53 dX12_sortsOrder_50 (by decide) rfl rfl rfl ?_
    refine E_goto 4 dX12_sortsOrder_53 rfl ?_
    refine XX.fg [3] [(2, 88), (0, x1), (0, w32 (x2 + 1)), (9, 0)] rfl ?_
    with_reducible exact w
  · have w := w.2 h
    refine E_aload_n 21 dX12_sortsOrder_20 rfl (ac_88.bnd) rfl ?_
    refine E_getL 24 dX12_sortsOrder_21 fl_X12_13 ac_88 rfl (by decide) lay_88_3 rfl ?_
    refine E_iload_n 25 dX12_sortsOrder_24 rfl rfl ?_
    obtain ⟨c1, w⟩ := w
    refine E_iald 26 dX12_sortsOrder_25 ac_89 c1 rfl ?_
    refine E_iload_n 27 dX12_sortsOrder_26 rfl rfl ?_
    refine E_icmp_eq 30 33 dX12_sortsOrder_27 rfl rfl (fun h => ?_) (fun h => ?_)
    · have w := w.1 h
      refine E_aload_n 34 dX12_sortsOrder_33 rfl (ac_88.bnd) rfl ?_
      refine E_getL 37 dX12_sortsOrder_34 fl_X12_148 ac_88 rfl (by decide) lay_88_66 rfl ?_
      refine E_iload_n 38 dX12_sortsOrder_37 rfl rfl ?_
      refine E_iload_n 39 dX12_sortsOrder_38 rfl rfl ?_
      obtain ⟨c2, w⟩ := w
      refine E_iast 40 dX12_sortsOrder_39 ac_130 c2 rfl ?_
      refine E_iload_n 41 dX12_sortsOrder_40 rfl rfl ?_
      refine E_iconst 42 dX12_sortsOrder_41 (by decide) rfl ?_
      refine E_iadd 43 dX12_sortsOrder_42 rfl ?_
      refine E_top (fun y3 hy3 => ?_)
      have w := w y3 hy3
      refine E_istore_n (ls' := [(2, 88), (0, y3), (0, x2), (0, x3)]) 44 dX12_sortsOrder_43 (by decide) rfl rfl ?_
      refine E_iinc (ls' := [(2, 88), (0, y3), (0, x2), (0, w32 (x3 + 1))]) 47 dX12_sortsOrder_44 (by decide) rfl rfl rfl ?_
      refine E_goto 12 dX12_sortsOrder_47 rfl ?_
      with_reducible exact w
    · have w := w.2 h
      refine E_goto 44 dX12_sortsOrder_30 rfl ?_
      refine E_iinc (ls' := [(2, 88), (0, x1), (0, x2), (0, w32 (x3 + 1))]) 47 dX12_sortsOrder_44 (by decide) rfl rfl rfl ?_
      refine E_goto 12 dX12_sortsOrder_47 rfl ?_
      with_reducible exact w
theorem B_X12_where_0 {g : PG} {d : Nat} {σ : PS} {Q : Int → PS → Prop} {x1 : Int}  (w : ((7 < σ 88 2 → Q (-1) (su σ 88 0 0)) ∧ (σ 88 2 ≤ 7 → XX g true d P_X12_isPlace 0 [(2, 88), (0, x1)] [] 136 (su σ 88 0 0) 136 (fun r2 σ1 => ((r2 ≠ 0 → XX g true d P_X12_keepsRow 0 [(2, 88), (9, 0)] [] 136 σ1 136 (fun _ σ3 => XX g true d P_X12_sortsOrder 0 [(2, 88), (9, 0), (9, 0), (9, 0)] [] 136 σ3 136 (fun _ σ5 => (XX g true (d + 1) P_X12_where 39 [(2, 88), (0, x1), (0, 1), (1, 0), (9, 0), (0, 1), (9, 0), (9, 0), (9, 0)] [] 136 σ5 136 Q)))) ∧ (r2 = 0 → Q (-1) σ1)))))) : XX g true (d + 1) P_X12_where 0 [(2, 88), (0, x1), (9, 0), (9, 0), (9, 0), (9, 0), (9, 0), (9, 0), (9, 0)] [] 136 σ 136 Q := by
  refine E_aload_n 1 dX12_where_0 rfl (ac_88.bnd) rfl ?_
  refine E_iconst 2 dX12_where_1 (by decide) rfl ?_
  refine E_putI 0 5 dX12_where_2 fl_X12_166 ac_88 rfl (by decide) (Or.inl rfl) rfl rfl ?_
  refine E_aload_n 6 dX12_where_5 rfl (ac_88.bnd) rfl ?_
  refine E_get 2 9 dX12_where_6 fl_X12_7 ac_88 rfl (by decide) rfl rfl ?_
  refine E_conv (su_ne (Or.inr (by decide))) ?_
  refine E_bipush 11 dX12_where_9 (by decide) rfl ?_
  refine E_icmp_gt 14 22 dX12_where_11 rfl rfl (fun h => ?_) (fun h => ?_)
  · have w := w.1 h
    refine E_iconst 23 dX12_where_22 (by decide) rfl ?_
    exact E_iret dX12_where_23 rfl rfl w
  · have w := w.2 h
    refine E_aload_n 15 dX12_where_14 rfl (ac_88.bnd) rfl ?_
    refine E_iload_n 16 dX12_where_15 rfl rfl ?_
    refine E_callV (as := [(0, x1)]) 19 dX12_where_16 cf_X12_isPlace mw_1371 mw_1373 mw_40 ac_88 (by decide) cl_X12 rfl rfl (Nat.le_of_ble_eq_true rfl) (Nat.le_of_ble_eq_true rfl) ⟨Nat.le_refl _, Nat.le_refl _⟩ rfl (w.mono (fun r2 σ1 w => ?_))
    show XX g true (d + 1) P_X12_where 19 [(2, 88), (0, x1), (9, 0), (9, 0), (9, 0), (9, 0), (9, 0), (9, 0), (9, 0)] [(0, r2)] 136 σ1 136 Q
    refine E_if_ne 22 24 dX12_where_19 rfl rfl (fun h => ?_) (fun h => ?_)
    · have w := w.1 h
      refine E_aload_n 25 dX12_where_24 rfl (ac_88.bnd) rfl ?_
      refine E_callV (as := []) 28 dX12_where_25 cf_X12_keepsRow mw_1670 mw_1672 mw_98 ac_88 (by decide) cl_X12 rfl rfl (Nat.le_of_ble_eq_true rfl) (Nat.le_of_ble_eq_true rfl) ⟨Nat.le_refl _, Nat.le_refl _⟩ rfl (w.mono (fun r4 σ3 w => ?_))
      show XX g true (d + 1) P_X12_where 28 [(2, 88), (0, x1), (9, 0), (9, 0), (9, 0), (9, 0), (9, 0), (9, 0), (9, 0)] [] 136 σ3 136 Q
      refine E_aload_n 29 dX12_where_28 rfl (ac_88.bnd) rfl ?_
      refine E_callV (as := []) 32 dX12_where_29 cf_X12_sortsOrder mw_1682 mw_1684 mw_100 ac_88 (by decide) cl_X12 rfl rfl (Nat.le_of_ble_eq_true rfl) (Nat.le_of_ble_eq_true rfl) ⟨Nat.le_refl _, Nat.le_refl _⟩ rfl (w.mono (fun r6 σ5 w => ?_))
      show XX g true (d + 1) P_X12_where 32 [(2, 88), (0, x1), (9, 0), (9, 0), (9, 0), (9, 0), (9, 0), (9, 0), (9, 0)] [] 136 σ5 136 Q
      refine E_iconst 33 dX12_where_32 (by decide) rfl ?_
      refine E_istore_n (ls' := [(2, 88), (0, x1), (0, 1), (9, 0), (9, 0), (9, 0), (9, 0), (9, 0), (9, 0)]) 34 dX12_where_33 (by decide) rfl rfl ?_
      refine E_lconst (x := 0) 35 dX12_where_34 rfl rfl ?_
      refine E_lstore_n (ls' := [(2, 88), (0, x1), (0, 1), (1, 0), (9, 0), (9, 0), (9, 0), (9, 0), (9, 0)]) 36 dX12_where_35 (by decide) rfl rfl ?_
      refine E_iconst 37 dX12_where_36 (by decide) rfl ?_
      refine E_istore (ls' := [(2, 88), (0, x1), (0, 1), (1, 0), (9, 0), (0, 1), (9, 0), (9, 0), (9, 0)]) 39 dX12_where_37 (by decide) rfl rfl ?_
      with_reducible exact w
    · have w := w.2 h
      refine E_iconst 23 dX12_where_22 (by decide) rfl ?_
      exact E_iret dX12_where_23 rfl rfl w
theorem B_X12_where_39 {g : PG} {d : Nat} {σ : PS} {Q : Int → PS → Prop} {x1 x2 x3 x5 : Int}  (w : ((x5 = 0 → XX g true d P_X12_givesRowBack 0 [(2, 88), (9, 0)] [] 136 σ 136 (fun _ σ1 => (0 ≤ x1 ∧ x1 < 7) ∧ Q (σ1 131 x1) σ1)) ∧ (x5 ≠ 0 → (XX g true (d + 1) P_X12_where 47 [(2, 88), (0, x1), (0, x2), (1, x3), (9, 0), (9, 0), (0, 0), (9, 0), (9, 0)] [] 136 σ 136 Q)))) : XX g true (d + 1) P_X12_where 39 [(2, 88), (0, x1), (0, x2), (1, x3), (9, 0), (0, x5), (9, 0), (9, 0), (9, 0)] [] 136 σ 136 Q := by
  refine E_iload 41 dX12_where_39 rfl rfl ?_
  refine E_if_eq 44 155 dX12_where_41 rfl rfl (fun h => ?_) (fun h => ?_)
  · have w := w.1 h
    refine E_aload_n 156 dX12_where_155 rfl (ac_88.bnd) rfl ?_
    refine E_callV (as := []) 159 dX12_where_156 cf_X12_givesRowBack mw_1674 mw_1676 mw_99 ac_88 (by decide) cl_X12 rfl rfl (Nat.le_of_ble_eq_true rfl) (Nat.le_of_ble_eq_true rfl) ⟨Nat.le_refl _, Nat.le_refl _⟩ rfl (w.mono (fun r2 σ1 w => ?_))
    show XX g true (d + 1) P_X12_where 159 [(2, 88), (0, x1), (0, x2), (1, x3), (9, 0), (0, x5), (9, 0), (9, 0), (9, 0)] [] 136 σ1 136 Q
    refine E_aload_n 160 dX12_where_159 rfl (ac_88.bnd) rfl ?_
    refine E_getL 163 dX12_where_160 fl_X12_151 ac_88 rfl (by decide) lay_88_67 rfl ?_
    refine E_iload_n 164 dX12_where_163 rfl rfl ?_
    obtain ⟨c3, w⟩ := w
    refine E_iald 165 dX12_where_164 ac_131 c3 rfl ?_
    exact E_iret dX12_where_165 rfl rfl w
  · have w := w.2 h
    refine E_iconst 45 dX12_where_44 (by decide) rfl ?_
    refine E_istore (ls' := [(2, 88), (0, x1), (0, x2), (1, x3), (9, 0), (0, x5), (0, 0), (9, 0), (9, 0)]) 47 dX12_where_45 (by decide) rfl rfl ?_
    refine XX.fg [5] [(2, 88), (0, x1), (0, x2), (1, x3), (9, 0), (9, 0), (0, 0), (9, 0), (9, 0)] rfl ?_
    with_reducible exact w
theorem B_X12_where_47 {g : PG} {d : Nat} {σ : PS} {Q : Int → PS → Prop} {x1 x2 x3 x6 : Int}  (w : ((σ 88 2 ≤ x6 → XX g true d P_X12_chanceNow 0 [(2, 88), (9, 0)] [] 136 σ 136 (fun r2 σ1 => ((x2 ≠ 0 → (XX g true (d + 1) P_X12_where 115 [(2, 88), (0, x1), (9, 0), (1, r2), (9, 0), (9, 0), (9, 0), (9, 0), (0, 0)] [] 136 σ1 136 Q)) ∧ (x2 = 0 → ((x3 ≤ r2 → XX g true d P_X12_goesOn 0 [(2, 88), (9, 0), (9, 0), (9, 0), (9, 0), (9, 0)] [] 136 σ1 136 (fun r4 σ3 => (XX g true (d + 1) P_X12_where 39 [(2, 88), (0, x1), (0, 0), (1, x3), (9, 0), (0, r4), (9, 0), (9, 0), (9, 0)] [] 136 σ3 136 Q))) ∧ (r2 < x3 → (XX g true (d + 1) P_X12_where 115 [(2, 88), (0, x1), (9, 0), (1, r2), (9, 0), (9, 0), (9, 0), (9, 0), (0, 0)] [] 136 σ1 136 Q))))))) ∧ (x6 < σ 88 2 → (0 ≤ x6 ∧ x6 < 7) ∧ (0 ≤ x6 ∧ x6 < 60) ∧ (XX g true (d + 1) P_X12_where 47 [(2, 88), (0, x1), (0, x2), (1, x3), (9, 0), (9, 0), (0, w32 (x6 + 1)), (9, 0), (9, 0)] [] 136 (su (su (su σ 89 x6 (σ 130 x6)) 90 x6 0) 91 x6 0) 136 Q)))) : XX g true (d + 1) P_X12_where 47 [(2, 88), (0, x1), (0, x2), (1, x3), (9, 0), (9, 0), (0, x6), (9, 0), (9, 0)] [] 136 σ 136 Q := by
  refine E_iload 49 dX12_where_47 rfl rfl ?_
  refine E_aload_n 50 dX12_where_49 rfl (ac_88.bnd) rfl ?_
  refine E_get 2 53 dX12_where_50 fl_X12_7 ac_88 rfl (by decide) rfl rfl ?_
  refine E_icmp_ge 56 92 dX12_where_53 rfl rfl (fun h => ?_) (fun h => ?_)
  · have w := w.1 h
    refine E_aload_n 93 dX12_where_92 rfl (ac_88.bnd) rfl ?_
    refine E_callV (as := []) 96 dX12_where_93 cf_X12_chanceNow mw_1619 mw_1621 mw_90 ac_88 (by decide) cl_X12 rfl rfl (Nat.le_of_ble_eq_true rfl) (Nat.le_of_ble_eq_true rfl) ⟨Nat.le_refl _, Nat.le_refl _⟩ rfl (w.mono (fun r2 σ1 w => ?_))
    show XX g true (d + 1) P_X12_where 96 [(2, 88), (0, x1), (0, x2), (1, x3), (9, 0), (9, 0), (0, x6), (9, 0), (9, 0)] [(1, r2)] 136 σ1 136 Q
    refine E_lstore (ls' := [(2, 88), (0, x1), (0, x2), (1, x3), (9, 0), (9, 0), (1, r2), (9, 0), (9, 0)]) 98 dX12_where_96 (by decide) rfl rfl ?_
    refine E_iload_n 99 dX12_where_98 rfl rfl ?_
    refine E_if_ne 102 109 dX12_where_99 rfl rfl (fun h => ?_) (fun h => ?_)
    · have w := w.1 h
      refine E_lload 111 dX12_where_109 rfl rfl ?_
      refine E_lstore_n (ls' := [(2, 88), (0, x1), (0, x2), (1, r2), (9, 0), (9, 0), (1, r2), (9, 0), (9, 0)]) 112 dX12_where_111 (by decide) rfl rfl ?_
      refine E_iconst 113 dX12_where_112 (by decide) rfl ?_
      refine E_istore (ls' := [(2, 88), (0, x1), (0, x2), (1, r2), (9, 0), (9, 0), (1, r2), (9, 0), (0, 0)]) 115 dX12_where_113 (by decide) rfl rfl ?_
      refine XX.fg [2, 6] [(2, 88), (0, x1), (9, 0), (1, r2), (9, 0), (9, 0), (9, 0), (9, 0), (0, 0)] rfl ?_
      with_reducible exact w
    · have w := w.2 h
      refine E_lload 104 dX12_where_102 rfl rfl ?_
      refine E_lload_n 105 dX12_where_104 rfl rfl ?_
      refine E_lcmp 106 dX12_where_105 rfl ?_
      refine E_if_ge 109 144 dX12_where_106 rfl rfl (fun h => ?_) (fun h => ?_)
      · have w := w.1 ((lc_ge _ _).mp h)
        refine E_iconst 145 dX12_where_144 (by decide) rfl ?_
        refine E_istore_n (ls' := [(2, 88), (0, x1), (0, 0), (1, x3), (9, 0), (9, 0), (1, r2), (9, 0), (9, 0)]) 146 dX12_where_145 (by decide) rfl rfl ?_
        refine E_aload_n 147 dX12_where_146 rfl (ac_88.bnd) rfl ?_
        refine E_callV (as := []) 150 dX12_where_147 cf_X12_goesOn mw_1686 mw_1688 mw_101 ac_88 (by decide) cl_X12 rfl rfl (Nat.le_of_ble_eq_true rfl) (Nat.le_of_ble_eq_true rfl) ⟨Nat.le_refl _, Nat.le_refl _⟩ rfl (w.mono (fun r4 σ3 w => ?_))
        show XX g true (d + 1) P_X12_where 150 [(2, 88), (0, x1), (0, 0), (1, x3), (9, 0), (9, 0), (1, r2), (9, 0), (9, 0)] [(0, r4)] 136 σ3 136 Q
        refine E_istore (ls' := [(2, 88), (0, x1), (0, 0), (1, x3), (9, 0), (0, r4), (1, r2), (9, 0), (9, 0)]) 152 dX12_where_150 (by decide) rfl rfl ?_
        refine E_goto 39 dX12_where_152 rfl ?_
        refine XX.fg [6] [(2, 88), (0, x1), (0, 0), (1, x3), (9, 0), (0, r4), (9, 0), (9, 0), (9, 0)] rfl ?_
        with_reducible exact w
      · have w := w.2 ((lc_lt _ _).mp h)
        refine E_lload 111 dX12_where_109 rfl rfl ?_
        refine E_lstore_n (ls' := [(2, 88), (0, x1), (0, x2), (1, r2), (9, 0), (9, 0), (1, r2), (9, 0), (9, 0)]) 112 dX12_where_111 (by decide) rfl rfl ?_
        refine E_iconst 113 dX12_where_112 (by decide) rfl ?_
        refine E_istore (ls' := [(2, 88), (0, x1), (0, x2), (1, r2), (9, 0), (9, 0), (1, r2), (9, 0), (0, 0)]) 115 dX12_where_113 (by decide) rfl rfl ?_
        refine XX.fg [2, 6] [(2, 88), (0, x1), (9, 0), (1, r2), (9, 0), (9, 0), (9, 0), (9, 0), (0, 0)] rfl ?_
        with_reducible exact w
  · have w := w.2 h
    refine E_aload_n 57 dX12_where_56 rfl (ac_88.bnd) rfl ?_
    refine E_getL 60 dX12_where_57 fl_X12_13 ac_88 rfl (by decide) lay_88_3 rfl ?_
    refine E_iload 62 dX12_where_60 rfl rfl ?_
    refine E_aload_n 63 dX12_where_62 rfl (ac_88.bnd) rfl ?_
    refine E_getL 66 dX12_where_63 fl_X12_148 ac_88 rfl (by decide) lay_88_66 rfl ?_
    refine E_iload 68 dX12_where_66 rfl rfl ?_
    obtain ⟨c5, w⟩ := w
    refine E_iald 69 dX12_where_68 ac_130 c5 rfl ?_
    obtain ⟨c6, w⟩ := w
    refine E_iast 70 dX12_where_69 ac_89 c6 rfl ?_
    refine E_aload_n 71 dX12_where_70 rfl (ac_88.bnd) rfl ?_
    refine E_getL 74 dX12_where_71 fl_X12_17 ac_88 rfl (by decide) lay_88_4 rfl ?_
    refine E_iload 76 dX12_where_74 rfl rfl ?_
    refine E_iconst 77 dX12_where_76 (by decide) rfl ?_
    refine E_iast 78 dX12_where_77 ac_90 c6 rfl ?_
    refine E_aload_n 79 dX12_where_78 rfl (ac_88.bnd) rfl ?_
    refine E_getL 82 dX12_where_79 fl_X12_20 ac_88 rfl (by decide) lay_88_5 rfl ?_
    refine E_iload 84 dX12_where_82 rfl rfl ?_
    refine E_iconst 85 dX12_where_84 (by decide) rfl ?_
    refine E_iast 86 dX12_where_85 ac_91 c6 rfl ?_
    refine E_iinc (ls' := [(2, 88), (0, x1), (0, x2), (1, x3), (9, 0), (9, 0), (0, w32 (x6 + 1)), (9, 0), (9, 0)]) 89 dX12_where_86 (by decide) rfl rfl rfl ?_
    refine E_goto 47 dX12_where_89 rfl ?_
    with_reducible exact w
theorem B_X12_where_115 {g : PG} {d : Nat} {σ : PS} {Q : Int → PS → Prop} {x1 x3 x8 : Int}  (w : ((σ 88 2 ≤ x8 → XX g true d P_X12_goesOn 0 [(2, 88), (9, 0), (9, 0), (9, 0), (9, 0), (9, 0)] [] 136 σ 136 (fun r2 σ1 => (XX g true (d + 1) P_X12_where 39 [(2, 88), (0, x1), (0, 0), (1, x3), (9, 0), (0, r2), (9, 0), (9, 0), (9, 0)] [] 136 σ1 136 Q))) ∧ (x8 < σ 88 2 → (0 ≤ x8 ∧ x8 < 7) ∧ (XX g true (d + 1) P_X12_where 115 [(2, 88), (0, x1), (9, 0), (1, x3), (9, 0), (9, 0), (9, 0), (9, 0), (0, w32 (x8 + 1))] [] 136 (su σ 131 x8 (σ 130 x8)) 136 Q)))) : XX g true (d + 1) P_X12_where 115 [(2, 88), (0, x1), (9, 0), (1, x3), (9, 0), (9, 0), (9, 0), (9, 0), (0, x8)] [] 136 σ 136 Q := by
  refine E_iload 117 dX12_where_115 rfl rfl ?_
  refine E_aload_n 118 dX12_where_117 rfl (ac_88.bnd) rfl ?_
  refine E_get 2 121 dX12_where_118 fl_X12_7 ac_88 rfl (by decide) rfl rfl ?_
  refine E_icmp_ge 124 144 dX12_where_121 rfl rfl (fun h => ?_) (fun h => ?_)
  · have w := w.1 h
    refine E_iconst 145 dX12_where_144 (by decide) rfl ?_
    refine E_istore_n (ls' := [(2, 88), (0, x1), (0, 0), (1, x3), (9, 0), (9, 0), (9, 0), (9, 0), (0, x8)]) 146 dX12_where_145 (by decide) rfl rfl ?_
    refine E_aload_n 147 dX12_where_146 rfl (ac_88.bnd) rfl ?_
    refine E_callV (as := []) 150 dX12_where_147 cf_X12_goesOn mw_1686 mw_1688 mw_101 ac_88 (by decide) cl_X12 rfl rfl (Nat.le_of_ble_eq_true rfl) (Nat.le_of_ble_eq_true rfl) ⟨Nat.le_refl _, Nat.le_refl _⟩ rfl (w.mono (fun r2 σ1 w => ?_))
    show XX g true (d + 1) P_X12_where 150 [(2, 88), (0, x1), (0, 0), (1, x3), (9, 0), (9, 0), (9, 0), (9, 0), (0, x8)] [(0, r2)] 136 σ1 136 Q
    refine E_istore (ls' := [(2, 88), (0, x1), (0, 0), (1, x3), (9, 0), (0, r2), (9, 0), (9, 0), (0, x8)]) 152 dX12_where_150 (by decide) rfl rfl ?_
    refine E_goto 39 dX12_where_152 rfl ?_
    refine XX.fg [8] [(2, 88), (0, x1), (0, 0), (1, x3), (9, 0), (0, r2), (9, 0), (9, 0), (9, 0)] rfl ?_
    with_reducible exact w
  · have w := w.2 h
    refine E_aload_n 125 dX12_where_124 rfl (ac_88.bnd) rfl ?_
    refine E_getL 128 dX12_where_125 fl_X12_151 ac_88 rfl (by decide) lay_88_67 rfl ?_
    refine E_iload 130 dX12_where_128 rfl rfl ?_
    refine E_aload_n 131 dX12_where_130 rfl (ac_88.bnd) rfl ?_
    refine E_getL 134 dX12_where_131 fl_X12_148 ac_88 rfl (by decide) lay_88_66 rfl ?_
    refine E_iload 136 dX12_where_134 rfl rfl ?_
    obtain ⟨c3, w⟩ := w
    refine E_iald 137 dX12_where_136 ac_130 c3 rfl ?_
    refine E_iast 138 dX12_where_137 ac_131 c3 rfl ?_
    refine E_iinc (ls' := [(2, 88), (0, x1), (9, 0), (1, x3), (9, 0), (9, 0), (9, 0), (9, 0), (0, w32 (x8 + 1))]) 141 dX12_where_138 (by decide) rfl rfl rfl ?_
    refine E_goto 115 dX12_where_141 rfl ?_
    with_reducible exact w
theorem B_X12_stocks_0 {g : PG} {d : Nat} {σ : PS} {Q : Int → PS → Prop} {x1 x2 : Int}  (w : ((30 < σ 88 2 → (XX g true (d + 1) P_X12_stocks 41 [(9, 0), (9, 0), (9, 0), (9, 0), (9, 0), (9, 0), (9, 0), (9, 0), (9, 0)] [] 136 (su σ 88 0 0) 136 Q)) ∧ (σ 88 2 ≤ 30 → XX g true d P_X12_isIn 0 [(2, 88), (0, x1), (0, 0), (0, w32 ((ishl 1 (σ 88 2)) - 1))] [] 136 (su σ 88 0 0) 136 (fun r2 σ1 => ((r2 = 0 → (XX g true (d + 1) P_X12_stocks 41 [(9, 0), (9, 0), (9, 0), (9, 0), (9, 0), (9, 0), (9, 0), (9, 0), (9, 0)] [] 136 σ1 136 Q)) ∧ (r2 ≠ 0 → XX g true d P_X12_isIn 0 [(2, 88), (0, x2), (0, 0), (0, 1)] [] 136 σ1 136 (fun r4 σ3 => ((r4 ≠ 0 → XX g true d P_X12_ones 0 [(2, 88), (0, x1), (9, 0), (9, 0)] [] 136 σ3 136 (fun r6 σ5 => (XX g true (d + 1) P_X12_stocks 52 [(2, 88), (0, x1), (0, x2), (0, r6), (0, 0), (9, 0), (9, 0), (9, 0), (9, 0)] [] 136 σ5 136 Q))) ∧ (r4 = 0 → (XX g true (d + 1) P_X12_stocks 41 [(9, 0), (9, 0), (9, 0), (9, 0), (9, 0), (9, 0), (9, 0), (9, 0), (9, 0)] [] 136 σ3 136 Q)))))))))) : XX g true (d + 1) P_X12_stocks 0 [(2, 88), (0, x1), (0, x2), (9, 0), (9, 0), (9, 0), (9, 0), (9, 0), (9, 0)] [] 136 σ 136 Q := by
  refine E_aload_n 1 dX12_stocks_0 rfl (ac_88.bnd) rfl ?_
  refine E_iconst 2 dX12_stocks_1 (by decide) rfl ?_
  refine E_putI 0 5 dX12_stocks_2 fl_X12_166 ac_88 rfl (by decide) (Or.inl rfl) rfl rfl ?_
  refine E_aload_n 6 dX12_stocks_5 rfl (ac_88.bnd) rfl ?_
  refine E_get 2 9 dX12_stocks_6 fl_X12_7 ac_88 rfl (by decide) rfl rfl ?_
  refine E_conv (su_ne (Or.inr (by decide))) ?_
  refine E_bipush 11 dX12_stocks_9 (by decide) rfl ?_
  refine E_icmp_gt 14 41 dX12_stocks_11 rfl rfl (fun h => ?_) (fun h => ?_)
  · have w := w.1 h
    refine XX.fg [0, 1, 2] [(9, 0), (9, 0), (9, 0), (9, 0), (9, 0), (9, 0), (9, 0), (9, 0), (9, 0)] rfl ?_
    with_reducible exact w
  · have w := w.2 h
    refine E_aload_n 15 dX12_stocks_14 rfl (ac_88.bnd) rfl ?_
    refine E_iload_n 16 dX12_stocks_15 rfl rfl ?_
    refine E_iconst 17 dX12_stocks_16 (by decide) rfl ?_
    refine E_iconst 18 dX12_stocks_17 (by decide) rfl ?_
    refine E_aload_n 19 dX12_stocks_18 rfl (ac_88.bnd) rfl ?_
    refine E_get 2 22 dX12_stocks_19 fl_X12_7 ac_88 rfl (by decide) rfl rfl ?_
    refine E_conv (su_ne (Or.inr (by decide))) ?_
    refine E_ishl 23 dX12_stocks_22 rfl ?_
    refine E_iconst 24 dX12_stocks_23 (by decide) rfl ?_
    refine E_isub 25 dX12_stocks_24 rfl ?_
    refine E_callV (as := [(0, x1), (0, 0), (0, w32 ((ishl 1 (σ 88 2)) - 1))]) 28 dX12_stocks_25 cf_X12_isIn mw_1363 mw_1365 mw_39 ac_88 (by decide) cl_X12 rfl rfl (Nat.le_of_ble_eq_true rfl) (Nat.le_of_ble_eq_true rfl) ⟨Nat.le_refl _, Nat.le_refl _⟩ rfl (w.mono (fun r2 σ1 w => ?_))
    show XX g true (d + 1) P_X12_stocks 28 [(2, 88), (0, x1), (0, x2), (9, 0), (9, 0), (9, 0), (9, 0), (9, 0), (9, 0)] [(0, r2)] 136 σ1 136 Q
    refine E_if_eq 31 41 dX12_stocks_28 rfl rfl (fun h => ?_) (fun h => ?_)
    · have w := w.1 h
      refine XX.fg [0, 1, 2] [(9, 0), (9, 0), (9, 0), (9, 0), (9, 0), (9, 0), (9, 0), (9, 0), (9, 0)] rfl ?_
      with_reducible exact w
    · have w := w.2 h
      refine E_aload_n 32 dX12_stocks_31 rfl (ac_88.bnd) rfl ?_
      refine E_iload_n 33 dX12_stocks_32 rfl rfl ?_
      refine E_iconst 34 dX12_stocks_33 (by decide) rfl ?_
      refine E_iconst 35 dX12_stocks_34 (by decide) rfl ?_
      refine E_callV (as := [(0, x2), (0, 0), (0, 1)]) 38 dX12_stocks_35 cf_X12_isIn mw_1363 mw_1365 mw_39 ac_88 (by decide) cl_X12 rfl rfl (Nat.le_of_ble_eq_true rfl) (Nat.le_of_ble_eq_true rfl) ⟨Nat.le_refl _, Nat.le_refl _⟩ rfl (w.mono (fun r4 σ3 w => ?_))
      show XX g true (d + 1) P_X12_stocks 38 [(2, 88), (0, x1), (0, x2), (9, 0), (9, 0), (9, 0), (9, 0), (9, 0), (9, 0)] [(0, r4)] 136 σ3 136 Q
      refine E_if_ne 41 43 dX12_stocks_38 rfl rfl (fun h => ?_) (fun h => ?_)
      · have w := w.1 h
        refine E_aload_n 44 dX12_stocks_43 rfl (ac_88.bnd) rfl ?_
        refine E_iload_n 45 dX12_stocks_44 rfl rfl ?_
        refine E_callV (as := [(0, x1)]) 48 dX12_stocks_45 cf_X12_ones mw_1532 mw_1534 mw_73 ac_88 (by decide) cl_X12 rfl rfl (Nat.le_of_ble_eq_true rfl) (Nat.le_of_ble_eq_true rfl) ⟨Nat.le_refl _, Nat.le_refl _⟩ rfl (w.mono (fun r6 σ5 w => ?_))
        show XX g true (d + 1) P_X12_stocks 48 [(2, 88), (0, x1), (0, x2), (9, 0), (9, 0), (9, 0), (9, 0), (9, 0), (9, 0)] [(0, r6)] 136 σ5 136 Q
        refine E_istore_n (ls' := [(2, 88), (0, x1), (0, x2), (0, r6), (9, 0), (9, 0), (9, 0), (9, 0), (9, 0)]) 49 dX12_stocks_48 (by decide) rfl rfl ?_
        refine E_iconst 50 dX12_stocks_49 (by decide) rfl ?_
        refine E_istore (ls' := [(2, 88), (0, x1), (0, x2), (0, r6), (0, 0), (9, 0), (9, 0), (9, 0), (9, 0)]) 52 dX12_stocks_50 (by decide) rfl rfl ?_
        with_reducible exact w
      · have w := w.2 h
        refine XX.fg [0, 1, 2] [(9, 0), (9, 0), (9, 0), (9, 0), (9, 0), (9, 0), (9, 0), (9, 0), (9, 0)] rfl ?_
        with_reducible exact w
theorem B_X12_stocks_41 {g : PG} {d : Nat} {σ : PS} {Q : Int → PS → Prop}  (w : Q (-1) σ) : XX g true (d + 1) P_X12_stocks 41 [(9, 0), (9, 0), (9, 0), (9, 0), (9, 0), (9, 0), (9, 0), (9, 0), (9, 0)] [] 136 σ 136 Q := by
  refine E_iconst 42 dX12_stocks_41 (by decide) rfl ?_
  exact E_iret dX12_stocks_42 rfl rfl w
theorem B_X12_stocks_52 {g : PG} {d : Nat} {σ : PS} {Q : Int → PS → Prop} {x1 x2 x3 x4 : Int}  (w : ((x3 < x4 → (XX g true (d + 1) P_X12_stocks 85 [(2, 88), (0, x1), (0, x2), (0, x3), (0, 0), (0, 0), (9, 0), (9, 0), (9, 0)] [] 136 (su σ 132 0 0) 136 Q)) ∧ (x4 ≤ x3 → (0 ≤ x4 ∧ x4 < 31) ∧ (XX g true (d + 1) P_X12_stocks 52 [(2, 88), (0, x1), (0, x2), (0, x3), (0, w32 (x4 + 1)), (9, 0), (9, 0), (9, 0), (9, 0)] [] 136 (su σ 132 x4 (-1)) 136 Q)))) : XX g true (d + 1) P_X12_stocks 52 [(2, 88), (0, x1), (0, x2), (0, x3), (0, x4), (9, 0), (9, 0), (9, 0), (9, 0)] [] 136 σ 136 Q := by
  refine E_iload 54 dX12_stocks_52 rfl rfl ?_
  refine E_iload_n 55 dX12_stocks_54 rfl rfl ?_
  refine E_icmp_gt 58 72 dX12_stocks_55 rfl rfl (fun h => ?_) (fun h => ?_)
  · have w := w.1 h
    refine E_aload_n 73 dX12_stocks_72 rfl (ac_88.bnd) rfl ?_
    refine E_getL 76 dX12_stocks_73 fl_X12_154 ac_88 rfl (by decide) lay_88_68 rfl ?_
    refine E_iconst 77 dX12_stocks_76 (by decide) rfl ?_
    refine E_iconst 78 dX12_stocks_77 (by decide) rfl ?_
    refine E_iast 79 dX12_stocks_78 ac_132 (by decide) rfl ?_
    refine E_iconst 80 dX12_stocks_79 (by decide) rfl ?_
    refine E_istore (ls' := [(2, 88), (0, x1), (0, x2), (0, x3), (0, 0), (9, 0), (9, 0), (9, 0), (9, 0)]) 82 dX12_stocks_80 (by decide) rfl rfl ?_
    refine E_iconst 83 dX12_stocks_82 (by decide) rfl ?_
    refine E_istore (ls' := [(2, 88), (0, x1), (0, x2), (0, x3), (0, 0), (0, 0), (9, 0), (9, 0), (9, 0)]) 85 dX12_stocks_83 (by decide) rfl rfl ?_
    with_reducible exact w
  · have w := w.2 h
    refine E_aload_n 59 dX12_stocks_58 rfl (ac_88.bnd) rfl ?_
    refine E_getL 62 dX12_stocks_59 fl_X12_154 ac_88 rfl (by decide) lay_88_68 rfl ?_
    refine E_iload 64 dX12_stocks_62 rfl rfl ?_
    refine E_iconst 65 dX12_stocks_64 (by decide) rfl ?_
    obtain ⟨c1, w⟩ := w
    refine E_iast 66 dX12_stocks_65 ac_132 c1 rfl ?_
    refine E_iinc (ls' := [(2, 88), (0, x1), (0, x2), (0, x3), (0, w32 (x4 + 1)), (9, 0), (9, 0), (9, 0), (9, 0)]) 69 dX12_stocks_66 (by decide) rfl rfl rfl ?_
    refine E_goto 52 dX12_stocks_69 rfl ?_
    with_reducible exact w
theorem B_X12_stocks_85 {g : PG} {d : Nat} {σ : PS} {Q : Int → PS → Prop} {x1 x2 x3 x4 x5 : Int}  (w : ((σ 88 2 ≤ x5 → (XX g true (d + 1) P_X12_stocks 254 [(2, 88), (9, 0), (0, x2), (0, x3), (9, 0), (0, (-1)), (0, 0), (9, 0), (9, 0)] [] 136 σ 136 Q)) ∧ (x5 < σ 88 2 → ((iand (ishr x1 x5) 1 ≠ 0 → ∀ y1, y1 = w32 (x4 + 1) → (XX g true (d + 1) P_X12_stocks 116 [(2, 88), (0, x1), (0, x2), (0, x3), (0, y1), (0, x5), (0, y1), (9, 0), (9, 0)] [] 136 σ 136 Q)) ∧ (iand (ishr x1 x5) 1 = 0 → (XX g true (d + 1) P_X12_stocks 242 [(2, 88), (0, x1), (0, x2), (0, x3), (0, x4), (0, x5), (9, 0), (9, 0), (9, 0)] [] 136 σ 136 Q)))))) : XX g true (d + 1) P_X12_stocks 85 [(2, 88), (0, x1), (0, x2), (0, x3), (0, x4), (0, x5), (9, 0), (9, 0), (9, 0)] [] 136 σ 136 Q := by
  refine E_iload 87 dX12_stocks_85 rfl rfl ?_
  refine E_aload_n 88 dX12_stocks_87 rfl (ac_88.bnd) rfl ?_
  refine E_get 2 91 dX12_stocks_88 fl_X12_7 ac_88 rfl (by decide) rfl rfl ?_
  refine E_icmp_ge 94 248 dX12_stocks_91 rfl rfl (fun h => ?_) (fun h => ?_)
  · have w := w.1 h
    refine E_iconst 249 dX12_stocks_248 (by decide) rfl ?_
    refine E_istore (ls' := [(2, 88), (0, x1), (0, x2), (0, x3), (0, x4), (0, (-1)), (9, 0), (9, 0), (9, 0)]) 251 dX12_stocks_249 (by decide) rfl rfl ?_
    refine E_iconst 252 dX12_stocks_251 (by decide) rfl ?_
    refine E_istore (ls' := [(2, 88), (0, x1), (0, x2), (0, x3), (0, x4), (0, (-1)), (0, 0), (9, 0), (9, 0)]) 254 dX12_stocks_252 (by decide) rfl rfl ?_
    refine XX.fg [1, 4] [(2, 88), (9, 0), (0, x2), (0, x3), (9, 0), (0, (-1)), (0, 0), (9, 0), (9, 0)] rfl ?_
    with_reducible exact w
  · have w := w.2 h
    refine E_iload_n 95 dX12_stocks_94 rfl rfl ?_
    refine E_iload 97 dX12_stocks_95 rfl rfl ?_
    refine E_ishr 98 dX12_stocks_97 rfl ?_
    refine E_iconst 99 dX12_stocks_98 (by decide) rfl ?_
    refine E_iand 100 dX12_stocks_99 rfl ?_
    refine E_if_ne 103 106 dX12_stocks_100 rfl rfl (fun h => ?_) (fun h => ?_)
    · have w := w.1 h
      refine E_iload 108 dX12_stocks_106 rfl rfl ?_
      refine E_iconst 109 dX12_stocks_108 (by decide) rfl ?_
      refine E_iadd 110 dX12_stocks_109 rfl ?_
      refine E_top (fun y1 hy1 => ?_)
      have w := w y1 hy1
      refine E_istore (ls' := [(2, 88), (0, x1), (0, x2), (0, x3), (0, y1), (0, x5), (9, 0), (9, 0), (9, 0)]) 112 dX12_stocks_110 (by decide) rfl rfl ?_
      refine E_iload 114 dX12_stocks_112 rfl rfl ?_
      refine E_istore (ls' := [(2, 88), (0, x1), (0, x2), (0, x3), (0, y1), (0, x5), (0, y1), (9, 0), (9, 0)]) 116 dX12_stocks_114 (by decide) rfl rfl ?_
      with_reducible exact w
    · have w := w.2 h
      refine E_goto 242 dX12_stocks_103 rfl ?_
      with_reducible exact w
theorem B_X12_stocks_254 {g : PG} {d : Nat} {σ : PS} {Q : Int → PS → Prop} {x2 x3 x5 x6 : Int}  (w : ((x3 < x6 → ((x5 = (-1) → (XX g true (d + 1) P_X12_stocks 344 [(9, 0), (9, 0), (9, 0), (9, 0), (9, 0), (0, x5), (9, 0), (9, 0), (9, 0)] [] 136 σ 136 Q)) ∧ (x5 ≠ (-1) → ((x2 ≠ 1 → (0 ≤ x5 ∧ x5 < 31) ∧ Q (σ 132 x5) σ) ∧ (x2 = 1 → (XX g true (d + 1) P_X12_stocks 344 [(9, 0), (9, 0), (9, 0), (9, 0), (9, 0), (0, x5), (9, 0), (9, 0), (9, 0)] [] 136 σ 136 Q)))))) ∧ (x6 ≤ x3 → ((σ 97 6 < x6 → (XX g true (d + 1) P_X12_stocks 327 [(2, 88), (9, 0), (0, x2), (0, x3), (9, 0), (0, x5), (0, x6), (9, 0), (9, 0)] [] 136 σ 136 Q)) ∧ (x6 ≤ σ 97 6 → ((σ 97 7 < w32 (x3 - x6) → (XX g true (d + 1) P_X12_stocks 327 [(2, 88), (9, 0), (0, x2), (0, x3), (9, 0), (0, x5), (0, x6), (9, 0), (9, 0)] [] 136 σ 136 Q)) ∧ (w32 (x3 - x6) ≤ σ 97 7 → (0 ≤ x6 ∧ x6 < 31) ∧ ((σ 132 x6 ≠ (-1) → ((x5 = (-1) → (XX g true (d + 1) P_X12_stocks 323 [(2, 88), (9, 0), (0, x2), (0, x3), (9, 0), (9, 0), (0, x6), (9, 0), (9, 0)] [] 136 σ 136 Q)) ∧ (x5 ≠ (-1) → (0 ≤ x5 ∧ x5 < 31) ∧ ((σ 132 x5 ≤ σ 132 x6 → (XX g true (d + 1) P_X12_stocks 327 [(2, 88), (9, 0), (0, x2), (0, x3), (9, 0), (0, x5), (0, x6), (9, 0), (9, 0)] [] 136 σ 136 Q)) ∧ (σ 132 x6 < σ 132 x5 → (XX g true (d + 1) P_X12_stocks 323 [(2, 88), (9, 0), (0, x2), (0, x3), (9, 0), (9, 0), (0, x6), (9, 0), (9, 0)] [] 136 σ 136 Q)))))) ∧ (σ 132 x6 = (-1) → (XX g true (d + 1) P_X12_stocks 327 [(2, 88), (9, 0), (0, x2), (0, x3), (9, 0), (0, x5), (0, x6), (9, 0), (9, 0)] [] 136 σ 136 Q)))))))))) : XX g true (d + 1) P_X12_stocks 254 [(2, 88), (9, 0), (0, x2), (0, x3), (9, 0), (0, x5), (0, x6), (9, 0), (9, 0)] [] 136 σ 136 Q := by
  refine E_iload 256 dX12_stocks_254 rfl rfl ?_
  refine E_iload_n 257 dX12_stocks_256 rfl rfl ?_
  refine E_icmp_gt 260 333 dX12_stocks_257 rfl rfl (fun h => ?_) (fun h => ?_)
  · have w := w.1 h
    refine E_iload 335 dX12_stocks_333 rfl rfl ?_
    refine E_iconst 336 dX12_stocks_335 (by decide) rfl ?_
    refine E_icmp_eq 339 344 dX12_stocks_336 rfl rfl (fun h => ?_) (fun h => ?_)
    · have w := w.1 h
      refine XX.fg [0, 2, 3, 6] [(9, 0), (9, 0), (9, 0), (9, 0), (9, 0), (0, x5), (9, 0), (9, 0), (9, 0)] rfl ?_
      with_reducible exact w
    · have w := w.2 h
      refine E_iload_n 340 dX12_stocks_339 rfl rfl ?_
      refine E_iconst 341 dX12_stocks_340 (by decide) rfl ?_
      refine E_icmp_ne 344 349 dX12_stocks_341 rfl rfl (fun h => ?_) (fun h => ?_)
      · have w := w.1 h
        refine E_aload_n 350 dX12_stocks_349 rfl (ac_88.bnd) rfl ?_
        refine E_getL 353 dX12_stocks_350 fl_X12_154 ac_88 rfl (by decide) lay_88_68 rfl ?_
        refine E_iload 355 dX12_stocks_353 rfl rfl ?_
        obtain ⟨c1, w⟩ := w
        refine E_iald 356 dX12_stocks_355 ac_132 c1 rfl ?_
        exact E_iret dX12_stocks_356 rfl rfl w
      · have w := w.2 h
        refine XX.fg [0, 2, 3, 6] [(9, 0), (9, 0), (9, 0), (9, 0), (9, 0), (0, x5), (9, 0), (9, 0), (9, 0)] rfl ?_
        with_reducible exact w
  · have w := w.2 h
    refine E_iload 262 dX12_stocks_260 rfl rfl ?_
    refine E_aload_n 263 dX12_stocks_262 rfl (ac_88.bnd) rfl ?_
    refine E_getL 266 dX12_stocks_263 fl_X12_38 ac_88 rfl (by decide) lay_88_11 rfl ?_
    refine E_bipush 268 dX12_stocks_266 (by decide) rfl ?_
    refine E_iald 269 dX12_stocks_268 ac_97 (by decide) rfl ?_
    refine E_icmp_gt 272 327 dX12_stocks_269 rfl rfl (fun h => ?_) (fun h => ?_)
    · have w := w.1 h
      with_reducible exact w
    · have w := w.2 h
      refine E_iload_n 273 dX12_stocks_272 rfl rfl ?_
      refine E_iload 275 dX12_stocks_273 rfl rfl ?_
      refine E_isub 276 dX12_stocks_275 rfl ?_
      refine E_aload_n 277 dX12_stocks_276 rfl (ac_88.bnd) rfl ?_
      refine E_getL 280 dX12_stocks_277 fl_X12_38 ac_88 rfl (by decide) lay_88_11 rfl ?_
      refine E_bipush 282 dX12_stocks_280 (by decide) rfl ?_
      refine E_iald 283 dX12_stocks_282 ac_97 (by decide) rfl ?_
      refine E_icmp_gt 286 327 dX12_stocks_283 rfl rfl (fun h => ?_) (fun h => ?_)
      · have w := w.1 h
        with_reducible exact w
      · have w := w.2 h
        refine E_aload_n 287 dX12_stocks_286 rfl (ac_88.bnd) rfl ?_
        refine E_getL 290 dX12_stocks_287 fl_X12_154 ac_88 rfl (by decide) lay_88_68 rfl ?_
        refine E_iload 292 dX12_stocks_290 rfl rfl ?_
        obtain ⟨c2, w⟩ := w
        refine E_iald 293 dX12_stocks_292 ac_132 c2 rfl ?_
        refine E_iconst 294 dX12_stocks_293 (by decide) rfl ?_
        refine E_icmp_ne 297 300 dX12_stocks_294 rfl rfl (fun h => ?_) (fun h => ?_)
        · have w := w.1 h
          refine E_iload 302 dX12_stocks_300 rfl rfl ?_
          refine E_iconst 303 dX12_stocks_302 (by decide) rfl ?_
          refine E_icmp_eq 306 323 dX12_stocks_303 rfl rfl (fun h => ?_) (fun h => ?_)
          · have w := w.1 h
            refine XX.fg [5] [(2, 88), (9, 0), (0, x2), (0, x3), (9, 0), (9, 0), (0, x6), (9, 0), (9, 0)] rfl ?_
            with_reducible exact w
          · have w := w.2 h
            refine E_aload_n 307 dX12_stocks_306 rfl (ac_88.bnd) rfl ?_
            refine E_getL 310 dX12_stocks_307 fl_X12_154 ac_88 rfl (by decide) lay_88_68 rfl ?_
            refine E_iload 312 dX12_stocks_310 rfl rfl ?_
            refine E_iald 313 dX12_stocks_312 ac_132 c2 rfl ?_
            refine E_aload_n 314 dX12_stocks_313 rfl (ac_88.bnd) rfl ?_
            refine E_getL 317 dX12_stocks_314 fl_X12_154 ac_88 rfl (by decide) lay_88_68 rfl ?_
            refine E_iload 319 dX12_stocks_317 rfl rfl ?_
            obtain ⟨c3, w⟩ := w
            refine E_iald 320 dX12_stocks_319 ac_132 c3 rfl ?_
            refine E_icmp_ge 323 327 dX12_stocks_320 rfl rfl (fun h => ?_) (fun h => ?_)
            · have w := w.1 h
              with_reducible exact w
            · have w := w.2 h
              refine XX.fg [5] [(2, 88), (9, 0), (0, x2), (0, x3), (9, 0), (9, 0), (0, x6), (9, 0), (9, 0)] rfl ?_
              with_reducible exact w
        · have w := w.2 h
          refine E_goto 327 dX12_stocks_297 rfl ?_
          with_reducible exact w
theorem B_X12_stocks_116 {g : PG} {d : Nat} {σ : PS} {Q : Int → PS → Prop} {x1 x2 x3 x4 x5 x6 : Int}  (w : ((x6 < 0 → (XX g true (d + 1) P_X12_stocks 242 [(2, 88), (0, x1), (0, x2), (0, x3), (0, x4), (0, x5), (9, 0), (9, 0), (9, 0)] [] 136 σ 136 Q)) ∧ (0 ≤ x6 → ((x6 = x4 → (XX g true (d + 1) P_X12_stocks 139 [(2, 88), (0, x1), (0, x2), (0, x3), (0, x4), (0, x5), (0, x6), (9, 0), (9, 0)] [] 136 σ 136 Q)) ∧ (x6 ≠ x4 → (0 ≤ x6 ∧ x6 < 31) ∧ ((σ 132 x6 ≠ (-1) → ∀ y2, y2 = w32 ((w32 ((σ 132 x6) + (σ 88 2))) - x5) → (XX g true (d + 1) P_X12_stocks 160 [(2, 88), (0, x1), (0, x2), (0, x3), (0, x4), (0, x5), (0, x6), (0, y2), (9, 0)] [] 136 σ 136 Q)) ∧ (σ 132 x6 = (-1) → (XX g true (d + 1) P_X12_stocks 139 [(2, 88), (0, x1), (0, x2), (0, x3), (0, x4), (0, x5), (0, x6), (9, 0), (9, 0)] [] 136 σ 136 Q)))))))) : XX g true (d + 1) P_X12_stocks 116 [(2, 88), (0, x1), (0, x2), (0, x3), (0, x4), (0, x5), (0, x6), (9, 0), (9, 0)] [] 136 σ 136 Q := by
  refine E_iload 118 dX12_stocks_116 rfl rfl ?_
  refine E_if_lt 121 242 dX12_stocks_118 rfl rfl (fun h => ?_) (fun h => ?_)
  · have w := w.1 h
    refine XX.fg [6] [(2, 88), (0, x1), (0, x2), (0, x3), (0, x4), (0, x5), (9, 0), (9, 0), (9, 0)] rfl ?_
    with_reducible exact w
  · have w := w.2 h
    refine E_iload 123 dX12_stocks_121 rfl rfl ?_
    refine E_iload 125 dX12_stocks_123 rfl rfl ?_
    refine E_icmp_eq 128 139 dX12_stocks_125 rfl rfl (fun h => ?_) (fun h => ?_)
    · have w := w.1 h
      with_reducible exact w
    · have w := w.2 h
      refine E_aload_n 129 dX12_stocks_128 rfl (ac_88.bnd) rfl ?_
      refine E_getL 132 dX12_stocks_129 fl_X12_154 ac_88 rfl (by decide) lay_88_68 rfl ?_
      refine E_iload 134 dX12_stocks_132 rfl rfl ?_
      obtain ⟨c1, w⟩ := w
      refine E_iald 135 dX12_stocks_134 ac_132 c1 rfl ?_
      refine E_iconst 136 dX12_stocks_135 (by decide) rfl ?_
      refine E_icmp_ne 139 143 dX12_stocks_136 rfl rfl (fun h => ?_) (fun h => ?_)
      · have w := w.1 h
        refine E_aload_n 144 dX12_stocks_143 rfl (ac_88.bnd) rfl ?_
        refine E_getL 147 dX12_stocks_144 fl_X12_154 ac_88 rfl (by decide) lay_88_68 rfl ?_
        refine E_iload 149 dX12_stocks_147 rfl rfl ?_
        refine E_iald 150 dX12_stocks_149 ac_132 c1 rfl ?_
        refine E_aload_n 151 dX12_stocks_150 rfl (ac_88.bnd) rfl ?_
        refine E_get 2 154 dX12_stocks_151 fl_X12_7 ac_88 rfl (by decide) rfl rfl ?_
        refine E_iadd 155 dX12_stocks_154 rfl ?_
        refine E_iload 157 dX12_stocks_155 rfl rfl ?_
        refine E_isub 158 dX12_stocks_157 rfl ?_
        refine E_top (fun y2 hy2 => ?_)
        have w := w y2 hy2
        refine E_istore (ls' := [(2, 88), (0, x1), (0, x2), (0, x3), (0, x4), (0, x5), (0, x6), (0, y2), (9, 0)]) 160 dX12_stocks_158 (by decide) rfl rfl ?_
        with_reducible exact w
      · have w := w.2 h
        with_reducible exact w
theorem B_X12_stocks_242 {g : PG} {d : Nat} {σ : PS} {Q : Int → PS → Prop} {x1 x2 x3 x4 x5 : Int}  (w : (XX g true (d + 1) P_X12_stocks 85 [(2, 88), (0, x1), (0, x2), (0, x3), (0, x4), (0, w32 (x5 + 1)), (9, 0), (9, 0), (9, 0)] [] 136 σ 136 Q)) : XX g true (d + 1) P_X12_stocks 242 [(2, 88), (0, x1), (0, x2), (0, x3), (0, x4), (0, x5), (9, 0), (9, 0), (9, 0)] [] 136 σ 136 Q := by
  refine E_iinc (ls' := [(2, 88), (0, x1), (0, x2), (0, x3), (0, x4), (0, w32 (x5 + 1)), (9, 0), (9, 0), (9, 0)]) 245 dX12_stocks_242 (by decide) rfl rfl rfl ?_
  refine E_goto 85 dX12_stocks_245 rfl ?_
  with_reducible exact w
theorem B_X12_stocks_344 {g : PG} {d : Nat} {σ : PS} {Q : Int → PS → Prop} {x5 : Int}  (w : Q x5 σ) : XX g true (d + 1) P_X12_stocks 344 [(9, 0), (9, 0), (9, 0), (9, 0), (9, 0), (0, x5), (9, 0), (9, 0), (9, 0)] [] 136 σ 136 Q := by
  refine E_iload 346 dX12_stocks_344 rfl rfl ?_
  refine E_goto 356 dX12_stocks_346 rfl ?_
  exact E_iret dX12_stocks_356 rfl rfl w
theorem B_X12_stocks_327 {g : PG} {d : Nat} {σ : PS} {Q : Int → PS → Prop} {x2 x3 x5 x6 : Int}  (w : (XX g true (d + 1) P_X12_stocks 254 [(2, 88), (9, 0), (0, x2), (0, x3), (9, 0), (0, x5), (0, w32 (x6 + 1)), (9, 0), (9, 0)] [] 136 σ 136 Q)) : XX g true (d + 1) P_X12_stocks 327 [(2, 88), (9, 0), (0, x2), (0, x3), (9, 0), (0, x5), (0, x6), (9, 0), (9, 0)] [] 136 σ 136 Q := by
  refine E_iinc (ls' := [(2, 88), (9, 0), (0, x2), (0, x3), (9, 0), (0, x5), (0, w32 (x6 + 1)), (9, 0), (9, 0)]) 330 dX12_stocks_327 (by decide) rfl rfl rfl ?_
  refine E_goto 254 dX12_stocks_330 rfl ?_
  with_reducible exact w
theorem B_X12_stocks_323 {g : PG} {d : Nat} {σ : PS} {Q : Int → PS → Prop} {x2 x3 x6 : Int}  (w : (XX g true (d + 1) P_X12_stocks 327 [(2, 88), (9, 0), (0, x2), (0, x3), (9, 0), (0, x6), (0, x6), (9, 0), (9, 0)] [] 136 σ 136 Q)) : XX g true (d + 1) P_X12_stocks 323 [(2, 88), (9, 0), (0, x2), (0, x3), (9, 0), (9, 0), (0, x6), (9, 0), (9, 0)] [] 136 σ 136 Q := by
  refine E_iload 325 dX12_stocks_323 rfl rfl ?_
  refine E_istore (ls' := [(2, 88), (9, 0), (0, x2), (0, x3), (9, 0), (0, x6), (0, x6), (9, 0), (9, 0)]) 327 dX12_stocks_325 (by decide) rfl rfl ?_
  with_reducible exact w
theorem B_X12_stocks_139 {g : PG} {d : Nat} {σ : PS} {Q : Int → PS → Prop} {x1 x2 x3 x4 x5 x6 : Int}  (w : (XX g true (d + 1) P_X12_stocks 160 [(2, 88), (0, x1), (0, x2), (0, x3), (0, x4), (0, x5), (0, x6), (0, (-1)), (9, 0)] [] 136 σ 136 Q)) : XX g true (d + 1) P_X12_stocks 139 [(2, 88), (0, x1), (0, x2), (0, x3), (0, x4), (0, x5), (0, x6), (9, 0), (9, 0)] [] 136 σ 136 Q := by
  refine E_iconst 140 dX12_stocks_139 (by decide) rfl ?_
  refine E_goto 158 dX12_stocks_140 rfl ?_
  refine E_istore (ls' := [(2, 88), (0, x1), (0, x2), (0, x3), (0, x4), (0, x5), (0, x6), (0, (-1)), (9, 0)]) 160 dX12_stocks_158 (by decide) rfl rfl ?_
  with_reducible exact w
theorem B_X12_stocks_160 {g : PG} {d : Nat} {σ : PS} {Q : Int → PS → Prop} {x1 x2 x3 x4 x5 x6 x7 : Int}  (w : ((x6 = 0 → (XX g true (d + 1) P_X12_stocks 178 [(2, 88), (0, x1), (0, x2), (0, x3), (0, x4), (0, x5), (0, x6), (0, x7), (9, 0)] [] 136 σ 136 Q)) ∧ (x6 ≠ 0 → (0 ≤ w32 (x6 - 1) ∧ w32 (x6 - 1) < 31) ∧ ((σ 132 (w32 (x6 - 1)) ≠ (-1) → ∀ y2, y2 = w32 ((w32 ((σ 132 (w32 (x6 - 1))) + x5)) + 1) → (XX g true (d + 1) P_X12_stocks 198 [(2, 88), (0, x1), (0, x2), (0, x3), (0, x4), (0, x5), (0, x6), (0, x7), (0, y2)] [] 136 σ 136 Q)) ∧ (σ 132 (w32 (x6 - 1)) = (-1) → (XX g true (d + 1) P_X12_stocks 178 [(2, 88), (0, x1), (0, x2), (0, x3), (0, x4), (0, x5), (0, x6), (0, x7), (9, 0)] [] 136 σ 136 Q)))))) : XX g true (d + 1) P_X12_stocks 160 [(2, 88), (0, x1), (0, x2), (0, x3), (0, x4), (0, x5), (0, x6), (0, x7), (9, 0)] [] 136 σ 136 Q := by
  refine E_iload 162 dX12_stocks_160 rfl rfl ?_
  refine E_if_eq 165 178 dX12_stocks_162 rfl rfl (fun h => ?_) (fun h => ?_)
  · have w := w.1 h
    with_reducible exact w
  · have w := w.2 h
    refine E_aload_n 166 dX12_stocks_165 rfl (ac_88.bnd) rfl ?_
    refine E_getL 169 dX12_stocks_166 fl_X12_154 ac_88 rfl (by decide) lay_88_68 rfl ?_
    refine E_iload 171 dX12_stocks_169 rfl rfl ?_
    refine E_iconst 172 dX12_stocks_171 (by decide) rfl ?_
    refine E_isub 173 dX12_stocks_172 rfl ?_
    obtain ⟨c1, w⟩ := w
    refine E_iald 174 dX12_stocks_173 ac_132 c1 rfl ?_
    refine E_iconst 175 dX12_stocks_174 (by decide) rfl ?_
    refine E_icmp_ne 178 182 dX12_stocks_175 rfl rfl (fun h => ?_) (fun h => ?_)
    · have w := w.1 h
      refine E_aload_n 183 dX12_stocks_182 rfl (ac_88.bnd) rfl ?_
      refine E_getL 186 dX12_stocks_183 fl_X12_154 ac_88 rfl (by decide) lay_88_68 rfl ?_
      refine E_iload 188 dX12_stocks_186 rfl rfl ?_
      refine E_iconst 189 dX12_stocks_188 (by decide) rfl ?_
      refine E_isub 190 dX12_stocks_189 rfl ?_
      refine E_iald 191 dX12_stocks_190 ac_132 c1 rfl ?_
      refine E_iload 193 dX12_stocks_191 rfl rfl ?_
      refine E_iadd 194 dX12_stocks_193 rfl ?_
      refine E_iconst 195 dX12_stocks_194 (by decide) rfl ?_
      refine E_iadd 196 dX12_stocks_195 rfl ?_
      refine E_top (fun y2 hy2 => ?_)
      have w := w y2 hy2
      refine E_istore (ls' := [(2, 88), (0, x1), (0, x2), (0, x3), (0, x4), (0, x5), (0, x6), (0, x7), (0, y2)]) 198 dX12_stocks_196 (by decide) rfl rfl ?_
      with_reducible exact w
    · have w := w.2 h
      with_reducible exact w
theorem B_X12_stocks_178 {g : PG} {d : Nat} {σ : PS} {Q : Int → PS → Prop} {x1 x2 x3 x4 x5 x6 x7 : Int}  (w : (XX g true (d + 1) P_X12_stocks 198 [(2, 88), (0, x1), (0, x2), (0, x3), (0, x4), (0, x5), (0, x6), (0, x7), (0, (-1))] [] 136 σ 136 Q)) : XX g true (d + 1) P_X12_stocks 178 [(2, 88), (0, x1), (0, x2), (0, x3), (0, x4), (0, x5), (0, x6), (0, x7), (9, 0)] [] 136 σ 136 Q := by
  refine E_iconst 179 dX12_stocks_178 (by decide) rfl ?_
  refine E_goto 196 dX12_stocks_179 rfl ?_
  refine E_istore (ls' := [(2, 88), (0, x1), (0, x2), (0, x3), (0, x4), (0, x5), (0, x6), (0, x7), (0, (-1))]) 198 dX12_stocks_196 (by decide) rfl rfl ?_
  with_reducible exact w
theorem B_X12_stocks_198 {g : PG} {d : Nat} {σ : PS} {Q : Int → PS → Prop} {x1 x2 x3 x4 x5 x6 x7 x8 : Int}  (w : ((x7 ≠ (-1) → ((x8 = (-1) → (0 ≤ x6 ∧ x6 < 31) ∧ (XX g true (d + 1) P_X12_stocks 236 [(2, 88), (0, x1), (0, x2), (0, x3), (0, x4), (0, x5), (0, x6), (9, 0), (9, 0)] [] 136 (su σ 132 x6 x7) 136 Q)) ∧ (x8 ≠ (-1) → ((x8 ≤ x7 → (0 ≤ x6 ∧ x6 < 31) ∧ (XX g true (d + 1) P_X12_stocks 236 [(2, 88), (0, x1), (0, x2), (0, x3), (0, x4), (0, x5), (0, x6), (9, 0), (9, 0)] [] 136 (su σ 132 x6 x8) 136 Q)) ∧ (x7 < x8 → (0 ≤ x6 ∧ x6 < 31) ∧ (XX g true (d + 1) P_X12_stocks 236 [(2, 88), (0, x1), (0, x2), (0, x3), (0, x4), (0, x5), (0, x6), (9, 0), (9, 0)] [] 136 (su σ 132 x6 x7) 136 Q)))))) ∧ (x7 = (-1) → (0 ≤ x6 ∧ x6 < 31) ∧ (XX g true (d + 1) P_X12_stocks 236 [(2, 88), (0, x1), (0, x2), (0, x3), (0, x4), (0, x5), (0, x6), (9, 0), (9, 0)] [] 136 (su σ 132 x6 x8) 136 Q)))) : XX g true (d + 1) P_X12_stocks 198 [(2, 88), (0, x1), (0, x2), (0, x3), (0, x4), (0, x5), (0, x6), (0, x7), (0, x8)] [] 136 σ 136 Q := by
  refine E_aload_n 199 dX12_stocks_198 rfl (ac_88.bnd) rfl ?_
  refine E_getL 202 dX12_stocks_199 fl_X12_154 ac_88 rfl (by decide) lay_88_68 rfl ?_
  refine E_iload 204 dX12_stocks_202 rfl rfl ?_
  refine E_iload 206 dX12_stocks_204 rfl rfl ?_
  refine E_iconst 207 dX12_stocks_206 (by decide) rfl ?_
  refine E_icmp_ne 210 215 dX12_stocks_207 rfl rfl (fun h => ?_) (fun h => ?_)
  · have w := w.1 h
    refine E_iload 217 dX12_stocks_215 rfl rfl ?_
    refine E_iconst 218 dX12_stocks_217 (by decide) rfl ?_
    refine E_icmp_eq 221 228 dX12_stocks_218 rfl rfl (fun h => ?_) (fun h => ?_)
    · have w := w.1 h
      refine E_iload 230 dX12_stocks_228 rfl rfl ?_
      refine E_goto 235 dX12_stocks_230 rfl ?_
      obtain ⟨c1, w⟩ := w
      refine E_iast 236 dX12_stocks_235 ac_132 c1 rfl ?_
      refine XX.fg [7, 8] [(2, 88), (0, x1), (0, x2), (0, x3), (0, x4), (0, x5), (0, x6), (9, 0), (9, 0)] rfl ?_
      with_reducible exact w
    · have w := w.2 h
      refine E_iload 223 dX12_stocks_221 rfl rfl ?_
      refine E_iload 225 dX12_stocks_223 rfl rfl ?_
      refine E_icmp_ge 228 233 dX12_stocks_225 rfl rfl (fun h => ?_) (fun h => ?_)
      · have w := w.1 h
        refine E_iload 235 dX12_stocks_233 rfl rfl ?_
        obtain ⟨c2, w⟩ := w
        refine E_iast 236 dX12_stocks_235 ac_132 c2 rfl ?_
        refine XX.fg [7, 8] [(2, 88), (0, x1), (0, x2), (0, x3), (0, x4), (0, x5), (0, x6), (9, 0), (9, 0)] rfl ?_
        with_reducible exact w
      · have w := w.2 h
        refine E_iload 230 dX12_stocks_228 rfl rfl ?_
        refine E_goto 235 dX12_stocks_230 rfl ?_
        obtain ⟨c3, w⟩ := w
        refine E_iast 236 dX12_stocks_235 ac_132 c3 rfl ?_
        refine XX.fg [7, 8] [(2, 88), (0, x1), (0, x2), (0, x3), (0, x4), (0, x5), (0, x6), (9, 0), (9, 0)] rfl ?_
        with_reducible exact w
  · have w := w.2 h
    refine E_iload 212 dX12_stocks_210 rfl rfl ?_
    refine E_goto 235 dX12_stocks_212 rfl ?_
    obtain ⟨c4, w⟩ := w
    refine E_iast 236 dX12_stocks_235 ac_132 c4 rfl ?_
    refine XX.fg [7, 8] [(2, 88), (0, x1), (0, x2), (0, x3), (0, x4), (0, x5), (0, x6), (9, 0), (9, 0)] rfl ?_
    with_reducible exact w
theorem B_X12_stocks_236 {g : PG} {d : Nat} {σ : PS} {Q : Int → PS → Prop} {x1 x2 x3 x4 x5 x6 : Int}  (w : (XX g true (d + 1) P_X12_stocks 116 [(2, 88), (0, x1), (0, x2), (0, x3), (0, x4), (0, x5), (0, w32 (x6 + (-1))), (9, 0), (9, 0)] [] 136 σ 136 Q)) : XX g true (d + 1) P_X12_stocks 236 [(2, 88), (0, x1), (0, x2), (0, x3), (0, x4), (0, x5), (0, x6), (9, 0), (9, 0)] [] 136 σ 136 Q := by
  refine E_iinc (ls' := [(2, 88), (0, x1), (0, x2), (0, x3), (0, x4), (0, x5), (0, w32 (x6 + (-1))), (9, 0), (9, 0)]) 239 dX12_stocks_236 (by decide) rfl rfl rfl ?_
  refine E_goto 116 dX12_stocks_239 rfl ?_
  with_reducible exact w
theorem B_X12_putAside_0 {g : PG} {d : Nat} {σ : PS} {Q : Int → PS → Prop} {x1 : Int}  (w : ((σ 88 69 ≠ 0 → (0 ≤ w32 ((w32 ((σ 88 70) + 1)) - 1) ∧ w32 ((w32 ((σ 88 70) + 1)) - 1) < 400) ∧ Q x1 (su (su σ 88 70 (w32 ((σ 88 70) + 1))) 133 (w32 ((w32 ((σ 88 70) + 1)) - 1)) x1)) ∧ (σ 88 69 = 0 → (0 ≤ w32 ((w32 ((σ 88 70) + 1)) - 1) ∧ w32 ((w32 ((σ 88 70) + 1)) - 1) < 400) ∧ Q (σ 133 (w32 ((w32 ((σ 88 70) + 1)) - 1))) (su σ 88 70 (w32 ((σ 88 70) + 1)))))) : XX g true d P_X12_putAside 0 [(2, 88), (0, x1)] [] 136 σ 136 Q := by
  refine E_aload_n 1 dX12_putAside_0 rfl (ac_88.bnd) rfl ?_
  refine E_aload_n 2 dX12_putAside_1 rfl (ac_88.bnd) rfl ?_
  refine E_get 70 5 dX12_putAside_2 fl_X12_441 ac_88 rfl (by decide) rfl rfl ?_
  refine E_iconst 6 dX12_putAside_5 (by decide) rfl ?_
  refine E_iadd 7 dX12_putAside_6 rfl ?_
  refine E_putI 70 10 dX12_putAside_7 fl_X12_441 ac_88 rfl (by decide) (Or.inl rfl) rfl rfl ?_
  refine E_aload_n 11 dX12_putAside_10 rfl (ac_88.bnd) rfl ?_
  refine E_get 69 14 dX12_putAside_11 fl_X12_444 ac_88 rfl (by decide) rfl rfl ?_
  refine E_conv (su_ne (Or.inr (by decide))) ?_
  refine E_if_ne 17 29 dX12_putAside_14 rfl rfl (fun h => ?_) (fun h => ?_)
  · have w := w.1 h
    refine E_aload_n 30 dX12_putAside_29 rfl (ac_88.bnd) rfl ?_
    refine E_getL 33 dX12_putAside_30 fl_X12_157 ac_88 rfl (by decide) lay_88_71 rfl ?_
    refine E_aload_n 34 dX12_putAside_33 rfl (ac_88.bnd) rfl ?_
    refine E_get 70 37 dX12_putAside_34 fl_X12_441 ac_88 rfl (by decide) rfl rfl ?_
    refine E_conv (su_eq) ?_
    refine E_iconst 38 dX12_putAside_37 (by decide) rfl ?_
    refine E_isub 39 dX12_putAside_38 rfl ?_
    refine E_iload_n 40 dX12_putAside_39 rfl rfl ?_
    obtain ⟨c1, w⟩ := w
    refine E_iast 41 dX12_putAside_40 ac_133 c1 rfl ?_
    refine E_iload_n 42 dX12_putAside_41 rfl rfl ?_
    exact E_iret dX12_putAside_42 rfl rfl w
  · have w := w.2 h
    refine E_aload_n 18 dX12_putAside_17 rfl (ac_88.bnd) rfl ?_
    refine E_getL 21 dX12_putAside_18 fl_X12_157 ac_88 rfl (by decide) lay_88_71 rfl ?_
    refine E_aload_n 22 dX12_putAside_21 rfl (ac_88.bnd) rfl ?_
    refine E_get 70 25 dX12_putAside_22 fl_X12_441 ac_88 rfl (by decide) rfl rfl ?_
    refine E_conv (su_eq) ?_
    refine E_iconst 26 dX12_putAside_25 (by decide) rfl ?_
    refine E_isub 27 dX12_putAside_26 rfl ?_
    obtain ⟨c2, w⟩ := w
    refine E_iald 28 dX12_putAside_27 ac_133 c2 rfl ?_
    refine E_conv (su_ne (Or.inl (by decide))) ?_
    exact E_iret dX12_putAside_28 rfl rfl w
theorem B_X12_asides_0 {g : PG} {d : Nat} {σ : PS} {Q : Int → PS → Prop} {x1 : Int}  (w : (x1 = 0 ∨ x1 = 1) ∧ XX g true d P_X12_putAside 0 [(2, 88), (0, σ 88 1)] [] 136 (su (su σ 88 69 x1) 88 70 0) 136 (fun r3 σ2 => XX g true d P_X12_putAside 0 [(2, 88), (0, σ2 88 2)] [] 136 (su σ2 88 1 r3) 136 (fun r5 σ4 => XX g true d P_X12_putAside 0 [(2, 88), (0, σ4 88 12)] [] 136 (su σ4 88 2 r5) 136 (fun r7 σ6 => XX g true d P_X12_putAside 0 [(2, 88), (0, σ6 88 13)] [] 136 (su σ6 88 12 r7) 136 (fun r9 σ8 => XX g true d P_X12_putAside 0 [(2, 88), (0, σ8 88 14)] [] 136 (su σ8 88 13 r9) 136 (fun r11 σ10 => XX g true d P_X12_putAside 0 [(2, 88), (0, σ10 88 15)] [] 136 (su σ10 88 14 r11) 136 (fun r13 σ12 => XX g true d P_X12_putAside 0 [(2, 88), (0, σ12 88 16)] [] 136 (su σ12 88 15 r13) 136 (fun r15 σ14 => XX g true d P_X12_putAside 0 [(2, 88), (0, σ14 88 17)] [] 136 (su σ14 88 16 r15) 136 (fun r17 σ16 => (XX g true (d + 1) P_X12_asides 108 [(2, 88), (9, 0), (0, 0)] [] 136 (su σ16 88 17 r17) 136 Q)))))))))) : XX g true (d + 1) P_X12_asides 0 [(2, 88), (0, x1), (9, 0)] [] 136 σ 136 Q := by
  refine E_aload_n 1 dX12_asides_0 rfl (ac_88.bnd) rfl ?_
  refine E_iload_n 2 dX12_asides_1 rfl rfl ?_
  obtain ⟨c1, w⟩ := w
  refine E_putZ 69 5 dX12_asides_2 fl_X12_444 ac_88 rfl (by decide) (Or.inl rfl) c1 rfl rfl ?_
  refine E_aload_n 6 dX12_asides_5 rfl (ac_88.bnd) rfl ?_
  refine E_iconst 7 dX12_asides_6 (by decide) rfl ?_
  refine E_putI 70 10 dX12_asides_7 fl_X12_441 ac_88 rfl (by decide) (Or.inl rfl) rfl rfl ?_
  refine E_aload_n 11 dX12_asides_10 rfl (ac_88.bnd) rfl ?_
  refine E_aload_n 12 dX12_asides_11 rfl (ac_88.bnd) rfl ?_
  refine E_aload_n 13 dX12_asides_12 rfl (ac_88.bnd) rfl ?_
  refine E_get 1 16 dX12_asides_13 fl_X12_169 ac_88 rfl (by decide) rfl rfl ?_
  refine E_conv ((su_ne (Or.inr (by decide))).trans (su_ne (Or.inr (by decide)))) ?_
  refine E_callV (as := [(0, σ 88 1)]) 19 dX12_asides_16 cf_X12_putAside mw_1706 mw_1708 mw_104 ac_88 (by decide) cl_X12 rfl rfl (Nat.le_of_ble_eq_true rfl) (Nat.le_of_ble_eq_true rfl) ⟨Nat.le_refl _, Nat.le_refl _⟩ rfl (w.mono (fun r3 σ2 w => ?_))
  show XX g true (d + 1) P_X12_asides 19 [(2, 88), (0, x1), (9, 0)] [(0, r3), (2, 88)] 136 σ2 136 Q
  refine E_putI 1 22 dX12_asides_19 fl_X12_169 ac_88 rfl (by decide) (Or.inl rfl) rfl rfl ?_
  refine E_aload_n 23 dX12_asides_22 rfl (ac_88.bnd) rfl ?_
  refine E_aload_n 24 dX12_asides_23 rfl (ac_88.bnd) rfl ?_
  refine E_aload_n 25 dX12_asides_24 rfl (ac_88.bnd) rfl ?_
  refine E_get 2 28 dX12_asides_25 fl_X12_7 ac_88 rfl (by decide) rfl rfl ?_
  refine E_conv (su_ne (Or.inr (by decide))) ?_
  refine E_callV (as := [(0, σ2 88 2)]) 31 dX12_asides_28 cf_X12_putAside mw_1706 mw_1708 mw_104 ac_88 (by decide) cl_X12 rfl rfl (Nat.le_of_ble_eq_true rfl) (Nat.le_of_ble_eq_true rfl) ⟨Nat.le_refl _, Nat.le_refl _⟩ rfl (w.mono (fun r5 σ4 w => ?_))
  show XX g true (d + 1) P_X12_asides 31 [(2, 88), (0, x1), (9, 0)] [(0, r5), (2, 88)] 136 σ4 136 Q
  refine E_putI 2 34 dX12_asides_31 fl_X12_7 ac_88 rfl (by decide) (Or.inl rfl) rfl rfl ?_
  refine E_aload_n 35 dX12_asides_34 rfl (ac_88.bnd) rfl ?_
  refine E_aload_n 36 dX12_asides_35 rfl (ac_88.bnd) rfl ?_
  refine E_aload_n 37 dX12_asides_36 rfl (ac_88.bnd) rfl ?_
  refine E_get 12 40 dX12_asides_37 fl_X12_334 ac_88 rfl (by decide) rfl rfl ?_
  refine E_conv (su_ne (Or.inr (by decide))) ?_
  refine E_callV (as := [(0, σ4 88 12)]) 43 dX12_asides_40 cf_X12_putAside mw_1706 mw_1708 mw_104 ac_88 (by decide) cl_X12 rfl rfl (Nat.le_of_ble_eq_true rfl) (Nat.le_of_ble_eq_true rfl) ⟨Nat.le_refl _, Nat.le_refl _⟩ rfl (w.mono (fun r7 σ6 w => ?_))
  show XX g true (d + 1) P_X12_asides 43 [(2, 88), (0, x1), (9, 0)] [(0, r7), (2, 88)] 136 σ6 136 Q
  refine E_putI 12 46 dX12_asides_43 fl_X12_334 ac_88 rfl (by decide) (Or.inl rfl) rfl rfl ?_
  refine E_aload_n 47 dX12_asides_46 rfl (ac_88.bnd) rfl ?_
  refine E_aload_n 48 dX12_asides_47 rfl (ac_88.bnd) rfl ?_
  refine E_aload_n 49 dX12_asides_48 rfl (ac_88.bnd) rfl ?_
  refine E_get 13 52 dX12_asides_49 fl_X12_382 ac_88 rfl (by decide) rfl rfl ?_
  refine E_conv (su_ne (Or.inr (by decide))) ?_
  refine E_callV (as := [(0, σ6 88 13)]) 55 dX12_asides_52 cf_X12_putAside mw_1706 mw_1708 mw_104 ac_88 (by decide) cl_X12 rfl rfl (Nat.le_of_ble_eq_true rfl) (Nat.le_of_ble_eq_true rfl) ⟨Nat.le_refl _, Nat.le_refl _⟩ rfl (w.mono (fun r9 σ8 w => ?_))
  show XX g true (d + 1) P_X12_asides 55 [(2, 88), (0, x1), (9, 0)] [(0, r9), (2, 88)] 136 σ8 136 Q
  refine E_putI 13 58 dX12_asides_55 fl_X12_382 ac_88 rfl (by decide) (Or.inl rfl) rfl rfl ?_
  refine E_aload_n 59 dX12_asides_58 rfl (ac_88.bnd) rfl ?_
  refine E_aload_n 60 dX12_asides_59 rfl (ac_88.bnd) rfl ?_
  refine E_aload_n 61 dX12_asides_60 rfl (ac_88.bnd) rfl ?_
  refine E_get 14 64 dX12_asides_61 fl_X12_358 ac_88 rfl (by decide) rfl rfl ?_
  refine E_conv (su_ne (Or.inr (by decide))) ?_
  refine E_callV (as := [(0, σ8 88 14)]) 67 dX12_asides_64 cf_X12_putAside mw_1706 mw_1708 mw_104 ac_88 (by decide) cl_X12 rfl rfl (Nat.le_of_ble_eq_true rfl) (Nat.le_of_ble_eq_true rfl) ⟨Nat.le_refl _, Nat.le_refl _⟩ rfl (w.mono (fun r11 σ10 w => ?_))
  show XX g true (d + 1) P_X12_asides 67 [(2, 88), (0, x1), (9, 0)] [(0, r11), (2, 88)] 136 σ10 136 Q
  refine E_putI 14 70 dX12_asides_67 fl_X12_358 ac_88 rfl (by decide) (Or.inl rfl) rfl rfl ?_
  refine E_aload_n 71 dX12_asides_70 rfl (ac_88.bnd) rfl ?_
  refine E_aload_n 72 dX12_asides_71 rfl (ac_88.bnd) rfl ?_
  refine E_aload_n 73 dX12_asides_72 rfl (ac_88.bnd) rfl ?_
  refine E_get 15 76 dX12_asides_73 fl_X12_361 ac_88 rfl (by decide) rfl rfl ?_
  refine E_conv (su_ne (Or.inr (by decide))) ?_
  refine E_callV (as := [(0, σ10 88 15)]) 79 dX12_asides_76 cf_X12_putAside mw_1706 mw_1708 mw_104 ac_88 (by decide) cl_X12 rfl rfl (Nat.le_of_ble_eq_true rfl) (Nat.le_of_ble_eq_true rfl) ⟨Nat.le_refl _, Nat.le_refl _⟩ rfl (w.mono (fun r13 σ12 w => ?_))
  show XX g true (d + 1) P_X12_asides 79 [(2, 88), (0, x1), (9, 0)] [(0, r13), (2, 88)] 136 σ12 136 Q
  refine E_putI 15 82 dX12_asides_79 fl_X12_361 ac_88 rfl (by decide) (Or.inl rfl) rfl rfl ?_
  refine E_aload_n 83 dX12_asides_82 rfl (ac_88.bnd) rfl ?_
  refine E_aload_n 84 dX12_asides_83 rfl (ac_88.bnd) rfl ?_
  refine E_aload_n 85 dX12_asides_84 rfl (ac_88.bnd) rfl ?_
  refine E_get 16 88 dX12_asides_85 fl_X12_178 ac_88 rfl (by decide) rfl rfl ?_
  refine E_conv (su_ne (Or.inr (by decide))) ?_
  refine E_callV (as := [(0, σ12 88 16)]) 91 dX12_asides_88 cf_X12_putAside mw_1706 mw_1708 mw_104 ac_88 (by decide) cl_X12 rfl rfl (Nat.le_of_ble_eq_true rfl) (Nat.le_of_ble_eq_true rfl) ⟨Nat.le_refl _, Nat.le_refl _⟩ rfl (w.mono (fun r15 σ14 w => ?_))
  show XX g true (d + 1) P_X12_asides 91 [(2, 88), (0, x1), (9, 0)] [(0, r15), (2, 88)] 136 σ14 136 Q
  refine E_putI 16 94 dX12_asides_91 fl_X12_178 ac_88 rfl (by decide) (Or.inl rfl) rfl rfl ?_
  refine E_aload_n 95 dX12_asides_94 rfl (ac_88.bnd) rfl ?_
  refine E_aload_n 96 dX12_asides_95 rfl (ac_88.bnd) rfl ?_
  refine E_aload_n 97 dX12_asides_96 rfl (ac_88.bnd) rfl ?_
  refine E_get 17 100 dX12_asides_97 fl_X12_41 ac_88 rfl (by decide) rfl rfl ?_
  refine E_conv (su_ne (Or.inr (by decide))) ?_
  refine E_callV (as := [(0, σ14 88 17)]) 103 dX12_asides_100 cf_X12_putAside mw_1706 mw_1708 mw_104 ac_88 (by decide) cl_X12 rfl rfl (Nat.le_of_ble_eq_true rfl) (Nat.le_of_ble_eq_true rfl) ⟨Nat.le_refl _, Nat.le_refl _⟩ rfl (w.mono (fun r17 σ16 w => ?_))
  show XX g true (d + 1) P_X12_asides 103 [(2, 88), (0, x1), (9, 0)] [(0, r17), (2, 88)] 136 σ16 136 Q
  refine E_putI 17 106 dX12_asides_103 fl_X12_41 ac_88 rfl (by decide) (Or.inl rfl) rfl rfl ?_
  refine E_iconst 107 dX12_asides_106 (by decide) rfl ?_
  refine E_istore_n (ls' := [(2, 88), (0, x1), (0, 0)]) 108 dX12_asides_107 (by decide) rfl rfl ?_
  refine XX.fg [1] [(2, 88), (9, 0), (0, 0)] rfl ?_
  with_reducible exact w
theorem B_X12_asides_108 {g : PG} {d : Nat} {σ : PS} {Q : Int → PS → Prop} {x2 : Int}  (w : ((8 ≤ x2 → (XX g true (d + 1) P_X12_asides 138 [(2, 88), (9, 0), (0, 0)] [] 136 σ 136 Q)) ∧ (x2 < 8 → (0 ≤ x2 ∧ x2 < 8) ∧ XX g true d P_X12_putAside 0 [(2, 88), (0, σ 97 x2)] [] 136 σ 136 (fun r3 σ2 => (XX g true (d + 1) P_X12_asides 108 [(2, 88), (9, 0), (0, w32 (x2 + 1))] [] 136 (su σ2 97 x2 r3) 136 Q))))) : XX g true (d + 1) P_X12_asides 108 [(2, 88), (9, 0), (0, x2)] [] 136 σ 136 Q := by
  refine E_iload_n 109 dX12_asides_108 rfl rfl ?_
  refine E_bipush 111 dX12_asides_109 (by decide) rfl ?_
  refine E_icmp_ge 114 136 dX12_asides_111 rfl rfl (fun h => ?_) (fun h => ?_)
  · have w := w.1 h
    refine E_iconst 137 dX12_asides_136 (by decide) rfl ?_
    refine E_istore_n (ls' := [(2, 88), (9, 0), (0, 0)]) 138 dX12_asides_137 (by decide) rfl rfl ?_
    with_reducible exact w
  · have w := w.2 h
    refine E_aload_n 115 dX12_asides_114 rfl (ac_88.bnd) rfl ?_
    refine E_getL 118 dX12_asides_115 fl_X12_38 ac_88 rfl (by decide) lay_88_11 rfl ?_
    refine E_iload_n 119 dX12_asides_118 rfl rfl ?_
    refine E_aload_n 120 dX12_asides_119 rfl (ac_88.bnd) rfl ?_
    refine E_aload_n 121 dX12_asides_120 rfl (ac_88.bnd) rfl ?_
    refine E_getL 124 dX12_asides_121 fl_X12_38 ac_88 rfl (by decide) lay_88_11 rfl ?_
    refine E_iload_n 125 dX12_asides_124 rfl rfl ?_
    obtain ⟨c1, w⟩ := w
    refine E_iald 126 dX12_asides_125 ac_97 c1 rfl ?_
    refine E_callV (as := [(0, σ 97 x2)]) 129 dX12_asides_126 cf_X12_putAside mw_1706 mw_1708 mw_104 ac_88 (by decide) cl_X12 rfl rfl (Nat.le_of_ble_eq_true rfl) (Nat.le_of_ble_eq_true rfl) ⟨Nat.le_refl _, Nat.le_refl _⟩ rfl (w.mono (fun r3 σ2 w => ?_))
    show XX g true (d + 1) P_X12_asides 129 [(2, 88), (9, 0), (0, x2)] [(0, r3), (0, x2), (2, 97)] 136 σ2 136 Q
    refine E_iast 130 dX12_asides_129 ac_97 c1 rfl ?_
    refine E_iinc (ls' := [(2, 88), (9, 0), (0, w32 (x2 + 1))]) 133 dX12_asides_130 (by decide) rfl rfl rfl ?_
    refine E_goto 108 dX12_asides_133 rfl ?_
    with_reducible exact w
theorem B_X12_asides_138 {g : PG} {d : Nat} {σ : PS} {Q : Int → PS → Prop} {x2 : Int}  (w : ((60 ≤ x2 → Q 0 σ) ∧ (x2 < 60 → (0 ≤ x2 ∧ x2 < 60) ∧ XX g true d P_X12_putAside 0 [(2, 88), (0, σ 89 x2)] [] 136 σ 136 (fun r3 σ2 => XX g true d P_X12_putAside 0 [(2, 88), (0, σ2 90 x2)] [] 136 (su σ2 89 x2 r3) 136 (fun r5 σ4 => XX g true d P_X12_putAside 0 [(2, 88), (0, σ4 91 x2)] [] 136 (su σ4 90 x2 r5) 136 (fun r7 σ6 => XX g true d P_X12_putAside 0 [(2, 88), (0, σ6 92 x2)] [] 136 (su σ6 91 x2 r7) 136 (fun r9 σ8 => XX g true d P_X12_putAside 0 [(2, 88), (0, σ8 93 x2)] [] 136 (su σ8 92 x2 r9) 136 (fun r11 σ10 => XX g true d P_X12_putAside 0 [(2, 88), (0, σ10 94 x2)] [] 136 (su σ10 93 x2 r11) 136 (fun r13 σ12 => (XX g true (d + 1) P_X12_asides 138 [(2, 88), (9, 0), (0, w32 (x2 + 1))] [] 136 (su σ12 94 x2 r13) 136 Q)))))))))) : XX g true (d + 1) P_X12_asides 138 [(2, 88), (9, 0), (0, x2)] [] 136 σ 136 Q := by
  refine E_iload_n 139 dX12_asides_138 rfl rfl ?_
  refine E_bipush 141 dX12_asides_139 (by decide) rfl ?_
  refine E_icmp_ge 144 246 dX12_asides_141 rfl rfl (fun h => ?_) (fun h => ?_)
  · have w := w.1 h
    exact E_vret dX12_asides_246 rfl rfl w
  · have w := w.2 h
    refine E_aload_n 145 dX12_asides_144 rfl (ac_88.bnd) rfl ?_
    refine E_getL 148 dX12_asides_145 fl_X12_13 ac_88 rfl (by decide) lay_88_3 rfl ?_
    refine E_iload_n 149 dX12_asides_148 rfl rfl ?_
    refine E_aload_n 150 dX12_asides_149 rfl (ac_88.bnd) rfl ?_
    refine E_aload_n 151 dX12_asides_150 rfl (ac_88.bnd) rfl ?_
    refine E_getL 154 dX12_asides_151 fl_X12_13 ac_88 rfl (by decide) lay_88_3 rfl ?_
    refine E_iload_n 155 dX12_asides_154 rfl rfl ?_
    obtain ⟨c1, w⟩ := w
    refine E_iald 156 dX12_asides_155 ac_89 c1 rfl ?_
    refine E_callV (as := [(0, σ 89 x2)]) 159 dX12_asides_156 cf_X12_putAside mw_1706 mw_1708 mw_104 ac_88 (by decide) cl_X12 rfl rfl (Nat.le_of_ble_eq_true rfl) (Nat.le_of_ble_eq_true rfl) ⟨Nat.le_refl _, Nat.le_refl _⟩ rfl (w.mono (fun r3 σ2 w => ?_))
    show XX g true (d + 1) P_X12_asides 159 [(2, 88), (9, 0), (0, x2)] [(0, r3), (0, x2), (2, 89)] 136 σ2 136 Q
    refine E_iast 160 dX12_asides_159 ac_89 c1 rfl ?_
    refine E_aload_n 161 dX12_asides_160 rfl (ac_88.bnd) rfl ?_
    refine E_getL 164 dX12_asides_161 fl_X12_17 ac_88 rfl (by decide) lay_88_4 rfl ?_
    refine E_iload_n 165 dX12_asides_164 rfl rfl ?_
    refine E_aload_n 166 dX12_asides_165 rfl (ac_88.bnd) rfl ?_
    refine E_aload_n 167 dX12_asides_166 rfl (ac_88.bnd) rfl ?_
    refine E_getL 170 dX12_asides_167 fl_X12_17 ac_88 rfl (by decide) lay_88_4 rfl ?_
    refine E_iload_n 171 dX12_asides_170 rfl rfl ?_
    refine E_iald 172 dX12_asides_171 ac_90 c1 rfl ?_
    refine E_conv (su_ne (Or.inl (by decide))) ?_
    refine E_callV (as := [(0, σ2 90 x2)]) 175 dX12_asides_172 cf_X12_putAside mw_1706 mw_1708 mw_104 ac_88 (by decide) cl_X12 rfl rfl (Nat.le_of_ble_eq_true rfl) (Nat.le_of_ble_eq_true rfl) ⟨Nat.le_refl _, Nat.le_refl _⟩ rfl (w.mono (fun r5 σ4 w => ?_))
    show XX g true (d + 1) P_X12_asides 175 [(2, 88), (9, 0), (0, x2)] [(0, r5), (0, x2), (2, 90)] 136 σ4 136 Q
    refine E_iast 176 dX12_asides_175 ac_90 c1 rfl ?_
    refine E_aload_n 177 dX12_asides_176 rfl (ac_88.bnd) rfl ?_
    refine E_getL 180 dX12_asides_177 fl_X12_20 ac_88 rfl (by decide) lay_88_5 rfl ?_
    refine E_iload_n 181 dX12_asides_180 rfl rfl ?_
    refine E_aload_n 182 dX12_asides_181 rfl (ac_88.bnd) rfl ?_
    refine E_aload_n 183 dX12_asides_182 rfl (ac_88.bnd) rfl ?_
    refine E_getL 186 dX12_asides_183 fl_X12_20 ac_88 rfl (by decide) lay_88_5 rfl ?_
    refine E_iload_n 187 dX12_asides_186 rfl rfl ?_
    refine E_iald 188 dX12_asides_187 ac_91 c1 rfl ?_
    refine E_conv (su_ne (Or.inl (by decide))) ?_
    refine E_callV (as := [(0, σ4 91 x2)]) 191 dX12_asides_188 cf_X12_putAside mw_1706 mw_1708 mw_104 ac_88 (by decide) cl_X12 rfl rfl (Nat.le_of_ble_eq_true rfl) (Nat.le_of_ble_eq_true rfl) ⟨Nat.le_refl _, Nat.le_refl _⟩ rfl (w.mono (fun r7 σ6 w => ?_))
    show XX g true (d + 1) P_X12_asides 191 [(2, 88), (9, 0), (0, x2)] [(0, r7), (0, x2), (2, 91)] 136 σ6 136 Q
    refine E_iast 192 dX12_asides_191 ac_91 c1 rfl ?_
    refine E_aload_n 193 dX12_asides_192 rfl (ac_88.bnd) rfl ?_
    refine E_getL 196 dX12_asides_193 fl_X12_23 ac_88 rfl (by decide) lay_88_6 rfl ?_
    refine E_iload_n 197 dX12_asides_196 rfl rfl ?_
    refine E_aload_n 198 dX12_asides_197 rfl (ac_88.bnd) rfl ?_
    refine E_aload_n 199 dX12_asides_198 rfl (ac_88.bnd) rfl ?_
    refine E_getL 202 dX12_asides_199 fl_X12_23 ac_88 rfl (by decide) lay_88_6 rfl ?_
    refine E_iload_n 203 dX12_asides_202 rfl rfl ?_
    refine E_iald 204 dX12_asides_203 ac_92 c1 rfl ?_
    refine E_conv (su_ne (Or.inl (by decide))) ?_
    refine E_callV (as := [(0, σ6 92 x2)]) 207 dX12_asides_204 cf_X12_putAside mw_1706 mw_1708 mw_104 ac_88 (by decide) cl_X12 rfl rfl (Nat.le_of_ble_eq_true rfl) (Nat.le_of_ble_eq_true rfl) ⟨Nat.le_refl _, Nat.le_refl _⟩ rfl (w.mono (fun r9 σ8 w => ?_))
    show XX g true (d + 1) P_X12_asides 207 [(2, 88), (9, 0), (0, x2)] [(0, r9), (0, x2), (2, 92)] 136 σ8 136 Q
    refine E_iast 208 dX12_asides_207 ac_92 c1 rfl ?_
    refine E_aload_n 209 dX12_asides_208 rfl (ac_88.bnd) rfl ?_
    refine E_getL 212 dX12_asides_209 fl_X12_26 ac_88 rfl (by decide) lay_88_7 rfl ?_
    refine E_iload_n 213 dX12_asides_212 rfl rfl ?_
    refine E_aload_n 214 dX12_asides_213 rfl (ac_88.bnd) rfl ?_
    refine E_aload_n 215 dX12_asides_214 rfl (ac_88.bnd) rfl ?_
    refine E_getL 218 dX12_asides_215 fl_X12_26 ac_88 rfl (by decide) lay_88_7 rfl ?_
    refine E_iload_n 219 dX12_asides_218 rfl rfl ?_
    refine E_iald 220 dX12_asides_219 ac_93 c1 rfl ?_
    refine E_conv (su_ne (Or.inl (by decide))) ?_
    refine E_callV (as := [(0, σ8 93 x2)]) 223 dX12_asides_220 cf_X12_putAside mw_1706 mw_1708 mw_104 ac_88 (by decide) cl_X12 rfl rfl (Nat.le_of_ble_eq_true rfl) (Nat.le_of_ble_eq_true rfl) ⟨Nat.le_refl _, Nat.le_refl _⟩ rfl (w.mono (fun r11 σ10 w => ?_))
    show XX g true (d + 1) P_X12_asides 223 [(2, 88), (9, 0), (0, x2)] [(0, r11), (0, x2), (2, 93)] 136 σ10 136 Q
    refine E_iast 224 dX12_asides_223 ac_93 c1 rfl ?_
    refine E_aload_n 225 dX12_asides_224 rfl (ac_88.bnd) rfl ?_
    refine E_getL 228 dX12_asides_225 fl_X12_29 ac_88 rfl (by decide) lay_88_8 rfl ?_
    refine E_iload_n 229 dX12_asides_228 rfl rfl ?_
    refine E_aload_n 230 dX12_asides_229 rfl (ac_88.bnd) rfl ?_
    refine E_aload_n 231 dX12_asides_230 rfl (ac_88.bnd) rfl ?_
    refine E_getL 234 dX12_asides_231 fl_X12_29 ac_88 rfl (by decide) lay_88_8 rfl ?_
    refine E_iload_n 235 dX12_asides_234 rfl rfl ?_
    refine E_iald 236 dX12_asides_235 ac_94 c1 rfl ?_
    refine E_conv (su_ne (Or.inl (by decide))) ?_
    refine E_callV (as := [(0, σ10 94 x2)]) 239 dX12_asides_236 cf_X12_putAside mw_1706 mw_1708 mw_104 ac_88 (by decide) cl_X12 rfl rfl (Nat.le_of_ble_eq_true rfl) (Nat.le_of_ble_eq_true rfl) ⟨Nat.le_refl _, Nat.le_refl _⟩ rfl (w.mono (fun r13 σ12 w => ?_))
    show XX g true (d + 1) P_X12_asides 239 [(2, 88), (9, 0), (0, x2)] [(0, r13), (0, x2), (2, 94)] 136 σ12 136 Q
    refine E_iast 240 dX12_asides_239 ac_94 c1 rfl ?_
    refine E_iinc (ls' := [(2, 88), (9, 0), (0, w32 (x2 + 1))]) 243 dX12_asides_240 (by decide) rfl rfl rfl ?_
    refine E_goto 138 dX12_asides_243 rfl ?_
    with_reducible exact w
theorem B_X12_thinks_0 {g : PG} {d : Nat} {σ : PS} {Q : Int → PS → Prop} {x1 x2 x3 : Int}  (w : XX g true d P_X12_asides 0 [(2, 88), (0, 1), (9, 0)] [] 136 σ 136 (fun _ σ1 => ∀ y3, y3 = σ1 88 14 → ∀ y4, y4 = σ1 88 13 → ∀ y5, y5 = σ1 88 15 → (XX g true (d + 1) P_X12_thinks 36 [(2, 88), (9, 0), (9, 0), (0, x3), (0, y3), (0, y4), (0, y5), (0, 0)] [] 136 (su (su σ1 88 50 x1) 88 51 x2) 136 Q))) : XX g true (d + 1) P_X12_thinks 0 [(2, 88), (0, x1), (0, x2), (0, x3), (9, 0), (9, 0), (9, 0), (9, 0)] [] 136 σ 136 Q := by
  refine E_aload_n 1 dX12_thinks_0 rfl (ac_88.bnd) rfl ?_
  refine E_iconst 2 dX12_thinks_1 (by decide) rfl ?_
  refine E_callV (as := [(0, 1)]) 5 dX12_thinks_2 cf_X12_asides mw_1702 mw_1704 mw_103 ac_88 (by decide) cl_X12 rfl rfl (Nat.le_of_ble_eq_true rfl) (Nat.le_of_ble_eq_true rfl) ⟨Nat.le_refl _, Nat.le_refl _⟩ rfl (w.mono (fun r2 σ1 w => ?_))
  show XX g true (d + 1) P_X12_thinks 5 [(2, 88), (0, x1), (0, x2), (0, x3), (9, 0), (9, 0), (9, 0), (9, 0)] [] 136 σ1 136 Q
  refine E_aload_n 6 dX12_thinks_5 rfl (ac_88.bnd) rfl ?_
  refine E_get 14 9 dX12_thinks_6 fl_X12_358 ac_88 rfl (by decide) rfl rfl ?_
  refine E_top (fun y3 hy3 => ?_)
  have w := w y3 hy3
  refine E_istore (ls' := [(2, 88), (0, x1), (0, x2), (0, x3), (0, y3), (9, 0), (9, 0), (9, 0)]) 11 dX12_thinks_9 (by decide) rfl rfl ?_
  refine E_aload_n 12 dX12_thinks_11 rfl (ac_88.bnd) rfl ?_
  refine E_get 13 15 dX12_thinks_12 fl_X12_382 ac_88 rfl (by decide) rfl rfl ?_
  refine E_top (fun y4 hy4 => ?_)
  have w := w y4 hy4
  refine E_istore (ls' := [(2, 88), (0, x1), (0, x2), (0, x3), (0, y3), (0, y4), (9, 0), (9, 0)]) 17 dX12_thinks_15 (by decide) rfl rfl ?_
  refine E_aload_n 18 dX12_thinks_17 rfl (ac_88.bnd) rfl ?_
  refine E_get 15 21 dX12_thinks_18 fl_X12_361 ac_88 rfl (by decide) rfl rfl ?_
  refine E_top (fun y5 hy5 => ?_)
  have w := w y5 hy5
  refine E_istore (ls' := [(2, 88), (0, x1), (0, x2), (0, x3), (0, y3), (0, y4), (0, y5), (9, 0)]) 23 dX12_thinks_21 (by decide) rfl rfl ?_
  refine E_aload_n 24 dX12_thinks_23 rfl (ac_88.bnd) rfl ?_
  refine E_iload_n 25 dX12_thinks_24 rfl rfl ?_
  refine E_putI 50 28 dX12_thinks_25 fl_X12_101 ac_88 rfl (by decide) (Or.inl rfl) rfl rfl ?_
  refine E_aload_n 29 dX12_thinks_28 rfl (ac_88.bnd) rfl ?_
  refine E_iload_n 30 dX12_thinks_29 rfl rfl ?_
  refine E_putI 51 33 dX12_thinks_30 fl_X12_385 ac_88 rfl (by decide) (Or.inl rfl) rfl rfl ?_
  refine E_iconst 34 dX12_thinks_33 (by decide) rfl ?_
  refine E_istore (ls' := [(2, 88), (0, x1), (0, x2), (0, x3), (0, y3), (0, y4), (0, y5), (0, 0)]) 36 dX12_thinks_34 (by decide) rfl rfl ?_
  refine XX.fg [1, 2] [(2, 88), (9, 0), (9, 0), (0, x3), (0, y3), (0, y4), (0, y5), (0, 0)] rfl ?_
  with_reducible exact w
theorem B_X12_thinks_36 {g : PG} {d : Nat} {σ : PS} {Q : Int → PS → Prop} {x3 x4 x5 x6 x7 : Int}  (w : ((x3 ≤ x7 → XX g true d P_X12_asides 0 [(2, 88), (0, 0), (9, 0)] [] 136 (su (su (su σ 88 72 (w32 ((σ 88 14) - x4))) 88 73 (w32 ((σ 88 13) - x5))) 88 74 (w32 ((σ 88 15) - x6))) 136 (fun _ σ1 => Q 0 σ1)) ∧ (x7 < x3 → XX g true d P_X12_goesBy 0 [(2, 88), (9, 0)] [] 136 σ 136 (fun _ σ3 => (XX g true (d + 1) P_X12_thinks 36 [(2, 88), (9, 0), (9, 0), (0, x3), (0, x4), (0, x5), (0, x6), (0, w32 (x7 + 1))] [] 136 σ3 136 Q))))) : XX g true (d + 1) P_X12_thinks 36 [(2, 88), (9, 0), (9, 0), (0, x3), (0, x4), (0, x5), (0, x6), (0, x7)] [] 136 σ 136 Q := by
  refine E_iload 38 dX12_thinks_36 rfl rfl ?_
  refine E_iload_n 39 dX12_thinks_38 rfl rfl ?_
  refine E_icmp_ge 42 52 dX12_thinks_39 rfl rfl (fun h => ?_) (fun h => ?_)
  · have w := w.1 h
    refine E_aload_n 53 dX12_thinks_52 rfl (ac_88.bnd) rfl ?_
    refine E_aload_n 54 dX12_thinks_53 rfl (ac_88.bnd) rfl ?_
    refine E_get 14 57 dX12_thinks_54 fl_X12_358 ac_88 rfl (by decide) rfl rfl ?_
    refine E_iload 59 dX12_thinks_57 rfl rfl ?_
    refine E_isub 60 dX12_thinks_59 rfl ?_
    refine E_putI 72 63 dX12_thinks_60 fl_X12_454 ac_88 rfl (by decide) (Or.inl rfl) rfl rfl ?_
    refine E_aload_n 64 dX12_thinks_63 rfl (ac_88.bnd) rfl ?_
    refine E_aload_n 65 dX12_thinks_64 rfl (ac_88.bnd) rfl ?_
    refine E_get 13 68 dX12_thinks_65 fl_X12_382 ac_88 rfl (by decide) rfl rfl ?_
    refine E_conv (su_ne (Or.inr (by decide))) ?_
    refine E_iload 70 dX12_thinks_68 rfl rfl ?_
    refine E_isub 71 dX12_thinks_70 rfl ?_
    refine E_putI 73 74 dX12_thinks_71 fl_X12_457 ac_88 rfl (by decide) (Or.inl rfl) rfl rfl ?_
    refine E_aload_n 75 dX12_thinks_74 rfl (ac_88.bnd) rfl ?_
    refine E_aload_n 76 dX12_thinks_75 rfl (ac_88.bnd) rfl ?_
    refine E_get 15 79 dX12_thinks_76 fl_X12_361 ac_88 rfl (by decide) rfl rfl ?_
    refine E_conv ((su_ne (Or.inr (by decide))).trans (su_ne (Or.inr (by decide)))) ?_
    refine E_iload 81 dX12_thinks_79 rfl rfl ?_
    refine E_isub 82 dX12_thinks_81 rfl ?_
    refine E_putI 74 85 dX12_thinks_82 fl_X12_460 ac_88 rfl (by decide) (Or.inl rfl) rfl rfl ?_
    refine E_aload_n 86 dX12_thinks_85 rfl (ac_88.bnd) rfl ?_
    refine E_iconst 87 dX12_thinks_86 (by decide) rfl ?_
    refine E_callV (as := [(0, 0)]) 90 dX12_thinks_87 cf_X12_asides mw_1702 mw_1704 mw_103 ac_88 (by decide) cl_X12 rfl rfl (Nat.le_of_ble_eq_true rfl) (Nat.le_of_ble_eq_true rfl) ⟨Nat.le_refl _, Nat.le_refl _⟩ rfl (w.mono (fun r2 σ1 w => ?_))
    show XX g true (d + 1) P_X12_thinks 90 [(2, 88), (9, 0), (9, 0), (0, x3), (0, x4), (0, x5), (0, x6), (0, x7)] [] 136 σ1 136 Q
    exact E_vret dX12_thinks_90 rfl rfl w
  · have w := w.2 h
    refine E_aload_n 43 dX12_thinks_42 rfl (ac_88.bnd) rfl ?_
    refine E_callV (as := []) 46 dX12_thinks_43 cf_X12_goesBy mw_1544 mw_1546 mw_75 ac_88 (by decide) cl_X12 rfl rfl (Nat.le_of_ble_eq_true rfl) (Nat.le_of_ble_eq_true rfl) ⟨Nat.le_refl _, Nat.le_refl _⟩ rfl (w.mono (fun r4 σ3 w => ?_))
    show XX g true (d + 1) P_X12_thinks 46 [(2, 88), (9, 0), (9, 0), (0, x3), (0, x4), (0, x5), (0, x6), (0, x7)] [] 136 σ3 136 Q
    refine E_iinc (ls' := [(2, 88), (9, 0), (9, 0), (0, x3), (0, x4), (0, x5), (0, x6), (0, w32 (x7 + 1))]) 49 dX12_thinks_46 (by decide) rfl rfl rfl ?_
    refine E_goto 36 dX12_thinks_49 rfl ?_
    with_reducible exact w
theorem B_X12_thought_0 {g : PG} {d : Nat} {σ : PS} {Q : Int → PS → Prop} {x1 x2 x3 x4 : Int}  (w : XX g true d P_X12_isIn 0 [(2, 88), (0, x1), (0, 1), (0, 2)] [] 136 (su σ 88 0 0) 136 (fun r2 σ1 => ((r2 = 0 → Q (-1) σ1) ∧ (r2 ≠ 0 → XX g true d P_X12_isIn 0 [(2, 88), (0, x2), (0, 1), (0, 99)] [] 136 σ1 136 (fun r4 σ3 => ((r4 = 0 → Q (-1) σ3) ∧ (r4 ≠ 0 → XX g true d P_X12_isIn 0 [(2, 88), (0, x3), (0, 1), (0, 99)] [] 136 σ3 136 (fun r6 σ5 => ((r6 = 0 → Q (-1) σ5) ∧ (r6 ≠ 0 → XX g true d P_X12_isIn 0 [(2, 88), (0, x4), (0, 0), (0, 2)] [] 136 σ5 136 (fun r8 σ7 => ((r8 ≠ 0 → XX g true d P_X12_thinks 0 [(2, 88), (0, x1), (0, x2), (0, x3), (9, 0), (9, 0), (9, 0), (9, 0)] [] 136 σ7 136 (fun _ σ9 => ((x4 ≠ 0 → ((x4 ≠ 1 → Q (σ9 88 74) σ9) ∧ (x4 = 1 → Q (σ9 88 73) σ9))) ∧ (x4 = 0 → Q (σ9 88 72) σ9)))) ∧ (r8 = 0 → Q (-1) σ7))))))))))))) : XX g true (d + 1) P_X12_thought 0 [(2, 88), (0, x1), (0, x2), (0, x3), (0, x4)] [] 136 σ 136 Q := by
  refine E_aload_n 1 dX12_thought_0 rfl (ac_88.bnd) rfl ?_
  refine E_iconst 2 dX12_thought_1 (by decide) rfl ?_
  refine E_putI 0 5 dX12_thought_2 fl_X12_166 ac_88 rfl (by decide) (Or.inl rfl) rfl rfl ?_
  refine E_aload_n 6 dX12_thought_5 rfl (ac_88.bnd) rfl ?_
  refine E_iload_n 7 dX12_thought_6 rfl rfl ?_
  refine E_iconst 8 dX12_thought_7 (by decide) rfl ?_
  refine E_iconst 9 dX12_thought_8 (by decide) rfl ?_
  refine E_callV (as := [(0, x1), (0, 1), (0, 2)]) 12 dX12_thought_9 cf_X12_isIn mw_1363 mw_1365 mw_39 ac_88 (by decide) cl_X12 rfl rfl (Nat.le_of_ble_eq_true rfl) (Nat.le_of_ble_eq_true rfl) ⟨Nat.le_refl _, Nat.le_refl _⟩ rfl (w.mono (fun r2 σ1 w => ?_))
  show XX g true (d + 1) P_X12_thought 12 [(2, 88), (0, x1), (0, x2), (0, x3), (0, x4)] [(0, r2)] 136 σ1 136 Q
  refine E_if_eq 15 48 dX12_thought_12 rfl rfl (fun h => ?_) (fun h => ?_)
  · have w := w.1 h
    refine E_iconst 49 dX12_thought_48 (by decide) rfl ?_
    exact E_iret dX12_thought_49 rfl rfl w
  · have w := w.2 h
    refine E_aload_n 16 dX12_thought_15 rfl (ac_88.bnd) rfl ?_
    refine E_iload_n 17 dX12_thought_16 rfl rfl ?_
    refine E_iconst 18 dX12_thought_17 (by decide) rfl ?_
    refine E_bipush 20 dX12_thought_18 (by decide) rfl ?_
    refine E_callV (as := [(0, x2), (0, 1), (0, 99)]) 23 dX12_thought_20 cf_X12_isIn mw_1363 mw_1365 mw_39 ac_88 (by decide) cl_X12 rfl rfl (Nat.le_of_ble_eq_true rfl) (Nat.le_of_ble_eq_true rfl) ⟨Nat.le_refl _, Nat.le_refl _⟩ rfl (w.mono (fun r4 σ3 w => ?_))
    show XX g true (d + 1) P_X12_thought 23 [(2, 88), (0, x1), (0, x2), (0, x3), (0, x4)] [(0, r4)] 136 σ3 136 Q
    refine E_if_eq 26 48 dX12_thought_23 rfl rfl (fun h => ?_) (fun h => ?_)
    · have w := w.1 h
      refine E_iconst 49 dX12_thought_48 (by decide) rfl ?_
      exact E_iret dX12_thought_49 rfl rfl w
    · have w := w.2 h
      refine E_aload_n 27 dX12_thought_26 rfl (ac_88.bnd) rfl ?_
      refine E_iload_n 28 dX12_thought_27 rfl rfl ?_
      refine E_iconst 29 dX12_thought_28 (by decide) rfl ?_
      refine E_bipush 31 dX12_thought_29 (by decide) rfl ?_
      refine E_callV (as := [(0, x3), (0, 1), (0, 99)]) 34 dX12_thought_31 cf_X12_isIn mw_1363 mw_1365 mw_39 ac_88 (by decide) cl_X12 rfl rfl (Nat.le_of_ble_eq_true rfl) (Nat.le_of_ble_eq_true rfl) ⟨Nat.le_refl _, Nat.le_refl _⟩ rfl (w.mono (fun r6 σ5 w => ?_))
      show XX g true (d + 1) P_X12_thought 34 [(2, 88), (0, x1), (0, x2), (0, x3), (0, x4)] [(0, r6)] 136 σ5 136 Q
      refine E_if_eq 37 48 dX12_thought_34 rfl rfl (fun h => ?_) (fun h => ?_)
      · have w := w.1 h
        refine E_iconst 49 dX12_thought_48 (by decide) rfl ?_
        exact E_iret dX12_thought_49 rfl rfl w
      · have w := w.2 h
        refine E_aload_n 38 dX12_thought_37 rfl (ac_88.bnd) rfl ?_
        refine E_iload 40 dX12_thought_38 rfl rfl ?_
        refine E_iconst 41 dX12_thought_40 (by decide) rfl ?_
        refine E_iconst 42 dX12_thought_41 (by decide) rfl ?_
        refine E_callV (as := [(0, x4), (0, 0), (0, 2)]) 45 dX12_thought_42 cf_X12_isIn mw_1363 mw_1365 mw_39 ac_88 (by decide) cl_X12 rfl rfl (Nat.le_of_ble_eq_true rfl) (Nat.le_of_ble_eq_true rfl) ⟨Nat.le_refl _, Nat.le_refl _⟩ rfl (w.mono (fun r8 σ7 w => ?_))
        show XX g true (d + 1) P_X12_thought 45 [(2, 88), (0, x1), (0, x2), (0, x3), (0, x4)] [(0, r8)] 136 σ7 136 Q
        refine E_if_ne 48 50 dX12_thought_45 rfl rfl (fun h => ?_) (fun h => ?_)
        · have w := w.1 h
          refine E_aload_n 51 dX12_thought_50 rfl (ac_88.bnd) rfl ?_
          refine E_iload_n 52 dX12_thought_51 rfl rfl ?_
          refine E_iload_n 53 dX12_thought_52 rfl rfl ?_
          refine E_iload_n 54 dX12_thought_53 rfl rfl ?_
          refine E_callV (as := [(0, x1), (0, x2), (0, x3)]) 57 dX12_thought_54 cf_X12_thinks mw_1698 mw_1700 mw_102 ac_88 (by decide) cl_X12 rfl rfl (Nat.le_of_ble_eq_true rfl) (Nat.le_of_ble_eq_true rfl) ⟨Nat.le_refl _, Nat.le_refl _⟩ rfl (w.mono (fun r10 σ9 w => ?_))
          show XX g true (d + 1) P_X12_thought 57 [(2, 88), (0, x1), (0, x2), (0, x3), (0, x4)] [] 136 σ9 136 Q
          refine E_iload 59 dX12_thought_57 rfl rfl ?_
          refine E_if_ne 62 69 dX12_thought_59 rfl rfl (fun h => ?_) (fun h => ?_)
          · have w := w.1 h
            refine E_iload 71 dX12_thought_69 rfl rfl ?_
            refine E_iconst 72 dX12_thought_71 (by decide) rfl ?_
            refine E_icmp_ne 75 82 dX12_thought_72 rfl rfl (fun h => ?_) (fun h => ?_)
            · have w := w.1 h
              refine E_aload_n 83 dX12_thought_82 rfl (ac_88.bnd) rfl ?_
              refine E_get 74 86 dX12_thought_83 fl_X12_460 ac_88 rfl (by decide) rfl rfl ?_
              exact E_iret dX12_thought_86 rfl rfl w
            · have w := w.2 h
              refine E_aload_n 76 dX12_thought_75 rfl (ac_88.bnd) rfl ?_
              refine E_get 73 79 dX12_thought_76 fl_X12_457 ac_88 rfl (by decide) rfl rfl ?_
              refine E_goto 86 dX12_thought_79 rfl ?_
              exact E_iret dX12_thought_86 rfl rfl w
          · have w := w.2 h
            refine E_aload_n 63 dX12_thought_62 rfl (ac_88.bnd) rfl ?_
            refine E_get 72 66 dX12_thought_63 fl_X12_454 ac_88 rfl (by decide) rfl rfl ?_
            refine E_goto 86 dX12_thought_66 rfl ?_
            exact E_iret dX12_thought_86 rfl rfl w
        · have w := w.2 h
          refine E_iconst 49 dX12_thought_48 (by decide) rfl ?_
          exact E_iret dX12_thought_49 rfl rfl w
theorem B_X12_often_0 {g : PG} {d : Nat} {σ : PS} {Q : Int → PS → Prop} {x1 x2 : Int}  (w : XX g true d P_X12_isIn 0 [(2, 88), (0, x1), (0, 1), (0, 99)] [] 136 (su σ 88 0 0) 136 (fun r2 σ1 => ((r2 = 0 → Q (-1) σ1) ∧ (r2 ≠ 0 → XX g true d P_X12_isIn 0 [(2, 88), (0, x2), (0, 0), (0, 1)] [] 136 σ1 136 (fun r4 σ3 => ((r4 ≠ 0 → ((x2 ≠ 0 → XX g true d P_X12_thinks 0 [(2, 88), (0, 1), (0, σ3 97 3), (0, x1), (9, 0), (9, 0), (9, 0), (9, 0)] [] 136 σ3 136 (fun _ σ5 => ∀ y7, y7 = σ5 88 72 → ((x2 ≠ 1 → (XX g true (d + 1) P_X12_often 91 [(2, 88), (0, x1), (9, 0), (0, 1), (0, y7), (0, 2)] [] 136 σ5 136 Q)) ∧ (x2 = 1 → XX g true d P_X12_thinks 0 [(2, 88), (0, 2), (0, σ5 97 3), (0, x1), (9, 0), (9, 0), (9, 0), (9, 0)] [] 136 σ5 136 (fun _ σ8 => ((y7 ≤ σ8 88 72 → Q 1 σ8) ∧ (σ8 88 72 < y7 → Q 2 σ8))))))) ∧ (x2 = 0 → XX g true d P_X12_thinks 0 [(2, 88), (0, 1), (0, 1), (0, x1), (9, 0), (9, 0), (9, 0), (9, 0)] [] 136 σ3 136 (fun _ σ10 => ∀ y12, y12 = σ10 88 72 → ((x2 ≠ 1 → (XX g true (d + 1) P_X12_often 91 [(2, 88), (0, x1), (9, 0), (0, 1), (0, y12), (0, 2)] [] 136 σ10 136 Q)) ∧ (x2 = 1 → XX g true d P_X12_thinks 0 [(2, 88), (0, 2), (0, σ10 97 3), (0, x1), (9, 0), (9, 0), (9, 0), (9, 0)] [] 136 σ10 136 (fun _ σ13 => ((y12 ≤ σ13 88 72 → Q 1 σ13) ∧ (σ13 88 72 < y12 → Q 2 σ13))))))))) ∧ (r4 = 0 → Q (-1) σ3))))))) : XX g true (d + 1) P_X12_often 0 [(2, 88), (0, x1), (0, x2), (9, 0), (9, 0), (9, 0)] [] 136 σ 136 Q := by
  refine E_aload_n 1 dX12_often_0 rfl (ac_88.bnd) rfl ?_
  refine E_iconst 2 dX12_often_1 (by decide) rfl ?_
  refine E_putI 0 5 dX12_often_2 fl_X12_166 ac_88 rfl (by decide) (Or.inl rfl) rfl rfl ?_
  refine E_aload_n 6 dX12_often_5 rfl (ac_88.bnd) rfl ?_
  refine E_iload_n 7 dX12_often_6 rfl rfl ?_
  refine E_iconst 8 dX12_often_7 (by decide) rfl ?_
  refine E_bipush 10 dX12_often_8 (by decide) rfl ?_
  refine E_callV (as := [(0, x1), (0, 1), (0, 99)]) 13 dX12_often_10 cf_X12_isIn mw_1363 mw_1365 mw_39 ac_88 (by decide) cl_X12 rfl rfl (Nat.le_of_ble_eq_true rfl) (Nat.le_of_ble_eq_true rfl) ⟨Nat.le_refl _, Nat.le_refl _⟩ rfl (w.mono (fun r2 σ1 w => ?_))
  show XX g true (d + 1) P_X12_often 13 [(2, 88), (0, x1), (0, x2), (9, 0), (9, 0), (9, 0)] [(0, r2)] 136 σ1 136 Q
  refine E_if_eq 16 26 dX12_often_13 rfl rfl (fun h => ?_) (fun h => ?_)
  · have w := w.1 h
    refine E_iconst 27 dX12_often_26 (by decide) rfl ?_
    exact E_iret dX12_often_27 rfl rfl w
  · have w := w.2 h
    refine E_aload_n 17 dX12_often_16 rfl (ac_88.bnd) rfl ?_
    refine E_iload_n 18 dX12_often_17 rfl rfl ?_
    refine E_iconst 19 dX12_often_18 (by decide) rfl ?_
    refine E_iconst 20 dX12_often_19 (by decide) rfl ?_
    refine E_callV (as := [(0, x2), (0, 0), (0, 1)]) 23 dX12_often_20 cf_X12_isIn mw_1363 mw_1365 mw_39 ac_88 (by decide) cl_X12 rfl rfl (Nat.le_of_ble_eq_true rfl) (Nat.le_of_ble_eq_true rfl) ⟨Nat.le_refl _, Nat.le_refl _⟩ rfl (w.mono (fun r4 σ3 w => ?_))
    show XX g true (d + 1) P_X12_often 23 [(2, 88), (0, x1), (0, x2), (9, 0), (9, 0), (9, 0)] [(0, r4)] 136 σ3 136 Q
    refine E_if_ne 26 28 dX12_often_23 rfl rfl (fun h => ?_) (fun h => ?_)
    · have w := w.1 h
      refine E_iconst 29 dX12_often_28 (by decide) rfl ?_
      refine E_istore_n (ls' := [(2, 88), (0, x1), (0, x2), (0, 1), (9, 0), (9, 0)]) 30 dX12_often_29 (by decide) rfl rfl ?_
      refine E_aload_n 31 dX12_often_30 rfl (ac_88.bnd) rfl ?_
      refine E_iconst 32 dX12_often_31 (by decide) rfl ?_
      refine E_iload_n 33 dX12_often_32 rfl rfl ?_
      refine E_if_ne 36 40 dX12_often_33 rfl rfl (fun h => ?_) (fun h => ?_)
      · have w := w.1 h
        refine E_aload_n 41 dX12_often_40 rfl (ac_88.bnd) rfl ?_
        refine E_getL 44 dX12_often_41 fl_X12_38 ac_88 rfl (by decide) lay_88_11 rfl ?_
        refine E_iconst 45 dX12_often_44 (by decide) rfl ?_
        refine E_iald 46 dX12_often_45 ac_97 (by decide) rfl ?_
        refine E_iload_n 47 dX12_often_46 rfl rfl ?_
        refine E_callV (as := [(0, 1), (0, σ3 97 3), (0, x1)]) 50 dX12_often_47 cf_X12_thinks mw_1698 mw_1700 mw_102 ac_88 (by decide) cl_X12 rfl rfl (Nat.le_of_ble_eq_true rfl) (Nat.le_of_ble_eq_true rfl) ⟨Nat.le_refl _, Nat.le_refl _⟩ rfl (w.mono (fun r6 σ5 w => ?_))
        show XX g true (d + 1) P_X12_often 50 [(2, 88), (0, x1), (0, x2), (0, 1), (9, 0), (9, 0)] [] 136 σ5 136 Q
        refine E_aload_n 51 dX12_often_50 rfl (ac_88.bnd) rfl ?_
        refine E_get 72 54 dX12_often_51 fl_X12_454 ac_88 rfl (by decide) rfl rfl ?_
        refine E_top (fun y7 hy7 => ?_)
        have w := w y7 hy7
        refine E_istore (ls' := [(2, 88), (0, x1), (0, x2), (0, 1), (0, y7), (9, 0)]) 56 dX12_often_54 (by decide) rfl rfl ?_
        refine E_iload_n 57 dX12_often_56 rfl rfl ?_
        refine E_iconst 58 dX12_often_57 (by decide) rfl ?_
        refine E_icmp_ne 61 88 dX12_often_58 rfl rfl (fun h => ?_) (fun h => ?_)
        · have w := w.1 h
          refine E_iconst 89 dX12_often_88 (by decide) rfl ?_
          refine E_istore (ls' := [(2, 88), (0, x1), (0, x2), (0, 1), (0, y7), (0, 2)]) 91 dX12_often_89 (by decide) rfl rfl ?_
          refine XX.fg [2] [(2, 88), (0, x1), (9, 0), (0, 1), (0, y7), (0, 2)] rfl ?_
          with_reducible exact w
        · have w := w.2 h
          refine E_aload_n 62 dX12_often_61 rfl (ac_88.bnd) rfl ?_
          refine E_iconst 63 dX12_often_62 (by decide) rfl ?_
          refine E_aload_n 64 dX12_often_63 rfl (ac_88.bnd) rfl ?_
          refine E_getL 67 dX12_often_64 fl_X12_38 ac_88 rfl (by decide) lay_88_11 rfl ?_
          refine E_iconst 68 dX12_often_67 (by decide) rfl ?_
          refine E_iald 69 dX12_often_68 ac_97 (by decide) rfl ?_
          refine E_iload_n 70 dX12_often_69 rfl rfl ?_
          refine E_callV (as := [(0, 2), (0, σ5 97 3), (0, x1)]) 73 dX12_often_70 cf_X12_thinks mw_1698 mw_1700 mw_102 ac_88 (by decide) cl_X12 rfl rfl (Nat.le_of_ble_eq_true rfl) (Nat.le_of_ble_eq_true rfl) ⟨Nat.le_refl _, Nat.le_refl _⟩ rfl (w.mono (fun r9 σ8 w => ?_))
          show XX g true (d + 1) P_X12_often 73 [(2, 88), (0, x1), (0, x2), (0, 1), (0, y7), (9, 0)] [] 136 σ8 136 Q
          refine E_aload_n 74 dX12_often_73 rfl (ac_88.bnd) rfl ?_
          refine E_get 72 77 dX12_often_74 fl_X12_454 ac_88 rfl (by decide) rfl rfl ?_
          refine E_iload 79 dX12_often_77 rfl rfl ?_
          refine E_icmp_ge 82 86 dX12_often_79 rfl rfl (fun h => ?_) (fun h => ?_)
          · have w := w.1 h
            refine E_iconst 87 dX12_often_86 (by decide) rfl ?_
            exact E_iret dX12_often_87 rfl rfl w
          · have w := w.2 h
            refine E_iconst 83 dX12_often_82 (by decide) rfl ?_
            refine E_goto 87 dX12_often_83 rfl ?_
            exact E_iret dX12_often_87 rfl rfl w
      · have w := w.2 h
        refine E_iconst 37 dX12_often_36 (by decide) rfl ?_
        refine E_goto 46 dX12_often_37 rfl ?_
        refine E_iload_n 47 dX12_often_46 rfl rfl ?_
        refine E_callV (as := [(0, 1), (0, 1), (0, x1)]) 50 dX12_often_47 cf_X12_thinks mw_1698 mw_1700 mw_102 ac_88 (by decide) cl_X12 rfl rfl (Nat.le_of_ble_eq_true rfl) (Nat.le_of_ble_eq_true rfl) ⟨Nat.le_refl _, Nat.le_refl _⟩ rfl (w.mono (fun r11 σ10 w => ?_))
        show XX g true (d + 1) P_X12_often 50 [(2, 88), (0, x1), (0, x2), (0, 1), (9, 0), (9, 0)] [] 136 σ10 136 Q
        refine E_aload_n 51 dX12_often_50 rfl (ac_88.bnd) rfl ?_
        refine E_get 72 54 dX12_often_51 fl_X12_454 ac_88 rfl (by decide) rfl rfl ?_
        refine E_top (fun y12 hy12 => ?_)
        have w := w y12 hy12
        refine E_istore (ls' := [(2, 88), (0, x1), (0, x2), (0, 1), (0, y12), (9, 0)]) 56 dX12_often_54 (by decide) rfl rfl ?_
        refine E_iload_n 57 dX12_often_56 rfl rfl ?_
        refine E_iconst 58 dX12_often_57 (by decide) rfl ?_
        refine E_icmp_ne 61 88 dX12_often_58 rfl rfl (fun h => ?_) (fun h => ?_)
        · have w := w.1 h
          refine E_iconst 89 dX12_often_88 (by decide) rfl ?_
          refine E_istore (ls' := [(2, 88), (0, x1), (0, x2), (0, 1), (0, y12), (0, 2)]) 91 dX12_often_89 (by decide) rfl rfl ?_
          refine XX.fg [2] [(2, 88), (0, x1), (9, 0), (0, 1), (0, y12), (0, 2)] rfl ?_
          with_reducible exact w
        · have w := w.2 h
          refine E_aload_n 62 dX12_often_61 rfl (ac_88.bnd) rfl ?_
          refine E_iconst 63 dX12_often_62 (by decide) rfl ?_
          refine E_aload_n 64 dX12_often_63 rfl (ac_88.bnd) rfl ?_
          refine E_getL 67 dX12_often_64 fl_X12_38 ac_88 rfl (by decide) lay_88_11 rfl ?_
          refine E_iconst 68 dX12_often_67 (by decide) rfl ?_
          refine E_iald 69 dX12_often_68 ac_97 (by decide) rfl ?_
          refine E_iload_n 70 dX12_often_69 rfl rfl ?_
          refine E_callV (as := [(0, 2), (0, σ10 97 3), (0, x1)]) 73 dX12_often_70 cf_X12_thinks mw_1698 mw_1700 mw_102 ac_88 (by decide) cl_X12 rfl rfl (Nat.le_of_ble_eq_true rfl) (Nat.le_of_ble_eq_true rfl) ⟨Nat.le_refl _, Nat.le_refl _⟩ rfl (w.mono (fun r14 σ13 w => ?_))
          show XX g true (d + 1) P_X12_often 73 [(2, 88), (0, x1), (0, x2), (0, 1), (0, y12), (9, 0)] [] 136 σ13 136 Q
          refine E_aload_n 74 dX12_often_73 rfl (ac_88.bnd) rfl ?_
          refine E_get 72 77 dX12_often_74 fl_X12_454 ac_88 rfl (by decide) rfl rfl ?_
          refine E_iload 79 dX12_often_77 rfl rfl ?_
          refine E_icmp_ge 82 86 dX12_often_79 rfl rfl (fun h => ?_) (fun h => ?_)
          · have w := w.1 h
            refine E_iconst 87 dX12_often_86 (by decide) rfl ?_
            exact E_iret dX12_often_87 rfl rfl w
          · have w := w.2 h
            refine E_iconst 83 dX12_often_82 (by decide) rfl ?_
            refine E_goto 87 dX12_often_83 rfl ?_
            exact E_iret dX12_often_87 rfl rfl w
    · have w := w.2 h
      refine E_iconst 27 dX12_often_26 (by decide) rfl ?_
      exact E_iret dX12_often_27 rfl rfl w
theorem B_X12_often_91 {g : PG} {d : Nat} {σ : PS} {Q : Int → PS → Prop} {x1 x3 x4 x5 : Int}  (w : ((9 < x5 → Q x3 σ) ∧ (x5 ≤ 9 → XX g true d P_X12_thinks 0 [(2, 88), (0, 1), (0, x5), (0, x1), (9, 0), (9, 0), (9, 0), (9, 0)] [] 136 σ 136 (fun _ σ1 => ((σ1 88 72 ≤ x4 → ∀ y3, y3 = σ1 88 72 → (XX g true (d + 1) P_X12_often 91 [(2, 88), (0, x1), (9, 0), (0, x5), (0, y3), (0, w32 (x5 + 1))] [] 136 σ1 136 Q)) ∧ (x4 < σ1 88 72 → (XX g true (d + 1) P_X12_often 91 [(2, 88), (0, x1), (9, 0), (0, x3), (0, x4), (0, w32 (x5 + 1))] [] 136 σ1 136 Q))))))) : XX g true (d + 1) P_X12_often 91 [(2, 88), (0, x1), (9, 0), (0, x3), (0, x4), (0, x5)] [] 136 σ 136 Q := by
  refine E_iload 93 dX12_often_91 rfl rfl ?_
  refine E_bipush 95 dX12_often_93 (by decide) rfl ?_
  refine E_icmp_gt 98 133 dX12_often_95 rfl rfl (fun h => ?_) (fun h => ?_)
  · have w := w.1 h
    refine E_iload_n 134 dX12_often_133 rfl rfl ?_
    exact E_iret dX12_often_134 rfl rfl w
  · have w := w.2 h
    refine E_aload_n 99 dX12_often_98 rfl (ac_88.bnd) rfl ?_
    refine E_iconst 100 dX12_often_99 (by decide) rfl ?_
    refine E_iload 102 dX12_often_100 rfl rfl ?_
    refine E_iload_n 103 dX12_often_102 rfl rfl ?_
    refine E_callV (as := [(0, 1), (0, x5), (0, x1)]) 106 dX12_often_103 cf_X12_thinks mw_1698 mw_1700 mw_102 ac_88 (by decide) cl_X12 rfl rfl (Nat.le_of_ble_eq_true rfl) (Nat.le_of_ble_eq_true rfl) ⟨Nat.le_refl _, Nat.le_refl _⟩ rfl (w.mono (fun r2 σ1 w => ?_))
    show XX g true (d + 1) P_X12_often 106 [(2, 88), (0, x1), (9, 0), (0, x3), (0, x4), (0, x5)] [] 136 σ1 136 Q
    refine E_aload_n 107 dX12_often_106 rfl (ac_88.bnd) rfl ?_
    refine E_get 72 110 dX12_often_107 fl_X12_454 ac_88 rfl (by decide) rfl rfl ?_
    refine E_iload 112 dX12_often_110 rfl rfl ?_
    refine E_icmp_le 115 118 dX12_often_112 rfl rfl (fun h => ?_) (fun h => ?_)
    · have w := w.1 h
      refine E_iload 120 dX12_often_118 rfl rfl ?_
      refine E_istore_n (ls' := [(2, 88), (0, x1), (9, 0), (0, x5), (0, x4), (0, x5)]) 121 dX12_often_120 (by decide) rfl rfl ?_
      refine E_aload_n 122 dX12_often_121 rfl (ac_88.bnd) rfl ?_
      refine E_get 72 125 dX12_often_122 fl_X12_454 ac_88 rfl (by decide) rfl rfl ?_
      refine E_top (fun y3 hy3 => ?_)
      have w := w y3 hy3
      refine E_istore (ls' := [(2, 88), (0, x1), (9, 0), (0, x5), (0, y3), (0, x5)]) 127 dX12_often_125 (by decide) rfl rfl ?_
      refine E_iinc (ls' := [(2, 88), (0, x1), (9, 0), (0, x5), (0, y3), (0, w32 (x5 + 1))]) 130 dX12_often_127 (by decide) rfl rfl rfl ?_
      refine E_goto 91 dX12_often_130 rfl ?_
      with_reducible exact w
    · have w := w.2 h
      refine E_goto 127 dX12_often_115 rfl ?_
      refine E_iinc (ls' := [(2, 88), (0, x1), (9, 0), (0, x3), (0, x4), (0, w32 (x5 + 1))]) 130 dX12_often_127 (by decide) rfl rfl rfl ?_
      refine E_goto 91 dX12_often_130 rfl ?_
      with_reducible exact w
theorem B_X12_nine_0 {g : PG} {d : Nat} {σ : PS} {Q : Int → PS → Prop} {x1 : Int}  (w : XX g true d P_X12_isIn 0 [(2, 88), (0, x1), (0, 1), (0, 99)] [] 136 (su σ 88 0 0) 136 (fun r2 σ1 => ((r2 ≠ 0 → XX g true d P_X12_chanceNow 0 [(2, 88), (9, 0)] [] 136 σ1 136 (fun r4 σ3 => ∀ y5, y5 = ldiv r4 1000000 → (XX g true (d + 1) P_X12_nine 35 [(9, 0), (0, x1), (1, y5), (9, 0), (1, 1000000), (9, 0), (0, 0)] [] 136 σ3 136 Q))) ∧ (r2 = 0 → Q (-1) σ1)))) : XX g true (d + 1) P_X12_nine 0 [(2, 88), (0, x1), (9, 0), (9, 0), (9, 0), (9, 0), (9, 0)] [] 136 σ 136 Q := by
  refine E_aload_n 1 dX12_nine_0 rfl (ac_88.bnd) rfl ?_
  refine E_iconst 2 dX12_nine_1 (by decide) rfl ?_
  refine E_putI 0 5 dX12_nine_2 fl_X12_166 ac_88 rfl (by decide) (Or.inl rfl) rfl rfl ?_
  refine E_aload_n 6 dX12_nine_5 rfl (ac_88.bnd) rfl ?_
  refine E_iload_n 7 dX12_nine_6 rfl rfl ?_
  refine E_iconst 8 dX12_nine_7 (by decide) rfl ?_
  refine E_bipush 10 dX12_nine_8 (by decide) rfl ?_
  refine E_callV (as := [(0, x1), (0, 1), (0, 99)]) 13 dX12_nine_10 cf_X12_isIn mw_1363 mw_1365 mw_39 ac_88 (by decide) cl_X12 rfl rfl (Nat.le_of_ble_eq_true rfl) (Nat.le_of_ble_eq_true rfl) ⟨Nat.le_refl _, Nat.le_refl _⟩ rfl (w.mono (fun r2 σ1 w => ?_))
  show XX g true (d + 1) P_X12_nine 13 [(2, 88), (0, x1), (9, 0), (9, 0), (9, 0), (9, 0), (9, 0)] [(0, r2)] 136 σ1 136 Q
  refine E_if_ne 16 18 dX12_nine_13 rfl rfl (fun h => ?_) (fun h => ?_)
  · have w := w.1 h
    refine E_aload_n 19 dX12_nine_18 rfl (ac_88.bnd) rfl ?_
    refine E_callV (as := []) 22 dX12_nine_19 cf_X12_chanceNow mw_1619 mw_1621 mw_90 ac_88 (by decide) cl_X12 rfl rfl (Nat.le_of_ble_eq_true rfl) (Nat.le_of_ble_eq_true rfl) ⟨Nat.le_refl _, Nat.le_refl _⟩ rfl (w.mono (fun r4 σ3 w => ?_))
    show XX g true (d + 1) P_X12_nine 22 [(2, 88), (0, x1), (9, 0), (9, 0), (9, 0), (9, 0), (9, 0)] [(1, r4)] 136 σ3 136 Q
    refine E_ldc2_w (x := 1000000) 25 dX12_nine_22 mw_1718 (by decide) (by unfold in64; decide) rfl ?_
    refine E_ldiv 26 dX12_nine_25 (by decide) rfl ?_
    refine E_top (fun y5 hy5 => ?_)
    have w := w y5 hy5
    refine E_lstore_n (ls' := [(2, 88), (0, x1), (1, y5), (9, 0), (9, 0), (9, 0), (9, 0)]) 27 dX12_nine_26 (by decide) rfl rfl ?_
    refine E_ldc2_w (x := 1000000) 30 dX12_nine_27 mw_1718 (by decide) (by unfold in64; decide) rfl ?_
    refine E_lstore (ls' := [(2, 88), (0, x1), (1, y5), (9, 0), (1, 1000000), (9, 0), (9, 0)]) 32 dX12_nine_30 (by decide) rfl rfl ?_
    refine E_iconst 33 dX12_nine_32 (by decide) rfl ?_
    refine E_istore (ls' := [(2, 88), (0, x1), (1, y5), (9, 0), (1, 1000000), (9, 0), (0, 0)]) 35 dX12_nine_33 (by decide) rfl rfl ?_
    refine XX.fg [0] [(9, 0), (0, x1), (1, y5), (9, 0), (1, 1000000), (9, 0), (0, 0)] rfl ?_
    with_reducible exact w
  · have w := w.2 h
    refine E_iconst 17 dX12_nine_16 (by decide) rfl ?_
    exact E_iret dX12_nine_17 rfl rfl w
theorem B_X12_nine_35 {g : PG} {d : Nat} {σ : PS} {Q : Int → PS → Prop} {x1 x2 x4 x6 : Int}  (w : ((x1 ≤ x6 → Q (l2i x4) σ) ∧ (x6 < x1 → ∀ y1, y1 = ldiv (w64 (x4 * (w64 (1000000 - x2)))) 1000000 → (XX g true (d + 1) P_X12_nine 35 [(9, 0), (0, x1), (1, x2), (9, 0), (1, y1), (9, 0), (0, w32 (x6 + 1))] [] 136 σ 136 Q)))) : XX g true (d + 1) P_X12_nine 35 [(9, 0), (0, x1), (1, x2), (9, 0), (1, x4), (9, 0), (0, x6)] [] 136 σ 136 Q := by
  refine E_iload 37 dX12_nine_35 rfl rfl ?_
  refine E_iload_n 38 dX12_nine_37 rfl rfl ?_
  refine E_icmp_ge 41 61 dX12_nine_38 rfl rfl (fun h => ?_) (fun h => ?_)
  · have w := w.1 h
    refine E_lload 63 dX12_nine_61 rfl rfl ?_
    refine E_l2i 64 dX12_nine_63 rfl ?_
    exact E_iret dX12_nine_64 rfl rfl w
  · have w := w.2 h
    refine E_lload 43 dX12_nine_41 rfl rfl ?_
    refine E_ldc2_w (x := 1000000) 46 dX12_nine_43 mw_1718 (by decide) (by unfold in64; decide) rfl ?_
    refine E_lload_n 47 dX12_nine_46 rfl rfl ?_
    refine E_lsub 48 dX12_nine_47 rfl ?_
    refine E_lmul 49 dX12_nine_48 rfl ?_
    refine E_ldc2_w (x := 1000000) 52 dX12_nine_49 mw_1718 (by decide) (by unfold in64; decide) rfl ?_
    refine E_ldiv 53 dX12_nine_52 (by decide) rfl ?_
    refine E_top (fun y1 hy1 => ?_)
    have w := w y1 hy1
    refine E_lstore (ls' := [(9, 0), (0, x1), (1, x2), (9, 0), (1, y1), (9, 0), (0, x6)]) 55 dX12_nine_53 (by decide) rfl rfl ?_
    refine E_iinc (ls' := [(9, 0), (0, x1), (1, x2), (9, 0), (1, y1), (9, 0), (0, w32 (x6 + 1))]) 58 dX12_nine_55 (by decide) rfl rfl rfl ?_
    refine E_goto 35 dX12_nine_58 rfl ?_
    with_reducible exact w
theorem B_X12_keptText_0 {g : PG} {d : Nat} {σ : PS} {Q : Int → PS → Prop} {x1 : Int}  (w : ((σ 88 69 ≠ 0 → (0 ≤ w32 ((w32 ((σ 88 78) + 1)) - 1) ∧ w32 ((w32 ((σ 88 78) + 1)) - 1) < 3400) ∧ Q x1 (su (su σ 88 78 (w32 ((σ 88 78) + 1))) 135 (w32 ((w32 ((σ 88 78) + 1)) - 1)) x1)) ∧ (σ 88 69 = 0 → (0 ≤ w32 ((w32 ((σ 88 78) + 1)) - 1) ∧ w32 ((w32 ((σ 88 78) + 1)) - 1) < 3400) ∧ Q (σ 135 (w32 ((w32 ((σ 88 78) + 1)) - 1))) (su σ 88 78 (w32 ((σ 88 78) + 1)))))) : XX g true d P_X12_keptText 0 [(2, 88), (0, x1)] [] 136 σ 136 Q := by
  refine E_aload_n 1 dX12_keptText_0 rfl (ac_88.bnd) rfl ?_
  refine E_aload_n 2 dX12_keptText_1 rfl (ac_88.bnd) rfl ?_
  refine E_get 78 5 dX12_keptText_2 fl_X12_469 ac_88 rfl (by decide) rfl rfl ?_
  refine E_iconst 6 dX12_keptText_5 (by decide) rfl ?_
  refine E_iadd 7 dX12_keptText_6 rfl ?_
  refine E_putI 78 10 dX12_keptText_7 fl_X12_469 ac_88 rfl (by decide) (Or.inl rfl) rfl rfl ?_
  refine E_aload_n 11 dX12_keptText_10 rfl (ac_88.bnd) rfl ?_
  refine E_get 69 14 dX12_keptText_11 fl_X12_444 ac_88 rfl (by decide) rfl rfl ?_
  refine E_conv (su_ne (Or.inr (by decide))) ?_
  refine E_if_ne 17 29 dX12_keptText_14 rfl rfl (fun h => ?_) (fun h => ?_)
  · have w := w.1 h
    refine E_aload_n 30 dX12_keptText_29 rfl (ac_88.bnd) rfl ?_
    refine E_getL 33 dX12_keptText_30 fl_X12_163 ac_88 rfl (by decide) lay_88_77 rfl ?_
    refine E_aload_n 34 dX12_keptText_33 rfl (ac_88.bnd) rfl ?_
    refine E_get 78 37 dX12_keptText_34 fl_X12_469 ac_88 rfl (by decide) rfl rfl ?_
    refine E_conv (su_eq) ?_
    refine E_iconst 38 dX12_keptText_37 (by decide) rfl ?_
    refine E_isub 39 dX12_keptText_38 rfl ?_
    refine E_iload_n 40 dX12_keptText_39 rfl rfl ?_
    obtain ⟨c1, w⟩ := w
    refine E_iast 41 dX12_keptText_40 ac_135 c1 rfl ?_
    refine E_iload_n 42 dX12_keptText_41 rfl rfl ?_
    exact E_iret dX12_keptText_42 rfl rfl w
  · have w := w.2 h
    refine E_aload_n 18 dX12_keptText_17 rfl (ac_88.bnd) rfl ?_
    refine E_getL 21 dX12_keptText_18 fl_X12_163 ac_88 rfl (by decide) lay_88_77 rfl ?_
    refine E_aload_n 22 dX12_keptText_21 rfl (ac_88.bnd) rfl ?_
    refine E_get 78 25 dX12_keptText_22 fl_X12_469 ac_88 rfl (by decide) rfl rfl ?_
    refine E_conv (su_eq) ?_
    refine E_iconst 26 dX12_keptText_25 (by decide) rfl ?_
    refine E_isub 27 dX12_keptText_26 rfl ?_
    obtain ⟨c2, w⟩ := w
    refine E_iald 28 dX12_keptText_27 ac_135 c2 rfl ?_
    refine E_conv (su_ne (Or.inl (by decide))) ?_
    exact E_iret dX12_keptText_28 rfl rfl w
theorem B_X12_keepsTexts_0 {g : PG} {d : Nat} {σ : PS} {Q : Int → PS → Prop}  (w : (XX g true (d + 1) P_X12_keepsTexts 7 [(2, 88), (0, 0)] [] 136 (su σ 88 78 0) 136 Q)) : XX g true (d + 1) P_X12_keepsTexts 0 [(2, 88), (9, 0)] [] 136 σ 136 Q := by
  refine E_aload_n 1 dX12_keepsTexts_0 rfl (ac_88.bnd) rfl ?_
  refine E_iconst 2 dX12_keepsTexts_1 (by decide) rfl ?_
  refine E_putI 78 5 dX12_keepsTexts_2 fl_X12_469 ac_88 rfl (by decide) (Or.inl rfl) rfl rfl ?_
  refine E_iconst 6 dX12_keepsTexts_5 (by decide) rfl ?_
  refine E_istore_n (ls' := [(2, 88), (0, 0)]) 7 dX12_keepsTexts_6 (by decide) rfl rfl ?_
  with_reducible exact w
theorem B_X12_keepsTexts_7 {g : PG} {d : Nat} {σ : PS} {Q : Int → PS → Prop} {x1 : Int}  (w : ((3 ≤ x1 → (XX g true (d + 1) P_X12_keepsTexts 36 [(2, 88), (0, 0)] [] 136 σ 136 Q)) ∧ (x1 < 3 → (0 ≤ x1 ∧ x1 < 4) ∧ XX g true d P_X12_keptText 0 [(2, 88), (0, σ 100 x1)] [] 136 σ 136 (fun r3 σ2 => (XX g true (d + 1) P_X12_keepsTexts 7 [(2, 88), (0, w32 (x1 + 1))] [] 136 (su σ2 100 x1 r3) 136 Q))))) : XX g true (d + 1) P_X12_keepsTexts 7 [(2, 88), (0, x1)] [] 136 σ 136 Q := by
  refine E_iload_n 8 dX12_keepsTexts_7 rfl rfl ?_
  refine E_iconst 9 dX12_keepsTexts_8 (by decide) rfl ?_
  refine E_icmp_ge 12 34 dX12_keepsTexts_9 rfl rfl (fun h => ?_) (fun h => ?_)
  · have w := w.1 h
    refine E_iconst 35 dX12_keepsTexts_34 (by decide) rfl ?_
    refine E_istore_n (ls' := [(2, 88), (0, 0)]) 36 dX12_keepsTexts_35 (by decide) rfl rfl ?_
    with_reducible exact w
  · have w := w.2 h
    refine E_aload_n 13 dX12_keepsTexts_12 rfl (ac_88.bnd) rfl ?_
    refine E_getL 16 dX12_keepsTexts_13 fl_X12_50 ac_88 rfl (by decide) lay_88_25 rfl ?_
    refine E_iload_n 17 dX12_keepsTexts_16 rfl rfl ?_
    refine E_aload_n 18 dX12_keepsTexts_17 rfl (ac_88.bnd) rfl ?_
    refine E_aload_n 19 dX12_keepsTexts_18 rfl (ac_88.bnd) rfl ?_
    refine E_getL 22 dX12_keepsTexts_19 fl_X12_50 ac_88 rfl (by decide) lay_88_25 rfl ?_
    refine E_iload_n 23 dX12_keepsTexts_22 rfl rfl ?_
    obtain ⟨c1, w⟩ := w
    refine E_iald 24 dX12_keepsTexts_23 ac_100 c1 rfl ?_
    refine E_callV (as := [(0, σ 100 x1)]) 27 dX12_keepsTexts_24 cf_X12_keptText mw_1727 mw_1729 mw_106 ac_88 (by decide) cl_X12 rfl rfl (Nat.le_of_ble_eq_true rfl) (Nat.le_of_ble_eq_true rfl) ⟨Nat.le_refl _, Nat.le_refl _⟩ rfl (w.mono (fun r3 σ2 w => ?_))
    show XX g true (d + 1) P_X12_keepsTexts 27 [(2, 88), (0, x1)] [(0, r3), (0, x1), (2, 100)] 136 σ2 136 Q
    refine E_iast 28 dX12_keepsTexts_27 ac_100 c1 rfl ?_
    refine E_iinc (ls' := [(2, 88), (0, w32 (x1 + 1))]) 31 dX12_keepsTexts_28 (by decide) rfl rfl rfl ?_
    refine E_goto 7 dX12_keepsTexts_31 rfl ?_
    with_reducible exact w
theorem B_X12_keepsTexts_36 {g : PG} {d : Nat} {σ : PS} {Q : Int → PS → Prop} {x1 : Int}  (w : ((48 ≤ x1 → (XX g true (d + 1) P_X12_keepsTexts 98 [(2, 88), (0, 0)] [] 136 σ 136 Q)) ∧ (x1 < 48 → (0 ≤ x1 ∧ x1 < 64) ∧ XX g true d P_X12_keptText 0 [(2, 88), (0, σ 101 x1)] [] 136 σ 136 (fun r3 σ2 => XX g true d P_X12_keptText 0 [(2, 88), (0, σ2 102 x1)] [] 136 (su σ2 101 x1 r3) 136 (fun r5 σ4 => XX g true d P_X12_keptText 0 [(2, 88), (0, σ4 103 x1)] [] 136 (su σ4 102 x1 r5) 136 (fun r7 σ6 => (XX g true (d + 1) P_X12_keepsTexts 36 [(2, 88), (0, w32 (x1 + 1))] [] 136 (su σ6 103 x1 r7) 136 Q))))))) : XX g true (d + 1) P_X12_keepsTexts 36 [(2, 88), (0, x1)] [] 136 σ 136 Q := by
  refine E_iload_n 37 dX12_keepsTexts_36 rfl rfl ?_
  refine E_bipush 39 dX12_keepsTexts_37 (by decide) rfl ?_
  refine E_icmp_ge 42 96 dX12_keepsTexts_39 rfl rfl (fun h => ?_) (fun h => ?_)
  · have w := w.1 h
    refine E_iconst 97 dX12_keepsTexts_96 (by decide) rfl ?_
    refine E_istore_n (ls' := [(2, 88), (0, 0)]) 98 dX12_keepsTexts_97 (by decide) rfl rfl ?_
    with_reducible exact w
  · have w := w.2 h
    refine E_aload_n 43 dX12_keepsTexts_42 rfl (ac_88.bnd) rfl ?_
    refine E_getL 46 dX12_keepsTexts_43 fl_X12_53 ac_88 rfl (by decide) lay_88_26 rfl ?_
    refine E_iload_n 47 dX12_keepsTexts_46 rfl rfl ?_
    refine E_aload_n 48 dX12_keepsTexts_47 rfl (ac_88.bnd) rfl ?_
    refine E_aload_n 49 dX12_keepsTexts_48 rfl (ac_88.bnd) rfl ?_
    refine E_getL 52 dX12_keepsTexts_49 fl_X12_53 ac_88 rfl (by decide) lay_88_26 rfl ?_
    refine E_iload_n 53 dX12_keepsTexts_52 rfl rfl ?_
    obtain ⟨c1, w⟩ := w
    refine E_iald 54 dX12_keepsTexts_53 ac_101 c1 rfl ?_
    refine E_callV (as := [(0, σ 101 x1)]) 57 dX12_keepsTexts_54 cf_X12_keptText mw_1727 mw_1729 mw_106 ac_88 (by decide) cl_X12 rfl rfl (Nat.le_of_ble_eq_true rfl) (Nat.le_of_ble_eq_true rfl) ⟨Nat.le_refl _, Nat.le_refl _⟩ rfl (w.mono (fun r3 σ2 w => ?_))
    show XX g true (d + 1) P_X12_keepsTexts 57 [(2, 88), (0, x1)] [(0, r3), (0, x1), (2, 101)] 136 σ2 136 Q
    refine E_iast 58 dX12_keepsTexts_57 ac_101 c1 rfl ?_
    refine E_aload_n 59 dX12_keepsTexts_58 rfl (ac_88.bnd) rfl ?_
    refine E_getL 62 dX12_keepsTexts_59 fl_X12_56 ac_88 rfl (by decide) lay_88_27 rfl ?_
    refine E_iload_n 63 dX12_keepsTexts_62 rfl rfl ?_
    refine E_aload_n 64 dX12_keepsTexts_63 rfl (ac_88.bnd) rfl ?_
    refine E_aload_n 65 dX12_keepsTexts_64 rfl (ac_88.bnd) rfl ?_
    refine E_getL 68 dX12_keepsTexts_65 fl_X12_56 ac_88 rfl (by decide) lay_88_27 rfl ?_
    refine E_iload_n 69 dX12_keepsTexts_68 rfl rfl ?_
    refine E_iald 70 dX12_keepsTexts_69 ac_102 c1 rfl ?_
    refine E_conv (su_ne (Or.inl (by decide))) ?_
    refine E_callV (as := [(0, σ2 102 x1)]) 73 dX12_keepsTexts_70 cf_X12_keptText mw_1727 mw_1729 mw_106 ac_88 (by decide) cl_X12 rfl rfl (Nat.le_of_ble_eq_true rfl) (Nat.le_of_ble_eq_true rfl) ⟨Nat.le_refl _, Nat.le_refl _⟩ rfl (w.mono (fun r5 σ4 w => ?_))
    show XX g true (d + 1) P_X12_keepsTexts 73 [(2, 88), (0, x1)] [(0, r5), (0, x1), (2, 102)] 136 σ4 136 Q
    refine E_iast 74 dX12_keepsTexts_73 ac_102 c1 rfl ?_
    refine E_aload_n 75 dX12_keepsTexts_74 rfl (ac_88.bnd) rfl ?_
    refine E_getL 78 dX12_keepsTexts_75 fl_X12_59 ac_88 rfl (by decide) lay_88_28 rfl ?_
    refine E_iload_n 79 dX12_keepsTexts_78 rfl rfl ?_
    refine E_aload_n 80 dX12_keepsTexts_79 rfl (ac_88.bnd) rfl ?_
    refine E_aload_n 81 dX12_keepsTexts_80 rfl (ac_88.bnd) rfl ?_
    refine E_getL 84 dX12_keepsTexts_81 fl_X12_59 ac_88 rfl (by decide) lay_88_28 rfl ?_
    refine E_iload_n 85 dX12_keepsTexts_84 rfl rfl ?_
    refine E_iald 86 dX12_keepsTexts_85 ac_103 c1 rfl ?_
    refine E_conv (su_ne (Or.inl (by decide))) ?_
    refine E_callV (as := [(0, σ4 103 x1)]) 89 dX12_keepsTexts_86 cf_X12_keptText mw_1727 mw_1729 mw_106 ac_88 (by decide) cl_X12 rfl rfl (Nat.le_of_ble_eq_true rfl) (Nat.le_of_ble_eq_true rfl) ⟨Nat.le_refl _, Nat.le_refl _⟩ rfl (w.mono (fun r7 σ6 w => ?_))
    show XX g true (d + 1) P_X12_keepsTexts 89 [(2, 88), (0, x1)] [(0, r7), (0, x1), (2, 103)] 136 σ6 136 Q
    refine E_iast 90 dX12_keepsTexts_89 ac_103 c1 rfl ?_
    refine E_iinc (ls' := [(2, 88), (0, w32 (x1 + 1))]) 93 dX12_keepsTexts_90 (by decide) rfl rfl rfl ?_
    refine E_goto 36 dX12_keepsTexts_93 rfl ?_
    with_reducible exact w
theorem B_X12_keepsTexts_98 {g : PG} {d : Nat} {σ : PS} {Q : Int → PS → Prop} {x1 : Int}  (w : ((1500 ≤ x1 → XX g true d P_X12_keptText 0 [(2, 88), (0, σ 88 40)] [] 136 σ 136 (fun r2 σ1 => (XX g true (d + 1) P_X12_keepsTexts 157 [(2, 88), (0, 0)] [] 136 (su σ1 88 40 r2) 136 Q))) ∧ (x1 < 1500 → (0 ≤ x1 ∧ x1 < 2000) ∧ XX g true d P_X12_keptText 0 [(2, 88), (0, σ 104 x1)] [] 136 σ 136 (fun r5 σ4 => XX g true d P_X12_keptText 0 [(2, 88), (0, σ4 105 x1)] [] 136 (su σ4 104 x1 r5) 136 (fun r7 σ6 => (XX g true (d + 1) P_X12_keepsTexts 98 [(2, 88), (0, w32 (x1 + 1))] [] 136 (su σ6 105 x1 r7) 136 Q)))))) : XX g true (d + 1) P_X12_keepsTexts 98 [(2, 88), (0, x1)] [] 136 σ 136 Q := by
  refine E_iload_n 99 dX12_keepsTexts_98 rfl rfl ?_
  refine E_sipush 102 dX12_keepsTexts_99 (by decide) rfl ?_
  refine E_icmp_ge 105 143 dX12_keepsTexts_102 rfl rfl (fun h => ?_) (fun h => ?_)
  · have w := w.1 h
    refine E_aload_n 144 dX12_keepsTexts_143 rfl (ac_88.bnd) rfl ?_
    refine E_aload_n 145 dX12_keepsTexts_144 rfl (ac_88.bnd) rfl ?_
    refine E_aload_n 146 dX12_keepsTexts_145 rfl (ac_88.bnd) rfl ?_
    refine E_get 40 149 dX12_keepsTexts_146 fl_X12_300 ac_88 rfl (by decide) rfl rfl ?_
    refine E_callV (as := [(0, σ 88 40)]) 152 dX12_keepsTexts_149 cf_X12_keptText mw_1727 mw_1729 mw_106 ac_88 (by decide) cl_X12 rfl rfl (Nat.le_of_ble_eq_true rfl) (Nat.le_of_ble_eq_true rfl) ⟨Nat.le_refl _, Nat.le_refl _⟩ rfl (w.mono (fun r2 σ1 w => ?_))
    show XX g true (d + 1) P_X12_keepsTexts 152 [(2, 88), (0, x1)] [(0, r2), (2, 88)] 136 σ1 136 Q
    refine E_putI 40 155 dX12_keepsTexts_152 fl_X12_300 ac_88 rfl (by decide) (Or.inl rfl) rfl rfl ?_
    refine E_iconst 156 dX12_keepsTexts_155 (by decide) rfl ?_
    refine E_istore_n (ls' := [(2, 88), (0, 0)]) 157 dX12_keepsTexts_156 (by decide) rfl rfl ?_
    with_reducible exact w
  · have w := w.2 h
    refine E_aload_n 106 dX12_keepsTexts_105 rfl (ac_88.bnd) rfl ?_
    refine E_getL 109 dX12_keepsTexts_106 fl_X12_62 ac_88 rfl (by decide) lay_88_29 rfl ?_
    refine E_iload_n 110 dX12_keepsTexts_109 rfl rfl ?_
    refine E_aload_n 111 dX12_keepsTexts_110 rfl (ac_88.bnd) rfl ?_
    refine E_aload_n 112 dX12_keepsTexts_111 rfl (ac_88.bnd) rfl ?_
    refine E_getL 115 dX12_keepsTexts_112 fl_X12_62 ac_88 rfl (by decide) lay_88_29 rfl ?_
    refine E_iload_n 116 dX12_keepsTexts_115 rfl rfl ?_
    obtain ⟨c3, w⟩ := w
    refine E_iald 117 dX12_keepsTexts_116 ac_104 c3 rfl ?_
    refine E_callV (as := [(0, σ 104 x1)]) 120 dX12_keepsTexts_117 cf_X12_keptText mw_1727 mw_1729 mw_106 ac_88 (by decide) cl_X12 rfl rfl (Nat.le_of_ble_eq_true rfl) (Nat.le_of_ble_eq_true rfl) ⟨Nat.le_refl _, Nat.le_refl _⟩ rfl (w.mono (fun r5 σ4 w => ?_))
    show XX g true (d + 1) P_X12_keepsTexts 120 [(2, 88), (0, x1)] [(0, r5), (0, x1), (2, 104)] 136 σ4 136 Q
    refine E_iast 121 dX12_keepsTexts_120 ac_104 c3 rfl ?_
    refine E_aload_n 122 dX12_keepsTexts_121 rfl (ac_88.bnd) rfl ?_
    refine E_getL 125 dX12_keepsTexts_122 fl_X12_65 ac_88 rfl (by decide) lay_88_30 rfl ?_
    refine E_iload_n 126 dX12_keepsTexts_125 rfl rfl ?_
    refine E_aload_n 127 dX12_keepsTexts_126 rfl (ac_88.bnd) rfl ?_
    refine E_aload_n 128 dX12_keepsTexts_127 rfl (ac_88.bnd) rfl ?_
    refine E_getL 131 dX12_keepsTexts_128 fl_X12_65 ac_88 rfl (by decide) lay_88_30 rfl ?_
    refine E_iload_n 132 dX12_keepsTexts_131 rfl rfl ?_
    refine E_iald 133 dX12_keepsTexts_132 ac_105 c3 rfl ?_
    refine E_conv (su_ne (Or.inl (by decide))) ?_
    refine E_callV (as := [(0, σ4 105 x1)]) 136 dX12_keepsTexts_133 cf_X12_keptText mw_1727 mw_1729 mw_106 ac_88 (by decide) cl_X12 rfl rfl (Nat.le_of_ble_eq_true rfl) (Nat.le_of_ble_eq_true rfl) ⟨Nat.le_refl _, Nat.le_refl _⟩ rfl (w.mono (fun r7 σ6 w => ?_))
    show XX g true (d + 1) P_X12_keepsTexts 136 [(2, 88), (0, x1)] [(0, r7), (0, x1), (2, 105)] 136 σ6 136 Q
    refine E_iast 137 dX12_keepsTexts_136 ac_105 c3 rfl ?_
    refine E_iinc (ls' := [(2, 88), (0, w32 (x1 + 1))]) 140 dX12_keepsTexts_137 (by decide) rfl rfl rfl ?_
    refine E_goto 98 dX12_keepsTexts_140 rfl ?_
    with_reducible exact w
theorem B_X12_keepsTexts_157 {g : PG} {d : Nat} {σ : PS} {Q : Int → PS → Prop} {x1 : Int}  (w : ((8 ≤ x1 → (XX g true (d + 1) P_X12_keepsTexts 219 [(2, 88), (0, 0)] [] 136 σ 136 Q)) ∧ (x1 < 8 → (0 ≤ x1 ∧ x1 < 16) ∧ XX g true d P_X12_keptText 0 [(2, 88), (0, σ 107 x1)] [] 136 σ 136 (fun r3 σ2 => XX g true d P_X12_keptText 0 [(2, 88), (0, σ2 108 x1)] [] 136 (su σ2 107 x1 r3) 136 (fun r5 σ4 => XX g true d P_X12_keptText 0 [(2, 88), (0, σ4 109 x1)] [] 136 (su σ4 108 x1 r5) 136 (fun r7 σ6 => (XX g true (d + 1) P_X12_keepsTexts 157 [(2, 88), (0, w32 (x1 + 1))] [] 136 (su σ6 109 x1 r7) 136 Q))))))) : XX g true (d + 1) P_X12_keepsTexts 157 [(2, 88), (0, x1)] [] 136 σ 136 Q := by
  refine E_iload_n 158 dX12_keepsTexts_157 rfl rfl ?_
  refine E_bipush 160 dX12_keepsTexts_158 (by decide) rfl ?_
  refine E_icmp_ge 163 217 dX12_keepsTexts_160 rfl rfl (fun h => ?_) (fun h => ?_)
  · have w := w.1 h
    refine E_iconst 218 dX12_keepsTexts_217 (by decide) rfl ?_
    refine E_istore_n (ls' := [(2, 88), (0, 0)]) 219 dX12_keepsTexts_218 (by decide) rfl rfl ?_
    with_reducible exact w
  · have w := w.2 h
    refine E_aload_n 164 dX12_keepsTexts_163 rfl (ac_88.bnd) rfl ?_
    refine E_getL 167 dX12_keepsTexts_164 fl_X12_74 ac_88 rfl (by decide) lay_88_41 rfl ?_
    refine E_iload_n 168 dX12_keepsTexts_167 rfl rfl ?_
    refine E_aload_n 169 dX12_keepsTexts_168 rfl (ac_88.bnd) rfl ?_
    refine E_aload_n 170 dX12_keepsTexts_169 rfl (ac_88.bnd) rfl ?_
    refine E_getL 173 dX12_keepsTexts_170 fl_X12_74 ac_88 rfl (by decide) lay_88_41 rfl ?_
    refine E_iload_n 174 dX12_keepsTexts_173 rfl rfl ?_
    obtain ⟨c1, w⟩ := w
    refine E_iald 175 dX12_keepsTexts_174 ac_107 c1 rfl ?_
    refine E_callV (as := [(0, σ 107 x1)]) 178 dX12_keepsTexts_175 cf_X12_keptText mw_1727 mw_1729 mw_106 ac_88 (by decide) cl_X12 rfl rfl (Nat.le_of_ble_eq_true rfl) (Nat.le_of_ble_eq_true rfl) ⟨Nat.le_refl _, Nat.le_refl _⟩ rfl (w.mono (fun r3 σ2 w => ?_))
    show XX g true (d + 1) P_X12_keepsTexts 178 [(2, 88), (0, x1)] [(0, r3), (0, x1), (2, 107)] 136 σ2 136 Q
    refine E_iast 179 dX12_keepsTexts_178 ac_107 c1 rfl ?_
    refine E_aload_n 180 dX12_keepsTexts_179 rfl (ac_88.bnd) rfl ?_
    refine E_getL 183 dX12_keepsTexts_180 fl_X12_77 ac_88 rfl (by decide) lay_88_42 rfl ?_
    refine E_iload_n 184 dX12_keepsTexts_183 rfl rfl ?_
    refine E_aload_n 185 dX12_keepsTexts_184 rfl (ac_88.bnd) rfl ?_
    refine E_aload_n 186 dX12_keepsTexts_185 rfl (ac_88.bnd) rfl ?_
    refine E_getL 189 dX12_keepsTexts_186 fl_X12_77 ac_88 rfl (by decide) lay_88_42 rfl ?_
    refine E_iload_n 190 dX12_keepsTexts_189 rfl rfl ?_
    refine E_iald 191 dX12_keepsTexts_190 ac_108 c1 rfl ?_
    refine E_conv (su_ne (Or.inl (by decide))) ?_
    refine E_callV (as := [(0, σ2 108 x1)]) 194 dX12_keepsTexts_191 cf_X12_keptText mw_1727 mw_1729 mw_106 ac_88 (by decide) cl_X12 rfl rfl (Nat.le_of_ble_eq_true rfl) (Nat.le_of_ble_eq_true rfl) ⟨Nat.le_refl _, Nat.le_refl _⟩ rfl (w.mono (fun r5 σ4 w => ?_))
    show XX g true (d + 1) P_X12_keepsTexts 194 [(2, 88), (0, x1)] [(0, r5), (0, x1), (2, 108)] 136 σ4 136 Q
    refine E_iast 195 dX12_keepsTexts_194 ac_108 c1 rfl ?_
    refine E_aload_n 196 dX12_keepsTexts_195 rfl (ac_88.bnd) rfl ?_
    refine E_getL 199 dX12_keepsTexts_196 fl_X12_80 ac_88 rfl (by decide) lay_88_43 rfl ?_
    refine E_iload_n 200 dX12_keepsTexts_199 rfl rfl ?_
    refine E_aload_n 201 dX12_keepsTexts_200 rfl (ac_88.bnd) rfl ?_
    refine E_aload_n 202 dX12_keepsTexts_201 rfl (ac_88.bnd) rfl ?_
    refine E_getL 205 dX12_keepsTexts_202 fl_X12_80 ac_88 rfl (by decide) lay_88_43 rfl ?_
    refine E_iload_n 206 dX12_keepsTexts_205 rfl rfl ?_
    refine E_iald 207 dX12_keepsTexts_206 ac_109 c1 rfl ?_
    refine E_conv (su_ne (Or.inl (by decide))) ?_
    refine E_callV (as := [(0, σ4 109 x1)]) 210 dX12_keepsTexts_207 cf_X12_keptText mw_1727 mw_1729 mw_106 ac_88 (by decide) cl_X12 rfl rfl (Nat.le_of_ble_eq_true rfl) (Nat.le_of_ble_eq_true rfl) ⟨Nat.le_refl _, Nat.le_refl _⟩ rfl (w.mono (fun r7 σ6 w => ?_))
    show XX g true (d + 1) P_X12_keepsTexts 210 [(2, 88), (0, x1)] [(0, r7), (0, x1), (2, 109)] 136 σ6 136 Q
    refine E_iast 211 dX12_keepsTexts_210 ac_109 c1 rfl ?_
    refine E_iinc (ls' := [(2, 88), (0, w32 (x1 + 1))]) 214 dX12_keepsTexts_211 (by decide) rfl rfl rfl ?_
    refine E_goto 157 dX12_keepsTexts_214 rfl ?_
    with_reducible exact w
theorem B_X12_keepsTexts_219 {g : PG} {d : Nat} {σ : PS} {Q : Int → PS → Prop} {x1 : Int}  (w : ((64 ≤ x1 → (XX g true (d + 1) P_X12_keepsTexts 249 [(2, 88), (0, 0)] [] 136 σ 136 Q)) ∧ (x1 < 64 → (0 ≤ x1 ∧ x1 < 128) ∧ XX g true d P_X12_keptText 0 [(2, 88), (0, σ 110 x1)] [] 136 σ 136 (fun r3 σ2 => (XX g true (d + 1) P_X12_keepsTexts 219 [(2, 88), (0, w32 (x1 + 1))] [] 136 (su σ2 110 x1 r3) 136 Q))))) : XX g true (d + 1) P_X12_keepsTexts 219 [(2, 88), (0, x1)] [] 136 σ 136 Q := by
  refine E_iload_n 220 dX12_keepsTexts_219 rfl rfl ?_
  refine E_bipush 222 dX12_keepsTexts_220 (by decide) rfl ?_
  refine E_icmp_ge 225 247 dX12_keepsTexts_222 rfl rfl (fun h => ?_) (fun h => ?_)
  · have w := w.1 h
    refine E_iconst 248 dX12_keepsTexts_247 (by decide) rfl ?_
    refine E_istore_n (ls' := [(2, 88), (0, 0)]) 249 dX12_keepsTexts_248 (by decide) rfl rfl ?_
    with_reducible exact w
  · have w := w.2 h
    refine E_aload_n 226 dX12_keepsTexts_225 rfl (ac_88.bnd) rfl ?_
    refine E_getL 229 dX12_keepsTexts_226 fl_X12_83 ac_88 rfl (by decide) lay_88_44 rfl ?_
    refine E_iload_n 230 dX12_keepsTexts_229 rfl rfl ?_
    refine E_aload_n 231 dX12_keepsTexts_230 rfl (ac_88.bnd) rfl ?_
    refine E_aload_n 232 dX12_keepsTexts_231 rfl (ac_88.bnd) rfl ?_
    refine E_getL 235 dX12_keepsTexts_232 fl_X12_83 ac_88 rfl (by decide) lay_88_44 rfl ?_
    refine E_iload_n 236 dX12_keepsTexts_235 rfl rfl ?_
    obtain ⟨c1, w⟩ := w
    refine E_iald 237 dX12_keepsTexts_236 ac_110 c1 rfl ?_
    refine E_callV (as := [(0, σ 110 x1)]) 240 dX12_keepsTexts_237 cf_X12_keptText mw_1727 mw_1729 mw_106 ac_88 (by decide) cl_X12 rfl rfl (Nat.le_of_ble_eq_true rfl) (Nat.le_of_ble_eq_true rfl) ⟨Nat.le_refl _, Nat.le_refl _⟩ rfl (w.mono (fun r3 σ2 w => ?_))
    show XX g true (d + 1) P_X12_keepsTexts 240 [(2, 88), (0, x1)] [(0, r3), (0, x1), (2, 110)] 136 σ2 136 Q
    refine E_iast 241 dX12_keepsTexts_240 ac_110 c1 rfl ?_
    refine E_iinc (ls' := [(2, 88), (0, w32 (x1 + 1))]) 244 dX12_keepsTexts_241 (by decide) rfl rfl rfl ?_
    refine E_goto 219 dX12_keepsTexts_244 rfl ?_
    with_reducible exact w
theorem B_X12_keepsTexts_249 {g : PG} {d : Nat} {σ : PS} {Q : Int → PS → Prop} {x1 : Int}  (w : ((6 ≤ x1 → Q 0 σ) ∧ (x1 < 6 → (0 ≤ x1 ∧ x1 < 6) ∧ XX g true d P_X12_keptText 0 [(2, 88), (0, σ 95 x1)] [] 136 σ 136 (fun r3 σ2 => XX g true d P_X12_keptText 0 [(2, 88), (0, σ2 96 x1)] [] 136 (su σ2 95 x1 r3) 136 (fun r5 σ4 => (XX g true (d + 1) P_X12_keepsTexts 249 [(2, 88), (0, w32 (x1 + 1))] [] 136 (su σ4 96 x1 r5) 136 Q)))))) : XX g true (d + 1) P_X12_keepsTexts 249 [(2, 88), (0, x1)] [] 136 σ 136 Q := by
  refine E_iload_n 250 dX12_keepsTexts_249 rfl rfl ?_
  refine E_bipush 252 dX12_keepsTexts_250 (by decide) rfl ?_
  refine E_icmp_ge 255 293 dX12_keepsTexts_252 rfl rfl (fun h => ?_) (fun h => ?_)
  · have w := w.1 h
    exact E_vret dX12_keepsTexts_293 rfl rfl w
  · have w := w.2 h
    refine E_aload_n 256 dX12_keepsTexts_255 rfl (ac_88.bnd) rfl ?_
    refine E_getL 259 dX12_keepsTexts_256 fl_X12_32 ac_88 rfl (by decide) lay_88_9 rfl ?_
    refine E_iload_n 260 dX12_keepsTexts_259 rfl rfl ?_
    refine E_aload_n 261 dX12_keepsTexts_260 rfl (ac_88.bnd) rfl ?_
    refine E_aload_n 262 dX12_keepsTexts_261 rfl (ac_88.bnd) rfl ?_
    refine E_getL 265 dX12_keepsTexts_262 fl_X12_32 ac_88 rfl (by decide) lay_88_9 rfl ?_
    refine E_iload_n 266 dX12_keepsTexts_265 rfl rfl ?_
    obtain ⟨c1, w⟩ := w
    refine E_iald 267 dX12_keepsTexts_266 ac_95 c1 rfl ?_
    refine E_callV (as := [(0, σ 95 x1)]) 270 dX12_keepsTexts_267 cf_X12_keptText mw_1727 mw_1729 mw_106 ac_88 (by decide) cl_X12 rfl rfl (Nat.le_of_ble_eq_true rfl) (Nat.le_of_ble_eq_true rfl) ⟨Nat.le_refl _, Nat.le_refl _⟩ rfl (w.mono (fun r3 σ2 w => ?_))
    show XX g true (d + 1) P_X12_keepsTexts 270 [(2, 88), (0, x1)] [(0, r3), (0, x1), (2, 95)] 136 σ2 136 Q
    refine E_iast 271 dX12_keepsTexts_270 ac_95 c1 rfl ?_
    refine E_aload_n 272 dX12_keepsTexts_271 rfl (ac_88.bnd) rfl ?_
    refine E_getL 275 dX12_keepsTexts_272 fl_X12_35 ac_88 rfl (by decide) lay_88_10 rfl ?_
    refine E_iload_n 276 dX12_keepsTexts_275 rfl rfl ?_
    refine E_aload_n 277 dX12_keepsTexts_276 rfl (ac_88.bnd) rfl ?_
    refine E_aload_n 278 dX12_keepsTexts_277 rfl (ac_88.bnd) rfl ?_
    refine E_getL 281 dX12_keepsTexts_278 fl_X12_35 ac_88 rfl (by decide) lay_88_10 rfl ?_
    refine E_iload_n 282 dX12_keepsTexts_281 rfl rfl ?_
    refine E_iald 283 dX12_keepsTexts_282 ac_96 c1 rfl ?_
    refine E_conv (su_ne (Or.inl (by decide))) ?_
    refine E_callV (as := [(0, σ2 96 x1)]) 286 dX12_keepsTexts_283 cf_X12_keptText mw_1727 mw_1729 mw_106 ac_88 (by decide) cl_X12 rfl rfl (Nat.le_of_ble_eq_true rfl) (Nat.le_of_ble_eq_true rfl) ⟨Nat.le_refl _, Nat.le_refl _⟩ rfl (w.mono (fun r5 σ4 w => ?_))
    show XX g true (d + 1) P_X12_keepsTexts 286 [(2, 88), (0, x1)] [(0, r5), (0, x1), (2, 96)] 136 σ4 136 Q
    refine E_iast 287 dX12_keepsTexts_286 ac_96 c1 rfl ?_
    refine E_iinc (ls' := [(2, 88), (0, w32 (x1 + 1))]) 290 dX12_keepsTexts_287 (by decide) rfl rfl rfl ?_
    refine E_goto 249 dX12_keepsTexts_290 rfl ?_
    with_reducible exact w
theorem B_X12_image_0 {g : PG} {d : Nat} {σ : PS} {Q : Int → PS → Prop} {x1 : Int}  (w : ((x1 ≠ 0 → ((x1 ≠ 0 → XX g true d P_X12_asides 0 [(2, 88), (0, x1), (9, 0)] [] 136 (su (su σ 88 0 0) 88 75 1) 136 (fun _ σ1 => ((x1 = 0 → XX g true d P_X12_keepsTexts 0 [(2, 88), (9, 0)] [] 136 σ1 136 (fun _ σ3 => Q 1 σ3)) ∧ (x1 ≠ 0 → (XX g true (d + 1) P_X12_image 65 [(2, 88), (9, 0), (0, 0)] [] 136 σ1 136 Q))))) ∧ (x1 = 0 → (XX g true (d + 1) P_X12_image 29 [(2, 88), (0, x1), (0, 0)] [] 136 (su (su σ 88 0 0) 88 75 1) 136 Q)))) ∧ (x1 = 0 → ((σ 88 75 ≠ 0 → ((x1 ≠ 0 → XX g true d P_X12_asides 0 [(2, 88), (0, x1), (9, 0)] [] 136 (su (su σ 88 0 0) 88 75 1) 136 (fun _ σ5 => ((x1 = 0 → XX g true d P_X12_keepsTexts 0 [(2, 88), (9, 0)] [] 136 σ5 136 (fun _ σ7 => Q 1 σ7)) ∧ (x1 ≠ 0 → (XX g true (d + 1) P_X12_image 65 [(2, 88), (9, 0), (0, 0)] [] 136 σ5 136 Q))))) ∧ (x1 = 0 → (XX g true (d + 1) P_X12_image 29 [(2, 88), (0, x1), (0, 0)] [] 136 (su (su σ 88 0 0) 88 75 1) 136 Q)))) ∧ (σ 88 75 = 0 → Q 0 (su σ 88 0 0)))))) : XX g true (d + 1) P_X12_image 0 [(2, 88), (0, x1), (9, 0)] [] 136 σ 136 Q := by
  refine E_aload_n 1 dX12_image_0 rfl (ac_88.bnd) rfl ?_
  refine E_iconst 2 dX12_image_1 (by decide) rfl ?_
  refine E_putI 0 5 dX12_image_2 fl_X12_166 ac_88 rfl (by decide) (Or.inl rfl) rfl rfl ?_
  refine E_iload_n 6 dX12_image_5 rfl rfl ?_
  refine E_if_ne 9 18 dX12_image_6 rfl rfl (fun h => ?_) (fun h => ?_)
  · have w := w.1 h
    refine E_aload_n 19 dX12_image_18 rfl (ac_88.bnd) rfl ?_
    refine E_iconst 20 dX12_image_19 (by decide) rfl ?_
    refine E_putZ 75 23 dX12_image_20 fl_X12_475 ac_88 rfl (by decide) (Or.inl rfl) (Or.inr rfl) rfl rfl ?_
    refine E_iload_n 24 dX12_image_23 rfl rfl ?_
    refine E_if_ne 27 54 dX12_image_24 rfl rfl (fun h => ?_) (fun h => ?_)
    · have w := w.1 h
      refine E_aload_n 55 dX12_image_54 rfl (ac_88.bnd) rfl ?_
      refine E_iload_n 56 dX12_image_55 rfl rfl ?_
      refine E_callV (as := [(0, x1)]) 59 dX12_image_56 cf_X12_asides mw_1702 mw_1704 mw_103 ac_88 (by decide) cl_X12 rfl rfl (Nat.le_of_ble_eq_true rfl) (Nat.le_of_ble_eq_true rfl) ⟨Nat.le_refl _, Nat.le_refl _⟩ rfl (w.mono (fun r2 σ1 w => ?_))
      show XX g true (d + 1) P_X12_image 59 [(2, 88), (0, x1), (9, 0)] [] 136 σ1 136 Q
      refine E_iload_n 60 dX12_image_59 rfl rfl ?_
      refine E_if_eq 63 90 dX12_image_60 rfl rfl (fun h => ?_) (fun h => ?_)
      · have w := w.1 h
        refine E_aload_n 91 dX12_image_90 rfl (ac_88.bnd) rfl ?_
        refine E_callV (as := []) 94 dX12_image_91 cf_X12_keepsTexts mw_1723 mw_1725 mw_105 ac_88 (by decide) cl_X12 rfl rfl (Nat.le_of_ble_eq_true rfl) (Nat.le_of_ble_eq_true rfl) ⟨Nat.le_refl _, Nat.le_refl _⟩ rfl (w.mono (fun r4 σ3 w => ?_))
        show XX g true (d + 1) P_X12_image 94 [(2, 88), (0, x1), (9, 0)] [] 136 σ3 136 Q
        refine E_iconst 95 dX12_image_94 (by decide) rfl ?_
        exact E_zret dX12_image_95 rfl rfl (Or.inr rfl) w
      · have w := w.2 h
        refine E_iconst 64 dX12_image_63 (by decide) rfl ?_
        refine E_istore_n (ls' := [(2, 88), (0, x1), (0, 0)]) 65 dX12_image_64 (by decide) rfl rfl ?_
        refine XX.fg [1] [(2, 88), (9, 0), (0, 0)] rfl ?_
        with_reducible exact w
    · have w := w.2 h
      refine E_iconst 28 dX12_image_27 (by decide) rfl ?_
      refine E_istore_n (ls' := [(2, 88), (0, x1), (0, 0)]) 29 dX12_image_28 (by decide) rfl rfl ?_
      with_reducible exact w
  · have w := w.2 h
    refine E_aload_n 10 dX12_image_9 rfl (ac_88.bnd) rfl ?_
    refine E_get 75 13 dX12_image_10 fl_X12_475 ac_88 rfl (by decide) rfl rfl ?_
    refine E_conv (su_ne (Or.inr (by decide))) ?_
    refine E_if_ne 16 18 dX12_image_13 rfl rfl (fun h => ?_) (fun h => ?_)
    · have w := w.1 h
      refine E_aload_n 19 dX12_image_18 rfl (ac_88.bnd) rfl ?_
      refine E_iconst 20 dX12_image_19 (by decide) rfl ?_
      refine E_putZ 75 23 dX12_image_20 fl_X12_475 ac_88 rfl (by decide) (Or.inl rfl) (Or.inr rfl) rfl rfl ?_
      refine E_iload_n 24 dX12_image_23 rfl rfl ?_
      refine E_if_ne 27 54 dX12_image_24 rfl rfl (fun h => ?_) (fun h => ?_)
      · have w := w.1 h
        refine E_aload_n 55 dX12_image_54 rfl (ac_88.bnd) rfl ?_
        refine E_iload_n 56 dX12_image_55 rfl rfl ?_
        refine E_callV (as := [(0, x1)]) 59 dX12_image_56 cf_X12_asides mw_1702 mw_1704 mw_103 ac_88 (by decide) cl_X12 rfl rfl (Nat.le_of_ble_eq_true rfl) (Nat.le_of_ble_eq_true rfl) ⟨Nat.le_refl _, Nat.le_refl _⟩ rfl (w.mono (fun r6 σ5 w => ?_))
        show XX g true (d + 1) P_X12_image 59 [(2, 88), (0, x1), (9, 0)] [] 136 σ5 136 Q
        refine E_iload_n 60 dX12_image_59 rfl rfl ?_
        refine E_if_eq 63 90 dX12_image_60 rfl rfl (fun h => ?_) (fun h => ?_)
        · have w := w.1 h
          refine E_aload_n 91 dX12_image_90 rfl (ac_88.bnd) rfl ?_
          refine E_callV (as := []) 94 dX12_image_91 cf_X12_keepsTexts mw_1723 mw_1725 mw_105 ac_88 (by decide) cl_X12 rfl rfl (Nat.le_of_ble_eq_true rfl) (Nat.le_of_ble_eq_true rfl) ⟨Nat.le_refl _, Nat.le_refl _⟩ rfl (w.mono (fun r8 σ7 w => ?_))
          show XX g true (d + 1) P_X12_image 94 [(2, 88), (0, x1), (9, 0)] [] 136 σ7 136 Q
          refine E_iconst 95 dX12_image_94 (by decide) rfl ?_
          exact E_zret dX12_image_95 rfl rfl (Or.inr rfl) w
        · have w := w.2 h
          refine E_iconst 64 dX12_image_63 (by decide) rfl ?_
          refine E_istore_n (ls' := [(2, 88), (0, x1), (0, 0)]) 65 dX12_image_64 (by decide) rfl rfl ?_
          refine XX.fg [1] [(2, 88), (9, 0), (0, 0)] rfl ?_
          with_reducible exact w
      · have w := w.2 h
        refine E_iconst 28 dX12_image_27 (by decide) rfl ?_
        refine E_istore_n (ls' := [(2, 88), (0, x1), (0, 0)]) 29 dX12_image_28 (by decide) rfl rfl ?_
        with_reducible exact w
    · have w := w.2 h
      refine E_iconst 17 dX12_image_16 (by decide) rfl ?_
      exact E_zret dX12_image_17 rfl rfl (Or.inl rfl) w
theorem B_X12_image_65 {g : PG} {d : Nat} {σ : PS} {Q : Int → PS → Prop} {x2 : Int}  (w : ((400 ≤ x2 → XX g true d P_X12_keepsTexts 0 [(2, 88), (9, 0)] [] 136 σ 136 (fun _ σ1 => Q 1 σ1)) ∧ (x2 < 400 → (0 ≤ x2 ∧ x2 < 400) ∧ (XX g true (d + 1) P_X12_image 65 [(2, 88), (9, 0), (0, w32 (x2 + 1))] [] 136 (su σ 134 x2 (σ 133 x2)) 136 Q)))) : XX g true (d + 1) P_X12_image 65 [(2, 88), (9, 0), (0, x2)] [] 136 σ 136 Q := by
  refine E_iload_n 66 dX12_image_65 rfl rfl ?_
  refine E_sipush 69 dX12_image_66 (by decide) rfl ?_
  refine E_icmp_ge 72 90 dX12_image_69 rfl rfl (fun h => ?_) (fun h => ?_)
  · have w := w.1 h
    refine E_aload_n 91 dX12_image_90 rfl (ac_88.bnd) rfl ?_
    refine E_callV (as := []) 94 dX12_image_91 cf_X12_keepsTexts mw_1723 mw_1725 mw_105 ac_88 (by decide) cl_X12 rfl rfl (Nat.le_of_ble_eq_true rfl) (Nat.le_of_ble_eq_true rfl) ⟨Nat.le_refl _, Nat.le_refl _⟩ rfl (w.mono (fun r2 σ1 w => ?_))
    show XX g true (d + 1) P_X12_image 94 [(2, 88), (9, 0), (0, x2)] [] 136 σ1 136 Q
    refine E_iconst 95 dX12_image_94 (by decide) rfl ?_
    exact E_zret dX12_image_95 rfl rfl (Or.inr rfl) w
  · have w := w.2 h
    refine E_aload_n 73 dX12_image_72 rfl (ac_88.bnd) rfl ?_
    refine E_getL 76 dX12_image_73 fl_X12_160 ac_88 rfl (by decide) lay_88_76 rfl ?_
    refine E_iload_n 77 dX12_image_76 rfl rfl ?_
    refine E_aload_n 78 dX12_image_77 rfl (ac_88.bnd) rfl ?_
    refine E_getL 81 dX12_image_78 fl_X12_157 ac_88 rfl (by decide) lay_88_71 rfl ?_
    refine E_iload_n 82 dX12_image_81 rfl rfl ?_
    obtain ⟨c3, w⟩ := w
    refine E_iald 83 dX12_image_82 ac_133 c3 rfl ?_
    refine E_iast 84 dX12_image_83 ac_134 c3 rfl ?_
    refine E_iinc (ls' := [(2, 88), (9, 0), (0, w32 (x2 + 1))]) 87 dX12_image_84 (by decide) rfl rfl rfl ?_
    refine E_goto 65 dX12_image_87 rfl ?_
    with_reducible exact w
theorem B_X12_image_29 {g : PG} {d : Nat} {σ : PS} {Q : Int → PS → Prop} {x1 x2 : Int}  (w : ((400 ≤ x2 → XX g true d P_X12_asides 0 [(2, 88), (0, x1), (9, 0)] [] 136 σ 136 (fun _ σ1 => ((x1 = 0 → XX g true d P_X12_keepsTexts 0 [(2, 88), (9, 0)] [] 136 σ1 136 (fun _ σ3 => Q 1 σ3)) ∧ (x1 ≠ 0 → (XX g true (d + 1) P_X12_image 65 [(2, 88), (9, 0), (0, 0)] [] 136 σ1 136 Q))))) ∧ (x2 < 400 → (0 ≤ x2 ∧ x2 < 400) ∧ (XX g true (d + 1) P_X12_image 29 [(2, 88), (0, x1), (0, w32 (x2 + 1))] [] 136 (su σ 133 x2 (σ 134 x2)) 136 Q)))) : XX g true (d + 1) P_X12_image 29 [(2, 88), (0, x1), (0, x2)] [] 136 σ 136 Q := by
  refine E_iload_n 30 dX12_image_29 rfl rfl ?_
  refine E_sipush 33 dX12_image_30 (by decide) rfl ?_
  refine E_icmp_ge 36 54 dX12_image_33 rfl rfl (fun h => ?_) (fun h => ?_)
  · have w := w.1 h
    refine E_aload_n 55 dX12_image_54 rfl (ac_88.bnd) rfl ?_
    refine E_iload_n 56 dX12_image_55 rfl rfl ?_
    refine E_callV (as := [(0, x1)]) 59 dX12_image_56 cf_X12_asides mw_1702 mw_1704 mw_103 ac_88 (by decide) cl_X12 rfl rfl (Nat.le_of_ble_eq_true rfl) (Nat.le_of_ble_eq_true rfl) ⟨Nat.le_refl _, Nat.le_refl _⟩ rfl (w.mono (fun r2 σ1 w => ?_))
    show XX g true (d + 1) P_X12_image 59 [(2, 88), (0, x1), (0, x2)] [] 136 σ1 136 Q
    refine E_iload_n 60 dX12_image_59 rfl rfl ?_
    refine E_if_eq 63 90 dX12_image_60 rfl rfl (fun h => ?_) (fun h => ?_)
    · have w := w.1 h
      refine E_aload_n 91 dX12_image_90 rfl (ac_88.bnd) rfl ?_
      refine E_callV (as := []) 94 dX12_image_91 cf_X12_keepsTexts mw_1723 mw_1725 mw_105 ac_88 (by decide) cl_X12 rfl rfl (Nat.le_of_ble_eq_true rfl) (Nat.le_of_ble_eq_true rfl) ⟨Nat.le_refl _, Nat.le_refl _⟩ rfl (w.mono (fun r4 σ3 w => ?_))
      show XX g true (d + 1) P_X12_image 94 [(2, 88), (0, x1), (0, x2)] [] 136 σ3 136 Q
      refine E_iconst 95 dX12_image_94 (by decide) rfl ?_
      exact E_zret dX12_image_95 rfl rfl (Or.inr rfl) w
    · have w := w.2 h
      refine E_iconst 64 dX12_image_63 (by decide) rfl ?_
      refine E_istore_n (ls' := [(2, 88), (0, x1), (0, 0)]) 65 dX12_image_64 (by decide) rfl rfl ?_
      refine XX.fg [1] [(2, 88), (9, 0), (0, 0)] rfl ?_
      with_reducible exact w
  · have w := w.2 h
    refine E_aload_n 37 dX12_image_36 rfl (ac_88.bnd) rfl ?_
    refine E_getL 40 dX12_image_37 fl_X12_157 ac_88 rfl (by decide) lay_88_71 rfl ?_
    refine E_iload_n 41 dX12_image_40 rfl rfl ?_
    refine E_aload_n 42 dX12_image_41 rfl (ac_88.bnd) rfl ?_
    refine E_getL 45 dX12_image_42 fl_X12_160 ac_88 rfl (by decide) lay_88_76 rfl ?_
    refine E_iload_n 46 dX12_image_45 rfl rfl ?_
    obtain ⟨c5, w⟩ := w
    refine E_iald 47 dX12_image_46 ac_134 c5 rfl ?_
    refine E_iast 48 dX12_image_47 ac_133 c5 rfl ?_
    refine E_iinc (ls' := [(2, 88), (0, x1), (0, w32 (x2 + 1))]) 51 dX12_image_48 (by decide) rfl rfl rfl ?_
    refine E_goto 29 dX12_image_51 rfl ?_
    with_reducible exact w
theorem B_X12_look_0 {g : PG} {d : Nat} {σ : PS} {Q : Int → PS → Prop} {x1 : Int}  (w : ((x1 ≠ 0 → ((x1 ≠ 1 → ((x1 ≠ 2 → ((x1 ≠ 3 → ((x1 ≠ 4 → ((x1 ≠ 6 → ((x1 ≠ 7 → ((x1 ≠ 8 → XX g true d P_X12_isIn 0 [(2, 88), (0, x1), (0, 9), (0, 16)] [] 136 (su σ 88 0 0) 136 (fun r2 σ1 => ((r2 = 0 → ((x1 = 5 → (XX g true (d + 1) P_X12_look 128 [(2, 88), (9, 0), (0, 0), (0, 0)] [] 136 σ1 136 Q)) ∧ (x1 ≠ 5 → Q (-1) σ1))) ∧ (r2 ≠ 0 → (0 ≤ w32 (x1 - 9) ∧ w32 (x1 - 9) < 8) ∧ Q (σ1 97 (w32 (x1 - 9))) σ1)))) ∧ (x1 = 8 → Q (σ 88 17) (su σ 88 0 0)))) ∧ (x1 = 7 → Q (σ 88 16) (su σ 88 0 0)))) ∧ (x1 = 6 → XX g true d P_X12_failsNow 0 [(2, 88), (9, 0)] [] 136 (su σ 88 0 0) 136 (fun r5 σ4 => ((r5 = 0 → Q 0 σ4) ∧ (r5 ≠ 0 → Q 1 σ4)))))) ∧ (x1 = 4 → Q (σ 88 15) (su σ 88 0 0)))) ∧ (x1 = 3 → Q (σ 88 14) (su σ 88 0 0)))) ∧ (x1 = 2 → Q (σ 88 13) (su σ 88 0 0)))) ∧ (x1 = 1 → Q (σ 88 12) (su σ 88 0 0)))) ∧ (x1 = 0 → Q (σ 88 2) (su σ 88 0 0)))) : XX g true (d + 1) P_X12_look 0 [(2, 88), (0, x1), (9, 0), (9, 0)] [] 136 σ 136 Q := by
  refine E_aload_n 1 dX12_look_0 rfl (ac_88.bnd) rfl ?_
  refine E_iconst 2 dX12_look_1 (by decide) rfl ?_
  refine E_putI 0 5 dX12_look_2 fl_X12_166 ac_88 rfl (by decide) (Or.inl rfl) rfl rfl ?_
  refine E_iload_n 6 dX12_look_5 rfl rfl ?_
  refine E_if_ne 9 14 dX12_look_6 rfl rfl (fun h => ?_) (fun h => ?_)
  · have w := w.1 h
    refine E_iload_n 15 dX12_look_14 rfl rfl ?_
    refine E_iconst 16 dX12_look_15 (by decide) rfl ?_
    refine E_icmp_ne 19 24 dX12_look_16 rfl rfl (fun h => ?_) (fun h => ?_)
    · have w := w.1 h
      refine E_iload_n 25 dX12_look_24 rfl rfl ?_
      refine E_iconst 26 dX12_look_25 (by decide) rfl ?_
      refine E_icmp_ne 29 34 dX12_look_26 rfl rfl (fun h => ?_) (fun h => ?_)
      · have w := w.1 h
        refine E_iload_n 35 dX12_look_34 rfl rfl ?_
        refine E_iconst 36 dX12_look_35 (by decide) rfl ?_
        refine E_icmp_ne 39 44 dX12_look_36 rfl rfl (fun h => ?_) (fun h => ?_)
        · have w := w.1 h
          refine E_iload_n 45 dX12_look_44 rfl rfl ?_
          refine E_iconst 46 dX12_look_45 (by decide) rfl ?_
          refine E_icmp_ne 49 54 dX12_look_46 rfl rfl (fun h => ?_) (fun h => ?_)
          · have w := w.1 h
            refine E_iload_n 55 dX12_look_54 rfl rfl ?_
            refine E_bipush 57 dX12_look_55 (by decide) rfl ?_
            refine E_icmp_ne 60 73 dX12_look_57 rfl rfl (fun h => ?_) (fun h => ?_)
            · have w := w.1 h
              refine E_iload_n 74 dX12_look_73 rfl rfl ?_
              refine E_bipush 76 dX12_look_74 (by decide) rfl ?_
              refine E_icmp_ne 79 84 dX12_look_76 rfl rfl (fun h => ?_) (fun h => ?_)
              · have w := w.1 h
                refine E_iload_n 85 dX12_look_84 rfl rfl ?_
                refine E_bipush 87 dX12_look_85 (by decide) rfl ?_
                refine E_icmp_ne 90 95 dX12_look_87 rfl rfl (fun h => ?_) (fun h => ?_)
                · have w := w.1 h
                  refine E_aload_n 96 dX12_look_95 rfl (ac_88.bnd) rfl ?_
                  refine E_iload_n 97 dX12_look_96 rfl rfl ?_
                  refine E_bipush 99 dX12_look_97 (by decide) rfl ?_
                  refine E_bipush 101 dX12_look_99 (by decide) rfl ?_
                  refine E_callV (as := [(0, x1), (0, 9), (0, 16)]) 104 dX12_look_101 cf_X12_isIn mw_1363 mw_1365 mw_39 ac_88 (by decide) cl_X12 rfl rfl (Nat.le_of_ble_eq_true rfl) (Nat.le_of_ble_eq_true rfl) ⟨Nat.le_refl _, Nat.le_refl _⟩ rfl (w.mono (fun r2 σ1 w => ?_))
                  show XX g true (d + 1) P_X12_look 104 [(2, 88), (0, x1), (9, 0), (9, 0)] [(0, r2)] 136 σ1 136 Q
                  refine E_if_eq 107 117 dX12_look_104 rfl rfl (fun h => ?_) (fun h => ?_)
                  · have w := w.1 h
                    refine E_iload_n 118 dX12_look_117 rfl rfl ?_
                    refine E_iconst 119 dX12_look_118 (by decide) rfl ?_
                    refine E_icmp_eq 122 124 dX12_look_119 rfl rfl (fun h => ?_) (fun h => ?_)
                    · have w := w.1 h
                      refine E_iconst 125 dX12_look_124 (by decide) rfl ?_
                      refine E_istore_n (ls' := [(2, 88), (0, x1), (0, 0), (9, 0)]) 126 dX12_look_125 (by decide) rfl rfl ?_
                      refine E_iconst 127 dX12_look_126 (by decide) rfl ?_
                      refine E_istore_n (ls' := [(2, 88), (0, x1), (0, 0), (0, 0)]) 128 dX12_look_127 (by decide) rfl rfl ?_
                      refine XX.fg [1] [(2, 88), (9, 0), (0, 0), (0, 0)] rfl ?_
                      with_reducible exact w
                    · have w := w.2 h
                      refine E_iconst 123 dX12_look_122 (by decide) rfl ?_
                      exact E_iret dX12_look_123 rfl rfl w
                  · have w := w.2 h
                    refine E_aload_n 108 dX12_look_107 rfl (ac_88.bnd) rfl ?_
                    refine E_getL 111 dX12_look_108 fl_X12_38 ac_88 rfl (by decide) lay_88_11 rfl ?_
                    refine E_iload_n 112 dX12_look_111 rfl rfl ?_
                    refine E_bipush 114 dX12_look_112 (by decide) rfl ?_
                    refine E_isub 115 dX12_look_114 rfl ?_
                    obtain ⟨c3, w⟩ := w
                    refine E_iald 116 dX12_look_115 ac_97 c3 rfl ?_
                    exact E_iret dX12_look_116 rfl rfl w
                · have w := w.2 h
                  refine E_aload_n 91 dX12_look_90 rfl (ac_88.bnd) rfl ?_
                  refine E_get 17 94 dX12_look_91 fl_X12_41 ac_88 rfl (by decide) rfl rfl ?_
                  refine E_conv (su_ne (Or.inr (by decide))) ?_
                  exact E_iret dX12_look_94 rfl rfl w
              · have w := w.2 h
                refine E_aload_n 80 dX12_look_79 rfl (ac_88.bnd) rfl ?_
                refine E_get 16 83 dX12_look_80 fl_X12_178 ac_88 rfl (by decide) rfl rfl ?_
                refine E_conv (su_ne (Or.inr (by decide))) ?_
                exact E_iret dX12_look_83 rfl rfl w
            · have w := w.2 h
              refine E_aload_n 61 dX12_look_60 rfl (ac_88.bnd) rfl ?_
              refine E_callV (as := []) 64 dX12_look_61 cf_X12_failsNow mw_1582 mw_1584 mw_84 ac_88 (by decide) cl_X12 rfl rfl (Nat.le_of_ble_eq_true rfl) (Nat.le_of_ble_eq_true rfl) ⟨Nat.le_refl _, Nat.le_refl _⟩ rfl (w.mono (fun r5 σ4 w => ?_))
              show XX g true (d + 1) P_X12_look 64 [(2, 88), (0, x1), (9, 0), (9, 0)] [(0, r5)] 136 σ4 136 Q
              refine E_if_eq 67 71 dX12_look_64 rfl rfl (fun h => ?_) (fun h => ?_)
              · have w := w.1 h
                refine E_iconst 72 dX12_look_71 (by decide) rfl ?_
                exact E_iret dX12_look_72 rfl rfl w
              · have w := w.2 h
                refine E_iconst 68 dX12_look_67 (by decide) rfl ?_
                refine E_goto 72 dX12_look_68 rfl ?_
                exact E_iret dX12_look_72 rfl rfl w
          · have w := w.2 h
            refine E_aload_n 50 dX12_look_49 rfl (ac_88.bnd) rfl ?_
            refine E_get 15 53 dX12_look_50 fl_X12_361 ac_88 rfl (by decide) rfl rfl ?_
            refine E_conv (su_ne (Or.inr (by decide))) ?_
            exact E_iret dX12_look_53 rfl rfl w
        · have w := w.2 h
          refine E_aload_n 40 dX12_look_39 rfl (ac_88.bnd) rfl ?_
          refine E_get 14 43 dX12_look_40 fl_X12_358 ac_88 rfl (by decide) rfl rfl ?_
          refine E_conv (su_ne (Or.inr (by decide))) ?_
          exact E_iret dX12_look_43 rfl rfl w
      · have w := w.2 h
        refine E_aload_n 30 dX12_look_29 rfl (ac_88.bnd) rfl ?_
        refine E_get 13 33 dX12_look_30 fl_X12_382 ac_88 rfl (by decide) rfl rfl ?_
        refine E_conv (su_ne (Or.inr (by decide))) ?_
        exact E_iret dX12_look_33 rfl rfl w
    · have w := w.2 h
      refine E_aload_n 20 dX12_look_19 rfl (ac_88.bnd) rfl ?_
      refine E_get 12 23 dX12_look_20 fl_X12_334 ac_88 rfl (by decide) rfl rfl ?_
      refine E_conv (su_ne (Or.inr (by decide))) ?_
      exact E_iret dX12_look_23 rfl rfl w
  · have w := w.2 h
    refine E_aload_n 10 dX12_look_9 rfl (ac_88.bnd) rfl ?_
    refine E_get 2 13 dX12_look_10 fl_X12_7 ac_88 rfl (by decide) rfl rfl ?_
    refine E_conv (su_ne (Or.inr (by decide))) ?_
    exact E_iret dX12_look_13 rfl rfl w
theorem B_X12_look_128 {g : PG} {d : Nat} {σ : PS} {Q : Int → PS → Prop} {x2 x3 : Int}  (w : ((σ 88 2 ≤ x3 → Q x2 σ) ∧ (x3 < σ 88 2 → (0 ≤ x3 ∧ x3 < 60) ∧ ∀ y2, y2 = w32 (x2 + (σ 91 x3)) → (XX g true (d + 1) P_X12_look 128 [(2, 88), (9, 0), (0, y2), (0, w32 (x3 + 1))] [] 136 σ 136 Q)))) : XX g true (d + 1) P_X12_look 128 [(2, 88), (9, 0), (0, x2), (0, x3)] [] 136 σ 136 Q := by
  refine E_iload_n 129 dX12_look_128 rfl rfl ?_
  refine E_aload_n 130 dX12_look_129 rfl (ac_88.bnd) rfl ?_
  refine E_get 2 133 dX12_look_130 fl_X12_7 ac_88 rfl (by decide) rfl rfl ?_
  refine E_icmp_ge 136 151 dX12_look_133 rfl rfl (fun h => ?_) (fun h => ?_)
  · have w := w.1 h
    refine E_iload_n 152 dX12_look_151 rfl rfl ?_
    exact E_iret dX12_look_152 rfl rfl w
  · have w := w.2 h
    refine E_iload_n 137 dX12_look_136 rfl rfl ?_
    refine E_aload_n 138 dX12_look_137 rfl (ac_88.bnd) rfl ?_
    refine E_getL 141 dX12_look_138 fl_X12_20 ac_88 rfl (by decide) lay_88_5 rfl ?_
    refine E_iload_n 142 dX12_look_141 rfl rfl ?_
    obtain ⟨c1, w⟩ := w
    refine E_iald 143 dX12_look_142 ac_91 c1 rfl ?_
    refine E_iadd 144 dX12_look_143 rfl ?_
    refine E_top (fun y2 hy2 => ?_)
    have w := w y2 hy2
    refine E_istore_n (ls' := [(2, 88), (9, 0), (0, y2), (0, x3)]) 145 dX12_look_144 (by decide) rfl rfl ?_
    refine E_iinc (ls' := [(2, 88), (9, 0), (0, y2), (0, w32 (x3 + 1))]) 148 dX12_look_145 (by decide) rfl rfl rfl ?_
    refine E_goto 128 dX12_look_148 rfl ?_
    with_reducible exact w
