/-! ROW.COPY between its places, printed by a program of ours -/
theorem cp_ne {σ : PS} {a0 sp a dp n a1 j : Int} (h : a1 ≠ a) : cpS σ a0 sp a dp n a1 j = σ a1 j := by unfold cpS; rw [if_neg (fun z => h z.1)]
theorem B59_43_copy {g : PG} {d : Nat} {σ : PS} {Q : Int → PS → Prop}  (w : ((0 : Int) ≤ 0 ∧ (0 : Int) ≤ 60 ∧ (0 : Int) + 60 ≤ 60) ∧ ((0 : Int) ≤ 0 ∧ (0 : Int) + 60 ≤ 60) ∧ ((0 : Int) ≤ 0 ∧ (0 : Int) ≤ 6 ∧ (0 : Int) + 6 ≤ 6) ∧ ((0 : Int) ≤ 0 ∧ (0 : Int) + 6 ≤ 6) ∧ ((0 : Int) ≤ 0 ∧ (0 : Int) ≤ 8 ∧ (0 : Int) + 8 ≤ 8) ∧ ((0 : Int) ≤ 0 ∧ (0 : Int) + 8 ≤ 8) ∧ Q 0 (su (su (su (su (su (su (su (cpS (cpS (cpS (su (su (cpS (cpS (cpS (cpS (su σ 59 0 (σ 43 0)) 44 0 60 0 60) 45 0 61 0 60) 46 0 62 0 60) 47 0 63 0 60) 59 5 (σ 43 5)) 59 6 (σ 43 6)) 48 0 64 0 6) 49 0 65 0 6) 50 0 66 0 8) 59 10 (σ 43 10)) 59 11 (σ 43 11)) 59 12 (σ 43 12)) 59 13 (σ 43 13)) 59 14 (σ 43 14)) 59 15 (σ 43 15)) 59 16 (σ 43 16))) : XX g true (d + 1) P_X7_copy 0 [(2, 59), (2, 43)] [] 136 σ 136 Q := by
  refine E_aload_n 1 dX7_copy_0 rfl (ac_59.bnd) rfl ?_
  refine E_aload_n 2 dX7_copy_1 rfl (ac_43.bnd) rfl ?_
  refine E_get 0 5 dX7_copy_2 fl_X7_33 ac_43 rfl (by decide) rfl rfl ?_
  refine E_putI 0 8 dX7_copy_5 fl_X7_33 ac_59 rfl (by decide) (Or.inl rfl) rfl rfl ?_
  refine E_aload_n 9 dX7_copy_8 rfl (ac_43.bnd) rfl ?_
  refine E_getL 12 dX7_copy_9 fl_X7_11 ac_43 rfl (by decide) lay_43_1 rfl ?_
  refine E_iconst 13 dX7_copy_12 (by decide) rfl ?_
  refine E_aload_n 14 dX7_copy_13 rfl (ac_59.bnd) rfl ?_
  refine E_getL 17 dX7_copy_14 fl_X7_11 ac_59 rfl (by decide) lay_59_1 rfl ?_
  refine E_iconst 18 dX7_copy_17 (by decide) rfl ?_
  refine E_bipush 20 dX7_copy_18 (by decide) rfl ?_
  obtain ⟨c1, w⟩ := w
  obtain ⟨c2, w⟩ := w
  refine E_copy 23 dX7_copy_20 mw_1021 mw_789 mw_788 mw_127 ac_44 ac_60 c1 c2 (Nat.le_of_ble_eq_true rfl) rfl ?_
  refine E_aload_n 24 dX7_copy_23 rfl (ac_43.bnd) rfl ?_
  refine E_getL 27 dX7_copy_24 fl_X7_15 ac_43 rfl (by decide) lay_43_2 rfl ?_
  refine E_iconst 28 dX7_copy_27 (by decide) rfl ?_
  refine E_aload_n 29 dX7_copy_28 rfl (ac_59.bnd) rfl ?_
  refine E_getL 32 dX7_copy_29 fl_X7_15 ac_59 rfl (by decide) lay_59_2 rfl ?_
  refine E_iconst 33 dX7_copy_32 (by decide) rfl ?_
  refine E_bipush 35 dX7_copy_33 (by decide) rfl ?_
  refine E_copy 38 dX7_copy_35 mw_1021 mw_789 mw_788 mw_127 ac_45 ac_61 c1 c2 (Nat.le_of_ble_eq_true rfl) rfl ?_
  refine E_aload_n 39 dX7_copy_38 rfl (ac_43.bnd) rfl ?_
  refine E_getL 42 dX7_copy_39 fl_X7_18 ac_43 rfl (by decide) lay_43_3 rfl ?_
  refine E_iconst 43 dX7_copy_42 (by decide) rfl ?_
  refine E_aload_n 44 dX7_copy_43 rfl (ac_59.bnd) rfl ?_
  refine E_getL 47 dX7_copy_44 fl_X7_18 ac_59 rfl (by decide) lay_59_3 rfl ?_
  refine E_iconst 48 dX7_copy_47 (by decide) rfl ?_
  refine E_bipush 50 dX7_copy_48 (by decide) rfl ?_
  refine E_copy 53 dX7_copy_50 mw_1021 mw_789 mw_788 mw_127 ac_46 ac_62 c1 c2 (Nat.le_of_ble_eq_true rfl) rfl ?_
  refine E_aload_n 54 dX7_copy_53 rfl (ac_43.bnd) rfl ?_
  refine E_getL 57 dX7_copy_54 fl_X7_21 ac_43 rfl (by decide) lay_43_4 rfl ?_
  refine E_iconst 58 dX7_copy_57 (by decide) rfl ?_
  refine E_aload_n 59 dX7_copy_58 rfl (ac_59.bnd) rfl ?_
  refine E_getL 62 dX7_copy_59 fl_X7_21 ac_59 rfl (by decide) lay_59_4 rfl ?_
  refine E_iconst 63 dX7_copy_62 (by decide) rfl ?_
  refine E_bipush 65 dX7_copy_63 (by decide) rfl ?_
  refine E_copy 68 dX7_copy_65 mw_1021 mw_789 mw_788 mw_127 ac_47 ac_63 c1 c2 (Nat.le_of_ble_eq_true rfl) rfl ?_
  refine E_aload_n 69 dX7_copy_68 rfl (ac_59.bnd) rfl ?_
  refine E_aload_n 70 dX7_copy_69 rfl (ac_43.bnd) rfl ?_
  refine E_get 5 73 dX7_copy_70 fl_X7_37 ac_43 rfl (by decide) rfl rfl ?_
  refine E_conv ((cp_ne (by decide)).trans ((cp_ne (by decide)).trans ((cp_ne (by decide)).trans ((cp_ne (by decide)).trans (su_ne (Or.inl (by decide))))))) ?_
  refine E_putJ 5 76 dX7_copy_73 fl_X7_37 ac_59 rfl (by decide) (Or.inl rfl) rfl rfl ?_
  refine E_aload_n 77 dX7_copy_76 rfl (ac_59.bnd) rfl ?_
  refine E_aload_n 78 dX7_copy_77 rfl (ac_43.bnd) rfl ?_
  refine E_get 6 81 dX7_copy_78 fl_X7_41 ac_43 rfl (by decide) rfl rfl ?_
  refine E_conv ((su_ne (Or.inl (by decide))).trans ((cp_ne (by decide)).trans ((cp_ne (by decide)).trans ((cp_ne (by decide)).trans ((cp_ne (by decide)).trans (su_ne (Or.inl (by decide)))))))) ?_
  refine E_putJ 6 84 dX7_copy_81 fl_X7_41 ac_59 rfl (by decide) (Or.inl rfl) rfl rfl ?_
  refine E_aload_n 85 dX7_copy_84 rfl (ac_43.bnd) rfl ?_
  refine E_getL 88 dX7_copy_85 fl_X7_24 ac_43 rfl (by decide) lay_43_7 rfl ?_
  refine E_iconst 89 dX7_copy_88 (by decide) rfl ?_
  refine E_aload_n 90 dX7_copy_89 rfl (ac_59.bnd) rfl ?_
  refine E_getL 93 dX7_copy_90 fl_X7_24 ac_59 rfl (by decide) lay_59_7 rfl ?_
  refine E_iconst 94 dX7_copy_93 (by decide) rfl ?_
  refine E_bipush 96 dX7_copy_94 (by decide) rfl ?_
  obtain ⟨c3, w⟩ := w
  obtain ⟨c4, w⟩ := w
  refine E_copy 99 dX7_copy_96 mw_1021 mw_789 mw_788 mw_127 ac_48 ac_64 c3 c4 (Nat.le_of_ble_eq_true rfl) rfl ?_
  refine E_aload_n 100 dX7_copy_99 rfl (ac_43.bnd) rfl ?_
  refine E_getL 103 dX7_copy_100 fl_X7_27 ac_43 rfl (by decide) lay_43_8 rfl ?_
  refine E_iconst 104 dX7_copy_103 (by decide) rfl ?_
  refine E_aload_n 105 dX7_copy_104 rfl (ac_59.bnd) rfl ?_
  refine E_getL 108 dX7_copy_105 fl_X7_27 ac_59 rfl (by decide) lay_59_8 rfl ?_
  refine E_iconst 109 dX7_copy_108 (by decide) rfl ?_
  refine E_bipush 111 dX7_copy_109 (by decide) rfl ?_
  refine E_copy 114 dX7_copy_111 mw_1021 mw_789 mw_788 mw_127 ac_49 ac_65 c3 c4 (Nat.le_of_ble_eq_true rfl) rfl ?_
  refine E_aload_n 115 dX7_copy_114 rfl (ac_43.bnd) rfl ?_
  refine E_getL 118 dX7_copy_115 fl_X7_30 ac_43 rfl (by decide) lay_43_9 rfl ?_
  refine E_iconst 119 dX7_copy_118 (by decide) rfl ?_
  refine E_aload_n 120 dX7_copy_119 rfl (ac_59.bnd) rfl ?_
  refine E_getL 123 dX7_copy_120 fl_X7_30 ac_59 rfl (by decide) lay_59_9 rfl ?_
  refine E_iconst 124 dX7_copy_123 (by decide) rfl ?_
  refine E_aload_n 125 dX7_copy_124 rfl (ac_59.bnd) rfl ?_
  refine E_getL 128 dX7_copy_125 fl_X7_30 ac_59 rfl (by decide) lay_59_9 rfl ?_
  refine E_alen 8 129 dX7_copy_128 ac_66 (by decide) (by decide) rfl rfl ?_
  obtain ⟨c5, w⟩ := w
  obtain ⟨c6, w⟩ := w
  refine E_copy 132 dX7_copy_129 mw_1021 mw_789 mw_788 mw_127 ac_50 ac_66 c5 c6 (Nat.le_of_ble_eq_true rfl) rfl ?_
  refine E_aload_n 133 dX7_copy_132 rfl (ac_59.bnd) rfl ?_
  refine E_aload_n 134 dX7_copy_133 rfl (ac_43.bnd) rfl ?_
  refine E_get 10 137 dX7_copy_134 fl_X7_62 ac_43 rfl (by decide) rfl rfl ?_
  refine E_conv ((cp_ne (by decide)).trans ((cp_ne (by decide)).trans ((cp_ne (by decide)).trans ((su_ne (Or.inl (by decide))).trans ((su_ne (Or.inl (by decide))).trans ((cp_ne (by decide)).trans ((cp_ne (by decide)).trans ((cp_ne (by decide)).trans ((cp_ne (by decide)).trans (su_ne (Or.inl (by decide)))))))))))) ?_
  refine E_putI 10 140 dX7_copy_137 fl_X7_62 ac_59 rfl (by decide) (Or.inl rfl) rfl rfl ?_
  refine E_aload_n 141 dX7_copy_140 rfl (ac_59.bnd) rfl ?_
  refine E_aload_n 142 dX7_copy_141 rfl (ac_43.bnd) rfl ?_
  refine E_get 11 145 dX7_copy_142 fl_X7_56 ac_43 rfl (by decide) rfl rfl ?_
  refine E_conv ((su_ne (Or.inl (by decide))).trans ((cp_ne (by decide)).trans ((cp_ne (by decide)).trans ((cp_ne (by decide)).trans ((su_ne (Or.inl (by decide))).trans ((su_ne (Or.inl (by decide))).trans ((cp_ne (by decide)).trans ((cp_ne (by decide)).trans ((cp_ne (by decide)).trans ((cp_ne (by decide)).trans (su_ne (Or.inl (by decide))))))))))))) ?_
  refine E_putI 11 148 dX7_copy_145 fl_X7_56 ac_59 rfl (by decide) (Or.inl rfl) rfl rfl ?_
  refine E_aload_n 149 dX7_copy_148 rfl (ac_59.bnd) rfl ?_
  refine E_aload_n 150 dX7_copy_149 rfl (ac_43.bnd) rfl ?_
  refine E_get 12 153 dX7_copy_150 fl_X7_72 ac_43 rfl (by decide) rfl rfl ?_
  refine E_conv ((su_ne (Or.inl (by decide))).trans ((su_ne (Or.inl (by decide))).trans ((cp_ne (by decide)).trans ((cp_ne (by decide)).trans ((cp_ne (by decide)).trans ((su_ne (Or.inl (by decide))).trans ((su_ne (Or.inl (by decide))).trans ((cp_ne (by decide)).trans ((cp_ne (by decide)).trans ((cp_ne (by decide)).trans ((cp_ne (by decide)).trans (su_ne (Or.inl (by decide)))))))))))))) ?_
  refine E_putI 12 156 dX7_copy_153 fl_X7_72 ac_59 rfl (by decide) (Or.inl rfl) rfl rfl ?_
  refine E_aload_n 157 dX7_copy_156 rfl (ac_59.bnd) rfl ?_
  refine E_aload_n 158 dX7_copy_157 rfl (ac_43.bnd) rfl ?_
  refine E_get 13 161 dX7_copy_158 fl_X7_75 ac_43 rfl (by decide) rfl rfl ?_
  refine E_conv ((su_ne (Or.inl (by decide))).trans ((su_ne (Or.inl (by decide))).trans ((su_ne (Or.inl (by decide))).trans ((cp_ne (by decide)).trans ((cp_ne (by decide)).trans ((cp_ne (by decide)).trans ((su_ne (Or.inl (by decide))).trans ((su_ne (Or.inl (by decide))).trans ((cp_ne (by decide)).trans ((cp_ne (by decide)).trans ((cp_ne (by decide)).trans ((cp_ne (by decide)).trans (su_ne (Or.inl (by decide))))))))))))))) ?_
  refine E_putI 13 164 dX7_copy_161 fl_X7_75 ac_59 rfl (by decide) (Or.inl rfl) rfl rfl ?_
  refine E_aload_n 165 dX7_copy_164 rfl (ac_59.bnd) rfl ?_
  refine E_aload_n 166 dX7_copy_165 rfl (ac_43.bnd) rfl ?_
  refine E_get 14 169 dX7_copy_166 fl_X7_78 ac_43 rfl (by decide) rfl rfl ?_
  refine E_conv ((su_ne (Or.inl (by decide))).trans ((su_ne (Or.inl (by decide))).trans ((su_ne (Or.inl (by decide))).trans ((su_ne (Or.inl (by decide))).trans ((cp_ne (by decide)).trans ((cp_ne (by decide)).trans ((cp_ne (by decide)).trans ((su_ne (Or.inl (by decide))).trans ((su_ne (Or.inl (by decide))).trans ((cp_ne (by decide)).trans ((cp_ne (by decide)).trans ((cp_ne (by decide)).trans ((cp_ne (by decide)).trans (su_ne (Or.inl (by decide)))))))))))))))) ?_
  refine E_putI 14 172 dX7_copy_169 fl_X7_78 ac_59 rfl (by decide) (Or.inl rfl) rfl rfl ?_
  refine E_aload_n 173 dX7_copy_172 rfl (ac_59.bnd) rfl ?_
  refine E_aload_n 174 dX7_copy_173 rfl (ac_43.bnd) rfl ?_
  refine E_get 15 177 dX7_copy_174 fl_X7_44 ac_43 rfl (by decide) rfl rfl ?_
  refine E_conv ((su_ne (Or.inl (by decide))).trans ((su_ne (Or.inl (by decide))).trans ((su_ne (Or.inl (by decide))).trans ((su_ne (Or.inl (by decide))).trans ((su_ne (Or.inl (by decide))).trans ((cp_ne (by decide)).trans ((cp_ne (by decide)).trans ((cp_ne (by decide)).trans ((su_ne (Or.inl (by decide))).trans ((su_ne (Or.inl (by decide))).trans ((cp_ne (by decide)).trans ((cp_ne (by decide)).trans ((cp_ne (by decide)).trans ((cp_ne (by decide)).trans (su_ne (Or.inl (by decide))))))))))))))))) ?_
  refine E_putI 15 180 dX7_copy_177 fl_X7_44 ac_59 rfl (by decide) (Or.inl rfl) rfl rfl ?_
  refine E_aload_n 181 dX7_copy_180 rfl (ac_59.bnd) rfl ?_
  refine E_aload_n 182 dX7_copy_181 rfl (ac_43.bnd) rfl ?_
  refine E_get 16 185 dX7_copy_182 fl_X7_47 ac_43 rfl (by decide) rfl rfl ?_
  refine E_conv ((su_ne (Or.inl (by decide))).trans ((su_ne (Or.inl (by decide))).trans ((su_ne (Or.inl (by decide))).trans ((su_ne (Or.inl (by decide))).trans ((su_ne (Or.inl (by decide))).trans ((su_ne (Or.inl (by decide))).trans ((cp_ne (by decide)).trans ((cp_ne (by decide)).trans ((cp_ne (by decide)).trans ((su_ne (Or.inl (by decide))).trans ((su_ne (Or.inl (by decide))).trans ((cp_ne (by decide)).trans ((cp_ne (by decide)).trans ((cp_ne (by decide)).trans ((cp_ne (by decide)).trans (su_ne (Or.inl (by decide)))))))))))))))))) ?_
  refine E_putI 16 188 dX7_copy_185 fl_X7_47 ac_59 rfl (by decide) (Or.inl rfl) rfl rfl ?_
  exact E_vret dX7_copy_188 rfl rfl w
theorem B51_43_copy {g : PG} {d : Nat} {σ : PS} {Q : Int → PS → Prop}  (w : ((0 : Int) ≤ 0 ∧ (0 : Int) ≤ 60 ∧ (0 : Int) + 60 ≤ 60) ∧ ((0 : Int) ≤ 0 ∧ (0 : Int) + 60 ≤ 60) ∧ ((0 : Int) ≤ 0 ∧ (0 : Int) ≤ 6 ∧ (0 : Int) + 6 ≤ 6) ∧ ((0 : Int) ≤ 0 ∧ (0 : Int) + 6 ≤ 6) ∧ ((0 : Int) ≤ 0 ∧ (0 : Int) ≤ 8 ∧ (0 : Int) + 8 ≤ 8) ∧ ((0 : Int) ≤ 0 ∧ (0 : Int) + 8 ≤ 8) ∧ Q 0 (su (su (su (su (su (su (su (cpS (cpS (cpS (su (su (cpS (cpS (cpS (cpS (su σ 51 0 (σ 43 0)) 44 0 52 0 60) 45 0 53 0 60) 46 0 54 0 60) 47 0 55 0 60) 51 5 (σ 43 5)) 51 6 (σ 43 6)) 48 0 56 0 6) 49 0 57 0 6) 50 0 58 0 8) 51 10 (σ 43 10)) 51 11 (σ 43 11)) 51 12 (σ 43 12)) 51 13 (σ 43 13)) 51 14 (σ 43 14)) 51 15 (σ 43 15)) 51 16 (σ 43 16))) : XX g true (d + 1) P_X7_copy 0 [(2, 51), (2, 43)] [] 136 σ 136 Q := by
  refine E_aload_n 1 dX7_copy_0 rfl (ac_51.bnd) rfl ?_
  refine E_aload_n 2 dX7_copy_1 rfl (ac_43.bnd) rfl ?_
  refine E_get 0 5 dX7_copy_2 fl_X7_33 ac_43 rfl (by decide) rfl rfl ?_
  refine E_putI 0 8 dX7_copy_5 fl_X7_33 ac_51 rfl (by decide) (Or.inl rfl) rfl rfl ?_
  refine E_aload_n 9 dX7_copy_8 rfl (ac_43.bnd) rfl ?_
  refine E_getL 12 dX7_copy_9 fl_X7_11 ac_43 rfl (by decide) lay_43_1 rfl ?_
  refine E_iconst 13 dX7_copy_12 (by decide) rfl ?_
  refine E_aload_n 14 dX7_copy_13 rfl (ac_51.bnd) rfl ?_
  refine E_getL 17 dX7_copy_14 fl_X7_11 ac_51 rfl (by decide) lay_51_1 rfl ?_
  refine E_iconst 18 dX7_copy_17 (by decide) rfl ?_
  refine E_bipush 20 dX7_copy_18 (by decide) rfl ?_
  obtain ⟨c1, w⟩ := w
  obtain ⟨c2, w⟩ := w
  refine E_copy 23 dX7_copy_20 mw_1021 mw_789 mw_788 mw_127 ac_44 ac_52 c1 c2 (Nat.le_of_ble_eq_true rfl) rfl ?_
  refine E_aload_n 24 dX7_copy_23 rfl (ac_43.bnd) rfl ?_
  refine E_getL 27 dX7_copy_24 fl_X7_15 ac_43 rfl (by decide) lay_43_2 rfl ?_
  refine E_iconst 28 dX7_copy_27 (by decide) rfl ?_
  refine E_aload_n 29 dX7_copy_28 rfl (ac_51.bnd) rfl ?_
  refine E_getL 32 dX7_copy_29 fl_X7_15 ac_51 rfl (by decide) lay_51_2 rfl ?_
  refine E_iconst 33 dX7_copy_32 (by decide) rfl ?_
  refine E_bipush 35 dX7_copy_33 (by decide) rfl ?_
  refine E_copy 38 dX7_copy_35 mw_1021 mw_789 mw_788 mw_127 ac_45 ac_53 c1 c2 (Nat.le_of_ble_eq_true rfl) rfl ?_
  refine E_aload_n 39 dX7_copy_38 rfl (ac_43.bnd) rfl ?_
  refine E_getL 42 dX7_copy_39 fl_X7_18 ac_43 rfl (by decide) lay_43_3 rfl ?_
  refine E_iconst 43 dX7_copy_42 (by decide) rfl ?_
  refine E_aload_n 44 dX7_copy_43 rfl (ac_51.bnd) rfl ?_
  refine E_getL 47 dX7_copy_44 fl_X7_18 ac_51 rfl (by decide) lay_51_3 rfl ?_
  refine E_iconst 48 dX7_copy_47 (by decide) rfl ?_
  refine E_bipush 50 dX7_copy_48 (by decide) rfl ?_
  refine E_copy 53 dX7_copy_50 mw_1021 mw_789 mw_788 mw_127 ac_46 ac_54 c1 c2 (Nat.le_of_ble_eq_true rfl) rfl ?_
  refine E_aload_n 54 dX7_copy_53 rfl (ac_43.bnd) rfl ?_
  refine E_getL 57 dX7_copy_54 fl_X7_21 ac_43 rfl (by decide) lay_43_4 rfl ?_
  refine E_iconst 58 dX7_copy_57 (by decide) rfl ?_
  refine E_aload_n 59 dX7_copy_58 rfl (ac_51.bnd) rfl ?_
  refine E_getL 62 dX7_copy_59 fl_X7_21 ac_51 rfl (by decide) lay_51_4 rfl ?_
  refine E_iconst 63 dX7_copy_62 (by decide) rfl ?_
  refine E_bipush 65 dX7_copy_63 (by decide) rfl ?_
  refine E_copy 68 dX7_copy_65 mw_1021 mw_789 mw_788 mw_127 ac_47 ac_55 c1 c2 (Nat.le_of_ble_eq_true rfl) rfl ?_
  refine E_aload_n 69 dX7_copy_68 rfl (ac_51.bnd) rfl ?_
  refine E_aload_n 70 dX7_copy_69 rfl (ac_43.bnd) rfl ?_
  refine E_get 5 73 dX7_copy_70 fl_X7_37 ac_43 rfl (by decide) rfl rfl ?_
  refine E_conv ((cp_ne (by decide)).trans ((cp_ne (by decide)).trans ((cp_ne (by decide)).trans ((cp_ne (by decide)).trans (su_ne (Or.inl (by decide))))))) ?_
  refine E_putJ 5 76 dX7_copy_73 fl_X7_37 ac_51 rfl (by decide) (Or.inl rfl) rfl rfl ?_
  refine E_aload_n 77 dX7_copy_76 rfl (ac_51.bnd) rfl ?_
  refine E_aload_n 78 dX7_copy_77 rfl (ac_43.bnd) rfl ?_
  refine E_get 6 81 dX7_copy_78 fl_X7_41 ac_43 rfl (by decide) rfl rfl ?_
  refine E_conv ((su_ne (Or.inl (by decide))).trans ((cp_ne (by decide)).trans ((cp_ne (by decide)).trans ((cp_ne (by decide)).trans ((cp_ne (by decide)).trans (su_ne (Or.inl (by decide)))))))) ?_
  refine E_putJ 6 84 dX7_copy_81 fl_X7_41 ac_51 rfl (by decide) (Or.inl rfl) rfl rfl ?_
  refine E_aload_n 85 dX7_copy_84 rfl (ac_43.bnd) rfl ?_
  refine E_getL 88 dX7_copy_85 fl_X7_24 ac_43 rfl (by decide) lay_43_7 rfl ?_
  refine E_iconst 89 dX7_copy_88 (by decide) rfl ?_
  refine E_aload_n 90 dX7_copy_89 rfl (ac_51.bnd) rfl ?_
  refine E_getL 93 dX7_copy_90 fl_X7_24 ac_51 rfl (by decide) lay_51_7 rfl ?_
  refine E_iconst 94 dX7_copy_93 (by decide) rfl ?_
  refine E_bipush 96 dX7_copy_94 (by decide) rfl ?_
  obtain ⟨c3, w⟩ := w
  obtain ⟨c4, w⟩ := w
  refine E_copy 99 dX7_copy_96 mw_1021 mw_789 mw_788 mw_127 ac_48 ac_56 c3 c4 (Nat.le_of_ble_eq_true rfl) rfl ?_
  refine E_aload_n 100 dX7_copy_99 rfl (ac_43.bnd) rfl ?_
  refine E_getL 103 dX7_copy_100 fl_X7_27 ac_43 rfl (by decide) lay_43_8 rfl ?_
  refine E_iconst 104 dX7_copy_103 (by decide) rfl ?_
  refine E_aload_n 105 dX7_copy_104 rfl (ac_51.bnd) rfl ?_
  refine E_getL 108 dX7_copy_105 fl_X7_27 ac_51 rfl (by decide) lay_51_8 rfl ?_
  refine E_iconst 109 dX7_copy_108 (by decide) rfl ?_
  refine E_bipush 111 dX7_copy_109 (by decide) rfl ?_
  refine E_copy 114 dX7_copy_111 mw_1021 mw_789 mw_788 mw_127 ac_49 ac_57 c3 c4 (Nat.le_of_ble_eq_true rfl) rfl ?_
  refine E_aload_n 115 dX7_copy_114 rfl (ac_43.bnd) rfl ?_
  refine E_getL 118 dX7_copy_115 fl_X7_30 ac_43 rfl (by decide) lay_43_9 rfl ?_
  refine E_iconst 119 dX7_copy_118 (by decide) rfl ?_
  refine E_aload_n 120 dX7_copy_119 rfl (ac_51.bnd) rfl ?_
  refine E_getL 123 dX7_copy_120 fl_X7_30 ac_51 rfl (by decide) lay_51_9 rfl ?_
  refine E_iconst 124 dX7_copy_123 (by decide) rfl ?_
  refine E_aload_n 125 dX7_copy_124 rfl (ac_51.bnd) rfl ?_
  refine E_getL 128 dX7_copy_125 fl_X7_30 ac_51 rfl (by decide) lay_51_9 rfl ?_
  refine E_alen 8 129 dX7_copy_128 ac_58 (by decide) (by decide) rfl rfl ?_
  obtain ⟨c5, w⟩ := w
  obtain ⟨c6, w⟩ := w
  refine E_copy 132 dX7_copy_129 mw_1021 mw_789 mw_788 mw_127 ac_50 ac_58 c5 c6 (Nat.le_of_ble_eq_true rfl) rfl ?_
  refine E_aload_n 133 dX7_copy_132 rfl (ac_51.bnd) rfl ?_
  refine E_aload_n 134 dX7_copy_133 rfl (ac_43.bnd) rfl ?_
  refine E_get 10 137 dX7_copy_134 fl_X7_62 ac_43 rfl (by decide) rfl rfl ?_
  refine E_conv ((cp_ne (by decide)).trans ((cp_ne (by decide)).trans ((cp_ne (by decide)).trans ((su_ne (Or.inl (by decide))).trans ((su_ne (Or.inl (by decide))).trans ((cp_ne (by decide)).trans ((cp_ne (by decide)).trans ((cp_ne (by decide)).trans ((cp_ne (by decide)).trans (su_ne (Or.inl (by decide)))))))))))) ?_
  refine E_putI 10 140 dX7_copy_137 fl_X7_62 ac_51 rfl (by decide) (Or.inl rfl) rfl rfl ?_
  refine E_aload_n 141 dX7_copy_140 rfl (ac_51.bnd) rfl ?_
  refine E_aload_n 142 dX7_copy_141 rfl (ac_43.bnd) rfl ?_
  refine E_get 11 145 dX7_copy_142 fl_X7_56 ac_43 rfl (by decide) rfl rfl ?_
  refine E_conv ((su_ne (Or.inl (by decide))).trans ((cp_ne (by decide)).trans ((cp_ne (by decide)).trans ((cp_ne (by decide)).trans ((su_ne (Or.inl (by decide))).trans ((su_ne (Or.inl (by decide))).trans ((cp_ne (by decide)).trans ((cp_ne (by decide)).trans ((cp_ne (by decide)).trans ((cp_ne (by decide)).trans (su_ne (Or.inl (by decide))))))))))))) ?_
  refine E_putI 11 148 dX7_copy_145 fl_X7_56 ac_51 rfl (by decide) (Or.inl rfl) rfl rfl ?_
  refine E_aload_n 149 dX7_copy_148 rfl (ac_51.bnd) rfl ?_
  refine E_aload_n 150 dX7_copy_149 rfl (ac_43.bnd) rfl ?_
  refine E_get 12 153 dX7_copy_150 fl_X7_72 ac_43 rfl (by decide) rfl rfl ?_
  refine E_conv ((su_ne (Or.inl (by decide))).trans ((su_ne (Or.inl (by decide))).trans ((cp_ne (by decide)).trans ((cp_ne (by decide)).trans ((cp_ne (by decide)).trans ((su_ne (Or.inl (by decide))).trans ((su_ne (Or.inl (by decide))).trans ((cp_ne (by decide)).trans ((cp_ne (by decide)).trans ((cp_ne (by decide)).trans ((cp_ne (by decide)).trans (su_ne (Or.inl (by decide)))))))))))))) ?_
  refine E_putI 12 156 dX7_copy_153 fl_X7_72 ac_51 rfl (by decide) (Or.inl rfl) rfl rfl ?_
  refine E_aload_n 157 dX7_copy_156 rfl (ac_51.bnd) rfl ?_
  refine E_aload_n 158 dX7_copy_157 rfl (ac_43.bnd) rfl ?_
  refine E_get 13 161 dX7_copy_158 fl_X7_75 ac_43 rfl (by decide) rfl rfl ?_
  refine E_conv ((su_ne (Or.inl (by decide))).trans ((su_ne (Or.inl (by decide))).trans ((su_ne (Or.inl (by decide))).trans ((cp_ne (by decide)).trans ((cp_ne (by decide)).trans ((cp_ne (by decide)).trans ((su_ne (Or.inl (by decide))).trans ((su_ne (Or.inl (by decide))).trans ((cp_ne (by decide)).trans ((cp_ne (by decide)).trans ((cp_ne (by decide)).trans ((cp_ne (by decide)).trans (su_ne (Or.inl (by decide))))))))))))))) ?_
  refine E_putI 13 164 dX7_copy_161 fl_X7_75 ac_51 rfl (by decide) (Or.inl rfl) rfl rfl ?_
  refine E_aload_n 165 dX7_copy_164 rfl (ac_51.bnd) rfl ?_
  refine E_aload_n 166 dX7_copy_165 rfl (ac_43.bnd) rfl ?_
  refine E_get 14 169 dX7_copy_166 fl_X7_78 ac_43 rfl (by decide) rfl rfl ?_
  refine E_conv ((su_ne (Or.inl (by decide))).trans ((su_ne (Or.inl (by decide))).trans ((su_ne (Or.inl (by decide))).trans ((su_ne (Or.inl (by decide))).trans ((cp_ne (by decide)).trans ((cp_ne (by decide)).trans ((cp_ne (by decide)).trans ((su_ne (Or.inl (by decide))).trans ((su_ne (Or.inl (by decide))).trans ((cp_ne (by decide)).trans ((cp_ne (by decide)).trans ((cp_ne (by decide)).trans ((cp_ne (by decide)).trans (su_ne (Or.inl (by decide)))))))))))))))) ?_
  refine E_putI 14 172 dX7_copy_169 fl_X7_78 ac_51 rfl (by decide) (Or.inl rfl) rfl rfl ?_
  refine E_aload_n 173 dX7_copy_172 rfl (ac_51.bnd) rfl ?_
  refine E_aload_n 174 dX7_copy_173 rfl (ac_43.bnd) rfl ?_
  refine E_get 15 177 dX7_copy_174 fl_X7_44 ac_43 rfl (by decide) rfl rfl ?_
  refine E_conv ((su_ne (Or.inl (by decide))).trans ((su_ne (Or.inl (by decide))).trans ((su_ne (Or.inl (by decide))).trans ((su_ne (Or.inl (by decide))).trans ((su_ne (Or.inl (by decide))).trans ((cp_ne (by decide)).trans ((cp_ne (by decide)).trans ((cp_ne (by decide)).trans ((su_ne (Or.inl (by decide))).trans ((su_ne (Or.inl (by decide))).trans ((cp_ne (by decide)).trans ((cp_ne (by decide)).trans ((cp_ne (by decide)).trans ((cp_ne (by decide)).trans (su_ne (Or.inl (by decide))))))))))))))))) ?_
  refine E_putI 15 180 dX7_copy_177 fl_X7_44 ac_51 rfl (by decide) (Or.inl rfl) rfl rfl ?_
  refine E_aload_n 181 dX7_copy_180 rfl (ac_51.bnd) rfl ?_
  refine E_aload_n 182 dX7_copy_181 rfl (ac_43.bnd) rfl ?_
  refine E_get 16 185 dX7_copy_182 fl_X7_47 ac_43 rfl (by decide) rfl rfl ?_
  refine E_conv ((su_ne (Or.inl (by decide))).trans ((su_ne (Or.inl (by decide))).trans ((su_ne (Or.inl (by decide))).trans ((su_ne (Or.inl (by decide))).trans ((su_ne (Or.inl (by decide))).trans ((su_ne (Or.inl (by decide))).trans ((cp_ne (by decide)).trans ((cp_ne (by decide)).trans ((cp_ne (by decide)).trans ((su_ne (Or.inl (by decide))).trans ((su_ne (Or.inl (by decide))).trans ((cp_ne (by decide)).trans ((cp_ne (by decide)).trans ((cp_ne (by decide)).trans ((cp_ne (by decide)).trans (su_ne (Or.inl (by decide)))))))))))))))))) ?_
  refine E_putI 16 188 dX7_copy_185 fl_X7_47 ac_51 rfl (by decide) (Or.inl rfl) rfl rfl ?_
  exact E_vret dX7_copy_188 rfl rfl w
theorem B43_51_copy {g : PG} {d : Nat} {σ : PS} {Q : Int → PS → Prop}  (w : ((0 : Int) ≤ 0 ∧ (0 : Int) ≤ 60 ∧ (0 : Int) + 60 ≤ 60) ∧ ((0 : Int) ≤ 0 ∧ (0 : Int) + 60 ≤ 60) ∧ ((0 : Int) ≤ 0 ∧ (0 : Int) ≤ 6 ∧ (0 : Int) + 6 ≤ 6) ∧ ((0 : Int) ≤ 0 ∧ (0 : Int) + 6 ≤ 6) ∧ ((0 : Int) ≤ 0 ∧ (0 : Int) ≤ 8 ∧ (0 : Int) + 8 ≤ 8) ∧ ((0 : Int) ≤ 0 ∧ (0 : Int) + 8 ≤ 8) ∧ Q 0 (su (su (su (su (su (su (su (cpS (cpS (cpS (su (su (cpS (cpS (cpS (cpS (su σ 43 0 (σ 51 0)) 52 0 44 0 60) 53 0 45 0 60) 54 0 46 0 60) 55 0 47 0 60) 43 5 (σ 51 5)) 43 6 (σ 51 6)) 56 0 48 0 6) 57 0 49 0 6) 58 0 50 0 8) 43 10 (σ 51 10)) 43 11 (σ 51 11)) 43 12 (σ 51 12)) 43 13 (σ 51 13)) 43 14 (σ 51 14)) 43 15 (σ 51 15)) 43 16 (σ 51 16))) : XX g true (d + 1) P_X7_copy 0 [(2, 43), (2, 51)] [] 136 σ 136 Q := by
  refine E_aload_n 1 dX7_copy_0 rfl (ac_43.bnd) rfl ?_
  refine E_aload_n 2 dX7_copy_1 rfl (ac_51.bnd) rfl ?_
  refine E_get 0 5 dX7_copy_2 fl_X7_33 ac_51 rfl (by decide) rfl rfl ?_
  refine E_putI 0 8 dX7_copy_5 fl_X7_33 ac_43 rfl (by decide) (Or.inl rfl) rfl rfl ?_
  refine E_aload_n 9 dX7_copy_8 rfl (ac_51.bnd) rfl ?_
  refine E_getL 12 dX7_copy_9 fl_X7_11 ac_51 rfl (by decide) lay_51_1 rfl ?_
  refine E_iconst 13 dX7_copy_12 (by decide) rfl ?_
  refine E_aload_n 14 dX7_copy_13 rfl (ac_43.bnd) rfl ?_
  refine E_getL 17 dX7_copy_14 fl_X7_11 ac_43 rfl (by decide) lay_43_1 rfl ?_
  refine E_iconst 18 dX7_copy_17 (by decide) rfl ?_
  refine E_bipush 20 dX7_copy_18 (by decide) rfl ?_
  obtain ⟨c1, w⟩ := w
  obtain ⟨c2, w⟩ := w
  refine E_copy 23 dX7_copy_20 mw_1021 mw_789 mw_788 mw_127 ac_52 ac_44 c1 c2 (Nat.le_of_ble_eq_true rfl) rfl ?_
  refine E_aload_n 24 dX7_copy_23 rfl (ac_51.bnd) rfl ?_
  refine E_getL 27 dX7_copy_24 fl_X7_15 ac_51 rfl (by decide) lay_51_2 rfl ?_
  refine E_iconst 28 dX7_copy_27 (by decide) rfl ?_
  refine E_aload_n 29 dX7_copy_28 rfl (ac_43.bnd) rfl ?_
  refine E_getL 32 dX7_copy_29 fl_X7_15 ac_43 rfl (by decide) lay_43_2 rfl ?_
  refine E_iconst 33 dX7_copy_32 (by decide) rfl ?_
  refine E_bipush 35 dX7_copy_33 (by decide) rfl ?_
  refine E_copy 38 dX7_copy_35 mw_1021 mw_789 mw_788 mw_127 ac_53 ac_45 c1 c2 (Nat.le_of_ble_eq_true rfl) rfl ?_
  refine E_aload_n 39 dX7_copy_38 rfl (ac_51.bnd) rfl ?_
  refine E_getL 42 dX7_copy_39 fl_X7_18 ac_51 rfl (by decide) lay_51_3 rfl ?_
  refine E_iconst 43 dX7_copy_42 (by decide) rfl ?_
  refine E_aload_n 44 dX7_copy_43 rfl (ac_43.bnd) rfl ?_
  refine E_getL 47 dX7_copy_44 fl_X7_18 ac_43 rfl (by decide) lay_43_3 rfl ?_
  refine E_iconst 48 dX7_copy_47 (by decide) rfl ?_
  refine E_bipush 50 dX7_copy_48 (by decide) rfl ?_
  refine E_copy 53 dX7_copy_50 mw_1021 mw_789 mw_788 mw_127 ac_54 ac_46 c1 c2 (Nat.le_of_ble_eq_true rfl) rfl ?_
  refine E_aload_n 54 dX7_copy_53 rfl (ac_51.bnd) rfl ?_
  refine E_getL 57 dX7_copy_54 fl_X7_21 ac_51 rfl (by decide) lay_51_4 rfl ?_
  refine E_iconst 58 dX7_copy_57 (by decide) rfl ?_
  refine E_aload_n 59 dX7_copy_58 rfl (ac_43.bnd) rfl ?_
  refine E_getL 62 dX7_copy_59 fl_X7_21 ac_43 rfl (by decide) lay_43_4 rfl ?_
  refine E_iconst 63 dX7_copy_62 (by decide) rfl ?_
  refine E_bipush 65 dX7_copy_63 (by decide) rfl ?_
  refine E_copy 68 dX7_copy_65 mw_1021 mw_789 mw_788 mw_127 ac_55 ac_47 c1 c2 (Nat.le_of_ble_eq_true rfl) rfl ?_
  refine E_aload_n 69 dX7_copy_68 rfl (ac_43.bnd) rfl ?_
  refine E_aload_n 70 dX7_copy_69 rfl (ac_51.bnd) rfl ?_
  refine E_get 5 73 dX7_copy_70 fl_X7_37 ac_51 rfl (by decide) rfl rfl ?_
  refine E_conv ((cp_ne (by decide)).trans ((cp_ne (by decide)).trans ((cp_ne (by decide)).trans ((cp_ne (by decide)).trans (su_ne (Or.inl (by decide))))))) ?_
  refine E_putJ 5 76 dX7_copy_73 fl_X7_37 ac_43 rfl (by decide) (Or.inl rfl) rfl rfl ?_
  refine E_aload_n 77 dX7_copy_76 rfl (ac_43.bnd) rfl ?_
  refine E_aload_n 78 dX7_copy_77 rfl (ac_51.bnd) rfl ?_
  refine E_get 6 81 dX7_copy_78 fl_X7_41 ac_51 rfl (by decide) rfl rfl ?_
  refine E_conv ((su_ne (Or.inl (by decide))).trans ((cp_ne (by decide)).trans ((cp_ne (by decide)).trans ((cp_ne (by decide)).trans ((cp_ne (by decide)).trans (su_ne (Or.inl (by decide)))))))) ?_
  refine E_putJ 6 84 dX7_copy_81 fl_X7_41 ac_43 rfl (by decide) (Or.inl rfl) rfl rfl ?_
  refine E_aload_n 85 dX7_copy_84 rfl (ac_51.bnd) rfl ?_
  refine E_getL 88 dX7_copy_85 fl_X7_24 ac_51 rfl (by decide) lay_51_7 rfl ?_
  refine E_iconst 89 dX7_copy_88 (by decide) rfl ?_
  refine E_aload_n 90 dX7_copy_89 rfl (ac_43.bnd) rfl ?_
  refine E_getL 93 dX7_copy_90 fl_X7_24 ac_43 rfl (by decide) lay_43_7 rfl ?_
  refine E_iconst 94 dX7_copy_93 (by decide) rfl ?_
  refine E_bipush 96 dX7_copy_94 (by decide) rfl ?_
  obtain ⟨c3, w⟩ := w
  obtain ⟨c4, w⟩ := w
  refine E_copy 99 dX7_copy_96 mw_1021 mw_789 mw_788 mw_127 ac_56 ac_48 c3 c4 (Nat.le_of_ble_eq_true rfl) rfl ?_
  refine E_aload_n 100 dX7_copy_99 rfl (ac_51.bnd) rfl ?_
  refine E_getL 103 dX7_copy_100 fl_X7_27 ac_51 rfl (by decide) lay_51_8 rfl ?_
  refine E_iconst 104 dX7_copy_103 (by decide) rfl ?_
  refine E_aload_n 105 dX7_copy_104 rfl (ac_43.bnd) rfl ?_
  refine E_getL 108 dX7_copy_105 fl_X7_27 ac_43 rfl (by decide) lay_43_8 rfl ?_
  refine E_iconst 109 dX7_copy_108 (by decide) rfl ?_
  refine E_bipush 111 dX7_copy_109 (by decide) rfl ?_
  refine E_copy 114 dX7_copy_111 mw_1021 mw_789 mw_788 mw_127 ac_57 ac_49 c3 c4 (Nat.le_of_ble_eq_true rfl) rfl ?_
  refine E_aload_n 115 dX7_copy_114 rfl (ac_51.bnd) rfl ?_
  refine E_getL 118 dX7_copy_115 fl_X7_30 ac_51 rfl (by decide) lay_51_9 rfl ?_
  refine E_iconst 119 dX7_copy_118 (by decide) rfl ?_
  refine E_aload_n 120 dX7_copy_119 rfl (ac_43.bnd) rfl ?_
  refine E_getL 123 dX7_copy_120 fl_X7_30 ac_43 rfl (by decide) lay_43_9 rfl ?_
  refine E_iconst 124 dX7_copy_123 (by decide) rfl ?_
  refine E_aload_n 125 dX7_copy_124 rfl (ac_43.bnd) rfl ?_
  refine E_getL 128 dX7_copy_125 fl_X7_30 ac_43 rfl (by decide) lay_43_9 rfl ?_
  refine E_alen 8 129 dX7_copy_128 ac_50 (by decide) (by decide) rfl rfl ?_
  obtain ⟨c5, w⟩ := w
  obtain ⟨c6, w⟩ := w
  refine E_copy 132 dX7_copy_129 mw_1021 mw_789 mw_788 mw_127 ac_58 ac_50 c5 c6 (Nat.le_of_ble_eq_true rfl) rfl ?_
  refine E_aload_n 133 dX7_copy_132 rfl (ac_43.bnd) rfl ?_
  refine E_aload_n 134 dX7_copy_133 rfl (ac_51.bnd) rfl ?_
  refine E_get 10 137 dX7_copy_134 fl_X7_62 ac_51 rfl (by decide) rfl rfl ?_
  refine E_conv ((cp_ne (by decide)).trans ((cp_ne (by decide)).trans ((cp_ne (by decide)).trans ((su_ne (Or.inl (by decide))).trans ((su_ne (Or.inl (by decide))).trans ((cp_ne (by decide)).trans ((cp_ne (by decide)).trans ((cp_ne (by decide)).trans ((cp_ne (by decide)).trans (su_ne (Or.inl (by decide)))))))))))) ?_
  refine E_putI 10 140 dX7_copy_137 fl_X7_62 ac_43 rfl (by decide) (Or.inl rfl) rfl rfl ?_
  refine E_aload_n 141 dX7_copy_140 rfl (ac_43.bnd) rfl ?_
  refine E_aload_n 142 dX7_copy_141 rfl (ac_51.bnd) rfl ?_
  refine E_get 11 145 dX7_copy_142 fl_X7_56 ac_51 rfl (by decide) rfl rfl ?_
  refine E_conv ((su_ne (Or.inl (by decide))).trans ((cp_ne (by decide)).trans ((cp_ne (by decide)).trans ((cp_ne (by decide)).trans ((su_ne (Or.inl (by decide))).trans ((su_ne (Or.inl (by decide))).trans ((cp_ne (by decide)).trans ((cp_ne (by decide)).trans ((cp_ne (by decide)).trans ((cp_ne (by decide)).trans (su_ne (Or.inl (by decide))))))))))))) ?_
  refine E_putI 11 148 dX7_copy_145 fl_X7_56 ac_43 rfl (by decide) (Or.inl rfl) rfl rfl ?_
  refine E_aload_n 149 dX7_copy_148 rfl (ac_43.bnd) rfl ?_
  refine E_aload_n 150 dX7_copy_149 rfl (ac_51.bnd) rfl ?_
  refine E_get 12 153 dX7_copy_150 fl_X7_72 ac_51 rfl (by decide) rfl rfl ?_
  refine E_conv ((su_ne (Or.inl (by decide))).trans ((su_ne (Or.inl (by decide))).trans ((cp_ne (by decide)).trans ((cp_ne (by decide)).trans ((cp_ne (by decide)).trans ((su_ne (Or.inl (by decide))).trans ((su_ne (Or.inl (by decide))).trans ((cp_ne (by decide)).trans ((cp_ne (by decide)).trans ((cp_ne (by decide)).trans ((cp_ne (by decide)).trans (su_ne (Or.inl (by decide)))))))))))))) ?_
  refine E_putI 12 156 dX7_copy_153 fl_X7_72 ac_43 rfl (by decide) (Or.inl rfl) rfl rfl ?_
  refine E_aload_n 157 dX7_copy_156 rfl (ac_43.bnd) rfl ?_
  refine E_aload_n 158 dX7_copy_157 rfl (ac_51.bnd) rfl ?_
  refine E_get 13 161 dX7_copy_158 fl_X7_75 ac_51 rfl (by decide) rfl rfl ?_
  refine E_conv ((su_ne (Or.inl (by decide))).trans ((su_ne (Or.inl (by decide))).trans ((su_ne (Or.inl (by decide))).trans ((cp_ne (by decide)).trans ((cp_ne (by decide)).trans ((cp_ne (by decide)).trans ((su_ne (Or.inl (by decide))).trans ((su_ne (Or.inl (by decide))).trans ((cp_ne (by decide)).trans ((cp_ne (by decide)).trans ((cp_ne (by decide)).trans ((cp_ne (by decide)).trans (su_ne (Or.inl (by decide))))))))))))))) ?_
  refine E_putI 13 164 dX7_copy_161 fl_X7_75 ac_43 rfl (by decide) (Or.inl rfl) rfl rfl ?_
  refine E_aload_n 165 dX7_copy_164 rfl (ac_43.bnd) rfl ?_
  refine E_aload_n 166 dX7_copy_165 rfl (ac_51.bnd) rfl ?_
  refine E_get 14 169 dX7_copy_166 fl_X7_78 ac_51 rfl (by decide) rfl rfl ?_
  refine E_conv ((su_ne (Or.inl (by decide))).trans ((su_ne (Or.inl (by decide))).trans ((su_ne (Or.inl (by decide))).trans ((su_ne (Or.inl (by decide))).trans ((cp_ne (by decide)).trans ((cp_ne (by decide)).trans ((cp_ne (by decide)).trans ((su_ne (Or.inl (by decide))).trans ((su_ne (Or.inl (by decide))).trans ((cp_ne (by decide)).trans ((cp_ne (by decide)).trans ((cp_ne (by decide)).trans ((cp_ne (by decide)).trans (su_ne (Or.inl (by decide)))))))))))))))) ?_
  refine E_putI 14 172 dX7_copy_169 fl_X7_78 ac_43 rfl (by decide) (Or.inl rfl) rfl rfl ?_
  refine E_aload_n 173 dX7_copy_172 rfl (ac_43.bnd) rfl ?_
  refine E_aload_n 174 dX7_copy_173 rfl (ac_51.bnd) rfl ?_
  refine E_get 15 177 dX7_copy_174 fl_X7_44 ac_51 rfl (by decide) rfl rfl ?_
  refine E_conv ((su_ne (Or.inl (by decide))).trans ((su_ne (Or.inl (by decide))).trans ((su_ne (Or.inl (by decide))).trans ((su_ne (Or.inl (by decide))).trans ((su_ne (Or.inl (by decide))).trans ((cp_ne (by decide)).trans ((cp_ne (by decide)).trans ((cp_ne (by decide)).trans ((su_ne (Or.inl (by decide))).trans ((su_ne (Or.inl (by decide))).trans ((cp_ne (by decide)).trans ((cp_ne (by decide)).trans ((cp_ne (by decide)).trans ((cp_ne (by decide)).trans (su_ne (Or.inl (by decide))))))))))))))))) ?_
  refine E_putI 15 180 dX7_copy_177 fl_X7_44 ac_43 rfl (by decide) (Or.inl rfl) rfl rfl ?_
  refine E_aload_n 181 dX7_copy_180 rfl (ac_43.bnd) rfl ?_
  refine E_aload_n 182 dX7_copy_181 rfl (ac_51.bnd) rfl ?_
  refine E_get 16 185 dX7_copy_182 fl_X7_47 ac_51 rfl (by decide) rfl rfl ?_
  refine E_conv ((su_ne (Or.inl (by decide))).trans ((su_ne (Or.inl (by decide))).trans ((su_ne (Or.inl (by decide))).trans ((su_ne (Or.inl (by decide))).trans ((su_ne (Or.inl (by decide))).trans ((su_ne (Or.inl (by decide))).trans ((cp_ne (by decide)).trans ((cp_ne (by decide)).trans ((cp_ne (by decide)).trans ((su_ne (Or.inl (by decide))).trans ((su_ne (Or.inl (by decide))).trans ((cp_ne (by decide)).trans ((cp_ne (by decide)).trans ((cp_ne (by decide)).trans ((cp_ne (by decide)).trans (su_ne (Or.inl (by decide)))))))))))))))))) ?_
  refine E_putI 16 188 dX7_copy_185 fl_X7_47 ac_43 rfl (by decide) (Or.inl rfl) rfl rfl ?_
  exact E_vret dX7_copy_188 rfl rfl w
